/-! practice. -/
theorem both_ok {p : Nat → Int} (hg : Gp p) {n : Nat} (hn : n ≤ 999) {w m : Ob} (hw : WS p (p 0) (p 1) s0 0 w) (hm : MP p 1000 m) :
    ∃ (e : Bool) (w' m' : Ob), F_X4_standsFor w (nI n) = some ((if e then 1 else 0), w') ∧ F_X6_fallsIn m (nI n) = some ((if e then 0 else 1), m') ∧ ∀ q, q < 14 ∨ 22 ≤ q → m' q = m q := by
  unfold F_X4_standsFor F_X6_fallsIn
  obtain ⟨m2, b1, b2, b3⟩ := begin_ok hm
  rw [b1, bsome, jn_eq, jn_eq]
  obtain ⟨w', m', a1, a2, a3⟩ := stand_ok hg hn (fun (ow2 : Ob) => some (1, ow2)) (fun (om3 : Ob) => (if (om3 18 0) ≤ 0 then some (0, om3) else some (1, om3))) 2000 0 0 w m2 rfl (by omega) (by omega) hw b2 rfl
  rw [a2]
  have fr : ∀ q, q < 14 ∨ 22 ≤ q → m' q = m q := fun q hq => (a1 q hq).trans (b3 q (by omega))
  rcases a3 with ⟨c1, c2⟩ | ⟨k, e, c1, c2, c3, c4, c5, z, c6, c7, c8⟩
  · rw [c1, c2]
    exact ⟨true, w', m', rfl, rfl, fr⟩
  · have hz : ¬ iI z ≤ (0 : Int32) := fun q => absurd ((iI_le (b := 0) (by omega)).mp q) (by omega)
    rw [c1, c6, if_neg hz]
    exact ⟨false, w', m', rfl, rfl, fr⟩
theorem skip_c {α : Type} (x s : Int32) (A B : α) : (if x = -6 then A else if x ≤ s then B else A) = if (¬ x = -6 ∧ x ≤ s) then B else A := by
  by_cases h : x = -6
  · rw [if_pos h, if_neg (fun q => q.1 h)]
  · rw [if_neg h]
    by_cases g : x ≤ s
    · rw [if_pos g, if_pos ⟨h, g⟩]
    · rw [if_neg g, if_neg (fun q => g q.2)]
theorem skip_m {α : Type} (x l s : Int32) (A B : α) : (if x < 0 then A else if l ≤ s then B else A) = if (¬ x < 0 ∧ l ≤ s) then B else A := by
  by_cases h : x < 0
  · rw [if_pos h, if_neg (fun q => q.1 h)]
  · rw [if_neg h]
    by_cases g : l ≤ s
    · rw [if_pos g, if_pos ⟨h, g⟩]
    · rw [if_neg g, if_neg (fun q => g q.2)]
def Rl (x y fd l : Int32) : Prop := (x = -6 ∧ y = -6 ∧ fd = -6) ∨ (∃ a b : Nat, a ≤ 8 ∧ b ≤ 44 ∧ x = nI a ∧ l = nI a ∧ y = nI b ∧ fd = nI b)
theorem n6g {k : Nat} (h : k < 2000) : ¬ nI k = (-6 : Int32) := by
  rw [nI_iI]
  exact fun q => absurd ((iI_eq (b := -6) (by omega)).mp q) (by omega)
theorem n0g {k : Nat} (h : k < 2000) : ¬ nI k < (0 : Int32) := fun q => absurd ((nI_ltI (b := 0) (by omega) (by omega)).mp q) (by omega)
theorem Rl_c {x y fd l : Int32} (h : Rl x y fd l) (s : Int32) : (¬ x = -6 ∧ x ≤ s) ↔ (¬ fd < 0 ∧ l ≤ s) := by
  rcases h with ⟨rfl, rfl, rfl⟩ | ⟨a, b, ha, hb, rfl, rfl, rfl, rfl⟩
  · exact ⟨fun q => absurd rfl q.1, fun q => absurd (show (-6 : Int32) < 0 by decide) q.1⟩
  · exact ⟨fun q => ⟨n0g (by omega), q.2⟩, fun q => ⟨n6g (by omega), q.2⟩⟩
theorem MP_set {p : Nat → Int} {x y : Int} {m : Ob} (h : MP (pG p x y) 1000 m) (a b : Nat) : MP (pG p a b) 1000 (sO (sO m 9 (cst (nI a))) 10 (cst (nI b))) := by
  obtain ⟨m7, m8, m9, m10, m11, m12, m13, m5, m6⟩ := h
  refine ⟨?_, ?_, ?_, ?_, ?_, ?_, ?_, ?_, ?_⟩
  · rw [sO_ne _ _ _ _ (by decide), sO_ne _ _ _ _ (by decide)]; exact m7
  · rw [sO_ne _ _ _ _ (by decide), sO_ne _ _ _ _ (by decide)]; exact m8
  · rw [sO_ne _ _ _ _ (by decide), sO_eq]; exact nI_iI a
  · rw [sO_eq]; exact nI_iI b
  · rw [sO_ne _ _ _ _ (by decide), sO_ne _ _ _ _ (by decide)]; exact m11
  · rw [sO_ne _ _ _ _ (by decide), sO_ne _ _ _ _ (by decide)]; exact m12
  · rw [sO_ne _ _ _ _ (by decide), sO_ne _ _ _ _ (by decide)]; exact m13
  · rw [sO_ne _ _ _ _ (by decide), sO_ne _ _ _ _ (by decide)]; exact m5
  · rw [sO_ne _ _ _ _ (by decide), sO_ne _ _ _ _ (by decide)]; exact m6
theorem eq_practice (oc : Ob) (oy : Ob) (oz : Ob) (ok : (Nat → Int32)) (of : Ob) (ow : Ob) (om : Ob) (p0 p1 p2 p3 : Int32) (hI : Inv oc oy oz ok of om) : ∃ (r : Int32) (ow' : Ob) (om' : Ob), F_X5_practice oc ow p0 p1 p2 p3 = some (r, ow') ∧ F_X6_practice om p0 p1 p2 p3 = some (r, om') ∧ Inv oc oy oz ok of om' := by
  have hC := hI.1
  obtain ⟨mask, hm, hr, hb, ha, hg, -⟩ := id hC
  unfold F_X5_practice F_X6_practice
  rw [in_if p2 0 999 (A := 0) (B := 999) rfl rfl, in_if p3 0 1 (A := 0) (B := 1) rfl rfl]
  rcases two_or hC p0 p1 with ⟨i, j, hi, hj, hij, rfl, rfl, r1, r2, e1, e2⟩ | ⟨e1, e2⟩
  · rw [e1, e2]
    rcases rng p2 0 999 0 999 rfl rfl (by omega) (by omega) with ⟨n, -, hn, rfl, e3⟩ | e3
    · rw [e3]
      rcases rng p3 0 1 0 1 rfl rfl (by omega) (by omega) with ⟨wh, -, hwh, rfl, e4⟩ | e4
      · rw [e4]
        have hG := pij_G hC hi hj r1 r2
        have bi : mask.testBit i = true := by
          have := hb i hi
          rw [r1] at this
          cases h : mask.testBit i with
          | true => rfl
          | false => rw [h] at this; exact absurd this (by decide)
        have bj : mask.testBit j = true := by
          have := hb j hj
          rw [r2] at this
          cases h : mask.testBit j with
          | true => rfl
          | false => rw [h] at this; exact absurd this (by decide)
        obtain ⟨-, -, gi, gi4, gi3⟩ := hg i hi bi
        obtain ⟨-, -, gj, gj4, gj3⟩ := hg j hj bj
        have ci : oc 3 i = nI gi := (ha i hi).2.2.trans gi3
        have cj : oc 3 j = nI gj := (ha j hj).2.2.trans gj3
        obtain ⟨m1, l1, l2, l3⟩ := lay_ok hC hi hj
        have f1 : FrC om m1 := fun q hq => l3 q (by omega)
        have M1 : ∃ x y, MP (pG (pij oc i j) x y) 1000 m1 := ⟨pij oc i j 2, pij oc i j 3, by
          obtain ⟨m7, m8, m9, m10, m11, m12, m13, m5, m6⟩ := l2
          exact ⟨m7, m8, m9, m10, m11, m12, m13, m5, m6⟩⟩
        simp only [bsome, if_neg i10]
        rw [l1]
        simp only [bsome, dd]
        rw [ck_ok (by omega) (by omega), ck_ok (by omega) (by omega), ck_ok (by omega) (by omega), nI_cl (by omega), nI_cl (by omega), ci, cj, nI_add, ck_ok (by omega) (by omega), f1 3 (by omega), gi3]
        rw [jn_eq, jn_eq]
        have inner : ∀ (a : Nat), gi ≤ a → a ≤ 4 → ∀ (f b : Nat) (v u x y fd l : Int32) (w m : Ob) (K K2 : Int32 → Int32 → Ob → Option (Int32 × Ob)), v = nI b → u = nI a → gj ≤ b → b ≤ 5 → 5 - b < f → Rl x y fd l → (∃ x y, MP (pG (pij oc i j) x y) 1000 m) → FrC om m →
            ∃ x' y' fd' l' w' m', L_X5_practice_95 f (nI i) (nI j) (nI n) (nI (gi + gj)) u oc x y v w K = K x' y' w' ∧ L_X6_practice_72 f (nI i) (nI j) (nI n) u fd l v m K2 = K2 fd' l' m' ∧ Rl x' y' fd' l' ∧ (∃ x y, MP (pG (pij oc i j) x y) 1000 m') ∧ FrC om m' := by
          intro a ha1 ha2 f
          induction f with
          | zero => intro b v u x y fd l w m K K2 _ _ _ _ h; exact absurd h (by omega)
          | succ f ih =>
            intro b v u x y fd l w m K K2 hv hu hb1 hb2 hf hR hM hF
            subst hv
            subst hu
            rw [L_X5_practice_95.eq_2, L_X6_practice_72.eq_2]
            by_cases h5 : b = 5
            · subst h5
              rw [if_pos (show (4 : Int32) < nI 5 by decide), if_pos (show (5 : Int32) ≤ nI 5 by decide)]
              exact ⟨x, y, fd, l, w, m, rfl, rfl, hR, hM, hF⟩
            · have h1 : ¬ (4 : Int32) < nI b := fun q => absurd ((nI_ltI (a := 4) (by omega) (by omega)).mp q) (by omega)
              have h2 : ¬ (5 : Int32) ≤ nI b := fun q => absurd ((nI_leI (a := 5) (by omega) (by omega)).mp q) (by omega)
              rw [if_neg h1, if_neg h2]
              simp only [dd]
              have mi : m 3 i = nI gi := by rw [hF 3 (by omega)]; exact gi3
              have mj : m 3 j = nI gj := by rw [hF 3 (by omega)]; exact gj3
              rw [ck_ok (by omega) (by omega), ck_ok (by omega) (by omega), nI_cl (by omega), nI_cl (by omega), mi, mj]
              have es : nI a + nI b - nI (gi + gj) = nI (a + b - gi - gj) := by
                rw [nI_add, nI_iI, nI_iI, iI_sub, nI_iI, show ((a + b - gi - gj : Nat) : Int) = ((a + b : Nat) : Int) - ((gi + gj : Nat) : Int) by omega]
              have es2 : nI a - nI gi + nI b - nI gj = nI (a + b - gi - gj) := by
                rw [nI_iI a, nI_iI gi, nI_iI b, nI_iI gj, iI_sub, iI_add, iI_sub, nI_iI, show ((a + b - gi - gj : Nat) : Int) = (a : Int) - gi + b - gj by omega]
              have es3 : (10 : Int32) * nI a + nI b = nI (10 * a + b) := by
                rw [show (10 : Int32) = nI 10 from rfl, pk_mul, nI_add]
              rw [es, es2, nI_1, es3, jn_eq, jn_eq, skip_c, skip_m]
              obtain ⟨x0, y0, hM0⟩ := hM
              have hM' := MP_set hM0 a b
              have hF' : FrC om (sO (sO m 9 (cst (nI a))) 10 (cst (nI b))) := fun q hq => by
                rw [sO_ne _ _ _ _ (by omega), sO_ne _ _ _ _ (by omega)]
                exact hF q hq
              by_cases c : ¬ fd < 0 ∧ l ≤ nI (a + b - gi - gj)
              · rw [if_pos ((Rl_c hR _).mpr c), if_pos c]
                exact ih (b + 1) _ _ x y fd l w _ K K2 rfl rfl (by omega) (by omega) (by omega) hR ⟨_, _, hM'⟩ hF'
              · rw [if_neg (fun q => c ((Rl_c hR _).mp q)), if_neg c]
                obtain ⟨w1, t1, t2⟩ := tie_ok hi hj hij r1 r2 w
                obtain ⟨w2, t3, t4⟩ := give_ok t2 a b
                have hG' : Gp (pG (pij oc i j) a b) := pG_G hG (by omega) (by omega)
                obtain ⟨e, w3, m3, t5, t6, t7⟩ := both_ok hG' hn t4 hM'
                have hF3 : FrC om m3 := fun q hq => (t7 q (by omega)).trans (hF' q hq)
                have hM3 : ∃ x y, MP (pG (pij oc i j) x y) 1000 m3 := ⟨_, _, MP_fr hM' (fun q hq => t7 q (by omega))⟩
                unfold F_X5_standsWith
                rw [t1, bsome, t3, bsome, t5, bsome, t6, bsome, gz_b, bsome]
                cases e with
                | true =>
                  rw [if_neg (show ¬ (if true = true then (1 : Int32) else 0) = 0 by decide), if_pos (show (if true = true then (0 : Int32) else 1) = 0 by decide)]
                  exact ih (b + 1) _ _ _ _ _ _ w3 m3 K K2 rfl rfl (by omega) (by omega) (by omega) (Or.inr ⟨_, _, by omega, by omega, rfl, rfl, rfl, rfl⟩) hM3 hF3
                | false =>
                  rw [if_pos (show (if false = true then (1 : Int32) else 0) = 0 by decide), if_neg (show ¬ (if false = true then (0 : Int32) else 1) = 0 by decide)]
                  exact ih (b + 1) _ _ _ _ _ _ w3 m3 K K2 rfl rfl (by omega) (by omega) (by omega) hR hM3 hF3
        have outer : ∀ (f a : Nat) (v x y fd l : Int32) (w m : Ob) (K K2 : Int32 → Int32 → Ob → Option (Int32 × Ob)), v = nI a → gi ≤ a → a ≤ 5 → 5 - a < f → Rl x y fd l → (∃ x y, MP (pG (pij oc i j) x y) 1000 m) → FrC om m →
            ∃ x' y' fd' l' w' m', L_X5_practice_78 f (nI (gi + gj)) (nI i) (nI j) (nI n) oc x y v w K = K x' y' w' ∧ L_X6_practice_58 f (nI i) (nI j) (nI n) fd l v m K2 = K2 fd' l' m' ∧ Rl x' y' fd' l' ∧ FrC om m' := by
          intro f
          induction f with
          | zero => intro a v x y fd l w m K K2 _ _ _ h; exact absurd h (by omega)
          | succ f ih =>
            intro a v x y fd l w m K K2 hv ha1 ha2 hf hR hM hF
            subst hv
            rw [L_X5_practice_78.eq_2, L_X6_practice_58.eq_2]
            by_cases h5 : a = 5
            · subst h5
              rw [if_pos (show (4 : Int32) < nI 5 by decide), if_pos (show (5 : Int32) ≤ nI 5 by decide)]
              exact ⟨x, y, fd, l, w, m, rfl, rfl, hR, hF⟩
            · have h1 : ¬ (4 : Int32) < nI a := fun q => absurd ((nI_ltI (a := 4) (by omega) (by omega)).mp q) (by omega)
              have h2 : ¬ (5 : Int32) ≤ nI a := fun q => absurd ((nI_leI (a := 5) (by omega) (by omega)).mp q) (by omega)
              have mj : m 3 j = nI gj := by rw [hF 3 (by omega)]; exact gj3
              rw [if_neg h1, if_neg h2, ck_ok (by omega) (by omega), ck_ok (by omega) (by omega), nI_cl (by omega), cj, mj, jn_eq, jn_eq]
              simp only [dd, nI_1]
              obtain ⟨x', y', fd', l', w', m', a1, a2, a3, a4, a5⟩ := inner a ha1 (by omega) 2000 gj _ _ x y fd l w m (fun (v25 : Int32) (v26 : Int32) (ow27 : Ob) => L_X5_practice_78 f (nI (gi + gj)) (nI i) (nI j) (nI n) oc v25 v26 (nI (a + 1)) ow27 K) (fun (v24 : Int32) (v25 : Int32) (om26 : Ob) => L_X6_practice_58 f (nI i) (nI j) (nI n) v24 v25 (nI (a + 1)) om26 K2) rfl rfl (by omega) (by omega) (by omega) hR hM hF
              rw [a1, a2]
              exact ih (a + 1) _ x' y' fd' l' w' m' K K2 rfl (by omega) (by omega) (by omega) a3 a4 a5
        obtain ⟨x', y', fd', l', w', m', a1, a2, a3, a4⟩ := outer 2000 gi _ (-6) (-6) (-6) 0 ow m1 (fun (v12 : Int32) (v13 : Int32) (ow14 : Ob) => (if nI wh = 0 then some (v12, ow14) else some (v13, ow14))) (fun (v10 : Int32) (v11 : Int32) (om12 : Ob) => (if v10 < 0 then some (v10, om12) else (if nI wh = 1 then some (v10, om12) else some (v11, om12)))) rfl (by omega) (by omega) (by omega) (Or.inl ⟨rfl, rfl, rfl⟩) M1 f1
        rw [a1, a2]
        rcases a3 with ⟨rfl, rfl, rfl⟩ | ⟨a, b, ha, hb, rfl, rfl, rfl, rfl⟩
        · rw [if_pos (show (-6 : Int32) < 0 by decide)]
          refine ⟨-6, w', m', ?_, rfl, FrC_Inv a4 hI⟩
          split <;> rfl
        · rw [if_neg (n0g (by omega))]
          rcases (show wh = 0 ∨ wh = 1 by omega) with rfl | rfl
          · exact ⟨_, w', m', rfl, rfl, FrC_Inv a4 hI⟩
          · exact ⟨_, w', m', rfl, rfl, FrC_Inv a4 hI⟩
      · rw [e4]
        exact ⟨-2, ow, om, rfl, rfl, hI⟩
    · rw [e3]
      exact ⟨-2, ow, om, rfl, rfl, hI⟩
  · rw [e1, e2]
    exact ⟨-1, ow, om, rfl, rfl, hI⟩
