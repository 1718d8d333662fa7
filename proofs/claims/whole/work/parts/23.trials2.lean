theorem bfold_add (g : Nat → Nat × Option Int) (n : Nat) : ∀ (m k : Nat) (b : Bs), bfold g (m + n) k b = bfold g n (k + m) (bfold g m k b) := by
  intro m
  induction m with
  | zero => intro k b; rw [Nat.zero_add]; rfl
  | succ m ih =>
    intro k b
    rw [show m + 1 + n = (m + n) + 1 by omega, bfold_succ, ih, bfold_succ, show k + 1 + m = k + (m + 1) by omega]
theorem bfold_ok (g : Nat → Nat × Option Int) : ∀ (n k : Nat) (b : Bs), Bok b → (∀ j, k ≤ j → j < k + n → (g j).1 < 1000 ∧ ∀ t, (g j).2 = some t → 0 ≤ t ∧ t ≤ 200000) → Bok (bfold g n k b) := by
  intro n
  induction n with
  | zero => intro k b hb _; exact hb
  | succ n ih =>
    intro k b hb hg
    rw [bfold_succ]
    exact ih (k + 1) _ (bst_ok hb (hg k (by omega) (by omega)).1 (hg k (by omega) (by omega)).2) (fun j h1 h2 => hg j (by omega) (by omega))
def gQ (p : Nat → Int) (goal : Nat) : Nat → Nat × Option Int := fun k => (k, TT p (if k = 61 then 1000 else k) goal)
theorem eq_quicken (oc : Ob) (oy : Ob) (oz : Ob) (ok : (Nat → Int32)) (of : Ob) (ow : Ob) (os : Ob) (om : Ob) (p0 p1 p2 p3 : Int32) (hI : Inv oc oy oz ok of om) : ∃ (r : Int32) (ow' : Ob) (os' : Ob) (om' : Ob), F_X5_quicken oc ow os p0 p1 p2 p3 = some (r, ow', os') ∧ F_X6_quicken om p0 p1 p2 p3 = some (r, om') ∧ Inv oc oy oz ok of om' := by
  have hC := hI.1
  unfold F_X5_quicken F_X6_quicken
  rcases race_or hC p0 p1 p2 p3 with ⟨i, j, g, w, hi, hj, hij, rfl, rfl, r1, r2, g1, g2, rfl, hw, rfl, e1, e2, -, -, e5⟩ | ⟨e1, e2⟩ | ⟨e1, e2, e5, -⟩
  · have hG := pij_G hC hi hj r1 r2
    obtain ⟨m1, l1, l2, l3⟩ := lay_ok hC hi hj
    obtain ⟨os1, c1, c2⟩ := clear_ok os
    obtain ⟨m2, b1, b2, b3⟩ := tries_ok m1
    have l2' : MP (pij oc i j) 1000 m2 := MP_fr l2 (fun k hk => b3 k (by omega) (by omega))
    have f2 : FrB om m2 := fun k hk => (b3 k (by omega) (by omega)).trans (l3 k (by omega))
    rw [e1, e2, e5]
    simp only [bsome, if_neg i10, if_true]
    rw [c1, l1]
    simp only [bsome]
    rw [b1]
    simp only [bsome]
    rw [jn_eq, jn_eq]
    have hgk : ∀ k t, (gQ (pij oc i j) g k).2 = some t → 0 ≤ t ∧ t ≤ 200000 := fun k t ht => TT_bd hG ht
    have key1 : ∀ (n k : Nat) (v : Int32) (ow os : Ob) (b : Bs) (K : Ob → Ob → Option (Int32 × Ob × Ob)), v = nI k → k ≤ 61 → 61 - k < n → SR b os → Bok b → ∃ ow' os', L_X5_quicken_29 n (nI i) (nI j) (nI g) oc v ow os K = K ow' os' ∧ SR (bfold (gQ (pij oc i j) g) (61 - k) k b) os' := by
      intro n
      induction n with
      | zero => intro k v ow os b K _ _ h; exact absurd h (by omega)
      | succ n ih =>
        intro k v ow os b K hv h21 hn hs hb
        subst hv
        rw [L_X5_quicken_29.eq_2]
        by_cases hk : k = 61
        · subst hk
          rw [if_pos (show (60 : Int32) < nI 61 by decide)]
          exact ⟨ow, os, rfl, hs⟩
        · have n20 : ¬ (60 : Int32) < nI k := fun q => absurd ((nI_ltI (a := 60) (by omega) (by omega)).mp q) (by omega)
          rw [if_neg n20]
          obtain ⟨w1, t1, t2⟩ := tie_ok hi hj hij r1 r2 ow
          obtain ⟨w3, t5, -⟩ := timeTo_ok hG (qf := k) (q := nI k) (Or.inr ⟨rfl, by omega⟩) g1 g2 t2
          have eg : gQ (pij oc i j) g k = (k, TT (pij oc i j) k g) := by unfold gQ; rw [if_neg hk]
          obtain ⟨os2, t6, t7⟩ := offer_ok hs hb k (o := TT (pij oc i j) k g) (fun t ht => TT_bd hG ht)
          rw [t1, bsome, t5]
          simp only [bsome]
          rw [t6]
          simp only [bsome, dd, nI_1]
          rw [show 61 - k = (61 - (k + 1)) + 1 by omega, bfold_succ, eg]
          exact ih (k + 1) _ w3 os2 _ K rfl (by omega) (by omega) t7 (bst_ok hb (by omega) (fun t ht => TT_bd hG ht))
    have key2 : ∀ (n k : Nat) (v : Int32) (m : Ob) (b : Bs) (K : Ob → Option (Int32 × Ob)), v = nI k → k ≤ 62 → 62 - k < n → (∃ q0, MP (pij oc i j) q0 m) → BR b m → Bok b → FrB om m → ∃ m', L_X6_quicken_36 n (nI g) v m K = K m' ∧ BR (bfold (gQ (pij oc i j) g) (62 - k) k b) m' ∧ FrB om m' := by
      intro n
      induction n with
      | zero => intro k v m b K _ _ h; exact absurd h (by omega)
      | succ n ih =>
        intro k v m b K hv h21 hn hM hB hb hf
        subst hv
        rw [L_X6_quicken_36.eq_2]
        by_cases hk : k = 62
        · subst hk
          rw [if_pos (show (61 : Int32) < nI 62 by decide)]
          exact ⟨m, rfl, hB, hf⟩
        · have n20 : ¬ (61 : Int32) < nI k := fun q => absurd ((nI_ltI (a := 61) (by omega) (by omega)).mp q) (by omega)
          rw [if_neg n20, jn_if]
          have eq : (if nI k = (61 : Int32) then (1000 : Int32) else nI k) = nI (if k = 61 then 1000 else k) := by
            by_cases h : k = 61
            · subst h; rfl
            · have h' : ¬ nI k = (61 : Int32) := fun q => h ((nI_eq (b := 61) (by omega) (by omega)).mp q)
              rw [if_neg h', if_neg h]
          rw [eq]
          simp only [dd]
          obtain ⟨q0, m7, m8, m9, m10, m11, m12, m13, m5, m6⟩ := hM
          have hM' : MP (pij oc i j) (if k = 61 then 1000 else k) (sO m 12 (cst (nI (if k = 61 then 1000 else k)))) := by
            refine ⟨?_, ?_, ?_, ?_, ?_, ?_, ?_, ?_, ?_⟩
            · rw [sO_ne _ _ _ _ (by decide)]; exact m7
            · rw [sO_ne _ _ _ _ (by decide)]; exact m8
            · rw [sO_ne _ _ _ _ (by decide)]; exact m9
            · rw [sO_ne _ _ _ _ (by decide)]; exact m10
            · rw [sO_ne _ _ _ _ (by decide)]; exact m11
            · rw [sO_eq]; rfl
            · rw [sO_ne _ _ _ _ (by decide)]; exact m13
            · rw [sO_ne _ _ _ _ (by decide)]; exact m5
            · rw [sO_ne _ _ _ _ (by decide)]; exact m6
          have hB' : BR b (sO m 12 (cst (nI (if k = 61 then 1000 else k)))) := by
            refine ⟨?_, ?_⟩
            · rw [sO_ne _ _ _ _ (by decide)]; exact hB.1
            · rw [sO_ne _ _ _ _ (by decide)]; exact hB.2
          obtain ⟨m3, u1, u2, u3⟩ := tryOne_ok hG (qf := if k = 61 then 1000 else k) (by split <;> omega) g2 hM' hB' hb k _ rfl
          rw [u1]
          simp only [bsome, nI_1]
          rw [show 62 - k = (62 - (k + 1)) + 1 by omega, bfold_succ]
          refine ih (k + 1) _ m3 _ K rfl (by omega) (by omega) ⟨_, MP_fr hM' (fun q hq => u3 q (Or.inl hq))⟩ u2 (bst_ok hb (show k < 1000 by omega) (fun t ht => TT_bd hG ht)) (fun q hq => ?_)
          rw [u3 q (by omega), sO_ne _ _ _ _ (by omega)]
          exact hf q hq
    obtain ⟨ow', os', a1, a2⟩ := key1 2000 0 0 ow os1 none (fun (ow5 : Ob) (os6 : Ob) => (F_X5_timeTo oc ow5 (nI i) (nI j) (nI g)).bind (fun q7 => (F_X3_offer os6 61 q7.1).bind (fun q8 => (F_X3_answer q8 (nI w)).bind (fun q9 => some (q9, q7.2, q8))))) rfl (by omega) (by omega) c2 (fun k t h => by cases h)
    obtain ⟨m', d1, d2, d3⟩ := key2 2000 0 0 m2 none (fun (om8 : Ob) => (F_X6_tellBest om8 (nI w)).bind (fun q9 => some (q9, om8))) rfl (by omega) (by omega) ⟨1000, l2'⟩ b2 (fun k t h => by cases h) f2
    have hB61 : Bok (bfold (gQ (pij oc i j) g) (61 - 0) 0 none) := bfold_ok _ _ _ _ (fun k t h => by cases h) (fun k _ h2 => ⟨show k < 1000 by omega, hgk k⟩)
    have hB62 : Bok (bfold (gQ (pij oc i j) g) (62 - 0) 0 none) := bfold_ok _ _ _ _ (fun k t h => by cases h) (fun k _ h2 => ⟨show k < 1000 by omega, hgk k⟩)
    obtain ⟨w1, t1, t2⟩ := tie_ok hi hj hij r1 r2 ow'
    obtain ⟨w3, t5, -⟩ := timeTo_ok hG (qf := 1000) (q := -1) (Or.inl ⟨rfl, rfl⟩) g1 g2 t2
    obtain ⟨os2, t6, t7⟩ := offer_ok a2 hB61 61 (o := TT (pij oc i j) 1000 g) (fun t ht => TT_bd hG ht)
    have e62 : bst (bfold (gQ (pij oc i j) g) (61 - 0) 0 none) 61 (TT (pij oc i j) 1000 g) = bfold (gQ (pij oc i j) g) (62 - 0) 0 none := by
      have h := bfold_add (gQ (pij oc i j) g) 1 61 0 none
      rw [show 62 - 0 = 61 + 1 by omega, h]
      rfl
    rw [e62] at t7
    have t6' : F_X3_offer os' 61 (cT (TT (pij oc i j) 1000 g)) = some os2 := t6
    obtain ⟨r, x1, x2⟩ := tell_ok t7 d2 hB62 (nI w)
    rw [a1, d1, x2]
    unfold F_X5_timeTo
    rw [t1, bsome, t5]
    simp only [bsome]
    rw [t6', bsome, x1]
    exact ⟨r, w3, os2, m', rfl, rfl, Inv_fr d3 hI⟩
  · rw [e1, e2]
    exact ⟨-1, ow, os, om, rfl, rfl, hI⟩
  · rw [e1, e2, e5]
    exact ⟨-2, ow, os, om, rfl, rfl, hI⟩
def gY (p : Nat → Int) (goal : Nat) : Nat → Nat × Option Int := fun k => (10 * (k / 5) + k % 5, TT (pG p ((k / 5 : Nat) : Int) ((k % 5 : Nat) : Int)) 1000 goal)
theorem eq_yields (oc : Ob) (oy : Ob) (oz : Ob) (ok : (Nat → Int32)) (of : Ob) (ow : Ob) (os : Ob) (om : Ob) (p0 p1 p2 p3 : Int32) (hI : Inv oc oy oz ok of om) : ∃ (r : Int32) (ow' : Ob) (os' : Ob) (om' : Ob), F_X5_yields oc ow os p0 p1 p2 p3 = some (r, ow', os') ∧ F_X6_yields om p0 p1 p2 p3 = some (r, om') ∧ Inv oc oy oz ok of om' := by
  have hC := hI.1
  unfold F_X5_yields F_X6_yields
  rcases race_or hC p0 p1 p2 p3 with ⟨i, j, g, w, hi, hj, hij, rfl, rfl, r1, r2, g1, g2, rfl, hw, rfl, e1, e2, -, -, e5⟩ | ⟨e1, e2⟩ | ⟨e1, e2, e5, -⟩
  · have hG := pij_G hC hi hj r1 r2
    obtain ⟨m1, l1, l2, l3⟩ := lay_ok hC hi hj
    obtain ⟨os1, c1, c2⟩ := clear_ok os
    obtain ⟨m2, b1, b2, b3⟩ := tries_ok m1
    have l2' : MP (pij oc i j) 1000 m2 := MP_fr l2 (fun k hk => b3 k (by omega) (by omega))
    have f2 : FrB om m2 := fun k hk => (b3 k (by omega) (by omega)).trans (l3 k (by omega))
    rw [e1, e2, e5]
    simp only [bsome, if_neg i10, if_true]
    rw [c1, l1]
    simp only [bsome]
    rw [b1]
    simp only [bsome]
    rw [jn_eq, jn_eq]
    have hgk : ∀ k, k < 25 → (gY (pij oc i j) g k).1 < 1000 ∧ ∀ t, (gY (pij oc i j) g k).2 = some t → 0 ≤ t ∧ t ≤ 200000 := fun k hk => ⟨show 10 * (k / 5) + k % 5 < 1000 by omega, fun t ht => TT_bd (pG_G hG (by omega) (by omega)) ht⟩
    have inn : ∀ (n b : Nat) (a : Nat) (v : Int32) (ow os : Ob) (B : Bs) (K : Ob → Ob → Option (Int32 × Ob × Ob)), v = nI b → a ≤ 4 → b ≤ 5 → 5 - b < n → SR B os → Bok B → ∃ ow' os', L_X5_yields_38 n (nI i) (nI j) (nI g) (nI a) oc v ow os K = K ow' os' ∧ SR (bfold (gY (pij oc i j) g) (5 - b) (5 * a + b) B) os' := by
      intro n
      induction n with
      | zero => intro b a v ow os B K _ _ _ h; exact absurd h (by omega)
      | succ n ih =>
        intro b a v ow os B K hv ha hb5 hn hs hb
        subst hv
        rw [L_X5_yields_38.eq_2]
        by_cases hk : b = 5
        · subst hk
          rw [if_pos (show (4 : Int32) < nI 5 by decide)]
          exact ⟨ow, os, rfl, hs⟩
        · have n20 : ¬ (4 : Int32) < nI b := fun q => absurd ((nI_ltI (a := 4) (by omega) (by omega)).mp q) (by omega)
          rw [if_neg n20]
          obtain ⟨w1, t1, t2⟩ := tie_ok hi hj hij r1 r2 ow
          obtain ⟨w2, t3, t4⟩ := give_ok t2 a b
          have hG' := pG_G hG (a := a) (b := b) (by omega) (by omega)
          obtain ⟨w3, t5, -⟩ := timeTo_ok hG' (qf := 1000) (q := -1) (Or.inl ⟨rfl, rfl⟩) g1 g2 t4
          have eg : gY (pij oc i j) g (5 * a + b) = (10 * a + b, TT (pG (pij oc i j) a b) 1000 g) := by
            unfold gY
            rw [show (5 * a + b) / 5 = a by omega, show (5 * a + b) % 5 = b by omega]
          obtain ⟨os2, t6, t7⟩ := offer_ok hs hb (10 * a + b) (o := TT (pG (pij oc i j) a b) 1000 g) (fun t ht => TT_bd hG' ht)
          have e10 : (10 : Int32) * nI a = nI (10 * a) := pk_mul 10 a
          rw [t1, bsome, t3, bsome]
          simp only [dd]
          rw [e10, nI_add, t5]
          simp only [bsome]
          rw [t6]
          simp only [bsome, nI_1]
          rw [show 5 - b = (5 - (b + 1)) + 1 by omega, bfold_succ, eg]
          exact ih (b + 1) a _ w3 os2 _ K rfl ha (by omega) (by omega) t7 (bst_ok hb (by omega) (fun t ht => TT_bd hG' ht))
    have key1 : ∀ (n a : Nat) (v : Int32) (ow os : Ob) (B : Bs) (K : Ob → Ob → Option (Int32 × Ob × Ob)), v = nI a → a ≤ 5 → 5 - a < n → SR B os → Bok B → ∃ ow' os', L_X5_yields_29 n (nI i) (nI j) (nI g) oc v ow os K = K ow' os' ∧ SR (bfold (gY (pij oc i j) g) (25 - 5 * a) (5 * a) B) os' := by
      intro n
      induction n with
      | zero => intro a v ow os B K _ _ h; exact absurd h (by omega)
      | succ n ih =>
        intro a v ow os B K hv ha hn hs hb
        subst hv
        rw [L_X5_yields_29.eq_2]
        by_cases hk : a = 5
        · subst hk
          rw [if_pos (show (4 : Int32) < nI 5 by decide)]
          exact ⟨ow, os, rfl, hs⟩
        · have n20 : ¬ (4 : Int32) < nI a := fun q => absurd ((nI_ltI (a := 4) (by omega) (by omega)).mp q) (by omega)
          rw [if_neg n20, jn_eq]
          obtain ⟨ow1, os1, a1, a2⟩ := inn 2000 0 a 0 ow os B (fun (ow15 : Ob) (os16 : Ob) => dd (nI a + 1) (fun (v17 : Int32) => L_X5_yields_29 n (nI i) (nI j) (nI g) oc v17 ow15 os16 K)) rfl (by omega) (by omega) (by omega) hs hb
          rw [a1]
          simp only [dd, nI_1]
          rw [show 25 - 5 * a = 5 + (25 - 5 * (a + 1)) by omega, bfold_add, show 5 * a + 5 = 5 * (a + 1) by omega]
          exact ih (a + 1) _ ow1 os1 _ K rfl (by omega) (by omega) a2 (bfold_ok _ _ _ _ hb (fun k h1 h2 => hgk k (by omega)))
    have key2 : ∀ (n k : Nat) (v : Int32) (m : Ob) (b : Bs) (K : Ob → Option (Int32 × Ob)), v = nI k → k ≤ 25 → 25 - k < n → (∃ x y, MP (pG (pij oc i j) x y) 1000 m) → BR b m → Bok b → FrB om m → ∃ m', L_X6_yields_36 n (nI g) v m K = K m' ∧ BR (bfold (gY (pij oc i j) g) (25 - k) k b) m' ∧ FrB om m' := by
      intro n
      induction n with
      | zero => intro k v m b K _ _ h; exact absurd h (by omega)
      | succ n ih =>
        intro k v m b K hv h21 hn hM hB hb hf
        subst hv
        rw [L_X6_yields_36.eq_2]
        by_cases hk : k = 25
        · subst hk
          rw [if_pos (show (25 : Int32) ≤ nI 25 by decide)]
          exact ⟨m, rfl, hB, hf⟩
        · have n20 : ¬ (25 : Int32) ≤ nI k := fun q => absurd ((nI_leI (a := 25) (by omega) (by omega)).mp q) (by omega)
          rw [if_neg n20]
          have e5d : nI k / (5 : Int32) = nI (k / 5) := pk_div (d := 5) (by omega) (by omega) (by omega)
          have e5r : nI k - nI k / (5 : Int32) * 5 = nI (k % 5) := pk_rem (d := 5) (by omega) (by omega) (by omega)
          simp only [dd]
          rw [e5r, e5d]
          have hG' := pG_G hG (a := ((k / 5 : Nat) : Int)) (b := ((k % 5 : Nat) : Int)) (by omega) (by omega)
          obtain ⟨x, y, m7, m8, m9, m10, m11, m12, m13, m5, m6⟩ := hM
          obtain ⟨m', hm'⟩ : ∃ z, z = sO (sO m 9 (cst (nI (k / 5)))) 10 (cst (nI (k % 5))) := ⟨_, rfl⟩
          rw [← hm']
          have f' : ∀ q, q ≠ 9 → q ≠ 10 → m' q = m q := fun q h1 h2 => by rw [hm', sO_ne _ _ _ _ h2, sO_ne _ _ _ _ h1]
          have q9 : m' 9 0 = nI (k / 5) := by rw [hm', sO_ne _ _ _ _ (by decide), sO_eq]; rfl
          have q10 : m' 10 0 = nI (k % 5) := by rw [hm', sO_eq]; rfl
          have hM' : MP (pG (pij oc i j) ((k / 5 : Nat) : Int) ((k % 5 : Nat) : Int)) 1000 m' := by
            refine ⟨?_, ?_, ?_, ?_, ?_, ?_, ?_, ?_, ?_⟩
            · rw [f' 7 (by decide) (by decide)]; exact m7
            · rw [f' 8 (by decide) (by decide)]; exact m8
            · rw [q9]; exact nI_iI _
            · rw [q10]; exact nI_iI _
            · rw [f' 11 (by decide) (by decide)]; exact m11
            · rw [f' 12 (by decide) (by decide)]; exact m12
            · rw [f' 13 (by decide) (by decide)]; exact m13
            · rw [f' 5 (by decide) (by decide)]; exact m5
            · rw [f' 6 (by decide) (by decide)]; exact m6
          have hB' : BR b m' := ⟨by rw [f' 25 (by decide) (by decide)]; exact hB.1, by rw [f' 26 (by decide) (by decide)]; exact hB.2⟩
          have e10 : (10 : Int32) * nI (k / 5) = nI (10 * (k / 5)) := pk_mul 10 (k / 5)
          rw [q9, q10, e10, nI_add]
          obtain ⟨m3, u1, u2, u3⟩ := tryOne_ok hG' (qf := 1000) (by omega) g2 hM' hB' hb (10 * (k / 5) + k % 5) _ rfl
          rw [u1]
          simp only [bsome, nI_1]
          rw [show 25 - k = (25 - (k + 1)) + 1 by omega, bfold_succ]
          refine ih (k + 1) _ m3 _ K rfl (by omega) (by omega) ⟨_, _, MP_fr hM' (fun q hq => u3 q (Or.inl hq))⟩ u2 (bst_ok hb (hgk k (by omega)).1 (fun t ht => TT_bd hG' ht)) (fun q hq => ?_)
          rw [u3 q (by omega), f' q (by omega) (by omega)]
          exact hf q hq
    obtain ⟨ow', os', a1, a2⟩ := key1 2000 0 0 ow os1 none (fun (ow5 : Ob) (os6 : Ob) => (F_X3_answer os6 (nI w)).bind (fun q7 => some (q7, ow5, os6))) rfl (by omega) (by omega) c2 (fun k t h => by cases h)
    obtain ⟨m', d1, d2, d3⟩ := key2 2000 0 0 m2 none (fun (om8 : Ob) => (F_X6_tellBest om8 (nI w)).bind (fun q9 => some (q9, om8))) rfl (by omega) (by omega) ⟨pij oc i j 2, pij oc i j 3, l2'⟩ b2 (fun k t h => by cases h) f2
    have hB25 : Bok (bfold (gY (pij oc i j) g) 25 0 none) := bfold_ok _ _ _ _ (fun k t h => by cases h) (fun k _ h2 => hgk k (by omega))
    obtain ⟨r, t1, t2⟩ := tell_ok a2 d2 hB25 (nI w)
    rw [a1, d1, t1, t2]
    exact ⟨r, ow', os', m', rfl, rfl, Inv_fr d3 hI⟩
  · rw [e1, e2]
    exact ⟨-1, ow, os, om, rfl, rfl, hI⟩
  · rw [e1, e2, e5]
    exact ⟨-2, ow, os, om, rfl, rfl, hI⟩
