/-! pair, who, scarf. -/
theorem sq_s (p : Nat → Int) {k : Nat} (hk : k ≤ 999) : sq p 1000 (k + 1) = stp p (p 0) (p 1) (sq p 1000 k) := by
  show stp p (bqv (p 0) (decide (1000 ≤ k))) (bqv (p 1) (decide (1000 ≤ k))) (sq p 1000 k) = _
  rw [decide_eq_false (by omega)]
  rfl
def sg (p : Nat → Int) (k : Nat) : Int32 := sgn p (p 0) (p 1) (sq p 1000 k)
def er (p : Nat → Int) (k : Nat) : Bool := ear p (p 0) (p 1) (sq p 1000 k)
abbrev WK (p : Nat → Int) (k : Nat) (w : Ob) : Prop := WS p (p 0) (p 1) (sq p 1000 k) k w
abbrev MK (p : Nat → Int) (k : Nat) (m : Ob) : Prop := MS p 1000 (sq p 1000 k) k m
theorem wst {p : Nat → Int} (hg : Gp p) {k : Nat} {w : Ob} (hw : WK p k w) (hk : k ≤ 998) : ∃ w' : Ob, F_X4_step w = some w' ∧ WK p (k + 1) w' ∧ w' 14 0 = sg p k ∧ w' 15 0 = if er p k then 1 else 0 := by
  unfold WK
  rw [sq_s p (by omega)]
  exact step_ok hw hg ⟨hg.1.1, hg.1.2.1, hg.1.2.2.1, hg.1.2.2.2⟩ (sq_bd hg 1000 k) (by omega)
theorem mst {p : Nat → Int} (hg : Gp p) {k : Nat} {m : Ob} (hm : MK p k m) (hk : k ≤ 998) : ∃ m' : Ob, F_X6_step m = some m' ∧ MK p (k + 1) m' ∧ m' 20 0 = sg p k ∧ (m' 21 0 = if er p k then 0 else 1) ∧ ∀ i, i < 14 ∨ 22 ≤ i → m' i = m i := by
  have h := mstep_ok hm hg (by omega) (sq_bd hg 1000 k) (by omega)
  rw [decide_eq_false (show ¬ 1000 ≤ k by omega)] at h
  unfold MK
  rw [sq_s p (by omega)]
  exact h
theorem eq_pair (oc : Ob) (oy : Ob) (oz : Ob) (ok : (Nat → Int32)) (of : Ob) (ow : Ob) (om : Ob) (p0 p1 p2 p3 : Int32) (hI : Inv oc oy oz ok of om) : ∃ (r : Int32) (ow' : Ob) (om' : Ob), F_X5_pair oc ow p0 p1 p2 p3 = some (r, ow') ∧ F_X6_pair om p0 p1 p2 p3 = some (r, om') ∧ Inv oc oy oz ok of om' := by
  have hC := hI.1
  unfold F_X5_pair F_X6_pair
  rw [in_if p2 0 999 (A := 0) (B := 999) rfl rfl, in_if p3 0 4 (A := 0) (B := 4) rfl rfl]
  rcases two_or hC p0 p1 with ⟨i, j, hi, hj, hij, rfl, rfl, r1, r2, e1, e2⟩ | ⟨e1, e2⟩
  · rw [e1, e2]
    rcases rng p2 0 999 0 999 rfl rfl (by omega) (by omega) with ⟨n, -, hn, rfl, e3⟩ | e3
    · rw [e3]
      rcases rng p3 0 4 0 4 rfl rfl (by omega) (by omega) with ⟨w, -, hw, rfl, e4⟩ | e4
      · rw [e4]
        have hG := pij_G hC hi hj r1 r2
        obtain ⟨w1, t1, t2⟩ := tie_ok hi hj hij r1 r2 ow
        obtain ⟨m1, l1, l2, l3⟩ := lay_ok hC hi hj
        obtain ⟨m2, b1, b2, b3⟩ := begin_ok l2
        simp only [bsome, if_neg i10]
        rw [t1, l1]
        simp only [bsome]
        rw [b1]
        simp only [bsome]
        rw [jn_eq, jn_eq]
        have key1 : ∀ (f k : Nat) (v : Int32) (w : Ob) (K : Ob → Option (Int32 × Ob)), v = nI k → k ≤ n → n - k < f → WK (pij oc i j) k w → ∃ w', L_X5_pair_54 f (nI n) v w K = K w' ∧ WK (pij oc i j) n w' := by
          intro f
          induction f with
          | zero => intro k v w K _ _ h; exact absurd h (by omega)
          | succ f ih =>
            intro k v w K hv hk hf hW
            subst hv
            rw [L_X5_pair_54.eq_2]
            by_cases hkn : k = n
            · subst hkn
              rw [if_pos (Int32.le_refl _)]
              exact ⟨w, rfl, hW⟩
            · rw [if_neg (fun q => absurd ((nI_leI (by omega) (by omega)).mp q) (by omega))]
              obtain ⟨w2, s1, s2, -⟩ := wst hG hW (by omega)
              rw [s1]
              simp only [bsome, dd, nI_1]
              exact ih (k + 1) _ w2 K rfl (by omega) (by omega) s2
        have key2 : ∀ (f k : Nat) (m : Ob) (K : Ob → Option (Int32 × Ob)), k ≤ n → n - k < f → MK (pij oc i j) k m → ∃ m', L_X6_pair_49 f (nI n) m K = K m' ∧ MK (pij oc i j) n m' ∧ ∀ q, q < 14 ∨ 22 ≤ q → m' q = m q := by
          intro f
          induction f with
          | zero => intro k m K _ h; exact absurd h (by omega)
          | succ f ih =>
            intro k m K hk hf hM
            rw [L_X6_pair_49.eq_2, hM.2.2.2.2.2.2]
            by_cases hkn : k = n
            · subst hkn
              rw [if_pos (Int32.le_refl _)]
              exact ⟨m, rfl, hM, fun _ _ => rfl⟩
            · rw [if_neg (fun q => absurd ((nI_leI (by omega) (by omega)).mp q) (by omega))]
              obtain ⟨m2, s1, s2, -, -, s3⟩ := mst hG hM (by omega)
              rw [s1]
              simp only [bsome]
              obtain ⟨m3, u1, u2, u3⟩ := ih (k + 1) m2 K (by omega) (by omega) s2
              exact ⟨m3, u1, u2, fun q hq => (u3 q hq).trans (s3 q hq)⟩
        obtain ⟨w', a1, a2⟩ := key1 2000 0 0 w1 (fun (ow9 : Ob) => (if nI w = 0 then (F_X4_time ow9).bind (fun q11 => some (q11, ow9)) else (if nI w = 1 then some ((ow9 11 0), ow9) else (if nI w = 2 then some ((ow9 12 0), ow9) else (if nI w = 3 then some ((ow9 13 0), ow9) else (F_X4_apart ow9).bind (fun q15 => some (q15, ow9))))))) rfl (by omega) (by omega) t2
        obtain ⟨m', c1, c2, c3⟩ := key2 2000 0 m2 (fun (om10 : Ob) => jn (fun (v12 : Int32) => (if nI w = 0 then (F_X6_time om10).bind (fun q17 => some (q17, om10)) else (if nI w = 1 then some ((om10 16 0), om10) else (if nI w = 2 then some ((om10 17 0), om10) else (if nI w = 3 then some ((om10 18 0), om10) else some (v12, om10)))))) (fun (K11 : Int32 → Option (Int32 × Ob)) => (if (om10 14 0) ≤ (om10 15 0) then dd ((om10 15 0) - (om10 14 0)) (fun (v19 : Int32) => K11 v19) else dd ((om10 14 0) - (om10 15 0)) (fun (v20 : Int32) => K11 v20)))) (by omega) (by omega) b2
        rw [a1, c1]
        have hI' : Inv oc oy oz ok of m' := Inv_fr (fun k hk => (c3 k (by omega)).trans ((b3 k (by omega)).trans (l3 k (by omega)))) hI
        obtain ⟨x0, x1, xp, x8, x9, x10, x11, x12, x13⟩ := a2
        obtain ⟨-, y14, y15, y16, y17, y18, y19⟩ := c2
        have hb := sq_bd hG 1000 n
        have hb1 := hb.1
        have hb2 := hb.2.1
        simp only [dd, jn_if]
        rw [time_ok x8 x9 (by omega), mtime_ok y14 y15 (by omega), apart_ok x8 x9 (by omega), x11, x12, x13, y16, y17, y18, y14, y15]
        have hab : (if iI (sq (pij oc i j) 1000 n).1 ≤ iI (sq (pij oc i j) 1000 n).2.1 then iI (sq (pij oc i j) 1000 n).2.1 - iI (sq (pij oc i j) 1000 n).1 else iI (sq (pij oc i j) 1000 n).1 - iI (sq (pij oc i j) 1000 n).2.1) = iI (ab ((sq (pij oc i j) 1000 n).1 - (sq (pij oc i j) 1000 n).2.1)) := by
          generalize (sq (pij oc i j) 1000 n).1 = xa at hb1 ⊢
          generalize (sq (pij oc i j) 1000 n).2.1 = xb at hb2 ⊢
          unfold ab
          rw [iI_sub, iI_sub]
          by_cases c : xa ≤ xb
          · rw [if_pos ((iI_le (by omega)).mpr c)]
            by_cases c2 : 0 ≤ xa - xb
            · rw [if_pos c2, show xb - xa = xa - xb by omega]
            · rw [if_neg c2, show xb - xa = 0 - (xa - xb) by omega]
          · rw [if_neg (fun q => c ((iI_le (by omega)).mp q)), if_pos (by omega)]
        rw [hab]
        by_cases z0 : nI w = (0 : Int32)
        · simp only [if_pos z0]
          exact ⟨_, w', m', rfl, rfl, hI'⟩
        · simp only [if_neg z0]
          by_cases z1 : nI w = (1 : Int32)
          · simp only [if_pos z1]
            exact ⟨_, w', m', rfl, rfl, hI'⟩
          · simp only [if_neg z1]
            by_cases z2 : nI w = (2 : Int32)
            · simp only [if_pos z2]
              exact ⟨_, w', m', rfl, rfl, hI'⟩
            · simp only [if_neg z2]
              by_cases z3 : nI w = (3 : Int32)
              · simp only [if_pos z3]
                exact ⟨_, w', m', rfl, rfl, hI'⟩
              · simp only [if_neg z3]
                exact ⟨_, w', m', rfl, rfl, hI'⟩
      · rw [e4]
        exact ⟨-2, ow, om, rfl, rfl, hI⟩
    · rw [e3]
      exact ⟨-2, ow, om, rfl, rfl, hI⟩
  · rw [e1, e2]
    exact ⟨-1, ow, om, rfl, rfl, hI⟩
/-- both run till the first fall, or N steps -/
theorem stand_ok {p : Nat → Int} (hg : Gp p) {N : Nat} (hN : N ≤ 999) (K : Ob → Option (Int32 × Ob)) (K2 : Ob → Option (Int32 × Ob)) :
    ∀ (f k : Nat) (v : Int32) (w m : Ob), v = nI k → k ≤ N → N - k < f → WK p k w → MK p k m → (sq p 1000 k).2.2.2.2 = 0 →
      ∃ w' m', (∀ q, q < 14 ∨ 22 ≤ q → m' q = m q) ∧ L_X6_fallsIn_4 f (nI N) m K2 = K2 m' ∧
        ((L_X4_standsFor_2 f (nI N) v w K = K w' ∧ m' 18 0 = 0) ∨ (∃ (n : Nat) (e : Bool), L_X4_standsFor_2 f (nI N) v w K = some (0, w') ∧ w' 10 0 = nI n ∧ (w' 15 0 = if e then 1 else 0) ∧ m' 19 0 = nI n ∧ (m' 21 0 = if e then 0 else 1) ∧ ∃ z : Int, m' 18 0 = iI z ∧ 0 < z ∧ z ≤ 1000)) := by
  intro f
  induction f with
  | zero => intro k v w m _ _ h; exact absurd h (by omega)
  | succ f ih =>
    intro k v w m hv hk hf hW hM h0
    subst hv
    rw [L_X4_standsFor_2.eq_2, L_X6_fallsIn_4.eq_2, hM.2.2.2.2.2.2, hM.2.2.2.2.2.1, h0]
    by_cases hkn : k = N
    · subst hkn
      rw [if_pos (Int32.le_refl _), if_pos (Int32.le_refl _)]
      exact ⟨w, m, fun _ _ => rfl, rfl, Or.inl ⟨rfl, by rw [hM.2.2.2.2.2.1, h0]; rfl⟩⟩
    · have hlt : ¬ nI N ≤ nI k := fun q => absurd ((nI_leI (by omega) (by omega)).mp q) (by omega)
      rw [if_neg hlt, if_neg hlt, if_pos (show iI 0 = (0 : Int32) from rfl)]
      obtain ⟨w2, s1, s2, -, s4⟩ := wst hg hW (by omega)
      obtain ⟨m2, u1, u2, -, u4, u5⟩ := mst hg hM (by omega)
      rw [s1, u1]
      simp only [bsome]
      have hb := (sq_bd hg 1000 (k + 1)).2.2.2.2.2
      by_cases c : (sq p 1000 (k + 1)).2.2.2.2 = 0
      · rw [s2.2.2.2.2.2.2.2.2, c, if_pos (show iI 0 ≤ (0 : Int32) by decide)]
        simp only [dd, nI_1]
        obtain ⟨w', m', a1, a2, a3⟩ := ih (k + 1) _ w2 m2 rfl (by omega) (by omega) s2 u2 c
        exact ⟨w', m', fun q hq => (a1 q hq).trans (u5 q hq), a2, a3⟩
      · have hp : ¬ iI (sq p 1000 (k + 1)).2.2.2.2 ≤ (0 : Int32) := fun q => absurd ((iI_le (b := 0) (by omega)).mp q) (by omega)
        rw [s2.2.2.2.2.2.2.2.2, if_neg hp]
        have h18 := u2.2.2.2.2.2.1
        have hz : ¬ iI (sq p 1000 (k + 1)).2.2.2.2 = (0 : Int32) := fun q => c ((iI_eq (b := 0) (by omega)).mp q)
        have hL : L_X6_fallsIn_4 f (nI N) m2 K2 = K2 m2 := by
          cases f with
          | zero => omega
          | succ f =>
            rw [L_X6_fallsIn_4.eq_2, h18]
            by_cases cc : nI N ≤ m2 19 0
            · rw [if_pos cc]
            · rw [if_neg cc, if_neg hz]
        exact ⟨w2, m2, u5, hL, Or.inr ⟨k + 1, er p k, rfl, s2.2.2.2.2.2.1, s4, u2.2.2.2.2.2.2, u4, _, h18, by omega, by omega⟩⟩
theorem who_falls : ∀ (n : Nat) (m : Ob) (K : Ob → Option (Int32 × Ob)), L_X6_who_34 n m K = L_X6_fallsIn_4 n 999 m K := by
  intro n
  induction n with
  | zero => intro m K; rfl
  | succ n ih =>
    intro m K
    rw [L_X6_who_34.eq_2, L_X6_fallsIn_4.eq_2]
    have e : (fun q18 => L_X6_who_34 n q18 K) = (fun q10 => L_X6_fallsIn_4 n 999 q10 K) := funext (fun q => ih q K)
    rw [e]
theorem eq_who (oc : Ob) (oy : Ob) (oz : Ob) (ok : (Nat → Int32)) (of : Ob) (ow : Ob) (om : Ob) (p0 p1 p2 : Int32) (hI : Inv oc oy oz ok of om) : ∃ (r : Int32) (ow' : Ob) (om' : Ob), F_X5_who oc ow p0 p1 p2 = some (r, ow') ∧ F_X6_who om p0 p1 p2 = some (r, om') ∧ Inv oc oy oz ok of om' := by
  have hC := hI.1
  unfold F_X5_who F_X6_who
  rw [in_if p2 0 1 (A := 0) (B := 1) rfl rfl]
  rcases two_or hC p0 p1 with ⟨i, j, hi, hj, hij, rfl, rfl, r1, r2, e1, e2⟩ | ⟨e1, e2⟩
  · rw [e1, e2]
    rcases rng p2 0 1 0 1 rfl rfl (by omega) (by omega) with ⟨w, -, hw, rfl, e3⟩ | e3
    · rw [e3]
      have hG := pij_G hC hi hj r1 r2
      obtain ⟨w1, t1, t2⟩ := tie_ok hi hj hij r1 r2 ow
      obtain ⟨m1, l1, l2, l3⟩ := lay_ok hC hi hj
      obtain ⟨m2, b1, b2, b3⟩ := begin_ok l2
      simp only [bsome, if_neg i10]
      rw [t1, l1]
      simp only [bsome]
      rw [b1]
      simp only [bsome]
      rw [jn_eq, who_falls]
      unfold F_X4_standsFor
      rw [jn_eq]
      obtain ⟨w', m', a1, a2, a3⟩ := stand_ok hG (N := 999) (by omega) (fun (ow2 : Ob) => some (1, ow2)) (fun (om8 : Ob) => (if (om8 18 0) = 0 then some ((-6), om8) else (if nI w = 0 then dd ((om8 19 0) - 1) (fun (v12 : Int32) => some (v12, om8)) else (if (om8 21 0) = 0 then some (nI i, om8) else some (nI j, om8))))) 2000 0 0 w1 m2 rfl (by omega) (by omega) t2 b2 rfl
      have hI' : Inv oc oy oz ok of m' := Inv_fr (fun k hk => (a1 k (by omega)).trans ((b3 k (by omega)).trans (l3 k (by omega)))) hI
      have a2' : L_X6_fallsIn_4 2000 999 m2 (fun (om8 : Ob) => (if (om8 18 0) = 0 then some ((-6), om8) else (if nI w = 0 then dd ((om8 19 0) - 1) (fun (v12 : Int32) => some (v12, om8)) else (if (om8 21 0) = 0 then some (nI i, om8) else some (nI j, om8))))) = _ := a2
      rw [a2']
      rcases a3 with ⟨c1, c2⟩ | ⟨n, e, c1, c2, c3, c4, c5, z, c6, c7, c8⟩
      · have c1' : L_X4_standsFor_2 2000 999 0 w1 (fun (ow2 : Ob) => some (1, ow2)) = some (1, w') := c1
        rw [c1', c2]
        exact ⟨-6, w', m', rfl, rfl, hI'⟩
      · have c1' : L_X4_standsFor_2 2000 999 0 w1 (fun (ow2 : Ob) => some (1, ow2)) = some (0, w') := c1
        have hz : ¬ iI z = (0 : Int32) := fun q => absurd ((iI_eq (b := 0) (by omega)).mp q) (by omega)
        rw [c1', c6, if_neg hz, c4, c5]
        simp only [bsome, if_true, dd, c2, c3]
        by_cases z0 : nI w = (0 : Int32)
        · simp only [if_pos z0]
          exact ⟨_, w', m', rfl, rfl, hI'⟩
        · simp only [if_neg z0]
          cases e with
          | true => exact ⟨nI i, w', m', rfl, rfl, hI'⟩
          | false => exact ⟨nI j, w', m', rfl, rfl, hI'⟩
    · rw [e3]
      exact ⟨-2, ow, om, rfl, rfl, hI⟩
  · rw [e1, e2]
    exact ⟨-1, ow, om, rfl, rfl, hI⟩
theorem eq_scarf (oc : Ob) (oy : Ob) (oz : Ob) (ok : (Nat → Int32)) (of : Ob) (ow : Ob) (om : Ob) (p0 p1 p2 p3 : Int32) (hI : Inv oc oy oz ok of om) : ∃ (r : Int32) (ow' : Ob) (om' : Ob), F_X5_scarf oc ow p0 p1 p2 p3 = some (r, ow') ∧ F_X6_scarf om p0 p1 p2 p3 = some (r, om') ∧ Inv oc oy oz ok of om' := by
  have hC := hI.1
  obtain ⟨mask, hm, hr, hb, ha, hg, c4, c5, c6, l, fl, u, q1, q2, q3, q4, q5, q6, q7⟩ := id hC
  unfold F_X5_scarf F_X6_scarf
  rw [in_if p3 0 9999 (A := 0) (B := 9999) rfl rfl]
  rcases two_or hC p0 p1 with ⟨i, j, hi, hj, hij, rfl, rfl, r1, r2, e1, e2⟩ | ⟨e1, e2⟩
  · rw [e1, e2]
    rcases feet_or p2 with ⟨g, g1, g2, rfl, e3, e4⟩ | ⟨e3, e4⟩
    · rw [e3, e4]
      rcases rng p3 0 9999 0 9999 rfl rfl (by omega) (by omega) with ⟨w, -, hw, rfl, e5⟩ | e5
      · rw [e5]
        have hG := pij_G hC hi hj r1 r2
        obtain ⟨m1, l1, l2, l3⟩ := lay_ok hC hi hj
        simp only [bsome, if_neg i10]
        rw [l1]
        simp only [bsome]
        rw [jn_eq, jn_eq]
        have of5 : oc 5 0 = nI fl := by rw [c5, q2]
        have key : ∀ (n k : Nat) (v : Int32) (w1 m : Ob), v = nI k → k ≤ fl + 1 → fl + 1 - k < n → (∃ x, MP (pL (pij oc i j) x) 1000 m) → FrB om m → ∃ r w' m', L_X5_scarf_39 n (nI i) (nI j) (nI g) (nI w) oc v w1 (fun (ow8 : Ob) => some ((-6), ow8)) = some (r, w') ∧ L_X6_scarf_43 n (nI g) (nI w) v m (fun (om9 : Ob) => some ((-6), om9)) = some (r, m') ∧ FrB om m' := by
          intro n
          induction n with
          | zero => intro k v w1 m _ _ h; exact absurd h (by omega)
          | succ n ih =>
            intro k v w1 m hv hk hn hM hf
            subst hv
            have m5 : m 5 0 = nI fl := by rw [hf 5 (by omega)]; exact q2
            rw [L_X5_scarf_39.eq_2, L_X6_scarf_43.eq_2, of5, m5]
            by_cases hkf : fl < k
            · rw [if_pos ((nI_ltI (by omega) (by omega)).mpr hkf), if_pos ((nI_ltI (by omega) (by omega)).mpr hkf)]
              exact ⟨-6, w1, m, rfl, rfl, hf⟩
            · have hlt : ¬ nI fl < nI k := fun q => hkf ((nI_ltI (by omega) (by omega)).mp q)
              rw [if_neg hlt, if_neg hlt]
              obtain ⟨w2, t1, t2⟩ := tie_ok hi hj hij r1 r2 w1
              have t3 := lur_ok t2 k
              have hG' := pL_G hG (v := k) (by omega)
              obtain ⟨w3, t5, -⟩ := timeTo_ok hG' (qf := 1000) (q := -1) (Or.inl ⟨rfl, rfl⟩) g1 g2 t3
              obtain ⟨x, m7, m8, m9, m10, m11, m12, m13, m5', m6⟩ := hM
              have hM' : MP (pL (pij oc i j) k) 1000 (sO m 13 (cst (nI k))) := by
                refine ⟨?_, ?_, ?_, ?_, ?_, ?_, ?_, ?_, ?_⟩
                · rw [sO_ne _ _ _ _ (by decide)]; exact m7
                · rw [sO_ne _ _ _ _ (by decide)]; exact m8
                · rw [sO_ne _ _ _ _ (by decide)]; exact m9
                · rw [sO_ne _ _ _ _ (by decide)]; exact m10
                · rw [sO_ne _ _ _ _ (by decide)]; exact m11
                · rw [sO_ne _ _ _ _ (by decide)]; exact m12
                · rw [sO_eq]; exact nI_iI k
                · rw [sO_ne _ _ _ _ (by decide)]; exact m5'
                · rw [sO_ne _ _ _ _ (by decide)]; exact m6
              obtain ⟨m3, u1, -, u3⟩ := timeOf_ok hG' (qf := 1000) (by omega) g2 hM'
              have hf3 : FrB om m3 := fun q hq => by rw [u3 q (by omega), sO_ne _ _ _ _ (by omega)]; exact hf q hq
              have hM3 : ∃ x, MP (pL (pij oc i j) x) 1000 m3 := ⟨k, MP_fr hM' (fun q hq => u3 q (Or.inl hq))⟩
              rw [t1, bsome]
              simp only [dd]
              rw [t5, u1]
              simp only [bsome]
              cases hT : TT (pL (pij oc i j) k) 1000 g with
              | none =>
                have cc : nI w < mT none := (iI_lt (a := 0) (b := 1) (by omega)).mpr (by omega) |> fun _ => by
                  show nI w < (1000000000 : Int32)
                  exact (nI_ltI (b := 1000000000) (by omega) (by omega)).mpr (by omega)
                rw [if_pos (show cT none = (-6 : Int32) from rfl), if_pos cc, nI_1]
                exact ih (k + 1) _ w3 m3 rfl (by omega) (by omega) hM3 hf3
              | some t =>
                have hb' := TT_bd hG' hT
                rw [if_neg (show ¬ cT (some t) = (-6 : Int32) from cT_ne hb')]
                by_cases c : nI w < iI t
                · rw [if_pos (show nI w < cT (some t) from c), if_pos (show nI w < mT (some t) from c), nI_1]
                  exact ih (k + 1) _ w3 m3 rfl (by omega) (by omega) hM3 hf3
                · rw [if_neg (show ¬ nI w < cT (some t) from c), if_neg (show ¬ nI w < mT (some t) from c)]
                  exact ⟨nI k, w3, m3, rfl, rfl, hf3⟩
        have hM0 : ∃ x, MP (pL (pij oc i j) x) 1000 m1 := ⟨pij oc i j 5, l2⟩
        obtain ⟨r, w', m', a1, a2, a3⟩ := key 2000 0 0 ow m1 rfl (by omega) (by omega) hM0 (fun q hq => l3 q (by omega))
        rw [a1, a2]
        exact ⟨r, w', m', rfl, rfl, Inv_fr a3 hI⟩
      · rw [e5]
        exact ⟨-2, ow, om, rfl, rfl, hI⟩
    · rw [e3, e4]
      exact ⟨-2, ow, om, rfl, rfl, hI⟩
  · rw [e1, e2]
    exact ⟨-1, ow, om, rfl, rfl, hI⟩
