/-! judge, fits. -/
def FrC (m m' : Ob) : Prop := ∀ i, i < 7 ∨ 22 ≤ i → m' i = m i
theorem FrC_t {a b c : Ob} (h : FrC a b) (h' : FrC b c) : FrC a c := fun i hi => (h' i hi).trans (h i hi)
theorem FrC_Inv {oc oy oz : Ob} {ok : Nat → Int32} {of om om' : Ob} (h : FrC om om') (hI : Inv oc oy oz ok of om) : Inv oc oy oz ok of om' := Inv_fr (fun k hk => h k (by omega)) hI
theorem unlike_ok {oc of om : Ob} (hC : Cr oc om) (hP : Pd of om) {i j : Nat} (hi : i < 8) (hj : j < 8) (hij : i ≠ j) (ri : oc 0 i = 1) (rj : oc 0 j = 1) {v1 v2 : Int32} (ev : v1 = nI i) (ew : v2 = nI j) (ow : Ob) :
    ∃ r w' m', F_X5_firstUnlike oc of ow v1 v2 = some (r, w') ∧ F_X6_judged om v1 v2 = some (r, m') ∧ FrC om m' ∧ (r = -6 ∨ ∃ k : Nat, k < 40 ∧ r = nI k) := by
  subst ev
  subst ew
  have hG := pij_G hC hi hj ri rj
  obtain ⟨n, hn, e1, e2, e3⟩ := hP
  unfold F_X5_firstUnlike F_X6_judged
  obtain ⟨w1, t1, t2⟩ := tie_ok hi hj hij ri rj ow
  obtain ⟨m1, l1, l2, l3⟩ := lay_ok hC hi hj
  obtain ⟨m2, b1, b2, b3⟩ := begin_ok l2
  rw [t1, l1]
  simp only [bsome]
  rw [b1]
  simp only [bsome]
  rw [jn_eq, jn_eq]
  have key : ∀ (f k : Nat) (v : Int32) (w m : Ob), v = nI k → k ≤ n → n - k < f → WK (pij oc i j) k w → MK (pij oc i j) k m → FrC om m →
      ∃ r w' m', L_X5_firstUnlike_15 f of v w (fun (ow3 : Ob) => some ((-6), ow3)) = some (r, w') ∧ L_X6_judged_12 f v m (fun (om4 : Ob) => some ((-6), om4)) = some (r, m') ∧ FrC om m' ∧ (r = -6 ∨ ∃ k : Nat, k < 40 ∧ r = nI k) := by
    intro f
    induction f with
    | zero => intro k v w m _ _ h; exact absurd h (by omega)
    | succ f ih =>
      intro k v w m hv hk hf hW hM hF
      subst hv
      rw [L_X5_firstUnlike_15.eq_2, L_X6_judged_12.eq_2, e1, hF 28 (by omega), e2]
      by_cases hkn : n ≤ k
      · have h : nI n ≤ nI k := (nI_leI (by omega) (by omega)).mpr hkn
        rw [if_pos h, if_pos h]
        exact ⟨-6, w, m, rfl, rfl, hF, Or.inl rfl⟩
      · have h : ¬ nI n ≤ nI k := fun q => hkn ((nI_leI (by omega) (by omega)).mp q)
        have h0 : ¬ nI k < (0 : Int32) := fun q => absurd ((nI_ltI (b := 0) (by omega) (by omega)).mp q) (by omega)
        rw [if_neg h, if_neg h]
        obtain ⟨w2, s1, s2, s3, -⟩ := wst hG hW (by omega)
        obtain ⟨m2', u1, u2, u3, -, u5⟩ := mst hG hM (by omega)
        have hF2 : FrC om m2' := fun q hq => (u5 q (by omega)).trans (hF q hq)
        rw [s1, u1]
        simp only [bsome]
        unfold F_X1_canShow
        rw [if_neg h0, e1, if_neg h, ck_ok (by omega) (by omega), ck_ok (by omega) (by omega), ck_ok (by omega) (by omega), ck_ok (by omega) (by omega), nI_cl (by omega), e3 k (by omega), s3, u3, hF2 27 (by omega)]
        simp only [dd, nI_1]
        obtain ⟨r, w', m', a1, a2, a3, a4⟩ := ih (k + 1) _ w2 m2' rfl (by omega) (by omega) s2 u2 hF2
        by_cases c1 : om 27 k = sg (pij oc i j) k
        · rw [if_pos c1, if_pos c1, bsome, if_neg i10, a1, a2]
          refine ⟨r, w', m', rfl, ?_, a3, a4⟩
          split <;> rfl
        · rw [if_neg c1, if_neg c1]
          by_cases c2 : om 27 k = 63
          · rw [if_pos c2, if_pos c2, bsome, if_neg i10, a1, a2]
            exact ⟨r, w', m', rfl, rfl, a3, a4⟩
          · rw [if_neg c2, if_neg c2, bsome, if_pos rfl]
            exact ⟨nI k, w2, m2', rfl, rfl, hF2, Or.inr ⟨k, by omega, rfl⟩⟩
  exact key 2000 0 0 w1 m2 rfl (by omega) (by omega) t2 b2 (fun q hq => (b3 q (by omega)).trans (l3 q (by omega)))
theorem n6k {k : Nat} (h : k < 40) : ¬ nI k = (-6 : Int32) := by
  rw [nI_iI]
  exact fun q => absurd ((iI_eq (b := -6) (by omega)).mp q) (by omega)
theorem n0k {k : Nat} (h : k < 40) : ¬ nI k < (0 : Int32) := fun q => absurd ((nI_ltI (b := 0) (by omega) (by omega)).mp q) (by omega)
theorem p0k {k : Nat} (h : k < 40) : (0 : Int32) ≤ nI k := (nI_leI (a := 0) (by omega) (by omega)).mpr (by omega)
theorem eq_judge (oc : Ob) (oy : Ob) (oz : Ob) (ok : (Nat → Int32)) (of : Ob) (ow : Ob) (om : Ob) (p0 p1 : Int32) (hI : Inv oc oy oz ok of om) : ∃ (r : Int32) (ow' : Ob) (om' : Ob), F_X5_judge oc of ow p0 p1 = some (r, ow') ∧ F_X6_judge om p0 p1 = some (r, om') ∧ Inv oc oy oz ok of om' := by
  have hC := hI.1
  unfold F_X5_judge F_X6_judge
  rcases two_or hC p0 p1 with ⟨i, j, hi, hj, hij, rfl, rfl, r1, r2, e1, e2⟩ | ⟨e1, e2⟩
  · rw [e1, e2, (fault_eq hI.2.1).1]
    obtain ⟨r, w', m', a1, a2, a3, -⟩ := unlike_ok hC hI.2.1 hi hj hij r1 r2 rfl rfl ow
    rw [a1, a2]
    rcases (fault_eq hI.2.1).2 with e | ⟨k, hk, e⟩
    · rw [e]
      simp only [bsome, if_neg i10, if_true]
      rw [if_pos (show (-6 : Int32) < 0 by decide)]
      exact ⟨r, w', m', rfl, rfl, FrC_Inv a3 hI⟩
    · rw [e]
      simp only [bsome, if_neg i10]
      rw [if_neg (n6k hk), if_neg (n0k hk)]
      exact ⟨-5, ow, om, rfl, rfl, hI⟩
  · rw [e1, e2]
    exact ⟨-1, ow, om, rfl, rfl, hI⟩
theorem eq_fits (oc : Ob) (oy : Ob) (oz : Ob) (ok : (Nat → Int32)) (of : Ob) (ow : Ob) (om : Ob) (p0 : Int32) (hI : Inv oc oy oz ok of om) : ∃ (r : Int32) (ow' : Ob) (om' : Ob), F_X5_fits oc of ow p0 = some (r, ow') ∧ F_X6_fits om p0 = some (r, om') ∧ Inv oc oy oz ok of om' := by
  unfold F_X5_fits F_X6_fits
  rw [(fault_eq hI.2.1).1]
  rcases (fault_eq hI.2.1).2 with e | ⟨k, hk, e⟩
  · rw [e]
    simp only [bsome, if_true]
    rw [if_pos (show (-6 : Int32) < 0 by decide), jn_eq, jn_eq]
    have inner : ∀ (i : Nat), i < 8 → ∀ (f j : Nat) (v x y : Int32) (w m : Ob) (K K2 : Int32 → Ob → Option (Int32 × Ob)), v = nI j → y = nI i → j ≤ 8 → 8 - j < f → FrC om m →
        (∃ r w' m', L_X5_fits_30 f p0 y oc of x v w K = some (r, w') ∧ L_X6_fits_25 f p0 y x v m K2 = some (r, m') ∧ FrC om m') ∨
        (∃ x' w' m', L_X5_fits_30 f p0 y oc of x v w K = K x' w' ∧ L_X6_fits_25 f p0 y x v m K2 = K2 x' m' ∧ FrC om m') := by
      intro i hi f
      induction f with
      | zero => intro j v x y w m K K2 _ _ _ h; exact absurd h (by omega)
      | succ f ih =>
        intro j v x y w m K K2 hv hy hj hf hF
        subst hv
        subst hy
        have hI' := FrC_Inv hF hI
        rw [L_X5_fits_30.eq_2, L_X6_fits_25.eq_2]
        by_cases h8 : j = 8
        · subst h8
          rw [if_pos (show (8 : Int32) ≤ nI 8 by decide), if_pos (show (8 : Int32) ≤ nI 8 by decide)]
          exact Or.inr ⟨x, w, m, rfl, rfl, hF⟩
        · have h : ¬ (8 : Int32) ≤ nI j := fun q => absurd ((nI_leI (a := 8) (by omega) (by omega)).mp q) (by omega)
          rw [if_neg h, if_neg h]
          simp only [dd, nI_1]
          rcases two_or hI'.1 (nI i) (nI j) with ⟨i', j', hi', hj', hij, ei, ej, r1, r2, e1, e2⟩ | ⟨e1, e2⟩
          · rw [e1, e2]
            simp only [bsome, if_neg i10]
            obtain ⟨r, w', m', a1, a2, a3, a4⟩ := unlike_ok hI'.1 hI'.2.1 hi' hj' hij r1 r2 ei ej w
            have hF' := FrC_t hF a3
            rw [a1, a2]
            simp only [bsome]
            rcases a4 with rfl | ⟨k, hk, rfl⟩
            · rw [if_pos rfl, if_neg (show ¬ (0 : Int32) ≤ -6 by decide)]
              by_cases c : x = p0
              · rw [if_pos c, if_pos c]
                exact Or.inl ⟨_, w', m', rfl, rfl, hF'⟩
              · rw [if_neg c, if_neg c]
                exact ih (j + 1) _ _ _ w' m' K K2 rfl rfl (by omega) (by omega) hF'
            · rw [if_neg (n6k hk), if_pos (p0k hk)]
              exact ih (j + 1) _ _ _ w' m' K K2 rfl rfl (by omega) (by omega) hF'
          · rw [e1, e2]
            simp only [bsome, if_true]
            exact ih (j + 1) _ _ _ w m K K2 rfl rfl (by omega) (by omega) hF
    have outer : ∀ (f i : Nat) (v x : Int32) (w m : Ob) (K K2 : Int32 → Ob → Option (Int32 × Ob)), v = nI i → i ≤ 8 → 8 - i < f → FrC om m →
        (∃ r w' m', L_X5_fits_19 f p0 oc of x v w K = some (r, w') ∧ L_X6_fits_14 f p0 x v m K2 = some (r, m') ∧ FrC om m') ∨
        (∃ x' w' m', L_X5_fits_19 f p0 oc of x v w K = K x' w' ∧ L_X6_fits_14 f p0 x v m K2 = K2 x' m' ∧ FrC om m') := by
      intro f
      induction f with
      | zero => intro i v x w m K K2 _ _ h; exact absurd h (by omega)
      | succ f ih =>
        intro i v x w m K K2 hv hi hf hF
        subst hv
        rw [L_X5_fits_19.eq_2, L_X6_fits_14.eq_2]
        by_cases h8 : i = 8
        · subst h8
          rw [if_pos (show (8 : Int32) ≤ nI 8 by decide), if_pos (show (8 : Int32) ≤ nI 8 by decide)]
          exact Or.inr ⟨x, w, m, rfl, rfl, hF⟩
        · have h : ¬ (8 : Int32) ≤ nI i := fun q => absurd ((nI_leI (a := 8) (by omega) (by omega)).mp q) (by omega)
          rw [if_neg h, if_neg h]
          simp only [dd, nI_1]
          rw [jn_eq, jn_eq]
          rcases inner i (by omega) 2000 (i + 1) _ x _ w m (fun (v15 : Int32) (ow16 : Ob) => L_X5_fits_19 f p0 oc of v15 (nI (i + 1)) ow16 K) (fun (v15 : Int32) (om16 : Ob) => L_X6_fits_14 f p0 v15 (nI (i + 1)) om16 K2) rfl rfl (by omega) (by omega) hF with ⟨r, w', m', a1, a2, a3⟩ | ⟨x', w', m', a1, a2, a3⟩
          · rw [a1, a2]
            exact Or.inl ⟨r, w', m', rfl, rfl, a3⟩
          · rw [a1, a2]
            exact ih (i + 1) _ x' w' m' K K2 rfl (by omega) (by omega) a3
    rcases outer 2000 0 0 0 ow om (fun (v4 : Int32) (ow5 : Ob) => (if p0 = (-1) then some (v4, ow5) else some ((-6), ow5))) (fun (v4 : Int32) (om5 : Ob) => (if p0 = (-1) then some (v4, om5) else some ((-6), om5))) rfl (by omega) (by omega) (fun _ _ => rfl) with ⟨r, w', m', a1, a2, a3⟩ | ⟨x', w', m', a1, a2, a3⟩
    · rw [a1, a2]
      exact ⟨r, w', m', rfl, rfl, FrC_Inv a3 hI⟩
    · rw [a1, a2]
      by_cases c : p0 = (-1)
      · rw [if_pos c, if_pos c]
        exact ⟨x', w', m', rfl, rfl, FrC_Inv a3 hI⟩
      · rw [if_neg c, if_neg c]
        exact ⟨-6, w', m', rfl, rfl, FrC_Inv a3 hI⟩
  · rw [e]
    simp only [bsome]
    rw [if_neg (n6k hk), if_neg (n0k hk)]
    exact ⟨-5, ow, om, rfl, rfl, hI⟩
