theorem CrT_congr {c c' : Ob} {run run' lu lu' fa fa' up up' : Int32} {b b' g g' h h' : Nat → Int32} (hC : CrT c run lu fa up b g h) (e0 : ∀ a j, a < 4 → j < 8 → c' a j = c a j) (e1 : ∀ a, 4 ≤ a → a < 7 → c' a 0 = c a 0) (q0 : run' = run) (q1 : lu' = lu) (q2 : fa' = fa) (q3 : up' = up) (qb : ∀ j, j < 8 → b' j = b j ∧ g' j = g j ∧ h' j = h j) : CrT c' run' lu' fa' up' b' g' h' := by
  obtain ⟨mask, hm, hr, hb, ha, hg, c4, c5, c6, l, f, u, hs⟩ := hC
  refine ⟨mask, hm, by rw [q0, hr], fun i hi => by rw [e0 0 i (by omega) hi]; exact hb i hi, fun i hi => ?_, fun i hi ht => ?_, by rw [e1 4 (by omega) (by omega), c4, q1], by rw [e1 5 (by omega) (by omega), c5, q2], by rw [e1 6 (by omega) (by omega), c6, q3], l, f, u, by rw [q1, q2, q3]; exact hs⟩
  · rw [e0 1 i (by omega) hi, e0 2 i (by omega) hi, e0 3 i (by omega) hi, (qb i hi).1, (qb i hi).2.1, (qb i hi).2.2]
    exact ha i hi
  · rw [(qb i hi).1, (qb i hi).2.1, (qb i hi).2.2]
    exact hg i hi ht
theorem Im_congr {c m m' : Ob} {o : Nat} (h : ∀ k, o ≤ k → k < o + 28 → m' 29 k = m 29 k) (hI : Im c m o) : Im c m' o :=
  CrT_congr hI (fun _ _ _ _ => rfl) (fun _ _ _ => rfl) (h _ (by omega) (by omega)) (h _ (by omega) (by omega)) (h _ (by omega) (by omega)) (h _ (by omega) (by omega)) (fun j hj => ⟨h _ (by omega) (by omega), h _ (by omega) (by omega), h _ (by omega) (by omega)⟩)
theorem eq_image (oc : Ob) (oy : Ob) (oz : Ob) (ok : (Nat → Int32)) (of : Ob) (om : Ob) (p0 : Int32) (hI : Inv oc oy oz ok of om) : ∃ (r : Int32) (oy' : Ob) (oz' : Ob) (ok' : (Nat → Int32)) (om' : Ob), F_X5_image oc oy oz ok p0 = some (r, oy', oz', ok') ∧ F_X6_image om p0 = some (r, om') ∧ Inv oc oy' oz' ok' of om' := by
  obtain ⟨hC, ⟨n, hn, e1, e2, e3⟩, h3, h4, h5⟩ := id hI
  obtain ⟨mask, hm, hr, hb, -⟩ := id hC
  unfold F_X5_image F_X6_image
  rw [in_if p0 0 1 (A := 0) (B := 1) rfl rfl]
  rcases rng p0 0 1 0 1 rfl rfl (by omega) (by omega) with ⟨k, -, hk, rfl, e⟩ | e
  · rw [e]
    simp only [Option.bind_some, if_neg i10, dd]
    have e40 : (40 : Int32) * nI k = nI (40 * k) := pk_mul 40 k
    rw [e40]
    obtain ⟨m0, hm0⟩ : ∃ t, t = sO (sO om 31 (cst (nI (40 * k)))) 32 (cst 1) := ⟨_, rfl⟩
    rw [← hm0]
    have f0 : ∀ a, a ≠ 31 → a ≠ 32 → m0 a = om a := fun a h1 h2 => by rw [hm0, sO_ne _ _ _ _ h2, sO_ne _ _ _ _ h1]
    have m31 : m0 31 0 = nI (40 * k) := by rw [hm0, sO_ne _ _ _ _ (by decide), sO_eq]; rfl
    have m32 : ¬ m0 32 0 = 0 := by rw [hm0, sO_eq, cst_at]; exact i10
    obtain ⟨t, t0, ta, tb, tc, k0, k1, k2, k3, k4, k5⟩ := pass_w m0 (40 * k) (by omega) m31 m32
    rw [t0]
    simp only [Option.bind_some, ck_ok (show k < 2 by omega) (show 2 < 2000000000 by omega), nI_cl (show k < 2000000000 by omega), nar1]
    obtain ⟨m', hm'⟩ : ∃ x, x = sO t 30 (upd (t 30) k 1) := ⟨_, rfl⟩
    rw [← hm']
    have g1 : ∀ a, a ≠ 30 → m' a = t a := fun a h => by rw [hm', sO_ne _ _ _ _ h]
    have g30 : ∀ j, m' 30 j = if j = k then 1 else om 30 j := fun j => by
      rw [hm', sO_eq, upd_at, tc 30 (by omega) (by decide) (by decide), f0 30 (by decide) (by decide)]
    have g29 : ∀ j, m' 29 j = t 29 j := fun j => by rw [g1 29 (by decide)]
    have hC' : Cr oc m' := CrT_congr hC (fun _ _ _ _ => rfl) (fun _ _ _ => rfl) (by rw [g1 0 (by decide), ta 0 (by omega), f0 0 (by decide) (by decide)]) (by rw [g1 4 (by decide), ta 4 (by omega), f0 4 (by decide) (by decide)]) (by rw [g1 5 (by decide), ta 5 (by omega), f0 5 (by decide) (by decide)]) (by rw [g1 6 (by decide), ta 6 (by omega), f0 6 (by decide) (by decide)])
      (fun j _ => ⟨by rw [g1 1 (by decide), tb 1 j (by omega) (by omega), f0 1 (by decide) (by decide)], by rw [g1 2 (by decide), tb 2 j (by omega) (by omega), f0 2 (by decide) (by decide)], by rw [g1 3 (by decide), tb 3 j (by omega) (by omega), f0 3 (by decide) (by decide)]⟩)
    have hPd : Pd of m' := ⟨n, hn, e1, by rw [g1 28 (by decide), tc 28 (by omega) (by decide) (by decide), f0 28 (by decide) (by decide)]; exact e2, fun i hi => by rw [g1 27 (by decide), tc 27 (by omega) (by decide) (by decide), f0 27 (by decide) (by decide)]; exact e3 i hi⟩
    have hIm : ∀ c' : Ob, (∀ a, 4 ≤ a → a < 7 → c' a 0 = oc a 0) → (∀ a j, a < 4 → j < 8 → c' a j = oc a j) → Im c' m' (40 * k) := fun c' u1 u2 =>
      CrT_congr hC u2 u1 (by rw [g29, k0, f0 0 (by decide) (by decide)]) (by rw [g29, k1, f0 4 (by decide) (by decide)]) (by rw [g29, k2, f0 5 (by decide) (by decide)]) (by rw [g29, k3, f0 6 (by decide) (by decide)])
        (fun j hj => ⟨by rw [g29, (k4 j hj).1, f0 1 (by decide) (by decide)], by rw [g29, (k4 j hj).2.1, f0 2 (by decide) (by decide)], by rw [g29, (k4 j hj).2.2, f0 3 (by decide) (by decide)]⟩)
    have hok : ∀ i, i < 2 → upd ok k 1 i = m' 30 i := fun i hi => by
      rw [g30, upd_at]
      by_cases hik : i = k
      · rw [if_pos hik, if_pos hik]
      · rw [if_neg hik, if_neg hik]; exact h3 i hi
    rcases (show k = 0 ∨ k = 1 by omega) with rfl | rfl
    · rw [if_pos (show nI 0 = (0 : Int32) from rfl)]
      obtain ⟨c', r0, r1, r2⟩ := copy_ok oy oc mask hb
      rw [r0]
      refine ⟨1, c', oz, upd ok 0 1, m', rfl, rfl, hC', hPd, hok, Or.inr ⟨by rw [upd_at, if_pos rfl], hIm c' r1 r2⟩, ?_⟩
      rcases h5 with h5 | ⟨h5, h6⟩
      · exact Or.inl (by rw [upd_at, if_neg (by decide)]; exact h5)
      · exact Or.inr ⟨by rw [upd_at, if_neg (by decide)]; exact h5, Im_congr (fun q hq1 hq2 => by rw [g29, k5 q (by omega), f0 29 (by decide) (by decide)]) h6⟩
    · rw [if_neg (show ¬ nI 1 = (0 : Int32) by decide)]
      obtain ⟨c', r0, r1, r2⟩ := copy_ok oz oc mask hb
      rw [r0]
      refine ⟨1, oy, c', upd ok 1 1, m', rfl, rfl, hC', hPd, hok, ?_, Or.inr ⟨by rw [upd_at, if_pos rfl], hIm c' r1 r2⟩⟩
      rcases h4 with h4 | ⟨h4, h6⟩
      · exact Or.inl (by rw [upd_at, if_neg (by decide)]; exact h4)
      · exact Or.inr ⟨by rw [upd_at, if_neg (by decide)]; exact h4, Im_congr (fun q hq1 hq2 => by rw [g29, k5 q (by omega), f0 29 (by decide) (by decide)]) h6⟩
  · rw [e]
    exact ⟨-2, oy, oz, ok, om, rfl, rfl, hI⟩
theorem eq_restore (oc : Ob) (oy : Ob) (oz : Ob) (ok : (Nat → Int32)) (of : Ob) (om : Ob) (p0 : Int32) (hI : Inv oc oy oz ok of om) : ∃ (r : Int32) (oc' : Ob) (om' : Ob), F_X5_restore oc oy oz ok p0 = some (r, oc') ∧ F_X6_restore om p0 = some (r, om') ∧ Inv oc' oy oz ok of om' := by
  obtain ⟨hC, ⟨n, hn, e1, e2, e3⟩, h3, h4, h5⟩ := id hI
  unfold F_X5_restore F_X6_restore
  rw [in_if p0 0 1 (A := 0) (B := 1) rfl rfl]
  rcases rng p0 0 1 0 1 rfl rfl (by omega) (by omega) with ⟨k, -, hk, rfl, e⟩ | e
  · rw [e]
    simp only [Option.bind_some, if_neg i10, dd, ck_ok (show k < 2 by omega) (show 2 < 2000000000 by omega), nI_cl (show k < 2000000000 by omega)]
    rw [← h3 k (by omega)]
    have go : ∀ c : Ob, Im c om (40 * k) → ∃ (c' om' : Ob), F_X0_copyFrom oc c = some c' ∧ F_X6_passAll (sO (sO om 31 (cst (40 * nI k))) 32 (cst 0)) = some om' ∧ Inv c' oy oz ok of om' := by
      intro c hIm
      obtain ⟨mask, hm, hr, hb, -⟩ := id hIm
      obtain ⟨c', r0, r1, r2⟩ := copy_ok oc c mask hb
      have e40 : (40 : Int32) * nI k = nI (40 * k) := pk_mul 40 k
      rw [e40]
      obtain ⟨m0, hm0⟩ : ∃ t, t = sO (sO om 31 (cst (nI (40 * k)))) 32 (cst 0) := ⟨_, rfl⟩
      rw [← hm0]
      have f0 : ∀ a, a ≠ 31 → a ≠ 32 → m0 a = om a := fun a h1 h2 => by rw [hm0, sO_ne _ _ _ _ h2, sO_ne _ _ _ _ h1]
      have m31 : m0 31 0 = nI (40 * k) := by rw [hm0, sO_ne _ _ _ _ (by decide), sO_eq]; rfl
      have m32 : m0 32 0 = 0 := by rw [hm0, sO_eq]; rfl
      obtain ⟨t, t0, k0, k1, k2, k3, k4, tc, k5⟩ := pass_r m0 (40 * k) (by omega) m31 m32
      rw [f0 29 (by decide) (by decide)] at k0 k1 k2 k3 k4 k5
      refine ⟨c', t, r0, t0, CrT_congr hIm r2 r1 k0 k1 k2 k3 (fun j hj => k4 j hj), ⟨n, hn, e1, by rw [tc 28 (by omega) (by decide) (by decide), f0 28 (by decide) (by decide)]; exact e2, fun i hi => by rw [tc 27 (by omega) (by decide) (by decide), f0 27 (by decide) (by decide)]; exact e3 i hi⟩, fun i hi => by rw [tc 30 (by omega) (by decide) (by decide), f0 30 (by decide) (by decide)]; exact h3 i hi, ?_, ?_⟩
      · rcases h4 with h4 | ⟨h4, h6⟩
        · exact Or.inl h4
        · exact Or.inr ⟨h4, Im_fr k5 h6⟩
      · rcases h5 with h5 | ⟨h5, h6⟩
        · exact Or.inl h5
        · exact Or.inr ⟨h5, Im_fr k5 h6⟩
    rcases (show k = 0 ∨ k = 1 by omega) with rfl | rfl
    · rcases h4 with h4 | ⟨h4, h6⟩
      · rw [h4, if_pos rfl, if_pos rfl]
        exact ⟨-3, oc, om, rfl, rfl, hI⟩
      · obtain ⟨c', om', r0, r1, r2⟩ := go oy h6
        rw [h4, if_neg i10, if_neg i10, if_pos (show nI 0 = (0 : Int32) from rfl), r0, r1]
        exact ⟨1, c', om', rfl, rfl, r2⟩
    · rcases h5 with h5 | ⟨h5, h6⟩
      · rw [h5, if_pos rfl, if_pos rfl]
        exact ⟨-3, oc, om, rfl, rfl, hI⟩
      · obtain ⟨c', om', r0, r1, r2⟩ := go oz h6
        rw [h5, if_neg i10, if_neg i10, if_neg (show ¬ nI 1 = (0 : Int32) by decide), r0, r1]
        exact ⟨1, c', om', rfl, rfl, r2⟩
  · rw [e]
    exact ⟨-2, oc, om, rfl, rfl, hI⟩
theorem told_out {p : Int32} (e : F_X5_isWithin p 10 89 = some 0) {i : Nat} (hi : i < 8) (h : p / 10 - 1 = nI i) : False := by
  have h1 : p / 10 = nI (i + 1) := by
    rw [← nI_1, ← h]
    exact (Int32.sub_add_cancel _ _).symm
  have h2 : (p / 10).toInt = p.toInt.tdiv 10 := by
    rw [Int32.toInt_div_of_ne_right _ _ (by decide)]
    rfl
  rw [h1, nI_toInt (by omega)] at h2
  unfold F_X5_isWithin at e
  split at e
  · next q =>
    rw [Int32.lt_iff_toInt_lt] at q
    have q' : p.toInt < 10 := q
    rcases Int.le_total 0 p.toInt with a | a
    · rw [Int.tdiv_eq_ediv_of_nonneg a] at h2
      omega
    · have h3 : p.toInt.tdiv 10 = -((-p.toInt).tdiv 10) := by rw [Int.neg_tdiv, Int.neg_neg]
      rw [h3, Int.tdiv_eq_ediv_of_nonneg (by omega)] at h2
      omega
  · split at e
    · next q0 q =>
      rw [Int32.lt_iff_toInt_lt] at q
      have q' : 89 < p.toInt := q
      rw [Int.tdiv_eq_ediv_of_nonneg (by omega)] at h2
      omega
    · cases e
theorem eq_told (oc : Ob) (oy : Ob) (oz : Ob) (ok : (Nat → Int32)) (of : Ob) (om : Ob) (p0 : Int32) (hI : Inv oc oy oz ok of om) : ∃ (r : Int32), F_X5_told oc of p0 = some r ∧ F_X6_told om p0 = some r ∧ Inv oc oy oz ok of om := by
  obtain ⟨⟨mask, hm, hr, hb, ha, hg, c4, c5, c6, -⟩, ⟨n, hn, e1, e2, e3⟩, -⟩ := id hI
  unfold F_X5_told F_X6_told
  rw [in_if p0 10 89 (A := 10) (B := 89) rfl rfl]
  by_cases g0 : p0 = 0
  · subst g0
    exact ⟨nI n, by simp [e1], by rw [show F_X5_isWithin 0 10 89 = some 0 from rfl]; simp [e2], hI⟩
  by_cases g1 : p0 = 1
  · subst g1
    exact ⟨nI mask, by rw [if_neg i10, if_pos rfl, bits_eq hm hb]; rfl, by rw [show F_X5_isWithin 1 10 89 = some 0 from rfl, Option.bind_some, if_pos rfl, if_neg i10, if_pos rfl, hr], hI⟩
  by_cases g2 : p0 = 2
  · subst g2
    exact ⟨om 4 0, by rw [if_neg g0, if_neg g1, if_pos rfl, c4], by rw [show F_X5_isWithin 2 10 89 = some 0 from rfl, Option.bind_some, if_pos rfl, if_neg g0, if_neg g1, if_pos rfl], hI⟩
  by_cases g3 : p0 = 3
  · subst g3
    exact ⟨om 5 0, by rw [if_neg g0, if_neg g1, if_neg g2, if_pos rfl, c5], by rw [show F_X5_isWithin 3 10 89 = some 0 from rfl, Option.bind_some, if_pos rfl, if_neg g0, if_neg g1, if_neg g2, if_pos rfl], hI⟩
  by_cases g4 : p0 = 4
  · subst g4
    exact ⟨om 6 0, by rw [if_neg g0, if_neg g1, if_neg g2, if_neg g3, if_pos rfl, c6], by rw [show F_X5_isWithin 4 10 89 = some 0 from rfl, Option.bind_some, if_pos rfl, if_neg g0, if_neg g1, if_neg g2, if_neg g3, if_pos rfl], hI⟩
  rw [if_neg g0, if_neg g1, if_neg g2, if_neg g3, if_neg g4]
  simp only [dd]
  unfold F_X5_toldOfPerson
  have hR := runs_or hm hr hb (p0 / 10 - 1)
  rcases rng p0 10 89 10 89 rfl rfl (by omega) (by omega) with ⟨v, hv1, hv2, rfl, e⟩ | e
  · rw [e]
    simp only [Option.bind_some, if_neg i10]
    rcases hR with ⟨i, hi, hp, hbi, h1, h2⟩ | ⟨h1, h2⟩
    · rw [h1, h2]
      simp only [Option.bind_some, if_neg i10]
      rw [hp]
      have hrem : nI v - nI v / 10 * 10 = nI (v % 10) := pk_rem (d := 10) (by omega) (by omega) (by omega)
      rw [hrem]
      simp only [ck_ok hi (show 8 < 2000000000 by omega), nI_cl (show i < 2000000000 by omega), (ha i hi).1, (ha i hi).2.1, (ha i hi).2.2]
      by_cases q0 : v % 10 = 0
      · rw [q0]
        exact ⟨om 1 i, rfl, rfl, hI⟩
      · by_cases q1 : v % 10 = 1
        · rw [q1]
          exact ⟨om 2 i, rfl, rfl, hI⟩
        · by_cases q2 : v % 10 = 2
          · rw [q2]
            exact ⟨om 3 i, rfl, rfl, hI⟩
          · have w0 : ¬ nI (v % 10) = (0 : Int32) := fun q => q0 ((nI_eq (b := 0) (by omega) (by omega)).mp q)
            have w1 : ¬ nI (v % 10) = (1 : Int32) := fun q => q1 ((nI_eq (b := 1) (by omega) (by omega)).mp q)
            have w2 : ¬ nI (v % 10) = (2 : Int32) := fun q => q2 ((nI_eq (b := 2) (by omega) (by omega)).mp q)
            have w3 : ¬ nI (v % 10) ≤ (2 : Int32) := fun q => absurd ((nI_leI (b := 2) (by omega) (by omega)).mp q) (by omega)
            rw [if_neg w0, if_neg w1, if_neg w2, if_neg w3]
            exact ⟨-2, rfl, rfl, hI⟩
    · rw [h1, h2]
      exact ⟨-2, rfl, rfl, hI⟩
  · rw [e]
    rcases hR with ⟨i, hi, hp, -⟩ | ⟨h1, h2⟩
    · exact absurd hp (fun q => told_out e hi q)
    · rw [h1]
      simp only [Option.bind_some, if_true, if_neg g0, if_neg g1, if_neg g2, if_neg g3, if_neg g4]
      exact ⟨-2, rfl, rfl, hI⟩
