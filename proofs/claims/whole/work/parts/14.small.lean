/-! The small calls: say, wipe, fault, set, run, rest, told. -/
theorem sO_eq (o : Ob) (i : Nat) (f : Nat → Int32) : sO o i f i = f := by
  unfold sO
  rw [Nat.beq_refl]
  rfl
theorem sO_ne (o : Ob) (i k : Nat) (f : Nat → Int32) (h : k ≠ i) : sO o i f k = o k := by
  unfold sO
  cases hb : Nat.beq k i with
  | true => exact absurd (Nat.eq_of_beq_eq_true hb) h
  | false => rfl
theorem sO_at (o : Ob) (i k : Nat) (f : Nat → Int32) : sO o i f k = if k = i then f else o k := by
  by_cases h : k = i
  · subst h; rw [sO_eq, if_pos rfl]
  · rw [sO_ne _ _ _ _ h, if_neg h]
theorem cst_at (x : Int32) (i : Nat) : cst x i = x := rfl
theorem upd_at (f : Nat → Int32) (k : Nat) (x : Int32) (j : Nat) : upd f k x j = if j = k then x else f j := rfl
theorem Im_fr {c om om' : Ob} {o : Nat} (h : om' 29 = om 29) (hI : Im c om o) : Im c om' o := by
  unfold Im at *
  rw [h]
  exact hI
theorem Cr_fr {c om om' : Ob} (h : ∀ i, i < 7 → om' i = om i) (hI : Cr c om) : Cr c om' := by
  unfold Cr at *
  rw [h 0 (by omega), h 1 (by omega), h 2 (by omega), h 3 (by omega), h 4 (by omega), h 5 (by omega), h 6 (by omega)]
  exact hI
theorem Inv_fr {oc oy oz : Ob} {ok : Nat → Int32} {of om om' : Ob} (h : ∀ i, i < 7 ∨ 27 ≤ i → om' i = om i) (hI : Inv oc oy oz ok of om) : Inv oc oy oz ok of om' := by
  obtain ⟨h1, ⟨n, hn, e1, e2, e3⟩, h3, h4, h5⟩ := hI
  refine ⟨Cr_fr (fun i hi => h i (Or.inl hi)) h1, ⟨n, hn, e1, by rw [h 28 (by omega)]; exact e2, fun i hi => by rw [h 27 (by omega)]; exact e3 i hi⟩, fun i hi => by rw [h 30 (by omega)]; exact h3 i hi, ?_, ?_⟩
  · rcases h4 with h4 | ⟨h4, h6⟩
    · exact Or.inl h4
    · exact Or.inr ⟨h4, Im_fr (h 29 (by omega)) h6⟩
  · rcases h5 with h5 | ⟨h5, h6⟩
    · exact Or.inl h5
    · exact Or.inr ⟨h5, Im_fr (h 29 (by omega)) h6⟩
theorem eq_say (oc : Ob) (oy : Ob) (oz : Ob) (ok : (Nat → Int32)) (of : Ob) (om : Ob) (p0 : Int32) (hI : Inv oc oy oz ok of om) : ∃ (r : Int32) (of' : Ob) (om' : Ob), F_X5_say of p0 = some (r, of') ∧ F_X6_say om p0 = some (r, om') ∧ Inv oc oy oz ok of' om' := by
  obtain ⟨h1, ⟨n, hn, e1, e2, e3⟩, h3, h4, h5⟩ := id hI
  unfold F_X5_say F_X6_say
  rw [in_if p0 33 126 (A := 33) (B := 126) rfl rfl]
  rcases rng p0 33 126 33 126 rfl rfl (by omega) (by omega) with ⟨v, hv1, hv2, rfl, e⟩ | e
  · rw [e]
    simp only [Option.bind_some, if_neg i10, e1, e2]
    by_cases h40 : n = 40
    · subst h40
      exact ⟨-4, of, om, by rw [if_neg (by decide)], by rw [if_pos (show nI 40 = (40 : Int32) from rfl)], hI⟩
    · have hlt : nI n < (40 : Int32) := (nI_ltI (b := 40) (by omega) (by omega)).mpr (by omega)
      have hge : ¬ (40 : Int32) ≤ nI n := fun q => absurd ((nI_leI (a := 40) (by omega) (by omega)).mp q) (by omega)
      have hne : ¬ nI n = (40 : Int32) := fun q => h40 ((nI_eq (b := 40) (by omega) (by omega)).mp q)
      rw [if_pos hlt, if_neg hne]
      unfold F_X1_add
      rw [e1, if_neg hge, ck_ok (by omega) (by omega), ck_ok (by omega) (by omega)]
      simp only [dd, Option.bind_some, nI_cl (show n < 2000000000 by omega), sO_eq, cst_at]
      rw [sO_ne _ _ _ _ (by decide : (1 : Nat) ≠ 0), sO_ne _ _ _ _ (by decide : (28 : Nat) ≠ 27), e1, e2, nI_1]
      refine ⟨nI (n + 1), _, _, rfl, rfl, ?_⟩
      refine ⟨Cr_fr (fun i hi => ?_) h1, ⟨n + 1, by omega, by rw [sO_eq]; rfl, by rw [sO_eq]; rfl, fun i hi => ?_⟩, ?_, ?_, ?_⟩
      · rw [sO_ne _ _ _ _ (by omega), sO_ne _ _ _ _ (by omega)]
      · rw [sO_ne _ 1 0 _ (by decide), sO_eq, sO_ne _ 28 27 _ (by decide), sO_eq, upd_at, upd_at]
        by_cases hin : i = n
        · rw [if_pos hin, if_pos hin]
        · rw [if_neg hin, if_neg hin]
          exact e3 i (by omega)
      · intro i hi
        rw [sO_ne _ _ _ _ (by decide), sO_ne _ _ _ _ (by decide)]
        exact h3 i hi
      · rcases h4 with h4 | ⟨h4, h6⟩
        · exact Or.inl h4
        · exact Or.inr ⟨h4, Im_fr (by rw [sO_ne _ _ _ _ (by decide), sO_ne _ _ _ _ (by decide)]) h6⟩
      · rcases h5 with h5 | ⟨h5, h6⟩
        · exact Or.inl h5
        · exact Or.inr ⟨h5, Im_fr (by rw [sO_ne _ _ _ _ (by decide), sO_ne _ _ _ _ (by decide)]) h6⟩
  · rw [e]
    exact ⟨-2, of, om, rfl, rfl, hI⟩
theorem eq_wipe (oc : Ob) (oy : Ob) (oz : Ob) (ok : (Nat → Int32)) (of : Ob) (om : Ob) (hI : Inv oc oy oz ok of om) : ∃ (r : Int32) (of' : Ob) (om' : Ob), F_X5_wipe of  = some (r, of') ∧ F_X6_wipe om  = some (r, om') ∧ Inv oc oy oz ok of' om' := by
  obtain ⟨h1, ⟨n, hn, e1, e2, e3⟩, h3, h4, h5⟩ := id hI
  refine ⟨nI n, sO of 1 (cst 0), sO om 28 (cst 0), by simp only [F_X5_wipe, dd, e1], by simp only [F_X6_wipe, dd, e2], ?_⟩
  refine ⟨Cr_fr (fun i hi => sO_ne _ _ _ _ (by omega)) h1, ⟨0, by omega, by rw [sO_eq]; rfl, by rw [sO_eq]; rfl, fun i hi => absurd hi (by omega)⟩, ?_, ?_, ?_⟩
  · intro i hi
    rw [sO_ne _ _ _ _ (by decide)]
    exact h3 i hi
  · rcases h4 with h4 | ⟨h4, h6⟩
    · exact Or.inl h4
    · exact Or.inr ⟨h4, Im_fr (by rw [sO_ne _ _ _ _ (by decide)]) h6⟩
  · rcases h5 with h5 | ⟨h5, h6⟩
    · exact Or.inl h5
    · exact Or.inr ⟨h5, Im_fr (by rw [sO_ne _ _ _ _ (by decide)]) h6⟩
/-- the first fault is the same -/
theorem fault_eq {f om : Ob} (hP : Pd f om) : F_X1_firstFault f = F_X6_fault om ∧ (F_X6_fault om = some (-6) ∨ ∃ k : Nat, k < 40 ∧ F_X6_fault om = some (nI k)) := by
  obtain ⟨n, hn, e1, e2, e3⟩ := hP
  have key : ∀ (j i : Nat), i ≤ n → n - i < j → L_X1_firstFault_2 j f (nI i) (some (-6)) = L_X6_fault_2 j om (nI i) (some (-6)) ∧ (L_X6_fault_2 j om (nI i) (some (-6)) = some (-6) ∨ ∃ k : Nat, k < 40 ∧ L_X6_fault_2 j om (nI i) (some (-6)) = some (nI k)) := by
    intro j
    induction j with
    | zero => intro i _ h; exact absurd h (by omega)
    | succ j ih =>
      intro i hi hj
      rw [L_X1_firstFault_2.eq_2, L_X6_fault_2.eq_2, e1, e2]
      by_cases hin : n ≤ i
      · have h : nI n ≤ nI i := (nI_leI (by omega) (by omega)).mpr hin
        rw [if_pos h, if_pos h]
        exact ⟨rfl, Or.inl rfl⟩
      · have h : ¬ nI n ≤ nI i := fun q => hin ((nI_leI (by omega) (by omega)).mp q)
        rw [if_neg h, if_neg h, ck_ok (by omega) (by omega), ck_ok (by omega) (by omega), nI_cl (by omega), e3 i (by omega)]
        simp only [dd, nI_1]
        have hi1 := ih (i + 1) (by omega) (by omega)
        rw [hi1.1]
        refine ⟨rfl, ?_⟩
        by_cases g1 : om 27 i = 115
        · rw [if_pos g1]; exact hi1.2
        · rw [if_neg g1]
          by_cases g2 : om 27 i = 108
          · rw [if_pos g2]; exact hi1.2
          · rw [if_neg g2]
            by_cases g3 : om 27 i = 102
            · rw [if_pos g3]; exact hi1.2
            · rw [if_neg g3]
              by_cases g4 : om 27 i = 63
              · rw [if_pos g4]; exact hi1.2
              · rw [if_neg g4]
                exact Or.inr ⟨i, by omega, rfl⟩
  exact key 2000 0 (by omega) (by omega)
theorem eq_fault (oc : Ob) (oy : Ob) (oz : Ob) (ok : (Nat → Int32)) (of : Ob) (om : Ob) (hI : Inv oc oy oz ok of om) : ∃ (r : Int32), F_X5_fault of  = some r ∧ F_X6_fault om  = some r ∧ Inv oc oy oz ok of om := by
  have h := fault_eq hI.2.1
  unfold F_X5_fault
  rw [h.1]
  rcases h.2 with e | ⟨k, -, e⟩
  · exact ⟨_, by rw [e]; rfl, e, hI⟩
  · exact ⟨_, by rw [e]; rfl, e, hI⟩
theorem CrT_scal {c c' : Ob} {run lu fa up : Int32} {b g h : Nat → Int32} (hC : CrT c run lu fa up b g h) (hc : ∀ i, i < 4 → c' i = c i) (l f u : Nat) (e1 : c' 4 0 = nI l) (e2 : c' 5 0 = nI f) (e3 : c' 6 0 = nI u) (q1 : l ≤ 9) (q2 : l ≤ f) (q3 : f ≤ 20) (q4 : u ≤ 99) : CrT c' run (nI l) (nI f) (nI u) b g h := by
  obtain ⟨mask, hm, hr, hb, ha, hg, -, -, -, -⟩ := hC
  exact ⟨mask, hm, hr, fun i hi => by rw [hc 0 (by omega)]; exact hb i hi, fun i hi => by rw [hc 1 (by omega), hc 2 (by omega), hc 3 (by omega)]; exact ha i hi, hg, e1, e2, e3, l, f, u, rfl, rfl, rfl, q1, q2, q3, q4⟩
theorem win (n lo hi : Nat) (h : n < 2000000000 ∧ lo < 2000000000 ∧ hi < 2000000000) : F_X5_isWithin (nI n) (nI lo) (nI hi) = some (if lo ≤ n ∧ n ≤ hi then 1 else 0) := by
  unfold F_X5_isWithin
  by_cases h1 : n < lo
  · rw [if_pos ((nI_ltI (by omega) (by omega)).mpr h1), if_neg (by omega)]
  · rw [if_neg (fun q => h1 ((nI_ltI (by omega) (by omega)).mp q))]
    by_cases h2 : hi < n
    · rw [if_pos ((nI_ltI (by omega) (by omega)).mpr h2), if_neg (by omega)]
    · rw [if_neg (fun q => h2 ((nI_ltI (by omega) (by omega)).mp q)), if_pos (by omega)]
theorem set_inv {oc oy oz : Ob} {ok : Nat → Int32} {of om oc' om' : Ob} (hI : Inv oc oy oz ok of om) (l f u : Nat) (q1 : l ≤ 9) (q2 : l ≤ f) (q3 : f ≤ 20) (q4 : u ≤ 99) (hc : ∀ i, i < 4 → oc' i = oc i) (c4 : oc' 4 0 = nI l) (c5 : oc' 5 0 = nI f) (c6 : oc' 6 0 = nI u) (e : om' = sO (sO (sO om 4 (cst (nI l))) 5 (cst (nI f))) 6 (cst (nI u))) : Inv oc' oy oz ok of om' := by
  obtain ⟨h1, ⟨n, hn, e1, e2, e3⟩, h3, h4, h5⟩ := hI
  have fr : ∀ i, i < 4 ∨ 7 ≤ i → om' i = om i := fun i hi => by
    rw [e, sO_ne _ _ _ _ (by omega), sO_ne _ _ _ _ (by omega), sO_ne _ _ _ _ (by omega)]
  refine ⟨?_, ⟨n, hn, e1, by rw [fr 28 (by omega)]; exact e2, fun i hi => by rw [fr 27 (by omega)]; exact e3 i hi⟩, fun i hi => by rw [fr 30 (by omega)]; exact h3 i hi, ?_, ?_⟩
  · unfold Cr
    rw [fr 0 (by omega), fr 1 (by omega), fr 2 (by omega), fr 3 (by omega)]
    have m4 : om' 4 0 = nI l := by rw [e, sO_ne _ _ _ _ (by omega), sO_ne _ _ _ _ (by omega), sO_eq]; rfl
    have m5 : om' 5 0 = nI f := by rw [e, sO_ne _ _ _ _ (by omega), sO_eq]; rfl
    have m6 : om' 6 0 = nI u := by rw [e, sO_eq]; rfl
    rw [m4, m5, m6]
    exact CrT_scal h1 hc l f u c4 c5 c6 q1 q2 q3 q4
  · rcases h4 with h4 | ⟨h4, h6⟩
    · exact Or.inl h4
    · exact Or.inr ⟨h4, Im_fr (fr 29 (by omega)) h6⟩
  · rcases h5 with h5 | ⟨h5, h6⟩
    · exact Or.inl h5
    · exact Or.inr ⟨h5, Im_fr (fr 29 (by omega)) h6⟩
theorem i00 : (0 : Int32) = nI 0 := rfl
theorem eq_set (oc : Ob) (oy : Ob) (oz : Ob) (ok : (Nat → Int32)) (of : Ob) (om : Ob) (p0 p1 : Int32) (hI : Inv oc oy oz ok of om) : ∃ (r : Int32) (oc' : Ob) (om' : Ob), F_X5_set oc p0 p1 = some (r, oc') ∧ F_X6_set om p0 p1 = some (r, om') ∧ Inv oc' oy oz ok of om' := by
  obtain ⟨⟨mask, hm, hr, hb, ha, hg, c4, c5, c6, l, f, u, m4, m5, m6, q1, q2, q3, q4⟩, -⟩ := id hI
  rw [m4] at c4
  rw [m5] at c5
  rw [m6] at c6
  unfold F_X5_set F_X6_set
  simp only [jn]
  by_cases h0 : p0 = 0
  · subst h0
    simp only [if_true, show ¬ (0 : Int32) = 1 by decide, show ¬ (0 : Int32) = 2 by decide, if_false]
    unfold F_X5_setLurch
    rw [in_if p1 0 9 (A := 0) (B := 9) rfl rfl, in_if p1 0 (om 5 0) (A := 0) (B := (om 5 0).toInt64) rfl rfl, m5, c5]
    rcases rng p1 0 9 0 9 rfl rfl (by omega) (by omega) with ⟨n, -, hn, rfl, e⟩ | e
    · have e2 : F_X5_isWithin (nI n) 0 (nI f) = some (if 0 ≤ n ∧ n ≤ f then 1 else 0) := win n 0 f (by omega)
      rw [e, e2]
      simp only [Option.bind_some, if_neg i10]
      by_cases hnf : n ≤ f
      · have h9 : nI n ≤ nI f := (nI_leI (by omega) (by omega)).mpr hnf
        rw [if_pos h9, if_pos (show 0 ≤ n ∧ n ≤ f by omega)]
        simp only [if_neg i10, ite_self, dd, Option.bind_some, c4]
        refine ⟨nI l, sO oc 4 (cst (nI n)), sO (sO (sO om 4 (cst (nI n))) 5 (cst (nI f))) 6 (cst (nI u)), rfl, ?_, ?_⟩
        · rw [sO_ne _ _ _ _ (by decide), m5, sO_ne _ _ _ _ (by decide), sO_ne _ _ _ _ (by decide), m6, m4]
        · exact set_inv hI n f u (by omega) hnf q3 q4 (fun i hi => sO_ne _ _ _ _ (by omega)) (by rw [sO_eq]; rfl) (by rw [sO_ne _ _ _ _ (by decide)]; exact c5) (by rw [sO_ne _ _ _ _ (by decide)]; exact c6) rfl
      · have h9 : ¬ nI n ≤ nI f := fun q => hnf ((nI_leI (by omega) (by omega)).mp q)
        have h8 : ¬ (9 : Int32) ≤ nI f := fun q => absurd ((nI_leI (a := 9) (by omega) (by omega)).mp q) (by omega)
        rw [if_neg h9, if_neg (show ¬ (0 ≤ n ∧ n ≤ f) by omega), if_neg h8]
        exact ⟨-2, oc, om, rfl, by simp, hI⟩
    · rw [e]
      simp only [Option.bind_some, if_true]
      refine ⟨-2, oc, om, rfl, ?_, hI⟩
      by_cases h8 : (9 : Int32) ≤ nI f
      · rw [if_pos h8]
      · rw [if_neg h8]
        have hf9 : f < 9 := by
          rcases Nat.lt_or_ge f 9 with q | q
          · exact q
          · exact absurd ((nI_leI (a := 9) (by omega) (by omega)).mpr q) h8
        rcases rng p1 0 (nI f) 0 f rfl rfl (by omega) (by omega) with ⟨n, -, hn, rfl, e3⟩ | e3
        · have e4 : F_X5_isWithin (nI n) 0 9 = some (if 0 ≤ n ∧ n ≤ 9 then 1 else 0) := win n 0 9 (by omega)
          rw [e4, if_pos (by omega)] at e
          cases e
        · rw [e3]
          simp
  · by_cases h1 : p0 = 1
    · subst h1
      simp only [if_true, if_neg h0]
      unfold F_X5_setFall
      rw [in_if p1 (om 4 0) 20 (A := (om 4 0).toInt64) (B := 20) rfl rfl, m4, c4]
      rcases rng p1 (nI l) 20 l 20 rfl rfl (by omega) (by omega) with ⟨n, hn1, hn, rfl, e⟩ | e
      · rw [e]
        simp only [Option.bind_some, if_neg i10, dd, c5, show ¬ (1 : Int32) = 2 by decide, if_false]
        refine ⟨nI f, sO oc 5 (cst (nI n)), sO (sO (sO om 4 (cst (nI l))) 5 (cst (nI n))) 6 (cst (nI u)), rfl, ?_, ?_⟩
        · rw [m5, sO_ne _ _ _ _ (by decide), sO_ne _ _ _ _ (by decide), m6]
        · exact set_inv hI l n u q1 hn1 hn q4 (fun i hi => sO_ne _ _ _ _ (by omega)) (by rw [sO_ne _ _ _ _ (by decide)]; exact c4) (by rw [sO_eq]; rfl) (by rw [sO_ne _ _ _ _ (by decide)]; exact c6) rfl
      · rw [e]
        exact ⟨-2, oc, om, rfl, by simp, hI⟩
    · by_cases h2 : p0 = 2
      · subst h2
        simp only [if_true, if_neg h0, if_neg h1]
        unfold F_X5_setUp
        rw [in_if p1 0 99 (A := 0) (B := 99) rfl rfl]
        rcases rng p1 0 99 0 99 rfl rfl (by omega) (by omega) with ⟨n, hn1, hn, rfl, e⟩ | e
        · rw [e]
          simp only [Option.bind_some, if_neg i10, dd, c6]
          refine ⟨nI u, sO oc 6 (cst (nI n)), sO (sO (sO om 4 (cst (nI l))) 5 (cst (nI f))) 6 (cst (nI n)), rfl, ?_, ?_⟩
          · rw [m4, m6, sO_ne _ _ _ _ (by decide), m5]
          · exact set_inv hI l f n q1 q2 q3 hn (fun i hi => sO_ne _ _ _ _ (by omega)) (by rw [sO_ne _ _ _ _ (by decide)]; exact c4) (by rw [sO_ne _ _ _ _ (by decide)]; exact c5) (by rw [sO_eq]; rfl) rfl
        · rw [e]
          exact ⟨-2, oc, om, rfl, by simp, hI⟩
      · simp only [if_neg h0, if_neg h1, if_neg h2]
        exact ⟨-2, oc, om, rfl, rfl, hI⟩
theorem bits_eq {c : Ob} {mask : Nat} (hm : mask < 256) (hc : ∀ i, i < 8 → c 0 i = if mask.testBit i then 1 else 0) : F_X0_bits c = some (nI mask) := by
  have key : ∀ (j i : Nat), i ≤ 8 → 8 - i < j → L_X0_bits_4 j c (nI (mask % 2 ^ i)) (nI i) (fun v => some v) = some (nI mask) := by
    intro j
    induction j with
    | zero => intro i _ h; exact absurd h (by omega)
    | succ j ih =>
      intro i hi hj
      rw [L_X0_bits_4.eq_2]
      by_cases h8 : i = 8
      · subst h8
        rw [if_pos (show (8 : Int32) ≤ nI 8 by decide), Nat.mod_eq_of_lt (show mask < 2 ^ 8 by omega)]
      · have h : ¬ (8 : Int32) ≤ nI i := fun q => absurd ((nI_leI (a := 8) (by omega) (by omega)).mp q) (by omega)
        rw [if_neg h, ck_ok (by omega) (by omega), nI_cl (by omega), hc i (by omega)]
        have hb := bits_dec mask hm i (by omega)
        have hi1 := ih (i + 1) (by omega) (by omega)
        cases ht : mask.testBit i with
        | true =>
          rw [ht, if_pos rfl] at hb
          rw [if_pos rfl, if_neg i10]
          simp only [dd]
          rw [hb, nI_1]
          exact hi1
        | false =>
          rw [ht, if_neg (by decide)] at hb
          rw [if_neg (show ¬ false = true by decide), if_pos rfl]
          simp only [dd]
          rw [hb, nI_1]
          exact hi1
  have h := key 2000 0 (by omega) (by omega)
  rw [Nat.pow_zero, Nat.mod_one] at h
  exact h
theorem count_eq {c : Ob} {mask : Nat} (hm : mask < 256) (hc : ∀ i, i < 8 → c 0 i = if mask.testBit i then 1 else 0) : ∃ n, n < 9 ∧ F_X0_count c = some (nI n) ∧ F_X6_ones (nI mask) = some (nI n) := by
  obtain ⟨h1, n, hn, h2⟩ := pop_dec mask hm
  refine ⟨n, hn, ?_, h2⟩
  unfold F_X0_count
  rw [bits_eq hm hc, Option.bind_some, h1, h2]
  rfl
theorem nar1 : vp_nar .boolean 1 = 1 := rfl
theorem nar0 : vp_nar .boolean 0 = 0 := rfl
/-- the crowd has changed, the rest has not -/
theorem Inv_cr {oc oy oz : Ob} {ok : Nat → Int32} {of om oc' om' : Ob} (hI : Inv oc oy oz ok of om) (hC : Cr oc' om') (fr : ∀ i, 27 ≤ i → om' i = om i) : Inv oc' oy oz ok of om' := by
  obtain ⟨-, ⟨n, hn, e1, e2, e3⟩, h3, h4, h5⟩ := hI
  refine ⟨hC, ⟨n, hn, e1, by rw [fr 28 (by omega)]; exact e2, fun i hi => by rw [fr 27 (by omega)]; exact e3 i hi⟩, fun i hi => by rw [fr 30 (by omega)]; exact h3 i hi, ?_, ?_⟩
  · rcases h4 with h4 | ⟨h4, h6⟩
    · exact Or.inl h4
    · exact Or.inr ⟨h4, Im_fr (fr 29 (by omega)) h6⟩
  · rcases h5 with h5 | ⟨h5, h6⟩
    · exact Or.inl h5
    · exact Or.inr ⟨h5, Im_fr (fr 29 (by omega)) h6⟩
theorem eq_rest (oc : Ob) (oy : Ob) (oz : Ob) (ok : (Nat → Int32)) (of : Ob) (om : Ob) (p0 : Int32) (hI : Inv oc oy oz ok of om) : ∃ (r : Int32) (oc' : Ob) (om' : Ob), F_X5_rest oc p0 = some (r, oc') ∧ F_X6_rest om p0 = some (r, om') ∧ Inv oc' oy oz ok of om' := by
  obtain ⟨⟨mask, hm, hr, hb, ha, hg, hs⟩, -⟩ := id hI
  unfold F_X5_rest F_X6_rest
  rcases runs_or hm hr hb p0 with ⟨i, hi, rfl, hbi, h1, h2⟩ | ⟨h1, h2⟩
  · rw [h1, h2]
    unfold F_X0_leave
    rw [h1]
    simp only [Option.bind_some, if_neg i10, dd, hr, nar0]
    rw [ck_ok hi (by omega), nI_cl (by omega), (and_dec mask hm i hi).1]
    have hm' := (and_dec mask hm i hi).2
    have hb' : ∀ j, j < 8 → sO oc 0 (upd (oc 0) i 0) 0 j = if (mask &&& (255 - 2 ^ i)).testBit j then 1 else 0 := by
      intro j hj
      rw [sO_eq, upd_at, andt_dec mask hm i hi j hj]
      by_cases hji : j = i
      · rw [if_pos hji, hji]; simp
      · rw [if_neg hji, hb j hj]; simp [hji]
    obtain ⟨n, -, k1, k2⟩ := count_eq hm' hb'
    refine ⟨nI n, sO oc 0 (upd (oc 0) i 0), sO om 0 (cst (nI (mask &&& (255 - 2 ^ i)))), ?_, ?_, ?_⟩
    · rw [Option.bind_some, k1]; rfl
    · rw [sO_eq, cst_at, k2]; rfl
    · refine Inv_cr hI ⟨mask &&& (255 - 2 ^ i), hm', by rw [sO_eq]; rfl, hb', ?_, ?_, ?_⟩ (fun j hj => sO_ne _ _ _ _ (by omega))
      · intro j hj
        simp only [sO_at]
        exact ha j hj
      · intro j hj ht
        simp only [sO_at]
        rw [andt_dec mask hm i hi j hj] at ht
        exact hg j hj (by cases h : mask.testBit j <;> simp_all)
      · simp only [sO_at]
        exact hs
  · rw [h1, h2]
    exact ⟨-1, oc, om, rfl, rfl, hI⟩
theorem eq_run (oc : Ob) (oy : Ob) (oz : Ob) (ok : (Nat → Int32)) (of : Ob) (om : Ob) (p0 p1 p2 p3 : Int32) (hI : Inv oc oy oz ok of om) : ∃ (r : Int32) (oc' : Ob) (om' : Ob), F_X5_run oc p0 p1 p2 p3 = some (r, oc') ∧ F_X6_run om p0 p1 p2 p3 = some (r, om') ∧ Inv oc' oy oz ok of om' := by
  obtain ⟨⟨mask, hm, hr, hb, ha, hg, hs⟩, -⟩ := id hI
  unfold F_X5_run F_X6_run
  rw [in_if p0 0 7 (A := 0) (B := 7) rfl rfl, in_if p1 4 20 (A := 4) (B := 20) rfl rfl, in_if p2 1 9 (A := 1) (B := 9) rfl rfl, in_if p3 0 4 (A := 0) (B := 4) rfl rfl]
  rcases rng p0 0 7 0 7 rfl rfl (by omega) (by omega) with ⟨i, -, hi, rfl, e⟩ | e
  · rw [e]
    rcases rng p1 4 20 4 20 rfl rfl (by omega) (by omega) with ⟨b, hb1, hb2, rfl, e⟩ | e
    · rw [e]
      rcases rng p2 1 9 1 9 rfl rfl (by omega) (by omega) with ⟨g, hg1, hg2, rfl, e⟩ | e
      · rw [e]
        rcases rng p3 0 4 0 4 rfl rfl (by omega) (by omega) with ⟨v, hv1, hv2, rfl, e⟩ | e
        · rw [e]
          simp only [Option.bind_some, if_neg i10]
          unfold F_X0_enter
          have n1 : ¬ nI i < (0 : Int32) := fun q => absurd ((nI_ltI (b := 0) (by omega) (by omega)).mp q) (by omega)
          have n2 : ¬ (8 : Int32) ≤ nI i := fun q => absurd ((nI_leI (a := 8) (by omega) (by omega)).mp q) (by omega)
          rw [if_neg n1, if_neg n2]
          simp only [ck_ok (show i < 8 by omega) (show 8 < 2000000000 by omega), dd, nar1, nI_cl (show i < 2000000000 by omega), Option.bind_some]
          simp only [sO_at, cst_at, hr, (or_dec mask hm i (by omega)).1, Nat.reduceEqDiff, reduceIte, reduceCtorEq, Nat.succ_ne_self, Nat.one_ne_zero, Nat.zero_ne_one]
          have hm' := (or_dec mask hm i (by omega)).2
          generalize hoc : sO (sO (sO (sO oc 0 (upd (oc 0) i 1)) 1 (upd (oc 1) i (nI b))) 2 (upd (oc 2) i (nI g))) 3 (upd (oc 3) i (nI v)) = oc'
          generalize hom : sO (sO (sO (sO om 1 (upd (om 1) i (nI b))) 2 (upd (om 2) i (nI g))) 3 (upd (om 3) i (nI v))) 0 (cst (nI (mask ||| 2 ^ i))) = om'
          have hb' : ∀ j, j < 8 → oc' 0 j = if (mask ||| 2 ^ i).testBit j then 1 else 0 := by
            intro j hj
            rw [← hoc, sO_ne _ _ _ _ (by decide), sO_ne _ _ _ _ (by decide), sO_ne _ _ _ _ (by decide), sO_eq, upd_at, ort_dec mask hm i (by omega) j hj]
            by_cases hji : j = i
            · rw [if_pos hji, hji]; simp
            · rw [if_neg hji, hb j hj]; simp [hji]
          obtain ⟨n, -, k1, k2⟩ := count_eq hm' hb'
          refine ⟨nI n, oc', om', by rw [k1]; rfl, by rw [k2]; rfl, ?_⟩
          have fr : ∀ j, 4 ≤ j → om' j = om j := fun j hj => by
            rw [← hom, sO_ne _ _ _ _ (by omega), sO_ne _ _ _ _ (by omega), sO_ne _ _ _ _ (by omega), sO_ne _ _ _ _ (by omega)]
          have c1 : oc' 1 = upd (oc 1) i (nI b) := by rw [← hoc, sO_ne _ _ _ _ (by decide), sO_ne _ _ _ _ (by decide), sO_eq]
          have c2 : oc' 2 = upd (oc 2) i (nI g) := by rw [← hoc, sO_ne _ _ _ _ (by decide), sO_eq]
          have c3 : oc' 3 = upd (oc 3) i (nI v) := by rw [← hoc, sO_eq]
          have cc : ∀ j, 4 ≤ j → oc' j = oc j := fun j hj => by
            rw [← hoc, sO_ne _ _ _ _ (by omega), sO_ne _ _ _ _ (by omega), sO_ne _ _ _ _ (by omega), sO_ne _ _ _ _ (by omega)]
          have m1 : om' 1 = upd (om 1) i (nI b) := by rw [← hom, sO_ne _ _ _ _ (by decide), sO_ne _ _ _ _ (by decide), sO_ne _ _ _ _ (by decide), sO_eq]
          have m2 : om' 2 = upd (om 2) i (nI g) := by rw [← hom, sO_ne _ _ _ _ (by decide), sO_ne _ _ _ _ (by decide), sO_eq]
          have m3 : om' 3 = upd (om 3) i (nI v) := by rw [← hom, sO_ne _ _ _ _ (by decide), sO_eq]
          have m0 : om' 0 0 = nI (mask ||| 2 ^ i) := by rw [← hom, sO_eq]; rfl
          refine Inv_cr hI ⟨mask ||| 2 ^ i, hm', m0, hb', ?_, ?_, ?_⟩ (fun j hj => fr j (by omega))
          · intro j hj
            rw [c1, c2, c3, m1, m2, m3, upd_at, upd_at, upd_at, upd_at, upd_at, upd_at]
            by_cases hji : j = i
            · simp [hji]
            · simp only [if_neg hji]
              exact ha j hj
          · intro j hj ht
            rw [m1, m2, m3, upd_at, upd_at, upd_at]
            by_cases hji : j = i
            · simp only [if_pos hji]
              exact ⟨⟨b, hb1, hb2, rfl⟩, ⟨g, hg1, hg2, rfl⟩, ⟨v, hv2, rfl⟩⟩
            · simp only [if_neg hji]
              rw [ort_dec mask hm i (by omega) j hj] at ht
              exact hg j hj (by cases h : mask.testBit j <;> simp_all)
          · rw [cc 4 (by omega), cc 5 (by omega), cc 6 (by omega), fr 4 (by omega), fr 5 (by omega), fr 6 (by omega)]
            exact hs
        · rw [e]
          exact ⟨-2, oc, om, rfl, rfl, hI⟩
      · rw [e]
        exact ⟨-2, oc, om, rfl, rfl, hI⟩
    · rw [e]
      exact ⟨-2, oc, om, rfl, rfl, hI⟩
  · rw [e]
    exact ⟨-1, oc, om, rfl, rfl, hI⟩
