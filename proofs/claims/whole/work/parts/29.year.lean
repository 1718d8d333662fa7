/-! year. -/
theorem nL_to {k : Nat} (h : k < 2000000000) : (nI k).toInt64 = Int64.ofNat k := by
  apply Int64.toInt_inj.mp
  rw [Int32.toInt_toInt64, nI_toInt (by omega), Int64.toInt_ofNat_of_lt (by omega)]
theorem nL_div {a d : Nat} (ha : a < 2000000000) (h0 : 0 < d) (hd : d < 2000000000) : Int64.ofNat a / Int64.ofNat d = Int64.ofNat (a / d) := by
  apply Int64.toInt_inj.mp
  have hq : a / d ≤ a := Nat.div_le_self a d
  have e1 : (Int64.ofNat d).toInt = (d : Int) := Int64.toInt_ofNat_of_lt (by omega)
  have e2 : (Int64.ofNat a).toInt = (a : Int) := Int64.toInt_ofNat_of_lt (by omega)
  rw [Int64.toInt_div_of_ne_right _ _ (fun q => by
    have := congrArg Int64.toInt q
    rw [e1] at this
    have h9 : (d : Int) = -1 := this
    omega), e1, e2, Int64.toInt_ofNat_of_lt (by omega)]
  rfl
theorem nL_sub {a b : Nat} (h : b ≤ a) : Int64.ofNat a - Int64.ofNat b = Int64.ofNat (a - b) := by
  obtain ⟨c, rfl⟩ : ∃ c, a = c + b := ⟨a - b, by omega⟩
  rw [Int64.ofNat_add, Int64.add_sub_cancel, Nat.add_sub_cancel]
theorem nL_back {k : Nat} (h : k < 2000000000) : Int64.toInt32 (Int64.ofNat k) = nI k := by
  rw [← nL_to h]
  exact Int32.toInt32_toInt64 _
theorem nxtL {k : Nat} (h : k ≤ 65536) : Int64.toInt32 ((75 : Int64) * (nI k).toInt64 + 74 - ((75 : Int64) * (nI k).toInt64 + 74) / 65537 * 65537) = nI ((75 * k + 74) % 65537) := by
  have hr := Nat.div_add_mod' (75 * k + 74) 65537
  rw [nL_to (by omega), show (75 : Int64) = Int64.ofNat 75 from rfl, show (74 : Int64) = Int64.ofNat 74 from rfl, show (65537 : Int64) = Int64.ofNat 65537 from rfl, ← Int64.ofNat_mul, ← Int64.ofNat_add, nL_div (by omega) (by omega) (by omega), ← Int64.ofNat_mul, nL_sub (by omega), nL_back (by omega)]
  exact congrArg nI (by omega)
theorem nxtI {k : Nat} (h : k ≤ 65536) : (75 : Int32) * nI k + 74 - ((75 : Int32) * nI k + 74) / 65537 * 65537 = nI ((75 * k + 74) % 65537) := by
  rw [show (75 : Int32) = nI 75 from rfl, pk_mul, show (74 : Int32) = nI 74 from rfl, nI_add, show (65537 : Int32) = nI 65537 from rfl, pk_rem (by omega) (by omega) (by omega)]
theorem best_if {b : Bs} (hb : Bok b) (d : Nat) {o : Option Int} (ho : ∀ t, o = some t → 0 ≤ t ∧ t ≤ 200000) {α : Type} (F : Int32 → α) :
    (if mT (b.map (fun x => x.2)) ≤ mT o then F (mT (b.map (fun x => x.2))) else F (mT o)) = F (mT ((bst b d o).map (fun x => x.2))) := by
  cases o with
  | none =>
    cases b with
    | none => rw [if_pos (show mT (Option.map (fun x : Nat × Int => x.2) none) ≤ mT none by decide)]; rfl
    | some x =>
      obtain ⟨k0, t0⟩ := x
      have h := hb k0 t0 rfl
      have c : mT (some t0) ≤ mT none := (iI_le (b := 1000000000) (by omega)).mpr (by omega)
      rw [if_pos (show mT (Option.map (fun x : Nat × Int => x.2) (some (k0, t0))) ≤ mT none from c)]
      rfl
  | some t =>
    have h1 := ho t rfl
    cases b with
    | none =>
      have c : ¬ mT none ≤ mT (some t) := fun q => absurd ((iI_le (a := 1000000000) (by omega)).mp q) (by omega)
      rw [if_neg (show ¬ mT (Option.map (fun x : Nat × Int => x.2) none) ≤ mT (some t) from c)]
      rfl
    | some x =>
      obtain ⟨k0, t0⟩ := x
      have h := hb k0 t0 rfl
      by_cases c : t < t0
      · have c' : ¬ mT (some t0) ≤ mT (some t) := fun q => absurd ((iI_le (by omega)).mp q) (by omega)
        rw [if_neg (show ¬ mT (Option.map (fun x : Nat × Int => x.2) (some (k0, t0))) ≤ mT (some t) from c')]
        rw [show bst (some (k0, t0)) d (some t) = some (d, t) from if_pos c]
        rfl
      · have c' : mT (some t0) ≤ mT (some t) := (iI_le (by omega)).mpr (by omega)
        rw [if_pos (show mT (Option.map (fun x : Nat × Int => x.2) (some (k0, t0))) ≤ mT (some t) from c')]
        rw [show bst (some (k0, t0)) d (some t) = some (k0, t0) from if_neg c]
theorem year_loop {oc om : Ob} (hC : Cr oc om) {g : Nat} (g2 : g ≤ 999) {T : Nat → Int32} (hT : Tb oc g 8 0 T) (p3 : Int32) {days : Nat} (hd : days ≤ 99) (K : Int32 → Int32 → Ob → Option (Int32 × Ob × Ob × (Nat → Int32))) (K2 : Int32 → Int32 → Int32 → Ob → Option (Int32 × Ob)) :
    ∀ (f d x : Nat) (vd vx c1 c2 vb : Int32) (os m : Ob) (b : Bs), vd = nI d → vx = nI x → vb = mT (b.map (fun x => x.2)) → d ≤ days → days - d < f → x ≤ 65536 → SR b os → Bok b → FrT om m →
      ∃ c1' c2' os' b' m', L_X5_year_66 f (nI days) p3 oc T c1 c2 vx vd os K = K c1' c2' os' ∧ L_X6_year_70 f (nI days) (nI g) p3 vx c1 c2 vb vd m K2 = K2 c1' c2' (mT (b'.map (fun x => x.2))) m' ∧ SR b' os' ∧ Bok b' ∧ FrT om m' := by
  intro f
  induction f with
  | zero => intro d x vd vx c1 c2 vb os m b _ _ _ _ h; exact absurd h (by omega)
  | succ f ih =>
    intro d x vd vx c1 c2 vb os m b hvd hvx hvb hdd hf hx hS hB hF
    subst hvd
    subst hvx
    subst hvb
    rw [L_X5_year_66.eq_2, L_X6_year_70.eq_2]
    by_cases h8 : d = days
    · subst h8
      rw [if_pos (Int32.le_refl _), if_pos (Int32.le_refl _)]
      exact ⟨c1, c2, os, b, m, rfl, rfl, hS, hB, hF⟩
    · have h : ¬ nI days ≤ nI d := fun q => absurd ((nI_leI (by omega) (by omega)).mp q) (by omega)
      rw [if_neg h, if_neg h]
      simp only [dd]
      rw [nxtL hx, nxtI hx]
      have hx' : (75 * x + 74) % 65537 ≤ 65536 := by omega
      generalize (75 * x + 74) % 65537 = y at hx' ⊢
      have m8 : nI y - nI y / 8 * 8 = nI (y % 8) := by
        rw [show (8 : Int32) = nI 8 from rfl, pk_rem (by omega) (by omega) (by omega)]
      have d8 : nI y / 8 = nI (y / 8) := by
        rw [show (8 : Int32) = nI 8 from rfl, pk_div (by omega) (by omega) (by omega)]
      have n8 : nI (y / 8) - nI (y / 8) / 8 * 8 = nI (y / 8 % 8) := by
        rw [show (8 : Int32) = nI 8 from rfl, pk_rem (by omega) (by omega) (by omega)]
      rw [m8, d8, n8, nI_1]
      have ha : y % 8 < 8 := by omega
      have hb : y / 8 % 8 < 8 := by omega
      generalize y % 8 = a at ha ⊢
      generalize y / 8 % 8 = c at hb ⊢
      have hCm : Cr oc m := Cr_fr (fun q hq => hF q (by omega)) hC
      rcases two_at hCm ha hb with ⟨hne, r1, r2, e1, e2⟩ | ⟨hno, e1, e2⟩
      · rw [e1, e2, bsome, bsome, if_neg i10, if_neg i10]
        have hG := pij_G hCm ha hb r1 r2
        obtain ⟨m1, l1, l2, l3⟩ := lay_ok hCm ha hb
        obtain ⟨m2, u1, -, u3⟩ := timeOf_ok hG (qf := 1000) (by omega) g2 l2
        have f2 : FrT om m2 := fun q hq => ((u3 q (by omega)).trans (l3 q (by omega))).trans (hF q hq)
        have ea : (8 : Int32) * nI a + nI c = nI (8 * a + c) := by rw [show (8 : Int32) = nI 8 from rfl, pk_mul, nI_add]
        have hTe := Tb_end hT ha hb hne r1 r2
        rw [l1, bsome, u1, bsome, ea, ck_ok (by omega) (by omega), nI_cl (by omega), hTe]
        have hbd : ∀ t, TT (pij oc a c) 1000 g = some t → 0 ≤ t ∧ t ≤ 200000 := fun t h => TT_bd hG h
        generalize TT (pij oc a c) 1000 g = o at hbd ⊢
        obtain ⟨os', o1, o2⟩ := offer_ok hS hB d hbd
        have fin : ∀ c2' : Int32, ∃ c1' c2'' os' b' m', (F_X3_offer os (nI d) (cT o)).bind (fun q79 => L_X5_year_66 f (nI days) p3 oc T (c1 + 1) c2' (nI y) (nI (d + 1)) q79 K) = K c1' c2'' os' ∧ (if mT (b.map (fun x => x.2)) ≤ mT o then L_X6_year_70 f (nI days) (nI g) p3 (nI y) (c1 + 1) c2' (mT (b.map (fun x => x.2))) (nI (d + 1)) m2 K2 else L_X6_year_70 f (nI days) (nI g) p3 (nI y) (c1 + 1) c2' (mT o) (nI (d + 1)) m2 K2) = K2 c1' c2'' (mT (b'.map (fun x => x.2))) m' ∧ SR b' os' ∧ Bok b' ∧ FrT om m' := by
          intro c2'
          rw [o1, bsome, best_if hB d hbd (fun z => L_X6_year_70 f (nI days) (nI g) p3 (nI y) (c1 + 1) c2' z (nI (d + 1)) m2 K2)]
          exact ih (d + 1) y _ _ _ _ _ os' m2 _ rfl rfl rfl (by omega) (by omega) hx' o2 (bst_ok hB (by omega) hbd) f2
        rw [jn_eq, jn_eq, jn_eq, jn_eq, jn_eq, jn_eq]
        cases o with
        | none =>
          rw [if_pos (show cT none = (-6 : Int32) from rfl), if_pos (show (1000000000 : Int32) ≤ mT none by decide)]
          exact fin _
        | some t =>
          have hb' := hbd t rfl
          have n1 : ¬ (1000000000 : Int32) ≤ mT (some t) := fun q => absurd ((iI_le (a := 1000000000) (by omega)).mp q) (by omega)
          rw [if_neg (show ¬ cT (some t) = (-6 : Int32) from cT_ne hb'), if_neg n1]
          by_cases z1 : nI a = p3
          · rw [if_pos z1, if_pos z1]
            exact fin _
          · rw [if_neg z1, if_neg z1]
            by_cases z2 : nI c = p3
            · rw [if_pos z2, if_pos z2]
              exact fin _
            · rw [if_neg z2, if_neg z2]
              exact fin _
      · rw [e1, e2, bsome, bsome, if_pos rfl, if_pos rfl]
        exact ih (d + 1) y _ _ _ _ _ os m b rfl rfl rfl (by omega) (by omega) hx' hS hB hF
theorem eq_year (oc : Ob) (oy : Ob) (oz : Ob) (ok : (Nat → Int32)) (of : Ob) (ow : Ob) (os : Ob) (ot : (Nat → Int32)) (om : Ob) (p0 p1 p2 p3 : Int32) (hI : Inv oc oy oz ok of om) : ∃ (r : Int32) (ow' : Ob) (os' : Ob) (ot' : (Nat → Int32)) (om' : Ob), F_X5_year oc ow os ot p0 p1 p2 p3 = some (r, ow', os', ot') ∧ F_X6_year om p0 p1 p2 p3 = some (r, om') ∧ Inv oc oy oz ok of om' := by
  have hC := hI.1
  unfold F_X5_year F_X6_year
  rw [in_if p0 0 9999 (A := 0) (B := 9999) rfl rfl, in_if p1 1 99 (A := 1) (B := 99) rfl rfl, in_if p3 (-1) 8 (A := -1) (B := 8) rfl rfl]
  rcases rng p0 0 9999 0 9999 rfl rfl (by omega) (by omega) with ⟨x, -, hx, rfl, e1⟩ | e1
  · rw [e1]
    rcases rng p1 1 99 1 99 rfl rfl (by omega) (by omega) with ⟨days, hd1, hd2, rfl, e2⟩ | e2
    · rw [e2]
      rcases feet_or p2 with ⟨g, g1, g2, rfl, e3, e4⟩ | ⟨e3, e4⟩
      · rw [e3, e4]
        have h3 : (F_X5_isWithin p3 (-1) 8 = some 1 ∧ (8 ≤ p3 ↔ p3 = 8)) ∨ F_X5_isWithin p3 (-1) 8 = some 0 := by
          unfold F_X5_isWithin
          by_cases c1 : p3 < -1
          · rw [if_pos c1]; exact Or.inr rfl
          · rw [if_neg c1]
            by_cases c2 : 8 < p3
            · rw [if_pos c2]; exact Or.inr rfl
            · rw [if_neg c2]
              refine Or.inl ⟨rfl, ?_⟩
              rw [Int32.lt_iff_toInt_lt] at c2
              rw [Int32.le_iff_toInt_le, ← Int32.toInt_inj]
              omega
        rcases h3 with ⟨e5, h8⟩ | e5
        · rw [e5]
          simp only [bsome, if_neg i10]
          obtain ⟨w', T, t1, t2⟩ := table_ok hC g1 g2 ow ot
          obtain ⟨m1, u1, -, u3⟩ := mtable_ok hC g2
          obtain ⟨os1, o1, o2⟩ := clear_ok os
          rw [t1, bsome, o1, bsome, dd_eq, u1, bsome, jn_eq, jn_eq]
          obtain ⟨c1', c2', os', b', m', a1, a2, a3, a4, a5⟩ := year_loop hC g2 t2 p3 hd2 (fun (v50 : Int32) (v51 : Int32) (os52 : Ob) => (if p3 = (-1) then some (v50, w', os52, T) else (if p3 = 8 then some ((os52 0 0), w', os52, T) else some (v51, w', os52, T)))) (fun (v11 : Int32) (v12 : Int32) (v13 : Int32) (om14 : Ob) => (if p3 = (-1) then some (v11, om14) else (if 8 ≤ p3 then (if v13 = 1000000000 then some ((-6), om14) else some (v13, om14)) else some (v12, om14)))) 2000 0 x 0 _ 0 0 1000000000 os1 m1 none rfl rfl rfl (by omega) (by omega) (by omega) o2 (fun k t h => by cases h) u3
          have hI' : Inv oc oy oz ok of m' := Inv_fr (fun k hk => a5 k (by omega)) hI
          rw [a2]
          have a1' : L_X5_year_66 2000 (nI days) p3 oc T 0 0 (nI x) 0 os1 (fun (v50 : Int32) (v51 : Int32) (os52 : Ob) => (if p3 = (-1) then some (v50, w', os52, T) else (if p3 = 8 then some ((os52 0 0), w', os52, T) else some (v51, w', os52, T)))) = _ := a1
          rw [a1']
          by_cases z1 : p3 = (-1)
          · rw [if_pos z1, if_pos z1]
            exact ⟨_, w', os', T, m', rfl, rfl, hI'⟩
          · rw [if_neg z1, if_neg z1]
            by_cases z2 : p3 = 8
            · rw [if_pos z2, if_pos (h8.mpr z2), a3.1]
              cases b' with
              | none =>
                rw [if_pos (show mT (Option.map (fun x : Nat × Int => x.2) none) = (1000000000 : Int32) from rfl)]
                exact ⟨-6, w', os', T, m', rfl, rfl, hI'⟩
              | some y =>
                obtain ⟨k0, t0⟩ := y
                have hb := a4 k0 t0 rfl
                rw [if_neg (show ¬ mT (Option.map (fun x : Nat × Int => x.2) (some (k0, t0))) = (1000000000 : Int32) from mT_ne hb.2)]
                exact ⟨iI t0, w', os', T, m', rfl, rfl, hI'⟩
            · rw [if_neg z2, if_neg (fun q => z2 (h8.mp q))]
              exact ⟨_, w', os', T, m', rfl, rfl, hI'⟩
        · rw [e5]
          exact ⟨-2, ow, os, ot, om, rfl, rfl, hI⟩
      · rw [e3, e4]
        exact ⟨-2, ow, os, ot, om, rfl, rfl, hI⟩
    · rw [e2]
      exact ⟨-2, ow, os, ot, om, rfl, rfl, hI⟩
  · rw [e1]
    exact ⟨-2, ow, os, ot, om, rfl, rfl, hI⟩
