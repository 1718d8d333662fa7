/-! The best of several trials; reach, call, quicken, yields, scarf. -/
theorem feet_or (p : Int32) : (∃ g : Nat, 1 ≤ g ∧ g ≤ 999 ∧ p = nI g ∧ F_X5_isFeet p = some 1 ∧ F_X6_isFar p = some 1) ∨ (F_X5_isFeet p = some 0 ∧ F_X6_isFar p = some 0) := by
  unfold F_X5_isFeet F_X6_isFar
  rw [in_if p 1 999 (A := 1) (B := 999) rfl rfl]
  rcases rng p 1 999 1 999 rfl rfl (by omega) (by omega) with ⟨g, h1, h2, rfl, e⟩ | e
  · rw [e]
    exact Or.inl ⟨g, h1, h2, rfl, rfl, rfl⟩
  · rw [e]
    exact Or.inr ⟨rfl, rfl⟩
theorem bit_run {c : Ob} {mask i : Nat} (hb : ∀ i, i < 8 → c 0 i = if mask.testBit i then 1 else 0) (hi : i < 8) (h : mask.testBit i = true) : c 0 i = 1 := by
  rw [hb i hi, h]
  rfl
/-- two run, or not -/
theorem two_or {c om : Ob} (hC : Cr c om) (p q : Int32) : (∃ i j, i < 8 ∧ j < 8 ∧ i ≠ j ∧ p = nI i ∧ q = nI j ∧ c 0 i = 1 ∧ c 0 j = 1 ∧ F_X0_canTie c p q = some 1 ∧ F_X6_isPair om p q = some 1) ∨ (F_X0_canTie c p q = some 0 ∧ F_X6_isPair om p q = some 0) := by
  obtain ⟨mask, hm, hr, hb, -⟩ := hC
  rcases pair_or hm hr hb p q with ⟨i, j, hi, hj, hij, e1, e2, t1, t2, h1, h2⟩ | h
  · exact Or.inl ⟨i, j, hi, hj, hij, e1, e2, bit_run hb hi t1, bit_run hb hj t2, h1, h2⟩
  · exact Or.inr h
theorem race_or {c om : Ob} (hC : Cr c om) (p0 p1 p2 p3 : Int32) :
    (∃ i j g w, i < 8 ∧ j < 8 ∧ i ≠ j ∧ p0 = nI i ∧ p1 = nI j ∧ c 0 i = 1 ∧ c 0 j = 1 ∧ 1 ≤ g ∧ g ≤ 999 ∧ p2 = nI g ∧ w ≤ 1 ∧ p3 = nI w ∧ F_X5_refusalOfRace c p0 p1 p2 p3 = some 0 ∧ F_X6_isPair om p0 p1 = some 1 ∧ F_X6_isFar p2 = some 1 ∧ F_X6_in p3.toInt64 0 1 = some 1 ∧ F_X6_isAsked p2 p3 = some 1) ∨
    (F_X5_refusalOfRace c p0 p1 p2 p3 = some (-1) ∧ F_X6_isPair om p0 p1 = some 0) ∨
    (F_X5_refusalOfRace c p0 p1 p2 p3 = some (-2) ∧ F_X6_isPair om p0 p1 = some 1 ∧ F_X6_isAsked p2 p3 = some 0 ∧ (F_X6_isFar p2 = some 0 ∨ F_X6_isFar p2 = some 1 ∧ F_X6_in p3.toInt64 0 1 = some 0)) := by
  unfold F_X5_refusalOfRace F_X6_isAsked
  rw [in_if p3 0 1 (A := 0) (B := 1) rfl rfl]
  rcases two_or hC p0 p1 with ⟨i, j, hi, hj, hij, e1, e2, r1, r2, h1, h2⟩ | ⟨h1, h2⟩
  · rcases feet_or p2 with ⟨g, g1, g2, e3, h3, h4⟩ | ⟨h3, h4⟩
    · rcases rng p3 0 1 0 1 rfl rfl (by omega) (by omega) with ⟨w, -, hw, e4, h5⟩ | h5
      · left
        rw [h1, h3, h4, h5]
        exact ⟨i, j, g, w, hi, hj, hij, e1, e2, r1, r2, g1, g2, e3, hw, e4, rfl, h2, rfl, rfl, rfl⟩
      · right; right
        rw [h1, h3, h4, h5]
        exact ⟨rfl, h2, rfl, Or.inr ⟨rfl, rfl⟩⟩
    · right; right
      rw [h1, h3, h4]
      exact ⟨rfl, h2, rfl, Or.inl rfl⟩
  · right; left
    rw [h1]
    exact ⟨rfl, h2⟩
theorem RT_le {p : Nat → Int} {qf goal n : Nat} (h : RT p qf goal = some n) : n ≤ 999 := by
  have key : ∀ (f k : Nat) (P : Nat → Bool) (n : Nat), fnd P f k = some n → n < k + f := by
    intro f
    induction f with
    | zero => intro k P n h; cases h
    | succ f ih =>
      intro k P n h
      unfold fnd at h
      split at h
      · cases h; omega
      · have := ih (k + 1) P n h; omega
  have := key 1000 0 _ n h
  omega
theorem TT_bd {p : Nat → Int} (hg : Gp p) {qf goal : Nat} {t : Int} (h : TT p qf goal = some t) : 0 ≤ t ∧ t ≤ 200000 := by
  unfold TT at h
  cases hR : RT p qf goal with
  | none => rw [hR] at h; cases h
  | some n =>
    rw [hR] at h
    have hn := RT_le hR
    have hb := sq_bd hg qf n
    have e : t = tm (sq p qf n) := (Option.some.inj h).symm
    rw [e]
    have := mx_s (sq p qf n).1 (sq p qf n).2.1
    unfold tm
    have := hb.1
    have := hb.2.1
    omega
theorem cT_ne {t : Int} (h : 0 ≤ t ∧ t ≤ 200000) : ¬ iI t = (-6 : Int32) := fun q => absurd ((iI_eq (b := -6) (by omega)).mp q) (by omega)
theorem mT_ne {t : Int} (h : 0 ≤ t ∧ t ≤ 200000) : ¬ iI t = (1000000000 : Int32) := fun q => absurd ((iI_eq (b := 1000000000) (by omega)).mp q) (by omega)
theorem eq_reach (oc : Ob) (oy : Ob) (oz : Ob) (ok : (Nat → Int32)) (of : Ob) (ow : Ob) (om : Ob) (p0 p1 p2 p3 : Int32) (hI : Inv oc oy oz ok of om) : ∃ (r : Int32) (ow' : Ob) (om' : Ob), F_X5_reach oc ow p0 p1 p2 p3 = some (r, ow') ∧ F_X6_reach om p0 p1 p2 p3 = some (r, om') ∧ Inv oc oy oz ok of om' := by
  have hC := hI.1
  unfold F_X5_reach F_X6_reach
  rcases race_or hC p0 p1 p2 p3 with ⟨i, j, g, w, hi, hj, hij, rfl, rfl, r1, r2, g1, g2, rfl, hw, rfl, e1, e2, e3, e4, -⟩ | ⟨e1, e2⟩ | ⟨e1, e2, -, e3⟩
  · have hG := pij_G hC hi hj r1 r2
    obtain ⟨w1, t1, t2⟩ := tie_ok hi hj hij r1 r2 ow
    obtain ⟨w2, t3, t4⟩ := timeTo_ok hG (qf := 1000) (q := -1) (Or.inl ⟨rfl, rfl⟩) g1 g2 t2
    obtain ⟨m1, l1, l2, l3⟩ := lay_ok hC hi hj
    obtain ⟨m2, l4, l5, l6⟩ := timeOf_ok hG (qf := 1000) (by omega) g2 l2
    have hI' : Inv oc oy oz ok of m2 := Inv_fr (fun k hk => (l6 k (by omega)).trans (l3 k (by omega))) hI
    rw [e1, e2, e3, e4]
    simp only [Option.bind_some, if_neg i10, if_true]
    unfold F_X5_timeTo
    rw [t1, Option.bind_some, t3, l1]
    simp only [Option.bind_some]
    rw [l4]
    simp only [Option.bind_some]
    cases hT : TT (pij oc i j) 1000 g with
    | none => exact ⟨-6, w2, m2, rfl, rfl, hI'⟩
    | some t =>
      have hb := TT_bd hG hT
      show ∃ r ow' om', (if iI t = (-6 : Int32) then _ else _) = _ ∧ (if iI t = (1000000000 : Int32) then _ else _) = _ ∧ _
      rw [if_neg (cT_ne hb), if_neg (mT_ne hb)]
      unfold TT at hT
      cases hR : RT (pij oc i j) 1000 g with
      | none => rw [hR] at hT; cases hT
      | some n =>
        simp only [dd, t4 n hR, l5 n hR]
        by_cases hw0 : nI w = (0 : Int32)
        · rw [if_pos hw0, if_pos hw0]
          exact ⟨_, w2, m2, rfl, rfl, hI'⟩
        · rw [if_neg hw0, if_neg hw0]
          exact ⟨_, w2, m2, rfl, rfl, hI'⟩
  · rw [e1, e2]
    exact ⟨-1, ow, om, rfl, rfl, hI⟩
  · rw [e1, e2]
    rcases e3 with e3 | ⟨e3, e4⟩
    · rw [e3]
      exact ⟨-2, ow, om, rfl, rfl, hI⟩
    · rw [e3, e4]
      exact ⟨-2, ow, om, rfl, rfl, hI⟩
abbrev Bs : Type := Option (Nat × Int)
def bst (b : Bs) (k : Nat) (o : Option Int) : Bs := match o, b with
  | none, b => b
  | some t, none => some (k, t)
  | some t, some (k0, t0) => if t < t0 then some (k, t) else some (k0, t0)
def bky (b : Bs) : Int32 := match b with
  | none => -6
  | some (k, _) => nI k
def Bok (b : Bs) : Prop := ∀ k t, b = some (k, t) → k < 1000 ∧ 0 ≤ t ∧ t ≤ 200000
def SR (b : Bs) (os : Ob) : Prop := os 0 0 = cT (b.map (fun x => x.2)) ∧ os 1 0 = bky b
def BR (b : Bs) (m : Ob) : Prop := m 25 0 = bky b ∧ m 26 0 = mT (b.map (fun x => x.2))
theorem bst_ok {b : Bs} {k : Nat} {o : Option Int} (hb : Bok b) (hk : k < 1000) (ho : ∀ t, o = some t → 0 ≤ t ∧ t ≤ 200000) : Bok (bst b k o) := by
  intro k' t' h
  cases o with
  | none =>
    cases b with
    | none => cases h
    | some x => exact hb k' t' h
  | some t =>
    have h1 := ho t rfl
    cases b with
    | none =>
      cases h
      exact ⟨hk, h1⟩
    | some x =>
      obtain ⟨k0, t0⟩ := x
      unfold bst at h
      dsimp only at h
      split at h
      · cases h; exact ⟨hk, h1⟩
      · exact hb k' t' h
theorem offer_ok {b : Bs} {os : Ob} (hs : SR b os) (hb : Bok b) (k : Nat) {o : Option Int} (ho : ∀ t, o = some t → 0 ≤ t ∧ t ≤ 200000) : ∃ os' : Ob, F_X3_offer os (nI k) (cT o) = some os' ∧ SR (bst b k o) os' := by
  obtain ⟨s1, s2⟩ := hs
  unfold F_X3_offer
  cases o with
  | none =>
    refine ⟨os, if_pos rfl, ?_⟩
    cases b <;> exact ⟨s1, s2⟩
  | some t =>
    have h1 := ho t rfl
    show ∃ os', (if iI t = (-6 : Int32) then _ else _) = _ ∧ _
    rw [if_neg (cT_ne h1), jn_eq, s1]
    have set_ok : SR (some (k, t)) (sO (sO os 0 (cst (iI t))) 1 (cst (nI k))) := by
      refine ⟨?_, ?_⟩
      · rw [sO_ne _ _ _ _ (by decide), sO_eq]; rfl
      · rw [sO_eq]; rfl
    cases b with
    | none => exact ⟨_, if_pos rfl, set_ok⟩
    | some x =>
      obtain ⟨k0, t0⟩ := x
      have h2 := (hb k0 t0 rfl).2
      show ∃ os', (if iI t0 = (-6 : Int32) then _ else if iI t0 ≤ iI t then _ else _) = _ ∧ _
      rw [if_neg (cT_ne h2)]
      by_cases c : t < t0
      · rw [if_neg (fun q => absurd ((iI_le (by omega)).mp q) (by omega))]
        refine ⟨_, rfl, ?_⟩
        have e : bst (some (k0, t0)) k (some t) = some (k, t) := if_pos c
        rw [e]
        exact set_ok
      · rw [if_pos ((iI_le (by omega)).mpr (by omega))]
        refine ⟨_, rfl, ?_⟩
        have e : bst (some (k0, t0)) k (some t) = some (k0, t0) := if_neg c
        rw [e]
        exact ⟨s1, s2⟩
theorem tryOne_ok {p : Nat → Int} (hg : Gp p) {qf : Nat} (hqf : qf < 2000000000) {goal : Nat} (h9 : goal ≤ 999) {m : Ob} (hm : MP p qf m) {b : Bs} (hB : BR b m) (hb : Bok b) (k : Nat) (x : Int32) (hx : x = nI k) :
    ∃ m' : Ob, F_X6_tryOne m x (nI goal) = some m' ∧ BR (bst b k (TT p qf goal)) m' ∧ ∀ i, i < 14 ∨ (22 ≤ i ∧ i ≠ 25 ∧ i ≠ 26) → m' i = m i := by
  subst hx
  obtain ⟨m1, e1, -, fr⟩ := timeOf_ok hg hqf h9 hm
  have b25 : m1 25 0 = bky b := by rw [fr 25 (by omega)]; exact hB.1
  have b26 : m1 26 0 = mT (b.map (fun x => x.2)) := by rw [fr 26 (by omega)]; exact hB.2
  unfold F_X6_tryOne
  rw [e1]
  simp only [Option.bind_some, jn_if, dd]
  rw [sO_ne _ _ _ _ (by decide), b25, b26]
  refine ⟨_, rfl, ?_, fun i hi => ?_⟩
  · have key : (if mT (b.map (fun x => x.2)) ≤ mT (TT p qf goal) then bky b else nI k) = bky (bst b k (TT p qf goal)) ∧ (if mT (b.map (fun x => x.2)) ≤ mT (TT p qf goal) then mT (b.map (fun x => x.2)) else mT (TT p qf goal)) = mT ((bst b k (TT p qf goal)).map (fun x => x.2)) := by
      cases hT : TT p qf goal with
      | none =>
        have c : mT (b.map (fun x => x.2)) ≤ mT none := by
          cases b with
          | none => exact Int32.le_refl _
          | some x =>
            have h2 := (hb x.1 x.2 rfl).2
            exact (iI_le (a := x.2) (b := 1000000000) (by omega)).mpr (by omega)
        rw [if_pos c, if_pos c]
        cases b <;> exact ⟨rfl, rfl⟩
      | some t =>
        have h1 := TT_bd hg hT
        cases b with
        | none =>
          have c : ¬ mT ((none : Bs).map (fun x => x.2)) ≤ mT (some t) := fun q => absurd ((iI_le (a := 1000000000) (by omega)).mp q) (by omega)
          rw [if_neg c, if_neg c]
          exact ⟨rfl, rfl⟩
        | some x =>
          obtain ⟨k0, t0⟩ := x
          have h2 := (hb k0 t0 rfl).2
          by_cases c0 : t < t0
          · have c : ¬ mT ((some (k0, t0) : Bs).map (fun x => x.2)) ≤ mT (some t) := fun q => absurd ((iI_le (a := t0) (b := t) (by omega)).mp q) (by omega)
            have e : bst (some (k0, t0)) k (some t) = some (k, t) := if_pos c0
            rw [if_neg c, if_neg c, e]
            exact ⟨rfl, rfl⟩
          · have c : mT ((some (k0, t0) : Bs).map (fun x => x.2)) ≤ mT (some t) := (iI_le (a := t0) (b := t) (by omega)).mpr (by omega)
            have e : bst (some (k0, t0)) k (some t) = some (k0, t0) := if_neg c0
            rw [if_pos c, if_pos c, e]
            exact ⟨rfl, rfl⟩
    refine ⟨?_, ?_⟩
    · rw [sO_ne _ _ _ _ (by decide), sO_eq, cst_at]; exact key.1
    · rw [sO_eq, cst_at]; exact key.2
  · rw [sO_ne _ _ _ _ (by omega), sO_ne _ _ _ _ (by omega)]
    exact fr i (by omega)
def bfold (g : Nat → Nat × Option Int) : Nat → Nat → Bs → Bs
  | 0, _, b => b
  | n + 1, k, b => bfold g n (k + 1) (bst b (g k).1 (g k).2)
theorem tell_ok {b : Bs} {os m : Ob} (hs : SR b os) (hB : BR b m) (hb : Bok b) (x : Int32) : ∃ r : Int32, F_X3_answer os x = some r ∧ F_X6_tellBest m x = some r := by
  unfold F_X3_answer F_X6_tellBest
  rw [hs.1, hs.2, hB.1, hB.2]
  cases b with
  | none =>
    refine ⟨-6, ?_, if_pos (show (-6 : Int32) < 0 by decide)⟩
    by_cases h : x = 0
    · rw [if_pos h]; rfl
    · rw [if_neg h]; rfl
  | some y =>
    obtain ⟨k, t⟩ := y
    have h2 := hb k t rfl
    have c : ¬ bky (some (k, t)) < 0 := fun q => absurd ((nI_ltI (b := 0) (by omega) (by omega)).mp q) (by omega)
    rw [if_neg c]
    by_cases h : x = 0
    · rw [if_pos h, if_pos h]; exact ⟨_, rfl, rfl⟩
    · rw [if_neg h, if_neg h]; exact ⟨_, rfl, rfl⟩
theorem clear_ok (os : Ob) : ∃ os' : Ob, F_X3_clear os = some os' ∧ SR none os' := by
  unfold F_X3_clear
  simp only [dd]
  refine ⟨_, rfl, ?_, ?_⟩
  · rw [sO_ne _ _ _ _ (by decide), sO_eq]; rfl
  · rw [sO_eq]; rfl
theorem tries_ok (m : Ob) : ∃ m' : Ob, F_X6_beginTries m = some m' ∧ BR none m' ∧ ∀ i, i ≠ 25 → i ≠ 26 → m' i = m i := by
  unfold F_X6_beginTries
  simp only [dd]
  refine ⟨_, rfl, ⟨?_, ?_⟩, fun i h1 h2 => ?_⟩
  · rw [sO_ne _ _ _ _ (by decide), sO_eq]; rfl
  · rw [sO_eq]; rfl
  · rw [sO_ne _ _ _ _ h2, sO_ne _ _ _ _ h1]
theorem MP_fr {p : Nat → Int} {qf : Nat} {m m' : Ob} (h : MP p qf m) (fr : ∀ i, i < 14 → m' i = m i) : MP p qf m' := by
  unfold MP at *
  rw [fr 5 (by omega), fr 6 (by omega), fr 7 (by omega), fr 8 (by omega), fr 9 (by omega), fr 10 (by omega), fr 11 (by omega), fr 12 (by omega), fr 13 (by omega)]
  exact h
