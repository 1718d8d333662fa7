/-- the reference holds the state s behind k steps -/
def MS (p : Nat → Int) (qf : Nat) (s : S5) (k : Nat) (m : Ob) : Prop :=
  (m 7 0 = iI (p 0) ∧ m 8 0 = iI (p 1) ∧ m 9 0 = iI (p 2) ∧ m 10 0 = iI (p 3) ∧ m 11 0 = iI (p 4) ∧ m 12 0 = nI qf ∧ m 13 0 = iI (p 5) ∧ m 5 0 = iI (p 6) ∧ m 6 0 = iI (p 7)) ∧
  (m 14 0 = iI s.1 ∧ m 15 0 = iI s.2.1 ∧ m 16 0 = iI s.2.2.1 ∧ m 17 0 = iI s.2.2.2.1 ∧ m 18 0 = iI s.2.2.2.2 ∧ m 19 0 = nI k)
theorem jn_if2 {α β : Type} (A : α → β) {c d : Prop} {ic : Decidable c} {id : Decidable d} (x y z : α) : jn A (fun K => @ite _ c ic (@ite _ d id (K x) (K y)) (K z)) = A (@ite _ c ic (@ite _ d id x y) z) := by
  by_cases h : c
  · rw [if_pos h]
    by_cases g : d
    · rw [if_pos g]; show @ite _ c ic (@ite _ d id (A x) (A y)) (A z) = _; rw [if_pos h, if_pos g]
    · rw [if_neg g]; show @ite _ c ic (@ite _ d id (A x) (A y)) (A z) = _; rw [if_pos h, if_neg g]
  · rw [if_neg h]; show @ite _ c ic (@ite _ d id (A x) (A y)) (A z) = _; rw [if_neg h]
theorem quick_ok {m : Ob} {qf k : Nat} {b : Int} {x : Int32} (hx : x = iI b) (h12 : m 12 0 = nI qf) (h19 : m 19 0 = nI k) (hb : 4 ≤ b ∧ b ≤ 20) (hq : qf < 2000000000) (hk : k < 2000000000) : F_X6_quicker m x = some (iI (bqv b (decide (qf ≤ k)))) := by
  unfold F_X6_quicker bqv
  rw [h12, h19, hx]
  by_cases c : qf ≤ k
  · rw [if_neg (fun q => absurd ((nI_ltI (by omega) (by omega)).mp q) (by omega))]
    rw [decide_eq_true c, if_pos rfl]
    by_cases c4 : 4 < b
    · have c4' : ¬ iI b ≤ (4 : Int32) := fun q => absurd ((iI_le (b := 4) (by omega)).mp q) (by omega)
      rw [if_neg c4', if_pos c4]
      simp only [dd, i1I, iI_sub]
    · have c4' : iI b ≤ (4 : Int32) := (iI_le (b := 4) (by omega)).mpr (by omega)
      rw [if_pos c4', if_neg c4]
  · rw [if_pos ((nI_ltI (by omega) (by omega)).mpr (by omega))]
    rw [decide_eq_false c, if_neg (by decide)]
theorem next_ok {a o b g : Int} (hb : 4 ≤ b ∧ b ≤ 20) (hg : 0 ≤ g ∧ g ≤ 4) (hd : a - o ≤ 20 ∧ o - a ≤ 20) (ha : 0 ≤ a ∧ a ≤ 1000000) : F_X6_next (iI a) (iI o) (iI b) (iI g) = some (iI (nx a o b g)) := by
  have h1 := gd_bd hg (d := o - a) (by omega)
  have h2 := td4 h1
  unfold F_X6_next nx
  simp only [dd]
  rw [iI_sub, iI_mul, iI_div4 (by omega), iI_add, iI_add, i1I, iI_add]
  generalize (g * (o - a)).tdiv 4 = t at h2 ⊢
  by_cases c : 1 < b + t
  · rw [if_pos c, if_neg (fun q => absurd ((iI_le (by omega)).mp q) (by omega)), show a + b + t = a + (b + t) by omega]
  · rw [if_neg c]
    by_cases c1 : b + t = 1
    · rw [if_neg (fun q => absurd ((iI_le (by omega)).mp q) (by omega)), show a + b + t = a + 1 by omega]
    · rw [if_pos ((iI_le (by omega)).mpr (by omega))]
theorem mstep_ok {p : Nat → Int} {qf : Nat} {s : S5} {k : Nat} {m : Ob} (hm : MS p qf s k m) (hg : Gp p) (hq : qf < 2000000000) (hs : Bd k s) (hn : k ≤ 999) :
    ∃ m' : Ob, F_X6_step m = some m' ∧ MS p qf (stp p (bqv (p 0) (decide (qf ≤ k))) (bqv (p 1) (decide (qf ≤ k))) s) (k + 1) m' ∧ m' 20 0 = sgn p (bqv (p 0) (decide (qf ≤ k))) (bqv (p 1) (decide (qf ≤ k))) s ∧
      (m' 21 0 = if ear p (bqv (p 0) (decide (qf ≤ k))) (bqv (p 1) (decide (qf ≤ k))) s then 0 else 1) ∧ ∀ i, i < 14 ∨ 22 ≤ i → m' i = m i := by
  obtain ⟨⟨m7, m8, m9, m10, m11, m12, m13, m5, m6⟩, m14, m15, m16, m17, m18, m19⟩ := hm
  obtain ⟨h1, h2, h3, h4, h5, h6⟩ := hs
  obtain ⟨g0, g2, g4, g5, g6, g7⟩ := hg
  have q7 := quick_ok m7 m12 m19 ⟨g0.1, g0.2.1⟩ hq (by omega)
  have q8 := quick_ok m8 m12 m19 ⟨g0.2.2.1, g0.2.2.2⟩ hq (by omega)
  have b1 := bqv_bd (b := p 0) ⟨g0.1, g0.2.1⟩ (decide (qf ≤ k))
  have b2 := bqv_bd (b := p 1) ⟨g0.2.2.1, g0.2.2.2⟩ (decide (qf ≤ k))
  generalize bqv (p 0) (decide (qf ≤ k)) = b1v at q7 b1 ⊢
  generalize bqv (p 1) (decide (qf ≤ k)) = b2v at q8 b2 ⊢
  have na := nx_bd (own := s.1) (oth := s.2.1) (b := b1v) (g := p 2) b1 ⟨g2.1, g2.2.1⟩ h3
  have nb := nx_bd (own := s.2.1) (oth := s.1) (b := b2v) (g := p 3) b2 ⟨g2.2.2.1, g2.2.2.2⟩ ⟨h3.2, h3.1⟩
  have ea := next_ok (a := s.1) (o := s.2.1) (b := b1v) (g := p 2) b1 ⟨g2.1, g2.2.1⟩ h3 (by omega)
  have eb := next_ok (a := s.2.1) (o := s.1) (b := b2v) (g := p 3) b2 ⟨g2.2.2.1, g2.2.2.2⟩ ⟨h3.2, h3.1⟩ (by omega)
  unfold F_X6_step stp sgn ear
  rw [q7, Option.bind_some, m14, m15, m9, ea, Option.bind_some, q8, Option.bind_some, m10, eb, Option.bind_some]
  generalize nx s.1 s.2.1 b1v (p 2) = xa at na ⊢
  generalize nx s.2.1 s.1 b2v (p 3) = xb at nb ⊢
  simp only [dd, jn_if, jn_if2]
  have hab : (if iI xa ≤ iI xb then iI xb - iI xa else iI xa - iI xb) = iI (ab (xa - xb)) := by
    unfold ab
    rw [iI_sub, iI_sub]
    by_cases c : xa ≤ xb
    · rw [if_pos ((iI_le (by omega)).mpr c)]
      by_cases c2 : 0 ≤ xa - xb
      · rw [if_pos c2, show xb - xa = xa - xb by omega]
      · rw [if_neg c2, show xb - xa = 0 - (xa - xb) by omega]
    · rw [if_neg (fun q => c ((iI_le (by omega)).mp q)), if_pos (by omega)]
  have hmx : (if iI xa ≤ iI xb then iI xb else iI xa) = iI (mx xa xb) := by
    unfold mx
    by_cases c : xa < xb
    · rw [if_pos c, if_pos ((iI_le (by omega)).mpr (by omega))]
    · rw [if_neg c]
      by_cases c2 : xa = xb
      · rw [if_pos ((iI_le (by omega)).mpr (by omega)), c2]
      · rw [if_neg (fun q => absurd ((iI_le (by omega)).mp q) (by omega))]
  have hE : (if iI xb ≤ iI xa then (1 : Int32) else 0) = if decide (xa < xb) = true then 0 else 1 := by
    by_cases c : xa < xb
    · rw [if_neg (fun q => absurd ((iI_le (by omega)).mp q) (by omega))]
      simp [c]
    · rw [if_pos ((iI_le (by omega)).mpr (by omega))]
      simp [c]
  rw [hab, hmx, hE, m5, m13]
  generalize (if decide (xa < xb) = true then (0 : Int32) else 1) = ev
  have hab2 : 0 ≤ ab (xa - xb) ∧ ab (xa - xb) ≤ 300 := by have := ab_s (xa - xb); omega
  have hH : (if iI (ab (xa - xb)) ≤ iI (p 6) then (if iI (ab (xa - xb)) ≤ iI (p 5) then (115 : Int32) else 108) else 102) = if p 6 < ab (xa - xb) then 102 else if p 5 < ab (xa - xb) then 108 else 115 := by
    by_cases c6 : p 6 < ab (xa - xb)
    · rw [if_pos c6, if_neg (fun q => absurd ((iI_le (by omega)).mp q) (by omega))]
    · rw [if_neg c6, if_pos ((iI_le (by omega)).mpr (by omega))]
      by_cases c5 : p 5 < ab (xa - xb)
      · rw [if_pos c5, if_neg (fun q => absurd ((iI_le (by omega)).mp q) (by omega))]
      · rw [if_neg c5, if_pos ((iI_le (by omega)).mpr (by omega))]
  rw [hH]
  simp only [sO_at, cst_at, Nat.reduceEqDiff, reduceIte, reduceCtorEq, Nat.succ_ne_self, Nat.one_ne_zero, Nat.zero_ne_one]
  have n1 : ¬ (102 : Int32) = 115 := by decide
  have n2 : ¬ (102 : Int32) = 108 := by decide
  have n3 : ¬ (108 : Int32) = 102 := by decide
  have n4 : ¬ (108 : Int32) = 115 := by decide
  have n5 : ¬ (115 : Int32) = 102 := by decide
  have n6 : ¬ (115 : Int32) = 108 := by decide
  have i0 : ∀ z : Int, iI z + 0 = iI z := fun z => by rw [show (0 : Int32) = iI 0 from rfl, iI_add, Int.add_zero]
  by_cases c6 : p 6 < ab (xa - xb)
  · simp only [if_pos c6, if_neg n1, if_neg n2, if_true, m16, m17, m18, m19, m6, nI_1, i0]
    rw [i1I, iI_add, iI_add]
    refine ⟨_, rfl, ⟨⟨?_, ?_, ?_, ?_, ?_, ?_, ?_, ?_, ?_⟩, ?_, ?_, ?_, ?_, ?_, ?_⟩, ?_, ?_, fun i hi => ?_⟩
    all_goals first | (rw [sO_ne _ _ _ _ (by omega), sO_ne _ _ _ _ (by omega), sO_ne _ _ _ _ (by omega), sO_ne _ _ _ _ (by omega), sO_ne _ _ _ _ (by omega), sO_ne _ _ _ _ (by omega), sO_ne _ _ _ _ (by omega), sO_ne _ _ _ _ (by omega)]; done) | (simp only [sO_at, cst_at, Nat.reduceEqDiff, reduceIte, reduceCtorEq, Nat.succ_ne_self, Nat.one_ne_zero, Nat.zero_ne_one] <;> first | rfl | assumption)
  · simp only [if_neg c6]
    by_cases c5 : p 5 < ab (xa - xb)
    · simp only [if_pos c5, if_neg n3, if_neg n4, if_true, m16, m17, m18, m19, m6, nI_1, i0]
      rw [i1I, iI_add]
      refine ⟨_, rfl, ⟨⟨?_, ?_, ?_, ?_, ?_, ?_, ?_, ?_, ?_⟩, ?_, ?_, ?_, ?_, ?_, ?_⟩, ?_, ?_, fun i hi => ?_⟩
      all_goals first | (rw [sO_ne _ _ _ _ (by omega), sO_ne _ _ _ _ (by omega), sO_ne _ _ _ _ (by omega), sO_ne _ _ _ _ (by omega), sO_ne _ _ _ _ (by omega), sO_ne _ _ _ _ (by omega), sO_ne _ _ _ _ (by omega), sO_ne _ _ _ _ (by omega)]; done) | (simp only [sO_at, cst_at, Nat.reduceEqDiff, reduceIte, reduceCtorEq, Nat.succ_ne_self, Nat.one_ne_zero, Nat.zero_ne_one] <;> first | rfl | assumption)
    · simp only [if_neg c5, if_neg n5, if_neg n6, if_true, m16, m17, m18, m19, m11, nI_1, i0]
      rw [iI_add]
      refine ⟨_, rfl, ⟨⟨?_, ?_, ?_, ?_, ?_, ?_, ?_, ?_, ?_⟩, ?_, ?_, ?_, ?_, ?_, ?_⟩, ?_, ?_, fun i hi => ?_⟩
      all_goals first | (rw [sO_ne _ _ _ _ (by omega), sO_ne _ _ _ _ (by omega), sO_ne _ _ _ _ (by omega), sO_ne _ _ _ _ (by omega), sO_ne _ _ _ _ (by omega), sO_ne _ _ _ _ (by omega), sO_ne _ _ _ _ (by omega), sO_ne _ _ _ _ (by omega)]; done) | (simp only [sO_at, cst_at, Nat.reduceEqDiff, reduceIte, reduceCtorEq, Nat.succ_ne_self, Nat.one_ne_zero, Nat.zero_ne_one] <;> first | rfl | assumption)
