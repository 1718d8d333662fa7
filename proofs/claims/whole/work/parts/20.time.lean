def fnd (P : Nat → Bool) : Nat → Nat → Option Nat
  | 0, _ => none
  | f + 1, n => if P n then some n else fnd P f (n + 1)
def far (p : Nat → Int) (qf goal : Nat) : Nat → Bool := fun n => decide ((goal : Int) ≤ (sq p qf n).2.2.1)
theorem far_t {p : Nat → Int} {qf goal n : Nat} (h : (goal : Int) ≤ (sq p qf n).2.2.1) : far p qf goal n = true := decide_eq_true h
theorem far_f {p : Nat → Int} {qf goal n : Nat} (h : ¬ (goal : Int) ≤ (sq p qf n).2.2.1) : ¬ far p qf goal n = true := by
  unfold far
  rw [decide_eq_false h]
  decide
def RT (p : Nat → Int) (qf goal : Nat) : Option Nat := fnd (far p qf goal) 1000 0
def tm (s : S5) : Int := mx s.1 s.2.1
def TT (p : Nat → Int) (qf goal : Nat) : Option Int := (RT p qf goal).map (fun n => tm (sq p qf n))
def cT (o : Option Int) : Int32 := match o with
  | none => -6
  | some t => iI t
def mT (o : Option Int) : Int32 := match o with
  | none => 1000000000
  | some t => iI t
theorem time_ok {w : Ob} {a b : Int} (h8 : w 8 0 = iI a) (h9 : w 9 0 = iI b) (h : -1000000000 ≤ a ∧ a ≤ 1000000000 ∧ -1000000000 ≤ b ∧ b ≤ 1000000000) : F_X4_time w = some (iI (mx a b)) := by
  unfold F_X4_time mx
  simp only [dd, h8, h9]
  by_cases c : a < b
  · rw [if_pos c, if_pos ((iI_lt (by omega)).mpr c)]
  · rw [if_neg c, if_neg (fun q => c ((iI_lt (by omega)).mp q))]
theorem mtime_ok {m : Ob} {a b : Int} (h8 : m 14 0 = iI a) (h9 : m 15 0 = iI b) (h : -1000000000 ≤ a ∧ a ≤ 1000000000 ∧ -1000000000 ≤ b ∧ b ≤ 1000000000) : F_X6_time m = some (iI (mx a b)) := by
  unfold F_X6_time mx
  rw [h8, h9]
  by_cases c : a < b
  · rw [if_pos c, if_pos ((iI_le (by omega)).mpr (by omega))]
  · rw [if_neg c]
    by_cases c2 : a = b
    · rw [if_pos ((iI_le (by omega)).mpr (by omega)), c2]
    · rw [if_neg (fun q => absurd ((iI_le (by omega)).mp q) (by omega))]
theorem speed_ok {p : Nat → Int} {s : S5} {k : Nat} {w : Ob} (hg : Gp p) (hw : WS p (p 0) (p 1) s k w) : ∃ w' : Ob, F_X4_speedUp w = some w' ∧ WS p (bqv (p 0) true) (bqv (p 1) true) s k w' := by
  obtain ⟨w0, w1, wp, w8, w9, w10, w11, w12, w13⟩ := hw
  have sp : ∀ b : Int, 4 ≤ b → b ≤ 20 → (if (4 : Int32) < iI b - 1 then iI b - 1 else 4) = iI (bqv b true) := by
    intro b h1 h2
    rw [i1I, iI_sub]
    unfold bqv
    rw [if_pos rfl]
    by_cases c : 4 < b - 1
    · have c' : (4 : Int32) < iI (b - 1) := (iI_lt (a := 4) (by omega)).mpr c
      rw [if_pos c', if_pos (by omega)]
    · have c' : ¬ (4 : Int32) < iI (b - 1) := fun q => c ((iI_lt (a := 4) (by omega)).mp q)
      rw [if_neg c']
      by_cases c4 : 4 < b
      · rw [if_pos c4, show b - 1 = 4 by omega]; rfl
      · rw [if_neg c4, show b = 4 by omega]; rfl
  unfold F_X4_speedUp
  simp only [dd, w0, sp (p 0) hg.1.1 hg.1.2.1]
  rw [sO_ne _ _ _ _ (by decide), w1, sp (p 1) hg.1.2.2.1 hg.1.2.2.2]
  refine ⟨_, rfl, ?_, ?_, fun i h2 h8 => ?_, ?_, ?_, ?_, ?_, ?_, ?_⟩
  · rw [sO_ne _ _ _ _ (by decide), sO_eq]; rfl
  · rw [sO_eq]; rfl
  · rw [sO_ne _ _ _ _ (by omega), sO_ne _ _ _ _ (by omega)]; exact wp i h2 h8
  all_goals rw [sO_ne _ _ _ _ (by decide), sO_ne _ _ _ _ (by decide)]
  all_goals assumption
theorem timeTo_loop {p : Nat → Int} (hg : Gp p) {qf : Nat} {q : Int32} (hq : (qf = 1000 ∧ q = -1) ∨ (q = nI qf ∧ qf ≤ 60)) {goal : Nat} (hgoal : goal ≤ 999) (K : Ob → Option (Int32 × Ob)) :
    ∀ (f i : Nat) (v : Int32) (w : Ob), v = nI i → i ≤ 999 → 999 - i < f → WS p (bqv (p 0) (decide (qf < i))) (bqv (p 1) (decide (qf < i))) (sq p qf i) i w →
      (∃ n w', fnd (far p qf goal) (999 - i) (i + 1) = some n ∧ n ≤ 999 ∧ WS p (bqv (p 0) (decide (qf < n))) (bqv (p 1) (decide (qf < n))) (sq p qf n) n w' ∧ L_X4_timeTo_2 f (nI goal) q v w K = K w') ∨ (fnd (far p qf goal) (999 - i) (i + 1) = none ∧ ∃ w', L_X4_timeTo_2 f (nI goal) q v w K = some (-6, w')) := by
  intro f
  induction f with
  | zero => intro i v w _ _ h; exact absurd h (by omega)
  | succ f ih =>
    intro i v w hv hi hf hw
    subst hv
    rw [L_X4_timeTo_2.eq_2]
    by_cases h9 : i = 999
    · subst h9
      rw [if_pos (show (999 : Int32) ≤ nI 999 by decide)]
      exact Or.inr ⟨rfl, w, rfl⟩
    · have n9 : ¬ (999 : Int32) ≤ nI i := fun q => absurd ((nI_leI (a := 999) (by omega) (by omega)).mp q) (by omega)
      rw [if_neg n9]
      have hsp : ∃ w1 : Ob, WS p (bqv (p 0) (decide (qf ≤ i))) (bqv (p 1) (decide (qf ≤ i))) (sq p qf i) i w1 ∧ ∀ A : Ob → Option (Int32 × Ob), jn A (fun K9 => (if nI i = q then (F_X4_speedUp w).bind (fun q15 => K9 q15) else K9 w)) = A w1 := by
        by_cases hqi : qf = i
        · have hq' : nI i = q := by
            rcases hq with ⟨h, -⟩ | ⟨h, -⟩
            · omega
            · rw [h, hqi]
          rw [decide_eq_false (show ¬ qf < i by omega)] at hw
          obtain ⟨w1, e1, e2⟩ := speed_ok hg hw
          rw [decide_eq_true (show qf ≤ i by omega)]
          refine ⟨w1, e2, fun A => ?_⟩
          rw [jn_eq, if_pos hq', e1]
          rfl
        · have hq' : ¬ nI i = q := by
            rcases hq with ⟨-, h⟩ | ⟨h, h2⟩
            · rw [h]
              intro g
              have : (nI i).toInt = -1 := by rw [g]; rfl
              rw [nI_toInt (by omega)] at this
              omega
            · rw [h]
              exact fun g => hqi ((nI_eq (by omega) (by omega)).mp g).symm
          have e : decide (qf < i) = decide (qf ≤ i) := by
            by_cases h : qf < i
            · rw [decide_eq_true h, decide_eq_true (by omega)]
            · rw [decide_eq_false h, decide_eq_false (by omega)]
          rw [e] at hw
          refine ⟨w, hw, fun A => ?_⟩
          rw [jn_eq, if_neg hq']
      obtain ⟨w1, hw1, hA⟩ := hsp
      rw [hA]
      have hb0 := bqv_bd (b := p 0) ⟨hg.1.1, hg.1.2.1⟩ (decide (qf ≤ i))
      have hb1 := bqv_bd (b := p 1) ⟨hg.1.2.2.1, hg.1.2.2.2⟩ (decide (qf ≤ i))
      obtain ⟨w2, e2, hw2, -, -⟩ := step_ok hw1 hg ⟨hb0.1, hb0.2, hb1.1, hb1.2⟩ (sq_bd hg qf i) (by omega)
      rw [e2]
      simp only [Option.bind_some]
      have hw2' : WS p (bqv (p 0) (decide (qf < i + 1))) (bqv (p 1) (decide (qf < i + 1))) (sq p qf (i + 1)) (i + 1) w2 := by
        have e : decide (qf < i + 1) = decide (qf ≤ i) := by
          by_cases h : qf ≤ i
          · rw [decide_eq_true h, decide_eq_true (by omega)]
          · rw [decide_eq_false h, decide_eq_false (by omega)]
        rw [e]
        exact hw2
      have hbd := sq_bd hg qf (i + 1)
      have hfe : w2 11 0 = iI (sq p qf (i + 1)).2.2.1 := hw2'.2.2.2.2.2.2.1
      have hft := hbd.2.2.2.1
      rw [show 999 - i = (999 - (i + 1)) + 1 by omega]
      by_cases c : (goal : Int) ≤ (sq p qf (i + 1)).2.2.1
      · left
        refine ⟨i + 1, w2, ?_, by omega, hw2', ?_⟩
        · show (if far p qf goal (i + 1) then _ else _) = _
          rw [if_pos (far_t c)]
        · rw [hfe, nI_iI, if_neg (fun g => absurd ((iI_lt (by omega)).mp g) (by omega))]
      · have hfn : fnd (far p qf goal) (999 - (i + 1) + 1) (i + 1) = fnd (far p qf goal) (999 - (i + 1)) (i + 1 + 1) := by
          show (if far p qf goal (i + 1) then _ else _) = _
          rw [if_neg (far_f c)]
        rw [hfn, hfe, nI_iI goal, if_pos ((iI_lt (by omega)).mpr (by omega))]
        simp only [dd, nI_1]
        rw [← nI_iI]
        exact ih (i + 1) _ w2 rfl (by omega) (by omega) hw2'
theorem timeTo_ok {p : Nat → Int} (hg : Gp p) {qf : Nat} {q : Int32} (hq : (qf = 1000 ∧ q = -1) ∨ (q = nI qf ∧ qf ≤ 60)) {goal : Nat} (h1 : 1 ≤ goal) (h9 : goal ≤ 999) {w : Ob} (hw : WS p (p 0) (p 1) s0 0 w) :
    ∃ w' : Ob, F_X4_timeTo w (nI goal) q = some (cT (TT p qf goal), w') ∧ ∀ n, RT p qf goal = some n → w' 10 0 = nI n := by
  unfold F_X4_timeTo
  have hR : RT p qf goal = fnd (far p qf goal) 999 1 := by
    show (if far p qf goal 0 then _ else _) = _
    rw [if_neg (by unfold far; rw [decide_eq_false (by show ¬ (goal : Int) ≤ 0; omega)]; decide)]
  have hw0 : WS p (bqv (p 0) (decide (qf < 0))) (bqv (p 1) (decide (qf < 0))) (sq p qf 0) 0 w := hw
  rw [jn_eq]
  rcases timeTo_loop hg hq h9 (fun (ow2 : Ob) => (F_X4_time ow2).bind (fun q3 => some (q3, ow2))) 2000 0 0 w rfl (by omega) (by omega) hw0 with ⟨n, w', e1, hn, hw', e2⟩ | ⟨e1, w', e2⟩
  · have hbd := sq_bd hg qf n
    have e1' : RT p qf goal = some n := by rw [hR]; exact e1
    rw [e2, time_ok hw'.2.2.2.1 hw'.2.2.2.2.1 (by have := hbd.1; have := hbd.2.1; omega)]
    refine ⟨w', ?_, fun n' hn' => ?_⟩
    · unfold TT
      rw [e1']
      rfl
    · rw [e1'] at hn'
      cases hn'
      exact hw'.2.2.2.2.2.1
  · have e1' : RT p qf goal = none := by rw [hR]; exact e1
    refine ⟨w', ?_, fun n' hn' => ?_⟩
    · rw [e2]
      unfold TT
      rw [e1']
      rfl
    · rw [e1'] at hn'
      cases hn'
theorem timeOf_loop {p : Nat → Int} (hg : Gp p) {qf : Nat} (hqf : qf < 2000000000) {goal : Nat} (hgoal : goal ≤ 999) (K : Ob → Option (Int32 × Ob)) :
    ∀ (f k : Nat) (m : Ob), k ≤ 999 → 999 - k < f → MS p qf (sq p qf k) k m →
      ∃ m', (∀ i, i < 14 ∨ 22 ≤ i → m' i = m i) ∧ L_X6_timeOf_4 f (nI goal) m K = K m' ∧ ((∃ n, fnd (far p qf goal) (1000 - k) k = some n ∧ n ≤ 999 ∧ MS p qf (sq p qf n) n m' ∧ (goal : Int) ≤ (sq p qf n).2.2.1) ∨ (fnd (far p qf goal) (1000 - k) k = none ∧ MS p qf (sq p qf 999) 999 m' ∧ ¬ (goal : Int) ≤ (sq p qf 999).2.2.1)) := by
  intro f
  induction f with
  | zero => intro k m _ h; exact absurd h (by omega)
  | succ f ih =>
    intro k m hk hf hm
    rw [L_X6_timeOf_4.eq_2]
    have hbd := sq_bd hg qf k
    have h16 : m 16 0 = iI (sq p qf k).2.2.1 := hm.2.2.2.1
    have h19 : m 19 0 = nI k := hm.2.2.2.2.2.2
    have hft := hbd.2.2.2.1
    rw [h16, h19]
    have hfn : fnd (far p qf goal) (1000 - k) k = if far p qf goal k then some k else fnd (far p qf goal) (999 - k) (k + 1) := by
      rw [show 1000 - k = (999 - k) + 1 by omega]
      rfl
    by_cases h9 : k = 999
    · subst h9
      rw [if_pos (show (999 : Int32) ≤ nI 999 by decide)]
      refine ⟨m, fun _ _ => rfl, rfl, ?_⟩
      rw [hfn]
      by_cases c : (goal : Int) ≤ (sq p qf 999).2.2.1
      · left
        exact ⟨999, by rw [if_pos (far_t c)], by omega, hm, c⟩
      · right
        exact ⟨by rw [if_neg (far_f c)]; rfl, hm, c⟩
    · have n9 : ¬ (999 : Int32) ≤ nI k := fun q => absurd ((nI_leI (a := 999) (by omega) (by omega)).mp q) (by omega)
      rw [if_neg n9]
      by_cases c : (goal : Int) ≤ (sq p qf k).2.2.1
      · rw [nI_iI goal, if_pos ((iI_le (by omega)).mpr c)]
        refine ⟨m, fun _ _ => rfl, rfl, Or.inl ⟨k, ?_, by omega, hm, c⟩⟩
        rw [hfn, if_pos (far_t c)]
      · rw [nI_iI goal, if_neg (fun q => c ((iI_le (by omega)).mp q)), ← nI_iI goal]
        obtain ⟨m1, e1, hm1, -, -, fr1⟩ := mstep_ok hm hg hqf hbd hk
        rw [e1, Option.bind_some]
        have e9 : 999 - k = 1000 - (k + 1) := by omega
        obtain ⟨m2, fr2, e2, h2⟩ := ih (k + 1) m1 (by omega) (by omega) hm1
        refine ⟨m2, fun i hi => (fr2 i hi).trans (fr1 i hi), e2, ?_⟩
        rw [hfn, if_neg (far_f c), e9]
        exact h2
theorem timeOf_ok {p : Nat → Int} (hg : Gp p) {qf : Nat} (hqf : qf < 2000000000) {goal : Nat} (h9 : goal ≤ 999) {m : Ob} (hm : MP p qf m) :
    ∃ m' : Ob, F_X6_timeOf m (nI goal) = some (mT (TT p qf goal), m') ∧ (∀ n, RT p qf goal = some n → m' 19 0 = nI n) ∧ ∀ i, i < 14 ∨ 22 ≤ i → m' i = m i := by
  unfold F_X6_timeOf
  obtain ⟨m0, e0, hm0, fr0⟩ := begin_ok hm
  rw [e0, Option.bind_some, jn_eq]
  obtain ⟨m1, fr1, e1, h⟩ := timeOf_loop hg hqf h9 (fun (om3 : Ob) => (if (om3 16 0) < nI goal then some (1000000000, om3) else (F_X6_time om3).bind (fun q5 => some (q5, om3)))) 2000 0 m0 (by omega) (by omega) hm0
  rw [e1]
  have fr : ∀ i, i < 14 ∨ 22 ≤ i → m1 i = m i := fun i hi => (fr1 i hi).trans (fr0 i (by omega))
  rcases h with ⟨n, e2, hn, hm1, c⟩ | ⟨e2, hm1, c⟩
  · have hbd := sq_bd hg qf n
    have hft := hbd.2.2.2.1
    have e2' : RT p qf goal = some n := e2
    refine ⟨m1, ?_, fun n' hn' => ?_, fr⟩
    · rw [hm1.2.2.2.1, nI_iI, if_neg (fun q => absurd ((iI_lt (by omega)).mp q) (by omega)), mtime_ok hm1.2.1 hm1.2.2.1 (by have := hbd.1; have := hbd.2.1; omega)]
      unfold TT
      rw [e2']
      rfl
    · rw [e2'] at hn'
      cases hn'
      exact hm1.2.2.2.2.2.2
  · have hbd := sq_bd hg qf 999
    have hft := hbd.2.2.2.1
    have e2' : RT p qf goal = none := e2
    refine ⟨m1, ?_, fun n' hn' => ?_, fr⟩
    · rw [hm1.2.2.2.1, nI_iI, if_pos ((iI_lt (by omega)).mpr (by omega))]
      unfold TT
      rw [e2']
      rfl
    · rw [e2'] at hn'
      cases hn'
