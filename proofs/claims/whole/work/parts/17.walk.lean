/-! A pair's run in whole numbers, and that both Walk and the reference run it. p: 0 1 beats, 2 3 gives, 4 stride, 5 lurch, 6 fall, 7 up. -/
def bqv (b : Int) (q : Bool) : Int := if q then (if 4 < b then b - 1 else b) else b
def nx (own oth b g : Int) : Int := own + (if 1 < b + (g * (oth - own)).tdiv 4 then b + (g * (oth - own)).tdiv 4 else 1)
def ab (z : Int) : Int := if 0 ≤ z then z else 0 - z
def mx (a b : Int) : Int := if a < b then b else a
abbrev S5 : Type := Int × Int × Int × Int × Int
def stp (p : Nat → Int) (b1 b2 : Int) (s : S5) : S5 :=
  if p 6 < ab (nx s.1 s.2.1 b1 (p 2) - nx s.2.1 s.1 b2 (p 3)) then
    (mx (nx s.1 s.2.1 b1 (p 2)) (nx s.2.1 s.1 b2 (p 3)) + p 7, mx (nx s.1 s.2.1 b1 (p 2)) (nx s.2.1 s.1 b2 (p 3)) + p 7, s.2.2.1, s.2.2.2.1, s.2.2.2.2 + 1)
  else if p 5 < ab (nx s.1 s.2.1 b1 (p 2) - nx s.2.1 s.1 b2 (p 3)) then (nx s.1 s.2.1 b1 (p 2), nx s.2.1 s.1 b2 (p 3), s.2.2.1, s.2.2.2.1 + 1, s.2.2.2.2)
  else (nx s.1 s.2.1 b1 (p 2), nx s.2.1 s.1 b2 (p 3), s.2.2.1 + p 4, s.2.2.2.1, s.2.2.2.2)
def sgn (p : Nat → Int) (b1 b2 : Int) (s : S5) : Int32 :=
  if p 6 < ab (nx s.1 s.2.1 b1 (p 2) - nx s.2.1 s.1 b2 (p 3)) then 102 else if p 5 < ab (nx s.1 s.2.1 b1 (p 2) - nx s.2.1 s.1 b2 (p 3)) then 108 else 115
def ear (p : Nat → Int) (b1 b2 : Int) (s : S5) : Bool := decide (nx s.1 s.2.1 b1 (p 2) < nx s.2.1 s.1 b2 (p 3))
def sq (p : Nat → Int) (qf : Nat) : Nat → S5
  | 0 => (0, 0, 0, 0, 0)
  | n + 1 => stp p (bqv (p 0) (decide (qf ≤ n))) (bqv (p 1) (decide (qf ≤ n))) (sq p qf n)
def Gp (p : Nat → Int) : Prop := (4 ≤ p 0 ∧ p 0 ≤ 20 ∧ 4 ≤ p 1 ∧ p 1 ≤ 20) ∧ (0 ≤ p 2 ∧ p 2 ≤ 4 ∧ 0 ≤ p 3 ∧ p 3 ≤ 4) ∧ (1 ≤ p 4 ∧ p 4 ≤ 9) ∧ (0 ≤ p 5 ∧ p 5 ≤ 20) ∧ (0 ≤ p 6 ∧ p 6 ≤ 20) ∧ (0 ≤ p 7 ∧ p 7 ≤ 99)
def Bd (n : Nat) (s : S5) : Prop := (0 ≤ s.1 ∧ s.1 ≤ 200 * n) ∧ (0 ≤ s.2.1 ∧ s.2.1 ≤ 200 * n) ∧ (s.1 - s.2.1 ≤ 20 ∧ s.2.1 - s.1 ≤ 20) ∧ (0 ≤ s.2.2.1 ∧ s.2.2.1 ≤ 9 * n) ∧ (0 ≤ s.2.2.2.1 ∧ s.2.2.2.1 ≤ n) ∧ (0 ≤ s.2.2.2.2 ∧ s.2.2.2.2 ≤ n)
def Bb (b1 b2 : Int) : Prop := 4 ≤ b1 ∧ b1 ≤ 20 ∧ 4 ≤ b2 ∧ b2 ≤ 20
theorem ab_s (z : Int) : (ab z = z ∧ 0 ≤ z) ∨ (ab z = -z ∧ z < 0) := by unfold ab; split <;> omega
theorem mx_s (a b : Int) : (mx a b = b ∧ a < b) ∨ (mx a b = a ∧ b ≤ a) := by unfold mx; split <;> omega
theorem td4 {x : Int} (h : -80 ≤ x ∧ x ≤ 80) : -20 ≤ x.tdiv 4 ∧ x.tdiv 4 ≤ 20 := by
  rcases Int.le_total 0 x with a | a
  · rw [Int.tdiv_eq_ediv_of_nonneg a]
    omega
  · have h3 : x.tdiv 4 = -((-x).tdiv 4) := by rw [Int.neg_tdiv, Int.neg_neg]
    rw [h3, Int.tdiv_eq_ediv_of_nonneg (by omega)]
    omega
theorem gd_bd {g d : Int} (hg : 0 ≤ g ∧ g ≤ 4) (hd : -20 ≤ d ∧ d ≤ 20) : -80 ≤ g * d ∧ g * d ≤ 80 := by
  rcases (show g = 0 ∨ g = 1 ∨ g = 2 ∨ g = 3 ∨ g = 4 by omega) with rfl | rfl | rfl | rfl | rfl <;> omega
theorem nx_bd {own oth b g : Int} (hb : 4 ≤ b ∧ b ≤ 20) (hg : 0 ≤ g ∧ g ≤ 4) (hd : own - oth ≤ 20 ∧ oth - own ≤ 20) : own + 1 ≤ nx own oth b g ∧ nx own oth b g ≤ own + 40 := by
  have h := td4 (gd_bd hg (d := oth - own) (by omega))
  unfold nx
  split <;> omega
theorem bqv_bd {b : Int} (hb : 4 ≤ b ∧ b ≤ 20) (q : Bool) : 4 ≤ bqv b q ∧ bqv b q ≤ 20 := by
  unfold bqv
  split
  · split <;> omega
  · exact hb
theorem stp_bd {p : Nat → Int} {b1 b2 : Int} {s : S5} {n : Nat} (hg : Gp p) (hb : Bb b1 b2) (h : Bd n s) : Bd (n + 1) (stp p b1 b2 s) := by
  obtain ⟨h1, h2, h3, h4, h5, h6⟩ := h
  obtain ⟨-, g2, g4, g5, g6, g7⟩ := hg
  obtain ⟨q1, q2, q3, q4⟩ := hb
  have na := nx_bd (own := s.1) (oth := s.2.1) (b := b1) (g := p 2) ⟨q1, q2⟩ ⟨g2.1, g2.2.1⟩ h3
  have nb := nx_bd (own := s.2.1) (oth := s.1) (b := b2) (g := p 3) ⟨q3, q4⟩ ⟨g2.2.2.1, g2.2.2.2⟩ ⟨h3.2, h3.1⟩
  unfold stp
  generalize nx s.1 s.2.1 b1 (p 2) = xa at na ⊢
  generalize nx s.2.1 s.1 b2 (p 3) = xb at nb ⊢
  have A := ab_s (xa - xb)
  have M := mx_s xa xb
  generalize ab (xa - xb) = dd1 at A ⊢
  generalize mx xa xb = mm1 at M ⊢
  unfold Bd
  split
  · dsimp only; omega
  · split
    · dsimp only; omega
    · dsimp only; omega
theorem sq_bd {p : Nat → Int} (hg : Gp p) (qf n : Nat) : Bd n (sq p qf n) := by
  induction n with
  | zero =>
    show Bd 0 ((0, 0, 0, 0, 0) : S5)
    exact ⟨⟨by decide, by decide⟩, ⟨by decide, by decide⟩, ⟨by decide, by decide⟩, ⟨by decide, by decide⟩, ⟨by decide, by decide⟩, ⟨by decide, by decide⟩⟩
  | succ n ih =>
    have a := bqv_bd (b := p 0) ⟨hg.1.1, hg.1.2.1⟩ (decide (qf ≤ n))
    have b := bqv_bd (b := p 1) ⟨hg.1.2.2.1, hg.1.2.2.2⟩ (decide (qf ≤ n))
    exact stp_bd hg ⟨a.1, a.2, b.1, b.2⟩ ih
/-- the class's Walk holds the state s behind k steps, its beats being b1 b2 -/
def WS (p : Nat → Int) (b1 b2 : Int) (s : S5) (k : Nat) (w : Ob) : Prop :=
  w 0 0 = iI b1 ∧ w 1 0 = iI b2 ∧ (∀ i, 2 ≤ i → i < 8 → w i 0 = iI (p i)) ∧ w 8 0 = iI s.1 ∧ w 9 0 = iI s.2.1 ∧ w 10 0 = nI k ∧ w 11 0 = iI s.2.2.1 ∧ w 12 0 = iI s.2.2.2.1 ∧ w 13 0 = iI s.2.2.2.2
theorem i1I : (1 : Int32) = iI 1 := rfl
theorem nx_ok {a o b g : Int} (hb : 4 ≤ b ∧ b ≤ 20) (hg : 0 ≤ g ∧ g ≤ 4) (hd : a - o ≤ 20 ∧ o - a ≤ 20) :
    iI a + (if (1 : Int32) < iI b + iI g * (iI o - iI a) / 4 then iI b + iI g * (iI o - iI a) / 4 else 1) = iI (nx a o b g) := by
  have h1 := gd_bd hg (d := o - a) (by omega)
  have h2 := td4 h1
  have e : iI b + iI g * (iI o - iI a) / 4 = iI (b + (g * (o - a)).tdiv 4) := by
    rw [iI_sub, iI_mul, iI_div4 (by omega), iI_add]
  rw [e]
  unfold nx
  by_cases c : 1 < b + (g * (o - a)).tdiv 4
  · have c' : (1 : Int32) < iI (b + (g * (o - a)).tdiv 4) := (iI_lt (a := 1) (by omega)).mpr c
    rw [if_pos c, if_pos c', iI_add]
  · have c' : ¬ (1 : Int32) < iI (b + (g * (o - a)).tdiv 4) := fun q => c ((iI_lt (a := 1) (by omega)).mp q)
    rw [if_neg c, if_neg c', i1I, iI_add]
theorem apart_ok {w : Ob} {a b : Int} (h8 : w 8 0 = iI a) (h9 : w 9 0 = iI b) (h : -1000000 ≤ a - b ∧ a - b ≤ 1000000) : F_X4_apart w = some (iI (ab (a - b))) := by
  unfold F_X4_apart ab
  simp only [dd, h8, h9, iI_sub]
  by_cases c : 0 ≤ a - b
  · have c' : (0 : Int32) ≤ iI (a - b) := (iI_le (a := 0) (by omega)).mpr c
    rw [if_pos c, if_pos c']
  · have c' : ¬ (0 : Int32) ≤ iI (a - b) := fun q => c ((iI_le (a := 0) (by omega)).mp q)
    rw [if_neg c, if_neg c', show (0 : Int32) = iI 0 from rfl, iI_sub]
theorem gz_b {α : Type} (c : Bool) (k : Option α) : gz (if c then 1 else 0) k = k := by
  unfold gz
  cases c
  · exact if_pos (Or.inl rfl)
  · exact if_pos (Or.inr rfl)
theorem jn_if {α β : Type} (A : α → β) {c : Prop} {ic : Decidable c} (x y : α) : jn A (fun K => @ite _ c ic (K x) (K y)) = A (@ite _ c ic x y) := by
  by_cases h : c
  · rw [if_pos h]; exact if_pos h
  · rw [if_neg h]; exact if_neg h
theorem step_ok {p : Nat → Int} {b1 b2 : Int} {s : S5} {k n : Nat} {w : Ob} (hw : WS p b1 b2 s k w) (hg : Gp p) (hb : Bb b1 b2) (hs : Bd n s) (hn : n ≤ 999) :
    ∃ w' : Ob, F_X4_step w = some w' ∧ WS p b1 b2 (stp p b1 b2 s) (k + 1) w' ∧ w' 14 0 = sgn p b1 b2 s ∧ w' 15 0 = if ear p b1 b2 s then 1 else 0 := by
  obtain ⟨w0, w1, wp, w8, w9, w10, w11, w12, w13⟩ := hw
  obtain ⟨h1, h2, h3, h4, h5, h6⟩ := hs
  obtain ⟨-, g2, g4, g5, g6, g7⟩ := hg
  have na := nx_bd (own := s.1) (oth := s.2.1) (b := b1) (g := p 2) ⟨hb.1, hb.2.1⟩ ⟨g2.1, g2.2.1⟩ h3
  have nb := nx_bd (own := s.2.1) (oth := s.1) (b := b2) (g := p 3) ⟨hb.2.2.1, hb.2.2.2⟩ ⟨g2.2.2.1, g2.2.2.2⟩ ⟨h3.2, h3.1⟩
  have ea := nx_ok (a := s.1) (o := s.2.1) (b := b1) (g := p 2) ⟨hb.1, hb.2.1⟩ ⟨g2.1, g2.2.1⟩ h3
  have eb := nx_ok (a := s.2.1) (o := s.1) (b := b2) (g := p 3) ⟨hb.2.2.1, hb.2.2.2⟩ ⟨g2.2.2.1, g2.2.2.2⟩ ⟨h3.2, h3.1⟩
  rw [← w0, ← w8, ← w9, ← wp 2 (by omega) (by omega)] at ea
  rw [← w1, ← w8, ← w9, ← wp 3 (by omega) (by omega)] at eb
  unfold F_X4_step stp sgn ear
  simp only [dd]
  rw [ea, eb]
  generalize nx s.1 s.2.1 b1 (p 2) = xa at na ⊢
  generalize nx s.2.1 s.1 b2 (p 3) = xb at nb ⊢
  have hE : (if iI xb ≤ iI xa then (0 : Int32) else 1) = if decide (xa < xb) = true then 1 else 0 := by
    by_cases c : xa < xb
    · rw [if_neg (fun q => absurd ((iI_le (by omega)).mp q) (by omega))]
      simp [c]
    · rw [if_pos ((iI_le (by omega)).mpr (by omega))]
      simp [c]
  rw [jn_if, hE]
  simp only [gz_b]
  generalize (if decide (xa < xb) = true then (1 : Int32) else 0) = ev
  simp only [sO_at, cst_at, Nat.reduceEqDiff, reduceIte, reduceCtorEq, Nat.succ_ne_self, Nat.one_ne_zero, Nat.zero_ne_one]
  obtain ⟨u, hu⟩ : ∃ y, y = sO (sO (sO (sO w 8 (cst (iI xa))) 9 (cst (iI xb))) 15 (cst ev)) 10 (cst (w 10 0 + 1)) := ⟨_, rfl⟩
  rw [← hu]
  have fu : ∀ i, i ≠ 8 → i ≠ 9 → i ≠ 15 → i ≠ 10 → u i = w i := fun i q1 q2 q3 q4 => by rw [hu, sO_ne _ _ _ _ q4, sO_ne _ _ _ _ q3, sO_ne _ _ _ _ q2, sO_ne _ _ _ _ q1]
  have u8 : u 8 0 = iI xa := by rw [hu, sO_ne _ _ _ _ (by decide), sO_ne _ _ _ _ (by decide), sO_ne _ _ _ _ (by decide), sO_eq]; rfl
  have u9 : u 9 0 = iI xb := by rw [hu, sO_ne _ _ _ _ (by decide), sO_ne _ _ _ _ (by decide), sO_eq]; rfl
  have u15 : u 15 0 = ev := by rw [hu, sO_ne _ _ _ _ (by decide), sO_eq]; rfl
  have u10 : u 10 0 = nI (k + 1) := by rw [hu, sO_eq, cst_at, w10, nI_1]
  rw [apart_ok u8 u9 (by omega)]
  simp only [Option.bind_some]
  have hab : 0 ≤ ab (xa - xb) ∧ ab (xa - xb) ≤ 300 := by unfold ab; split <;> omega
  have e6 : w 6 0 = iI (p 6) := wp 6 (by omega) (by omega)
  have e5 : w 5 0 = iI (p 5) := wp 5 (by omega) (by omega)
  have fw : ∀ i, i < 8 → u i = w i := fun i hi => fu i (by omega) (by omega) (by omega) (by omega)
  rw [e6]
  by_cases c6 : p 6 < ab (xa - xb)
  · rw [if_neg (fun q => absurd ((iI_le (by omega)).mp q) (by omega)), if_pos c6, if_pos c6]
    have hmx : (if iI xa < iI xb then iI xb else iI xa) = iI (mx xa xb) := by
      unfold mx
      by_cases c : xa < xb
      · rw [if_pos c, if_pos ((iI_lt (by omega)).mpr c)]
      · rw [if_neg c, if_neg (fun q => c ((iI_lt (by omega)).mp q))]
    rw [hmx, w13, i1I, iI_add, wp 7 (by omega) (by omega), iI_add]
    obtain ⟨z, hz⟩ : ∃ z, z = sO (sO (sO (sO u 13 (cst (iI (s.2.2.2.2 + 1)))) 14 (cst 102)) 8 (cst (iI (mx xa xb + p 7)))) 9 (cst (iI (mx xa xb + p 7))) := ⟨_, rfl⟩
    rw [← hz]
    have fz : ∀ i, i ≠ 13 → i ≠ 14 → i ≠ 8 → i ≠ 9 → z i = u i := fun i q1 q2 q3 q4 => by rw [hz, sO_ne _ _ _ _ q4, sO_ne _ _ _ _ q3, sO_ne _ _ _ _ q2, sO_ne _ _ _ _ q1]
    refine ⟨z, rfl, ⟨?_, ?_, fun i q1 q2 => ?_, ?_, ?_, ?_, ?_, ?_, ?_⟩, ?_, ?_⟩
    · rw [fz 0 (by decide) (by decide) (by decide) (by decide), fw 0 (by omega)]; exact w0
    · rw [fz 1 (by decide) (by decide) (by decide) (by decide), fw 1 (by omega)]; exact w1
    · rw [fz i (by omega) (by omega) (by omega) (by omega), fw i q2]; exact wp i q1 q2
    · rw [hz, sO_ne _ _ _ _ (by decide), sO_eq]; rfl
    · rw [hz, sO_eq]; rfl
    · rw [fz 10 (by decide) (by decide) (by decide) (by decide)]; exact u10
    · rw [fz 11 (by decide) (by decide) (by decide) (by decide), fu 11 (by decide) (by decide) (by decide) (by decide)]; exact w11
    · rw [fz 12 (by decide) (by decide) (by decide) (by decide), fu 12 (by decide) (by decide) (by decide) (by decide)]; exact w12
    · rw [hz, sO_ne _ _ _ _ (by decide), sO_ne _ _ _ _ (by decide), sO_ne _ _ _ _ (by decide), sO_eq]; rfl
    · rw [hz, sO_ne _ _ _ _ (by decide), sO_ne _ _ _ _ (by decide), sO_eq]; rfl
    · rw [fz 15 (by decide) (by decide) (by decide) (by decide)]; exact u15
  · rw [if_pos ((iI_le (by omega)).mpr (by omega)), if_neg c6, if_neg c6, e5]
    by_cases c5 : p 5 < ab (xa - xb)
    · rw [if_neg (fun q => absurd ((iI_le (by omega)).mp q) (by omega)), if_pos c5, if_pos c5, w12, i1I, iI_add]
      obtain ⟨z, hz⟩ : ∃ z, z = sO (sO u 12 (cst (iI (s.2.2.2.1 + 1)))) 14 (cst 108) := ⟨_, rfl⟩
      rw [← hz]
      have fz : ∀ i, i ≠ 12 → i ≠ 14 → z i = u i := fun i q1 q2 => by rw [hz, sO_ne _ _ _ _ q2, sO_ne _ _ _ _ q1]
      refine ⟨z, rfl, ⟨?_, ?_, fun i q1 q2 => ?_, ?_, ?_, ?_, ?_, ?_, ?_⟩, ?_, ?_⟩
      · rw [fz 0 (by decide) (by decide), fw 0 (by omega)]; exact w0
      · rw [fz 1 (by decide) (by decide), fw 1 (by omega)]; exact w1
      · rw [fz i (by omega) (by omega), fw i q2]; exact wp i q1 q2
      · rw [fz 8 (by decide) (by decide)]; exact u8
      · rw [fz 9 (by decide) (by decide)]; exact u9
      · rw [fz 10 (by decide) (by decide)]; exact u10
      · rw [fz 11 (by decide) (by decide), fu 11 (by decide) (by decide) (by decide) (by decide)]; exact w11
      · rw [hz, sO_ne _ _ _ _ (by decide), sO_eq]; rfl
      · rw [fz 13 (by decide) (by decide), fu 13 (by decide) (by decide) (by decide) (by decide)]; exact w13
      · rw [hz, sO_eq]; rfl
      · rw [fz 15 (by decide) (by decide)]; exact u15
    · rw [if_pos ((iI_le (by omega)).mpr (by omega)), if_neg c5, if_neg c5, w11, wp 4 (by omega) (by omega), iI_add]
      obtain ⟨z, hz⟩ : ∃ z, z = sO (sO u 11 (cst (iI (s.2.2.1 + p 4)))) 14 (cst 115) := ⟨_, rfl⟩
      rw [← hz]
      have fz : ∀ i, i ≠ 11 → i ≠ 14 → z i = u i := fun i q1 q2 => by rw [hz, sO_ne _ _ _ _ q2, sO_ne _ _ _ _ q1]
      refine ⟨z, rfl, ⟨?_, ?_, fun i q1 q2 => ?_, ?_, ?_, ?_, ?_, ?_, ?_⟩, ?_, ?_⟩
      · rw [fz 0 (by decide) (by decide), fw 0 (by omega)]; exact w0
      · rw [fz 1 (by decide) (by decide), fw 1 (by omega)]; exact w1
      · rw [fz i (by omega) (by omega), fw i q2]; exact wp i q1 q2
      · rw [fz 8 (by decide) (by decide)]; exact u8
      · rw [fz 9 (by decide) (by decide)]; exact u9
      · rw [fz 10 (by decide) (by decide)]; exact u10
      · rw [hz, sO_ne _ _ _ _ (by decide), sO_eq]; rfl
      · rw [fz 12 (by decide) (by decide), fu 12 (by decide) (by decide) (by decide) (by decide)]; exact w12
      · rw [fz 13 (by decide) (by decide), fu 13 (by decide) (by decide) (by decide) (by decide)]; exact w13
      · rw [hz, sO_eq]; rfl
      · rw [fz 15 (by decide) (by decide)]; exact u15
