/-! Who reaches it at all does so by TIME 100000: behind a fall both are level again, and level they fall always or never. -/
theorem nx_up {own oth b g : Int} (hb : 4 ≤ b ∧ b ≤ 20) (hg : 0 ≤ g ∧ g ≤ 4) (hd : own - oth ≤ 20 ∧ oth - own ≤ 20) : nx own oth b g ≤ mx own oth + 20 := by
  have h4 : (g * (oth - own)).tdiv 4 ≤ (if oth < own then 0 else oth - own) := by
    by_cases c : oth < own
    · rw [if_pos c]
      have hx : g * (oth - own) ≤ 0 := by
        rcases (show g = 0 ∨ g = 1 ∨ g = 2 ∨ g = 3 ∨ g = 4 by omega) with rfl | rfl | rfl | rfl | rfl <;> omega
      have h3 : (g * (oth - own)).tdiv 4 = -((-(g * (oth - own))).tdiv 4) := by rw [Int.neg_tdiv, Int.neg_neg]
      rw [h3, Int.tdiv_eq_ediv_of_nonneg (by omega)]
      omega
    · rw [if_neg c]
      have hx : 0 ≤ g * (oth - own) ∧ g * (oth - own) ≤ 4 * (oth - own) := by
        rcases (show g = 0 ∨ g = 1 ∨ g = 2 ∨ g = 3 ∨ g = 4 by omega) with rfl | rfl | rfl | rfl | rfl <;> omega
      rw [Int.tdiv_eq_ediv_of_nonneg hx.1]
      omega
  have M := mx_s own oth
  generalize mx own oth = mm1 at M ⊢
  unfold nx
  generalize (g * (oth - own)).tdiv 4 = q at h4 ⊢
  split at h4 <;> split <;> omega
theorem nx_lvl {a b g : Int} (hb : 4 ≤ b) : nx a a b g = a + b := by
  unfold nx
  rw [Int.sub_self, Int.mul_zero, Int.zero_tdiv, Int.add_zero, if_pos (by omega)]
def Lvl (n : Nat) (s : S5) : Prop := 2 * s.1 ≤ 139 * n ∧ 2 * s.2.1 ≤ 139 * n ∧ (s.1 = s.2.1 ∨ (2 * s.1 + 99 ≤ 139 * n ∧ 2 * s.2.1 + 99 ≤ 139 * n))
theorem stp_lvl {p : Nat → Int} {s : S5} {n : Nat} (hg : Gp p) (hs : Bd n s) (hf : ¬ p 6 < ab (p 0 - p 1)) (h : Lvl n s) : Lvl (n + 1) (stp p (p 0) (p 1) s) := by
  obtain ⟨-, -, h3, -, -, -⟩ := hs
  obtain ⟨⟨q1, q2, q3, q4⟩, g2, g4, g5, g6, g7⟩ := hg
  obtain ⟨l1, l2, l3⟩ := h
  have na := nx_up (own := s.1) (oth := s.2.1) (b := p 0) (g := p 2) ⟨q1, q2⟩ ⟨g2.1, g2.2.1⟩ h3
  have nb := nx_up (own := s.2.1) (oth := s.1) (b := p 1) (g := p 3) ⟨q3, q4⟩ ⟨g2.2.2.1, g2.2.2.2⟩ ⟨h3.2, h3.1⟩
  have lv : s.1 = s.2.1 → nx s.1 s.2.1 (p 0) (p 2) = s.1 + p 0 ∧ nx s.2.1 s.1 (p 1) (p 3) = s.1 + p 1 := fun e => by
    rw [← e]
    exact ⟨nx_lvl q1, nx_lvl q3⟩
  have M1 := mx_s s.1 s.2.1
  have M2 := mx_s s.2.1 s.1
  generalize mx s.1 s.2.1 = m1 at M1 na
  generalize mx s.2.1 s.1 = m2 at M2 nb
  unfold stp
  generalize nx s.1 s.2.1 (p 0) (p 2) = xa at na lv ⊢
  generalize nx s.2.1 s.1 (p 1) (p 3) = xb at nb lv ⊢
  have A := ab_s (xa - xb)
  have B := ab_s (p 0 - p 1)
  have M := mx_s xa xb
  generalize ab (xa - xb) = dd1 at A ⊢
  generalize ab (p 0 - p 1) = dd2 at B hf
  generalize mx xa xb = mm1 at M ⊢
  unfold Lvl
  by_cases e : s.1 = s.2.1
  · obtain ⟨e1, e2⟩ := lv e
    rw [if_neg (show ¬ p 6 < dd1 by omega)]
    split
    · dsimp only; omega
    · dsimp only; omega
  · split
    · dsimp only; omega
    · split
      · dsimp only; omega
      · dsimp only; omega
theorem sq_lvl {p : Nat → Int} (hg : Gp p) (hf : ¬ p 6 < ab (p 0 - p 1)) : ∀ n, n ≤ 1000 → Lvl n (sq p 1000 n) := by
  intro n
  induction n with
  | zero =>
    intro _
    show Lvl 0 ((0, 0, 0, 0, 0) : S5)
    exact ⟨by decide, by decide, Or.inl rfl⟩
  | succ n ih =>
    intro hn
    have e : sq p 1000 (n + 1) = stp p (p 0) (p 1) (sq p 1000 n) := by
      show stp p (bqv (p 0) (decide (1000 ≤ n))) (bqv (p 1) (decide (1000 ≤ n))) (sq p 1000 n) = _
      rw [decide_eq_false (show ¬ 1000 ≤ n by omega)]
      rfl
    rw [e]
    exact stp_lvl hg (sq_bd hg 1000 n) hf (ih (by omega))
theorem sq_fell {p : Nat → Int} (hg : Gp p) (hf : p 6 < ab (p 0 - p 1)) : ∀ n, n ≤ 1000 → (sq p 1000 n).1 = (sq p 1000 n).2.1 ∧ (sq p 1000 n).2.2.1 = 0 := by
  intro n
  induction n with
  | zero => intro _; exact ⟨rfl, rfl⟩
  | succ n ih =>
    intro hn
    obtain ⟨i1, i2⟩ := ih (by omega)
    have e : sq p 1000 (n + 1) = stp p (p 0) (p 1) (sq p 1000 n) := by
      show stp p (bqv (p 0) (decide (1000 ≤ n))) (bqv (p 1) (decide (1000 ≤ n))) (sq p 1000 n) = _
      rw [decide_eq_false (show ¬ 1000 ≤ n by omega)]
      rfl
    rw [e]
    unfold stp
    rw [← i1, nx_lvl hg.1.1, nx_lvl hg.1.2.2.1, show (sq p 1000 n).1 + p 0 - ((sq p 1000 n).1 + p 1) = p 0 - p 1 by omega, if_pos hf]
    exact ⟨rfl, i2⟩
theorem far_inv {p : Nat → Int} {qf goal n : Nat} (h : RT p qf goal = some n) : (goal : Int) ≤ (sq p qf n).2.2.1 := by
  have key : ∀ (f k : Nat) (P : Nat → Bool) (n : Nat), fnd P f k = some n → P n = true := by
    intro f
    induction f with
    | zero => intro k P n h; cases h
    | succ f ih =>
      intro k P n h
      unfold fnd at h
      split at h
      · rename_i hp
        cases h
        exact hp
      · exact ih (k + 1) P n h
  exact of_decide_eq_true (key 1000 0 _ n h)
theorem TT_100 {p : Nat → Int} (hg : Gp p) {goal : Nat} (h1 : 1 ≤ goal) {t : Int} (h : TT p 1000 goal = some t) : t ≤ 100000 := by
  unfold TT at h
  cases hR : RT p 1000 goal with
  | none => rw [hR] at h; cases h
  | some n =>
    rw [hR] at h
    have hn := RT_le hR
    have hfar := far_inv hR
    have e : t = tm (sq p 1000 n) := (Option.some.inj h).symm
    rw [e]
    by_cases hf : p 6 < ab (p 0 - p 1)
    · obtain ⟨-, f2⟩ := sq_fell hg hf n (by omega)
      omega
    · obtain ⟨l1, l2, -⟩ := sq_lvl hg hf n (by omega)
      have := mx_s (sq p 1000 n).1 (sq p 1000 n).2.1
      unfold tm
      omega
