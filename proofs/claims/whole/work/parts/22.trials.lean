def pB (p : Nat → Int) (v : Int) : Nat → Int := fun i => if i < 2 then v else p i
def pG (p : Nat → Int) (a b : Int) : Nat → Int := fun i => if i = 2 then a else if i = 3 then b else p i
def pL (p : Nat → Int) (v : Int) : Nat → Int := fun i => if i = 5 then v else p i
theorem pB_G {p : Nat → Int} (h : Gp p) {v : Int} (hv : 4 ≤ v ∧ v ≤ 20) : Gp (pB p v) := ⟨⟨hv.1, hv.2, hv.1, hv.2⟩, h.2⟩
theorem pG_G {p : Nat → Int} (h : Gp p) {a b : Int} (ha : 0 ≤ a ∧ a ≤ 4) (hb : 0 ≤ b ∧ b ≤ 4) : Gp (pG p a b) := ⟨h.1, ⟨ha.1, ha.2, hb.1, hb.2⟩, h.2.2⟩
theorem pL_G {p : Nat → Int} (h : Gp p) {v : Int} (hv : 0 ≤ v ∧ v ≤ 20) : Gp (pL p v) := ⟨h.1, h.2.1, h.2.2.1, hv, h.2.2.2.2⟩
theorem beat_ok {p : Nat → Int} {w : Ob} (hw : WS p (p 0) (p 1) s0 0 w) (v : Nat) : ∃ w' : Ob, F_X4_beatBoth w (nI v) = some w' ∧ WS (pB p v) (pB p v 0) (pB p v 1) s0 0 w' := by
  obtain ⟨w0, w1, wp, w8, w9, w10, w11, w12, w13⟩ := hw
  unfold F_X4_beatBoth
  simp only [dd]
  refine ⟨_, rfl, ?_, ?_, fun i h2 h8 => ?_, ?_, ?_, ?_, ?_, ?_, ?_⟩
  · rw [sO_ne _ _ _ _ (by decide), sO_eq]; exact nI_iI v
  · rw [sO_eq]; exact nI_iI v
  · rw [sO_ne _ _ _ _ (by omega), sO_ne _ _ _ _ (by omega)]
    show w i 0 = iI (if i < 2 then (v : Int) else p i)
    rw [if_neg (by omega)]
    exact wp i h2 h8
  all_goals rw [sO_ne _ _ _ _ (by decide), sO_ne _ _ _ _ (by decide)]
  all_goals assumption
theorem give_ok {p : Nat → Int} {w : Ob} (hw : WS p (p 0) (p 1) s0 0 w) (a b : Nat) : ∃ w' : Ob, F_X4_give w (nI a) (nI b) = some w' ∧ WS (pG p a b) (pG p a b 0) (pG p a b 1) s0 0 w' := by
  obtain ⟨w0, w1, wp, w8, w9, w10, w11, w12, w13⟩ := hw
  unfold F_X4_give
  simp only [dd]
  refine ⟨_, rfl, ?_, ?_, fun i h2 h8 => ?_, ?_, ?_, ?_, ?_, ?_, ?_⟩
  · rw [sO_ne _ _ _ _ (by decide), sO_ne _ _ _ _ (by decide)]; exact w0
  · rw [sO_ne _ _ _ _ (by decide), sO_ne _ _ _ _ (by decide)]; exact w1
  · show _ = iI (if i = 2 then (a : Int) else if i = 3 then (b : Int) else p i)
    by_cases i2 : i = 2
    · subst i2
      rw [sO_ne _ _ _ _ (by decide), sO_eq, if_pos rfl]; exact nI_iI a
    · rw [if_neg i2]
      by_cases i3 : i = 3
      · subst i3
        rw [sO_eq, if_pos rfl]; exact nI_iI b
      · rw [if_neg i3, sO_ne _ _ _ _ i3, sO_ne _ _ _ _ i2]
        exact wp i h2 h8
  all_goals rw [sO_ne _ _ _ _ (by decide), sO_ne _ _ _ _ (by decide)]
  all_goals assumption
theorem lur_ok {p : Nat → Int} {w : Ob} (hw : WS p (p 0) (p 1) s0 0 w) (v : Nat) : WS (pL p v) (pL p v 0) (pL p v 1) s0 0 (sO w 5 (cst (nI v))) := by
  obtain ⟨w0, w1, wp, w8, w9, w10, w11, w12, w13⟩ := hw
  refine ⟨?_, ?_, fun i h2 h8 => ?_, ?_, ?_, ?_, ?_, ?_, ?_⟩
  · rw [sO_ne _ _ _ _ (by decide)]; exact w0
  · rw [sO_ne _ _ _ _ (by decide)]; exact w1
  · show _ = iI (if i = 5 then (v : Int) else p i)
    by_cases i5 : i = 5
    · subst i5
      rw [sO_eq, if_pos rfl]; exact nI_iI v
    · rw [if_neg i5, sO_ne _ _ _ _ i5]
      exact wp i h2 h8
  all_goals rw [sO_ne _ _ _ _ (by decide)]
  all_goals assumption
/-- what the two keep besides: the reference outside its run and its tries -/
def FrB (m m' : Ob) : Prop := ∀ i, i < 7 ∨ 27 ≤ i → m' i = m i
