def pB (p : Nat → Int) (v : Int) : Nat → Int := fun i => if i < 2 then v else p i
def pG (p : Nat → Int) (a b : Int) : Nat → Int := fun i => if i = 2 then a else if i = 3 then b else p i
def pL (p : Nat → Int) (v : Int) : Nat → Int := fun i => if i = 5 then v else p i
theorem pB_G {p : Nat → Int} (h : Gp p) {v : Int} (hv : 4 ≤ v ∧ v ≤ 20) : Gp (pB p v) := ⟨⟨hv.1, hv.2, hv.1, hv.2⟩, h.2⟩
theorem pG_G {p : Nat → Int} (h : Gp p) {a b : Int} (ha : 0 ≤ a ∧ a ≤ 4) (hb : 0 ≤ b ∧ b ≤ 4) : Gp (pG p a b) := ⟨h.1, ⟨ha.1, ha.2, hb.1, hb.2⟩, h.2.2⟩
theorem pL_G {p : Nat → Int} (h : Gp p) {v : Int} (hv : 0 ≤ v ∧ v ≤ 20) : Gp (pL p v) := ⟨h.1, h.2.1, h.2.2.1, hv, h.2.2.2.2⟩
theorem beat_ok {p : Nat → Int} {w : Ob} (hw : WS p (p 0) (p 1) s0 0 w) (v : Nat) : ∃ w' : Ob, F_X4_beatBoth w (nI v) = some w' ∧ WS (pB p v) (pB p v 0) (pB p v 1) s0 0 w' := by
  obtain ⟨w0, w1, wp, w8, w9, w10, w11, w12, w13⟩ := hw
  unfold F_X4_beatBoth
  simp only [dd]
  refine ⟨_, rfl, ?_, ?_, fun i h2 h8 => ?_, ?_, ?_, ?_, ?_, ?_, ?_⟩
  · rw [sO_ne _ _ _ _ (by decide), sO_eq]; exact nI_iI v
  · rw [sO_eq]; exact nI_iI v
  · rw [sO_ne _ _ _ _ (by omega), sO_ne _ _ _ _ (by omega)]
    show w i 0 = iI (if i < 2 then (v : Int) else p i)
    rw [if_neg (by omega)]
    exact wp i h2 h8
  all_goals rw [sO_ne _ _ _ _ (by decide), sO_ne _ _ _ _ (by decide)]
  all_goals assumption
theorem give_ok {p : Nat → Int} {w : Ob} (hw : WS p (p 0) (p 1) s0 0 w) (a b : Nat) : ∃ w' : Ob, F_X4_give w (nI a) (nI b) = some w' ∧ WS (pG p a b) (pG p a b 0) (pG p a b 1) s0 0 w' := by
  obtain ⟨w0, w1, wp, w8, w9, w10, w11, w12, w13⟩ := hw
  unfold F_X4_give
  simp only [dd]
  refine ⟨_, rfl, ?_, ?_, fun i h2 h8 => ?_, ?_, ?_, ?_, ?_, ?_, ?_⟩
  · rw [sO_ne _ _ _ _ (by decide), sO_ne _ _ _ _ (by decide)]; exact w0
  · rw [sO_ne _ _ _ _ (by decide), sO_ne _ _ _ _ (by decide)]; exact w1
  · show _ = iI (if i = 2 then (a : Int) else if i = 3 then (b : Int) else p i)
    by_cases i2 : i = 2
    · subst i2
      rw [sO_ne _ _ _ _ (by decide), sO_eq, if_pos rfl]; exact nI_iI a
    · rw [if_neg i2]
      by_cases i3 : i = 3
      · subst i3
        rw [sO_eq, if_pos rfl]; exact nI_iI b
      · rw [if_neg i3, sO_ne _ _ _ _ i3, sO_ne _ _ _ _ i2]
        exact wp i h2 h8
  all_goals rw [sO_ne _ _ _ _ (by decide), sO_ne _ _ _ _ (by decide)]
  all_goals assumption
theorem lur_ok {p : Nat → Int} {w : Ob} (hw : WS p (p 0) (p 1) s0 0 w) (v : Nat) : WS (pL p v) (pL p v 0) (pL p v 1) s0 0 (sO w 5 (cst (nI v))) := by
  obtain ⟨w0, w1, wp, w8, w9, w10, w11, w12, w13⟩ := hw
  refine ⟨?_, ?_, fun i h2 h8 => ?_, ?_, ?_, ?_, ?_, ?_, ?_⟩
  · rw [sO_ne _ _ _ _ (by decide)]; exact w0
  · rw [sO_ne _ _ _ _ (by decide)]; exact w1
  · show _ = iI (if i = 5 then (v : Int) else p i)
    by_cases i5 : i = 5
    · subst i5
      rw [sO_eq, if_pos rfl]; exact nI_iI v
    · rw [if_neg i5, sO_ne _ _ _ _ i5]
      exact wp i h2 h8
  all_goals rw [sO_ne _ _ _ _ (by decide)]
  all_goals assumption
/-- what the two keep besides: the reference outside its run and its tries -/
def FrB (m m' : Ob) : Prop := ∀ i, i < 7 ∨ 27 ≤ i → m' i = m i
theorem bfold_succ (g : Nat → Nat × Option Int) (n k : Nat) (b : Bs) : bfold g (n + 1) k b = bfold g n (k + 1) (bst b (g k).1 (g k).2) := rfl
theorem bsome {α β : Type} (a : α) (f : α → Option β) : (some a).bind f = f a := (Eq.refl (f a)).trans (Eq.refl _)
theorem eq_call (oc : Ob) (oy : Ob) (oz : Ob) (ok : (Nat → Int32)) (of : Ob) (ow : Ob) (os : Ob) (om : Ob) (p0 p1 p2 p3 : Int32) (hI : Inv oc oy oz ok of om) : ∃ (r : Int32) (ow' : Ob) (os' : Ob) (om' : Ob), F_X5_call oc ow os p0 p1 p2 p3 = some (r, ow', os') ∧ F_X6_call om p0 p1 p2 p3 = some (r, om') ∧ Inv oc oy oz ok of om' := by
  have hC := hI.1
  unfold F_X5_call F_X6_call
  rcases race_or hC p0 p1 p2 p3 with ⟨i, j, g, w, hi, hj, hij, rfl, rfl, r1, r2, g1, g2, rfl, hw, rfl, e1, e2, -, -, e5⟩ | ⟨e1, e2⟩ | ⟨e1, e2, e5, -⟩
  · have hG := pij_G hC hi hj r1 r2
    obtain ⟨m1, l1, l2, l3⟩ := lay_ok hC hi hj
    obtain ⟨os1, c1, c2⟩ := clear_ok os
    obtain ⟨m2, b1, b2, b3⟩ := tries_ok m1
    have l2' : MP (pij oc i j) 1000 m2 := MP_fr l2 (fun k hk => b3 k (by omega) (by omega))
    have f2 : FrB om m2 := fun k hk => (b3 k (by omega) (by omega)).trans (l3 k (by omega))
    rw [e1, e2, e5]
    simp only [bsome, if_neg i10, if_true]
    rw [c1, l1]
    simp only [bsome]
    rw [b1]
    simp only [bsome]
    rw [jn_eq, jn_eq]
    have key1 : ∀ (n k : Nat) (v : Int32) (ow os : Ob) (b : Bs) (K : Ob → Ob → Option (Int32 × Ob × Ob)), v = nI k → 4 ≤ k → k ≤ 21 → 21 - k < n → SR b os → Bok b → ∃ ow' os', L_X5_call_29 n (nI i) (nI j) (nI g) oc v ow os K = K ow' os' ∧ SR (bfold (fun k => (k, TT (pB (pij oc i j) k) 1000 g)) (21 - k) k b) os' ∧ Bok (bfold (fun k => (k, TT (pB (pij oc i j) k) 1000 g)) (21 - k) k b) := by
      intro n
      induction n with
      | zero => intro k v ow os b K _ _ _ h; exact absurd h (by omega)
      | succ n ih =>
        intro k v ow os b K hv h4 h21 hn hs hb
        subst hv
        rw [L_X5_call_29.eq_2]
        by_cases hk : k = 21
        · subst hk
          rw [if_pos (show (20 : Int32) < nI 21 by decide)]
          exact ⟨ow, os, rfl, hs, hb⟩
        · have n20 : ¬ (20 : Int32) < nI k := fun q => absurd ((nI_ltI (a := 20) (by omega) (by omega)).mp q) (by omega)
          rw [if_neg n20]
          obtain ⟨w1, t1, t2⟩ := tie_ok hi hj hij r1 r2 ow
          obtain ⟨w2, t3, t4⟩ := beat_ok t2 k
          have hG' := pB_G hG (v := k) (by omega)
          obtain ⟨w3, t5, -⟩ := timeTo_ok hG' (qf := 1000) (q := -1) (Or.inl ⟨rfl, rfl⟩) g1 g2 t4
          obtain ⟨os2, t6, t7⟩ := offer_ok hs hb k (o := TT (pB (pij oc i j) k) 1000 g) (fun t ht => TT_bd hG' ht)
          rw [t1, bsome, t3, bsome, t5]
          simp only [bsome]
          rw [t6]
          simp only [bsome, dd, nI_1]
          rw [show 21 - k = (21 - (k + 1)) + 1 by omega, bfold_succ]
          exact ih (k + 1) _ w3 os2 _ K rfl (by omega) (by omega) (by omega) t7 (bst_ok hb (by omega) (fun t ht => TT_bd hG' ht))
    have key2 : ∀ (n k : Nat) (v : Int32) (m : Ob) (b : Bs) (K : Ob → Option (Int32 × Ob)), v = nI k → 4 ≤ k → k ≤ 21 → 21 - k < n → (∃ x y, MP (fun q => if q = 0 then x else if q = 1 then y else pij oc i j q) 1000 m) → BR b m → Bok b → FrB om m → ∃ m', L_X6_call_36 n (nI g) v m K = K m' ∧ BR (bfold (fun k => (k, TT (pB (pij oc i j) k) 1000 g)) (21 - k) k b) m' ∧ FrB om m' := by
      intro n
      induction n with
      | zero => intro k v m b K _ _ _ h; exact absurd h (by omega)
      | succ n ih =>
        intro k v m b K hv h4 h21 hn hM hB hb hf
        subst hv
        rw [L_X6_call_36.eq_2]
        by_cases hk : k = 21
        · subst hk
          rw [if_pos (show (20 : Int32) < nI 21 by decide)]
          exact ⟨m, rfl, hB, hf⟩
        · have n20 : ¬ (20 : Int32) < nI k := fun q => absurd ((nI_ltI (a := 20) (by omega) (by omega)).mp q) (by omega)
          rw [if_neg n20]
          simp only [dd]
          have hG' := pB_G hG (v := k) (by omega)
          obtain ⟨x, y, -, -, m9, m10, m11, m12, m13, m5, m6⟩ := hM
          have hM' : MP (pB (pij oc i j) k) 1000 (sO (sO m 7 (cst (nI k))) 8 (cst (nI k))) := by
            refine ⟨?_, ?_, ?_, ?_, ?_, ?_, ?_, ?_, ?_⟩
            · rw [sO_ne _ _ _ _ (by decide), sO_eq]; exact nI_iI k
            · rw [sO_eq]; exact nI_iI k
            all_goals rw [sO_ne _ _ _ _ (by decide), sO_ne _ _ _ _ (by decide)]
            all_goals assumption
          have hB' : BR b (sO (sO m 7 (cst (nI k))) 8 (cst (nI k))) := by
            refine ⟨?_, ?_⟩
            · rw [sO_ne _ _ _ _ (by decide), sO_ne _ _ _ _ (by decide)]; exact hB.1
            · rw [sO_ne _ _ _ _ (by decide), sO_ne _ _ _ _ (by decide)]; exact hB.2
          obtain ⟨m3, u1, u2, u3⟩ := tryOne_ok hG' (qf := 1000) (by omega) g2 hM' hB' hb k _ rfl
          rw [u1]
          simp only [bsome, nI_1]
          rw [show 21 - k = (21 - (k + 1)) + 1 by omega, bfold_succ]
          refine ih (k + 1) _ m3 _ K rfl (by omega) (by omega) (by omega) ?_ u2 (bst_ok hb (by omega) (fun t ht => TT_bd hG' ht)) (fun q hq => ?_)
          · refine ⟨k, k, ?_⟩
            have hM3 := MP_fr hM' (fun q hq => u3 q (Or.inl hq))
            exact hM3
          · rw [u3 q (by omega), sO_ne _ _ _ _ (by omega), sO_ne _ _ _ _ (by omega)]
            exact hf q hq
    obtain ⟨ow', os', a1, a2, a3⟩ := key1 2000 4 4 ow os1 none (fun (ow5 : Ob) (os6 : Ob) => (F_X3_answer os6 (nI w)).bind (fun q7 => some (q7, ow5, os6))) rfl (by omega) (by omega) (by omega) c2 (fun k t h => by cases h)
    obtain ⟨m', d1, d2, d3⟩ := key2 2000 4 4 m2 none (fun (om8 : Ob) => (F_X6_tellBest om8 (nI w)).bind (fun q9 => some (q9, om8))) rfl (by omega) (by omega) (by omega) ⟨pij oc i j 0, pij oc i j 1, by
      refine ⟨l2'.1, l2'.2.1, l2'.2.2.1, l2'.2.2.2.1, l2'.2.2.2.2.1, l2'.2.2.2.2.2.1, l2'.2.2.2.2.2.2.1, l2'.2.2.2.2.2.2.2.1, l2'.2.2.2.2.2.2.2.2⟩⟩ b2 (fun k t h => by cases h) f2
    obtain ⟨r, t1, t2⟩ := tell_ok a2 d2 a3 (nI w)
    rw [a1, d1, t1, t2]
    exact ⟨r, ow', os', m', rfl, rfl, Inv_fr d3 hI⟩
  · rw [e1, e2]
    exact ⟨-1, ow, os, om, rfl, rfl, hI⟩
  · rw [e1, e2, e5]
    exact ⟨-2, ow, os, om, rfl, rfl, hI⟩
