/-! told, image, restore. -/
theorem upd_self (f : Nat → Int32) (i : Nat) : upd f i (f i) = f := by
  funext j
  rw [upd_at]
  by_cases h : j = i
  · rw [if_pos h, h]
  · rw [if_neg h]
theorem ps_put (s : Ob) (a A i : Nat) (y : Int32) {α : Type} (k : Ob → Option α) (hA : A < 80) (hi : i < 8) (h31 : s 31 0 = nI A) (h29 : a ≠ 29) (ha31 : a ≠ 31) (hy : (s 32 0 = 0 ∧ y = s 29 A) ∨ (¬ s 32 0 = 0 ∧ y = s a i)) :
    ck (nI i) 8 ((F_X6_pass s (s a (nI i).toNatClampNeg)).bind (fun q => ck (nI i) 8 (dd (sO q.2 a (upd (q.2 a) (nI i).toNatClampNeg q.1)) k))) = k (sO (sO (sO s 29 (upd (s 29) A y)) 31 (cst (nI (A + 1)))) a (upd (s a) i y)) := by
  rw [ck_ok hi (by omega), nI_cl (by omega)]
  unfold F_X6_pass
  have e31 : ∀ f, sO s 29 f 31 0 = nI A := fun f => by rw [sO_ne _ _ _ _ (by decide)]; exact h31
  rcases hy with ⟨h0, rfl⟩ | ⟨h0, rfl⟩
  · simp only [jn, if_pos h0, h31, ck_ok hA (show 80 < 2000000000 by omega), dd, nI_cl (show A < 2000000000 by omega), e31, nI_1, Option.bind_some]
    rw [ck_ok hi (by omega), sO_ne _ _ _ _ ha31, sO_ne _ _ _ _ h29]
  · simp only [jn, if_neg h0, h31, ck_ok hA (show 80 < 2000000000 by omega), dd, nI_cl (show A < 2000000000 by omega), e31, nI_1, Option.bind_some]
    rw [ck_ok hi (by omega), sO_ne _ _ _ _ ha31, sO_ne _ _ _ _ h29]
theorem ps_sc (s : Ob) (a A : Nat) (y : Int32) {α : Type} (k : Ob → Option α) (hA : A < 80) (h31 : s 31 0 = nI A) (hy : (s 32 0 = 0 ∧ y = s 29 A) ∨ (¬ s 32 0 = 0 ∧ y = s a 0)) :
    (F_X6_pass s (s a 0)).bind (fun q => dd (sO q.2 a (cst q.1)) k) = k (sO (sO (sO s 29 (upd (s 29) A y)) 31 (cst (nI (A + 1)))) a (cst y)) := by
  unfold F_X6_pass
  have e31 : ∀ f, sO s 29 f 31 0 = nI A := fun f => by rw [sO_ne _ _ _ _ (by decide)]; exact h31
  rcases hy with ⟨h0, rfl⟩ | ⟨h0, rfl⟩
  · simp only [jn, if_pos h0, h31, ck_ok hA (show 80 < 2000000000 by omega), dd, nI_cl (show A < 2000000000 by omega), e31, nI_1, Option.bind_some]
  · simp only [jn, if_neg h0, h31, ck_ok hA (show 80 < 2000000000 by omega), dd, nI_cl (show A < 2000000000 by omega), e31, nI_1, Option.bind_some]
theorem pit (s : Ob) (i A : Nat) (y1 y2 y3 : Int32) (hi : i < 8) (hA : A + 3 ≤ 80) (h31 : s 31 0 = nI A) (mode : (s 32 0 = 0 ∧ y1 = s 29 A ∧ y2 = s 29 (A + 1) ∧ y3 = s 29 (A + 2)) ∨ (¬ s 32 0 = 0 ∧ y1 = s 1 i ∧ y2 = s 2 i ∧ y3 = s 3 i)) (n : Nat) (K : Ob → Option Ob) :
    ∃ t : Ob, L_X6_passAll_50 (n + 1) (nI i) s K = L_X6_passAll_50 n (nI (i + 1)) t K ∧ t 31 0 = nI (A + 3) ∧ t 32 0 = s 32 0 ∧ (∀ k, t 29 k = if k = A + 2 then y3 else if k = A + 1 then y2 else if k = A then y1 else s 29 k) ∧
      (∀ j, t 1 j = if j = i then y1 else s 1 j) ∧ (∀ j, t 2 j = if j = i then y2 else s 2 j) ∧ (∀ j, t 3 j = if j = i then y3 else s 3 j) ∧ ∀ a, (a = 0 ∨ 4 ≤ a) → a ≠ 29 → a ≠ 31 → t a = s a := by
  have n8 : ¬ (8 : Int32) ≤ nI i := fun q => absurd ((nI_leI (a := 8) (by omega) (by omega)).mp q) (by omega)
  rw [L_X6_passAll_50.eq_2, if_neg n8]
  obtain ⟨t1, ht1⟩ : ∃ t, t = sO (sO (sO s 29 (upd (s 29) A y1)) 31 (cst (nI (A + 1)))) 1 (upd (s 1) i y1) := ⟨_, rfl⟩
  obtain ⟨t2, ht2⟩ : ∃ t, t = sO (sO (sO t1 29 (upd (t1 29) (A + 1) y2)) 31 (cst (nI (A + 1 + 1)))) 2 (upd (t1 2) i y2) := ⟨_, rfl⟩
  obtain ⟨t3, ht3⟩ : ∃ t, t = sO (sO (sO t2 29 (upd (t2 29) (A + 2) y3)) 31 (cst (nI (A + 2 + 1)))) 3 (upd (t2 3) i y3) := ⟨_, rfl⟩
  have f1 : ∀ a, a ≠ 29 → a ≠ 31 → a ≠ 1 → t1 a = s a := fun a h1 h2 h3 => by rw [ht1, sO_ne _ _ _ _ h3, sO_ne _ _ _ _ h2, sO_ne _ _ _ _ h1]
  have f2 : ∀ a, a ≠ 29 → a ≠ 31 → a ≠ 2 → t2 a = t1 a := fun a h1 h2 h3 => by rw [ht2, sO_ne _ _ _ _ h3, sO_ne _ _ _ _ h2, sO_ne _ _ _ _ h1]
  have f3 : ∀ a, a ≠ 29 → a ≠ 31 → a ≠ 3 → t3 a = t2 a := fun a h1 h2 h3 => by rw [ht3, sO_ne _ _ _ _ h3, sO_ne _ _ _ _ h2, sO_ne _ _ _ _ h1]
  have g1 : t1 29 = upd (s 29) A y1 := by rw [ht1, sO_ne _ _ _ _ (by decide), sO_ne _ _ _ _ (by decide), sO_eq]
  have g2 : t2 29 = upd (t1 29) (A + 1) y2 := by rw [ht2, sO_ne _ _ _ _ (by decide), sO_ne _ _ _ _ (by decide), sO_eq]
  have g3 : t3 29 = upd (t2 29) (A + 2) y3 := by rw [ht3, sO_ne _ _ _ _ (by decide), sO_ne _ _ _ _ (by decide), sO_eq]
  have e1 : t1 31 0 = nI (A + 1) := by rw [ht1, sO_ne _ _ _ _ (by decide), sO_eq]; rfl
  have e2 : t2 31 0 = nI (A + 2) := by rw [ht2, sO_ne _ _ _ _ (by decide), sO_eq]; rfl
  have e3 : t3 31 0 = nI (A + 3) := by rw [ht3, sO_ne _ _ _ _ (by decide), sO_eq]; rfl
  have w1 : t1 32 = s 32 := f1 32 (by decide) (by decide) (by decide)
  have w2 : t2 32 = s 32 := (f2 32 (by decide) (by decide) (by decide)).trans w1
  refine ⟨t3, ?_, e3, by rw [f3 32 (by decide) (by decide) (by decide), w2], ?_, ?_, ?_, ?_, ?_⟩
  · rw [ps_put s 1 A i y1 _ (by omega) hi h31 (by decide) (by decide) (mode.elim (fun q => Or.inl ⟨q.1, q.2.1⟩) (fun q => Or.inr ⟨q.1, q.2.1⟩)), ← ht1]
    rw [ps_put t1 2 (A + 1) i y2 _ (by omega) hi e1 (by decide) (by decide) (by
      rw [w1, g1, upd_at, if_neg (by omega), f1 2 (by decide) (by decide) (by decide)]
      exact mode.elim (fun q => Or.inl ⟨q.1, q.2.2.1⟩) (fun q => Or.inr ⟨q.1, q.2.2.1⟩)), ← ht2]
    rw [ps_put t2 3 (A + 2) i y3 _ (by omega) hi e2 (by decide) (by decide) (by
      rw [w2, g2, upd_at, if_neg (by omega), g1, upd_at, if_neg (by omega), f2 3 (by decide) (by decide) (by decide), f1 3 (by decide) (by decide) (by decide)]
      exact mode.elim (fun q => Or.inl ⟨q.1, q.2.2.2⟩) (fun q => Or.inr ⟨q.1, q.2.2.2⟩)), ← ht3]
    simp only [dd, nI_1]
  · intro k
    rw [g3, upd_at, g2, upd_at, g1, upd_at]
  · intro j
    rw [f3 1 (by decide) (by decide) (by decide), f2 1 (by decide) (by decide) (by decide), ht1, sO_eq, upd_at]
  · intro j
    rw [f3 2 (by decide) (by decide) (by decide), ht2, sO_eq, upd_at, f1 2 (by decide) (by decide) (by decide)]
  · intro j
    rw [ht3, sO_eq, upd_at, f2 3 (by decide) (by decide) (by decide), f1 3 (by decide) (by decide) (by decide)]
  · intro a h h29 h31
    rw [f3 a h29 h31 (by omega), f2 a h29 h31 (by omega), f1 a h29 h31 (by omega)]
/-- written into an image: the fields stay, the places hold them -/
theorem pass_w (om : Ob) (o : Nat) (ho : o + 28 ≤ 80) (h31 : om 31 0 = nI o) (h32 : ¬ om 32 0 = 0) : ∃ t : Ob, F_X6_passAll om = some t ∧ (∀ a, a < 7 → t a 0 = om a 0) ∧ (∀ a j, 1 ≤ a → a < 4 → t a j = om a j) ∧ (∀ a, 7 ≤ a → a ≠ 29 → a ≠ 31 → t a = om a) ∧
    t 29 o = om 0 0 ∧ t 29 (o + 1) = om 4 0 ∧ t 29 (o + 2) = om 5 0 ∧ t 29 (o + 3) = om 6 0 ∧ (∀ i, i < 8 → t 29 (o + 4 + 3 * i) = om 1 i ∧ t 29 (o + 5 + 3 * i) = om 2 i ∧ t 29 (o + 6 + 3 * i) = om 3 i) ∧ ∀ k, (k < o ∨ o + 28 ≤ k) → t 29 k = om 29 k := by
  unfold F_X6_passAll
  obtain ⟨t1, ht1⟩ : ∃ t, t = sO (sO (sO om 29 (upd (om 29) o (om 0 0))) 31 (cst (nI (o + 1)))) 0 (cst (om 0 0)) := ⟨_, rfl⟩
  rw [ps_sc om 0 o (om 0 0) _ (by omega) h31 (Or.inr ⟨h32, rfl⟩), ← ht1]
  have f1 : ∀ a, a ≠ 29 → a ≠ 31 → a ≠ 0 → t1 a = om a := fun a h1 h2 h3 => by rw [ht1, sO_ne _ _ _ _ h3, sO_ne _ _ _ _ h2, sO_ne _ _ _ _ h1]
  have g1 : t1 29 = upd (om 29) o (om 0 0) := by rw [ht1, sO_ne _ _ _ _ (by decide), sO_ne _ _ _ _ (by decide), sO_eq]
  have e1 : t1 31 0 = nI (o + 1) := by rw [ht1, sO_ne _ _ _ _ (by decide), sO_eq]; rfl
  have z1 : t1 0 0 = om 0 0 := by rw [ht1, sO_eq]; rfl
  have w1 : ¬ t1 32 0 = 0 := by rw [f1 32 (by decide) (by decide) (by decide)]; exact h32
  obtain ⟨t2, ht2⟩ : ∃ t, t = sO (sO (sO t1 29 (upd (t1 29) (o + 1) (om 4 0))) 31 (cst (nI (o + 1 + 1)))) 4 (cst (om 4 0)) := ⟨_, rfl⟩
  rw [ps_sc t1 4 (o + 1) (om 4 0) _ (by omega) e1 (Or.inr ⟨w1, by rw [f1 4 (by decide) (by decide) (by decide)]⟩), ← ht2]
  have f2 : ∀ a, a ≠ 29 → a ≠ 31 → a ≠ 4 → t2 a = t1 a := fun a h1 h2 h3 => by rw [ht2, sO_ne _ _ _ _ h3, sO_ne _ _ _ _ h2, sO_ne _ _ _ _ h1]
  have g2 : t2 29 = upd (t1 29) (o + 1) (om 4 0) := by rw [ht2, sO_ne _ _ _ _ (by decide), sO_ne _ _ _ _ (by decide), sO_eq]
  have e2 : t2 31 0 = nI (o + 2) := by rw [ht2, sO_ne _ _ _ _ (by decide), sO_eq]; rfl
  have z2 : t2 4 0 = om 4 0 := by rw [ht2, sO_eq]; rfl
  have w2 : ¬ t2 32 0 = 0 := by rw [f2 32 (by decide) (by decide) (by decide)]; exact w1
  obtain ⟨t3, ht3⟩ : ∃ t, t = sO (sO (sO t2 29 (upd (t2 29) (o + 2) (om 5 0))) 31 (cst (nI (o + 2 + 1)))) 5 (cst (om 5 0)) := ⟨_, rfl⟩
  rw [ps_sc t2 5 (o + 2) (om 5 0) _ (by omega) e2 (Or.inr ⟨w2, by rw [f2 5 (by decide) (by decide) (by decide), f1 5 (by decide) (by decide) (by decide)]⟩), ← ht3]
  have f3 : ∀ a, a ≠ 29 → a ≠ 31 → a ≠ 5 → t3 a = t2 a := fun a h1 h2 h3 => by rw [ht3, sO_ne _ _ _ _ h3, sO_ne _ _ _ _ h2, sO_ne _ _ _ _ h1]
  have g3 : t3 29 = upd (t2 29) (o + 2) (om 5 0) := by rw [ht3, sO_ne _ _ _ _ (by decide), sO_ne _ _ _ _ (by decide), sO_eq]
  have e3 : t3 31 0 = nI (o + 3) := by rw [ht3, sO_ne _ _ _ _ (by decide), sO_eq]; rfl
  have z3 : t3 5 0 = om 5 0 := by rw [ht3, sO_eq]; rfl
  have w3 : ¬ t3 32 0 = 0 := by rw [f3 32 (by decide) (by decide) (by decide)]; exact w2
  obtain ⟨t4, ht4⟩ : ∃ t, t = sO (sO (sO t3 29 (upd (t3 29) (o + 3) (om 6 0))) 31 (cst (nI (o + 3 + 1)))) 6 (cst (om 6 0)) := ⟨_, rfl⟩
  rw [ps_sc t3 6 (o + 3) (om 6 0) _ (by omega) e3 (Or.inr ⟨w3, by rw [f3 6 (by decide) (by decide) (by decide), f2 6 (by decide) (by decide) (by decide), f1 6 (by decide) (by decide) (by decide)]⟩), ← ht4]
  have f4 : ∀ a, a ≠ 29 → a ≠ 31 → a ≠ 6 → t4 a = t3 a := fun a h1 h2 h3 => by rw [ht4, sO_ne _ _ _ _ h3, sO_ne _ _ _ _ h2, sO_ne _ _ _ _ h1]
  have g4 : t4 29 = upd (t3 29) (o + 3) (om 6 0) := by rw [ht4, sO_ne _ _ _ _ (by decide), sO_ne _ _ _ _ (by decide), sO_eq]
  have e4 : t4 31 0 = nI (o + 4) := by rw [ht4, sO_ne _ _ _ _ (by decide), sO_eq]; rfl
  have z4 : t4 6 0 = om 6 0 := by rw [ht4, sO_eq]; rfl
  have w4 : ¬ t4 32 0 = 0 := by rw [f4 32 (by decide) (by decide) (by decide)]; exact w3
  have fa : ∀ a, a ≠ 29 → a ≠ 31 → a ≠ 0 → a ≠ 4 → a ≠ 5 → a ≠ 6 → t4 a = om a := fun a h1 h2 h3 h4 h5 h6 => by rw [f4 a h1 h2 h6, f3 a h1 h2 h5, f2 a h1 h2 h4, f1 a h1 h2 h3]
  have k4 : ∀ k, t4 29 k = if k = o + 3 then om 6 0 else if k = o + 2 then om 5 0 else if k = o + 1 then om 4 0 else if k = o then om 0 0 else om 29 k := fun k => by rw [g4, upd_at, g3, upd_at, g2, upd_at, g1, upd_at]
  have key : ∀ (n i : Nat) (s : Ob), i ≤ 8 → 8 - i < n → s 31 0 = nI (o + 4 + 3 * i) → ¬ s 32 0 = 0 → (∀ a j, 1 ≤ a → a < 4 → s a j = om a j) → (∀ a, (a = 0 ∨ 4 ≤ a) → a ≠ 29 → a ≠ 31 → s a = t4 a) → (∀ k, k < o + 4 ∨ o + 28 ≤ k → s 29 k = t4 29 k) → (∀ j, j < i → s 29 (o + 4 + 3 * j) = om 1 j ∧ s 29 (o + 5 + 3 * j) = om 2 j ∧ s 29 (o + 6 + 3 * j) = om 3 j) →
      ∃ t : Ob, L_X6_passAll_50 n (nI i) s (fun om10 => some om10) = some t ∧ (∀ a j, 1 ≤ a → a < 4 → t a j = om a j) ∧ (∀ a, (a = 0 ∨ 4 ≤ a) → a ≠ 29 → a ≠ 31 → t a = t4 a) ∧ (∀ k, k < o + 4 ∨ o + 28 ≤ k → t 29 k = t4 29 k) ∧ (∀ j, j < 8 → t 29 (o + 4 + 3 * j) = om 1 j ∧ t 29 (o + 5 + 3 * j) = om 2 j ∧ t 29 (o + 6 + 3 * j) = om 3 j) := by
    intro n
    induction n with
    | zero => intro i s _ h; exact absurd h (by omega)
    | succ n ih =>
      intro i s hi hn s31 s32 sa sb sk sj
      by_cases h8 : i = 8
      · subst h8
        rw [L_X6_passAll_50.eq_2, if_pos (show (8 : Int32) ≤ nI 8 by decide)]
        exact ⟨s, rfl, sa, sb, sk, sj⟩
      · obtain ⟨t, q0, q31, q32, q29, q1, q2, q3, qa⟩ := pit s i (o + 4 + 3 * i) (s 1 i) (s 2 i) (s 3 i) (by omega) (by omega) s31 (Or.inr ⟨s32, rfl, rfl, rfl⟩) n (fun om10 => some om10)
        rw [q0]
        refine ih (i + 1) t (by omega) (by omega) (by rw [q31]; congr 1) (by rw [q32]; exact s32) ?_ ?_ ?_ ?_
        · intro a j h1 h2
          rcases (show a = 1 ∨ a = 2 ∨ a = 3 by omega) with rfl | rfl | rfl
          · rw [q1]; split
            · next h => rw [h]; exact sa 1 i (by omega) (by omega)
            · exact sa 1 j (by omega) (by omega)
          · rw [q2]; split
            · next h => rw [h]; exact sa 2 i (by omega) (by omega)
            · exact sa 2 j (by omega) (by omega)
          · rw [q3]; split
            · next h => rw [h]; exact sa 3 i (by omega) (by omega)
            · exact sa 3 j (by omega) (by omega)
        · intro a h h1 h2
          rw [qa a h h1 h2, sb a h h1 h2]
        · intro k hk
          rw [q29, if_neg (by omega), if_neg (by omega), if_neg (by omega)]
          exact sk k hk
        · intro j hj
          by_cases hji : j = i
          · subst hji
            refine ⟨?_, ?_, ?_⟩
            · rw [q29, if_neg (by omega), if_neg (by omega), if_pos rfl]; exact sa 1 j (by omega) (by omega)
            · rw [q29, if_neg (by omega), if_pos (by omega)]; exact sa 2 j (by omega) (by omega)
            · rw [q29, if_pos (by omega)]; exact sa 3 j (by omega) (by omega)
          · have h := sj j (by omega)
            refine ⟨?_, ?_, ?_⟩
            · rw [q29, if_neg (by omega), if_neg (by omega), if_neg (by omega)]; exact h.1
            · rw [q29, if_neg (by omega), if_neg (by omega), if_neg (by omega)]; exact h.2.1
            · rw [q29, if_neg (by omega), if_neg (by omega), if_neg (by omega)]; exact h.2.2
  obtain ⟨t, r0, ra, rb, rk, rj⟩ := key 2000 0 t4 (by omega) (by omega) e4 w4 (fun a j h1 h2 => by rw [fa a (by omega) (by omega) (by omega) (by omega) (by omega) (by omega)]) (fun _ _ _ _ => rfl) (fun _ _ => rfl) (fun j hj => absurd hj (by omega))
  refine ⟨t, r0, ?_, ra, ?_, ?_, ?_, ?_, ?_, rj, ?_⟩
  · intro a ha
    rcases (show a = 0 ∨ a = 1 ∨ a = 2 ∨ a = 3 ∨ a = 4 ∨ a = 5 ∨ a = 6 by omega) with rfl | rfl | rfl | rfl | rfl | rfl | rfl
    · rw [rb 0 (by omega) (by decide) (by decide), f4 0 (by decide) (by decide) (by decide), f3 0 (by decide) (by decide) (by decide), f2 0 (by decide) (by decide) (by decide)]; exact z1
    · exact ra 1 0 (by omega) (by omega)
    · exact ra 2 0 (by omega) (by omega)
    · exact ra 3 0 (by omega) (by omega)
    · rw [rb 4 (by omega) (by decide) (by decide), f4 4 (by decide) (by decide) (by decide), f3 4 (by decide) (by decide) (by decide)]; exact z2
    · rw [rb 5 (by omega) (by decide) (by decide), f4 5 (by decide) (by decide) (by decide)]; exact z3
    · rw [rb 6 (by omega) (by decide) (by decide)]; exact z4
  · intro a h h1 h2
    rw [rb a (by omega) h1 h2, fa a h1 h2 (by omega) (by omega) (by omega) (by omega)]
  · rw [rk _ (by omega), k4, if_neg (by omega), if_neg (by omega), if_neg (by omega), if_pos rfl]
  · rw [rk _ (by omega), k4, if_neg (by omega), if_neg (by omega), if_pos rfl]
  · rw [rk _ (by omega), k4, if_neg (by omega), if_pos rfl]
  · rw [rk _ (by omega), k4, if_pos rfl]
  · intro k hk
    rw [rk k (by omega), k4, if_neg (by omega), if_neg (by omega), if_neg (by omega), if_neg (by omega)]
/-- read from an image: the fields hold what the places held -/
theorem pass_r (om : Ob) (o : Nat) (ho : o + 28 ≤ 80) (h31 : om 31 0 = nI o) (h32 : om 32 0 = 0) : ∃ t : Ob, F_X6_passAll om = some t ∧ t 0 0 = om 29 o ∧ t 4 0 = om 29 (o + 1) ∧ t 5 0 = om 29 (o + 2) ∧ t 6 0 = om 29 (o + 3) ∧
    (∀ i, i < 8 → t 1 i = om 29 (o + 4 + 3 * i) ∧ t 2 i = om 29 (o + 5 + 3 * i) ∧ t 3 i = om 29 (o + 6 + 3 * i)) ∧ (∀ a, 7 ≤ a → a ≠ 29 → a ≠ 31 → t a = om a) ∧ t 29 = om 29 := by
  unfold F_X6_passAll
  obtain ⟨t1, ht1⟩ : ∃ t, t = sO (sO (sO om 29 (upd (om 29) o (om 29 o))) 31 (cst (nI (o + 1)))) 0 (cst (om 29 o)) := ⟨_, rfl⟩
  rw [ps_sc om 0 o (om 29 o) _ (by omega) h31 (Or.inl ⟨h32, rfl⟩), ← ht1]
  have f1 : ∀ a, a ≠ 29 → a ≠ 31 → a ≠ 0 → t1 a = om a := fun a h1 h2 h3 => by rw [ht1, sO_ne _ _ _ _ h3, sO_ne _ _ _ _ h2, sO_ne _ _ _ _ h1]
  have g1 : t1 29 = om 29 := by rw [ht1, sO_ne _ _ _ _ (by decide), sO_ne _ _ _ _ (by decide), sO_eq, upd_self]
  have e1 : t1 31 0 = nI (o + 1) := by rw [ht1, sO_ne _ _ _ _ (by decide), sO_eq]; rfl
  have z1 : t1 0 0 = om 29 o := by rw [ht1, sO_eq]; rfl
  have w1 : t1 32 0 = 0 := by rw [f1 32 (by decide) (by decide) (by decide)]; exact h32
  obtain ⟨t2, ht2⟩ : ∃ t, t = sO (sO (sO t1 29 (upd (t1 29) (o + 1) (om 29 (o + 1)))) 31 (cst (nI (o + 1 + 1)))) 4 (cst (om 29 (o + 1))) := ⟨_, rfl⟩
  rw [ps_sc t1 4 (o + 1) (om 29 (o + 1)) _ (by omega) e1 (Or.inl ⟨w1, by rw [g1]⟩), ← ht2]
  have f2 : ∀ a, a ≠ 29 → a ≠ 31 → a ≠ 4 → t2 a = t1 a := fun a h1 h2 h3 => by rw [ht2, sO_ne _ _ _ _ h3, sO_ne _ _ _ _ h2, sO_ne _ _ _ _ h1]
  have g2 : t2 29 = om 29 := by rw [ht2, sO_ne _ _ _ _ (by decide), sO_ne _ _ _ _ (by decide), sO_eq, g1, upd_self]
  have e2 : t2 31 0 = nI (o + 2) := by rw [ht2, sO_ne _ _ _ _ (by decide), sO_eq]; rfl
  have z2 : t2 4 0 = om 29 (o + 1) := by rw [ht2, sO_eq]; rfl
  have w2 : t2 32 0 = 0 := by rw [f2 32 (by decide) (by decide) (by decide)]; exact w1
  obtain ⟨t3, ht3⟩ : ∃ t, t = sO (sO (sO t2 29 (upd (t2 29) (o + 2) (om 29 (o + 2)))) 31 (cst (nI (o + 2 + 1)))) 5 (cst (om 29 (o + 2))) := ⟨_, rfl⟩
  rw [ps_sc t2 5 (o + 2) (om 29 (o + 2)) _ (by omega) e2 (Or.inl ⟨w2, by rw [g2]⟩), ← ht3]
  have f3 : ∀ a, a ≠ 29 → a ≠ 31 → a ≠ 5 → t3 a = t2 a := fun a h1 h2 h3 => by rw [ht3, sO_ne _ _ _ _ h3, sO_ne _ _ _ _ h2, sO_ne _ _ _ _ h1]
  have g3 : t3 29 = om 29 := by rw [ht3, sO_ne _ _ _ _ (by decide), sO_ne _ _ _ _ (by decide), sO_eq, g2, upd_self]
  have e3 : t3 31 0 = nI (o + 3) := by rw [ht3, sO_ne _ _ _ _ (by decide), sO_eq]; rfl
  have z3 : t3 5 0 = om 29 (o + 2) := by rw [ht3, sO_eq]; rfl
  have w3 : t3 32 0 = 0 := by rw [f3 32 (by decide) (by decide) (by decide)]; exact w2
  obtain ⟨t4, ht4⟩ : ∃ t, t = sO (sO (sO t3 29 (upd (t3 29) (o + 3) (om 29 (o + 3)))) 31 (cst (nI (o + 3 + 1)))) 6 (cst (om 29 (o + 3))) := ⟨_, rfl⟩
  rw [ps_sc t3 6 (o + 3) (om 29 (o + 3)) _ (by omega) e3 (Or.inl ⟨w3, by rw [g3]⟩), ← ht4]
  have f4 : ∀ a, a ≠ 29 → a ≠ 31 → a ≠ 6 → t4 a = t3 a := fun a h1 h2 h3 => by rw [ht4, sO_ne _ _ _ _ h3, sO_ne _ _ _ _ h2, sO_ne _ _ _ _ h1]
  have g4 : t4 29 = om 29 := by rw [ht4, sO_ne _ _ _ _ (by decide), sO_ne _ _ _ _ (by decide), sO_eq, g3, upd_self]
  have e4 : t4 31 0 = nI (o + 4) := by rw [ht4, sO_ne _ _ _ _ (by decide), sO_eq]; rfl
  have z4 : t4 6 0 = om 29 (o + 3) := by rw [ht4, sO_eq]; rfl
  have w4 : t4 32 0 = 0 := by rw [f4 32 (by decide) (by decide) (by decide)]; exact w3
  have fa : ∀ a, a ≠ 29 → a ≠ 31 → a ≠ 0 → a ≠ 4 → a ≠ 5 → a ≠ 6 → t4 a = om a := fun a h1 h2 h3 h4 h5 h6 => by rw [f4 a h1 h2 h6, f3 a h1 h2 h5, f2 a h1 h2 h4, f1 a h1 h2 h3]
  have key : ∀ (n i : Nat) (s : Ob), i ≤ 8 → 8 - i < n → s 31 0 = nI (o + 4 + 3 * i) → s 32 0 = 0 → (∀ a, (a = 0 ∨ 4 ≤ a) → a ≠ 29 → a ≠ 31 → s a = t4 a) → (∀ k, s 29 k = om 29 k) → (∀ j, j < i → s 1 j = om 29 (o + 4 + 3 * j) ∧ s 2 j = om 29 (o + 5 + 3 * j) ∧ s 3 j = om 29 (o + 6 + 3 * j)) →
      ∃ t : Ob, L_X6_passAll_50 n (nI i) s (fun om10 => some om10) = some t ∧ (∀ a, (a = 0 ∨ 4 ≤ a) → a ≠ 29 → a ≠ 31 → t a = t4 a) ∧ (∀ k, t 29 k = om 29 k) ∧ (∀ j, j < 8 → t 1 j = om 29 (o + 4 + 3 * j) ∧ t 2 j = om 29 (o + 5 + 3 * j) ∧ t 3 j = om 29 (o + 6 + 3 * j)) := by
    intro n
    induction n with
    | zero => intro i s _ h; exact absurd h (by omega)
    | succ n ih =>
      intro i s hi hn s31 s32 sb sk sj
      by_cases h8 : i = 8
      · subst h8
        rw [L_X6_passAll_50.eq_2, if_pos (show (8 : Int32) ≤ nI 8 by decide)]
        exact ⟨s, rfl, sb, sk, sj⟩
      · obtain ⟨t, q0, q31, q32, q29, q1, q2, q3, qa⟩ := pit s i (o + 4 + 3 * i) (s 29 (o + 4 + 3 * i)) (s 29 (o + 4 + 3 * i + 1)) (s 29 (o + 4 + 3 * i + 2)) (by omega) (by omega) s31 (Or.inl ⟨s32, rfl, rfl, rfl⟩) n (fun om10 => some om10)
        rw [q0]
        refine ih (i + 1) t (by omega) (by omega) (by rw [q31]; congr 1) (by rw [q32]; exact s32) ?_ ?_ ?_
        · intro a h h1 h2
          rw [qa a h h1 h2, sb a h h1 h2]
        · intro k
          rw [q29, ← sk k]
          split
          · next h => rw [h]
          · split
            · next h => rw [h]
            · split
              · next h => rw [h]
              · rfl
        · intro j hj
          rw [q1, q2, q3]
          by_cases hji : j = i
          · subst hji
            rw [if_pos rfl, if_pos rfl, if_pos rfl, sk, sk, sk]
            exact ⟨rfl, by rw [show o + 4 + 3 * j + 1 = o + 5 + 3 * j by omega], by rw [show o + 4 + 3 * j + 2 = o + 6 + 3 * j by omega]⟩
          · rw [if_neg hji, if_neg hji, if_neg hji]
            exact sj j (by omega)
  obtain ⟨t, r0, rb, rk, rj⟩ := key 2000 0 t4 (by omega) (by omega) e4 w4 (fun _ _ _ _ => rfl) (fun k => by rw [g4]) (fun j hj => absurd hj (by omega))
  refine ⟨t, r0, ?_, ?_, ?_, ?_, rj, ?_, funext rk⟩
  · rw [rb 0 (by omega) (by decide) (by decide), f4 0 (by decide) (by decide) (by decide), f3 0 (by decide) (by decide) (by decide), f2 0 (by decide) (by decide) (by decide)]; exact z1
  · rw [rb 4 (by omega) (by decide) (by decide), f4 4 (by decide) (by decide) (by decide), f3 4 (by decide) (by decide) (by decide)]; exact z2
  · rw [rb 5 (by omega) (by decide) (by decide), f4 5 (by decide) (by decide) (by decide)]; exact z3
  · rw [rb 6 (by omega) (by decide) (by decide)]; exact z4
  · intro a h h1 h2
    rw [rb a (by omega) h1 h2, fa a h1 h2 (by omega) (by omega) (by omega) (by omega)]
theorem nar_b (mask j : Nat) : vp_nar .boolean (if mask.testBit j then 1 else 0) = if mask.testBit j then 1 else 0 := by
  cases mask.testBit j <;> rfl
