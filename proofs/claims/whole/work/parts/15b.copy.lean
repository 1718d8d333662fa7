theorem jn_eq {γ β : Type} (K : γ) (B : γ → β) : jn K B = B K := (Eq.refl (B K)).trans (Eq.refl _)
/-- a crowd is copied -/
theorem copy_ok (oc od : Ob) (mask : Nat) (hb : ∀ i, i < 8 → od 0 i = if mask.testBit i then 1 else 0) : ∃ t : Ob, F_X0_copyFrom oc od = some t ∧ (∀ a, 4 ≤ a → a < 7 → t a 0 = od a 0) ∧ (∀ a j, a < 4 → j < 8 → t a j = od a j) := by
  unfold F_X0_copyFrom
  have key : ∀ (n i : Nat) (v : Int32) (s : Ob) (K : Ob → Option Ob), v = nI i → i ≤ 8 → 8 - i < n → (∀ a j, a < 4 → j < i → s a j = od a j) → ∃ t : Ob, L_X0_copyFrom_2 n od v s K = K t ∧ (∀ a j, a < 4 → j < 8 → t a j = od a j) := by
    intro n
    induction n with
    | zero => intro i v s K _ _ h; exact absurd h (by omega)
    | succ n ih =>
      intro i v s K hv hi hn hs
      subst hv
      rw [L_X0_copyFrom_2.eq_2]
      by_cases h8 : i = 8
      · subst h8
        rw [if_pos (show (8 : Int32) ≤ nI 8 by decide)]
        exact ⟨s, rfl, hs⟩
      · have n8 : ¬ (8 : Int32) ≤ nI i := fun q => absurd ((nI_leI (a := 8) (by omega) (by omega)).mp q) (by omega)
        rw [if_neg n8]
        simp only [ck_ok (show i < 8 by omega) (show 8 < 2000000000 by omega), dd, nI_cl (show i < 2000000000 by omega), nI_1]
        refine ih (i + 1) _ _ K rfl (by omega) (by omega) ?_
        intro a j ha hj
        rcases (show a = 0 ∨ a = 1 ∨ a = 2 ∨ a = 3 by omega) with rfl | rfl | rfl | rfl
        · rw [sO_ne _ _ _ _ (by decide), sO_ne _ _ _ _ (by decide), sO_ne _ _ _ _ (by decide), sO_eq, upd_at, hb i (by omega), nar_b, ← hb i (by omega)]
          by_cases hji : j = i
          · rw [if_pos hji, hji]
          · rw [if_neg hji]; exact hs 0 j (by omega) (by omega)
        · rw [sO_ne _ _ _ _ (by decide), sO_ne _ _ _ _ (by decide), sO_eq, upd_at, sO_ne _ _ _ _ (by decide)]
          by_cases hji : j = i
          · rw [if_pos hji, hji]
          · rw [if_neg hji]; exact hs 1 j (by omega) (by omega)
        · rw [sO_ne _ _ _ _ (by decide), sO_eq, upd_at, sO_ne _ _ _ _ (by decide), sO_ne _ _ _ _ (by decide)]
          by_cases hji : j = i
          · rw [if_pos hji, hji]
          · rw [if_neg hji]; exact hs 2 j (by omega) (by omega)
        · rw [sO_eq, upd_at, sO_ne _ _ _ _ (by decide), sO_ne _ _ _ _ (by decide), sO_ne _ _ _ _ (by decide)]
          by_cases hji : j = i
          · rw [if_pos hji, hji]
          · rw [if_neg hji]; exact hs 3 j (by omega) (by omega)
  obtain ⟨t, e, ht⟩ := key 2000 0 0 oc (fun (oc2 : Ob) => dd (sO oc2 4 (cst (od 4 0))) (fun (oc3 : Ob) => dd (sO oc3 5 (cst (od 5 0))) (fun (oc4 : Ob) => dd (sO oc4 6 (cst (od 6 0))) (fun (oc5 : Ob) => some oc5)))) rfl (by omega) (by omega) (fun a j _ h => absurd h (by omega))
  rw [jn_eq, e]
  refine ⟨_, rfl, ?_, ?_⟩
  · intro a h1 h2
    rcases (show a = 4 ∨ a = 5 ∨ a = 6 by omega) with rfl | rfl | rfl
    · rw [sO_ne _ _ _ _ (by decide), sO_ne _ _ _ _ (by decide), sO_eq]; rfl
    · rw [sO_ne _ _ _ _ (by decide), sO_eq]; rfl
    · rw [sO_eq]; rfl
  · intro a j h1 h2
    rw [sO_ne _ _ _ _ (by omega), sO_ne _ _ _ _ (by omega), sO_ne _ _ _ _ (by omega)]
    exact ht a j h1 h2
