/-! alone, even. -/
theorem nI_1s {n : Nat} (h : 1 ≤ n) : nI n - 1 = nI (n - 1) := by
  rw [nI_iI, show (1 : Int32) = iI 1 from rfl, iI_sub, nI_iI, show ((n - 1 : Nat) : Int) = (n : Int) - 1 by omega]
theorem eq_alone (oc : Ob) (oy : Ob) (oz : Ob) (ok : (Nat → Int32)) (of : Ob) (om : Ob) (p0 p1 : Int32) (hI : Inv oc oy oz ok of om) : ∃ (r : Int32), F_X5_alone oc p0 p1 = some r ∧ F_X6_alone om p0 p1 = some r ∧ Inv oc oy oz ok of om := by
  obtain ⟨mask, hm, hr, hb, ha, hg, -⟩ := hI.1
  unfold F_X5_alone F_X6_alone
  rcases runs_or hm hr hb p0 with ⟨i, hi, rfl, hbi, e1, e2⟩ | ⟨e1, e2⟩
  · rw [e1, e2]
    rcases feet_or p1 with ⟨g, g1, g2, rfl, e3, e4⟩ | ⟨e3, e4⟩
    · rw [e3, e4]
      simp only [bsome, if_neg i10]
      obtain ⟨⟨b, b1, b2, b3⟩, ⟨l, l1, l2, l3⟩, -⟩ := hg i hi hbi
      have c1 : oc 1 i = nI b := (ha i hi).1.trans b3
      have c2 : oc 2 i = nI l := (ha i hi).2.1.trans l3
      rw [jn_eq]
      have q9 : g + l - 1 < 999 * l + l := by omega
      have key : ∀ (f n : Nat) (x y z : Int32) (K : Int32 → Option Int32), x = nI (n * b) → y = nI (n * l) → z = nI n → n ≤ (g + l - 1) / l → 999 - n < f → L_X5_alone_31 f (nI i) (nI g) oc x y z K = K (nI ((g + l - 1) / l * b)) := by
        intro f
        induction f with
        | zero => intro n x y z K _ _ _ _ h; exact absurd h (by omega)
        | succ f ih =>
          intro n x y z K hx hy hz hn hf
          subst hx
          subst hy
          subst hz
          have hq : (g + l - 1) / l ≤ 999 := Nat.le_of_lt_succ (Nat.div_lt_of_lt_mul (by rw [Nat.mul_comm]; omega))
          have hnl : n * l ≤ 999 * 9 := Nat.mul_le_mul (by omega) l2
          have hlt : n + 1 ≤ (g + l - 1) / l ↔ n * l < g := by
            rw [Nat.le_div_iff_mul_le (by omega), Nat.add_mul]
            omega
          rw [L_X5_alone_31.eq_2]
          by_cases h9 : n = 999
          · have e : n = (g + l - 1) / l := by omega
            have h : (999 : Int32) ≤ nI n := (nI_leI (a := 999) (by omega) (by omega)).mpr (by omega)
            rw [if_pos h, ← e]
          · have h : ¬ (999 : Int32) ≤ nI n := fun q => absurd ((nI_leI (a := 999) (by omega) (by omega)).mp q) (by omega)
            rw [if_neg h]
            by_cases c : g ≤ n * l
            · have e : n = (g + l - 1) / l := by omega
              rw [if_pos ((nI_leI (by omega) (by omega)).mpr c), ← e]
            · have h2 : ¬ nI g ≤ nI (n * l) := fun q => c ((nI_leI (by omega) (by omega)).mp q)
              rw [if_neg h2]
              simp only [dd]
              rw [ck_ok (by omega) (by omega), ck_ok (by omega) (by omega), nI_cl (by omega), c1, c2]
              exact ih (n + 1) _ _ _ K (by rw [nI_add, Nat.succ_mul]) (by rw [nI_add, Nat.succ_mul]) (nI_1 n) (by omega) (by omega)
      have k := key 2000 0 0 0 0 (fun (v6 : Int32) => some v6) (by rw [Nat.zero_mul]; rfl) (by rw [Nat.zero_mul]; rfl) rfl (Nat.zero_le _) (by omega)
      have hz : ¬ nI l = (0 : Int32) := fun q => absurd ((nI_eq (b := 0) (by omega) (by omega)).mp q) (by omega)
      rw [k]
      simp only [dd]
      rw [ck_ok (by omega) (by omega), ck_ok (by omega) (by omega), nI_cl (by omega), b3, l3]
      rw [nI_add, nI_1s (by omega)]
      unfold dz
      rw [if_neg hz, ck_ok (by omega) (by omega), pk_div (by omega) (by omega) (by omega), pk_mul]
      exact ⟨_, rfl, rfl, hI⟩
    · rw [e3, e4]
      exact ⟨-2, rfl, rfl, hI⟩
  · rw [e1, e2]
    exact ⟨-1, rfl, rfl, hI⟩
theorem sq_up {p : Nat → Int} (hg : Gp p) (qf n : Nat) : tm (sq p qf n) ≤ tm (sq p qf (n + 1)) ∧ (sq p qf n).2.2.1 ≤ (sq p qf (n + 1)).2.2.1 := by
  have a := bqv_bd (b := p 0) ⟨hg.1.1, hg.1.2.1⟩ (decide (qf ≤ n))
  have b := bqv_bd (b := p 1) ⟨hg.1.2.2.1, hg.1.2.2.2⟩ (decide (qf ≤ n))
  have h3 := (sq_bd hg qf n).2.2.1
  obtain ⟨-, g2, g4, g5, g6, g7⟩ := hg
  show tm (sq p qf n) ≤ tm (stp p (bqv (p 0) (decide (qf ≤ n))) (bqv (p 1) (decide (qf ≤ n))) (sq p qf n)) ∧ (sq p qf n).2.2.1 ≤ (stp p (bqv (p 0) (decide (qf ≤ n))) (bqv (p 1) (decide (qf ≤ n))) (sq p qf n)).2.2.1
  generalize bqv (p 0) (decide (qf ≤ n)) = B1 at a ⊢
  generalize bqv (p 1) (decide (qf ≤ n)) = B2 at b ⊢
  generalize sq p qf n = s at h3 ⊢
  have na := nx_bd (own := s.1) (oth := s.2.1) (b := B1) (g := p 2) a ⟨g2.1, g2.2.1⟩ h3
  have nb := nx_bd (own := s.2.1) (oth := s.1) (b := B2) (g := p 3) b ⟨g2.2.2.1, g2.2.2.2⟩ ⟨h3.2, h3.1⟩
  unfold stp tm
  generalize nx s.1 s.2.1 B1 (p 2) = xa at na ⊢
  generalize nx s.2.1 s.1 B2 (p 3) = xb at nb ⊢
  have M0 := mx_s s.1 s.2.1
  have M1 := mx_s xa xb
  split
  · have M2 := mx_s (mx xa xb + p 7) (mx xa xb + p 7)
    exact ⟨by show mx s.1 s.2.1 ≤ mx (mx xa xb + p 7) (mx xa xb + p 7); omega, Int.le_refl _⟩
  · split
    · exact ⟨by show mx s.1 s.2.1 ≤ mx xa xb; omega, Int.le_refl _⟩
    · exact ⟨by show mx s.1 s.2.1 ≤ mx xa xb; omega, by show s.2.2.1 ≤ s.2.2.1 + p 4; omega⟩
theorem sq_mono {p : Nat → Int} (hg : Gp p) (qf n : Nat) : ∀ k, tm (sq p qf n) ≤ tm (sq p qf (n + k)) ∧ (sq p qf n).2.2.1 ≤ (sq p qf (n + k)).2.2.1 := by
  intro k
  induction k with
  | zero => exact ⟨Int.le_refl _, Int.le_refl _⟩
  | succ k ih =>
    have h := sq_up hg qf (n + k)
    exact ⟨Int.le_trans ih.1 h.1, Int.le_trans ih.2 h.2⟩
theorem fnd_s (P : Nat → Bool) : ∀ (f k : Nat), (∀ n, fnd P f k = some n → P n = true ∧ k ≤ n ∧ n < k + f ∧ ∀ m, k ≤ m → m < n → P m = false) ∧ (fnd P f k = none → ∀ m, k ≤ m → m < k + f → P m = false) := by
  intro f
  induction f with
  | zero => intro k; exact ⟨fun n h => (by cases h), fun _ m h1 h2 => absurd h2 (by omega)⟩
  | succ f ih =>
    intro k
    unfold fnd
    by_cases c : P k = true
    · rw [if_pos c]
      exact ⟨fun n h => by cases h; exact ⟨c, by omega, by omega, fun m h1 h2 => absurd h2 (by omega)⟩, fun h => by cases h⟩
    · rw [if_neg c]
      have hc : P k = false := by cases h : P k with
        | true => exact absurd h c
        | false => rfl
      obtain ⟨i1, i2⟩ := ih (k + 1)
      refine ⟨fun n h => ?_, fun h m h1 h2 => ?_⟩
      · obtain ⟨a1, a2, a3, a4⟩ := i1 n h
        refine ⟨a1, by omega, by omega, fun m h1 h2 => ?_⟩
        by_cases e : m = k
        · subst e; exact hc
        · exact a4 m (by omega) h2
      · by_cases e : m = k
        · subst e; exact hc
        · exact i2 h m (by omega) (by omega)
/-- the feet walked within a time -/
def FW (p : Nat → Int) (due : Int) (N : Nat) : Prop := N ≤ 999 ∧ tm (sq p 1000 N) ≤ due ∧ ∀ m, m ≤ 999 → tm (sq p 1000 m) ≤ due → m ≤ N
theorem FW_le {p : Nat → Int} (hg : Gp p) {due : Int} {N g : Nat} (h : FW p due N) : (∃ t, TT p 1000 g = some t ∧ t ≤ due) ↔ (g : Int) ≤ (sq p 1000 N).2.2.1 := by
  obtain ⟨h1, h2, h3⟩ := h
  obtain ⟨f1, f2⟩ := fnd_s (far p 1000 g) 1000 0
  unfold TT
  constructor
  · rintro ⟨t, e, ht⟩
    cases hR : RT p 1000 g with
    | none => rw [hR] at e; cases e
    | some n =>
      rw [hR] at e
      have e' : t = tm (sq p 1000 n) := (Option.some.inj e).symm
      obtain ⟨a1, a2, a3, a4⟩ := f1 n hR
      have hn := h3 n (by omega) (by rw [← e']; exact ht)
      have hm := (sq_mono hg 1000 n (N - n)).2
      rw [show n + (N - n) = N by omega] at hm
      exact Int.le_trans (of_decide_eq_true a1) hm
  · intro hle
    cases hR : RT p 1000 g with
    | none =>
      have := f2 hR N (by omega) (by omega)
      exact absurd (far_t hle) (by rw [this]; decide)
    | some n =>
      obtain ⟨a1, a2, a3, a4⟩ := f1 n hR
      refine ⟨_, rfl, ?_⟩
      have hn : n ≤ N := by
        apply Nat.le_of_not_lt
        intro c
        have := a4 N (by omega) c
        exact absurd (far_t hle) (by rw [this]; decide)
      have hm := (sq_mono hg 1000 n (N - n)).1
      rw [show n + (N - n) = N by omega] at hm
      exact Int.le_trans hm h2
theorem within_ok {p : Nat → Int} (hg : Gp p) {due : Int} (hd : 0 ≤ due ∧ due ≤ 200000) {w : Ob} (hw : WS p (p 0) (p 1) s0 0 w) : ∃ (N : Nat) (w' : Ob), FW p due N ∧ F_X4_feetWithin w (iI due) = some (iI (sq p 1000 N).2.2.1, w') := by
  unfold F_X4_feetWithin
  rw [jn_eq]
  have key : ∀ (f k : Nat) (v : Int32) (w : Ob), v = nI k → k ≤ 999 → 999 - k < f → WK p k w → tm (sq p 1000 k) ≤ due → ∃ (N : Nat) (w' : Ob), FW p due N ∧ L_X4_feetWithin_2 f (iI due) v w (fun (ow2 : Ob) => some ((ow2 11 0), ow2)) = some (iI (sq p 1000 N).2.2.1, w') := by
    intro f
    induction f with
    | zero => intro k v w _ _ h; exact absurd h (by omega)
    | succ f ih =>
      intro k v w hv hk hf hW ht
      subst hv
      rw [L_X4_feetWithin_2.eq_2]
      by_cases h9 : k = 999
      · have h : (999 : Int32) ≤ nI k := (nI_leI (a := 999) (by omega) (by omega)).mpr (by omega)
        rw [if_pos h, hW.2.2.2.2.2.2.1]
        exact ⟨k, w, ⟨hk, ht, fun m hm _ => by omega⟩, rfl⟩
      · have h : ¬ (999 : Int32) ≤ nI k := fun q => absurd ((nI_leI (a := 999) (by omega) (by omega)).mp q) (by omega)
        rw [if_neg h]
        obtain ⟨w2, s1, s2, -⟩ := wst hg hW (by omega)
        have hb := sq_bd hg 1000 (k + 1)
        have hb1 := hb.1
        have hb2 := hb.2.1
        have hmx := mx_s (sq p 1000 (k + 1)).1 (sq p 1000 (k + 1)).2.1
        rw [s1, bsome, time_ok s2.2.2.2.1 s2.2.2.2.2.1 (by omega), bsome]
        by_cases c : tm (sq p 1000 (k + 1)) ≤ due
        · have c' : iI (mx (sq p 1000 (k + 1)).1 (sq p 1000 (k + 1)).2.1) ≤ iI due := (iI_le (by omega)).mpr c
          rw [if_pos c']
          simp only [dd, nI_1]
          exact ih (k + 1) _ w2 rfl (by omega) (by omega) s2 c
        · have c' : ¬ iI (mx (sq p 1000 (k + 1)).1 (sq p 1000 (k + 1)).2.1) ≤ iI due := fun q => c (show mx _ _ ≤ due from (iI_le (by omega)).mp q)
          rw [if_neg c', hW.2.2.2.2.2.2.1]
          refine ⟨k, w2, ⟨hk, ht, fun m hm hm2 => ?_⟩, rfl⟩
          apply Nat.le_of_not_lt
          intro cc
          have hmm := (sq_mono hg 1000 (k + 1) (m - (k + 1))).1
          rw [show k + 1 + (m - (k + 1)) = m by omega] at hmm
          exact c (Int.le_trans hmm hm2)
  exact key 2000 0 0 w rfl (by omega) (by omega) hw (by show mx 0 0 ≤ due; unfold mx; rw [if_neg (by decide)]; exact hd.1)
theorem eq_even (oc : Ob) (oy : Ob) (oz : Ob) (ok : (Nat → Int32)) (of : Ob) (ow : Ob) (om : Ob) (p0 p1 p2 p3 p4 : Int32) (hI : Inv oc oy oz ok of om) : ∃ (r : Int32) (ow' : Ob) (om' : Ob), F_X5_even oc ow p0 p1 p2 p3 p4 = some (r, ow') ∧ F_X6_even om p0 p1 p2 p3 p4 = some (r, om') ∧ Inv oc oy oz ok of om' := by
  have hC := hI.1
  unfold F_X5_even F_X6_even
  rcases two_or hC p0 p1 with ⟨i, j, hi, hj, hij, rfl, rfl, r1, r2, e1, e2⟩ | ⟨e1, e2⟩
  · rw [e1, e2]
    rcases two_or hC p2 p3 with ⟨i2, j2, hi2, hj2, hij2, rfl, rfl, r3, r4, e3, e4⟩ | ⟨e3, e4⟩
    · rw [e3, e4]
      rcases feet_or p4 with ⟨g, g1, g2, rfl, e5, e6⟩ | ⟨e5, e6⟩
      · rw [e5, e6]
        have hG := pij_G hC hi hj r1 r2
        have hG2 := pij_G hC hi2 hj2 r3 r4
        obtain ⟨w1, t1, t2⟩ := tie_ok hi2 hj2 hij2 r3 r4 ow
        obtain ⟨w2, t3, -⟩ := timeTo_ok hG2 (qf := 1000) (q := -1) (Or.inl ⟨rfl, rfl⟩) g1 g2 t2
        obtain ⟨m1, l1, l2, l3⟩ := lay_ok hC hi2 hj2
        obtain ⟨m2, u1, -, u3⟩ := timeOf_ok hG2 (qf := 1000) (by omega) g2 l2
        have f2 : FrC om m2 := fun q hq => (u3 q (by omega)).trans (l3 q (by omega))
        unfold F_X5_timeTo
        rw [t1, l1]
        simp only [bsome, if_neg i10]
        rw [t3, u1]
        simp only [bsome]
        cases hT : TT (pij oc i2 j2) 1000 g with
        | none =>
          rw [if_pos (show cT none = (-6 : Int32) from rfl), if_pos (show mT none = (1000000000 : Int32) from rfl)]
          exact ⟨-6, w2, m2, rfl, rfl, FrC_Inv f2 hI⟩
        | some due =>
          have hb := TT_bd hG2 hT
          rw [if_neg (show ¬ cT (some due) = (-6 : Int32) from cT_ne hb), if_neg (show ¬ mT (some due) = (1000000000 : Int32) from mT_ne hb)]
          obtain ⟨w3, t5, t6⟩ := tie_ok hi hj hij r1 r2 w2
          obtain ⟨N, w4, hN, t7⟩ := within_ok hG hb t6
          have hI2 := FrC_Inv f2 hI
          obtain ⟨m3, l4, l5, l6⟩ := lay_ok hI2.1 hi hj
          have f3 : FrC om m3 := fun q hq => (l6 q (by omega)).trans (f2 q hq)
          rw [t5, l4]
          have t7' : F_X4_feetWithin w3 (cT (some due)) = _ := t7
          simp only [bsome]
          rw [t7', bsome]
          simp only [dd]
          rw [jn_eq]
          have hNb := sq_bd hG 1000 N
          have hNf := hNb.2.2.2.1
          have hN9 := hN.1
          have key : ∀ (f x : Nat) (v : Int32) (m : Ob), v = nI x → x ≤ g → g - x < f → (∀ y : Nat, y < x → ¬ ((g - y : Nat) : Int) ≤ (sq (pij oc i j) 1000 N).2.2.1) → MP (pij oc i j) 1000 m → FrC om m →
              ∃ (x' : Nat) (m' : Ob), L_X6_even_66 f (iI due) (nI g) v m (fun (v13 : Int32) (om14 : Ob) => some (v13, om14)) = some (nI x', m') ∧ FrC om m' ∧ x' ≤ g ∧ (∀ y : Nat, y < x' → ¬ ((g - y : Nat) : Int) ≤ (sq (pij oc i j) 1000 N).2.2.1) ∧ (x' = g ∨ ((g - x' : Nat) : Int) ≤ (sq (pij oc i j) 1000 N).2.2.1) := by
            intro f
            induction f with
            | zero => intro x v m _ _ h; exact absurd h (by omega)
            | succ f ih =>
              intro x v m hv hx hf hy hM hF
              subst hv
              rw [L_X6_even_66.eq_2]
              by_cases c : g ≤ x
              · rw [if_pos ((nI_leI (by omega) (by omega)).mpr c)]
                exact ⟨x, m, rfl, hF, hx, hy, Or.inl (by omega)⟩
              · have h : ¬ nI g ≤ nI x := fun q => c ((nI_leI (by omega) (by omega)).mp q)
                rw [if_neg h]
                have es : nI g - nI x = nI (g - x) := by rw [nI_iI, nI_iI, iI_sub, nI_iI, show ((g - x : Nat) : Int) = (g : Int) - x by omega]
                obtain ⟨m4, u4, -, u6⟩ := timeOf_ok hG (qf := 1000) (by omega) (goal := g - x) (by omega) hM
                have hF4 : FrC om m4 := fun q hq => (u6 q (by omega)).trans (hF q hq)
                simp only [dd]
                rw [es, u4, bsome]
                have hE := FW_le hG (g := g - x) hN
                by_cases cc : ((g - x : Nat) : Int) ≤ (sq (pij oc i j) 1000 N).2.2.1
                · obtain ⟨t, ht, htd⟩ := hE.mpr cc
                  have hbt := TT_bd hG ht
                  rw [ht, if_pos (show mT (some t) ≤ iI due from (iI_le (by omega)).mpr htd)]
                  exact ⟨x, m4, rfl, hF4, hx, hy, Or.inr cc⟩
                · have hn : ¬ mT (TT (pij oc i j) 1000 (g - x)) ≤ iI due := by
                    intro q
                    cases hT2 : TT (pij oc i j) 1000 (g - x) with
                    | none =>
                      rw [hT2] at q
                      exact absurd ((iI_le (a := 1000000000) (by omega)).mp q) (by omega)
                    | some t =>
                      rw [hT2] at q
                      have hbt := TT_bd hG hT2
                      exact cc (hE.mp ⟨t, hT2, (iI_le (by omega)).mp q⟩)
                  rw [if_neg hn, nI_1]
                  refine ih (x + 1) _ m4 rfl (by omega) (by omega) (fun y hyy => ?_) (MP_fr hM (fun q hq => u6 q (Or.inl hq))) hF4
                  by_cases ey : y = x
                  · subst ey; exact cc
                  · exact hy y (by omega)
          obtain ⟨x', m', a1, a2, a3, a4, a5⟩ := key 2000 0 0 m3 rfl (by omega) (by omega) (fun y h => absurd h (by omega)) l5 f3
          have a1' : L_X6_even_66 2000 (mT (some due)) (nI g) 0 m3 (fun (v13 : Int32) (om14 : Ob) => some (v13, om14)) = _ := a1
          rw [a1']
          have ex : (if (0 : Int32) < nI g - iI (sq (pij oc i j) 1000 N).2.2.1 then nI g - iI (sq (pij oc i j) 1000 N).2.2.1 else (0 : Int32)) = nI x' := by
            rw [nI_iI, iI_sub, nI_iI]
            by_cases c : (0 : Int) < g - (sq (pij oc i j) 1000 N).2.2.1
            · have z : (0 : Int32) < iI ((g : Int) - (sq (pij oc i j) 1000 N).2.2.1) := (iI_lt (a := 0) (by omega)).mpr c
              rw [if_pos z]
              have h1 : ¬ ((x' : Int) < g - (sq (pij oc i j) 1000 N).2.2.1) := by
                intro q
                omega
              have h2 : ¬ ((g : Int) - (sq (pij oc i j) 1000 N).2.2.1 < x') := by
                intro q
                exact a4 (x' - 1) (by omega) (by omega)
              rw [show (x' : Int) = g - (sq (pij oc i j) 1000 N).2.2.1 by omega]
            · have z : ¬ (0 : Int32) < iI ((g : Int) - (sq (pij oc i j) 1000 N).2.2.1) := fun q => c ((iI_lt (a := 0) (by omega)).mp q)
              rw [if_neg z]
              have h0 : x' = 0 := by
                apply Nat.eq_zero_of_not_pos
                intro q
                exact a4 0 q (by omega)
              rw [h0]
              rfl
          rw [ex]
          exact ⟨_, w4, m', rfl, rfl, FrC_Inv a2 hI⟩
      · rw [e5, e6]
        exact ⟨-2, ow, om, rfl, rfl, hI⟩
    · rw [e3, e4]
      exact ⟨-1, ow, om, rfl, rfl, hI⟩
  · rw [e1, e2]
    exact ⟨-1, ow, om, rfl, rfl, hI⟩
