/-! tied: the class's enumeration. -/
def lu (mask i : Nat) : Nat := ((List.range i).filter (fun j => mask.testBit j)).length
def luo (mask i : Nat) : Bool := (if mask.testBit i then Nat.beq (lu mask (i + 1)) (lu mask i + 1) && Nat.beq ((bl mask).getD (lu mask i) 0) i else Nat.beq (lu mask (i + 1)) (lu mask i)) && (Nat.ble (lu mask i) i && Nat.beq (lu mask 8) (bl mask).length)
theorem luo_dec : ∀ mask, mask < 256 → ∀ i, i < 8 → luo mask i = true := by decide +kernel
theorem lu_ok {mask : Nat} (hm : mask < 256) {i : Nat} (hi : i < 8) : (mask.testBit i = true → lu mask (i + 1) = lu mask i + 1 ∧ (bl mask).getD (lu mask i) 0 = i) ∧ (mask.testBit i = false → lu mask (i + 1) = lu mask i) ∧ lu mask i ≤ i ∧ lu mask 8 = (bl mask).length := by
  have h := luo_dec mask hm i hi
  unfold luo at h
  rw [Bool.and_eq_true, Bool.and_eq_true] at h
  refine ⟨fun c => ?_, fun c => ?_, Nat.le_of_ble_eq_true h.2.1, Nat.eq_of_beq_eq_true h.2.2⟩
  · have h1 := h.1
    rw [if_pos c, Bool.and_eq_true] at h1
    exact ⟨Nat.eq_of_beq_eq_true h1.1, Nat.eq_of_beq_eq_true h1.2⟩
  · have h1 := h.1
    rw [if_neg (by rw [c]; decide)] at h1
    exact Nat.eq_of_beq_eq_true h1
theorem line_ok {c om : Ob} {mask : Nat} (hm : mask < 256) (hr : om 0 0 = nI mask) (hc : ∀ i, i < 8 → c 0 i = if mask.testBit i then 1 else 0) (K : Int32 → Ob → Option (Int32 × Ob)) :
    ∀ (f i : Nat) (u v : Int32) (on : Ob), u = nI (lu mask i) → v = nI i → i ≤ 8 → 8 - i < f → (∀ j, j < lu mask i → on 1 j = nI ((bl mask).getD j 0)) →
      ∃ on', L_X2_lineUp_4 f c u v on K = K (nI (bl mask).length) on' ∧ (∀ q, q ≠ 1 → on' q = on q) ∧ ∀ j, j < (bl mask).length → on' 1 j = nI ((bl mask).getD j 0) := by
  intro f
  induction f with
  | zero => intro i u v on _ _ _ h; exact absurd h (by omega)
  | succ f ih =>
    intro i u v on hu hv hi hf hl
    subst hu
    subst hv
    rw [L_X2_lineUp_4.eq_2]
    by_cases h8 : i = 8
    · subst h8
      have e := (lu_ok hm (show 0 < 8 by omega)).2.2.2
      rw [if_pos (show (8 : Int32) ≤ nI 8 by decide), e]
      exact ⟨on, rfl, fun _ _ => rfl, fun j hj => hl j (by omega)⟩
    · have h : ¬ (8 : Int32) ≤ nI i := fun q => absurd ((nI_leI (a := 8) (by omega) (by omega)).mp q) (by omega)
      have i8 : i < 8 := by omega
      obtain ⟨k1, k2, k3, -⟩ := lu_ok hm i8
      rw [if_neg h, (runs_at hm hr hc i8).1, bsome]
      simp only [dd, nI_1]
      cases hb : mask.testBit i with
      | false =>
        rw [if_pos (show (if false = true then (1 : Int32) else 0) = 0 by decide)]
        exact ih (i + 1) _ _ on (by rw [k2 hb]) rfl (by omega) (by omega) (fun j hj => hl j (by rw [k2 hb] at hj; exact hj))
      | true =>
        obtain ⟨k4, k5⟩ := k1 hb
        rw [if_neg (show ¬ (if true = true then (1 : Int32) else 0) = 0 by decide), ck_ok (by omega) (by omega), nI_cl (by omega)]
        obtain ⟨on', e1, e2, e3⟩ := ih (i + 1) (nI (lu mask i + 1)) _ (sO on 1 (upd (on 1) (lu mask i) (nI i))) (by rw [k4]) rfl (by omega) (by omega) (fun j hj => by
          rw [sO_eq, upd_at]
          by_cases c : j = lu mask i
          · rw [if_pos c, c, k5]
          · rw [if_neg c]
            exact hl j (by omega))
        rw [e1]
        exact ⟨on', rfl, fun q hq => by rw [e2 q hq, sO_ne _ _ _ _ hq], e3⟩
theorem out_ok {L : Nat} (hL : 1 ≤ L) (hL8 : L ≤ 8) (K : Ob → Option Ob) : ∀ (f i : Nat) (v : Int32) (on : Ob), v = nI i → i ≤ L → L - i < f →
    ∃ on', L_X2_takeOut_2 f (nI L) v on K = K on' ∧ (∀ q, q ≠ 1 → on' q = on q) ∧ ∀ j, on' 1 j = if i ≤ j ∧ j + 1 < L then on 1 (j + 1) else on 1 j := by
  intro f
  induction f with
  | zero => intro i v on _ _ h; exact absurd h (by omega)
  | succ f ih =>
    intro i v on hv hi hf
    subst hv
    rw [L_X2_takeOut_2.eq_2, dd_eq, nI_1s hL]
    by_cases c : L - 1 ≤ i
    · rw [if_pos ((nI_leI (by omega) (by omega)).mpr c)]
      exact ⟨on, rfl, fun _ _ => rfl, fun j => by rw [if_neg (by omega)]⟩
    · rw [if_neg (fun q => c ((nI_leI (by omega) (by omega)).mp q))]
      simp only [dd, nI_1]
      rw [ck_ok (by omega) (by omega), ck_ok (by omega) (by omega), nI_cl (by omega), nI_cl (by omega)]
      obtain ⟨on', e1, e2, e3⟩ := ih (i + 1) _ (sO on 1 (upd (on 1) i (on 1 (i + 1)))) rfl (by omega) (by omega)
      rw [e1]
      refine ⟨on', rfl, fun q hq => by rw [e2 q hq, sO_ne _ _ _ _ hq], fun j => ?_⟩
      rw [e3 j, sO_eq, upd_at, upd_at]
      by_cases d : j = i
      · rw [if_neg (by omega), if_pos d, if_pos (by omega), d]
      · by_cases e : i + 1 ≤ j ∧ j + 1 < L
        · rw [if_pos e, if_neg (show ¬ j + 1 = i by omega), if_pos (by omega)]
        · rw [if_neg e, if_neg d, if_neg (by omega)]
theorem take_ok {L i : Nat} (hL : 1 ≤ L) (hL8 : L ≤ 8) (hi : i ≤ L) (on : Ob) : ∃ on', F_X2_takeOut on (nI i) (nI L) = some on' ∧ (∀ q, q ≠ 1 → on' q = on q) ∧ ∀ j, on' 1 j = if i ≤ j ∧ j + 1 < L then on 1 (j + 1) else on 1 j := by
  unfold F_X2_takeOut
  rw [jn_eq]
  obtain ⟨on', e1, e2, e3⟩ := out_ok hL hL8 (fun (on2 : Ob) => some on2) 2000 i (nI i) on rfl hi (by omega)
  rw [e1]
  exact ⟨on', rfl, e2, e3⟩
def csC (w : Int32) (tt : Nat → Nat → Int32) (c : Int32) (p : Nat × Nat) : Int32 := if w = 0 then c + tt p.1 p.2 else if c < tt p.1 p.2 then tt p.1 p.2 else c
def er2o (mask d : Nat) : Bool := if d = 0 then true else if (bl mask).length ≤ d then true else
  (List.range ((bl mask).length - 2)).all (fun j => Nat.beq ((bl (nxm mask d)).getD j 0) (if j + 1 < d then (bl mask).getD (j + 1) 0 else (bl mask).getD (j + 2) 0))
theorem er2_dec : ∀ mask, mask < 256 → ∀ d, d < 8 → er2o mask d = true := by decide +kernel
theorem er2_ok {mask : Nat} (hm : mask < 256) {d : Nat} (h8 : d < 8) (h1 : 1 ≤ d) (hd : d < (bl mask).length) {j : Nat} (hj : j < (bl mask).length - 2) : (bl (nxm mask d)).getD j 0 = if j + 1 < d then (bl mask).getD (j + 1) 0 else (bl mask).getD (j + 2) 0 := by
  have h := er2_dec mask hm d h8
  unfold er2o at h
  rw [if_neg (by omega), if_neg (by omega), List.all_eq_true] at h
  exact Nat.eq_of_beq_eq_true (h j (List.mem_range.mpr hj))
theorem picks_ok (w : Int32) (ot : Nat → Int32) (K2 : Int32 → Ob → Option (Int32 × Ob)) : ∀ (f fuel j mask num ways : Nat) (u v x : Int32) (on : Ob), u = nI (bl mask).length → v = nI j → mask < 256 → (bl mask).length % 2 = 0 → num < wy (bl mask).length → ways = wy (bl mask).length → (bl mask).length ≤ 2 * f → f < fuel → j + (bl mask).length / 2 ≤ 4 →
    (∀ i, i < (bl mask).length → on 1 i = nI ((bl mask).getD i 0)) → (∀ i, j + i < 4 → on 0 (j + i) = nI (dig i (bl mask).length num ways)) →
    ∃ on', L_X2_costOfPicks_13 fuel w ot u x v on K2 = K2 ((pr f mask num ways).foldl (csC w (fun a b => if ot (8 * a + b) = -6 then 100000 else ot (8 * a + b))) x) on' ∧ (∀ q, q ≠ 1 → q ≠ 2 → on' q = on q) ∧ (∀ i, i < 8 → mask.testBit i = true → on' 2 i = nI (mt (pr f mask num ways) i)) ∧ (∀ i, i < 8 → mask.testBit i = false → on' 2 i = on 2 i) := by
  intro f
  induction f with
  | zero =>
    intro fuel j mask num ways u v x on hu hv hm he hn hw hf hfu hj hfr hpk
    obtain ⟨b1, b2, b3, b4, b5, b6⟩ := bl_dec mask hm
    have h0 := b4 (by omega)
    subst hu
    subst hv
    cases fuel with
    | zero => omega
    | succ fuel =>
      rw [L_X2_costOfPicks_13.eq_2]
      by_cases h4 : j = 4
      · subst h4
        rw [if_pos (show (4 : Int32) ≤ nI 4 by decide)]
        exact ⟨on, rfl, fun _ _ _ => rfl, fun i _ h => absurd h (by rw [h0, Nat.zero_testBit]; decide), fun _ _ _ => rfl⟩
      · have h : ¬ (4 : Int32) ≤ nI j := fun q => absurd ((nI_leI (a := 4) (by omega) (by omega)).mp q) (by omega)
        have hd := hpk 0 (by omega)
        have hl0 : (bl mask).length = 0 := b5 h0
        rw [hl0] at hd
        have hw1 : num = 0 := by
          rw [hl0] at hn
          have : num < 1 := hn
          omega
        have hdd : dig 0 0 num ways = 1 := by
          rw [hw1]
          show 0 / _ + 1 = 1
          rw [Nat.zero_div]
        rw [Nat.add_zero, hdd] at hd
        rw [if_neg h, ck_ok (by omega) (by omega), nI_cl (by omega), hd, hl0, if_pos (show nI 0 ≤ nI 1 by decide)]
        exact ⟨on, rfl, fun _ _ _ => rfl, fun i _ h => absurd h (by rw [h0, Nat.zero_testBit]; decide), fun _ _ _ => rfl⟩
  | succ f ih =>
    intro fuel j mask num ways u v x on hu hv hm he hn hw hf hfu hj hfr hpk
    obtain ⟨b1, b2, b3, b4, b5, b6⟩ := bl_dec mask hm
    subst hu
    subst hv
    cases fuel with
    | zero => omega
    | succ fuel =>
      rw [L_X2_costOfPicks_13.eq_2]
      by_cases h0 : mask = 0
      · have hpr : pr (f + 1) mask num ways = [] := by
          show (if mask = 0 then _ else _) = _
          rw [if_pos h0]
        rw [hpr]
        by_cases h4 : j = 4
        · subst h4
          rw [if_pos (show (4 : Int32) ≤ nI 4 by decide)]
          exact ⟨on, rfl, fun _ _ _ => rfl, fun i _ h => absurd h (by rw [h0, Nat.zero_testBit]; decide), fun _ _ _ => rfl⟩
        · have h : ¬ (4 : Int32) ≤ nI j := fun q => absurd ((nI_leI (a := 4) (by omega) (by omega)).mp q) (by omega)
          have hd := hpk 0 (by omega)
          have hl0 : (bl mask).length = 0 := b5 h0
          rw [hl0] at hd
          have hw1 : num = 0 := by
            rw [hl0] at hn
            have : num < 1 := hn
            omega
          have hdd : dig 0 0 num ways = 1 := by
            rw [hw1]
            show 0 / _ + 1 = 1
            rw [Nat.zero_div]
          rw [Nat.add_zero, hdd] at hd
          rw [if_neg h, ck_ok (by omega) (by omega), nI_cl (by omega), hd, hl0, if_pos (show nI 0 ≤ nI 1 by decide)]
          exact ⟨on, rfl, fun _ _ _ => rfl, fun i _ h => absurd h (by rw [h0, Nat.zero_testBit]; decide), fun _ _ _ => rfl⟩
      · have hl : (bl mask).length ≠ 0 := fun q => h0 (b4 q)
        obtain ⟨w1, w2, w3, w4, w5, w6⟩ := wy_ok b1 he hl hn
        have hpr : pr (f + 1) mask num ways = (ela mask, elb mask (num / wy ((bl mask).length - 2) + 1)) :: pr f (nxm mask (num / wy ((bl mask).length - 2) + 1)) (num % wy ((bl mask).length - 2)) (wy ((bl mask).length - 2)) := by
          subst hw
          rw [← w1]
          show (if mask = 0 then _ else _) = _
          rw [if_neg h0]
        have hd0 : dig 0 (bl mask).length num ways = num / wy ((bl mask).length - 2) + 1 := by
          rw [hw, ← w1]
          rfl
        have hds : ∀ i, dig (i + 1) (bl mask).length num ways = dig i ((bl mask).length - 2) (num % wy ((bl mask).length - 2)) (wy ((bl mask).length - 2)) := by
          intro i
          rw [hw, ← w1]
          rfl
        have hj4 : j < 4 := by omega
        have h : ¬ (4 : Int32) ≤ nI j := fun q => absurd ((nI_leI (a := 4) (by omega) (by omega)).mp q) (by omega)
        have hp0 := hpk 0 (by omega)
        rw [Nat.add_zero, hd0] at hp0
        have hds' : ∀ i, j + 1 + i < 4 → on 0 (j + 1 + i) = nI (dig i ((bl mask).length - 2) (num % wy ((bl mask).length - 2)) (wy ((bl mask).length - 2))) := by
          intro i hi
          have := hpk (i + 1) (by omega)
          rw [hds i] at this
          rw [← this]
          exact congrArg (on 0) (by omega)
        rw [hpr]
        obtain ⟨d, hd⟩ : ∃ d, d = num / wy ((bl mask).length - 2) + 1 := ⟨_, rfl⟩
        rw [← hd] at w2 hp0 ⊢
        have hd1 : 1 ≤ d := by rw [hd]; exact Nat.le_add_left 1 _
        obtain ⟨c1, c2, c3, c4, c5, c6, c7, c8, c9⟩ := el_dec hm (d := d) (by omega) hd1 w2
        obtain ⟨d1, d2⟩ := el2_ok hm (d := d) (by omega) hd1 w2
        have fa : on 1 0 = nI (ela mask) := hfr 0 (by omega)
        have fb : on 1 d = nI (elb mask d) := hfr d w2
        have ea : (8 : Int32) * nI (ela mask) + nI (elb mask d) = nI (8 * ela mask + elb mask d) := by rw [show (8 : Int32) = nI 8 from rfl, pk_mul, nI_add]
        have z0 : (0 : Int32).toNatClampNeg = 0 := by decide
        have k0 : ∀ (k : Option (Int32 × Ob)), ck 0 8 k = k := fun k => ck_ok (n := 0) (by omega) (by omega)
        have nd : ¬ nI (bl mask).length ≤ nI d := fun q => absurd ((nI_leI (by omega) (by omega)).mp q) (by omega)
        rw [if_neg h]
        simp only [dd]
        rw [ck_ok (by omega) (by omega), nI_cl (show j < 2000000000 by omega), hp0, if_neg nd, k0, ck_ok (by omega) (by omega), ck_ok (by omega) (by omega), nI_cl (show d < 2000000000 by omega), z0, fa, fb, ck_ok (by omega) (by omega), ck_ok (by omega) (by omega), nI_cl (show ela mask < 2000000000 by omega), nI_cl (show elb mask d < 2000000000 by omega), ea, ck_ok (by omega) (by omega), nI_cl (by omega), jn_if, jn_if]
        generalize hon : sO (sO on 2 (upd (on 2) (ela mask) (nI (elb mask d)))) 2 (upd (sO on 2 (upd (on 2) (ela mask) (nI (elb mask d))) 2) (elb mask d) (nI (ela mask))) = on20
        have g0 : ∀ q, q ≠ 2 → on20 q = on q := fun q hq => by rw [← hon, sO_ne _ _ _ _ hq, sO_ne _ _ _ _ hq]
        obtain ⟨q29, t1, t2, t3⟩ := take_ok (L := (bl mask).length) (i := d) (by omega) b1 (by omega) on20
        obtain ⟨q31, t4, t5, t6⟩ := take_ok (L := (bl mask).length - 1) (i := 0) (by omega) (by omega) (by omega) q29
        have e30 : nI (bl mask).length - 1 = nI ((bl mask).length - 1) := nI_1s (by omega)
        have e32 : nI (bl mask).length + (-2) = nI ((bl mask).length - 2) := by
          rw [nI_iI, show (-2 : Int32) = iI (-2) from rfl, iI_add, nI_iI, show (((bl mask).length - 2 : Nat) : Int) = ((bl mask).length : Int) + -2 by omega]
        have t4' : F_X2_takeOut q29 0 (nI ((bl mask).length - 1)) = some q31 := t4
        rw [ck_ok (by omega) (by omega), g0 0 (by omega), hp0, t1, bsome, e30, t4', bsome, e32, nI_1]
        obtain ⟨on', e1, e2, e3, e4⟩ := ih fuel (j + 1) (nxm mask d) (num % wy ((bl mask).length - 2)) (wy ((bl mask).length - 2)) (nI ((bl mask).length - 2)) (nI (j + 1)) (if w = 0 then x + (if ot (8 * ela mask + elb mask d) = -6 then 100000 else ot (8 * ela mask + elb mask d)) else if x < (if ot (8 * ela mask + elb mask d) = -6 then 100000 else ot (8 * ela mask + elb mask d)) then (if ot (8 * ela mask + elb mask d) = -6 then 100000 else ot (8 * ela mask + elb mask d)) else x) q31 (by rw [d1]) rfl c6 (by rw [d1]; omega) (by rw [d1]; exact w3) (by rw [d1]) (by omega) (by omega) (by rw [d1]; omega)
          (fun i hi => by
            rw [d1] at hi
            rw [er2_ok hm (by omega) hd1 w2 hi, t6 i, if_pos (by omega), t3 (i + 1), g0 1 (by omega)]
            by_cases c : i + 1 < d
            · rw [if_neg (by omega), if_pos c]
              exact hfr (i + 1) (by omega)
            · rw [if_pos (by omega), if_neg c]
              exact hfr (i + 2) (by omega))
          (fun i hi => by
            rw [d1, t5 0 (by omega), t2 0 (by omega), g0 0 (by omega)]
            exact hds' i hi)
        rw [e1]
        have on2 : ∀ i, q31 2 i = if i = elb mask d then nI (ela mask) else if i = ela mask then nI (elb mask d) else on 2 i := by
          intro i
          rw [t5 2 (by omega), t2 2 (by omega), ← hon, sO_eq, sO_eq, upd_at, upd_at]
        refine ⟨on', rfl, fun q hq hq2 => ?_, fun i hi ht => ?_, fun i hi ht => ?_⟩
        · rw [e2 q hq hq2, t5 q hq, t2 q hq, g0 q hq2]
        · show on' 2 i = nI (if i = ela mask then _ else if i = elb mask _ then _ else _)
          by_cases ia : i = ela mask
          · rw [if_pos ia, e4 i hi (tb_not (a := 0) d2 hi (Or.inl ia)), on2, if_neg (by rw [ia]; exact c3), if_pos ia]
          · rw [if_neg ia]
            by_cases ib : i = elb mask d
            · rw [if_pos ib, e4 i hi (tb_not (a := 0) d2 hi (Or.inr (Or.inl ib))), on2, if_pos ib]
            · rw [if_neg ib]
              exact e3 i hi (by rw [d2 i hi, ht, beq_f ia, beq_f ib]; rfl)
        · have ia : i ≠ ela mask := fun q => by rw [q, c4] at ht; exact absurd ht (by decide)
          have ib : i ≠ elb mask d := fun q => by rw [q, c5] at ht; exact absurd ht (by decide)
          rw [e4 i hi (tb_not (a := 0) d2 hi (Or.inr (Or.inr ht))), on2, if_neg ib, if_neg ia]
