/-! tied: the reference's enumeration. -/
def el2 (mask d : Nat) : Bool := if d = 0 then true else if (bl mask).length ≤ d then true else
  Nat.beq (bl (nxm mask d)).length ((bl mask).length - 2) && (List.range 8).all (fun i => (nxm mask d).testBit i == (mask.testBit i && (!(Nat.beq i (ela mask)) && !(Nat.beq i (elb mask d)))))
theorem el2_dec : ∀ mask, mask < 256 → ∀ d, d < 8 → el2 mask d = true := by decide +kernel
theorem el2_ok {mask : Nat} (hm : mask < 256) {d : Nat} (h8 : d < 8) (h1 : 1 ≤ d) (hd : d < (bl mask).length) : (bl (nxm mask d)).length = (bl mask).length - 2 ∧ ∀ i, i < 8 → (nxm mask d).testBit i = (mask.testBit i && (!(Nat.beq i (ela mask)) && !(Nat.beq i (elb mask d)))) := by
  have h := el2_dec mask hm d h8
  unfold el2 at h
  rw [if_neg (by omega), if_neg (by omega), Bool.and_eq_true, List.all_eq_true] at h
  exact ⟨Nat.eq_of_beq_eq_true h.1, fun i hi => eq_of_beq (h.2 i (List.mem_range.mpr hi))⟩
theorem tb_not {mask a b i : Nat} (e : ∀ i, i < 8 → (nxm mask b).testBit i = (mask.testBit i && (!(Nat.beq i (ela mask)) && !(Nat.beq i (elb mask b))))) (hi : i < 8) (h : i = ela mask ∨ i = elb mask b ∨ mask.testBit i = false) : (nxm mask b).testBit i = false := by
  rw [e i hi]
  rcases h with h | h | h
  · rw [← h, Nat.beq_refl]; cases mask.testBit i <;> rfl
  · rw [← h, Nat.beq_refl]; cases mask.testBit i <;> cases Nat.beq i (ela mask) <;> rfl
  · rw [h]; rfl
theorem beq_f {a b : Nat} (h : a ≠ b) : Nat.beq a b = false := by
  cases c : Nat.beq a b with
  | true => exact absurd (Nat.eq_of_beq_eq_true c) h
  | false => rfl
theorem wy_ok {n num : Nat} (h8 : n ≤ 8) (h2 : n % 2 = 0) (h0 : n ≠ 0) (hn : num < wy n) : wy n / (n - 1) = wy (n - 2) ∧ num / wy (n - 2) + 1 < n ∧ num % wy (n - 2) < wy (n - 2) ∧ 0 < wy (n - 2) ∧ wy (n - 2) ≤ 15 ∧ wy n ≤ 105 := by
  rcases (show n = 2 ∨ n = 4 ∨ n = 6 ∨ n = 8 by omega) with rfl | rfl | rfl | rfl
  · have h : num < 1 := hn
    refine ⟨rfl, ?_, ?_, by decide, by decide, by decide⟩
    · show num / 1 + 1 < 2; omega
    · show num % 1 < 1; omega
  · have h : num < 3 := hn
    refine ⟨rfl, ?_, ?_, by decide, by decide, by decide⟩
    · show num / 1 + 1 < 4; omega
    · show num % 1 < 1; omega
  · have h : num < 15 := hn
    refine ⟨rfl, ?_, ?_, by decide, by decide, by decide⟩
    · show num / 3 + 1 < 6; omega
    · show num % 3 < 3; omega
  · have h : num < 105 := hn
    refine ⟨rfl, ?_, ?_, by decide, by decide, by decide⟩
    · show num / 15 + 1 < 8; omega
    · show num % 15 < 15; omega
theorem dz_ok {α : Type} {n : Nat} (h : n < 2000000000) (h0 : n ≠ 0) (k : Option α) : dz (nI n) k = k := by
  unfold dz
  exact if_neg (fun q => h0 ((nI_eq (b := 0) (by omega) (by omega)).mp q))
theorem mtie_ok (K1 : Ob → Option Ob) : ∀ (f fuel mask num ways : Nat) (om : Ob), mask < 256 → (bl mask).length % 2 = 0 → num < wy (bl mask).length → ways = wy (bl mask).length → (bl mask).length ≤ 2 * f → f < fuel →
    ∃ m', L_X6_tie_11 fuel (nI mask) (nI num) (nI ways) om K1 = K1 m' ∧ (∀ q, q ≠ 23 → m' q = om q) ∧ (∀ i, i < 8 → mask.testBit i = true → m' 23 i = nI (mt (pr f mask num ways) i)) ∧ (∀ i, i < 8 → mask.testBit i = false → m' 23 i = om 23 i) := by
  intro f
  induction f with
  | zero =>
    intro fuel mask num ways om hm he hn hw hf hfu
    obtain ⟨b1, b2, b3, b4, b5, b6⟩ := bl_dec mask hm
    have h0 := b4 (by omega)
    subst h0
    cases fuel with
    | zero => omega
    | succ fuel =>
      rw [L_X6_tie_11.eq_2, if_pos (show nI 0 = (0 : Int32) from rfl)]
      exact ⟨om, rfl, fun _ _ => rfl, fun i _ h => absurd h (by rw [Nat.zero_testBit]; decide), fun _ _ _ => rfl⟩
  | succ f ih =>
    intro fuel mask num ways om hm he hn hw hf hfu
    obtain ⟨b1, b2, b3, b4, b5, b6⟩ := bl_dec mask hm
    cases fuel with
    | zero => omega
    | succ fuel =>
      rw [L_X6_tie_11.eq_2]
      by_cases h0 : mask = 0
      · subst h0
        rw [if_pos (show nI 0 = (0 : Int32) from rfl)]
        exact ⟨om, rfl, fun _ _ => rfl, fun i _ h => absurd h (by rw [Nat.zero_testBit]; decide), fun _ _ _ => rfl⟩
      · have hl : (bl mask).length ≠ 0 := fun q => h0 (b4 q)
        obtain ⟨w1, w2, w3, w4, w5, w6⟩ := wy_ok b1 he hl hn
        have hpr : pr (f + 1) mask num ways = (ela mask, elb mask (num / wy ((bl mask).length - 2) + 1)) :: pr f (nxm mask (num / wy ((bl mask).length - 2) + 1)) (num % wy ((bl mask).length - 2)) (wy ((bl mask).length - 2)) := by
          subst hw
          rw [← w1]
          show (if mask = 0 then _ else _) = _
          rw [if_neg h0]
        rw [hpr, hw]
        have hml : mask ≠ 0 := h0
        have a8 := b6 h0
        have hid : num / wy ((bl mask).length - 2) < 7 := by omega
        obtain ⟨c1, c2, c3, c4, c5, c6, c7, c8, c9⟩ := el_dec hm (d := num / wy ((bl mask).length - 2) + 1) (by omega) (Nat.le_add_left 1 _) w2
        obtain ⟨d1, d2⟩ := el2_ok hm (d := num / wy ((bl mask).length - 2) + 1) (by omega) (Nat.le_add_left 1 _) w2
        have nz : ¬ nI mask = (0 : Int32) := fun q => h0 ((nI_eq (b := 0) (by omega) (by omega)).mp q)
        rw [if_neg nz, jn_eq, t18_K, t18_dec mask hm h0, bsome, dd_eq, dd_eq, dd_eq, (and_dec mask hm _ a8).1, b3 h0, bsome, dz_ok (by omega) (by omega), dd_eq, pk_div (by omega) (by omega) (by omega), w1, dz_ok (by omega) (by omega), dd_eq, dz_ok (by omega) (by omega), dd_eq, dd_eq, jn_eq, pk_rem (by omega) (by omega) (by omega), pk_div (by omega) (by omega) (by omega), nI_1, t71_K, t71_dec mask hm _ hid w2, bsome, dd_eq, dd_eq, dd_eq, (and_dec _ c8 _ c2).1, c9, ck_ok (by omega) (by omega), dd_eq, ck_ok (by omega) (by omega), dd_eq, nI_cl (by omega), nI_cl (by omega)]
        obtain ⟨m', e1, e2, e3, e4⟩ := ih fuel (nxm mask (num / wy ((bl mask).length - 2) + 1)) (num % wy ((bl mask).length - 2)) (wy ((bl mask).length - 2)) (sO (sO om 23 (upd (om 23) (ela mask) (nI (elb mask (num / wy ((bl mask).length - 2) + 1))))) 23 (upd (sO om 23 (upd (om 23) (ela mask) (nI (elb mask (num / wy ((bl mask).length - 2) + 1)))) 23) (elb mask (num / wy ((bl mask).length - 2) + 1)) (nI (ela mask)))) c6 (by rw [d1]; omega) (by rw [d1]; exact w3) (by rw [d1]) (by omega) (by omega)
        rw [e1]
        refine ⟨m', rfl, fun q hq => ?_, fun i hi ht => ?_, fun i hi ht => ?_⟩
        · rw [e2 q hq, sO_ne _ _ _ _ hq, sO_ne _ _ _ _ hq]
        · show m' 23 i = nI (if i = ela mask then _ else if i = elb mask _ then _ else _)
          by_cases ia : i = ela mask
          · rw [if_pos ia, e4 i hi (tb_not (a := 0) d2 hi (Or.inl ia)), sO_eq, sO_eq, upd_at, upd_at, if_neg (by rw [ia]; exact c3), if_pos ia]
          · rw [if_neg ia]
            by_cases ib : i = elb mask (num / wy ((bl mask).length - 2) + 1)
            · rw [if_pos ib, e4 i hi (tb_not (a := 0) d2 hi (Or.inr (Or.inl ib))), sO_eq, sO_eq, upd_at, if_pos ib]
            · rw [if_neg ib]
              exact e3 i hi (by rw [d2 i hi, ht, beq_f ia, beq_f ib]; rfl)
        · have ia : i ≠ ela mask := fun q => by rw [q, c4] at ht; exact absurd ht (by decide)
          have ib : i ≠ elb mask (num / wy ((bl mask).length - 2) + 1) := fun q => by rw [q, c5] at ht; exact absurd ht (by decide)
          rw [e4 i hi (tb_not (a := 0) d2 hi (Or.inr (Or.inr ht))), sO_eq, sO_eq, upd_at, upd_at, if_neg ib, if_neg ia]
def cs (w : Int32) (tt : Nat → Nat → Int32) (c : Int32) (p : Nat × Nat) : Int32 := if w = 0 then c + tt p.1 p.2 else if tt p.1 p.2 ≤ c then c else tt p.1 p.2
theorem runs_at {c om : Ob} {mask : Nat} (hm : mask < 256) (hr : om 0 0 = nI mask) (hc : ∀ i, i < 8 → c 0 i = if mask.testBit i then 1 else 0) {i : Nat} (hi : i < 8) : F_X0_hasRunner c (nI i) = some (if mask.testBit i then 1 else 0) ∧ F_X6_runs om (nI i) = some (if mask.testBit i then 1 else 0) := by
  rcases runs_or hm hr hc (nI i) with ⟨j, hj, e, hb, h1, h2⟩ | ⟨h1, h2⟩
  · have := nI_inj (by omega) (by omega) e
    subst this
    rw [h1, h2, if_pos hb]
    exact ⟨rfl, rfl⟩
  · cases hb : mask.testBit i with
    | true =>
      have rk : c 0 i = 1 := by rw [hc i hi, hb]; rfl
      have n1 : ¬ nI i < (0 : Int32) := fun q => absurd ((nI_ltI (b := 0) (by omega) (by omega)).mp q) (by omega)
      have n2 : ¬ (8 : Int32) ≤ nI i := fun q => absurd ((nI_leI (a := 8) (by omega) (by omega)).mp q) (by omega)
      have : F_X0_hasRunner c (nI i) = some 1 := by
        unfold F_X0_hasRunner
        rw [if_neg n1, if_neg n2, ck_ok hi (by omega), nI_cl (by omega), rk, if_neg i10]
      rw [this] at h1
      exact absurd h1 (by decide)
    | false =>
      rw [h1, h2]
      exact ⟨rfl, rfl⟩
theorem mtied_ok {c m : Ob} {mask : Nat} (hm : mask < 256) (hr : m 0 0 = nI mask) (hc : ∀ i, i < 8 → c 0 i = if mask.testBit i then 1 else 0) {P : List (Nat × Nat)} (hP : ∀ i, i < 8 → mask.testBit i = true → m 23 i = nI (mt P i)) (hmt : ∀ i, i < 8 → mt P i < 8) (w : Int32) (K : Int32 → Option Int32) :
    ∀ (f i : Nat) (v x : Int32), v = nI i → i ≤ 8 → 8 - i < f → L_X6_tiedBy_4 f w m x v K = K ((scan mask P (8 - i) i).foldl (cs w (fun a b => m 22 (8 * a + b))) x) := by
  intro f
  induction f with
  | zero => intro i v x _ _ h; exact absurd h (by omega)
  | succ f ih =>
    intro i v x hv hi hf
    subst hv
    rw [L_X6_tiedBy_4.eq_2]
    by_cases h8 : i = 8
    · subst h8
      rw [if_pos (show (8 : Int32) ≤ nI 8 by decide)]
      rfl
    · have h : ¬ (8 : Int32) ≤ nI i := fun q => absurd ((nI_leI (a := 8) (by omega) (by omega)).mp q) (by omega)
      have i8 : i < 8 := by omega
      have ihh := ih (i + 1) (nI (i + 1))
      obtain ⟨z, hz⟩ : ∃ z, 8 - i = z + 1 := ⟨8 - i - 1, by omega⟩
      have hz' : 8 - (i + 1) = z := by omega
      rw [hz'] at ihh
      rw [if_neg h, (runs_at hm hr hc i8).2, bsome, hz]
      simp only [dd]
      rw [nI_1]
      show _ = K ((if mask.testBit i then (if mt P i ≤ i then scan mask P z (i + 1) else (i, mt P i) :: scan mask P z (i + 1)) else scan mask P z (i + 1)).foldl _ x)
      cases hb : mask.testBit i with
      | false =>
        rw [if_pos (show (if false = true then (1 : Int32) else 0) = 0 by decide), if_neg (show ¬ false = true by decide)]
        exact ihh x rfl (by omega) (by omega)
      | true =>
        rw [if_neg (show ¬ (if true = true then (1 : Int32) else 0) = 0 by decide), if_pos rfl, ck_ok i8 (by omega), nI_cl (by omega), hP i i8 hb]
        have hm8 := hmt i i8
        by_cases c1 : mt P i ≤ i
        · rw [if_pos ((nI_leI (by omega) (by omega)).mpr c1), if_pos c1]
          exact ihh x rfl (by omega) (by omega)
        · have ea : (8 : Int32) * nI i + nI (mt P i) = nI (8 * i + mt P i) := by rw [show (8 : Int32) = nI 8 from rfl, pk_mul, nI_add]
          rw [if_neg (fun q => c1 ((nI_leI (by omega) (by omega)).mp q)), if_neg c1, ck_ok i8 (by omega), ea, ck_ok (by omega) (by omega), nI_cl (by omega), List.foldl_cons]
          show _ = K (List.foldl _ (if w = 0 then x + m 22 (8 * i + mt P i) else if m 22 (8 * i + mt P i) ≤ x then x else m 22 (8 * i + mt P i)) _)
          by_cases cw : w = 0
          · rw [if_pos cw, if_pos cw]
            exact ihh _ rfl (by omega) (by omega)
          · rw [if_neg cw, if_neg cw]
            by_cases cx : m 22 (8 * i + mt P i) ≤ x
            · rw [if_pos cx, if_pos cx]
              exact ihh _ rfl (by omega) (by omega)
            · rw [if_neg cx, if_neg cx]
              exact ihh _ rfl (by omega) (by omega)
