/-! Numbers: ints as Int32, ranges, the bits of who runs. -/
def iI (z : Int) : Int32 := Int32.ofInt z
theorem iI_add (a b : Int) : iI a + iI b = iI (a + b) := (Int32.ofInt_add a b).symm
theorem iI_sub (a b : Int) : iI a - iI b = iI (a - b) := (Int32.ofInt_sub a b).symm
theorem iI_mul (a b : Int) : iI a * iI b = iI (a * b) := (Int32.ofInt_mul a b).symm
theorem nI_iI (n : Nat) : nI n = iI n := Int32.ofInt_eq_ofNat.symm
theorem iI_toInt {z : Int} (h1 : -2000000000 ≤ z) (h2 : z ≤ 2000000000) : (iI z).toInt = z := Int32.toInt_ofInt_of_le (by omega) (by omega)
theorem iI_le {a b : Int} (h : -2000000000 ≤ a ∧ a ≤ 2000000000 ∧ -2000000000 ≤ b ∧ b ≤ 2000000000) : iI a ≤ iI b ↔ a ≤ b := by
  rw [Int32.le_iff_toInt_le, iI_toInt h.1 h.2.1, iI_toInt h.2.2.1 h.2.2.2]
theorem iI_lt {a b : Int} (h : -2000000000 ≤ a ∧ a ≤ 2000000000 ∧ -2000000000 ≤ b ∧ b ≤ 2000000000) : iI a < iI b ↔ a < b := by
  rw [Int32.lt_iff_toInt_lt, iI_toInt h.1 h.2.1, iI_toInt h.2.2.1 h.2.2.2]
theorem iI_eq {a b : Int} (h : -2000000000 ≤ a ∧ a ≤ 2000000000 ∧ -2000000000 ≤ b ∧ b ≤ 2000000000) : iI a = iI b ↔ a = b := by
  rw [← Int32.toInt_inj, iI_toInt h.1 h.2.1, iI_toInt h.2.2.1 h.2.2.2]
theorem iI_div4 {a : Int} (h : -2000000000 ≤ a ∧ a ≤ 2000000000) : iI a / 4 = iI (a.tdiv 4) := by
  have e : (iI a / 4).toInt = a.tdiv 4 := by
    rw [Int32.toInt_div_of_ne_right _ _ (by decide), iI_toInt h.1 h.2]
    rfl
  rw [← e]
  exact (Int32.ofInt_toInt _).symm
theorem i10 : ¬ (1 : Int32) = 0 := by decide
theorem lgc_neg (v a : Int32) : lg_cmp v.toInt64 a.toInt64 < 0 ↔ v < a := by
  have e1 : v.toInt64 > a.toInt64 ↔ a < v := by rw [gt_iff_lt, Int64.lt_iff_toInt_lt, Int32.lt_iff_toInt_lt, Int32.toInt_toInt64, Int32.toInt_toInt64]
  have e2 : v.toInt64 = a.toInt64 ↔ v = a := by rw [← Int64.toInt_inj, ← Int32.toInt_inj, Int32.toInt_toInt64, Int32.toInt_toInt64]
  have e3 : v < a ↔ ¬ a < v ∧ ¬ v = a := by rw [Int32.lt_iff_toInt_lt, Int32.lt_iff_toInt_lt, ← Int32.toInt_inj]; omega
  unfold lg_cmp
  by_cases h : a < v
  · rw [if_pos (e1.mpr h)]
    exact ⟨fun q => absurd q (by decide), fun q => absurd h (e3.mp q).1⟩
  · rw [if_neg (fun q => h (e1.mp q))]
    by_cases g : v = a
    · rw [if_pos (e2.mpr g)]
      exact ⟨fun q => absurd q (by decide), fun q => absurd g (e3.mp q).2⟩
    · rw [if_neg (fun q => g (e2.mp q))]
      exact ⟨fun _ => e3.mpr ⟨h, g⟩, fun _ => by decide⟩
theorem lgc_pos (v a : Int32) : 0 < lg_cmp v.toInt64 a.toInt64 ↔ a < v := by
  have e1 : v.toInt64 > a.toInt64 ↔ a < v := by rw [gt_iff_lt, Int64.lt_iff_toInt_lt, Int32.lt_iff_toInt_lt, Int32.toInt_toInt64, Int32.toInt_toInt64]
  unfold lg_cmp
  by_cases h : a < v
  · rw [if_pos (e1.mpr h)]
    exact ⟨fun _ => h, fun _ => by decide⟩
  · rw [if_neg (fun q => h (e1.mp q))]
    refine ⟨fun q => ?_, fun q => absurd q h⟩
    split at q
    · exact absurd q (by decide)
    · exact absurd q (by decide)
theorem in_if (v a b : Int32) {A B : Int64} (hA : A = a.toInt64) (hB : B = b.toInt64) : F_X6_in v.toInt64 A B = F_X5_isWithin v a b := by
  subst hA
  subst hB
  unfold F_X6_in F_X5_isWithin
  simp only [lgc_neg, lgc_pos]
/-- a number is within, or not -/
theorem rng (v a b : Int32) (lo hi : Nat) (ha : a = nI lo) (hb : b = nI hi) (hh : hi < 2000000000) (hl : lo ≤ hi) :
    (∃ n, lo ≤ n ∧ n ≤ hi ∧ v = nI n ∧ F_X5_isWithin v a b = some 1) ∨ F_X5_isWithin v a b = some 0 := by
  unfold F_X5_isWithin
  by_cases h1 : v < a
  · rw [if_pos h1]; exact Or.inr rfl
  · rw [if_neg h1]
    by_cases h2 : b < v
    · rw [if_pos h2]; exact Or.inr rfl
    · rw [if_neg h2]
      refine Or.inl ⟨v.toInt.toNat, ?_⟩
      rw [Int32.lt_iff_toInt_lt] at h1 h2
      rw [ha, nI_toInt (by omega)] at h1
      rw [hb, nI_toInt (by omega)] at h2
      refine ⟨by omega, by omega, ?_, rfl⟩
      rw [nI_iI, show ((v.toInt.toNat : Nat) : Int) = v.toInt by omega]
      exact (Int32.ofInt_toInt v).symm
theorem ck_ok {α : Type} {n N : Nat} {k : Option α} (h : n < N) (hN : N < 2000000000) : ck (nI n) N k = k := by
  unfold ck
  exact if_neg (vp_in_nI h (by omega))
theorem bit_dec : ∀ mask, mask < 256 → ∀ n, n < 8 → ((((nI mask) >>> ((nI n) &&& 31)) &&& 1) = if mask.testBit n then 1 else 0) := by decide +kernel
theorem nI_cl {n : Nat} (h : n < 2000000000) : (nI n).toNatClampNeg = n := nI_clamp (by omega)
/-- who runs, in both -/
theorem runs_or {c om : Ob} {mask : Nat} (hm : mask < 256) (hr : om 0 0 = nI mask) (hc : ∀ i, i < 8 → c 0 i = if mask.testBit i then 1 else 0) (p : Int32) :
    (∃ i, i < 8 ∧ p = nI i ∧ mask.testBit i = true ∧ F_X0_hasRunner c p = some 1 ∧ F_X6_runs om p = some 1) ∨ (F_X0_hasRunner c p = some 0 ∧ F_X6_runs om p = some 0) := by
  have e := in_if p 0 7 (A := 0) (B := 7) rfl rfl
  unfold F_X6_runs F_X0_hasRunner
  rw [e]
  unfold F_X5_isWithin
  by_cases h1 : p < 0
  · rw [if_pos h1, if_pos h1]
    exact Or.inr ⟨rfl, rfl⟩
  · rw [if_neg h1, if_neg h1]
    by_cases h2 : 7 < p
    · have h3 : 8 ≤ p := by
        rw [Int32.lt_iff_toInt_lt] at h2
        rw [Int32.le_iff_toInt_le]
        exact h2
      rw [if_pos h2, if_pos h3]
      exact Or.inr ⟨rfl, rfl⟩
    · have h3 : ¬ 8 ≤ p := by
        rw [Int32.lt_iff_toInt_lt] at h2
        rw [Int32.le_iff_toInt_le]
        exact h2
      rw [if_neg h2, if_neg h3]
      obtain ⟨i, hi, rfl⟩ : ∃ i : Nat, i < 8 ∧ p = nI i := by
        rw [Int32.lt_iff_toInt_lt] at h1
        rw [Int32.le_iff_toInt_le] at h3
        have h1' : ¬ p.toInt < 0 := h1
        have h3' : ¬ 8 ≤ p.toInt := h3
        refine ⟨p.toInt.toNat, by omega, ?_⟩
        rw [nI_iI, show ((p.toInt.toNat : Nat) : Int) = p.toInt by omega]
        exact (Int32.ofInt_toInt p).symm
      rw [ck_ok hi (by omega), nI_cl (by omega), hc i hi]
      simp only [Option.bind_some, dd, hr, bit_dec mask hm i hi]
      cases hb : mask.testBit i with
      | true => exact Or.inl ⟨i, hi, rfl, hb, by simp [hb], by simp [hb]⟩
      | false => exact Or.inr ⟨by simp [hb], by simp [hb]⟩
theorem pair_or {c om : Ob} {mask : Nat} (hm : mask < 256) (hr : om 0 0 = nI mask) (hc : ∀ i, i < 8 → c 0 i = if mask.testBit i then 1 else 0) (p q : Int32) :
    (∃ i j, i < 8 ∧ j < 8 ∧ i ≠ j ∧ p = nI i ∧ q = nI j ∧ mask.testBit i = true ∧ mask.testBit j = true ∧ F_X0_canTie c p q = some 1 ∧ F_X6_isPair om p q = some 1) ∨ (F_X0_canTie c p q = some 0 ∧ F_X6_isPair om p q = some 0) := by
  unfold F_X0_canTie F_X6_isPair
  rcases runs_or hm hr hc p with ⟨i, hi, rfl, hbi, h1, h2⟩ | ⟨h1, h2⟩
  · rcases runs_or hm hr hc q with ⟨j, hj, rfl, hbj, h3, h4⟩ | ⟨h3, h4⟩
    · by_cases hij : nI i = nI j
      · right
        simp [h1, h2, h3, h4, hij, i10]
      · left
        exact ⟨i, j, hi, hj, fun h => hij (by rw [h]), rfl, rfl, hbi, hbj, by simp [h1, h3, hij, i10], by simp [h2, h4, hij, i10]⟩
    · right
      simp [h1, h2, h3, h4, i10]
  · right
    simp [h1, h2]
