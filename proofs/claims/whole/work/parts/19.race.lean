/-! A pair is tied; the time in which it makes so many feet. -/
def pij (c : Ob) (i j : Nat) : Nat → Int := fun k => match k with
  | 0 => (c 1 i).toInt
  | 1 => (c 1 j).toInt
  | 2 => (c 3 i).toInt
  | 3 => (c 3 j).toInt
  | 4 => if (c 2 j).toInt < (c 2 i).toInt then (c 2 j).toInt else (c 2 i).toInt
  | 5 => (c 4 0).toInt
  | 6 => (c 5 0).toInt
  | _ => (c 6 0).toInt
def s0 : S5 := (0, 0, 0, 0, 0)
def MP (p : Nat → Int) (qf : Nat) (m : Ob) : Prop := m 7 0 = iI (p 0) ∧ m 8 0 = iI (p 1) ∧ m 9 0 = iI (p 2) ∧ m 10 0 = iI (p 3) ∧ m 11 0 = iI (p 4) ∧ m 12 0 = nI qf ∧ m 13 0 = iI (p 5) ∧ m 5 0 = iI (p 6) ∧ m 6 0 = iI (p 7)
theorem iI_of (x : Int32) : iI x.toInt = x := Int32.ofInt_toInt x
theorem pij_G {c om : Ob} (hC : Cr c om) {i j : Nat} (hi : i < 8) (hj : j < 8) (ri : c 0 i = 1) (rj : c 0 j = 1) : Gp (pij c i j) := by
  obtain ⟨mask, hm, hr, hb, ha, hg, c4, c5, c6, l, f, u, l1, f1, u1, q1, q2, q3, q4⟩ := hC
  have ti : mask.testBit i = true := by
    rw [hb i hi] at ri
    cases h : mask.testBit i with
    | true => rfl
    | false => rw [h] at ri; exact absurd ri (by decide)
  have tj : mask.testBit j = true := by
    rw [hb j hj] at rj
    cases h : mask.testBit j with
    | true => rfl
    | false => rw [h] at rj; exact absurd rj (by decide)
  obtain ⟨⟨n1, a1, a2, e1⟩, ⟨n2, a3, a4, e2⟩, ⟨n3, a5, e3⟩⟩ := hg i hi ti
  obtain ⟨⟨m1, b1, b2, d1⟩, ⟨m2, b3, b4, d2⟩, ⟨m3, b5, d3⟩⟩ := hg j hj tj
  have x1 : (c 1 i).toInt = n1 := by rw [(ha i hi).1, e1, nI_toInt (by omega)]
  have x2 : (c 2 i).toInt = n2 := by rw [(ha i hi).2.1, e2, nI_toInt (by omega)]
  have x3 : (c 3 i).toInt = n3 := by rw [(ha i hi).2.2, e3, nI_toInt (by omega)]
  have y1 : (c 1 j).toInt = m1 := by rw [(ha j hj).1, d1, nI_toInt (by omega)]
  have y2 : (c 2 j).toInt = m2 := by rw [(ha j hj).2.1, d2, nI_toInt (by omega)]
  have y3 : (c 3 j).toInt = m3 := by rw [(ha j hj).2.2, d3, nI_toInt (by omega)]
  have z4 : (c 4 0).toInt = l := by rw [c4, l1, nI_toInt (by omega)]
  have z5 : (c 5 0).toInt = f := by rw [c5, f1, nI_toInt (by omega)]
  have z6 : (c 6 0).toInt = u := by rw [c6, u1, nI_toInt (by omega)]
  have p0 : pij c i j 0 = (c 1 i).toInt := rfl
  have p1 : pij c i j 1 = (c 1 j).toInt := rfl
  have p2 : pij c i j 2 = (c 3 i).toInt := rfl
  have p3 : pij c i j 3 = (c 3 j).toInt := rfl
  have p4 : pij c i j 4 = if (c 2 j).toInt < (c 2 i).toInt then (c 2 j).toInt else (c 2 i).toInt := rfl
  have p5 : pij c i j 5 = (c 4 0).toInt := rfl
  have p6 : pij c i j 6 = (c 5 0).toInt := rfl
  have p7 : pij c i j 7 = (c 6 0).toInt := rfl
  unfold Gp
  rw [p0, p1, p2, p3, p4, p5, p6, p7, x1, x2, x3, y1, y2, y3, z4, z5, z6]
  refine ⟨by omega, by omega, ?_, by omega, by omega, by omega⟩
  split <;> omega
theorem can_ok {c : Ob} {i j : Nat} (hi : i < 8) (hj : j < 8) (hij : i ≠ j) (ri : c 0 i = 1) (rj : c 0 j = 1) : F_X0_canTie c (nI i) (nI j) = some 1 := by
  have run : ∀ k, k < 8 → c 0 k = 1 → F_X0_hasRunner c (nI k) = some 1 := by
    intro k hk rk
    unfold F_X0_hasRunner
    have n1 : ¬ nI k < (0 : Int32) := fun q => absurd ((nI_ltI (b := 0) (by omega) (by omega)).mp q) (by omega)
    have n2 : ¬ (8 : Int32) ≤ nI k := fun q => absurd ((nI_leI (a := 8) (by omega) (by omega)).mp q) (by omega)
    rw [if_neg n1, if_neg n2, ck_ok hk (by omega), nI_cl (by omega), rk, if_neg i10]
  unfold F_X0_canTie
  have n0 : ¬ nI i = nI j := fun q => hij ((nI_eq (by omega) (by omega)).mp q)
  rw [if_neg n0, run i hi ri, run j hj rj]
  simp only [Option.bind_some, if_neg i10]
theorem tie_ok {c : Ob} {i j : Nat} (hi : i < 8) (hj : j < 8) (hij : i ≠ j) (ri : c 0 i = 1) (rj : c 0 j = 1) (ow : Ob) : ∃ w : Ob, F_X4_tie ow c (nI i) (nI j) = some w ∧ WS (pij c i j) (pij c i j 0) (pij c i j 1) s0 0 w := by
  unfold F_X4_tie
  rw [can_ok hi hj hij ri rj]
  simp only [Option.bind_some, if_neg i10, ck_ok hi (show 8 < 2000000000 by omega), ck_ok hj (show 8 < 2000000000 by omega), dd, nI_cl (show i < 2000000000 by omega), nI_cl (show j < 2000000000 by omega)]
  have e4 : (if c 2 j < c 2 i then c 2 j else c 2 i) = iI (pij c i j 4) := by
    show _ = iI (if (c 2 j).toInt < (c 2 i).toInt then (c 2 j).toInt else (c 2 i).toInt)
    by_cases h : c 2 j < c 2 i
    · rw [if_pos h, if_pos (Int32.lt_iff_toInt_lt.mp h), iI_of]
    · rw [if_neg h, if_neg (fun q => h (Int32.lt_iff_toInt_lt.mpr q)), iI_of]
  rw [e4]
  refine ⟨_, rfl, ?_, ?_, fun k h2 h8 => ?_, ?_, ?_, ?_, ?_, ?_, ?_⟩
  · simp only [sO_at, cst_at, Nat.reduceEqDiff, reduceIte, reduceCtorEq, Nat.succ_ne_self, Nat.one_ne_zero, Nat.zero_ne_one]
    exact (iI_of _).symm
  · simp only [sO_at, cst_at, Nat.reduceEqDiff, reduceIte, reduceCtorEq, Nat.succ_ne_self, Nat.one_ne_zero, Nat.zero_ne_one]
    exact (iI_of _).symm
  · rcases (show k = 2 ∨ k = 3 ∨ k = 4 ∨ k = 5 ∨ k = 6 ∨ k = 7 by omega) with rfl | rfl | rfl | rfl | rfl | rfl <;>
    · simp only [sO_at, cst_at, Nat.reduceEqDiff, reduceIte, reduceCtorEq, Nat.succ_ne_self, Nat.one_ne_zero, Nat.zero_ne_one] <;> first | rfl | exact (iI_of _).symm
  all_goals simp only [sO_at, cst_at, Nat.reduceEqDiff, reduceIte, reduceCtorEq, Nat.succ_ne_self, Nat.one_ne_zero, Nat.zero_ne_one]
  all_goals rfl
theorem lay_ok {c om : Ob} (hC : Cr c om) {i j : Nat} (hi : i < 8) (hj : j < 8) : ∃ m : Ob, F_X6_layPair om (nI i) (nI j) = some m ∧ MP (pij c i j) 1000 m ∧ ∀ k, k < 7 ∨ 14 ≤ k → m k = om k := by
  obtain ⟨mask, hm, hr, hb, ha, hg, c4, c5, c6, -⟩ := hC
  unfold F_X6_layPair
  simp only [ck_ok hi (show 8 < 2000000000 by omega), ck_ok hj (show 8 < 2000000000 by omega), dd, nI_cl (show i < 2000000000 by omega), nI_cl (show j < 2000000000 by omega), jn_if]
  simp only [sO_at, cst_at, Nat.reduceEqDiff, reduceIte, reduceCtorEq, Nat.succ_ne_self, Nat.one_ne_zero, Nat.zero_ne_one]
  rw [← (ha i hi).1, ← (ha j hj).1, ← (ha i hi).2.1, ← (ha j hj).2.1, ← (ha i hi).2.2, ← (ha j hj).2.2, ← c4]
  have e4 : (if c 2 j ≤ c 2 i then c 2 j else c 2 i) = iI (pij c i j 4) := by
    show _ = iI (if (c 2 j).toInt < (c 2 i).toInt then (c 2 j).toInt else (c 2 i).toInt)
    by_cases h : c 2 j < c 2 i
    · rw [if_pos (by rw [Int32.le_iff_toInt_le]; rw [Int32.lt_iff_toInt_lt] at h; omega), if_pos (Int32.lt_iff_toInt_lt.mp h), iI_of]
    · rw [if_neg (fun q => h (Int32.lt_iff_toInt_lt.mpr q)), iI_of]
      by_cases h2 : c 2 j ≤ c 2 i
      · rw [if_pos h2, ← Int32.toInt_inj]
        rw [Int32.le_iff_toInt_le] at h2
        rw [Int32.lt_iff_toInt_lt] at h
        omega
      · rw [if_neg h2]
  rw [e4]
  refine ⟨_, rfl, ⟨?_, ?_, ?_, ?_, ?_, ?_, ?_, ?_, ?_⟩, fun k hk => ?_⟩
  · simp only [sO_at, cst_at, Nat.reduceEqDiff, reduceIte, reduceCtorEq, Nat.succ_ne_self, Nat.one_ne_zero, Nat.zero_ne_one]; exact (iI_of _).symm
  · simp only [sO_at, cst_at, Nat.reduceEqDiff, reduceIte, reduceCtorEq, Nat.succ_ne_self, Nat.one_ne_zero, Nat.zero_ne_one]; exact (iI_of _).symm
  · simp only [sO_at, cst_at, Nat.reduceEqDiff, reduceIte, reduceCtorEq, Nat.succ_ne_self, Nat.one_ne_zero, Nat.zero_ne_one]; exact (iI_of _).symm
  · simp only [sO_at, cst_at, Nat.reduceEqDiff, reduceIte, reduceCtorEq, Nat.succ_ne_self, Nat.one_ne_zero, Nat.zero_ne_one]; exact (iI_of _).symm
  · simp only [sO_at, cst_at, Nat.reduceEqDiff, reduceIte, reduceCtorEq, Nat.succ_ne_self, Nat.one_ne_zero, Nat.zero_ne_one]
  · simp only [sO_at, cst_at, Nat.reduceEqDiff, reduceIte, reduceCtorEq, Nat.succ_ne_self, Nat.one_ne_zero, Nat.zero_ne_one]; rfl
  · simp only [sO_at, cst_at, Nat.reduceEqDiff, reduceIte, reduceCtorEq, Nat.succ_ne_self, Nat.one_ne_zero, Nat.zero_ne_one]; exact (iI_of _).symm
  · simp only [sO_at, cst_at, Nat.reduceEqDiff, reduceIte, reduceCtorEq, Nat.succ_ne_self, Nat.one_ne_zero, Nat.zero_ne_one]; rw [← c5]; exact (iI_of _).symm
  · simp only [sO_at, cst_at, Nat.reduceEqDiff, reduceIte, reduceCtorEq, Nat.succ_ne_self, Nat.one_ne_zero, Nat.zero_ne_one]; rw [← c6]; exact (iI_of _).symm
  · rw [sO_ne _ _ _ _ (by omega), sO_ne _ _ _ _ (by omega), sO_ne _ _ _ _ (by omega), sO_ne _ _ _ _ (by omega), sO_ne _ _ _ _ (by omega), sO_ne _ _ _ _ (by omega), sO_ne _ _ _ _ (by omega)]
theorem begin_ok {p : Nat → Int} {qf : Nat} {m : Ob} (h : MP p qf m) : ∃ m' : Ob, F_X6_begin m = some m' ∧ MS p qf s0 0 m' ∧ ∀ k, k < 14 ∨ 20 ≤ k → m' k = m k := by
  unfold F_X6_begin
  simp only [dd]
  have fr : ∀ k, k < 14 ∨ 20 ≤ k → (sO (sO (sO (sO (sO (sO m 14 (cst 0)) 15 (cst 0)) 16 (cst 0)) 17 (cst 0)) 18 (cst 0)) 19 (cst 0)) k = m k := fun k hk => by
    rw [sO_ne _ _ _ _ (by omega), sO_ne _ _ _ _ (by omega), sO_ne _ _ _ _ (by omega), sO_ne _ _ _ _ (by omega), sO_ne _ _ _ _ (by omega), sO_ne _ _ _ _ (by omega)]
  refine ⟨_, rfl, ⟨?_, ?_, ?_, ?_, ?_, ?_, ?_⟩, fr⟩
  · rw [fr 7 (by omega), fr 8 (by omega), fr 9 (by omega), fr 10 (by omega), fr 11 (by omega), fr 12 (by omega), fr 13 (by omega), fr 5 (by omega), fr 6 (by omega)]
    exact h
  all_goals simp only [sO_at, cst_at, Nat.reduceEqDiff, reduceIte, reduceCtorEq, Nat.succ_ne_self, Nat.one_ne_zero, Nat.zero_ne_one]
  all_goals rfl
