/-! tied: the finite facts. -/
def bl (mask : Nat) : List Nat := (List.range 8).filter (fun i => mask.testBit i)
def ela (mask : Nat) : Nat := (bl mask).getD 0 0
def elb (mask d : Nat) : Nat := (bl mask).getD d 0
def nxm (mask d : Nat) : Nat := mask - 2 ^ (ela mask) - 2 ^ (elb mask d)
def elo (mask d : Nat) : Bool := if d = 0 then true else if (bl mask).length ≤ d then true else
  Nat.blt (ela mask) 8 && (Nat.blt (elb mask d) 8 && (!(Nat.beq (ela mask) (elb mask d)) && (mask.testBit (ela mask) && (mask.testBit (elb mask d) && (Nat.blt (nxm mask d) 256 && ((bl (nxm mask d) == ((bl mask).eraseIdx d).eraseIdx 0) && (Nat.blt (mask &&& (255 - 2 ^ (ela mask))) 256 && Nat.beq ((mask &&& (255 - 2 ^ (ela mask))) &&& (255 - 2 ^ (elb mask d))) (nxm mask d))))))))
theorem elo_dec : ∀ mask, mask < 256 → ∀ d, d < 8 → elo mask d = true := by decide +kernel
theorem el_dec {mask : Nat} (hm : mask < 256) {d : Nat} (h8 : d < 8) (h1 : 1 ≤ d) (hd : d < (bl mask).length) : ela mask < 8 ∧ elb mask d < 8 ∧ ela mask ≠ elb mask d ∧ mask.testBit (ela mask) = true ∧ mask.testBit (elb mask d) = true ∧ nxm mask d < 256 ∧ bl (nxm mask d) = ((bl mask).eraseIdx d).eraseIdx 0 ∧ (mask &&& (255 - 2 ^ (ela mask))) < 256 ∧ (mask &&& (255 - 2 ^ (ela mask))) &&& (255 - 2 ^ (elb mask d)) = nxm mask d := by
  have h := elo_dec mask hm d h8
  unfold elo at h
  rw [if_neg (by omega), if_neg (by omega)] at h
  simp only [Bool.and_eq_true] at h
  obtain ⟨q1, q2, q3, q4, q5, q6, q7, q8, q9⟩ := h
  refine ⟨Nat.le_of_ble_eq_true q1, Nat.le_of_ble_eq_true q2, ?_, q4, q5, Nat.le_of_ble_eq_true q6, eq_of_beq q7, Nat.le_of_ble_eq_true q8, Nat.eq_of_beq_eq_true q9⟩
  intro e
  rw [e, Nat.beq_refl] at q3
  exact absurd q3 (by decide)
theorem bl_dec : ∀ mask, mask < 256 → (bl mask).length ≤ 8 ∧ F_X6_ones (nI mask) = some (nI (bl mask).length) ∧ (mask ≠ 0 → F_X6_ones (nI (mask &&& (255 - 2 ^ (ela mask)))) = some (nI ((bl mask).length - 1))) ∧ ((bl mask).length = 0 → mask = 0) ∧ (mask = 0 → (bl mask).length = 0) ∧ (mask ≠ 0 → ela mask < 8) := by decide +kernel
theorem t18_K : ∀ (f : Nat) (m v : Int32) (K : Int32 → Option Ob), L_X6_tie_18 f m v K = ((L_X6_tie_18 f m v (fun z => some (fun _ _ => z))).map (fun o => o 0 0)).bind K := by
  intro f
  induction f with
  | zero => intro m v K; rfl
  | succ f ih =>
    intro m v K
    rw [L_X6_tie_18.eq_2, L_X6_tie_18.eq_2]
    simp only [dd]
    by_cases c : (m >>> (v &&& 31)) &&& 1 = 0
    · rw [if_pos c, if_pos c]
      exact ih _ _ _
    · rw [if_neg c, if_neg c]
      rfl
theorem t71_K : ∀ (f : Nat) (m u v : Int32) (K : Int32 → Option Ob), L_X6_tie_71 f m u v K = ((L_X6_tie_71 f m u v (fun z => some (fun _ _ => z))).map (fun o => o 0 0)).bind K := by
  intro f
  induction f with
  | zero => intro m u v K; rfl
  | succ f ih =>
    intro m u v K
    rw [L_X6_tie_71.eq_2, L_X6_tie_71.eq_2]
    simp only [dd, jn]
    by_cases c : (m >>> (v &&& 31)) &&& 1 = 0
    · rw [if_pos c, if_pos c]
      exact ih _ _ _ _
    · rw [if_neg c, if_neg c]
      by_cases d : u ≤ 0
      · rw [if_pos d, if_pos d]
        rfl
      · rw [if_neg d, if_neg d]
        exact ih _ _ _ _
theorem t18_dec : ∀ mask, mask < 256 → mask ≠ 0 → (L_X6_tie_18 2000 (nI mask) 0 (fun z => some (fun _ _ => z))).map (fun o => o 0 0) = some (nI (ela mask)) := by decide +kernel
theorem t71_dec : ∀ mask, mask < 256 → ∀ d, d < 7 → d + 1 < (bl mask).length → (L_X6_tie_71 2000 (nI (mask &&& (255 - 2 ^ (ela mask)))) (nI d) (nI (ela mask + 1)) (fun z => some (fun _ _ => z))).map (fun o => o 0 0) = some (nI (elb mask (d + 1))) := by decide +kernel
/-- the pairs of the knot with this number -/
def pr : Nat → Nat → Nat → Nat → List (Nat × Nat)
  | 0, _, _, _ => []
  | f + 1, mask, num, ways => if mask = 0 then [] else (ela mask, elb mask (num / (ways / ((bl mask).length - 1)) + 1)) :: pr f (nxm mask (num / (ways / ((bl mask).length - 1)) + 1)) (num % (ways / ((bl mask).length - 1))) (ways / ((bl mask).length - 1))
def mt (P : List (Nat × Nat)) (i : Nat) : Nat := match P with
  | [] => 0
  | (a, b) :: r => if i = a then b else if i = b then a else mt r i
def wy (n : Nat) : Nat := if n = 8 then 105 else if n = 6 then 15 else if n = 4 then 3 else 1
def scan (mask : Nat) (P : List (Nat × Nat)) : Nat → Nat → List (Nat × Nat)
  | 0, _ => []
  | f + 1, i => if mask.testBit i then (if mt P i ≤ i then scan mask P f (i + 1) else (i, mt P i) :: scan mask P f (i + 1)) else scan mask P f (i + 1)
def pro (mask k : Nat) : Bool := (scan mask (pr 4 mask k (wy (bl mask).length)) 8 0 == pr 4 mask k (wy (bl mask).length)) && (List.range 8).all (fun i => Nat.blt (mt (pr 4 mask k (wy (bl mask).length)) i) 8)
def prall (mask : Nat) : Bool := if (bl mask).length % 2 = 0 then (List.range (wy (bl mask).length)).all (fun k => pro mask k) else true
theorem pro_dec : ∀ mask, mask < 256 → prall mask = true := by decide +kernel
theorem pr_dec {mask : Nat} (hm : mask < 256) (he : (bl mask).length % 2 = 0) {k : Nat} (hk : k < wy (bl mask).length) : scan mask (pr 4 mask k (wy (bl mask).length)) 8 0 = pr 4 mask k (wy (bl mask).length) ∧ ∀ i, i < 8 → mt (pr 4 mask k (wy (bl mask).length)) i < 8 := by
  have h := pro_dec mask hm
  unfold prall at h
  rw [if_pos he, List.all_eq_true] at h
  have h2 := h k (List.mem_range.mpr hk)
  unfold pro at h2
  rw [Bool.and_eq_true, List.all_eq_true] at h2
  exact ⟨eq_of_beq h2.1, fun i hi => Nat.le_of_ble_eq_true (h2.2 i (List.mem_range.mpr hi))⟩
def dig : Nat → Nat → Nat → Nat → Nat
  | 0, n, num, ways => num / (ways / (n - 1)) + 1
  | i + 1, n, num, ways => dig i (n - 2) (num % (ways / (n - 1))) (ways / (n - 1))
def nxp : Nat → Nat → (Nat → Nat) → Option (Nat → Nat)
  | 0, _, _ => none
  | c + 1, n, p => if n - 2 * c - 1 ≤ p c then nxp c n (fun i => if i = c then 1 else p i) else some (fun i => if i = c then p c + 1 else p i)
def nxo (n k : Nat) : Bool := (match nxp (n / 2) n (fun j => dig j n k (wy n)) with
  | none => Nat.beq (k + 1) (wy n)
  | some q => Nat.blt (k + 1) (wy n) && (List.range 4).all (fun j => Nat.beq (q j) (dig j n (k + 1) (wy n)))) && (List.range 4).all (fun j => Nat.ble 1 (dig j n k (wy n)) && Nat.ble (dig j n k (wy n)) 8)
def nxall (n : Nat) : Bool := (List.range (wy n)).all (fun k => nxo n k)
theorem nx_dec : nxall 2 = true ∧ nxall 4 = true ∧ nxall 6 = true ∧ nxall 8 = true := by decide +kernel
