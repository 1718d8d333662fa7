/-! What holds between the class's objects and the reference's, ahead of each call. -/
/-- the bits of who runs -/
def CrT (c : Ob) (run lu fa up : Int32) (b g h : Nat → Int32) : Prop :=
  ∃ mask : Nat, mask < 256 ∧ run = nI mask ∧ (∀ i, i < 8 → c 0 i = if mask.testBit i then 1 else 0) ∧
    (∀ i, i < 8 → c 1 i = b i ∧ c 2 i = g i ∧ c 3 i = h i) ∧
    (∀ i, i < 8 → mask.testBit i = true → (∃ n : Nat, 4 ≤ n ∧ n ≤ 20 ∧ b i = nI n) ∧ (∃ n : Nat, 1 ≤ n ∧ n ≤ 9 ∧ g i = nI n) ∧ (∃ n : Nat, n ≤ 4 ∧ h i = nI n)) ∧
    c 4 0 = lu ∧ c 5 0 = fa ∧ c 6 0 = up ∧ ∃ l f u : Nat, lu = nI l ∧ fa = nI f ∧ up = nI u ∧ l ≤ 9 ∧ l ≤ f ∧ f ≤ 20 ∧ u ≤ 99
/-- the crowd as the reference keeps it -/
def Cr (c om : Ob) : Prop := CrT c (om 0 0) (om 4 0) (om 5 0) (om 6 0) (om 1) (om 2) (om 3)
/-- an image as the reference keeps it, from place o on -/
def Im (c om : Ob) (o : Nat) : Prop := CrT c (om 29 o) (om 29 (o + 1)) (om 29 (o + 2)) (om 29 (o + 3)) (fun i => om 29 (o + 4 + 3 * i)) (fun i => om 29 (o + 5 + 3 * i)) (fun i => om 29 (o + 6 + 3 * i))
/-- the pad -/
def Pd (f om : Ob) : Prop := ∃ n : Nat, n ≤ 40 ∧ f 1 0 = nI n ∧ om 28 0 = nI n ∧ ∀ i, i < n → f 0 i = om 27 i
def Inv (oc oy oz : Ob) (ok : Nat → Int32) (of om : Ob) : Prop :=
  Cr oc om ∧ Pd of om ∧ (∀ i, i < 2 → ok i = om 30 i) ∧ (ok 0 = 0 ∨ ok 0 = 1 ∧ Im oy om 0) ∧ (ok 1 = 0 ∨ ok 1 = 1 ∧ Im oz om 40)
