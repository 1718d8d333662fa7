section
-- ===== PART A: goes FIRST, ahead of the names: the tables' words, and 'selects' of the private methods out of them =====
/-- a private method of a class that the tables say can be made, by its rows of tables_1 -/
def lw_okq (q : MethodName × Nat) : Prop := (q.1.cls ≠ "java/lang/invoke/MethodHandle" ∧ q.1.cls ≠ "java/lang/invoke/VarHandle") ∧ Cond.instantiable q.1.cls q.2 ∈ tables_1 ∧ Cond.privateMethod q.1 ∈ tables_1 ∧ Cond.instanceMethod q.1 ∈ tables_1
theorem lw_p0 : lw_okq (⟨"ThreeLegs", "setLurch", "(I)I"⟩, 8) := ⟨⟨by decide +kernel, by decide +kernel⟩, List.mem_of_getElem? (i := 12) (by decide +kernel), List.mem_of_getElem? (i := 247) (by decide +kernel), List.mem_of_getElem? (i := 248) (by decide +kernel)⟩
theorem lw_p1 : lw_okq (⟨"ThreeLegs", "setFall", "(I)I"⟩, 8) := ⟨⟨by decide +kernel, by decide +kernel⟩, List.mem_of_getElem? (i := 12) (by decide +kernel), List.mem_of_getElem? (i := 251) (by decide +kernel), List.mem_of_getElem? (i := 252) (by decide +kernel)⟩
theorem lw_p2 : lw_okq (⟨"ThreeLegs", "setUp", "(I)I"⟩, 8) := ⟨⟨by decide +kernel, by decide +kernel⟩, List.mem_of_getElem? (i := 12) (by decide +kernel), List.mem_of_getElem? (i := 255) (by decide +kernel), List.mem_of_getElem? (i := 256) (by decide +kernel)⟩
theorem lw_p3 : lw_okq (⟨"ThreeLegs", "refusalOfRace", "(IIII)I"⟩, 8) := ⟨⟨by decide +kernel, by decide +kernel⟩, List.mem_of_getElem? (i := 12) (by decide +kernel), List.mem_of_getElem? (i := 298) (by decide +kernel), List.mem_of_getElem? (i := 299) (by decide +kernel)⟩
theorem lw_p4 : lw_okq (⟨"ThreeLegs", "timeTo", "(III)I"⟩, 8) := ⟨⟨by decide +kernel, by decide +kernel⟩, List.mem_of_getElem? (i := 12) (by decide +kernel), List.mem_of_getElem? (i := 305) (by decide +kernel), List.mem_of_getElem? (i := 306) (by decide +kernel)⟩
theorem lw_p5 : lw_okq (⟨"ThreeLegs$Walk", "speedUp", "()V"⟩, 16) := ⟨⟨by decide +kernel, by decide +kernel⟩, List.mem_of_getElem? (i := 77) (by decide +kernel), List.mem_of_getElem? (i := 313) (by decide +kernel), List.mem_of_getElem? (i := 314) (by decide +kernel)⟩
theorem lw_p6 : lw_okq (⟨"ThreeLegs", "timeAllPairs", "(I)V"⟩, 8) := ⟨⟨by decide +kernel, by decide +kernel⟩, List.mem_of_getElem? (i := 12) (by decide +kernel), List.mem_of_getElem? (i := 335) (by decide +kernel), List.mem_of_getElem? (i := 336) (by decide +kernel)⟩
theorem lw_p7 : lw_okq (⟨"ThreeLegs$Knots", "costOfPicks", "(LThreeLegs$Crowd;[IZ)I"⟩, 6) := ⟨⟨by decide +kernel, by decide +kernel⟩, List.mem_of_getElem? (i := 139) (by decide +kernel), List.mem_of_getElem? (i := 345) (by decide +kernel), List.mem_of_getElem? (i := 346) (by decide +kernel)⟩
theorem lw_p8 : lw_okq (⟨"ThreeLegs$Knots", "lineUp", "(LThreeLegs$Crowd;)I"⟩, 6) := ⟨⟨by decide +kernel, by decide +kernel⟩, List.mem_of_getElem? (i := 139) (by decide +kernel), List.mem_of_getElem? (i := 349) (by decide +kernel), List.mem_of_getElem? (i := 350) (by decide +kernel)⟩
theorem lw_p9 : lw_okq (⟨"ThreeLegs$Knots", "takeOut", "(II)V"⟩, 6) := ⟨⟨by decide +kernel, by decide +kernel⟩, List.mem_of_getElem? (i := 139) (by decide +kernel), List.mem_of_getElem? (i := 356) (by decide +kernel), List.mem_of_getElem? (i := 357) (by decide +kernel)⟩
theorem lw_p10 : lw_okq (⟨"ThreeLegs$Knots", "goToNextPicks", "()Z"⟩, 6) := ⟨⟨by decide +kernel, by decide +kernel⟩, List.mem_of_getElem? (i := 139) (by decide +kernel), List.mem_of_getElem? (i := 363) (by decide +kernel), List.mem_of_getElem? (i := 364) (by decide +kernel)⟩
theorem lw_p11 : lw_okq (⟨"ThreeLegs", "standsWith", "(IIIII)Z"⟩, 8) := ⟨⟨by decide +kernel, by decide +kernel⟩, List.mem_of_getElem? (i := 12) (by decide +kernel), List.mem_of_getElem? (i := 403) (by decide +kernel), List.mem_of_getElem? (i := 404) (by decide +kernel)⟩
theorem lw_p12 : lw_okq (⟨"ThreeLegs", "firstUnlike", "(II)I"⟩, 8) := ⟨⟨by decide +kernel, by decide +kernel⟩, List.mem_of_getElem? (i := 12) (by decide +kernel), List.mem_of_getElem? (i := 444) (by decide +kernel), List.mem_of_getElem? (i := 445) (by decide +kernel)⟩
theorem lw_p13 : lw_okq (⟨"ThreeLegs", "toldOfPerson", "(II)I"⟩, 8) := ⟨⟨by decide +kernel, by decide +kernel⟩, List.mem_of_getElem? (i := 12) (by decide +kernel), List.mem_of_getElem? (i := 478) (by decide +kernel), List.mem_of_getElem? (i := 479) (by decide +kernel)⟩
theorem lw_p14 : lw_okq (⟨"ThreeLegsModel", "runs", "(I)Z"⟩, 33) := ⟨⟨by decide +kernel, by decide +kernel⟩, List.mem_of_getElem? (i := 482) (by decide +kernel), List.mem_of_getElem? (i := 606) (by decide +kernel), List.mem_of_getElem? (i := 607) (by decide +kernel)⟩
theorem lw_p15 : lw_okq (⟨"ThreeLegsModel", "isPair", "(II)Z"⟩, 33) := ⟨⟨by decide +kernel, by decide +kernel⟩, List.mem_of_getElem? (i := 482) (by decide +kernel), List.mem_of_getElem? (i := 619) (by decide +kernel), List.mem_of_getElem? (i := 620) (by decide +kernel)⟩
def lw_privs_1 : List (MethodName × Nat) := [(⟨"ThreeLegs", "setLurch", "(I)I"⟩, 8), (⟨"ThreeLegs", "setFall", "(I)I"⟩, 8), (⟨"ThreeLegs", "setUp", "(I)I"⟩, 8), (⟨"ThreeLegs", "refusalOfRace", "(IIII)I"⟩, 8), (⟨"ThreeLegs", "timeTo", "(III)I"⟩, 8), (⟨"ThreeLegs$Walk", "speedUp", "()V"⟩, 16), (⟨"ThreeLegs", "timeAllPairs", "(I)V"⟩, 8), (⟨"ThreeLegs$Knots", "costOfPicks", "(LThreeLegs$Crowd;[IZ)I"⟩, 6), (⟨"ThreeLegs$Knots", "lineUp", "(LThreeLegs$Crowd;)I"⟩, 6), (⟨"ThreeLegs$Knots", "takeOut", "(II)V"⟩, 6), (⟨"ThreeLegs$Knots", "goToNextPicks", "()Z"⟩, 6), (⟨"ThreeLegs", "standsWith", "(IIIII)Z"⟩, 8), (⟨"ThreeLegs", "firstUnlike", "(II)I"⟩, 8), (⟨"ThreeLegs", "toldOfPerson", "(II)I"⟩, 8), (⟨"ThreeLegsModel", "runs", "(I)Z"⟩, 33), (⟨"ThreeLegsModel", "isPair", "(II)Z"⟩, 33)]
theorem lw_r1 : ∀ q ∈ lw_privs_1, lw_okq q := List.forall_mem_cons.mpr ⟨lw_p0, List.forall_mem_cons.mpr ⟨lw_p1, List.forall_mem_cons.mpr ⟨lw_p2, List.forall_mem_cons.mpr ⟨lw_p3, List.forall_mem_cons.mpr ⟨lw_p4, List.forall_mem_cons.mpr ⟨lw_p5, List.forall_mem_cons.mpr ⟨lw_p6, List.forall_mem_cons.mpr ⟨lw_p7, List.forall_mem_cons.mpr ⟨lw_p8, List.forall_mem_cons.mpr ⟨lw_p9, List.forall_mem_cons.mpr ⟨lw_p10, List.forall_mem_cons.mpr ⟨lw_p11, List.forall_mem_cons.mpr ⟨lw_p12, List.forall_mem_cons.mpr ⟨lw_p13, List.forall_mem_cons.mpr ⟨lw_p14, List.forall_mem_cons.mpr ⟨lw_p15, fun _ h => absurd h List.not_mem_nil⟩⟩⟩⟩⟩⟩⟩⟩⟩⟩⟩⟩⟩⟩⟩⟩
theorem lw_p16 : lw_okq (⟨"ThreeLegsModel", "layPair", "(II)V"⟩, 33) := ⟨⟨by decide +kernel, by decide +kernel⟩, List.mem_of_getElem? (i := 482) (by decide +kernel), List.mem_of_getElem? (i := 624) (by decide +kernel), List.mem_of_getElem? (i := 625) (by decide +kernel)⟩
theorem lw_p17 : lw_okq (⟨"ThreeLegsModel", "begin", "()V"⟩, 33) := ⟨⟨by decide +kernel, by decide +kernel⟩, List.mem_of_getElem? (i := 482) (by decide +kernel), List.mem_of_getElem? (i := 628) (by decide +kernel), List.mem_of_getElem? (i := 629) (by decide +kernel)⟩
theorem lw_p18 : lw_okq (⟨"ThreeLegsModel", "step", "()V"⟩, 33) := ⟨⟨by decide +kernel, by decide +kernel⟩, List.mem_of_getElem? (i := 482) (by decide +kernel), List.mem_of_getElem? (i := 632) (by decide +kernel), List.mem_of_getElem? (i := 633) (by decide +kernel)⟩
theorem lw_p19 : lw_okq (⟨"ThreeLegsModel", "quicker", "(I)I"⟩, 33) := ⟨⟨by decide +kernel, by decide +kernel⟩, List.mem_of_getElem? (i := 482) (by decide +kernel), List.mem_of_getElem? (i := 636) (by decide +kernel), List.mem_of_getElem? (i := 637) (by decide +kernel)⟩
theorem lw_p20 : lw_okq (⟨"ThreeLegsModel", "time", "()I"⟩, 33) := ⟨⟨by decide +kernel, by decide +kernel⟩, List.mem_of_getElem? (i := 482) (by decide +kernel), List.mem_of_getElem? (i := 643) (by decide +kernel), List.mem_of_getElem? (i := 644) (by decide +kernel)⟩
theorem lw_p21 : lw_okq (⟨"ThreeLegsModel", "timeOf", "(I)I"⟩, 33) := ⟨⟨by decide +kernel, by decide +kernel⟩, List.mem_of_getElem? (i := 482) (by decide +kernel), List.mem_of_getElem? (i := 654) (by decide +kernel), List.mem_of_getElem? (i := 655) (by decide +kernel)⟩
theorem lw_p22 : lw_okq (⟨"ThreeLegsModel", "findTimes", "(I)V"⟩, 33) := ⟨⟨by decide +kernel, by decide +kernel⟩, List.mem_of_getElem? (i := 482) (by decide +kernel), List.mem_of_getElem? (i := 671) (by decide +kernel), List.mem_of_getElem? (i := 672) (by decide +kernel)⟩
theorem lw_p23 : lw_okq (⟨"ThreeLegsModel", "tie", "(II)V"⟩, 33) := ⟨⟨by decide +kernel, by decide +kernel⟩, List.mem_of_getElem? (i := 482) (by decide +kernel), List.mem_of_getElem? (i := 676) (by decide +kernel), List.mem_of_getElem? (i := 677) (by decide +kernel)⟩
theorem lw_p24 : lw_okq (⟨"ThreeLegsModel", "tiedBy", "(I)I"⟩, 33) := ⟨⟨by decide +kernel, by decide +kernel⟩, List.mem_of_getElem? (i := 482) (by decide +kernel), List.mem_of_getElem? (i := 680) (by decide +kernel), List.mem_of_getElem? (i := 681) (by decide +kernel)⟩
theorem lw_p25 : lw_okq (⟨"ThreeLegsModel", "beginTries", "()V"⟩, 33) := ⟨⟨by decide +kernel, by decide +kernel⟩, List.mem_of_getElem? (i := 482) (by decide +kernel), List.mem_of_getElem? (i := 691) (by decide +kernel), List.mem_of_getElem? (i := 692) (by decide +kernel)⟩
theorem lw_p26 : lw_okq (⟨"ThreeLegsModel", "tryOne", "(II)V"⟩, 33) := ⟨⟨by decide +kernel, by decide +kernel⟩, List.mem_of_getElem? (i := 482) (by decide +kernel), List.mem_of_getElem? (i := 695) (by decide +kernel), List.mem_of_getElem? (i := 696) (by decide +kernel)⟩
theorem lw_p27 : lw_okq (⟨"ThreeLegsModel", "tellBest", "(I)I"⟩, 33) := ⟨⟨by decide +kernel, by decide +kernel⟩, List.mem_of_getElem? (i := 482) (by decide +kernel), List.mem_of_getElem? (i := 699) (by decide +kernel), List.mem_of_getElem? (i := 700) (by decide +kernel)⟩
theorem lw_p28 : lw_okq (⟨"ThreeLegsModel", "fallsIn", "(I)Z"⟩, 33) := ⟨⟨by decide +kernel, by decide +kernel⟩, List.mem_of_getElem? (i := 482) (by decide +kernel), List.mem_of_getElem? (i := 715) (by decide +kernel), List.mem_of_getElem? (i := 716) (by decide +kernel)⟩
theorem lw_p29 : lw_okq (⟨"ThreeLegsModel", "judged", "(II)I"⟩, 33) := ⟨⟨by decide +kernel, by decide +kernel⟩, List.mem_of_getElem? (i := 482) (by decide +kernel), List.mem_of_getElem? (i := 747) (by decide +kernel), List.mem_of_getElem? (i := 748) (by decide +kernel)⟩
theorem lw_p30 : lw_okq (⟨"ThreeLegsModel", "passAll", "()V"⟩, 33) := ⟨⟨by decide +kernel, by decide +kernel⟩, List.mem_of_getElem? (i := 482) (by decide +kernel), List.mem_of_getElem? (i := 768) (by decide +kernel), List.mem_of_getElem? (i := 769) (by decide +kernel)⟩
theorem lw_p31 : lw_okq (⟨"ThreeLegsModel", "pass", "(I)I"⟩, 33) := ⟨⟨by decide +kernel, by decide +kernel⟩, List.mem_of_getElem? (i := 482) (by decide +kernel), List.mem_of_getElem? (i := 772) (by decide +kernel), List.mem_of_getElem? (i := 773) (by decide +kernel)⟩
def lw_privs_2 : List (MethodName × Nat) := [(⟨"ThreeLegsModel", "layPair", "(II)V"⟩, 33), (⟨"ThreeLegsModel", "begin", "()V"⟩, 33), (⟨"ThreeLegsModel", "step", "()V"⟩, 33), (⟨"ThreeLegsModel", "quicker", "(I)I"⟩, 33), (⟨"ThreeLegsModel", "time", "()I"⟩, 33), (⟨"ThreeLegsModel", "timeOf", "(I)I"⟩, 33), (⟨"ThreeLegsModel", "findTimes", "(I)V"⟩, 33), (⟨"ThreeLegsModel", "tie", "(II)V"⟩, 33), (⟨"ThreeLegsModel", "tiedBy", "(I)I"⟩, 33), (⟨"ThreeLegsModel", "beginTries", "()V"⟩, 33), (⟨"ThreeLegsModel", "tryOne", "(II)V"⟩, 33), (⟨"ThreeLegsModel", "tellBest", "(I)I"⟩, 33), (⟨"ThreeLegsModel", "fallsIn", "(I)Z"⟩, 33), (⟨"ThreeLegsModel", "judged", "(II)I"⟩, 33), (⟨"ThreeLegsModel", "passAll", "()V"⟩, 33), (⟨"ThreeLegsModel", "pass", "(I)I"⟩, 33)]
theorem lw_r2 : ∀ q ∈ lw_privs_2, lw_okq q := List.forall_mem_cons.mpr ⟨lw_p16, List.forall_mem_cons.mpr ⟨lw_p17, List.forall_mem_cons.mpr ⟨lw_p18, List.forall_mem_cons.mpr ⟨lw_p19, List.forall_mem_cons.mpr ⟨lw_p20, List.forall_mem_cons.mpr ⟨lw_p21, List.forall_mem_cons.mpr ⟨lw_p22, List.forall_mem_cons.mpr ⟨lw_p23, List.forall_mem_cons.mpr ⟨lw_p24, List.forall_mem_cons.mpr ⟨lw_p25, List.forall_mem_cons.mpr ⟨lw_p26, List.forall_mem_cons.mpr ⟨lw_p27, List.forall_mem_cons.mpr ⟨lw_p28, List.forall_mem_cons.mpr ⟨lw_p29, List.forall_mem_cons.mpr ⟨lw_p30, List.forall_mem_cons.mpr ⟨lw_p31, fun _ h => absurd h List.not_mem_nil⟩⟩⟩⟩⟩⟩⟩⟩⟩⟩⟩⟩⟩⟩⟩⟩
def lw_privs : List (MethodName × Nat) := lw_privs_1 ++ (lw_privs_2)
def lw_tbl : List Cond := k2_sels lw_privs ++ tables_1
theorem lw_privs_ok : ∀ q ∈ lw_privs, lw_okq q := by
  show ∀ q ∈ lw_privs_1 ++ (lw_privs_2), lw_okq q
  exact List.forall_mem_append.mpr ⟨lw_r1, lw_r2⟩
end
section
def RX0 : String := "ThreeLegs$Crowd"
def TX0 : u_T := fun k => match k with
  | 0 => ("ThreeLegs$Crowd", "runs", "[Z", true)
  | 1 => ("ThreeLegs$Crowd", "beat", "[I", true)
  | 2 => ("ThreeLegs$Crowd", "length", "[I", true)
  | 3 => ("ThreeLegs$Crowd", "give", "[I", true)
  | 4 => ("ThreeLegs$Crowd", "lurch", "I", false)
  | 5 => ("ThreeLegs$Crowd", "fall", "I", false)
  | _ => ("ThreeLegs$Crowd", "up", "I", false)
def tyX0 : Nat → FieldType := fun k => match k with
  | 0 => .array .boolean
  | 1 => .array .int
  | 2 => .array .int
  | 3 => .array .int
  | 4 => .int
  | 5 => .int
  | _ => .int
theorem nmX0 : ∀ a, a < 7 → ∀ b, b < 7 → a ≠ b → (TX0 a).2.1 ≠ (TX0 b).2.1 := by decide +kernel
theorem tyX0_ok : ∀ k, k < 7 → parseFieldDescriptor (TX0 k).2.2.1 = some (tyX0 k) := by decide +kernel
abbrev cX0_init : ByteArray := prog_2_method_1_code
def yX0_init : MethodName := ⟨RX0, "<init>", "()V"⟩
abbrev cX0_hasRunner : ByteArray := prog_2_method_2_code
def yX0_hasRunner : MethodName := ⟨RX0, "hasRunner", "(I)Z"⟩
abbrev cX0_canTie : ByteArray := prog_2_method_3_code
def yX0_canTie : MethodName := ⟨RX0, "canTie", "(II)Z"⟩
abbrev cX0_enter : ByteArray := prog_2_method_4_code
def yX0_enter : MethodName := ⟨RX0, "enter", "(IIII)V"⟩
abbrev cX0_leave : ByteArray := prog_2_method_5_code
def yX0_leave : MethodName := ⟨RX0, "leave", "(I)V"⟩
abbrev cX0_count : ByteArray := prog_2_method_6_code
def yX0_count : MethodName := ⟨RX0, "count", "()I"⟩
abbrev cX0_bits : ByteArray := prog_2_method_7_code
def yX0_bits : MethodName := ⟨RX0, "bits", "()I"⟩
abbrev cX0_copyFrom : ByteArray := prog_2_method_8_code
def yX0_copyFrom : MethodName := ⟨RX0, "copyFrom", "(LThreeLegs$Crowd;)V"⟩
def RX1 : String := "ThreeLegs$Film"
def TX1 : u_T := fun k => match k with
  | 0 => ("ThreeLegs$Film", "signs", "[I", true)
  | _ => ("ThreeLegs$Film", "count", "I", false)
def tyX1 : Nat → FieldType := fun k => match k with
  | 0 => .array .int
  | _ => .int
theorem nmX1 : ∀ a, a < 2 → ∀ b, b < 2 → a ≠ b → (TX1 a).2.1 ≠ (TX1 b).2.1 := by decide +kernel
theorem tyX1_ok : ∀ k, k < 2 → parseFieldDescriptor (TX1 k).2.2.1 = some (tyX1 k) := by decide +kernel
abbrev cX1_init : ByteArray := prog_3_method_1_code
def yX1_init : MethodName := ⟨RX1, "<init>", "()V"⟩
abbrev cX1_add : ByteArray := prog_3_method_2_code
def yX1_add : MethodName := ⟨RX1, "add", "(I)V"⟩
abbrev cX1_firstFault : ByteArray := prog_3_method_3_code
def yX1_firstFault : MethodName := ⟨RX1, "firstFault", "()I"⟩
abbrev cX1_canShow : ByteArray := prog_3_method_4_code
def yX1_canShow : MethodName := ⟨RX1, "canShow", "(IC)Z"⟩
def RX2 : String := "ThreeLegs$Knots"
def TX2 : u_T := fun k => match k with
  | 0 => ("ThreeLegs$Knots", "picks", "[I", true)
  | 1 => ("ThreeLegs$Knots", "free", "[I", true)
  | 2 => ("ThreeLegs$Knots", "mate", "[I", true)
  | 3 => ("ThreeLegs$Knots", "bestMate", "[I", true)
  | 4 => ("ThreeLegs$Knots", "people", "I", false)
  | _ => ("ThreeLegs$Knots", "least", "I", false)
def tyX2 : Nat → FieldType := fun k => match k with
  | 0 => .array .int
  | 1 => .array .int
  | 2 => .array .int
  | 3 => .array .int
  | 4 => .int
  | _ => .int
theorem nmX2 : ∀ a, a < 6 → ∀ b, b < 6 → a ≠ b → (TX2 a).2.1 ≠ (TX2 b).2.1 := by decide +kernel
theorem tyX2_ok : ∀ k, k < 6 → parseFieldDescriptor (TX2 k).2.2.1 = some (tyX2 k) := by decide +kernel
abbrev cX2_init : ByteArray := prog_4_method_1_code
def yX2_init : MethodName := ⟨RX2, "<init>", "()V"⟩
abbrev cX2_seek : ByteArray := prog_4_method_2_code
def yX2_seek : MethodName := ⟨RX2, "seek", "(LThreeLegs$Crowd;[IZ)V"⟩
abbrev cX2_goToNextPicks : ByteArray := prog_4_method_3_code
def yX2_goToNextPicks : MethodName := ⟨RX2, "goToNextPicks", "()Z"⟩
abbrev cX2_costOfPicks : ByteArray := prog_4_method_4_code
def yX2_costOfPicks : MethodName := ⟨RX2, "costOfPicks", "(LThreeLegs$Crowd;[IZ)I"⟩
abbrev cX2_lineUp : ByteArray := prog_4_method_5_code
def yX2_lineUp : MethodName := ⟨RX2, "lineUp", "(LThreeLegs$Crowd;)I"⟩
abbrev cX2_takeOut : ByteArray := prog_4_method_6_code
def yX2_takeOut : MethodName := ⟨RX2, "takeOut", "(II)V"⟩
def RX3 : String := "ThreeLegs$Soonest"
def TX3 : u_T := fun k => match k with
  | 0 => ("ThreeLegs$Soonest", "time", "I", false)
  | _ => ("ThreeLegs$Soonest", "key", "I", false)
def tyX3 : Nat → FieldType := fun k => match k with
  | 0 => .int
  | _ => .int
theorem nmX3 : ∀ a, a < 2 → ∀ b, b < 2 → a ≠ b → (TX3 a).2.1 ≠ (TX3 b).2.1 := by decide +kernel
theorem tyX3_ok : ∀ k, k < 2 → parseFieldDescriptor (TX3 k).2.2.1 = some (tyX3 k) := by decide +kernel
abbrev cX3_init : ByteArray := prog_5_method_1_code
def yX3_init : MethodName := ⟨RX3, "<init>", "()V"⟩
abbrev cX3_clear : ByteArray := prog_5_method_2_code
def yX3_clear : MethodName := ⟨RX3, "clear", "()V"⟩
abbrev cX3_offer : ByteArray := prog_5_method_3_code
def yX3_offer : MethodName := ⟨RX3, "offer", "(II)V"⟩
abbrev cX3_answer : ByteArray := prog_5_method_4_code
def yX3_answer : MethodName := ⟨RX3, "answer", "(I)I"⟩
def RX4 : String := "ThreeLegs$Walk"
def TX4 : u_T := fun k => match k with
  | 0 => ("ThreeLegs$Walk", "firstBeat", "I", false)
  | 1 => ("ThreeLegs$Walk", "otherBeat", "I", false)
  | 2 => ("ThreeLegs$Walk", "firstGive", "I", false)
  | 3 => ("ThreeLegs$Walk", "otherGive", "I", false)
  | 4 => ("ThreeLegs$Walk", "stride", "I", false)
  | 5 => ("ThreeLegs$Walk", "lurch", "I", false)
  | 6 => ("ThreeLegs$Walk", "fall", "I", false)
  | 7 => ("ThreeLegs$Walk", "up", "I", false)
  | 8 => ("ThreeLegs$Walk", "firstTime", "I", false)
  | 9 => ("ThreeLegs$Walk", "otherTime", "I", false)
  | 10 => ("ThreeLegs$Walk", "steps", "I", false)
  | 11 => ("ThreeLegs$Walk", "feet", "I", false)
  | 12 => ("ThreeLegs$Walk", "lurches", "I", false)
  | 13 => ("ThreeLegs$Walk", "falls", "I", false)
  | 14 => ("ThreeLegs$Walk", "sign", "C", false)
  | _ => ("ThreeLegs$Walk", "firstWasEarlier", "Z", false)
def tyX4 : Nat → FieldType := fun k => match k with
  | 0 => .int
  | 1 => .int
  | 2 => .int
  | 3 => .int
  | 4 => .int
  | 5 => .int
  | 6 => .int
  | 7 => .int
  | 8 => .int
  | 9 => .int
  | 10 => .int
  | 11 => .int
  | 12 => .int
  | 13 => .int
  | 14 => .char
  | _ => .boolean
theorem nmX4 : ∀ a, a < 16 → ∀ b, b < 16 → a ≠ b → (TX4 a).2.1 ≠ (TX4 b).2.1 := by decide +kernel
theorem tyX4_ok : ∀ k, k < 16 → parseFieldDescriptor (TX4 k).2.2.1 = some (tyX4 k) := by decide +kernel
abbrev cX4_init : ByteArray := prog_6_method_1_code
def yX4_init : MethodName := ⟨RX4, "<init>", "()V"⟩
abbrev cX4_tie : ByteArray := prog_6_method_2_code
def yX4_tie : MethodName := ⟨RX4, "tie", "(LThreeLegs$Crowd;II)V"⟩
abbrev cX4_beatBoth : ByteArray := prog_6_method_3_code
def yX4_beatBoth : MethodName := ⟨RX4, "beatBoth", "(I)V"⟩
abbrev cX4_give : ByteArray := prog_6_method_4_code
def yX4_give : MethodName := ⟨RX4, "give", "(II)V"⟩
abbrev cX4_speedUp : ByteArray := prog_6_method_5_code
def yX4_speedUp : MethodName := ⟨RX4, "speedUp", "()V"⟩
abbrev cX4_time : ByteArray := prog_6_method_6_code
def yX4_time : MethodName := ⟨RX4, "time", "()I"⟩
abbrev cX4_apart : ByteArray := prog_6_method_7_code
def yX4_apart : MethodName := ⟨RX4, "apart", "()I"⟩
abbrev cX4_step : ByteArray := prog_6_method_8_code
def yX4_step : MethodName := ⟨RX4, "step", "()V"⟩
abbrev cX4_timeTo : ByteArray := prog_6_method_9_code
def yX4_timeTo : MethodName := ⟨RX4, "timeTo", "(II)I"⟩
abbrev cX4_standsFor : ByteArray := prog_6_method_10_code
def yX4_standsFor : MethodName := ⟨RX4, "standsFor", "(I)Z"⟩
abbrev cX4_feetWithin : ByteArray := prog_6_method_11_code
def yX4_feetWithin : MethodName := ⟨RX4, "feetWithin", "(I)I"⟩
def RX5 : String := "ThreeLegs"
def TX5 : u_T := fun k => match k with
  | 0 => ("ThreeLegs", "crowd", "LThreeLegs$Crowd;", true)
  | 1 => ("ThreeLegs", "images", "[LThreeLegs$Crowd;", true)
  | 2 => ("ThreeLegs", "isKept", "[Z", true)
  | 3 => ("ThreeLegs", "film", "LThreeLegs$Film;", true)
  | 4 => ("ThreeLegs", "walk", "LThreeLegs$Walk;", true)
  | 5 => ("ThreeLegs", "knots", "LThreeLegs$Knots;", true)
  | 6 => ("ThreeLegs", "soonest", "LThreeLegs$Soonest;", true)
  | _ => ("ThreeLegs", "times", "[I", true)
def tyX5 : Nat → FieldType := fun k => match k with
  | 0 => .object "ThreeLegs$Crowd"
  | 1 => .array (.object "ThreeLegs$Crowd")
  | 2 => .array .boolean
  | 3 => .object "ThreeLegs$Film"
  | 4 => .object "ThreeLegs$Walk"
  | 5 => .object "ThreeLegs$Knots"
  | 6 => .object "ThreeLegs$Soonest"
  | _ => .array .int
theorem nmX5 : ∀ a, a < 8 → ∀ b, b < 8 → a ≠ b → (TX5 a).2.1 ≠ (TX5 b).2.1 := by decide +kernel
theorem tyX5_ok : ∀ k, k < 8 → parseFieldDescriptor (TX5 k).2.2.1 = some (tyX5 k) := by decide +kernel
abbrev cX5_init : ByteArray := prog_1_method_1_code
def yX5_init : MethodName := ⟨RX5, "<init>", "()V"⟩
abbrev cX5_run : ByteArray := prog_1_method_2_code
def yX5_run : MethodName := ⟨RX5, "run", "(IIII)I"⟩
abbrev cX5_rest : ByteArray := prog_1_method_3_code
def yX5_rest : MethodName := ⟨RX5, "rest", "(I)I"⟩
abbrev cX5_set : ByteArray := prog_1_method_4_code
def yX5_set : MethodName := ⟨RX5, "set", "(II)I"⟩
abbrev cX5_setLurch : ByteArray := prog_1_method_5_code
def yX5_setLurch : MethodName := ⟨RX5, "setLurch", "(I)I"⟩
abbrev cX5_setFall : ByteArray := prog_1_method_6_code
def yX5_setFall : MethodName := ⟨RX5, "setFall", "(I)I"⟩
abbrev cX5_setUp : ByteArray := prog_1_method_7_code
def yX5_setUp : MethodName := ⟨RX5, "setUp", "(I)I"⟩
abbrev cX5_pair : ByteArray := prog_1_method_8_code
def yX5_pair : MethodName := ⟨RX5, "pair", "(IIII)I"⟩
abbrev cX5_reach : ByteArray := prog_1_method_9_code
def yX5_reach : MethodName := ⟨RX5, "reach", "(IIII)I"⟩
abbrev cX5_who : ByteArray := prog_1_method_10_code
def yX5_who : MethodName := ⟨RX5, "who", "(III)I"⟩
abbrev cX5_alone : ByteArray := prog_1_method_11_code
def yX5_alone : MethodName := ⟨RX5, "alone", "(II)I"⟩
abbrev cX5_tied : ByteArray := prog_1_method_12_code
def yX5_tied : MethodName := ⟨RX5, "tied", "(III)I"⟩
abbrev cX5_call : ByteArray := prog_1_method_13_code
def yX5_call : MethodName := ⟨RX5, "call", "(IIII)I"⟩
abbrev cX5_quicken : ByteArray := prog_1_method_14_code
def yX5_quicken : MethodName := ⟨RX5, "quicken", "(IIII)I"⟩
abbrev cX5_yields : ByteArray := prog_1_method_15_code
def yX5_yields : MethodName := ⟨RX5, "yields", "(IIII)I"⟩
abbrev cX5_practice : ByteArray := prog_1_method_16_code
def yX5_practice : MethodName := ⟨RX5, "practice", "(IIII)I"⟩
abbrev cX5_standsWith : ByteArray := prog_1_method_17_code
def yX5_standsWith : MethodName := ⟨RX5, "standsWith", "(IIIII)Z"⟩
abbrev cX5_scarf : ByteArray := prog_1_method_18_code
def yX5_scarf : MethodName := ⟨RX5, "scarf", "(IIII)I"⟩
abbrev cX5_even : ByteArray := prog_1_method_19_code
def yX5_even : MethodName := ⟨RX5, "even", "(IIIII)I"⟩
abbrev cX5_say : ByteArray := prog_1_method_20_code
def yX5_say : MethodName := ⟨RX5, "say", "(I)I"⟩
abbrev cX5_wipe : ByteArray := prog_1_method_21_code
def yX5_wipe : MethodName := ⟨RX5, "wipe", "()I"⟩
abbrev cX5_fault : ByteArray := prog_1_method_22_code
def yX5_fault : MethodName := ⟨RX5, "fault", "()I"⟩
abbrev cX5_judge : ByteArray := prog_1_method_23_code
def yX5_judge : MethodName := ⟨RX5, "judge", "(II)I"⟩
abbrev cX5_fits : ByteArray := prog_1_method_24_code
def yX5_fits : MethodName := ⟨RX5, "fits", "(I)I"⟩
abbrev cX5_year : ByteArray := prog_1_method_25_code
def yX5_year : MethodName := ⟨RX5, "year", "(IIII)I"⟩
abbrev cX5_image : ByteArray := prog_1_method_26_code
def yX5_image : MethodName := ⟨RX5, "image", "(I)I"⟩
abbrev cX5_restore : ByteArray := prog_1_method_27_code
def yX5_restore : MethodName := ⟨RX5, "restore", "(I)I"⟩
abbrev cX5_told : ByteArray := prog_1_method_28_code
def yX5_told : MethodName := ⟨RX5, "told", "(I)I"⟩
abbrev cX5_toldOfPerson : ByteArray := prog_1_method_29_code
def yX5_toldOfPerson : MethodName := ⟨RX5, "toldOfPerson", "(II)I"⟩
abbrev cX5_isWithin : ByteArray := prog_1_method_30_code
def yX5_isWithin : MethodName := ⟨RX5, "isWithin", "(III)Z"⟩
abbrev cX5_isFeet : ByteArray := prog_1_method_31_code
def yX5_isFeet : MethodName := ⟨RX5, "isFeet", "(I)Z"⟩
abbrev cX5_refusalOfRace : ByteArray := prog_1_method_32_code
def yX5_refusalOfRace : MethodName := ⟨RX5, "refusalOfRace", "(IIII)I"⟩
abbrev cX5_timeTo : ByteArray := prog_1_method_33_code
def yX5_timeTo : MethodName := ⟨RX5, "timeTo", "(III)I"⟩
abbrev cX5_timeAllPairs : ByteArray := prog_1_method_34_code
def yX5_timeAllPairs : MethodName := ⟨RX5, "timeAllPairs", "(I)V"⟩
abbrev cX5_firstUnlike : ByteArray := prog_1_method_35_code
def yX5_firstUnlike : MethodName := ⟨RX5, "firstUnlike", "(II)I"⟩
def RX6 : String := "ThreeLegsModel"
def TX6 : u_T := fun k => match k with
  | 0 => ("ThreeLegsModel", "running", "I", false)
  | 1 => ("ThreeLegsModel", "beat", "[I", true)
  | 2 => ("ThreeLegsModel", "length", "[I", true)
  | 3 => ("ThreeLegsModel", "give", "[I", true)
  | 4 => ("ThreeLegsModel", "lurch", "I", false)
  | 5 => ("ThreeLegsModel", "fall", "I", false)
  | 6 => ("ThreeLegsModel", "up", "I", false)
  | 7 => ("ThreeLegsModel", "beatA", "I", false)
  | 8 => ("ThreeLegsModel", "beatB", "I", false)
  | 9 => ("ThreeLegsModel", "giveA", "I", false)
  | 10 => ("ThreeLegsModel", "giveB", "I", false)
  | 11 => ("ThreeLegsModel", "stride", "I", false)
  | 12 => ("ThreeLegsModel", "quickFrom", "I", false)
  | 13 => ("ThreeLegsModel", "tight", "I", false)
  | 14 => ("ThreeLegsModel", "timeA", "I", false)
  | 15 => ("ThreeLegsModel", "timeB", "I", false)
  | 16 => ("ThreeLegsModel", "feet", "I", false)
  | 17 => ("ThreeLegsModel", "lurches", "I", false)
  | 18 => ("ThreeLegsModel", "falls", "I", false)
  | 19 => ("ThreeLegsModel", "steps", "I", false)
  | 20 => ("ThreeLegsModel", "how", "I", false)
  | 21 => ("ThreeLegsModel", "earlier", "I", false)
  | 22 => ("ThreeLegsModel", "timeBy", "[I", true)
  | 23 => ("ThreeLegsModel", "with", "[I", true)
  | 24 => ("ThreeLegsModel", "bestWith", "[I", true)
  | 25 => ("ThreeLegsModel", "bestIs", "I", false)
  | 26 => ("ThreeLegsModel", "bestTime", "I", false)
  | 27 => ("ThreeLegsModel", "pad", "[I", true)
  | 28 => ("ThreeLegsModel", "padMany", "I", false)
  | 29 => ("ThreeLegsModel", "kept", "[I", true)
  | 30 => ("ThreeLegsModel", "isKept", "[Z", true)
  | 31 => ("ThreeLegsModel", "keptAt", "I", false)
  | _ => ("ThreeLegsModel", "isWriting", "Z", false)
def tyX6 : Nat → FieldType := fun k => match k with
  | 0 => .int
  | 1 => .array .int
  | 2 => .array .int
  | 3 => .array .int
  | 4 => .int
  | 5 => .int
  | 6 => .int
  | 7 => .int
  | 8 => .int
  | 9 => .int
  | 10 => .int
  | 11 => .int
  | 12 => .int
  | 13 => .int
  | 14 => .int
  | 15 => .int
  | 16 => .int
  | 17 => .int
  | 18 => .int
  | 19 => .int
  | 20 => .int
  | 21 => .int
  | 22 => .array .int
  | 23 => .array .int
  | 24 => .array .int
  | 25 => .int
  | 26 => .int
  | 27 => .array .int
  | 28 => .int
  | 29 => .array .int
  | 30 => .array .boolean
  | 31 => .int
  | _ => .boolean
theorem nmX6 : ∀ a, a < 33 → ∀ b, b < 33 → a ≠ b → (TX6 a).2.1 ≠ (TX6 b).2.1 := by decide +kernel
theorem tyX6_ok : ∀ k, k < 33 → parseFieldDescriptor (TX6 k).2.2.1 = some (tyX6 k) := by decide +kernel
abbrev cX6_init : ByteArray := prog_8_method_1_code
def yX6_init : MethodName := ⟨RX6, "<init>", "()V"⟩
abbrev cX6_in : ByteArray := prog_8_method_3_code
def yX6_in : MethodName := ⟨RX6, "in", "(JJJ)Z"⟩
abbrev cX6_ones : ByteArray := prog_8_method_4_code
def yX6_ones : MethodName := ⟨RX6, "ones", "(I)I"⟩
abbrev cX6_runs : ByteArray := prog_8_method_5_code
def yX6_runs : MethodName := ⟨RX6, "runs", "(I)Z"⟩
abbrev cX6_run : ByteArray := prog_8_method_6_code
def yX6_run : MethodName := ⟨RX6, "run", "(IIII)I"⟩
abbrev cX6_rest : ByteArray := prog_8_method_7_code
def yX6_rest : MethodName := ⟨RX6, "rest", "(I)I"⟩
abbrev cX6_set : ByteArray := prog_8_method_8_code
def yX6_set : MethodName := ⟨RX6, "set", "(II)I"⟩
abbrev cX6_isPair : ByteArray := prog_8_method_9_code
def yX6_isPair : MethodName := ⟨RX6, "isPair", "(II)Z"⟩
abbrev cX6_layPair : ByteArray := prog_8_method_10_code
def yX6_layPair : MethodName := ⟨RX6, "layPair", "(II)V"⟩
abbrev cX6_begin : ByteArray := prog_8_method_11_code
def yX6_begin : MethodName := ⟨RX6, "begin", "()V"⟩
abbrev cX6_quicker : ByteArray := prog_8_method_12_code
def yX6_quicker : MethodName := ⟨RX6, "quicker", "(I)I"⟩
abbrev cX6_next : ByteArray := prog_8_method_13_code
def yX6_next : MethodName := ⟨RX6, "next", "(IIII)I"⟩
abbrev cX6_step : ByteArray := prog_8_method_14_code
def yX6_step : MethodName := ⟨RX6, "step", "()V"⟩
abbrev cX6_time : ByteArray := prog_8_method_15_code
def yX6_time : MethodName := ⟨RX6, "time", "()I"⟩
abbrev cX6_timeOf : ByteArray := prog_8_method_16_code
def yX6_timeOf : MethodName := ⟨RX6, "timeOf", "(I)I"⟩
abbrev cX6_pair : ByteArray := prog_8_method_17_code
def yX6_pair : MethodName := ⟨RX6, "pair", "(IIII)I"⟩
abbrev cX6_isFar : ByteArray := prog_8_method_18_code
def yX6_isFar : MethodName := ⟨RX6, "isFar", "(I)Z"⟩
abbrev cX6_reach : ByteArray := prog_8_method_19_code
def yX6_reach : MethodName := ⟨RX6, "reach", "(IIII)I"⟩
abbrev cX6_who : ByteArray := prog_8_method_20_code
def yX6_who : MethodName := ⟨RX6, "who", "(III)I"⟩
abbrev cX6_alone : ByteArray := prog_8_method_21_code
def yX6_alone : MethodName := ⟨RX6, "alone", "(II)I"⟩
abbrev cX6_findTimes : ByteArray := prog_8_method_22_code
def yX6_findTimes : MethodName := ⟨RX6, "findTimes", "(I)V"⟩
abbrev cX6_tie : ByteArray := prog_8_method_23_code
def yX6_tie : MethodName := ⟨RX6, "tie", "(II)V"⟩
abbrev cX6_tiedBy : ByteArray := prog_8_method_24_code
def yX6_tiedBy : MethodName := ⟨RX6, "tiedBy", "(I)I"⟩
abbrev cX6_tied : ByteArray := prog_8_method_25_code
def yX6_tied : MethodName := ⟨RX6, "tied", "(III)I"⟩
abbrev cX6_tryOne : ByteArray := prog_8_method_26_code
def yX6_tryOne : MethodName := ⟨RX6, "tryOne", "(II)V"⟩
abbrev cX6_beginTries : ByteArray := prog_8_method_27_code
def yX6_beginTries : MethodName := ⟨RX6, "beginTries", "()V"⟩
abbrev cX6_tellBest : ByteArray := prog_8_method_28_code
def yX6_tellBest : MethodName := ⟨RX6, "tellBest", "(I)I"⟩
abbrev cX6_isAsked : ByteArray := prog_8_method_29_code
def yX6_isAsked : MethodName := ⟨RX6, "isAsked", "(II)Z"⟩
abbrev cX6_call : ByteArray := prog_8_method_30_code
def yX6_call : MethodName := ⟨RX6, "call", "(IIII)I"⟩
abbrev cX6_quicken : ByteArray := prog_8_method_31_code
def yX6_quicken : MethodName := ⟨RX6, "quicken", "(IIII)I"⟩
abbrev cX6_yields : ByteArray := prog_8_method_32_code
def yX6_yields : MethodName := ⟨RX6, "yields", "(IIII)I"⟩
abbrev cX6_fallsIn : ByteArray := prog_8_method_33_code
def yX6_fallsIn : MethodName := ⟨RX6, "fallsIn", "(I)Z"⟩
abbrev cX6_practice : ByteArray := prog_8_method_34_code
def yX6_practice : MethodName := ⟨RX6, "practice", "(IIII)I"⟩
abbrev cX6_scarf : ByteArray := prog_8_method_35_code
def yX6_scarf : MethodName := ⟨RX6, "scarf", "(IIII)I"⟩
abbrev cX6_even : ByteArray := prog_8_method_36_code
def yX6_even : MethodName := ⟨RX6, "even", "(IIIII)I"⟩
abbrev cX6_say : ByteArray := prog_8_method_37_code
def yX6_say : MethodName := ⟨RX6, "say", "(I)I"⟩
abbrev cX6_wipe : ByteArray := prog_8_method_38_code
def yX6_wipe : MethodName := ⟨RX6, "wipe", "()I"⟩
abbrev cX6_fault : ByteArray := prog_8_method_39_code
def yX6_fault : MethodName := ⟨RX6, "fault", "()I"⟩
abbrev cX6_judged : ByteArray := prog_8_method_40_code
def yX6_judged : MethodName := ⟨RX6, "judged", "(II)I"⟩
abbrev cX6_judge : ByteArray := prog_8_method_41_code
def yX6_judge : MethodName := ⟨RX6, "judge", "(II)I"⟩
abbrev cX6_fits : ByteArray := prog_8_method_42_code
def yX6_fits : MethodName := ⟨RX6, "fits", "(I)I"⟩
abbrev cX6_year : ByteArray := prog_8_method_43_code
def yX6_year : MethodName := ⟨RX6, "year", "(IIII)I"⟩
abbrev cX6_pass : ByteArray := prog_8_method_44_code
def yX6_pass : MethodName := ⟨RX6, "pass", "(I)I"⟩
abbrev cX6_passAll : ByteArray := prog_8_method_45_code
def yX6_passAll : MethodName := ⟨RX6, "passAll", "()V"⟩
abbrev cX6_image : ByteArray := prog_8_method_46_code
def yX6_image : MethodName := ⟨RX6, "image", "(I)I"⟩
abbrev cX6_restore : ByteArray := prog_8_method_47_code
def yX6_restore : MethodName := ⟨RX6, "restore", "(I)I"⟩
abbrev cX6_told : ByteArray := prog_8_method_48_code
def yX6_told : MethodName := ⟨RX6, "told", "(I)I"⟩
def RJ6 : String := "java/lang/Integer"
def TJ6 : u_T := fun k => match k with
  | _ => ("", "", "", false)
def tyJ6 : Nat → FieldType := fun k => match k with
  | _ => .int
theorem nmJ6 : ∀ a, a < 0 → ∀ b, b < 0 → a ≠ b → (TJ6 a).2.1 ≠ (TJ6 b).2.1 := by decide +kernel
theorem tyJ6_ok : ∀ k, k < 0 → parseFieldDescriptor (TJ6 k).2.2.1 = some (tyJ6 k) := by decide +kernel
abbrev cJ6_bitCount_0f7a4 : ByteArray := prog_9_method_49_code
def yJ6_bitCount_0f7a4 : MethodName := ⟨RJ6, "bitCount", "(I)I"⟩
def RJ9 : String := "java/lang/Math"
def TJ9 : u_T := fun k => match k with
  | _ => ("", "", "", false)
def tyJ9 : Nat → FieldType := fun k => match k with
  | _ => .int
theorem nmJ9 : ∀ a, a < 0 → ∀ b, b < 0 → a ≠ b → (TJ9 a).2.1 ≠ (TJ9 b).2.1 := by decide +kernel
theorem tyJ9_ok : ∀ k, k < 0 → parseFieldDescriptor (TJ9 k).2.2.1 = some (tyJ9 k) := by decide +kernel
abbrev cJ9_abs_0f7a4 : ByteArray := prog_10_method_59_code
def yJ9_abs_0f7a4 : MethodName := ⟨RJ9, "abs", "(I)I"⟩
abbrev cJ9_max_7cf53 : ByteArray := prog_10_method_65_code
def yJ9_max_7cf53 : MethodName := ⟨RJ9, "max", "(II)I"⟩
abbrev cJ9_min_7cf53 : ByteArray := prog_10_method_69_code
def yJ9_min_7cf53 : MethodName := ⟨RJ9, "min", "(II)I"⟩
def RJ10 : String := "java/lang/System"
def TJ10 : u_T := fun k => match k with
  | _ => ("", "", "", false)
def tyJ10 : Nat → FieldType := fun k => match k with
  | _ => .int
theorem nmJ10 : ∀ a, a < 0 → ∀ b, b < 0 → a ≠ b → (TJ10 a).2.1 ≠ (TJ10 b).2.1 := by decide +kernel
theorem tyJ10_ok : ∀ k, k < 0 → parseFieldDescriptor (TJ10 k).2.2.1 = some (tyJ10 k) := by decide +kernel
def RL : String := "ThreeLegsLaw"
abbrev cL_law : ByteArray := code
def yL_law : MethodName := ⟨RL, "law", "([I)Z"⟩
abbrev vwCl : List vw_C := [(RX0, TX0, 7), (RX1, TX1, 2), (RX2, TX2, 6), (RX3, TX3, 2), (RX4, TX4, 16), (RX5, TX5, 8), (RX6, TX6, 33)]
def lwG : List Cond := lw_tbl.filter goodWord
theorem lwG_in : ∀ w ∈ lwG, w ∈ lw_tbl := fun _ h => (List.mem_filter.mp h).1
theorem lwG_good {w : Cond} (h : w ∈ lwG) : (w.onTables && w.keeps) = true ∨ ∃ ty, w = .arrayClass ty := good_of_word (List.mem_filter.mp h).2
theorem in_0 {w : Cond} (i : Nat) (h : (k2_sels lw_privs)[i]? = some w) (hg : goodWord w = true) : w ∈ lwG := List.mem_filter.mpr ⟨List.mem_append_left _ (List.mem_of_getElem? h), hg⟩
theorem in_1 {w : Cond} (i : Nat) (h : tables_1_1[i]? = some w) (hg : goodWord w = true) : w ∈ lwG := List.mem_filter.mpr ⟨List.mem_append_right _ (List.mem_append_left _ (List.mem_of_getElem? h)), hg⟩
theorem in_2 {w : Cond} (i : Nat) (h : tables_1_2[i]? = some w) (hg : goodWord w = true) : w ∈ lwG := List.mem_filter.mpr ⟨List.mem_append_right _ (List.mem_append_right _ (List.mem_append_left _ (List.mem_of_getElem? h))), hg⟩
theorem in_3 {w : Cond} (i : Nat) (h : tables_1_3[i]? = some w) (hg : goodWord w = true) : w ∈ lwG := List.mem_filter.mpr ⟨List.mem_append_right _ (List.mem_append_right _ (List.mem_append_right _ (List.mem_append_left _ (List.mem_of_getElem? h)))), hg⟩
theorem in_4 {w : Cond} (i : Nat) (h : tables_1_4[i]? = some w) (hg : goodWord w = true) : w ∈ lwG := List.mem_filter.mpr ⟨List.mem_append_right _ (List.mem_append_right _ (List.mem_append_right _ (List.mem_append_right _ (List.mem_of_getElem? h)))), hg⟩
theorem gV {own C : String} {idx : Nat} {y : MethodName} {cc : ByteArray} {n : Nat} {r : Option FieldType} (h1 : Cond.methodLink own idx y ∈ lwG) (h2 : Cond.instanceMethod y ∈ lwG) (h3 : Cond.selects C y y ∈ lwG) (h4 : Cond.initialized C ∈ lwG) (h5 : Cond.code y cc n r ∈ lwG) : GoodIn lwG (wsV own idx C y (.code y cc n r :: lwG)) := by
  intro w hw
  have h : w ∈ lwG := by
    simp only [wsV, List.cons_append, List.nil_append, List.mem_cons] at hw
    rcases hw with rfl | rfl | rfl | rfl | rfl | hw
    · exact h1
    · exact h2
    · exact h3
    · exact h4
    · exact h5
    · exact hw
  exact ⟨h, lwG_good h⟩
theorem gS {own : String} {idx : Nat} {y : MethodName} {cc : ByteArray} {n : Nat} {r : Option FieldType} (h1 : Cond.methodLink own idx y ∈ lwG) (h2 : Cond.static y ∈ lwG) (h3 : Cond.initialized y.cls ∈ lwG) (h5 : Cond.code y cc n r ∈ lwG) : GoodIn lwG (va_wsS own idx y (.code y cc n r :: lwG)) := by
  intro w hw
  have h : w ∈ lwG := by
    simp only [va_wsS, List.cons_append, List.nil_append, List.mem_cons] at hw
    rcases hw with rfl | rfl | rfl | rfl | hw
    · exact h1
    · exact h2
    · exact h3
    · exact h5
    · exact hw
  exact ⟨h, lwG_good h⟩
theorem gI {y : MethodName} {cc : ByteArray} {n : Nat} {r : Option FieldType} (h5 : Cond.code y cc n r ∈ lwG) : GoodIn lwG (.code y cc n r :: lwG) := by
  intro w hw
  have h : w ∈ lwG := by
    rcases List.mem_cons.mp hw with rfl | hw
    · exact h5
    · exact hw
  exact ⟨h, lwG_good h⟩
theorem wd_0 : Cond.selects RX5 yX5_setLurch yX5_setLurch ∈ lwG := in_0 0 rfl rfl
theorem wd_1 : Cond.selects RX5 yX5_setFall yX5_setFall ∈ lwG := in_0 1 rfl rfl
theorem wd_2 : Cond.selects RX5 yX5_setUp yX5_setUp ∈ lwG := in_0 2 rfl rfl
theorem wd_3 : Cond.selects RX5 yX5_refusalOfRace yX5_refusalOfRace ∈ lwG := in_0 3 rfl rfl
theorem wd_4 : Cond.selects RX5 yX5_timeTo yX5_timeTo ∈ lwG := in_0 4 rfl rfl
theorem wd_5 : Cond.selects RX4 yX4_speedUp yX4_speedUp ∈ lwG := in_0 5 rfl rfl
theorem wd_6 : Cond.selects RX5 yX5_timeAllPairs yX5_timeAllPairs ∈ lwG := in_0 6 rfl rfl
theorem wd_7 : Cond.selects RX2 yX2_costOfPicks yX2_costOfPicks ∈ lwG := in_0 7 rfl rfl
theorem wd_8 : Cond.selects RX2 yX2_lineUp yX2_lineUp ∈ lwG := in_0 8 rfl rfl
theorem wd_9 : Cond.selects RX2 yX2_takeOut yX2_takeOut ∈ lwG := in_0 9 rfl rfl
theorem wd_10 : Cond.selects RX2 yX2_goToNextPicks yX2_goToNextPicks ∈ lwG := in_0 10 rfl rfl
theorem wd_11 : Cond.selects RX5 yX5_standsWith yX5_standsWith ∈ lwG := in_0 11 rfl rfl
theorem wd_12 : Cond.selects RX5 yX5_firstUnlike yX5_firstUnlike ∈ lwG := in_0 12 rfl rfl
theorem wd_13 : Cond.selects RX5 yX5_toldOfPerson yX5_toldOfPerson ∈ lwG := in_0 13 rfl rfl
theorem wd_14 : Cond.selects RX6 yX6_runs yX6_runs ∈ lwG := in_0 14 rfl rfl
theorem wd_15 : Cond.selects RX6 yX6_isPair yX6_isPair ∈ lwG := in_0 15 rfl rfl
theorem wd_16 : Cond.selects RX6 yX6_layPair yX6_layPair ∈ lwG := in_0 16 rfl rfl
theorem wd_17 : Cond.selects RX6 yX6_begin yX6_begin ∈ lwG := in_0 17 rfl rfl
theorem wd_18 : Cond.selects RX6 yX6_step yX6_step ∈ lwG := in_0 18 rfl rfl
theorem wd_19 : Cond.selects RX6 yX6_quicker yX6_quicker ∈ lwG := in_0 19 rfl rfl
theorem wd_20 : Cond.selects RX6 yX6_time yX6_time ∈ lwG := in_0 20 rfl rfl
theorem wd_21 : Cond.selects RX6 yX6_timeOf yX6_timeOf ∈ lwG := in_0 21 rfl rfl
theorem wd_22 : Cond.selects RX6 yX6_findTimes yX6_findTimes ∈ lwG := in_0 22 rfl rfl
theorem wd_23 : Cond.selects RX6 yX6_tie yX6_tie ∈ lwG := in_0 23 rfl rfl
theorem wd_24 : Cond.selects RX6 yX6_tiedBy yX6_tiedBy ∈ lwG := in_0 24 rfl rfl
theorem wd_25 : Cond.selects RX6 yX6_beginTries yX6_beginTries ∈ lwG := in_0 25 rfl rfl
theorem wd_26 : Cond.selects RX6 yX6_tryOne yX6_tryOne ∈ lwG := in_0 26 rfl rfl
theorem wd_27 : Cond.selects RX6 yX6_tellBest yX6_tellBest ∈ lwG := in_0 27 rfl rfl
theorem wd_28 : Cond.selects RX6 yX6_fallsIn yX6_fallsIn ∈ lwG := in_0 28 rfl rfl
theorem wd_29 : Cond.selects RX6 yX6_judged yX6_judged ∈ lwG := in_0 29 rfl rfl
theorem wd_30 : Cond.selects RX6 yX6_passAll yX6_passAll ∈ lwG := in_0 30 rfl rfl
theorem wd_31 : Cond.selects RX6 yX6_pass yX6_pass ∈ lwG := in_0 31 rfl rfl
theorem wd_32 : Cond.initialized RL ∈ lwG := in_1 0 rfl rfl
theorem wd_33 : Cond.initialized RX5 ∈ lwG := in_1 1 rfl rfl
theorem wd_34 : Cond.initialized RX0 ∈ lwG := in_1 2 rfl rfl
theorem wd_35 : Cond.initialized RX1 ∈ lwG := in_1 3 rfl rfl
theorem wd_36 : Cond.initialized RX4 ∈ lwG := in_1 4 rfl rfl
theorem wd_37 : Cond.initialized RX2 ∈ lwG := in_1 5 rfl rfl
theorem wd_38 : Cond.initialized RX3 ∈ lwG := in_1 6 rfl rfl
theorem wd_39 : Cond.initialized RX6 ∈ lwG := in_1 7 rfl rfl
theorem wd_40 : Cond.initialized RJ6 ∈ lwG := in_1 8 rfl rfl
theorem wd_41 : Cond.initialized RJ9 ∈ lwG := in_1 9 rfl rfl
theorem wd_42 : Cond.initialized RJ10 ∈ lwG := in_1 10 rfl rfl
theorem wd_43 : Cond.classLink RL 7 RX5 ∈ lwG := in_1 11 rfl rfl
theorem wd_44 : Cond.instantiable RX5 8 ∈ lwG := in_1 12 rfl rfl
theorem wd_45 : Cond.methodLink RL 9 yX5_init ∈ lwG := in_1 13 rfl rfl
theorem wd_46 : Cond.instanceMethod yX5_init ∈ lwG := in_1 14 rfl rfl
theorem wd_47 : Cond.code yX5_init cX5_init 1 none ∈ lwG := in_1 15 rfl rfl
theorem wd_48 : Cond.methodLink RX5 1 objectInit ∈ lwG := in_1 16 rfl rfl
theorem wd_49 : Cond.instanceMethod objectInit ∈ lwG := in_1 17 rfl rfl
theorem wd_50 : Cond.code objectInit ⟨#[0xb1]⟩ 1 none ∈ lwG := in_1 18 rfl rfl
theorem wd_51 : Cond.classLink RX5 7 RX0 ∈ lwG := in_1 19 rfl rfl
theorem wd_52 : Cond.instantiable RX0 7 ∈ lwG := in_1 20 rfl rfl
theorem wd_54 : Cond.instanceMethod yX0_init ∈ lwG := in_1 22 rfl rfl
theorem wd_55 : Cond.code yX0_init cX0_init 1 none ∈ lwG := in_1 23 rfl rfl
theorem wd_56 : Cond.methodLink RX0 3 objectInit ∈ lwG := in_1 24 rfl rfl
theorem wd_57 : Cond.fieldLink RX0 9 "ThreeLegs$Crowd" "runs" "[Z" ∈ lwG := in_1 25 rfl rfl
theorem wd_58 : Cond.fieldLink RX0 15 "ThreeLegs$Crowd" "beat" "[I" ∈ lwG := in_1 26 rfl rfl
theorem wd_59 : Cond.fieldLink RX4 15 "ThreeLegs$Crowd" "beat" "[I" ∈ lwG := in_1 27 rfl rfl
theorem wd_60 : Cond.fieldLink RX5 146 "ThreeLegs$Crowd" "beat" "[I" ∈ lwG := in_1 28 rfl rfl
theorem wd_61 : Cond.fieldLink RX0 19 "ThreeLegs$Crowd" "length" "[I" ∈ lwG := in_1 29 rfl rfl
theorem wd_62 : Cond.fieldLink RX4 37 "ThreeLegs$Crowd" "length" "[I" ∈ lwG := in_1 30 rfl rfl
theorem wd_63 : Cond.fieldLink RX5 143 "ThreeLegs$Crowd" "length" "[I" ∈ lwG := in_1 31 rfl rfl
theorem wd_64 : Cond.fieldLink RX0 22 "ThreeLegs$Crowd" "give" "[I" ∈ lwG := in_1 32 rfl rfl
theorem wd_65 : Cond.fieldLink RX4 28 "ThreeLegs$Crowd" "give" "[I" ∈ lwG := in_1 33 rfl rfl
theorem wd_66 : Cond.fieldLink RX5 181 "ThreeLegs$Crowd" "give" "[I" ∈ lwG := in_1 34 rfl rfl
theorem wd_67 : Cond.fieldLink RX0 25 "ThreeLegs$Crowd" "lurch" "I" ∈ lwG := in_1 35 rfl rfl
theorem wd_68 : Cond.fieldLink RX4 49 "ThreeLegs$Crowd" "lurch" "I" ∈ lwG := in_1 36 rfl rfl
theorem wd_69 : Cond.fieldLink RX5 90 "ThreeLegs$Crowd" "lurch" "I" ∈ lwG := in_1 37 rfl rfl
theorem wd_70 : Cond.fieldLink RX0 29 "ThreeLegs$Crowd" "fall" "I" ∈ lwG := in_1 38 rfl rfl
theorem wd_71 : Cond.fieldLink RX4 53 "ThreeLegs$Crowd" "fall" "I" ∈ lwG := in_1 39 rfl rfl
theorem wd_72 : Cond.fieldLink RX5 86 "ThreeLegs$Crowd" "fall" "I" ∈ lwG := in_1 40 rfl rfl
theorem wd_73 : Cond.fieldLink RX0 32 "ThreeLegs$Crowd" "up" "I" ∈ lwG := in_1 41 rfl rfl
theorem wd_74 : Cond.fieldLink RX4 57 "ThreeLegs$Crowd" "up" "I" ∈ lwG := in_1 42 rfl rfl
theorem wd_75 : Cond.fieldLink RX5 93 "ThreeLegs$Crowd" "up" "I" ∈ lwG := in_1 43 rfl rfl
theorem wd_91 : Cond.arrayClass .boolean ∈ lwG := in_1 59 rfl rfl
theorem wd_92 : Cond.arrayClass .int ∈ lwG := in_1 60 rfl rfl
theorem wd_94 : Cond.classLink RX5 24 RX1 ∈ lwG := in_1 62 rfl rfl
theorem wd_95 : Cond.instantiable RX1 2 ∈ lwG := in_1 63 rfl rfl
theorem wd_97 : Cond.instanceMethod yX1_init ∈ lwG := in_1 65 rfl rfl
theorem wd_98 : Cond.code yX1_init cX1_init 1 none ∈ lwG := in_1 66 rfl rfl
theorem wd_99 : Cond.methodLink RX1 3 objectInit ∈ lwG := in_1 67 rfl rfl
theorem wd_100 : Cond.fieldLink RX1 9 "ThreeLegs$Film" "signs" "[I" ∈ lwG := in_1 68 rfl rfl
theorem wd_101 : Cond.fieldLink RX1 15 "ThreeLegs$Film" "count" "I" ∈ lwG := in_1 69 rfl rfl
theorem wd_102 : Cond.fieldLink RX5 196 "ThreeLegs$Film" "count" "I" ∈ lwG := in_1 70 rfl rfl
theorem wd_108 : Cond.classLink RX5 31 RX4 ∈ lwG := in_1 76 rfl rfl
theorem wd_109 : Cond.instantiable RX4 16 ∈ lwG := in_1 77 rfl rfl
theorem wd_111 : Cond.instanceMethod yX4_init ∈ lwG := in_1 79 rfl rfl
theorem wd_112 : Cond.code yX4_init cX4_init 1 none ∈ lwG := in_1 80 rfl rfl
theorem wd_113 : Cond.methodLink RX4 3 objectInit ∈ lwG := in_1 81 rfl rfl
theorem wd_114 : Cond.fieldLink RX4 19 "ThreeLegs$Walk" "firstBeat" "I" ∈ lwG := in_1 82 rfl rfl
theorem wd_115 : Cond.fieldLink RX4 25 "ThreeLegs$Walk" "otherBeat" "I" ∈ lwG := in_1 83 rfl rfl
theorem wd_116 : Cond.fieldLink RX4 31 "ThreeLegs$Walk" "firstGive" "I" ∈ lwG := in_1 84 rfl rfl
theorem wd_117 : Cond.fieldLink RX4 34 "ThreeLegs$Walk" "otherGive" "I" ∈ lwG := in_1 85 rfl rfl
theorem wd_118 : Cond.fieldLink RX4 46 "ThreeLegs$Walk" "stride" "I" ∈ lwG := in_1 86 rfl rfl
theorem wd_119 : Cond.fieldLink RX4 52 "ThreeLegs$Walk" "lurch" "I" ∈ lwG := in_1 87 rfl rfl
theorem wd_120 : Cond.fieldLink RX5 187 "ThreeLegs$Walk" "lurch" "I" ∈ lwG := in_1 88 rfl rfl
theorem wd_121 : Cond.fieldLink RX4 56 "ThreeLegs$Walk" "fall" "I" ∈ lwG := in_1 89 rfl rfl
theorem wd_122 : Cond.fieldLink RX4 60 "ThreeLegs$Walk" "up" "I" ∈ lwG := in_1 90 rfl rfl
theorem wd_123 : Cond.fieldLink RX4 61 "ThreeLegs$Walk" "firstTime" "I" ∈ lwG := in_1 91 rfl rfl
theorem wd_124 : Cond.fieldLink RX4 64 "ThreeLegs$Walk" "otherTime" "I" ∈ lwG := in_1 92 rfl rfl
theorem wd_125 : Cond.fieldLink RX4 67 "ThreeLegs$Walk" "steps" "I" ∈ lwG := in_1 93 rfl rfl
theorem wd_126 : Cond.fieldLink RX5 130 "ThreeLegs$Walk" "steps" "I" ∈ lwG := in_1 94 rfl rfl
theorem wd_127 : Cond.fieldLink RX4 70 "ThreeLegs$Walk" "feet" "I" ∈ lwG := in_1 95 rfl rfl
theorem wd_128 : Cond.fieldLink RX5 110 "ThreeLegs$Walk" "feet" "I" ∈ lwG := in_1 96 rfl rfl
theorem wd_129 : Cond.fieldLink RX4 73 "ThreeLegs$Walk" "lurches" "I" ∈ lwG := in_1 97 rfl rfl
theorem wd_130 : Cond.fieldLink RX5 113 "ThreeLegs$Walk" "lurches" "I" ∈ lwG := in_1 98 rfl rfl
theorem wd_131 : Cond.fieldLink RX4 76 "ThreeLegs$Walk" "falls" "I" ∈ lwG := in_1 99 rfl rfl
theorem wd_132 : Cond.fieldLink RX5 116 "ThreeLegs$Walk" "falls" "I" ∈ lwG := in_1 100 rfl rfl
theorem wd_133 : Cond.fieldLink RX4 94 "ThreeLegs$Walk" "sign" "C" ∈ lwG := in_1 101 rfl rfl
theorem wd_134 : Cond.fieldLink RX5 220 "ThreeLegs$Walk" "sign" "C" ∈ lwG := in_1 102 rfl rfl
theorem wd_135 : Cond.fieldLink RX4 86 "ThreeLegs$Walk" "firstWasEarlier" "Z" ∈ lwG := in_1 103 rfl rfl
theorem wd_136 : Cond.fieldLink RX5 136 "ThreeLegs$Walk" "firstWasEarlier" "Z" ∈ lwG := in_1 104 rfl rfl
theorem wd_170 : Cond.classLink RX5 38 RX2 ∈ lwG := in_1 138 rfl rfl
theorem wd_171 : Cond.instantiable RX2 6 ∈ lwG := in_1 139 rfl rfl
theorem wd_173 : Cond.instanceMethod yX2_init ∈ lwG := in_1 141 rfl rfl
theorem wd_174 : Cond.code yX2_init cX2_init 1 none ∈ lwG := in_1 142 rfl rfl
theorem wd_175 : Cond.methodLink RX2 3 objectInit ∈ lwG := in_1 143 rfl rfl
theorem wd_176 : Cond.fieldLink RX2 11 "ThreeLegs$Knots" "picks" "[I" ∈ lwG := in_1 144 rfl rfl
theorem wd_177 : Cond.fieldLink RX2 15 "ThreeLegs$Knots" "free" "[I" ∈ lwG := in_1 145 rfl rfl
theorem wd_178 : Cond.fieldLink RX2 18 "ThreeLegs$Knots" "mate" "[I" ∈ lwG := in_1 146 rfl rfl
theorem wd_179 : Cond.fieldLink RX2 21 "ThreeLegs$Knots" "bestMate" "[I" ∈ lwG := in_1 147 rfl rfl
theorem wd_180 : Cond.fieldLink RX5 159 "ThreeLegs$Knots" "bestMate" "[I" ∈ lwG := in_1 148 rfl rfl
theorem wd_181 : Cond.fieldLink RX2 30 "ThreeLegs$Knots" "people" "I" ∈ lwG := in_1 149 rfl rfl
theorem wd_182 : Cond.fieldLink RX2 37 "ThreeLegs$Knots" "least" "I" ∈ lwG := in_1 150 rfl rfl
theorem wd_183 : Cond.fieldLink RX5 156 "ThreeLegs$Knots" "least" "I" ∈ lwG := in_1 151 rfl rfl
theorem wd_197 : Cond.classLink RX5 45 RX3 ∈ lwG := in_1 165 rfl rfl
theorem wd_198 : Cond.instantiable RX3 2 ∈ lwG := in_1 166 rfl rfl
theorem wd_200 : Cond.instanceMethod yX3_init ∈ lwG := in_1 168 rfl rfl
theorem wd_201 : Cond.code yX3_init cX3_init 1 none ∈ lwG := in_1 169 rfl rfl
theorem wd_202 : Cond.methodLink RX3 3 objectInit ∈ lwG := in_1 170 rfl rfl
theorem wd_203 : Cond.fieldLink RX3 9 "ThreeLegs$Soonest" "time" "I" ∈ lwG := in_1 171 rfl rfl
theorem wd_204 : Cond.fieldLink RX5 208 "ThreeLegs$Soonest" "time" "I" ∈ lwG := in_1 172 rfl rfl
theorem wd_205 : Cond.fieldLink RX3 15 "ThreeLegs$Soonest" "key" "I" ∈ lwG := in_1 173 rfl rfl
theorem wd_211 : Cond.fieldLink RX5 10 "ThreeLegs" "crowd" "LThreeLegs$Crowd;" ∈ lwG := in_1 179 rfl rfl
theorem wd_212 : Cond.fieldLink RX5 16 "ThreeLegs" "images" "[LThreeLegs$Crowd;" ∈ lwG := in_1 180 rfl rfl
theorem wd_213 : Cond.fieldLink RX5 20 "ThreeLegs" "isKept" "[Z" ∈ lwG := in_1 181 rfl rfl
theorem wd_214 : Cond.fieldLink RX5 27 "ThreeLegs" "film" "LThreeLegs$Film;" ∈ lwG := in_1 182 rfl rfl
theorem wd_215 : Cond.fieldLink RX5 34 "ThreeLegs" "walk" "LThreeLegs$Walk;" ∈ lwG := in_1 183 rfl rfl
theorem wd_216 : Cond.fieldLink RX5 41 "ThreeLegs" "knots" "LThreeLegs$Knots;" ∈ lwG := in_1 184 rfl rfl
theorem wd_217 : Cond.fieldLink RX5 48 "ThreeLegs" "soonest" "LThreeLegs$Soonest;" ∈ lwG := in_1 185 rfl rfl
theorem wd_218 : Cond.fieldLink RX5 52 "ThreeLegs" "times" "[I" ∈ lwG := in_1 186 rfl rfl
theorem wd_236 : Cond.methodLink RL 13 yX5_run ∈ lwG := in_1 204 rfl rfl
theorem wd_237 : Cond.instanceMethod yX5_run ∈ lwG := in_1 205 rfl rfl
theorem wd_238 : Cond.selects RX5 yX5_run yX5_run ∈ lwG := in_1 206 rfl rfl
theorem wd_239 : Cond.code yX5_run cX5_run 5 (some .int) ∈ lwG := in_1 207 rfl rfl
theorem wd_240 : Cond.methodLink RX5 56 yX5_isWithin ∈ lwG := in_1 208 rfl rfl
theorem wd_241 : Cond.static yX5_isWithin ∈ lwG := in_1 209 rfl rfl
theorem wd_242 : Cond.code yX5_isWithin cX5_isWithin 3 (some .boolean) ∈ lwG := in_1 210 rfl rfl
theorem wd_243 : Cond.methodLink RX5 60 yX0_enter ∈ lwG := in_1 211 rfl rfl
theorem wd_244 : Cond.instanceMethod yX0_enter ∈ lwG := in_1 212 rfl rfl
theorem wd_245 : Cond.selects RX0 yX0_enter yX0_enter ∈ lwG := in_1 213 rfl rfl
theorem wd_246 : Cond.code yX0_enter cX0_enter 5 none ∈ lwG := in_1 214 rfl rfl
theorem wd_247 : Cond.methodLink RX5 64 yX0_count ∈ lwG := in_1 215 rfl rfl
theorem wd_248 : Cond.instanceMethod yX0_count ∈ lwG := in_1 216 rfl rfl
theorem wd_249 : Cond.selects RX0 yX0_count yX0_count ∈ lwG := in_1 217 rfl rfl
theorem wd_250 : Cond.code yX0_count cX0_count 1 (some .int) ∈ lwG := in_1 218 rfl rfl
theorem wd_251 : Cond.methodLink RX0 39 yX0_bits ∈ lwG := in_1 219 rfl rfl
theorem wd_252 : Cond.instanceMethod yX0_bits ∈ lwG := in_1 220 rfl rfl
theorem wd_253 : Cond.selects RX0 yX0_bits yX0_bits ∈ lwG := in_1 221 rfl rfl
theorem wd_254 : Cond.code yX0_bits cX0_bits 3 (some .int) ∈ lwG := in_1 222 rfl rfl
theorem wd_255 : Cond.methodLink RX0 43 yJ6_bitCount_0f7a4 ∈ lwG := in_1 223 rfl rfl
theorem wd_256 : Cond.static yJ6_bitCount_0f7a4 ∈ lwG := in_1 224 rfl rfl
theorem wd_257 : Cond.code yJ6_bitCount_0f7a4 cJ6_bitCount_0f7a4 1 (some .int) ∈ lwG := in_1 225 rfl rfl
theorem wd_258 : Cond.constant RJ6 265 (1431655765) ∈ lwG := in_1 226 rfl rfl
theorem wd_259 : Cond.constant RJ6 266 (858993459) ∈ lwG := in_1 227 rfl rfl
theorem wd_260 : Cond.constant RJ6 267 (252645135) ∈ lwG := in_1 228 rfl rfl
theorem wd_261 : Cond.methodLink RL 18 yX5_rest ∈ lwG := in_1 229 rfl rfl
theorem wd_262 : Cond.instanceMethod yX5_rest ∈ lwG := in_1 230 rfl rfl
theorem wd_263 : Cond.selects RX5 yX5_rest yX5_rest ∈ lwG := in_1 231 rfl rfl
theorem wd_264 : Cond.code yX5_rest cX5_rest 2 (some .int) ∈ lwG := in_1 232 rfl rfl
theorem wd_265 : Cond.methodLink RX5 68 yX0_hasRunner ∈ lwG := in_1 233 rfl rfl
theorem wd_266 : Cond.instanceMethod yX0_hasRunner ∈ lwG := in_1 234 rfl rfl
theorem wd_267 : Cond.selects RX0 yX0_hasRunner yX0_hasRunner ∈ lwG := in_1 235 rfl rfl
theorem wd_268 : Cond.code yX0_hasRunner cX0_hasRunner 2 (some .boolean) ∈ lwG := in_1 236 rfl rfl
theorem wd_269 : Cond.methodLink RX5 72 yX0_leave ∈ lwG := in_1 237 rfl rfl
theorem wd_270 : Cond.instanceMethod yX0_leave ∈ lwG := in_1 238 rfl rfl
theorem wd_271 : Cond.selects RX0 yX0_leave yX0_leave ∈ lwG := in_1 239 rfl rfl
theorem wd_272 : Cond.code yX0_leave cX0_leave 2 none ∈ lwG := in_2 0 rfl rfl
theorem wd_273 : Cond.methodLink RX0 35 yX0_hasRunner ∈ lwG := in_2 1 rfl rfl
theorem wd_274 : Cond.methodLink RL 23 yX5_set ∈ lwG := in_2 2 rfl rfl
theorem wd_275 : Cond.instanceMethod yX5_set ∈ lwG := in_2 3 rfl rfl
theorem wd_276 : Cond.selects RX5 yX5_set yX5_set ∈ lwG := in_2 4 rfl rfl
theorem wd_277 : Cond.code yX5_set cX5_set 3 (some .int) ∈ lwG := in_2 5 rfl rfl
theorem wd_278 : Cond.methodLink RX5 76 yX5_setLurch ∈ lwG := in_2 6 rfl rfl
theorem wd_280 : Cond.instanceMethod yX5_setLurch ∈ lwG := in_2 8 rfl rfl
theorem wd_281 : Cond.code yX5_setLurch cX5_setLurch 3 (some .int) ∈ lwG := in_2 9 rfl rfl
theorem wd_282 : Cond.methodLink RX5 80 yX5_setFall ∈ lwG := in_2 10 rfl rfl
theorem wd_284 : Cond.instanceMethod yX5_setFall ∈ lwG := in_2 12 rfl rfl
theorem wd_285 : Cond.code yX5_setFall cX5_setFall 3 (some .int) ∈ lwG := in_2 13 rfl rfl
theorem wd_286 : Cond.methodLink RX5 83 yX5_setUp ∈ lwG := in_2 14 rfl rfl
theorem wd_288 : Cond.instanceMethod yX5_setUp ∈ lwG := in_2 16 rfl rfl
theorem wd_289 : Cond.code yX5_setUp cX5_setUp 3 (some .int) ∈ lwG := in_2 17 rfl rfl
theorem wd_290 : Cond.methodLink RL 28 yX5_pair ∈ lwG := in_2 18 rfl rfl
theorem wd_291 : Cond.instanceMethod yX5_pair ∈ lwG := in_2 19 rfl rfl
theorem wd_292 : Cond.selects RX5 yX5_pair yX5_pair ∈ lwG := in_2 20 rfl rfl
theorem wd_293 : Cond.code yX5_pair cX5_pair 6 (some .int) ∈ lwG := in_2 21 rfl rfl
theorem wd_294 : Cond.methodLink RX5 96 yX0_canTie ∈ lwG := in_2 22 rfl rfl
theorem wd_295 : Cond.instanceMethod yX0_canTie ∈ lwG := in_2 23 rfl rfl
theorem wd_296 : Cond.selects RX0 yX0_canTie yX0_canTie ∈ lwG := in_2 24 rfl rfl
theorem wd_297 : Cond.code yX0_canTie cX0_canTie 3 (some .boolean) ∈ lwG := in_2 25 rfl rfl
theorem wd_298 : Cond.methodLink RX5 100 yX4_tie ∈ lwG := in_2 26 rfl rfl
theorem wd_299 : Cond.instanceMethod yX4_tie ∈ lwG := in_2 27 rfl rfl
theorem wd_300 : Cond.selects RX4 yX4_tie yX4_tie ∈ lwG := in_2 28 rfl rfl
theorem wd_301 : Cond.code yX4_tie cX4_tie 4 none ∈ lwG := in_2 29 rfl rfl
theorem wd_302 : Cond.methodLink RX4 9 yX0_canTie ∈ lwG := in_2 30 rfl rfl
theorem wd_303 : Cond.methodLink RX4 40 Lib.Math.min.name ∈ lwG := in_2 31 rfl rfl
theorem wd_304 : Cond.static Lib.Math.min.name ∈ lwG := in_2 32 rfl rfl
theorem wd_305 : Cond.code Lib.Math.min.name Lib.Math.min.code 2 (some .int) ∈ lwG := in_2 33 rfl rfl
theorem wd_306 : Cond.methodLink RX5 104 yX4_step ∈ lwG := in_2 34 rfl rfl
theorem wd_307 : Cond.instanceMethod yX4_step ∈ lwG := in_2 35 rfl rfl
theorem wd_308 : Cond.selects RX4 yX4_step yX4_step ∈ lwG := in_2 36 rfl rfl
theorem wd_309 : Cond.code yX4_step cX4_step 3 none ∈ lwG := in_2 37 rfl rfl
theorem wd_310 : Cond.methodLink RX4 79 Lib.Math.max.name ∈ lwG := in_2 38 rfl rfl
theorem wd_311 : Cond.static Lib.Math.max.name ∈ lwG := in_2 39 rfl rfl
theorem wd_312 : Cond.code Lib.Math.max.name Lib.Math.max.code 2 (some .int) ∈ lwG := in_2 40 rfl rfl
theorem wd_313 : Cond.methodLink RX4 90 yX4_apart ∈ lwG := in_2 41 rfl rfl
theorem wd_314 : Cond.instanceMethod yX4_apart ∈ lwG := in_2 42 rfl rfl
theorem wd_315 : Cond.selects RX4 yX4_apart yX4_apart ∈ lwG := in_2 43 rfl rfl
theorem wd_316 : Cond.code yX4_apart cX4_apart 1 (some .int) ∈ lwG := in_2 44 rfl rfl
theorem wd_317 : Cond.methodLink RX4 82 Lib.Math.abs.name ∈ lwG := in_2 45 rfl rfl
theorem wd_318 : Cond.static Lib.Math.abs.name ∈ lwG := in_2 46 rfl rfl
theorem wd_319 : Cond.code Lib.Math.abs.name Lib.Math.abs.code 1 (some .int) ∈ lwG := in_2 47 rfl rfl
theorem wd_320 : Cond.methodLink RX5 107 yX4_time ∈ lwG := in_2 48 rfl rfl
theorem wd_321 : Cond.instanceMethod yX4_time ∈ lwG := in_2 49 rfl rfl
theorem wd_322 : Cond.selects RX4 yX4_time yX4_time ∈ lwG := in_2 50 rfl rfl
theorem wd_323 : Cond.code yX4_time cX4_time 1 (some .int) ∈ lwG := in_2 51 rfl rfl
theorem wd_324 : Cond.methodLink RX5 119 yX4_apart ∈ lwG := in_2 52 rfl rfl
theorem wd_325 : Cond.methodLink RL 32 yX5_reach ∈ lwG := in_2 53 rfl rfl
theorem wd_326 : Cond.instanceMethod yX5_reach ∈ lwG := in_2 54 rfl rfl
theorem wd_327 : Cond.selects RX5 yX5_reach yX5_reach ∈ lwG := in_2 55 rfl rfl
theorem wd_328 : Cond.code yX5_reach cX5_reach 7 (some .int) ∈ lwG := in_2 56 rfl rfl
theorem wd_329 : Cond.methodLink RX5 122 yX5_refusalOfRace ∈ lwG := in_2 57 rfl rfl
theorem wd_331 : Cond.instanceMethod yX5_refusalOfRace ∈ lwG := in_2 59 rfl rfl
theorem wd_332 : Cond.code yX5_refusalOfRace cX5_refusalOfRace 5 (some .int) ∈ lwG := in_2 60 rfl rfl
theorem wd_333 : Cond.methodLink RX5 140 yX5_isFeet ∈ lwG := in_2 61 rfl rfl
theorem wd_334 : Cond.static yX5_isFeet ∈ lwG := in_2 62 rfl rfl
theorem wd_335 : Cond.code yX5_isFeet cX5_isFeet 1 (some .boolean) ∈ lwG := in_2 63 rfl rfl
theorem wd_336 : Cond.methodLink RX5 126 yX5_timeTo ∈ lwG := in_2 64 rfl rfl
theorem wd_338 : Cond.instanceMethod yX5_timeTo ∈ lwG := in_2 66 rfl rfl
theorem wd_339 : Cond.code yX5_timeTo cX5_timeTo 4 (some .int) ∈ lwG := in_2 67 rfl rfl
theorem wd_340 : Cond.methodLink RX5 168 yX4_timeTo ∈ lwG := in_2 68 rfl rfl
theorem wd_341 : Cond.instanceMethod yX4_timeTo ∈ lwG := in_2 69 rfl rfl
theorem wd_342 : Cond.selects RX4 yX4_timeTo yX4_timeTo ∈ lwG := in_2 70 rfl rfl
theorem wd_343 : Cond.code yX4_timeTo cX4_timeTo 4 (some .int) ∈ lwG := in_2 71 rfl rfl
theorem wd_344 : Cond.methodLink RX4 98 yX4_speedUp ∈ lwG := in_2 72 rfl rfl
theorem wd_346 : Cond.instanceMethod yX4_speedUp ∈ lwG := in_2 74 rfl rfl
theorem wd_347 : Cond.code yX4_speedUp cX4_speedUp 1 none ∈ lwG := in_2 75 rfl rfl
theorem wd_348 : Cond.methodLink RX4 101 yX4_step ∈ lwG := in_2 76 rfl rfl
theorem wd_349 : Cond.methodLink RX4 104 yX4_time ∈ lwG := in_2 77 rfl rfl
theorem wd_350 : Cond.methodLink RL 36 yX5_who ∈ lwG := in_2 78 rfl rfl
theorem wd_351 : Cond.instanceMethod yX5_who ∈ lwG := in_2 79 rfl rfl
theorem wd_352 : Cond.selects RX5 yX5_who yX5_who ∈ lwG := in_2 80 rfl rfl
theorem wd_353 : Cond.code yX5_who cX5_who 4 (some .int) ∈ lwG := in_2 81 rfl rfl
theorem wd_354 : Cond.methodLink RX5 133 yX4_standsFor ∈ lwG := in_2 82 rfl rfl
theorem wd_355 : Cond.instanceMethod yX4_standsFor ∈ lwG := in_2 83 rfl rfl
theorem wd_356 : Cond.selects RX4 yX4_standsFor yX4_standsFor ∈ lwG := in_2 84 rfl rfl
theorem wd_357 : Cond.code yX4_standsFor cX4_standsFor 3 (some .boolean) ∈ lwG := in_2 85 rfl rfl
theorem wd_358 : Cond.methodLink RL 41 yX5_alone ∈ lwG := in_2 86 rfl rfl
theorem wd_359 : Cond.instanceMethod yX5_alone ∈ lwG := in_2 87 rfl rfl
theorem wd_360 : Cond.selects RX5 yX5_alone yX5_alone ∈ lwG := in_2 88 rfl rfl
theorem wd_361 : Cond.code yX5_alone cX5_alone 6 (some .int) ∈ lwG := in_2 89 rfl rfl
theorem wd_362 : Cond.methodLink RL 45 yX5_tied ∈ lwG := in_2 90 rfl rfl
theorem wd_363 : Cond.instanceMethod yX5_tied ∈ lwG := in_2 91 rfl rfl
theorem wd_364 : Cond.selects RX5 yX5_tied yX5_tied ∈ lwG := in_2 92 rfl rfl
theorem wd_365 : Cond.code yX5_tied cX5_tied 5 (some .int) ∈ lwG := in_2 93 rfl rfl
theorem wd_366 : Cond.methodLink RX5 149 yX5_timeAllPairs ∈ lwG := in_2 94 rfl rfl
theorem wd_368 : Cond.instanceMethod yX5_timeAllPairs ∈ lwG := in_2 96 rfl rfl
theorem wd_369 : Cond.code yX5_timeAllPairs cX5_timeAllPairs 5 none ∈ lwG := in_2 97 rfl rfl
theorem wd_370 : Cond.methodLink RX5 152 yX2_seek ∈ lwG := in_2 98 rfl rfl
theorem wd_371 : Cond.instanceMethod yX2_seek ∈ lwG := in_2 99 rfl rfl
theorem wd_372 : Cond.selects RX2 yX2_seek yX2_seek ∈ lwG := in_2 100 rfl rfl
theorem wd_373 : Cond.code yX2_seek cX2_seek 7 none ∈ lwG := in_2 101 rfl rfl
theorem wd_374 : Cond.methodLink RX2 24 yX0_count ∈ lwG := in_2 102 rfl rfl
theorem wd_375 : Cond.constant RX2 36 (2147483647) ∈ lwG := in_2 103 rfl rfl
theorem wd_376 : Cond.methodLink RX2 40 yX2_costOfPicks ∈ lwG := in_2 104 rfl rfl
theorem wd_378 : Cond.instanceMethod yX2_costOfPicks ∈ lwG := in_2 106 rfl rfl
theorem wd_379 : Cond.code yX2_costOfPicks cX2_costOfPicks 11 (some .int) ∈ lwG := in_2 107 rfl rfl
theorem wd_380 : Cond.methodLink RX2 54 yX2_lineUp ∈ lwG := in_2 108 rfl rfl
theorem wd_382 : Cond.instanceMethod yX2_lineUp ∈ lwG := in_2 110 rfl rfl
theorem wd_383 : Cond.code yX2_lineUp cX2_lineUp 4 (some .int) ∈ lwG := in_2 111 rfl rfl
theorem wd_384 : Cond.methodLink RX2 69 yX0_hasRunner ∈ lwG := in_2 112 rfl rfl
theorem wd_385 : Cond.constant RX2 58 (100000) ∈ lwG := in_2 113 rfl rfl
theorem wd_386 : Cond.methodLink RX2 59 Lib.Math.max.name ∈ lwG := in_2 114 rfl rfl
theorem wd_387 : Cond.methodLink RX2 65 yX2_takeOut ∈ lwG := in_2 115 rfl rfl
theorem wd_389 : Cond.instanceMethod yX2_takeOut ∈ lwG := in_2 117 rfl rfl
theorem wd_390 : Cond.code yX2_takeOut cX2_takeOut 4 none ∈ lwG := in_2 118 rfl rfl
theorem wd_391 : Cond.methodLink RX2 44 arraycopyName ∈ lwG := in_2 119 rfl rfl
theorem wd_392 : Cond.static arraycopyName ∈ lwG := in_2 120 rfl rfl
theorem wd_393 : Cond.native arraycopyName ∈ lwG := in_2 121 rfl rfl
theorem wd_394 : Cond.methodLink RX2 50 yX2_goToNextPicks ∈ lwG := in_2 122 rfl rfl
theorem wd_396 : Cond.instanceMethod yX2_goToNextPicks ∈ lwG := in_2 124 rfl rfl
theorem wd_397 : Cond.code yX2_goToNextPicks cX2_goToNextPicks 2 (some .boolean) ∈ lwG := in_2 125 rfl rfl
theorem wd_398 : Cond.methodLink RL 49 yX5_call ∈ lwG := in_2 126 rfl rfl
theorem wd_399 : Cond.instanceMethod yX5_call ∈ lwG := in_2 127 rfl rfl
theorem wd_400 : Cond.selects RX5 yX5_call yX5_call ∈ lwG := in_2 128 rfl rfl
theorem wd_401 : Cond.code yX5_call cX5_call 7 (some .int) ∈ lwG := in_2 129 rfl rfl
theorem wd_402 : Cond.methodLink RX5 162 yX3_clear ∈ lwG := in_2 130 rfl rfl
theorem wd_403 : Cond.instanceMethod yX3_clear ∈ lwG := in_2 131 rfl rfl
theorem wd_404 : Cond.selects RX3 yX3_clear yX3_clear ∈ lwG := in_2 132 rfl rfl
theorem wd_405 : Cond.code yX3_clear cX3_clear 1 none ∈ lwG := in_2 133 rfl rfl
theorem wd_406 : Cond.methodLink RX5 165 yX4_beatBoth ∈ lwG := in_2 134 rfl rfl
theorem wd_407 : Cond.instanceMethod yX4_beatBoth ∈ lwG := in_2 135 rfl rfl
theorem wd_408 : Cond.selects RX4 yX4_beatBoth yX4_beatBoth ∈ lwG := in_2 136 rfl rfl
theorem wd_409 : Cond.code yX4_beatBoth cX4_beatBoth 2 none ∈ lwG := in_2 137 rfl rfl
theorem wd_410 : Cond.methodLink RX5 171 yX3_offer ∈ lwG := in_2 138 rfl rfl
theorem wd_411 : Cond.instanceMethod yX3_offer ∈ lwG := in_2 139 rfl rfl
theorem wd_412 : Cond.selects RX3 yX3_offer yX3_offer ∈ lwG := in_2 140 rfl rfl
theorem wd_413 : Cond.code yX3_offer cX3_offer 3 none ∈ lwG := in_2 141 rfl rfl
theorem wd_414 : Cond.methodLink RX5 175 yX3_answer ∈ lwG := in_2 142 rfl rfl
theorem wd_415 : Cond.instanceMethod yX3_answer ∈ lwG := in_2 143 rfl rfl
theorem wd_416 : Cond.selects RX3 yX3_answer yX3_answer ∈ lwG := in_2 144 rfl rfl
theorem wd_417 : Cond.code yX3_answer cX3_answer 2 (some .int) ∈ lwG := in_2 145 rfl rfl
theorem wd_418 : Cond.methodLink RL 53 yX5_quicken ∈ lwG := in_2 146 rfl rfl
theorem wd_419 : Cond.instanceMethod yX5_quicken ∈ lwG := in_2 147 rfl rfl
theorem wd_420 : Cond.selects RX5 yX5_quicken yX5_quicken ∈ lwG := in_2 148 rfl rfl
theorem wd_421 : Cond.code yX5_quicken cX5_quicken 7 (some .int) ∈ lwG := in_2 149 rfl rfl
theorem wd_422 : Cond.methodLink RL 57 yX5_yields ∈ lwG := in_2 150 rfl rfl
theorem wd_423 : Cond.instanceMethod yX5_yields ∈ lwG := in_2 151 rfl rfl
theorem wd_424 : Cond.selects RX5 yX5_yields yX5_yields ∈ lwG := in_2 152 rfl rfl
theorem wd_425 : Cond.code yX5_yields cX5_yields 8 (some .int) ∈ lwG := in_2 153 rfl rfl
theorem wd_426 : Cond.methodLink RX5 178 yX4_give ∈ lwG := in_2 154 rfl rfl
theorem wd_427 : Cond.instanceMethod yX4_give ∈ lwG := in_2 155 rfl rfl
theorem wd_428 : Cond.selects RX4 yX4_give yX4_give ∈ lwG := in_2 156 rfl rfl
theorem wd_429 : Cond.code yX4_give cX4_give 3 none ∈ lwG := in_2 157 rfl rfl
theorem wd_430 : Cond.methodLink RL 61 yX5_practice ∈ lwG := in_2 158 rfl rfl
theorem wd_431 : Cond.instanceMethod yX5_practice ∈ lwG := in_2 159 rfl rfl
theorem wd_432 : Cond.selects RX5 yX5_practice yX5_practice ∈ lwG := in_2 160 rfl rfl
theorem wd_433 : Cond.code yX5_practice cX5_practice 11 (some .int) ∈ lwG := in_2 161 rfl rfl
theorem wd_434 : Cond.methodLink RX5 183 yX5_standsWith ∈ lwG := in_2 162 rfl rfl
theorem wd_436 : Cond.instanceMethod yX5_standsWith ∈ lwG := in_2 164 rfl rfl
theorem wd_437 : Cond.code yX5_standsWith cX5_standsWith 6 (some .boolean) ∈ lwG := in_2 165 rfl rfl
theorem wd_438 : Cond.methodLink RL 65 yX5_scarf ∈ lwG := in_2 166 rfl rfl
theorem wd_439 : Cond.instanceMethod yX5_scarf ∈ lwG := in_2 167 rfl rfl
theorem wd_440 : Cond.selects RX5 yX5_scarf yX5_scarf ∈ lwG := in_2 168 rfl rfl
theorem wd_441 : Cond.code yX5_scarf cX5_scarf 7 (some .int) ∈ lwG := in_2 169 rfl rfl
theorem wd_442 : Cond.methodLink RL 69 yX5_even ∈ lwG := in_2 170 rfl rfl
theorem wd_443 : Cond.instanceMethod yX5_even ∈ lwG := in_2 171 rfl rfl
theorem wd_444 : Cond.selects RX5 yX5_even yX5_even ∈ lwG := in_2 172 rfl rfl
theorem wd_445 : Cond.code yX5_even cX5_even 7 (some .int) ∈ lwG := in_2 173 rfl rfl
theorem wd_446 : Cond.methodLink RX5 188 yX4_feetWithin ∈ lwG := in_2 174 rfl rfl
theorem wd_447 : Cond.instanceMethod yX4_feetWithin ∈ lwG := in_2 175 rfl rfl
theorem wd_448 : Cond.selects RX4 yX4_feetWithin yX4_feetWithin ∈ lwG := in_2 176 rfl rfl
theorem wd_449 : Cond.code yX4_feetWithin cX4_feetWithin 4 (some .int) ∈ lwG := in_2 177 rfl rfl
theorem wd_450 : Cond.methodLink RX5 191 Lib.Math.max.name ∈ lwG := in_2 178 rfl rfl
theorem wd_451 : Cond.methodLink RL 74 yX5_say ∈ lwG := in_2 179 rfl rfl
theorem wd_452 : Cond.instanceMethod yX5_say ∈ lwG := in_2 180 rfl rfl
theorem wd_453 : Cond.selects RX5 yX5_say yX5_say ∈ lwG := in_2 181 rfl rfl
theorem wd_454 : Cond.code yX5_say cX5_say 2 (some .int) ∈ lwG := in_2 182 rfl rfl
theorem wd_455 : Cond.methodLink RX5 198 yX1_add ∈ lwG := in_2 183 rfl rfl
theorem wd_456 : Cond.instanceMethod yX1_add ∈ lwG := in_2 184 rfl rfl
theorem wd_457 : Cond.selects RX1 yX1_add yX1_add ∈ lwG := in_2 185 rfl rfl
theorem wd_458 : Cond.code yX1_add cX1_add 2 none ∈ lwG := in_2 186 rfl rfl
theorem wd_459 : Cond.methodLink RL 78 yX5_wipe ∈ lwG := in_2 187 rfl rfl
theorem wd_460 : Cond.instanceMethod yX5_wipe ∈ lwG := in_2 188 rfl rfl
theorem wd_461 : Cond.selects RX5 yX5_wipe yX5_wipe ∈ lwG := in_2 189 rfl rfl
theorem wd_462 : Cond.code yX5_wipe cX5_wipe 2 (some .int) ∈ lwG := in_2 190 rfl rfl
theorem wd_463 : Cond.methodLink RL 83 yX5_fault ∈ lwG := in_2 191 rfl rfl
theorem wd_464 : Cond.instanceMethod yX5_fault ∈ lwG := in_2 192 rfl rfl
theorem wd_465 : Cond.selects RX5 yX5_fault yX5_fault ∈ lwG := in_2 193 rfl rfl
theorem wd_466 : Cond.code yX5_fault cX5_fault 1 (some .int) ∈ lwG := in_2 194 rfl rfl
theorem wd_467 : Cond.methodLink RX5 201 yX1_firstFault ∈ lwG := in_2 195 rfl rfl
theorem wd_468 : Cond.instanceMethod yX1_firstFault ∈ lwG := in_2 196 rfl rfl
theorem wd_469 : Cond.selects RX1 yX1_firstFault yX1_firstFault ∈ lwG := in_2 197 rfl rfl
theorem wd_470 : Cond.code yX1_firstFault cX1_firstFault 3 (some .int) ∈ lwG := in_2 198 rfl rfl
theorem wd_471 : Cond.methodLink RL 87 yX5_judge ∈ lwG := in_2 199 rfl rfl
theorem wd_472 : Cond.instanceMethod yX5_judge ∈ lwG := in_2 200 rfl rfl
theorem wd_473 : Cond.selects RX5 yX5_judge yX5_judge ∈ lwG := in_2 201 rfl rfl
theorem wd_474 : Cond.code yX5_judge cX5_judge 3 (some .int) ∈ lwG := in_2 202 rfl rfl
theorem wd_475 : Cond.methodLink RX5 204 yX5_firstUnlike ∈ lwG := in_2 203 rfl rfl
theorem wd_477 : Cond.instanceMethod yX5_firstUnlike ∈ lwG := in_2 205 rfl rfl
theorem wd_478 : Cond.code yX5_firstUnlike cX5_firstUnlike 4 (some .int) ∈ lwG := in_2 206 rfl rfl
theorem wd_479 : Cond.methodLink RX5 224 yX1_canShow ∈ lwG := in_2 207 rfl rfl
theorem wd_480 : Cond.instanceMethod yX1_canShow ∈ lwG := in_2 208 rfl rfl
theorem wd_481 : Cond.selects RX1 yX1_canShow yX1_canShow ∈ lwG := in_2 209 rfl rfl
theorem wd_482 : Cond.code yX1_canShow cX1_canShow 3 (some .boolean) ∈ lwG := in_2 210 rfl rfl
theorem wd_483 : Cond.methodLink RL 91 yX5_fits ∈ lwG := in_2 211 rfl rfl
theorem wd_484 : Cond.instanceMethod yX5_fits ∈ lwG := in_2 212 rfl rfl
theorem wd_485 : Cond.selects RX5 yX5_fits yX5_fits ∈ lwG := in_2 213 rfl rfl
theorem wd_486 : Cond.code yX5_fits cX5_fits 5 (some .int) ∈ lwG := in_2 214 rfl rfl
theorem wd_487 : Cond.methodLink RL 95 yX5_year ∈ lwG := in_2 215 rfl rfl
theorem wd_488 : Cond.instanceMethod yX5_year ∈ lwG := in_2 216 rfl rfl
theorem wd_489 : Cond.selects RX5 yX5_year yX5_year ∈ lwG := in_2 217 rfl rfl
theorem wd_490 : Cond.code yX5_year cX5_year 12 (some .int) ∈ lwG := in_2 218 rfl rfl
theorem wd_491 : Cond.constant RX5 207 (65537) ∈ lwG := in_2 219 rfl rfl
theorem wd_492 : Cond.methodLink RL 99 yX5_image ∈ lwG := in_2 220 rfl rfl
theorem wd_493 : Cond.instanceMethod yX5_image ∈ lwG := in_2 221 rfl rfl
theorem wd_494 : Cond.selects RX5 yX5_image yX5_image ∈ lwG := in_2 222 rfl rfl
theorem wd_495 : Cond.code yX5_image cX5_image 2 (some .int) ∈ lwG := in_2 223 rfl rfl
theorem wd_496 : Cond.methodLink RX5 210 yX0_copyFrom ∈ lwG := in_2 224 rfl rfl
theorem wd_497 : Cond.instanceMethod yX0_copyFrom ∈ lwG := in_2 225 rfl rfl
theorem wd_498 : Cond.selects RX0 yX0_copyFrom yX0_copyFrom ∈ lwG := in_2 226 rfl rfl
theorem wd_499 : Cond.code yX0_copyFrom cX0_copyFrom 3 none ∈ lwG := in_2 227 rfl rfl
theorem wd_500 : Cond.methodLink RL 103 yX5_restore ∈ lwG := in_2 228 rfl rfl
theorem wd_501 : Cond.instanceMethod yX5_restore ∈ lwG := in_2 229 rfl rfl
theorem wd_502 : Cond.selects RX5 yX5_restore yX5_restore ∈ lwG := in_2 230 rfl rfl
theorem wd_503 : Cond.code yX5_restore cX5_restore 2 (some .int) ∈ lwG := in_2 231 rfl rfl
theorem wd_504 : Cond.methodLink RL 107 yX5_told ∈ lwG := in_2 232 rfl rfl
theorem wd_505 : Cond.instanceMethod yX5_told ∈ lwG := in_2 233 rfl rfl
theorem wd_506 : Cond.selects RX5 yX5_told yX5_told ∈ lwG := in_2 234 rfl rfl
theorem wd_507 : Cond.code yX5_told cX5_told 2 (some .int) ∈ lwG := in_2 235 rfl rfl
theorem wd_508 : Cond.methodLink RX5 214 yX0_bits ∈ lwG := in_2 236 rfl rfl
theorem wd_509 : Cond.methodLink RX5 217 yX5_toldOfPerson ∈ lwG := in_2 237 rfl rfl
theorem wd_511 : Cond.instanceMethod yX5_toldOfPerson ∈ lwG := in_2 239 rfl rfl
theorem wd_512 : Cond.code yX5_toldOfPerson cX5_toldOfPerson 3 (some .int) ∈ lwG := in_3 0 rfl rfl
theorem wd_513 : Cond.classLink RL 10 RX6 ∈ lwG := in_3 1 rfl rfl
theorem wd_514 : Cond.instantiable RX6 33 ∈ lwG := in_3 2 rfl rfl
theorem wd_515 : Cond.methodLink RL 12 yX6_init ∈ lwG := in_3 3 rfl rfl
theorem wd_516 : Cond.instanceMethod yX6_init ∈ lwG := in_3 4 rfl rfl
theorem wd_517 : Cond.code yX6_init cX6_init 1 none ∈ lwG := in_3 5 rfl rfl
theorem wd_518 : Cond.methodLink RX6 1 objectInit ∈ lwG := in_3 6 rfl rfl
theorem wd_519 : Cond.fieldLink RX6 54 "ThreeLegsModel" "running" "I" ∈ lwG := in_3 7 rfl rfl
theorem wd_520 : Cond.fieldLink RX6 7 "ThreeLegsModel" "beat" "[I" ∈ lwG := in_3 8 rfl rfl
theorem wd_521 : Cond.fieldLink RX6 13 "ThreeLegsModel" "length" "[I" ∈ lwG := in_3 9 rfl rfl
theorem wd_522 : Cond.fieldLink RX6 16 "ThreeLegsModel" "give" "[I" ∈ lwG := in_3 10 rfl rfl
theorem wd_523 : Cond.fieldLink RX6 38 "ThreeLegsModel" "lurch" "I" ∈ lwG := in_3 11 rfl rfl
theorem wd_524 : Cond.fieldLink RX6 42 "ThreeLegsModel" "fall" "I" ∈ lwG := in_3 12 rfl rfl
theorem wd_525 : Cond.fieldLink RX6 45 "ThreeLegsModel" "up" "I" ∈ lwG := in_3 13 rfl rfl
theorem wd_526 : Cond.fieldLink RX6 73 "ThreeLegsModel" "beatA" "I" ∈ lwG := in_3 14 rfl rfl
theorem wd_527 : Cond.fieldLink RX6 76 "ThreeLegsModel" "beatB" "I" ∈ lwG := in_3 15 rfl rfl
theorem wd_528 : Cond.fieldLink RX6 79 "ThreeLegsModel" "giveA" "I" ∈ lwG := in_3 16 rfl rfl
theorem wd_529 : Cond.fieldLink RX6 82 "ThreeLegsModel" "giveB" "I" ∈ lwG := in_3 17 rfl rfl
theorem wd_530 : Cond.fieldLink RX6 85 "ThreeLegsModel" "stride" "I" ∈ lwG := in_3 18 rfl rfl
theorem wd_531 : Cond.fieldLink RX6 88 "ThreeLegsModel" "quickFrom" "I" ∈ lwG := in_3 19 rfl rfl
theorem wd_532 : Cond.fieldLink RX6 91 "ThreeLegsModel" "tight" "I" ∈ lwG := in_3 20 rfl rfl
theorem wd_533 : Cond.fieldLink RX6 94 "ThreeLegsModel" "timeA" "I" ∈ lwG := in_3 21 rfl rfl
theorem wd_534 : Cond.fieldLink RX6 97 "ThreeLegsModel" "timeB" "I" ∈ lwG := in_3 22 rfl rfl
theorem wd_535 : Cond.fieldLink RX6 100 "ThreeLegsModel" "feet" "I" ∈ lwG := in_3 23 rfl rfl
theorem wd_536 : Cond.fieldLink RX6 103 "ThreeLegsModel" "lurches" "I" ∈ lwG := in_3 24 rfl rfl
theorem wd_537 : Cond.fieldLink RX6 106 "ThreeLegsModel" "falls" "I" ∈ lwG := in_3 25 rfl rfl
theorem wd_538 : Cond.fieldLink RX6 109 "ThreeLegsModel" "steps" "I" ∈ lwG := in_3 26 rfl rfl
theorem wd_539 : Cond.fieldLink RX6 119 "ThreeLegsModel" "how" "I" ∈ lwG := in_3 27 rfl rfl
theorem wd_540 : Cond.fieldLink RX6 122 "ThreeLegsModel" "earlier" "I" ∈ lwG := in_3 28 rfl rfl
theorem wd_541 : Cond.fieldLink RX6 19 "ThreeLegsModel" "timeBy" "[I" ∈ lwG := in_3 29 rfl rfl
theorem wd_542 : Cond.fieldLink RX6 22 "ThreeLegsModel" "with" "[I" ∈ lwG := in_3 30 rfl rfl
theorem wd_543 : Cond.fieldLink RX6 25 "ThreeLegsModel" "bestWith" "[I" ∈ lwG := in_3 31 rfl rfl
theorem wd_544 : Cond.fieldLink RX6 166 "ThreeLegsModel" "bestIs" "I" ∈ lwG := in_3 32 rfl rfl
theorem wd_545 : Cond.fieldLink RX6 163 "ThreeLegsModel" "bestTime" "I" ∈ lwG := in_3 33 rfl rfl
theorem wd_546 : Cond.fieldLink RX6 28 "ThreeLegsModel" "pad" "[I" ∈ lwG := in_3 34 rfl rfl
theorem wd_547 : Cond.fieldLink RX6 190 "ThreeLegsModel" "padMany" "I" ∈ lwG := in_3 35 rfl rfl
theorem wd_548 : Cond.fieldLink RX6 31 "ThreeLegsModel" "kept" "[I" ∈ lwG := in_3 36 rfl rfl
theorem wd_549 : Cond.fieldLink RX6 34 "ThreeLegsModel" "isKept" "[Z" ∈ lwG := in_3 37 rfl rfl
theorem wd_550 : Cond.fieldLink RX6 214 "ThreeLegsModel" "keptAt" "I" ∈ lwG := in_3 38 rfl rfl
theorem wd_551 : Cond.fieldLink RX6 210 "ThreeLegsModel" "isWriting" "Z" ∈ lwG := in_3 39 rfl rfl
theorem wd_619 : Cond.methodLink RL 17 yX6_run ∈ lwG := in_3 107 rfl rfl
theorem wd_620 : Cond.instanceMethod yX6_run ∈ lwG := in_3 108 rfl rfl
theorem wd_621 : Cond.selects RX6 yX6_run yX6_run ∈ lwG := in_3 109 rfl rfl
theorem wd_622 : Cond.code yX6_run cX6_run 5 (some .int) ∈ lwG := in_3 110 rfl rfl
theorem wd_623 : Cond.constantLong RX6 48 (7) ∈ lwG := in_3 111 rfl rfl
theorem wd_624 : Cond.methodLink RX6 50 yX6_in ∈ lwG := in_3 112 rfl rfl
theorem wd_625 : Cond.static yX6_in ∈ lwG := in_3 113 rfl rfl
theorem wd_626 : Cond.code yX6_in cX6_in 6 (some .boolean) ∈ lwG := in_3 114 rfl rfl
theorem wd_627 : Cond.constantLong RX6 57 (4) ∈ lwG := in_3 115 rfl rfl
theorem wd_628 : Cond.constantLong RX6 59 (20) ∈ lwG := in_3 116 rfl rfl
theorem wd_629 : Cond.constantLong RX6 61 (9) ∈ lwG := in_3 117 rfl rfl
theorem wd_630 : Cond.methodLink RX6 63 yX6_ones ∈ lwG := in_3 118 rfl rfl
theorem wd_631 : Cond.static yX6_ones ∈ lwG := in_3 119 rfl rfl
theorem wd_632 : Cond.code yX6_ones cX6_ones 3 (some .int) ∈ lwG := in_3 120 rfl rfl
theorem wd_633 : Cond.methodLink RL 22 yX6_rest ∈ lwG := in_3 121 rfl rfl
theorem wd_634 : Cond.instanceMethod yX6_rest ∈ lwG := in_3 122 rfl rfl
theorem wd_635 : Cond.selects RX6 yX6_rest yX6_rest ∈ lwG := in_3 123 rfl rfl
theorem wd_636 : Cond.code yX6_rest cX6_rest 2 (some .int) ∈ lwG := in_3 124 rfl rfl
theorem wd_637 : Cond.methodLink RX6 67 yX6_runs ∈ lwG := in_3 125 rfl rfl
theorem wd_639 : Cond.instanceMethod yX6_runs ∈ lwG := in_3 127 rfl rfl
theorem wd_640 : Cond.code yX6_runs cX6_runs 2 (some .boolean) ∈ lwG := in_3 128 rfl rfl
theorem wd_641 : Cond.methodLink RL 27 yX6_set ∈ lwG := in_3 129 rfl rfl
theorem wd_642 : Cond.instanceMethod yX6_set ∈ lwG := in_3 130 rfl rfl
theorem wd_643 : Cond.selects RX6 yX6_set yX6_set ∈ lwG := in_3 131 rfl rfl
theorem wd_644 : Cond.code yX6_set cX6_set 5 (some .int) ∈ lwG := in_3 132 rfl rfl
theorem wd_645 : Cond.constantLong RX6 71 (99) ∈ lwG := in_3 133 rfl rfl
theorem wd_646 : Cond.methodLink RL 31 yX6_pair ∈ lwG := in_3 134 rfl rfl
theorem wd_647 : Cond.instanceMethod yX6_pair ∈ lwG := in_3 135 rfl rfl
theorem wd_648 : Cond.selects RX6 yX6_pair yX6_pair ∈ lwG := in_3 136 rfl rfl
theorem wd_649 : Cond.code yX6_pair cX6_pair 6 (some .int) ∈ lwG := in_3 137 rfl rfl
theorem wd_650 : Cond.methodLink RX6 136 yX6_isPair ∈ lwG := in_3 138 rfl rfl
theorem wd_652 : Cond.instanceMethod yX6_isPair ∈ lwG := in_3 140 rfl rfl
theorem wd_653 : Cond.code yX6_isPair cX6_isPair 3 (some .boolean) ∈ lwG := in_3 141 rfl rfl
theorem wd_654 : Cond.constantLong RX6 140 (999) ∈ lwG := in_3 142 rfl rfl
theorem wd_655 : Cond.methodLink RX6 142 yX6_layPair ∈ lwG := in_3 143 rfl rfl
theorem wd_657 : Cond.instanceMethod yX6_layPair ∈ lwG := in_3 145 rfl rfl
theorem wd_658 : Cond.code yX6_layPair cX6_layPair 3 none ∈ lwG := in_3 146 rfl rfl
theorem wd_659 : Cond.methodLink RX6 125 yX6_begin ∈ lwG := in_3 147 rfl rfl
theorem wd_661 : Cond.instanceMethod yX6_begin ∈ lwG := in_3 149 rfl rfl
theorem wd_662 : Cond.code yX6_begin cX6_begin 1 none ∈ lwG := in_3 150 rfl rfl
theorem wd_663 : Cond.methodLink RX6 128 yX6_step ∈ lwG := in_3 151 rfl rfl
theorem wd_665 : Cond.instanceMethod yX6_step ∈ lwG := in_3 153 rfl rfl
theorem wd_666 : Cond.code yX6_step cX6_step 5 none ∈ lwG := in_3 154 rfl rfl
theorem wd_667 : Cond.methodLink RX6 112 yX6_quicker ∈ lwG := in_3 155 rfl rfl
theorem wd_669 : Cond.instanceMethod yX6_quicker ∈ lwG := in_3 157 rfl rfl
theorem wd_670 : Cond.code yX6_quicker cX6_quicker 2 (some .int) ∈ lwG := in_3 158 rfl rfl
theorem wd_671 : Cond.methodLink RX6 115 yX6_next ∈ lwG := in_3 159 rfl rfl
theorem wd_672 : Cond.static yX6_next ∈ lwG := in_3 160 rfl rfl
theorem wd_673 : Cond.code yX6_next cX6_next 5 (some .int) ∈ lwG := in_3 161 rfl rfl
theorem wd_674 : Cond.methodLink RX6 131 yX6_time ∈ lwG := in_3 162 rfl rfl
theorem wd_676 : Cond.instanceMethod yX6_time ∈ lwG := in_3 164 rfl rfl
theorem wd_677 : Cond.code yX6_time cX6_time 1 (some .int) ∈ lwG := in_3 165 rfl rfl
theorem wd_678 : Cond.methodLink RL 35 yX6_reach ∈ lwG := in_3 166 rfl rfl
theorem wd_679 : Cond.instanceMethod yX6_reach ∈ lwG := in_3 167 rfl rfl
theorem wd_680 : Cond.selects RX6 yX6_reach yX6_reach ∈ lwG := in_3 168 rfl rfl
theorem wd_681 : Cond.code yX6_reach cX6_reach 6 (some .int) ∈ lwG := in_3 169 rfl rfl
theorem wd_682 : Cond.methodLink RX6 146 yX6_isFar ∈ lwG := in_3 170 rfl rfl
theorem wd_683 : Cond.static yX6_isFar ∈ lwG := in_3 171 rfl rfl
theorem wd_684 : Cond.code yX6_isFar cX6_isFar 1 (some .boolean) ∈ lwG := in_3 172 rfl rfl
theorem wd_685 : Cond.methodLink RX6 149 yX6_timeOf ∈ lwG := in_3 173 rfl rfl
theorem wd_687 : Cond.instanceMethod yX6_timeOf ∈ lwG := in_3 175 rfl rfl
theorem wd_688 : Cond.code yX6_timeOf cX6_timeOf 2 (some .int) ∈ lwG := in_3 176 rfl rfl
theorem wd_689 : Cond.constant RX6 135 (1000000000) ∈ lwG := in_3 177 rfl rfl
theorem wd_690 : Cond.methodLink RL 40 yX6_who ∈ lwG := in_3 178 rfl rfl
theorem wd_691 : Cond.instanceMethod yX6_who ∈ lwG := in_3 179 rfl rfl
theorem wd_692 : Cond.selects RX6 yX6_who yX6_who ∈ lwG := in_3 180 rfl rfl
theorem wd_693 : Cond.code yX6_who cX6_who 4 (some .int) ∈ lwG := in_3 181 rfl rfl
theorem wd_694 : Cond.methodLink RL 44 yX6_alone ∈ lwG := in_3 182 rfl rfl
theorem wd_695 : Cond.instanceMethod yX6_alone ∈ lwG := in_3 183 rfl rfl
theorem wd_696 : Cond.selects RX6 yX6_alone yX6_alone ∈ lwG := in_3 184 rfl rfl
theorem wd_697 : Cond.code yX6_alone cX6_alone 3 (some .int) ∈ lwG := in_3 185 rfl rfl
theorem wd_698 : Cond.methodLink RL 48 yX6_tied ∈ lwG := in_3 186 rfl rfl
theorem wd_699 : Cond.instanceMethod yX6_tied ∈ lwG := in_3 187 rfl rfl
theorem wd_700 : Cond.selects RX6 yX6_tied yX6_tied ∈ lwG := in_3 188 rfl rfl
theorem wd_701 : Cond.code yX6_tied cX6_tied 10 (some .int) ∈ lwG := in_3 189 rfl rfl
theorem wd_702 : Cond.methodLink RX6 153 yX6_findTimes ∈ lwG := in_3 190 rfl rfl
theorem wd_704 : Cond.instanceMethod yX6_findTimes ∈ lwG := in_3 192 rfl rfl
theorem wd_705 : Cond.code yX6_findTimes cX6_findTimes 5 none ∈ lwG := in_3 193 rfl rfl
theorem wd_706 : Cond.constant RX6 152 (100000) ∈ lwG := in_3 194 rfl rfl
theorem wd_707 : Cond.methodLink RX6 157 yX6_tie ∈ lwG := in_3 195 rfl rfl
theorem wd_709 : Cond.instanceMethod yX6_tie ∈ lwG := in_3 197 rfl rfl
theorem wd_710 : Cond.code yX6_tie cX6_tie 9 none ∈ lwG := in_3 198 rfl rfl
theorem wd_711 : Cond.methodLink RX6 160 yX6_tiedBy ∈ lwG := in_3 199 rfl rfl
theorem wd_713 : Cond.instanceMethod yX6_tiedBy ∈ lwG := in_3 201 rfl rfl
theorem wd_714 : Cond.code yX6_tiedBy cX6_tiedBy 5 (some .int) ∈ lwG := in_3 202 rfl rfl
theorem wd_715 : Cond.methodLink RL 52 yX6_call ∈ lwG := in_3 203 rfl rfl
theorem wd_716 : Cond.instanceMethod yX6_call ∈ lwG := in_3 204 rfl rfl
theorem wd_717 : Cond.selects RX6 yX6_call yX6_call ∈ lwG := in_3 205 rfl rfl
theorem wd_718 : Cond.code yX6_call cX6_call 6 (some .int) ∈ lwG := in_3 206 rfl rfl
theorem wd_719 : Cond.methodLink RX6 169 yX6_isAsked ∈ lwG := in_3 207 rfl rfl
theorem wd_720 : Cond.static yX6_isAsked ∈ lwG := in_3 208 rfl rfl
theorem wd_721 : Cond.code yX6_isAsked cX6_isAsked 2 (some .boolean) ∈ lwG := in_3 209 rfl rfl
theorem wd_722 : Cond.methodLink RX6 172 yX6_beginTries ∈ lwG := in_3 210 rfl rfl
theorem wd_724 : Cond.instanceMethod yX6_beginTries ∈ lwG := in_3 212 rfl rfl
theorem wd_725 : Cond.code yX6_beginTries cX6_beginTries 1 none ∈ lwG := in_3 213 rfl rfl
theorem wd_726 : Cond.methodLink RX6 175 yX6_tryOne ∈ lwG := in_3 214 rfl rfl
theorem wd_728 : Cond.instanceMethod yX6_tryOne ∈ lwG := in_3 216 rfl rfl
theorem wd_729 : Cond.code yX6_tryOne cX6_tryOne 4 none ∈ lwG := in_3 217 rfl rfl
theorem wd_730 : Cond.methodLink RX6 178 yX6_tellBest ∈ lwG := in_3 218 rfl rfl
theorem wd_732 : Cond.instanceMethod yX6_tellBest ∈ lwG := in_3 220 rfl rfl
theorem wd_733 : Cond.code yX6_tellBest cX6_tellBest 2 (some .int) ∈ lwG := in_3 221 rfl rfl
theorem wd_734 : Cond.methodLink RL 56 yX6_quicken ∈ lwG := in_3 222 rfl rfl
theorem wd_735 : Cond.instanceMethod yX6_quicken ∈ lwG := in_3 223 rfl rfl
theorem wd_736 : Cond.selects RX6 yX6_quicken yX6_quicken ∈ lwG := in_3 224 rfl rfl
theorem wd_737 : Cond.code yX6_quicken cX6_quicken 6 (some .int) ∈ lwG := in_3 225 rfl rfl
theorem wd_738 : Cond.methodLink RL 60 yX6_yields ∈ lwG := in_3 226 rfl rfl
theorem wd_739 : Cond.instanceMethod yX6_yields ∈ lwG := in_3 227 rfl rfl
theorem wd_740 : Cond.selects RX6 yX6_yields yX6_yields ∈ lwG := in_3 228 rfl rfl
theorem wd_741 : Cond.code yX6_yields cX6_yields 6 (some .int) ∈ lwG := in_3 229 rfl rfl
theorem wd_742 : Cond.methodLink RL 64 yX6_practice ∈ lwG := in_3 230 rfl rfl
theorem wd_743 : Cond.instanceMethod yX6_practice ∈ lwG := in_3 231 rfl rfl
theorem wd_744 : Cond.selects RX6 yX6_practice yX6_practice ∈ lwG := in_3 232 rfl rfl
theorem wd_745 : Cond.code yX6_practice cX6_practice 10 (some .int) ∈ lwG := in_3 233 rfl rfl
theorem wd_746 : Cond.methodLink RX6 181 yX6_fallsIn ∈ lwG := in_3 234 rfl rfl
theorem wd_748 : Cond.instanceMethod yX6_fallsIn ∈ lwG := in_3 236 rfl rfl
theorem wd_749 : Cond.code yX6_fallsIn cX6_fallsIn 2 (some .boolean) ∈ lwG := in_3 237 rfl rfl
theorem wd_750 : Cond.methodLink RL 68 yX6_scarf ∈ lwG := in_3 238 rfl rfl
theorem wd_751 : Cond.instanceMethod yX6_scarf ∈ lwG := in_3 239 rfl rfl
theorem wd_752 : Cond.selects RX6 yX6_scarf yX6_scarf ∈ lwG := in_4 0 rfl rfl
theorem wd_753 : Cond.code yX6_scarf cX6_scarf 6 (some .int) ∈ lwG := in_4 1 rfl rfl
theorem wd_754 : Cond.constantLong RX6 184 (9999) ∈ lwG := in_4 2 rfl rfl
theorem wd_755 : Cond.methodLink RL 73 yX6_even ∈ lwG := in_4 3 rfl rfl
theorem wd_756 : Cond.instanceMethod yX6_even ∈ lwG := in_4 4 rfl rfl
theorem wd_757 : Cond.selects RX6 yX6_even yX6_even ∈ lwG := in_4 5 rfl rfl
theorem wd_758 : Cond.code yX6_even cX6_even 8 (some .int) ∈ lwG := in_4 6 rfl rfl
theorem wd_759 : Cond.methodLink RL 77 yX6_say ∈ lwG := in_4 7 rfl rfl
theorem wd_760 : Cond.instanceMethod yX6_say ∈ lwG := in_4 8 rfl rfl
theorem wd_761 : Cond.selects RX6 yX6_say yX6_say ∈ lwG := in_4 9 rfl rfl
theorem wd_762 : Cond.code yX6_say cX6_say 2 (some .int) ∈ lwG := in_4 10 rfl rfl
theorem wd_763 : Cond.constantLong RX6 186 (33) ∈ lwG := in_4 11 rfl rfl
theorem wd_764 : Cond.constantLong RX6 188 (126) ∈ lwG := in_4 12 rfl rfl
theorem wd_765 : Cond.methodLink RL 82 yX6_wipe ∈ lwG := in_4 13 rfl rfl
theorem wd_766 : Cond.instanceMethod yX6_wipe ∈ lwG := in_4 14 rfl rfl
theorem wd_767 : Cond.selects RX6 yX6_wipe yX6_wipe ∈ lwG := in_4 15 rfl rfl
theorem wd_768 : Cond.code yX6_wipe cX6_wipe 2 (some .int) ∈ lwG := in_4 16 rfl rfl
theorem wd_769 : Cond.methodLink RL 86 yX6_fault ∈ lwG := in_4 17 rfl rfl
theorem wd_770 : Cond.instanceMethod yX6_fault ∈ lwG := in_4 18 rfl rfl
theorem wd_771 : Cond.selects RX6 yX6_fault yX6_fault ∈ lwG := in_4 19 rfl rfl
theorem wd_772 : Cond.code yX6_fault cX6_fault 3 (some .int) ∈ lwG := in_4 20 rfl rfl
theorem wd_773 : Cond.methodLink RL 90 yX6_judge ∈ lwG := in_4 21 rfl rfl
theorem wd_774 : Cond.instanceMethod yX6_judge ∈ lwG := in_4 22 rfl rfl
theorem wd_775 : Cond.selects RX6 yX6_judge yX6_judge ∈ lwG := in_4 23 rfl rfl
theorem wd_776 : Cond.code yX6_judge cX6_judge 3 (some .int) ∈ lwG := in_4 24 rfl rfl
theorem wd_777 : Cond.methodLink RX6 193 yX6_fault ∈ lwG := in_4 25 rfl rfl
theorem wd_778 : Cond.methodLink RX6 196 yX6_judged ∈ lwG := in_4 26 rfl rfl
theorem wd_780 : Cond.instanceMethod yX6_judged ∈ lwG := in_4 28 rfl rfl
theorem wd_781 : Cond.code yX6_judged cX6_judged 4 (some .int) ∈ lwG := in_4 29 rfl rfl
theorem wd_782 : Cond.methodLink RL 94 yX6_fits ∈ lwG := in_4 30 rfl rfl
theorem wd_783 : Cond.instanceMethod yX6_fits ∈ lwG := in_4 31 rfl rfl
theorem wd_784 : Cond.selects RX6 yX6_fits yX6_fits ∈ lwG := in_4 32 rfl rfl
theorem wd_785 : Cond.code yX6_fits cX6_fits 5 (some .int) ∈ lwG := in_4 33 rfl rfl
theorem wd_786 : Cond.methodLink RL 98 yX6_year ∈ lwG := in_4 34 rfl rfl
theorem wd_787 : Cond.instanceMethod yX6_year ∈ lwG := in_4 35 rfl rfl
theorem wd_788 : Cond.selects RX6 yX6_year yX6_year ∈ lwG := in_4 36 rfl rfl
theorem wd_789 : Cond.code yX6_year cX6_year 13 (some .int) ∈ lwG := in_4 37 rfl rfl
theorem wd_790 : Cond.constantLong RX6 200 (-1) ∈ lwG := in_4 38 rfl rfl
theorem wd_791 : Cond.constantLong RX6 202 (8) ∈ lwG := in_4 39 rfl rfl
theorem wd_792 : Cond.constantLong RX6 204 (75) ∈ lwG := in_4 40 rfl rfl
theorem wd_793 : Cond.constantLong RX6 206 (74) ∈ lwG := in_4 41 rfl rfl
theorem wd_794 : Cond.constantLong RX6 208 (65537) ∈ lwG := in_4 42 rfl rfl
theorem wd_795 : Cond.methodLink RL 102 yX6_image ∈ lwG := in_4 43 rfl rfl
theorem wd_796 : Cond.instanceMethod yX6_image ∈ lwG := in_4 44 rfl rfl
theorem wd_797 : Cond.selects RX6 yX6_image yX6_image ∈ lwG := in_4 45 rfl rfl
theorem wd_798 : Cond.code yX6_image cX6_image 2 (some .int) ∈ lwG := in_4 46 rfl rfl
theorem wd_799 : Cond.methodLink RX6 220 yX6_passAll ∈ lwG := in_4 47 rfl rfl
theorem wd_801 : Cond.instanceMethod yX6_passAll ∈ lwG := in_4 49 rfl rfl
theorem wd_802 : Cond.code yX6_passAll cX6_passAll 2 none ∈ lwG := in_4 50 rfl rfl
theorem wd_803 : Cond.methodLink RX6 217 yX6_pass ∈ lwG := in_4 51 rfl rfl
theorem wd_805 : Cond.instanceMethod yX6_pass ∈ lwG := in_4 53 rfl rfl
theorem wd_806 : Cond.code yX6_pass cX6_pass 3 (some .int) ∈ lwG := in_4 54 rfl rfl
theorem wd_807 : Cond.methodLink RL 106 yX6_restore ∈ lwG := in_4 55 rfl rfl
theorem wd_808 : Cond.instanceMethod yX6_restore ∈ lwG := in_4 56 rfl rfl
theorem wd_809 : Cond.selects RX6 yX6_restore yX6_restore ∈ lwG := in_4 57 rfl rfl
theorem wd_810 : Cond.code yX6_restore cX6_restore 2 (some .int) ∈ lwG := in_4 58 rfl rfl
theorem wd_811 : Cond.methodLink RL 110 yX6_told ∈ lwG := in_4 59 rfl rfl
theorem wd_812 : Cond.instanceMethod yX6_told ∈ lwG := in_4 60 rfl rfl
theorem wd_813 : Cond.selects RX6 yX6_told yX6_told ∈ lwG := in_4 61 rfl rfl
theorem wd_814 : Cond.code yX6_told cX6_told 4 (some .int) ∈ lwG := in_4 62 rfl rfl
theorem wd_815 : Cond.constantLong RX6 223 (10) ∈ lwG := in_4 63 rfl rfl
theorem wd_816 : Cond.constantLong RX6 225 (89) ∈ lwG := in_4 64 rfl rfl
theorem in_X0 : ∀ w ∈ u_ws RX0 TX0 7, w ∈ lwG := by
  have e : u_ws RX0 TX0 7 = [u_lay RX0 TX0 0, u_lay RX0 TX0 1, u_lay RX0 TX0 2, u_lay RX0 TX0 3, u_lay RX0 TX0 4, u_lay RX0 TX0 5, u_lay RX0 TX0 6] := rfl
  rw [e]
  exact List.forall_mem_cons.mpr ⟨in_1 44 rfl rfl, List.forall_mem_cons.mpr ⟨in_1 46 rfl rfl, List.forall_mem_cons.mpr ⟨in_1 48 rfl rfl, List.forall_mem_cons.mpr ⟨in_1 50 rfl rfl, List.forall_mem_cons.mpr ⟨in_1 52 rfl rfl, List.forall_mem_cons.mpr ⟨in_1 54 rfl rfl, List.forall_mem_cons.mpr ⟨in_1 56 rfl rfl, (fun _ h => absurd h List.not_mem_nil)⟩⟩⟩⟩⟩⟩⟩
theorem in_X1 : ∀ w ∈ u_ws RX1 TX1 2, w ∈ lwG := by
  have e : u_ws RX1 TX1 2 = [u_lay RX1 TX1 0, u_lay RX1 TX1 1] := rfl
  rw [e]
  exact List.forall_mem_cons.mpr ⟨in_1 71 rfl rfl, List.forall_mem_cons.mpr ⟨in_1 73 rfl rfl, (fun _ h => absurd h List.not_mem_nil)⟩⟩
theorem in_X2 : ∀ w ∈ u_ws RX2 TX2 6, w ∈ lwG := by
  have e : u_ws RX2 TX2 6 = [u_lay RX2 TX2 0, u_lay RX2 TX2 1, u_lay RX2 TX2 2, u_lay RX2 TX2 3, u_lay RX2 TX2 4, u_lay RX2 TX2 5] := rfl
  rw [e]
  exact List.forall_mem_cons.mpr ⟨in_1 152 rfl rfl, List.forall_mem_cons.mpr ⟨in_1 154 rfl rfl, List.forall_mem_cons.mpr ⟨in_1 156 rfl rfl, List.forall_mem_cons.mpr ⟨in_1 158 rfl rfl, List.forall_mem_cons.mpr ⟨in_1 160 rfl rfl, List.forall_mem_cons.mpr ⟨in_1 162 rfl rfl, (fun _ h => absurd h List.not_mem_nil)⟩⟩⟩⟩⟩⟩
theorem in_X3 : ∀ w ∈ u_ws RX3 TX3 2, w ∈ lwG := by
  have e : u_ws RX3 TX3 2 = [u_lay RX3 TX3 0, u_lay RX3 TX3 1] := rfl
  rw [e]
  exact List.forall_mem_cons.mpr ⟨in_1 174 rfl rfl, List.forall_mem_cons.mpr ⟨in_1 176 rfl rfl, (fun _ h => absurd h List.not_mem_nil)⟩⟩
theorem in_X4 : ∀ w ∈ u_ws RX4 TX4 16, w ∈ lwG := by
  have e : u_ws RX4 TX4 16 = [u_lay RX4 TX4 0, u_lay RX4 TX4 1, u_lay RX4 TX4 2, u_lay RX4 TX4 3, u_lay RX4 TX4 4, u_lay RX4 TX4 5, u_lay RX4 TX4 6, u_lay RX4 TX4 7, u_lay RX4 TX4 8, u_lay RX4 TX4 9, u_lay RX4 TX4 10, u_lay RX4 TX4 11, u_lay RX4 TX4 12, u_lay RX4 TX4 13, u_lay RX4 TX4 14, u_lay RX4 TX4 15] := rfl
  rw [e]
  exact List.forall_mem_cons.mpr ⟨in_1 105 rfl rfl, List.forall_mem_cons.mpr ⟨in_1 107 rfl rfl, List.forall_mem_cons.mpr ⟨in_1 109 rfl rfl, List.forall_mem_cons.mpr ⟨in_1 111 rfl rfl, List.forall_mem_cons.mpr ⟨in_1 113 rfl rfl, List.forall_mem_cons.mpr ⟨in_1 115 rfl rfl, List.forall_mem_cons.mpr ⟨in_1 117 rfl rfl, List.forall_mem_cons.mpr ⟨in_1 119 rfl rfl, List.forall_mem_cons.mpr ⟨in_1 121 rfl rfl, List.forall_mem_cons.mpr ⟨in_1 123 rfl rfl, List.forall_mem_cons.mpr ⟨in_1 125 rfl rfl, List.forall_mem_cons.mpr ⟨in_1 127 rfl rfl, List.forall_mem_cons.mpr ⟨in_1 129 rfl rfl, List.forall_mem_cons.mpr ⟨in_1 131 rfl rfl, List.forall_mem_cons.mpr ⟨in_1 133 rfl rfl, List.forall_mem_cons.mpr ⟨in_1 135 rfl rfl, (fun _ h => absurd h List.not_mem_nil)⟩⟩⟩⟩⟩⟩⟩⟩⟩⟩⟩⟩⟩⟩⟩⟩
theorem in_X5 : ∀ w ∈ u_ws RX5 TX5 8, w ∈ lwG := by
  have e : u_ws RX5 TX5 8 = [u_lay RX5 TX5 0, u_lay RX5 TX5 1, u_lay RX5 TX5 2, u_lay RX5 TX5 3, u_lay RX5 TX5 4, u_lay RX5 TX5 5, u_lay RX5 TX5 6, u_lay RX5 TX5 7] := rfl
  rw [e]
  exact List.forall_mem_cons.mpr ⟨in_1 187 rfl rfl, List.forall_mem_cons.mpr ⟨in_1 189 rfl rfl, List.forall_mem_cons.mpr ⟨in_1 191 rfl rfl, List.forall_mem_cons.mpr ⟨in_1 193 rfl rfl, List.forall_mem_cons.mpr ⟨in_1 195 rfl rfl, List.forall_mem_cons.mpr ⟨in_1 197 rfl rfl, List.forall_mem_cons.mpr ⟨in_1 199 rfl rfl, List.forall_mem_cons.mpr ⟨in_1 201 rfl rfl, (fun _ h => absurd h List.not_mem_nil)⟩⟩⟩⟩⟩⟩⟩⟩
theorem in_X6 : ∀ w ∈ u_ws RX6 TX6 33, w ∈ lwG := by
  have e : u_ws RX6 TX6 33 = [u_lay RX6 TX6 0, u_lay RX6 TX6 1, u_lay RX6 TX6 2, u_lay RX6 TX6 3, u_lay RX6 TX6 4, u_lay RX6 TX6 5, u_lay RX6 TX6 6, u_lay RX6 TX6 7, u_lay RX6 TX6 8, u_lay RX6 TX6 9, u_lay RX6 TX6 10, u_lay RX6 TX6 11, u_lay RX6 TX6 12, u_lay RX6 TX6 13, u_lay RX6 TX6 14, u_lay RX6 TX6 15, u_lay RX6 TX6 16, u_lay RX6 TX6 17, u_lay RX6 TX6 18, u_lay RX6 TX6 19, u_lay RX6 TX6 20, u_lay RX6 TX6 21, u_lay RX6 TX6 22, u_lay RX6 TX6 23, u_lay RX6 TX6 24, u_lay RX6 TX6 25, u_lay RX6 TX6 26, u_lay RX6 TX6 27, u_lay RX6 TX6 28, u_lay RX6 TX6 29, u_lay RX6 TX6 30, u_lay RX6 TX6 31, u_lay RX6 TX6 32] := rfl
  rw [e]
  exact List.forall_mem_cons.mpr ⟨in_3 40 rfl rfl, List.forall_mem_cons.mpr ⟨in_3 42 rfl rfl, List.forall_mem_cons.mpr ⟨in_3 44 rfl rfl, List.forall_mem_cons.mpr ⟨in_3 46 rfl rfl, List.forall_mem_cons.mpr ⟨in_3 48 rfl rfl, List.forall_mem_cons.mpr ⟨in_3 50 rfl rfl, List.forall_mem_cons.mpr ⟨in_3 52 rfl rfl, List.forall_mem_cons.mpr ⟨in_3 54 rfl rfl, List.forall_mem_cons.mpr ⟨in_3 56 rfl rfl, List.forall_mem_cons.mpr ⟨in_3 58 rfl rfl, List.forall_mem_cons.mpr ⟨in_3 60 rfl rfl, List.forall_mem_cons.mpr ⟨in_3 62 rfl rfl, List.forall_mem_cons.mpr ⟨in_3 64 rfl rfl, List.forall_mem_cons.mpr ⟨in_3 66 rfl rfl, List.forall_mem_cons.mpr ⟨in_3 68 rfl rfl, List.forall_mem_cons.mpr ⟨in_3 70 rfl rfl, List.forall_mem_cons.mpr ⟨in_3 72 rfl rfl, List.forall_mem_cons.mpr ⟨in_3 74 rfl rfl, List.forall_mem_cons.mpr ⟨in_3 76 rfl rfl, List.forall_mem_cons.mpr ⟨in_3 78 rfl rfl, List.forall_mem_cons.mpr ⟨in_3 80 rfl rfl, List.forall_mem_cons.mpr ⟨in_3 82 rfl rfl, List.forall_mem_cons.mpr ⟨in_3 84 rfl rfl, List.forall_mem_cons.mpr ⟨in_3 86 rfl rfl, List.forall_mem_cons.mpr ⟨in_3 88 rfl rfl, List.forall_mem_cons.mpr ⟨in_3 90 rfl rfl, List.forall_mem_cons.mpr ⟨in_3 92 rfl rfl, List.forall_mem_cons.mpr ⟨in_3 94 rfl rfl, List.forall_mem_cons.mpr ⟨in_3 96 rfl rfl, List.forall_mem_cons.mpr ⟨in_3 98 rfl rfl, List.forall_mem_cons.mpr ⟨in_3 100 rfl rfl, List.forall_mem_cons.mpr ⟨in_3 102 rfl rfl, List.forall_mem_cons.mpr ⟨in_3 104 rfl rfl, (fun _ h => absurd h List.not_mem_nil)⟩⟩⟩⟩⟩⟩⟩⟩⟩⟩⟩⟩⟩⟩⟩⟩⟩⟩⟩⟩⟩⟩⟩⟩⟩⟩⟩⟩⟩⟩⟩⟩⟩
end
section
theorem dX0_init_0 : decode cX0_init 0 = .ok (.aload_n 0, 1) := by decide +kernel
theorem dX0_init_1 : decode cX0_init 1 = .ok (.invokespecial 3, 3) := by decide +kernel
theorem dX0_init_4 : decode cX0_init 4 = .ok (.aload_n 0, 1) := by decide +kernel
theorem dX0_init_5 : decode cX0_init 5 = .ok (.bipush 8, 2) := by decide +kernel
theorem dX0_init_7 : decode cX0_init 7 = .ok (.newarray .boolean, 2) := by decide +kernel
theorem dX0_init_9 : decode cX0_init 9 = .ok (.putfield 9, 3) := by decide +kernel
theorem dX0_init_12 : decode cX0_init 12 = .ok (.aload_n 0, 1) := by decide +kernel
theorem dX0_init_13 : decode cX0_init 13 = .ok (.bipush 8, 2) := by decide +kernel
theorem dX0_init_15 : decode cX0_init 15 = .ok (.newarray .int, 2) := by decide +kernel
theorem dX0_init_17 : decode cX0_init 17 = .ok (.putfield 15, 3) := by decide +kernel
theorem dX0_init_20 : decode cX0_init 20 = .ok (.aload_n 0, 1) := by decide +kernel
theorem dX0_init_21 : decode cX0_init 21 = .ok (.bipush 8, 2) := by decide +kernel
theorem dX0_init_23 : decode cX0_init 23 = .ok (.newarray .int, 2) := by decide +kernel
theorem dX0_init_25 : decode cX0_init 25 = .ok (.putfield 19, 3) := by decide +kernel
theorem dX0_init_28 : decode cX0_init 28 = .ok (.aload_n 0, 1) := by decide +kernel
theorem dX0_init_29 : decode cX0_init 29 = .ok (.bipush 8, 2) := by decide +kernel
theorem dX0_init_31 : decode cX0_init 31 = .ok (.newarray .int, 2) := by decide +kernel
theorem dX0_init_33 : decode cX0_init 33 = .ok (.putfield 22, 3) := by decide +kernel
theorem dX0_init_36 : decode cX0_init 36 = .ok (.aload_n 0, 1) := by decide +kernel
theorem dX0_init_37 : decode cX0_init 37 = .ok (.iconst 2, 1) := by decide +kernel
theorem dX0_init_38 : decode cX0_init 38 = .ok (.putfield 25, 3) := by decide +kernel
theorem dX0_init_41 : decode cX0_init 41 = .ok (.aload_n 0, 1) := by decide +kernel
theorem dX0_init_42 : decode cX0_init 42 = .ok (.iconst 5, 1) := by decide +kernel
theorem dX0_init_43 : decode cX0_init 43 = .ok (.putfield 29, 3) := by decide +kernel
theorem dX0_init_46 : decode cX0_init 46 = .ok (.aload_n 0, 1) := by decide +kernel
theorem dX0_init_47 : decode cX0_init 47 = .ok (.bipush 90, 2) := by decide +kernel
theorem dX0_init_49 : decode cX0_init 49 = .ok (.putfield 32, 3) := by decide +kernel
theorem dX0_init_52 : decode cX0_init 52 = .ok (.return_, 1) := by decide +kernel
theorem dX0_hasRunner_0 : decode cX0_hasRunner 0 = .ok (.iload_n 1, 1) := by decide +kernel
theorem dX0_hasRunner_1 : decode cX0_hasRunner 1 = .ok (.ifCond .lt 22, 3) := by decide +kernel
theorem dX0_hasRunner_4 : decode cX0_hasRunner 4 = .ok (.iload_n 1, 1) := by decide +kernel
theorem dX0_hasRunner_5 : decode cX0_hasRunner 5 = .ok (.bipush 8, 2) := by decide +kernel
theorem dX0_hasRunner_7 : decode cX0_hasRunner 7 = .ok (.if_icmp .ge 16, 3) := by decide +kernel
theorem dX0_hasRunner_10 : decode cX0_hasRunner 10 = .ok (.aload_n 0, 1) := by decide +kernel
theorem dX0_hasRunner_11 : decode cX0_hasRunner 11 = .ok (.getfield 9, 3) := by decide +kernel
theorem dX0_hasRunner_14 : decode cX0_hasRunner 14 = .ok (.iload_n 1, 1) := by decide +kernel
theorem dX0_hasRunner_15 : decode cX0_hasRunner 15 = .ok (.baload, 1) := by decide +kernel
theorem dX0_hasRunner_16 : decode cX0_hasRunner 16 = .ok (.ifCond .eq 7, 3) := by decide +kernel
theorem dX0_hasRunner_19 : decode cX0_hasRunner 19 = .ok (.iconst 1, 1) := by decide +kernel
theorem dX0_hasRunner_20 : decode cX0_hasRunner 20 = .ok (.goto 4, 3) := by decide +kernel
theorem dX0_hasRunner_23 : decode cX0_hasRunner 23 = .ok (.iconst 0, 1) := by decide +kernel
theorem dX0_hasRunner_24 : decode cX0_hasRunner 24 = .ok (.ireturn, 1) := by decide +kernel
theorem dX0_canTie_0 : decode cX0_canTie 0 = .ok (.iload_n 1, 1) := by decide +kernel
theorem dX0_canTie_1 : decode cX0_canTie 1 = .ok (.iload_n 2, 1) := by decide +kernel
theorem dX0_canTie_2 : decode cX0_canTie 2 = .ok (.if_icmp .eq 23, 3) := by decide +kernel
theorem dX0_canTie_5 : decode cX0_canTie 5 = .ok (.aload_n 0, 1) := by decide +kernel
theorem dX0_canTie_6 : decode cX0_canTie 6 = .ok (.iload_n 1, 1) := by decide +kernel
theorem dX0_canTie_7 : decode cX0_canTie 7 = .ok (.invokevirtual 35, 3) := by decide +kernel
theorem dX0_canTie_10 : decode cX0_canTie 10 = .ok (.ifCond .eq 15, 3) := by decide +kernel
theorem dX0_canTie_13 : decode cX0_canTie 13 = .ok (.aload_n 0, 1) := by decide +kernel
theorem dX0_canTie_14 : decode cX0_canTie 14 = .ok (.iload_n 2, 1) := by decide +kernel
theorem dX0_canTie_15 : decode cX0_canTie 15 = .ok (.invokevirtual 35, 3) := by decide +kernel
theorem dX0_canTie_18 : decode cX0_canTie 18 = .ok (.ifCond .eq 7, 3) := by decide +kernel
theorem dX0_canTie_21 : decode cX0_canTie 21 = .ok (.iconst 1, 1) := by decide +kernel
theorem dX0_canTie_22 : decode cX0_canTie 22 = .ok (.goto 4, 3) := by decide +kernel
theorem dX0_canTie_25 : decode cX0_canTie 25 = .ok (.iconst 0, 1) := by decide +kernel
theorem dX0_canTie_26 : decode cX0_canTie 26 = .ok (.ireturn, 1) := by decide +kernel
theorem dX0_enter_0 : decode cX0_enter 0 = .ok (.iload_n 1, 1) := by decide +kernel
theorem dX0_enter_1 : decode cX0_enter 1 = .ok (.ifCond .lt 38, 3) := by decide +kernel
theorem dX0_enter_4 : decode cX0_enter 4 = .ok (.iload_n 1, 1) := by decide +kernel
theorem dX0_enter_5 : decode cX0_enter 5 = .ok (.bipush 8, 2) := by decide +kernel
theorem dX0_enter_7 : decode cX0_enter 7 = .ok (.if_icmp .ge 32, 3) := by decide +kernel
theorem dX0_enter_10 : decode cX0_enter 10 = .ok (.aload_n 0, 1) := by decide +kernel
theorem dX0_enter_11 : decode cX0_enter 11 = .ok (.getfield 9, 3) := by decide +kernel
theorem dX0_enter_14 : decode cX0_enter 14 = .ok (.iload_n 1, 1) := by decide +kernel
theorem dX0_enter_15 : decode cX0_enter 15 = .ok (.iconst 1, 1) := by decide +kernel
theorem dX0_enter_16 : decode cX0_enter 16 = .ok (.bastore, 1) := by decide +kernel
theorem dX0_enter_17 : decode cX0_enter 17 = .ok (.aload_n 0, 1) := by decide +kernel
theorem dX0_enter_18 : decode cX0_enter 18 = .ok (.getfield 15, 3) := by decide +kernel
theorem dX0_enter_21 : decode cX0_enter 21 = .ok (.iload_n 1, 1) := by decide +kernel
theorem dX0_enter_22 : decode cX0_enter 22 = .ok (.iload_n 2, 1) := by decide +kernel
theorem dX0_enter_23 : decode cX0_enter 23 = .ok (.iastore, 1) := by decide +kernel
theorem dX0_enter_24 : decode cX0_enter 24 = .ok (.aload_n 0, 1) := by decide +kernel
theorem dX0_enter_25 : decode cX0_enter 25 = .ok (.getfield 19, 3) := by decide +kernel
theorem dX0_enter_28 : decode cX0_enter 28 = .ok (.iload_n 1, 1) := by decide +kernel
theorem dX0_enter_29 : decode cX0_enter 29 = .ok (.iload_n 3, 1) := by decide +kernel
theorem dX0_enter_30 : decode cX0_enter 30 = .ok (.iastore, 1) := by decide +kernel
theorem dX0_enter_31 : decode cX0_enter 31 = .ok (.aload_n 0, 1) := by decide +kernel
theorem dX0_enter_32 : decode cX0_enter 32 = .ok (.getfield 22, 3) := by decide +kernel
theorem dX0_enter_35 : decode cX0_enter 35 = .ok (.iload_n 1, 1) := by decide +kernel
theorem dX0_enter_36 : decode cX0_enter 36 = .ok (.iload 4, 2) := by decide +kernel
theorem dX0_enter_38 : decode cX0_enter 38 = .ok (.iastore, 1) := by decide +kernel
theorem dX0_enter_39 : decode cX0_enter 39 = .ok (.return_, 1) := by decide +kernel
theorem dX0_leave_0 : decode cX0_leave 0 = .ok (.aload_n 0, 1) := by decide +kernel
theorem dX0_leave_1 : decode cX0_leave 1 = .ok (.iload_n 1, 1) := by decide +kernel
theorem dX0_leave_2 : decode cX0_leave 2 = .ok (.invokevirtual 35, 3) := by decide +kernel
theorem dX0_leave_5 : decode cX0_leave 5 = .ok (.ifCond .eq 10, 3) := by decide +kernel
theorem dX0_leave_8 : decode cX0_leave 8 = .ok (.aload_n 0, 1) := by decide +kernel
theorem dX0_leave_9 : decode cX0_leave 9 = .ok (.getfield 9, 3) := by decide +kernel
theorem dX0_leave_12 : decode cX0_leave 12 = .ok (.iload_n 1, 1) := by decide +kernel
theorem dX0_leave_13 : decode cX0_leave 13 = .ok (.iconst 0, 1) := by decide +kernel
theorem dX0_leave_14 : decode cX0_leave 14 = .ok (.bastore, 1) := by decide +kernel
theorem dX0_leave_15 : decode cX0_leave 15 = .ok (.return_, 1) := by decide +kernel
theorem dX0_count_0 : decode cX0_count 0 = .ok (.aload_n 0, 1) := by decide +kernel
theorem dX0_count_1 : decode cX0_count 1 = .ok (.invokevirtual 39, 3) := by decide +kernel
theorem dX0_count_4 : decode cX0_count 4 = .ok (.invokestatic 43, 3) := by decide +kernel
theorem dX0_count_7 : decode cX0_count 7 = .ok (.ireturn, 1) := by decide +kernel
theorem dX0_bits_0 : decode cX0_bits 0 = .ok (.iconst 0, 1) := by decide +kernel
theorem dX0_bits_1 : decode cX0_bits 1 = .ok (.istore_n 1, 1) := by decide +kernel
theorem dX0_bits_2 : decode cX0_bits 2 = .ok (.iconst 0, 1) := by decide +kernel
theorem dX0_bits_3 : decode cX0_bits 3 = .ok (.istore_n 2, 1) := by decide +kernel
theorem dX0_bits_4 : decode cX0_bits 4 = .ok (.iload_n 2, 1) := by decide +kernel
theorem dX0_bits_5 : decode cX0_bits 5 = .ok (.bipush 8, 2) := by decide +kernel
theorem dX0_bits_7 : decode cX0_bits 7 = .ok (.if_icmp .ge 28, 3) := by decide +kernel
theorem dX0_bits_10 : decode cX0_bits 10 = .ok (.iload_n 1, 1) := by decide +kernel
theorem dX0_bits_11 : decode cX0_bits 11 = .ok (.aload_n 0, 1) := by decide +kernel
theorem dX0_bits_12 : decode cX0_bits 12 = .ok (.getfield 9, 3) := by decide +kernel
theorem dX0_bits_15 : decode cX0_bits 15 = .ok (.iload_n 2, 1) := by decide +kernel
theorem dX0_bits_16 : decode cX0_bits 16 = .ok (.baload, 1) := by decide +kernel
theorem dX0_bits_17 : decode cX0_bits 17 = .ok (.ifCond .eq 9, 3) := by decide +kernel
theorem dX0_bits_20 : decode cX0_bits 20 = .ok (.iconst 1, 1) := by decide +kernel
theorem dX0_bits_21 : decode cX0_bits 21 = .ok (.iload_n 2, 1) := by decide +kernel
theorem dX0_bits_22 : decode cX0_bits 22 = .ok (.ishl, 1) := by decide +kernel
theorem dX0_bits_23 : decode cX0_bits 23 = .ok (.goto 4, 3) := by decide +kernel
theorem dX0_bits_26 : decode cX0_bits 26 = .ok (.iconst 0, 1) := by decide +kernel
theorem dX0_bits_27 : decode cX0_bits 27 = .ok (.ior, 1) := by decide +kernel
theorem dX0_bits_28 : decode cX0_bits 28 = .ok (.istore_n 1, 1) := by decide +kernel
theorem dX0_bits_29 : decode cX0_bits 29 = .ok (.iinc 2 1, 3) := by decide +kernel
theorem dX0_bits_32 : decode cX0_bits 32 = .ok (.goto (-28), 3) := by decide +kernel
theorem dX0_bits_35 : decode cX0_bits 35 = .ok (.iload_n 1, 1) := by decide +kernel
theorem dX0_bits_36 : decode cX0_bits 36 = .ok (.ireturn, 1) := by decide +kernel
theorem dX0_copyFrom_0 : decode cX0_copyFrom 0 = .ok (.iconst 0, 1) := by decide +kernel
theorem dX0_copyFrom_1 : decode cX0_copyFrom 1 = .ok (.istore_n 2, 1) := by decide +kernel
theorem dX0_copyFrom_2 : decode cX0_copyFrom 2 = .ok (.iload_n 2, 1) := by decide +kernel
theorem dX0_copyFrom_3 : decode cX0_copyFrom 3 = .ok (.bipush 8, 2) := by decide +kernel
theorem dX0_copyFrom_5 : decode cX0_copyFrom 5 = .ok (.if_icmp .ge 57, 3) := by decide +kernel
theorem dX0_copyFrom_8 : decode cX0_copyFrom 8 = .ok (.aload_n 0, 1) := by decide +kernel
theorem dX0_copyFrom_9 : decode cX0_copyFrom 9 = .ok (.getfield 9, 3) := by decide +kernel
theorem dX0_copyFrom_12 : decode cX0_copyFrom 12 = .ok (.iload_n 2, 1) := by decide +kernel
theorem dX0_copyFrom_13 : decode cX0_copyFrom 13 = .ok (.aload_n 1, 1) := by decide +kernel
theorem dX0_copyFrom_14 : decode cX0_copyFrom 14 = .ok (.getfield 9, 3) := by decide +kernel
theorem dX0_copyFrom_17 : decode cX0_copyFrom 17 = .ok (.iload_n 2, 1) := by decide +kernel
theorem dX0_copyFrom_18 : decode cX0_copyFrom 18 = .ok (.baload, 1) := by decide +kernel
theorem dX0_copyFrom_19 : decode cX0_copyFrom 19 = .ok (.bastore, 1) := by decide +kernel
theorem dX0_copyFrom_20 : decode cX0_copyFrom 20 = .ok (.aload_n 0, 1) := by decide +kernel
theorem dX0_copyFrom_21 : decode cX0_copyFrom 21 = .ok (.getfield 15, 3) := by decide +kernel
theorem dX0_copyFrom_24 : decode cX0_copyFrom 24 = .ok (.iload_n 2, 1) := by decide +kernel
theorem dX0_copyFrom_25 : decode cX0_copyFrom 25 = .ok (.aload_n 1, 1) := by decide +kernel
theorem dX0_copyFrom_26 : decode cX0_copyFrom 26 = .ok (.getfield 15, 3) := by decide +kernel
theorem dX0_copyFrom_29 : decode cX0_copyFrom 29 = .ok (.iload_n 2, 1) := by decide +kernel
theorem dX0_copyFrom_30 : decode cX0_copyFrom 30 = .ok (.iaload, 1) := by decide +kernel
theorem dX0_copyFrom_31 : decode cX0_copyFrom 31 = .ok (.iastore, 1) := by decide +kernel
theorem dX0_copyFrom_32 : decode cX0_copyFrom 32 = .ok (.aload_n 0, 1) := by decide +kernel
theorem dX0_copyFrom_33 : decode cX0_copyFrom 33 = .ok (.getfield 19, 3) := by decide +kernel
theorem dX0_copyFrom_36 : decode cX0_copyFrom 36 = .ok (.iload_n 2, 1) := by decide +kernel
theorem dX0_copyFrom_37 : decode cX0_copyFrom 37 = .ok (.aload_n 1, 1) := by decide +kernel
theorem dX0_copyFrom_38 : decode cX0_copyFrom 38 = .ok (.getfield 19, 3) := by decide +kernel
theorem dX0_copyFrom_41 : decode cX0_copyFrom 41 = .ok (.iload_n 2, 1) := by decide +kernel
theorem dX0_copyFrom_42 : decode cX0_copyFrom 42 = .ok (.iaload, 1) := by decide +kernel
theorem dX0_copyFrom_43 : decode cX0_copyFrom 43 = .ok (.iastore, 1) := by decide +kernel
theorem dX0_copyFrom_44 : decode cX0_copyFrom 44 = .ok (.aload_n 0, 1) := by decide +kernel
theorem dX0_copyFrom_45 : decode cX0_copyFrom 45 = .ok (.getfield 22, 3) := by decide +kernel
theorem dX0_copyFrom_48 : decode cX0_copyFrom 48 = .ok (.iload_n 2, 1) := by decide +kernel
theorem dX0_copyFrom_49 : decode cX0_copyFrom 49 = .ok (.aload_n 1, 1) := by decide +kernel
theorem dX0_copyFrom_50 : decode cX0_copyFrom 50 = .ok (.getfield 22, 3) := by decide +kernel
theorem dX0_copyFrom_53 : decode cX0_copyFrom 53 = .ok (.iload_n 2, 1) := by decide +kernel
theorem dX0_copyFrom_54 : decode cX0_copyFrom 54 = .ok (.iaload, 1) := by decide +kernel
theorem dX0_copyFrom_55 : decode cX0_copyFrom 55 = .ok (.iastore, 1) := by decide +kernel
theorem dX0_copyFrom_56 : decode cX0_copyFrom 56 = .ok (.iinc 2 1, 3) := by decide +kernel
theorem dX0_copyFrom_59 : decode cX0_copyFrom 59 = .ok (.goto (-57), 3) := by decide +kernel
theorem dX0_copyFrom_62 : decode cX0_copyFrom 62 = .ok (.aload_n 0, 1) := by decide +kernel
theorem dX0_copyFrom_63 : decode cX0_copyFrom 63 = .ok (.aload_n 1, 1) := by decide +kernel
theorem dX0_copyFrom_64 : decode cX0_copyFrom 64 = .ok (.getfield 25, 3) := by decide +kernel
theorem dX0_copyFrom_67 : decode cX0_copyFrom 67 = .ok (.putfield 25, 3) := by decide +kernel
theorem dX0_copyFrom_70 : decode cX0_copyFrom 70 = .ok (.aload_n 0, 1) := by decide +kernel
theorem dX0_copyFrom_71 : decode cX0_copyFrom 71 = .ok (.aload_n 1, 1) := by decide +kernel
theorem dX0_copyFrom_72 : decode cX0_copyFrom 72 = .ok (.getfield 29, 3) := by decide +kernel
theorem dX0_copyFrom_75 : decode cX0_copyFrom 75 = .ok (.putfield 29, 3) := by decide +kernel
theorem dX0_copyFrom_78 : decode cX0_copyFrom 78 = .ok (.aload_n 0, 1) := by decide +kernel
theorem dX0_copyFrom_79 : decode cX0_copyFrom 79 = .ok (.aload_n 1, 1) := by decide +kernel
theorem dX0_copyFrom_80 : decode cX0_copyFrom 80 = .ok (.getfield 32, 3) := by decide +kernel
theorem dX0_copyFrom_83 : decode cX0_copyFrom 83 = .ok (.putfield 32, 3) := by decide +kernel
theorem dX0_copyFrom_86 : decode cX0_copyFrom 86 = .ok (.return_, 1) := by decide +kernel
theorem dX1_init_0 : decode cX1_init 0 = .ok (.aload_n 0, 1) := by decide +kernel
theorem dX1_init_1 : decode cX1_init 1 = .ok (.invokespecial 3, 3) := by decide +kernel
theorem dX1_init_4 : decode cX1_init 4 = .ok (.aload_n 0, 1) := by decide +kernel
theorem dX1_init_5 : decode cX1_init 5 = .ok (.bipush 40, 2) := by decide +kernel
theorem dX1_init_7 : decode cX1_init 7 = .ok (.newarray .int, 2) := by decide +kernel
theorem dX1_init_9 : decode cX1_init 9 = .ok (.putfield 9, 3) := by decide +kernel
theorem dX1_init_12 : decode cX1_init 12 = .ok (.return_, 1) := by decide +kernel
theorem dX1_add_0 : decode cX1_add 0 = .ok (.aload_n 0, 1) := by decide +kernel
theorem dX1_add_1 : decode cX1_add 1 = .ok (.getfield 15, 3) := by decide +kernel
theorem dX1_add_4 : decode cX1_add 4 = .ok (.bipush 40, 2) := by decide +kernel
theorem dX1_add_6 : decode cX1_add 6 = .ok (.if_icmp .ge 23, 3) := by decide +kernel
theorem dX1_add_9 : decode cX1_add 9 = .ok (.aload_n 0, 1) := by decide +kernel
theorem dX1_add_10 : decode cX1_add 10 = .ok (.getfield 9, 3) := by decide +kernel
theorem dX1_add_13 : decode cX1_add 13 = .ok (.aload_n 0, 1) := by decide +kernel
theorem dX1_add_14 : decode cX1_add 14 = .ok (.getfield 15, 3) := by decide +kernel
theorem dX1_add_17 : decode cX1_add 17 = .ok (.iload_n 1, 1) := by decide +kernel
theorem dX1_add_18 : decode cX1_add 18 = .ok (.iastore, 1) := by decide +kernel
theorem dX1_add_19 : decode cX1_add 19 = .ok (.aload_n 0, 1) := by decide +kernel
theorem dX1_add_20 : decode cX1_add 20 = .ok (.dup, 1) := by decide +kernel
theorem dX1_add_21 : decode cX1_add 21 = .ok (.getfield 15, 3) := by decide +kernel
theorem dX1_add_24 : decode cX1_add 24 = .ok (.iconst 1, 1) := by decide +kernel
theorem dX1_add_25 : decode cX1_add 25 = .ok (.iadd, 1) := by decide +kernel
theorem dX1_add_26 : decode cX1_add 26 = .ok (.putfield 15, 3) := by decide +kernel
theorem dX1_add_29 : decode cX1_add 29 = .ok (.return_, 1) := by decide +kernel
theorem dX1_firstFault_0 : decode cX1_firstFault 0 = .ok (.iconst 0, 1) := by decide +kernel
theorem dX1_firstFault_1 : decode cX1_firstFault 1 = .ok (.istore_n 1, 1) := by decide +kernel
theorem dX1_firstFault_2 : decode cX1_firstFault 2 = .ok (.iload_n 1, 1) := by decide +kernel
theorem dX1_firstFault_3 : decode cX1_firstFault 3 = .ok (.aload_n 0, 1) := by decide +kernel
theorem dX1_firstFault_4 : decode cX1_firstFault 4 = .ok (.getfield 15, 3) := by decide +kernel
theorem dX1_firstFault_7 : decode cX1_firstFault 7 = .ok (.if_icmp .ge 42, 3) := by decide +kernel
theorem dX1_firstFault_10 : decode cX1_firstFault 10 = .ok (.aload_n 0, 1) := by decide +kernel
theorem dX1_firstFault_11 : decode cX1_firstFault 11 = .ok (.getfield 9, 3) := by decide +kernel
theorem dX1_firstFault_14 : decode cX1_firstFault 14 = .ok (.iload_n 1, 1) := by decide +kernel
theorem dX1_firstFault_15 : decode cX1_firstFault 15 = .ok (.iaload, 1) := by decide +kernel
theorem dX1_firstFault_16 : decode cX1_firstFault 16 = .ok (.istore_n 2, 1) := by decide +kernel
theorem dX1_firstFault_17 : decode cX1_firstFault 17 = .ok (.iload_n 2, 1) := by decide +kernel
theorem dX1_firstFault_18 : decode cX1_firstFault 18 = .ok (.bipush 115, 2) := by decide +kernel
theorem dX1_firstFault_20 : decode cX1_firstFault 20 = .ok (.if_icmp .eq 23, 3) := by decide +kernel
theorem dX1_firstFault_23 : decode cX1_firstFault 23 = .ok (.iload_n 2, 1) := by decide +kernel
theorem dX1_firstFault_24 : decode cX1_firstFault 24 = .ok (.bipush 108, 2) := by decide +kernel
theorem dX1_firstFault_26 : decode cX1_firstFault 26 = .ok (.if_icmp .eq 17, 3) := by decide +kernel
theorem dX1_firstFault_29 : decode cX1_firstFault 29 = .ok (.iload_n 2, 1) := by decide +kernel
theorem dX1_firstFault_30 : decode cX1_firstFault 30 = .ok (.bipush 102, 2) := by decide +kernel
theorem dX1_firstFault_32 : decode cX1_firstFault 32 = .ok (.if_icmp .eq 11, 3) := by decide +kernel
theorem dX1_firstFault_35 : decode cX1_firstFault 35 = .ok (.iload_n 2, 1) := by decide +kernel
theorem dX1_firstFault_36 : decode cX1_firstFault 36 = .ok (.bipush 63, 2) := by decide +kernel
theorem dX1_firstFault_38 : decode cX1_firstFault 38 = .ok (.if_icmp .eq 5, 3) := by decide +kernel
theorem dX1_firstFault_41 : decode cX1_firstFault 41 = .ok (.iload_n 1, 1) := by decide +kernel
theorem dX1_firstFault_42 : decode cX1_firstFault 42 = .ok (.ireturn, 1) := by decide +kernel
theorem dX1_firstFault_43 : decode cX1_firstFault 43 = .ok (.iinc 1 1, 3) := by decide +kernel
theorem dX1_firstFault_46 : decode cX1_firstFault 46 = .ok (.goto (-44), 3) := by decide +kernel
theorem dX1_firstFault_49 : decode cX1_firstFault 49 = .ok (.bipush (-6), 2) := by decide +kernel
theorem dX1_firstFault_51 : decode cX1_firstFault 51 = .ok (.ireturn, 1) := by decide +kernel
theorem dX1_canShow_0 : decode cX1_canShow 0 = .ok (.iload_n 1, 1) := by decide +kernel
theorem dX1_canShow_1 : decode cX1_canShow 1 = .ok (.ifCond .lt 36, 3) := by decide +kernel
theorem dX1_canShow_4 : decode cX1_canShow 4 = .ok (.iload_n 1, 1) := by decide +kernel
theorem dX1_canShow_5 : decode cX1_canShow 5 = .ok (.aload_n 0, 1) := by decide +kernel
theorem dX1_canShow_6 : decode cX1_canShow 6 = .ok (.getfield 15, 3) := by decide +kernel
theorem dX1_canShow_9 : decode cX1_canShow 9 = .ok (.if_icmp .ge 28, 3) := by decide +kernel
theorem dX1_canShow_12 : decode cX1_canShow 12 = .ok (.aload_n 0, 1) := by decide +kernel
theorem dX1_canShow_13 : decode cX1_canShow 13 = .ok (.getfield 9, 3) := by decide +kernel
theorem dX1_canShow_16 : decode cX1_canShow 16 = .ok (.iload_n 1, 1) := by decide +kernel
theorem dX1_canShow_17 : decode cX1_canShow 17 = .ok (.iaload, 1) := by decide +kernel
theorem dX1_canShow_18 : decode cX1_canShow 18 = .ok (.iload_n 2, 1) := by decide +kernel
theorem dX1_canShow_19 : decode cX1_canShow 19 = .ok (.if_icmp .eq 14, 3) := by decide +kernel
theorem dX1_canShow_22 : decode cX1_canShow 22 = .ok (.aload_n 0, 1) := by decide +kernel
theorem dX1_canShow_23 : decode cX1_canShow 23 = .ok (.getfield 9, 3) := by decide +kernel
theorem dX1_canShow_26 : decode cX1_canShow 26 = .ok (.iload_n 1, 1) := by decide +kernel
theorem dX1_canShow_27 : decode cX1_canShow 27 = .ok (.iaload, 1) := by decide +kernel
theorem dX1_canShow_28 : decode cX1_canShow 28 = .ok (.bipush 63, 2) := by decide +kernel
theorem dX1_canShow_30 : decode cX1_canShow 30 = .ok (.if_icmp .ne 7, 3) := by decide +kernel
theorem dX1_canShow_33 : decode cX1_canShow 33 = .ok (.iconst 1, 1) := by decide +kernel
theorem dX1_canShow_34 : decode cX1_canShow 34 = .ok (.goto 4, 3) := by decide +kernel
theorem dX1_canShow_37 : decode cX1_canShow 37 = .ok (.iconst 0, 1) := by decide +kernel
theorem dX1_canShow_38 : decode cX1_canShow 38 = .ok (.ireturn, 1) := by decide +kernel
theorem dX2_init_0 : decode cX2_init 0 = .ok (.aload_n 0, 1) := by decide +kernel
theorem dX2_init_1 : decode cX2_init 1 = .ok (.invokespecial 3, 3) := by decide +kernel
theorem dX2_init_4 : decode cX2_init 4 = .ok (.aload_n 0, 1) := by decide +kernel
theorem dX2_init_5 : decode cX2_init 5 = .ok (.iconst 4, 1) := by decide +kernel
theorem dX2_init_6 : decode cX2_init 6 = .ok (.newarray .int, 2) := by decide +kernel
theorem dX2_init_8 : decode cX2_init 8 = .ok (.putfield 11, 3) := by decide +kernel
theorem dX2_init_11 : decode cX2_init 11 = .ok (.aload_n 0, 1) := by decide +kernel
theorem dX2_init_12 : decode cX2_init 12 = .ok (.bipush 8, 2) := by decide +kernel
theorem dX2_init_14 : decode cX2_init 14 = .ok (.newarray .int, 2) := by decide +kernel
theorem dX2_init_16 : decode cX2_init 16 = .ok (.putfield 15, 3) := by decide +kernel
theorem dX2_init_19 : decode cX2_init 19 = .ok (.aload_n 0, 1) := by decide +kernel
theorem dX2_init_20 : decode cX2_init 20 = .ok (.bipush 8, 2) := by decide +kernel
theorem dX2_init_22 : decode cX2_init 22 = .ok (.newarray .int, 2) := by decide +kernel
theorem dX2_init_24 : decode cX2_init 24 = .ok (.putfield 18, 3) := by decide +kernel
theorem dX2_init_27 : decode cX2_init 27 = .ok (.aload_n 0, 1) := by decide +kernel
theorem dX2_init_28 : decode cX2_init 28 = .ok (.bipush 8, 2) := by decide +kernel
theorem dX2_init_30 : decode cX2_init 30 = .ok (.newarray .int, 2) := by decide +kernel
theorem dX2_init_32 : decode cX2_init 32 = .ok (.putfield 21, 3) := by decide +kernel
theorem dX2_init_35 : decode cX2_init 35 = .ok (.return_, 1) := by decide +kernel
theorem dX2_seek_0 : decode cX2_seek 0 = .ok (.aload_n 0, 1) := by decide +kernel
theorem dX2_seek_1 : decode cX2_seek 1 = .ok (.aload_n 1, 1) := by decide +kernel
theorem dX2_seek_2 : decode cX2_seek 2 = .ok (.invokevirtual 24, 3) := by decide +kernel
theorem dX2_seek_5 : decode cX2_seek 5 = .ok (.putfield 30, 3) := by decide +kernel
theorem dX2_seek_8 : decode cX2_seek 8 = .ok (.iconst 0, 1) := by decide +kernel
theorem dX2_seek_9 : decode cX2_seek 9 = .ok (.istore 4, 2) := by decide +kernel
theorem dX2_seek_11 : decode cX2_seek 11 = .ok (.iload 4, 2) := by decide +kernel
theorem dX2_seek_13 : decode cX2_seek 13 = .ok (.iconst 4, 1) := by decide +kernel
theorem dX2_seek_14 : decode cX2_seek 14 = .ok (.if_icmp .ge 17, 3) := by decide +kernel
theorem dX2_seek_17 : decode cX2_seek 17 = .ok (.aload_n 0, 1) := by decide +kernel
theorem dX2_seek_18 : decode cX2_seek 18 = .ok (.getfield 11, 3) := by decide +kernel
theorem dX2_seek_21 : decode cX2_seek 21 = .ok (.iload 4, 2) := by decide +kernel
theorem dX2_seek_23 : decode cX2_seek 23 = .ok (.iconst 1, 1) := by decide +kernel
theorem dX2_seek_24 : decode cX2_seek 24 = .ok (.iastore, 1) := by decide +kernel
theorem dX2_seek_25 : decode cX2_seek 25 = .ok (.iinc 4 1, 3) := by decide +kernel
theorem dX2_seek_28 : decode cX2_seek 28 = .ok (.goto (-17), 3) := by decide +kernel
theorem dX2_seek_31 : decode cX2_seek 31 = .ok (.aload_n 0, 1) := by decide +kernel
theorem dX2_seek_32 : decode cX2_seek 32 = .ok (.ldc 36, 2) := by decide +kernel
theorem dX2_seek_34 : decode cX2_seek 34 = .ok (.putfield 37, 3) := by decide +kernel
theorem dX2_seek_37 : decode cX2_seek 37 = .ok (.iconst 1, 1) := by decide +kernel
theorem dX2_seek_38 : decode cX2_seek 38 = .ok (.istore 4, 2) := by decide +kernel
theorem dX2_seek_40 : decode cX2_seek 40 = .ok (.iconst 0, 1) := by decide +kernel
theorem dX2_seek_41 : decode cX2_seek 41 = .ok (.istore 5, 2) := by decide +kernel
theorem dX2_seek_43 : decode cX2_seek 43 = .ok (.iload 5, 2) := by decide +kernel
theorem dX2_seek_45 : decode cX2_seek 45 = .ok (.bipush 105, 2) := by decide +kernel
theorem dX2_seek_47 : decode cX2_seek 47 = .ok (.if_icmp .ge 59, 3) := by decide +kernel
theorem dX2_seek_50 : decode cX2_seek 50 = .ok (.iload 4, 2) := by decide +kernel
theorem dX2_seek_52 : decode cX2_seek 52 = .ok (.ifCond .eq 54, 3) := by decide +kernel
theorem dX2_seek_55 : decode cX2_seek 55 = .ok (.aload_n 0, 1) := by decide +kernel
theorem dX2_seek_56 : decode cX2_seek 56 = .ok (.aload_n 1, 1) := by decide +kernel
theorem dX2_seek_57 : decode cX2_seek 57 = .ok (.aload_n 2, 1) := by decide +kernel
theorem dX2_seek_58 : decode cX2_seek 58 = .ok (.iload_n 3, 1) := by decide +kernel
theorem dX2_seek_59 : decode cX2_seek 59 = .ok (.invokevirtual 40, 3) := by decide +kernel
theorem dX2_seek_62 : decode cX2_seek 62 = .ok (.istore 6, 2) := by decide +kernel
theorem dX2_seek_64 : decode cX2_seek 64 = .ok (.iload 6, 2) := by decide +kernel
theorem dX2_seek_66 : decode cX2_seek 66 = .ok (.aload_n 0, 1) := by decide +kernel
theorem dX2_seek_67 : decode cX2_seek 67 = .ok (.getfield 37, 3) := by decide +kernel
theorem dX2_seek_70 : decode cX2_seek 70 = .ok (.if_icmp .ge 24, 3) := by decide +kernel
theorem dX2_seek_73 : decode cX2_seek 73 = .ok (.aload_n 0, 1) := by decide +kernel
theorem dX2_seek_74 : decode cX2_seek 74 = .ok (.iload 6, 2) := by decide +kernel
theorem dX2_seek_76 : decode cX2_seek 76 = .ok (.putfield 37, 3) := by decide +kernel
theorem dX2_seek_79 : decode cX2_seek 79 = .ok (.aload_n 0, 1) := by decide +kernel
theorem dX2_seek_80 : decode cX2_seek 80 = .ok (.getfield 18, 3) := by decide +kernel
theorem dX2_seek_83 : decode cX2_seek 83 = .ok (.iconst 0, 1) := by decide +kernel
theorem dX2_seek_84 : decode cX2_seek 84 = .ok (.aload_n 0, 1) := by decide +kernel
theorem dX2_seek_85 : decode cX2_seek 85 = .ok (.getfield 21, 3) := by decide +kernel
theorem dX2_seek_88 : decode cX2_seek 88 = .ok (.iconst 0, 1) := by decide +kernel
theorem dX2_seek_89 : decode cX2_seek 89 = .ok (.bipush 8, 2) := by decide +kernel
theorem dX2_seek_91 : decode cX2_seek 91 = .ok (.invokestatic 44, 3) := by decide +kernel
theorem dX2_seek_94 : decode cX2_seek 94 = .ok (.aload_n 0, 1) := by decide +kernel
theorem dX2_seek_95 : decode cX2_seek 95 = .ok (.invokevirtual 50, 3) := by decide +kernel
theorem dX2_seek_98 : decode cX2_seek 98 = .ok (.istore 4, 2) := by decide +kernel
theorem dX2_seek_100 : decode cX2_seek 100 = .ok (.iinc 5 1, 3) := by decide +kernel
theorem dX2_seek_103 : decode cX2_seek 103 = .ok (.goto (-60), 3) := by decide +kernel
theorem dX2_seek_106 : decode cX2_seek 106 = .ok (.return_, 1) := by decide +kernel
theorem dX2_goToNextPicks_0 : decode cX2_goToNextPicks 0 = .ok (.aload_n 0, 1) := by decide +kernel
theorem dX2_goToNextPicks_1 : decode cX2_goToNextPicks 1 = .ok (.getfield 30, 3) := by decide +kernel
theorem dX2_goToNextPicks_4 : decode cX2_goToNextPicks 4 = .ok (.iconst 2, 1) := by decide +kernel
theorem dX2_goToNextPicks_5 : decode cX2_goToNextPicks 5 = .ok (.idiv, 1) := by decide +kernel
theorem dX2_goToNextPicks_6 : decode cX2_goToNextPicks 6 = .ok (.iconst 1, 1) := by decide +kernel
theorem dX2_goToNextPicks_7 : decode cX2_goToNextPicks 7 = .ok (.isub, 1) := by decide +kernel
theorem dX2_goToNextPicks_8 : decode cX2_goToNextPicks 8 = .ok (.istore_n 1, 1) := by decide +kernel
theorem dX2_goToNextPicks_9 : decode cX2_goToNextPicks 9 = .ok (.iload_n 1, 1) := by decide +kernel
theorem dX2_goToNextPicks_10 : decode cX2_goToNextPicks 10 = .ok (.ifCond .lt 47, 3) := by decide +kernel
theorem dX2_goToNextPicks_13 : decode cX2_goToNextPicks 13 = .ok (.aload_n 0, 1) := by decide +kernel
theorem dX2_goToNextPicks_14 : decode cX2_goToNextPicks 14 = .ok (.getfield 11, 3) := by decide +kernel
theorem dX2_goToNextPicks_17 : decode cX2_goToNextPicks 17 = .ok (.iload_n 1, 1) := by decide +kernel
theorem dX2_goToNextPicks_18 : decode cX2_goToNextPicks 18 = .ok (.iaload, 1) := by decide +kernel
theorem dX2_goToNextPicks_19 : decode cX2_goToNextPicks 19 = .ok (.aload_n 0, 1) := by decide +kernel
theorem dX2_goToNextPicks_20 : decode cX2_goToNextPicks 20 = .ok (.getfield 30, 3) := by decide +kernel
theorem dX2_goToNextPicks_23 : decode cX2_goToNextPicks 23 = .ok (.iconst 2, 1) := by decide +kernel
theorem dX2_goToNextPicks_24 : decode cX2_goToNextPicks 24 = .ok (.iload_n 1, 1) := by decide +kernel
theorem dX2_goToNextPicks_25 : decode cX2_goToNextPicks 25 = .ok (.imul, 1) := by decide +kernel
theorem dX2_goToNextPicks_26 : decode cX2_goToNextPicks 26 = .ok (.isub, 1) := by decide +kernel
theorem dX2_goToNextPicks_27 : decode cX2_goToNextPicks 27 = .ok (.iconst 1, 1) := by decide +kernel
theorem dX2_goToNextPicks_28 : decode cX2_goToNextPicks 28 = .ok (.isub, 1) := by decide +kernel
theorem dX2_goToNextPicks_29 : decode cX2_goToNextPicks 29 = .ok (.if_icmp .ge 15, 3) := by decide +kernel
theorem dX2_goToNextPicks_32 : decode cX2_goToNextPicks 32 = .ok (.aload_n 0, 1) := by decide +kernel
theorem dX2_goToNextPicks_33 : decode cX2_goToNextPicks 33 = .ok (.getfield 11, 3) := by decide +kernel
theorem dX2_goToNextPicks_36 : decode cX2_goToNextPicks 36 = .ok (.iload_n 1, 1) := by decide +kernel
theorem dX2_goToNextPicks_37 : decode cX2_goToNextPicks 37 = .ok (.dup2, 1) := by decide +kernel
theorem dX2_goToNextPicks_38 : decode cX2_goToNextPicks 38 = .ok (.iaload, 1) := by decide +kernel
theorem dX2_goToNextPicks_39 : decode cX2_goToNextPicks 39 = .ok (.iconst 1, 1) := by decide +kernel
theorem dX2_goToNextPicks_40 : decode cX2_goToNextPicks 40 = .ok (.iadd, 1) := by decide +kernel
theorem dX2_goToNextPicks_41 : decode cX2_goToNextPicks 41 = .ok (.iastore, 1) := by decide +kernel
theorem dX2_goToNextPicks_42 : decode cX2_goToNextPicks 42 = .ok (.iconst 1, 1) := by decide +kernel
theorem dX2_goToNextPicks_43 : decode cX2_goToNextPicks 43 = .ok (.ireturn, 1) := by decide +kernel
theorem dX2_goToNextPicks_44 : decode cX2_goToNextPicks 44 = .ok (.aload_n 0, 1) := by decide +kernel
theorem dX2_goToNextPicks_45 : decode cX2_goToNextPicks 45 = .ok (.getfield 11, 3) := by decide +kernel
theorem dX2_goToNextPicks_48 : decode cX2_goToNextPicks 48 = .ok (.iload_n 1, 1) := by decide +kernel
theorem dX2_goToNextPicks_49 : decode cX2_goToNextPicks 49 = .ok (.iconst 1, 1) := by decide +kernel
theorem dX2_goToNextPicks_50 : decode cX2_goToNextPicks 50 = .ok (.iastore, 1) := by decide +kernel
theorem dX2_goToNextPicks_51 : decode cX2_goToNextPicks 51 = .ok (.iinc 1 (-1), 3) := by decide +kernel
theorem dX2_goToNextPicks_54 : decode cX2_goToNextPicks 54 = .ok (.goto (-45), 3) := by decide +kernel
theorem dX2_goToNextPicks_57 : decode cX2_goToNextPicks 57 = .ok (.iconst 0, 1) := by decide +kernel
theorem dX2_goToNextPicks_58 : decode cX2_goToNextPicks 58 = .ok (.ireturn, 1) := by decide +kernel
theorem dX2_costOfPicks_0 : decode cX2_costOfPicks 0 = .ok (.aload_n 0, 1) := by decide +kernel
theorem dX2_costOfPicks_1 : decode cX2_costOfPicks 1 = .ok (.aload_n 1, 1) := by decide +kernel
theorem dX2_costOfPicks_2 : decode cX2_costOfPicks 2 = .ok (.invokevirtual 54, 3) := by decide +kernel
theorem dX2_costOfPicks_5 : decode cX2_costOfPicks 5 = .ok (.istore 4, 2) := by decide +kernel
theorem dX2_costOfPicks_7 : decode cX2_costOfPicks 7 = .ok (.iconst 0, 1) := by decide +kernel
theorem dX2_costOfPicks_8 : decode cX2_costOfPicks 8 = .ok (.istore 5, 2) := by decide +kernel
theorem dX2_costOfPicks_10 : decode cX2_costOfPicks 10 = .ok (.iconst 0, 1) := by decide +kernel
theorem dX2_costOfPicks_11 : decode cX2_costOfPicks 11 = .ok (.istore 6, 2) := by decide +kernel
theorem dX2_costOfPicks_13 : decode cX2_costOfPicks 13 = .ok (.iload 6, 2) := by decide +kernel
theorem dX2_costOfPicks_15 : decode cX2_costOfPicks 15 = .ok (.iconst 4, 1) := by decide +kernel
theorem dX2_costOfPicks_16 : decode cX2_costOfPicks 16 = .ok (.if_icmp .ge 135, 3) := by decide +kernel
theorem dX2_costOfPicks_19 : decode cX2_costOfPicks 19 = .ok (.aload_n 0, 1) := by decide +kernel
theorem dX2_costOfPicks_20 : decode cX2_costOfPicks 20 = .ok (.getfield 11, 3) := by decide +kernel
theorem dX2_costOfPicks_23 : decode cX2_costOfPicks 23 = .ok (.iload 6, 2) := by decide +kernel
theorem dX2_costOfPicks_25 : decode cX2_costOfPicks 25 = .ok (.iaload, 1) := by decide +kernel
theorem dX2_costOfPicks_26 : decode cX2_costOfPicks 26 = .ok (.iload 4, 2) := by decide +kernel
theorem dX2_costOfPicks_28 : decode cX2_costOfPicks 28 = .ok (.if_icmp .ge 123, 3) := by decide +kernel
theorem dX2_costOfPicks_31 : decode cX2_costOfPicks 31 = .ok (.aload_n 0, 1) := by decide +kernel
theorem dX2_costOfPicks_32 : decode cX2_costOfPicks 32 = .ok (.getfield 15, 3) := by decide +kernel
theorem dX2_costOfPicks_35 : decode cX2_costOfPicks 35 = .ok (.iconst 0, 1) := by decide +kernel
theorem dX2_costOfPicks_36 : decode cX2_costOfPicks 36 = .ok (.iaload, 1) := by decide +kernel
theorem dX2_costOfPicks_37 : decode cX2_costOfPicks 37 = .ok (.istore 7, 2) := by decide +kernel
theorem dX2_costOfPicks_39 : decode cX2_costOfPicks 39 = .ok (.aload_n 0, 1) := by decide +kernel
theorem dX2_costOfPicks_40 : decode cX2_costOfPicks 40 = .ok (.getfield 15, 3) := by decide +kernel
theorem dX2_costOfPicks_43 : decode cX2_costOfPicks 43 = .ok (.aload_n 0, 1) := by decide +kernel
theorem dX2_costOfPicks_44 : decode cX2_costOfPicks 44 = .ok (.getfield 11, 3) := by decide +kernel
theorem dX2_costOfPicks_47 : decode cX2_costOfPicks 47 = .ok (.iload 6, 2) := by decide +kernel
theorem dX2_costOfPicks_49 : decode cX2_costOfPicks 49 = .ok (.iaload, 1) := by decide +kernel
theorem dX2_costOfPicks_50 : decode cX2_costOfPicks 50 = .ok (.iaload, 1) := by decide +kernel
theorem dX2_costOfPicks_51 : decode cX2_costOfPicks 51 = .ok (.istore 8, 2) := by decide +kernel
theorem dX2_costOfPicks_53 : decode cX2_costOfPicks 53 = .ok (.aload_n 0, 1) := by decide +kernel
theorem dX2_costOfPicks_54 : decode cX2_costOfPicks 54 = .ok (.getfield 18, 3) := by decide +kernel
theorem dX2_costOfPicks_57 : decode cX2_costOfPicks 57 = .ok (.iload 7, 2) := by decide +kernel
theorem dX2_costOfPicks_59 : decode cX2_costOfPicks 59 = .ok (.iload 8, 2) := by decide +kernel
theorem dX2_costOfPicks_61 : decode cX2_costOfPicks 61 = .ok (.iastore, 1) := by decide +kernel
theorem dX2_costOfPicks_62 : decode cX2_costOfPicks 62 = .ok (.aload_n 0, 1) := by decide +kernel
theorem dX2_costOfPicks_63 : decode cX2_costOfPicks 63 = .ok (.getfield 18, 3) := by decide +kernel
theorem dX2_costOfPicks_66 : decode cX2_costOfPicks 66 = .ok (.iload 8, 2) := by decide +kernel
theorem dX2_costOfPicks_68 : decode cX2_costOfPicks 68 = .ok (.iload 7, 2) := by decide +kernel
theorem dX2_costOfPicks_70 : decode cX2_costOfPicks 70 = .ok (.iastore, 1) := by decide +kernel
theorem dX2_costOfPicks_71 : decode cX2_costOfPicks 71 = .ok (.aload_n 2, 1) := by decide +kernel
theorem dX2_costOfPicks_72 : decode cX2_costOfPicks 72 = .ok (.bipush 8, 2) := by decide +kernel
theorem dX2_costOfPicks_74 : decode cX2_costOfPicks 74 = .ok (.iload 7, 2) := by decide +kernel
theorem dX2_costOfPicks_76 : decode cX2_costOfPicks 76 = .ok (.imul, 1) := by decide +kernel
theorem dX2_costOfPicks_77 : decode cX2_costOfPicks 77 = .ok (.iload 8, 2) := by decide +kernel
theorem dX2_costOfPicks_79 : decode cX2_costOfPicks 79 = .ok (.iadd, 1) := by decide +kernel
theorem dX2_costOfPicks_80 : decode cX2_costOfPicks 80 = .ok (.iaload, 1) := by decide +kernel
theorem dX2_costOfPicks_81 : decode cX2_costOfPicks 81 = .ok (.istore 9, 2) := by decide +kernel
theorem dX2_costOfPicks_83 : decode cX2_costOfPicks 83 = .ok (.iload 9, 2) := by decide +kernel
theorem dX2_costOfPicks_85 : decode cX2_costOfPicks 85 = .ok (.bipush (-6), 2) := by decide +kernel
theorem dX2_costOfPicks_87 : decode cX2_costOfPicks 87 = .ok (.if_icmp .ne 8, 3) := by decide +kernel
theorem dX2_costOfPicks_90 : decode cX2_costOfPicks 90 = .ok (.ldc 58, 2) := by decide +kernel
theorem dX2_costOfPicks_92 : decode cX2_costOfPicks 92 = .ok (.goto 5, 3) := by decide +kernel
theorem dX2_costOfPicks_95 : decode cX2_costOfPicks 95 = .ok (.iload 9, 2) := by decide +kernel
theorem dX2_costOfPicks_97 : decode cX2_costOfPicks 97 = .ok (.istore 10, 2) := by decide +kernel
theorem dX2_costOfPicks_99 : decode cX2_costOfPicks 99 = .ok (.iload_n 3, 1) := by decide +kernel
theorem dX2_costOfPicks_100 : decode cX2_costOfPicks 100 = .ok (.ifCond .eq 13, 3) := by decide +kernel
theorem dX2_costOfPicks_103 : decode cX2_costOfPicks 103 = .ok (.iload 5, 2) := by decide +kernel
theorem dX2_costOfPicks_105 : decode cX2_costOfPicks 105 = .ok (.iload 10, 2) := by decide +kernel
theorem dX2_costOfPicks_107 : decode cX2_costOfPicks 107 = .ok (.invokestatic 59, 3) := by decide +kernel
theorem dX2_costOfPicks_110 : decode cX2_costOfPicks 110 = .ok (.goto 8, 3) := by decide +kernel
theorem dX2_costOfPicks_113 : decode cX2_costOfPicks 113 = .ok (.iload 5, 2) := by decide +kernel
theorem dX2_costOfPicks_115 : decode cX2_costOfPicks 115 = .ok (.iload 10, 2) := by decide +kernel
theorem dX2_costOfPicks_117 : decode cX2_costOfPicks 117 = .ok (.iadd, 1) := by decide +kernel
theorem dX2_costOfPicks_118 : decode cX2_costOfPicks 118 = .ok (.istore 5, 2) := by decide +kernel
theorem dX2_costOfPicks_120 : decode cX2_costOfPicks 120 = .ok (.aload_n 0, 1) := by decide +kernel
theorem dX2_costOfPicks_121 : decode cX2_costOfPicks 121 = .ok (.aload_n 0, 1) := by decide +kernel
theorem dX2_costOfPicks_122 : decode cX2_costOfPicks 122 = .ok (.getfield 11, 3) := by decide +kernel
theorem dX2_costOfPicks_125 : decode cX2_costOfPicks 125 = .ok (.iload 6, 2) := by decide +kernel
theorem dX2_costOfPicks_127 : decode cX2_costOfPicks 127 = .ok (.iaload, 1) := by decide +kernel
theorem dX2_costOfPicks_128 : decode cX2_costOfPicks 128 = .ok (.iload 4, 2) := by decide +kernel
theorem dX2_costOfPicks_130 : decode cX2_costOfPicks 130 = .ok (.invokevirtual 65, 3) := by decide +kernel
theorem dX2_costOfPicks_133 : decode cX2_costOfPicks 133 = .ok (.aload_n 0, 1) := by decide +kernel
theorem dX2_costOfPicks_134 : decode cX2_costOfPicks 134 = .ok (.iconst 0, 1) := by decide +kernel
theorem dX2_costOfPicks_135 : decode cX2_costOfPicks 135 = .ok (.iload 4, 2) := by decide +kernel
theorem dX2_costOfPicks_137 : decode cX2_costOfPicks 137 = .ok (.iconst 1, 1) := by decide +kernel
theorem dX2_costOfPicks_138 : decode cX2_costOfPicks 138 = .ok (.isub, 1) := by decide +kernel
theorem dX2_costOfPicks_139 : decode cX2_costOfPicks 139 = .ok (.invokevirtual 65, 3) := by decide +kernel
theorem dX2_costOfPicks_142 : decode cX2_costOfPicks 142 = .ok (.iinc 4 (-2), 3) := by decide +kernel
theorem dX2_costOfPicks_145 : decode cX2_costOfPicks 145 = .ok (.iinc 6 1, 3) := by decide +kernel
theorem dX2_costOfPicks_148 : decode cX2_costOfPicks 148 = .ok (.goto (-135), 3) := by decide +kernel
theorem dX2_costOfPicks_151 : decode cX2_costOfPicks 151 = .ok (.iload 5, 2) := by decide +kernel
theorem dX2_costOfPicks_153 : decode cX2_costOfPicks 153 = .ok (.ireturn, 1) := by decide +kernel
theorem dX2_lineUp_0 : decode cX2_lineUp 0 = .ok (.iconst 0, 1) := by decide +kernel
theorem dX2_lineUp_1 : decode cX2_lineUp 1 = .ok (.istore_n 2, 1) := by decide +kernel
theorem dX2_lineUp_2 : decode cX2_lineUp 2 = .ok (.iconst 0, 1) := by decide +kernel
theorem dX2_lineUp_3 : decode cX2_lineUp 3 = .ok (.istore_n 3, 1) := by decide +kernel
theorem dX2_lineUp_4 : decode cX2_lineUp 4 = .ok (.iload_n 3, 1) := by decide +kernel
theorem dX2_lineUp_5 : decode cX2_lineUp 5 = .ok (.bipush 8, 2) := by decide +kernel
theorem dX2_lineUp_7 : decode cX2_lineUp 7 = .ok (.if_icmp .ge 27, 3) := by decide +kernel
theorem dX2_lineUp_10 : decode cX2_lineUp 10 = .ok (.aload_n 1, 1) := by decide +kernel
theorem dX2_lineUp_11 : decode cX2_lineUp 11 = .ok (.iload_n 3, 1) := by decide +kernel
theorem dX2_lineUp_12 : decode cX2_lineUp 12 = .ok (.invokevirtual 69, 3) := by decide +kernel
theorem dX2_lineUp_15 : decode cX2_lineUp 15 = .ok (.ifCond .eq 13, 3) := by decide +kernel
theorem dX2_lineUp_18 : decode cX2_lineUp 18 = .ok (.aload_n 0, 1) := by decide +kernel
theorem dX2_lineUp_19 : decode cX2_lineUp 19 = .ok (.getfield 15, 3) := by decide +kernel
theorem dX2_lineUp_22 : decode cX2_lineUp 22 = .ok (.iload_n 2, 1) := by decide +kernel
theorem dX2_lineUp_23 : decode cX2_lineUp 23 = .ok (.iload_n 3, 1) := by decide +kernel
theorem dX2_lineUp_24 : decode cX2_lineUp 24 = .ok (.iastore, 1) := by decide +kernel
theorem dX2_lineUp_25 : decode cX2_lineUp 25 = .ok (.iinc 2 1, 3) := by decide +kernel
theorem dX2_lineUp_28 : decode cX2_lineUp 28 = .ok (.iinc 3 1, 3) := by decide +kernel
theorem dX2_lineUp_31 : decode cX2_lineUp 31 = .ok (.goto (-27), 3) := by decide +kernel
theorem dX2_lineUp_34 : decode cX2_lineUp 34 = .ok (.iload_n 2, 1) := by decide +kernel
theorem dX2_lineUp_35 : decode cX2_lineUp 35 = .ok (.ireturn, 1) := by decide +kernel
theorem dX2_takeOut_0 : decode cX2_takeOut 0 = .ok (.iload_n 1, 1) := by decide +kernel
theorem dX2_takeOut_1 : decode cX2_takeOut 1 = .ok (.istore_n 3, 1) := by decide +kernel
theorem dX2_takeOut_2 : decode cX2_takeOut 2 = .ok (.iload_n 3, 1) := by decide +kernel
theorem dX2_takeOut_3 : decode cX2_takeOut 3 = .ok (.iload_n 2, 1) := by decide +kernel
theorem dX2_takeOut_4 : decode cX2_takeOut 4 = .ok (.iconst 1, 1) := by decide +kernel
theorem dX2_takeOut_5 : decode cX2_takeOut 5 = .ok (.isub, 1) := by decide +kernel
theorem dX2_takeOut_6 : decode cX2_takeOut 6 = .ok (.if_icmp .ge 23, 3) := by decide +kernel
theorem dX2_takeOut_9 : decode cX2_takeOut 9 = .ok (.aload_n 0, 1) := by decide +kernel
theorem dX2_takeOut_10 : decode cX2_takeOut 10 = .ok (.getfield 15, 3) := by decide +kernel
theorem dX2_takeOut_13 : decode cX2_takeOut 13 = .ok (.iload_n 3, 1) := by decide +kernel
theorem dX2_takeOut_14 : decode cX2_takeOut 14 = .ok (.aload_n 0, 1) := by decide +kernel
theorem dX2_takeOut_15 : decode cX2_takeOut 15 = .ok (.getfield 15, 3) := by decide +kernel
theorem dX2_takeOut_18 : decode cX2_takeOut 18 = .ok (.iload_n 3, 1) := by decide +kernel
theorem dX2_takeOut_19 : decode cX2_takeOut 19 = .ok (.iconst 1, 1) := by decide +kernel
theorem dX2_takeOut_20 : decode cX2_takeOut 20 = .ok (.iadd, 1) := by decide +kernel
theorem dX2_takeOut_21 : decode cX2_takeOut 21 = .ok (.iaload, 1) := by decide +kernel
theorem dX2_takeOut_22 : decode cX2_takeOut 22 = .ok (.iastore, 1) := by decide +kernel
theorem dX2_takeOut_23 : decode cX2_takeOut 23 = .ok (.iinc 3 1, 3) := by decide +kernel
theorem dX2_takeOut_26 : decode cX2_takeOut 26 = .ok (.goto (-24), 3) := by decide +kernel
theorem dX2_takeOut_29 : decode cX2_takeOut 29 = .ok (.return_, 1) := by decide +kernel
theorem dX3_init_0 : decode cX3_init 0 = .ok (.aload_n 0, 1) := by decide +kernel
theorem dX3_init_1 : decode cX3_init 1 = .ok (.invokespecial 3, 3) := by decide +kernel
theorem dX3_init_4 : decode cX3_init 4 = .ok (.aload_n 0, 1) := by decide +kernel
theorem dX3_init_5 : decode cX3_init 5 = .ok (.bipush (-6), 2) := by decide +kernel
theorem dX3_init_7 : decode cX3_init 7 = .ok (.putfield 9, 3) := by decide +kernel
theorem dX3_init_10 : decode cX3_init 10 = .ok (.aload_n 0, 1) := by decide +kernel
theorem dX3_init_11 : decode cX3_init 11 = .ok (.bipush (-6), 2) := by decide +kernel
theorem dX3_init_13 : decode cX3_init 13 = .ok (.putfield 15, 3) := by decide +kernel
theorem dX3_init_16 : decode cX3_init 16 = .ok (.return_, 1) := by decide +kernel
theorem dX3_clear_0 : decode cX3_clear 0 = .ok (.aload_n 0, 1) := by decide +kernel
theorem dX3_clear_1 : decode cX3_clear 1 = .ok (.bipush (-6), 2) := by decide +kernel
theorem dX3_clear_3 : decode cX3_clear 3 = .ok (.putfield 9, 3) := by decide +kernel
theorem dX3_clear_6 : decode cX3_clear 6 = .ok (.aload_n 0, 1) := by decide +kernel
theorem dX3_clear_7 : decode cX3_clear 7 = .ok (.bipush (-6), 2) := by decide +kernel
theorem dX3_clear_9 : decode cX3_clear 9 = .ok (.putfield 15, 3) := by decide +kernel
theorem dX3_clear_12 : decode cX3_clear 12 = .ok (.return_, 1) := by decide +kernel
theorem dX3_offer_0 : decode cX3_offer 0 = .ok (.iload_n 2, 1) := by decide +kernel
theorem dX3_offer_1 : decode cX3_offer 1 = .ok (.bipush (-6), 2) := by decide +kernel
theorem dX3_offer_3 : decode cX3_offer 3 = .ok (.if_icmp .eq 30, 3) := by decide +kernel
theorem dX3_offer_6 : decode cX3_offer 6 = .ok (.aload_n 0, 1) := by decide +kernel
theorem dX3_offer_7 : decode cX3_offer 7 = .ok (.getfield 9, 3) := by decide +kernel
theorem dX3_offer_10 : decode cX3_offer 10 = .ok (.bipush (-6), 2) := by decide +kernel
theorem dX3_offer_12 : decode cX3_offer 12 = .ok (.if_icmp .eq 11, 3) := by decide +kernel
theorem dX3_offer_15 : decode cX3_offer 15 = .ok (.iload_n 2, 1) := by decide +kernel
theorem dX3_offer_16 : decode cX3_offer 16 = .ok (.aload_n 0, 1) := by decide +kernel
theorem dX3_offer_17 : decode cX3_offer 17 = .ok (.getfield 9, 3) := by decide +kernel
theorem dX3_offer_20 : decode cX3_offer 20 = .ok (.if_icmp .ge 13, 3) := by decide +kernel
theorem dX3_offer_23 : decode cX3_offer 23 = .ok (.aload_n 0, 1) := by decide +kernel
theorem dX3_offer_24 : decode cX3_offer 24 = .ok (.iload_n 2, 1) := by decide +kernel
theorem dX3_offer_25 : decode cX3_offer 25 = .ok (.putfield 9, 3) := by decide +kernel
theorem dX3_offer_28 : decode cX3_offer 28 = .ok (.aload_n 0, 1) := by decide +kernel
theorem dX3_offer_29 : decode cX3_offer 29 = .ok (.iload_n 1, 1) := by decide +kernel
theorem dX3_offer_30 : decode cX3_offer 30 = .ok (.putfield 15, 3) := by decide +kernel
theorem dX3_offer_33 : decode cX3_offer 33 = .ok (.return_, 1) := by decide +kernel
theorem dX3_answer_0 : decode cX3_answer 0 = .ok (.iload_n 1, 1) := by decide +kernel
theorem dX3_answer_1 : decode cX3_answer 1 = .ok (.ifCond .ne 10, 3) := by decide +kernel
theorem dX3_answer_4 : decode cX3_answer 4 = .ok (.aload_n 0, 1) := by decide +kernel
theorem dX3_answer_5 : decode cX3_answer 5 = .ok (.getfield 15, 3) := by decide +kernel
theorem dX3_answer_8 : decode cX3_answer 8 = .ok (.goto 7, 3) := by decide +kernel
theorem dX3_answer_11 : decode cX3_answer 11 = .ok (.aload_n 0, 1) := by decide +kernel
theorem dX3_answer_12 : decode cX3_answer 12 = .ok (.getfield 9, 3) := by decide +kernel
theorem dX3_answer_15 : decode cX3_answer 15 = .ok (.ireturn, 1) := by decide +kernel
theorem dX4_init_0 : decode cX4_init 0 = .ok (.aload_n 0, 1) := by decide +kernel
theorem dX4_init_1 : decode cX4_init 1 = .ok (.invokespecial 3, 3) := by decide +kernel
theorem dX4_init_4 : decode cX4_init 4 = .ok (.return_, 1) := by decide +kernel
theorem dX4_tie_0 : decode cX4_tie 0 = .ok (.aload_n 1, 1) := by decide +kernel
theorem dX4_tie_1 : decode cX4_tie 1 = .ok (.iload_n 2, 1) := by decide +kernel
theorem dX4_tie_2 : decode cX4_tie 2 = .ok (.iload_n 3, 1) := by decide +kernel
theorem dX4_tie_3 : decode cX4_tie 3 = .ok (.invokevirtual 9, 3) := by decide +kernel
theorem dX4_tie_6 : decode cX4_tie 6 = .ok (.ifCond .ne 4, 3) := by decide +kernel
theorem dX4_tie_9 : decode cX4_tie 9 = .ok (.return_, 1) := by decide +kernel
theorem dX4_tie_10 : decode cX4_tie 10 = .ok (.aload_n 0, 1) := by decide +kernel
theorem dX4_tie_11 : decode cX4_tie 11 = .ok (.aload_n 1, 1) := by decide +kernel
theorem dX4_tie_12 : decode cX4_tie 12 = .ok (.getfield 15, 3) := by decide +kernel
theorem dX4_tie_15 : decode cX4_tie 15 = .ok (.iload_n 2, 1) := by decide +kernel
theorem dX4_tie_16 : decode cX4_tie 16 = .ok (.iaload, 1) := by decide +kernel
theorem dX4_tie_17 : decode cX4_tie 17 = .ok (.putfield 19, 3) := by decide +kernel
theorem dX4_tie_20 : decode cX4_tie 20 = .ok (.aload_n 0, 1) := by decide +kernel
theorem dX4_tie_21 : decode cX4_tie 21 = .ok (.aload_n 1, 1) := by decide +kernel
theorem dX4_tie_22 : decode cX4_tie 22 = .ok (.getfield 15, 3) := by decide +kernel
theorem dX4_tie_25 : decode cX4_tie 25 = .ok (.iload_n 3, 1) := by decide +kernel
theorem dX4_tie_26 : decode cX4_tie 26 = .ok (.iaload, 1) := by decide +kernel
theorem dX4_tie_27 : decode cX4_tie 27 = .ok (.putfield 25, 3) := by decide +kernel
theorem dX4_tie_30 : decode cX4_tie 30 = .ok (.aload_n 0, 1) := by decide +kernel
theorem dX4_tie_31 : decode cX4_tie 31 = .ok (.aload_n 1, 1) := by decide +kernel
theorem dX4_tie_32 : decode cX4_tie 32 = .ok (.getfield 28, 3) := by decide +kernel
theorem dX4_tie_35 : decode cX4_tie 35 = .ok (.iload_n 2, 1) := by decide +kernel
theorem dX4_tie_36 : decode cX4_tie 36 = .ok (.iaload, 1) := by decide +kernel
theorem dX4_tie_37 : decode cX4_tie 37 = .ok (.putfield 31, 3) := by decide +kernel
theorem dX4_tie_40 : decode cX4_tie 40 = .ok (.aload_n 0, 1) := by decide +kernel
theorem dX4_tie_41 : decode cX4_tie 41 = .ok (.aload_n 1, 1) := by decide +kernel
theorem dX4_tie_42 : decode cX4_tie 42 = .ok (.getfield 28, 3) := by decide +kernel
theorem dX4_tie_45 : decode cX4_tie 45 = .ok (.iload_n 3, 1) := by decide +kernel
theorem dX4_tie_46 : decode cX4_tie 46 = .ok (.iaload, 1) := by decide +kernel
theorem dX4_tie_47 : decode cX4_tie 47 = .ok (.putfield 34, 3) := by decide +kernel
theorem dX4_tie_50 : decode cX4_tie 50 = .ok (.aload_n 0, 1) := by decide +kernel
theorem dX4_tie_51 : decode cX4_tie 51 = .ok (.aload_n 1, 1) := by decide +kernel
theorem dX4_tie_52 : decode cX4_tie 52 = .ok (.getfield 37, 3) := by decide +kernel
theorem dX4_tie_55 : decode cX4_tie 55 = .ok (.iload_n 2, 1) := by decide +kernel
theorem dX4_tie_56 : decode cX4_tie 56 = .ok (.iaload, 1) := by decide +kernel
theorem dX4_tie_57 : decode cX4_tie 57 = .ok (.aload_n 1, 1) := by decide +kernel
theorem dX4_tie_58 : decode cX4_tie 58 = .ok (.getfield 37, 3) := by decide +kernel
theorem dX4_tie_61 : decode cX4_tie 61 = .ok (.iload_n 3, 1) := by decide +kernel
theorem dX4_tie_62 : decode cX4_tie 62 = .ok (.iaload, 1) := by decide +kernel
theorem dX4_tie_63 : decode cX4_tie 63 = .ok (.invokestatic 40, 3) := by decide +kernel
theorem dX4_tie_66 : decode cX4_tie 66 = .ok (.putfield 46, 3) := by decide +kernel
theorem dX4_tie_69 : decode cX4_tie 69 = .ok (.aload_n 0, 1) := by decide +kernel
theorem dX4_tie_70 : decode cX4_tie 70 = .ok (.aload_n 1, 1) := by decide +kernel
theorem dX4_tie_71 : decode cX4_tie 71 = .ok (.getfield 49, 3) := by decide +kernel
theorem dX4_tie_74 : decode cX4_tie 74 = .ok (.putfield 52, 3) := by decide +kernel
theorem dX4_tie_77 : decode cX4_tie 77 = .ok (.aload_n 0, 1) := by decide +kernel
theorem dX4_tie_78 : decode cX4_tie 78 = .ok (.aload_n 1, 1) := by decide +kernel
theorem dX4_tie_79 : decode cX4_tie 79 = .ok (.getfield 53, 3) := by decide +kernel
theorem dX4_tie_82 : decode cX4_tie 82 = .ok (.putfield 56, 3) := by decide +kernel
theorem dX4_tie_85 : decode cX4_tie 85 = .ok (.aload_n 0, 1) := by decide +kernel
theorem dX4_tie_86 : decode cX4_tie 86 = .ok (.aload_n 1, 1) := by decide +kernel
theorem dX4_tie_87 : decode cX4_tie 87 = .ok (.getfield 57, 3) := by decide +kernel
theorem dX4_tie_90 : decode cX4_tie 90 = .ok (.putfield 60, 3) := by decide +kernel
theorem dX4_tie_93 : decode cX4_tie 93 = .ok (.aload_n 0, 1) := by decide +kernel
theorem dX4_tie_94 : decode cX4_tie 94 = .ok (.iconst 0, 1) := by decide +kernel
theorem dX4_tie_95 : decode cX4_tie 95 = .ok (.putfield 61, 3) := by decide +kernel
theorem dX4_tie_98 : decode cX4_tie 98 = .ok (.aload_n 0, 1) := by decide +kernel
theorem dX4_tie_99 : decode cX4_tie 99 = .ok (.iconst 0, 1) := by decide +kernel
theorem dX4_tie_100 : decode cX4_tie 100 = .ok (.putfield 64, 3) := by decide +kernel
theorem dX4_tie_103 : decode cX4_tie 103 = .ok (.aload_n 0, 1) := by decide +kernel
theorem dX4_tie_104 : decode cX4_tie 104 = .ok (.iconst 0, 1) := by decide +kernel
theorem dX4_tie_105 : decode cX4_tie 105 = .ok (.putfield 67, 3) := by decide +kernel
theorem dX4_tie_108 : decode cX4_tie 108 = .ok (.aload_n 0, 1) := by decide +kernel
theorem dX4_tie_109 : decode cX4_tie 109 = .ok (.iconst 0, 1) := by decide +kernel
theorem dX4_tie_110 : decode cX4_tie 110 = .ok (.putfield 70, 3) := by decide +kernel
theorem dX4_tie_113 : decode cX4_tie 113 = .ok (.aload_n 0, 1) := by decide +kernel
theorem dX4_tie_114 : decode cX4_tie 114 = .ok (.iconst 0, 1) := by decide +kernel
theorem dX4_tie_115 : decode cX4_tie 115 = .ok (.putfield 73, 3) := by decide +kernel
theorem dX4_tie_118 : decode cX4_tie 118 = .ok (.aload_n 0, 1) := by decide +kernel
theorem dX4_tie_119 : decode cX4_tie 119 = .ok (.iconst 0, 1) := by decide +kernel
theorem dX4_tie_120 : decode cX4_tie 120 = .ok (.putfield 76, 3) := by decide +kernel
theorem dX4_tie_123 : decode cX4_tie 123 = .ok (.return_, 1) := by decide +kernel
theorem dX4_beatBoth_0 : decode cX4_beatBoth 0 = .ok (.aload_n 0, 1) := by decide +kernel
theorem dX4_beatBoth_1 : decode cX4_beatBoth 1 = .ok (.iload_n 1, 1) := by decide +kernel
theorem dX4_beatBoth_2 : decode cX4_beatBoth 2 = .ok (.putfield 19, 3) := by decide +kernel
theorem dX4_beatBoth_5 : decode cX4_beatBoth 5 = .ok (.aload_n 0, 1) := by decide +kernel
theorem dX4_beatBoth_6 : decode cX4_beatBoth 6 = .ok (.iload_n 1, 1) := by decide +kernel
theorem dX4_beatBoth_7 : decode cX4_beatBoth 7 = .ok (.putfield 25, 3) := by decide +kernel
theorem dX4_beatBoth_10 : decode cX4_beatBoth 10 = .ok (.return_, 1) := by decide +kernel
theorem dX4_give_0 : decode cX4_give 0 = .ok (.aload_n 0, 1) := by decide +kernel
theorem dX4_give_1 : decode cX4_give 1 = .ok (.iload_n 1, 1) := by decide +kernel
theorem dX4_give_2 : decode cX4_give 2 = .ok (.putfield 31, 3) := by decide +kernel
theorem dX4_give_5 : decode cX4_give 5 = .ok (.aload_n 0, 1) := by decide +kernel
theorem dX4_give_6 : decode cX4_give 6 = .ok (.iload_n 2, 1) := by decide +kernel
theorem dX4_give_7 : decode cX4_give 7 = .ok (.putfield 34, 3) := by decide +kernel
theorem dX4_give_10 : decode cX4_give 10 = .ok (.return_, 1) := by decide +kernel
theorem dX4_speedUp_0 : decode cX4_speedUp 0 = .ok (.aload_n 0, 1) := by decide +kernel
theorem dX4_speedUp_1 : decode cX4_speedUp 1 = .ok (.iconst 4, 1) := by decide +kernel
theorem dX4_speedUp_2 : decode cX4_speedUp 2 = .ok (.aload_n 0, 1) := by decide +kernel
theorem dX4_speedUp_3 : decode cX4_speedUp 3 = .ok (.getfield 19, 3) := by decide +kernel
theorem dX4_speedUp_6 : decode cX4_speedUp 6 = .ok (.iconst 1, 1) := by decide +kernel
theorem dX4_speedUp_7 : decode cX4_speedUp 7 = .ok (.isub, 1) := by decide +kernel
theorem dX4_speedUp_8 : decode cX4_speedUp 8 = .ok (.invokestatic 79, 3) := by decide +kernel
theorem dX4_speedUp_11 : decode cX4_speedUp 11 = .ok (.putfield 19, 3) := by decide +kernel
theorem dX4_speedUp_14 : decode cX4_speedUp 14 = .ok (.aload_n 0, 1) := by decide +kernel
theorem dX4_speedUp_15 : decode cX4_speedUp 15 = .ok (.iconst 4, 1) := by decide +kernel
theorem dX4_speedUp_16 : decode cX4_speedUp 16 = .ok (.aload_n 0, 1) := by decide +kernel
theorem dX4_speedUp_17 : decode cX4_speedUp 17 = .ok (.getfield 25, 3) := by decide +kernel
theorem dX4_speedUp_20 : decode cX4_speedUp 20 = .ok (.iconst 1, 1) := by decide +kernel
theorem dX4_speedUp_21 : decode cX4_speedUp 21 = .ok (.isub, 1) := by decide +kernel
theorem dX4_speedUp_22 : decode cX4_speedUp 22 = .ok (.invokestatic 79, 3) := by decide +kernel
theorem dX4_speedUp_25 : decode cX4_speedUp 25 = .ok (.putfield 25, 3) := by decide +kernel
theorem dX4_speedUp_28 : decode cX4_speedUp 28 = .ok (.return_, 1) := by decide +kernel
theorem dX4_time_0 : decode cX4_time 0 = .ok (.aload_n 0, 1) := by decide +kernel
theorem dX4_time_1 : decode cX4_time 1 = .ok (.getfield 61, 3) := by decide +kernel
theorem dX4_time_4 : decode cX4_time 4 = .ok (.aload_n 0, 1) := by decide +kernel
theorem dX4_time_5 : decode cX4_time 5 = .ok (.getfield 64, 3) := by decide +kernel
theorem dX4_time_8 : decode cX4_time 8 = .ok (.invokestatic 79, 3) := by decide +kernel
theorem dX4_time_11 : decode cX4_time 11 = .ok (.ireturn, 1) := by decide +kernel
theorem dX4_apart_0 : decode cX4_apart 0 = .ok (.aload_n 0, 1) := by decide +kernel
theorem dX4_apart_1 : decode cX4_apart 1 = .ok (.getfield 61, 3) := by decide +kernel
theorem dX4_apart_4 : decode cX4_apart 4 = .ok (.aload_n 0, 1) := by decide +kernel
theorem dX4_apart_5 : decode cX4_apart 5 = .ok (.getfield 64, 3) := by decide +kernel
theorem dX4_apart_8 : decode cX4_apart 8 = .ok (.isub, 1) := by decide +kernel
theorem dX4_apart_9 : decode cX4_apart 9 = .ok (.invokestatic 82, 3) := by decide +kernel
theorem dX4_apart_12 : decode cX4_apart 12 = .ok (.ireturn, 1) := by decide +kernel
theorem dX4_step_0 : decode cX4_step 0 = .ok (.aload_n 0, 1) := by decide +kernel
theorem dX4_step_1 : decode cX4_step 1 = .ok (.getfield 61, 3) := by decide +kernel
theorem dX4_step_4 : decode cX4_step 4 = .ok (.iconst 1, 1) := by decide +kernel
theorem dX4_step_5 : decode cX4_step 5 = .ok (.aload_n 0, 1) := by decide +kernel
theorem dX4_step_6 : decode cX4_step 6 = .ok (.getfield 19, 3) := by decide +kernel
theorem dX4_step_9 : decode cX4_step 9 = .ok (.aload_n 0, 1) := by decide +kernel
theorem dX4_step_10 : decode cX4_step 10 = .ok (.getfield 31, 3) := by decide +kernel
theorem dX4_step_13 : decode cX4_step 13 = .ok (.aload_n 0, 1) := by decide +kernel
theorem dX4_step_14 : decode cX4_step 14 = .ok (.getfield 64, 3) := by decide +kernel
theorem dX4_step_17 : decode cX4_step 17 = .ok (.aload_n 0, 1) := by decide +kernel
theorem dX4_step_18 : decode cX4_step 18 = .ok (.getfield 61, 3) := by decide +kernel
theorem dX4_step_21 : decode cX4_step 21 = .ok (.isub, 1) := by decide +kernel
theorem dX4_step_22 : decode cX4_step 22 = .ok (.imul, 1) := by decide +kernel
theorem dX4_step_23 : decode cX4_step 23 = .ok (.iconst 4, 1) := by decide +kernel
theorem dX4_step_24 : decode cX4_step 24 = .ok (.idiv, 1) := by decide +kernel
theorem dX4_step_25 : decode cX4_step 25 = .ok (.iadd, 1) := by decide +kernel
theorem dX4_step_26 : decode cX4_step 26 = .ok (.invokestatic 79, 3) := by decide +kernel
theorem dX4_step_29 : decode cX4_step 29 = .ok (.iadd, 1) := by decide +kernel
theorem dX4_step_30 : decode cX4_step 30 = .ok (.istore_n 1, 1) := by decide +kernel
theorem dX4_step_31 : decode cX4_step 31 = .ok (.aload_n 0, 1) := by decide +kernel
theorem dX4_step_32 : decode cX4_step 32 = .ok (.getfield 64, 3) := by decide +kernel
theorem dX4_step_35 : decode cX4_step 35 = .ok (.iconst 1, 1) := by decide +kernel
theorem dX4_step_36 : decode cX4_step 36 = .ok (.aload_n 0, 1) := by decide +kernel
theorem dX4_step_37 : decode cX4_step 37 = .ok (.getfield 25, 3) := by decide +kernel
theorem dX4_step_40 : decode cX4_step 40 = .ok (.aload_n 0, 1) := by decide +kernel
theorem dX4_step_41 : decode cX4_step 41 = .ok (.getfield 34, 3) := by decide +kernel
theorem dX4_step_44 : decode cX4_step 44 = .ok (.aload_n 0, 1) := by decide +kernel
theorem dX4_step_45 : decode cX4_step 45 = .ok (.getfield 61, 3) := by decide +kernel
theorem dX4_step_48 : decode cX4_step 48 = .ok (.aload_n 0, 1) := by decide +kernel
theorem dX4_step_49 : decode cX4_step 49 = .ok (.getfield 64, 3) := by decide +kernel
theorem dX4_step_52 : decode cX4_step 52 = .ok (.isub, 1) := by decide +kernel
theorem dX4_step_53 : decode cX4_step 53 = .ok (.imul, 1) := by decide +kernel
theorem dX4_step_54 : decode cX4_step 54 = .ok (.iconst 4, 1) := by decide +kernel
theorem dX4_step_55 : decode cX4_step 55 = .ok (.idiv, 1) := by decide +kernel
theorem dX4_step_56 : decode cX4_step 56 = .ok (.iadd, 1) := by decide +kernel
theorem dX4_step_57 : decode cX4_step 57 = .ok (.invokestatic 79, 3) := by decide +kernel
theorem dX4_step_60 : decode cX4_step 60 = .ok (.iadd, 1) := by decide +kernel
theorem dX4_step_61 : decode cX4_step 61 = .ok (.istore_n 2, 1) := by decide +kernel
theorem dX4_step_62 : decode cX4_step 62 = .ok (.aload_n 0, 1) := by decide +kernel
theorem dX4_step_63 : decode cX4_step 63 = .ok (.iload_n 1, 1) := by decide +kernel
theorem dX4_step_64 : decode cX4_step 64 = .ok (.putfield 61, 3) := by decide +kernel
theorem dX4_step_67 : decode cX4_step 67 = .ok (.aload_n 0, 1) := by decide +kernel
theorem dX4_step_68 : decode cX4_step 68 = .ok (.iload_n 2, 1) := by decide +kernel
theorem dX4_step_69 : decode cX4_step 69 = .ok (.putfield 64, 3) := by decide +kernel
theorem dX4_step_72 : decode cX4_step 72 = .ok (.aload_n 0, 1) := by decide +kernel
theorem dX4_step_73 : decode cX4_step 73 = .ok (.iload_n 1, 1) := by decide +kernel
theorem dX4_step_74 : decode cX4_step 74 = .ok (.iload_n 2, 1) := by decide +kernel
theorem dX4_step_75 : decode cX4_step 75 = .ok (.if_icmp .ge 7, 3) := by decide +kernel
theorem dX4_step_78 : decode cX4_step 78 = .ok (.iconst 1, 1) := by decide +kernel
theorem dX4_step_79 : decode cX4_step 79 = .ok (.goto 4, 3) := by decide +kernel
theorem dX4_step_82 : decode cX4_step 82 = .ok (.iconst 0, 1) := by decide +kernel
theorem dX4_step_83 : decode cX4_step 83 = .ok (.putfield 86, 3) := by decide +kernel
theorem dX4_step_86 : decode cX4_step 86 = .ok (.aload_n 0, 1) := by decide +kernel
theorem dX4_step_87 : decode cX4_step 87 = .ok (.dup, 1) := by decide +kernel
theorem dX4_step_88 : decode cX4_step 88 = .ok (.getfield 67, 3) := by decide +kernel
theorem dX4_step_91 : decode cX4_step 91 = .ok (.iconst 1, 1) := by decide +kernel
theorem dX4_step_92 : decode cX4_step 92 = .ok (.iadd, 1) := by decide +kernel
theorem dX4_step_93 : decode cX4_step 93 = .ok (.putfield 67, 3) := by decide +kernel
theorem dX4_step_96 : decode cX4_step 96 = .ok (.aload_n 0, 1) := by decide +kernel
theorem dX4_step_97 : decode cX4_step 97 = .ok (.invokevirtual 90, 3) := by decide +kernel
theorem dX4_step_100 : decode cX4_step 100 = .ok (.aload_n 0, 1) := by decide +kernel
theorem dX4_step_101 : decode cX4_step 101 = .ok (.getfield 56, 3) := by decide +kernel
theorem dX4_step_104 : decode cX4_step 104 = .ok (.if_icmp .le 44, 3) := by decide +kernel
theorem dX4_step_107 : decode cX4_step 107 = .ok (.aload_n 0, 1) := by decide +kernel
theorem dX4_step_108 : decode cX4_step 108 = .ok (.dup, 1) := by decide +kernel
theorem dX4_step_109 : decode cX4_step 109 = .ok (.getfield 76, 3) := by decide +kernel
theorem dX4_step_112 : decode cX4_step 112 = .ok (.iconst 1, 1) := by decide +kernel
theorem dX4_step_113 : decode cX4_step 113 = .ok (.iadd, 1) := by decide +kernel
theorem dX4_step_114 : decode cX4_step 114 = .ok (.putfield 76, 3) := by decide +kernel
theorem dX4_step_117 : decode cX4_step 117 = .ok (.aload_n 0, 1) := by decide +kernel
theorem dX4_step_118 : decode cX4_step 118 = .ok (.bipush 102, 2) := by decide +kernel
theorem dX4_step_120 : decode cX4_step 120 = .ok (.putfield 94, 3) := by decide +kernel
theorem dX4_step_123 : decode cX4_step 123 = .ok (.aload_n 0, 1) := by decide +kernel
theorem dX4_step_124 : decode cX4_step 124 = .ok (.iload_n 1, 1) := by decide +kernel
theorem dX4_step_125 : decode cX4_step 125 = .ok (.iload_n 2, 1) := by decide +kernel
theorem dX4_step_126 : decode cX4_step 126 = .ok (.invokestatic 79, 3) := by decide +kernel
theorem dX4_step_129 : decode cX4_step 129 = .ok (.aload_n 0, 1) := by decide +kernel
theorem dX4_step_130 : decode cX4_step 130 = .ok (.getfield 60, 3) := by decide +kernel
theorem dX4_step_133 : decode cX4_step 133 = .ok (.iadd, 1) := by decide +kernel
theorem dX4_step_134 : decode cX4_step 134 = .ok (.putfield 61, 3) := by decide +kernel
theorem dX4_step_137 : decode cX4_step 137 = .ok (.aload_n 0, 1) := by decide +kernel
theorem dX4_step_138 : decode cX4_step 138 = .ok (.aload_n 0, 1) := by decide +kernel
theorem dX4_step_139 : decode cX4_step 139 = .ok (.getfield 61, 3) := by decide +kernel
theorem dX4_step_142 : decode cX4_step 142 = .ok (.putfield 64, 3) := by decide +kernel
theorem dX4_step_145 : decode cX4_step 145 = .ok (.goto 52, 3) := by decide +kernel
theorem dX4_step_148 : decode cX4_step 148 = .ok (.aload_n 0, 1) := by decide +kernel
theorem dX4_step_149 : decode cX4_step 149 = .ok (.invokevirtual 90, 3) := by decide +kernel
theorem dX4_step_152 : decode cX4_step 152 = .ok (.aload_n 0, 1) := by decide +kernel
theorem dX4_step_153 : decode cX4_step 153 = .ok (.getfield 52, 3) := by decide +kernel
theorem dX4_step_156 : decode cX4_step 156 = .ok (.if_icmp .le 22, 3) := by decide +kernel
theorem dX4_step_159 : decode cX4_step 159 = .ok (.aload_n 0, 1) := by decide +kernel
theorem dX4_step_160 : decode cX4_step 160 = .ok (.dup, 1) := by decide +kernel
theorem dX4_step_161 : decode cX4_step 161 = .ok (.getfield 73, 3) := by decide +kernel
theorem dX4_step_164 : decode cX4_step 164 = .ok (.iconst 1, 1) := by decide +kernel
theorem dX4_step_165 : decode cX4_step 165 = .ok (.iadd, 1) := by decide +kernel
theorem dX4_step_166 : decode cX4_step 166 = .ok (.putfield 73, 3) := by decide +kernel
theorem dX4_step_169 : decode cX4_step 169 = .ok (.aload_n 0, 1) := by decide +kernel
theorem dX4_step_170 : decode cX4_step 170 = .ok (.bipush 108, 2) := by decide +kernel
theorem dX4_step_172 : decode cX4_step 172 = .ok (.putfield 94, 3) := by decide +kernel
theorem dX4_step_175 : decode cX4_step 175 = .ok (.goto 22, 3) := by decide +kernel
theorem dX4_step_178 : decode cX4_step 178 = .ok (.aload_n 0, 1) := by decide +kernel
theorem dX4_step_179 : decode cX4_step 179 = .ok (.dup, 1) := by decide +kernel
theorem dX4_step_180 : decode cX4_step 180 = .ok (.getfield 70, 3) := by decide +kernel
theorem dX4_step_183 : decode cX4_step 183 = .ok (.aload_n 0, 1) := by decide +kernel
theorem dX4_step_184 : decode cX4_step 184 = .ok (.getfield 46, 3) := by decide +kernel
theorem dX4_step_187 : decode cX4_step 187 = .ok (.iadd, 1) := by decide +kernel
theorem dX4_step_188 : decode cX4_step 188 = .ok (.putfield 70, 3) := by decide +kernel
theorem dX4_step_191 : decode cX4_step 191 = .ok (.aload_n 0, 1) := by decide +kernel
theorem dX4_step_192 : decode cX4_step 192 = .ok (.bipush 115, 2) := by decide +kernel
theorem dX4_step_194 : decode cX4_step 194 = .ok (.putfield 94, 3) := by decide +kernel
theorem dX4_step_197 : decode cX4_step 197 = .ok (.return_, 1) := by decide +kernel
theorem dX4_timeTo_0 : decode cX4_timeTo 0 = .ok (.iconst 0, 1) := by decide +kernel
theorem dX4_timeTo_1 : decode cX4_timeTo 1 = .ok (.istore_n 3, 1) := by decide +kernel
theorem dX4_timeTo_2 : decode cX4_timeTo 2 = .ok (.iload_n 3, 1) := by decide +kernel
theorem dX4_timeTo_3 : decode cX4_timeTo 3 = .ok (.sipush 999, 3) := by decide +kernel
theorem dX4_timeTo_6 : decode cX4_timeTo 6 = .ok (.if_icmp .ge 35, 3) := by decide +kernel
theorem dX4_timeTo_9 : decode cX4_timeTo 9 = .ok (.iload_n 3, 1) := by decide +kernel
theorem dX4_timeTo_10 : decode cX4_timeTo 10 = .ok (.iload_n 2, 1) := by decide +kernel
theorem dX4_timeTo_11 : decode cX4_timeTo 11 = .ok (.if_icmp .ne 7, 3) := by decide +kernel
theorem dX4_timeTo_14 : decode cX4_timeTo 14 = .ok (.aload_n 0, 1) := by decide +kernel
theorem dX4_timeTo_15 : decode cX4_timeTo 15 = .ok (.invokevirtual 98, 3) := by decide +kernel
theorem dX4_timeTo_18 : decode cX4_timeTo 18 = .ok (.aload_n 0, 1) := by decide +kernel
theorem dX4_timeTo_19 : decode cX4_timeTo 19 = .ok (.invokevirtual 101, 3) := by decide +kernel
theorem dX4_timeTo_22 : decode cX4_timeTo 22 = .ok (.aload_n 0, 1) := by decide +kernel
theorem dX4_timeTo_23 : decode cX4_timeTo 23 = .ok (.getfield 70, 3) := by decide +kernel
theorem dX4_timeTo_26 : decode cX4_timeTo 26 = .ok (.iload_n 1, 1) := by decide +kernel
theorem dX4_timeTo_27 : decode cX4_timeTo 27 = .ok (.if_icmp .lt 8, 3) := by decide +kernel
theorem dX4_timeTo_30 : decode cX4_timeTo 30 = .ok (.aload_n 0, 1) := by decide +kernel
theorem dX4_timeTo_31 : decode cX4_timeTo 31 = .ok (.invokevirtual 104, 3) := by decide +kernel
theorem dX4_timeTo_34 : decode cX4_timeTo 34 = .ok (.ireturn, 1) := by decide +kernel
theorem dX4_timeTo_35 : decode cX4_timeTo 35 = .ok (.iinc 3 1, 3) := by decide +kernel
theorem dX4_timeTo_38 : decode cX4_timeTo 38 = .ok (.goto (-36), 3) := by decide +kernel
theorem dX4_timeTo_41 : decode cX4_timeTo 41 = .ok (.bipush (-6), 2) := by decide +kernel
theorem dX4_timeTo_43 : decode cX4_timeTo 43 = .ok (.ireturn, 1) := by decide +kernel
theorem dX4_standsFor_0 : decode cX4_standsFor 0 = .ok (.iconst 0, 1) := by decide +kernel
theorem dX4_standsFor_1 : decode cX4_standsFor 1 = .ok (.istore_n 2, 1) := by decide +kernel
theorem dX4_standsFor_2 : decode cX4_standsFor 2 = .ok (.iload_n 2, 1) := by decide +kernel
theorem dX4_standsFor_3 : decode cX4_standsFor 3 = .ok (.iload_n 1, 1) := by decide +kernel
theorem dX4_standsFor_4 : decode cX4_standsFor 4 = .ok (.if_icmp .ge 22, 3) := by decide +kernel
theorem dX4_standsFor_7 : decode cX4_standsFor 7 = .ok (.aload_n 0, 1) := by decide +kernel
theorem dX4_standsFor_8 : decode cX4_standsFor 8 = .ok (.invokevirtual 101, 3) := by decide +kernel
theorem dX4_standsFor_11 : decode cX4_standsFor 11 = .ok (.aload_n 0, 1) := by decide +kernel
theorem dX4_standsFor_12 : decode cX4_standsFor 12 = .ok (.getfield 76, 3) := by decide +kernel
theorem dX4_standsFor_15 : decode cX4_standsFor 15 = .ok (.ifCond .le 5, 3) := by decide +kernel
theorem dX4_standsFor_18 : decode cX4_standsFor 18 = .ok (.iconst 0, 1) := by decide +kernel
theorem dX4_standsFor_19 : decode cX4_standsFor 19 = .ok (.ireturn, 1) := by decide +kernel
theorem dX4_standsFor_20 : decode cX4_standsFor 20 = .ok (.iinc 2 1, 3) := by decide +kernel
theorem dX4_standsFor_23 : decode cX4_standsFor 23 = .ok (.goto (-21), 3) := by decide +kernel
theorem dX4_standsFor_26 : decode cX4_standsFor 26 = .ok (.iconst 1, 1) := by decide +kernel
theorem dX4_standsFor_27 : decode cX4_standsFor 27 = .ok (.ireturn, 1) := by decide +kernel
theorem dX4_feetWithin_0 : decode cX4_feetWithin 0 = .ok (.iconst 0, 1) := by decide +kernel
theorem dX4_feetWithin_1 : decode cX4_feetWithin 1 = .ok (.istore_n 2, 1) := by decide +kernel
theorem dX4_feetWithin_2 : decode cX4_feetWithin 2 = .ok (.iload_n 2, 1) := by decide +kernel
theorem dX4_feetWithin_3 : decode cX4_feetWithin 3 = .ok (.sipush 999, 3) := by decide +kernel
theorem dX4_feetWithin_6 : decode cX4_feetWithin 6 = .ok (.if_icmp .ge 28, 3) := by decide +kernel
theorem dX4_feetWithin_9 : decode cX4_feetWithin 9 = .ok (.aload_n 0, 1) := by decide +kernel
theorem dX4_feetWithin_10 : decode cX4_feetWithin 10 = .ok (.getfield 70, 3) := by decide +kernel
theorem dX4_feetWithin_13 : decode cX4_feetWithin 13 = .ok (.istore_n 3, 1) := by decide +kernel
theorem dX4_feetWithin_14 : decode cX4_feetWithin 14 = .ok (.aload_n 0, 1) := by decide +kernel
theorem dX4_feetWithin_15 : decode cX4_feetWithin 15 = .ok (.invokevirtual 101, 3) := by decide +kernel
theorem dX4_feetWithin_18 : decode cX4_feetWithin 18 = .ok (.aload_n 0, 1) := by decide +kernel
theorem dX4_feetWithin_19 : decode cX4_feetWithin 19 = .ok (.invokevirtual 104, 3) := by decide +kernel
theorem dX4_feetWithin_22 : decode cX4_feetWithin 22 = .ok (.iload_n 1, 1) := by decide +kernel
theorem dX4_feetWithin_23 : decode cX4_feetWithin 23 = .ok (.if_icmp .le 5, 3) := by decide +kernel
theorem dX4_feetWithin_26 : decode cX4_feetWithin 26 = .ok (.iload_n 3, 1) := by decide +kernel
theorem dX4_feetWithin_27 : decode cX4_feetWithin 27 = .ok (.ireturn, 1) := by decide +kernel
theorem dX4_feetWithin_28 : decode cX4_feetWithin 28 = .ok (.iinc 2 1, 3) := by decide +kernel
theorem dX4_feetWithin_31 : decode cX4_feetWithin 31 = .ok (.goto (-29), 3) := by decide +kernel
theorem dX4_feetWithin_34 : decode cX4_feetWithin 34 = .ok (.aload_n 0, 1) := by decide +kernel
theorem dX4_feetWithin_35 : decode cX4_feetWithin 35 = .ok (.getfield 70, 3) := by decide +kernel
theorem dX4_feetWithin_38 : decode cX4_feetWithin 38 = .ok (.ireturn, 1) := by decide +kernel
theorem dX5_init_0 : decode cX5_init 0 = .ok (.aload_n 0, 1) := by decide +kernel
theorem dX5_init_1 : decode cX5_init 1 = .ok (.invokespecial 1, 3) := by decide +kernel
theorem dX5_init_4 : decode cX5_init 4 = .ok (.aload_n 0, 1) := by decide +kernel
theorem dX5_init_5 : decode cX5_init 5 = .ok (.new 7, 3) := by decide +kernel
theorem dX5_init_8 : decode cX5_init 8 = .ok (.dup, 1) := by decide +kernel
theorem dX5_init_9 : decode cX5_init 9 = .ok (.invokespecial 9, 3) := by decide +kernel
theorem dX5_init_12 : decode cX5_init 12 = .ok (.putfield 10, 3) := by decide +kernel
theorem dX5_init_15 : decode cX5_init 15 = .ok (.aload_n 0, 1) := by decide +kernel
theorem dX5_init_16 : decode cX5_init 16 = .ok (.iconst 2, 1) := by decide +kernel
theorem dX5_init_17 : decode cX5_init 17 = .ok (.anewarray 7, 3) := by decide +kernel
theorem dX5_init_20 : decode cX5_init 20 = .ok (.dup, 1) := by decide +kernel
theorem dX5_init_21 : decode cX5_init 21 = .ok (.iconst 0, 1) := by decide +kernel
theorem dX5_init_22 : decode cX5_init 22 = .ok (.new 7, 3) := by decide +kernel
theorem dX5_init_25 : decode cX5_init 25 = .ok (.dup, 1) := by decide +kernel
theorem dX5_init_26 : decode cX5_init 26 = .ok (.invokespecial 9, 3) := by decide +kernel
theorem dX5_init_29 : decode cX5_init 29 = .ok (.aastore, 1) := by decide +kernel
theorem dX5_init_30 : decode cX5_init 30 = .ok (.dup, 1) := by decide +kernel
theorem dX5_init_31 : decode cX5_init 31 = .ok (.iconst 1, 1) := by decide +kernel
theorem dX5_init_32 : decode cX5_init 32 = .ok (.new 7, 3) := by decide +kernel
theorem dX5_init_35 : decode cX5_init 35 = .ok (.dup, 1) := by decide +kernel
theorem dX5_init_36 : decode cX5_init 36 = .ok (.invokespecial 9, 3) := by decide +kernel
theorem dX5_init_39 : decode cX5_init 39 = .ok (.aastore, 1) := by decide +kernel
theorem dX5_init_40 : decode cX5_init 40 = .ok (.putfield 16, 3) := by decide +kernel
theorem dX5_init_43 : decode cX5_init 43 = .ok (.aload_n 0, 1) := by decide +kernel
theorem dX5_init_44 : decode cX5_init 44 = .ok (.iconst 2, 1) := by decide +kernel
theorem dX5_init_45 : decode cX5_init 45 = .ok (.newarray .boolean, 2) := by decide +kernel
theorem dX5_init_47 : decode cX5_init 47 = .ok (.putfield 20, 3) := by decide +kernel
theorem dX5_init_50 : decode cX5_init 50 = .ok (.aload_n 0, 1) := by decide +kernel
theorem dX5_init_51 : decode cX5_init 51 = .ok (.new 24, 3) := by decide +kernel
theorem dX5_init_54 : decode cX5_init 54 = .ok (.dup, 1) := by decide +kernel
theorem dX5_init_55 : decode cX5_init 55 = .ok (.invokespecial 26, 3) := by decide +kernel
theorem dX5_init_58 : decode cX5_init 58 = .ok (.putfield 27, 3) := by decide +kernel
theorem dX5_init_61 : decode cX5_init 61 = .ok (.aload_n 0, 1) := by decide +kernel
theorem dX5_init_62 : decode cX5_init 62 = .ok (.new 31, 3) := by decide +kernel
theorem dX5_init_65 : decode cX5_init 65 = .ok (.dup, 1) := by decide +kernel
theorem dX5_init_66 : decode cX5_init 66 = .ok (.invokespecial 33, 3) := by decide +kernel
theorem dX5_init_69 : decode cX5_init 69 = .ok (.putfield 34, 3) := by decide +kernel
theorem dX5_init_72 : decode cX5_init 72 = .ok (.aload_n 0, 1) := by decide +kernel
theorem dX5_init_73 : decode cX5_init 73 = .ok (.new 38, 3) := by decide +kernel
theorem dX5_init_76 : decode cX5_init 76 = .ok (.dup, 1) := by decide +kernel
theorem dX5_init_77 : decode cX5_init 77 = .ok (.invokespecial 40, 3) := by decide +kernel
theorem dX5_init_80 : decode cX5_init 80 = .ok (.putfield 41, 3) := by decide +kernel
theorem dX5_init_83 : decode cX5_init 83 = .ok (.aload_n 0, 1) := by decide +kernel
theorem dX5_init_84 : decode cX5_init 84 = .ok (.new 45, 3) := by decide +kernel
theorem dX5_init_87 : decode cX5_init 87 = .ok (.dup, 1) := by decide +kernel
theorem dX5_init_88 : decode cX5_init 88 = .ok (.invokespecial 47, 3) := by decide +kernel
theorem dX5_init_91 : decode cX5_init 91 = .ok (.putfield 48, 3) := by decide +kernel
theorem dX5_init_94 : decode cX5_init 94 = .ok (.aload_n 0, 1) := by decide +kernel
theorem dX5_init_95 : decode cX5_init 95 = .ok (.bipush 64, 2) := by decide +kernel
theorem dX5_init_97 : decode cX5_init 97 = .ok (.newarray .int, 2) := by decide +kernel
theorem dX5_init_99 : decode cX5_init 99 = .ok (.putfield 52, 3) := by decide +kernel
theorem dX5_init_102 : decode cX5_init 102 = .ok (.return_, 1) := by decide +kernel
theorem dX5_run_0 : decode cX5_run 0 = .ok (.iload_n 1, 1) := by decide +kernel
theorem dX5_run_1 : decode cX5_run 1 = .ok (.iconst 0, 1) := by decide +kernel
theorem dX5_run_2 : decode cX5_run 2 = .ok (.bipush 7, 2) := by decide +kernel
theorem dX5_run_4 : decode cX5_run 4 = .ok (.invokestatic 56, 3) := by decide +kernel
theorem dX5_run_7 : decode cX5_run 7 = .ok (.ifCond .ne 5, 3) := by decide +kernel
theorem dX5_run_10 : decode cX5_run 10 = .ok (.iconst (-1), 1) := by decide +kernel
theorem dX5_run_11 : decode cX5_run 11 = .ok (.ireturn, 1) := by decide +kernel
theorem dX5_run_12 : decode cX5_run 12 = .ok (.iload_n 2, 1) := by decide +kernel
theorem dX5_run_13 : decode cX5_run 13 = .ok (.iconst 4, 1) := by decide +kernel
theorem dX5_run_14 : decode cX5_run 14 = .ok (.bipush 20, 2) := by decide +kernel
theorem dX5_run_16 : decode cX5_run 16 = .ok (.invokestatic 56, 3) := by decide +kernel
theorem dX5_run_19 : decode cX5_run 19 = .ok (.ifCond .eq 23, 3) := by decide +kernel
theorem dX5_run_22 : decode cX5_run 22 = .ok (.iload_n 3, 1) := by decide +kernel
theorem dX5_run_23 : decode cX5_run 23 = .ok (.iconst 1, 1) := by decide +kernel
theorem dX5_run_24 : decode cX5_run 24 = .ok (.bipush 9, 2) := by decide +kernel
theorem dX5_run_26 : decode cX5_run 26 = .ok (.invokestatic 56, 3) := by decide +kernel
theorem dX5_run_29 : decode cX5_run 29 = .ok (.ifCond .eq 13, 3) := by decide +kernel
theorem dX5_run_32 : decode cX5_run 32 = .ok (.iload 4, 2) := by decide +kernel
theorem dX5_run_34 : decode cX5_run 34 = .ok (.iconst 0, 1) := by decide +kernel
theorem dX5_run_35 : decode cX5_run 35 = .ok (.iconst 4, 1) := by decide +kernel
theorem dX5_run_36 : decode cX5_run 36 = .ok (.invokestatic 56, 3) := by decide +kernel
theorem dX5_run_39 : decode cX5_run 39 = .ok (.ifCond .ne 6, 3) := by decide +kernel
theorem dX5_run_42 : decode cX5_run 42 = .ok (.bipush (-2), 2) := by decide +kernel
theorem dX5_run_44 : decode cX5_run 44 = .ok (.ireturn, 1) := by decide +kernel
theorem dX5_run_45 : decode cX5_run 45 = .ok (.aload_n 0, 1) := by decide +kernel
theorem dX5_run_46 : decode cX5_run 46 = .ok (.getfield 10, 3) := by decide +kernel
theorem dX5_run_49 : decode cX5_run 49 = .ok (.iload_n 1, 1) := by decide +kernel
theorem dX5_run_50 : decode cX5_run 50 = .ok (.iload_n 2, 1) := by decide +kernel
theorem dX5_run_51 : decode cX5_run 51 = .ok (.iload_n 3, 1) := by decide +kernel
theorem dX5_run_52 : decode cX5_run 52 = .ok (.iload 4, 2) := by decide +kernel
theorem dX5_run_54 : decode cX5_run 54 = .ok (.invokevirtual 60, 3) := by decide +kernel
theorem dX5_run_57 : decode cX5_run 57 = .ok (.aload_n 0, 1) := by decide +kernel
theorem dX5_run_58 : decode cX5_run 58 = .ok (.getfield 10, 3) := by decide +kernel
theorem dX5_run_61 : decode cX5_run 61 = .ok (.invokevirtual 64, 3) := by decide +kernel
theorem dX5_run_64 : decode cX5_run 64 = .ok (.ireturn, 1) := by decide +kernel
theorem dX5_rest_0 : decode cX5_rest 0 = .ok (.aload_n 0, 1) := by decide +kernel
theorem dX5_rest_1 : decode cX5_rest 1 = .ok (.getfield 10, 3) := by decide +kernel
theorem dX5_rest_4 : decode cX5_rest 4 = .ok (.iload_n 1, 1) := by decide +kernel
theorem dX5_rest_5 : decode cX5_rest 5 = .ok (.invokevirtual 68, 3) := by decide +kernel
theorem dX5_rest_8 : decode cX5_rest 8 = .ok (.ifCond .ne 5, 3) := by decide +kernel
theorem dX5_rest_11 : decode cX5_rest 11 = .ok (.iconst (-1), 1) := by decide +kernel
theorem dX5_rest_12 : decode cX5_rest 12 = .ok (.ireturn, 1) := by decide +kernel
theorem dX5_rest_13 : decode cX5_rest 13 = .ok (.aload_n 0, 1) := by decide +kernel
theorem dX5_rest_14 : decode cX5_rest 14 = .ok (.getfield 10, 3) := by decide +kernel
theorem dX5_rest_17 : decode cX5_rest 17 = .ok (.iload_n 1, 1) := by decide +kernel
theorem dX5_rest_18 : decode cX5_rest 18 = .ok (.invokevirtual 72, 3) := by decide +kernel
theorem dX5_rest_21 : decode cX5_rest 21 = .ok (.aload_n 0, 1) := by decide +kernel
theorem dX5_rest_22 : decode cX5_rest 22 = .ok (.getfield 10, 3) := by decide +kernel
theorem dX5_rest_25 : decode cX5_rest 25 = .ok (.invokevirtual 64, 3) := by decide +kernel
theorem dX5_rest_28 : decode cX5_rest 28 = .ok (.ireturn, 1) := by decide +kernel
theorem dX5_set_0 : decode cX5_set 0 = .ok (.iload_n 1, 1) := by decide +kernel
theorem dX5_set_1 : decode cX5_set 1 = .ok (.tableswitch 45 0 2 #[27, 33, 39], 27) := by decide +kernel
theorem dX5_set_28 : decode cX5_set 28 = .ok (.aload_n 0, 1) := by decide +kernel
theorem dX5_set_29 : decode cX5_set 29 = .ok (.iload_n 2, 1) := by decide +kernel
theorem dX5_set_30 : decode cX5_set 30 = .ok (.invokevirtual 76, 3) := by decide +kernel
theorem dX5_set_33 : decode cX5_set 33 = .ok (.ireturn, 1) := by decide +kernel
theorem dX5_set_34 : decode cX5_set 34 = .ok (.aload_n 0, 1) := by decide +kernel
theorem dX5_set_35 : decode cX5_set 35 = .ok (.iload_n 2, 1) := by decide +kernel
theorem dX5_set_36 : decode cX5_set 36 = .ok (.invokevirtual 80, 3) := by decide +kernel
theorem dX5_set_39 : decode cX5_set 39 = .ok (.ireturn, 1) := by decide +kernel
theorem dX5_set_40 : decode cX5_set 40 = .ok (.aload_n 0, 1) := by decide +kernel
theorem dX5_set_41 : decode cX5_set 41 = .ok (.iload_n 2, 1) := by decide +kernel
theorem dX5_set_42 : decode cX5_set 42 = .ok (.invokevirtual 83, 3) := by decide +kernel
theorem dX5_set_45 : decode cX5_set 45 = .ok (.ireturn, 1) := by decide +kernel
theorem dX5_set_46 : decode cX5_set 46 = .ok (.bipush (-2), 2) := by decide +kernel
theorem dX5_set_48 : decode cX5_set 48 = .ok (.ireturn, 1) := by decide +kernel
theorem dX5_setLurch_0 : decode cX5_setLurch 0 = .ok (.iload_n 1, 1) := by decide +kernel
theorem dX5_setLurch_1 : decode cX5_setLurch 1 = .ok (.iconst 0, 1) := by decide +kernel
theorem dX5_setLurch_2 : decode cX5_setLurch 2 = .ok (.bipush 9, 2) := by decide +kernel
theorem dX5_setLurch_4 : decode cX5_setLurch 4 = .ok (.invokestatic 56, 3) := by decide +kernel
theorem dX5_setLurch_7 : decode cX5_setLurch 7 = .ok (.ifCond .eq 14, 3) := by decide +kernel
theorem dX5_setLurch_10 : decode cX5_setLurch 10 = .ok (.iload_n 1, 1) := by decide +kernel
theorem dX5_setLurch_11 : decode cX5_setLurch 11 = .ok (.aload_n 0, 1) := by decide +kernel
theorem dX5_setLurch_12 : decode cX5_setLurch 12 = .ok (.getfield 10, 3) := by decide +kernel
theorem dX5_setLurch_15 : decode cX5_setLurch 15 = .ok (.getfield 86, 3) := by decide +kernel
theorem dX5_setLurch_18 : decode cX5_setLurch 18 = .ok (.if_icmp .le 6, 3) := by decide +kernel
theorem dX5_setLurch_21 : decode cX5_setLurch 21 = .ok (.bipush (-2), 2) := by decide +kernel
theorem dX5_setLurch_23 : decode cX5_setLurch 23 = .ok (.ireturn, 1) := by decide +kernel
theorem dX5_setLurch_24 : decode cX5_setLurch 24 = .ok (.aload_n 0, 1) := by decide +kernel
theorem dX5_setLurch_25 : decode cX5_setLurch 25 = .ok (.getfield 10, 3) := by decide +kernel
theorem dX5_setLurch_28 : decode cX5_setLurch 28 = .ok (.getfield 90, 3) := by decide +kernel
theorem dX5_setLurch_31 : decode cX5_setLurch 31 = .ok (.istore_n 2, 1) := by decide +kernel
theorem dX5_setLurch_32 : decode cX5_setLurch 32 = .ok (.aload_n 0, 1) := by decide +kernel
theorem dX5_setLurch_33 : decode cX5_setLurch 33 = .ok (.getfield 10, 3) := by decide +kernel
theorem dX5_setLurch_36 : decode cX5_setLurch 36 = .ok (.iload_n 1, 1) := by decide +kernel
theorem dX5_setLurch_37 : decode cX5_setLurch 37 = .ok (.putfield 90, 3) := by decide +kernel
theorem dX5_setLurch_40 : decode cX5_setLurch 40 = .ok (.iload_n 2, 1) := by decide +kernel
theorem dX5_setLurch_41 : decode cX5_setLurch 41 = .ok (.ireturn, 1) := by decide +kernel
theorem dX5_setFall_0 : decode cX5_setFall 0 = .ok (.iload_n 1, 1) := by decide +kernel
theorem dX5_setFall_1 : decode cX5_setFall 1 = .ok (.aload_n 0, 1) := by decide +kernel
theorem dX5_setFall_2 : decode cX5_setFall 2 = .ok (.getfield 10, 3) := by decide +kernel
theorem dX5_setFall_5 : decode cX5_setFall 5 = .ok (.getfield 90, 3) := by decide +kernel
theorem dX5_setFall_8 : decode cX5_setFall 8 = .ok (.bipush 20, 2) := by decide +kernel
theorem dX5_setFall_10 : decode cX5_setFall 10 = .ok (.invokestatic 56, 3) := by decide +kernel
theorem dX5_setFall_13 : decode cX5_setFall 13 = .ok (.ifCond .ne 6, 3) := by decide +kernel
theorem dX5_setFall_16 : decode cX5_setFall 16 = .ok (.bipush (-2), 2) := by decide +kernel
theorem dX5_setFall_18 : decode cX5_setFall 18 = .ok (.ireturn, 1) := by decide +kernel
theorem dX5_setFall_19 : decode cX5_setFall 19 = .ok (.aload_n 0, 1) := by decide +kernel
theorem dX5_setFall_20 : decode cX5_setFall 20 = .ok (.getfield 10, 3) := by decide +kernel
theorem dX5_setFall_23 : decode cX5_setFall 23 = .ok (.getfield 86, 3) := by decide +kernel
theorem dX5_setFall_26 : decode cX5_setFall 26 = .ok (.istore_n 2, 1) := by decide +kernel
theorem dX5_setFall_27 : decode cX5_setFall 27 = .ok (.aload_n 0, 1) := by decide +kernel
theorem dX5_setFall_28 : decode cX5_setFall 28 = .ok (.getfield 10, 3) := by decide +kernel
theorem dX5_setFall_31 : decode cX5_setFall 31 = .ok (.iload_n 1, 1) := by decide +kernel
theorem dX5_setFall_32 : decode cX5_setFall 32 = .ok (.putfield 86, 3) := by decide +kernel
theorem dX5_setFall_35 : decode cX5_setFall 35 = .ok (.iload_n 2, 1) := by decide +kernel
theorem dX5_setFall_36 : decode cX5_setFall 36 = .ok (.ireturn, 1) := by decide +kernel
theorem dX5_setUp_0 : decode cX5_setUp 0 = .ok (.iload_n 1, 1) := by decide +kernel
theorem dX5_setUp_1 : decode cX5_setUp 1 = .ok (.iconst 0, 1) := by decide +kernel
theorem dX5_setUp_2 : decode cX5_setUp 2 = .ok (.bipush 99, 2) := by decide +kernel
theorem dX5_setUp_4 : decode cX5_setUp 4 = .ok (.invokestatic 56, 3) := by decide +kernel
theorem dX5_setUp_7 : decode cX5_setUp 7 = .ok (.ifCond .ne 6, 3) := by decide +kernel
theorem dX5_setUp_10 : decode cX5_setUp 10 = .ok (.bipush (-2), 2) := by decide +kernel
theorem dX5_setUp_12 : decode cX5_setUp 12 = .ok (.ireturn, 1) := by decide +kernel
theorem dX5_setUp_13 : decode cX5_setUp 13 = .ok (.aload_n 0, 1) := by decide +kernel
theorem dX5_setUp_14 : decode cX5_setUp 14 = .ok (.getfield 10, 3) := by decide +kernel
theorem dX5_setUp_17 : decode cX5_setUp 17 = .ok (.getfield 93, 3) := by decide +kernel
theorem dX5_setUp_20 : decode cX5_setUp 20 = .ok (.istore_n 2, 1) := by decide +kernel
theorem dX5_setUp_21 : decode cX5_setUp 21 = .ok (.aload_n 0, 1) := by decide +kernel
theorem dX5_setUp_22 : decode cX5_setUp 22 = .ok (.getfield 10, 3) := by decide +kernel
theorem dX5_setUp_25 : decode cX5_setUp 25 = .ok (.iload_n 1, 1) := by decide +kernel
theorem dX5_setUp_26 : decode cX5_setUp 26 = .ok (.putfield 93, 3) := by decide +kernel
theorem dX5_setUp_29 : decode cX5_setUp 29 = .ok (.iload_n 2, 1) := by decide +kernel
theorem dX5_setUp_30 : decode cX5_setUp 30 = .ok (.ireturn, 1) := by decide +kernel
theorem dX5_pair_0 : decode cX5_pair 0 = .ok (.aload_n 0, 1) := by decide +kernel
theorem dX5_pair_1 : decode cX5_pair 1 = .ok (.getfield 10, 3) := by decide +kernel
theorem dX5_pair_4 : decode cX5_pair 4 = .ok (.iload_n 1, 1) := by decide +kernel
theorem dX5_pair_5 : decode cX5_pair 5 = .ok (.iload_n 2, 1) := by decide +kernel
theorem dX5_pair_6 : decode cX5_pair 6 = .ok (.invokevirtual 96, 3) := by decide +kernel
theorem dX5_pair_9 : decode cX5_pair 9 = .ok (.ifCond .ne 5, 3) := by decide +kernel
theorem dX5_pair_12 : decode cX5_pair 12 = .ok (.iconst (-1), 1) := by decide +kernel
theorem dX5_pair_13 : decode cX5_pair 13 = .ok (.ireturn, 1) := by decide +kernel
theorem dX5_pair_14 : decode cX5_pair 14 = .ok (.iload_n 3, 1) := by decide +kernel
theorem dX5_pair_15 : decode cX5_pair 15 = .ok (.iconst 0, 1) := by decide +kernel
theorem dX5_pair_16 : decode cX5_pair 16 = .ok (.sipush 999, 3) := by decide +kernel
theorem dX5_pair_19 : decode cX5_pair 19 = .ok (.invokestatic 56, 3) := by decide +kernel
theorem dX5_pair_22 : decode cX5_pair 22 = .ok (.ifCond .eq 13, 3) := by decide +kernel
theorem dX5_pair_25 : decode cX5_pair 25 = .ok (.iload 4, 2) := by decide +kernel
theorem dX5_pair_27 : decode cX5_pair 27 = .ok (.iconst 0, 1) := by decide +kernel
theorem dX5_pair_28 : decode cX5_pair 28 = .ok (.iconst 4, 1) := by decide +kernel
theorem dX5_pair_29 : decode cX5_pair 29 = .ok (.invokestatic 56, 3) := by decide +kernel
theorem dX5_pair_32 : decode cX5_pair 32 = .ok (.ifCond .ne 6, 3) := by decide +kernel
theorem dX5_pair_35 : decode cX5_pair 35 = .ok (.bipush (-2), 2) := by decide +kernel
theorem dX5_pair_37 : decode cX5_pair 37 = .ok (.ireturn, 1) := by decide +kernel
theorem dX5_pair_38 : decode cX5_pair 38 = .ok (.aload_n 0, 1) := by decide +kernel
theorem dX5_pair_39 : decode cX5_pair 39 = .ok (.getfield 34, 3) := by decide +kernel
theorem dX5_pair_42 : decode cX5_pair 42 = .ok (.aload_n 0, 1) := by decide +kernel
theorem dX5_pair_43 : decode cX5_pair 43 = .ok (.getfield 10, 3) := by decide +kernel
theorem dX5_pair_46 : decode cX5_pair 46 = .ok (.iload_n 1, 1) := by decide +kernel
theorem dX5_pair_47 : decode cX5_pair 47 = .ok (.iload_n 2, 1) := by decide +kernel
theorem dX5_pair_48 : decode cX5_pair 48 = .ok (.invokevirtual 100, 3) := by decide +kernel
theorem dX5_pair_51 : decode cX5_pair 51 = .ok (.iconst 0, 1) := by decide +kernel
theorem dX5_pair_52 : decode cX5_pair 52 = .ok (.istore 5, 2) := by decide +kernel
theorem dX5_pair_54 : decode cX5_pair 54 = .ok (.iload 5, 2) := by decide +kernel
theorem dX5_pair_56 : decode cX5_pair 56 = .ok (.iload_n 3, 1) := by decide +kernel
theorem dX5_pair_57 : decode cX5_pair 57 = .ok (.if_icmp .ge 16, 3) := by decide +kernel
theorem dX5_pair_60 : decode cX5_pair 60 = .ok (.aload_n 0, 1) := by decide +kernel
theorem dX5_pair_61 : decode cX5_pair 61 = .ok (.getfield 34, 3) := by decide +kernel
theorem dX5_pair_64 : decode cX5_pair 64 = .ok (.invokevirtual 104, 3) := by decide +kernel
theorem dX5_pair_67 : decode cX5_pair 67 = .ok (.iinc 5 1, 3) := by decide +kernel
theorem dX5_pair_70 : decode cX5_pair 70 = .ok (.goto (-16), 3) := by decide +kernel
theorem dX5_pair_73 : decode cX5_pair 73 = .ok (.iload 4, 2) := by decide +kernel
theorem dX5_pair_75 : decode cX5_pair 75 = .ok (.tableswitch 61 0 3 #[29, 37, 45, 53], 29) := by decide +kernel
theorem dX5_pair_104 : decode cX5_pair 104 = .ok (.aload_n 0, 1) := by decide +kernel
theorem dX5_pair_105 : decode cX5_pair 105 = .ok (.getfield 34, 3) := by decide +kernel
theorem dX5_pair_108 : decode cX5_pair 108 = .ok (.invokevirtual 107, 3) := by decide +kernel
theorem dX5_pair_111 : decode cX5_pair 111 = .ok (.ireturn, 1) := by decide +kernel
theorem dX5_pair_112 : decode cX5_pair 112 = .ok (.aload_n 0, 1) := by decide +kernel
theorem dX5_pair_113 : decode cX5_pair 113 = .ok (.getfield 34, 3) := by decide +kernel
theorem dX5_pair_116 : decode cX5_pair 116 = .ok (.getfield 110, 3) := by decide +kernel
theorem dX5_pair_119 : decode cX5_pair 119 = .ok (.ireturn, 1) := by decide +kernel
theorem dX5_pair_120 : decode cX5_pair 120 = .ok (.aload_n 0, 1) := by decide +kernel
theorem dX5_pair_121 : decode cX5_pair 121 = .ok (.getfield 34, 3) := by decide +kernel
theorem dX5_pair_124 : decode cX5_pair 124 = .ok (.getfield 113, 3) := by decide +kernel
theorem dX5_pair_127 : decode cX5_pair 127 = .ok (.ireturn, 1) := by decide +kernel
theorem dX5_pair_128 : decode cX5_pair 128 = .ok (.aload_n 0, 1) := by decide +kernel
theorem dX5_pair_129 : decode cX5_pair 129 = .ok (.getfield 34, 3) := by decide +kernel
theorem dX5_pair_132 : decode cX5_pair 132 = .ok (.getfield 116, 3) := by decide +kernel
theorem dX5_pair_135 : decode cX5_pair 135 = .ok (.ireturn, 1) := by decide +kernel
theorem dX5_pair_136 : decode cX5_pair 136 = .ok (.aload_n 0, 1) := by decide +kernel
theorem dX5_pair_137 : decode cX5_pair 137 = .ok (.getfield 34, 3) := by decide +kernel
theorem dX5_pair_140 : decode cX5_pair 140 = .ok (.invokevirtual 119, 3) := by decide +kernel
theorem dX5_pair_143 : decode cX5_pair 143 = .ok (.ireturn, 1) := by decide +kernel
theorem dX5_reach_0 : decode cX5_reach 0 = .ok (.aload_n 0, 1) := by decide +kernel
theorem dX5_reach_1 : decode cX5_reach 1 = .ok (.iload_n 1, 1) := by decide +kernel
theorem dX5_reach_2 : decode cX5_reach 2 = .ok (.iload_n 2, 1) := by decide +kernel
theorem dX5_reach_3 : decode cX5_reach 3 = .ok (.iload_n 3, 1) := by decide +kernel
theorem dX5_reach_4 : decode cX5_reach 4 = .ok (.iload 4, 2) := by decide +kernel
theorem dX5_reach_6 : decode cX5_reach 6 = .ok (.invokevirtual 122, 3) := by decide +kernel
theorem dX5_reach_9 : decode cX5_reach 9 = .ok (.istore 5, 2) := by decide +kernel
theorem dX5_reach_11 : decode cX5_reach 11 = .ok (.iload 5, 2) := by decide +kernel
theorem dX5_reach_13 : decode cX5_reach 13 = .ok (.ifCond .eq 6, 3) := by decide +kernel
theorem dX5_reach_16 : decode cX5_reach 16 = .ok (.iload 5, 2) := by decide +kernel
theorem dX5_reach_18 : decode cX5_reach 18 = .ok (.ireturn, 1) := by decide +kernel
theorem dX5_reach_19 : decode cX5_reach 19 = .ok (.aload_n 0, 1) := by decide +kernel
theorem dX5_reach_20 : decode cX5_reach 20 = .ok (.iload_n 1, 1) := by decide +kernel
theorem dX5_reach_21 : decode cX5_reach 21 = .ok (.iload_n 2, 1) := by decide +kernel
theorem dX5_reach_22 : decode cX5_reach 22 = .ok (.iload_n 3, 1) := by decide +kernel
theorem dX5_reach_23 : decode cX5_reach 23 = .ok (.invokevirtual 126, 3) := by decide +kernel
theorem dX5_reach_26 : decode cX5_reach 26 = .ok (.istore 6, 2) := by decide +kernel
theorem dX5_reach_28 : decode cX5_reach 28 = .ok (.iload 6, 2) := by decide +kernel
theorem dX5_reach_30 : decode cX5_reach 30 = .ok (.bipush (-6), 2) := by decide +kernel
theorem dX5_reach_32 : decode cX5_reach 32 = .ok (.if_icmp .ne 6, 3) := by decide +kernel
theorem dX5_reach_35 : decode cX5_reach 35 = .ok (.bipush (-6), 2) := by decide +kernel
theorem dX5_reach_37 : decode cX5_reach 37 = .ok (.ireturn, 1) := by decide +kernel
theorem dX5_reach_38 : decode cX5_reach 38 = .ok (.iload 4, 2) := by decide +kernel
theorem dX5_reach_40 : decode cX5_reach 40 = .ok (.ifCond .ne 15, 3) := by decide +kernel
theorem dX5_reach_43 : decode cX5_reach 43 = .ok (.aload_n 0, 1) := by decide +kernel
theorem dX5_reach_44 : decode cX5_reach 44 = .ok (.getfield 34, 3) := by decide +kernel
theorem dX5_reach_47 : decode cX5_reach 47 = .ok (.getfield 130, 3) := by decide +kernel
theorem dX5_reach_50 : decode cX5_reach 50 = .ok (.iconst 1, 1) := by decide +kernel
theorem dX5_reach_51 : decode cX5_reach 51 = .ok (.isub, 1) := by decide +kernel
theorem dX5_reach_52 : decode cX5_reach 52 = .ok (.goto 5, 3) := by decide +kernel
theorem dX5_reach_55 : decode cX5_reach 55 = .ok (.iload 6, 2) := by decide +kernel
theorem dX5_reach_57 : decode cX5_reach 57 = .ok (.ireturn, 1) := by decide +kernel
theorem dX5_who_0 : decode cX5_who 0 = .ok (.aload_n 0, 1) := by decide +kernel
theorem dX5_who_1 : decode cX5_who 1 = .ok (.getfield 10, 3) := by decide +kernel
theorem dX5_who_4 : decode cX5_who 4 = .ok (.iload_n 1, 1) := by decide +kernel
theorem dX5_who_5 : decode cX5_who 5 = .ok (.iload_n 2, 1) := by decide +kernel
theorem dX5_who_6 : decode cX5_who 6 = .ok (.invokevirtual 96, 3) := by decide +kernel
theorem dX5_who_9 : decode cX5_who 9 = .ok (.ifCond .ne 5, 3) := by decide +kernel
theorem dX5_who_12 : decode cX5_who 12 = .ok (.iconst (-1), 1) := by decide +kernel
theorem dX5_who_13 : decode cX5_who 13 = .ok (.ireturn, 1) := by decide +kernel
theorem dX5_who_14 : decode cX5_who 14 = .ok (.iload_n 3, 1) := by decide +kernel
theorem dX5_who_15 : decode cX5_who 15 = .ok (.iconst 0, 1) := by decide +kernel
theorem dX5_who_16 : decode cX5_who 16 = .ok (.iconst 1, 1) := by decide +kernel
theorem dX5_who_17 : decode cX5_who 17 = .ok (.invokestatic 56, 3) := by decide +kernel
theorem dX5_who_20 : decode cX5_who 20 = .ok (.ifCond .ne 6, 3) := by decide +kernel
theorem dX5_who_23 : decode cX5_who 23 = .ok (.bipush (-2), 2) := by decide +kernel
theorem dX5_who_25 : decode cX5_who 25 = .ok (.ireturn, 1) := by decide +kernel
theorem dX5_who_26 : decode cX5_who 26 = .ok (.aload_n 0, 1) := by decide +kernel
theorem dX5_who_27 : decode cX5_who 27 = .ok (.getfield 34, 3) := by decide +kernel
theorem dX5_who_30 : decode cX5_who 30 = .ok (.aload_n 0, 1) := by decide +kernel
theorem dX5_who_31 : decode cX5_who 31 = .ok (.getfield 10, 3) := by decide +kernel
theorem dX5_who_34 : decode cX5_who 34 = .ok (.iload_n 1, 1) := by decide +kernel
theorem dX5_who_35 : decode cX5_who 35 = .ok (.iload_n 2, 1) := by decide +kernel
theorem dX5_who_36 : decode cX5_who 36 = .ok (.invokevirtual 100, 3) := by decide +kernel
theorem dX5_who_39 : decode cX5_who 39 = .ok (.aload_n 0, 1) := by decide +kernel
theorem dX5_who_40 : decode cX5_who 40 = .ok (.getfield 34, 3) := by decide +kernel
theorem dX5_who_43 : decode cX5_who 43 = .ok (.sipush 999, 3) := by decide +kernel
theorem dX5_who_46 : decode cX5_who 46 = .ok (.invokevirtual 133, 3) := by decide +kernel
theorem dX5_who_49 : decode cX5_who 49 = .ok (.ifCond .eq 6, 3) := by decide +kernel
theorem dX5_who_52 : decode cX5_who 52 = .ok (.bipush (-6), 2) := by decide +kernel
theorem dX5_who_54 : decode cX5_who 54 = .ok (.ireturn, 1) := by decide +kernel
theorem dX5_who_55 : decode cX5_who 55 = .ok (.iload_n 3, 1) := by decide +kernel
theorem dX5_who_56 : decode cX5_who 56 = .ok (.ifCond .ne 13, 3) := by decide +kernel
theorem dX5_who_59 : decode cX5_who 59 = .ok (.aload_n 0, 1) := by decide +kernel
theorem dX5_who_60 : decode cX5_who 60 = .ok (.getfield 34, 3) := by decide +kernel
theorem dX5_who_63 : decode cX5_who 63 = .ok (.getfield 130, 3) := by decide +kernel
theorem dX5_who_66 : decode cX5_who 66 = .ok (.iconst 1, 1) := by decide +kernel
theorem dX5_who_67 : decode cX5_who 67 = .ok (.isub, 1) := by decide +kernel
theorem dX5_who_68 : decode cX5_who 68 = .ok (.ireturn, 1) := by decide +kernel
theorem dX5_who_69 : decode cX5_who 69 = .ok (.aload_n 0, 1) := by decide +kernel
theorem dX5_who_70 : decode cX5_who 70 = .ok (.getfield 34, 3) := by decide +kernel
theorem dX5_who_73 : decode cX5_who 73 = .ok (.getfield 136, 3) := by decide +kernel
theorem dX5_who_76 : decode cX5_who 76 = .ok (.ifCond .eq 7, 3) := by decide +kernel
theorem dX5_who_79 : decode cX5_who 79 = .ok (.iload_n 1, 1) := by decide +kernel
theorem dX5_who_80 : decode cX5_who 80 = .ok (.goto 4, 3) := by decide +kernel
theorem dX5_who_83 : decode cX5_who 83 = .ok (.iload_n 2, 1) := by decide +kernel
theorem dX5_who_84 : decode cX5_who 84 = .ok (.ireturn, 1) := by decide +kernel
theorem dX5_alone_0 : decode cX5_alone 0 = .ok (.aload_n 0, 1) := by decide +kernel
theorem dX5_alone_1 : decode cX5_alone 1 = .ok (.getfield 10, 3) := by decide +kernel
theorem dX5_alone_4 : decode cX5_alone 4 = .ok (.iload_n 1, 1) := by decide +kernel
theorem dX5_alone_5 : decode cX5_alone 5 = .ok (.invokevirtual 68, 3) := by decide +kernel
theorem dX5_alone_8 : decode cX5_alone 8 = .ok (.ifCond .ne 5, 3) := by decide +kernel
theorem dX5_alone_11 : decode cX5_alone 11 = .ok (.iconst (-1), 1) := by decide +kernel
theorem dX5_alone_12 : decode cX5_alone 12 = .ok (.ireturn, 1) := by decide +kernel
theorem dX5_alone_13 : decode cX5_alone 13 = .ok (.iload_n 2, 1) := by decide +kernel
theorem dX5_alone_14 : decode cX5_alone 14 = .ok (.invokestatic 140, 3) := by decide +kernel
theorem dX5_alone_17 : decode cX5_alone 17 = .ok (.ifCond .ne 6, 3) := by decide +kernel
theorem dX5_alone_20 : decode cX5_alone 20 = .ok (.bipush (-2), 2) := by decide +kernel
theorem dX5_alone_22 : decode cX5_alone 22 = .ok (.ireturn, 1) := by decide +kernel
theorem dX5_alone_23 : decode cX5_alone 23 = .ok (.iconst 0, 1) := by decide +kernel
theorem dX5_alone_24 : decode cX5_alone 24 = .ok (.istore_n 3, 1) := by decide +kernel
theorem dX5_alone_25 : decode cX5_alone 25 = .ok (.iconst 0, 1) := by decide +kernel
theorem dX5_alone_26 : decode cX5_alone 26 = .ok (.istore 4, 2) := by decide +kernel
theorem dX5_alone_28 : decode cX5_alone 28 = .ok (.iconst 0, 1) := by decide +kernel
theorem dX5_alone_29 : decode cX5_alone 29 = .ok (.istore 5, 2) := by decide +kernel
theorem dX5_alone_31 : decode cX5_alone 31 = .ok (.iload 5, 2) := by decide +kernel
theorem dX5_alone_33 : decode cX5_alone 33 = .ok (.sipush 999, 3) := by decide +kernel
theorem dX5_alone_36 : decode cX5_alone 36 = .ok (.if_icmp .ge 41, 3) := by decide +kernel
theorem dX5_alone_39 : decode cX5_alone 39 = .ok (.iload 4, 2) := by decide +kernel
theorem dX5_alone_41 : decode cX5_alone 41 = .ok (.iload_n 2, 1) := by decide +kernel
theorem dX5_alone_42 : decode cX5_alone 42 = .ok (.if_icmp .ge 35, 3) := by decide +kernel
theorem dX5_alone_45 : decode cX5_alone 45 = .ok (.iload 4, 2) := by decide +kernel
theorem dX5_alone_47 : decode cX5_alone 47 = .ok (.aload_n 0, 1) := by decide +kernel
theorem dX5_alone_48 : decode cX5_alone 48 = .ok (.getfield 10, 3) := by decide +kernel
theorem dX5_alone_51 : decode cX5_alone 51 = .ok (.getfield 143, 3) := by decide +kernel
theorem dX5_alone_54 : decode cX5_alone 54 = .ok (.iload_n 1, 1) := by decide +kernel
theorem dX5_alone_55 : decode cX5_alone 55 = .ok (.iaload, 1) := by decide +kernel
theorem dX5_alone_56 : decode cX5_alone 56 = .ok (.iadd, 1) := by decide +kernel
theorem dX5_alone_57 : decode cX5_alone 57 = .ok (.istore 4, 2) := by decide +kernel
theorem dX5_alone_59 : decode cX5_alone 59 = .ok (.iload_n 3, 1) := by decide +kernel
theorem dX5_alone_60 : decode cX5_alone 60 = .ok (.aload_n 0, 1) := by decide +kernel
theorem dX5_alone_61 : decode cX5_alone 61 = .ok (.getfield 10, 3) := by decide +kernel
theorem dX5_alone_64 : decode cX5_alone 64 = .ok (.getfield 146, 3) := by decide +kernel
theorem dX5_alone_67 : decode cX5_alone 67 = .ok (.iload_n 1, 1) := by decide +kernel
theorem dX5_alone_68 : decode cX5_alone 68 = .ok (.iaload, 1) := by decide +kernel
theorem dX5_alone_69 : decode cX5_alone 69 = .ok (.iadd, 1) := by decide +kernel
theorem dX5_alone_70 : decode cX5_alone 70 = .ok (.istore_n 3, 1) := by decide +kernel
theorem dX5_alone_71 : decode cX5_alone 71 = .ok (.iinc 5 1, 3) := by decide +kernel
theorem dX5_alone_74 : decode cX5_alone 74 = .ok (.goto (-43), 3) := by decide +kernel
theorem dX5_alone_77 : decode cX5_alone 77 = .ok (.iload_n 3, 1) := by decide +kernel
theorem dX5_alone_78 : decode cX5_alone 78 = .ok (.ireturn, 1) := by decide +kernel
theorem dX5_tied_0 : decode cX5_tied 0 = .ok (.aload_n 0, 1) := by decide +kernel
theorem dX5_tied_1 : decode cX5_tied 1 = .ok (.getfield 10, 3) := by decide +kernel
theorem dX5_tied_4 : decode cX5_tied 4 = .ok (.invokevirtual 64, 3) := by decide +kernel
theorem dX5_tied_7 : decode cX5_tied 7 = .ok (.istore 4, 2) := by decide +kernel
theorem dX5_tied_9 : decode cX5_tied 9 = .ok (.iload 4, 2) := by decide +kernel
theorem dX5_tied_11 : decode cX5_tied 11 = .ok (.ifCond .eq 10, 3) := by decide +kernel
theorem dX5_tied_14 : decode cX5_tied 14 = .ok (.iload 4, 2) := by decide +kernel
theorem dX5_tied_16 : decode cX5_tied 16 = .ok (.iconst 2, 1) := by decide +kernel
theorem dX5_tied_17 : decode cX5_tied 17 = .ok (.irem, 1) := by decide +kernel
theorem dX5_tied_18 : decode cX5_tied 18 = .ok (.ifCond .eq 6, 3) := by decide +kernel
theorem dX5_tied_21 : decode cX5_tied 21 = .ok (.bipush (-3), 2) := by decide +kernel
theorem dX5_tied_23 : decode cX5_tied 23 = .ok (.ireturn, 1) := by decide +kernel
theorem dX5_tied_24 : decode cX5_tied 24 = .ok (.iload_n 3, 1) := by decide +kernel
theorem dX5_tied_25 : decode cX5_tied 25 = .ok (.iconst (-1), 1) := by decide +kernel
theorem dX5_tied_26 : decode cX5_tied 26 = .ok (.if_icmp .eq 16, 3) := by decide +kernel
theorem dX5_tied_29 : decode cX5_tied 29 = .ok (.aload_n 0, 1) := by decide +kernel
theorem dX5_tied_30 : decode cX5_tied 30 = .ok (.getfield 10, 3) := by decide +kernel
theorem dX5_tied_33 : decode cX5_tied 33 = .ok (.iload_n 3, 1) := by decide +kernel
theorem dX5_tied_34 : decode cX5_tied 34 = .ok (.invokevirtual 68, 3) := by decide +kernel
theorem dX5_tied_37 : decode cX5_tied 37 = .ok (.ifCond .ne 5, 3) := by decide +kernel
theorem dX5_tied_40 : decode cX5_tied 40 = .ok (.iconst (-1), 1) := by decide +kernel
theorem dX5_tied_41 : decode cX5_tied 41 = .ok (.ireturn, 1) := by decide +kernel
theorem dX5_tied_42 : decode cX5_tied 42 = .ok (.iload_n 1, 1) := by decide +kernel
theorem dX5_tied_43 : decode cX5_tied 43 = .ok (.invokestatic 140, 3) := by decide +kernel
theorem dX5_tied_46 : decode cX5_tied 46 = .ok (.ifCond .eq 12, 3) := by decide +kernel
theorem dX5_tied_49 : decode cX5_tied 49 = .ok (.iload_n 2, 1) := by decide +kernel
theorem dX5_tied_50 : decode cX5_tied 50 = .ok (.iconst 0, 1) := by decide +kernel
theorem dX5_tied_51 : decode cX5_tied 51 = .ok (.iconst 1, 1) := by decide +kernel
theorem dX5_tied_52 : decode cX5_tied 52 = .ok (.invokestatic 56, 3) := by decide +kernel
theorem dX5_tied_55 : decode cX5_tied 55 = .ok (.ifCond .ne 6, 3) := by decide +kernel
theorem dX5_tied_58 : decode cX5_tied 58 = .ok (.bipush (-2), 2) := by decide +kernel
theorem dX5_tied_60 : decode cX5_tied 60 = .ok (.ireturn, 1) := by decide +kernel
theorem dX5_tied_61 : decode cX5_tied 61 = .ok (.aload_n 0, 1) := by decide +kernel
theorem dX5_tied_62 : decode cX5_tied 62 = .ok (.iload_n 1, 1) := by decide +kernel
theorem dX5_tied_63 : decode cX5_tied 63 = .ok (.invokevirtual 149, 3) := by decide +kernel
theorem dX5_tied_66 : decode cX5_tied 66 = .ok (.aload_n 0, 1) := by decide +kernel
theorem dX5_tied_67 : decode cX5_tied 67 = .ok (.getfield 41, 3) := by decide +kernel
theorem dX5_tied_70 : decode cX5_tied 70 = .ok (.aload_n 0, 1) := by decide +kernel
theorem dX5_tied_71 : decode cX5_tied 71 = .ok (.getfield 10, 3) := by decide +kernel
theorem dX5_tied_74 : decode cX5_tied 74 = .ok (.aload_n 0, 1) := by decide +kernel
theorem dX5_tied_75 : decode cX5_tied 75 = .ok (.getfield 52, 3) := by decide +kernel
theorem dX5_tied_78 : decode cX5_tied 78 = .ok (.iload_n 2, 1) := by decide +kernel
theorem dX5_tied_79 : decode cX5_tied 79 = .ok (.iconst 1, 1) := by decide +kernel
theorem dX5_tied_80 : decode cX5_tied 80 = .ok (.if_icmp .ne 7, 3) := by decide +kernel
theorem dX5_tied_83 : decode cX5_tied 83 = .ok (.iconst 1, 1) := by decide +kernel
theorem dX5_tied_84 : decode cX5_tied 84 = .ok (.goto 4, 3) := by decide +kernel
theorem dX5_tied_87 : decode cX5_tied 87 = .ok (.iconst 0, 1) := by decide +kernel
theorem dX5_tied_88 : decode cX5_tied 88 = .ok (.invokevirtual 152, 3) := by decide +kernel
theorem dX5_tied_91 : decode cX5_tied 91 = .ok (.iload_n 3, 1) := by decide +kernel
theorem dX5_tied_92 : decode cX5_tied 92 = .ok (.iconst (-1), 1) := by decide +kernel
theorem dX5_tied_93 : decode cX5_tied 93 = .ok (.if_icmp .ne 13, 3) := by decide +kernel
theorem dX5_tied_96 : decode cX5_tied 96 = .ok (.aload_n 0, 1) := by decide +kernel
theorem dX5_tied_97 : decode cX5_tied 97 = .ok (.getfield 41, 3) := by decide +kernel
theorem dX5_tied_100 : decode cX5_tied 100 = .ok (.getfield 156, 3) := by decide +kernel
theorem dX5_tied_103 : decode cX5_tied 103 = .ok (.goto 12, 3) := by decide +kernel
theorem dX5_tied_106 : decode cX5_tied 106 = .ok (.aload_n 0, 1) := by decide +kernel
theorem dX5_tied_107 : decode cX5_tied 107 = .ok (.getfield 41, 3) := by decide +kernel
theorem dX5_tied_110 : decode cX5_tied 110 = .ok (.getfield 159, 3) := by decide +kernel
theorem dX5_tied_113 : decode cX5_tied 113 = .ok (.iload_n 3, 1) := by decide +kernel
theorem dX5_tied_114 : decode cX5_tied 114 = .ok (.iaload, 1) := by decide +kernel
theorem dX5_tied_115 : decode cX5_tied 115 = .ok (.ireturn, 1) := by decide +kernel
theorem dX5_call_0 : decode cX5_call 0 = .ok (.aload_n 0, 1) := by decide +kernel
theorem dX5_call_1 : decode cX5_call 1 = .ok (.iload_n 1, 1) := by decide +kernel
theorem dX5_call_2 : decode cX5_call 2 = .ok (.iload_n 2, 1) := by decide +kernel
theorem dX5_call_3 : decode cX5_call 3 = .ok (.iload_n 3, 1) := by decide +kernel
theorem dX5_call_4 : decode cX5_call 4 = .ok (.iload 4, 2) := by decide +kernel
theorem dX5_call_6 : decode cX5_call 6 = .ok (.invokevirtual 122, 3) := by decide +kernel
theorem dX5_call_9 : decode cX5_call 9 = .ok (.istore 5, 2) := by decide +kernel
theorem dX5_call_11 : decode cX5_call 11 = .ok (.iload 5, 2) := by decide +kernel
theorem dX5_call_13 : decode cX5_call 13 = .ok (.ifCond .eq 6, 3) := by decide +kernel
theorem dX5_call_16 : decode cX5_call 16 = .ok (.iload 5, 2) := by decide +kernel
theorem dX5_call_18 : decode cX5_call 18 = .ok (.ireturn, 1) := by decide +kernel
theorem dX5_call_19 : decode cX5_call 19 = .ok (.aload_n 0, 1) := by decide +kernel
theorem dX5_call_20 : decode cX5_call 20 = .ok (.getfield 48, 3) := by decide +kernel
theorem dX5_call_23 : decode cX5_call 23 = .ok (.invokevirtual 162, 3) := by decide +kernel
theorem dX5_call_26 : decode cX5_call 26 = .ok (.iconst 4, 1) := by decide +kernel
theorem dX5_call_27 : decode cX5_call 27 = .ok (.istore 6, 2) := by decide +kernel
theorem dX5_call_29 : decode cX5_call 29 = .ok (.iload 6, 2) := by decide +kernel
theorem dX5_call_31 : decode cX5_call 31 = .ok (.bipush 20, 2) := by decide +kernel
theorem dX5_call_33 : decode cX5_call 33 = .ok (.if_icmp .gt 49, 3) := by decide +kernel
theorem dX5_call_36 : decode cX5_call 36 = .ok (.aload_n 0, 1) := by decide +kernel
theorem dX5_call_37 : decode cX5_call 37 = .ok (.getfield 34, 3) := by decide +kernel
theorem dX5_call_40 : decode cX5_call 40 = .ok (.aload_n 0, 1) := by decide +kernel
theorem dX5_call_41 : decode cX5_call 41 = .ok (.getfield 10, 3) := by decide +kernel
theorem dX5_call_44 : decode cX5_call 44 = .ok (.iload_n 1, 1) := by decide +kernel
theorem dX5_call_45 : decode cX5_call 45 = .ok (.iload_n 2, 1) := by decide +kernel
theorem dX5_call_46 : decode cX5_call 46 = .ok (.invokevirtual 100, 3) := by decide +kernel
theorem dX5_call_49 : decode cX5_call 49 = .ok (.aload_n 0, 1) := by decide +kernel
theorem dX5_call_50 : decode cX5_call 50 = .ok (.getfield 34, 3) := by decide +kernel
theorem dX5_call_53 : decode cX5_call 53 = .ok (.iload 6, 2) := by decide +kernel
theorem dX5_call_55 : decode cX5_call 55 = .ok (.invokevirtual 165, 3) := by decide +kernel
theorem dX5_call_58 : decode cX5_call 58 = .ok (.aload_n 0, 1) := by decide +kernel
theorem dX5_call_59 : decode cX5_call 59 = .ok (.getfield 48, 3) := by decide +kernel
theorem dX5_call_62 : decode cX5_call 62 = .ok (.iload 6, 2) := by decide +kernel
theorem dX5_call_64 : decode cX5_call 64 = .ok (.aload_n 0, 1) := by decide +kernel
theorem dX5_call_65 : decode cX5_call 65 = .ok (.getfield 34, 3) := by decide +kernel
theorem dX5_call_68 : decode cX5_call 68 = .ok (.iload_n 3, 1) := by decide +kernel
theorem dX5_call_69 : decode cX5_call 69 = .ok (.iconst (-1), 1) := by decide +kernel
theorem dX5_call_70 : decode cX5_call 70 = .ok (.invokevirtual 168, 3) := by decide +kernel
theorem dX5_call_73 : decode cX5_call 73 = .ok (.invokevirtual 171, 3) := by decide +kernel
theorem dX5_call_76 : decode cX5_call 76 = .ok (.iinc 6 1, 3) := by decide +kernel
theorem dX5_call_79 : decode cX5_call 79 = .ok (.goto (-50), 3) := by decide +kernel
theorem dX5_call_82 : decode cX5_call 82 = .ok (.aload_n 0, 1) := by decide +kernel
theorem dX5_call_83 : decode cX5_call 83 = .ok (.getfield 48, 3) := by decide +kernel
theorem dX5_call_86 : decode cX5_call 86 = .ok (.iload 4, 2) := by decide +kernel
theorem dX5_call_88 : decode cX5_call 88 = .ok (.invokevirtual 175, 3) := by decide +kernel
theorem dX5_call_91 : decode cX5_call 91 = .ok (.ireturn, 1) := by decide +kernel
theorem dX5_quicken_0 : decode cX5_quicken 0 = .ok (.aload_n 0, 1) := by decide +kernel
theorem dX5_quicken_1 : decode cX5_quicken 1 = .ok (.iload_n 1, 1) := by decide +kernel
theorem dX5_quicken_2 : decode cX5_quicken 2 = .ok (.iload_n 2, 1) := by decide +kernel
theorem dX5_quicken_3 : decode cX5_quicken 3 = .ok (.iload_n 3, 1) := by decide +kernel
theorem dX5_quicken_4 : decode cX5_quicken 4 = .ok (.iload 4, 2) := by decide +kernel
theorem dX5_quicken_6 : decode cX5_quicken 6 = .ok (.invokevirtual 122, 3) := by decide +kernel
theorem dX5_quicken_9 : decode cX5_quicken 9 = .ok (.istore 5, 2) := by decide +kernel
theorem dX5_quicken_11 : decode cX5_quicken 11 = .ok (.iload 5, 2) := by decide +kernel
theorem dX5_quicken_13 : decode cX5_quicken 13 = .ok (.ifCond .eq 6, 3) := by decide +kernel
theorem dX5_quicken_16 : decode cX5_quicken 16 = .ok (.iload 5, 2) := by decide +kernel
theorem dX5_quicken_18 : decode cX5_quicken 18 = .ok (.ireturn, 1) := by decide +kernel
theorem dX5_quicken_19 : decode cX5_quicken 19 = .ok (.aload_n 0, 1) := by decide +kernel
theorem dX5_quicken_20 : decode cX5_quicken 20 = .ok (.getfield 48, 3) := by decide +kernel
theorem dX5_quicken_23 : decode cX5_quicken 23 = .ok (.invokevirtual 162, 3) := by decide +kernel
theorem dX5_quicken_26 : decode cX5_quicken 26 = .ok (.iconst 0, 1) := by decide +kernel
theorem dX5_quicken_27 : decode cX5_quicken 27 = .ok (.istore 6, 2) := by decide +kernel
theorem dX5_quicken_29 : decode cX5_quicken 29 = .ok (.iload 6, 2) := by decide +kernel
theorem dX5_quicken_31 : decode cX5_quicken 31 = .ok (.bipush 60, 2) := by decide +kernel
theorem dX5_quicken_33 : decode cX5_quicken 33 = .ok (.if_icmp .gt 41, 3) := by decide +kernel
theorem dX5_quicken_36 : decode cX5_quicken 36 = .ok (.aload_n 0, 1) := by decide +kernel
theorem dX5_quicken_37 : decode cX5_quicken 37 = .ok (.getfield 34, 3) := by decide +kernel
theorem dX5_quicken_40 : decode cX5_quicken 40 = .ok (.aload_n 0, 1) := by decide +kernel
theorem dX5_quicken_41 : decode cX5_quicken 41 = .ok (.getfield 10, 3) := by decide +kernel
theorem dX5_quicken_44 : decode cX5_quicken 44 = .ok (.iload_n 1, 1) := by decide +kernel
theorem dX5_quicken_45 : decode cX5_quicken 45 = .ok (.iload_n 2, 1) := by decide +kernel
theorem dX5_quicken_46 : decode cX5_quicken 46 = .ok (.invokevirtual 100, 3) := by decide +kernel
theorem dX5_quicken_49 : decode cX5_quicken 49 = .ok (.aload_n 0, 1) := by decide +kernel
theorem dX5_quicken_50 : decode cX5_quicken 50 = .ok (.getfield 48, 3) := by decide +kernel
theorem dX5_quicken_53 : decode cX5_quicken 53 = .ok (.iload 6, 2) := by decide +kernel
theorem dX5_quicken_55 : decode cX5_quicken 55 = .ok (.aload_n 0, 1) := by decide +kernel
theorem dX5_quicken_56 : decode cX5_quicken 56 = .ok (.getfield 34, 3) := by decide +kernel
theorem dX5_quicken_59 : decode cX5_quicken 59 = .ok (.iload_n 3, 1) := by decide +kernel
theorem dX5_quicken_60 : decode cX5_quicken 60 = .ok (.iload 6, 2) := by decide +kernel
theorem dX5_quicken_62 : decode cX5_quicken 62 = .ok (.invokevirtual 168, 3) := by decide +kernel
theorem dX5_quicken_65 : decode cX5_quicken 65 = .ok (.invokevirtual 171, 3) := by decide +kernel
theorem dX5_quicken_68 : decode cX5_quicken 68 = .ok (.iinc 6 1, 3) := by decide +kernel
theorem dX5_quicken_71 : decode cX5_quicken 71 = .ok (.goto (-42), 3) := by decide +kernel
theorem dX5_quicken_74 : decode cX5_quicken 74 = .ok (.aload_n 0, 1) := by decide +kernel
theorem dX5_quicken_75 : decode cX5_quicken 75 = .ok (.getfield 48, 3) := by decide +kernel
theorem dX5_quicken_78 : decode cX5_quicken 78 = .ok (.bipush 61, 2) := by decide +kernel
theorem dX5_quicken_80 : decode cX5_quicken 80 = .ok (.aload_n 0, 1) := by decide +kernel
theorem dX5_quicken_81 : decode cX5_quicken 81 = .ok (.iload_n 1, 1) := by decide +kernel
theorem dX5_quicken_82 : decode cX5_quicken 82 = .ok (.iload_n 2, 1) := by decide +kernel
theorem dX5_quicken_83 : decode cX5_quicken 83 = .ok (.iload_n 3, 1) := by decide +kernel
theorem dX5_quicken_84 : decode cX5_quicken 84 = .ok (.invokevirtual 126, 3) := by decide +kernel
theorem dX5_quicken_87 : decode cX5_quicken 87 = .ok (.invokevirtual 171, 3) := by decide +kernel
theorem dX5_quicken_90 : decode cX5_quicken 90 = .ok (.aload_n 0, 1) := by decide +kernel
theorem dX5_quicken_91 : decode cX5_quicken 91 = .ok (.getfield 48, 3) := by decide +kernel
theorem dX5_quicken_94 : decode cX5_quicken 94 = .ok (.iload 4, 2) := by decide +kernel
theorem dX5_quicken_96 : decode cX5_quicken 96 = .ok (.invokevirtual 175, 3) := by decide +kernel
theorem dX5_quicken_99 : decode cX5_quicken 99 = .ok (.ireturn, 1) := by decide +kernel
theorem dX5_yields_0 : decode cX5_yields 0 = .ok (.aload_n 0, 1) := by decide +kernel
theorem dX5_yields_1 : decode cX5_yields 1 = .ok (.iload_n 1, 1) := by decide +kernel
theorem dX5_yields_2 : decode cX5_yields 2 = .ok (.iload_n 2, 1) := by decide +kernel
theorem dX5_yields_3 : decode cX5_yields 3 = .ok (.iload_n 3, 1) := by decide +kernel
theorem dX5_yields_4 : decode cX5_yields 4 = .ok (.iload 4, 2) := by decide +kernel
theorem dX5_yields_6 : decode cX5_yields 6 = .ok (.invokevirtual 122, 3) := by decide +kernel
theorem dX5_yields_9 : decode cX5_yields 9 = .ok (.istore 5, 2) := by decide +kernel
theorem dX5_yields_11 : decode cX5_yields 11 = .ok (.iload 5, 2) := by decide +kernel
theorem dX5_yields_13 : decode cX5_yields 13 = .ok (.ifCond .eq 6, 3) := by decide +kernel
theorem dX5_yields_16 : decode cX5_yields 16 = .ok (.iload 5, 2) := by decide +kernel
theorem dX5_yields_18 : decode cX5_yields 18 = .ok (.ireturn, 1) := by decide +kernel
theorem dX5_yields_19 : decode cX5_yields 19 = .ok (.aload_n 0, 1) := by decide +kernel
theorem dX5_yields_20 : decode cX5_yields 20 = .ok (.getfield 48, 3) := by decide +kernel
theorem dX5_yields_23 : decode cX5_yields 23 = .ok (.invokevirtual 162, 3) := by decide +kernel
theorem dX5_yields_26 : decode cX5_yields 26 = .ok (.iconst 0, 1) := by decide +kernel
theorem dX5_yields_27 : decode cX5_yields 27 = .ok (.istore 6, 2) := by decide +kernel
theorem dX5_yields_29 : decode cX5_yields 29 = .ok (.iload 6, 2) := by decide +kernel
theorem dX5_yields_31 : decode cX5_yields 31 = .ok (.iconst 4, 1) := by decide +kernel
theorem dX5_yields_32 : decode cX5_yields 32 = .ok (.if_icmp .gt 72, 3) := by decide +kernel
theorem dX5_yields_35 : decode cX5_yields 35 = .ok (.iconst 0, 1) := by decide +kernel
theorem dX5_yields_36 : decode cX5_yields 36 = .ok (.istore 7, 2) := by decide +kernel
theorem dX5_yields_38 : decode cX5_yields 38 = .ok (.iload 7, 2) := by decide +kernel
theorem dX5_yields_40 : decode cX5_yields 40 = .ok (.iconst 4, 1) := by decide +kernel
theorem dX5_yields_41 : decode cX5_yields 41 = .ok (.if_icmp .gt 57, 3) := by decide +kernel
theorem dX5_yields_44 : decode cX5_yields 44 = .ok (.aload_n 0, 1) := by decide +kernel
theorem dX5_yields_45 : decode cX5_yields 45 = .ok (.getfield 34, 3) := by decide +kernel
theorem dX5_yields_48 : decode cX5_yields 48 = .ok (.aload_n 0, 1) := by decide +kernel
theorem dX5_yields_49 : decode cX5_yields 49 = .ok (.getfield 10, 3) := by decide +kernel
theorem dX5_yields_52 : decode cX5_yields 52 = .ok (.iload_n 1, 1) := by decide +kernel
theorem dX5_yields_53 : decode cX5_yields 53 = .ok (.iload_n 2, 1) := by decide +kernel
theorem dX5_yields_54 : decode cX5_yields 54 = .ok (.invokevirtual 100, 3) := by decide +kernel
theorem dX5_yields_57 : decode cX5_yields 57 = .ok (.aload_n 0, 1) := by decide +kernel
theorem dX5_yields_58 : decode cX5_yields 58 = .ok (.getfield 34, 3) := by decide +kernel
theorem dX5_yields_61 : decode cX5_yields 61 = .ok (.iload 6, 2) := by decide +kernel
theorem dX5_yields_63 : decode cX5_yields 63 = .ok (.iload 7, 2) := by decide +kernel
theorem dX5_yields_65 : decode cX5_yields 65 = .ok (.invokevirtual 178, 3) := by decide +kernel
theorem dX5_yields_68 : decode cX5_yields 68 = .ok (.aload_n 0, 1) := by decide +kernel
theorem dX5_yields_69 : decode cX5_yields 69 = .ok (.getfield 48, 3) := by decide +kernel
theorem dX5_yields_72 : decode cX5_yields 72 = .ok (.bipush 10, 2) := by decide +kernel
theorem dX5_yields_74 : decode cX5_yields 74 = .ok (.iload 6, 2) := by decide +kernel
theorem dX5_yields_76 : decode cX5_yields 76 = .ok (.imul, 1) := by decide +kernel
theorem dX5_yields_77 : decode cX5_yields 77 = .ok (.iload 7, 2) := by decide +kernel
theorem dX5_yields_79 : decode cX5_yields 79 = .ok (.iadd, 1) := by decide +kernel
theorem dX5_yields_80 : decode cX5_yields 80 = .ok (.aload_n 0, 1) := by decide +kernel
theorem dX5_yields_81 : decode cX5_yields 81 = .ok (.getfield 34, 3) := by decide +kernel
theorem dX5_yields_84 : decode cX5_yields 84 = .ok (.iload_n 3, 1) := by decide +kernel
theorem dX5_yields_85 : decode cX5_yields 85 = .ok (.iconst (-1), 1) := by decide +kernel
theorem dX5_yields_86 : decode cX5_yields 86 = .ok (.invokevirtual 168, 3) := by decide +kernel
theorem dX5_yields_89 : decode cX5_yields 89 = .ok (.invokevirtual 171, 3) := by decide +kernel
theorem dX5_yields_92 : decode cX5_yields 92 = .ok (.iinc 7 1, 3) := by decide +kernel
theorem dX5_yields_95 : decode cX5_yields 95 = .ok (.goto (-57), 3) := by decide +kernel
theorem dX5_yields_98 : decode cX5_yields 98 = .ok (.iinc 6 1, 3) := by decide +kernel
theorem dX5_yields_101 : decode cX5_yields 101 = .ok (.goto (-72), 3) := by decide +kernel
theorem dX5_yields_104 : decode cX5_yields 104 = .ok (.aload_n 0, 1) := by decide +kernel
theorem dX5_yields_105 : decode cX5_yields 105 = .ok (.getfield 48, 3) := by decide +kernel
theorem dX5_yields_108 : decode cX5_yields 108 = .ok (.iload 4, 2) := by decide +kernel
theorem dX5_yields_110 : decode cX5_yields 110 = .ok (.invokevirtual 175, 3) := by decide +kernel
theorem dX5_yields_113 : decode cX5_yields 113 = .ok (.ireturn, 1) := by decide +kernel
theorem dX5_practice_0 : decode cX5_practice 0 = .ok (.aload_n 0, 1) := by decide +kernel
theorem dX5_practice_1 : decode cX5_practice 1 = .ok (.getfield 10, 3) := by decide +kernel
theorem dX5_practice_4 : decode cX5_practice 4 = .ok (.iload_n 1, 1) := by decide +kernel
theorem dX5_practice_5 : decode cX5_practice 5 = .ok (.iload_n 2, 1) := by decide +kernel
theorem dX5_practice_6 : decode cX5_practice 6 = .ok (.invokevirtual 96, 3) := by decide +kernel
theorem dX5_practice_9 : decode cX5_practice 9 = .ok (.ifCond .ne 5, 3) := by decide +kernel
theorem dX5_practice_12 : decode cX5_practice 12 = .ok (.iconst (-1), 1) := by decide +kernel
theorem dX5_practice_13 : decode cX5_practice 13 = .ok (.ireturn, 1) := by decide +kernel
theorem dX5_practice_14 : decode cX5_practice 14 = .ok (.iload_n 3, 1) := by decide +kernel
theorem dX5_practice_15 : decode cX5_practice 15 = .ok (.iconst 0, 1) := by decide +kernel
theorem dX5_practice_16 : decode cX5_practice 16 = .ok (.sipush 999, 3) := by decide +kernel
theorem dX5_practice_19 : decode cX5_practice 19 = .ok (.invokestatic 56, 3) := by decide +kernel
theorem dX5_practice_22 : decode cX5_practice 22 = .ok (.ifCond .eq 13, 3) := by decide +kernel
theorem dX5_practice_25 : decode cX5_practice 25 = .ok (.iload 4, 2) := by decide +kernel
theorem dX5_practice_27 : decode cX5_practice 27 = .ok (.iconst 0, 1) := by decide +kernel
theorem dX5_practice_28 : decode cX5_practice 28 = .ok (.iconst 1, 1) := by decide +kernel
theorem dX5_practice_29 : decode cX5_practice 29 = .ok (.invokestatic 56, 3) := by decide +kernel
theorem dX5_practice_32 : decode cX5_practice 32 = .ok (.ifCond .ne 6, 3) := by decide +kernel
theorem dX5_practice_35 : decode cX5_practice 35 = .ok (.bipush (-2), 2) := by decide +kernel
theorem dX5_practice_37 : decode cX5_practice 37 = .ok (.ireturn, 1) := by decide +kernel
theorem dX5_practice_38 : decode cX5_practice 38 = .ok (.aload_n 0, 1) := by decide +kernel
theorem dX5_practice_39 : decode cX5_practice 39 = .ok (.getfield 10, 3) := by decide +kernel
theorem dX5_practice_42 : decode cX5_practice 42 = .ok (.getfield 181, 3) := by decide +kernel
theorem dX5_practice_45 : decode cX5_practice 45 = .ok (.iload_n 1, 1) := by decide +kernel
theorem dX5_practice_46 : decode cX5_practice 46 = .ok (.iaload, 1) := by decide +kernel
theorem dX5_practice_47 : decode cX5_practice 47 = .ok (.aload_n 0, 1) := by decide +kernel
theorem dX5_practice_48 : decode cX5_practice 48 = .ok (.getfield 10, 3) := by decide +kernel
theorem dX5_practice_51 : decode cX5_practice 51 = .ok (.getfield 181, 3) := by decide +kernel
theorem dX5_practice_54 : decode cX5_practice 54 = .ok (.iload_n 2, 1) := by decide +kernel
theorem dX5_practice_55 : decode cX5_practice 55 = .ok (.iaload, 1) := by decide +kernel
theorem dX5_practice_56 : decode cX5_practice 56 = .ok (.iadd, 1) := by decide +kernel
theorem dX5_practice_57 : decode cX5_practice 57 = .ok (.istore 5, 2) := by decide +kernel
theorem dX5_practice_59 : decode cX5_practice 59 = .ok (.bipush (-6), 2) := by decide +kernel
theorem dX5_practice_61 : decode cX5_practice 61 = .ok (.istore 6, 2) := by decide +kernel
theorem dX5_practice_63 : decode cX5_practice 63 = .ok (.bipush (-6), 2) := by decide +kernel
theorem dX5_practice_65 : decode cX5_practice 65 = .ok (.istore 7, 2) := by decide +kernel
theorem dX5_practice_67 : decode cX5_practice 67 = .ok (.aload_n 0, 1) := by decide +kernel
theorem dX5_practice_68 : decode cX5_practice 68 = .ok (.getfield 10, 3) := by decide +kernel
theorem dX5_practice_71 : decode cX5_practice 71 = .ok (.getfield 181, 3) := by decide +kernel
theorem dX5_practice_74 : decode cX5_practice 74 = .ok (.iload_n 1, 1) := by decide +kernel
theorem dX5_practice_75 : decode cX5_practice 75 = .ok (.iaload, 1) := by decide +kernel
theorem dX5_practice_76 : decode cX5_practice 76 = .ok (.istore 8, 2) := by decide +kernel
theorem dX5_practice_78 : decode cX5_practice 78 = .ok (.iload 8, 2) := by decide +kernel
theorem dX5_practice_80 : decode cX5_practice 80 = .ok (.iconst 4, 1) := by decide +kernel
theorem dX5_practice_81 : decode cX5_practice 81 = .ok (.if_icmp .gt 84, 3) := by decide +kernel
theorem dX5_practice_84 : decode cX5_practice 84 = .ok (.aload_n 0, 1) := by decide +kernel
theorem dX5_practice_85 : decode cX5_practice 85 = .ok (.getfield 10, 3) := by decide +kernel
theorem dX5_practice_88 : decode cX5_practice 88 = .ok (.getfield 181, 3) := by decide +kernel
theorem dX5_practice_91 : decode cX5_practice 91 = .ok (.iload_n 2, 1) := by decide +kernel
theorem dX5_practice_92 : decode cX5_practice 92 = .ok (.iaload, 1) := by decide +kernel
theorem dX5_practice_93 : decode cX5_practice 93 = .ok (.istore 9, 2) := by decide +kernel
theorem dX5_practice_95 : decode cX5_practice 95 = .ok (.iload 9, 2) := by decide +kernel
theorem dX5_practice_97 : decode cX5_practice 97 = .ok (.iconst 4, 1) := by decide +kernel
theorem dX5_practice_98 : decode cX5_practice 98 = .ok (.if_icmp .gt 61, 3) := by decide +kernel
theorem dX5_practice_101 : decode cX5_practice 101 = .ok (.iload 8, 2) := by decide +kernel
theorem dX5_practice_103 : decode cX5_practice 103 = .ok (.iload 9, 2) := by decide +kernel
theorem dX5_practice_105 : decode cX5_practice 105 = .ok (.iadd, 1) := by decide +kernel
theorem dX5_practice_106 : decode cX5_practice 106 = .ok (.iload 5, 2) := by decide +kernel
theorem dX5_practice_108 : decode cX5_practice 108 = .ok (.isub, 1) := by decide +kernel
theorem dX5_practice_109 : decode cX5_practice 109 = .ok (.istore 10, 2) := by decide +kernel
theorem dX5_practice_111 : decode cX5_practice 111 = .ok (.iload 6, 2) := by decide +kernel
theorem dX5_practice_113 : decode cX5_practice 113 = .ok (.bipush (-6), 2) := by decide +kernel
theorem dX5_practice_115 : decode cX5_practice 115 = .ok (.if_icmp .eq 10, 3) := by decide +kernel
theorem dX5_practice_118 : decode cX5_practice 118 = .ok (.iload 10, 2) := by decide +kernel
theorem dX5_practice_120 : decode cX5_practice 120 = .ok (.iload 6, 2) := by decide +kernel
theorem dX5_practice_122 : decode cX5_practice 122 = .ok (.if_icmp .ge 31, 3) := by decide +kernel
theorem dX5_practice_125 : decode cX5_practice 125 = .ok (.aload_n 0, 1) := by decide +kernel
theorem dX5_practice_126 : decode cX5_practice 126 = .ok (.iload_n 1, 1) := by decide +kernel
theorem dX5_practice_127 : decode cX5_practice 127 = .ok (.iload_n 2, 1) := by decide +kernel
theorem dX5_practice_128 : decode cX5_practice 128 = .ok (.iload 8, 2) := by decide +kernel
theorem dX5_practice_130 : decode cX5_practice 130 = .ok (.iload 9, 2) := by decide +kernel
theorem dX5_practice_132 : decode cX5_practice 132 = .ok (.iload_n 3, 1) := by decide +kernel
theorem dX5_practice_133 : decode cX5_practice 133 = .ok (.invokevirtual 183, 3) := by decide +kernel
theorem dX5_practice_136 : decode cX5_practice 136 = .ok (.ifCond .eq 17, 3) := by decide +kernel
theorem dX5_practice_139 : decode cX5_practice 139 = .ok (.iload 10, 2) := by decide +kernel
theorem dX5_practice_141 : decode cX5_practice 141 = .ok (.istore 6, 2) := by decide +kernel
theorem dX5_practice_143 : decode cX5_practice 143 = .ok (.bipush 10, 2) := by decide +kernel
theorem dX5_practice_145 : decode cX5_practice 145 = .ok (.iload 8, 2) := by decide +kernel
theorem dX5_practice_147 : decode cX5_practice 147 = .ok (.imul, 1) := by decide +kernel
theorem dX5_practice_148 : decode cX5_practice 148 = .ok (.iload 9, 2) := by decide +kernel
theorem dX5_practice_150 : decode cX5_practice 150 = .ok (.iadd, 1) := by decide +kernel
theorem dX5_practice_151 : decode cX5_practice 151 = .ok (.istore 7, 2) := by decide +kernel
theorem dX5_practice_153 : decode cX5_practice 153 = .ok (.iinc 9 1, 3) := by decide +kernel
theorem dX5_practice_156 : decode cX5_practice 156 = .ok (.goto (-61), 3) := by decide +kernel
theorem dX5_practice_159 : decode cX5_practice 159 = .ok (.iinc 8 1, 3) := by decide +kernel
theorem dX5_practice_162 : decode cX5_practice 162 = .ok (.goto (-84), 3) := by decide +kernel
theorem dX5_practice_165 : decode cX5_practice 165 = .ok (.iload 4, 2) := by decide +kernel
theorem dX5_practice_167 : decode cX5_practice 167 = .ok (.ifCond .ne 8, 3) := by decide +kernel
theorem dX5_practice_170 : decode cX5_practice 170 = .ok (.iload 6, 2) := by decide +kernel
theorem dX5_practice_172 : decode cX5_practice 172 = .ok (.goto 5, 3) := by decide +kernel
theorem dX5_practice_175 : decode cX5_practice 175 = .ok (.iload 7, 2) := by decide +kernel
theorem dX5_practice_177 : decode cX5_practice 177 = .ok (.ireturn, 1) := by decide +kernel
theorem dX5_standsWith_0 : decode cX5_standsWith 0 = .ok (.aload_n 0, 1) := by decide +kernel
theorem dX5_standsWith_1 : decode cX5_standsWith 1 = .ok (.getfield 34, 3) := by decide +kernel
theorem dX5_standsWith_4 : decode cX5_standsWith 4 = .ok (.aload_n 0, 1) := by decide +kernel
theorem dX5_standsWith_5 : decode cX5_standsWith 5 = .ok (.getfield 10, 3) := by decide +kernel
theorem dX5_standsWith_8 : decode cX5_standsWith 8 = .ok (.iload_n 1, 1) := by decide +kernel
theorem dX5_standsWith_9 : decode cX5_standsWith 9 = .ok (.iload_n 2, 1) := by decide +kernel
theorem dX5_standsWith_10 : decode cX5_standsWith 10 = .ok (.invokevirtual 100, 3) := by decide +kernel
theorem dX5_standsWith_13 : decode cX5_standsWith 13 = .ok (.aload_n 0, 1) := by decide +kernel
theorem dX5_standsWith_14 : decode cX5_standsWith 14 = .ok (.getfield 34, 3) := by decide +kernel
theorem dX5_standsWith_17 : decode cX5_standsWith 17 = .ok (.iload_n 3, 1) := by decide +kernel
theorem dX5_standsWith_18 : decode cX5_standsWith 18 = .ok (.iload 4, 2) := by decide +kernel
theorem dX5_standsWith_20 : decode cX5_standsWith 20 = .ok (.invokevirtual 178, 3) := by decide +kernel
theorem dX5_standsWith_23 : decode cX5_standsWith 23 = .ok (.aload_n 0, 1) := by decide +kernel
theorem dX5_standsWith_24 : decode cX5_standsWith 24 = .ok (.getfield 34, 3) := by decide +kernel
theorem dX5_standsWith_27 : decode cX5_standsWith 27 = .ok (.iload 5, 2) := by decide +kernel
theorem dX5_standsWith_29 : decode cX5_standsWith 29 = .ok (.invokevirtual 133, 3) := by decide +kernel
theorem dX5_standsWith_32 : decode cX5_standsWith 32 = .ok (.ireturn, 1) := by decide +kernel
theorem dX5_scarf_0 : decode cX5_scarf 0 = .ok (.aload_n 0, 1) := by decide +kernel
theorem dX5_scarf_1 : decode cX5_scarf 1 = .ok (.getfield 10, 3) := by decide +kernel
theorem dX5_scarf_4 : decode cX5_scarf 4 = .ok (.iload_n 1, 1) := by decide +kernel
theorem dX5_scarf_5 : decode cX5_scarf 5 = .ok (.iload_n 2, 1) := by decide +kernel
theorem dX5_scarf_6 : decode cX5_scarf 6 = .ok (.invokevirtual 96, 3) := by decide +kernel
theorem dX5_scarf_9 : decode cX5_scarf 9 = .ok (.ifCond .ne 5, 3) := by decide +kernel
theorem dX5_scarf_12 : decode cX5_scarf 12 = .ok (.iconst (-1), 1) := by decide +kernel
theorem dX5_scarf_13 : decode cX5_scarf 13 = .ok (.ireturn, 1) := by decide +kernel
theorem dX5_scarf_14 : decode cX5_scarf 14 = .ok (.iload_n 3, 1) := by decide +kernel
theorem dX5_scarf_15 : decode cX5_scarf 15 = .ok (.invokestatic 140, 3) := by decide +kernel
theorem dX5_scarf_18 : decode cX5_scarf 18 = .ok (.ifCond .eq 15, 3) := by decide +kernel
theorem dX5_scarf_21 : decode cX5_scarf 21 = .ok (.iload 4, 2) := by decide +kernel
theorem dX5_scarf_23 : decode cX5_scarf 23 = .ok (.iconst 0, 1) := by decide +kernel
theorem dX5_scarf_24 : decode cX5_scarf 24 = .ok (.sipush 9999, 3) := by decide +kernel
theorem dX5_scarf_27 : decode cX5_scarf 27 = .ok (.invokestatic 56, 3) := by decide +kernel
theorem dX5_scarf_30 : decode cX5_scarf 30 = .ok (.ifCond .ne 6, 3) := by decide +kernel
theorem dX5_scarf_33 : decode cX5_scarf 33 = .ok (.bipush (-2), 2) := by decide +kernel
theorem dX5_scarf_35 : decode cX5_scarf 35 = .ok (.ireturn, 1) := by decide +kernel
theorem dX5_scarf_36 : decode cX5_scarf 36 = .ok (.iconst 0, 1) := by decide +kernel
theorem dX5_scarf_37 : decode cX5_scarf 37 = .ok (.istore 5, 2) := by decide +kernel
theorem dX5_scarf_39 : decode cX5_scarf 39 = .ok (.iload 5, 2) := by decide +kernel
theorem dX5_scarf_41 : decode cX5_scarf 41 = .ok (.aload_n 0, 1) := by decide +kernel
theorem dX5_scarf_42 : decode cX5_scarf 42 = .ok (.getfield 10, 3) := by decide +kernel
theorem dX5_scarf_45 : decode cX5_scarf 45 = .ok (.getfield 86, 3) := by decide +kernel
theorem dX5_scarf_48 : decode cX5_scarf 48 = .ok (.if_icmp .gt 59, 3) := by decide +kernel
theorem dX5_scarf_51 : decode cX5_scarf 51 = .ok (.aload_n 0, 1) := by decide +kernel
theorem dX5_scarf_52 : decode cX5_scarf 52 = .ok (.getfield 34, 3) := by decide +kernel
theorem dX5_scarf_55 : decode cX5_scarf 55 = .ok (.aload_n 0, 1) := by decide +kernel
theorem dX5_scarf_56 : decode cX5_scarf 56 = .ok (.getfield 10, 3) := by decide +kernel
theorem dX5_scarf_59 : decode cX5_scarf 59 = .ok (.iload_n 1, 1) := by decide +kernel
theorem dX5_scarf_60 : decode cX5_scarf 60 = .ok (.iload_n 2, 1) := by decide +kernel
theorem dX5_scarf_61 : decode cX5_scarf 61 = .ok (.invokevirtual 100, 3) := by decide +kernel
theorem dX5_scarf_64 : decode cX5_scarf 64 = .ok (.aload_n 0, 1) := by decide +kernel
theorem dX5_scarf_65 : decode cX5_scarf 65 = .ok (.getfield 34, 3) := by decide +kernel
theorem dX5_scarf_68 : decode cX5_scarf 68 = .ok (.iload 5, 2) := by decide +kernel
theorem dX5_scarf_70 : decode cX5_scarf 70 = .ok (.putfield 187, 3) := by decide +kernel
theorem dX5_scarf_73 : decode cX5_scarf 73 = .ok (.aload_n 0, 1) := by decide +kernel
theorem dX5_scarf_74 : decode cX5_scarf 74 = .ok (.getfield 34, 3) := by decide +kernel
theorem dX5_scarf_77 : decode cX5_scarf 77 = .ok (.iload_n 3, 1) := by decide +kernel
theorem dX5_scarf_78 : decode cX5_scarf 78 = .ok (.iconst (-1), 1) := by decide +kernel
theorem dX5_scarf_79 : decode cX5_scarf 79 = .ok (.invokevirtual 168, 3) := by decide +kernel
theorem dX5_scarf_82 : decode cX5_scarf 82 = .ok (.istore 6, 2) := by decide +kernel
theorem dX5_scarf_84 : decode cX5_scarf 84 = .ok (.iload 6, 2) := by decide +kernel
theorem dX5_scarf_86 : decode cX5_scarf 86 = .ok (.bipush (-6), 2) := by decide +kernel
theorem dX5_scarf_88 : decode cX5_scarf 88 = .ok (.if_icmp .eq 13, 3) := by decide +kernel
theorem dX5_scarf_91 : decode cX5_scarf 91 = .ok (.iload 6, 2) := by decide +kernel
theorem dX5_scarf_93 : decode cX5_scarf 93 = .ok (.iload 4, 2) := by decide +kernel
theorem dX5_scarf_95 : decode cX5_scarf 95 = .ok (.if_icmp .gt 6, 3) := by decide +kernel
theorem dX5_scarf_98 : decode cX5_scarf 98 = .ok (.iload 5, 2) := by decide +kernel
theorem dX5_scarf_100 : decode cX5_scarf 100 = .ok (.ireturn, 1) := by decide +kernel
theorem dX5_scarf_101 : decode cX5_scarf 101 = .ok (.iinc 5 1, 3) := by decide +kernel
theorem dX5_scarf_104 : decode cX5_scarf 104 = .ok (.goto (-65), 3) := by decide +kernel
theorem dX5_scarf_107 : decode cX5_scarf 107 = .ok (.bipush (-6), 2) := by decide +kernel
theorem dX5_scarf_109 : decode cX5_scarf 109 = .ok (.ireturn, 1) := by decide +kernel
theorem dX5_even_0 : decode cX5_even 0 = .ok (.aload_n 0, 1) := by decide +kernel
theorem dX5_even_1 : decode cX5_even 1 = .ok (.getfield 10, 3) := by decide +kernel
theorem dX5_even_4 : decode cX5_even 4 = .ok (.iload_n 1, 1) := by decide +kernel
theorem dX5_even_5 : decode cX5_even 5 = .ok (.iload_n 2, 1) := by decide +kernel
theorem dX5_even_6 : decode cX5_even 6 = .ok (.invokevirtual 96, 3) := by decide +kernel
theorem dX5_even_9 : decode cX5_even 9 = .ok (.ifCond .eq 16, 3) := by decide +kernel
theorem dX5_even_12 : decode cX5_even 12 = .ok (.aload_n 0, 1) := by decide +kernel
theorem dX5_even_13 : decode cX5_even 13 = .ok (.getfield 10, 3) := by decide +kernel
theorem dX5_even_16 : decode cX5_even 16 = .ok (.iload_n 3, 1) := by decide +kernel
theorem dX5_even_17 : decode cX5_even 17 = .ok (.iload 4, 2) := by decide +kernel
theorem dX5_even_19 : decode cX5_even 19 = .ok (.invokevirtual 96, 3) := by decide +kernel
theorem dX5_even_22 : decode cX5_even 22 = .ok (.ifCond .ne 5, 3) := by decide +kernel
theorem dX5_even_25 : decode cX5_even 25 = .ok (.iconst (-1), 1) := by decide +kernel
theorem dX5_even_26 : decode cX5_even 26 = .ok (.ireturn, 1) := by decide +kernel
theorem dX5_even_27 : decode cX5_even 27 = .ok (.iload 5, 2) := by decide +kernel
theorem dX5_even_29 : decode cX5_even 29 = .ok (.invokestatic 140, 3) := by decide +kernel
theorem dX5_even_32 : decode cX5_even 32 = .ok (.ifCond .ne 6, 3) := by decide +kernel
theorem dX5_even_35 : decode cX5_even 35 = .ok (.bipush (-2), 2) := by decide +kernel
theorem dX5_even_37 : decode cX5_even 37 = .ok (.ireturn, 1) := by decide +kernel
theorem dX5_even_38 : decode cX5_even 38 = .ok (.aload_n 0, 1) := by decide +kernel
theorem dX5_even_39 : decode cX5_even 39 = .ok (.iload_n 3, 1) := by decide +kernel
theorem dX5_even_40 : decode cX5_even 40 = .ok (.iload 4, 2) := by decide +kernel
theorem dX5_even_42 : decode cX5_even 42 = .ok (.iload 5, 2) := by decide +kernel
theorem dX5_even_44 : decode cX5_even 44 = .ok (.invokevirtual 126, 3) := by decide +kernel
theorem dX5_even_47 : decode cX5_even 47 = .ok (.istore 6, 2) := by decide +kernel
theorem dX5_even_49 : decode cX5_even 49 = .ok (.iload 6, 2) := by decide +kernel
theorem dX5_even_51 : decode cX5_even 51 = .ok (.bipush (-6), 2) := by decide +kernel
theorem dX5_even_53 : decode cX5_even 53 = .ok (.if_icmp .ne 6, 3) := by decide +kernel
theorem dX5_even_56 : decode cX5_even 56 = .ok (.bipush (-6), 2) := by decide +kernel
theorem dX5_even_58 : decode cX5_even 58 = .ok (.ireturn, 1) := by decide +kernel
theorem dX5_even_59 : decode cX5_even 59 = .ok (.aload_n 0, 1) := by decide +kernel
theorem dX5_even_60 : decode cX5_even 60 = .ok (.getfield 34, 3) := by decide +kernel
theorem dX5_even_63 : decode cX5_even 63 = .ok (.aload_n 0, 1) := by decide +kernel
theorem dX5_even_64 : decode cX5_even 64 = .ok (.getfield 10, 3) := by decide +kernel
theorem dX5_even_67 : decode cX5_even 67 = .ok (.iload_n 1, 1) := by decide +kernel
theorem dX5_even_68 : decode cX5_even 68 = .ok (.iload_n 2, 1) := by decide +kernel
theorem dX5_even_69 : decode cX5_even 69 = .ok (.invokevirtual 100, 3) := by decide +kernel
theorem dX5_even_72 : decode cX5_even 72 = .ok (.iconst 0, 1) := by decide +kernel
theorem dX5_even_73 : decode cX5_even 73 = .ok (.iload 5, 2) := by decide +kernel
theorem dX5_even_75 : decode cX5_even 75 = .ok (.aload_n 0, 1) := by decide +kernel
theorem dX5_even_76 : decode cX5_even 76 = .ok (.getfield 34, 3) := by decide +kernel
theorem dX5_even_79 : decode cX5_even 79 = .ok (.iload 6, 2) := by decide +kernel
theorem dX5_even_81 : decode cX5_even 81 = .ok (.invokevirtual 188, 3) := by decide +kernel
theorem dX5_even_84 : decode cX5_even 84 = .ok (.isub, 1) := by decide +kernel
theorem dX5_even_85 : decode cX5_even 85 = .ok (.invokestatic 191, 3) := by decide +kernel
theorem dX5_even_88 : decode cX5_even 88 = .ok (.ireturn, 1) := by decide +kernel
theorem dX5_say_0 : decode cX5_say 0 = .ok (.iload_n 1, 1) := by decide +kernel
theorem dX5_say_1 : decode cX5_say 1 = .ok (.bipush 33, 2) := by decide +kernel
theorem dX5_say_3 : decode cX5_say 3 = .ok (.bipush 126, 2) := by decide +kernel
theorem dX5_say_5 : decode cX5_say 5 = .ok (.invokestatic 56, 3) := by decide +kernel
theorem dX5_say_8 : decode cX5_say 8 = .ok (.ifCond .ne 6, 3) := by decide +kernel
theorem dX5_say_11 : decode cX5_say 11 = .ok (.bipush (-2), 2) := by decide +kernel
theorem dX5_say_13 : decode cX5_say 13 = .ok (.ireturn, 1) := by decide +kernel
theorem dX5_say_14 : decode cX5_say 14 = .ok (.aload_n 0, 1) := by decide +kernel
theorem dX5_say_15 : decode cX5_say 15 = .ok (.getfield 27, 3) := by decide +kernel
theorem dX5_say_18 : decode cX5_say 18 = .ok (.getfield 196, 3) := by decide +kernel
theorem dX5_say_21 : decode cX5_say 21 = .ok (.bipush 40, 2) := by decide +kernel
theorem dX5_say_23 : decode cX5_say 23 = .ok (.if_icmp .lt 6, 3) := by decide +kernel
theorem dX5_say_26 : decode cX5_say 26 = .ok (.bipush (-4), 2) := by decide +kernel
theorem dX5_say_28 : decode cX5_say 28 = .ok (.ireturn, 1) := by decide +kernel
theorem dX5_say_29 : decode cX5_say 29 = .ok (.aload_n 0, 1) := by decide +kernel
theorem dX5_say_30 : decode cX5_say 30 = .ok (.getfield 27, 3) := by decide +kernel
theorem dX5_say_33 : decode cX5_say 33 = .ok (.iload_n 1, 1) := by decide +kernel
theorem dX5_say_34 : decode cX5_say 34 = .ok (.invokevirtual 198, 3) := by decide +kernel
theorem dX5_say_37 : decode cX5_say 37 = .ok (.aload_n 0, 1) := by decide +kernel
theorem dX5_say_38 : decode cX5_say 38 = .ok (.getfield 27, 3) := by decide +kernel
theorem dX5_say_41 : decode cX5_say 41 = .ok (.getfield 196, 3) := by decide +kernel
theorem dX5_say_44 : decode cX5_say 44 = .ok (.ireturn, 1) := by decide +kernel
theorem dX5_wipe_0 : decode cX5_wipe 0 = .ok (.aload_n 0, 1) := by decide +kernel
theorem dX5_wipe_1 : decode cX5_wipe 1 = .ok (.getfield 27, 3) := by decide +kernel
theorem dX5_wipe_4 : decode cX5_wipe 4 = .ok (.getfield 196, 3) := by decide +kernel
theorem dX5_wipe_7 : decode cX5_wipe 7 = .ok (.istore_n 1, 1) := by decide +kernel
theorem dX5_wipe_8 : decode cX5_wipe 8 = .ok (.aload_n 0, 1) := by decide +kernel
theorem dX5_wipe_9 : decode cX5_wipe 9 = .ok (.getfield 27, 3) := by decide +kernel
theorem dX5_wipe_12 : decode cX5_wipe 12 = .ok (.iconst 0, 1) := by decide +kernel
theorem dX5_wipe_13 : decode cX5_wipe 13 = .ok (.putfield 196, 3) := by decide +kernel
theorem dX5_wipe_16 : decode cX5_wipe 16 = .ok (.iload_n 1, 1) := by decide +kernel
theorem dX5_wipe_17 : decode cX5_wipe 17 = .ok (.ireturn, 1) := by decide +kernel
theorem dX5_fault_0 : decode cX5_fault 0 = .ok (.aload_n 0, 1) := by decide +kernel
theorem dX5_fault_1 : decode cX5_fault 1 = .ok (.getfield 27, 3) := by decide +kernel
theorem dX5_fault_4 : decode cX5_fault 4 = .ok (.invokevirtual 201, 3) := by decide +kernel
theorem dX5_fault_7 : decode cX5_fault 7 = .ok (.ireturn, 1) := by decide +kernel
theorem dX5_judge_0 : decode cX5_judge 0 = .ok (.aload_n 0, 1) := by decide +kernel
theorem dX5_judge_1 : decode cX5_judge 1 = .ok (.getfield 10, 3) := by decide +kernel
theorem dX5_judge_4 : decode cX5_judge 4 = .ok (.iload_n 1, 1) := by decide +kernel
theorem dX5_judge_5 : decode cX5_judge 5 = .ok (.iload_n 2, 1) := by decide +kernel
theorem dX5_judge_6 : decode cX5_judge 6 = .ok (.invokevirtual 96, 3) := by decide +kernel
theorem dX5_judge_9 : decode cX5_judge 9 = .ok (.ifCond .ne 5, 3) := by decide +kernel
theorem dX5_judge_12 : decode cX5_judge 12 = .ok (.iconst (-1), 1) := by decide +kernel
theorem dX5_judge_13 : decode cX5_judge 13 = .ok (.ireturn, 1) := by decide +kernel
theorem dX5_judge_14 : decode cX5_judge 14 = .ok (.aload_n 0, 1) := by decide +kernel
theorem dX5_judge_15 : decode cX5_judge 15 = .ok (.getfield 27, 3) := by decide +kernel
theorem dX5_judge_18 : decode cX5_judge 18 = .ok (.invokevirtual 201, 3) := by decide +kernel
theorem dX5_judge_21 : decode cX5_judge 21 = .ok (.bipush (-6), 2) := by decide +kernel
theorem dX5_judge_23 : decode cX5_judge 23 = .ok (.if_icmp .eq 6, 3) := by decide +kernel
theorem dX5_judge_26 : decode cX5_judge 26 = .ok (.bipush (-5), 2) := by decide +kernel
theorem dX5_judge_28 : decode cX5_judge 28 = .ok (.ireturn, 1) := by decide +kernel
theorem dX5_judge_29 : decode cX5_judge 29 = .ok (.aload_n 0, 1) := by decide +kernel
theorem dX5_judge_30 : decode cX5_judge 30 = .ok (.iload_n 1, 1) := by decide +kernel
theorem dX5_judge_31 : decode cX5_judge 31 = .ok (.iload_n 2, 1) := by decide +kernel
theorem dX5_judge_32 : decode cX5_judge 32 = .ok (.invokevirtual 204, 3) := by decide +kernel
theorem dX5_judge_35 : decode cX5_judge 35 = .ok (.ireturn, 1) := by decide +kernel
theorem dX5_fits_0 : decode cX5_fits 0 = .ok (.aload_n 0, 1) := by decide +kernel
theorem dX5_fits_1 : decode cX5_fits 1 = .ok (.getfield 27, 3) := by decide +kernel
theorem dX5_fits_4 : decode cX5_fits 4 = .ok (.invokevirtual 201, 3) := by decide +kernel
theorem dX5_fits_7 : decode cX5_fits 7 = .ok (.bipush (-6), 2) := by decide +kernel
theorem dX5_fits_9 : decode cX5_fits 9 = .ok (.if_icmp .eq 6, 3) := by decide +kernel
theorem dX5_fits_12 : decode cX5_fits 12 = .ok (.bipush (-5), 2) := by decide +kernel
theorem dX5_fits_14 : decode cX5_fits 14 = .ok (.ireturn, 1) := by decide +kernel
theorem dX5_fits_15 : decode cX5_fits 15 = .ok (.iconst 0, 1) := by decide +kernel
theorem dX5_fits_16 : decode cX5_fits 16 = .ok (.istore_n 2, 1) := by decide +kernel
theorem dX5_fits_17 : decode cX5_fits 17 = .ok (.iconst 0, 1) := by decide +kernel
theorem dX5_fits_18 : decode cX5_fits 18 = .ok (.istore_n 3, 1) := by decide +kernel
theorem dX5_fits_19 : decode cX5_fits 19 = .ok (.iload_n 3, 1) := by decide +kernel
theorem dX5_fits_20 : decode cX5_fits 20 = .ok (.bipush 8, 2) := by decide +kernel
theorem dX5_fits_22 : decode cX5_fits 22 = .ok (.if_icmp .ge 68, 3) := by decide +kernel
theorem dX5_fits_25 : decode cX5_fits 25 = .ok (.iload_n 3, 1) := by decide +kernel
theorem dX5_fits_26 : decode cX5_fits 26 = .ok (.iconst 1, 1) := by decide +kernel
theorem dX5_fits_27 : decode cX5_fits 27 = .ok (.iadd, 1) := by decide +kernel
theorem dX5_fits_28 : decode cX5_fits 28 = .ok (.istore 4, 2) := by decide +kernel
theorem dX5_fits_30 : decode cX5_fits 30 = .ok (.iload 4, 2) := by decide +kernel
theorem dX5_fits_32 : decode cX5_fits 32 = .ok (.bipush 8, 2) := by decide +kernel
theorem dX5_fits_34 : decode cX5_fits 34 = .ok (.if_icmp .ge 50, 3) := by decide +kernel
theorem dX5_fits_37 : decode cX5_fits 37 = .ok (.aload_n 0, 1) := by decide +kernel
theorem dX5_fits_38 : decode cX5_fits 38 = .ok (.getfield 10, 3) := by decide +kernel
theorem dX5_fits_41 : decode cX5_fits 41 = .ok (.iload_n 3, 1) := by decide +kernel
theorem dX5_fits_42 : decode cX5_fits 42 = .ok (.iload 4, 2) := by decide +kernel
theorem dX5_fits_44 : decode cX5_fits 44 = .ok (.invokevirtual 96, 3) := by decide +kernel
theorem dX5_fits_47 : decode cX5_fits 47 = .ok (.ifCond .eq 31, 3) := by decide +kernel
theorem dX5_fits_50 : decode cX5_fits 50 = .ok (.aload_n 0, 1) := by decide +kernel
theorem dX5_fits_51 : decode cX5_fits 51 = .ok (.iload_n 3, 1) := by decide +kernel
theorem dX5_fits_52 : decode cX5_fits 52 = .ok (.iload 4, 2) := by decide +kernel
theorem dX5_fits_54 : decode cX5_fits 54 = .ok (.invokevirtual 204, 3) := by decide +kernel
theorem dX5_fits_57 : decode cX5_fits 57 = .ok (.bipush (-6), 2) := by decide +kernel
theorem dX5_fits_59 : decode cX5_fits 59 = .ok (.if_icmp .ne 19, 3) := by decide +kernel
theorem dX5_fits_62 : decode cX5_fits 62 = .ok (.iload_n 2, 1) := by decide +kernel
theorem dX5_fits_63 : decode cX5_fits 63 = .ok (.iload_n 1, 1) := by decide +kernel
theorem dX5_fits_64 : decode cX5_fits 64 = .ok (.if_icmp .ne 11, 3) := by decide +kernel
theorem dX5_fits_67 : decode cX5_fits 67 = .ok (.bipush 10, 2) := by decide +kernel
theorem dX5_fits_69 : decode cX5_fits 69 = .ok (.iload_n 3, 1) := by decide +kernel
theorem dX5_fits_70 : decode cX5_fits 70 = .ok (.imul, 1) := by decide +kernel
theorem dX5_fits_71 : decode cX5_fits 71 = .ok (.iload 4, 2) := by decide +kernel
theorem dX5_fits_73 : decode cX5_fits 73 = .ok (.iadd, 1) := by decide +kernel
theorem dX5_fits_74 : decode cX5_fits 74 = .ok (.ireturn, 1) := by decide +kernel
theorem dX5_fits_75 : decode cX5_fits 75 = .ok (.iinc 2 1, 3) := by decide +kernel
theorem dX5_fits_78 : decode cX5_fits 78 = .ok (.iinc 4 1, 3) := by decide +kernel
theorem dX5_fits_81 : decode cX5_fits 81 = .ok (.goto (-51), 3) := by decide +kernel
theorem dX5_fits_84 : decode cX5_fits 84 = .ok (.iinc 3 1, 3) := by decide +kernel
theorem dX5_fits_87 : decode cX5_fits 87 = .ok (.goto (-68), 3) := by decide +kernel
theorem dX5_fits_90 : decode cX5_fits 90 = .ok (.iload_n 1, 1) := by decide +kernel
theorem dX5_fits_91 : decode cX5_fits 91 = .ok (.iconst (-1), 1) := by decide +kernel
theorem dX5_fits_92 : decode cX5_fits 92 = .ok (.if_icmp .ne 7, 3) := by decide +kernel
theorem dX5_fits_95 : decode cX5_fits 95 = .ok (.iload_n 2, 1) := by decide +kernel
theorem dX5_fits_96 : decode cX5_fits 96 = .ok (.goto 5, 3) := by decide +kernel
theorem dX5_fits_99 : decode cX5_fits 99 = .ok (.bipush (-6), 2) := by decide +kernel
theorem dX5_fits_101 : decode cX5_fits 101 = .ok (.ireturn, 1) := by decide +kernel
theorem dX5_year_0 : decode cX5_year 0 = .ok (.iload_n 1, 1) := by decide +kernel
theorem dX5_year_1 : decode cX5_year 1 = .ok (.iconst 0, 1) := by decide +kernel
theorem dX5_year_2 : decode cX5_year 2 = .ok (.sipush 9999, 3) := by decide +kernel
theorem dX5_year_5 : decode cX5_year 5 = .ok (.invokestatic 56, 3) := by decide +kernel
theorem dX5_year_8 : decode cX5_year 8 = .ok (.ifCond .eq 31, 3) := by decide +kernel
theorem dX5_year_11 : decode cX5_year 11 = .ok (.iload_n 2, 1) := by decide +kernel
theorem dX5_year_12 : decode cX5_year 12 = .ok (.iconst 1, 1) := by decide +kernel
theorem dX5_year_13 : decode cX5_year 13 = .ok (.bipush 99, 2) := by decide +kernel
theorem dX5_year_15 : decode cX5_year 15 = .ok (.invokestatic 56, 3) := by decide +kernel
theorem dX5_year_18 : decode cX5_year 18 = .ok (.ifCond .eq 21, 3) := by decide +kernel
theorem dX5_year_21 : decode cX5_year 21 = .ok (.iload_n 3, 1) := by decide +kernel
theorem dX5_year_22 : decode cX5_year 22 = .ok (.invokestatic 140, 3) := by decide +kernel
theorem dX5_year_25 : decode cX5_year 25 = .ok (.ifCond .eq 14, 3) := by decide +kernel
theorem dX5_year_28 : decode cX5_year 28 = .ok (.iload 4, 2) := by decide +kernel
theorem dX5_year_30 : decode cX5_year 30 = .ok (.iconst (-1), 1) := by decide +kernel
theorem dX5_year_31 : decode cX5_year 31 = .ok (.bipush 8, 2) := by decide +kernel
theorem dX5_year_33 : decode cX5_year 33 = .ok (.invokestatic 56, 3) := by decide +kernel
theorem dX5_year_36 : decode cX5_year 36 = .ok (.ifCond .ne 6, 3) := by decide +kernel
theorem dX5_year_39 : decode cX5_year 39 = .ok (.bipush (-2), 2) := by decide +kernel
theorem dX5_year_41 : decode cX5_year 41 = .ok (.ireturn, 1) := by decide +kernel
theorem dX5_year_42 : decode cX5_year 42 = .ok (.aload_n 0, 1) := by decide +kernel
theorem dX5_year_43 : decode cX5_year 43 = .ok (.iload_n 3, 1) := by decide +kernel
theorem dX5_year_44 : decode cX5_year 44 = .ok (.invokevirtual 149, 3) := by decide +kernel
theorem dX5_year_47 : decode cX5_year 47 = .ok (.aload_n 0, 1) := by decide +kernel
theorem dX5_year_48 : decode cX5_year 48 = .ok (.getfield 48, 3) := by decide +kernel
theorem dX5_year_51 : decode cX5_year 51 = .ok (.invokevirtual 162, 3) := by decide +kernel
theorem dX5_year_54 : decode cX5_year 54 = .ok (.iconst 0, 1) := by decide +kernel
theorem dX5_year_55 : decode cX5_year 55 = .ok (.istore 5, 2) := by decide +kernel
theorem dX5_year_57 : decode cX5_year 57 = .ok (.iconst 0, 1) := by decide +kernel
theorem dX5_year_58 : decode cX5_year 58 = .ok (.istore 6, 2) := by decide +kernel
theorem dX5_year_60 : decode cX5_year 60 = .ok (.iload_n 1, 1) := by decide +kernel
theorem dX5_year_61 : decode cX5_year 61 = .ok (.istore 7, 2) := by decide +kernel
theorem dX5_year_63 : decode cX5_year 63 = .ok (.iconst 0, 1) := by decide +kernel
theorem dX5_year_64 : decode cX5_year 64 = .ok (.istore 8, 2) := by decide +kernel
theorem dX5_year_66 : decode cX5_year 66 = .ok (.iload 8, 2) := by decide +kernel
theorem dX5_year_68 : decode cX5_year 68 = .ok (.iload_n 2, 1) := by decide +kernel
theorem dX5_year_69 : decode cX5_year 69 = .ok (.if_icmp .ge 113, 3) := by decide +kernel
theorem dX5_year_72 : decode cX5_year 72 = .ok (.bipush 75, 2) := by decide +kernel
theorem dX5_year_74 : decode cX5_year 74 = .ok (.iload 7, 2) := by decide +kernel
theorem dX5_year_76 : decode cX5_year 76 = .ok (.imul, 1) := by decide +kernel
theorem dX5_year_77 : decode cX5_year 77 = .ok (.bipush 74, 2) := by decide +kernel
theorem dX5_year_79 : decode cX5_year 79 = .ok (.iadd, 1) := by decide +kernel
theorem dX5_year_80 : decode cX5_year 80 = .ok (.ldc 207, 2) := by decide +kernel
theorem dX5_year_82 : decode cX5_year 82 = .ok (.irem, 1) := by decide +kernel
theorem dX5_year_83 : decode cX5_year 83 = .ok (.istore 7, 2) := by decide +kernel
theorem dX5_year_85 : decode cX5_year 85 = .ok (.iload 7, 2) := by decide +kernel
theorem dX5_year_87 : decode cX5_year 87 = .ok (.bipush 8, 2) := by decide +kernel
theorem dX5_year_89 : decode cX5_year 89 = .ok (.irem, 1) := by decide +kernel
theorem dX5_year_90 : decode cX5_year 90 = .ok (.istore 9, 2) := by decide +kernel
theorem dX5_year_92 : decode cX5_year 92 = .ok (.iload 7, 2) := by decide +kernel
theorem dX5_year_94 : decode cX5_year 94 = .ok (.bipush 8, 2) := by decide +kernel
theorem dX5_year_96 : decode cX5_year 96 = .ok (.idiv, 1) := by decide +kernel
theorem dX5_year_97 : decode cX5_year 97 = .ok (.bipush 8, 2) := by decide +kernel
theorem dX5_year_99 : decode cX5_year 99 = .ok (.irem, 1) := by decide +kernel
theorem dX5_year_100 : decode cX5_year 100 = .ok (.istore 10, 2) := by decide +kernel
theorem dX5_year_102 : decode cX5_year 102 = .ok (.aload_n 0, 1) := by decide +kernel
theorem dX5_year_103 : decode cX5_year 103 = .ok (.getfield 10, 3) := by decide +kernel
theorem dX5_year_106 : decode cX5_year 106 = .ok (.iload 9, 2) := by decide +kernel
theorem dX5_year_108 : decode cX5_year 108 = .ok (.iload 10, 2) := by decide +kernel
theorem dX5_year_110 : decode cX5_year 110 = .ok (.invokevirtual 96, 3) := by decide +kernel
theorem dX5_year_113 : decode cX5_year 113 = .ok (.ifCond .eq 63, 3) := by decide +kernel
theorem dX5_year_116 : decode cX5_year 116 = .ok (.aload_n 0, 1) := by decide +kernel
theorem dX5_year_117 : decode cX5_year 117 = .ok (.getfield 52, 3) := by decide +kernel
theorem dX5_year_120 : decode cX5_year 120 = .ok (.bipush 8, 2) := by decide +kernel
theorem dX5_year_122 : decode cX5_year 122 = .ok (.iload 9, 2) := by decide +kernel
theorem dX5_year_124 : decode cX5_year 124 = .ok (.imul, 1) := by decide +kernel
theorem dX5_year_125 : decode cX5_year 125 = .ok (.iload 10, 2) := by decide +kernel
theorem dX5_year_127 : decode cX5_year 127 = .ok (.iadd, 1) := by decide +kernel
theorem dX5_year_128 : decode cX5_year 128 = .ok (.iaload, 1) := by decide +kernel
theorem dX5_year_129 : decode cX5_year 129 = .ok (.istore 11, 2) := by decide +kernel
theorem dX5_year_131 : decode cX5_year 131 = .ok (.iinc 5 1, 3) := by decide +kernel
theorem dX5_year_134 : decode cX5_year 134 = .ok (.iload 6, 2) := by decide +kernel
theorem dX5_year_136 : decode cX5_year 136 = .ok (.iload 11, 2) := by decide +kernel
theorem dX5_year_138 : decode cX5_year 138 = .ok (.bipush (-6), 2) := by decide +kernel
theorem dX5_year_140 : decode cX5_year 140 = .ok (.if_icmp .eq 21, 3) := by decide +kernel
theorem dX5_year_143 : decode cX5_year 143 = .ok (.iload 9, 2) := by decide +kernel
theorem dX5_year_145 : decode cX5_year 145 = .ok (.iload 4, 2) := by decide +kernel
theorem dX5_year_147 : decode cX5_year 147 = .ok (.if_icmp .eq 10, 3) := by decide +kernel
theorem dX5_year_150 : decode cX5_year 150 = .ok (.iload 10, 2) := by decide +kernel
theorem dX5_year_152 : decode cX5_year 152 = .ok (.iload 4, 2) := by decide +kernel
theorem dX5_year_154 : decode cX5_year 154 = .ok (.if_icmp .ne 7, 3) := by decide +kernel
theorem dX5_year_157 : decode cX5_year 157 = .ok (.iconst 1, 1) := by decide +kernel
theorem dX5_year_158 : decode cX5_year 158 = .ok (.goto 4, 3) := by decide +kernel
theorem dX5_year_161 : decode cX5_year 161 = .ok (.iconst 0, 1) := by decide +kernel
theorem dX5_year_162 : decode cX5_year 162 = .ok (.iadd, 1) := by decide +kernel
theorem dX5_year_163 : decode cX5_year 163 = .ok (.istore 6, 2) := by decide +kernel
theorem dX5_year_165 : decode cX5_year 165 = .ok (.aload_n 0, 1) := by decide +kernel
theorem dX5_year_166 : decode cX5_year 166 = .ok (.getfield 48, 3) := by decide +kernel
theorem dX5_year_169 : decode cX5_year 169 = .ok (.iload 8, 2) := by decide +kernel
theorem dX5_year_171 : decode cX5_year 171 = .ok (.iload 11, 2) := by decide +kernel
theorem dX5_year_173 : decode cX5_year 173 = .ok (.invokevirtual 171, 3) := by decide +kernel
theorem dX5_year_176 : decode cX5_year 176 = .ok (.iinc 8 1, 3) := by decide +kernel
theorem dX5_year_179 : decode cX5_year 179 = .ok (.goto (-113), 3) := by decide +kernel
theorem dX5_year_182 : decode cX5_year 182 = .ok (.iload 4, 2) := by decide +kernel
theorem dX5_year_184 : decode cX5_year 184 = .ok (.iconst (-1), 1) := by decide +kernel
theorem dX5_year_185 : decode cX5_year 185 = .ok (.if_icmp .ne 6, 3) := by decide +kernel
theorem dX5_year_188 : decode cX5_year 188 = .ok (.iload 5, 2) := by decide +kernel
theorem dX5_year_190 : decode cX5_year 190 = .ok (.ireturn, 1) := by decide +kernel
theorem dX5_year_191 : decode cX5_year 191 = .ok (.iload 4, 2) := by decide +kernel
theorem dX5_year_193 : decode cX5_year 193 = .ok (.bipush 8, 2) := by decide +kernel
theorem dX5_year_195 : decode cX5_year 195 = .ok (.if_icmp .ne 13, 3) := by decide +kernel
theorem dX5_year_198 : decode cX5_year 198 = .ok (.aload_n 0, 1) := by decide +kernel
theorem dX5_year_199 : decode cX5_year 199 = .ok (.getfield 48, 3) := by decide +kernel
theorem dX5_year_202 : decode cX5_year 202 = .ok (.getfield 208, 3) := by decide +kernel
theorem dX5_year_205 : decode cX5_year 205 = .ok (.goto 5, 3) := by decide +kernel
theorem dX5_year_208 : decode cX5_year 208 = .ok (.iload 6, 2) := by decide +kernel
theorem dX5_year_210 : decode cX5_year 210 = .ok (.ireturn, 1) := by decide +kernel
theorem dX5_image_0 : decode cX5_image 0 = .ok (.iload_n 1, 1) := by decide +kernel
theorem dX5_image_1 : decode cX5_image 1 = .ok (.iconst 0, 1) := by decide +kernel
theorem dX5_image_2 : decode cX5_image 2 = .ok (.iconst 1, 1) := by decide +kernel
theorem dX5_image_3 : decode cX5_image 3 = .ok (.invokestatic 56, 3) := by decide +kernel
theorem dX5_image_6 : decode cX5_image 6 = .ok (.ifCond .ne 6, 3) := by decide +kernel
theorem dX5_image_9 : decode cX5_image 9 = .ok (.bipush (-2), 2) := by decide +kernel
theorem dX5_image_11 : decode cX5_image 11 = .ok (.ireturn, 1) := by decide +kernel
theorem dX5_image_12 : decode cX5_image 12 = .ok (.aload_n 0, 1) := by decide +kernel
theorem dX5_image_13 : decode cX5_image 13 = .ok (.getfield 16, 3) := by decide +kernel
theorem dX5_image_16 : decode cX5_image 16 = .ok (.iload_n 1, 1) := by decide +kernel
theorem dX5_image_17 : decode cX5_image 17 = .ok (.aaload, 1) := by decide +kernel
theorem dX5_image_18 : decode cX5_image 18 = .ok (.aload_n 0, 1) := by decide +kernel
theorem dX5_image_19 : decode cX5_image 19 = .ok (.getfield 10, 3) := by decide +kernel
theorem dX5_image_22 : decode cX5_image 22 = .ok (.invokevirtual 210, 3) := by decide +kernel
theorem dX5_image_25 : decode cX5_image 25 = .ok (.aload_n 0, 1) := by decide +kernel
theorem dX5_image_26 : decode cX5_image 26 = .ok (.getfield 20, 3) := by decide +kernel
theorem dX5_image_29 : decode cX5_image 29 = .ok (.iload_n 1, 1) := by decide +kernel
theorem dX5_image_30 : decode cX5_image 30 = .ok (.iconst 1, 1) := by decide +kernel
theorem dX5_image_31 : decode cX5_image 31 = .ok (.bastore, 1) := by decide +kernel
theorem dX5_image_32 : decode cX5_image 32 = .ok (.iconst 1, 1) := by decide +kernel
theorem dX5_image_33 : decode cX5_image 33 = .ok (.ireturn, 1) := by decide +kernel
theorem dX5_restore_0 : decode cX5_restore 0 = .ok (.iload_n 1, 1) := by decide +kernel
theorem dX5_restore_1 : decode cX5_restore 1 = .ok (.iconst 0, 1) := by decide +kernel
theorem dX5_restore_2 : decode cX5_restore 2 = .ok (.iconst 1, 1) := by decide +kernel
theorem dX5_restore_3 : decode cX5_restore 3 = .ok (.invokestatic 56, 3) := by decide +kernel
theorem dX5_restore_6 : decode cX5_restore 6 = .ok (.ifCond .ne 6, 3) := by decide +kernel
theorem dX5_restore_9 : decode cX5_restore 9 = .ok (.bipush (-2), 2) := by decide +kernel
theorem dX5_restore_11 : decode cX5_restore 11 = .ok (.ireturn, 1) := by decide +kernel
theorem dX5_restore_12 : decode cX5_restore 12 = .ok (.aload_n 0, 1) := by decide +kernel
theorem dX5_restore_13 : decode cX5_restore 13 = .ok (.getfield 20, 3) := by decide +kernel
theorem dX5_restore_16 : decode cX5_restore 16 = .ok (.iload_n 1, 1) := by decide +kernel
theorem dX5_restore_17 : decode cX5_restore 17 = .ok (.baload, 1) := by decide +kernel
theorem dX5_restore_18 : decode cX5_restore 18 = .ok (.ifCond .ne 6, 3) := by decide +kernel
theorem dX5_restore_21 : decode cX5_restore 21 = .ok (.bipush (-3), 2) := by decide +kernel
theorem dX5_restore_23 : decode cX5_restore 23 = .ok (.ireturn, 1) := by decide +kernel
theorem dX5_restore_24 : decode cX5_restore 24 = .ok (.aload_n 0, 1) := by decide +kernel
theorem dX5_restore_25 : decode cX5_restore 25 = .ok (.getfield 10, 3) := by decide +kernel
theorem dX5_restore_28 : decode cX5_restore 28 = .ok (.aload_n 0, 1) := by decide +kernel
theorem dX5_restore_29 : decode cX5_restore 29 = .ok (.getfield 16, 3) := by decide +kernel
theorem dX5_restore_32 : decode cX5_restore 32 = .ok (.iload_n 1, 1) := by decide +kernel
theorem dX5_restore_33 : decode cX5_restore 33 = .ok (.aaload, 1) := by decide +kernel
theorem dX5_restore_34 : decode cX5_restore 34 = .ok (.invokevirtual 210, 3) := by decide +kernel
theorem dX5_restore_37 : decode cX5_restore 37 = .ok (.iconst 1, 1) := by decide +kernel
theorem dX5_restore_38 : decode cX5_restore 38 = .ok (.ireturn, 1) := by decide +kernel
theorem dX5_told_0 : decode cX5_told 0 = .ok (.iload_n 1, 1) := by decide +kernel
theorem dX5_told_1 : decode cX5_told 1 = .ok (.tableswitch 75 0 4 #[35, 43, 51, 59, 67], 35) := by decide +kernel
theorem dX5_told_36 : decode cX5_told 36 = .ok (.aload_n 0, 1) := by decide +kernel
theorem dX5_told_37 : decode cX5_told 37 = .ok (.getfield 27, 3) := by decide +kernel
theorem dX5_told_40 : decode cX5_told 40 = .ok (.getfield 196, 3) := by decide +kernel
theorem dX5_told_43 : decode cX5_told 43 = .ok (.ireturn, 1) := by decide +kernel
theorem dX5_told_44 : decode cX5_told 44 = .ok (.aload_n 0, 1) := by decide +kernel
theorem dX5_told_45 : decode cX5_told 45 = .ok (.getfield 10, 3) := by decide +kernel
theorem dX5_told_48 : decode cX5_told 48 = .ok (.invokevirtual 214, 3) := by decide +kernel
theorem dX5_told_51 : decode cX5_told 51 = .ok (.ireturn, 1) := by decide +kernel
theorem dX5_told_52 : decode cX5_told 52 = .ok (.aload_n 0, 1) := by decide +kernel
theorem dX5_told_53 : decode cX5_told 53 = .ok (.getfield 10, 3) := by decide +kernel
theorem dX5_told_56 : decode cX5_told 56 = .ok (.getfield 90, 3) := by decide +kernel
theorem dX5_told_59 : decode cX5_told 59 = .ok (.ireturn, 1) := by decide +kernel
theorem dX5_told_60 : decode cX5_told 60 = .ok (.aload_n 0, 1) := by decide +kernel
theorem dX5_told_61 : decode cX5_told 61 = .ok (.getfield 10, 3) := by decide +kernel
theorem dX5_told_64 : decode cX5_told 64 = .ok (.getfield 86, 3) := by decide +kernel
theorem dX5_told_67 : decode cX5_told 67 = .ok (.ireturn, 1) := by decide +kernel
theorem dX5_told_68 : decode cX5_told 68 = .ok (.aload_n 0, 1) := by decide +kernel
theorem dX5_told_69 : decode cX5_told 69 = .ok (.getfield 10, 3) := by decide +kernel
theorem dX5_told_72 : decode cX5_told 72 = .ok (.getfield 93, 3) := by decide +kernel
theorem dX5_told_75 : decode cX5_told 75 = .ok (.ireturn, 1) := by decide +kernel
theorem dX5_told_76 : decode cX5_told 76 = .ok (.aload_n 0, 1) := by decide +kernel
theorem dX5_told_77 : decode cX5_told 77 = .ok (.iload_n 1, 1) := by decide +kernel
theorem dX5_told_78 : decode cX5_told 78 = .ok (.bipush 10, 2) := by decide +kernel
theorem dX5_told_80 : decode cX5_told 80 = .ok (.idiv, 1) := by decide +kernel
theorem dX5_told_81 : decode cX5_told 81 = .ok (.iconst 1, 1) := by decide +kernel
theorem dX5_told_82 : decode cX5_told 82 = .ok (.isub, 1) := by decide +kernel
theorem dX5_told_83 : decode cX5_told 83 = .ok (.iload_n 1, 1) := by decide +kernel
theorem dX5_told_84 : decode cX5_told 84 = .ok (.bipush 10, 2) := by decide +kernel
theorem dX5_told_86 : decode cX5_told 86 = .ok (.irem, 1) := by decide +kernel
theorem dX5_told_87 : decode cX5_told 87 = .ok (.invokevirtual 217, 3) := by decide +kernel
theorem dX5_told_90 : decode cX5_told 90 = .ok (.ireturn, 1) := by decide +kernel
theorem dX5_toldOfPerson_0 : decode cX5_toldOfPerson 0 = .ok (.aload_n 0, 1) := by decide +kernel
theorem dX5_toldOfPerson_1 : decode cX5_toldOfPerson 1 = .ok (.getfield 10, 3) := by decide +kernel
theorem dX5_toldOfPerson_4 : decode cX5_toldOfPerson 4 = .ok (.iload_n 1, 1) := by decide +kernel
theorem dX5_toldOfPerson_5 : decode cX5_toldOfPerson 5 = .ok (.invokevirtual 68, 3) := by decide +kernel
theorem dX5_toldOfPerson_8 : decode cX5_toldOfPerson 8 = .ok (.ifCond .ne 6, 3) := by decide +kernel
theorem dX5_toldOfPerson_11 : decode cX5_toldOfPerson 11 = .ok (.bipush (-2), 2) := by decide +kernel
theorem dX5_toldOfPerson_13 : decode cX5_toldOfPerson 13 = .ok (.ireturn, 1) := by decide +kernel
theorem dX5_toldOfPerson_14 : decode cX5_toldOfPerson 14 = .ok (.iload_n 2, 1) := by decide +kernel
theorem dX5_toldOfPerson_15 : decode cX5_toldOfPerson 15 = .ok (.tableswitch 55 0 2 #[25, 35, 45], 25) := by decide +kernel
theorem dX5_toldOfPerson_40 : decode cX5_toldOfPerson 40 = .ok (.aload_n 0, 1) := by decide +kernel
theorem dX5_toldOfPerson_41 : decode cX5_toldOfPerson 41 = .ok (.getfield 10, 3) := by decide +kernel
theorem dX5_toldOfPerson_44 : decode cX5_toldOfPerson 44 = .ok (.getfield 146, 3) := by decide +kernel
theorem dX5_toldOfPerson_47 : decode cX5_toldOfPerson 47 = .ok (.iload_n 1, 1) := by decide +kernel
theorem dX5_toldOfPerson_48 : decode cX5_toldOfPerson 48 = .ok (.iaload, 1) := by decide +kernel
theorem dX5_toldOfPerson_49 : decode cX5_toldOfPerson 49 = .ok (.ireturn, 1) := by decide +kernel
theorem dX5_toldOfPerson_50 : decode cX5_toldOfPerson 50 = .ok (.aload_n 0, 1) := by decide +kernel
theorem dX5_toldOfPerson_51 : decode cX5_toldOfPerson 51 = .ok (.getfield 10, 3) := by decide +kernel
theorem dX5_toldOfPerson_54 : decode cX5_toldOfPerson 54 = .ok (.getfield 143, 3) := by decide +kernel
theorem dX5_toldOfPerson_57 : decode cX5_toldOfPerson 57 = .ok (.iload_n 1, 1) := by decide +kernel
theorem dX5_toldOfPerson_58 : decode cX5_toldOfPerson 58 = .ok (.iaload, 1) := by decide +kernel
theorem dX5_toldOfPerson_59 : decode cX5_toldOfPerson 59 = .ok (.ireturn, 1) := by decide +kernel
theorem dX5_toldOfPerson_60 : decode cX5_toldOfPerson 60 = .ok (.aload_n 0, 1) := by decide +kernel
theorem dX5_toldOfPerson_61 : decode cX5_toldOfPerson 61 = .ok (.getfield 10, 3) := by decide +kernel
theorem dX5_toldOfPerson_64 : decode cX5_toldOfPerson 64 = .ok (.getfield 181, 3) := by decide +kernel
theorem dX5_toldOfPerson_67 : decode cX5_toldOfPerson 67 = .ok (.iload_n 1, 1) := by decide +kernel
theorem dX5_toldOfPerson_68 : decode cX5_toldOfPerson 68 = .ok (.iaload, 1) := by decide +kernel
theorem dX5_toldOfPerson_69 : decode cX5_toldOfPerson 69 = .ok (.ireturn, 1) := by decide +kernel
theorem dX5_toldOfPerson_70 : decode cX5_toldOfPerson 70 = .ok (.bipush (-2), 2) := by decide +kernel
theorem dX5_toldOfPerson_72 : decode cX5_toldOfPerson 72 = .ok (.ireturn, 1) := by decide +kernel
theorem dX5_isWithin_0 : decode cX5_isWithin 0 = .ok (.iload_n 0, 1) := by decide +kernel
theorem dX5_isWithin_1 : decode cX5_isWithin 1 = .ok (.iload_n 1, 1) := by decide +kernel
theorem dX5_isWithin_2 : decode cX5_isWithin 2 = .ok (.if_icmp .lt 12, 3) := by decide +kernel
theorem dX5_isWithin_5 : decode cX5_isWithin 5 = .ok (.iload_n 0, 1) := by decide +kernel
theorem dX5_isWithin_6 : decode cX5_isWithin 6 = .ok (.iload_n 2, 1) := by decide +kernel
theorem dX5_isWithin_7 : decode cX5_isWithin 7 = .ok (.if_icmp .gt 7, 3) := by decide +kernel
theorem dX5_isWithin_10 : decode cX5_isWithin 10 = .ok (.iconst 1, 1) := by decide +kernel
theorem dX5_isWithin_11 : decode cX5_isWithin 11 = .ok (.goto 4, 3) := by decide +kernel
theorem dX5_isWithin_14 : decode cX5_isWithin 14 = .ok (.iconst 0, 1) := by decide +kernel
theorem dX5_isWithin_15 : decode cX5_isWithin 15 = .ok (.ireturn, 1) := by decide +kernel
theorem dX5_isFeet_0 : decode cX5_isFeet 0 = .ok (.iload_n 0, 1) := by decide +kernel
theorem dX5_isFeet_1 : decode cX5_isFeet 1 = .ok (.iconst 1, 1) := by decide +kernel
theorem dX5_isFeet_2 : decode cX5_isFeet 2 = .ok (.sipush 999, 3) := by decide +kernel
theorem dX5_isFeet_5 : decode cX5_isFeet 5 = .ok (.invokestatic 56, 3) := by decide +kernel
theorem dX5_isFeet_8 : decode cX5_isFeet 8 = .ok (.ireturn, 1) := by decide +kernel
theorem dX5_refusalOfRace_0 : decode cX5_refusalOfRace 0 = .ok (.aload_n 0, 1) := by decide +kernel
theorem dX5_refusalOfRace_1 : decode cX5_refusalOfRace 1 = .ok (.getfield 10, 3) := by decide +kernel
theorem dX5_refusalOfRace_4 : decode cX5_refusalOfRace 4 = .ok (.iload_n 1, 1) := by decide +kernel
theorem dX5_refusalOfRace_5 : decode cX5_refusalOfRace 5 = .ok (.iload_n 2, 1) := by decide +kernel
theorem dX5_refusalOfRace_6 : decode cX5_refusalOfRace 6 = .ok (.invokevirtual 96, 3) := by decide +kernel
theorem dX5_refusalOfRace_9 : decode cX5_refusalOfRace 9 = .ok (.ifCond .ne 5, 3) := by decide +kernel
theorem dX5_refusalOfRace_12 : decode cX5_refusalOfRace 12 = .ok (.iconst (-1), 1) := by decide +kernel
theorem dX5_refusalOfRace_13 : decode cX5_refusalOfRace 13 = .ok (.ireturn, 1) := by decide +kernel
theorem dX5_refusalOfRace_14 : decode cX5_refusalOfRace 14 = .ok (.iload_n 3, 1) := by decide +kernel
theorem dX5_refusalOfRace_15 : decode cX5_refusalOfRace 15 = .ok (.invokestatic 140, 3) := by decide +kernel
theorem dX5_refusalOfRace_18 : decode cX5_refusalOfRace 18 = .ok (.ifCond .eq 17, 3) := by decide +kernel
theorem dX5_refusalOfRace_21 : decode cX5_refusalOfRace 21 = .ok (.iload 4, 2) := by decide +kernel
theorem dX5_refusalOfRace_23 : decode cX5_refusalOfRace 23 = .ok (.iconst 0, 1) := by decide +kernel
theorem dX5_refusalOfRace_24 : decode cX5_refusalOfRace 24 = .ok (.iconst 1, 1) := by decide +kernel
theorem dX5_refusalOfRace_25 : decode cX5_refusalOfRace 25 = .ok (.invokestatic 56, 3) := by decide +kernel
theorem dX5_refusalOfRace_28 : decode cX5_refusalOfRace 28 = .ok (.ifCond .eq 7, 3) := by decide +kernel
theorem dX5_refusalOfRace_31 : decode cX5_refusalOfRace 31 = .ok (.iconst 0, 1) := by decide +kernel
theorem dX5_refusalOfRace_32 : decode cX5_refusalOfRace 32 = .ok (.goto 5, 3) := by decide +kernel
theorem dX5_refusalOfRace_35 : decode cX5_refusalOfRace 35 = .ok (.bipush (-2), 2) := by decide +kernel
theorem dX5_refusalOfRace_37 : decode cX5_refusalOfRace 37 = .ok (.ireturn, 1) := by decide +kernel
theorem dX5_timeTo_0 : decode cX5_timeTo 0 = .ok (.aload_n 0, 1) := by decide +kernel
theorem dX5_timeTo_1 : decode cX5_timeTo 1 = .ok (.getfield 34, 3) := by decide +kernel
theorem dX5_timeTo_4 : decode cX5_timeTo 4 = .ok (.aload_n 0, 1) := by decide +kernel
theorem dX5_timeTo_5 : decode cX5_timeTo 5 = .ok (.getfield 10, 3) := by decide +kernel
theorem dX5_timeTo_8 : decode cX5_timeTo 8 = .ok (.iload_n 1, 1) := by decide +kernel
theorem dX5_timeTo_9 : decode cX5_timeTo 9 = .ok (.iload_n 2, 1) := by decide +kernel
theorem dX5_timeTo_10 : decode cX5_timeTo 10 = .ok (.invokevirtual 100, 3) := by decide +kernel
theorem dX5_timeTo_13 : decode cX5_timeTo 13 = .ok (.aload_n 0, 1) := by decide +kernel
theorem dX5_timeTo_14 : decode cX5_timeTo 14 = .ok (.getfield 34, 3) := by decide +kernel
theorem dX5_timeTo_17 : decode cX5_timeTo 17 = .ok (.iload_n 3, 1) := by decide +kernel
theorem dX5_timeTo_18 : decode cX5_timeTo 18 = .ok (.iconst (-1), 1) := by decide +kernel
theorem dX5_timeTo_19 : decode cX5_timeTo 19 = .ok (.invokevirtual 168, 3) := by decide +kernel
theorem dX5_timeTo_22 : decode cX5_timeTo 22 = .ok (.ireturn, 1) := by decide +kernel
theorem dX5_timeAllPairs_0 : decode cX5_timeAllPairs 0 = .ok (.iconst 0, 1) := by decide +kernel
theorem dX5_timeAllPairs_1 : decode cX5_timeAllPairs 1 = .ok (.istore_n 2, 1) := by decide +kernel
theorem dX5_timeAllPairs_2 : decode cX5_timeAllPairs 2 = .ok (.iload_n 2, 1) := by decide +kernel
theorem dX5_timeAllPairs_3 : decode cX5_timeAllPairs 3 = .ok (.bipush 8, 2) := by decide +kernel
theorem dX5_timeAllPairs_5 : decode cX5_timeAllPairs 5 = .ok (.if_icmp .ge 77, 3) := by decide +kernel
theorem dX5_timeAllPairs_8 : decode cX5_timeAllPairs 8 = .ok (.iload_n 2, 1) := by decide +kernel
theorem dX5_timeAllPairs_9 : decode cX5_timeAllPairs 9 = .ok (.iconst 1, 1) := by decide +kernel
theorem dX5_timeAllPairs_10 : decode cX5_timeAllPairs 10 = .ok (.iadd, 1) := by decide +kernel
theorem dX5_timeAllPairs_11 : decode cX5_timeAllPairs 11 = .ok (.istore_n 3, 1) := by decide +kernel
theorem dX5_timeAllPairs_12 : decode cX5_timeAllPairs 12 = .ok (.iload_n 3, 1) := by decide +kernel
theorem dX5_timeAllPairs_13 : decode cX5_timeAllPairs 13 = .ok (.bipush 8, 2) := by decide +kernel
theorem dX5_timeAllPairs_15 : decode cX5_timeAllPairs 15 = .ok (.if_icmp .ge 61, 3) := by decide +kernel
theorem dX5_timeAllPairs_18 : decode cX5_timeAllPairs 18 = .ok (.aload_n 0, 1) := by decide +kernel
theorem dX5_timeAllPairs_19 : decode cX5_timeAllPairs 19 = .ok (.getfield 10, 3) := by decide +kernel
theorem dX5_timeAllPairs_22 : decode cX5_timeAllPairs 22 = .ok (.iload_n 2, 1) := by decide +kernel
theorem dX5_timeAllPairs_23 : decode cX5_timeAllPairs 23 = .ok (.iload_n 3, 1) := by decide +kernel
theorem dX5_timeAllPairs_24 : decode cX5_timeAllPairs 24 = .ok (.invokevirtual 96, 3) := by decide +kernel
theorem dX5_timeAllPairs_27 : decode cX5_timeAllPairs 27 = .ok (.ifCond .eq 13, 3) := by decide +kernel
theorem dX5_timeAllPairs_30 : decode cX5_timeAllPairs 30 = .ok (.aload_n 0, 1) := by decide +kernel
theorem dX5_timeAllPairs_31 : decode cX5_timeAllPairs 31 = .ok (.iload_n 2, 1) := by decide +kernel
theorem dX5_timeAllPairs_32 : decode cX5_timeAllPairs 32 = .ok (.iload_n 3, 1) := by decide +kernel
theorem dX5_timeAllPairs_33 : decode cX5_timeAllPairs 33 = .ok (.iload_n 1, 1) := by decide +kernel
theorem dX5_timeAllPairs_34 : decode cX5_timeAllPairs 34 = .ok (.invokevirtual 126, 3) := by decide +kernel
theorem dX5_timeAllPairs_37 : decode cX5_timeAllPairs 37 = .ok (.goto 5, 3) := by decide +kernel
theorem dX5_timeAllPairs_40 : decode cX5_timeAllPairs 40 = .ok (.bipush (-6), 2) := by decide +kernel
theorem dX5_timeAllPairs_42 : decode cX5_timeAllPairs 42 = .ok (.istore 4, 2) := by decide +kernel
theorem dX5_timeAllPairs_44 : decode cX5_timeAllPairs 44 = .ok (.aload_n 0, 1) := by decide +kernel
theorem dX5_timeAllPairs_45 : decode cX5_timeAllPairs 45 = .ok (.getfield 52, 3) := by decide +kernel
theorem dX5_timeAllPairs_48 : decode cX5_timeAllPairs 48 = .ok (.bipush 8, 2) := by decide +kernel
theorem dX5_timeAllPairs_50 : decode cX5_timeAllPairs 50 = .ok (.iload_n 2, 1) := by decide +kernel
theorem dX5_timeAllPairs_51 : decode cX5_timeAllPairs 51 = .ok (.imul, 1) := by decide +kernel
theorem dX5_timeAllPairs_52 : decode cX5_timeAllPairs 52 = .ok (.iload_n 3, 1) := by decide +kernel
theorem dX5_timeAllPairs_53 : decode cX5_timeAllPairs 53 = .ok (.iadd, 1) := by decide +kernel
theorem dX5_timeAllPairs_54 : decode cX5_timeAllPairs 54 = .ok (.iload 4, 2) := by decide +kernel
theorem dX5_timeAllPairs_56 : decode cX5_timeAllPairs 56 = .ok (.iastore, 1) := by decide +kernel
theorem dX5_timeAllPairs_57 : decode cX5_timeAllPairs 57 = .ok (.aload_n 0, 1) := by decide +kernel
theorem dX5_timeAllPairs_58 : decode cX5_timeAllPairs 58 = .ok (.getfield 52, 3) := by decide +kernel
theorem dX5_timeAllPairs_61 : decode cX5_timeAllPairs 61 = .ok (.bipush 8, 2) := by decide +kernel
theorem dX5_timeAllPairs_63 : decode cX5_timeAllPairs 63 = .ok (.iload_n 3, 1) := by decide +kernel
theorem dX5_timeAllPairs_64 : decode cX5_timeAllPairs 64 = .ok (.imul, 1) := by decide +kernel
theorem dX5_timeAllPairs_65 : decode cX5_timeAllPairs 65 = .ok (.iload_n 2, 1) := by decide +kernel
theorem dX5_timeAllPairs_66 : decode cX5_timeAllPairs 66 = .ok (.iadd, 1) := by decide +kernel
theorem dX5_timeAllPairs_67 : decode cX5_timeAllPairs 67 = .ok (.iload 4, 2) := by decide +kernel
theorem dX5_timeAllPairs_69 : decode cX5_timeAllPairs 69 = .ok (.iastore, 1) := by decide +kernel
theorem dX5_timeAllPairs_70 : decode cX5_timeAllPairs 70 = .ok (.iinc 3 1, 3) := by decide +kernel
theorem dX5_timeAllPairs_73 : decode cX5_timeAllPairs 73 = .ok (.goto (-61), 3) := by decide +kernel
theorem dX5_timeAllPairs_76 : decode cX5_timeAllPairs 76 = .ok (.iinc 2 1, 3) := by decide +kernel
theorem dX5_timeAllPairs_79 : decode cX5_timeAllPairs 79 = .ok (.goto (-77), 3) := by decide +kernel
theorem dX5_timeAllPairs_82 : decode cX5_timeAllPairs 82 = .ok (.return_, 1) := by decide +kernel
theorem dX5_firstUnlike_0 : decode cX5_firstUnlike 0 = .ok (.aload_n 0, 1) := by decide +kernel
theorem dX5_firstUnlike_1 : decode cX5_firstUnlike 1 = .ok (.getfield 34, 3) := by decide +kernel
theorem dX5_firstUnlike_4 : decode cX5_firstUnlike 4 = .ok (.aload_n 0, 1) := by decide +kernel
theorem dX5_firstUnlike_5 : decode cX5_firstUnlike 5 = .ok (.getfield 10, 3) := by decide +kernel
theorem dX5_firstUnlike_8 : decode cX5_firstUnlike 8 = .ok (.iload_n 1, 1) := by decide +kernel
theorem dX5_firstUnlike_9 : decode cX5_firstUnlike 9 = .ok (.iload_n 2, 1) := by decide +kernel
theorem dX5_firstUnlike_10 : decode cX5_firstUnlike 10 = .ok (.invokevirtual 100, 3) := by decide +kernel
theorem dX5_firstUnlike_13 : decode cX5_firstUnlike 13 = .ok (.iconst 0, 1) := by decide +kernel
theorem dX5_firstUnlike_14 : decode cX5_firstUnlike 14 = .ok (.istore_n 3, 1) := by decide +kernel
theorem dX5_firstUnlike_15 : decode cX5_firstUnlike 15 = .ok (.iload_n 3, 1) := by decide +kernel
theorem dX5_firstUnlike_16 : decode cX5_firstUnlike 16 = .ok (.aload_n 0, 1) := by decide +kernel
theorem dX5_firstUnlike_17 : decode cX5_firstUnlike 17 = .ok (.getfield 27, 3) := by decide +kernel
theorem dX5_firstUnlike_20 : decode cX5_firstUnlike 20 = .ok (.getfield 196, 3) := by decide +kernel
theorem dX5_firstUnlike_23 : decode cX5_firstUnlike 23 = .ok (.if_icmp .ge 36, 3) := by decide +kernel
theorem dX5_firstUnlike_26 : decode cX5_firstUnlike 26 = .ok (.aload_n 0, 1) := by decide +kernel
theorem dX5_firstUnlike_27 : decode cX5_firstUnlike 27 = .ok (.getfield 34, 3) := by decide +kernel
theorem dX5_firstUnlike_30 : decode cX5_firstUnlike 30 = .ok (.invokevirtual 104, 3) := by decide +kernel
theorem dX5_firstUnlike_33 : decode cX5_firstUnlike 33 = .ok (.aload_n 0, 1) := by decide +kernel
theorem dX5_firstUnlike_34 : decode cX5_firstUnlike 34 = .ok (.getfield 27, 3) := by decide +kernel
theorem dX5_firstUnlike_37 : decode cX5_firstUnlike 37 = .ok (.iload_n 3, 1) := by decide +kernel
theorem dX5_firstUnlike_38 : decode cX5_firstUnlike 38 = .ok (.aload_n 0, 1) := by decide +kernel
theorem dX5_firstUnlike_39 : decode cX5_firstUnlike 39 = .ok (.getfield 34, 3) := by decide +kernel
theorem dX5_firstUnlike_42 : decode cX5_firstUnlike 42 = .ok (.getfield 220, 3) := by decide +kernel
theorem dX5_firstUnlike_45 : decode cX5_firstUnlike 45 = .ok (.invokevirtual 224, 3) := by decide +kernel
theorem dX5_firstUnlike_48 : decode cX5_firstUnlike 48 = .ok (.ifCond .ne 5, 3) := by decide +kernel
theorem dX5_firstUnlike_51 : decode cX5_firstUnlike 51 = .ok (.iload_n 3, 1) := by decide +kernel
theorem dX5_firstUnlike_52 : decode cX5_firstUnlike 52 = .ok (.ireturn, 1) := by decide +kernel
theorem dX5_firstUnlike_53 : decode cX5_firstUnlike 53 = .ok (.iinc 3 1, 3) := by decide +kernel
theorem dX5_firstUnlike_56 : decode cX5_firstUnlike 56 = .ok (.goto (-41), 3) := by decide +kernel
theorem dX5_firstUnlike_59 : decode cX5_firstUnlike 59 = .ok (.bipush (-6), 2) := by decide +kernel
theorem dX5_firstUnlike_61 : decode cX5_firstUnlike 61 = .ok (.ireturn, 1) := by decide +kernel
theorem dX6_init_0 : decode cX6_init 0 = .ok (.aload_n 0, 1) := by decide +kernel
theorem dX6_init_1 : decode cX6_init 1 = .ok (.invokespecial 1, 3) := by decide +kernel
theorem dX6_init_4 : decode cX6_init 4 = .ok (.aload_n 0, 1) := by decide +kernel
theorem dX6_init_5 : decode cX6_init 5 = .ok (.bipush 8, 2) := by decide +kernel
theorem dX6_init_7 : decode cX6_init 7 = .ok (.newarray .int, 2) := by decide +kernel
theorem dX6_init_9 : decode cX6_init 9 = .ok (.putfield 7, 3) := by decide +kernel
theorem dX6_init_12 : decode cX6_init 12 = .ok (.aload_n 0, 1) := by decide +kernel
theorem dX6_init_13 : decode cX6_init 13 = .ok (.bipush 8, 2) := by decide +kernel
theorem dX6_init_15 : decode cX6_init 15 = .ok (.newarray .int, 2) := by decide +kernel
theorem dX6_init_17 : decode cX6_init 17 = .ok (.putfield 13, 3) := by decide +kernel
theorem dX6_init_20 : decode cX6_init 20 = .ok (.aload_n 0, 1) := by decide +kernel
theorem dX6_init_21 : decode cX6_init 21 = .ok (.bipush 8, 2) := by decide +kernel
theorem dX6_init_23 : decode cX6_init 23 = .ok (.newarray .int, 2) := by decide +kernel
theorem dX6_init_25 : decode cX6_init 25 = .ok (.putfield 16, 3) := by decide +kernel
theorem dX6_init_28 : decode cX6_init 28 = .ok (.aload_n 0, 1) := by decide +kernel
theorem dX6_init_29 : decode cX6_init 29 = .ok (.bipush 64, 2) := by decide +kernel
theorem dX6_init_31 : decode cX6_init 31 = .ok (.newarray .int, 2) := by decide +kernel
theorem dX6_init_33 : decode cX6_init 33 = .ok (.putfield 19, 3) := by decide +kernel
theorem dX6_init_36 : decode cX6_init 36 = .ok (.aload_n 0, 1) := by decide +kernel
theorem dX6_init_37 : decode cX6_init 37 = .ok (.bipush 8, 2) := by decide +kernel
theorem dX6_init_39 : decode cX6_init 39 = .ok (.newarray .int, 2) := by decide +kernel
theorem dX6_init_41 : decode cX6_init 41 = .ok (.putfield 22, 3) := by decide +kernel
theorem dX6_init_44 : decode cX6_init 44 = .ok (.aload_n 0, 1) := by decide +kernel
theorem dX6_init_45 : decode cX6_init 45 = .ok (.bipush 8, 2) := by decide +kernel
theorem dX6_init_47 : decode cX6_init 47 = .ok (.newarray .int, 2) := by decide +kernel
theorem dX6_init_49 : decode cX6_init 49 = .ok (.putfield 25, 3) := by decide +kernel
theorem dX6_init_52 : decode cX6_init 52 = .ok (.aload_n 0, 1) := by decide +kernel
theorem dX6_init_53 : decode cX6_init 53 = .ok (.bipush 40, 2) := by decide +kernel
theorem dX6_init_55 : decode cX6_init 55 = .ok (.newarray .int, 2) := by decide +kernel
theorem dX6_init_57 : decode cX6_init 57 = .ok (.putfield 28, 3) := by decide +kernel
theorem dX6_init_60 : decode cX6_init 60 = .ok (.aload_n 0, 1) := by decide +kernel
theorem dX6_init_61 : decode cX6_init 61 = .ok (.bipush 80, 2) := by decide +kernel
theorem dX6_init_63 : decode cX6_init 63 = .ok (.newarray .int, 2) := by decide +kernel
theorem dX6_init_65 : decode cX6_init 65 = .ok (.putfield 31, 3) := by decide +kernel
theorem dX6_init_68 : decode cX6_init 68 = .ok (.aload_n 0, 1) := by decide +kernel
theorem dX6_init_69 : decode cX6_init 69 = .ok (.iconst 2, 1) := by decide +kernel
theorem dX6_init_70 : decode cX6_init 70 = .ok (.newarray .boolean, 2) := by decide +kernel
theorem dX6_init_72 : decode cX6_init 72 = .ok (.putfield 34, 3) := by decide +kernel
theorem dX6_init_75 : decode cX6_init 75 = .ok (.aload_n 0, 1) := by decide +kernel
theorem dX6_init_76 : decode cX6_init 76 = .ok (.iconst 2, 1) := by decide +kernel
theorem dX6_init_77 : decode cX6_init 77 = .ok (.putfield 38, 3) := by decide +kernel
theorem dX6_init_80 : decode cX6_init 80 = .ok (.aload_n 0, 1) := by decide +kernel
theorem dX6_init_81 : decode cX6_init 81 = .ok (.iconst 5, 1) := by decide +kernel
theorem dX6_init_82 : decode cX6_init 82 = .ok (.putfield 42, 3) := by decide +kernel
theorem dX6_init_85 : decode cX6_init 85 = .ok (.aload_n 0, 1) := by decide +kernel
theorem dX6_init_86 : decode cX6_init 86 = .ok (.bipush 90, 2) := by decide +kernel
theorem dX6_init_88 : decode cX6_init 88 = .ok (.putfield 45, 3) := by decide +kernel
theorem dX6_init_91 : decode cX6_init 91 = .ok (.return_, 1) := by decide +kernel
theorem dX6_in_0 : decode cX6_in 0 = .ok (.lload_n 0, 1) := by decide +kernel
theorem dX6_in_1 : decode cX6_in 1 = .ok (.lload_n 2, 1) := by decide +kernel
theorem dX6_in_2 : decode cX6_in 2 = .ok (.lcmp, 1) := by decide +kernel
theorem dX6_in_3 : decode cX6_in 3 = .ok (.ifCond .lt 14, 3) := by decide +kernel
theorem dX6_in_6 : decode cX6_in 6 = .ok (.lload_n 0, 1) := by decide +kernel
theorem dX6_in_7 : decode cX6_in 7 = .ok (.lload 4, 2) := by decide +kernel
theorem dX6_in_9 : decode cX6_in 9 = .ok (.lcmp, 1) := by decide +kernel
theorem dX6_in_10 : decode cX6_in 10 = .ok (.ifCond .gt 7, 3) := by decide +kernel
theorem dX6_in_13 : decode cX6_in 13 = .ok (.iconst 1, 1) := by decide +kernel
theorem dX6_in_14 : decode cX6_in 14 = .ok (.goto 4, 3) := by decide +kernel
theorem dX6_in_17 : decode cX6_in 17 = .ok (.iconst 0, 1) := by decide +kernel
theorem dX6_in_18 : decode cX6_in 18 = .ok (.ireturn, 1) := by decide +kernel
theorem dX6_ones_0 : decode cX6_ones 0 = .ok (.iconst 0, 1) := by decide +kernel
theorem dX6_ones_1 : decode cX6_ones 1 = .ok (.istore_n 1, 1) := by decide +kernel
theorem dX6_ones_2 : decode cX6_ones 2 = .ok (.iload_n 0, 1) := by decide +kernel
theorem dX6_ones_3 : decode cX6_ones 3 = .ok (.istore_n 2, 1) := by decide +kernel
theorem dX6_ones_4 : decode cX6_ones 4 = .ok (.iload_n 2, 1) := by decide +kernel
theorem dX6_ones_5 : decode cX6_ones 5 = .ok (.ifCond .eq 15, 3) := by decide +kernel
theorem dX6_ones_8 : decode cX6_ones 8 = .ok (.iinc 1 1, 3) := by decide +kernel
theorem dX6_ones_11 : decode cX6_ones 11 = .ok (.iload_n 2, 1) := by decide +kernel
theorem dX6_ones_12 : decode cX6_ones 12 = .ok (.iload_n 2, 1) := by decide +kernel
theorem dX6_ones_13 : decode cX6_ones 13 = .ok (.iconst 1, 1) := by decide +kernel
theorem dX6_ones_14 : decode cX6_ones 14 = .ok (.isub, 1) := by decide +kernel
theorem dX6_ones_15 : decode cX6_ones 15 = .ok (.iand, 1) := by decide +kernel
theorem dX6_ones_16 : decode cX6_ones 16 = .ok (.istore_n 2, 1) := by decide +kernel
theorem dX6_ones_17 : decode cX6_ones 17 = .ok (.goto (-13), 3) := by decide +kernel
theorem dX6_ones_20 : decode cX6_ones 20 = .ok (.iload_n 1, 1) := by decide +kernel
theorem dX6_ones_21 : decode cX6_ones 21 = .ok (.ireturn, 1) := by decide +kernel
theorem dX6_runs_0 : decode cX6_runs 0 = .ok (.iload_n 1, 1) := by decide +kernel
theorem dX6_runs_1 : decode cX6_runs 1 = .ok (.i2l, 1) := by decide +kernel
theorem dX6_runs_2 : decode cX6_runs 2 = .ok (.lconst 0, 1) := by decide +kernel
theorem dX6_runs_3 : decode cX6_runs 3 = .ok (.ldc2_w 48, 3) := by decide +kernel
theorem dX6_runs_6 : decode cX6_runs 6 = .ok (.invokestatic 50, 3) := by decide +kernel
theorem dX6_runs_9 : decode cX6_runs 9 = .ok (.ifCond .eq 19, 3) := by decide +kernel
theorem dX6_runs_12 : decode cX6_runs 12 = .ok (.aload_n 0, 1) := by decide +kernel
theorem dX6_runs_13 : decode cX6_runs 13 = .ok (.getfield 54, 3) := by decide +kernel
theorem dX6_runs_16 : decode cX6_runs 16 = .ok (.iload_n 1, 1) := by decide +kernel
theorem dX6_runs_17 : decode cX6_runs 17 = .ok (.ishr, 1) := by decide +kernel
theorem dX6_runs_18 : decode cX6_runs 18 = .ok (.iconst 1, 1) := by decide +kernel
theorem dX6_runs_19 : decode cX6_runs 19 = .ok (.iand, 1) := by decide +kernel
theorem dX6_runs_20 : decode cX6_runs 20 = .ok (.iconst 1, 1) := by decide +kernel
theorem dX6_runs_21 : decode cX6_runs 21 = .ok (.if_icmp .ne 7, 3) := by decide +kernel
theorem dX6_runs_24 : decode cX6_runs 24 = .ok (.iconst 1, 1) := by decide +kernel
theorem dX6_runs_25 : decode cX6_runs 25 = .ok (.goto 4, 3) := by decide +kernel
theorem dX6_runs_28 : decode cX6_runs 28 = .ok (.iconst 0, 1) := by decide +kernel
theorem dX6_runs_29 : decode cX6_runs 29 = .ok (.ireturn, 1) := by decide +kernel
theorem dX6_run_0 : decode cX6_run 0 = .ok (.iload_n 1, 1) := by decide +kernel
theorem dX6_run_1 : decode cX6_run 1 = .ok (.i2l, 1) := by decide +kernel
theorem dX6_run_2 : decode cX6_run 2 = .ok (.lconst 0, 1) := by decide +kernel
theorem dX6_run_3 : decode cX6_run 3 = .ok (.ldc2_w 48, 3) := by decide +kernel
theorem dX6_run_6 : decode cX6_run 6 = .ok (.invokestatic 50, 3) := by decide +kernel
theorem dX6_run_9 : decode cX6_run 9 = .ok (.ifCond .ne 5, 3) := by decide +kernel
theorem dX6_run_12 : decode cX6_run 12 = .ok (.iconst (-1), 1) := by decide +kernel
theorem dX6_run_13 : decode cX6_run 13 = .ok (.ireturn, 1) := by decide +kernel
theorem dX6_run_14 : decode cX6_run 14 = .ok (.iload_n 2, 1) := by decide +kernel
theorem dX6_run_15 : decode cX6_run 15 = .ok (.i2l, 1) := by decide +kernel
theorem dX6_run_16 : decode cX6_run 16 = .ok (.ldc2_w 57, 3) := by decide +kernel
theorem dX6_run_19 : decode cX6_run 19 = .ok (.ldc2_w 59, 3) := by decide +kernel
theorem dX6_run_22 : decode cX6_run 22 = .ok (.invokestatic 50, 3) := by decide +kernel
theorem dX6_run_25 : decode cX6_run 25 = .ok (.ifCond .eq 28, 3) := by decide +kernel
theorem dX6_run_28 : decode cX6_run 28 = .ok (.iload_n 3, 1) := by decide +kernel
theorem dX6_run_29 : decode cX6_run 29 = .ok (.i2l, 1) := by decide +kernel
theorem dX6_run_30 : decode cX6_run 30 = .ok (.lconst 1, 1) := by decide +kernel
theorem dX6_run_31 : decode cX6_run 31 = .ok (.ldc2_w 61, 3) := by decide +kernel
theorem dX6_run_34 : decode cX6_run 34 = .ok (.invokestatic 50, 3) := by decide +kernel
theorem dX6_run_37 : decode cX6_run 37 = .ok (.ifCond .eq 16, 3) := by decide +kernel
theorem dX6_run_40 : decode cX6_run 40 = .ok (.iload 4, 2) := by decide +kernel
theorem dX6_run_42 : decode cX6_run 42 = .ok (.i2l, 1) := by decide +kernel
theorem dX6_run_43 : decode cX6_run 43 = .ok (.lconst 0, 1) := by decide +kernel
theorem dX6_run_44 : decode cX6_run 44 = .ok (.ldc2_w 57, 3) := by decide +kernel
theorem dX6_run_47 : decode cX6_run 47 = .ok (.invokestatic 50, 3) := by decide +kernel
theorem dX6_run_50 : decode cX6_run 50 = .ok (.ifCond .ne 6, 3) := by decide +kernel
theorem dX6_run_53 : decode cX6_run 53 = .ok (.bipush (-2), 2) := by decide +kernel
theorem dX6_run_55 : decode cX6_run 55 = .ok (.ireturn, 1) := by decide +kernel
theorem dX6_run_56 : decode cX6_run 56 = .ok (.aload_n 0, 1) := by decide +kernel
theorem dX6_run_57 : decode cX6_run 57 = .ok (.getfield 7, 3) := by decide +kernel
theorem dX6_run_60 : decode cX6_run 60 = .ok (.iload_n 1, 1) := by decide +kernel
theorem dX6_run_61 : decode cX6_run 61 = .ok (.iload_n 2, 1) := by decide +kernel
theorem dX6_run_62 : decode cX6_run 62 = .ok (.iastore, 1) := by decide +kernel
theorem dX6_run_63 : decode cX6_run 63 = .ok (.aload_n 0, 1) := by decide +kernel
theorem dX6_run_64 : decode cX6_run 64 = .ok (.getfield 13, 3) := by decide +kernel
theorem dX6_run_67 : decode cX6_run 67 = .ok (.iload_n 1, 1) := by decide +kernel
theorem dX6_run_68 : decode cX6_run 68 = .ok (.iload_n 3, 1) := by decide +kernel
theorem dX6_run_69 : decode cX6_run 69 = .ok (.iastore, 1) := by decide +kernel
theorem dX6_run_70 : decode cX6_run 70 = .ok (.aload_n 0, 1) := by decide +kernel
theorem dX6_run_71 : decode cX6_run 71 = .ok (.getfield 16, 3) := by decide +kernel
theorem dX6_run_74 : decode cX6_run 74 = .ok (.iload_n 1, 1) := by decide +kernel
theorem dX6_run_75 : decode cX6_run 75 = .ok (.iload 4, 2) := by decide +kernel
theorem dX6_run_77 : decode cX6_run 77 = .ok (.iastore, 1) := by decide +kernel
theorem dX6_run_78 : decode cX6_run 78 = .ok (.aload_n 0, 1) := by decide +kernel
theorem dX6_run_79 : decode cX6_run 79 = .ok (.dup, 1) := by decide +kernel
theorem dX6_run_80 : decode cX6_run 80 = .ok (.getfield 54, 3) := by decide +kernel
theorem dX6_run_83 : decode cX6_run 83 = .ok (.iconst 1, 1) := by decide +kernel
theorem dX6_run_84 : decode cX6_run 84 = .ok (.iload_n 1, 1) := by decide +kernel
theorem dX6_run_85 : decode cX6_run 85 = .ok (.ishl, 1) := by decide +kernel
theorem dX6_run_86 : decode cX6_run 86 = .ok (.ior, 1) := by decide +kernel
theorem dX6_run_87 : decode cX6_run 87 = .ok (.putfield 54, 3) := by decide +kernel
theorem dX6_run_90 : decode cX6_run 90 = .ok (.aload_n 0, 1) := by decide +kernel
theorem dX6_run_91 : decode cX6_run 91 = .ok (.getfield 54, 3) := by decide +kernel
theorem dX6_run_94 : decode cX6_run 94 = .ok (.invokestatic 63, 3) := by decide +kernel
theorem dX6_run_97 : decode cX6_run 97 = .ok (.ireturn, 1) := by decide +kernel
theorem dX6_rest_0 : decode cX6_rest 0 = .ok (.aload_n 0, 1) := by decide +kernel
theorem dX6_rest_1 : decode cX6_rest 1 = .ok (.iload_n 1, 1) := by decide +kernel
theorem dX6_rest_2 : decode cX6_rest 2 = .ok (.invokevirtual 67, 3) := by decide +kernel
theorem dX6_rest_5 : decode cX6_rest 5 = .ok (.ifCond .ne 5, 3) := by decide +kernel
theorem dX6_rest_8 : decode cX6_rest 8 = .ok (.iconst (-1), 1) := by decide +kernel
theorem dX6_rest_9 : decode cX6_rest 9 = .ok (.ireturn, 1) := by decide +kernel
theorem dX6_rest_10 : decode cX6_rest 10 = .ok (.aload_n 0, 1) := by decide +kernel
theorem dX6_rest_11 : decode cX6_rest 11 = .ok (.dup, 1) := by decide +kernel
theorem dX6_rest_12 : decode cX6_rest 12 = .ok (.getfield 54, 3) := by decide +kernel
theorem dX6_rest_15 : decode cX6_rest 15 = .ok (.iconst 1, 1) := by decide +kernel
theorem dX6_rest_16 : decode cX6_rest 16 = .ok (.iload_n 1, 1) := by decide +kernel
theorem dX6_rest_17 : decode cX6_rest 17 = .ok (.ishl, 1) := by decide +kernel
theorem dX6_rest_18 : decode cX6_rest 18 = .ok (.iconst (-1), 1) := by decide +kernel
theorem dX6_rest_19 : decode cX6_rest 19 = .ok (.ixor, 1) := by decide +kernel
theorem dX6_rest_20 : decode cX6_rest 20 = .ok (.iand, 1) := by decide +kernel
theorem dX6_rest_21 : decode cX6_rest 21 = .ok (.putfield 54, 3) := by decide +kernel
theorem dX6_rest_24 : decode cX6_rest 24 = .ok (.aload_n 0, 1) := by decide +kernel
theorem dX6_rest_25 : decode cX6_rest 25 = .ok (.getfield 54, 3) := by decide +kernel
theorem dX6_rest_28 : decode cX6_rest 28 = .ok (.invokestatic 63, 3) := by decide +kernel
theorem dX6_rest_31 : decode cX6_rest 31 = .ok (.ireturn, 1) := by decide +kernel
theorem dX6_set_0 : decode cX6_set 0 = .ok (.iload_n 1, 1) := by decide +kernel
theorem dX6_set_1 : decode cX6_set 1 = .ok (.ifCond .ne 32, 3) := by decide +kernel
theorem dX6_set_4 : decode cX6_set 4 = .ok (.iload_n 2, 1) := by decide +kernel
theorem dX6_set_5 : decode cX6_set 5 = .ok (.i2l, 1) := by decide +kernel
theorem dX6_set_6 : decode cX6_set 6 = .ok (.lconst 0, 1) := by decide +kernel
theorem dX6_set_7 : decode cX6_set 7 = .ok (.aload_n 0, 1) := by decide +kernel
theorem dX6_set_8 : decode cX6_set 8 = .ok (.getfield 42, 3) := by decide +kernel
theorem dX6_set_11 : decode cX6_set 11 = .ok (.bipush 9, 2) := by decide +kernel
theorem dX6_set_13 : decode cX6_set 13 = .ok (.if_icmp .ge 11, 3) := by decide +kernel
theorem dX6_set_16 : decode cX6_set 16 = .ok (.aload_n 0, 1) := by decide +kernel
theorem dX6_set_17 : decode cX6_set 17 = .ok (.getfield 42, 3) := by decide +kernel
theorem dX6_set_20 : decode cX6_set 20 = .ok (.i2l, 1) := by decide +kernel
theorem dX6_set_21 : decode cX6_set 21 = .ok (.goto 6, 3) := by decide +kernel
theorem dX6_set_24 : decode cX6_set 24 = .ok (.ldc2_w 61, 3) := by decide +kernel
theorem dX6_set_27 : decode cX6_set 27 = .ok (.invokestatic 50, 3) := by decide +kernel
theorem dX6_set_30 : decode cX6_set 30 = .ok (.goto 46, 3) := by decide +kernel
theorem dX6_set_33 : decode cX6_set 33 = .ok (.iload_n 1, 1) := by decide +kernel
theorem dX6_set_34 : decode cX6_set 34 = .ok (.iconst 1, 1) := by decide +kernel
theorem dX6_set_35 : decode cX6_set 35 = .ok (.if_icmp .ne 19, 3) := by decide +kernel
theorem dX6_set_38 : decode cX6_set 38 = .ok (.iload_n 2, 1) := by decide +kernel
theorem dX6_set_39 : decode cX6_set 39 = .ok (.i2l, 1) := by decide +kernel
theorem dX6_set_40 : decode cX6_set 40 = .ok (.aload_n 0, 1) := by decide +kernel
theorem dX6_set_41 : decode cX6_set 41 = .ok (.getfield 38, 3) := by decide +kernel
theorem dX6_set_44 : decode cX6_set 44 = .ok (.i2l, 1) := by decide +kernel
theorem dX6_set_45 : decode cX6_set 45 = .ok (.ldc2_w 59, 3) := by decide +kernel
theorem dX6_set_48 : decode cX6_set 48 = .ok (.invokestatic 50, 3) := by decide +kernel
theorem dX6_set_51 : decode cX6_set 51 = .ok (.goto 25, 3) := by decide +kernel
theorem dX6_set_54 : decode cX6_set 54 = .ok (.iload_n 1, 1) := by decide +kernel
theorem dX6_set_55 : decode cX6_set 55 = .ok (.iconst 2, 1) := by decide +kernel
theorem dX6_set_56 : decode cX6_set 56 = .ok (.if_icmp .ne 19, 3) := by decide +kernel
theorem dX6_set_59 : decode cX6_set 59 = .ok (.iload_n 2, 1) := by decide +kernel
theorem dX6_set_60 : decode cX6_set 60 = .ok (.i2l, 1) := by decide +kernel
theorem dX6_set_61 : decode cX6_set 61 = .ok (.lconst 0, 1) := by decide +kernel
theorem dX6_set_62 : decode cX6_set 62 = .ok (.ldc2_w 71, 3) := by decide +kernel
theorem dX6_set_65 : decode cX6_set 65 = .ok (.invokestatic 50, 3) := by decide +kernel
theorem dX6_set_68 : decode cX6_set 68 = .ok (.ifCond .eq 7, 3) := by decide +kernel
theorem dX6_set_71 : decode cX6_set 71 = .ok (.iconst 1, 1) := by decide +kernel
theorem dX6_set_72 : decode cX6_set 72 = .ok (.goto 4, 3) := by decide +kernel
theorem dX6_set_75 : decode cX6_set 75 = .ok (.iconst 0, 1) := by decide +kernel
theorem dX6_set_76 : decode cX6_set 76 = .ok (.istore_n 3, 1) := by decide +kernel
theorem dX6_set_77 : decode cX6_set 77 = .ok (.iload_n 3, 1) := by decide +kernel
theorem dX6_set_78 : decode cX6_set 78 = .ok (.ifCond .ne 6, 3) := by decide +kernel
theorem dX6_set_81 : decode cX6_set 81 = .ok (.bipush (-2), 2) := by decide +kernel
theorem dX6_set_83 : decode cX6_set 83 = .ok (.ireturn, 1) := by decide +kernel
theorem dX6_set_84 : decode cX6_set 84 = .ok (.iload_n 1, 1) := by decide +kernel
theorem dX6_set_85 : decode cX6_set 85 = .ok (.ifCond .ne 10, 3) := by decide +kernel
theorem dX6_set_88 : decode cX6_set 88 = .ok (.aload_n 0, 1) := by decide +kernel
theorem dX6_set_89 : decode cX6_set 89 = .ok (.getfield 38, 3) := by decide +kernel
theorem dX6_set_92 : decode cX6_set 92 = .ok (.goto 19, 3) := by decide +kernel
theorem dX6_set_95 : decode cX6_set 95 = .ok (.iload_n 1, 1) := by decide +kernel
theorem dX6_set_96 : decode cX6_set 96 = .ok (.iconst 1, 1) := by decide +kernel
theorem dX6_set_97 : decode cX6_set 97 = .ok (.if_icmp .ne 10, 3) := by decide +kernel
theorem dX6_set_100 : decode cX6_set 100 = .ok (.aload_n 0, 1) := by decide +kernel
theorem dX6_set_101 : decode cX6_set 101 = .ok (.getfield 42, 3) := by decide +kernel
theorem dX6_set_104 : decode cX6_set 104 = .ok (.goto 7, 3) := by decide +kernel
theorem dX6_set_107 : decode cX6_set 107 = .ok (.aload_n 0, 1) := by decide +kernel
theorem dX6_set_108 : decode cX6_set 108 = .ok (.getfield 45, 3) := by decide +kernel
theorem dX6_set_111 : decode cX6_set 111 = .ok (.istore 4, 2) := by decide +kernel
theorem dX6_set_113 : decode cX6_set 113 = .ok (.aload_n 0, 1) := by decide +kernel
theorem dX6_set_114 : decode cX6_set 114 = .ok (.iload_n 1, 1) := by decide +kernel
theorem dX6_set_115 : decode cX6_set 115 = .ok (.ifCond .ne 7, 3) := by decide +kernel
theorem dX6_set_118 : decode cX6_set 118 = .ok (.iload_n 2, 1) := by decide +kernel
theorem dX6_set_119 : decode cX6_set 119 = .ok (.goto 7, 3) := by decide +kernel
theorem dX6_set_122 : decode cX6_set 122 = .ok (.aload_n 0, 1) := by decide +kernel
theorem dX6_set_123 : decode cX6_set 123 = .ok (.getfield 38, 3) := by decide +kernel
theorem dX6_set_126 : decode cX6_set 126 = .ok (.putfield 38, 3) := by decide +kernel
theorem dX6_set_129 : decode cX6_set 129 = .ok (.aload_n 0, 1) := by decide +kernel
theorem dX6_set_130 : decode cX6_set 130 = .ok (.iload_n 1, 1) := by decide +kernel
theorem dX6_set_131 : decode cX6_set 131 = .ok (.iconst 1, 1) := by decide +kernel
theorem dX6_set_132 : decode cX6_set 132 = .ok (.if_icmp .ne 7, 3) := by decide +kernel
theorem dX6_set_135 : decode cX6_set 135 = .ok (.iload_n 2, 1) := by decide +kernel
theorem dX6_set_136 : decode cX6_set 136 = .ok (.goto 7, 3) := by decide +kernel
theorem dX6_set_139 : decode cX6_set 139 = .ok (.aload_n 0, 1) := by decide +kernel
theorem dX6_set_140 : decode cX6_set 140 = .ok (.getfield 42, 3) := by decide +kernel
theorem dX6_set_143 : decode cX6_set 143 = .ok (.putfield 42, 3) := by decide +kernel
theorem dX6_set_146 : decode cX6_set 146 = .ok (.aload_n 0, 1) := by decide +kernel
theorem dX6_set_147 : decode cX6_set 147 = .ok (.iload_n 1, 1) := by decide +kernel
theorem dX6_set_148 : decode cX6_set 148 = .ok (.iconst 2, 1) := by decide +kernel
theorem dX6_set_149 : decode cX6_set 149 = .ok (.if_icmp .ne 7, 3) := by decide +kernel
theorem dX6_set_152 : decode cX6_set 152 = .ok (.iload_n 2, 1) := by decide +kernel
theorem dX6_set_153 : decode cX6_set 153 = .ok (.goto 7, 3) := by decide +kernel
theorem dX6_set_156 : decode cX6_set 156 = .ok (.aload_n 0, 1) := by decide +kernel
theorem dX6_set_157 : decode cX6_set 157 = .ok (.getfield 45, 3) := by decide +kernel
theorem dX6_set_160 : decode cX6_set 160 = .ok (.putfield 45, 3) := by decide +kernel
theorem dX6_set_163 : decode cX6_set 163 = .ok (.iload 4, 2) := by decide +kernel
theorem dX6_set_165 : decode cX6_set 165 = .ok (.ireturn, 1) := by decide +kernel
theorem dX6_isPair_0 : decode cX6_isPair 0 = .ok (.aload_n 0, 1) := by decide +kernel
theorem dX6_isPair_1 : decode cX6_isPair 1 = .ok (.iload_n 1, 1) := by decide +kernel
theorem dX6_isPair_2 : decode cX6_isPair 2 = .ok (.invokevirtual 67, 3) := by decide +kernel
theorem dX6_isPair_5 : decode cX6_isPair 5 = .ok (.ifCond .eq 20, 3) := by decide +kernel
theorem dX6_isPair_8 : decode cX6_isPair 8 = .ok (.aload_n 0, 1) := by decide +kernel
theorem dX6_isPair_9 : decode cX6_isPair 9 = .ok (.iload_n 2, 1) := by decide +kernel
theorem dX6_isPair_10 : decode cX6_isPair 10 = .ok (.invokevirtual 67, 3) := by decide +kernel
theorem dX6_isPair_13 : decode cX6_isPair 13 = .ok (.ifCond .eq 12, 3) := by decide +kernel
theorem dX6_isPair_16 : decode cX6_isPair 16 = .ok (.iload_n 1, 1) := by decide +kernel
theorem dX6_isPair_17 : decode cX6_isPair 17 = .ok (.iload_n 2, 1) := by decide +kernel
theorem dX6_isPair_18 : decode cX6_isPair 18 = .ok (.if_icmp .eq 7, 3) := by decide +kernel
theorem dX6_isPair_21 : decode cX6_isPair 21 = .ok (.iconst 1, 1) := by decide +kernel
theorem dX6_isPair_22 : decode cX6_isPair 22 = .ok (.goto 4, 3) := by decide +kernel
theorem dX6_isPair_25 : decode cX6_isPair 25 = .ok (.iconst 0, 1) := by decide +kernel
theorem dX6_isPair_26 : decode cX6_isPair 26 = .ok (.ireturn, 1) := by decide +kernel
theorem dX6_layPair_0 : decode cX6_layPair 0 = .ok (.aload_n 0, 1) := by decide +kernel
theorem dX6_layPair_1 : decode cX6_layPair 1 = .ok (.aload_n 0, 1) := by decide +kernel
theorem dX6_layPair_2 : decode cX6_layPair 2 = .ok (.getfield 7, 3) := by decide +kernel
theorem dX6_layPair_5 : decode cX6_layPair 5 = .ok (.iload_n 1, 1) := by decide +kernel
theorem dX6_layPair_6 : decode cX6_layPair 6 = .ok (.iaload, 1) := by decide +kernel
theorem dX6_layPair_7 : decode cX6_layPair 7 = .ok (.putfield 73, 3) := by decide +kernel
theorem dX6_layPair_10 : decode cX6_layPair 10 = .ok (.aload_n 0, 1) := by decide +kernel
theorem dX6_layPair_11 : decode cX6_layPair 11 = .ok (.aload_n 0, 1) := by decide +kernel
theorem dX6_layPair_12 : decode cX6_layPair 12 = .ok (.getfield 7, 3) := by decide +kernel
theorem dX6_layPair_15 : decode cX6_layPair 15 = .ok (.iload_n 2, 1) := by decide +kernel
theorem dX6_layPair_16 : decode cX6_layPair 16 = .ok (.iaload, 1) := by decide +kernel
theorem dX6_layPair_17 : decode cX6_layPair 17 = .ok (.putfield 76, 3) := by decide +kernel
theorem dX6_layPair_20 : decode cX6_layPair 20 = .ok (.aload_n 0, 1) := by decide +kernel
theorem dX6_layPair_21 : decode cX6_layPair 21 = .ok (.aload_n 0, 1) := by decide +kernel
theorem dX6_layPair_22 : decode cX6_layPair 22 = .ok (.getfield 16, 3) := by decide +kernel
theorem dX6_layPair_25 : decode cX6_layPair 25 = .ok (.iload_n 1, 1) := by decide +kernel
theorem dX6_layPair_26 : decode cX6_layPair 26 = .ok (.iaload, 1) := by decide +kernel
theorem dX6_layPair_27 : decode cX6_layPair 27 = .ok (.putfield 79, 3) := by decide +kernel
theorem dX6_layPair_30 : decode cX6_layPair 30 = .ok (.aload_n 0, 1) := by decide +kernel
theorem dX6_layPair_31 : decode cX6_layPair 31 = .ok (.aload_n 0, 1) := by decide +kernel
theorem dX6_layPair_32 : decode cX6_layPair 32 = .ok (.getfield 16, 3) := by decide +kernel
theorem dX6_layPair_35 : decode cX6_layPair 35 = .ok (.iload_n 2, 1) := by decide +kernel
theorem dX6_layPair_36 : decode cX6_layPair 36 = .ok (.iaload, 1) := by decide +kernel
theorem dX6_layPair_37 : decode cX6_layPair 37 = .ok (.putfield 82, 3) := by decide +kernel
theorem dX6_layPair_40 : decode cX6_layPair 40 = .ok (.aload_n 0, 1) := by decide +kernel
theorem dX6_layPair_41 : decode cX6_layPair 41 = .ok (.aload_n 0, 1) := by decide +kernel
theorem dX6_layPair_42 : decode cX6_layPair 42 = .ok (.getfield 13, 3) := by decide +kernel
theorem dX6_layPair_45 : decode cX6_layPair 45 = .ok (.iload_n 1, 1) := by decide +kernel
theorem dX6_layPair_46 : decode cX6_layPair 46 = .ok (.iaload, 1) := by decide +kernel
theorem dX6_layPair_47 : decode cX6_layPair 47 = .ok (.aload_n 0, 1) := by decide +kernel
theorem dX6_layPair_48 : decode cX6_layPair 48 = .ok (.getfield 13, 3) := by decide +kernel
theorem dX6_layPair_51 : decode cX6_layPair 51 = .ok (.iload_n 2, 1) := by decide +kernel
theorem dX6_layPair_52 : decode cX6_layPair 52 = .ok (.iaload, 1) := by decide +kernel
theorem dX6_layPair_53 : decode cX6_layPair 53 = .ok (.if_icmp .ge 12, 3) := by decide +kernel
theorem dX6_layPair_56 : decode cX6_layPair 56 = .ok (.aload_n 0, 1) := by decide +kernel
theorem dX6_layPair_57 : decode cX6_layPair 57 = .ok (.getfield 13, 3) := by decide +kernel
theorem dX6_layPair_60 : decode cX6_layPair 60 = .ok (.iload_n 1, 1) := by decide +kernel
theorem dX6_layPair_61 : decode cX6_layPair 61 = .ok (.iaload, 1) := by decide +kernel
theorem dX6_layPair_62 : decode cX6_layPair 62 = .ok (.goto 9, 3) := by decide +kernel
theorem dX6_layPair_65 : decode cX6_layPair 65 = .ok (.aload_n 0, 1) := by decide +kernel
theorem dX6_layPair_66 : decode cX6_layPair 66 = .ok (.getfield 13, 3) := by decide +kernel
theorem dX6_layPair_69 : decode cX6_layPair 69 = .ok (.iload_n 2, 1) := by decide +kernel
theorem dX6_layPair_70 : decode cX6_layPair 70 = .ok (.iaload, 1) := by decide +kernel
theorem dX6_layPair_71 : decode cX6_layPair 71 = .ok (.putfield 85, 3) := by decide +kernel
theorem dX6_layPair_74 : decode cX6_layPair 74 = .ok (.aload_n 0, 1) := by decide +kernel
theorem dX6_layPair_75 : decode cX6_layPair 75 = .ok (.sipush 1000, 3) := by decide +kernel
theorem dX6_layPair_78 : decode cX6_layPair 78 = .ok (.putfield 88, 3) := by decide +kernel
theorem dX6_layPair_81 : decode cX6_layPair 81 = .ok (.aload_n 0, 1) := by decide +kernel
theorem dX6_layPair_82 : decode cX6_layPair 82 = .ok (.aload_n 0, 1) := by decide +kernel
theorem dX6_layPair_83 : decode cX6_layPair 83 = .ok (.getfield 38, 3) := by decide +kernel
theorem dX6_layPair_86 : decode cX6_layPair 86 = .ok (.putfield 91, 3) := by decide +kernel
theorem dX6_layPair_89 : decode cX6_layPair 89 = .ok (.return_, 1) := by decide +kernel
theorem dX6_begin_0 : decode cX6_begin 0 = .ok (.aload_n 0, 1) := by decide +kernel
theorem dX6_begin_1 : decode cX6_begin 1 = .ok (.iconst 0, 1) := by decide +kernel
theorem dX6_begin_2 : decode cX6_begin 2 = .ok (.putfield 94, 3) := by decide +kernel
theorem dX6_begin_5 : decode cX6_begin 5 = .ok (.aload_n 0, 1) := by decide +kernel
theorem dX6_begin_6 : decode cX6_begin 6 = .ok (.iconst 0, 1) := by decide +kernel
theorem dX6_begin_7 : decode cX6_begin 7 = .ok (.putfield 97, 3) := by decide +kernel
theorem dX6_begin_10 : decode cX6_begin 10 = .ok (.aload_n 0, 1) := by decide +kernel
theorem dX6_begin_11 : decode cX6_begin 11 = .ok (.iconst 0, 1) := by decide +kernel
theorem dX6_begin_12 : decode cX6_begin 12 = .ok (.putfield 100, 3) := by decide +kernel
theorem dX6_begin_15 : decode cX6_begin 15 = .ok (.aload_n 0, 1) := by decide +kernel
theorem dX6_begin_16 : decode cX6_begin 16 = .ok (.iconst 0, 1) := by decide +kernel
theorem dX6_begin_17 : decode cX6_begin 17 = .ok (.putfield 103, 3) := by decide +kernel
theorem dX6_begin_20 : decode cX6_begin 20 = .ok (.aload_n 0, 1) := by decide +kernel
theorem dX6_begin_21 : decode cX6_begin 21 = .ok (.iconst 0, 1) := by decide +kernel
theorem dX6_begin_22 : decode cX6_begin 22 = .ok (.putfield 106, 3) := by decide +kernel
theorem dX6_begin_25 : decode cX6_begin 25 = .ok (.aload_n 0, 1) := by decide +kernel
theorem dX6_begin_26 : decode cX6_begin 26 = .ok (.iconst 0, 1) := by decide +kernel
theorem dX6_begin_27 : decode cX6_begin 27 = .ok (.putfield 109, 3) := by decide +kernel
theorem dX6_begin_30 : decode cX6_begin 30 = .ok (.return_, 1) := by decide +kernel
theorem dX6_quicker_0 : decode cX6_quicker 0 = .ok (.aload_n 0, 1) := by decide +kernel
theorem dX6_quicker_1 : decode cX6_quicker 1 = .ok (.getfield 109, 3) := by decide +kernel
theorem dX6_quicker_4 : decode cX6_quicker 4 = .ok (.aload_n 0, 1) := by decide +kernel
theorem dX6_quicker_5 : decode cX6_quicker 5 = .ok (.getfield 88, 3) := by decide +kernel
theorem dX6_quicker_8 : decode cX6_quicker 8 = .ok (.if_icmp .lt 14, 3) := by decide +kernel
theorem dX6_quicker_11 : decode cX6_quicker 11 = .ok (.iload_n 1, 1) := by decide +kernel
theorem dX6_quicker_12 : decode cX6_quicker 12 = .ok (.iconst 4, 1) := by decide +kernel
theorem dX6_quicker_13 : decode cX6_quicker 13 = .ok (.if_icmp .le 9, 3) := by decide +kernel
theorem dX6_quicker_16 : decode cX6_quicker 16 = .ok (.iload_n 1, 1) := by decide +kernel
theorem dX6_quicker_17 : decode cX6_quicker 17 = .ok (.iconst 1, 1) := by decide +kernel
theorem dX6_quicker_18 : decode cX6_quicker 18 = .ok (.isub, 1) := by decide +kernel
theorem dX6_quicker_19 : decode cX6_quicker 19 = .ok (.goto 4, 3) := by decide +kernel
theorem dX6_quicker_22 : decode cX6_quicker 22 = .ok (.iload_n 1, 1) := by decide +kernel
theorem dX6_quicker_23 : decode cX6_quicker 23 = .ok (.ireturn, 1) := by decide +kernel
theorem dX6_next_0 : decode cX6_next 0 = .ok (.iload_n 0, 1) := by decide +kernel
theorem dX6_next_1 : decode cX6_next 1 = .ok (.iload_n 2, 1) := by decide +kernel
theorem dX6_next_2 : decode cX6_next 2 = .ok (.iadd, 1) := by decide +kernel
theorem dX6_next_3 : decode cX6_next 3 = .ok (.iload_n 3, 1) := by decide +kernel
theorem dX6_next_4 : decode cX6_next 4 = .ok (.iload_n 1, 1) := by decide +kernel
theorem dX6_next_5 : decode cX6_next 5 = .ok (.iload_n 0, 1) := by decide +kernel
theorem dX6_next_6 : decode cX6_next 6 = .ok (.isub, 1) := by decide +kernel
theorem dX6_next_7 : decode cX6_next 7 = .ok (.imul, 1) := by decide +kernel
theorem dX6_next_8 : decode cX6_next 8 = .ok (.iconst 4, 1) := by decide +kernel
theorem dX6_next_9 : decode cX6_next 9 = .ok (.idiv, 1) := by decide +kernel
theorem dX6_next_10 : decode cX6_next 10 = .ok (.iadd, 1) := by decide +kernel
theorem dX6_next_11 : decode cX6_next 11 = .ok (.istore 4, 2) := by decide +kernel
theorem dX6_next_13 : decode cX6_next 13 = .ok (.iload 4, 2) := by decide +kernel
theorem dX6_next_15 : decode cX6_next 15 = .ok (.iload_n 0, 1) := by decide +kernel
theorem dX6_next_16 : decode cX6_next 16 = .ok (.if_icmp .le 8, 3) := by decide +kernel
theorem dX6_next_19 : decode cX6_next 19 = .ok (.iload 4, 2) := by decide +kernel
theorem dX6_next_21 : decode cX6_next 21 = .ok (.goto 6, 3) := by decide +kernel
theorem dX6_next_24 : decode cX6_next 24 = .ok (.iload_n 0, 1) := by decide +kernel
theorem dX6_next_25 : decode cX6_next 25 = .ok (.iconst 1, 1) := by decide +kernel
theorem dX6_next_26 : decode cX6_next 26 = .ok (.iadd, 1) := by decide +kernel
theorem dX6_next_27 : decode cX6_next 27 = .ok (.ireturn, 1) := by decide +kernel
theorem dX6_step_0 : decode cX6_step 0 = .ok (.aload_n 0, 1) := by decide +kernel
theorem dX6_step_1 : decode cX6_step 1 = .ok (.getfield 94, 3) := by decide +kernel
theorem dX6_step_4 : decode cX6_step 4 = .ok (.aload_n 0, 1) := by decide +kernel
theorem dX6_step_5 : decode cX6_step 5 = .ok (.getfield 97, 3) := by decide +kernel
theorem dX6_step_8 : decode cX6_step 8 = .ok (.aload_n 0, 1) := by decide +kernel
theorem dX6_step_9 : decode cX6_step 9 = .ok (.aload_n 0, 1) := by decide +kernel
theorem dX6_step_10 : decode cX6_step 10 = .ok (.getfield 73, 3) := by decide +kernel
theorem dX6_step_13 : decode cX6_step 13 = .ok (.invokevirtual 112, 3) := by decide +kernel
theorem dX6_step_16 : decode cX6_step 16 = .ok (.aload_n 0, 1) := by decide +kernel
theorem dX6_step_17 : decode cX6_step 17 = .ok (.getfield 79, 3) := by decide +kernel
theorem dX6_step_20 : decode cX6_step 20 = .ok (.invokestatic 115, 3) := by decide +kernel
theorem dX6_step_23 : decode cX6_step 23 = .ok (.istore_n 1, 1) := by decide +kernel
theorem dX6_step_24 : decode cX6_step 24 = .ok (.aload_n 0, 1) := by decide +kernel
theorem dX6_step_25 : decode cX6_step 25 = .ok (.getfield 97, 3) := by decide +kernel
theorem dX6_step_28 : decode cX6_step 28 = .ok (.aload_n 0, 1) := by decide +kernel
theorem dX6_step_29 : decode cX6_step 29 = .ok (.getfield 94, 3) := by decide +kernel
theorem dX6_step_32 : decode cX6_step 32 = .ok (.aload_n 0, 1) := by decide +kernel
theorem dX6_step_33 : decode cX6_step 33 = .ok (.aload_n 0, 1) := by decide +kernel
theorem dX6_step_34 : decode cX6_step 34 = .ok (.getfield 76, 3) := by decide +kernel
theorem dX6_step_37 : decode cX6_step 37 = .ok (.invokevirtual 112, 3) := by decide +kernel
theorem dX6_step_40 : decode cX6_step 40 = .ok (.aload_n 0, 1) := by decide +kernel
theorem dX6_step_41 : decode cX6_step 41 = .ok (.getfield 82, 3) := by decide +kernel
theorem dX6_step_44 : decode cX6_step 44 = .ok (.invokestatic 115, 3) := by decide +kernel
theorem dX6_step_47 : decode cX6_step 47 = .ok (.istore_n 2, 1) := by decide +kernel
theorem dX6_step_48 : decode cX6_step 48 = .ok (.iload_n 1, 1) := by decide +kernel
theorem dX6_step_49 : decode cX6_step 49 = .ok (.iload_n 2, 1) := by decide +kernel
theorem dX6_step_50 : decode cX6_step 50 = .ok (.if_icmp .le 9, 3) := by decide +kernel
theorem dX6_step_53 : decode cX6_step 53 = .ok (.iload_n 1, 1) := by decide +kernel
theorem dX6_step_54 : decode cX6_step 54 = .ok (.iload_n 2, 1) := by decide +kernel
theorem dX6_step_55 : decode cX6_step 55 = .ok (.isub, 1) := by decide +kernel
theorem dX6_step_56 : decode cX6_step 56 = .ok (.goto 6, 3) := by decide +kernel
theorem dX6_step_59 : decode cX6_step 59 = .ok (.iload_n 2, 1) := by decide +kernel
theorem dX6_step_60 : decode cX6_step 60 = .ok (.iload_n 1, 1) := by decide +kernel
theorem dX6_step_61 : decode cX6_step 61 = .ok (.isub, 1) := by decide +kernel
theorem dX6_step_62 : decode cX6_step 62 = .ok (.istore_n 3, 1) := by decide +kernel
theorem dX6_step_63 : decode cX6_step 63 = .ok (.iload_n 1, 1) := by decide +kernel
theorem dX6_step_64 : decode cX6_step 64 = .ok (.iload_n 2, 1) := by decide +kernel
theorem dX6_step_65 : decode cX6_step 65 = .ok (.if_icmp .le 7, 3) := by decide +kernel
theorem dX6_step_68 : decode cX6_step 68 = .ok (.iload_n 1, 1) := by decide +kernel
theorem dX6_step_69 : decode cX6_step 69 = .ok (.goto 4, 3) := by decide +kernel
theorem dX6_step_72 : decode cX6_step 72 = .ok (.iload_n 2, 1) := by decide +kernel
theorem dX6_step_73 : decode cX6_step 73 = .ok (.istore 4, 2) := by decide +kernel
theorem dX6_step_75 : decode cX6_step 75 = .ok (.aload_n 0, 1) := by decide +kernel
theorem dX6_step_76 : decode cX6_step 76 = .ok (.iload_n 3, 1) := by decide +kernel
theorem dX6_step_77 : decode cX6_step 77 = .ok (.aload_n 0, 1) := by decide +kernel
theorem dX6_step_78 : decode cX6_step 78 = .ok (.getfield 42, 3) := by decide +kernel
theorem dX6_step_81 : decode cX6_step 81 = .ok (.if_icmp .le 8, 3) := by decide +kernel
theorem dX6_step_84 : decode cX6_step 84 = .ok (.bipush 102, 2) := by decide +kernel
theorem dX6_step_86 : decode cX6_step 86 = .ok (.goto 18, 3) := by decide +kernel
theorem dX6_step_89 : decode cX6_step 89 = .ok (.iload_n 3, 1) := by decide +kernel
theorem dX6_step_90 : decode cX6_step 90 = .ok (.aload_n 0, 1) := by decide +kernel
theorem dX6_step_91 : decode cX6_step 91 = .ok (.getfield 91, 3) := by decide +kernel
theorem dX6_step_94 : decode cX6_step 94 = .ok (.if_icmp .le 8, 3) := by decide +kernel
theorem dX6_step_97 : decode cX6_step 97 = .ok (.bipush 108, 2) := by decide +kernel
theorem dX6_step_99 : decode cX6_step 99 = .ok (.goto 5, 3) := by decide +kernel
theorem dX6_step_102 : decode cX6_step 102 = .ok (.bipush 115, 2) := by decide +kernel
theorem dX6_step_104 : decode cX6_step 104 = .ok (.putfield 119, 3) := by decide +kernel
theorem dX6_step_107 : decode cX6_step 107 = .ok (.aload_n 0, 1) := by decide +kernel
theorem dX6_step_108 : decode cX6_step 108 = .ok (.iload_n 1, 1) := by decide +kernel
theorem dX6_step_109 : decode cX6_step 109 = .ok (.iload_n 2, 1) := by decide +kernel
theorem dX6_step_110 : decode cX6_step 110 = .ok (.if_icmp .ge 7, 3) := by decide +kernel
theorem dX6_step_113 : decode cX6_step 113 = .ok (.iconst 0, 1) := by decide +kernel
theorem dX6_step_114 : decode cX6_step 114 = .ok (.goto 4, 3) := by decide +kernel
theorem dX6_step_117 : decode cX6_step 117 = .ok (.iconst 1, 1) := by decide +kernel
theorem dX6_step_118 : decode cX6_step 118 = .ok (.putfield 122, 3) := by decide +kernel
theorem dX6_step_121 : decode cX6_step 121 = .ok (.aload_n 0, 1) := by decide +kernel
theorem dX6_step_122 : decode cX6_step 122 = .ok (.dup, 1) := by decide +kernel
theorem dX6_step_123 : decode cX6_step 123 = .ok (.getfield 106, 3) := by decide +kernel
theorem dX6_step_126 : decode cX6_step 126 = .ok (.aload_n 0, 1) := by decide +kernel
theorem dX6_step_127 : decode cX6_step 127 = .ok (.getfield 119, 3) := by decide +kernel
theorem dX6_step_130 : decode cX6_step 130 = .ok (.bipush 102, 2) := by decide +kernel
theorem dX6_step_132 : decode cX6_step 132 = .ok (.if_icmp .ne 7, 3) := by decide +kernel
theorem dX6_step_135 : decode cX6_step 135 = .ok (.iconst 1, 1) := by decide +kernel
theorem dX6_step_136 : decode cX6_step 136 = .ok (.goto 4, 3) := by decide +kernel
theorem dX6_step_139 : decode cX6_step 139 = .ok (.iconst 0, 1) := by decide +kernel
theorem dX6_step_140 : decode cX6_step 140 = .ok (.iadd, 1) := by decide +kernel
theorem dX6_step_141 : decode cX6_step 141 = .ok (.putfield 106, 3) := by decide +kernel
theorem dX6_step_144 : decode cX6_step 144 = .ok (.aload_n 0, 1) := by decide +kernel
theorem dX6_step_145 : decode cX6_step 145 = .ok (.dup, 1) := by decide +kernel
theorem dX6_step_146 : decode cX6_step 146 = .ok (.getfield 103, 3) := by decide +kernel
theorem dX6_step_149 : decode cX6_step 149 = .ok (.aload_n 0, 1) := by decide +kernel
theorem dX6_step_150 : decode cX6_step 150 = .ok (.getfield 119, 3) := by decide +kernel
theorem dX6_step_153 : decode cX6_step 153 = .ok (.bipush 108, 2) := by decide +kernel
theorem dX6_step_155 : decode cX6_step 155 = .ok (.if_icmp .ne 7, 3) := by decide +kernel
theorem dX6_step_158 : decode cX6_step 158 = .ok (.iconst 1, 1) := by decide +kernel
theorem dX6_step_159 : decode cX6_step 159 = .ok (.goto 4, 3) := by decide +kernel
theorem dX6_step_162 : decode cX6_step 162 = .ok (.iconst 0, 1) := by decide +kernel
theorem dX6_step_163 : decode cX6_step 163 = .ok (.iadd, 1) := by decide +kernel
theorem dX6_step_164 : decode cX6_step 164 = .ok (.putfield 103, 3) := by decide +kernel
theorem dX6_step_167 : decode cX6_step 167 = .ok (.aload_n 0, 1) := by decide +kernel
theorem dX6_step_168 : decode cX6_step 168 = .ok (.dup, 1) := by decide +kernel
theorem dX6_step_169 : decode cX6_step 169 = .ok (.getfield 100, 3) := by decide +kernel
theorem dX6_step_172 : decode cX6_step 172 = .ok (.aload_n 0, 1) := by decide +kernel
theorem dX6_step_173 : decode cX6_step 173 = .ok (.getfield 119, 3) := by decide +kernel
theorem dX6_step_176 : decode cX6_step 176 = .ok (.bipush 115, 2) := by decide +kernel
theorem dX6_step_178 : decode cX6_step 178 = .ok (.if_icmp .ne 10, 3) := by decide +kernel
theorem dX6_step_181 : decode cX6_step 181 = .ok (.aload_n 0, 1) := by decide +kernel
theorem dX6_step_182 : decode cX6_step 182 = .ok (.getfield 85, 3) := by decide +kernel
theorem dX6_step_185 : decode cX6_step 185 = .ok (.goto 4, 3) := by decide +kernel
theorem dX6_step_188 : decode cX6_step 188 = .ok (.iconst 0, 1) := by decide +kernel
theorem dX6_step_189 : decode cX6_step 189 = .ok (.iadd, 1) := by decide +kernel
theorem dX6_step_190 : decode cX6_step 190 = .ok (.putfield 100, 3) := by decide +kernel
theorem dX6_step_193 : decode cX6_step 193 = .ok (.aload_n 0, 1) := by decide +kernel
theorem dX6_step_194 : decode cX6_step 194 = .ok (.aload_n 0, 1) := by decide +kernel
theorem dX6_step_195 : decode cX6_step 195 = .ok (.getfield 119, 3) := by decide +kernel
theorem dX6_step_198 : decode cX6_step 198 = .ok (.bipush 102, 2) := by decide +kernel
theorem dX6_step_200 : decode cX6_step 200 = .ok (.if_icmp .ne 13, 3) := by decide +kernel
theorem dX6_step_203 : decode cX6_step 203 = .ok (.iload 4, 2) := by decide +kernel
theorem dX6_step_205 : decode cX6_step 205 = .ok (.aload_n 0, 1) := by decide +kernel
theorem dX6_step_206 : decode cX6_step 206 = .ok (.getfield 45, 3) := by decide +kernel
theorem dX6_step_209 : decode cX6_step 209 = .ok (.iadd, 1) := by decide +kernel
theorem dX6_step_210 : decode cX6_step 210 = .ok (.goto 4, 3) := by decide +kernel
theorem dX6_step_213 : decode cX6_step 213 = .ok (.iload_n 1, 1) := by decide +kernel
theorem dX6_step_214 : decode cX6_step 214 = .ok (.putfield 94, 3) := by decide +kernel
theorem dX6_step_217 : decode cX6_step 217 = .ok (.aload_n 0, 1) := by decide +kernel
theorem dX6_step_218 : decode cX6_step 218 = .ok (.aload_n 0, 1) := by decide +kernel
theorem dX6_step_219 : decode cX6_step 219 = .ok (.getfield 119, 3) := by decide +kernel
theorem dX6_step_222 : decode cX6_step 222 = .ok (.bipush 102, 2) := by decide +kernel
theorem dX6_step_224 : decode cX6_step 224 = .ok (.if_icmp .ne 13, 3) := by decide +kernel
theorem dX6_step_227 : decode cX6_step 227 = .ok (.iload 4, 2) := by decide +kernel
theorem dX6_step_229 : decode cX6_step 229 = .ok (.aload_n 0, 1) := by decide +kernel
theorem dX6_step_230 : decode cX6_step 230 = .ok (.getfield 45, 3) := by decide +kernel
theorem dX6_step_233 : decode cX6_step 233 = .ok (.iadd, 1) := by decide +kernel
theorem dX6_step_234 : decode cX6_step 234 = .ok (.goto 4, 3) := by decide +kernel
theorem dX6_step_237 : decode cX6_step 237 = .ok (.iload_n 2, 1) := by decide +kernel
theorem dX6_step_238 : decode cX6_step 238 = .ok (.putfield 97, 3) := by decide +kernel
theorem dX6_step_241 : decode cX6_step 241 = .ok (.aload_n 0, 1) := by decide +kernel
theorem dX6_step_242 : decode cX6_step 242 = .ok (.dup, 1) := by decide +kernel
theorem dX6_step_243 : decode cX6_step 243 = .ok (.getfield 109, 3) := by decide +kernel
theorem dX6_step_246 : decode cX6_step 246 = .ok (.iconst 1, 1) := by decide +kernel
theorem dX6_step_247 : decode cX6_step 247 = .ok (.iadd, 1) := by decide +kernel
theorem dX6_step_248 : decode cX6_step 248 = .ok (.putfield 109, 3) := by decide +kernel
theorem dX6_step_251 : decode cX6_step 251 = .ok (.return_, 1) := by decide +kernel
theorem dX6_time_0 : decode cX6_time 0 = .ok (.aload_n 0, 1) := by decide +kernel
theorem dX6_time_1 : decode cX6_time 1 = .ok (.getfield 94, 3) := by decide +kernel
theorem dX6_time_4 : decode cX6_time 4 = .ok (.aload_n 0, 1) := by decide +kernel
theorem dX6_time_5 : decode cX6_time 5 = .ok (.getfield 97, 3) := by decide +kernel
theorem dX6_time_8 : decode cX6_time 8 = .ok (.if_icmp .le 10, 3) := by decide +kernel
theorem dX6_time_11 : decode cX6_time 11 = .ok (.aload_n 0, 1) := by decide +kernel
theorem dX6_time_12 : decode cX6_time 12 = .ok (.getfield 94, 3) := by decide +kernel
theorem dX6_time_15 : decode cX6_time 15 = .ok (.goto 7, 3) := by decide +kernel
theorem dX6_time_18 : decode cX6_time 18 = .ok (.aload_n 0, 1) := by decide +kernel
theorem dX6_time_19 : decode cX6_time 19 = .ok (.getfield 97, 3) := by decide +kernel
theorem dX6_time_22 : decode cX6_time 22 = .ok (.ireturn, 1) := by decide +kernel
theorem dX6_timeOf_0 : decode cX6_timeOf 0 = .ok (.aload_n 0, 1) := by decide +kernel
theorem dX6_timeOf_1 : decode cX6_timeOf 1 = .ok (.invokevirtual 125, 3) := by decide +kernel
theorem dX6_timeOf_4 : decode cX6_timeOf 4 = .ok (.aload_n 0, 1) := by decide +kernel
theorem dX6_timeOf_5 : decode cX6_timeOf 5 = .ok (.getfield 109, 3) := by decide +kernel
theorem dX6_timeOf_8 : decode cX6_timeOf 8 = .ok (.sipush 999, 3) := by decide +kernel
theorem dX6_timeOf_11 : decode cX6_timeOf 11 = .ok (.if_icmp .ge 18, 3) := by decide +kernel
theorem dX6_timeOf_14 : decode cX6_timeOf 14 = .ok (.aload_n 0, 1) := by decide +kernel
theorem dX6_timeOf_15 : decode cX6_timeOf 15 = .ok (.getfield 100, 3) := by decide +kernel
theorem dX6_timeOf_18 : decode cX6_timeOf 18 = .ok (.iload_n 1, 1) := by decide +kernel
theorem dX6_timeOf_19 : decode cX6_timeOf 19 = .ok (.if_icmp .ge 10, 3) := by decide +kernel
theorem dX6_timeOf_22 : decode cX6_timeOf 22 = .ok (.aload_n 0, 1) := by decide +kernel
theorem dX6_timeOf_23 : decode cX6_timeOf 23 = .ok (.invokevirtual 128, 3) := by decide +kernel
theorem dX6_timeOf_26 : decode cX6_timeOf 26 = .ok (.goto (-22), 3) := by decide +kernel
theorem dX6_timeOf_29 : decode cX6_timeOf 29 = .ok (.aload_n 0, 1) := by decide +kernel
theorem dX6_timeOf_30 : decode cX6_timeOf 30 = .ok (.getfield 100, 3) := by decide +kernel
theorem dX6_timeOf_33 : decode cX6_timeOf 33 = .ok (.iload_n 1, 1) := by decide +kernel
theorem dX6_timeOf_34 : decode cX6_timeOf 34 = .ok (.if_icmp .lt 10, 3) := by decide +kernel
theorem dX6_timeOf_37 : decode cX6_timeOf 37 = .ok (.aload_n 0, 1) := by decide +kernel
theorem dX6_timeOf_38 : decode cX6_timeOf 38 = .ok (.invokevirtual 131, 3) := by decide +kernel
theorem dX6_timeOf_41 : decode cX6_timeOf 41 = .ok (.goto 5, 3) := by decide +kernel
theorem dX6_timeOf_44 : decode cX6_timeOf 44 = .ok (.ldc 135, 2) := by decide +kernel
theorem dX6_timeOf_46 : decode cX6_timeOf 46 = .ok (.ireturn, 1) := by decide +kernel
theorem dX6_pair_0 : decode cX6_pair 0 = .ok (.aload_n 0, 1) := by decide +kernel
theorem dX6_pair_1 : decode cX6_pair 1 = .ok (.iload_n 1, 1) := by decide +kernel
theorem dX6_pair_2 : decode cX6_pair 2 = .ok (.iload_n 2, 1) := by decide +kernel
theorem dX6_pair_3 : decode cX6_pair 3 = .ok (.invokevirtual 136, 3) := by decide +kernel
theorem dX6_pair_6 : decode cX6_pair 6 = .ok (.ifCond .ne 5, 3) := by decide +kernel
theorem dX6_pair_9 : decode cX6_pair 9 = .ok (.iconst (-1), 1) := by decide +kernel
theorem dX6_pair_10 : decode cX6_pair 10 = .ok (.ireturn, 1) := by decide +kernel
theorem dX6_pair_11 : decode cX6_pair 11 = .ok (.iload_n 3, 1) := by decide +kernel
theorem dX6_pair_12 : decode cX6_pair 12 = .ok (.i2l, 1) := by decide +kernel
theorem dX6_pair_13 : decode cX6_pair 13 = .ok (.lconst 0, 1) := by decide +kernel
theorem dX6_pair_14 : decode cX6_pair 14 = .ok (.ldc2_w 140, 3) := by decide +kernel
theorem dX6_pair_17 : decode cX6_pair 17 = .ok (.invokestatic 50, 3) := by decide +kernel
theorem dX6_pair_20 : decode cX6_pair 20 = .ok (.ifCond .eq 16, 3) := by decide +kernel
theorem dX6_pair_23 : decode cX6_pair 23 = .ok (.iload 4, 2) := by decide +kernel
theorem dX6_pair_25 : decode cX6_pair 25 = .ok (.i2l, 1) := by decide +kernel
theorem dX6_pair_26 : decode cX6_pair 26 = .ok (.lconst 0, 1) := by decide +kernel
theorem dX6_pair_27 : decode cX6_pair 27 = .ok (.ldc2_w 57, 3) := by decide +kernel
theorem dX6_pair_30 : decode cX6_pair 30 = .ok (.invokestatic 50, 3) := by decide +kernel
theorem dX6_pair_33 : decode cX6_pair 33 = .ok (.ifCond .ne 6, 3) := by decide +kernel
theorem dX6_pair_36 : decode cX6_pair 36 = .ok (.bipush (-2), 2) := by decide +kernel
theorem dX6_pair_38 : decode cX6_pair 38 = .ok (.ireturn, 1) := by decide +kernel
theorem dX6_pair_39 : decode cX6_pair 39 = .ok (.aload_n 0, 1) := by decide +kernel
theorem dX6_pair_40 : decode cX6_pair 40 = .ok (.iload_n 1, 1) := by decide +kernel
theorem dX6_pair_41 : decode cX6_pair 41 = .ok (.iload_n 2, 1) := by decide +kernel
theorem dX6_pair_42 : decode cX6_pair 42 = .ok (.invokevirtual 142, 3) := by decide +kernel
theorem dX6_pair_45 : decode cX6_pair 45 = .ok (.aload_n 0, 1) := by decide +kernel
theorem dX6_pair_46 : decode cX6_pair 46 = .ok (.invokevirtual 125, 3) := by decide +kernel
theorem dX6_pair_49 : decode cX6_pair 49 = .ok (.aload_n 0, 1) := by decide +kernel
theorem dX6_pair_50 : decode cX6_pair 50 = .ok (.getfield 109, 3) := by decide +kernel
theorem dX6_pair_53 : decode cX6_pair 53 = .ok (.iload_n 3, 1) := by decide +kernel
theorem dX6_pair_54 : decode cX6_pair 54 = .ok (.if_icmp .ge 10, 3) := by decide +kernel
theorem dX6_pair_57 : decode cX6_pair 57 = .ok (.aload_n 0, 1) := by decide +kernel
theorem dX6_pair_58 : decode cX6_pair 58 = .ok (.invokevirtual 128, 3) := by decide +kernel
theorem dX6_pair_61 : decode cX6_pair 61 = .ok (.goto (-12), 3) := by decide +kernel
theorem dX6_pair_64 : decode cX6_pair 64 = .ok (.aload_n 0, 1) := by decide +kernel
theorem dX6_pair_65 : decode cX6_pair 65 = .ok (.getfield 94, 3) := by decide +kernel
theorem dX6_pair_68 : decode cX6_pair 68 = .ok (.aload_n 0, 1) := by decide +kernel
theorem dX6_pair_69 : decode cX6_pair 69 = .ok (.getfield 97, 3) := by decide +kernel
theorem dX6_pair_72 : decode cX6_pair 72 = .ok (.if_icmp .le 15, 3) := by decide +kernel
theorem dX6_pair_75 : decode cX6_pair 75 = .ok (.aload_n 0, 1) := by decide +kernel
theorem dX6_pair_76 : decode cX6_pair 76 = .ok (.getfield 94, 3) := by decide +kernel
theorem dX6_pair_79 : decode cX6_pair 79 = .ok (.aload_n 0, 1) := by decide +kernel
theorem dX6_pair_80 : decode cX6_pair 80 = .ok (.getfield 97, 3) := by decide +kernel
theorem dX6_pair_83 : decode cX6_pair 83 = .ok (.isub, 1) := by decide +kernel
theorem dX6_pair_84 : decode cX6_pair 84 = .ok (.goto 12, 3) := by decide +kernel
theorem dX6_pair_87 : decode cX6_pair 87 = .ok (.aload_n 0, 1) := by decide +kernel
theorem dX6_pair_88 : decode cX6_pair 88 = .ok (.getfield 97, 3) := by decide +kernel
theorem dX6_pair_91 : decode cX6_pair 91 = .ok (.aload_n 0, 1) := by decide +kernel
theorem dX6_pair_92 : decode cX6_pair 92 = .ok (.getfield 94, 3) := by decide +kernel
theorem dX6_pair_95 : decode cX6_pair 95 = .ok (.isub, 1) := by decide +kernel
theorem dX6_pair_96 : decode cX6_pair 96 = .ok (.istore 5, 2) := by decide +kernel
theorem dX6_pair_98 : decode cX6_pair 98 = .ok (.iload 4, 2) := by decide +kernel
theorem dX6_pair_100 : decode cX6_pair 100 = .ok (.ifCond .ne 10, 3) := by decide +kernel
theorem dX6_pair_103 : decode cX6_pair 103 = .ok (.aload_n 0, 1) := by decide +kernel
theorem dX6_pair_104 : decode cX6_pair 104 = .ok (.invokevirtual 131, 3) := by decide +kernel
theorem dX6_pair_107 : decode cX6_pair 107 = .ok (.goto 44, 3) := by decide +kernel
theorem dX6_pair_110 : decode cX6_pair 110 = .ok (.iload 4, 2) := by decide +kernel
theorem dX6_pair_112 : decode cX6_pair 112 = .ok (.iconst 1, 1) := by decide +kernel
theorem dX6_pair_113 : decode cX6_pair 113 = .ok (.if_icmp .ne 10, 3) := by decide +kernel
theorem dX6_pair_116 : decode cX6_pair 116 = .ok (.aload_n 0, 1) := by decide +kernel
theorem dX6_pair_117 : decode cX6_pair 117 = .ok (.getfield 100, 3) := by decide +kernel
theorem dX6_pair_120 : decode cX6_pair 120 = .ok (.goto 31, 3) := by decide +kernel
theorem dX6_pair_123 : decode cX6_pair 123 = .ok (.iload 4, 2) := by decide +kernel
theorem dX6_pair_125 : decode cX6_pair 125 = .ok (.iconst 2, 1) := by decide +kernel
theorem dX6_pair_126 : decode cX6_pair 126 = .ok (.if_icmp .ne 10, 3) := by decide +kernel
theorem dX6_pair_129 : decode cX6_pair 129 = .ok (.aload_n 0, 1) := by decide +kernel
theorem dX6_pair_130 : decode cX6_pair 130 = .ok (.getfield 103, 3) := by decide +kernel
theorem dX6_pair_133 : decode cX6_pair 133 = .ok (.goto 18, 3) := by decide +kernel
theorem dX6_pair_136 : decode cX6_pair 136 = .ok (.iload 4, 2) := by decide +kernel
theorem dX6_pair_138 : decode cX6_pair 138 = .ok (.iconst 3, 1) := by decide +kernel
theorem dX6_pair_139 : decode cX6_pair 139 = .ok (.if_icmp .ne 10, 3) := by decide +kernel
theorem dX6_pair_142 : decode cX6_pair 142 = .ok (.aload_n 0, 1) := by decide +kernel
theorem dX6_pair_143 : decode cX6_pair 143 = .ok (.getfield 106, 3) := by decide +kernel
theorem dX6_pair_146 : decode cX6_pair 146 = .ok (.goto 5, 3) := by decide +kernel
theorem dX6_pair_149 : decode cX6_pair 149 = .ok (.iload 5, 2) := by decide +kernel
theorem dX6_pair_151 : decode cX6_pair 151 = .ok (.ireturn, 1) := by decide +kernel
theorem dX6_isFar_0 : decode cX6_isFar 0 = .ok (.iload_n 0, 1) := by decide +kernel
theorem dX6_isFar_1 : decode cX6_isFar 1 = .ok (.i2l, 1) := by decide +kernel
theorem dX6_isFar_2 : decode cX6_isFar 2 = .ok (.lconst 1, 1) := by decide +kernel
theorem dX6_isFar_3 : decode cX6_isFar 3 = .ok (.ldc2_w 140, 3) := by decide +kernel
theorem dX6_isFar_6 : decode cX6_isFar 6 = .ok (.invokestatic 50, 3) := by decide +kernel
theorem dX6_isFar_9 : decode cX6_isFar 9 = .ok (.ireturn, 1) := by decide +kernel
theorem dX6_reach_0 : decode cX6_reach 0 = .ok (.aload_n 0, 1) := by decide +kernel
theorem dX6_reach_1 : decode cX6_reach 1 = .ok (.iload_n 1, 1) := by decide +kernel
theorem dX6_reach_2 : decode cX6_reach 2 = .ok (.iload_n 2, 1) := by decide +kernel
theorem dX6_reach_3 : decode cX6_reach 3 = .ok (.invokevirtual 136, 3) := by decide +kernel
theorem dX6_reach_6 : decode cX6_reach 6 = .ok (.ifCond .ne 5, 3) := by decide +kernel
theorem dX6_reach_9 : decode cX6_reach 9 = .ok (.iconst (-1), 1) := by decide +kernel
theorem dX6_reach_10 : decode cX6_reach 10 = .ok (.ireturn, 1) := by decide +kernel
theorem dX6_reach_11 : decode cX6_reach 11 = .ok (.iload_n 3, 1) := by decide +kernel
theorem dX6_reach_12 : decode cX6_reach 12 = .ok (.invokestatic 146, 3) := by decide +kernel
theorem dX6_reach_15 : decode cX6_reach 15 = .ok (.ifCond .eq 14, 3) := by decide +kernel
theorem dX6_reach_18 : decode cX6_reach 18 = .ok (.iload 4, 2) := by decide +kernel
theorem dX6_reach_20 : decode cX6_reach 20 = .ok (.i2l, 1) := by decide +kernel
theorem dX6_reach_21 : decode cX6_reach 21 = .ok (.lconst 0, 1) := by decide +kernel
theorem dX6_reach_22 : decode cX6_reach 22 = .ok (.lconst 1, 1) := by decide +kernel
theorem dX6_reach_23 : decode cX6_reach 23 = .ok (.invokestatic 50, 3) := by decide +kernel
theorem dX6_reach_26 : decode cX6_reach 26 = .ok (.ifCond .ne 6, 3) := by decide +kernel
theorem dX6_reach_29 : decode cX6_reach 29 = .ok (.bipush (-2), 2) := by decide +kernel
theorem dX6_reach_31 : decode cX6_reach 31 = .ok (.ireturn, 1) := by decide +kernel
theorem dX6_reach_32 : decode cX6_reach 32 = .ok (.aload_n 0, 1) := by decide +kernel
theorem dX6_reach_33 : decode cX6_reach 33 = .ok (.iload_n 1, 1) := by decide +kernel
theorem dX6_reach_34 : decode cX6_reach 34 = .ok (.iload_n 2, 1) := by decide +kernel
theorem dX6_reach_35 : decode cX6_reach 35 = .ok (.invokevirtual 142, 3) := by decide +kernel
theorem dX6_reach_38 : decode cX6_reach 38 = .ok (.aload_n 0, 1) := by decide +kernel
theorem dX6_reach_39 : decode cX6_reach 39 = .ok (.iload_n 3, 1) := by decide +kernel
theorem dX6_reach_40 : decode cX6_reach 40 = .ok (.invokevirtual 149, 3) := by decide +kernel
theorem dX6_reach_43 : decode cX6_reach 43 = .ok (.istore 5, 2) := by decide +kernel
theorem dX6_reach_45 : decode cX6_reach 45 = .ok (.iload 5, 2) := by decide +kernel
theorem dX6_reach_47 : decode cX6_reach 47 = .ok (.ldc 135, 2) := by decide +kernel
theorem dX6_reach_49 : decode cX6_reach 49 = .ok (.if_icmp .ne 8, 3) := by decide +kernel
theorem dX6_reach_52 : decode cX6_reach 52 = .ok (.bipush (-6), 2) := by decide +kernel
theorem dX6_reach_54 : decode cX6_reach 54 = .ok (.goto 19, 3) := by decide +kernel
theorem dX6_reach_57 : decode cX6_reach 57 = .ok (.iload 4, 2) := by decide +kernel
theorem dX6_reach_59 : decode cX6_reach 59 = .ok (.ifCond .ne 12, 3) := by decide +kernel
theorem dX6_reach_62 : decode cX6_reach 62 = .ok (.aload_n 0, 1) := by decide +kernel
theorem dX6_reach_63 : decode cX6_reach 63 = .ok (.getfield 109, 3) := by decide +kernel
theorem dX6_reach_66 : decode cX6_reach 66 = .ok (.iconst 1, 1) := by decide +kernel
theorem dX6_reach_67 : decode cX6_reach 67 = .ok (.isub, 1) := by decide +kernel
theorem dX6_reach_68 : decode cX6_reach 68 = .ok (.goto 5, 3) := by decide +kernel
theorem dX6_reach_71 : decode cX6_reach 71 = .ok (.iload 5, 2) := by decide +kernel
theorem dX6_reach_73 : decode cX6_reach 73 = .ok (.ireturn, 1) := by decide +kernel
theorem dX6_who_0 : decode cX6_who 0 = .ok (.aload_n 0, 1) := by decide +kernel
theorem dX6_who_1 : decode cX6_who 1 = .ok (.iload_n 1, 1) := by decide +kernel
theorem dX6_who_2 : decode cX6_who 2 = .ok (.iload_n 2, 1) := by decide +kernel
theorem dX6_who_3 : decode cX6_who 3 = .ok (.invokevirtual 136, 3) := by decide +kernel
theorem dX6_who_6 : decode cX6_who 6 = .ok (.ifCond .ne 5, 3) := by decide +kernel
theorem dX6_who_9 : decode cX6_who 9 = .ok (.iconst (-1), 1) := by decide +kernel
theorem dX6_who_10 : decode cX6_who 10 = .ok (.ireturn, 1) := by decide +kernel
theorem dX6_who_11 : decode cX6_who 11 = .ok (.iload_n 3, 1) := by decide +kernel
theorem dX6_who_12 : decode cX6_who 12 = .ok (.i2l, 1) := by decide +kernel
theorem dX6_who_13 : decode cX6_who 13 = .ok (.lconst 0, 1) := by decide +kernel
theorem dX6_who_14 : decode cX6_who 14 = .ok (.lconst 1, 1) := by decide +kernel
theorem dX6_who_15 : decode cX6_who 15 = .ok (.invokestatic 50, 3) := by decide +kernel
theorem dX6_who_18 : decode cX6_who 18 = .ok (.ifCond .ne 6, 3) := by decide +kernel
theorem dX6_who_21 : decode cX6_who 21 = .ok (.bipush (-2), 2) := by decide +kernel
theorem dX6_who_23 : decode cX6_who 23 = .ok (.ireturn, 1) := by decide +kernel
theorem dX6_who_24 : decode cX6_who 24 = .ok (.aload_n 0, 1) := by decide +kernel
theorem dX6_who_25 : decode cX6_who 25 = .ok (.iload_n 1, 1) := by decide +kernel
theorem dX6_who_26 : decode cX6_who 26 = .ok (.iload_n 2, 1) := by decide +kernel
theorem dX6_who_27 : decode cX6_who 27 = .ok (.invokevirtual 142, 3) := by decide +kernel
theorem dX6_who_30 : decode cX6_who 30 = .ok (.aload_n 0, 1) := by decide +kernel
theorem dX6_who_31 : decode cX6_who 31 = .ok (.invokevirtual 125, 3) := by decide +kernel
theorem dX6_who_34 : decode cX6_who 34 = .ok (.aload_n 0, 1) := by decide +kernel
theorem dX6_who_35 : decode cX6_who 35 = .ok (.getfield 109, 3) := by decide +kernel
theorem dX6_who_38 : decode cX6_who 38 = .ok (.sipush 999, 3) := by decide +kernel
theorem dX6_who_41 : decode cX6_who 41 = .ok (.if_icmp .ge 17, 3) := by decide +kernel
theorem dX6_who_44 : decode cX6_who 44 = .ok (.aload_n 0, 1) := by decide +kernel
theorem dX6_who_45 : decode cX6_who 45 = .ok (.getfield 106, 3) := by decide +kernel
theorem dX6_who_48 : decode cX6_who 48 = .ok (.ifCond .ne 10, 3) := by decide +kernel
theorem dX6_who_51 : decode cX6_who 51 = .ok (.aload_n 0, 1) := by decide +kernel
theorem dX6_who_52 : decode cX6_who 52 = .ok (.invokevirtual 128, 3) := by decide +kernel
theorem dX6_who_55 : decode cX6_who 55 = .ok (.goto (-21), 3) := by decide +kernel
theorem dX6_who_58 : decode cX6_who 58 = .ok (.aload_n 0, 1) := by decide +kernel
theorem dX6_who_59 : decode cX6_who 59 = .ok (.getfield 106, 3) := by decide +kernel
theorem dX6_who_62 : decode cX6_who 62 = .ok (.ifCond .ne 8, 3) := by decide +kernel
theorem dX6_who_65 : decode cX6_who 65 = .ok (.bipush (-6), 2) := by decide +kernel
theorem dX6_who_67 : decode cX6_who 67 = .ok (.goto 28, 3) := by decide +kernel
theorem dX6_who_70 : decode cX6_who 70 = .ok (.iload_n 3, 1) := by decide +kernel
theorem dX6_who_71 : decode cX6_who 71 = .ok (.ifCond .ne 12, 3) := by decide +kernel
theorem dX6_who_74 : decode cX6_who 74 = .ok (.aload_n 0, 1) := by decide +kernel
theorem dX6_who_75 : decode cX6_who 75 = .ok (.getfield 109, 3) := by decide +kernel
theorem dX6_who_78 : decode cX6_who 78 = .ok (.iconst 1, 1) := by decide +kernel
theorem dX6_who_79 : decode cX6_who 79 = .ok (.isub, 1) := by decide +kernel
theorem dX6_who_80 : decode cX6_who 80 = .ok (.goto 15, 3) := by decide +kernel
theorem dX6_who_83 : decode cX6_who 83 = .ok (.aload_n 0, 1) := by decide +kernel
theorem dX6_who_84 : decode cX6_who 84 = .ok (.getfield 122, 3) := by decide +kernel
theorem dX6_who_87 : decode cX6_who 87 = .ok (.ifCond .ne 7, 3) := by decide +kernel
theorem dX6_who_90 : decode cX6_who 90 = .ok (.iload_n 1, 1) := by decide +kernel
theorem dX6_who_91 : decode cX6_who 91 = .ok (.goto 4, 3) := by decide +kernel
theorem dX6_who_94 : decode cX6_who 94 = .ok (.iload_n 2, 1) := by decide +kernel
theorem dX6_who_95 : decode cX6_who 95 = .ok (.ireturn, 1) := by decide +kernel
theorem dX6_alone_0 : decode cX6_alone 0 = .ok (.aload_n 0, 1) := by decide +kernel
theorem dX6_alone_1 : decode cX6_alone 1 = .ok (.iload_n 1, 1) := by decide +kernel
theorem dX6_alone_2 : decode cX6_alone 2 = .ok (.invokevirtual 67, 3) := by decide +kernel
theorem dX6_alone_5 : decode cX6_alone 5 = .ok (.ifCond .ne 5, 3) := by decide +kernel
theorem dX6_alone_8 : decode cX6_alone 8 = .ok (.iconst (-1), 1) := by decide +kernel
theorem dX6_alone_9 : decode cX6_alone 9 = .ok (.ireturn, 1) := by decide +kernel
theorem dX6_alone_10 : decode cX6_alone 10 = .ok (.iload_n 2, 1) := by decide +kernel
theorem dX6_alone_11 : decode cX6_alone 11 = .ok (.invokestatic 146, 3) := by decide +kernel
theorem dX6_alone_14 : decode cX6_alone 14 = .ok (.ifCond .eq 30, 3) := by decide +kernel
theorem dX6_alone_17 : decode cX6_alone 17 = .ok (.iload_n 2, 1) := by decide +kernel
theorem dX6_alone_18 : decode cX6_alone 18 = .ok (.aload_n 0, 1) := by decide +kernel
theorem dX6_alone_19 : decode cX6_alone 19 = .ok (.getfield 13, 3) := by decide +kernel
theorem dX6_alone_22 : decode cX6_alone 22 = .ok (.iload_n 1, 1) := by decide +kernel
theorem dX6_alone_23 : decode cX6_alone 23 = .ok (.iaload, 1) := by decide +kernel
theorem dX6_alone_24 : decode cX6_alone 24 = .ok (.iadd, 1) := by decide +kernel
theorem dX6_alone_25 : decode cX6_alone 25 = .ok (.iconst 1, 1) := by decide +kernel
theorem dX6_alone_26 : decode cX6_alone 26 = .ok (.isub, 1) := by decide +kernel
theorem dX6_alone_27 : decode cX6_alone 27 = .ok (.aload_n 0, 1) := by decide +kernel
theorem dX6_alone_28 : decode cX6_alone 28 = .ok (.getfield 13, 3) := by decide +kernel
theorem dX6_alone_31 : decode cX6_alone 31 = .ok (.iload_n 1, 1) := by decide +kernel
theorem dX6_alone_32 : decode cX6_alone 32 = .ok (.iaload, 1) := by decide +kernel
theorem dX6_alone_33 : decode cX6_alone 33 = .ok (.idiv, 1) := by decide +kernel
theorem dX6_alone_34 : decode cX6_alone 34 = .ok (.aload_n 0, 1) := by decide +kernel
theorem dX6_alone_35 : decode cX6_alone 35 = .ok (.getfield 7, 3) := by decide +kernel
theorem dX6_alone_38 : decode cX6_alone 38 = .ok (.iload_n 1, 1) := by decide +kernel
theorem dX6_alone_39 : decode cX6_alone 39 = .ok (.iaload, 1) := by decide +kernel
theorem dX6_alone_40 : decode cX6_alone 40 = .ok (.imul, 1) := by decide +kernel
theorem dX6_alone_41 : decode cX6_alone 41 = .ok (.goto 5, 3) := by decide +kernel
theorem dX6_alone_44 : decode cX6_alone 44 = .ok (.bipush (-2), 2) := by decide +kernel
theorem dX6_alone_46 : decode cX6_alone 46 = .ok (.ireturn, 1) := by decide +kernel
theorem dX6_findTimes_0 : decode cX6_findTimes 0 = .ok (.iconst 0, 1) := by decide +kernel
theorem dX6_findTimes_1 : decode cX6_findTimes 1 = .ok (.istore_n 2, 1) := by decide +kernel
theorem dX6_findTimes_2 : decode cX6_findTimes 2 = .ok (.iload_n 2, 1) := by decide +kernel
theorem dX6_findTimes_3 : decode cX6_findTimes 3 = .ok (.bipush 8, 2) := by decide +kernel
theorem dX6_findTimes_5 : decode cX6_findTimes 5 = .ok (.if_icmp .ge 91, 3) := by decide +kernel
theorem dX6_findTimes_8 : decode cX6_findTimes 8 = .ok (.iconst 0, 1) := by decide +kernel
theorem dX6_findTimes_9 : decode cX6_findTimes 9 = .ok (.istore_n 3, 1) := by decide +kernel
theorem dX6_findTimes_10 : decode cX6_findTimes 10 = .ok (.iload_n 3, 1) := by decide +kernel
theorem dX6_findTimes_11 : decode cX6_findTimes 11 = .ok (.iload_n 2, 1) := by decide +kernel
theorem dX6_findTimes_12 : decode cX6_findTimes 12 = .ok (.if_icmp .ge 78, 3) := by decide +kernel
theorem dX6_findTimes_15 : decode cX6_findTimes 15 = .ok (.aload_n 0, 1) := by decide +kernel
theorem dX6_findTimes_16 : decode cX6_findTimes 16 = .ok (.iload_n 2, 1) := by decide +kernel
theorem dX6_findTimes_17 : decode cX6_findTimes 17 = .ok (.iload_n 3, 1) := by decide +kernel
theorem dX6_findTimes_18 : decode cX6_findTimes 18 = .ok (.invokevirtual 136, 3) := by decide +kernel
theorem dX6_findTimes_21 : decode cX6_findTimes 21 = .ok (.ifCond .eq 63, 3) := by decide +kernel
theorem dX6_findTimes_24 : decode cX6_findTimes 24 = .ok (.aload_n 0, 1) := by decide +kernel
theorem dX6_findTimes_25 : decode cX6_findTimes 25 = .ok (.iload_n 2, 1) := by decide +kernel
theorem dX6_findTimes_26 : decode cX6_findTimes 26 = .ok (.iload_n 3, 1) := by decide +kernel
theorem dX6_findTimes_27 : decode cX6_findTimes 27 = .ok (.invokevirtual 142, 3) := by decide +kernel
theorem dX6_findTimes_30 : decode cX6_findTimes 30 = .ok (.aload_n 0, 1) := by decide +kernel
theorem dX6_findTimes_31 : decode cX6_findTimes 31 = .ok (.iload_n 1, 1) := by decide +kernel
theorem dX6_findTimes_32 : decode cX6_findTimes 32 = .ok (.invokevirtual 149, 3) := by decide +kernel
theorem dX6_findTimes_35 : decode cX6_findTimes 35 = .ok (.istore 4, 2) := by decide +kernel
theorem dX6_findTimes_37 : decode cX6_findTimes 37 = .ok (.aload_n 0, 1) := by decide +kernel
theorem dX6_findTimes_38 : decode cX6_findTimes 38 = .ok (.getfield 19, 3) := by decide +kernel
theorem dX6_findTimes_41 : decode cX6_findTimes 41 = .ok (.bipush 8, 2) := by decide +kernel
theorem dX6_findTimes_43 : decode cX6_findTimes 43 = .ok (.iload_n 2, 1) := by decide +kernel
theorem dX6_findTimes_44 : decode cX6_findTimes 44 = .ok (.imul, 1) := by decide +kernel
theorem dX6_findTimes_45 : decode cX6_findTimes 45 = .ok (.iload_n 3, 1) := by decide +kernel
theorem dX6_findTimes_46 : decode cX6_findTimes 46 = .ok (.iadd, 1) := by decide +kernel
theorem dX6_findTimes_47 : decode cX6_findTimes 47 = .ok (.iload 4, 2) := by decide +kernel
theorem dX6_findTimes_49 : decode cX6_findTimes 49 = .ok (.ldc 135, 2) := by decide +kernel
theorem dX6_findTimes_51 : decode cX6_findTimes 51 = .ok (.if_icmp .ne 8, 3) := by decide +kernel
theorem dX6_findTimes_54 : decode cX6_findTimes 54 = .ok (.ldc 152, 2) := by decide +kernel
theorem dX6_findTimes_56 : decode cX6_findTimes 56 = .ok (.goto 5, 3) := by decide +kernel
theorem dX6_findTimes_59 : decode cX6_findTimes 59 = .ok (.iload 4, 2) := by decide +kernel
theorem dX6_findTimes_61 : decode cX6_findTimes 61 = .ok (.iastore, 1) := by decide +kernel
theorem dX6_findTimes_62 : decode cX6_findTimes 62 = .ok (.aload_n 0, 1) := by decide +kernel
theorem dX6_findTimes_63 : decode cX6_findTimes 63 = .ok (.getfield 19, 3) := by decide +kernel
theorem dX6_findTimes_66 : decode cX6_findTimes 66 = .ok (.bipush 8, 2) := by decide +kernel
theorem dX6_findTimes_68 : decode cX6_findTimes 68 = .ok (.iload_n 3, 1) := by decide +kernel
theorem dX6_findTimes_69 : decode cX6_findTimes 69 = .ok (.imul, 1) := by decide +kernel
theorem dX6_findTimes_70 : decode cX6_findTimes 70 = .ok (.iload_n 2, 1) := by decide +kernel
theorem dX6_findTimes_71 : decode cX6_findTimes 71 = .ok (.iadd, 1) := by decide +kernel
theorem dX6_findTimes_72 : decode cX6_findTimes 72 = .ok (.aload_n 0, 1) := by decide +kernel
theorem dX6_findTimes_73 : decode cX6_findTimes 73 = .ok (.getfield 19, 3) := by decide +kernel
theorem dX6_findTimes_76 : decode cX6_findTimes 76 = .ok (.bipush 8, 2) := by decide +kernel
theorem dX6_findTimes_78 : decode cX6_findTimes 78 = .ok (.iload_n 2, 1) := by decide +kernel
theorem dX6_findTimes_79 : decode cX6_findTimes 79 = .ok (.imul, 1) := by decide +kernel
theorem dX6_findTimes_80 : decode cX6_findTimes 80 = .ok (.iload_n 3, 1) := by decide +kernel
theorem dX6_findTimes_81 : decode cX6_findTimes 81 = .ok (.iadd, 1) := by decide +kernel
theorem dX6_findTimes_82 : decode cX6_findTimes 82 = .ok (.iaload, 1) := by decide +kernel
theorem dX6_findTimes_83 : decode cX6_findTimes 83 = .ok (.iastore, 1) := by decide +kernel
theorem dX6_findTimes_84 : decode cX6_findTimes 84 = .ok (.iinc 3 1, 3) := by decide +kernel
theorem dX6_findTimes_87 : decode cX6_findTimes 87 = .ok (.goto (-77), 3) := by decide +kernel
theorem dX6_findTimes_90 : decode cX6_findTimes 90 = .ok (.iinc 2 1, 3) := by decide +kernel
theorem dX6_findTimes_93 : decode cX6_findTimes 93 = .ok (.goto (-91), 3) := by decide +kernel
theorem dX6_findTimes_96 : decode cX6_findTimes 96 = .ok (.return_, 1) := by decide +kernel
theorem dX6_tie_0 : decode cX6_tie 0 = .ok (.aload_n 0, 1) := by decide +kernel
theorem dX6_tie_1 : decode cX6_tie 1 = .ok (.getfield 54, 3) := by decide +kernel
theorem dX6_tie_4 : decode cX6_tie 4 = .ok (.istore_n 3, 1) := by decide +kernel
theorem dX6_tie_5 : decode cX6_tie 5 = .ok (.iload_n 1, 1) := by decide +kernel
theorem dX6_tie_6 : decode cX6_tie 6 = .ok (.istore 4, 2) := by decide +kernel
theorem dX6_tie_8 : decode cX6_tie 8 = .ok (.iload_n 2, 1) := by decide +kernel
theorem dX6_tie_9 : decode cX6_tie 9 = .ok (.istore 5, 2) := by decide +kernel
theorem dX6_tie_11 : decode cX6_tie 11 = .ok (.iload_n 3, 1) := by decide +kernel
theorem dX6_tie_12 : decode cX6_tie 12 = .ok (.ifCond .eq 120, 3) := by decide +kernel
theorem dX6_tie_15 : decode cX6_tie 15 = .ok (.iconst 0, 1) := by decide +kernel
theorem dX6_tie_16 : decode cX6_tie 16 = .ok (.istore 6, 2) := by decide +kernel
theorem dX6_tie_18 : decode cX6_tie 18 = .ok (.iload_n 3, 1) := by decide +kernel
theorem dX6_tie_19 : decode cX6_tie 19 = .ok (.iload 6, 2) := by decide +kernel
theorem dX6_tie_21 : decode cX6_tie 21 = .ok (.ishr, 1) := by decide +kernel
theorem dX6_tie_22 : decode cX6_tie 22 = .ok (.iconst 1, 1) := by decide +kernel
theorem dX6_tie_23 : decode cX6_tie 23 = .ok (.iand, 1) := by decide +kernel
theorem dX6_tie_24 : decode cX6_tie 24 = .ok (.ifCond .ne 9, 3) := by decide +kernel
theorem dX6_tie_27 : decode cX6_tie 27 = .ok (.iinc 6 1, 3) := by decide +kernel
theorem dX6_tie_30 : decode cX6_tie 30 = .ok (.goto (-12), 3) := by decide +kernel
theorem dX6_tie_33 : decode cX6_tie 33 = .ok (.iload_n 3, 1) := by decide +kernel
theorem dX6_tie_34 : decode cX6_tie 34 = .ok (.iconst 1, 1) := by decide +kernel
theorem dX6_tie_35 : decode cX6_tie 35 = .ok (.iload 6, 2) := by decide +kernel
theorem dX6_tie_37 : decode cX6_tie 37 = .ok (.ishl, 1) := by decide +kernel
theorem dX6_tie_38 : decode cX6_tie 38 = .ok (.iconst (-1), 1) := by decide +kernel
theorem dX6_tie_39 : decode cX6_tie 39 = .ok (.ixor, 1) := by decide +kernel
theorem dX6_tie_40 : decode cX6_tie 40 = .ok (.iand, 1) := by decide +kernel
theorem dX6_tie_41 : decode cX6_tie 41 = .ok (.istore_n 3, 1) := by decide +kernel
theorem dX6_tie_42 : decode cX6_tie 42 = .ok (.iload 5, 2) := by decide +kernel
theorem dX6_tie_44 : decode cX6_tie 44 = .ok (.iload_n 3, 1) := by decide +kernel
theorem dX6_tie_45 : decode cX6_tie 45 = .ok (.invokestatic 63, 3) := by decide +kernel
theorem dX6_tie_48 : decode cX6_tie 48 = .ok (.idiv, 1) := by decide +kernel
theorem dX6_tie_49 : decode cX6_tie 49 = .ok (.istore 5, 2) := by decide +kernel
theorem dX6_tie_51 : decode cX6_tie 51 = .ok (.iload 4, 2) := by decide +kernel
theorem dX6_tie_53 : decode cX6_tie 53 = .ok (.iload 5, 2) := by decide +kernel
theorem dX6_tie_55 : decode cX6_tie 55 = .ok (.idiv, 1) := by decide +kernel
theorem dX6_tie_56 : decode cX6_tie 56 = .ok (.istore 7, 2) := by decide +kernel
theorem dX6_tie_58 : decode cX6_tie 58 = .ok (.iload 4, 2) := by decide +kernel
theorem dX6_tie_60 : decode cX6_tie 60 = .ok (.iload 5, 2) := by decide +kernel
theorem dX6_tie_62 : decode cX6_tie 62 = .ok (.irem, 1) := by decide +kernel
theorem dX6_tie_63 : decode cX6_tie 63 = .ok (.istore 4, 2) := by decide +kernel
theorem dX6_tie_65 : decode cX6_tie 65 = .ok (.iload 6, 2) := by decide +kernel
theorem dX6_tie_67 : decode cX6_tie 67 = .ok (.iconst 1, 1) := by decide +kernel
theorem dX6_tie_68 : decode cX6_tie 68 = .ok (.iadd, 1) := by decide +kernel
theorem dX6_tie_69 : decode cX6_tie 69 = .ok (.istore 8, 2) := by decide +kernel
theorem dX6_tie_71 : decode cX6_tie 71 = .ok (.iload_n 3, 1) := by decide +kernel
theorem dX6_tie_72 : decode cX6_tie 72 = .ok (.iload 8, 2) := by decide +kernel
theorem dX6_tie_74 : decode cX6_tie 74 = .ok (.ishr, 1) := by decide +kernel
theorem dX6_tie_75 : decode cX6_tie 75 = .ok (.iconst 1, 1) := by decide +kernel
theorem dX6_tie_76 : decode cX6_tie 76 = .ok (.iand, 1) := by decide +kernel
theorem dX6_tie_77 : decode cX6_tie 77 = .ok (.ifCond .eq 8, 3) := by decide +kernel
theorem dX6_tie_80 : decode cX6_tie 80 = .ok (.iload 7, 2) := by decide +kernel
theorem dX6_tie_82 : decode cX6_tie 82 = .ok (.ifCond .le 20, 3) := by decide +kernel
theorem dX6_tie_85 : decode cX6_tie 85 = .ok (.iload 7, 2) := by decide +kernel
theorem dX6_tie_87 : decode cX6_tie 87 = .ok (.iload_n 3, 1) := by decide +kernel
theorem dX6_tie_88 : decode cX6_tie 88 = .ok (.iload 8, 2) := by decide +kernel
theorem dX6_tie_90 : decode cX6_tie 90 = .ok (.ishr, 1) := by decide +kernel
theorem dX6_tie_91 : decode cX6_tie 91 = .ok (.iconst 1, 1) := by decide +kernel
theorem dX6_tie_92 : decode cX6_tie 92 = .ok (.iand, 1) := by decide +kernel
theorem dX6_tie_93 : decode cX6_tie 93 = .ok (.isub, 1) := by decide +kernel
theorem dX6_tie_94 : decode cX6_tie 94 = .ok (.istore 7, 2) := by decide +kernel
theorem dX6_tie_96 : decode cX6_tie 96 = .ok (.iinc 8 1, 3) := by decide +kernel
theorem dX6_tie_99 : decode cX6_tie 99 = .ok (.goto (-28), 3) := by decide +kernel
theorem dX6_tie_102 : decode cX6_tie 102 = .ok (.iload_n 3, 1) := by decide +kernel
theorem dX6_tie_103 : decode cX6_tie 103 = .ok (.iconst 1, 1) := by decide +kernel
theorem dX6_tie_104 : decode cX6_tie 104 = .ok (.iload 8, 2) := by decide +kernel
theorem dX6_tie_106 : decode cX6_tie 106 = .ok (.ishl, 1) := by decide +kernel
theorem dX6_tie_107 : decode cX6_tie 107 = .ok (.iconst (-1), 1) := by decide +kernel
theorem dX6_tie_108 : decode cX6_tie 108 = .ok (.ixor, 1) := by decide +kernel
theorem dX6_tie_109 : decode cX6_tie 109 = .ok (.iand, 1) := by decide +kernel
theorem dX6_tie_110 : decode cX6_tie 110 = .ok (.istore_n 3, 1) := by decide +kernel
theorem dX6_tie_111 : decode cX6_tie 111 = .ok (.aload_n 0, 1) := by decide +kernel
theorem dX6_tie_112 : decode cX6_tie 112 = .ok (.getfield 22, 3) := by decide +kernel
theorem dX6_tie_115 : decode cX6_tie 115 = .ok (.iload 6, 2) := by decide +kernel
theorem dX6_tie_117 : decode cX6_tie 117 = .ok (.iload 8, 2) := by decide +kernel
theorem dX6_tie_119 : decode cX6_tie 119 = .ok (.iastore, 1) := by decide +kernel
theorem dX6_tie_120 : decode cX6_tie 120 = .ok (.aload_n 0, 1) := by decide +kernel
theorem dX6_tie_121 : decode cX6_tie 121 = .ok (.getfield 22, 3) := by decide +kernel
theorem dX6_tie_124 : decode cX6_tie 124 = .ok (.iload 8, 2) := by decide +kernel
theorem dX6_tie_126 : decode cX6_tie 126 = .ok (.iload 6, 2) := by decide +kernel
theorem dX6_tie_128 : decode cX6_tie 128 = .ok (.iastore, 1) := by decide +kernel
theorem dX6_tie_129 : decode cX6_tie 129 = .ok (.goto (-118), 3) := by decide +kernel
theorem dX6_tie_132 : decode cX6_tie 132 = .ok (.return_, 1) := by decide +kernel
theorem dX6_tiedBy_0 : decode cX6_tiedBy 0 = .ok (.iconst 0, 1) := by decide +kernel
theorem dX6_tiedBy_1 : decode cX6_tiedBy 1 = .ok (.istore_n 2, 1) := by decide +kernel
theorem dX6_tiedBy_2 : decode cX6_tiedBy 2 = .ok (.iconst 0, 1) := by decide +kernel
theorem dX6_tiedBy_3 : decode cX6_tiedBy 3 = .ok (.istore_n 3, 1) := by decide +kernel
theorem dX6_tiedBy_4 : decode cX6_tiedBy 4 = .ok (.iload_n 3, 1) := by decide +kernel
theorem dX6_tiedBy_5 : decode cX6_tiedBy 5 = .ok (.bipush 8, 2) := by decide +kernel
theorem dX6_tiedBy_7 : decode cX6_tiedBy 7 = .ok (.if_icmp .ge 69, 3) := by decide +kernel
theorem dX6_tiedBy_10 : decode cX6_tiedBy 10 = .ok (.aload_n 0, 1) := by decide +kernel
theorem dX6_tiedBy_11 : decode cX6_tiedBy 11 = .ok (.iload_n 3, 1) := by decide +kernel
theorem dX6_tiedBy_12 : decode cX6_tiedBy 12 = .ok (.invokevirtual 67, 3) := by decide +kernel
theorem dX6_tiedBy_15 : decode cX6_tiedBy 15 = .ok (.ifCond .eq 55, 3) := by decide +kernel
theorem dX6_tiedBy_18 : decode cX6_tiedBy 18 = .ok (.aload_n 0, 1) := by decide +kernel
theorem dX6_tiedBy_19 : decode cX6_tiedBy 19 = .ok (.getfield 22, 3) := by decide +kernel
theorem dX6_tiedBy_22 : decode cX6_tiedBy 22 = .ok (.iload_n 3, 1) := by decide +kernel
theorem dX6_tiedBy_23 : decode cX6_tiedBy 23 = .ok (.iaload, 1) := by decide +kernel
theorem dX6_tiedBy_24 : decode cX6_tiedBy 24 = .ok (.iload_n 3, 1) := by decide +kernel
theorem dX6_tiedBy_25 : decode cX6_tiedBy 25 = .ok (.if_icmp .le 45, 3) := by decide +kernel
theorem dX6_tiedBy_28 : decode cX6_tiedBy 28 = .ok (.aload_n 0, 1) := by decide +kernel
theorem dX6_tiedBy_29 : decode cX6_tiedBy 29 = .ok (.getfield 19, 3) := by decide +kernel
theorem dX6_tiedBy_32 : decode cX6_tiedBy 32 = .ok (.bipush 8, 2) := by decide +kernel
theorem dX6_tiedBy_34 : decode cX6_tiedBy 34 = .ok (.iload_n 3, 1) := by decide +kernel
theorem dX6_tiedBy_35 : decode cX6_tiedBy 35 = .ok (.imul, 1) := by decide +kernel
theorem dX6_tiedBy_36 : decode cX6_tiedBy 36 = .ok (.aload_n 0, 1) := by decide +kernel
theorem dX6_tiedBy_37 : decode cX6_tiedBy 37 = .ok (.getfield 22, 3) := by decide +kernel
theorem dX6_tiedBy_40 : decode cX6_tiedBy 40 = .ok (.iload_n 3, 1) := by decide +kernel
theorem dX6_tiedBy_41 : decode cX6_tiedBy 41 = .ok (.iaload, 1) := by decide +kernel
theorem dX6_tiedBy_42 : decode cX6_tiedBy 42 = .ok (.iadd, 1) := by decide +kernel
theorem dX6_tiedBy_43 : decode cX6_tiedBy 43 = .ok (.iaload, 1) := by decide +kernel
theorem dX6_tiedBy_44 : decode cX6_tiedBy 44 = .ok (.istore 4, 2) := by decide +kernel
theorem dX6_tiedBy_46 : decode cX6_tiedBy 46 = .ok (.iload_n 1, 1) := by decide +kernel
theorem dX6_tiedBy_47 : decode cX6_tiedBy 47 = .ok (.ifCond .ne 10, 3) := by decide +kernel
theorem dX6_tiedBy_50 : decode cX6_tiedBy 50 = .ok (.iload_n 2, 1) := by decide +kernel
theorem dX6_tiedBy_51 : decode cX6_tiedBy 51 = .ok (.iload 4, 2) := by decide +kernel
theorem dX6_tiedBy_53 : decode cX6_tiedBy 53 = .ok (.iadd, 1) := by decide +kernel
theorem dX6_tiedBy_54 : decode cX6_tiedBy 54 = .ok (.goto 15, 3) := by decide +kernel
theorem dX6_tiedBy_57 : decode cX6_tiedBy 57 = .ok (.iload 4, 2) := by decide +kernel
theorem dX6_tiedBy_59 : decode cX6_tiedBy 59 = .ok (.iload_n 2, 1) := by decide +kernel
theorem dX6_tiedBy_60 : decode cX6_tiedBy 60 = .ok (.if_icmp .le 8, 3) := by decide +kernel
theorem dX6_tiedBy_63 : decode cX6_tiedBy 63 = .ok (.iload 4, 2) := by decide +kernel
theorem dX6_tiedBy_65 : decode cX6_tiedBy 65 = .ok (.goto 4, 3) := by decide +kernel
theorem dX6_tiedBy_68 : decode cX6_tiedBy 68 = .ok (.iload_n 2, 1) := by decide +kernel
theorem dX6_tiedBy_69 : decode cX6_tiedBy 69 = .ok (.istore_n 2, 1) := by decide +kernel
theorem dX6_tiedBy_70 : decode cX6_tiedBy 70 = .ok (.iinc 3 1, 3) := by decide +kernel
theorem dX6_tiedBy_73 : decode cX6_tiedBy 73 = .ok (.goto (-69), 3) := by decide +kernel
theorem dX6_tiedBy_76 : decode cX6_tiedBy 76 = .ok (.iload_n 2, 1) := by decide +kernel
theorem dX6_tiedBy_77 : decode cX6_tiedBy 77 = .ok (.ireturn, 1) := by decide +kernel
theorem dX6_tied_0 : decode cX6_tied 0 = .ok (.aload_n 0, 1) := by decide +kernel
theorem dX6_tied_1 : decode cX6_tied 1 = .ok (.getfield 54, 3) := by decide +kernel
theorem dX6_tied_4 : decode cX6_tied 4 = .ok (.invokestatic 63, 3) := by decide +kernel
theorem dX6_tied_7 : decode cX6_tied 7 = .ok (.istore 4, 2) := by decide +kernel
theorem dX6_tied_9 : decode cX6_tied 9 = .ok (.iload 4, 2) := by decide +kernel
theorem dX6_tied_11 : decode cX6_tied 11 = .ok (.ifCond .eq 11, 3) := by decide +kernel
theorem dX6_tied_14 : decode cX6_tied 14 = .ok (.iload 4, 2) := by decide +kernel
theorem dX6_tied_16 : decode cX6_tied 16 = .ok (.iconst 2, 1) := by decide +kernel
theorem dX6_tied_17 : decode cX6_tied 17 = .ok (.irem, 1) := by decide +kernel
theorem dX6_tied_18 : decode cX6_tied 18 = .ok (.iconst 1, 1) := by decide +kernel
theorem dX6_tied_19 : decode cX6_tied 19 = .ok (.if_icmp .ne 6, 3) := by decide +kernel
theorem dX6_tied_22 : decode cX6_tied 22 = .ok (.bipush (-3), 2) := by decide +kernel
theorem dX6_tied_24 : decode cX6_tied 24 = .ok (.ireturn, 1) := by decide +kernel
theorem dX6_tied_25 : decode cX6_tied 25 = .ok (.iload_n 3, 1) := by decide +kernel
theorem dX6_tied_26 : decode cX6_tied 26 = .ok (.iconst (-1), 1) := by decide +kernel
theorem dX6_tied_27 : decode cX6_tied 27 = .ok (.if_icmp .eq 13, 3) := by decide +kernel
theorem dX6_tied_30 : decode cX6_tied 30 = .ok (.aload_n 0, 1) := by decide +kernel
theorem dX6_tied_31 : decode cX6_tied 31 = .ok (.iload_n 3, 1) := by decide +kernel
theorem dX6_tied_32 : decode cX6_tied 32 = .ok (.invokevirtual 67, 3) := by decide +kernel
theorem dX6_tied_35 : decode cX6_tied 35 = .ok (.ifCond .ne 5, 3) := by decide +kernel
theorem dX6_tied_38 : decode cX6_tied 38 = .ok (.iconst (-1), 1) := by decide +kernel
theorem dX6_tied_39 : decode cX6_tied 39 = .ok (.ireturn, 1) := by decide +kernel
theorem dX6_tied_40 : decode cX6_tied 40 = .ok (.iload_n 1, 1) := by decide +kernel
theorem dX6_tied_41 : decode cX6_tied 41 = .ok (.invokestatic 146, 3) := by decide +kernel
theorem dX6_tied_44 : decode cX6_tied 44 = .ok (.ifCond .eq 13, 3) := by decide +kernel
theorem dX6_tied_47 : decode cX6_tied 47 = .ok (.iload_n 2, 1) := by decide +kernel
theorem dX6_tied_48 : decode cX6_tied 48 = .ok (.i2l, 1) := by decide +kernel
theorem dX6_tied_49 : decode cX6_tied 49 = .ok (.lconst 0, 1) := by decide +kernel
theorem dX6_tied_50 : decode cX6_tied 50 = .ok (.lconst 1, 1) := by decide +kernel
theorem dX6_tied_51 : decode cX6_tied 51 = .ok (.invokestatic 50, 3) := by decide +kernel
theorem dX6_tied_54 : decode cX6_tied 54 = .ok (.ifCond .ne 6, 3) := by decide +kernel
theorem dX6_tied_57 : decode cX6_tied 57 = .ok (.bipush (-2), 2) := by decide +kernel
theorem dX6_tied_59 : decode cX6_tied 59 = .ok (.ireturn, 1) := by decide +kernel
theorem dX6_tied_60 : decode cX6_tied 60 = .ok (.aload_n 0, 1) := by decide +kernel
theorem dX6_tied_61 : decode cX6_tied 61 = .ok (.iload_n 1, 1) := by decide +kernel
theorem dX6_tied_62 : decode cX6_tied 62 = .ok (.invokevirtual 153, 3) := by decide +kernel
theorem dX6_tied_65 : decode cX6_tied 65 = .ok (.iload 4, 2) := by decide +kernel
theorem dX6_tied_67 : decode cX6_tied 67 = .ok (.iconst 2, 1) := by decide +kernel
theorem dX6_tied_68 : decode cX6_tied 68 = .ok (.if_icmp .ne 7, 3) := by decide +kernel
theorem dX6_tied_71 : decode cX6_tied 71 = .ok (.iconst 1, 1) := by decide +kernel
theorem dX6_tied_72 : decode cX6_tied 72 = .ok (.goto 27, 3) := by decide +kernel
theorem dX6_tied_75 : decode cX6_tied 75 = .ok (.iload 4, 2) := by decide +kernel
theorem dX6_tied_77 : decode cX6_tied 77 = .ok (.iconst 4, 1) := by decide +kernel
theorem dX6_tied_78 : decode cX6_tied 78 = .ok (.if_icmp .ne 7, 3) := by decide +kernel
theorem dX6_tied_81 : decode cX6_tied 81 = .ok (.iconst 3, 1) := by decide +kernel
theorem dX6_tied_82 : decode cX6_tied 82 = .ok (.goto 17, 3) := by decide +kernel
theorem dX6_tied_85 : decode cX6_tied 85 = .ok (.iload 4, 2) := by decide +kernel
theorem dX6_tied_87 : decode cX6_tied 87 = .ok (.bipush 6, 2) := by decide +kernel
theorem dX6_tied_89 : decode cX6_tied 89 = .ok (.if_icmp .ne 8, 3) := by decide +kernel
theorem dX6_tied_92 : decode cX6_tied 92 = .ok (.bipush 15, 2) := by decide +kernel
theorem dX6_tied_94 : decode cX6_tied 94 = .ok (.goto 5, 3) := by decide +kernel
theorem dX6_tied_97 : decode cX6_tied 97 = .ok (.bipush 105, 2) := by decide +kernel
theorem dX6_tied_99 : decode cX6_tied 99 = .ok (.istore 5, 2) := by decide +kernel
theorem dX6_tied_101 : decode cX6_tied 101 = .ok (.ldc 135, 2) := by decide +kernel
theorem dX6_tied_103 : decode cX6_tied 103 = .ok (.istore 6, 2) := by decide +kernel
theorem dX6_tied_105 : decode cX6_tied 105 = .ok (.iconst 0, 1) := by decide +kernel
theorem dX6_tied_106 : decode cX6_tied 106 = .ok (.istore 7, 2) := by decide +kernel
theorem dX6_tied_108 : decode cX6_tied 108 = .ok (.iload 7, 2) := by decide +kernel
theorem dX6_tied_110 : decode cX6_tied 110 = .ok (.iload 5, 2) := by decide +kernel
theorem dX6_tied_112 : decode cX6_tied 112 = .ok (.if_icmp .ge 65, 3) := by decide +kernel
theorem dX6_tied_115 : decode cX6_tied 115 = .ok (.aload_n 0, 1) := by decide +kernel
theorem dX6_tied_116 : decode cX6_tied 116 = .ok (.iload 7, 2) := by decide +kernel
theorem dX6_tied_118 : decode cX6_tied 118 = .ok (.iload 5, 2) := by decide +kernel
theorem dX6_tied_120 : decode cX6_tied 120 = .ok (.invokevirtual 157, 3) := by decide +kernel
theorem dX6_tied_123 : decode cX6_tied 123 = .ok (.aload_n 0, 1) := by decide +kernel
theorem dX6_tied_124 : decode cX6_tied 124 = .ok (.iload_n 2, 1) := by decide +kernel
theorem dX6_tied_125 : decode cX6_tied 125 = .ok (.invokevirtual 160, 3) := by decide +kernel
theorem dX6_tied_128 : decode cX6_tied 128 = .ok (.istore 8, 2) := by decide +kernel
theorem dX6_tied_130 : decode cX6_tied 130 = .ok (.iload 8, 2) := by decide +kernel
theorem dX6_tied_132 : decode cX6_tied 132 = .ok (.iload 6, 2) := by decide +kernel
theorem dX6_tied_134 : decode cX6_tied 134 = .ok (.if_icmp .ge 37, 3) := by decide +kernel
theorem dX6_tied_137 : decode cX6_tied 137 = .ok (.iload 8, 2) := by decide +kernel
theorem dX6_tied_139 : decode cX6_tied 139 = .ok (.istore 6, 2) := by decide +kernel
theorem dX6_tied_141 : decode cX6_tied 141 = .ok (.iconst 0, 1) := by decide +kernel
theorem dX6_tied_142 : decode cX6_tied 142 = .ok (.istore 9, 2) := by decide +kernel
theorem dX6_tied_144 : decode cX6_tied 144 = .ok (.iload 9, 2) := by decide +kernel
theorem dX6_tied_146 : decode cX6_tied 146 = .ok (.bipush 8, 2) := by decide +kernel
theorem dX6_tied_148 : decode cX6_tied 148 = .ok (.if_icmp .ge 23, 3) := by decide +kernel
theorem dX6_tied_151 : decode cX6_tied 151 = .ok (.aload_n 0, 1) := by decide +kernel
theorem dX6_tied_152 : decode cX6_tied 152 = .ok (.getfield 25, 3) := by decide +kernel
theorem dX6_tied_155 : decode cX6_tied 155 = .ok (.iload 9, 2) := by decide +kernel
theorem dX6_tied_157 : decode cX6_tied 157 = .ok (.aload_n 0, 1) := by decide +kernel
theorem dX6_tied_158 : decode cX6_tied 158 = .ok (.getfield 22, 3) := by decide +kernel
theorem dX6_tied_161 : decode cX6_tied 161 = .ok (.iload 9, 2) := by decide +kernel
theorem dX6_tied_163 : decode cX6_tied 163 = .ok (.iaload, 1) := by decide +kernel
theorem dX6_tied_164 : decode cX6_tied 164 = .ok (.iastore, 1) := by decide +kernel
theorem dX6_tied_165 : decode cX6_tied 165 = .ok (.iinc 9 1, 3) := by decide +kernel
theorem dX6_tied_168 : decode cX6_tied 168 = .ok (.goto (-24), 3) := by decide +kernel
theorem dX6_tied_171 : decode cX6_tied 171 = .ok (.iinc 7 1, 3) := by decide +kernel
theorem dX6_tied_174 : decode cX6_tied 174 = .ok (.goto (-66), 3) := by decide +kernel
theorem dX6_tied_177 : decode cX6_tied 177 = .ok (.iload_n 3, 1) := by decide +kernel
theorem dX6_tied_178 : decode cX6_tied 178 = .ok (.iconst (-1), 1) := by decide +kernel
theorem dX6_tied_179 : decode cX6_tied 179 = .ok (.if_icmp .ne 8, 3) := by decide +kernel
theorem dX6_tied_182 : decode cX6_tied 182 = .ok (.iload 6, 2) := by decide +kernel
theorem dX6_tied_184 : decode cX6_tied 184 = .ok (.goto 9, 3) := by decide +kernel
theorem dX6_tied_187 : decode cX6_tied 187 = .ok (.aload_n 0, 1) := by decide +kernel
theorem dX6_tied_188 : decode cX6_tied 188 = .ok (.getfield 25, 3) := by decide +kernel
theorem dX6_tied_191 : decode cX6_tied 191 = .ok (.iload_n 3, 1) := by decide +kernel
theorem dX6_tied_192 : decode cX6_tied 192 = .ok (.iaload, 1) := by decide +kernel
theorem dX6_tied_193 : decode cX6_tied 193 = .ok (.ireturn, 1) := by decide +kernel
theorem dX6_tryOne_0 : decode cX6_tryOne 0 = .ok (.aload_n 0, 1) := by decide +kernel
theorem dX6_tryOne_1 : decode cX6_tryOne 1 = .ok (.iload_n 2, 1) := by decide +kernel
theorem dX6_tryOne_2 : decode cX6_tryOne 2 = .ok (.invokevirtual 149, 3) := by decide +kernel
theorem dX6_tryOne_5 : decode cX6_tryOne 5 = .ok (.istore_n 3, 1) := by decide +kernel
theorem dX6_tryOne_6 : decode cX6_tryOne 6 = .ok (.aload_n 0, 1) := by decide +kernel
theorem dX6_tryOne_7 : decode cX6_tryOne 7 = .ok (.iload_n 3, 1) := by decide +kernel
theorem dX6_tryOne_8 : decode cX6_tryOne 8 = .ok (.aload_n 0, 1) := by decide +kernel
theorem dX6_tryOne_9 : decode cX6_tryOne 9 = .ok (.getfield 163, 3) := by decide +kernel
theorem dX6_tryOne_12 : decode cX6_tryOne 12 = .ok (.if_icmp .ge 7, 3) := by decide +kernel
theorem dX6_tryOne_15 : decode cX6_tryOne 15 = .ok (.iload_n 1, 1) := by decide +kernel
theorem dX6_tryOne_16 : decode cX6_tryOne 16 = .ok (.goto 7, 3) := by decide +kernel
theorem dX6_tryOne_19 : decode cX6_tryOne 19 = .ok (.aload_n 0, 1) := by decide +kernel
theorem dX6_tryOne_20 : decode cX6_tryOne 20 = .ok (.getfield 166, 3) := by decide +kernel
theorem dX6_tryOne_23 : decode cX6_tryOne 23 = .ok (.putfield 166, 3) := by decide +kernel
theorem dX6_tryOne_26 : decode cX6_tryOne 26 = .ok (.aload_n 0, 1) := by decide +kernel
theorem dX6_tryOne_27 : decode cX6_tryOne 27 = .ok (.iload_n 3, 1) := by decide +kernel
theorem dX6_tryOne_28 : decode cX6_tryOne 28 = .ok (.aload_n 0, 1) := by decide +kernel
theorem dX6_tryOne_29 : decode cX6_tryOne 29 = .ok (.getfield 163, 3) := by decide +kernel
theorem dX6_tryOne_32 : decode cX6_tryOne 32 = .ok (.if_icmp .ge 7, 3) := by decide +kernel
theorem dX6_tryOne_35 : decode cX6_tryOne 35 = .ok (.iload_n 3, 1) := by decide +kernel
theorem dX6_tryOne_36 : decode cX6_tryOne 36 = .ok (.goto 7, 3) := by decide +kernel
theorem dX6_tryOne_39 : decode cX6_tryOne 39 = .ok (.aload_n 0, 1) := by decide +kernel
theorem dX6_tryOne_40 : decode cX6_tryOne 40 = .ok (.getfield 163, 3) := by decide +kernel
theorem dX6_tryOne_43 : decode cX6_tryOne 43 = .ok (.putfield 163, 3) := by decide +kernel
theorem dX6_tryOne_46 : decode cX6_tryOne 46 = .ok (.return_, 1) := by decide +kernel
theorem dX6_beginTries_0 : decode cX6_beginTries 0 = .ok (.aload_n 0, 1) := by decide +kernel
theorem dX6_beginTries_1 : decode cX6_beginTries 1 = .ok (.bipush (-6), 2) := by decide +kernel
theorem dX6_beginTries_3 : decode cX6_beginTries 3 = .ok (.putfield 166, 3) := by decide +kernel
theorem dX6_beginTries_6 : decode cX6_beginTries 6 = .ok (.aload_n 0, 1) := by decide +kernel
theorem dX6_beginTries_7 : decode cX6_beginTries 7 = .ok (.ldc 135, 2) := by decide +kernel
theorem dX6_beginTries_9 : decode cX6_beginTries 9 = .ok (.putfield 163, 3) := by decide +kernel
theorem dX6_beginTries_12 : decode cX6_beginTries 12 = .ok (.return_, 1) := by decide +kernel
theorem dX6_tellBest_0 : decode cX6_tellBest 0 = .ok (.aload_n 0, 1) := by decide +kernel
theorem dX6_tellBest_1 : decode cX6_tellBest 1 = .ok (.getfield 166, 3) := by decide +kernel
theorem dX6_tellBest_4 : decode cX6_tellBest 4 = .ok (.ifCond .lt 7, 3) := by decide +kernel
theorem dX6_tellBest_7 : decode cX6_tellBest 7 = .ok (.iload_n 1, 1) := by decide +kernel
theorem dX6_tellBest_8 : decode cX6_tellBest 8 = .ok (.ifCond .ne 10, 3) := by decide +kernel
theorem dX6_tellBest_11 : decode cX6_tellBest 11 = .ok (.aload_n 0, 1) := by decide +kernel
theorem dX6_tellBest_12 : decode cX6_tellBest 12 = .ok (.getfield 166, 3) := by decide +kernel
theorem dX6_tellBest_15 : decode cX6_tellBest 15 = .ok (.goto 7, 3) := by decide +kernel
theorem dX6_tellBest_18 : decode cX6_tellBest 18 = .ok (.aload_n 0, 1) := by decide +kernel
theorem dX6_tellBest_19 : decode cX6_tellBest 19 = .ok (.getfield 163, 3) := by decide +kernel
theorem dX6_tellBest_22 : decode cX6_tellBest 22 = .ok (.ireturn, 1) := by decide +kernel
theorem dX6_isAsked_0 : decode cX6_isAsked 0 = .ok (.iload_n 0, 1) := by decide +kernel
theorem dX6_isAsked_1 : decode cX6_isAsked 1 = .ok (.invokestatic 146, 3) := by decide +kernel
theorem dX6_isAsked_4 : decode cX6_isAsked 4 = .ok (.ifCond .eq 17, 3) := by decide +kernel
theorem dX6_isAsked_7 : decode cX6_isAsked 7 = .ok (.iload_n 1, 1) := by decide +kernel
theorem dX6_isAsked_8 : decode cX6_isAsked 8 = .ok (.i2l, 1) := by decide +kernel
theorem dX6_isAsked_9 : decode cX6_isAsked 9 = .ok (.lconst 0, 1) := by decide +kernel
theorem dX6_isAsked_10 : decode cX6_isAsked 10 = .ok (.lconst 1, 1) := by decide +kernel
theorem dX6_isAsked_11 : decode cX6_isAsked 11 = .ok (.invokestatic 50, 3) := by decide +kernel
theorem dX6_isAsked_14 : decode cX6_isAsked 14 = .ok (.ifCond .eq 7, 3) := by decide +kernel
theorem dX6_isAsked_17 : decode cX6_isAsked 17 = .ok (.iconst 1, 1) := by decide +kernel
theorem dX6_isAsked_18 : decode cX6_isAsked 18 = .ok (.goto 4, 3) := by decide +kernel
theorem dX6_isAsked_21 : decode cX6_isAsked 21 = .ok (.iconst 0, 1) := by decide +kernel
theorem dX6_isAsked_22 : decode cX6_isAsked 22 = .ok (.ireturn, 1) := by decide +kernel
theorem dX6_call_0 : decode cX6_call 0 = .ok (.aload_n 0, 1) := by decide +kernel
theorem dX6_call_1 : decode cX6_call 1 = .ok (.iload_n 1, 1) := by decide +kernel
theorem dX6_call_2 : decode cX6_call 2 = .ok (.iload_n 2, 1) := by decide +kernel
theorem dX6_call_3 : decode cX6_call 3 = .ok (.invokevirtual 136, 3) := by decide +kernel
theorem dX6_call_6 : decode cX6_call 6 = .ok (.ifCond .ne 5, 3) := by decide +kernel
theorem dX6_call_9 : decode cX6_call 9 = .ok (.iconst (-1), 1) := by decide +kernel
theorem dX6_call_10 : decode cX6_call 10 = .ok (.ireturn, 1) := by decide +kernel
theorem dX6_call_11 : decode cX6_call 11 = .ok (.iload_n 3, 1) := by decide +kernel
theorem dX6_call_12 : decode cX6_call 12 = .ok (.iload 4, 2) := by decide +kernel
theorem dX6_call_14 : decode cX6_call 14 = .ok (.invokestatic 169, 3) := by decide +kernel
theorem dX6_call_17 : decode cX6_call 17 = .ok (.ifCond .ne 6, 3) := by decide +kernel
theorem dX6_call_20 : decode cX6_call 20 = .ok (.bipush (-2), 2) := by decide +kernel
theorem dX6_call_22 : decode cX6_call 22 = .ok (.ireturn, 1) := by decide +kernel
theorem dX6_call_23 : decode cX6_call 23 = .ok (.aload_n 0, 1) := by decide +kernel
theorem dX6_call_24 : decode cX6_call 24 = .ok (.iload_n 1, 1) := by decide +kernel
theorem dX6_call_25 : decode cX6_call 25 = .ok (.iload_n 2, 1) := by decide +kernel
theorem dX6_call_26 : decode cX6_call 26 = .ok (.invokevirtual 142, 3) := by decide +kernel
theorem dX6_call_29 : decode cX6_call 29 = .ok (.aload_n 0, 1) := by decide +kernel
theorem dX6_call_30 : decode cX6_call 30 = .ok (.invokevirtual 172, 3) := by decide +kernel
theorem dX6_call_33 : decode cX6_call 33 = .ok (.iconst 4, 1) := by decide +kernel
theorem dX6_call_34 : decode cX6_call 34 = .ok (.istore 5, 2) := by decide +kernel
theorem dX6_call_36 : decode cX6_call 36 = .ok (.iload 5, 2) := by decide +kernel
theorem dX6_call_38 : decode cX6_call 38 = .ok (.bipush 20, 2) := by decide +kernel
theorem dX6_call_40 : decode cX6_call 40 = .ok (.if_icmp .gt 28, 3) := by decide +kernel
theorem dX6_call_43 : decode cX6_call 43 = .ok (.aload_n 0, 1) := by decide +kernel
theorem dX6_call_44 : decode cX6_call 44 = .ok (.iload 5, 2) := by decide +kernel
theorem dX6_call_46 : decode cX6_call 46 = .ok (.putfield 73, 3) := by decide +kernel
theorem dX6_call_49 : decode cX6_call 49 = .ok (.aload_n 0, 1) := by decide +kernel
theorem dX6_call_50 : decode cX6_call 50 = .ok (.iload 5, 2) := by decide +kernel
theorem dX6_call_52 : decode cX6_call 52 = .ok (.putfield 76, 3) := by decide +kernel
theorem dX6_call_55 : decode cX6_call 55 = .ok (.aload_n 0, 1) := by decide +kernel
theorem dX6_call_56 : decode cX6_call 56 = .ok (.iload 5, 2) := by decide +kernel
theorem dX6_call_58 : decode cX6_call 58 = .ok (.iload_n 3, 1) := by decide +kernel
theorem dX6_call_59 : decode cX6_call 59 = .ok (.invokevirtual 175, 3) := by decide +kernel
theorem dX6_call_62 : decode cX6_call 62 = .ok (.iinc 5 1, 3) := by decide +kernel
theorem dX6_call_65 : decode cX6_call 65 = .ok (.goto (-29), 3) := by decide +kernel
theorem dX6_call_68 : decode cX6_call 68 = .ok (.aload_n 0, 1) := by decide +kernel
theorem dX6_call_69 : decode cX6_call 69 = .ok (.iload 4, 2) := by decide +kernel
theorem dX6_call_71 : decode cX6_call 71 = .ok (.invokevirtual 178, 3) := by decide +kernel
theorem dX6_call_74 : decode cX6_call 74 = .ok (.ireturn, 1) := by decide +kernel
theorem dX6_quicken_0 : decode cX6_quicken 0 = .ok (.aload_n 0, 1) := by decide +kernel
theorem dX6_quicken_1 : decode cX6_quicken 1 = .ok (.iload_n 1, 1) := by decide +kernel
theorem dX6_quicken_2 : decode cX6_quicken 2 = .ok (.iload_n 2, 1) := by decide +kernel
theorem dX6_quicken_3 : decode cX6_quicken 3 = .ok (.invokevirtual 136, 3) := by decide +kernel
theorem dX6_quicken_6 : decode cX6_quicken 6 = .ok (.ifCond .ne 5, 3) := by decide +kernel
theorem dX6_quicken_9 : decode cX6_quicken 9 = .ok (.iconst (-1), 1) := by decide +kernel
theorem dX6_quicken_10 : decode cX6_quicken 10 = .ok (.ireturn, 1) := by decide +kernel
theorem dX6_quicken_11 : decode cX6_quicken 11 = .ok (.iload_n 3, 1) := by decide +kernel
theorem dX6_quicken_12 : decode cX6_quicken 12 = .ok (.iload 4, 2) := by decide +kernel
theorem dX6_quicken_14 : decode cX6_quicken 14 = .ok (.invokestatic 169, 3) := by decide +kernel
theorem dX6_quicken_17 : decode cX6_quicken 17 = .ok (.ifCond .ne 6, 3) := by decide +kernel
theorem dX6_quicken_20 : decode cX6_quicken 20 = .ok (.bipush (-2), 2) := by decide +kernel
theorem dX6_quicken_22 : decode cX6_quicken 22 = .ok (.ireturn, 1) := by decide +kernel
theorem dX6_quicken_23 : decode cX6_quicken 23 = .ok (.aload_n 0, 1) := by decide +kernel
theorem dX6_quicken_24 : decode cX6_quicken 24 = .ok (.iload_n 1, 1) := by decide +kernel
theorem dX6_quicken_25 : decode cX6_quicken 25 = .ok (.iload_n 2, 1) := by decide +kernel
theorem dX6_quicken_26 : decode cX6_quicken 26 = .ok (.invokevirtual 142, 3) := by decide +kernel
theorem dX6_quicken_29 : decode cX6_quicken 29 = .ok (.aload_n 0, 1) := by decide +kernel
theorem dX6_quicken_30 : decode cX6_quicken 30 = .ok (.invokevirtual 172, 3) := by decide +kernel
theorem dX6_quicken_33 : decode cX6_quicken 33 = .ok (.iconst 0, 1) := by decide +kernel
theorem dX6_quicken_34 : decode cX6_quicken 34 = .ok (.istore 5, 2) := by decide +kernel
theorem dX6_quicken_36 : decode cX6_quicken 36 = .ok (.iload 5, 2) := by decide +kernel
theorem dX6_quicken_38 : decode cX6_quicken 38 = .ok (.bipush 61, 2) := by decide +kernel
theorem dX6_quicken_40 : decode cX6_quicken 40 = .ok (.if_icmp .gt 35, 3) := by decide +kernel
theorem dX6_quicken_43 : decode cX6_quicken 43 = .ok (.aload_n 0, 1) := by decide +kernel
theorem dX6_quicken_44 : decode cX6_quicken 44 = .ok (.iload 5, 2) := by decide +kernel
theorem dX6_quicken_46 : decode cX6_quicken 46 = .ok (.bipush 61, 2) := by decide +kernel
theorem dX6_quicken_48 : decode cX6_quicken 48 = .ok (.if_icmp .ne 9, 3) := by decide +kernel
theorem dX6_quicken_51 : decode cX6_quicken 51 = .ok (.sipush 1000, 3) := by decide +kernel
theorem dX6_quicken_54 : decode cX6_quicken 54 = .ok (.goto 5, 3) := by decide +kernel
theorem dX6_quicken_57 : decode cX6_quicken 57 = .ok (.iload 5, 2) := by decide +kernel
theorem dX6_quicken_59 : decode cX6_quicken 59 = .ok (.putfield 88, 3) := by decide +kernel
theorem dX6_quicken_62 : decode cX6_quicken 62 = .ok (.aload_n 0, 1) := by decide +kernel
theorem dX6_quicken_63 : decode cX6_quicken 63 = .ok (.iload 5, 2) := by decide +kernel
theorem dX6_quicken_65 : decode cX6_quicken 65 = .ok (.iload_n 3, 1) := by decide +kernel
theorem dX6_quicken_66 : decode cX6_quicken 66 = .ok (.invokevirtual 175, 3) := by decide +kernel
theorem dX6_quicken_69 : decode cX6_quicken 69 = .ok (.iinc 5 1, 3) := by decide +kernel
theorem dX6_quicken_72 : decode cX6_quicken 72 = .ok (.goto (-36), 3) := by decide +kernel
theorem dX6_quicken_75 : decode cX6_quicken 75 = .ok (.aload_n 0, 1) := by decide +kernel
theorem dX6_quicken_76 : decode cX6_quicken 76 = .ok (.iload 4, 2) := by decide +kernel
theorem dX6_quicken_78 : decode cX6_quicken 78 = .ok (.invokevirtual 178, 3) := by decide +kernel
theorem dX6_quicken_81 : decode cX6_quicken 81 = .ok (.ireturn, 1) := by decide +kernel
theorem dX6_yields_0 : decode cX6_yields 0 = .ok (.aload_n 0, 1) := by decide +kernel
theorem dX6_yields_1 : decode cX6_yields 1 = .ok (.iload_n 1, 1) := by decide +kernel
theorem dX6_yields_2 : decode cX6_yields 2 = .ok (.iload_n 2, 1) := by decide +kernel
theorem dX6_yields_3 : decode cX6_yields 3 = .ok (.invokevirtual 136, 3) := by decide +kernel
theorem dX6_yields_6 : decode cX6_yields 6 = .ok (.ifCond .ne 5, 3) := by decide +kernel
theorem dX6_yields_9 : decode cX6_yields 9 = .ok (.iconst (-1), 1) := by decide +kernel
theorem dX6_yields_10 : decode cX6_yields 10 = .ok (.ireturn, 1) := by decide +kernel
theorem dX6_yields_11 : decode cX6_yields 11 = .ok (.iload_n 3, 1) := by decide +kernel
theorem dX6_yields_12 : decode cX6_yields 12 = .ok (.iload 4, 2) := by decide +kernel
theorem dX6_yields_14 : decode cX6_yields 14 = .ok (.invokestatic 169, 3) := by decide +kernel
theorem dX6_yields_17 : decode cX6_yields 17 = .ok (.ifCond .ne 6, 3) := by decide +kernel
theorem dX6_yields_20 : decode cX6_yields 20 = .ok (.bipush (-2), 2) := by decide +kernel
theorem dX6_yields_22 : decode cX6_yields 22 = .ok (.ireturn, 1) := by decide +kernel
theorem dX6_yields_23 : decode cX6_yields 23 = .ok (.aload_n 0, 1) := by decide +kernel
theorem dX6_yields_24 : decode cX6_yields 24 = .ok (.iload_n 1, 1) := by decide +kernel
theorem dX6_yields_25 : decode cX6_yields 25 = .ok (.iload_n 2, 1) := by decide +kernel
theorem dX6_yields_26 : decode cX6_yields 26 = .ok (.invokevirtual 142, 3) := by decide +kernel
theorem dX6_yields_29 : decode cX6_yields 29 = .ok (.aload_n 0, 1) := by decide +kernel
theorem dX6_yields_30 : decode cX6_yields 30 = .ok (.invokevirtual 172, 3) := by decide +kernel
theorem dX6_yields_33 : decode cX6_yields 33 = .ok (.iconst 0, 1) := by decide +kernel
theorem dX6_yields_34 : decode cX6_yields 34 = .ok (.istore 5, 2) := by decide +kernel
theorem dX6_yields_36 : decode cX6_yields 36 = .ok (.iload 5, 2) := by decide +kernel
theorem dX6_yields_38 : decode cX6_yields 38 = .ok (.bipush 25, 2) := by decide +kernel
theorem dX6_yields_40 : decode cX6_yields 40 = .ok (.if_icmp .ge 42, 3) := by decide +kernel
theorem dX6_yields_43 : decode cX6_yields 43 = .ok (.aload_n 0, 1) := by decide +kernel
theorem dX6_yields_44 : decode cX6_yields 44 = .ok (.iload 5, 2) := by decide +kernel
theorem dX6_yields_46 : decode cX6_yields 46 = .ok (.iconst 5, 1) := by decide +kernel
theorem dX6_yields_47 : decode cX6_yields 47 = .ok (.idiv, 1) := by decide +kernel
theorem dX6_yields_48 : decode cX6_yields 48 = .ok (.putfield 79, 3) := by decide +kernel
theorem dX6_yields_51 : decode cX6_yields 51 = .ok (.aload_n 0, 1) := by decide +kernel
theorem dX6_yields_52 : decode cX6_yields 52 = .ok (.iload 5, 2) := by decide +kernel
theorem dX6_yields_54 : decode cX6_yields 54 = .ok (.iconst 5, 1) := by decide +kernel
theorem dX6_yields_55 : decode cX6_yields 55 = .ok (.irem, 1) := by decide +kernel
theorem dX6_yields_56 : decode cX6_yields 56 = .ok (.putfield 82, 3) := by decide +kernel
theorem dX6_yields_59 : decode cX6_yields 59 = .ok (.aload_n 0, 1) := by decide +kernel
theorem dX6_yields_60 : decode cX6_yields 60 = .ok (.bipush 10, 2) := by decide +kernel
theorem dX6_yields_62 : decode cX6_yields 62 = .ok (.aload_n 0, 1) := by decide +kernel
theorem dX6_yields_63 : decode cX6_yields 63 = .ok (.getfield 79, 3) := by decide +kernel
theorem dX6_yields_66 : decode cX6_yields 66 = .ok (.imul, 1) := by decide +kernel
theorem dX6_yields_67 : decode cX6_yields 67 = .ok (.aload_n 0, 1) := by decide +kernel
theorem dX6_yields_68 : decode cX6_yields 68 = .ok (.getfield 82, 3) := by decide +kernel
theorem dX6_yields_71 : decode cX6_yields 71 = .ok (.iadd, 1) := by decide +kernel
theorem dX6_yields_72 : decode cX6_yields 72 = .ok (.iload_n 3, 1) := by decide +kernel
theorem dX6_yields_73 : decode cX6_yields 73 = .ok (.invokevirtual 175, 3) := by decide +kernel
theorem dX6_yields_76 : decode cX6_yields 76 = .ok (.iinc 5 1, 3) := by decide +kernel
theorem dX6_yields_79 : decode cX6_yields 79 = .ok (.goto (-43), 3) := by decide +kernel
theorem dX6_yields_82 : decode cX6_yields 82 = .ok (.aload_n 0, 1) := by decide +kernel
theorem dX6_yields_83 : decode cX6_yields 83 = .ok (.iload 4, 2) := by decide +kernel
theorem dX6_yields_85 : decode cX6_yields 85 = .ok (.invokevirtual 178, 3) := by decide +kernel
theorem dX6_yields_88 : decode cX6_yields 88 = .ok (.ireturn, 1) := by decide +kernel
theorem dX6_fallsIn_0 : decode cX6_fallsIn 0 = .ok (.aload_n 0, 1) := by decide +kernel
theorem dX6_fallsIn_1 : decode cX6_fallsIn 1 = .ok (.invokevirtual 125, 3) := by decide +kernel
theorem dX6_fallsIn_4 : decode cX6_fallsIn 4 = .ok (.aload_n 0, 1) := by decide +kernel
theorem dX6_fallsIn_5 : decode cX6_fallsIn 5 = .ok (.getfield 109, 3) := by decide +kernel
theorem dX6_fallsIn_8 : decode cX6_fallsIn 8 = .ok (.iload_n 1, 1) := by decide +kernel
theorem dX6_fallsIn_9 : decode cX6_fallsIn 9 = .ok (.if_icmp .ge 17, 3) := by decide +kernel
theorem dX6_fallsIn_12 : decode cX6_fallsIn 12 = .ok (.aload_n 0, 1) := by decide +kernel
theorem dX6_fallsIn_13 : decode cX6_fallsIn 13 = .ok (.getfield 106, 3) := by decide +kernel
theorem dX6_fallsIn_16 : decode cX6_fallsIn 16 = .ok (.ifCond .ne 10, 3) := by decide +kernel
theorem dX6_fallsIn_19 : decode cX6_fallsIn 19 = .ok (.aload_n 0, 1) := by decide +kernel
theorem dX6_fallsIn_20 : decode cX6_fallsIn 20 = .ok (.invokevirtual 128, 3) := by decide +kernel
theorem dX6_fallsIn_23 : decode cX6_fallsIn 23 = .ok (.goto (-19), 3) := by decide +kernel
theorem dX6_fallsIn_26 : decode cX6_fallsIn 26 = .ok (.aload_n 0, 1) := by decide +kernel
theorem dX6_fallsIn_27 : decode cX6_fallsIn 27 = .ok (.getfield 106, 3) := by decide +kernel
theorem dX6_fallsIn_30 : decode cX6_fallsIn 30 = .ok (.ifCond .le 7, 3) := by decide +kernel
theorem dX6_fallsIn_33 : decode cX6_fallsIn 33 = .ok (.iconst 1, 1) := by decide +kernel
theorem dX6_fallsIn_34 : decode cX6_fallsIn 34 = .ok (.goto 4, 3) := by decide +kernel
theorem dX6_fallsIn_37 : decode cX6_fallsIn 37 = .ok (.iconst 0, 1) := by decide +kernel
theorem dX6_fallsIn_38 : decode cX6_fallsIn 38 = .ok (.ireturn, 1) := by decide +kernel
theorem dX6_practice_0 : decode cX6_practice 0 = .ok (.aload_n 0, 1) := by decide +kernel
theorem dX6_practice_1 : decode cX6_practice 1 = .ok (.iload_n 1, 1) := by decide +kernel
theorem dX6_practice_2 : decode cX6_practice 2 = .ok (.iload_n 2, 1) := by decide +kernel
theorem dX6_practice_3 : decode cX6_practice 3 = .ok (.invokevirtual 136, 3) := by decide +kernel
theorem dX6_practice_6 : decode cX6_practice 6 = .ok (.ifCond .ne 5, 3) := by decide +kernel
theorem dX6_practice_9 : decode cX6_practice 9 = .ok (.iconst (-1), 1) := by decide +kernel
theorem dX6_practice_10 : decode cX6_practice 10 = .ok (.ireturn, 1) := by decide +kernel
theorem dX6_practice_11 : decode cX6_practice 11 = .ok (.iload_n 3, 1) := by decide +kernel
theorem dX6_practice_12 : decode cX6_practice 12 = .ok (.i2l, 1) := by decide +kernel
theorem dX6_practice_13 : decode cX6_practice 13 = .ok (.lconst 0, 1) := by decide +kernel
theorem dX6_practice_14 : decode cX6_practice 14 = .ok (.ldc2_w 140, 3) := by decide +kernel
theorem dX6_practice_17 : decode cX6_practice 17 = .ok (.invokestatic 50, 3) := by decide +kernel
theorem dX6_practice_20 : decode cX6_practice 20 = .ok (.ifCond .eq 14, 3) := by decide +kernel
theorem dX6_practice_23 : decode cX6_practice 23 = .ok (.iload 4, 2) := by decide +kernel
theorem dX6_practice_25 : decode cX6_practice 25 = .ok (.i2l, 1) := by decide +kernel
theorem dX6_practice_26 : decode cX6_practice 26 = .ok (.lconst 0, 1) := by decide +kernel
theorem dX6_practice_27 : decode cX6_practice 27 = .ok (.lconst 1, 1) := by decide +kernel
theorem dX6_practice_28 : decode cX6_practice 28 = .ok (.invokestatic 50, 3) := by decide +kernel
theorem dX6_practice_31 : decode cX6_practice 31 = .ok (.ifCond .ne 6, 3) := by decide +kernel
theorem dX6_practice_34 : decode cX6_practice 34 = .ok (.bipush (-2), 2) := by decide +kernel
theorem dX6_practice_36 : decode cX6_practice 36 = .ok (.ireturn, 1) := by decide +kernel
theorem dX6_practice_37 : decode cX6_practice 37 = .ok (.aload_n 0, 1) := by decide +kernel
theorem dX6_practice_38 : decode cX6_practice 38 = .ok (.iload_n 1, 1) := by decide +kernel
theorem dX6_practice_39 : decode cX6_practice 39 = .ok (.iload_n 2, 1) := by decide +kernel
theorem dX6_practice_40 : decode cX6_practice 40 = .ok (.invokevirtual 142, 3) := by decide +kernel
theorem dX6_practice_43 : decode cX6_practice 43 = .ok (.bipush (-6), 2) := by decide +kernel
theorem dX6_practice_45 : decode cX6_practice 45 = .ok (.istore 5, 2) := by decide +kernel
theorem dX6_practice_47 : decode cX6_practice 47 = .ok (.iconst 0, 1) := by decide +kernel
theorem dX6_practice_48 : decode cX6_practice 48 = .ok (.istore 6, 2) := by decide +kernel
theorem dX6_practice_50 : decode cX6_practice 50 = .ok (.aload_n 0, 1) := by decide +kernel
theorem dX6_practice_51 : decode cX6_practice 51 = .ok (.getfield 16, 3) := by decide +kernel
theorem dX6_practice_54 : decode cX6_practice 54 = .ok (.iload_n 1, 1) := by decide +kernel
theorem dX6_practice_55 : decode cX6_practice 55 = .ok (.iaload, 1) := by decide +kernel
theorem dX6_practice_56 : decode cX6_practice 56 = .ok (.istore 7, 2) := by decide +kernel
theorem dX6_practice_58 : decode cX6_practice 58 = .ok (.iload 7, 2) := by decide +kernel
theorem dX6_practice_60 : decode cX6_practice 60 = .ok (.iconst 5, 1) := by decide +kernel
theorem dX6_practice_61 : decode cX6_practice 61 = .ok (.if_icmp .ge 96, 3) := by decide +kernel
theorem dX6_practice_64 : decode cX6_practice 64 = .ok (.aload_n 0, 1) := by decide +kernel
theorem dX6_practice_65 : decode cX6_practice 65 = .ok (.getfield 16, 3) := by decide +kernel
theorem dX6_practice_68 : decode cX6_practice 68 = .ok (.iload_n 2, 1) := by decide +kernel
theorem dX6_practice_69 : decode cX6_practice 69 = .ok (.iaload, 1) := by decide +kernel
theorem dX6_practice_70 : decode cX6_practice 70 = .ok (.istore 8, 2) := by decide +kernel
theorem dX6_practice_72 : decode cX6_practice 72 = .ok (.iload 8, 2) := by decide +kernel
theorem dX6_practice_74 : decode cX6_practice 74 = .ok (.iconst 5, 1) := by decide +kernel
theorem dX6_practice_75 : decode cX6_practice 75 = .ok (.if_icmp .ge 76, 3) := by decide +kernel
theorem dX6_practice_78 : decode cX6_practice 78 = .ok (.iload 7, 2) := by decide +kernel
theorem dX6_practice_80 : decode cX6_practice 80 = .ok (.aload_n 0, 1) := by decide +kernel
theorem dX6_practice_81 : decode cX6_practice 81 = .ok (.getfield 16, 3) := by decide +kernel
theorem dX6_practice_84 : decode cX6_practice 84 = .ok (.iload_n 1, 1) := by decide +kernel
theorem dX6_practice_85 : decode cX6_practice 85 = .ok (.iaload, 1) := by decide +kernel
theorem dX6_practice_86 : decode cX6_practice 86 = .ok (.isub, 1) := by decide +kernel
theorem dX6_practice_87 : decode cX6_practice 87 = .ok (.iload 8, 2) := by decide +kernel
theorem dX6_practice_89 : decode cX6_practice 89 = .ok (.iadd, 1) := by decide +kernel
theorem dX6_practice_90 : decode cX6_practice 90 = .ok (.aload_n 0, 1) := by decide +kernel
theorem dX6_practice_91 : decode cX6_practice 91 = .ok (.getfield 16, 3) := by decide +kernel
theorem dX6_practice_94 : decode cX6_practice 94 = .ok (.iload_n 2, 1) := by decide +kernel
theorem dX6_practice_95 : decode cX6_practice 95 = .ok (.iaload, 1) := by decide +kernel
theorem dX6_practice_96 : decode cX6_practice 96 = .ok (.isub, 1) := by decide +kernel
theorem dX6_practice_97 : decode cX6_practice 97 = .ok (.istore 9, 2) := by decide +kernel
theorem dX6_practice_99 : decode cX6_practice 99 = .ok (.aload_n 0, 1) := by decide +kernel
theorem dX6_practice_100 : decode cX6_practice 100 = .ok (.iload 7, 2) := by decide +kernel
theorem dX6_practice_102 : decode cX6_practice 102 = .ok (.putfield 79, 3) := by decide +kernel
theorem dX6_practice_105 : decode cX6_practice 105 = .ok (.aload_n 0, 1) := by decide +kernel
theorem dX6_practice_106 : decode cX6_practice 106 = .ok (.iload 8, 2) := by decide +kernel
theorem dX6_practice_108 : decode cX6_practice 108 = .ok (.putfield 82, 3) := by decide +kernel
theorem dX6_practice_111 : decode cX6_practice 111 = .ok (.iload 5, 2) := by decide +kernel
theorem dX6_practice_113 : decode cX6_practice 113 = .ok (.ifCond .lt 10, 3) := by decide +kernel
theorem dX6_practice_116 : decode cX6_practice 116 = .ok (.iload 9, 2) := by decide +kernel
theorem dX6_practice_118 : decode cX6_practice 118 = .ok (.iload 6, 2) := by decide +kernel
theorem dX6_practice_120 : decode cX6_practice 120 = .ok (.if_icmp .ge 25, 3) := by decide +kernel
theorem dX6_practice_123 : decode cX6_practice 123 = .ok (.aload_n 0, 1) := by decide +kernel
theorem dX6_practice_124 : decode cX6_practice 124 = .ok (.iload_n 3, 1) := by decide +kernel
theorem dX6_practice_125 : decode cX6_practice 125 = .ok (.invokevirtual 181, 3) := by decide +kernel
theorem dX6_practice_128 : decode cX6_practice 128 = .ok (.ifCond .ne 17, 3) := by decide +kernel
theorem dX6_practice_131 : decode cX6_practice 131 = .ok (.bipush 10, 2) := by decide +kernel
theorem dX6_practice_133 : decode cX6_practice 133 = .ok (.iload 7, 2) := by decide +kernel
theorem dX6_practice_135 : decode cX6_practice 135 = .ok (.imul, 1) := by decide +kernel
theorem dX6_practice_136 : decode cX6_practice 136 = .ok (.iload 8, 2) := by decide +kernel
theorem dX6_practice_138 : decode cX6_practice 138 = .ok (.iadd, 1) := by decide +kernel
theorem dX6_practice_139 : decode cX6_practice 139 = .ok (.istore 5, 2) := by decide +kernel
theorem dX6_practice_141 : decode cX6_practice 141 = .ok (.iload 9, 2) := by decide +kernel
theorem dX6_practice_143 : decode cX6_practice 143 = .ok (.istore 6, 2) := by decide +kernel
theorem dX6_practice_145 : decode cX6_practice 145 = .ok (.iinc 8 1, 3) := by decide +kernel
theorem dX6_practice_148 : decode cX6_practice 148 = .ok (.goto (-76), 3) := by decide +kernel
theorem dX6_practice_151 : decode cX6_practice 151 = .ok (.iinc 7 1, 3) := by decide +kernel
theorem dX6_practice_154 : decode cX6_practice 154 = .ok (.goto (-96), 3) := by decide +kernel
theorem dX6_practice_157 : decode cX6_practice 157 = .ok (.iload 5, 2) := by decide +kernel
theorem dX6_practice_159 : decode cX6_practice 159 = .ok (.ifCond .lt 9, 3) := by decide +kernel
theorem dX6_practice_162 : decode cX6_practice 162 = .ok (.iload 4, 2) := by decide +kernel
theorem dX6_practice_164 : decode cX6_practice 164 = .ok (.iconst 1, 1) := by decide +kernel
theorem dX6_practice_165 : decode cX6_practice 165 = .ok (.if_icmp .ne 8, 3) := by decide +kernel
theorem dX6_practice_168 : decode cX6_practice 168 = .ok (.iload 5, 2) := by decide +kernel
theorem dX6_practice_170 : decode cX6_practice 170 = .ok (.goto 5, 3) := by decide +kernel
theorem dX6_practice_173 : decode cX6_practice 173 = .ok (.iload 6, 2) := by decide +kernel
theorem dX6_practice_175 : decode cX6_practice 175 = .ok (.ireturn, 1) := by decide +kernel
theorem dX6_scarf_0 : decode cX6_scarf 0 = .ok (.aload_n 0, 1) := by decide +kernel
theorem dX6_scarf_1 : decode cX6_scarf 1 = .ok (.iload_n 1, 1) := by decide +kernel
theorem dX6_scarf_2 : decode cX6_scarf 2 = .ok (.iload_n 2, 1) := by decide +kernel
theorem dX6_scarf_3 : decode cX6_scarf 3 = .ok (.invokevirtual 136, 3) := by decide +kernel
theorem dX6_scarf_6 : decode cX6_scarf 6 = .ok (.ifCond .ne 5, 3) := by decide +kernel
theorem dX6_scarf_9 : decode cX6_scarf 9 = .ok (.iconst (-1), 1) := by decide +kernel
theorem dX6_scarf_10 : decode cX6_scarf 10 = .ok (.ireturn, 1) := by decide +kernel
theorem dX6_scarf_11 : decode cX6_scarf 11 = .ok (.iload_n 3, 1) := by decide +kernel
theorem dX6_scarf_12 : decode cX6_scarf 12 = .ok (.invokestatic 146, 3) := by decide +kernel
theorem dX6_scarf_15 : decode cX6_scarf 15 = .ok (.ifCond .eq 16, 3) := by decide +kernel
theorem dX6_scarf_18 : decode cX6_scarf 18 = .ok (.iload 4, 2) := by decide +kernel
theorem dX6_scarf_20 : decode cX6_scarf 20 = .ok (.i2l, 1) := by decide +kernel
theorem dX6_scarf_21 : decode cX6_scarf 21 = .ok (.lconst 0, 1) := by decide +kernel
theorem dX6_scarf_22 : decode cX6_scarf 22 = .ok (.ldc2_w 184, 3) := by decide +kernel
theorem dX6_scarf_25 : decode cX6_scarf 25 = .ok (.invokestatic 50, 3) := by decide +kernel
theorem dX6_scarf_28 : decode cX6_scarf 28 = .ok (.ifCond .ne 6, 3) := by decide +kernel
theorem dX6_scarf_31 : decode cX6_scarf 31 = .ok (.bipush (-2), 2) := by decide +kernel
theorem dX6_scarf_33 : decode cX6_scarf 33 = .ok (.ireturn, 1) := by decide +kernel
theorem dX6_scarf_34 : decode cX6_scarf 34 = .ok (.aload_n 0, 1) := by decide +kernel
theorem dX6_scarf_35 : decode cX6_scarf 35 = .ok (.iload_n 1, 1) := by decide +kernel
theorem dX6_scarf_36 : decode cX6_scarf 36 = .ok (.iload_n 2, 1) := by decide +kernel
theorem dX6_scarf_37 : decode cX6_scarf 37 = .ok (.invokevirtual 142, 3) := by decide +kernel
theorem dX6_scarf_40 : decode cX6_scarf 40 = .ok (.iconst 0, 1) := by decide +kernel
theorem dX6_scarf_41 : decode cX6_scarf 41 = .ok (.istore 5, 2) := by decide +kernel
theorem dX6_scarf_43 : decode cX6_scarf 43 = .ok (.iload 5, 2) := by decide +kernel
theorem dX6_scarf_45 : decode cX6_scarf 45 = .ok (.aload_n 0, 1) := by decide +kernel
theorem dX6_scarf_46 : decode cX6_scarf 46 = .ok (.getfield 42, 3) := by decide +kernel
theorem dX6_scarf_49 : decode cX6_scarf 49 = .ok (.if_icmp .gt 28, 3) := by decide +kernel
theorem dX6_scarf_52 : decode cX6_scarf 52 = .ok (.aload_n 0, 1) := by decide +kernel
theorem dX6_scarf_53 : decode cX6_scarf 53 = .ok (.iload 5, 2) := by decide +kernel
theorem dX6_scarf_55 : decode cX6_scarf 55 = .ok (.putfield 91, 3) := by decide +kernel
theorem dX6_scarf_58 : decode cX6_scarf 58 = .ok (.aload_n 0, 1) := by decide +kernel
theorem dX6_scarf_59 : decode cX6_scarf 59 = .ok (.iload_n 3, 1) := by decide +kernel
theorem dX6_scarf_60 : decode cX6_scarf 60 = .ok (.invokevirtual 149, 3) := by decide +kernel
theorem dX6_scarf_63 : decode cX6_scarf 63 = .ok (.iload 4, 2) := by decide +kernel
theorem dX6_scarf_65 : decode cX6_scarf 65 = .ok (.if_icmp .gt 6, 3) := by decide +kernel
theorem dX6_scarf_68 : decode cX6_scarf 68 = .ok (.iload 5, 2) := by decide +kernel
theorem dX6_scarf_70 : decode cX6_scarf 70 = .ok (.ireturn, 1) := by decide +kernel
theorem dX6_scarf_71 : decode cX6_scarf 71 = .ok (.iinc 5 1, 3) := by decide +kernel
theorem dX6_scarf_74 : decode cX6_scarf 74 = .ok (.goto (-31), 3) := by decide +kernel
theorem dX6_scarf_77 : decode cX6_scarf 77 = .ok (.bipush (-6), 2) := by decide +kernel
theorem dX6_scarf_79 : decode cX6_scarf 79 = .ok (.ireturn, 1) := by decide +kernel
theorem dX6_even_0 : decode cX6_even 0 = .ok (.aload_n 0, 1) := by decide +kernel
theorem dX6_even_1 : decode cX6_even 1 = .ok (.iload_n 1, 1) := by decide +kernel
theorem dX6_even_2 : decode cX6_even 2 = .ok (.iload_n 2, 1) := by decide +kernel
theorem dX6_even_3 : decode cX6_even 3 = .ok (.invokevirtual 136, 3) := by decide +kernel
theorem dX6_even_6 : decode cX6_even 6 = .ok (.ifCond .eq 13, 3) := by decide +kernel
theorem dX6_even_9 : decode cX6_even 9 = .ok (.aload_n 0, 1) := by decide +kernel
theorem dX6_even_10 : decode cX6_even 10 = .ok (.iload_n 3, 1) := by decide +kernel
theorem dX6_even_11 : decode cX6_even 11 = .ok (.iload 4, 2) := by decide +kernel
theorem dX6_even_13 : decode cX6_even 13 = .ok (.invokevirtual 136, 3) := by decide +kernel
theorem dX6_even_16 : decode cX6_even 16 = .ok (.ifCond .ne 5, 3) := by decide +kernel
theorem dX6_even_19 : decode cX6_even 19 = .ok (.iconst (-1), 1) := by decide +kernel
theorem dX6_even_20 : decode cX6_even 20 = .ok (.ireturn, 1) := by decide +kernel
theorem dX6_even_21 : decode cX6_even 21 = .ok (.iload 5, 2) := by decide +kernel
theorem dX6_even_23 : decode cX6_even 23 = .ok (.invokestatic 146, 3) := by decide +kernel
theorem dX6_even_26 : decode cX6_even 26 = .ok (.ifCond .ne 6, 3) := by decide +kernel
theorem dX6_even_29 : decode cX6_even 29 = .ok (.bipush (-2), 2) := by decide +kernel
theorem dX6_even_31 : decode cX6_even 31 = .ok (.ireturn, 1) := by decide +kernel
theorem dX6_even_32 : decode cX6_even 32 = .ok (.aload_n 0, 1) := by decide +kernel
theorem dX6_even_33 : decode cX6_even 33 = .ok (.iload_n 3, 1) := by decide +kernel
theorem dX6_even_34 : decode cX6_even 34 = .ok (.iload 4, 2) := by decide +kernel
theorem dX6_even_36 : decode cX6_even 36 = .ok (.invokevirtual 142, 3) := by decide +kernel
theorem dX6_even_39 : decode cX6_even 39 = .ok (.aload_n 0, 1) := by decide +kernel
theorem dX6_even_40 : decode cX6_even 40 = .ok (.iload 5, 2) := by decide +kernel
theorem dX6_even_42 : decode cX6_even 42 = .ok (.invokevirtual 149, 3) := by decide +kernel
theorem dX6_even_45 : decode cX6_even 45 = .ok (.istore 6, 2) := by decide +kernel
theorem dX6_even_47 : decode cX6_even 47 = .ok (.iload 6, 2) := by decide +kernel
theorem dX6_even_49 : decode cX6_even 49 = .ok (.ldc 135, 2) := by decide +kernel
theorem dX6_even_51 : decode cX6_even 51 = .ok (.if_icmp .ne 6, 3) := by decide +kernel
theorem dX6_even_54 : decode cX6_even 54 = .ok (.bipush (-6), 2) := by decide +kernel
theorem dX6_even_56 : decode cX6_even 56 = .ok (.ireturn, 1) := by decide +kernel
theorem dX6_even_57 : decode cX6_even 57 = .ok (.aload_n 0, 1) := by decide +kernel
theorem dX6_even_58 : decode cX6_even 58 = .ok (.iload_n 1, 1) := by decide +kernel
theorem dX6_even_59 : decode cX6_even 59 = .ok (.iload_n 2, 1) := by decide +kernel
theorem dX6_even_60 : decode cX6_even 60 = .ok (.invokevirtual 142, 3) := by decide +kernel
theorem dX6_even_63 : decode cX6_even 63 = .ok (.iconst 0, 1) := by decide +kernel
theorem dX6_even_64 : decode cX6_even 64 = .ok (.istore 7, 2) := by decide +kernel
theorem dX6_even_66 : decode cX6_even 66 = .ok (.iload 7, 2) := by decide +kernel
theorem dX6_even_68 : decode cX6_even 68 = .ok (.iload 5, 2) := by decide +kernel
theorem dX6_even_70 : decode cX6_even 70 = .ok (.if_icmp .ge 23, 3) := by decide +kernel
theorem dX6_even_73 : decode cX6_even 73 = .ok (.aload_n 0, 1) := by decide +kernel
theorem dX6_even_74 : decode cX6_even 74 = .ok (.iload 5, 2) := by decide +kernel
theorem dX6_even_76 : decode cX6_even 76 = .ok (.iload 7, 2) := by decide +kernel
theorem dX6_even_78 : decode cX6_even 78 = .ok (.isub, 1) := by decide +kernel
theorem dX6_even_79 : decode cX6_even 79 = .ok (.invokevirtual 149, 3) := by decide +kernel
theorem dX6_even_82 : decode cX6_even 82 = .ok (.iload 6, 2) := by decide +kernel
theorem dX6_even_84 : decode cX6_even 84 = .ok (.if_icmp .le 9, 3) := by decide +kernel
theorem dX6_even_87 : decode cX6_even 87 = .ok (.iinc 7 1, 3) := by decide +kernel
theorem dX6_even_90 : decode cX6_even 90 = .ok (.goto (-24), 3) := by decide +kernel
theorem dX6_even_93 : decode cX6_even 93 = .ok (.iload 7, 2) := by decide +kernel
theorem dX6_even_95 : decode cX6_even 95 = .ok (.ireturn, 1) := by decide +kernel
theorem dX6_say_0 : decode cX6_say 0 = .ok (.iload_n 1, 1) := by decide +kernel
theorem dX6_say_1 : decode cX6_say 1 = .ok (.i2l, 1) := by decide +kernel
theorem dX6_say_2 : decode cX6_say 2 = .ok (.ldc2_w 186, 3) := by decide +kernel
theorem dX6_say_5 : decode cX6_say 5 = .ok (.ldc2_w 188, 3) := by decide +kernel
theorem dX6_say_8 : decode cX6_say 8 = .ok (.invokestatic 50, 3) := by decide +kernel
theorem dX6_say_11 : decode cX6_say 11 = .ok (.ifCond .ne 6, 3) := by decide +kernel
theorem dX6_say_14 : decode cX6_say 14 = .ok (.bipush (-2), 2) := by decide +kernel
theorem dX6_say_16 : decode cX6_say 16 = .ok (.ireturn, 1) := by decide +kernel
theorem dX6_say_17 : decode cX6_say 17 = .ok (.aload_n 0, 1) := by decide +kernel
theorem dX6_say_18 : decode cX6_say 18 = .ok (.getfield 190, 3) := by decide +kernel
theorem dX6_say_21 : decode cX6_say 21 = .ok (.bipush 40, 2) := by decide +kernel
theorem dX6_say_23 : decode cX6_say 23 = .ok (.if_icmp .ne 6, 3) := by decide +kernel
theorem dX6_say_26 : decode cX6_say 26 = .ok (.bipush (-4), 2) := by decide +kernel
theorem dX6_say_28 : decode cX6_say 28 = .ok (.ireturn, 1) := by decide +kernel
theorem dX6_say_29 : decode cX6_say 29 = .ok (.aload_n 0, 1) := by decide +kernel
theorem dX6_say_30 : decode cX6_say 30 = .ok (.getfield 28, 3) := by decide +kernel
theorem dX6_say_33 : decode cX6_say 33 = .ok (.aload_n 0, 1) := by decide +kernel
theorem dX6_say_34 : decode cX6_say 34 = .ok (.getfield 190, 3) := by decide +kernel
theorem dX6_say_37 : decode cX6_say 37 = .ok (.iload_n 1, 1) := by decide +kernel
theorem dX6_say_38 : decode cX6_say 38 = .ok (.iastore, 1) := by decide +kernel
theorem dX6_say_39 : decode cX6_say 39 = .ok (.aload_n 0, 1) := by decide +kernel
theorem dX6_say_40 : decode cX6_say 40 = .ok (.dup, 1) := by decide +kernel
theorem dX6_say_41 : decode cX6_say 41 = .ok (.getfield 190, 3) := by decide +kernel
theorem dX6_say_44 : decode cX6_say 44 = .ok (.iconst 1, 1) := by decide +kernel
theorem dX6_say_45 : decode cX6_say 45 = .ok (.iadd, 1) := by decide +kernel
theorem dX6_say_46 : decode cX6_say 46 = .ok (.putfield 190, 3) := by decide +kernel
theorem dX6_say_49 : decode cX6_say 49 = .ok (.aload_n 0, 1) := by decide +kernel
theorem dX6_say_50 : decode cX6_say 50 = .ok (.getfield 190, 3) := by decide +kernel
theorem dX6_say_53 : decode cX6_say 53 = .ok (.ireturn, 1) := by decide +kernel
theorem dX6_wipe_0 : decode cX6_wipe 0 = .ok (.aload_n 0, 1) := by decide +kernel
theorem dX6_wipe_1 : decode cX6_wipe 1 = .ok (.getfield 190, 3) := by decide +kernel
theorem dX6_wipe_4 : decode cX6_wipe 4 = .ok (.istore_n 1, 1) := by decide +kernel
theorem dX6_wipe_5 : decode cX6_wipe 5 = .ok (.aload_n 0, 1) := by decide +kernel
theorem dX6_wipe_6 : decode cX6_wipe 6 = .ok (.iconst 0, 1) := by decide +kernel
theorem dX6_wipe_7 : decode cX6_wipe 7 = .ok (.putfield 190, 3) := by decide +kernel
theorem dX6_wipe_10 : decode cX6_wipe 10 = .ok (.iload_n 1, 1) := by decide +kernel
theorem dX6_wipe_11 : decode cX6_wipe 11 = .ok (.ireturn, 1) := by decide +kernel
theorem dX6_fault_0 : decode cX6_fault 0 = .ok (.iconst 0, 1) := by decide +kernel
theorem dX6_fault_1 : decode cX6_fault 1 = .ok (.istore_n 1, 1) := by decide +kernel
theorem dX6_fault_2 : decode cX6_fault 2 = .ok (.iload_n 1, 1) := by decide +kernel
theorem dX6_fault_3 : decode cX6_fault 3 = .ok (.aload_n 0, 1) := by decide +kernel
theorem dX6_fault_4 : decode cX6_fault 4 = .ok (.getfield 190, 3) := by decide +kernel
theorem dX6_fault_7 : decode cX6_fault 7 = .ok (.if_icmp .ge 42, 3) := by decide +kernel
theorem dX6_fault_10 : decode cX6_fault 10 = .ok (.aload_n 0, 1) := by decide +kernel
theorem dX6_fault_11 : decode cX6_fault 11 = .ok (.getfield 28, 3) := by decide +kernel
theorem dX6_fault_14 : decode cX6_fault 14 = .ok (.iload_n 1, 1) := by decide +kernel
theorem dX6_fault_15 : decode cX6_fault 15 = .ok (.iaload, 1) := by decide +kernel
theorem dX6_fault_16 : decode cX6_fault 16 = .ok (.istore_n 2, 1) := by decide +kernel
theorem dX6_fault_17 : decode cX6_fault 17 = .ok (.iload_n 2, 1) := by decide +kernel
theorem dX6_fault_18 : decode cX6_fault 18 = .ok (.bipush 115, 2) := by decide +kernel
theorem dX6_fault_20 : decode cX6_fault 20 = .ok (.if_icmp .eq 23, 3) := by decide +kernel
theorem dX6_fault_23 : decode cX6_fault 23 = .ok (.iload_n 2, 1) := by decide +kernel
theorem dX6_fault_24 : decode cX6_fault 24 = .ok (.bipush 108, 2) := by decide +kernel
theorem dX6_fault_26 : decode cX6_fault 26 = .ok (.if_icmp .eq 17, 3) := by decide +kernel
theorem dX6_fault_29 : decode cX6_fault 29 = .ok (.iload_n 2, 1) := by decide +kernel
theorem dX6_fault_30 : decode cX6_fault 30 = .ok (.bipush 102, 2) := by decide +kernel
theorem dX6_fault_32 : decode cX6_fault 32 = .ok (.if_icmp .eq 11, 3) := by decide +kernel
theorem dX6_fault_35 : decode cX6_fault 35 = .ok (.iload_n 2, 1) := by decide +kernel
theorem dX6_fault_36 : decode cX6_fault 36 = .ok (.bipush 63, 2) := by decide +kernel
theorem dX6_fault_38 : decode cX6_fault 38 = .ok (.if_icmp .eq 5, 3) := by decide +kernel
theorem dX6_fault_41 : decode cX6_fault 41 = .ok (.iload_n 1, 1) := by decide +kernel
theorem dX6_fault_42 : decode cX6_fault 42 = .ok (.ireturn, 1) := by decide +kernel
theorem dX6_fault_43 : decode cX6_fault 43 = .ok (.iinc 1 1, 3) := by decide +kernel
theorem dX6_fault_46 : decode cX6_fault 46 = .ok (.goto (-44), 3) := by decide +kernel
theorem dX6_fault_49 : decode cX6_fault 49 = .ok (.bipush (-6), 2) := by decide +kernel
theorem dX6_fault_51 : decode cX6_fault 51 = .ok (.ireturn, 1) := by decide +kernel
theorem dX6_judged_0 : decode cX6_judged 0 = .ok (.aload_n 0, 1) := by decide +kernel
theorem dX6_judged_1 : decode cX6_judged 1 = .ok (.iload_n 1, 1) := by decide +kernel
theorem dX6_judged_2 : decode cX6_judged 2 = .ok (.iload_n 2, 1) := by decide +kernel
theorem dX6_judged_3 : decode cX6_judged 3 = .ok (.invokevirtual 142, 3) := by decide +kernel
theorem dX6_judged_6 : decode cX6_judged 6 = .ok (.aload_n 0, 1) := by decide +kernel
theorem dX6_judged_7 : decode cX6_judged 7 = .ok (.invokevirtual 125, 3) := by decide +kernel
theorem dX6_judged_10 : decode cX6_judged 10 = .ok (.iconst 0, 1) := by decide +kernel
theorem dX6_judged_11 : decode cX6_judged 11 = .ok (.istore_n 3, 1) := by decide +kernel
theorem dX6_judged_12 : decode cX6_judged 12 = .ok (.iload_n 3, 1) := by decide +kernel
theorem dX6_judged_13 : decode cX6_judged 13 = .ok (.aload_n 0, 1) := by decide +kernel
theorem dX6_judged_14 : decode cX6_judged 14 = .ok (.getfield 190, 3) := by decide +kernel
theorem dX6_judged_17 : decode cX6_judged 17 = .ok (.if_icmp .ge 39, 3) := by decide +kernel
theorem dX6_judged_20 : decode cX6_judged 20 = .ok (.aload_n 0, 1) := by decide +kernel
theorem dX6_judged_21 : decode cX6_judged 21 = .ok (.invokevirtual 128, 3) := by decide +kernel
theorem dX6_judged_24 : decode cX6_judged 24 = .ok (.aload_n 0, 1) := by decide +kernel
theorem dX6_judged_25 : decode cX6_judged 25 = .ok (.getfield 28, 3) := by decide +kernel
theorem dX6_judged_28 : decode cX6_judged 28 = .ok (.iload_n 3, 1) := by decide +kernel
theorem dX6_judged_29 : decode cX6_judged 29 = .ok (.iaload, 1) := by decide +kernel
theorem dX6_judged_30 : decode cX6_judged 30 = .ok (.bipush 63, 2) := by decide +kernel
theorem dX6_judged_32 : decode cX6_judged 32 = .ok (.if_icmp .eq 18, 3) := by decide +kernel
theorem dX6_judged_35 : decode cX6_judged 35 = .ok (.aload_n 0, 1) := by decide +kernel
theorem dX6_judged_36 : decode cX6_judged 36 = .ok (.getfield 28, 3) := by decide +kernel
theorem dX6_judged_39 : decode cX6_judged 39 = .ok (.iload_n 3, 1) := by decide +kernel
theorem dX6_judged_40 : decode cX6_judged 40 = .ok (.iaload, 1) := by decide +kernel
theorem dX6_judged_41 : decode cX6_judged 41 = .ok (.aload_n 0, 1) := by decide +kernel
theorem dX6_judged_42 : decode cX6_judged 42 = .ok (.getfield 119, 3) := by decide +kernel
theorem dX6_judged_45 : decode cX6_judged 45 = .ok (.if_icmp .eq 5, 3) := by decide +kernel
theorem dX6_judged_48 : decode cX6_judged 48 = .ok (.iload_n 3, 1) := by decide +kernel
theorem dX6_judged_49 : decode cX6_judged 49 = .ok (.ireturn, 1) := by decide +kernel
theorem dX6_judged_50 : decode cX6_judged 50 = .ok (.iinc 3 1, 3) := by decide +kernel
theorem dX6_judged_53 : decode cX6_judged 53 = .ok (.goto (-41), 3) := by decide +kernel
theorem dX6_judged_56 : decode cX6_judged 56 = .ok (.bipush (-6), 2) := by decide +kernel
theorem dX6_judged_58 : decode cX6_judged 58 = .ok (.ireturn, 1) := by decide +kernel
theorem dX6_judge_0 : decode cX6_judge 0 = .ok (.aload_n 0, 1) := by decide +kernel
theorem dX6_judge_1 : decode cX6_judge 1 = .ok (.iload_n 1, 1) := by decide +kernel
theorem dX6_judge_2 : decode cX6_judge 2 = .ok (.iload_n 2, 1) := by decide +kernel
theorem dX6_judge_3 : decode cX6_judge 3 = .ok (.invokevirtual 136, 3) := by decide +kernel
theorem dX6_judge_6 : decode cX6_judge 6 = .ok (.ifCond .ne 5, 3) := by decide +kernel
theorem dX6_judge_9 : decode cX6_judge 9 = .ok (.iconst (-1), 1) := by decide +kernel
theorem dX6_judge_10 : decode cX6_judge 10 = .ok (.ireturn, 1) := by decide +kernel
theorem dX6_judge_11 : decode cX6_judge 11 = .ok (.aload_n 0, 1) := by decide +kernel
theorem dX6_judge_12 : decode cX6_judge 12 = .ok (.invokevirtual 193, 3) := by decide +kernel
theorem dX6_judge_15 : decode cX6_judge 15 = .ok (.ifCond .lt 8, 3) := by decide +kernel
theorem dX6_judge_18 : decode cX6_judge 18 = .ok (.bipush (-5), 2) := by decide +kernel
theorem dX6_judge_20 : decode cX6_judge 20 = .ok (.goto 9, 3) := by decide +kernel
theorem dX6_judge_23 : decode cX6_judge 23 = .ok (.aload_n 0, 1) := by decide +kernel
theorem dX6_judge_24 : decode cX6_judge 24 = .ok (.iload_n 1, 1) := by decide +kernel
theorem dX6_judge_25 : decode cX6_judge 25 = .ok (.iload_n 2, 1) := by decide +kernel
theorem dX6_judge_26 : decode cX6_judge 26 = .ok (.invokevirtual 196, 3) := by decide +kernel
theorem dX6_judge_29 : decode cX6_judge 29 = .ok (.ireturn, 1) := by decide +kernel
theorem dX6_fits_0 : decode cX6_fits 0 = .ok (.aload_n 0, 1) := by decide +kernel
theorem dX6_fits_1 : decode cX6_fits 1 = .ok (.invokevirtual 193, 3) := by decide +kernel
theorem dX6_fits_4 : decode cX6_fits 4 = .ok (.ifCond .lt 6, 3) := by decide +kernel
theorem dX6_fits_7 : decode cX6_fits 7 = .ok (.bipush (-5), 2) := by decide +kernel
theorem dX6_fits_9 : decode cX6_fits 9 = .ok (.ireturn, 1) := by decide +kernel
theorem dX6_fits_10 : decode cX6_fits 10 = .ok (.iconst 0, 1) := by decide +kernel
theorem dX6_fits_11 : decode cX6_fits 11 = .ok (.istore_n 2, 1) := by decide +kernel
theorem dX6_fits_12 : decode cX6_fits 12 = .ok (.iconst 0, 1) := by decide +kernel
theorem dX6_fits_13 : decode cX6_fits 13 = .ok (.istore_n 3, 1) := by decide +kernel
theorem dX6_fits_14 : decode cX6_fits 14 = .ok (.iload_n 3, 1) := by decide +kernel
theorem dX6_fits_15 : decode cX6_fits 15 = .ok (.bipush 8, 2) := by decide +kernel
theorem dX6_fits_17 : decode cX6_fits 17 = .ok (.if_icmp .ge 63, 3) := by decide +kernel
theorem dX6_fits_20 : decode cX6_fits 20 = .ok (.iload_n 3, 1) := by decide +kernel
theorem dX6_fits_21 : decode cX6_fits 21 = .ok (.iconst 1, 1) := by decide +kernel
theorem dX6_fits_22 : decode cX6_fits 22 = .ok (.iadd, 1) := by decide +kernel
theorem dX6_fits_23 : decode cX6_fits 23 = .ok (.istore 4, 2) := by decide +kernel
theorem dX6_fits_25 : decode cX6_fits 25 = .ok (.iload 4, 2) := by decide +kernel
theorem dX6_fits_27 : decode cX6_fits 27 = .ok (.bipush 8, 2) := by decide +kernel
theorem dX6_fits_29 : decode cX6_fits 29 = .ok (.if_icmp .ge 45, 3) := by decide +kernel
theorem dX6_fits_32 : decode cX6_fits 32 = .ok (.aload_n 0, 1) := by decide +kernel
theorem dX6_fits_33 : decode cX6_fits 33 = .ok (.iload_n 3, 1) := by decide +kernel
theorem dX6_fits_34 : decode cX6_fits 34 = .ok (.iload 4, 2) := by decide +kernel
theorem dX6_fits_36 : decode cX6_fits 36 = .ok (.invokevirtual 136, 3) := by decide +kernel
theorem dX6_fits_39 : decode cX6_fits 39 = .ok (.ifCond .eq 29, 3) := by decide +kernel
theorem dX6_fits_42 : decode cX6_fits 42 = .ok (.aload_n 0, 1) := by decide +kernel
theorem dX6_fits_43 : decode cX6_fits 43 = .ok (.iload_n 3, 1) := by decide +kernel
theorem dX6_fits_44 : decode cX6_fits 44 = .ok (.iload 4, 2) := by decide +kernel
theorem dX6_fits_46 : decode cX6_fits 46 = .ok (.invokevirtual 196, 3) := by decide +kernel
theorem dX6_fits_49 : decode cX6_fits 49 = .ok (.ifCond .ge 19, 3) := by decide +kernel
theorem dX6_fits_52 : decode cX6_fits 52 = .ok (.iload_n 2, 1) := by decide +kernel
theorem dX6_fits_53 : decode cX6_fits 53 = .ok (.iload_n 1, 1) := by decide +kernel
theorem dX6_fits_54 : decode cX6_fits 54 = .ok (.if_icmp .ne 11, 3) := by decide +kernel
theorem dX6_fits_57 : decode cX6_fits 57 = .ok (.bipush 10, 2) := by decide +kernel
theorem dX6_fits_59 : decode cX6_fits 59 = .ok (.iload_n 3, 1) := by decide +kernel
theorem dX6_fits_60 : decode cX6_fits 60 = .ok (.imul, 1) := by decide +kernel
theorem dX6_fits_61 : decode cX6_fits 61 = .ok (.iload 4, 2) := by decide +kernel
theorem dX6_fits_63 : decode cX6_fits 63 = .ok (.iadd, 1) := by decide +kernel
theorem dX6_fits_64 : decode cX6_fits 64 = .ok (.ireturn, 1) := by decide +kernel
theorem dX6_fits_65 : decode cX6_fits 65 = .ok (.iinc 2 1, 3) := by decide +kernel
theorem dX6_fits_68 : decode cX6_fits 68 = .ok (.iinc 4 1, 3) := by decide +kernel
theorem dX6_fits_71 : decode cX6_fits 71 = .ok (.goto (-46), 3) := by decide +kernel
theorem dX6_fits_74 : decode cX6_fits 74 = .ok (.iinc 3 1, 3) := by decide +kernel
theorem dX6_fits_77 : decode cX6_fits 77 = .ok (.goto (-63), 3) := by decide +kernel
theorem dX6_fits_80 : decode cX6_fits 80 = .ok (.iload_n 1, 1) := by decide +kernel
theorem dX6_fits_81 : decode cX6_fits 81 = .ok (.iconst (-1), 1) := by decide +kernel
theorem dX6_fits_82 : decode cX6_fits 82 = .ok (.if_icmp .ne 7, 3) := by decide +kernel
theorem dX6_fits_85 : decode cX6_fits 85 = .ok (.iload_n 2, 1) := by decide +kernel
theorem dX6_fits_86 : decode cX6_fits 86 = .ok (.goto 5, 3) := by decide +kernel
theorem dX6_fits_89 : decode cX6_fits 89 = .ok (.bipush (-6), 2) := by decide +kernel
theorem dX6_fits_91 : decode cX6_fits 91 = .ok (.ireturn, 1) := by decide +kernel
theorem dX6_year_0 : decode cX6_year 0 = .ok (.iload_n 1, 1) := by decide +kernel
theorem dX6_year_1 : decode cX6_year 1 = .ok (.i2l, 1) := by decide +kernel
theorem dX6_year_2 : decode cX6_year 2 = .ok (.lconst 0, 1) := by decide +kernel
theorem dX6_year_3 : decode cX6_year 3 = .ok (.ldc2_w 184, 3) := by decide +kernel
theorem dX6_year_6 : decode cX6_year 6 = .ok (.invokestatic 50, 3) := by decide +kernel
theorem dX6_year_9 : decode cX6_year 9 = .ok (.ifCond .eq 37, 3) := by decide +kernel
theorem dX6_year_12 : decode cX6_year 12 = .ok (.iload_n 2, 1) := by decide +kernel
theorem dX6_year_13 : decode cX6_year 13 = .ok (.i2l, 1) := by decide +kernel
theorem dX6_year_14 : decode cX6_year 14 = .ok (.lconst 1, 1) := by decide +kernel
theorem dX6_year_15 : decode cX6_year 15 = .ok (.ldc2_w 71, 3) := by decide +kernel
theorem dX6_year_18 : decode cX6_year 18 = .ok (.invokestatic 50, 3) := by decide +kernel
theorem dX6_year_21 : decode cX6_year 21 = .ok (.ifCond .eq 25, 3) := by decide +kernel
theorem dX6_year_24 : decode cX6_year 24 = .ok (.iload_n 3, 1) := by decide +kernel
theorem dX6_year_25 : decode cX6_year 25 = .ok (.invokestatic 146, 3) := by decide +kernel
theorem dX6_year_28 : decode cX6_year 28 = .ok (.ifCond .eq 18, 3) := by decide +kernel
theorem dX6_year_31 : decode cX6_year 31 = .ok (.iload 4, 2) := by decide +kernel
theorem dX6_year_33 : decode cX6_year 33 = .ok (.i2l, 1) := by decide +kernel
theorem dX6_year_34 : decode cX6_year 34 = .ok (.ldc2_w 200, 3) := by decide +kernel
theorem dX6_year_37 : decode cX6_year 37 = .ok (.ldc2_w 202, 3) := by decide +kernel
theorem dX6_year_40 : decode cX6_year 40 = .ok (.invokestatic 50, 3) := by decide +kernel
theorem dX6_year_43 : decode cX6_year 43 = .ok (.ifCond .ne 6, 3) := by decide +kernel
theorem dX6_year_46 : decode cX6_year 46 = .ok (.bipush (-2), 2) := by decide +kernel
theorem dX6_year_48 : decode cX6_year 48 = .ok (.ireturn, 1) := by decide +kernel
theorem dX6_year_49 : decode cX6_year 49 = .ok (.aload_n 0, 1) := by decide +kernel
theorem dX6_year_50 : decode cX6_year 50 = .ok (.iload_n 3, 1) := by decide +kernel
theorem dX6_year_51 : decode cX6_year 51 = .ok (.invokevirtual 153, 3) := by decide +kernel
theorem dX6_year_54 : decode cX6_year 54 = .ok (.iload_n 1, 1) := by decide +kernel
theorem dX6_year_55 : decode cX6_year 55 = .ok (.istore 5, 2) := by decide +kernel
theorem dX6_year_57 : decode cX6_year 57 = .ok (.iconst 0, 1) := by decide +kernel
theorem dX6_year_58 : decode cX6_year 58 = .ok (.istore 6, 2) := by decide +kernel
theorem dX6_year_60 : decode cX6_year 60 = .ok (.iconst 0, 1) := by decide +kernel
theorem dX6_year_61 : decode cX6_year 61 = .ok (.istore 7, 2) := by decide +kernel
theorem dX6_year_63 : decode cX6_year 63 = .ok (.ldc 135, 2) := by decide +kernel
theorem dX6_year_65 : decode cX6_year 65 = .ok (.istore 8, 2) := by decide +kernel
theorem dX6_year_67 : decode cX6_year 67 = .ok (.iconst 0, 1) := by decide +kernel
theorem dX6_year_68 : decode cX6_year 68 = .ok (.istore 9, 2) := by decide +kernel
theorem dX6_year_70 : decode cX6_year 70 = .ok (.iload 9, 2) := by decide +kernel
theorem dX6_year_72 : decode cX6_year 72 = .ok (.iload_n 2, 1) := by decide +kernel
theorem dX6_year_73 : decode cX6_year 73 = .ok (.if_icmp .ge 120, 3) := by decide +kernel
theorem dX6_year_76 : decode cX6_year 76 = .ok (.ldc2_w 204, 3) := by decide +kernel
theorem dX6_year_79 : decode cX6_year 79 = .ok (.iload 5, 2) := by decide +kernel
theorem dX6_year_81 : decode cX6_year 81 = .ok (.i2l, 1) := by decide +kernel
theorem dX6_year_82 : decode cX6_year 82 = .ok (.lmul, 1) := by decide +kernel
theorem dX6_year_83 : decode cX6_year 83 = .ok (.ldc2_w 206, 3) := by decide +kernel
theorem dX6_year_86 : decode cX6_year 86 = .ok (.ladd, 1) := by decide +kernel
theorem dX6_year_87 : decode cX6_year 87 = .ok (.ldc2_w 208, 3) := by decide +kernel
theorem dX6_year_90 : decode cX6_year 90 = .ok (.lrem, 1) := by decide +kernel
theorem dX6_year_91 : decode cX6_year 91 = .ok (.l2i, 1) := by decide +kernel
theorem dX6_year_92 : decode cX6_year 92 = .ok (.istore 5, 2) := by decide +kernel
theorem dX6_year_94 : decode cX6_year 94 = .ok (.iload 5, 2) := by decide +kernel
theorem dX6_year_96 : decode cX6_year 96 = .ok (.bipush 8, 2) := by decide +kernel
theorem dX6_year_98 : decode cX6_year 98 = .ok (.irem, 1) := by decide +kernel
theorem dX6_year_99 : decode cX6_year 99 = .ok (.istore 10, 2) := by decide +kernel
theorem dX6_year_101 : decode cX6_year 101 = .ok (.iload 5, 2) := by decide +kernel
theorem dX6_year_103 : decode cX6_year 103 = .ok (.bipush 8, 2) := by decide +kernel
theorem dX6_year_105 : decode cX6_year 105 = .ok (.idiv, 1) := by decide +kernel
theorem dX6_year_106 : decode cX6_year 106 = .ok (.bipush 8, 2) := by decide +kernel
theorem dX6_year_108 : decode cX6_year 108 = .ok (.irem, 1) := by decide +kernel
theorem dX6_year_109 : decode cX6_year 109 = .ok (.istore 11, 2) := by decide +kernel
theorem dX6_year_111 : decode cX6_year 111 = .ok (.aload_n 0, 1) := by decide +kernel
theorem dX6_year_112 : decode cX6_year 112 = .ok (.iload 10, 2) := by decide +kernel
theorem dX6_year_114 : decode cX6_year 114 = .ok (.iload 11, 2) := by decide +kernel
theorem dX6_year_116 : decode cX6_year 116 = .ok (.invokevirtual 136, 3) := by decide +kernel
theorem dX6_year_119 : decode cX6_year 119 = .ok (.ifCond .eq 68, 3) := by decide +kernel
theorem dX6_year_122 : decode cX6_year 122 = .ok (.aload_n 0, 1) := by decide +kernel
theorem dX6_year_123 : decode cX6_year 123 = .ok (.iload 10, 2) := by decide +kernel
theorem dX6_year_125 : decode cX6_year 125 = .ok (.iload 11, 2) := by decide +kernel
theorem dX6_year_127 : decode cX6_year 127 = .ok (.invokevirtual 142, 3) := by decide +kernel
theorem dX6_year_130 : decode cX6_year 130 = .ok (.aload_n 0, 1) := by decide +kernel
theorem dX6_year_131 : decode cX6_year 131 = .ok (.iload_n 3, 1) := by decide +kernel
theorem dX6_year_132 : decode cX6_year 132 = .ok (.invokevirtual 149, 3) := by decide +kernel
theorem dX6_year_135 : decode cX6_year 135 = .ok (.istore 12, 2) := by decide +kernel
theorem dX6_year_137 : decode cX6_year 137 = .ok (.iinc 6 1, 3) := by decide +kernel
theorem dX6_year_140 : decode cX6_year 140 = .ok (.iload 7, 2) := by decide +kernel
theorem dX6_year_142 : decode cX6_year 142 = .ok (.iload 12, 2) := by decide +kernel
theorem dX6_year_144 : decode cX6_year 144 = .ok (.ldc 135, 2) := by decide +kernel
theorem dX6_year_146 : decode cX6_year 146 = .ok (.if_icmp .ge 21, 3) := by decide +kernel
theorem dX6_year_149 : decode cX6_year 149 = .ok (.iload 10, 2) := by decide +kernel
theorem dX6_year_151 : decode cX6_year 151 = .ok (.iload 4, 2) := by decide +kernel
theorem dX6_year_153 : decode cX6_year 153 = .ok (.if_icmp .eq 10, 3) := by decide +kernel
theorem dX6_year_156 : decode cX6_year 156 = .ok (.iload 11, 2) := by decide +kernel
theorem dX6_year_158 : decode cX6_year 158 = .ok (.iload 4, 2) := by decide +kernel
theorem dX6_year_160 : decode cX6_year 160 = .ok (.if_icmp .ne 7, 3) := by decide +kernel
theorem dX6_year_163 : decode cX6_year 163 = .ok (.iconst 1, 1) := by decide +kernel
theorem dX6_year_164 : decode cX6_year 164 = .ok (.goto 4, 3) := by decide +kernel
theorem dX6_year_167 : decode cX6_year 167 = .ok (.iconst 0, 1) := by decide +kernel
theorem dX6_year_168 : decode cX6_year 168 = .ok (.iadd, 1) := by decide +kernel
theorem dX6_year_169 : decode cX6_year 169 = .ok (.istore 7, 2) := by decide +kernel
theorem dX6_year_171 : decode cX6_year 171 = .ok (.iload 12, 2) := by decide +kernel
theorem dX6_year_173 : decode cX6_year 173 = .ok (.iload 8, 2) := by decide +kernel
theorem dX6_year_175 : decode cX6_year 175 = .ok (.if_icmp .ge 8, 3) := by decide +kernel
theorem dX6_year_178 : decode cX6_year 178 = .ok (.iload 12, 2) := by decide +kernel
theorem dX6_year_180 : decode cX6_year 180 = .ok (.goto 5, 3) := by decide +kernel
theorem dX6_year_183 : decode cX6_year 183 = .ok (.iload 8, 2) := by decide +kernel
theorem dX6_year_185 : decode cX6_year 185 = .ok (.istore 8, 2) := by decide +kernel
theorem dX6_year_187 : decode cX6_year 187 = .ok (.iinc 9 1, 3) := by decide +kernel
theorem dX6_year_190 : decode cX6_year 190 = .ok (.goto (-120), 3) := by decide +kernel
theorem dX6_year_193 : decode cX6_year 193 = .ok (.iload 4, 2) := by decide +kernel
theorem dX6_year_195 : decode cX6_year 195 = .ok (.iconst (-1), 1) := by decide +kernel
theorem dX6_year_196 : decode cX6_year 196 = .ok (.if_icmp .ne 8, 3) := by decide +kernel
theorem dX6_year_199 : decode cX6_year 199 = .ok (.iload 6, 2) := by decide +kernel
theorem dX6_year_201 : decode cX6_year 201 = .ok (.goto 29, 3) := by decide +kernel
theorem dX6_year_204 : decode cX6_year 204 = .ok (.iload 4, 2) := by decide +kernel
theorem dX6_year_206 : decode cX6_year 206 = .ok (.bipush 8, 2) := by decide +kernel
theorem dX6_year_208 : decode cX6_year 208 = .ok (.if_icmp .ge 8, 3) := by decide +kernel
theorem dX6_year_211 : decode cX6_year 211 = .ok (.iload 7, 2) := by decide +kernel
theorem dX6_year_213 : decode cX6_year 213 = .ok (.goto 17, 3) := by decide +kernel
theorem dX6_year_216 : decode cX6_year 216 = .ok (.iload 8, 2) := by decide +kernel
theorem dX6_year_218 : decode cX6_year 218 = .ok (.ldc 135, 2) := by decide +kernel
theorem dX6_year_220 : decode cX6_year 220 = .ok (.if_icmp .ne 8, 3) := by decide +kernel
theorem dX6_year_223 : decode cX6_year 223 = .ok (.bipush (-6), 2) := by decide +kernel
theorem dX6_year_225 : decode cX6_year 225 = .ok (.goto 5, 3) := by decide +kernel
theorem dX6_year_228 : decode cX6_year 228 = .ok (.iload 8, 2) := by decide +kernel
theorem dX6_year_230 : decode cX6_year 230 = .ok (.ireturn, 1) := by decide +kernel
theorem dX6_pass_0 : decode cX6_pass 0 = .ok (.aload_n 0, 1) := by decide +kernel
theorem dX6_pass_1 : decode cX6_pass 1 = .ok (.getfield 210, 3) := by decide +kernel
theorem dX6_pass_4 : decode cX6_pass 4 = .ok (.ifCond .eq 7, 3) := by decide +kernel
theorem dX6_pass_7 : decode cX6_pass 7 = .ok (.iload_n 1, 1) := by decide +kernel
theorem dX6_pass_8 : decode cX6_pass 8 = .ok (.goto 12, 3) := by decide +kernel
theorem dX6_pass_11 : decode cX6_pass 11 = .ok (.aload_n 0, 1) := by decide +kernel
theorem dX6_pass_12 : decode cX6_pass 12 = .ok (.getfield 31, 3) := by decide +kernel
theorem dX6_pass_15 : decode cX6_pass 15 = .ok (.aload_n 0, 1) := by decide +kernel
theorem dX6_pass_16 : decode cX6_pass 16 = .ok (.getfield 214, 3) := by decide +kernel
theorem dX6_pass_19 : decode cX6_pass 19 = .ok (.iaload, 1) := by decide +kernel
theorem dX6_pass_20 : decode cX6_pass 20 = .ok (.istore_n 2, 1) := by decide +kernel
theorem dX6_pass_21 : decode cX6_pass 21 = .ok (.aload_n 0, 1) := by decide +kernel
theorem dX6_pass_22 : decode cX6_pass 22 = .ok (.getfield 31, 3) := by decide +kernel
theorem dX6_pass_25 : decode cX6_pass 25 = .ok (.aload_n 0, 1) := by decide +kernel
theorem dX6_pass_26 : decode cX6_pass 26 = .ok (.getfield 214, 3) := by decide +kernel
theorem dX6_pass_29 : decode cX6_pass 29 = .ok (.iload_n 2, 1) := by decide +kernel
theorem dX6_pass_30 : decode cX6_pass 30 = .ok (.iastore, 1) := by decide +kernel
theorem dX6_pass_31 : decode cX6_pass 31 = .ok (.aload_n 0, 1) := by decide +kernel
theorem dX6_pass_32 : decode cX6_pass 32 = .ok (.dup, 1) := by decide +kernel
theorem dX6_pass_33 : decode cX6_pass 33 = .ok (.getfield 214, 3) := by decide +kernel
theorem dX6_pass_36 : decode cX6_pass 36 = .ok (.iconst 1, 1) := by decide +kernel
theorem dX6_pass_37 : decode cX6_pass 37 = .ok (.iadd, 1) := by decide +kernel
theorem dX6_pass_38 : decode cX6_pass 38 = .ok (.putfield 214, 3) := by decide +kernel
theorem dX6_pass_41 : decode cX6_pass 41 = .ok (.iload_n 2, 1) := by decide +kernel
theorem dX6_pass_42 : decode cX6_pass 42 = .ok (.ireturn, 1) := by decide +kernel
theorem dX6_passAll_0 : decode cX6_passAll 0 = .ok (.aload_n 0, 1) := by decide +kernel
theorem dX6_passAll_1 : decode cX6_passAll 1 = .ok (.aload_n 0, 1) := by decide +kernel
theorem dX6_passAll_2 : decode cX6_passAll 2 = .ok (.aload_n 0, 1) := by decide +kernel
theorem dX6_passAll_3 : decode cX6_passAll 3 = .ok (.getfield 54, 3) := by decide +kernel
theorem dX6_passAll_6 : decode cX6_passAll 6 = .ok (.invokevirtual 217, 3) := by decide +kernel
theorem dX6_passAll_9 : decode cX6_passAll 9 = .ok (.putfield 54, 3) := by decide +kernel
theorem dX6_passAll_12 : decode cX6_passAll 12 = .ok (.aload_n 0, 1) := by decide +kernel
theorem dX6_passAll_13 : decode cX6_passAll 13 = .ok (.aload_n 0, 1) := by decide +kernel
theorem dX6_passAll_14 : decode cX6_passAll 14 = .ok (.aload_n 0, 1) := by decide +kernel
theorem dX6_passAll_15 : decode cX6_passAll 15 = .ok (.getfield 38, 3) := by decide +kernel
theorem dX6_passAll_18 : decode cX6_passAll 18 = .ok (.invokevirtual 217, 3) := by decide +kernel
theorem dX6_passAll_21 : decode cX6_passAll 21 = .ok (.putfield 38, 3) := by decide +kernel
theorem dX6_passAll_24 : decode cX6_passAll 24 = .ok (.aload_n 0, 1) := by decide +kernel
theorem dX6_passAll_25 : decode cX6_passAll 25 = .ok (.aload_n 0, 1) := by decide +kernel
theorem dX6_passAll_26 : decode cX6_passAll 26 = .ok (.aload_n 0, 1) := by decide +kernel
theorem dX6_passAll_27 : decode cX6_passAll 27 = .ok (.getfield 42, 3) := by decide +kernel
theorem dX6_passAll_30 : decode cX6_passAll 30 = .ok (.invokevirtual 217, 3) := by decide +kernel
theorem dX6_passAll_33 : decode cX6_passAll 33 = .ok (.putfield 42, 3) := by decide +kernel
theorem dX6_passAll_36 : decode cX6_passAll 36 = .ok (.aload_n 0, 1) := by decide +kernel
theorem dX6_passAll_37 : decode cX6_passAll 37 = .ok (.aload_n 0, 1) := by decide +kernel
theorem dX6_passAll_38 : decode cX6_passAll 38 = .ok (.aload_n 0, 1) := by decide +kernel
theorem dX6_passAll_39 : decode cX6_passAll 39 = .ok (.getfield 45, 3) := by decide +kernel
theorem dX6_passAll_42 : decode cX6_passAll 42 = .ok (.invokevirtual 217, 3) := by decide +kernel
theorem dX6_passAll_45 : decode cX6_passAll 45 = .ok (.putfield 45, 3) := by decide +kernel
theorem dX6_passAll_48 : decode cX6_passAll 48 = .ok (.iconst 0, 1) := by decide +kernel
theorem dX6_passAll_49 : decode cX6_passAll 49 = .ok (.istore_n 1, 1) := by decide +kernel
theorem dX6_passAll_50 : decode cX6_passAll 50 = .ok (.iload_n 1, 1) := by decide +kernel
theorem dX6_passAll_51 : decode cX6_passAll 51 = .ok (.bipush 8, 2) := by decide +kernel
theorem dX6_passAll_53 : decode cX6_passAll 53 = .ok (.if_icmp .ge 57, 3) := by decide +kernel
theorem dX6_passAll_56 : decode cX6_passAll 56 = .ok (.aload_n 0, 1) := by decide +kernel
theorem dX6_passAll_57 : decode cX6_passAll 57 = .ok (.getfield 7, 3) := by decide +kernel
theorem dX6_passAll_60 : decode cX6_passAll 60 = .ok (.iload_n 1, 1) := by decide +kernel
theorem dX6_passAll_61 : decode cX6_passAll 61 = .ok (.aload_n 0, 1) := by decide +kernel
theorem dX6_passAll_62 : decode cX6_passAll 62 = .ok (.aload_n 0, 1) := by decide +kernel
theorem dX6_passAll_63 : decode cX6_passAll 63 = .ok (.getfield 7, 3) := by decide +kernel
theorem dX6_passAll_66 : decode cX6_passAll 66 = .ok (.iload_n 1, 1) := by decide +kernel
theorem dX6_passAll_67 : decode cX6_passAll 67 = .ok (.iaload, 1) := by decide +kernel
theorem dX6_passAll_68 : decode cX6_passAll 68 = .ok (.invokevirtual 217, 3) := by decide +kernel
theorem dX6_passAll_71 : decode cX6_passAll 71 = .ok (.iastore, 1) := by decide +kernel
theorem dX6_passAll_72 : decode cX6_passAll 72 = .ok (.aload_n 0, 1) := by decide +kernel
theorem dX6_passAll_73 : decode cX6_passAll 73 = .ok (.getfield 13, 3) := by decide +kernel
theorem dX6_passAll_76 : decode cX6_passAll 76 = .ok (.iload_n 1, 1) := by decide +kernel
theorem dX6_passAll_77 : decode cX6_passAll 77 = .ok (.aload_n 0, 1) := by decide +kernel
theorem dX6_passAll_78 : decode cX6_passAll 78 = .ok (.aload_n 0, 1) := by decide +kernel
theorem dX6_passAll_79 : decode cX6_passAll 79 = .ok (.getfield 13, 3) := by decide +kernel
theorem dX6_passAll_82 : decode cX6_passAll 82 = .ok (.iload_n 1, 1) := by decide +kernel
theorem dX6_passAll_83 : decode cX6_passAll 83 = .ok (.iaload, 1) := by decide +kernel
theorem dX6_passAll_84 : decode cX6_passAll 84 = .ok (.invokevirtual 217, 3) := by decide +kernel
theorem dX6_passAll_87 : decode cX6_passAll 87 = .ok (.iastore, 1) := by decide +kernel
theorem dX6_passAll_88 : decode cX6_passAll 88 = .ok (.aload_n 0, 1) := by decide +kernel
theorem dX6_passAll_89 : decode cX6_passAll 89 = .ok (.getfield 16, 3) := by decide +kernel
theorem dX6_passAll_92 : decode cX6_passAll 92 = .ok (.iload_n 1, 1) := by decide +kernel
theorem dX6_passAll_93 : decode cX6_passAll 93 = .ok (.aload_n 0, 1) := by decide +kernel
theorem dX6_passAll_94 : decode cX6_passAll 94 = .ok (.aload_n 0, 1) := by decide +kernel
theorem dX6_passAll_95 : decode cX6_passAll 95 = .ok (.getfield 16, 3) := by decide +kernel
theorem dX6_passAll_98 : decode cX6_passAll 98 = .ok (.iload_n 1, 1) := by decide +kernel
theorem dX6_passAll_99 : decode cX6_passAll 99 = .ok (.iaload, 1) := by decide +kernel
theorem dX6_passAll_100 : decode cX6_passAll 100 = .ok (.invokevirtual 217, 3) := by decide +kernel
theorem dX6_passAll_103 : decode cX6_passAll 103 = .ok (.iastore, 1) := by decide +kernel
theorem dX6_passAll_104 : decode cX6_passAll 104 = .ok (.iinc 1 1, 3) := by decide +kernel
theorem dX6_passAll_107 : decode cX6_passAll 107 = .ok (.goto (-57), 3) := by decide +kernel
theorem dX6_passAll_110 : decode cX6_passAll 110 = .ok (.return_, 1) := by decide +kernel
theorem dX6_image_0 : decode cX6_image 0 = .ok (.iload_n 1, 1) := by decide +kernel
theorem dX6_image_1 : decode cX6_image 1 = .ok (.i2l, 1) := by decide +kernel
theorem dX6_image_2 : decode cX6_image 2 = .ok (.lconst 0, 1) := by decide +kernel
theorem dX6_image_3 : decode cX6_image 3 = .ok (.lconst 1, 1) := by decide +kernel
theorem dX6_image_4 : decode cX6_image 4 = .ok (.invokestatic 50, 3) := by decide +kernel
theorem dX6_image_7 : decode cX6_image 7 = .ok (.ifCond .ne 6, 3) := by decide +kernel
theorem dX6_image_10 : decode cX6_image 10 = .ok (.bipush (-2), 2) := by decide +kernel
theorem dX6_image_12 : decode cX6_image 12 = .ok (.ireturn, 1) := by decide +kernel
theorem dX6_image_13 : decode cX6_image 13 = .ok (.aload_n 0, 1) := by decide +kernel
theorem dX6_image_14 : decode cX6_image 14 = .ok (.bipush 40, 2) := by decide +kernel
theorem dX6_image_16 : decode cX6_image 16 = .ok (.iload_n 1, 1) := by decide +kernel
theorem dX6_image_17 : decode cX6_image 17 = .ok (.imul, 1) := by decide +kernel
theorem dX6_image_18 : decode cX6_image 18 = .ok (.putfield 214, 3) := by decide +kernel
theorem dX6_image_21 : decode cX6_image 21 = .ok (.aload_n 0, 1) := by decide +kernel
theorem dX6_image_22 : decode cX6_image 22 = .ok (.iconst 1, 1) := by decide +kernel
theorem dX6_image_23 : decode cX6_image 23 = .ok (.putfield 210, 3) := by decide +kernel
theorem dX6_image_26 : decode cX6_image 26 = .ok (.aload_n 0, 1) := by decide +kernel
theorem dX6_image_27 : decode cX6_image 27 = .ok (.invokevirtual 220, 3) := by decide +kernel
theorem dX6_image_30 : decode cX6_image 30 = .ok (.aload_n 0, 1) := by decide +kernel
theorem dX6_image_31 : decode cX6_image 31 = .ok (.getfield 34, 3) := by decide +kernel
theorem dX6_image_34 : decode cX6_image 34 = .ok (.iload_n 1, 1) := by decide +kernel
theorem dX6_image_35 : decode cX6_image 35 = .ok (.iconst 1, 1) := by decide +kernel
theorem dX6_image_36 : decode cX6_image 36 = .ok (.bastore, 1) := by decide +kernel
theorem dX6_image_37 : decode cX6_image 37 = .ok (.iconst 1, 1) := by decide +kernel
theorem dX6_image_38 : decode cX6_image 38 = .ok (.ireturn, 1) := by decide +kernel
theorem dX6_restore_0 : decode cX6_restore 0 = .ok (.iload_n 1, 1) := by decide +kernel
theorem dX6_restore_1 : decode cX6_restore 1 = .ok (.i2l, 1) := by decide +kernel
theorem dX6_restore_2 : decode cX6_restore 2 = .ok (.lconst 0, 1) := by decide +kernel
theorem dX6_restore_3 : decode cX6_restore 3 = .ok (.lconst 1, 1) := by decide +kernel
theorem dX6_restore_4 : decode cX6_restore 4 = .ok (.invokestatic 50, 3) := by decide +kernel
theorem dX6_restore_7 : decode cX6_restore 7 = .ok (.ifCond .ne 6, 3) := by decide +kernel
theorem dX6_restore_10 : decode cX6_restore 10 = .ok (.bipush (-2), 2) := by decide +kernel
theorem dX6_restore_12 : decode cX6_restore 12 = .ok (.ireturn, 1) := by decide +kernel
theorem dX6_restore_13 : decode cX6_restore 13 = .ok (.aload_n 0, 1) := by decide +kernel
theorem dX6_restore_14 : decode cX6_restore 14 = .ok (.getfield 34, 3) := by decide +kernel
theorem dX6_restore_17 : decode cX6_restore 17 = .ok (.iload_n 1, 1) := by decide +kernel
theorem dX6_restore_18 : decode cX6_restore 18 = .ok (.baload, 1) := by decide +kernel
theorem dX6_restore_19 : decode cX6_restore 19 = .ok (.ifCond .ne 6, 3) := by decide +kernel
theorem dX6_restore_22 : decode cX6_restore 22 = .ok (.bipush (-3), 2) := by decide +kernel
theorem dX6_restore_24 : decode cX6_restore 24 = .ok (.ireturn, 1) := by decide +kernel
theorem dX6_restore_25 : decode cX6_restore 25 = .ok (.aload_n 0, 1) := by decide +kernel
theorem dX6_restore_26 : decode cX6_restore 26 = .ok (.bipush 40, 2) := by decide +kernel
theorem dX6_restore_28 : decode cX6_restore 28 = .ok (.iload_n 1, 1) := by decide +kernel
theorem dX6_restore_29 : decode cX6_restore 29 = .ok (.imul, 1) := by decide +kernel
theorem dX6_restore_30 : decode cX6_restore 30 = .ok (.putfield 214, 3) := by decide +kernel
theorem dX6_restore_33 : decode cX6_restore 33 = .ok (.aload_n 0, 1) := by decide +kernel
theorem dX6_restore_34 : decode cX6_restore 34 = .ok (.iconst 0, 1) := by decide +kernel
theorem dX6_restore_35 : decode cX6_restore 35 = .ok (.putfield 210, 3) := by decide +kernel
theorem dX6_restore_38 : decode cX6_restore 38 = .ok (.aload_n 0, 1) := by decide +kernel
theorem dX6_restore_39 : decode cX6_restore 39 = .ok (.invokevirtual 220, 3) := by decide +kernel
theorem dX6_restore_42 : decode cX6_restore 42 = .ok (.iconst 1, 1) := by decide +kernel
theorem dX6_restore_43 : decode cX6_restore 43 = .ok (.ireturn, 1) := by decide +kernel
theorem dX6_told_0 : decode cX6_told 0 = .ok (.iload_n 1, 1) := by decide +kernel
theorem dX6_told_1 : decode cX6_told 1 = .ok (.i2l, 1) := by decide +kernel
theorem dX6_told_2 : decode cX6_told 2 = .ok (.ldc2_w 223, 3) := by decide +kernel
theorem dX6_told_5 : decode cX6_told 5 = .ok (.ldc2_w 225, 3) := by decide +kernel
theorem dX6_told_8 : decode cX6_told 8 = .ok (.invokestatic 50, 3) := by decide +kernel
theorem dX6_told_11 : decode cX6_told 11 = .ok (.ifCond .eq 67, 3) := by decide +kernel
theorem dX6_told_14 : decode cX6_told 14 = .ok (.iload_n 1, 1) := by decide +kernel
theorem dX6_told_15 : decode cX6_told 15 = .ok (.bipush 10, 2) := by decide +kernel
theorem dX6_told_17 : decode cX6_told 17 = .ok (.idiv, 1) := by decide +kernel
theorem dX6_told_18 : decode cX6_told 18 = .ok (.iconst 1, 1) := by decide +kernel
theorem dX6_told_19 : decode cX6_told 19 = .ok (.isub, 1) := by decide +kernel
theorem dX6_told_20 : decode cX6_told 20 = .ok (.istore_n 2, 1) := by decide +kernel
theorem dX6_told_21 : decode cX6_told 21 = .ok (.iload_n 1, 1) := by decide +kernel
theorem dX6_told_22 : decode cX6_told 22 = .ok (.bipush 10, 2) := by decide +kernel
theorem dX6_told_24 : decode cX6_told 24 = .ok (.irem, 1) := by decide +kernel
theorem dX6_told_25 : decode cX6_told 25 = .ok (.istore_n 3, 1) := by decide +kernel
theorem dX6_told_26 : decode cX6_told 26 = .ok (.aload_n 0, 1) := by decide +kernel
theorem dX6_told_27 : decode cX6_told 27 = .ok (.iload_n 2, 1) := by decide +kernel
theorem dX6_told_28 : decode cX6_told 28 = .ok (.invokevirtual 67, 3) := by decide +kernel
theorem dX6_told_31 : decode cX6_told 31 = .ok (.ifCond .eq 8, 3) := by decide +kernel
theorem dX6_told_34 : decode cX6_told 34 = .ok (.iload_n 3, 1) := by decide +kernel
theorem dX6_told_35 : decode cX6_told 35 = .ok (.iconst 2, 1) := by decide +kernel
theorem dX6_told_36 : decode cX6_told 36 = .ok (.if_icmp .le 8, 3) := by decide +kernel
theorem dX6_told_39 : decode cX6_told 39 = .ok (.bipush (-2), 2) := by decide +kernel
theorem dX6_told_41 : decode cX6_told 41 = .ok (.goto 36, 3) := by decide +kernel
theorem dX6_told_44 : decode cX6_told 44 = .ok (.iload_n 3, 1) := by decide +kernel
theorem dX6_told_45 : decode cX6_told 45 = .ok (.ifCond .ne 12, 3) := by decide +kernel
theorem dX6_told_48 : decode cX6_told 48 = .ok (.aload_n 0, 1) := by decide +kernel
theorem dX6_told_49 : decode cX6_told 49 = .ok (.getfield 7, 3) := by decide +kernel
theorem dX6_told_52 : decode cX6_told 52 = .ok (.iload_n 2, 1) := by decide +kernel
theorem dX6_told_53 : decode cX6_told 53 = .ok (.iaload, 1) := by decide +kernel
theorem dX6_told_54 : decode cX6_told 54 = .ok (.goto 23, 3) := by decide +kernel
theorem dX6_told_57 : decode cX6_told 57 = .ok (.iload_n 3, 1) := by decide +kernel
theorem dX6_told_58 : decode cX6_told 58 = .ok (.iconst 1, 1) := by decide +kernel
theorem dX6_told_59 : decode cX6_told 59 = .ok (.if_icmp .ne 12, 3) := by decide +kernel
theorem dX6_told_62 : decode cX6_told 62 = .ok (.aload_n 0, 1) := by decide +kernel
theorem dX6_told_63 : decode cX6_told 63 = .ok (.getfield 13, 3) := by decide +kernel
theorem dX6_told_66 : decode cX6_told 66 = .ok (.iload_n 2, 1) := by decide +kernel
theorem dX6_told_67 : decode cX6_told 67 = .ok (.iaload, 1) := by decide +kernel
theorem dX6_told_68 : decode cX6_told 68 = .ok (.goto 9, 3) := by decide +kernel
theorem dX6_told_71 : decode cX6_told 71 = .ok (.aload_n 0, 1) := by decide +kernel
theorem dX6_told_72 : decode cX6_told 72 = .ok (.getfield 16, 3) := by decide +kernel
theorem dX6_told_75 : decode cX6_told 75 = .ok (.iload_n 2, 1) := by decide +kernel
theorem dX6_told_76 : decode cX6_told 76 = .ok (.iaload, 1) := by decide +kernel
theorem dX6_told_77 : decode cX6_told 77 = .ok (.ireturn, 1) := by decide +kernel
theorem dX6_told_78 : decode cX6_told 78 = .ok (.iload_n 1, 1) := by decide +kernel
theorem dX6_told_79 : decode cX6_told 79 = .ok (.tableswitch 58 0 4 #[33, 38, 43, 48, 53], 33) := by decide +kernel
theorem dX6_told_112 : decode cX6_told 112 = .ok (.aload_n 0, 1) := by decide +kernel
theorem dX6_told_113 : decode cX6_told 113 = .ok (.getfield 190, 3) := by decide +kernel
theorem dX6_told_116 : decode cX6_told 116 = .ok (.ireturn, 1) := by decide +kernel
theorem dX6_told_117 : decode cX6_told 117 = .ok (.aload_n 0, 1) := by decide +kernel
theorem dX6_told_118 : decode cX6_told 118 = .ok (.getfield 54, 3) := by decide +kernel
theorem dX6_told_121 : decode cX6_told 121 = .ok (.ireturn, 1) := by decide +kernel
theorem dX6_told_122 : decode cX6_told 122 = .ok (.aload_n 0, 1) := by decide +kernel
theorem dX6_told_123 : decode cX6_told 123 = .ok (.getfield 38, 3) := by decide +kernel
theorem dX6_told_126 : decode cX6_told 126 = .ok (.ireturn, 1) := by decide +kernel
theorem dX6_told_127 : decode cX6_told 127 = .ok (.aload_n 0, 1) := by decide +kernel
theorem dX6_told_128 : decode cX6_told 128 = .ok (.getfield 42, 3) := by decide +kernel
theorem dX6_told_131 : decode cX6_told 131 = .ok (.ireturn, 1) := by decide +kernel
theorem dX6_told_132 : decode cX6_told 132 = .ok (.aload_n 0, 1) := by decide +kernel
theorem dX6_told_133 : decode cX6_told 133 = .ok (.getfield 45, 3) := by decide +kernel
theorem dX6_told_136 : decode cX6_told 136 = .ok (.ireturn, 1) := by decide +kernel
theorem dX6_told_137 : decode cX6_told 137 = .ok (.bipush (-2), 2) := by decide +kernel
theorem dX6_told_139 : decode cX6_told 139 = .ok (.ireturn, 1) := by decide +kernel
theorem dJ6_bitCount_0f7a4_0 : decode cJ6_bitCount_0f7a4 0 = .ok (.iload_n 0, 1) := by decide +kernel
theorem dJ6_bitCount_0f7a4_1 : decode cJ6_bitCount_0f7a4 1 = .ok (.iload_n 0, 1) := by decide +kernel
theorem dJ6_bitCount_0f7a4_2 : decode cJ6_bitCount_0f7a4 2 = .ok (.iconst 1, 1) := by decide +kernel
theorem dJ6_bitCount_0f7a4_3 : decode cJ6_bitCount_0f7a4 3 = .ok (.iushr, 1) := by decide +kernel
theorem dJ6_bitCount_0f7a4_4 : decode cJ6_bitCount_0f7a4 4 = .ok (.ldc_w 265, 3) := by decide +kernel
theorem dJ6_bitCount_0f7a4_7 : decode cJ6_bitCount_0f7a4 7 = .ok (.iand, 1) := by decide +kernel
theorem dJ6_bitCount_0f7a4_8 : decode cJ6_bitCount_0f7a4 8 = .ok (.isub, 1) := by decide +kernel
theorem dJ6_bitCount_0f7a4_9 : decode cJ6_bitCount_0f7a4 9 = .ok (.istore_n 0, 1) := by decide +kernel
theorem dJ6_bitCount_0f7a4_10 : decode cJ6_bitCount_0f7a4 10 = .ok (.iload_n 0, 1) := by decide +kernel
theorem dJ6_bitCount_0f7a4_11 : decode cJ6_bitCount_0f7a4 11 = .ok (.ldc_w 266, 3) := by decide +kernel
theorem dJ6_bitCount_0f7a4_14 : decode cJ6_bitCount_0f7a4 14 = .ok (.iand, 1) := by decide +kernel
theorem dJ6_bitCount_0f7a4_15 : decode cJ6_bitCount_0f7a4 15 = .ok (.iload_n 0, 1) := by decide +kernel
theorem dJ6_bitCount_0f7a4_16 : decode cJ6_bitCount_0f7a4 16 = .ok (.iconst 2, 1) := by decide +kernel
theorem dJ6_bitCount_0f7a4_17 : decode cJ6_bitCount_0f7a4 17 = .ok (.iushr, 1) := by decide +kernel
theorem dJ6_bitCount_0f7a4_18 : decode cJ6_bitCount_0f7a4 18 = .ok (.ldc_w 266, 3) := by decide +kernel
theorem dJ6_bitCount_0f7a4_21 : decode cJ6_bitCount_0f7a4 21 = .ok (.iand, 1) := by decide +kernel
theorem dJ6_bitCount_0f7a4_22 : decode cJ6_bitCount_0f7a4 22 = .ok (.iadd, 1) := by decide +kernel
theorem dJ6_bitCount_0f7a4_23 : decode cJ6_bitCount_0f7a4 23 = .ok (.istore_n 0, 1) := by decide +kernel
theorem dJ6_bitCount_0f7a4_24 : decode cJ6_bitCount_0f7a4 24 = .ok (.iload_n 0, 1) := by decide +kernel
theorem dJ6_bitCount_0f7a4_25 : decode cJ6_bitCount_0f7a4 25 = .ok (.iload_n 0, 1) := by decide +kernel
theorem dJ6_bitCount_0f7a4_26 : decode cJ6_bitCount_0f7a4 26 = .ok (.iconst 4, 1) := by decide +kernel
theorem dJ6_bitCount_0f7a4_27 : decode cJ6_bitCount_0f7a4 27 = .ok (.iushr, 1) := by decide +kernel
theorem dJ6_bitCount_0f7a4_28 : decode cJ6_bitCount_0f7a4 28 = .ok (.iadd, 1) := by decide +kernel
theorem dJ6_bitCount_0f7a4_29 : decode cJ6_bitCount_0f7a4 29 = .ok (.ldc_w 267, 3) := by decide +kernel
theorem dJ6_bitCount_0f7a4_32 : decode cJ6_bitCount_0f7a4 32 = .ok (.iand, 1) := by decide +kernel
theorem dJ6_bitCount_0f7a4_33 : decode cJ6_bitCount_0f7a4 33 = .ok (.istore_n 0, 1) := by decide +kernel
theorem dJ6_bitCount_0f7a4_34 : decode cJ6_bitCount_0f7a4 34 = .ok (.iload_n 0, 1) := by decide +kernel
theorem dJ6_bitCount_0f7a4_35 : decode cJ6_bitCount_0f7a4 35 = .ok (.iload_n 0, 1) := by decide +kernel
theorem dJ6_bitCount_0f7a4_36 : decode cJ6_bitCount_0f7a4 36 = .ok (.bipush 8, 2) := by decide +kernel
theorem dJ6_bitCount_0f7a4_38 : decode cJ6_bitCount_0f7a4 38 = .ok (.iushr, 1) := by decide +kernel
theorem dJ6_bitCount_0f7a4_39 : decode cJ6_bitCount_0f7a4 39 = .ok (.iadd, 1) := by decide +kernel
theorem dJ6_bitCount_0f7a4_40 : decode cJ6_bitCount_0f7a4 40 = .ok (.istore_n 0, 1) := by decide +kernel
theorem dJ6_bitCount_0f7a4_41 : decode cJ6_bitCount_0f7a4 41 = .ok (.iload_n 0, 1) := by decide +kernel
theorem dJ6_bitCount_0f7a4_42 : decode cJ6_bitCount_0f7a4 42 = .ok (.iload_n 0, 1) := by decide +kernel
theorem dJ6_bitCount_0f7a4_43 : decode cJ6_bitCount_0f7a4 43 = .ok (.bipush 16, 2) := by decide +kernel
theorem dJ6_bitCount_0f7a4_45 : decode cJ6_bitCount_0f7a4 45 = .ok (.iushr, 1) := by decide +kernel
theorem dJ6_bitCount_0f7a4_46 : decode cJ6_bitCount_0f7a4 46 = .ok (.iadd, 1) := by decide +kernel
theorem dJ6_bitCount_0f7a4_47 : decode cJ6_bitCount_0f7a4 47 = .ok (.istore_n 0, 1) := by decide +kernel
theorem dJ6_bitCount_0f7a4_48 : decode cJ6_bitCount_0f7a4 48 = .ok (.iload_n 0, 1) := by decide +kernel
theorem dJ6_bitCount_0f7a4_49 : decode cJ6_bitCount_0f7a4 49 = .ok (.bipush 63, 2) := by decide +kernel
theorem dJ6_bitCount_0f7a4_51 : decode cJ6_bitCount_0f7a4 51 = .ok (.iand, 1) := by decide +kernel
theorem dJ6_bitCount_0f7a4_52 : decode cJ6_bitCount_0f7a4 52 = .ok (.ireturn, 1) := by decide +kernel
end
section
theorem dL_law_0 : decode cL_law 0 = .ok (.new 7, 3) := by decide +kernel
theorem dL_law_3 : decode cL_law 3 = .ok (.dup, 1) := by decide +kernel
theorem dL_law_4 : decode cL_law 4 = .ok (.invokespecial 9, 3) := by decide +kernel
theorem dL_law_7 : decode cL_law 7 = .ok (.astore_n 1, 1) := by decide +kernel
theorem dL_law_8 : decode cL_law 8 = .ok (.new 10, 3) := by decide +kernel
theorem dL_law_11 : decode cL_law 11 = .ok (.dup, 1) := by decide +kernel
theorem dL_law_12 : decode cL_law 12 = .ok (.invokespecial 12, 3) := by decide +kernel
theorem dL_law_15 : decode cL_law 15 = .ok (.astore_n 2, 1) := by decide +kernel
theorem dL_law_16 : decode cL_law 16 = .ok (.iconst 0, 1) := by decide +kernel
theorem dL_law_17 : decode cL_law 17 = .ok (.istore_n 3, 1) := by decide +kernel
theorem dL_law_18 : decode cL_law 18 = .ok (.iload_n 3, 1) := by decide +kernel
theorem dL_law_19 : decode cL_law 19 = .ok (.aload_n 0, 1) := by decide +kernel
theorem dL_law_20 : decode cL_law 20 = .ok (.arraylength, 1) := by decide +kernel
theorem dL_law_21 : decode cL_law 21 = .ok (.bipush 6, 2) := by decide +kernel
theorem dL_law_23 : decode cL_law 23 = .ok (.isub, 1) := by decide +kernel
theorem dL_law_24 : decode cL_law 24 = .ok (.if_icmp .gt 1011, 3) := by decide +kernel
theorem dL_law_27 : decode cL_law 27 = .ok (.aload_n 0, 1) := by decide +kernel
theorem dL_law_28 : decode cL_law 28 = .ok (.iload_n 3, 1) := by decide +kernel
theorem dL_law_29 : decode cL_law 29 = .ok (.iaload, 1) := by decide +kernel
theorem dL_law_30 : decode cL_law 30 = .ok (.bipush 31, 2) := by decide +kernel
theorem dL_law_32 : decode cL_law 32 = .ok (.iand, 1) := by decide +kernel
theorem dL_law_33 : decode cL_law 33 = .ok (.tableswitch 996 0 22 #[107, 160, 183, 216, 269, 322, 365, 398, 441, 494, 547, 600, 653, 706, 769, 792, 805, 818, 851, 874, 927, 950, 973], 107) := by decide +kernel
theorem dL_law_140 : decode cL_law 140 = .ok (.aload_n 1, 1) := by decide +kernel
theorem dL_law_141 : decode cL_law 141 = .ok (.aload_n 0, 1) := by decide +kernel
theorem dL_law_142 : decode cL_law 142 = .ok (.iload_n 3, 1) := by decide +kernel
theorem dL_law_143 : decode cL_law 143 = .ok (.iconst 1, 1) := by decide +kernel
theorem dL_law_144 : decode cL_law 144 = .ok (.iadd, 1) := by decide +kernel
theorem dL_law_145 : decode cL_law 145 = .ok (.iaload, 1) := by decide +kernel
theorem dL_law_146 : decode cL_law 146 = .ok (.aload_n 0, 1) := by decide +kernel
theorem dL_law_147 : decode cL_law 147 = .ok (.iload_n 3, 1) := by decide +kernel
theorem dL_law_148 : decode cL_law 148 = .ok (.iconst 2, 1) := by decide +kernel
theorem dL_law_149 : decode cL_law 149 = .ok (.iadd, 1) := by decide +kernel
theorem dL_law_150 : decode cL_law 150 = .ok (.iaload, 1) := by decide +kernel
theorem dL_law_151 : decode cL_law 151 = .ok (.aload_n 0, 1) := by decide +kernel
theorem dL_law_152 : decode cL_law 152 = .ok (.iload_n 3, 1) := by decide +kernel
theorem dL_law_153 : decode cL_law 153 = .ok (.iconst 3, 1) := by decide +kernel
theorem dL_law_154 : decode cL_law 154 = .ok (.iadd, 1) := by decide +kernel
theorem dL_law_155 : decode cL_law 155 = .ok (.iaload, 1) := by decide +kernel
theorem dL_law_156 : decode cL_law 156 = .ok (.aload_n 0, 1) := by decide +kernel
theorem dL_law_157 : decode cL_law 157 = .ok (.iload_n 3, 1) := by decide +kernel
theorem dL_law_158 : decode cL_law 158 = .ok (.iconst 4, 1) := by decide +kernel
theorem dL_law_159 : decode cL_law 159 = .ok (.iadd, 1) := by decide +kernel
theorem dL_law_160 : decode cL_law 160 = .ok (.iaload, 1) := by decide +kernel
theorem dL_law_161 : decode cL_law 161 = .ok (.invokevirtual 13, 3) := by decide +kernel
theorem dL_law_164 : decode cL_law 164 = .ok (.aload_n 2, 1) := by decide +kernel
theorem dL_law_165 : decode cL_law 165 = .ok (.aload_n 0, 1) := by decide +kernel
theorem dL_law_166 : decode cL_law 166 = .ok (.iload_n 3, 1) := by decide +kernel
theorem dL_law_167 : decode cL_law 167 = .ok (.iconst 1, 1) := by decide +kernel
theorem dL_law_168 : decode cL_law 168 = .ok (.iadd, 1) := by decide +kernel
theorem dL_law_169 : decode cL_law 169 = .ok (.iaload, 1) := by decide +kernel
theorem dL_law_170 : decode cL_law 170 = .ok (.aload_n 0, 1) := by decide +kernel
theorem dL_law_171 : decode cL_law 171 = .ok (.iload_n 3, 1) := by decide +kernel
theorem dL_law_172 : decode cL_law 172 = .ok (.iconst 2, 1) := by decide +kernel
theorem dL_law_173 : decode cL_law 173 = .ok (.iadd, 1) := by decide +kernel
theorem dL_law_174 : decode cL_law 174 = .ok (.iaload, 1) := by decide +kernel
theorem dL_law_175 : decode cL_law 175 = .ok (.aload_n 0, 1) := by decide +kernel
theorem dL_law_176 : decode cL_law 176 = .ok (.iload_n 3, 1) := by decide +kernel
theorem dL_law_177 : decode cL_law 177 = .ok (.iconst 3, 1) := by decide +kernel
theorem dL_law_178 : decode cL_law 178 = .ok (.iadd, 1) := by decide +kernel
theorem dL_law_179 : decode cL_law 179 = .ok (.iaload, 1) := by decide +kernel
theorem dL_law_180 : decode cL_law 180 = .ok (.aload_n 0, 1) := by decide +kernel
theorem dL_law_181 : decode cL_law 181 = .ok (.iload_n 3, 1) := by decide +kernel
theorem dL_law_182 : decode cL_law 182 = .ok (.iconst 4, 1) := by decide +kernel
theorem dL_law_183 : decode cL_law 183 = .ok (.iadd, 1) := by decide +kernel
theorem dL_law_184 : decode cL_law 184 = .ok (.iaload, 1) := by decide +kernel
theorem dL_law_185 : decode cL_law 185 = .ok (.invokevirtual 17, 3) := by decide +kernel
theorem dL_law_188 : decode cL_law 188 = .ok (.if_icmp .eq 841, 3) := by decide +kernel
theorem dL_law_191 : decode cL_law 191 = .ok (.iconst 0, 1) := by decide +kernel
theorem dL_law_192 : decode cL_law 192 = .ok (.ireturn, 1) := by decide +kernel
theorem dL_law_193 : decode cL_law 193 = .ok (.aload_n 1, 1) := by decide +kernel
theorem dL_law_194 : decode cL_law 194 = .ok (.aload_n 0, 1) := by decide +kernel
theorem dL_law_195 : decode cL_law 195 = .ok (.iload_n 3, 1) := by decide +kernel
theorem dL_law_196 : decode cL_law 196 = .ok (.iconst 1, 1) := by decide +kernel
theorem dL_law_197 : decode cL_law 197 = .ok (.iadd, 1) := by decide +kernel
theorem dL_law_198 : decode cL_law 198 = .ok (.iaload, 1) := by decide +kernel
theorem dL_law_199 : decode cL_law 199 = .ok (.invokevirtual 18, 3) := by decide +kernel
theorem dL_law_202 : decode cL_law 202 = .ok (.aload_n 2, 1) := by decide +kernel
theorem dL_law_203 : decode cL_law 203 = .ok (.aload_n 0, 1) := by decide +kernel
theorem dL_law_204 : decode cL_law 204 = .ok (.iload_n 3, 1) := by decide +kernel
theorem dL_law_205 : decode cL_law 205 = .ok (.iconst 1, 1) := by decide +kernel
theorem dL_law_206 : decode cL_law 206 = .ok (.iadd, 1) := by decide +kernel
theorem dL_law_207 : decode cL_law 207 = .ok (.iaload, 1) := by decide +kernel
theorem dL_law_208 : decode cL_law 208 = .ok (.invokevirtual 22, 3) := by decide +kernel
theorem dL_law_211 : decode cL_law 211 = .ok (.if_icmp .eq 818, 3) := by decide +kernel
theorem dL_law_214 : decode cL_law 214 = .ok (.iconst 0, 1) := by decide +kernel
theorem dL_law_215 : decode cL_law 215 = .ok (.ireturn, 1) := by decide +kernel
theorem dL_law_216 : decode cL_law 216 = .ok (.aload_n 1, 1) := by decide +kernel
theorem dL_law_217 : decode cL_law 217 = .ok (.aload_n 0, 1) := by decide +kernel
theorem dL_law_218 : decode cL_law 218 = .ok (.iload_n 3, 1) := by decide +kernel
theorem dL_law_219 : decode cL_law 219 = .ok (.iconst 1, 1) := by decide +kernel
theorem dL_law_220 : decode cL_law 220 = .ok (.iadd, 1) := by decide +kernel
theorem dL_law_221 : decode cL_law 221 = .ok (.iaload, 1) := by decide +kernel
theorem dL_law_222 : decode cL_law 222 = .ok (.aload_n 0, 1) := by decide +kernel
theorem dL_law_223 : decode cL_law 223 = .ok (.iload_n 3, 1) := by decide +kernel
theorem dL_law_224 : decode cL_law 224 = .ok (.iconst 2, 1) := by decide +kernel
theorem dL_law_225 : decode cL_law 225 = .ok (.iadd, 1) := by decide +kernel
theorem dL_law_226 : decode cL_law 226 = .ok (.iaload, 1) := by decide +kernel
theorem dL_law_227 : decode cL_law 227 = .ok (.invokevirtual 23, 3) := by decide +kernel
theorem dL_law_230 : decode cL_law 230 = .ok (.aload_n 2, 1) := by decide +kernel
theorem dL_law_231 : decode cL_law 231 = .ok (.aload_n 0, 1) := by decide +kernel
theorem dL_law_232 : decode cL_law 232 = .ok (.iload_n 3, 1) := by decide +kernel
theorem dL_law_233 : decode cL_law 233 = .ok (.iconst 1, 1) := by decide +kernel
theorem dL_law_234 : decode cL_law 234 = .ok (.iadd, 1) := by decide +kernel
theorem dL_law_235 : decode cL_law 235 = .ok (.iaload, 1) := by decide +kernel
theorem dL_law_236 : decode cL_law 236 = .ok (.aload_n 0, 1) := by decide +kernel
theorem dL_law_237 : decode cL_law 237 = .ok (.iload_n 3, 1) := by decide +kernel
theorem dL_law_238 : decode cL_law 238 = .ok (.iconst 2, 1) := by decide +kernel
theorem dL_law_239 : decode cL_law 239 = .ok (.iadd, 1) := by decide +kernel
theorem dL_law_240 : decode cL_law 240 = .ok (.iaload, 1) := by decide +kernel
theorem dL_law_241 : decode cL_law 241 = .ok (.invokevirtual 27, 3) := by decide +kernel
theorem dL_law_244 : decode cL_law 244 = .ok (.if_icmp .eq 785, 3) := by decide +kernel
theorem dL_law_247 : decode cL_law 247 = .ok (.iconst 0, 1) := by decide +kernel
theorem dL_law_248 : decode cL_law 248 = .ok (.ireturn, 1) := by decide +kernel
theorem dL_law_249 : decode cL_law 249 = .ok (.aload_n 1, 1) := by decide +kernel
theorem dL_law_250 : decode cL_law 250 = .ok (.aload_n 0, 1) := by decide +kernel
theorem dL_law_251 : decode cL_law 251 = .ok (.iload_n 3, 1) := by decide +kernel
theorem dL_law_252 : decode cL_law 252 = .ok (.iconst 1, 1) := by decide +kernel
theorem dL_law_253 : decode cL_law 253 = .ok (.iadd, 1) := by decide +kernel
theorem dL_law_254 : decode cL_law 254 = .ok (.iaload, 1) := by decide +kernel
theorem dL_law_255 : decode cL_law 255 = .ok (.aload_n 0, 1) := by decide +kernel
theorem dL_law_256 : decode cL_law 256 = .ok (.iload_n 3, 1) := by decide +kernel
theorem dL_law_257 : decode cL_law 257 = .ok (.iconst 2, 1) := by decide +kernel
theorem dL_law_258 : decode cL_law 258 = .ok (.iadd, 1) := by decide +kernel
theorem dL_law_259 : decode cL_law 259 = .ok (.iaload, 1) := by decide +kernel
theorem dL_law_260 : decode cL_law 260 = .ok (.aload_n 0, 1) := by decide +kernel
theorem dL_law_261 : decode cL_law 261 = .ok (.iload_n 3, 1) := by decide +kernel
theorem dL_law_262 : decode cL_law 262 = .ok (.iconst 3, 1) := by decide +kernel
theorem dL_law_263 : decode cL_law 263 = .ok (.iadd, 1) := by decide +kernel
theorem dL_law_264 : decode cL_law 264 = .ok (.iaload, 1) := by decide +kernel
theorem dL_law_265 : decode cL_law 265 = .ok (.aload_n 0, 1) := by decide +kernel
theorem dL_law_266 : decode cL_law 266 = .ok (.iload_n 3, 1) := by decide +kernel
theorem dL_law_267 : decode cL_law 267 = .ok (.iconst 4, 1) := by decide +kernel
theorem dL_law_268 : decode cL_law 268 = .ok (.iadd, 1) := by decide +kernel
theorem dL_law_269 : decode cL_law 269 = .ok (.iaload, 1) := by decide +kernel
theorem dL_law_270 : decode cL_law 270 = .ok (.invokevirtual 28, 3) := by decide +kernel
theorem dL_law_273 : decode cL_law 273 = .ok (.aload_n 2, 1) := by decide +kernel
theorem dL_law_274 : decode cL_law 274 = .ok (.aload_n 0, 1) := by decide +kernel
theorem dL_law_275 : decode cL_law 275 = .ok (.iload_n 3, 1) := by decide +kernel
theorem dL_law_276 : decode cL_law 276 = .ok (.iconst 1, 1) := by decide +kernel
theorem dL_law_277 : decode cL_law 277 = .ok (.iadd, 1) := by decide +kernel
theorem dL_law_278 : decode cL_law 278 = .ok (.iaload, 1) := by decide +kernel
theorem dL_law_279 : decode cL_law 279 = .ok (.aload_n 0, 1) := by decide +kernel
theorem dL_law_280 : decode cL_law 280 = .ok (.iload_n 3, 1) := by decide +kernel
theorem dL_law_281 : decode cL_law 281 = .ok (.iconst 2, 1) := by decide +kernel
theorem dL_law_282 : decode cL_law 282 = .ok (.iadd, 1) := by decide +kernel
theorem dL_law_283 : decode cL_law 283 = .ok (.iaload, 1) := by decide +kernel
theorem dL_law_284 : decode cL_law 284 = .ok (.aload_n 0, 1) := by decide +kernel
theorem dL_law_285 : decode cL_law 285 = .ok (.iload_n 3, 1) := by decide +kernel
theorem dL_law_286 : decode cL_law 286 = .ok (.iconst 3, 1) := by decide +kernel
theorem dL_law_287 : decode cL_law 287 = .ok (.iadd, 1) := by decide +kernel
theorem dL_law_288 : decode cL_law 288 = .ok (.iaload, 1) := by decide +kernel
theorem dL_law_289 : decode cL_law 289 = .ok (.aload_n 0, 1) := by decide +kernel
theorem dL_law_290 : decode cL_law 290 = .ok (.iload_n 3, 1) := by decide +kernel
theorem dL_law_291 : decode cL_law 291 = .ok (.iconst 4, 1) := by decide +kernel
theorem dL_law_292 : decode cL_law 292 = .ok (.iadd, 1) := by decide +kernel
theorem dL_law_293 : decode cL_law 293 = .ok (.iaload, 1) := by decide +kernel
theorem dL_law_294 : decode cL_law 294 = .ok (.invokevirtual 31, 3) := by decide +kernel
theorem dL_law_297 : decode cL_law 297 = .ok (.if_icmp .eq 732, 3) := by decide +kernel
theorem dL_law_300 : decode cL_law 300 = .ok (.iconst 0, 1) := by decide +kernel
theorem dL_law_301 : decode cL_law 301 = .ok (.ireturn, 1) := by decide +kernel
theorem dL_law_302 : decode cL_law 302 = .ok (.aload_n 1, 1) := by decide +kernel
theorem dL_law_303 : decode cL_law 303 = .ok (.aload_n 0, 1) := by decide +kernel
theorem dL_law_304 : decode cL_law 304 = .ok (.iload_n 3, 1) := by decide +kernel
theorem dL_law_305 : decode cL_law 305 = .ok (.iconst 1, 1) := by decide +kernel
theorem dL_law_306 : decode cL_law 306 = .ok (.iadd, 1) := by decide +kernel
theorem dL_law_307 : decode cL_law 307 = .ok (.iaload, 1) := by decide +kernel
theorem dL_law_308 : decode cL_law 308 = .ok (.aload_n 0, 1) := by decide +kernel
theorem dL_law_309 : decode cL_law 309 = .ok (.iload_n 3, 1) := by decide +kernel
theorem dL_law_310 : decode cL_law 310 = .ok (.iconst 2, 1) := by decide +kernel
theorem dL_law_311 : decode cL_law 311 = .ok (.iadd, 1) := by decide +kernel
theorem dL_law_312 : decode cL_law 312 = .ok (.iaload, 1) := by decide +kernel
theorem dL_law_313 : decode cL_law 313 = .ok (.aload_n 0, 1) := by decide +kernel
theorem dL_law_314 : decode cL_law 314 = .ok (.iload_n 3, 1) := by decide +kernel
theorem dL_law_315 : decode cL_law 315 = .ok (.iconst 3, 1) := by decide +kernel
theorem dL_law_316 : decode cL_law 316 = .ok (.iadd, 1) := by decide +kernel
theorem dL_law_317 : decode cL_law 317 = .ok (.iaload, 1) := by decide +kernel
theorem dL_law_318 : decode cL_law 318 = .ok (.aload_n 0, 1) := by decide +kernel
theorem dL_law_319 : decode cL_law 319 = .ok (.iload_n 3, 1) := by decide +kernel
theorem dL_law_320 : decode cL_law 320 = .ok (.iconst 4, 1) := by decide +kernel
theorem dL_law_321 : decode cL_law 321 = .ok (.iadd, 1) := by decide +kernel
theorem dL_law_322 : decode cL_law 322 = .ok (.iaload, 1) := by decide +kernel
theorem dL_law_323 : decode cL_law 323 = .ok (.invokevirtual 32, 3) := by decide +kernel
theorem dL_law_326 : decode cL_law 326 = .ok (.aload_n 2, 1) := by decide +kernel
theorem dL_law_327 : decode cL_law 327 = .ok (.aload_n 0, 1) := by decide +kernel
theorem dL_law_328 : decode cL_law 328 = .ok (.iload_n 3, 1) := by decide +kernel
theorem dL_law_329 : decode cL_law 329 = .ok (.iconst 1, 1) := by decide +kernel
theorem dL_law_330 : decode cL_law 330 = .ok (.iadd, 1) := by decide +kernel
theorem dL_law_331 : decode cL_law 331 = .ok (.iaload, 1) := by decide +kernel
theorem dL_law_332 : decode cL_law 332 = .ok (.aload_n 0, 1) := by decide +kernel
theorem dL_law_333 : decode cL_law 333 = .ok (.iload_n 3, 1) := by decide +kernel
theorem dL_law_334 : decode cL_law 334 = .ok (.iconst 2, 1) := by decide +kernel
theorem dL_law_335 : decode cL_law 335 = .ok (.iadd, 1) := by decide +kernel
theorem dL_law_336 : decode cL_law 336 = .ok (.iaload, 1) := by decide +kernel
theorem dL_law_337 : decode cL_law 337 = .ok (.aload_n 0, 1) := by decide +kernel
theorem dL_law_338 : decode cL_law 338 = .ok (.iload_n 3, 1) := by decide +kernel
theorem dL_law_339 : decode cL_law 339 = .ok (.iconst 3, 1) := by decide +kernel
theorem dL_law_340 : decode cL_law 340 = .ok (.iadd, 1) := by decide +kernel
theorem dL_law_341 : decode cL_law 341 = .ok (.iaload, 1) := by decide +kernel
theorem dL_law_342 : decode cL_law 342 = .ok (.aload_n 0, 1) := by decide +kernel
theorem dL_law_343 : decode cL_law 343 = .ok (.iload_n 3, 1) := by decide +kernel
theorem dL_law_344 : decode cL_law 344 = .ok (.iconst 4, 1) := by decide +kernel
theorem dL_law_345 : decode cL_law 345 = .ok (.iadd, 1) := by decide +kernel
theorem dL_law_346 : decode cL_law 346 = .ok (.iaload, 1) := by decide +kernel
theorem dL_law_347 : decode cL_law 347 = .ok (.invokevirtual 35, 3) := by decide +kernel
theorem dL_law_350 : decode cL_law 350 = .ok (.if_icmp .eq 679, 3) := by decide +kernel
theorem dL_law_353 : decode cL_law 353 = .ok (.iconst 0, 1) := by decide +kernel
theorem dL_law_354 : decode cL_law 354 = .ok (.ireturn, 1) := by decide +kernel
theorem dL_law_355 : decode cL_law 355 = .ok (.aload_n 1, 1) := by decide +kernel
theorem dL_law_356 : decode cL_law 356 = .ok (.aload_n 0, 1) := by decide +kernel
theorem dL_law_357 : decode cL_law 357 = .ok (.iload_n 3, 1) := by decide +kernel
theorem dL_law_358 : decode cL_law 358 = .ok (.iconst 1, 1) := by decide +kernel
theorem dL_law_359 : decode cL_law 359 = .ok (.iadd, 1) := by decide +kernel
theorem dL_law_360 : decode cL_law 360 = .ok (.iaload, 1) := by decide +kernel
theorem dL_law_361 : decode cL_law 361 = .ok (.aload_n 0, 1) := by decide +kernel
theorem dL_law_362 : decode cL_law 362 = .ok (.iload_n 3, 1) := by decide +kernel
theorem dL_law_363 : decode cL_law 363 = .ok (.iconst 2, 1) := by decide +kernel
theorem dL_law_364 : decode cL_law 364 = .ok (.iadd, 1) := by decide +kernel
theorem dL_law_365 : decode cL_law 365 = .ok (.iaload, 1) := by decide +kernel
theorem dL_law_366 : decode cL_law 366 = .ok (.aload_n 0, 1) := by decide +kernel
theorem dL_law_367 : decode cL_law 367 = .ok (.iload_n 3, 1) := by decide +kernel
theorem dL_law_368 : decode cL_law 368 = .ok (.iconst 3, 1) := by decide +kernel
theorem dL_law_369 : decode cL_law 369 = .ok (.iadd, 1) := by decide +kernel
theorem dL_law_370 : decode cL_law 370 = .ok (.iaload, 1) := by decide +kernel
theorem dL_law_371 : decode cL_law 371 = .ok (.invokevirtual 36, 3) := by decide +kernel
theorem dL_law_374 : decode cL_law 374 = .ok (.aload_n 2, 1) := by decide +kernel
theorem dL_law_375 : decode cL_law 375 = .ok (.aload_n 0, 1) := by decide +kernel
theorem dL_law_376 : decode cL_law 376 = .ok (.iload_n 3, 1) := by decide +kernel
theorem dL_law_377 : decode cL_law 377 = .ok (.iconst 1, 1) := by decide +kernel
theorem dL_law_378 : decode cL_law 378 = .ok (.iadd, 1) := by decide +kernel
theorem dL_law_379 : decode cL_law 379 = .ok (.iaload, 1) := by decide +kernel
theorem dL_law_380 : decode cL_law 380 = .ok (.aload_n 0, 1) := by decide +kernel
theorem dL_law_381 : decode cL_law 381 = .ok (.iload_n 3, 1) := by decide +kernel
theorem dL_law_382 : decode cL_law 382 = .ok (.iconst 2, 1) := by decide +kernel
theorem dL_law_383 : decode cL_law 383 = .ok (.iadd, 1) := by decide +kernel
theorem dL_law_384 : decode cL_law 384 = .ok (.iaload, 1) := by decide +kernel
theorem dL_law_385 : decode cL_law 385 = .ok (.aload_n 0, 1) := by decide +kernel
theorem dL_law_386 : decode cL_law 386 = .ok (.iload_n 3, 1) := by decide +kernel
theorem dL_law_387 : decode cL_law 387 = .ok (.iconst 3, 1) := by decide +kernel
theorem dL_law_388 : decode cL_law 388 = .ok (.iadd, 1) := by decide +kernel
theorem dL_law_389 : decode cL_law 389 = .ok (.iaload, 1) := by decide +kernel
theorem dL_law_390 : decode cL_law 390 = .ok (.invokevirtual 40, 3) := by decide +kernel
theorem dL_law_393 : decode cL_law 393 = .ok (.if_icmp .eq 636, 3) := by decide +kernel
theorem dL_law_396 : decode cL_law 396 = .ok (.iconst 0, 1) := by decide +kernel
theorem dL_law_397 : decode cL_law 397 = .ok (.ireturn, 1) := by decide +kernel
theorem dL_law_398 : decode cL_law 398 = .ok (.aload_n 1, 1) := by decide +kernel
theorem dL_law_399 : decode cL_law 399 = .ok (.aload_n 0, 1) := by decide +kernel
theorem dL_law_400 : decode cL_law 400 = .ok (.iload_n 3, 1) := by decide +kernel
theorem dL_law_401 : decode cL_law 401 = .ok (.iconst 1, 1) := by decide +kernel
theorem dL_law_402 : decode cL_law 402 = .ok (.iadd, 1) := by decide +kernel
theorem dL_law_403 : decode cL_law 403 = .ok (.iaload, 1) := by decide +kernel
theorem dL_law_404 : decode cL_law 404 = .ok (.aload_n 0, 1) := by decide +kernel
theorem dL_law_405 : decode cL_law 405 = .ok (.iload_n 3, 1) := by decide +kernel
theorem dL_law_406 : decode cL_law 406 = .ok (.iconst 2, 1) := by decide +kernel
theorem dL_law_407 : decode cL_law 407 = .ok (.iadd, 1) := by decide +kernel
theorem dL_law_408 : decode cL_law 408 = .ok (.iaload, 1) := by decide +kernel
theorem dL_law_409 : decode cL_law 409 = .ok (.invokevirtual 41, 3) := by decide +kernel
theorem dL_law_412 : decode cL_law 412 = .ok (.aload_n 2, 1) := by decide +kernel
theorem dL_law_413 : decode cL_law 413 = .ok (.aload_n 0, 1) := by decide +kernel
theorem dL_law_414 : decode cL_law 414 = .ok (.iload_n 3, 1) := by decide +kernel
theorem dL_law_415 : decode cL_law 415 = .ok (.iconst 1, 1) := by decide +kernel
theorem dL_law_416 : decode cL_law 416 = .ok (.iadd, 1) := by decide +kernel
theorem dL_law_417 : decode cL_law 417 = .ok (.iaload, 1) := by decide +kernel
theorem dL_law_418 : decode cL_law 418 = .ok (.aload_n 0, 1) := by decide +kernel
theorem dL_law_419 : decode cL_law 419 = .ok (.iload_n 3, 1) := by decide +kernel
theorem dL_law_420 : decode cL_law 420 = .ok (.iconst 2, 1) := by decide +kernel
theorem dL_law_421 : decode cL_law 421 = .ok (.iadd, 1) := by decide +kernel
theorem dL_law_422 : decode cL_law 422 = .ok (.iaload, 1) := by decide +kernel
theorem dL_law_423 : decode cL_law 423 = .ok (.invokevirtual 44, 3) := by decide +kernel
theorem dL_law_426 : decode cL_law 426 = .ok (.if_icmp .eq 603, 3) := by decide +kernel
theorem dL_law_429 : decode cL_law 429 = .ok (.iconst 0, 1) := by decide +kernel
theorem dL_law_430 : decode cL_law 430 = .ok (.ireturn, 1) := by decide +kernel
theorem dL_law_431 : decode cL_law 431 = .ok (.aload_n 1, 1) := by decide +kernel
theorem dL_law_432 : decode cL_law 432 = .ok (.aload_n 0, 1) := by decide +kernel
theorem dL_law_433 : decode cL_law 433 = .ok (.iload_n 3, 1) := by decide +kernel
theorem dL_law_434 : decode cL_law 434 = .ok (.iconst 1, 1) := by decide +kernel
theorem dL_law_435 : decode cL_law 435 = .ok (.iadd, 1) := by decide +kernel
theorem dL_law_436 : decode cL_law 436 = .ok (.iaload, 1) := by decide +kernel
theorem dL_law_437 : decode cL_law 437 = .ok (.aload_n 0, 1) := by decide +kernel
theorem dL_law_438 : decode cL_law 438 = .ok (.iload_n 3, 1) := by decide +kernel
theorem dL_law_439 : decode cL_law 439 = .ok (.iconst 2, 1) := by decide +kernel
theorem dL_law_440 : decode cL_law 440 = .ok (.iadd, 1) := by decide +kernel
theorem dL_law_441 : decode cL_law 441 = .ok (.iaload, 1) := by decide +kernel
theorem dL_law_442 : decode cL_law 442 = .ok (.aload_n 0, 1) := by decide +kernel
theorem dL_law_443 : decode cL_law 443 = .ok (.iload_n 3, 1) := by decide +kernel
theorem dL_law_444 : decode cL_law 444 = .ok (.iconst 3, 1) := by decide +kernel
theorem dL_law_445 : decode cL_law 445 = .ok (.iadd, 1) := by decide +kernel
theorem dL_law_446 : decode cL_law 446 = .ok (.iaload, 1) := by decide +kernel
theorem dL_law_447 : decode cL_law 447 = .ok (.invokevirtual 45, 3) := by decide +kernel
theorem dL_law_450 : decode cL_law 450 = .ok (.aload_n 2, 1) := by decide +kernel
theorem dL_law_451 : decode cL_law 451 = .ok (.aload_n 0, 1) := by decide +kernel
theorem dL_law_452 : decode cL_law 452 = .ok (.iload_n 3, 1) := by decide +kernel
theorem dL_law_453 : decode cL_law 453 = .ok (.iconst 1, 1) := by decide +kernel
theorem dL_law_454 : decode cL_law 454 = .ok (.iadd, 1) := by decide +kernel
theorem dL_law_455 : decode cL_law 455 = .ok (.iaload, 1) := by decide +kernel
theorem dL_law_456 : decode cL_law 456 = .ok (.aload_n 0, 1) := by decide +kernel
theorem dL_law_457 : decode cL_law 457 = .ok (.iload_n 3, 1) := by decide +kernel
theorem dL_law_458 : decode cL_law 458 = .ok (.iconst 2, 1) := by decide +kernel
theorem dL_law_459 : decode cL_law 459 = .ok (.iadd, 1) := by decide +kernel
theorem dL_law_460 : decode cL_law 460 = .ok (.iaload, 1) := by decide +kernel
theorem dL_law_461 : decode cL_law 461 = .ok (.aload_n 0, 1) := by decide +kernel
theorem dL_law_462 : decode cL_law 462 = .ok (.iload_n 3, 1) := by decide +kernel
theorem dL_law_463 : decode cL_law 463 = .ok (.iconst 3, 1) := by decide +kernel
theorem dL_law_464 : decode cL_law 464 = .ok (.iadd, 1) := by decide +kernel
theorem dL_law_465 : decode cL_law 465 = .ok (.iaload, 1) := by decide +kernel
theorem dL_law_466 : decode cL_law 466 = .ok (.invokevirtual 48, 3) := by decide +kernel
theorem dL_law_469 : decode cL_law 469 = .ok (.if_icmp .eq 560, 3) := by decide +kernel
theorem dL_law_472 : decode cL_law 472 = .ok (.iconst 0, 1) := by decide +kernel
theorem dL_law_473 : decode cL_law 473 = .ok (.ireturn, 1) := by decide +kernel
theorem dL_law_474 : decode cL_law 474 = .ok (.aload_n 1, 1) := by decide +kernel
theorem dL_law_475 : decode cL_law 475 = .ok (.aload_n 0, 1) := by decide +kernel
theorem dL_law_476 : decode cL_law 476 = .ok (.iload_n 3, 1) := by decide +kernel
theorem dL_law_477 : decode cL_law 477 = .ok (.iconst 1, 1) := by decide +kernel
theorem dL_law_478 : decode cL_law 478 = .ok (.iadd, 1) := by decide +kernel
theorem dL_law_479 : decode cL_law 479 = .ok (.iaload, 1) := by decide +kernel
theorem dL_law_480 : decode cL_law 480 = .ok (.aload_n 0, 1) := by decide +kernel
theorem dL_law_481 : decode cL_law 481 = .ok (.iload_n 3, 1) := by decide +kernel
theorem dL_law_482 : decode cL_law 482 = .ok (.iconst 2, 1) := by decide +kernel
theorem dL_law_483 : decode cL_law 483 = .ok (.iadd, 1) := by decide +kernel
theorem dL_law_484 : decode cL_law 484 = .ok (.iaload, 1) := by decide +kernel
theorem dL_law_485 : decode cL_law 485 = .ok (.aload_n 0, 1) := by decide +kernel
theorem dL_law_486 : decode cL_law 486 = .ok (.iload_n 3, 1) := by decide +kernel
theorem dL_law_487 : decode cL_law 487 = .ok (.iconst 3, 1) := by decide +kernel
theorem dL_law_488 : decode cL_law 488 = .ok (.iadd, 1) := by decide +kernel
theorem dL_law_489 : decode cL_law 489 = .ok (.iaload, 1) := by decide +kernel
theorem dL_law_490 : decode cL_law 490 = .ok (.aload_n 0, 1) := by decide +kernel
theorem dL_law_491 : decode cL_law 491 = .ok (.iload_n 3, 1) := by decide +kernel
theorem dL_law_492 : decode cL_law 492 = .ok (.iconst 4, 1) := by decide +kernel
theorem dL_law_493 : decode cL_law 493 = .ok (.iadd, 1) := by decide +kernel
theorem dL_law_494 : decode cL_law 494 = .ok (.iaload, 1) := by decide +kernel
theorem dL_law_495 : decode cL_law 495 = .ok (.invokevirtual 49, 3) := by decide +kernel
theorem dL_law_498 : decode cL_law 498 = .ok (.aload_n 2, 1) := by decide +kernel
theorem dL_law_499 : decode cL_law 499 = .ok (.aload_n 0, 1) := by decide +kernel
theorem dL_law_500 : decode cL_law 500 = .ok (.iload_n 3, 1) := by decide +kernel
theorem dL_law_501 : decode cL_law 501 = .ok (.iconst 1, 1) := by decide +kernel
theorem dL_law_502 : decode cL_law 502 = .ok (.iadd, 1) := by decide +kernel
theorem dL_law_503 : decode cL_law 503 = .ok (.iaload, 1) := by decide +kernel
theorem dL_law_504 : decode cL_law 504 = .ok (.aload_n 0, 1) := by decide +kernel
theorem dL_law_505 : decode cL_law 505 = .ok (.iload_n 3, 1) := by decide +kernel
theorem dL_law_506 : decode cL_law 506 = .ok (.iconst 2, 1) := by decide +kernel
theorem dL_law_507 : decode cL_law 507 = .ok (.iadd, 1) := by decide +kernel
theorem dL_law_508 : decode cL_law 508 = .ok (.iaload, 1) := by decide +kernel
theorem dL_law_509 : decode cL_law 509 = .ok (.aload_n 0, 1) := by decide +kernel
theorem dL_law_510 : decode cL_law 510 = .ok (.iload_n 3, 1) := by decide +kernel
theorem dL_law_511 : decode cL_law 511 = .ok (.iconst 3, 1) := by decide +kernel
theorem dL_law_512 : decode cL_law 512 = .ok (.iadd, 1) := by decide +kernel
theorem dL_law_513 : decode cL_law 513 = .ok (.iaload, 1) := by decide +kernel
theorem dL_law_514 : decode cL_law 514 = .ok (.aload_n 0, 1) := by decide +kernel
theorem dL_law_515 : decode cL_law 515 = .ok (.iload_n 3, 1) := by decide +kernel
theorem dL_law_516 : decode cL_law 516 = .ok (.iconst 4, 1) := by decide +kernel
theorem dL_law_517 : decode cL_law 517 = .ok (.iadd, 1) := by decide +kernel
theorem dL_law_518 : decode cL_law 518 = .ok (.iaload, 1) := by decide +kernel
theorem dL_law_519 : decode cL_law 519 = .ok (.invokevirtual 52, 3) := by decide +kernel
theorem dL_law_522 : decode cL_law 522 = .ok (.if_icmp .eq 507, 3) := by decide +kernel
theorem dL_law_525 : decode cL_law 525 = .ok (.iconst 0, 1) := by decide +kernel
theorem dL_law_526 : decode cL_law 526 = .ok (.ireturn, 1) := by decide +kernel
theorem dL_law_527 : decode cL_law 527 = .ok (.aload_n 1, 1) := by decide +kernel
theorem dL_law_528 : decode cL_law 528 = .ok (.aload_n 0, 1) := by decide +kernel
theorem dL_law_529 : decode cL_law 529 = .ok (.iload_n 3, 1) := by decide +kernel
theorem dL_law_530 : decode cL_law 530 = .ok (.iconst 1, 1) := by decide +kernel
theorem dL_law_531 : decode cL_law 531 = .ok (.iadd, 1) := by decide +kernel
theorem dL_law_532 : decode cL_law 532 = .ok (.iaload, 1) := by decide +kernel
theorem dL_law_533 : decode cL_law 533 = .ok (.aload_n 0, 1) := by decide +kernel
theorem dL_law_534 : decode cL_law 534 = .ok (.iload_n 3, 1) := by decide +kernel
theorem dL_law_535 : decode cL_law 535 = .ok (.iconst 2, 1) := by decide +kernel
theorem dL_law_536 : decode cL_law 536 = .ok (.iadd, 1) := by decide +kernel
theorem dL_law_537 : decode cL_law 537 = .ok (.iaload, 1) := by decide +kernel
theorem dL_law_538 : decode cL_law 538 = .ok (.aload_n 0, 1) := by decide +kernel
theorem dL_law_539 : decode cL_law 539 = .ok (.iload_n 3, 1) := by decide +kernel
theorem dL_law_540 : decode cL_law 540 = .ok (.iconst 3, 1) := by decide +kernel
theorem dL_law_541 : decode cL_law 541 = .ok (.iadd, 1) := by decide +kernel
theorem dL_law_542 : decode cL_law 542 = .ok (.iaload, 1) := by decide +kernel
theorem dL_law_543 : decode cL_law 543 = .ok (.aload_n 0, 1) := by decide +kernel
theorem dL_law_544 : decode cL_law 544 = .ok (.iload_n 3, 1) := by decide +kernel
theorem dL_law_545 : decode cL_law 545 = .ok (.iconst 4, 1) := by decide +kernel
theorem dL_law_546 : decode cL_law 546 = .ok (.iadd, 1) := by decide +kernel
theorem dL_law_547 : decode cL_law 547 = .ok (.iaload, 1) := by decide +kernel
theorem dL_law_548 : decode cL_law 548 = .ok (.invokevirtual 53, 3) := by decide +kernel
theorem dL_law_551 : decode cL_law 551 = .ok (.aload_n 2, 1) := by decide +kernel
theorem dL_law_552 : decode cL_law 552 = .ok (.aload_n 0, 1) := by decide +kernel
theorem dL_law_553 : decode cL_law 553 = .ok (.iload_n 3, 1) := by decide +kernel
theorem dL_law_554 : decode cL_law 554 = .ok (.iconst 1, 1) := by decide +kernel
theorem dL_law_555 : decode cL_law 555 = .ok (.iadd, 1) := by decide +kernel
theorem dL_law_556 : decode cL_law 556 = .ok (.iaload, 1) := by decide +kernel
theorem dL_law_557 : decode cL_law 557 = .ok (.aload_n 0, 1) := by decide +kernel
theorem dL_law_558 : decode cL_law 558 = .ok (.iload_n 3, 1) := by decide +kernel
theorem dL_law_559 : decode cL_law 559 = .ok (.iconst 2, 1) := by decide +kernel
theorem dL_law_560 : decode cL_law 560 = .ok (.iadd, 1) := by decide +kernel
theorem dL_law_561 : decode cL_law 561 = .ok (.iaload, 1) := by decide +kernel
theorem dL_law_562 : decode cL_law 562 = .ok (.aload_n 0, 1) := by decide +kernel
theorem dL_law_563 : decode cL_law 563 = .ok (.iload_n 3, 1) := by decide +kernel
theorem dL_law_564 : decode cL_law 564 = .ok (.iconst 3, 1) := by decide +kernel
theorem dL_law_565 : decode cL_law 565 = .ok (.iadd, 1) := by decide +kernel
theorem dL_law_566 : decode cL_law 566 = .ok (.iaload, 1) := by decide +kernel
theorem dL_law_567 : decode cL_law 567 = .ok (.aload_n 0, 1) := by decide +kernel
theorem dL_law_568 : decode cL_law 568 = .ok (.iload_n 3, 1) := by decide +kernel
theorem dL_law_569 : decode cL_law 569 = .ok (.iconst 4, 1) := by decide +kernel
theorem dL_law_570 : decode cL_law 570 = .ok (.iadd, 1) := by decide +kernel
theorem dL_law_571 : decode cL_law 571 = .ok (.iaload, 1) := by decide +kernel
theorem dL_law_572 : decode cL_law 572 = .ok (.invokevirtual 56, 3) := by decide +kernel
theorem dL_law_575 : decode cL_law 575 = .ok (.if_icmp .eq 454, 3) := by decide +kernel
theorem dL_law_578 : decode cL_law 578 = .ok (.iconst 0, 1) := by decide +kernel
theorem dL_law_579 : decode cL_law 579 = .ok (.ireturn, 1) := by decide +kernel
theorem dL_law_580 : decode cL_law 580 = .ok (.aload_n 1, 1) := by decide +kernel
theorem dL_law_581 : decode cL_law 581 = .ok (.aload_n 0, 1) := by decide +kernel
theorem dL_law_582 : decode cL_law 582 = .ok (.iload_n 3, 1) := by decide +kernel
theorem dL_law_583 : decode cL_law 583 = .ok (.iconst 1, 1) := by decide +kernel
theorem dL_law_584 : decode cL_law 584 = .ok (.iadd, 1) := by decide +kernel
theorem dL_law_585 : decode cL_law 585 = .ok (.iaload, 1) := by decide +kernel
theorem dL_law_586 : decode cL_law 586 = .ok (.aload_n 0, 1) := by decide +kernel
theorem dL_law_587 : decode cL_law 587 = .ok (.iload_n 3, 1) := by decide +kernel
theorem dL_law_588 : decode cL_law 588 = .ok (.iconst 2, 1) := by decide +kernel
theorem dL_law_589 : decode cL_law 589 = .ok (.iadd, 1) := by decide +kernel
theorem dL_law_590 : decode cL_law 590 = .ok (.iaload, 1) := by decide +kernel
theorem dL_law_591 : decode cL_law 591 = .ok (.aload_n 0, 1) := by decide +kernel
theorem dL_law_592 : decode cL_law 592 = .ok (.iload_n 3, 1) := by decide +kernel
theorem dL_law_593 : decode cL_law 593 = .ok (.iconst 3, 1) := by decide +kernel
theorem dL_law_594 : decode cL_law 594 = .ok (.iadd, 1) := by decide +kernel
theorem dL_law_595 : decode cL_law 595 = .ok (.iaload, 1) := by decide +kernel
theorem dL_law_596 : decode cL_law 596 = .ok (.aload_n 0, 1) := by decide +kernel
theorem dL_law_597 : decode cL_law 597 = .ok (.iload_n 3, 1) := by decide +kernel
theorem dL_law_598 : decode cL_law 598 = .ok (.iconst 4, 1) := by decide +kernel
theorem dL_law_599 : decode cL_law 599 = .ok (.iadd, 1) := by decide +kernel
theorem dL_law_600 : decode cL_law 600 = .ok (.iaload, 1) := by decide +kernel
theorem dL_law_601 : decode cL_law 601 = .ok (.invokevirtual 57, 3) := by decide +kernel
theorem dL_law_604 : decode cL_law 604 = .ok (.aload_n 2, 1) := by decide +kernel
theorem dL_law_605 : decode cL_law 605 = .ok (.aload_n 0, 1) := by decide +kernel
theorem dL_law_606 : decode cL_law 606 = .ok (.iload_n 3, 1) := by decide +kernel
theorem dL_law_607 : decode cL_law 607 = .ok (.iconst 1, 1) := by decide +kernel
theorem dL_law_608 : decode cL_law 608 = .ok (.iadd, 1) := by decide +kernel
theorem dL_law_609 : decode cL_law 609 = .ok (.iaload, 1) := by decide +kernel
theorem dL_law_610 : decode cL_law 610 = .ok (.aload_n 0, 1) := by decide +kernel
theorem dL_law_611 : decode cL_law 611 = .ok (.iload_n 3, 1) := by decide +kernel
theorem dL_law_612 : decode cL_law 612 = .ok (.iconst 2, 1) := by decide +kernel
theorem dL_law_613 : decode cL_law 613 = .ok (.iadd, 1) := by decide +kernel
theorem dL_law_614 : decode cL_law 614 = .ok (.iaload, 1) := by decide +kernel
theorem dL_law_615 : decode cL_law 615 = .ok (.aload_n 0, 1) := by decide +kernel
theorem dL_law_616 : decode cL_law 616 = .ok (.iload_n 3, 1) := by decide +kernel
theorem dL_law_617 : decode cL_law 617 = .ok (.iconst 3, 1) := by decide +kernel
theorem dL_law_618 : decode cL_law 618 = .ok (.iadd, 1) := by decide +kernel
theorem dL_law_619 : decode cL_law 619 = .ok (.iaload, 1) := by decide +kernel
theorem dL_law_620 : decode cL_law 620 = .ok (.aload_n 0, 1) := by decide +kernel
theorem dL_law_621 : decode cL_law 621 = .ok (.iload_n 3, 1) := by decide +kernel
theorem dL_law_622 : decode cL_law 622 = .ok (.iconst 4, 1) := by decide +kernel
theorem dL_law_623 : decode cL_law 623 = .ok (.iadd, 1) := by decide +kernel
theorem dL_law_624 : decode cL_law 624 = .ok (.iaload, 1) := by decide +kernel
theorem dL_law_625 : decode cL_law 625 = .ok (.invokevirtual 60, 3) := by decide +kernel
theorem dL_law_628 : decode cL_law 628 = .ok (.if_icmp .eq 401, 3) := by decide +kernel
theorem dL_law_631 : decode cL_law 631 = .ok (.iconst 0, 1) := by decide +kernel
theorem dL_law_632 : decode cL_law 632 = .ok (.ireturn, 1) := by decide +kernel
theorem dL_law_633 : decode cL_law 633 = .ok (.aload_n 1, 1) := by decide +kernel
theorem dL_law_634 : decode cL_law 634 = .ok (.aload_n 0, 1) := by decide +kernel
theorem dL_law_635 : decode cL_law 635 = .ok (.iload_n 3, 1) := by decide +kernel
theorem dL_law_636 : decode cL_law 636 = .ok (.iconst 1, 1) := by decide +kernel
theorem dL_law_637 : decode cL_law 637 = .ok (.iadd, 1) := by decide +kernel
theorem dL_law_638 : decode cL_law 638 = .ok (.iaload, 1) := by decide +kernel
theorem dL_law_639 : decode cL_law 639 = .ok (.aload_n 0, 1) := by decide +kernel
theorem dL_law_640 : decode cL_law 640 = .ok (.iload_n 3, 1) := by decide +kernel
theorem dL_law_641 : decode cL_law 641 = .ok (.iconst 2, 1) := by decide +kernel
theorem dL_law_642 : decode cL_law 642 = .ok (.iadd, 1) := by decide +kernel
theorem dL_law_643 : decode cL_law 643 = .ok (.iaload, 1) := by decide +kernel
theorem dL_law_644 : decode cL_law 644 = .ok (.aload_n 0, 1) := by decide +kernel
theorem dL_law_645 : decode cL_law 645 = .ok (.iload_n 3, 1) := by decide +kernel
theorem dL_law_646 : decode cL_law 646 = .ok (.iconst 3, 1) := by decide +kernel
theorem dL_law_647 : decode cL_law 647 = .ok (.iadd, 1) := by decide +kernel
theorem dL_law_648 : decode cL_law 648 = .ok (.iaload, 1) := by decide +kernel
theorem dL_law_649 : decode cL_law 649 = .ok (.aload_n 0, 1) := by decide +kernel
theorem dL_law_650 : decode cL_law 650 = .ok (.iload_n 3, 1) := by decide +kernel
theorem dL_law_651 : decode cL_law 651 = .ok (.iconst 4, 1) := by decide +kernel
theorem dL_law_652 : decode cL_law 652 = .ok (.iadd, 1) := by decide +kernel
theorem dL_law_653 : decode cL_law 653 = .ok (.iaload, 1) := by decide +kernel
theorem dL_law_654 : decode cL_law 654 = .ok (.invokevirtual 61, 3) := by decide +kernel
theorem dL_law_657 : decode cL_law 657 = .ok (.aload_n 2, 1) := by decide +kernel
theorem dL_law_658 : decode cL_law 658 = .ok (.aload_n 0, 1) := by decide +kernel
theorem dL_law_659 : decode cL_law 659 = .ok (.iload_n 3, 1) := by decide +kernel
theorem dL_law_660 : decode cL_law 660 = .ok (.iconst 1, 1) := by decide +kernel
theorem dL_law_661 : decode cL_law 661 = .ok (.iadd, 1) := by decide +kernel
theorem dL_law_662 : decode cL_law 662 = .ok (.iaload, 1) := by decide +kernel
theorem dL_law_663 : decode cL_law 663 = .ok (.aload_n 0, 1) := by decide +kernel
theorem dL_law_664 : decode cL_law 664 = .ok (.iload_n 3, 1) := by decide +kernel
theorem dL_law_665 : decode cL_law 665 = .ok (.iconst 2, 1) := by decide +kernel
theorem dL_law_666 : decode cL_law 666 = .ok (.iadd, 1) := by decide +kernel
theorem dL_law_667 : decode cL_law 667 = .ok (.iaload, 1) := by decide +kernel
theorem dL_law_668 : decode cL_law 668 = .ok (.aload_n 0, 1) := by decide +kernel
theorem dL_law_669 : decode cL_law 669 = .ok (.iload_n 3, 1) := by decide +kernel
theorem dL_law_670 : decode cL_law 670 = .ok (.iconst 3, 1) := by decide +kernel
theorem dL_law_671 : decode cL_law 671 = .ok (.iadd, 1) := by decide +kernel
theorem dL_law_672 : decode cL_law 672 = .ok (.iaload, 1) := by decide +kernel
theorem dL_law_673 : decode cL_law 673 = .ok (.aload_n 0, 1) := by decide +kernel
theorem dL_law_674 : decode cL_law 674 = .ok (.iload_n 3, 1) := by decide +kernel
theorem dL_law_675 : decode cL_law 675 = .ok (.iconst 4, 1) := by decide +kernel
theorem dL_law_676 : decode cL_law 676 = .ok (.iadd, 1) := by decide +kernel
theorem dL_law_677 : decode cL_law 677 = .ok (.iaload, 1) := by decide +kernel
theorem dL_law_678 : decode cL_law 678 = .ok (.invokevirtual 64, 3) := by decide +kernel
theorem dL_law_681 : decode cL_law 681 = .ok (.if_icmp .eq 348, 3) := by decide +kernel
theorem dL_law_684 : decode cL_law 684 = .ok (.iconst 0, 1) := by decide +kernel
theorem dL_law_685 : decode cL_law 685 = .ok (.ireturn, 1) := by decide +kernel
theorem dL_law_686 : decode cL_law 686 = .ok (.aload_n 1, 1) := by decide +kernel
theorem dL_law_687 : decode cL_law 687 = .ok (.aload_n 0, 1) := by decide +kernel
theorem dL_law_688 : decode cL_law 688 = .ok (.iload_n 3, 1) := by decide +kernel
theorem dL_law_689 : decode cL_law 689 = .ok (.iconst 1, 1) := by decide +kernel
theorem dL_law_690 : decode cL_law 690 = .ok (.iadd, 1) := by decide +kernel
theorem dL_law_691 : decode cL_law 691 = .ok (.iaload, 1) := by decide +kernel
theorem dL_law_692 : decode cL_law 692 = .ok (.aload_n 0, 1) := by decide +kernel
theorem dL_law_693 : decode cL_law 693 = .ok (.iload_n 3, 1) := by decide +kernel
theorem dL_law_694 : decode cL_law 694 = .ok (.iconst 2, 1) := by decide +kernel
theorem dL_law_695 : decode cL_law 695 = .ok (.iadd, 1) := by decide +kernel
theorem dL_law_696 : decode cL_law 696 = .ok (.iaload, 1) := by decide +kernel
theorem dL_law_697 : decode cL_law 697 = .ok (.aload_n 0, 1) := by decide +kernel
theorem dL_law_698 : decode cL_law 698 = .ok (.iload_n 3, 1) := by decide +kernel
theorem dL_law_699 : decode cL_law 699 = .ok (.iconst 3, 1) := by decide +kernel
theorem dL_law_700 : decode cL_law 700 = .ok (.iadd, 1) := by decide +kernel
theorem dL_law_701 : decode cL_law 701 = .ok (.iaload, 1) := by decide +kernel
theorem dL_law_702 : decode cL_law 702 = .ok (.aload_n 0, 1) := by decide +kernel
theorem dL_law_703 : decode cL_law 703 = .ok (.iload_n 3, 1) := by decide +kernel
theorem dL_law_704 : decode cL_law 704 = .ok (.iconst 4, 1) := by decide +kernel
theorem dL_law_705 : decode cL_law 705 = .ok (.iadd, 1) := by decide +kernel
theorem dL_law_706 : decode cL_law 706 = .ok (.iaload, 1) := by decide +kernel
theorem dL_law_707 : decode cL_law 707 = .ok (.invokevirtual 65, 3) := by decide +kernel
theorem dL_law_710 : decode cL_law 710 = .ok (.aload_n 2, 1) := by decide +kernel
theorem dL_law_711 : decode cL_law 711 = .ok (.aload_n 0, 1) := by decide +kernel
theorem dL_law_712 : decode cL_law 712 = .ok (.iload_n 3, 1) := by decide +kernel
theorem dL_law_713 : decode cL_law 713 = .ok (.iconst 1, 1) := by decide +kernel
theorem dL_law_714 : decode cL_law 714 = .ok (.iadd, 1) := by decide +kernel
theorem dL_law_715 : decode cL_law 715 = .ok (.iaload, 1) := by decide +kernel
theorem dL_law_716 : decode cL_law 716 = .ok (.aload_n 0, 1) := by decide +kernel
theorem dL_law_717 : decode cL_law 717 = .ok (.iload_n 3, 1) := by decide +kernel
theorem dL_law_718 : decode cL_law 718 = .ok (.iconst 2, 1) := by decide +kernel
theorem dL_law_719 : decode cL_law 719 = .ok (.iadd, 1) := by decide +kernel
theorem dL_law_720 : decode cL_law 720 = .ok (.iaload, 1) := by decide +kernel
theorem dL_law_721 : decode cL_law 721 = .ok (.aload_n 0, 1) := by decide +kernel
theorem dL_law_722 : decode cL_law 722 = .ok (.iload_n 3, 1) := by decide +kernel
theorem dL_law_723 : decode cL_law 723 = .ok (.iconst 3, 1) := by decide +kernel
theorem dL_law_724 : decode cL_law 724 = .ok (.iadd, 1) := by decide +kernel
theorem dL_law_725 : decode cL_law 725 = .ok (.iaload, 1) := by decide +kernel
theorem dL_law_726 : decode cL_law 726 = .ok (.aload_n 0, 1) := by decide +kernel
theorem dL_law_727 : decode cL_law 727 = .ok (.iload_n 3, 1) := by decide +kernel
theorem dL_law_728 : decode cL_law 728 = .ok (.iconst 4, 1) := by decide +kernel
theorem dL_law_729 : decode cL_law 729 = .ok (.iadd, 1) := by decide +kernel
theorem dL_law_730 : decode cL_law 730 = .ok (.iaload, 1) := by decide +kernel
theorem dL_law_731 : decode cL_law 731 = .ok (.invokevirtual 68, 3) := by decide +kernel
theorem dL_law_734 : decode cL_law 734 = .ok (.if_icmp .eq 295, 3) := by decide +kernel
theorem dL_law_737 : decode cL_law 737 = .ok (.iconst 0, 1) := by decide +kernel
theorem dL_law_738 : decode cL_law 738 = .ok (.ireturn, 1) := by decide +kernel
theorem dL_law_739 : decode cL_law 739 = .ok (.aload_n 1, 1) := by decide +kernel
theorem dL_law_740 : decode cL_law 740 = .ok (.aload_n 0, 1) := by decide +kernel
theorem dL_law_741 : decode cL_law 741 = .ok (.iload_n 3, 1) := by decide +kernel
theorem dL_law_742 : decode cL_law 742 = .ok (.iconst 1, 1) := by decide +kernel
theorem dL_law_743 : decode cL_law 743 = .ok (.iadd, 1) := by decide +kernel
theorem dL_law_744 : decode cL_law 744 = .ok (.iaload, 1) := by decide +kernel
theorem dL_law_745 : decode cL_law 745 = .ok (.aload_n 0, 1) := by decide +kernel
theorem dL_law_746 : decode cL_law 746 = .ok (.iload_n 3, 1) := by decide +kernel
theorem dL_law_747 : decode cL_law 747 = .ok (.iconst 2, 1) := by decide +kernel
theorem dL_law_748 : decode cL_law 748 = .ok (.iadd, 1) := by decide +kernel
theorem dL_law_749 : decode cL_law 749 = .ok (.iaload, 1) := by decide +kernel
theorem dL_law_750 : decode cL_law 750 = .ok (.aload_n 0, 1) := by decide +kernel
theorem dL_law_751 : decode cL_law 751 = .ok (.iload_n 3, 1) := by decide +kernel
theorem dL_law_752 : decode cL_law 752 = .ok (.iconst 3, 1) := by decide +kernel
theorem dL_law_753 : decode cL_law 753 = .ok (.iadd, 1) := by decide +kernel
theorem dL_law_754 : decode cL_law 754 = .ok (.iaload, 1) := by decide +kernel
theorem dL_law_755 : decode cL_law 755 = .ok (.aload_n 0, 1) := by decide +kernel
theorem dL_law_756 : decode cL_law 756 = .ok (.iload_n 3, 1) := by decide +kernel
theorem dL_law_757 : decode cL_law 757 = .ok (.iconst 4, 1) := by decide +kernel
theorem dL_law_758 : decode cL_law 758 = .ok (.iadd, 1) := by decide +kernel
theorem dL_law_759 : decode cL_law 759 = .ok (.iaload, 1) := by decide +kernel
theorem dL_law_760 : decode cL_law 760 = .ok (.aload_n 0, 1) := by decide +kernel
theorem dL_law_761 : decode cL_law 761 = .ok (.iload_n 3, 1) := by decide +kernel
theorem dL_law_762 : decode cL_law 762 = .ok (.iconst 5, 1) := by decide +kernel
theorem dL_law_763 : decode cL_law 763 = .ok (.iadd, 1) := by decide +kernel
theorem dL_law_764 : decode cL_law 764 = .ok (.iaload, 1) := by decide +kernel
theorem dL_law_765 : decode cL_law 765 = .ok (.invokevirtual 69, 3) := by decide +kernel
theorem dL_law_768 : decode cL_law 768 = .ok (.aload_n 2, 1) := by decide +kernel
theorem dL_law_769 : decode cL_law 769 = .ok (.aload_n 0, 1) := by decide +kernel
theorem dL_law_770 : decode cL_law 770 = .ok (.iload_n 3, 1) := by decide +kernel
theorem dL_law_771 : decode cL_law 771 = .ok (.iconst 1, 1) := by decide +kernel
theorem dL_law_772 : decode cL_law 772 = .ok (.iadd, 1) := by decide +kernel
theorem dL_law_773 : decode cL_law 773 = .ok (.iaload, 1) := by decide +kernel
theorem dL_law_774 : decode cL_law 774 = .ok (.aload_n 0, 1) := by decide +kernel
theorem dL_law_775 : decode cL_law 775 = .ok (.iload_n 3, 1) := by decide +kernel
theorem dL_law_776 : decode cL_law 776 = .ok (.iconst 2, 1) := by decide +kernel
theorem dL_law_777 : decode cL_law 777 = .ok (.iadd, 1) := by decide +kernel
theorem dL_law_778 : decode cL_law 778 = .ok (.iaload, 1) := by decide +kernel
theorem dL_law_779 : decode cL_law 779 = .ok (.aload_n 0, 1) := by decide +kernel
theorem dL_law_780 : decode cL_law 780 = .ok (.iload_n 3, 1) := by decide +kernel
theorem dL_law_781 : decode cL_law 781 = .ok (.iconst 3, 1) := by decide +kernel
theorem dL_law_782 : decode cL_law 782 = .ok (.iadd, 1) := by decide +kernel
theorem dL_law_783 : decode cL_law 783 = .ok (.iaload, 1) := by decide +kernel
theorem dL_law_784 : decode cL_law 784 = .ok (.aload_n 0, 1) := by decide +kernel
theorem dL_law_785 : decode cL_law 785 = .ok (.iload_n 3, 1) := by decide +kernel
theorem dL_law_786 : decode cL_law 786 = .ok (.iconst 4, 1) := by decide +kernel
theorem dL_law_787 : decode cL_law 787 = .ok (.iadd, 1) := by decide +kernel
theorem dL_law_788 : decode cL_law 788 = .ok (.iaload, 1) := by decide +kernel
theorem dL_law_789 : decode cL_law 789 = .ok (.aload_n 0, 1) := by decide +kernel
theorem dL_law_790 : decode cL_law 790 = .ok (.iload_n 3, 1) := by decide +kernel
theorem dL_law_791 : decode cL_law 791 = .ok (.iconst 5, 1) := by decide +kernel
theorem dL_law_792 : decode cL_law 792 = .ok (.iadd, 1) := by decide +kernel
theorem dL_law_793 : decode cL_law 793 = .ok (.iaload, 1) := by decide +kernel
theorem dL_law_794 : decode cL_law 794 = .ok (.invokevirtual 73, 3) := by decide +kernel
theorem dL_law_797 : decode cL_law 797 = .ok (.if_icmp .eq 232, 3) := by decide +kernel
theorem dL_law_800 : decode cL_law 800 = .ok (.iconst 0, 1) := by decide +kernel
theorem dL_law_801 : decode cL_law 801 = .ok (.ireturn, 1) := by decide +kernel
theorem dL_law_802 : decode cL_law 802 = .ok (.aload_n 1, 1) := by decide +kernel
theorem dL_law_803 : decode cL_law 803 = .ok (.aload_n 0, 1) := by decide +kernel
theorem dL_law_804 : decode cL_law 804 = .ok (.iload_n 3, 1) := by decide +kernel
theorem dL_law_805 : decode cL_law 805 = .ok (.iconst 1, 1) := by decide +kernel
theorem dL_law_806 : decode cL_law 806 = .ok (.iadd, 1) := by decide +kernel
theorem dL_law_807 : decode cL_law 807 = .ok (.iaload, 1) := by decide +kernel
theorem dL_law_808 : decode cL_law 808 = .ok (.invokevirtual 74, 3) := by decide +kernel
theorem dL_law_811 : decode cL_law 811 = .ok (.aload_n 2, 1) := by decide +kernel
theorem dL_law_812 : decode cL_law 812 = .ok (.aload_n 0, 1) := by decide +kernel
theorem dL_law_813 : decode cL_law 813 = .ok (.iload_n 3, 1) := by decide +kernel
theorem dL_law_814 : decode cL_law 814 = .ok (.iconst 1, 1) := by decide +kernel
theorem dL_law_815 : decode cL_law 815 = .ok (.iadd, 1) := by decide +kernel
theorem dL_law_816 : decode cL_law 816 = .ok (.iaload, 1) := by decide +kernel
theorem dL_law_817 : decode cL_law 817 = .ok (.invokevirtual 77, 3) := by decide +kernel
theorem dL_law_820 : decode cL_law 820 = .ok (.if_icmp .eq 209, 3) := by decide +kernel
theorem dL_law_823 : decode cL_law 823 = .ok (.iconst 0, 1) := by decide +kernel
theorem dL_law_824 : decode cL_law 824 = .ok (.ireturn, 1) := by decide +kernel
theorem dL_law_825 : decode cL_law 825 = .ok (.aload_n 1, 1) := by decide +kernel
theorem dL_law_826 : decode cL_law 826 = .ok (.invokevirtual 78, 3) := by decide +kernel
theorem dL_law_829 : decode cL_law 829 = .ok (.aload_n 2, 1) := by decide +kernel
theorem dL_law_830 : decode cL_law 830 = .ok (.invokevirtual 82, 3) := by decide +kernel
theorem dL_law_833 : decode cL_law 833 = .ok (.if_icmp .eq 196, 3) := by decide +kernel
theorem dL_law_836 : decode cL_law 836 = .ok (.iconst 0, 1) := by decide +kernel
theorem dL_law_837 : decode cL_law 837 = .ok (.ireturn, 1) := by decide +kernel
theorem dL_law_838 : decode cL_law 838 = .ok (.aload_n 1, 1) := by decide +kernel
theorem dL_law_839 : decode cL_law 839 = .ok (.invokevirtual 83, 3) := by decide +kernel
theorem dL_law_842 : decode cL_law 842 = .ok (.aload_n 2, 1) := by decide +kernel
theorem dL_law_843 : decode cL_law 843 = .ok (.invokevirtual 86, 3) := by decide +kernel
theorem dL_law_846 : decode cL_law 846 = .ok (.if_icmp .eq 183, 3) := by decide +kernel
theorem dL_law_849 : decode cL_law 849 = .ok (.iconst 0, 1) := by decide +kernel
theorem dL_law_850 : decode cL_law 850 = .ok (.ireturn, 1) := by decide +kernel
theorem dL_law_851 : decode cL_law 851 = .ok (.aload_n 1, 1) := by decide +kernel
theorem dL_law_852 : decode cL_law 852 = .ok (.aload_n 0, 1) := by decide +kernel
theorem dL_law_853 : decode cL_law 853 = .ok (.iload_n 3, 1) := by decide +kernel
theorem dL_law_854 : decode cL_law 854 = .ok (.iconst 1, 1) := by decide +kernel
theorem dL_law_855 : decode cL_law 855 = .ok (.iadd, 1) := by decide +kernel
theorem dL_law_856 : decode cL_law 856 = .ok (.iaload, 1) := by decide +kernel
theorem dL_law_857 : decode cL_law 857 = .ok (.aload_n 0, 1) := by decide +kernel
theorem dL_law_858 : decode cL_law 858 = .ok (.iload_n 3, 1) := by decide +kernel
theorem dL_law_859 : decode cL_law 859 = .ok (.iconst 2, 1) := by decide +kernel
theorem dL_law_860 : decode cL_law 860 = .ok (.iadd, 1) := by decide +kernel
theorem dL_law_861 : decode cL_law 861 = .ok (.iaload, 1) := by decide +kernel
theorem dL_law_862 : decode cL_law 862 = .ok (.invokevirtual 87, 3) := by decide +kernel
theorem dL_law_865 : decode cL_law 865 = .ok (.aload_n 2, 1) := by decide +kernel
theorem dL_law_866 : decode cL_law 866 = .ok (.aload_n 0, 1) := by decide +kernel
theorem dL_law_867 : decode cL_law 867 = .ok (.iload_n 3, 1) := by decide +kernel
theorem dL_law_868 : decode cL_law 868 = .ok (.iconst 1, 1) := by decide +kernel
theorem dL_law_869 : decode cL_law 869 = .ok (.iadd, 1) := by decide +kernel
theorem dL_law_870 : decode cL_law 870 = .ok (.iaload, 1) := by decide +kernel
theorem dL_law_871 : decode cL_law 871 = .ok (.aload_n 0, 1) := by decide +kernel
theorem dL_law_872 : decode cL_law 872 = .ok (.iload_n 3, 1) := by decide +kernel
theorem dL_law_873 : decode cL_law 873 = .ok (.iconst 2, 1) := by decide +kernel
theorem dL_law_874 : decode cL_law 874 = .ok (.iadd, 1) := by decide +kernel
theorem dL_law_875 : decode cL_law 875 = .ok (.iaload, 1) := by decide +kernel
theorem dL_law_876 : decode cL_law 876 = .ok (.invokevirtual 90, 3) := by decide +kernel
theorem dL_law_879 : decode cL_law 879 = .ok (.if_icmp .eq 150, 3) := by decide +kernel
theorem dL_law_882 : decode cL_law 882 = .ok (.iconst 0, 1) := by decide +kernel
theorem dL_law_883 : decode cL_law 883 = .ok (.ireturn, 1) := by decide +kernel
theorem dL_law_884 : decode cL_law 884 = .ok (.aload_n 1, 1) := by decide +kernel
theorem dL_law_885 : decode cL_law 885 = .ok (.aload_n 0, 1) := by decide +kernel
theorem dL_law_886 : decode cL_law 886 = .ok (.iload_n 3, 1) := by decide +kernel
theorem dL_law_887 : decode cL_law 887 = .ok (.iconst 1, 1) := by decide +kernel
theorem dL_law_888 : decode cL_law 888 = .ok (.iadd, 1) := by decide +kernel
theorem dL_law_889 : decode cL_law 889 = .ok (.iaload, 1) := by decide +kernel
theorem dL_law_890 : decode cL_law 890 = .ok (.invokevirtual 91, 3) := by decide +kernel
theorem dL_law_893 : decode cL_law 893 = .ok (.aload_n 2, 1) := by decide +kernel
theorem dL_law_894 : decode cL_law 894 = .ok (.aload_n 0, 1) := by decide +kernel
theorem dL_law_895 : decode cL_law 895 = .ok (.iload_n 3, 1) := by decide +kernel
theorem dL_law_896 : decode cL_law 896 = .ok (.iconst 1, 1) := by decide +kernel
theorem dL_law_897 : decode cL_law 897 = .ok (.iadd, 1) := by decide +kernel
theorem dL_law_898 : decode cL_law 898 = .ok (.iaload, 1) := by decide +kernel
theorem dL_law_899 : decode cL_law 899 = .ok (.invokevirtual 94, 3) := by decide +kernel
theorem dL_law_902 : decode cL_law 902 = .ok (.if_icmp .eq 127, 3) := by decide +kernel
theorem dL_law_905 : decode cL_law 905 = .ok (.iconst 0, 1) := by decide +kernel
theorem dL_law_906 : decode cL_law 906 = .ok (.ireturn, 1) := by decide +kernel
theorem dL_law_907 : decode cL_law 907 = .ok (.aload_n 1, 1) := by decide +kernel
theorem dL_law_908 : decode cL_law 908 = .ok (.aload_n 0, 1) := by decide +kernel
theorem dL_law_909 : decode cL_law 909 = .ok (.iload_n 3, 1) := by decide +kernel
theorem dL_law_910 : decode cL_law 910 = .ok (.iconst 1, 1) := by decide +kernel
theorem dL_law_911 : decode cL_law 911 = .ok (.iadd, 1) := by decide +kernel
theorem dL_law_912 : decode cL_law 912 = .ok (.iaload, 1) := by decide +kernel
theorem dL_law_913 : decode cL_law 913 = .ok (.aload_n 0, 1) := by decide +kernel
theorem dL_law_914 : decode cL_law 914 = .ok (.iload_n 3, 1) := by decide +kernel
theorem dL_law_915 : decode cL_law 915 = .ok (.iconst 2, 1) := by decide +kernel
theorem dL_law_916 : decode cL_law 916 = .ok (.iadd, 1) := by decide +kernel
theorem dL_law_917 : decode cL_law 917 = .ok (.iaload, 1) := by decide +kernel
theorem dL_law_918 : decode cL_law 918 = .ok (.aload_n 0, 1) := by decide +kernel
theorem dL_law_919 : decode cL_law 919 = .ok (.iload_n 3, 1) := by decide +kernel
theorem dL_law_920 : decode cL_law 920 = .ok (.iconst 3, 1) := by decide +kernel
theorem dL_law_921 : decode cL_law 921 = .ok (.iadd, 1) := by decide +kernel
theorem dL_law_922 : decode cL_law 922 = .ok (.iaload, 1) := by decide +kernel
theorem dL_law_923 : decode cL_law 923 = .ok (.aload_n 0, 1) := by decide +kernel
theorem dL_law_924 : decode cL_law 924 = .ok (.iload_n 3, 1) := by decide +kernel
theorem dL_law_925 : decode cL_law 925 = .ok (.iconst 4, 1) := by decide +kernel
theorem dL_law_926 : decode cL_law 926 = .ok (.iadd, 1) := by decide +kernel
theorem dL_law_927 : decode cL_law 927 = .ok (.iaload, 1) := by decide +kernel
theorem dL_law_928 : decode cL_law 928 = .ok (.invokevirtual 95, 3) := by decide +kernel
theorem dL_law_931 : decode cL_law 931 = .ok (.aload_n 2, 1) := by decide +kernel
theorem dL_law_932 : decode cL_law 932 = .ok (.aload_n 0, 1) := by decide +kernel
theorem dL_law_933 : decode cL_law 933 = .ok (.iload_n 3, 1) := by decide +kernel
theorem dL_law_934 : decode cL_law 934 = .ok (.iconst 1, 1) := by decide +kernel
theorem dL_law_935 : decode cL_law 935 = .ok (.iadd, 1) := by decide +kernel
theorem dL_law_936 : decode cL_law 936 = .ok (.iaload, 1) := by decide +kernel
theorem dL_law_937 : decode cL_law 937 = .ok (.aload_n 0, 1) := by decide +kernel
theorem dL_law_938 : decode cL_law 938 = .ok (.iload_n 3, 1) := by decide +kernel
theorem dL_law_939 : decode cL_law 939 = .ok (.iconst 2, 1) := by decide +kernel
theorem dL_law_940 : decode cL_law 940 = .ok (.iadd, 1) := by decide +kernel
theorem dL_law_941 : decode cL_law 941 = .ok (.iaload, 1) := by decide +kernel
theorem dL_law_942 : decode cL_law 942 = .ok (.aload_n 0, 1) := by decide +kernel
theorem dL_law_943 : decode cL_law 943 = .ok (.iload_n 3, 1) := by decide +kernel
theorem dL_law_944 : decode cL_law 944 = .ok (.iconst 3, 1) := by decide +kernel
theorem dL_law_945 : decode cL_law 945 = .ok (.iadd, 1) := by decide +kernel
theorem dL_law_946 : decode cL_law 946 = .ok (.iaload, 1) := by decide +kernel
theorem dL_law_947 : decode cL_law 947 = .ok (.aload_n 0, 1) := by decide +kernel
theorem dL_law_948 : decode cL_law 948 = .ok (.iload_n 3, 1) := by decide +kernel
theorem dL_law_949 : decode cL_law 949 = .ok (.iconst 4, 1) := by decide +kernel
theorem dL_law_950 : decode cL_law 950 = .ok (.iadd, 1) := by decide +kernel
theorem dL_law_951 : decode cL_law 951 = .ok (.iaload, 1) := by decide +kernel
theorem dL_law_952 : decode cL_law 952 = .ok (.invokevirtual 98, 3) := by decide +kernel
theorem dL_law_955 : decode cL_law 955 = .ok (.if_icmp .eq 74, 3) := by decide +kernel
theorem dL_law_958 : decode cL_law 958 = .ok (.iconst 0, 1) := by decide +kernel
theorem dL_law_959 : decode cL_law 959 = .ok (.ireturn, 1) := by decide +kernel
theorem dL_law_960 : decode cL_law 960 = .ok (.aload_n 1, 1) := by decide +kernel
theorem dL_law_961 : decode cL_law 961 = .ok (.aload_n 0, 1) := by decide +kernel
theorem dL_law_962 : decode cL_law 962 = .ok (.iload_n 3, 1) := by decide +kernel
theorem dL_law_963 : decode cL_law 963 = .ok (.iconst 1, 1) := by decide +kernel
theorem dL_law_964 : decode cL_law 964 = .ok (.iadd, 1) := by decide +kernel
theorem dL_law_965 : decode cL_law 965 = .ok (.iaload, 1) := by decide +kernel
theorem dL_law_966 : decode cL_law 966 = .ok (.invokevirtual 99, 3) := by decide +kernel
theorem dL_law_969 : decode cL_law 969 = .ok (.aload_n 2, 1) := by decide +kernel
theorem dL_law_970 : decode cL_law 970 = .ok (.aload_n 0, 1) := by decide +kernel
theorem dL_law_971 : decode cL_law 971 = .ok (.iload_n 3, 1) := by decide +kernel
theorem dL_law_972 : decode cL_law 972 = .ok (.iconst 1, 1) := by decide +kernel
theorem dL_law_973 : decode cL_law 973 = .ok (.iadd, 1) := by decide +kernel
theorem dL_law_974 : decode cL_law 974 = .ok (.iaload, 1) := by decide +kernel
theorem dL_law_975 : decode cL_law 975 = .ok (.invokevirtual 102, 3) := by decide +kernel
theorem dL_law_978 : decode cL_law 978 = .ok (.if_icmp .eq 51, 3) := by decide +kernel
theorem dL_law_981 : decode cL_law 981 = .ok (.iconst 0, 1) := by decide +kernel
theorem dL_law_982 : decode cL_law 982 = .ok (.ireturn, 1) := by decide +kernel
theorem dL_law_983 : decode cL_law 983 = .ok (.aload_n 1, 1) := by decide +kernel
theorem dL_law_984 : decode cL_law 984 = .ok (.aload_n 0, 1) := by decide +kernel
theorem dL_law_985 : decode cL_law 985 = .ok (.iload_n 3, 1) := by decide +kernel
theorem dL_law_986 : decode cL_law 986 = .ok (.iconst 1, 1) := by decide +kernel
theorem dL_law_987 : decode cL_law 987 = .ok (.iadd, 1) := by decide +kernel
theorem dL_law_988 : decode cL_law 988 = .ok (.iaload, 1) := by decide +kernel
theorem dL_law_989 : decode cL_law 989 = .ok (.invokevirtual 103, 3) := by decide +kernel
theorem dL_law_992 : decode cL_law 992 = .ok (.aload_n 2, 1) := by decide +kernel
theorem dL_law_993 : decode cL_law 993 = .ok (.aload_n 0, 1) := by decide +kernel
theorem dL_law_994 : decode cL_law 994 = .ok (.iload_n 3, 1) := by decide +kernel
theorem dL_law_995 : decode cL_law 995 = .ok (.iconst 1, 1) := by decide +kernel
theorem dL_law_996 : decode cL_law 996 = .ok (.iadd, 1) := by decide +kernel
theorem dL_law_997 : decode cL_law 997 = .ok (.iaload, 1) := by decide +kernel
theorem dL_law_998 : decode cL_law 998 = .ok (.invokevirtual 106, 3) := by decide +kernel
theorem dL_law_1001 : decode cL_law 1001 = .ok (.if_icmp .eq 28, 3) := by decide +kernel
theorem dL_law_1004 : decode cL_law 1004 = .ok (.iconst 0, 1) := by decide +kernel
theorem dL_law_1005 : decode cL_law 1005 = .ok (.ireturn, 1) := by decide +kernel
theorem dL_law_1006 : decode cL_law 1006 = .ok (.aload_n 1, 1) := by decide +kernel
theorem dL_law_1007 : decode cL_law 1007 = .ok (.aload_n 0, 1) := by decide +kernel
theorem dL_law_1008 : decode cL_law 1008 = .ok (.iload_n 3, 1) := by decide +kernel
theorem dL_law_1009 : decode cL_law 1009 = .ok (.iconst 1, 1) := by decide +kernel
theorem dL_law_1010 : decode cL_law 1010 = .ok (.iadd, 1) := by decide +kernel
theorem dL_law_1011 : decode cL_law 1011 = .ok (.iaload, 1) := by decide +kernel
theorem dL_law_1012 : decode cL_law 1012 = .ok (.invokevirtual 107, 3) := by decide +kernel
theorem dL_law_1015 : decode cL_law 1015 = .ok (.aload_n 2, 1) := by decide +kernel
theorem dL_law_1016 : decode cL_law 1016 = .ok (.aload_n 0, 1) := by decide +kernel
theorem dL_law_1017 : decode cL_law 1017 = .ok (.iload_n 3, 1) := by decide +kernel
theorem dL_law_1018 : decode cL_law 1018 = .ok (.iconst 1, 1) := by decide +kernel
theorem dL_law_1019 : decode cL_law 1019 = .ok (.iadd, 1) := by decide +kernel
theorem dL_law_1020 : decode cL_law 1020 = .ok (.iaload, 1) := by decide +kernel
theorem dL_law_1021 : decode cL_law 1021 = .ok (.invokevirtual 110, 3) := by decide +kernel
theorem dL_law_1024 : decode cL_law 1024 = .ok (.if_icmp .eq 5, 3) := by decide +kernel
theorem dL_law_1027 : decode cL_law 1027 = .ok (.iconst 0, 1) := by decide +kernel
theorem dL_law_1028 : decode cL_law 1028 = .ok (.ireturn, 1) := by decide +kernel
theorem dL_law_1029 : decode cL_law 1029 = .ok (.iinc 3 6, 3) := by decide +kernel
theorem dL_law_1032 : decode cL_law 1032 = .ok (.goto (-1014), 3) := by decide +kernel
theorem dL_law_1035 : decode cL_law 1035 = .ok (.iconst 1, 1) := by decide +kernel
theorem dL_law_1036 : decode cL_law 1036 = .ok (.ireturn, 1) := by decide +kernel
end
section
/-! Base of this claim: the pure state of an object (Ob: field, place ↦ int), the pure words that the printed functions F_ are made of, how a hypothesis 'F .. = some u' is walked along the bytecode, and contracts/calls in one form. -/
abbrev Ob : Type := Nat → Nat → Int32
def sO (o : Ob) (i : Nat) (f : Nat → Int32) : Ob := fun k => cond (Nat.beq k i) f (o k)
def cst (x : Int32) : Nat → Int32 := fun _ => x
def dd {α β : Type} (e : α) (k : α → β) : β := k e
def jn {γ β : Type} (K : γ) (B : γ → β) : β := B K
def ck {α : Type} (i : Int32) (n : Nat) (k : Option α) : Option α := if i < 0 ∨ n ≤ i.toNatClampNeg then none else k
def dz {α : Type} (y : Int32) (k : Option α) : Option α := if y = 0 then none else k
def dzL {α : Type} (y : Int64) (k : Option α) : Option α := if y = 0 then none else k
def gz {α : Type} (v : Int32) (k : Option α) : Option α := if v = 0 ∨ v = 1 then k else none
theorem of_dd {α β : Type} {e : α} {k : α → β} {u : β} (h : dd e k = u) : ∀ y, y = e → k y = u := by
  intro y hy
  subst hy
  exact h
theorem of_jn {γ β : Type} {K : γ} {B : γ → β} {u : β} (h : jn K B = u) : ∃ K' : γ, K' = K ∧ B K' = u := ⟨K, rfl, h⟩
theorem of_t {c : Prop} {ic : Decidable c} {β : Type} {a b u : β} (h : c) (e : (@ite β c ic a b) = u) : a = u := by rwa [if_pos h] at e
theorem of_f {c : Prop} {ic : Decidable c} {β : Type} {a b u : β} (h : ¬ c) (e : (@ite β c ic a b) = u) : b = u := by rwa [if_neg h] at e
theorem of_ck {α : Type} {i : Int32} {n : Nat} {k : Option α} {u : α} (h : ck i n k = some u) : vp_in i n ∧ k = some u := by
  unfold ck at h
  by_cases c : i < 0 ∨ n ≤ i.toNatClampNeg
  · rw [if_pos c] at h; cases h
  · rw [if_neg c] at h; exact ⟨c, h⟩
theorem of_dz {α : Type} {y : Int32} {k : Option α} {u : α} (h : dz y k = some u) : (¬ y = 0) ∧ k = some u := by
  unfold dz at h
  by_cases c : y = 0
  · rw [if_pos c] at h; cases h
  · rw [if_neg c] at h; exact ⟨c, h⟩
theorem of_dzL {α : Type} {y : Int64} {k : Option α} {u : α} (h : dzL y k = some u) : (¬ y = 0) ∧ k = some u := by
  unfold dzL at h
  by_cases c : y = 0
  · rw [if_pos c] at h; cases h
  · rw [if_neg c] at h; exact ⟨c, h⟩
theorem of_gz {α : Type} {v : Int32} {k : Option α} {u : α} (h : gz v k = some u) : (narrow .boolean (.int v) = .int v ∧ fits .boolean (.int v) = true) ∧ k = some u := by
  unfold gz at h
  by_cases c : v = 0 ∨ v = 1
  · rw [if_pos c] at h
    refine ⟨?_, h⟩
    rcases c with rfl | rfl <;> exact ⟨rfl, rfl⟩
  · rw [if_neg c] at h; cases h
theorem of_bind {α β : Type} {x : Option α} {k : α → Option β} {u : β} (h : x.bind k = some u) : ∃ r, x = some r ∧ k r = some u := by
  cases x with
  | none => cases h
  | some r => exact ⟨r, rfl, h⟩
theorem of_none {β : Type} {u : β} {P : Prop} (h : (none : Option β) = some u) : P := by cases h
theorem nm_o {α β : Type} {e : α} {k : α → β} {u : β} {P B : α → Prop} (h : dd e k = u) (hP : P e) (hB : B e) : ∃ y, k y = u ∧ P y ∧ B y := ⟨e, h, hP, hB⟩
theorem nm_l {α β : Type} {x : α} {k : α → β} {u : β} {P : α → Prop} (h : dd x k = u) (hl : P x) : ∃ y, k y = u ∧ P y := ⟨x, h, hl⟩
theorem tab_out {x : Int32} {lo hi : Int} (h : ∀ k : Int, lo ≤ k → k ≤ hi → ¬ x = Int32.ofInt k) : x.toInt < lo ∨ hi < x.toInt := by
  by_cases a : x.toInt < lo
  · exact Or.inl a
  · by_cases b : hi < x.toInt
    · exact Or.inr b
    · exact absurd (Int32.ofInt_toInt x).symm (h x.toInt (by omega) (by omega))
def imgF (y z : Nat) : Nat → Option Nat := va_up (va_up (fun _ => none) 0 (some y)) 1 (some z)
theorem img2 {y z : Nat} {i : Int32} (h : vp_in i 2) : (i = 0 ∧ va_rf (imgF y z i.toNatClampNeg) = .ref y) ∨ (¬ i = 0 ∧ va_rf (imgF y z i.toNatClampNeg) = .ref z) := by
  obtain ⟨j, hj, rfl⟩ := vp_in_of h (by decide)
  rcases (show j = 0 ∨ j = 1 by omega) with rfl | rfl
  · exact Or.inl ⟨rfl, rfl⟩
  · exact Or.inr ⟨by decide, rfl⟩
abbrev tyL (cI cZ cO : ClassId) : List (ClassId × FieldType) := [(cI, .int), (cZ, .boolean), (cO, .object "ThreeLegs$Crowd")]
/-- a list of cells by the places in another -/
theorem at_places {ws w : va_W} {is : List Nat} (hs : is.map (fun i => ws[i]?) = w.map some) : ∀ (k : Nat) (q : Nat × va_E), w[k]? = some q → ∃ i, is[k]? = some i ∧ ws[i]? = some q := by
  intro k q hq
  have h1 : (is.map (fun i => ws[i]?))[k]? = some (some q) := by rw [hs, List.getElem?_map, hq]; rfl
  rw [List.getElem?_map] at h1
  cases hi : is[k]? with
  | none => rw [hi] at h1; cases h1
  | some i =>
    rw [hi] at h1
    exact ⟨i, rfl, Option.some.inj h1⟩
theorem pick_P {D : va_G} {cl : List vw_C} {ws w : va_W} {H : Heap} (h : va_P D cl ws H) (is : List Nat) (hs : is.map (fun i => ws[i]?) = w.map some) : va_P D cl w H := by
  intro k q hq
  obtain ⟨i, -, hi⟩ := at_places hs k q hq
  exact h i q hi
theorem at_lt {D : va_G} {cl : List vw_C} {q : Nat × va_E} {H : Heap} (h : va_at D cl q H) : q.1 < H.size := by
  obtain ⟨a, b⟩ := q
  cases b with
  | inl x => exact (Array.getElem?_eq_some_iff.mp h).1
  | inr x =>
    obtain ⟨r, -, cell, g, -⟩ := h
    exact (Array.getElem?_eq_some_iff.mp g).1
section Mk
variable {l : Launch} {y : MethodName} {ws ws' : List Cond} {rm : Room} {cc : ByteArray} {maxL : Nat} {D : va_G} {cl : List vw_C} {tys : List (ClassId × FieldType)} {av : List Value} {WS : va_W} {sz mc ms : Nat} {S : Type} {WF : S → va_W}
/-- a method's entry, as the walks below take it -/
def Ent (l : Launch) (y : MethodName) (ws' : List Cond) (rm : Room) (cc : ByteArray) (maxL : Nat) (D : va_G) (cl : List vw_C) (tys : List (ClassId × FieldType)) (av : List Value) (WS : va_W) (mc ms : Nat) (Ret : Program → Env → State → MethodId → Array Value → List Frame → Method → Code → (Nat → Prop) → (State → Prop) → Prop) : Prop :=
  ∀ (p : Program) (e : Env) (s : State) (m : MethodId) (args : Array Value) (below : List Frame) (meth : Method) (c : Code) (A : Nat → Prop) (ls : Array Slot) (Q : State → Prop),
     p.tables.exec = Jvm.exec → c.code = cc → c.maxLocals = maxL → s.vm.findClass y.cls = some m.cls → (∀ w ∈ ws', w.before args s = true) → meth.name = y.name → va_K D cl tys s → va_P D cl WS s.heap → va_D A WS → va_S A s.heap s.heap [] → (∀ q, s.heap.size ≤ q → A q) → lv_has ls maxL (lv_args 0 av) →
     Ret p e s m args below meth c A Q →
     W p l e rm s m args below meth c s.heap [] 0 0 Q (F0 m 0 ls [])
def RetI (l : Launch) (rm : Room) (cc : ByteArray) (D : va_G) (cl : List vw_C) (mc ms : Nat) {S : Type} (post : Int32 → S → Prop) (WF : S → va_W) : Program → Env → State → MethodId → Array Value → List Frame → Method → Code → (Nat → Prop) → (State → Prop) → Prop := fun p e s m args below meth c A Q =>
  ∀ (H : Heap) (locs : List Loc) (ls : Array Slot) (pc : Nat) (v : Int32) (st : S), post v st → va_P D cl (WF st) H → va_D A (WF st) → va_S A s.heap H locs → decode cc pc = .ok (.ireturn, 1) → W p l e rm s m args below meth c H locs mc ms Q (F0 m pc ls [.int v])
def RetZ (l : Launch) (rm : Room) (cc : ByteArray) (D : va_G) (cl : List vw_C) (mc ms : Nat) {S : Type} (post : Int32 → S → Prop) (WF : S → va_W) : Program → Env → State → MethodId → Array Value → List Frame → Method → Code → (Nat → Prop) → (State → Prop) → Prop := fun p e s m args below meth c A Q =>
  ∀ (H : Heap) (locs : List Loc) (ls : Array Slot) (pc : Nat) (v : Int32) (st : S), narrow .boolean (.int v) = .int v → post v st → va_P D cl (WF st) H → va_D A (WF st) → va_S A s.heap H locs → decode cc pc = .ok (.ireturn, 1) → W p l e rm s m args below meth c H locs mc ms Q (F0 m pc ls [.int v])
def RetV (l : Launch) (rm : Room) (cc : ByteArray) (D : va_G) (cl : List vw_C) (mc ms : Nat) {S : Type} (post : S → Prop) (WF : S → va_W) : Program → Env → State → MethodId → Array Value → List Frame → Method → Code → (Nat → Prop) → (State → Prop) → Prop := fun p e s m args below meth c A Q =>
  ∀ (H : Heap) (locs : List Loc) (ls : Array Slot) (pc : Nat) (st : S), post st → va_P D cl (WF st) H → va_D A (WF st) → va_S A s.heap H locs → decode cc pc = .ok (.return_, 1) → W p l e rm s m args below meth c H locs mc ms Q (F0 m pc ls [])
/-- the contracts' one form -/
def CtI (l : Launch) (y : MethodName) (ws : List Cond) (rm : Room) (D : va_G) (cl : List vw_C) (tys : List (ClassId × FieldType)) (av : List Value) (WS : va_W) (sz mc ms : Nat) {S : Type} (post : Int32 → S → Prop) (WF : S → va_W) : Prop :=
  Met l y ws rm (va_Pc av (fun U => U.heap.size = sz ∧ va_P D cl WS U.heap ∧ va_K D cl tys U ∧ va_D (fun _ => True) WS)) (va_Qi post (fun u t => va_P D cl (WF u) t.heap ∧ va_K D cl tys t ∧ va_D (va_A WS sz) (WF u)) (va_A WS sz)) mc ms (va_A WS sz)
def CtV (l : Launch) (y : MethodName) (ws : List Cond) (rm : Room) (D : va_G) (cl : List vw_C) (tys : List (ClassId × FieldType)) (av : List Value) (WS : va_W) (sz mc ms : Nat) {S : Type} (post : S → Prop) (WF : S → va_W) : Prop :=
  Met l y ws rm (va_Pc av (fun U => U.heap.size = sz ∧ va_P D cl WS U.heap ∧ va_K D cl tys U ∧ va_D (fun _ => True) WS)) (va_Qv post (fun u t => va_P D cl (WF u) t.heap ∧ va_K D cl tys t ∧ va_D (va_A WS sz) (WF u)) (va_A WS sz)) mc ms (va_A WS sz)
theorem mk_i {post : Int32 → S → Prop} (hy : plainName y.cls = true) (hw : ws = Cond.code y cc maxL (some .int) :: ws') (hn : (lg_sl av).length ≤ maxL)
    (k : Ent l y ws' rm cc maxL D cl tys av WS mc ms (RetI l rm cc D cl mc ms post WF)) : CtI l y ws rm D cl tys av WS sz mc ms post WF := by
  refine Met.ofW (cc := cc) (maxL := maxL) (ret := some .int) hy hw ?_
  intro p e s m args below meth c s₁ B hml hv
  obtain ⟨rfl, hsz, hP, hK, hD0⟩ := hv
  have hlocks := B.notSynchronized
  subst hsz
  have hD := hD0.self (sz := s.heap.size)
  rw [lg_entry_eq]
  refine k p e s m _ below meth c _ _ _ B.exec B.bytes hml (findClass_of_methodNamed B.named) (fun w h => atoms_spec (ws := ws) B.pre w (by rw [hw]; exact List.mem_cons_of_mem _ h)) (name_of_methodNamed B.named B.method).1 hK hP hD va_S.rf (fun q h => Or.inr h) (lv_entry av hn) ?_
  intro H locs ls pc v st hpost hP9 hD9 hS hdg
  exact W.iret B.exec B.bytes B.returns (fun t ht hW => ⟨⟨v, st, rfl, hpost, by rw [ht]; exact hP9, va_K.moved hW.alike hK, hD9⟩, hS.F ht⟩) hS.2.2 hdg
theorem mk_z {post : Int32 → S → Prop} (hy : plainName y.cls = true) (hw : ws = Cond.code y cc maxL (some .boolean) :: ws') (hn : (lg_sl av).length ≤ maxL)
    (k : Ent l y ws' rm cc maxL D cl tys av WS mc ms (RetZ l rm cc D cl mc ms post WF)) : CtI l y ws rm D cl tys av WS sz mc ms post WF := by
  refine Met.ofW (cc := cc) (maxL := maxL) (ret := some .boolean) hy hw ?_
  intro p e s m args below meth c s₁ B hml hv
  obtain ⟨rfl, hsz, hP, hK, hD0⟩ := hv
  have hlocks := B.notSynchronized
  subst hsz
  have hD := hD0.self (sz := s.heap.size)
  rw [lg_entry_eq]
  refine k p e s m _ below meth c _ _ _ B.exec B.bytes hml (findClass_of_methodNamed B.named) (fun w h => atoms_spec (ws := ws) B.pre w (by rw [hw]; exact List.mem_cons_of_mem _ h)) (name_of_methodNamed B.named B.method).1 hK hP hD va_S.rf (fun q h => Or.inr h) (lv_entry av hn) ?_
  intro H locs ls pc v st hnar hpost hP9 hD9 hS hdg
  exact W.zret B.exec B.bytes B.returns hnar (fun t ht hW => ⟨⟨v, st, rfl, hpost, by rw [ht]; exact hP9, va_K.moved hW.alike hK, hD9⟩, hS.F ht⟩) hS.2.2 hdg
theorem mk_v {post : S → Prop} (hy : plainName y.cls = true) (hw : ws = Cond.code y cc maxL none :: ws') (hn : (lg_sl av).length ≤ maxL)
    (k : Ent l y ws' rm cc maxL D cl tys av WS mc ms (RetV l rm cc D cl mc ms post WF)) : CtV l y ws rm D cl tys av WS sz mc ms post WF := by
  refine Met.ofW (cc := cc) (maxL := maxL) (ret := none) hy hw ?_
  intro p e s m args below meth c s₁ B hml hv
  obtain ⟨rfl, hsz, hP, hK, hD0⟩ := hv
  have hlocks := B.notSynchronized
  subst hsz
  have hD := hD0.self (sz := s.heap.size)
  rw [lg_entry_eq]
  refine k p e s m _ below meth c _ _ _ B.exec B.bytes hml (findClass_of_methodNamed B.named) (fun w h => atoms_spec (ws := ws) B.pre w (by rw [hw]; exact List.mem_cons_of_mem _ h)) (name_of_methodNamed B.named B.method).1 hK hP hD va_S.rf (fun q h => Or.inr h) (lv_entry av hn) ?_
  intro H locs ls pc st hpost hP9 hD9 hS hdg
  exact W.vret B.exec B.bytes B.returns (fun t ht hW => ⟨⟨st, rfl, hpost, by rw [ht]; exact hP9, va_K.moved hW.alike hK, hD9⟩, hS.F ht⟩) hS.2.2 hdg
end Mk
section Calls
variable {p : Program} {l : Launch} {e : Env} {R : Room} {s : State} {m : MethodId} {args : Array Value} {below : List Frame} {meth : Method} {c : Code} {H0 H : Heap} {locs : List Loc} {cells slots : Nat} {Q : State → Prop} {cc : ByteArray} {pc nL : Nat} {ls : Array Slot} {st0 rest : List Value}
variable {D : va_G} {cl : List vw_C} {tys : List (ClassId × FieldType)} {A : Nat → Prop} {ws wc wr : va_W} {Ts : List Cond} {own C : String} {y : MethodName} {wsy : List Cond} {rm : Room} {bytes : ByteArray} {maxL index n mc ms : Nat} {ret : Option FieldType} {b : Nat} {As : List Value} {S : Type} {WF : S → va_W} {WN : va_W}
/-- a virtual call of the one form, int or boolean answer -/
theorem callVi {r0 : Int32} {u0 : S} (FX : CallFix p m c cc nL s args Ts own) (hK : va_K D cl tys s) (hP : va_P D cl ws H) (hD : va_D A ws) (hS : va_S A H0 H locs) (hA : ∀ q, H0.size ≤ q → A q)
    (isC isR isB : List Nat) (hM : CtI l y wsy rm D cl tys (.ref b :: As) wc H.size mc ms (fun r u => r = r0 ∧ u = u0) WF) (cw : CallW R s args own C index y bytes maxL ret wsy rm mc ms n)
    (q0 ci : Nat) {q : vw_C} {fs : List Value} (he : wc[q0]? = some (b, .inr (ci, fs))) (hc : cl[ci]? = some q) (hqC : q.1 = C)
    (hC : isC.map (fun i => ws[i]?) = wc.map some) (hR : isR.map (fun i => ws[i]?) = wr.map some) (hnC : va_nd isC = true) (hnR : va_nd isR = true) (hdis : ∀ i ∈ isR, i ∉ isC)
    (hB : isB.map (fun i => (wr ++ WF u0)[i]?) = WN.map some) (hnB : va_nd isB = true)
    (hlen : As.length = n) (hsize : ls.size = nL) (hstack : st0 = As.reverse ++ .ref b :: rest) (hW : (rest.map fun v => v.category).sum ≤ 8) (hdg : decode cc pc = .ok (.invokevirtual index, 3)) (hf : cells + mc ≤ R.cells ∧ slots + ms ≤ R.slots)
    (kk : ∀ (H1 : Heap) (locs1 : List Loc), va_P D cl WN H1 → va_D A WN → va_S A H0 H1 locs1 → W p l e R s m args below meth c H1 locs1 (cells + mc) (slots + ms) Q (F0 m (pc + 3) ls (.int r0 :: rest))) : W p l e R s m args below meth c H locs cells slots Q (F0 m pc ls st0) := by
  have hPc : va_P D cl wc H := pick_P hP isC hC
  have hDc : va_D A wc := hD.sub isC hnC hC
  have hFc := va_free (wc := wc) hD hS hA isC hC
  obtain ⟨cell, g1, g2, g3⟩ := va_recv hK hPc hc he
  refine va_calli (va_runV (As := As) (rest := rest) FX hM cw ⟨fun a U g mk q => ?_, ⟨cell, g1, g2, by rw [← hqC]; exact g3⟩, fun U hU hW => ⟨rfl, by rw [hU], by rw [hU]; exact hPc, va_K.moved hW.alike hK, hDc.weaken (fun _ _ _ _ => trivial)⟩⟩ rfl hlen hsize hstack (lv_room hW) hdg hf) hS (fun q _ h => hFc q h) hFc (fun r u t H1 locs1 ht hvm hw hB1 hz1 hk1 hS1 => ?_)
  · obtain ⟨q0, q1, qP, qK, qD⟩ := q
    exact ⟨q0, q1, qP, va_K.moved (u := U) (U := U.calling g mk a) (Vm.Alike.refl U.vm) qK, qD⟩
  · obtain ⟨hP1, hK1, hD1⟩ := hB1
    rw [ht] at hP1
    obtain ⟨hP2, hD2⟩ := va_join (wr := wr) (w1 := WF u) hP hD isC isR hC hR hnR hdis hk1 hFc hP1 hD1
    obtain ⟨rfl, rfl⟩ := hw
    exact kk H1 locs1 (pick_P hP2 isB hB) (hD2.sub isB hnB hB) hS1
theorem callVv {u0 : S} (FX : CallFix p m c cc nL s args Ts own) (hK : va_K D cl tys s) (hP : va_P D cl ws H) (hD : va_D A ws) (hS : va_S A H0 H locs) (hA : ∀ q, H0.size ≤ q → A q)
    (isC isR isB : List Nat) (hM : CtV l y wsy rm D cl tys (.ref b :: As) wc H.size mc ms (fun u => u = u0) WF) (cw : CallW R s args own C index y bytes maxL ret wsy rm mc ms n)
    (q0 ci : Nat) {q : vw_C} {fs : List Value} (he : wc[q0]? = some (b, .inr (ci, fs))) (hc : cl[ci]? = some q) (hqC : q.1 = C)
    (hC : isC.map (fun i => ws[i]?) = wc.map some) (hR : isR.map (fun i => ws[i]?) = wr.map some) (hnC : va_nd isC = true) (hnR : va_nd isR = true) (hdis : ∀ i ∈ isR, i ∉ isC)
    (hB : isB.map (fun i => (wr ++ WF u0)[i]?) = WN.map some) (hnB : va_nd isB = true)
    (hlen : As.length = n) (hsize : ls.size = nL) (hstack : st0 = As.reverse ++ .ref b :: rest) (hW : (rest.map fun v => v.category).sum ≤ 8) (hdg : decode cc pc = .ok (.invokevirtual index, 3)) (hf : cells + mc ≤ R.cells ∧ slots + ms ≤ R.slots)
    (kk : ∀ (H1 : Heap) (locs1 : List Loc), va_P D cl WN H1 → va_D A WN → va_S A H0 H1 locs1 → W p l e R s m args below meth c H1 locs1 (cells + mc) (slots + ms) Q (F0 m (pc + 3) ls rest)) : W p l e R s m args below meth c H locs cells slots Q (F0 m pc ls st0) := by
  have hPc : va_P D cl wc H := pick_P hP isC hC
  have hDc : va_D A wc := hD.sub isC hnC hC
  have hFc := va_free (wc := wc) hD hS hA isC hC
  obtain ⟨cell, g1, g2, g3⟩ := va_recv hK hPc hc he
  refine va_callv (va_runV (As := As) (rest := rest) FX hM cw ⟨fun a U g mk q => ?_, ⟨cell, g1, g2, by rw [← hqC]; exact g3⟩, fun U hU hW => ⟨rfl, by rw [hU], by rw [hU]; exact hPc, va_K.moved hW.alike hK, hDc.weaken (fun _ _ _ _ => trivial)⟩⟩ rfl hlen hsize hstack (lv_room hW) hdg hf) hS (fun q _ h => hFc q h) hFc (fun u t H1 locs1 ht hvm hw hB1 hz1 hk1 hS1 => ?_)
  · obtain ⟨q0, q1, qP, qK, qD⟩ := q
    exact ⟨q0, q1, qP, va_K.moved (u := U) (U := U.calling g mk a) (Vm.Alike.refl U.vm) qK, qD⟩
  · obtain ⟨hP1, hK1, hD1⟩ := hB1
    rw [ht] at hP1
    obtain ⟨hP2, hD2⟩ := va_join (wr := wr) (w1 := WF u) hP hD isC isR hC hR hnR hdis hk1 hFc hP1 hD1
    obtain rfl := hw
    exact kk H1 locs1 (pick_P hP2 isB hB) (hD2.sub isB hnB hB) hS1
/-- a static call of the one form, over no cells -/
theorem callSi {r0 : Int32} {u0 : S} (FX : CallFix p m c cc nL s args Ts own) (hK : va_K D cl tys s) (hP : va_P D cl ws H) (hD : va_D A ws) (hS : va_S A H0 H locs) (hA : ∀ q, H0.size ≤ q → A q)
    (hM : CtI l y wsy rm D cl tys As [] H.size 0 0 (fun r u => r = r0 ∧ u = u0) WF) (cw : CallB R s args own index y bytes maxL ret wsy rm 0 0 n ∧ (Cond.static y).before args s = true)
    (hlen : As.length = n) (hsize : ls.size = nL) (hstack : st0 = As.reverse ++ rest) (hW : (rest.map fun v => v.category).sum ≤ 8) (hdg : decode cc pc = .ok (.invokestatic index, 3)) (hf : cells ≤ R.cells ∧ slots ≤ R.slots)
    (kk : ∀ (H1 : Heap) (locs1 : List Loc), va_P D cl ws H1 → va_S A H0 H1 locs1 → W p l e R s m args below meth c H1 locs1 cells slots Q (F0 m (pc + 3) ls (.int r0 :: rest))) : W p l e R s m args below meth c H locs cells slots Q (F0 m pc ls st0) := by
  have hFc := va_free (wc := []) hD hS hA [] rfl
  refine va_calli (va_runS (As := As) (rest := rest) FX hM cw ⟨fun a U g mk q => ?_, fun U hU hW => ⟨rfl, by rw [hU], fun k q h => by simp at h, va_K.moved hW.alike hK, ⟨fun i j p q h => by simp at h, fun k q h => by simp at h⟩⟩⟩ rfl hlen hsize hstack (lv_room hW) hdg hf) hS (fun q _ h => hFc q h) hFc (fun r u t H1 locs1 ht hvm hw hB1 hz1 hk1 hS1 => ?_)
  · obtain ⟨q0, q1, qP, qK, qD⟩ := q
    exact ⟨q0, q1, qP, va_K.moved (u := U) (U := U.calling g mk a) (Vm.Alike.refl U.vm) qK, qD⟩
  · obtain ⟨hP1, hK1, hD1⟩ := hB1
    have hP2 : va_P D cl ws H1 := hP.kept (fun k q hk => hk1 q.1 (at_lt (hP k q hk)) (fun h => by
      rcases h with ⟨k, e, h⟩ | h
      · simp at h
      · exact absurd (at_lt (hP _ q hk)) (Nat.not_lt.mpr h)))
    rw [hw.1]
    exact kk H1 locs1 hP2 hS1
end Calls
end
section
/-! ### ThreeLegs$Crowd.hasRunner(I)Z -/
abbrev wm_X0_hasRunner (cI cZ cO : ClassId) (c_h c_0 c_1 c_2 c_3 : Nat) (oc : Ob) : va_W := [(c_h, .inr (0, [.ref c_0, .ref c_1, .ref c_2, .ref c_3, .int (oc 4 0), .int (oc 5 0), .int (oc 6 0)])), (c_0, .inl (cZ, 8, .inl (oc 0))), (c_1, .inl (cI, 8, .inl (oc 1))), (c_2, .inl (cI, 8, .inl (oc 2))), (c_3, .inl (cI, 8, .inl (oc 3)))]
def F_X0_hasRunner (oc : Ob) (p0 : Int32) : Option (Int32) :=
  (if p0 < 0 then some 0 else (if 8 ≤ p0 then some 0 else ck p0 8 ((if ((oc 0) (p0).toNatClampNeg) = 0 then some 0 else some 1))))
abbrev rm_X0_hasRunner : Room := { frames := 0, cells := 0, slots := 0, locals := 0 }
abbrev wu_X0_hasRunner : List Cond := .code yX0_hasRunner cX0_hasRunner 2 (some .boolean) :: lwG
set_option maxHeartbeats 20000000 in
set_option maxRecDepth 100000 in
theorem c_X0_hasRunner (l : Launch) (D : va_G) (cI cZ cO : ClassId) (c_h c_0 c_1 c_2 c_3 : Nat) (sz : Nat) (oc : Ob) (p0 : Int32) (q : Int32) (hF : F_X0_hasRunner oc p0 = some q) : CtI l yX0_hasRunner wu_X0_hasRunner rm_X0_hasRunner D vwCl (tyL cI cZ cO) [.ref c_h, .int p0] (wm_X0_hasRunner cI cZ cO c_h c_0 c_1 c_2 c_3 oc) sz 0 0 (fun (r : Int32) (u : Unit) => r = q ∧ u = ()) (fun u => wm_X0_hasRunner cI cZ cO c_h c_0 c_1 c_2 c_3 oc) := by
  refine mk_z (cc := cX0_hasRunner) (maxL := 2) (by decide) rfl (Nat.le_of_ble_eq_true rfl) ?_
  intro p e s m args below meth c A ls Q hx hb hml hown hts hin hK hP hD hS hA hl hQ
  have hl : lv_has ls 2 [(0, .ref c_h), (1, .int p0)] := hl
  unfold F_X0_hasRunner at hF
  refine lv_iload_n hx hb dX0_hasRunner_0 rfl (lv_at hl 1 rfl) ?_
  refine lv_if_lt (tgt := 23) hx hb dX0_hasRunner_1 (by decide) (fun h1 => ?_) (fun h1 => ?_)
  · replace hF := of_t h1 hF
    refine lv_iconst (v := 0) hx hb dX0_hasRunner_23 (by decide) ?_
    exact hQ _ _ _ _ _ () rfl ⟨Option.some.inj hF, rfl⟩ hP hD hS dX0_hasRunner_24
  · replace hF := of_f h1 hF
    refine lv_iload_n hx hb dX0_hasRunner_4 rfl (lv_at hl 1 rfl) ?_
    refine lv_bipush (v := 8) hx hb dX0_hasRunner_5 (by decide) ?_
    refine lv_icmp_ge (tgt := 23) hx hb dX0_hasRunner_7 (by decide) (fun h2 => ?_) (fun h2 => ?_)
    · replace hF := of_t h2 hF
      refine lv_iconst (v := 0) hx hb dX0_hasRunner_23 (by decide) ?_
      exact hQ _ _ _ _ _ () rfl ⟨Option.some.inj hF, rfl⟩ hP hD hS dX0_hasRunner_24
    · replace hF := of_f h2 hF
      refine lv_aload_n hx hb dX0_hasRunner_10 rfl (lv_at hl 0 rfl) ?_
      refine va_get (D := D) (ci := 0) (v := .ref c_0) (C := RX0) (T := TX0) (N := 7) hx hb hts in_X0 hown hK hP 0 rfl rfl 0 (by decide) (hts _ wd_57) (fun _ h9 => h9) rfl dX0_hasRunner_11 ?_
      refine lv_iload_n hx hb dX0_hasRunner_14 rfl (lv_at hl 1 rfl) ?_
      obtain ⟨h3, hF⟩ := of_ck hF
      refine va_zald (D := D) hx hb hK hP 1 1 rfl rfl h3 dX0_hasRunner_15 ?_
      refine lv_if_eq (tgt := 23) hx hb dX0_hasRunner_16 (by decide) (fun h4 => ?_) (fun h4 => ?_)
      · replace hF := of_t h4 hF
        refine lv_iconst (v := 0) hx hb dX0_hasRunner_23 (by decide) ?_
        exact hQ _ _ _ _ _ () rfl ⟨Option.some.inj hF, rfl⟩ hP hD hS dX0_hasRunner_24
      · replace hF := of_f h4 hF
        refine lv_iconst (v := 1) hx hb dX0_hasRunner_19 (by decide) ?_
        refine lv_goto (tgt := 24) hx hb dX0_hasRunner_20 (by decide) ?_
        exact hQ _ _ _ _ _ () rfl ⟨Option.some.inj hF, rfl⟩ hP hD hS dX0_hasRunner_24
/-! ### ThreeLegs$Crowd.canTie(II)Z -/
abbrev wm_X0_canTie (cI cZ cO : ClassId) (c_h c_0 c_1 c_2 c_3 : Nat) (oc : Ob) : va_W := [(c_h, .inr (0, [.ref c_0, .ref c_1, .ref c_2, .ref c_3, .int (oc 4 0), .int (oc 5 0), .int (oc 6 0)])), (c_0, .inl (cZ, 8, .inl (oc 0))), (c_1, .inl (cI, 8, .inl (oc 1))), (c_2, .inl (cI, 8, .inl (oc 2))), (c_3, .inl (cI, 8, .inl (oc 3)))]
def F_X0_canTie (oc : Ob) (p0 : Int32) (p1 : Int32) : Option (Int32) :=
  (if p0 = p1 then some 0 else (F_X0_hasRunner oc p0).bind (fun q2 => (if q2 = 0 then some 0 else (F_X0_hasRunner oc p1).bind (fun q4 => (if q4 = 0 then some 0 else some 1)))))
abbrev rm_X0_canTie : Room := { frames := 1, cells := 0, slots := 0, locals := 21 }
abbrev wu_X0_canTie : List Cond := .code yX0_canTie cX0_canTie 3 (some .boolean) :: lwG
set_option maxHeartbeats 20000000 in
set_option maxRecDepth 100000 in
theorem c_X0_canTie (l : Launch) (D : va_G) (cI cZ cO : ClassId) (c_h c_0 c_1 c_2 c_3 : Nat) (sz : Nat) (oc : Ob) (p0 : Int32) (p1 : Int32) (q : Int32) (hF : F_X0_canTie oc p0 p1 = some q) : CtI l yX0_canTie wu_X0_canTie rm_X0_canTie D vwCl (tyL cI cZ cO) [.ref c_h, .int p0, .int p1] (wm_X0_canTie cI cZ cO c_h c_0 c_1 c_2 c_3 oc) sz 0 0 (fun (r : Int32) (u : Unit) => r = q ∧ u = ()) (fun u => wm_X0_canTie cI cZ cO c_h c_0 c_1 c_2 c_3 oc) := by
  refine mk_z (cc := cX0_canTie) (maxL := 3) (by decide) rfl (Nat.le_of_ble_eq_true rfl) ?_
  intro p e s m args below meth c A ls Q hx hb hml hown hts hin hK hP hD hS hA hl hQ
  have hl : lv_has ls 3 [(0, .ref c_h), (1, .int p0), (2, .int p1)] := hl
  unfold F_X0_canTie at hF
  refine lv_iload_n hx hb dX0_canTie_0 rfl (lv_at hl 1 rfl) ?_
  refine lv_iload_n hx hb dX0_canTie_1 rfl (lv_at hl 2 rfl) ?_
  refine lv_icmp_eq (tgt := 25) hx hb dX0_canTie_2 (by decide) (fun h1 => ?_) (fun h1 => ?_)
  · replace hF := of_t h1 hF
    refine lv_iconst (v := 0) hx hb dX0_canTie_25 (by decide) ?_
    exact hQ _ _ _ _ _ () rfl ⟨Option.some.inj hF, rfl⟩ hP hD hS dX0_canTie_26
  · replace hF := of_f h1 hF
    refine lv_aload_n hx hb dX0_canTie_5 rfl (lv_at hl 0 rfl) ?_
    refine lv_iload_n hx hb dX0_canTie_6 rfl (lv_at hl 1 rfl) ?_
    obtain ⟨q2, hGq2, hF⟩ := of_bind hF
    refine callVi (As := [.int p0]) (rest := []) (wr := []) (WN := wm_X0_canTie cI cZ cO c_h c_0 c_1 c_2 c_3 oc) ⟨hx, hb, hml, hown, hts⟩ hK hP hD hS hA [0, 1, 2, 3, 4] [] [0, 1, 2, 3, 4] (c_X0_hasRunner l D cI cZ cO c_h c_0 c_1 c_2 c_3 _ oc p0 q2 hGq2) (cwV 1 hts (gV wd_273 wd_266 wd_267 wd_34 wd_268) rfl rfl rfl (by decide +kernel) ⟨Nat.le_of_ble_eq_true rfl, Nat.le_of_ble_eq_true rfl⟩) 0 0 rfl rfl rfl rfl rfl rfl rfl (by decide) rfl rfl rfl hl.1 rfl (Nat.le_of_ble_eq_true rfl) dX0_canTie_7 ⟨Nat.zero_le _, Nat.zero_le _⟩ (fun H locs hP hD hS => ?_)
    refine lv_if_eq (tgt := 25) hx hb dX0_canTie_10 (by decide) (fun h3 => ?_) (fun h3 => ?_)
    · replace hF := of_t h3 hF
      refine lv_iconst (v := 0) hx hb dX0_canTie_25 (by decide) ?_
      exact hQ _ _ _ _ _ () rfl ⟨Option.some.inj hF, rfl⟩ hP hD hS dX0_canTie_26
    · replace hF := of_f h3 hF
      refine lv_aload_n hx hb dX0_canTie_13 rfl (lv_at hl 0 rfl) ?_
      refine lv_iload_n hx hb dX0_canTie_14 rfl (lv_at hl 2 rfl) ?_
      obtain ⟨q4, hGq4, hF⟩ := of_bind hF
      refine callVi (As := [.int p1]) (rest := []) (wr := []) (WN := wm_X0_canTie cI cZ cO c_h c_0 c_1 c_2 c_3 oc) ⟨hx, hb, hml, hown, hts⟩ hK hP hD hS hA [0, 1, 2, 3, 4] [] [0, 1, 2, 3, 4] (c_X0_hasRunner l D cI cZ cO c_h c_0 c_1 c_2 c_3 _ oc p1 q4 hGq4) (cwV 1 hts (gV wd_273 wd_266 wd_267 wd_34 wd_268) rfl rfl rfl (by decide +kernel) ⟨Nat.le_of_ble_eq_true rfl, Nat.le_of_ble_eq_true rfl⟩) 0 0 rfl rfl rfl rfl rfl rfl rfl (by decide) rfl rfl rfl hl.1 rfl (Nat.le_of_ble_eq_true rfl) dX0_canTie_15 ⟨Nat.zero_le _, Nat.zero_le _⟩ (fun H locs hP hD hS => ?_)
      refine lv_if_eq (tgt := 25) hx hb dX0_canTie_18 (by decide) (fun h5 => ?_) (fun h5 => ?_)
      · replace hF := of_t h5 hF
        refine lv_iconst (v := 0) hx hb dX0_canTie_25 (by decide) ?_
        exact hQ _ _ _ _ _ () rfl ⟨Option.some.inj hF, rfl⟩ hP hD hS dX0_canTie_26
      · replace hF := of_f h5 hF
        refine lv_iconst (v := 1) hx hb dX0_canTie_21 (by decide) ?_
        refine lv_goto (tgt := 26) hx hb dX0_canTie_22 (by decide) ?_
        exact hQ _ _ _ _ _ () rfl ⟨Option.some.inj hF, rfl⟩ hP hD hS dX0_canTie_26
/-! ### ThreeLegs$Walk.apart()I -/
abbrev wm_X4_apart (cI cZ cO : ClassId) (w_h : Nat) (ow : Ob) : va_W := [(w_h, .inr (4, [.int (ow 0 0), .int (ow 1 0), .int (ow 2 0), .int (ow 3 0), .int (ow 4 0), .int (ow 5 0), .int (ow 6 0), .int (ow 7 0), .int (ow 8 0), .int (ow 9 0), .int (ow 10 0), .int (ow 11 0), .int (ow 12 0), .int (ow 13 0), .int (ow 14 0), .int (ow 15 0)]))]
def F_X4_apart (ow : Ob)  : Option (Int32) :=
  dd ((ow 8 0) - (ow 9 0)) (fun (v1 : Int32) => dd (if 0 ≤ v1 then v1 else 0 - v1) (fun (v2 : Int32) => some v2))
abbrev rm_X4_apart : Room := { frames := 1, cells := 0, slots := 0, locals := 21 }
abbrev wu_X4_apart : List Cond := .code yX4_apart cX4_apart 1 (some .int) :: lwG
set_option maxHeartbeats 20000000 in
set_option maxRecDepth 100000 in
theorem c_X4_apart (l : Launch) (D : va_G) (cI cZ cO : ClassId) (w_h : Nat) (sz : Nat) (ow : Ob)  (q : Int32) (hF : F_X4_apart ow = some q) : CtI l yX4_apart wu_X4_apart rm_X4_apart D vwCl (tyL cI cZ cO) [.ref w_h] (wm_X4_apart cI cZ cO w_h ow) sz 0 0 (fun (r : Int32) (u : Unit) => r = q ∧ u = ()) (fun u => wm_X4_apart cI cZ cO w_h ow) := by
  refine mk_i (cc := cX4_apart) (maxL := 1) (by decide) rfl (Nat.le_of_ble_eq_true rfl) ?_
  intro p e s m args below meth c A ls Q hx hb hml hown hts hin hK hP hD hS hA hl hQ
  have hl : lv_has ls 1 [(0, .ref w_h)] := hl
  unfold F_X4_apart at hF
  refine lv_aload_n hx hb dX4_apart_0 rfl (lv_at hl 0 rfl) ?_
  refine va_get (D := D) (ci := 4) (v := .int (ow 8 0)) (C := RX4) (T := TX4) (N := 16) hx hb hts in_X4 hown hK hP 0 rfl rfl 8 (by decide) (hts _ wd_123) (fun _ h9 => h9) rfl dX4_apart_1 ?_
  refine lv_aload_n hx hb dX4_apart_4 rfl (lv_at hl 0 rfl) ?_
  refine va_get (D := D) (ci := 4) (v := .int (ow 9 0)) (C := RX4) (T := TX4) (N := 16) hx hb hts in_X4 hown hK hP 0 rfl rfl 9 (by decide) (hts _ wd_124) (fun _ h9 => h9) rfl dX4_apart_5 ?_
  refine lv_isub hx hb dX4_apart_8 ?_
  refine lv_topi (fun v1 ev1 => ?_)
  replace hF := of_dd hF v1 ev1
  refine va_mabs hx hb (hml.trans hl.1.symm) hown (hts _ wd_317) (hts _ wd_318) (hts _ wd_41) (hts _ wd_319) (Nat.le_of_ble_eq_true rfl) (Nat.le_of_ble_eq_true rfl) (Nat.zero_le _) (Nat.zero_le _) dX4_apart_9 ?_
  refine lv_topi (fun v2 ev2 => ?_)
  replace hF := of_dd hF v2 ev2
  exact hQ _ _ _ _ _ () ⟨Option.some.inj hF, rfl⟩ hP hD hS dX4_apart_12
/-! ### ThreeLegs$Walk.speedUp()V -/
abbrev wm_X4_speedUp (cI cZ cO : ClassId) (w_h : Nat) (ow : Ob) : va_W := [(w_h, .inr (4, [.int (ow 0 0), .int (ow 1 0), .int (ow 2 0), .int (ow 3 0), .int (ow 4 0), .int (ow 5 0), .int (ow 6 0), .int (ow 7 0), .int (ow 8 0), .int (ow 9 0), .int (ow 10 0), .int (ow 11 0), .int (ow 12 0), .int (ow 13 0), .int (ow 14 0), .int (ow 15 0)]))]
def F_X4_speedUp (ow : Ob)  : Option (Ob) :=
  dd ((ow 0 0) - 1) (fun (v1 : Int32) => dd (if (4 : Int32) < v1 then v1 else (4 : Int32)) (fun (v2 : Int32) => dd (sO ow 0 (cst v2)) (fun (ow3 : Ob) => dd ((ow3 1 0) - 1) (fun (v4 : Int32) => dd (if (4 : Int32) < v4 then v4 else (4 : Int32)) (fun (v5 : Int32) => dd (sO ow3 1 (cst v5)) (fun (ow6 : Ob) => some ow6))))))
abbrev rm_X4_speedUp : Room := { frames := 1, cells := 0, slots := 0, locals := 21 }
abbrev wu_X4_speedUp : List Cond := .code yX4_speedUp cX4_speedUp 1 none :: lwG
set_option maxHeartbeats 20000000 in
set_option maxRecDepth 100000 in
theorem c_X4_speedUp (l : Launch) (D : va_G) (cI cZ cO : ClassId) (w_h : Nat) (sz : Nat) (ow : Ob)  (q : Ob) (hF : F_X4_speedUp ow = some q) : CtV l yX4_speedUp wu_X4_speedUp rm_X4_speedUp D vwCl (tyL cI cZ cO) [.ref w_h] (wm_X4_speedUp cI cZ cO w_h ow) sz 0 0 (fun u : Ob => u = q) (fun u => wm_X4_speedUp cI cZ cO w_h u) := by
  refine mk_v (cc := cX4_speedUp) (maxL := 1) (by decide) rfl (Nat.le_of_ble_eq_true rfl) ?_
  intro p e s m args below meth c A ls Q hx hb hml hown hts hin hK hP hD hS hA hl hQ
  have hl : lv_has ls 1 [(0, .ref w_h)] := hl
  unfold F_X4_speedUp at hF
  refine lv_aload_n hx hb dX4_speedUp_0 rfl (lv_at hl 0 rfl) ?_
  refine lv_iconst (v := 4) hx hb dX4_speedUp_1 (by decide) ?_
  refine lv_aload_n hx hb dX4_speedUp_2 rfl (lv_at hl 0 rfl) ?_
  refine va_get (D := D) (ci := 4) (v := .int (ow 0 0)) (C := RX4) (T := TX4) (N := 16) hx hb hts in_X4 hown hK hP 0 rfl rfl 0 (by decide) (hts _ wd_114) (fun _ h9 => h9) rfl dX4_speedUp_3 ?_
  refine lv_iconst (v := 1) hx hb dX4_speedUp_6 (by decide) ?_
  refine lv_isub hx hb dX4_speedUp_7 ?_
  refine lv_topi (fun v1 ev1 => ?_)
  replace hF := of_dd hF v1 ev1
  refine va_mmax hx hb (hml.trans hl.1.symm) hown (hts _ wd_310) (hts _ wd_311) (hts _ wd_41) (hts _ wd_312) (Nat.le_of_ble_eq_true rfl) (Nat.le_of_ble_eq_true rfl) (Nat.zero_le _) (Nat.zero_le _) dX4_speedUp_8 ?_
  refine lv_topi (fun v2 ev2 => ?_)
  replace hF := of_dd hF v2 ev2
  refine va_put (D := D) (ci := 4) (v := .int v2) (ty := .int) (C := RX4) (T := TX4) (N := 16) hx hb hts in_X4 tyX4 tyX4_ok nmX4 hown hK hP hD hS 0 rfl rfl 0 (by decide) (hts _ wd_114) (fun _ h9 => h9) rfl (tyX4_ok 0 (by decide)) rfl rfl (Nat.le_of_ble_eq_true rfl) dX4_speedUp_11 (fun H locs hP hD hS => ?_)
  obtain ⟨ow3, hF, hP, hD⟩ := nm_o (P := fun y => va_P D vwCl (wm_X4_speedUp cI cZ cO w_h y) _) (B := fun y => va_D A (wm_X4_speedUp cI cZ cO w_h y)) hF hP hD
  refine lv_aload_n hx hb dX4_speedUp_14 rfl (lv_at hl 0 rfl) ?_
  refine lv_iconst (v := 4) hx hb dX4_speedUp_15 (by decide) ?_
  refine lv_aload_n hx hb dX4_speedUp_16 rfl (lv_at hl 0 rfl) ?_
  refine va_get (D := D) (ci := 4) (v := .int (ow3 1 0)) (C := RX4) (T := TX4) (N := 16) hx hb hts in_X4 hown hK hP 0 rfl rfl 1 (by decide) (hts _ wd_115) (fun _ h9 => h9) rfl dX4_speedUp_17 ?_
  refine lv_iconst (v := 1) hx hb dX4_speedUp_20 (by decide) ?_
  refine lv_isub hx hb dX4_speedUp_21 ?_
  refine lv_topi (fun v4 ev4 => ?_)
  replace hF := of_dd hF v4 ev4
  refine va_mmax hx hb (hml.trans hl.1.symm) hown (hts _ wd_310) (hts _ wd_311) (hts _ wd_41) (hts _ wd_312) (Nat.le_of_ble_eq_true rfl) (Nat.le_of_ble_eq_true rfl) (Nat.zero_le _) (Nat.zero_le _) dX4_speedUp_22 ?_
  refine lv_topi (fun v5 ev5 => ?_)
  replace hF := of_dd hF v5 ev5
  refine va_put (D := D) (ci := 4) (v := .int v5) (ty := .int) (C := RX4) (T := TX4) (N := 16) hx hb hts in_X4 tyX4 tyX4_ok nmX4 hown hK hP hD hS 0 rfl rfl 1 (by decide) (hts _ wd_115) (fun _ h9 => h9) rfl (tyX4_ok 1 (by decide)) rfl rfl (Nat.le_of_ble_eq_true rfl) dX4_speedUp_25 (fun H locs hP hD hS => ?_)
  obtain ⟨ow6, hF, hP, hD⟩ := nm_o (P := fun y => va_P D vwCl (wm_X4_speedUp cI cZ cO w_h y) _) (B := fun y => va_D A (wm_X4_speedUp cI cZ cO w_h y)) hF hP hD
  exact hQ _ _ _ _ ow6 (Option.some.inj hF) hP hD hS dX4_speedUp_28
/-! ### ThreeLegs$Walk.time()I -/
abbrev wm_X4_time (cI cZ cO : ClassId) (w_h : Nat) (ow : Ob) : va_W := [(w_h, .inr (4, [.int (ow 0 0), .int (ow 1 0), .int (ow 2 0), .int (ow 3 0), .int (ow 4 0), .int (ow 5 0), .int (ow 6 0), .int (ow 7 0), .int (ow 8 0), .int (ow 9 0), .int (ow 10 0), .int (ow 11 0), .int (ow 12 0), .int (ow 13 0), .int (ow 14 0), .int (ow 15 0)]))]
def F_X4_time (ow : Ob)  : Option (Int32) :=
  dd (if (ow 8 0) < (ow 9 0) then (ow 9 0) else (ow 8 0)) (fun (v1 : Int32) => some v1)
abbrev rm_X4_time : Room := { frames := 1, cells := 0, slots := 0, locals := 21 }
abbrev wu_X4_time : List Cond := .code yX4_time cX4_time 1 (some .int) :: lwG
set_option maxHeartbeats 20000000 in
set_option maxRecDepth 100000 in
theorem c_X4_time (l : Launch) (D : va_G) (cI cZ cO : ClassId) (w_h : Nat) (sz : Nat) (ow : Ob)  (q : Int32) (hF : F_X4_time ow = some q) : CtI l yX4_time wu_X4_time rm_X4_time D vwCl (tyL cI cZ cO) [.ref w_h] (wm_X4_time cI cZ cO w_h ow) sz 0 0 (fun (r : Int32) (u : Unit) => r = q ∧ u = ()) (fun u => wm_X4_time cI cZ cO w_h ow) := by
  refine mk_i (cc := cX4_time) (maxL := 1) (by decide) rfl (Nat.le_of_ble_eq_true rfl) ?_
  intro p e s m args below meth c A ls Q hx hb hml hown hts hin hK hP hD hS hA hl hQ
  have hl : lv_has ls 1 [(0, .ref w_h)] := hl
  unfold F_X4_time at hF
  refine lv_aload_n hx hb dX4_time_0 rfl (lv_at hl 0 rfl) ?_
  refine va_get (D := D) (ci := 4) (v := .int (ow 8 0)) (C := RX4) (T := TX4) (N := 16) hx hb hts in_X4 hown hK hP 0 rfl rfl 8 (by decide) (hts _ wd_123) (fun _ h9 => h9) rfl dX4_time_1 ?_
  refine lv_aload_n hx hb dX4_time_4 rfl (lv_at hl 0 rfl) ?_
  refine va_get (D := D) (ci := 4) (v := .int (ow 9 0)) (C := RX4) (T := TX4) (N := 16) hx hb hts in_X4 hown hK hP 0 rfl rfl 9 (by decide) (hts _ wd_124) (fun _ h9 => h9) rfl dX4_time_5 ?_
  refine va_mmax hx hb (hml.trans hl.1.symm) hown (hts _ wd_310) (hts _ wd_311) (hts _ wd_41) (hts _ wd_312) (Nat.le_of_ble_eq_true rfl) (Nat.le_of_ble_eq_true rfl) (Nat.zero_le _) (Nat.zero_le _) dX4_time_8 ?_
  refine lv_topi (fun v1 ev1 => ?_)
  replace hF := of_dd hF v1 ev1
  exact hQ _ _ _ _ _ () ⟨Option.some.inj hF, rfl⟩ hP hD hS dX4_time_11
/-! ### ThreeLegs$Walk.step()V -/
abbrev wm_X4_step (cI cZ cO : ClassId) (w_h : Nat) (ow : Ob) : va_W := [(w_h, .inr (4, [.int (ow 0 0), .int (ow 1 0), .int (ow 2 0), .int (ow 3 0), .int (ow 4 0), .int (ow 5 0), .int (ow 6 0), .int (ow 7 0), .int (ow 8 0), .int (ow 9 0), .int (ow 10 0), .int (ow 11 0), .int (ow 12 0), .int (ow 13 0), .int (ow 14 0), .int (ow 15 0)]))]
def F_X4_step (ow : Ob)  : Option (Ob) :=
  dd ((ow 9 0) - (ow 8 0)) (fun (v1 : Int32) => dd ((ow 2 0) * v1) (fun (v2 : Int32) => dd (v2 / 4) (fun (v3 : Int32) => dd ((ow 0 0) + v3) (fun (v4 : Int32) => dd (if (1 : Int32) < v4 then v4 else (1 : Int32)) (fun (v5 : Int32) => dd ((ow 8 0) + v5) (fun (v6 : Int32) => dd ((ow 8 0) - (ow 9 0)) (fun (v7 : Int32) => dd ((ow 3 0) * v7) (fun (v8 : Int32) => dd (v8 / 4) (fun (v9 : Int32) => dd ((ow 1 0) + v9) (fun (v10 : Int32) => dd (if (1 : Int32) < v10 then v10 else (1 : Int32)) (fun (v11 : Int32) => dd ((ow 9 0) + v11) (fun (v12 : Int32) => dd (sO ow 8 (cst v6)) (fun (ow13 : Ob) => dd (sO ow13 9 (cst v12)) (fun (ow14 : Ob) => jn (fun (v16 : Int32) => gz v16 (dd (sO ow14 15 (cst v16)) (fun (ow18 : Ob) => dd ((ow18 10 0) + 1) (fun (v19 : Int32) => dd (sO ow18 10 (cst v19)) (fun (ow20 : Ob) => (F_X4_apart ow20).bind (fun q21 => (if q21 ≤ (ow20 6 0) then (F_X4_apart ow20).bind (fun q23 => (if q23 ≤ (ow20 5 0) then dd ((ow20 11 0) + (ow20 4 0)) (fun (v25 : Int32) => dd (sO ow20 11 (cst v25)) (fun (ow26 : Ob) => dd (sO ow26 14 (cst 115)) (fun (ow27 : Ob) => some ow27))) else dd ((ow20 12 0) + 1) (fun (v28 : Int32) => dd (sO ow20 12 (cst v28)) (fun (ow29 : Ob) => dd (sO ow29 14 (cst 108)) (fun (ow30 : Ob) => some ow30))))) else dd ((ow20 13 0) + 1) (fun (v31 : Int32) => dd (sO ow20 13 (cst v31)) (fun (ow32 : Ob) => dd (sO ow32 14 (cst 102)) (fun (ow33 : Ob) => dd (if v6 < v12 then v12 else v6) (fun (v34 : Int32) => dd (v34 + (ow33 7 0)) (fun (v35 : Int32) => dd (sO ow33 8 (cst v35)) (fun (ow36 : Ob) => dd (sO ow36 9 (cst (ow36 8 0))) (fun (ow37 : Ob) => some ow37)))))))))))))) (fun (K15 : Int32 → Option (Ob)) => (if v12 ≤ v6 then K15 0 else K15 1))))))))))))))))
abbrev rm_X4_step : Room := { frames := 2, cells := 0, slots := 0, locals := 41 }
abbrev wu_X4_step : List Cond := .code yX4_step cX4_step 3 none :: lwG
set_option maxHeartbeats 20000000 in
set_option maxRecDepth 100000 in
theorem c_X4_step (l : Launch) (D : va_G) (cI cZ cO : ClassId) (w_h : Nat) (sz : Nat) (ow : Ob)  (q : Ob) (hF : F_X4_step ow = some q) : CtV l yX4_step wu_X4_step rm_X4_step D vwCl (tyL cI cZ cO) [.ref w_h] (wm_X4_step cI cZ cO w_h ow) sz 0 0 (fun u : Ob => u = q) (fun u => wm_X4_step cI cZ cO w_h u) := by
  refine mk_v (cc := cX4_step) (maxL := 3) (by decide) rfl (Nat.le_of_ble_eq_true rfl) ?_
  intro p e s m args below meth c A ls Q hx hb hml hown hts hin hK hP hD hS hA hl hQ
  have hl : lv_has ls 3 [(0, .ref w_h)] := hl
  unfold F_X4_step at hF
  refine lv_aload_n hx hb dX4_step_0 rfl (lv_at hl 0 rfl) ?_
  refine va_get (D := D) (ci := 4) (v := .int (ow 8 0)) (C := RX4) (T := TX4) (N := 16) hx hb hts in_X4 hown hK hP 0 rfl rfl 8 (by decide) (hts _ wd_123) (fun _ h9 => h9) rfl dX4_step_1 ?_
  refine lv_iconst (v := 1) hx hb dX4_step_4 (by decide) ?_
  refine lv_aload_n hx hb dX4_step_5 rfl (lv_at hl 0 rfl) ?_
  refine va_get (D := D) (ci := 4) (v := .int (ow 0 0)) (C := RX4) (T := TX4) (N := 16) hx hb hts in_X4 hown hK hP 0 rfl rfl 0 (by decide) (hts _ wd_114) (fun _ h9 => h9) rfl dX4_step_6 ?_
  refine lv_aload_n hx hb dX4_step_9 rfl (lv_at hl 0 rfl) ?_
  refine va_get (D := D) (ci := 4) (v := .int (ow 2 0)) (C := RX4) (T := TX4) (N := 16) hx hb hts in_X4 hown hK hP 0 rfl rfl 2 (by decide) (hts _ wd_116) (fun _ h9 => h9) rfl dX4_step_10 ?_
  refine lv_aload_n hx hb dX4_step_13 rfl (lv_at hl 0 rfl) ?_
  refine va_get (D := D) (ci := 4) (v := .int (ow 9 0)) (C := RX4) (T := TX4) (N := 16) hx hb hts in_X4 hown hK hP 0 rfl rfl 9 (by decide) (hts _ wd_124) (fun _ h9 => h9) rfl dX4_step_14 ?_
  refine lv_aload_n hx hb dX4_step_17 rfl (lv_at hl 0 rfl) ?_
  refine va_get (D := D) (ci := 4) (v := .int (ow 8 0)) (C := RX4) (T := TX4) (N := 16) hx hb hts in_X4 hown hK hP 0 rfl rfl 8 (by decide) (hts _ wd_123) (fun _ h9 => h9) rfl dX4_step_18 ?_
  refine lv_isub hx hb dX4_step_21 ?_
  refine lv_topi (fun v1 ev1 => ?_)
  replace hF := of_dd hF v1 ev1
  refine lv_imul hx hb dX4_step_22 ?_
  refine lv_topi (fun v2 ev2 => ?_)
  replace hF := of_dd hF v2 ev2
  refine lv_iconst (v := 4) hx hb dX4_step_23 (by decide) ?_
  refine lv_idiv hx hb dX4_step_24 (by decide) ?_
  refine lv_topi (fun v3 ev3 => ?_)
  replace hF := of_dd hF v3 ev3
  refine lv_iadd hx hb dX4_step_25 ?_
  refine lv_topi (fun v4 ev4 => ?_)
  replace hF := of_dd hF v4 ev4
  refine va_mmax hx hb (hml.trans hl.1.symm) hown (hts _ wd_310) (hts _ wd_311) (hts _ wd_41) (hts _ wd_312) (Nat.le_of_ble_eq_true rfl) (Nat.le_of_ble_eq_true rfl) (Nat.zero_le _) (Nat.zero_le _) dX4_step_26 ?_
  refine lv_topi (fun v5 ev5 => ?_)
  replace hF := of_dd hF v5 ev5
  refine lv_iadd hx hb dX4_step_29 ?_
  refine lv_topi (fun v6 ev6 => ?_)
  replace hF := of_dd hF v6 ev6
  refine lv_istore_n (lv' := [(1, .int v6), (0, .ref w_h)]) hx hb dX4_step_30 rfl hl (by decide) rfl (fun ls hl => ?_)
  refine lv_aload_n hx hb dX4_step_31 rfl (lv_at hl 1 rfl) ?_
  refine va_get (D := D) (ci := 4) (v := .int (ow 9 0)) (C := RX4) (T := TX4) (N := 16) hx hb hts in_X4 hown hK hP 0 rfl rfl 9 (by decide) (hts _ wd_124) (fun _ h9 => h9) rfl dX4_step_32 ?_
  refine lv_iconst (v := 1) hx hb dX4_step_35 (by decide) ?_
  refine lv_aload_n hx hb dX4_step_36 rfl (lv_at hl 1 rfl) ?_
  refine va_get (D := D) (ci := 4) (v := .int (ow 1 0)) (C := RX4) (T := TX4) (N := 16) hx hb hts in_X4 hown hK hP 0 rfl rfl 1 (by decide) (hts _ wd_115) (fun _ h9 => h9) rfl dX4_step_37 ?_
  refine lv_aload_n hx hb dX4_step_40 rfl (lv_at hl 1 rfl) ?_
  refine va_get (D := D) (ci := 4) (v := .int (ow 3 0)) (C := RX4) (T := TX4) (N := 16) hx hb hts in_X4 hown hK hP 0 rfl rfl 3 (by decide) (hts _ wd_117) (fun _ h9 => h9) rfl dX4_step_41 ?_
  refine lv_aload_n hx hb dX4_step_44 rfl (lv_at hl 1 rfl) ?_
  refine va_get (D := D) (ci := 4) (v := .int (ow 8 0)) (C := RX4) (T := TX4) (N := 16) hx hb hts in_X4 hown hK hP 0 rfl rfl 8 (by decide) (hts _ wd_123) (fun _ h9 => h9) rfl dX4_step_45 ?_
  refine lv_aload_n hx hb dX4_step_48 rfl (lv_at hl 1 rfl) ?_
  refine va_get (D := D) (ci := 4) (v := .int (ow 9 0)) (C := RX4) (T := TX4) (N := 16) hx hb hts in_X4 hown hK hP 0 rfl rfl 9 (by decide) (hts _ wd_124) (fun _ h9 => h9) rfl dX4_step_49 ?_
  refine lv_isub hx hb dX4_step_52 ?_
  refine lv_topi (fun v7 ev7 => ?_)
  replace hF := of_dd hF v7 ev7
  refine lv_imul hx hb dX4_step_53 ?_
  refine lv_topi (fun v8 ev8 => ?_)
  replace hF := of_dd hF v8 ev8
  refine lv_iconst (v := 4) hx hb dX4_step_54 (by decide) ?_
  refine lv_idiv hx hb dX4_step_55 (by decide) ?_
  refine lv_topi (fun v9 ev9 => ?_)
  replace hF := of_dd hF v9 ev9
  refine lv_iadd hx hb dX4_step_56 ?_
  refine lv_topi (fun v10 ev10 => ?_)
  replace hF := of_dd hF v10 ev10
  refine va_mmax hx hb (hml.trans hl.1.symm) hown (hts _ wd_310) (hts _ wd_311) (hts _ wd_41) (hts _ wd_312) (Nat.le_of_ble_eq_true rfl) (Nat.le_of_ble_eq_true rfl) (Nat.zero_le _) (Nat.zero_le _) dX4_step_57 ?_
  refine lv_topi (fun v11 ev11 => ?_)
  replace hF := of_dd hF v11 ev11
  refine lv_iadd hx hb dX4_step_60 ?_
  refine lv_topi (fun v12 ev12 => ?_)
  replace hF := of_dd hF v12 ev12
  refine lv_istore_n (lv' := [(2, .int v12), (1, .int v6), (0, .ref w_h)]) hx hb dX4_step_61 rfl hl (by decide) rfl (fun ls hl => ?_)
  refine lv_aload_n hx hb dX4_step_62 rfl (lv_at hl 2 rfl) ?_
  refine lv_iload_n hx hb dX4_step_63 rfl (lv_at hl 1 rfl) ?_
  refine va_put (D := D) (ci := 4) (v := .int v6) (ty := .int) (C := RX4) (T := TX4) (N := 16) hx hb hts in_X4 tyX4 tyX4_ok nmX4 hown hK hP hD hS 0 rfl rfl 8 (by decide) (hts _ wd_123) (fun _ h9 => h9) rfl (tyX4_ok 8 (by decide)) rfl rfl (Nat.le_of_ble_eq_true rfl) dX4_step_64 (fun H locs hP hD hS => ?_)
  obtain ⟨ow13, hF, hP, hD⟩ := nm_o (P := fun y => va_P D vwCl (wm_X4_step cI cZ cO w_h y) _) (B := fun y => va_D A (wm_X4_step cI cZ cO w_h y)) hF hP hD
  refine lv_aload_n hx hb dX4_step_67 rfl (lv_at hl 2 rfl) ?_
  refine lv_iload_n hx hb dX4_step_68 rfl (lv_at hl 0 rfl) ?_
  refine va_put (D := D) (ci := 4) (v := .int v12) (ty := .int) (C := RX4) (T := TX4) (N := 16) hx hb hts in_X4 tyX4 tyX4_ok nmX4 hown hK hP hD hS 0 rfl rfl 9 (by decide) (hts _ wd_124) (fun _ h9 => h9) rfl (tyX4_ok 9 (by decide)) rfl rfl (Nat.le_of_ble_eq_true rfl) dX4_step_69 (fun H locs hP hD hS => ?_)
  obtain ⟨ow14, hF, hP, hD⟩ := nm_o (P := fun y => va_P D vwCl (wm_X4_step cI cZ cO w_h y) _) (B := fun y => va_D A (wm_X4_step cI cZ cO w_h y)) hF hP hD
  refine lv_aload_n hx hb dX4_step_72 rfl (lv_at hl 2 rfl) ?_
  refine lv_iload_n hx hb dX4_step_73 rfl (lv_at hl 1 rfl) ?_
  refine lv_iload_n hx hb dX4_step_74 rfl (lv_at hl 0 rfl) ?_
  obtain ⟨K15, eK15, hF⟩ := of_jn hF
  have hK15 : ∀ (v16 : Int32) (ls : Array Slot) (H : Heap) (locs : List Loc), lv_has ls 3 [(0, .ref w_h), (1, .int v6), (2, .int v12)] → va_P D vwCl (wm_X4_step cI cZ cO w_h ow14) H → va_D A (wm_X4_step cI cZ cO w_h ow14) → va_S A s.heap H locs → K15 v16 = some q → W p l e rm_X4_step s m args below meth c H locs 0 0 Q (F0 m 83 ls [.int v16, .ref w_h]) := by
    intro v16 ls H locs hl hP hD hS hF
    subst eK15
    obtain ⟨hz17, hF⟩ := of_gz hF
    refine va_put (D := D) (ci := 4) (v := .int v16) (ty := .boolean) (C := RX4) (T := TX4) (N := 16) hx hb hts in_X4 tyX4 tyX4_ok nmX4 hown hK hP hD hS 0 rfl rfl 15 (by decide) (hts _ wd_135) (fun _ h9 => h9) rfl (tyX4_ok 15 (by decide)) hz17.1 hz17.2 (Nat.le_of_ble_eq_true rfl) dX4_step_83 (fun H locs hP hD hS => ?_)
    obtain ⟨ow18, hF, hP, hD⟩ := nm_o (P := fun y => va_P D vwCl (wm_X4_step cI cZ cO w_h y) _) (B := fun y => va_D A (wm_X4_step cI cZ cO w_h y)) hF hP hD
    refine lv_aload_n hx hb dX4_step_86 rfl (lv_at hl 0 rfl) ?_
    refine lv_dup hx hb dX4_step_87 rfl ?_
    refine va_get (D := D) (ci := 4) (v := .int (ow18 10 0)) (C := RX4) (T := TX4) (N := 16) hx hb hts in_X4 hown hK hP 0 rfl rfl 10 (by decide) (hts _ wd_125) (fun _ h9 => h9) rfl dX4_step_88 ?_
    refine lv_iconst (v := 1) hx hb dX4_step_91 (by decide) ?_
    refine lv_iadd hx hb dX4_step_92 ?_
    refine lv_topi (fun v19 ev19 => ?_)
    replace hF := of_dd hF v19 ev19
    refine va_put (D := D) (ci := 4) (v := .int v19) (ty := .int) (C := RX4) (T := TX4) (N := 16) hx hb hts in_X4 tyX4 tyX4_ok nmX4 hown hK hP hD hS 0 rfl rfl 10 (by decide) (hts _ wd_125) (fun _ h9 => h9) rfl (tyX4_ok 10 (by decide)) rfl rfl (Nat.le_of_ble_eq_true rfl) dX4_step_93 (fun H locs hP hD hS => ?_)
    obtain ⟨ow20, hF, hP, hD⟩ := nm_o (P := fun y => va_P D vwCl (wm_X4_step cI cZ cO w_h y) _) (B := fun y => va_D A (wm_X4_step cI cZ cO w_h y)) hF hP hD
    refine lv_aload_n hx hb dX4_step_96 rfl (lv_at hl 0 rfl) ?_
    obtain ⟨q21, hGq21, hF⟩ := of_bind hF
    refine callVi (As := []) (rest := []) (wr := []) (WN := wm_X4_step cI cZ cO w_h ow20) ⟨hx, hb, hml, hown, hts⟩ hK hP hD hS hA [0] [] [0] (c_X4_apart l D cI cZ cO w_h _ ow20 q21 hGq21) (cwV 0 hts (gV wd_313 wd_314 wd_315 wd_36 wd_316) rfl rfl rfl (by decide +kernel) ⟨Nat.le_of_ble_eq_true rfl, Nat.le_of_ble_eq_true rfl⟩) 0 4 rfl rfl rfl rfl rfl rfl rfl (by decide) rfl rfl rfl hl.1 rfl (Nat.le_of_ble_eq_true rfl) dX4_step_97 ⟨Nat.zero_le _, Nat.zero_le _⟩ (fun H locs hP hD hS => ?_)
    refine lv_aload_n hx hb dX4_step_100 rfl (lv_at hl 0 rfl) ?_
    refine va_get (D := D) (ci := 4) (v := .int (ow20 6 0)) (C := RX4) (T := TX4) (N := 16) hx hb hts in_X4 hown hK hP 0 rfl rfl 6 (by decide) (hts _ wd_121) (fun _ h9 => h9) rfl dX4_step_101 ?_
    refine lv_icmp_le (tgt := 148) hx hb dX4_step_104 (by decide) (fun h22 => ?_) (fun h22 => ?_)
    · replace hF := of_t h22 hF
      refine lv_aload_n hx hb dX4_step_148 rfl (lv_at hl 0 rfl) ?_
      obtain ⟨q23, hGq23, hF⟩ := of_bind hF
      refine callVi (As := []) (rest := []) (wr := []) (WN := wm_X4_step cI cZ cO w_h ow20) ⟨hx, hb, hml, hown, hts⟩ hK hP hD hS hA [0] [] [0] (c_X4_apart l D cI cZ cO w_h _ ow20 q23 hGq23) (cwV 0 hts (gV wd_313 wd_314 wd_315 wd_36 wd_316) rfl rfl rfl (by decide +kernel) ⟨Nat.le_of_ble_eq_true rfl, Nat.le_of_ble_eq_true rfl⟩) 0 4 rfl rfl rfl rfl rfl rfl rfl (by decide) rfl rfl rfl hl.1 rfl (Nat.le_of_ble_eq_true rfl) dX4_step_149 ⟨Nat.zero_le _, Nat.zero_le _⟩ (fun H locs hP hD hS => ?_)
      refine lv_aload_n hx hb dX4_step_152 rfl (lv_at hl 0 rfl) ?_
      refine va_get (D := D) (ci := 4) (v := .int (ow20 5 0)) (C := RX4) (T := TX4) (N := 16) hx hb hts in_X4 hown hK hP 0 rfl rfl 5 (by decide) (hts _ wd_119) (fun _ h9 => h9) rfl dX4_step_153 ?_
      refine lv_icmp_le (tgt := 178) hx hb dX4_step_156 (by decide) (fun h24 => ?_) (fun h24 => ?_)
      · replace hF := of_t h24 hF
        refine lv_aload_n hx hb dX4_step_178 rfl (lv_at hl 0 rfl) ?_
        refine lv_dup hx hb dX4_step_179 rfl ?_
        refine va_get (D := D) (ci := 4) (v := .int (ow20 11 0)) (C := RX4) (T := TX4) (N := 16) hx hb hts in_X4 hown hK hP 0 rfl rfl 11 (by decide) (hts _ wd_127) (fun _ h9 => h9) rfl dX4_step_180 ?_
        refine lv_aload_n hx hb dX4_step_183 rfl (lv_at hl 0 rfl) ?_
        refine va_get (D := D) (ci := 4) (v := .int (ow20 4 0)) (C := RX4) (T := TX4) (N := 16) hx hb hts in_X4 hown hK hP 0 rfl rfl 4 (by decide) (hts _ wd_118) (fun _ h9 => h9) rfl dX4_step_184 ?_
        refine lv_iadd hx hb dX4_step_187 ?_
        refine lv_topi (fun v25 ev25 => ?_)
        replace hF := of_dd hF v25 ev25
        refine va_put (D := D) (ci := 4) (v := .int v25) (ty := .int) (C := RX4) (T := TX4) (N := 16) hx hb hts in_X4 tyX4 tyX4_ok nmX4 hown hK hP hD hS 0 rfl rfl 11 (by decide) (hts _ wd_127) (fun _ h9 => h9) rfl (tyX4_ok 11 (by decide)) rfl rfl (Nat.le_of_ble_eq_true rfl) dX4_step_188 (fun H locs hP hD hS => ?_)
        obtain ⟨ow26, hF, hP, hD⟩ := nm_o (P := fun y => va_P D vwCl (wm_X4_step cI cZ cO w_h y) _) (B := fun y => va_D A (wm_X4_step cI cZ cO w_h y)) hF hP hD
        refine lv_aload_n hx hb dX4_step_191 rfl (lv_at hl 0 rfl) ?_
        refine lv_bipush (v := 115) hx hb dX4_step_192 (by decide) ?_
        refine va_put (D := D) (ci := 4) (v := .int 115) (ty := .char) (C := RX4) (T := TX4) (N := 16) hx hb hts in_X4 tyX4 tyX4_ok nmX4 hown hK hP hD hS 0 rfl rfl 14 (by decide) (hts _ wd_133) (fun _ h9 => h9) rfl (tyX4_ok 14 (by decide)) rfl rfl (Nat.le_of_ble_eq_true rfl) dX4_step_194 (fun H locs hP hD hS => ?_)
        obtain ⟨ow27, hF, hP, hD⟩ := nm_o (P := fun y => va_P D vwCl (wm_X4_step cI cZ cO w_h y) _) (B := fun y => va_D A (wm_X4_step cI cZ cO w_h y)) hF hP hD
        exact hQ _ _ _ _ ow27 (Option.some.inj hF) hP hD hS dX4_step_197
      · replace hF := of_f h24 hF
        refine lv_aload_n hx hb dX4_step_159 rfl (lv_at hl 0 rfl) ?_
        refine lv_dup hx hb dX4_step_160 rfl ?_
        refine va_get (D := D) (ci := 4) (v := .int (ow20 12 0)) (C := RX4) (T := TX4) (N := 16) hx hb hts in_X4 hown hK hP 0 rfl rfl 12 (by decide) (hts _ wd_129) (fun _ h9 => h9) rfl dX4_step_161 ?_
        refine lv_iconst (v := 1) hx hb dX4_step_164 (by decide) ?_
        refine lv_iadd hx hb dX4_step_165 ?_
        refine lv_topi (fun v28 ev28 => ?_)
        replace hF := of_dd hF v28 ev28
        refine va_put (D := D) (ci := 4) (v := .int v28) (ty := .int) (C := RX4) (T := TX4) (N := 16) hx hb hts in_X4 tyX4 tyX4_ok nmX4 hown hK hP hD hS 0 rfl rfl 12 (by decide) (hts _ wd_129) (fun _ h9 => h9) rfl (tyX4_ok 12 (by decide)) rfl rfl (Nat.le_of_ble_eq_true rfl) dX4_step_166 (fun H locs hP hD hS => ?_)
        obtain ⟨ow29, hF, hP, hD⟩ := nm_o (P := fun y => va_P D vwCl (wm_X4_step cI cZ cO w_h y) _) (B := fun y => va_D A (wm_X4_step cI cZ cO w_h y)) hF hP hD
        refine lv_aload_n hx hb dX4_step_169 rfl (lv_at hl 0 rfl) ?_
        refine lv_bipush (v := 108) hx hb dX4_step_170 (by decide) ?_
        refine va_put (D := D) (ci := 4) (v := .int 108) (ty := .char) (C := RX4) (T := TX4) (N := 16) hx hb hts in_X4 tyX4 tyX4_ok nmX4 hown hK hP hD hS 0 rfl rfl 14 (by decide) (hts _ wd_133) (fun _ h9 => h9) rfl (tyX4_ok 14 (by decide)) rfl rfl (Nat.le_of_ble_eq_true rfl) dX4_step_172 (fun H locs hP hD hS => ?_)
        obtain ⟨ow30, hF, hP, hD⟩ := nm_o (P := fun y => va_P D vwCl (wm_X4_step cI cZ cO w_h y) _) (B := fun y => va_D A (wm_X4_step cI cZ cO w_h y)) hF hP hD
        refine lv_goto (tgt := 197) hx hb dX4_step_175 (by decide) ?_
        exact hQ _ _ _ _ ow30 (Option.some.inj hF) hP hD hS dX4_step_197
    · replace hF := of_f h22 hF
      refine lv_aload_n hx hb dX4_step_107 rfl (lv_at hl 0 rfl) ?_
      refine lv_dup hx hb dX4_step_108 rfl ?_
      refine va_get (D := D) (ci := 4) (v := .int (ow20 13 0)) (C := RX4) (T := TX4) (N := 16) hx hb hts in_X4 hown hK hP 0 rfl rfl 13 (by decide) (hts _ wd_131) (fun _ h9 => h9) rfl dX4_step_109 ?_
      refine lv_iconst (v := 1) hx hb dX4_step_112 (by decide) ?_
      refine lv_iadd hx hb dX4_step_113 ?_
      refine lv_topi (fun v31 ev31 => ?_)
      replace hF := of_dd hF v31 ev31
      refine va_put (D := D) (ci := 4) (v := .int v31) (ty := .int) (C := RX4) (T := TX4) (N := 16) hx hb hts in_X4 tyX4 tyX4_ok nmX4 hown hK hP hD hS 0 rfl rfl 13 (by decide) (hts _ wd_131) (fun _ h9 => h9) rfl (tyX4_ok 13 (by decide)) rfl rfl (Nat.le_of_ble_eq_true rfl) dX4_step_114 (fun H locs hP hD hS => ?_)
      obtain ⟨ow32, hF, hP, hD⟩ := nm_o (P := fun y => va_P D vwCl (wm_X4_step cI cZ cO w_h y) _) (B := fun y => va_D A (wm_X4_step cI cZ cO w_h y)) hF hP hD
      refine lv_aload_n hx hb dX4_step_117 rfl (lv_at hl 0 rfl) ?_
      refine lv_bipush (v := 102) hx hb dX4_step_118 (by decide) ?_
      refine va_put (D := D) (ci := 4) (v := .int 102) (ty := .char) (C := RX4) (T := TX4) (N := 16) hx hb hts in_X4 tyX4 tyX4_ok nmX4 hown hK hP hD hS 0 rfl rfl 14 (by decide) (hts _ wd_133) (fun _ h9 => h9) rfl (tyX4_ok 14 (by decide)) rfl rfl (Nat.le_of_ble_eq_true rfl) dX4_step_120 (fun H locs hP hD hS => ?_)
      obtain ⟨ow33, hF, hP, hD⟩ := nm_o (P := fun y => va_P D vwCl (wm_X4_step cI cZ cO w_h y) _) (B := fun y => va_D A (wm_X4_step cI cZ cO w_h y)) hF hP hD
      refine lv_aload_n hx hb dX4_step_123 rfl (lv_at hl 0 rfl) ?_
      refine lv_iload_n hx hb dX4_step_124 rfl (lv_at hl 1 rfl) ?_
      refine lv_iload_n hx hb dX4_step_125 rfl (lv_at hl 2 rfl) ?_
      refine va_mmax hx hb (hml.trans hl.1.symm) hown (hts _ wd_310) (hts _ wd_311) (hts _ wd_41) (hts _ wd_312) (Nat.le_of_ble_eq_true rfl) (Nat.le_of_ble_eq_true rfl) (Nat.zero_le _) (Nat.zero_le _) dX4_step_126 ?_
      refine lv_topi (fun v34 ev34 => ?_)
      replace hF := of_dd hF v34 ev34
      refine lv_aload_n hx hb dX4_step_129 rfl (lv_at hl 0 rfl) ?_
      refine va_get (D := D) (ci := 4) (v := .int (ow33 7 0)) (C := RX4) (T := TX4) (N := 16) hx hb hts in_X4 hown hK hP 0 rfl rfl 7 (by decide) (hts _ wd_122) (fun _ h9 => h9) rfl dX4_step_130 ?_
      refine lv_iadd hx hb dX4_step_133 ?_
      refine lv_topi (fun v35 ev35 => ?_)
      replace hF := of_dd hF v35 ev35
      refine va_put (D := D) (ci := 4) (v := .int v35) (ty := .int) (C := RX4) (T := TX4) (N := 16) hx hb hts in_X4 tyX4 tyX4_ok nmX4 hown hK hP hD hS 0 rfl rfl 8 (by decide) (hts _ wd_123) (fun _ h9 => h9) rfl (tyX4_ok 8 (by decide)) rfl rfl (Nat.le_of_ble_eq_true rfl) dX4_step_134 (fun H locs hP hD hS => ?_)
      obtain ⟨ow36, hF, hP, hD⟩ := nm_o (P := fun y => va_P D vwCl (wm_X4_step cI cZ cO w_h y) _) (B := fun y => va_D A (wm_X4_step cI cZ cO w_h y)) hF hP hD
      refine lv_aload_n hx hb dX4_step_137 rfl (lv_at hl 0 rfl) ?_
      refine lv_aload_n hx hb dX4_step_138 rfl (lv_at hl 0 rfl) ?_
      refine va_get (D := D) (ci := 4) (v := .int (ow36 8 0)) (C := RX4) (T := TX4) (N := 16) hx hb hts in_X4 hown hK hP 0 rfl rfl 8 (by decide) (hts _ wd_123) (fun _ h9 => h9) rfl dX4_step_139 ?_
      refine va_put (D := D) (ci := 4) (v := .int (ow36 8 0)) (ty := .int) (C := RX4) (T := TX4) (N := 16) hx hb hts in_X4 tyX4 tyX4_ok nmX4 hown hK hP hD hS 0 rfl rfl 9 (by decide) (hts _ wd_124) (fun _ h9 => h9) rfl (tyX4_ok 9 (by decide)) rfl rfl (Nat.le_of_ble_eq_true rfl) dX4_step_142 (fun H locs hP hD hS => ?_)
      obtain ⟨ow37, hF, hP, hD⟩ := nm_o (P := fun y => va_P D vwCl (wm_X4_step cI cZ cO w_h y) _) (B := fun y => va_D A (wm_X4_step cI cZ cO w_h y)) hF hP hD
      refine lv_goto (tgt := 197) hx hb dX4_step_145 (by decide) ?_
      exact hQ _ _ _ _ ow37 (Option.some.inj hF) hP hD hS dX4_step_197
  refine lv_icmp_ge (tgt := 82) hx hb dX4_step_75 (by decide) (fun h38 => ?_) (fun h38 => ?_)
  · replace hF := of_t h38 hF
    refine lv_iconst (v := 0) hx hb dX4_step_82 (by decide) ?_
    exact hK15 0 ls _ _ (lv_sub hl [2, 1, 0] rfl) hP hD hS hF
  · replace hF := of_f h38 hF
    refine lv_iconst (v := 1) hx hb dX4_step_78 (by decide) ?_
    refine lv_goto (tgt := 83) hx hb dX4_step_79 (by decide) ?_
    exact hK15 1 ls _ _ (lv_sub hl [2, 1, 0] rfl) hP hD hS hF
/-! ### ThreeLegs$Walk.timeTo(II)I -/
abbrev wm_X4_timeTo (cI cZ cO : ClassId) (w_h : Nat) (ow : Ob) : va_W := [(w_h, .inr (4, [.int (ow 0 0), .int (ow 1 0), .int (ow 2 0), .int (ow 3 0), .int (ow 4 0), .int (ow 5 0), .int (ow 6 0), .int (ow 7 0), .int (ow 8 0), .int (ow 9 0), .int (ow 10 0), .int (ow 11 0), .int (ow 12 0), .int (ow 13 0), .int (ow 14 0), .int (ow 15 0)]))]
def L_X4_timeTo_2 : Nat → Int32 → Int32 → Int32 → Ob → (Ob → Option (Int32 × Ob)) → Option (Int32 × Ob)
  | 0, _, _, _, _, _ => none
  | n7 + 1, p0, p1, v4, ow5, K1 =>
    (if 999 ≤ v4 then some ((-6), ow5) else jn (fun (ow10 : Ob) => (F_X4_step ow10).bind (fun q11 => (if (q11 11 0) < p0 then dd (v4 + 1) (fun (v13 : Int32) => L_X4_timeTo_2 n7 p0 p1 v13 q11 K1) else K1 q11))) (fun (K9 : Ob → Option (Int32 × Ob)) => (if v4 = p1 then (F_X4_speedUp ow5).bind (fun q15 => K9 q15) else K9 ow5)))
def F_X4_timeTo (ow : Ob) (p0 : Int32) (p1 : Int32) : Option (Int32 × Ob) :=
  jn (fun (ow2 : Ob) => (F_X4_time ow2).bind (fun q3 => some (q3, ow2))) (fun (K1 : Ob → Option (Int32 × Ob)) => L_X4_timeTo_2 2000 p0 p1 0 ow K1)
abbrev rm_X4_timeTo : Room := { frames := 3, cells := 0, slots := 0, locals := 63 }
abbrev wu_X4_timeTo : List Cond := .code yX4_timeTo cX4_timeTo 4 (some .int) :: lwG
set_option maxHeartbeats 20000000 in
set_option maxRecDepth 100000 in
theorem c_X4_timeTo (l : Launch) (D : va_G) (cI cZ cO : ClassId) (w_h : Nat) (sz : Nat) (ow : Ob) (p0 : Int32) (p1 : Int32) (q : Int32 × Ob) (hF : F_X4_timeTo ow p0 p1 = some q) : CtI l yX4_timeTo wu_X4_timeTo rm_X4_timeTo D vwCl (tyL cI cZ cO) [.ref w_h, .int p0, .int p1] (wm_X4_timeTo cI cZ cO w_h ow) sz 0 0 (fun (r : Int32) (u : Ob) => r = q.1 ∧ u = q.2) (fun u => wm_X4_timeTo cI cZ cO w_h u) := by
  refine mk_i (cc := cX4_timeTo) (maxL := 4) (by decide) rfl (Nat.le_of_ble_eq_true rfl) ?_
  intro p e s m args below meth c A ls Q hx hb hml hown hts hin hK hP hD hS hA hl hQ
  have hl : lv_has ls 4 [(0, .ref w_h), (1, .int p0), (2, .int p1)] := hl
  unfold F_X4_timeTo at hF
  refine lv_iconst (v := 0) hx hb dX4_timeTo_0 (by decide) ?_
  refine lv_istore_n (lv' := [(3, .int 0), (0, .ref w_h), (1, .int p0), (2, .int p1)]) hx hb dX4_timeTo_1 rfl hl (by decide) rfl (fun ls hl => ?_)
  obtain ⟨K1, eK1, hF⟩ := of_jn hF
  have hK1 : ∀ (ow2 : Ob) (ls : Array Slot) (H : Heap) (locs : List Loc), lv_has ls 4 [(0, .ref w_h)] → va_P D vwCl (wm_X4_timeTo cI cZ cO w_h ow2) H → va_D A (wm_X4_timeTo cI cZ cO w_h ow2) → va_S A s.heap H locs → K1 ow2 = some q → W p l e rm_X4_timeTo s m args below meth c H locs 0 0 Q (F0 m 30 ls []) := by
    intro ow2 ls H locs hl hP hD hS hF
    subst eK1
    refine lv_aload_n hx hb dX4_timeTo_30 rfl (lv_at hl 0 rfl) ?_
    obtain ⟨q3, hGq3, hF⟩ := of_bind hF
    refine callVi (As := []) (rest := []) (wr := []) (WN := wm_X4_timeTo cI cZ cO w_h ow2) ⟨hx, hb, hml, hown, hts⟩ hK hP hD hS hA [0] [] [0] (c_X4_time l D cI cZ cO w_h _ ow2 q3 hGq3) (cwV 0 hts (gV wd_349 wd_321 wd_322 wd_36 wd_323) rfl rfl rfl (by decide +kernel) ⟨Nat.le_of_ble_eq_true rfl, Nat.le_of_ble_eq_true rfl⟩) 0 4 rfl rfl rfl rfl rfl rfl rfl (by decide) rfl rfl rfl hl.1 rfl (Nat.le_of_ble_eq_true rfl) dX4_timeTo_31 ⟨Nat.zero_le _, Nat.zero_le _⟩ (fun H locs hP hD hS => ?_)
    exact hQ _ _ _ _ _ ow2 ⟨congrArg Prod.fst (Option.some.inj hF), congrArg Prod.snd (Option.some.inj hF)⟩ hP hD hS dX4_timeTo_34
  have hloop16 : ∀ (n7 : Nat) (v4 : Int32) (ow5 : Ob) (ls : Array Slot) (H : Heap) (locs : List Loc), lv_has ls 4 [(0, .ref w_h), (1, .int p0), (2, .int p1), (3, .int v4)] → va_P D vwCl (wm_X4_timeTo cI cZ cO w_h ow5) H → va_D A (wm_X4_timeTo cI cZ cO w_h ow5) → va_S A s.heap H locs → L_X4_timeTo_2 n7 p0 p1 v4 ow5 K1 = some q → W p l e rm_X4_timeTo s m args below meth c H locs 0 0 Q (F0 m 2 ls []) := by
    intro n7
    induction n7 with
    | zero =>
      intro v4 ow5 ls H locs hl hP hD hS hF
      exact of_none hF
    | succ n7 ih6 =>
      intro v4 ow5 ls H locs hl hP hD hS hF
      rw [L_X4_timeTo_2.eq_2] at hF
      refine lv_iload_n hx hb dX4_timeTo_2 rfl (lv_at hl 3 rfl) ?_
      refine lv_sipush (v := 999) hx hb dX4_timeTo_3 (by decide) ?_
      refine lv_icmp_ge (tgt := 41) hx hb dX4_timeTo_6 (by decide) (fun h8 => ?_) (fun h8 => ?_)
      · replace hF := of_t h8 hF
        refine lv_bipush (v := (-6)) hx hb dX4_timeTo_41 (by decide) ?_
        exact hQ _ _ _ _ _ ow5 ⟨congrArg Prod.fst (Option.some.inj hF), congrArg Prod.snd (Option.some.inj hF)⟩ hP hD hS dX4_timeTo_43
      · replace hF := of_f h8 hF
        refine lv_iload_n hx hb dX4_timeTo_9 rfl (lv_at hl 3 rfl) ?_
        refine lv_iload_n hx hb dX4_timeTo_10 rfl (lv_at hl 2 rfl) ?_
        obtain ⟨K9, eK9, hF⟩ := of_jn hF
        have hK9 : ∀ (ow10 : Ob) (ls : Array Slot) (H : Heap) (locs : List Loc), lv_has ls 4 [(0, .ref w_h), (1, .int p0), (2, .int p1), (3, .int v4)] → va_P D vwCl (wm_X4_timeTo cI cZ cO w_h ow10) H → va_D A (wm_X4_timeTo cI cZ cO w_h ow10) → va_S A s.heap H locs → K9 ow10 = some q → W p l e rm_X4_timeTo s m args below meth c H locs 0 0 Q (F0 m 18 ls []) := by
          intro ow10 ls H locs hl hP hD hS hF
          subst eK9
          refine lv_aload_n hx hb dX4_timeTo_18 rfl (lv_at hl 0 rfl) ?_
          obtain ⟨q11, hGq11, hF⟩ := of_bind hF
          refine callVv (As := []) (rest := []) (wr := []) (WN := wm_X4_timeTo cI cZ cO w_h q11) ⟨hx, hb, hml, hown, hts⟩ hK hP hD hS hA [0] [] [0] (c_X4_step l D cI cZ cO w_h _ ow10 q11 hGq11) (cwV 0 hts (gV wd_348 wd_307 wd_308 wd_36 wd_309) rfl rfl rfl (by decide +kernel) ⟨Nat.le_of_ble_eq_true rfl, Nat.le_of_ble_eq_true rfl⟩) 0 4 rfl rfl rfl rfl rfl rfl rfl (by decide) rfl rfl rfl hl.1 rfl (Nat.le_of_ble_eq_true rfl) dX4_timeTo_19 ⟨Nat.zero_le _, Nat.zero_le _⟩ (fun H locs hP hD hS => ?_)
          refine lv_aload_n hx hb dX4_timeTo_22 rfl (lv_at hl 0 rfl) ?_
          refine va_get (D := D) (ci := 4) (v := .int (q11 11 0)) (C := RX4) (T := TX4) (N := 16) hx hb hts in_X4 hown hK hP 0 rfl rfl 11 (by decide) (hts _ wd_127) (fun _ h9 => h9) rfl dX4_timeTo_23 ?_
          refine lv_iload_n hx hb dX4_timeTo_26 rfl (lv_at hl 1 rfl) ?_
          refine lv_icmp_lt (tgt := 35) hx hb dX4_timeTo_27 (by decide) (fun h12 => ?_) (fun h12 => ?_)
          · replace hF := of_t h12 hF
            obtain ⟨v13, ev13⟩ : ∃ y : Int32, y = v4 + 1 := ⟨_, rfl⟩
            replace hF := of_dd hF v13 ev13
            refine lv_iinc (v := v13) (lv' := [(3, .int v13), (0, .ref w_h), (1, .int p0), (2, .int p1)]) hx hb dX4_timeTo_35 hl (k := 3) rfl (by rw [ev13]; rfl) (by decide) rfl (fun ls hl => ?_)
            refine lv_goto (tgt := 2) hx hb dX4_timeTo_38 (by decide) ?_
            exact ih6 v13 q11 ls _ _ (lv_sub hl [1, 2, 3, 0] rfl) hP hD hS hF
          · replace hF := of_f h12 hF
            exact hK1 q11 ls _ _ (lv_sub hl [0] rfl) hP hD hS hF
        refine lv_icmp_ne (tgt := 18) hx hb dX4_timeTo_11 (by decide) (fun h14 => ?_) (fun h14 => ?_)
        · replace hF := of_f h14 hF
          exact hK9 ow5 ls _ _ (lv_sub hl [0, 1, 2, 3] rfl) hP hD hS hF
        · replace hF := of_t h14 hF
          refine lv_aload_n hx hb dX4_timeTo_14 rfl (lv_at hl 0 rfl) ?_
          obtain ⟨q15, hGq15, hF⟩ := of_bind hF
          refine callVv (As := []) (rest := []) (wr := []) (WN := wm_X4_timeTo cI cZ cO w_h q15) ⟨hx, hb, hml, hown, hts⟩ hK hP hD hS hA [0] [] [0] (c_X4_speedUp l D cI cZ cO w_h _ ow5 q15 hGq15) (cwV 0 hts (gV wd_344 wd_346 wd_5 wd_36 wd_347) rfl rfl rfl (by decide +kernel) ⟨Nat.le_of_ble_eq_true rfl, Nat.le_of_ble_eq_true rfl⟩) 0 4 rfl rfl rfl rfl rfl rfl rfl (by decide) rfl rfl rfl hl.1 rfl (Nat.le_of_ble_eq_true rfl) dX4_timeTo_15 ⟨Nat.zero_le _, Nat.zero_le _⟩ (fun H locs hP hD hS => ?_)
          exact hK9 q15 ls _ _ (lv_sub hl [0, 1, 2, 3] rfl) hP hD hS hF
  exact hloop16 2000 0 ow ls _ _ (lv_sub hl [1, 2, 3, 0] rfl) hP hD hS hF
end
