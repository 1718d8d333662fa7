section
-- ===== PART A: goes FIRST, ahead of the names: the tables' words, and 'selects' of the private methods out of them =====
/-- a private method of a class that the tables say can be made, by its rows of tables_1 -/
def lw_okq (q : MethodName × Nat) : Prop := (q.1.cls ≠ "java/lang/invoke/MethodHandle" ∧ q.1.cls ≠ "java/lang/invoke/VarHandle") ∧ Cond.instantiable q.1.cls q.2 ∈ tables_1 ∧ Cond.privateMethod q.1 ∈ tables_1 ∧ Cond.instanceMethod q.1 ∈ tables_1
theorem lw_p0 : lw_okq (⟨"ThreeLegs", "setLurch", "(I)I"⟩, 8) := ⟨⟨by decide +kernel, by decide +kernel⟩, List.mem_of_getElem? (i := 12) (by decide +kernel), List.mem_of_getElem? (i := 247) (by decide +kernel), List.mem_of_getElem? (i := 248) (by decide +kernel)⟩
theorem lw_p1 : lw_okq (⟨"ThreeLegs", "setFall", "(I)I"⟩, 8) := ⟨⟨by decide +kernel, by decide +kernel⟩, List.mem_of_getElem? (i := 12) (by decide +kernel), List.mem_of_getElem? (i := 251) (by decide +kernel), List.mem_of_getElem? (i := 252) (by decide +kernel)⟩
theorem lw_p2 : lw_okq (⟨"ThreeLegs", "setUp", "(I)I"⟩, 8) := ⟨⟨by decide +kernel, by decide +kernel⟩, List.mem_of_getElem? (i := 12) (by decide +kernel), List.mem_of_getElem? (i := 255) (by decide +kernel), List.mem_of_getElem? (i := 256) (by decide +kernel)⟩
theorem lw_p3 : lw_okq (⟨"ThreeLegs", "refusalOfRace", "(IIII)I"⟩, 8) := ⟨⟨by decide +kernel, by decide +kernel⟩, List.mem_of_getElem? (i := 12) (by decide +kernel), List.mem_of_getElem? (i := 298) (by decide +kernel), List.mem_of_getElem? (i := 299) (by decide +kernel)⟩
theorem lw_p4 : lw_okq (⟨"ThreeLegs", "timeTo", "(III)I"⟩, 8) := ⟨⟨by decide +kernel, by decide +kernel⟩, List.mem_of_getElem? (i := 12) (by decide +kernel), List.mem_of_getElem? (i := 305) (by decide +kernel), List.mem_of_getElem? (i := 306) (by decide +kernel)⟩
theorem lw_p5 : lw_okq (⟨"ThreeLegs$Walk", "speedUp", "()V"⟩, 16) := ⟨⟨by decide +kernel, by decide +kernel⟩, List.mem_of_getElem? (i := 77) (by decide +kernel), List.mem_of_getElem? (i := 313) (by decide +kernel), List.mem_of_getElem? (i := 314) (by decide +kernel)⟩
theorem lw_p6 : lw_okq (⟨"ThreeLegs", "timeAllPairs", "(I)V"⟩, 8) := ⟨⟨by decide +kernel, by decide +kernel⟩, List.mem_of_getElem? (i := 12) (by decide +kernel), List.mem_of_getElem? (i := 335) (by decide +kernel), List.mem_of_getElem? (i := 336) (by decide +kernel)⟩
theorem lw_p7 : lw_okq (⟨"ThreeLegs$Knots", "costOfPicks", "(LThreeLegs$Crowd;[IZ)I"⟩, 6) := ⟨⟨by decide +kernel, by decide +kernel⟩, List.mem_of_getElem? (i := 139) (by decide +kernel), List.mem_of_getElem? (i := 345) (by decide +kernel), List.mem_of_getElem? (i := 346) (by decide +kernel)⟩
theorem lw_p8 : lw_okq (⟨"ThreeLegs$Knots", "lineUp", "(LThreeLegs$Crowd;)I"⟩, 6) := ⟨⟨by decide +kernel, by decide +kernel⟩, List.mem_of_getElem? (i := 139) (by decide +kernel), List.mem_of_getElem? (i := 349) (by decide +kernel), List.mem_of_getElem? (i := 350) (by decide +kernel)⟩
theorem lw_p9 : lw_okq (⟨"ThreeLegs$Knots", "takeOut", "(II)V"⟩, 6) := ⟨⟨by decide +kernel, by decide +kernel⟩, List.mem_of_getElem? (i := 139) (by decide +kernel), List.mem_of_getElem? (i := 356) (by decide +kernel), List.mem_of_getElem? (i := 357) (by decide +kernel)⟩
theorem lw_p10 : lw_okq (⟨"ThreeLegs$Knots", "goToNextPicks", "()Z"⟩, 6) := ⟨⟨by decide +kernel, by decide +kernel⟩, List.mem_of_getElem? (i := 139) (by decide +kernel), List.mem_of_getElem? (i := 363) (by decide +kernel), List.mem_of_getElem? (i := 364) (by decide +kernel)⟩
theorem lw_p11 : lw_okq (⟨"ThreeLegs", "standsWith", "(IIIII)Z"⟩, 8) := ⟨⟨by decide +kernel, by decide +kernel⟩, List.mem_of_getElem? (i := 12) (by decide +kernel), List.mem_of_getElem? (i := 403) (by decide +kernel), List.mem_of_getElem? (i := 404) (by decide +kernel)⟩
theorem lw_p12 : lw_okq (⟨"ThreeLegs", "firstUnlike", "(II)I"⟩, 8) := ⟨⟨by decide +kernel, by decide +kernel⟩, List.mem_of_getElem? (i := 12) (by decide +kernel), List.mem_of_getElem? (i := 444) (by decide +kernel), List.mem_of_getElem? (i := 445) (by decide +kernel)⟩
theorem lw_p13 : lw_okq (⟨"ThreeLegs", "toldOfPerson", "(II)I"⟩, 8) := ⟨⟨by decide +kernel, by decide +kernel⟩, List.mem_of_getElem? (i := 12) (by decide +kernel), List.mem_of_getElem? (i := 478) (by decide +kernel), List.mem_of_getElem? (i := 479) (by decide +kernel)⟩
theorem lw_p14 : lw_okq (⟨"ThreeLegsModel", "runs", "(I)Z"⟩, 33) := ⟨⟨by decide +kernel, by decide +kernel⟩, List.mem_of_getElem? (i := 482) (by decide +kernel), List.mem_of_getElem? (i := 606) (by decide +kernel), List.mem_of_getElem? (i := 607) (by decide +kernel)⟩
theorem lw_p15 : lw_okq (⟨"ThreeLegsModel", "isPair", "(II)Z"⟩, 33) := ⟨⟨by decide +kernel, by decide +kernel⟩, List.mem_of_getElem? (i := 482) (by decide +kernel), List.mem_of_getElem? (i := 619) (by decide +kernel), List.mem_of_getElem? (i := 620) (by decide +kernel)⟩
def lw_privs_1 : List (MethodName × Nat) := [(⟨"ThreeLegs", "setLurch", "(I)I"⟩, 8), (⟨"ThreeLegs", "setFall", "(I)I"⟩, 8), (⟨"ThreeLegs", "setUp", "(I)I"⟩, 8), (⟨"ThreeLegs", "refusalOfRace", "(IIII)I"⟩, 8), (⟨"ThreeLegs", "timeTo", "(III)I"⟩, 8), (⟨"ThreeLegs$Walk", "speedUp", "()V"⟩, 16), (⟨"ThreeLegs", "timeAllPairs", "(I)V"⟩, 8), (⟨"ThreeLegs$Knots", "costOfPicks", "(LThreeLegs$Crowd;[IZ)I"⟩, 6), (⟨"ThreeLegs$Knots", "lineUp", "(LThreeLegs$Crowd;)I"⟩, 6), (⟨"ThreeLegs$Knots", "takeOut", "(II)V"⟩, 6), (⟨"ThreeLegs$Knots", "goToNextPicks", "()Z"⟩, 6), (⟨"ThreeLegs", "standsWith", "(IIIII)Z"⟩, 8), (⟨"ThreeLegs", "firstUnlike", "(II)I"⟩, 8), (⟨"ThreeLegs", "toldOfPerson", "(II)I"⟩, 8), (⟨"ThreeLegsModel", "runs", "(I)Z"⟩, 33), (⟨"ThreeLegsModel", "isPair", "(II)Z"⟩, 33)]
theorem lw_r1 : ∀ q ∈ lw_privs_1, lw_okq q := List.forall_mem_cons.mpr ⟨lw_p0, List.forall_mem_cons.mpr ⟨lw_p1, List.forall_mem_cons.mpr ⟨lw_p2, List.forall_mem_cons.mpr ⟨lw_p3, List.forall_mem_cons.mpr ⟨lw_p4, List.forall_mem_cons.mpr ⟨lw_p5, List.forall_mem_cons.mpr ⟨lw_p6, List.forall_mem_cons.mpr ⟨lw_p7, List.forall_mem_cons.mpr ⟨lw_p8, List.forall_mem_cons.mpr ⟨lw_p9, List.forall_mem_cons.mpr ⟨lw_p10, List.forall_mem_cons.mpr ⟨lw_p11, List.forall_mem_cons.mpr ⟨lw_p12, List.forall_mem_cons.mpr ⟨lw_p13, List.forall_mem_cons.mpr ⟨lw_p14, List.forall_mem_cons.mpr ⟨lw_p15, fun _ h => absurd h List.not_mem_nil⟩⟩⟩⟩⟩⟩⟩⟩⟩⟩⟩⟩⟩⟩⟩⟩
theorem lw_p16 : lw_okq (⟨"ThreeLegsModel", "layPair", "(II)V"⟩, 33) := ⟨⟨by decide +kernel, by decide +kernel⟩, List.mem_of_getElem? (i := 482) (by decide +kernel), List.mem_of_getElem? (i := 624) (by decide +kernel), List.mem_of_getElem? (i := 625) (by decide +kernel)⟩
theorem lw_p17 : lw_okq (⟨"ThreeLegsModel", "begin", "()V"⟩, 33) := ⟨⟨by decide +kernel, by decide +kernel⟩, List.mem_of_getElem? (i := 482) (by decide +kernel), List.mem_of_getElem? (i := 628) (by decide +kernel), List.mem_of_getElem? (i := 629) (by decide +kernel)⟩
theorem lw_p18 : lw_okq (⟨"ThreeLegsModel", "step", "()V"⟩, 33) := ⟨⟨by decide +kernel, by decide +kernel⟩, List.mem_of_getElem? (i := 482) (by decide +kernel), List.mem_of_getElem? (i := 632) (by decide +kernel), List.mem_of_getElem? (i := 633) (by decide +kernel)⟩
theorem lw_p19 : lw_okq (⟨"ThreeLegsModel", "quicker", "(I)I"⟩, 33) := ⟨⟨by decide +kernel, by decide +kernel⟩, List.mem_of_getElem? (i := 482) (by decide +kernel), List.mem_of_getElem? (i := 636) (by decide +kernel), List.mem_of_getElem? (i := 637) (by decide +kernel)⟩
theorem lw_p20 : lw_okq (⟨"ThreeLegsModel", "time", "()I"⟩, 33) := ⟨⟨by decide +kernel, by decide +kernel⟩, List.mem_of_getElem? (i := 482) (by decide +kernel), List.mem_of_getElem? (i := 643) (by decide +kernel), List.mem_of_getElem? (i := 644) (by decide +kernel)⟩
theorem lw_p21 : lw_okq (⟨"ThreeLegsModel", "timeOf", "(I)I"⟩, 33) := ⟨⟨by decide +kernel, by decide +kernel⟩, List.mem_of_getElem? (i := 482) (by decide +kernel), List.mem_of_getElem? (i := 654) (by decide +kernel), List.mem_of_getElem? (i := 655) (by decide +kernel)⟩
theorem lw_p22 : lw_okq (⟨"ThreeLegsModel", "findTimes", "(I)V"⟩, 33) := ⟨⟨by decide +kernel, by decide +kernel⟩, List.mem_of_getElem? (i := 482) (by decide +kernel), List.mem_of_getElem? (i := 671) (by decide +kernel), List.mem_of_getElem? (i := 672) (by decide +kernel)⟩
theorem lw_p23 : lw_okq (⟨"ThreeLegsModel", "tie", "(II)V"⟩, 33) := ⟨⟨by decide +kernel, by decide +kernel⟩, List.mem_of_getElem? (i := 482) (by decide +kernel), List.mem_of_getElem? (i := 676) (by decide +kernel), List.mem_of_getElem? (i := 677) (by decide +kernel)⟩
theorem lw_p24 : lw_okq (⟨"ThreeLegsModel", "tiedBy", "(I)I"⟩, 33) := ⟨⟨by decide +kernel, by decide +kernel⟩, List.mem_of_getElem? (i := 482) (by decide +kernel), List.mem_of_getElem? (i := 680) (by decide +kernel), List.mem_of_getElem? (i := 681) (by decide +kernel)⟩
theorem lw_p25 : lw_okq (⟨"ThreeLegsModel", "beginTries", "()V"⟩, 33) := ⟨⟨by decide +kernel, by decide +kernel⟩, List.mem_of_getElem? (i := 482) (by decide +kernel), List.mem_of_getElem? (i := 691) (by decide +kernel), List.mem_of_getElem? (i := 692) (by decide +kernel)⟩
theorem lw_p26 : lw_okq (⟨"ThreeLegsModel", "tryOne", "(II)V"⟩, 33) := ⟨⟨by decide +kernel, by decide +kernel⟩, List.mem_of_getElem? (i := 482) (by decide +kernel), List.mem_of_getElem? (i := 695) (by decide +kernel), List.mem_of_getElem? (i := 696) (by decide +kernel)⟩
theorem lw_p27 : lw_okq (⟨"ThreeLegsModel", "tellBest", "(I)I"⟩, 33) := ⟨⟨by decide +kernel, by decide +kernel⟩, List.mem_of_getElem? (i := 482) (by decide +kernel), List.mem_of_getElem? (i := 699) (by decide +kernel), List.mem_of_getElem? (i := 700) (by decide +kernel)⟩
theorem lw_p28 : lw_okq (⟨"ThreeLegsModel", "fallsIn", "(I)Z"⟩, 33) := ⟨⟨by decide +kernel, by decide +kernel⟩, List.mem_of_getElem? (i := 482) (by decide +kernel), List.mem_of_getElem? (i := 715) (by decide +kernel), List.mem_of_getElem? (i := 716) (by decide +kernel)⟩
theorem lw_p29 : lw_okq (⟨"ThreeLegsModel", "judged", "(II)I"⟩, 33) := ⟨⟨by decide +kernel, by decide +kernel⟩, List.mem_of_getElem? (i := 482) (by decide +kernel), List.mem_of_getElem? (i := 747) (by decide +kernel), List.mem_of_getElem? (i := 748) (by decide +kernel)⟩
theorem lw_p30 : lw_okq (⟨"ThreeLegsModel", "passAll", "()V"⟩, 33) := ⟨⟨by decide +kernel, by decide +kernel⟩, List.mem_of_getElem? (i := 482) (by decide +kernel), List.mem_of_getElem? (i := 768) (by decide +kernel), List.mem_of_getElem? (i := 769) (by decide +kernel)⟩
theorem lw_p31 : lw_okq (⟨"ThreeLegsModel", "pass", "(I)I"⟩, 33) := ⟨⟨by decide +kernel, by decide +kernel⟩, List.mem_of_getElem? (i := 482) (by decide +kernel), List.mem_of_getElem? (i := 772) (by decide +kernel), List.mem_of_getElem? (i := 773) (by decide +kernel)⟩
def lw_privs_2 : List (MethodName × Nat) := [(⟨"ThreeLegsModel", "layPair", "(II)V"⟩, 33), (⟨"ThreeLegsModel", "begin", "()V"⟩, 33), (⟨"ThreeLegsModel", "step", "()V"⟩, 33), (⟨"ThreeLegsModel", "quicker", "(I)I"⟩, 33), (⟨"ThreeLegsModel", "time", "()I"⟩, 33), (⟨"ThreeLegsModel", "timeOf", "(I)I"⟩, 33), (⟨"ThreeLegsModel", "findTimes", "(I)V"⟩, 33), (⟨"ThreeLegsModel", "tie", "(II)V"⟩, 33), (⟨"ThreeLegsModel", "tiedBy", "(I)I"⟩, 33), (⟨"ThreeLegsModel", "beginTries", "()V"⟩, 33), (⟨"ThreeLegsModel", "tryOne", "(II)V"⟩, 33), (⟨"ThreeLegsModel", "tellBest", "(I)I"⟩, 33), (⟨"ThreeLegsModel", "fallsIn", "(I)Z"⟩, 33), (⟨"ThreeLegsModel", "judged", "(II)I"⟩, 33), (⟨"ThreeLegsModel", "passAll", "()V"⟩, 33), (⟨"ThreeLegsModel", "pass", "(I)I"⟩, 33)]
theorem lw_r2 : ∀ q ∈ lw_privs_2, lw_okq q := List.forall_mem_cons.mpr ⟨lw_p16, List.forall_mem_cons.mpr ⟨lw_p17, List.forall_mem_cons.mpr ⟨lw_p18, List.forall_mem_cons.mpr ⟨lw_p19, List.forall_mem_cons.mpr ⟨lw_p20, List.forall_mem_cons.mpr ⟨lw_p21, List.forall_mem_cons.mpr ⟨lw_p22, List.forall_mem_cons.mpr ⟨lw_p23, List.forall_mem_cons.mpr ⟨lw_p24, List.forall_mem_cons.mpr ⟨lw_p25, List.forall_mem_cons.mpr ⟨lw_p26, List.forall_mem_cons.mpr ⟨lw_p27, List.forall_mem_cons.mpr ⟨lw_p28, List.forall_mem_cons.mpr ⟨lw_p29, List.forall_mem_cons.mpr ⟨lw_p30, List.forall_mem_cons.mpr ⟨lw_p31, fun _ h => absurd h List.not_mem_nil⟩⟩⟩⟩⟩⟩⟩⟩⟩⟩⟩⟩⟩⟩⟩⟩
def lw_privs : List (MethodName × Nat) := lw_privs_1 ++ (lw_privs_2)
def lw_tbl : List Cond := k2_sels lw_privs ++ tables_1
theorem lw_privs_ok : ∀ q ∈ lw_privs, lw_okq q := by
  show ∀ q ∈ lw_privs_1 ++ (lw_privs_2), lw_okq q
  exact List.forall_mem_append.mpr ⟨lw_r1, lw_r2⟩
end
section
/-! ===== BEGIN words of one list among another's, by their places ===== -/
theorem goodIn_r {big : List Cond} (ws : List Cond) (ps : List Nat) (hp : ws = ps.filterMap (fun i => big[i]?)) (h : ws.all goodWord = true) : GoodIn big ws := by
  intro w hw
  have h1 := List.all_eq_true.mp h w hw
  rw [hp] at hw
  obtain ⟨i, -, hi⟩ := List.mem_filterMap.mp hw
  have hm : w ∈ big := by first | exact List.mem_of_getElem? hi | exact List.getElem?_mem hi
  exact ⟨hm, good_of_word h1⟩
theorem goodIn_app {big a b : List Cond} (ha : GoodIn big a) (hb : GoodIn big b) : GoodIn big (a ++ b) := fun w h => (List.mem_append.mp h).elim (ha w) (hb w)
theorem goodIn_ca {big a b : List Cond} {c : Cond} (ha : GoodIn big (c :: a)) (hb : GoodIn big b) : GoodIn big (c :: (a ++ b)) := fun w h => (List.mem_cons.mp h).elim (fun e => ha w (List.mem_cons.mpr (Or.inl e))) (fun h => (List.mem_append.mp h).elim (fun h => ha w (List.mem_cons.mpr (Or.inr h))) (hb w))
theorem goodIn_sub {big ws : List Cond} (hm : ∀ w ∈ ws, w ∈ big) (h : ws.all goodWord = true) : GoodIn big ws := fun w hw => ⟨hm w hw, good_of_word (List.all_eq_true.mp h w hw)⟩
/-! ===== END ===== -/

/-! ===== BEGIN printed: names, fields, word lists, decode rows ===== -/
def RX0 : String := "ThreeLegs$Crowd"
def TX0 : u_T := fun k => match k with
  | 0 => ("ThreeLegs$Crowd", "runs", "[Z", true)
  | 1 => ("ThreeLegs$Crowd", "beat", "[I", true)
  | 2 => ("ThreeLegs$Crowd", "length", "[I", true)
  | 3 => ("ThreeLegs$Crowd", "give", "[I", true)
  | 4 => ("ThreeLegs$Crowd", "lurch", "I", false)
  | 5 => ("ThreeLegs$Crowd", "fall", "I", false)
  | _ => ("ThreeLegs$Crowd", "up", "I", false)
def tyX0 : Nat → FieldType := fun k => match k with
  | 0 => .array .boolean
  | 1 => .array .int
  | 2 => .array .int
  | 3 => .array .int
  | 4 => .int
  | 5 => .int
  | _ => .int
abbrev wsX00 : List Cond := u_ws RX0 TX0 7
theorem nmX0 : ∀ a, a < 7 → ∀ b, b < 7 → a ≠ b → (TX0 a).2.1 ≠ (TX0 b).2.1 := by decide +kernel
theorem tyX0_ok : ∀ k, k < 7 → parseFieldDescriptor (TX0 k).2.2.1 = some (tyX0 k) := by decide +kernel
abbrev cX0_init : ByteArray := prog_2_method_1_code
def yX0_init : MethodName := ⟨RX0, "<init>", "()V"⟩
abbrev cX0_hasRunner : ByteArray := prog_2_method_2_code
def yX0_hasRunner : MethodName := ⟨RX0, "hasRunner", "(I)Z"⟩
abbrev cX0_canTie : ByteArray := prog_2_method_3_code
def yX0_canTie : MethodName := ⟨RX0, "canTie", "(II)Z"⟩
abbrev cX0_enter : ByteArray := prog_2_method_4_code
def yX0_enter : MethodName := ⟨RX0, "enter", "(IIII)V"⟩
abbrev cX0_leave : ByteArray := prog_2_method_5_code
def yX0_leave : MethodName := ⟨RX0, "leave", "(I)V"⟩
abbrev cX0_count : ByteArray := prog_2_method_6_code
def yX0_count : MethodName := ⟨RX0, "count", "()I"⟩
abbrev cX0_bits : ByteArray := prog_2_method_7_code
def yX0_bits : MethodName := ⟨RX0, "bits", "()I"⟩
abbrev cX0_copyFrom : ByteArray := prog_2_method_8_code
def yX0_copyFrom : MethodName := ⟨RX0, "copyFrom", "(LThreeLegs$Crowd;)V"⟩
def RX1 : String := "ThreeLegs$Film"
def TX1 : u_T := fun k => match k with
  | 0 => ("ThreeLegs$Film", "signs", "[I", true)
  | _ => ("ThreeLegs$Film", "count", "I", false)
def tyX1 : Nat → FieldType := fun k => match k with
  | 0 => .array .int
  | _ => .int
abbrev wsX10 : List Cond := u_ws RX1 TX1 2
theorem nmX1 : ∀ a, a < 2 → ∀ b, b < 2 → a ≠ b → (TX1 a).2.1 ≠ (TX1 b).2.1 := by decide +kernel
theorem tyX1_ok : ∀ k, k < 2 → parseFieldDescriptor (TX1 k).2.2.1 = some (tyX1 k) := by decide +kernel
abbrev cX1_init : ByteArray := prog_3_method_1_code
def yX1_init : MethodName := ⟨RX1, "<init>", "()V"⟩
abbrev cX1_add : ByteArray := prog_3_method_2_code
def yX1_add : MethodName := ⟨RX1, "add", "(I)V"⟩
abbrev cX1_firstFault : ByteArray := prog_3_method_3_code
def yX1_firstFault : MethodName := ⟨RX1, "firstFault", "()I"⟩
abbrev cX1_canShow : ByteArray := prog_3_method_4_code
def yX1_canShow : MethodName := ⟨RX1, "canShow", "(IC)Z"⟩
def RX2 : String := "ThreeLegs$Knots"
def TX2 : u_T := fun k => match k with
  | 0 => ("ThreeLegs$Knots", "picks", "[I", true)
  | 1 => ("ThreeLegs$Knots", "free", "[I", true)
  | 2 => ("ThreeLegs$Knots", "mate", "[I", true)
  | 3 => ("ThreeLegs$Knots", "bestMate", "[I", true)
  | 4 => ("ThreeLegs$Knots", "people", "I", false)
  | _ => ("ThreeLegs$Knots", "least", "I", false)
def tyX2 : Nat → FieldType := fun k => match k with
  | 0 => .array .int
  | 1 => .array .int
  | 2 => .array .int
  | 3 => .array .int
  | 4 => .int
  | _ => .int
abbrev wsX20 : List Cond := u_ws RX2 TX2 6
theorem nmX2 : ∀ a, a < 6 → ∀ b, b < 6 → a ≠ b → (TX2 a).2.1 ≠ (TX2 b).2.1 := by decide +kernel
theorem tyX2_ok : ∀ k, k < 6 → parseFieldDescriptor (TX2 k).2.2.1 = some (tyX2 k) := by decide +kernel
abbrev cX2_init : ByteArray := prog_4_method_1_code
def yX2_init : MethodName := ⟨RX2, "<init>", "()V"⟩
abbrev cX2_seek : ByteArray := prog_4_method_2_code
def yX2_seek : MethodName := ⟨RX2, "seek", "(LThreeLegs$Crowd;[IZ)V"⟩
abbrev cX2_goToNextPicks : ByteArray := prog_4_method_3_code
def yX2_goToNextPicks : MethodName := ⟨RX2, "goToNextPicks", "()Z"⟩
abbrev cX2_costOfPicks : ByteArray := prog_4_method_4_code
def yX2_costOfPicks : MethodName := ⟨RX2, "costOfPicks", "(LThreeLegs$Crowd;[IZ)I"⟩
abbrev cX2_lineUp : ByteArray := prog_4_method_5_code
def yX2_lineUp : MethodName := ⟨RX2, "lineUp", "(LThreeLegs$Crowd;)I"⟩
abbrev cX2_takeOut : ByteArray := prog_4_method_6_code
def yX2_takeOut : MethodName := ⟨RX2, "takeOut", "(II)V"⟩
def RX3 : String := "ThreeLegs$Soonest"
def TX3 : u_T := fun k => match k with
  | 0 => ("ThreeLegs$Soonest", "time", "I", false)
  | _ => ("ThreeLegs$Soonest", "key", "I", false)
def tyX3 : Nat → FieldType := fun k => match k with
  | 0 => .int
  | _ => .int
abbrev wsX30 : List Cond := u_ws RX3 TX3 2
theorem nmX3 : ∀ a, a < 2 → ∀ b, b < 2 → a ≠ b → (TX3 a).2.1 ≠ (TX3 b).2.1 := by decide +kernel
theorem tyX3_ok : ∀ k, k < 2 → parseFieldDescriptor (TX3 k).2.2.1 = some (tyX3 k) := by decide +kernel
abbrev cX3_init : ByteArray := prog_5_method_1_code
def yX3_init : MethodName := ⟨RX3, "<init>", "()V"⟩
abbrev cX3_clear : ByteArray := prog_5_method_2_code
def yX3_clear : MethodName := ⟨RX3, "clear", "()V"⟩
abbrev cX3_offer : ByteArray := prog_5_method_3_code
def yX3_offer : MethodName := ⟨RX3, "offer", "(II)V"⟩
abbrev cX3_answer : ByteArray := prog_5_method_4_code
def yX3_answer : MethodName := ⟨RX3, "answer", "(I)I"⟩
def RX4 : String := "ThreeLegs$Walk"
def TX4 : u_T := fun k => match k with
  | 0 => ("ThreeLegs$Walk", "firstBeat", "I", false)
  | 1 => ("ThreeLegs$Walk", "otherBeat", "I", false)
  | 2 => ("ThreeLegs$Walk", "firstGive", "I", false)
  | 3 => ("ThreeLegs$Walk", "otherGive", "I", false)
  | 4 => ("ThreeLegs$Walk", "stride", "I", false)
  | 5 => ("ThreeLegs$Walk", "lurch", "I", false)
  | 6 => ("ThreeLegs$Walk", "fall", "I", false)
  | 7 => ("ThreeLegs$Walk", "up", "I", false)
  | 8 => ("ThreeLegs$Walk", "firstTime", "I", false)
  | 9 => ("ThreeLegs$Walk", "otherTime", "I", false)
  | 10 => ("ThreeLegs$Walk", "steps", "I", false)
  | 11 => ("ThreeLegs$Walk", "feet", "I", false)
  | 12 => ("ThreeLegs$Walk", "lurches", "I", false)
  | 13 => ("ThreeLegs$Walk", "falls", "I", false)
  | 14 => ("ThreeLegs$Walk", "sign", "C", false)
  | _ => ("ThreeLegs$Walk", "firstWasEarlier", "Z", false)
def tyX4 : Nat → FieldType := fun k => match k with
  | 0 => .int
  | 1 => .int
  | 2 => .int
  | 3 => .int
  | 4 => .int
  | 5 => .int
  | 6 => .int
  | 7 => .int
  | 8 => .int
  | 9 => .int
  | 10 => .int
  | 11 => .int
  | 12 => .int
  | 13 => .int
  | 14 => .char
  | _ => .boolean
abbrev wsX40 : List Cond := u_ws RX4 TX4 16
theorem nmX4 : ∀ a, a < 16 → ∀ b, b < 16 → a ≠ b → (TX4 a).2.1 ≠ (TX4 b).2.1 := by decide +kernel
theorem tyX4_ok : ∀ k, k < 16 → parseFieldDescriptor (TX4 k).2.2.1 = some (tyX4 k) := by decide +kernel
abbrev cX4_init : ByteArray := prog_6_method_1_code
def yX4_init : MethodName := ⟨RX4, "<init>", "()V"⟩
abbrev cX4_tie : ByteArray := prog_6_method_2_code
def yX4_tie : MethodName := ⟨RX4, "tie", "(LThreeLegs$Crowd;II)V"⟩
abbrev cX4_beatBoth : ByteArray := prog_6_method_3_code
def yX4_beatBoth : MethodName := ⟨RX4, "beatBoth", "(I)V"⟩
abbrev cX4_give : ByteArray := prog_6_method_4_code
def yX4_give : MethodName := ⟨RX4, "give", "(II)V"⟩
abbrev cX4_speedUp : ByteArray := prog_6_method_5_code
def yX4_speedUp : MethodName := ⟨RX4, "speedUp", "()V"⟩
abbrev cX4_time : ByteArray := prog_6_method_6_code
def yX4_time : MethodName := ⟨RX4, "time", "()I"⟩
abbrev cX4_apart : ByteArray := prog_6_method_7_code
def yX4_apart : MethodName := ⟨RX4, "apart", "()I"⟩
abbrev cX4_step : ByteArray := prog_6_method_8_code
def yX4_step : MethodName := ⟨RX4, "step", "()V"⟩
abbrev cX4_timeTo : ByteArray := prog_6_method_9_code
def yX4_timeTo : MethodName := ⟨RX4, "timeTo", "(II)I"⟩
abbrev cX4_standsFor : ByteArray := prog_6_method_10_code
def yX4_standsFor : MethodName := ⟨RX4, "standsFor", "(I)Z"⟩
abbrev cX4_feetWithin : ByteArray := prog_6_method_11_code
def yX4_feetWithin : MethodName := ⟨RX4, "feetWithin", "(I)I"⟩
def RX5 : String := "ThreeLegs"
def TX5 : u_T := fun k => match k with
  | 0 => ("ThreeLegs", "crowd", "LThreeLegs$Crowd;", true)
  | 1 => ("ThreeLegs", "images", "[LThreeLegs$Crowd;", true)
  | 2 => ("ThreeLegs", "isKept", "[Z", true)
  | 3 => ("ThreeLegs", "film", "LThreeLegs$Film;", true)
  | 4 => ("ThreeLegs", "walk", "LThreeLegs$Walk;", true)
  | 5 => ("ThreeLegs", "knots", "LThreeLegs$Knots;", true)
  | 6 => ("ThreeLegs", "soonest", "LThreeLegs$Soonest;", true)
  | _ => ("ThreeLegs", "times", "[I", true)
def tyX5 : Nat → FieldType := fun k => match k with
  | 0 => .object "ThreeLegs$Crowd"
  | 1 => .array (.object "ThreeLegs$Crowd")
  | 2 => .array .boolean
  | 3 => .object "ThreeLegs$Film"
  | 4 => .object "ThreeLegs$Walk"
  | 5 => .object "ThreeLegs$Knots"
  | 6 => .object "ThreeLegs$Soonest"
  | _ => .array .int
abbrev wsX50 : List Cond := u_ws RX5 TX5 8
theorem nmX5 : ∀ a, a < 8 → ∀ b, b < 8 → a ≠ b → (TX5 a).2.1 ≠ (TX5 b).2.1 := by decide +kernel
theorem tyX5_ok : ∀ k, k < 8 → parseFieldDescriptor (TX5 k).2.2.1 = some (tyX5 k) := by decide +kernel
abbrev cX5_init : ByteArray := prog_1_method_1_code
def yX5_init : MethodName := ⟨RX5, "<init>", "()V"⟩
abbrev cX5_run : ByteArray := prog_1_method_2_code
def yX5_run : MethodName := ⟨RX5, "run", "(IIII)I"⟩
abbrev cX5_rest : ByteArray := prog_1_method_3_code
def yX5_rest : MethodName := ⟨RX5, "rest", "(I)I"⟩
abbrev cX5_set : ByteArray := prog_1_method_4_code
def yX5_set : MethodName := ⟨RX5, "set", "(II)I"⟩
abbrev cX5_setLurch : ByteArray := prog_1_method_5_code
def yX5_setLurch : MethodName := ⟨RX5, "setLurch", "(I)I"⟩
abbrev cX5_setFall : ByteArray := prog_1_method_6_code
def yX5_setFall : MethodName := ⟨RX5, "setFall", "(I)I"⟩
abbrev cX5_setUp : ByteArray := prog_1_method_7_code
def yX5_setUp : MethodName := ⟨RX5, "setUp", "(I)I"⟩
abbrev cX5_pair : ByteArray := prog_1_method_8_code
def yX5_pair : MethodName := ⟨RX5, "pair", "(IIII)I"⟩
abbrev cX5_reach : ByteArray := prog_1_method_9_code
def yX5_reach : MethodName := ⟨RX5, "reach", "(IIII)I"⟩
abbrev cX5_who : ByteArray := prog_1_method_10_code
def yX5_who : MethodName := ⟨RX5, "who", "(III)I"⟩
abbrev cX5_alone : ByteArray := prog_1_method_11_code
def yX5_alone : MethodName := ⟨RX5, "alone", "(II)I"⟩
abbrev cX5_tied : ByteArray := prog_1_method_12_code
def yX5_tied : MethodName := ⟨RX5, "tied", "(III)I"⟩
abbrev cX5_call : ByteArray := prog_1_method_13_code
def yX5_call : MethodName := ⟨RX5, "call", "(IIII)I"⟩
abbrev cX5_quicken : ByteArray := prog_1_method_14_code
def yX5_quicken : MethodName := ⟨RX5, "quicken", "(IIII)I"⟩
abbrev cX5_yields : ByteArray := prog_1_method_15_code
def yX5_yields : MethodName := ⟨RX5, "yields", "(IIII)I"⟩
abbrev cX5_practice : ByteArray := prog_1_method_16_code
def yX5_practice : MethodName := ⟨RX5, "practice", "(IIII)I"⟩
abbrev cX5_standsWith : ByteArray := prog_1_method_17_code
def yX5_standsWith : MethodName := ⟨RX5, "standsWith", "(IIIII)Z"⟩
abbrev cX5_scarf : ByteArray := prog_1_method_18_code
def yX5_scarf : MethodName := ⟨RX5, "scarf", "(IIII)I"⟩
abbrev cX5_even : ByteArray := prog_1_method_19_code
def yX5_even : MethodName := ⟨RX5, "even", "(IIIII)I"⟩
abbrev cX5_say : ByteArray := prog_1_method_20_code
def yX5_say : MethodName := ⟨RX5, "say", "(I)I"⟩
abbrev cX5_wipe : ByteArray := prog_1_method_21_code
def yX5_wipe : MethodName := ⟨RX5, "wipe", "()I"⟩
abbrev cX5_fault : ByteArray := prog_1_method_22_code
def yX5_fault : MethodName := ⟨RX5, "fault", "()I"⟩
abbrev cX5_judge : ByteArray := prog_1_method_23_code
def yX5_judge : MethodName := ⟨RX5, "judge", "(II)I"⟩
abbrev cX5_fits : ByteArray := prog_1_method_24_code
def yX5_fits : MethodName := ⟨RX5, "fits", "(I)I"⟩
abbrev cX5_year : ByteArray := prog_1_method_25_code
def yX5_year : MethodName := ⟨RX5, "year", "(IIII)I"⟩
abbrev cX5_image : ByteArray := prog_1_method_26_code
def yX5_image : MethodName := ⟨RX5, "image", "(I)I"⟩
abbrev cX5_restore : ByteArray := prog_1_method_27_code
def yX5_restore : MethodName := ⟨RX5, "restore", "(I)I"⟩
abbrev cX5_told : ByteArray := prog_1_method_28_code
def yX5_told : MethodName := ⟨RX5, "told", "(I)I"⟩
abbrev cX5_toldOfPerson : ByteArray := prog_1_method_29_code
def yX5_toldOfPerson : MethodName := ⟨RX5, "toldOfPerson", "(II)I"⟩
abbrev cX5_isWithin : ByteArray := prog_1_method_30_code
def yX5_isWithin : MethodName := ⟨RX5, "isWithin", "(III)Z"⟩
abbrev cX5_isFeet : ByteArray := prog_1_method_31_code
def yX5_isFeet : MethodName := ⟨RX5, "isFeet", "(I)Z"⟩
abbrev cX5_refusalOfRace : ByteArray := prog_1_method_32_code
def yX5_refusalOfRace : MethodName := ⟨RX5, "refusalOfRace", "(IIII)I"⟩
abbrev cX5_timeTo : ByteArray := prog_1_method_33_code
def yX5_timeTo : MethodName := ⟨RX5, "timeTo", "(III)I"⟩
abbrev cX5_timeAllPairs : ByteArray := prog_1_method_34_code
def yX5_timeAllPairs : MethodName := ⟨RX5, "timeAllPairs", "(I)V"⟩
abbrev cX5_firstUnlike : ByteArray := prog_1_method_35_code
def yX5_firstUnlike : MethodName := ⟨RX5, "firstUnlike", "(II)I"⟩
def RX6 : String := "ThreeLegsModel"
def TX6 : u_T := fun k => match k with
  | 0 => ("ThreeLegsModel", "running", "I", false)
  | 1 => ("ThreeLegsModel", "beat", "[I", true)
  | 2 => ("ThreeLegsModel", "length", "[I", true)
  | 3 => ("ThreeLegsModel", "give", "[I", true)
  | 4 => ("ThreeLegsModel", "lurch", "I", false)
  | 5 => ("ThreeLegsModel", "fall", "I", false)
  | 6 => ("ThreeLegsModel", "up", "I", false)
  | 7 => ("ThreeLegsModel", "beatA", "I", false)
  | 8 => ("ThreeLegsModel", "beatB", "I", false)
  | 9 => ("ThreeLegsModel", "giveA", "I", false)
  | 10 => ("ThreeLegsModel", "giveB", "I", false)
  | 11 => ("ThreeLegsModel", "stride", "I", false)
  | 12 => ("ThreeLegsModel", "quickFrom", "I", false)
  | 13 => ("ThreeLegsModel", "tight", "I", false)
  | 14 => ("ThreeLegsModel", "timeA", "I", false)
  | 15 => ("ThreeLegsModel", "timeB", "I", false)
  | 16 => ("ThreeLegsModel", "feet", "I", false)
  | 17 => ("ThreeLegsModel", "lurches", "I", false)
  | 18 => ("ThreeLegsModel", "falls", "I", false)
  | 19 => ("ThreeLegsModel", "steps", "I", false)
  | 20 => ("ThreeLegsModel", "how", "I", false)
  | 21 => ("ThreeLegsModel", "earlier", "I", false)
  | 22 => ("ThreeLegsModel", "timeBy", "[I", true)
  | 23 => ("ThreeLegsModel", "with", "[I", true)
  | 24 => ("ThreeLegsModel", "bestWith", "[I", true)
  | 25 => ("ThreeLegsModel", "bestIs", "I", false)
  | 26 => ("ThreeLegsModel", "bestTime", "I", false)
  | 27 => ("ThreeLegsModel", "pad", "[I", true)
  | 28 => ("ThreeLegsModel", "padMany", "I", false)
  | 29 => ("ThreeLegsModel", "kept", "[I", true)
  | 30 => ("ThreeLegsModel", "isKept", "[Z", true)
  | 31 => ("ThreeLegsModel", "keptAt", "I", false)
  | _ => ("ThreeLegsModel", "isWriting", "Z", false)
def tyX6 : Nat → FieldType := fun k => match k with
  | 0 => .int
  | 1 => .array .int
  | 2 => .array .int
  | 3 => .array .int
  | 4 => .int
  | 5 => .int
  | 6 => .int
  | 7 => .int
  | 8 => .int
  | 9 => .int
  | 10 => .int
  | 11 => .int
  | 12 => .int
  | 13 => .int
  | 14 => .int
  | 15 => .int
  | 16 => .int
  | 17 => .int
  | 18 => .int
  | 19 => .int
  | 20 => .int
  | 21 => .int
  | 22 => .array .int
  | 23 => .array .int
  | 24 => .array .int
  | 25 => .int
  | 26 => .int
  | 27 => .array .int
  | 28 => .int
  | 29 => .array .int
  | 30 => .array .boolean
  | 31 => .int
  | _ => .boolean
abbrev wsX60 : List Cond := u_ws RX6 TX6 33
theorem nmX6 : ∀ a, a < 33 → ∀ b, b < 33 → a ≠ b → (TX6 a).2.1 ≠ (TX6 b).2.1 := by decide +kernel
theorem tyX6_ok : ∀ k, k < 33 → parseFieldDescriptor (TX6 k).2.2.1 = some (tyX6 k) := by decide +kernel
abbrev cX6_init : ByteArray := prog_8_method_1_code
def yX6_init : MethodName := ⟨RX6, "<init>", "()V"⟩
abbrev cX6_in : ByteArray := prog_8_method_3_code
def yX6_in : MethodName := ⟨RX6, "in", "(JJJ)Z"⟩
abbrev cX6_ones : ByteArray := prog_8_method_4_code
def yX6_ones : MethodName := ⟨RX6, "ones", "(I)I"⟩
abbrev cX6_runs : ByteArray := prog_8_method_5_code
def yX6_runs : MethodName := ⟨RX6, "runs", "(I)Z"⟩
abbrev cX6_run : ByteArray := prog_8_method_6_code
def yX6_run : MethodName := ⟨RX6, "run", "(IIII)I"⟩
abbrev cX6_rest : ByteArray := prog_8_method_7_code
def yX6_rest : MethodName := ⟨RX6, "rest", "(I)I"⟩
abbrev cX6_set : ByteArray := prog_8_method_8_code
def yX6_set : MethodName := ⟨RX6, "set", "(II)I"⟩
abbrev cX6_isPair : ByteArray := prog_8_method_9_code
def yX6_isPair : MethodName := ⟨RX6, "isPair", "(II)Z"⟩
abbrev cX6_layPair : ByteArray := prog_8_method_10_code
def yX6_layPair : MethodName := ⟨RX6, "layPair", "(II)V"⟩
abbrev cX6_begin : ByteArray := prog_8_method_11_code
def yX6_begin : MethodName := ⟨RX6, "begin", "()V"⟩
abbrev cX6_quicker : ByteArray := prog_8_method_12_code
def yX6_quicker : MethodName := ⟨RX6, "quicker", "(I)I"⟩
abbrev cX6_next : ByteArray := prog_8_method_13_code
def yX6_next : MethodName := ⟨RX6, "next", "(IIII)I"⟩
abbrev cX6_step : ByteArray := prog_8_method_14_code
def yX6_step : MethodName := ⟨RX6, "step", "()V"⟩
abbrev cX6_time : ByteArray := prog_8_method_15_code
def yX6_time : MethodName := ⟨RX6, "time", "()I"⟩
abbrev cX6_timeOf : ByteArray := prog_8_method_16_code
def yX6_timeOf : MethodName := ⟨RX6, "timeOf", "(I)I"⟩
abbrev cX6_pair : ByteArray := prog_8_method_17_code
def yX6_pair : MethodName := ⟨RX6, "pair", "(IIII)I"⟩
abbrev cX6_isFar : ByteArray := prog_8_method_18_code
def yX6_isFar : MethodName := ⟨RX6, "isFar", "(I)Z"⟩
abbrev cX6_reach : ByteArray := prog_8_method_19_code
def yX6_reach : MethodName := ⟨RX6, "reach", "(IIII)I"⟩
abbrev cX6_who : ByteArray := prog_8_method_20_code
def yX6_who : MethodName := ⟨RX6, "who", "(III)I"⟩
abbrev cX6_alone : ByteArray := prog_8_method_21_code
def yX6_alone : MethodName := ⟨RX6, "alone", "(II)I"⟩
abbrev cX6_findTimes : ByteArray := prog_8_method_22_code
def yX6_findTimes : MethodName := ⟨RX6, "findTimes", "(I)V"⟩
abbrev cX6_tie : ByteArray := prog_8_method_23_code
def yX6_tie : MethodName := ⟨RX6, "tie", "(II)V"⟩
abbrev cX6_tiedBy : ByteArray := prog_8_method_24_code
def yX6_tiedBy : MethodName := ⟨RX6, "tiedBy", "(I)I"⟩
abbrev cX6_tied : ByteArray := prog_8_method_25_code
def yX6_tied : MethodName := ⟨RX6, "tied", "(III)I"⟩
abbrev cX6_tryOne : ByteArray := prog_8_method_26_code
def yX6_tryOne : MethodName := ⟨RX6, "tryOne", "(II)V"⟩
abbrev cX6_beginTries : ByteArray := prog_8_method_27_code
def yX6_beginTries : MethodName := ⟨RX6, "beginTries", "()V"⟩
abbrev cX6_tellBest : ByteArray := prog_8_method_28_code
def yX6_tellBest : MethodName := ⟨RX6, "tellBest", "(I)I"⟩
abbrev cX6_isAsked : ByteArray := prog_8_method_29_code
def yX6_isAsked : MethodName := ⟨RX6, "isAsked", "(II)Z"⟩
abbrev cX6_call : ByteArray := prog_8_method_30_code
def yX6_call : MethodName := ⟨RX6, "call", "(IIII)I"⟩
abbrev cX6_quicken : ByteArray := prog_8_method_31_code
def yX6_quicken : MethodName := ⟨RX6, "quicken", "(IIII)I"⟩
abbrev cX6_yields : ByteArray := prog_8_method_32_code
def yX6_yields : MethodName := ⟨RX6, "yields", "(IIII)I"⟩
abbrev cX6_fallsIn : ByteArray := prog_8_method_33_code
def yX6_fallsIn : MethodName := ⟨RX6, "fallsIn", "(I)Z"⟩
abbrev cX6_practice : ByteArray := prog_8_method_34_code
def yX6_practice : MethodName := ⟨RX6, "practice", "(IIII)I"⟩
abbrev cX6_scarf : ByteArray := prog_8_method_35_code
def yX6_scarf : MethodName := ⟨RX6, "scarf", "(IIII)I"⟩
abbrev cX6_even : ByteArray := prog_8_method_36_code
def yX6_even : MethodName := ⟨RX6, "even", "(IIIII)I"⟩
abbrev cX6_say : ByteArray := prog_8_method_37_code
def yX6_say : MethodName := ⟨RX6, "say", "(I)I"⟩
abbrev cX6_wipe : ByteArray := prog_8_method_38_code
def yX6_wipe : MethodName := ⟨RX6, "wipe", "()I"⟩
abbrev cX6_fault : ByteArray := prog_8_method_39_code
def yX6_fault : MethodName := ⟨RX6, "fault", "()I"⟩
abbrev cX6_judged : ByteArray := prog_8_method_40_code
def yX6_judged : MethodName := ⟨RX6, "judged", "(II)I"⟩
abbrev cX6_judge : ByteArray := prog_8_method_41_code
def yX6_judge : MethodName := ⟨RX6, "judge", "(II)I"⟩
abbrev cX6_fits : ByteArray := prog_8_method_42_code
def yX6_fits : MethodName := ⟨RX6, "fits", "(I)I"⟩
abbrev cX6_year : ByteArray := prog_8_method_43_code
def yX6_year : MethodName := ⟨RX6, "year", "(IIII)I"⟩
abbrev cX6_pass : ByteArray := prog_8_method_44_code
def yX6_pass : MethodName := ⟨RX6, "pass", "(I)I"⟩
abbrev cX6_passAll : ByteArray := prog_8_method_45_code
def yX6_passAll : MethodName := ⟨RX6, "passAll", "()V"⟩
abbrev cX6_image : ByteArray := prog_8_method_46_code
def yX6_image : MethodName := ⟨RX6, "image", "(I)I"⟩
abbrev cX6_restore : ByteArray := prog_8_method_47_code
def yX6_restore : MethodName := ⟨RX6, "restore", "(I)I"⟩
abbrev cX6_told : ByteArray := prog_8_method_48_code
def yX6_told : MethodName := ⟨RX6, "told", "(I)I"⟩
def RJ6 : String := "java/lang/Integer"
def TJ6 : u_T := fun k => match k with
  | _ => ("", "", "", false)
def tyJ6 : Nat → FieldType := fun k => match k with
  | _ => .int
abbrev wsJ60 : List Cond := u_ws RJ6 TJ6 0
theorem nmJ6 : ∀ a, a < 0 → ∀ b, b < 0 → a ≠ b → (TJ6 a).2.1 ≠ (TJ6 b).2.1 := by decide +kernel
theorem tyJ6_ok : ∀ k, k < 0 → parseFieldDescriptor (TJ6 k).2.2.1 = some (tyJ6 k) := by decide +kernel
abbrev cJ6_bitCount_0f7a4 : ByteArray := prog_9_method_49_code
def yJ6_bitCount_0f7a4 : MethodName := ⟨RJ6, "bitCount", "(I)I"⟩
def RJ9 : String := "java/lang/Math"
def TJ9 : u_T := fun k => match k with
  | _ => ("", "", "", false)
def tyJ9 : Nat → FieldType := fun k => match k with
  | _ => .int
abbrev wsJ90 : List Cond := u_ws RJ9 TJ9 0
theorem nmJ9 : ∀ a, a < 0 → ∀ b, b < 0 → a ≠ b → (TJ9 a).2.1 ≠ (TJ9 b).2.1 := by decide +kernel
theorem tyJ9_ok : ∀ k, k < 0 → parseFieldDescriptor (TJ9 k).2.2.1 = some (tyJ9 k) := by decide +kernel
abbrev cJ9_abs_0f7a4 : ByteArray := prog_10_method_59_code
def yJ9_abs_0f7a4 : MethodName := ⟨RJ9, "abs", "(I)I"⟩
abbrev cJ9_max_7cf53 : ByteArray := prog_10_method_65_code
def yJ9_max_7cf53 : MethodName := ⟨RJ9, "max", "(II)I"⟩
abbrev cJ9_min_7cf53 : ByteArray := prog_10_method_69_code
def yJ9_min_7cf53 : MethodName := ⟨RJ9, "min", "(II)I"⟩
def RJ10 : String := "java/lang/System"
def TJ10 : u_T := fun k => match k with
  | _ => ("", "", "", false)
def tyJ10 : Nat → FieldType := fun k => match k with
  | _ => .int
abbrev wsJ100 : List Cond := u_ws RJ10 TJ10 0
theorem nmJ10 : ∀ a, a < 0 → ∀ b, b < 0 → a ≠ b → (TJ10 a).2.1 ≠ (TJ10 b).2.1 := by decide +kernel
theorem tyJ10_ok : ∀ k, k < 0 → parseFieldDescriptor (TJ10 k).2.2.1 = some (tyJ10 k) := by decide +kernel
def RL : String := "ThreeLegsLaw"
abbrev cL_law : ByteArray := code
def yL_law : MethodName := ⟨RL, "law", "([I)Z"⟩
def wsX0_init : List Cond := .code yX0_init cX0_init 1 none :: ([.methodLink RX0 3 objectInit, .instanceMethod objectInit, .code objectInit ⟨#[0xb1]⟩ 1 none, .arrayClass .boolean, .fieldLink RX0 9 "ThreeLegs$Crowd" "runs" "[Z", .arrayClass .int, .fieldLink RX0 15 "ThreeLegs$Crowd" "beat" "[I", .fieldLink RX0 19 "ThreeLegs$Crowd" "length" "[I", .fieldLink RX0 22 "ThreeLegs$Crowd" "give" "[I", .fieldLink RX0 25 "ThreeLegs$Crowd" "lurch" "I", .fieldLink RX0 29 "ThreeLegs$Crowd" "fall" "I", .fieldLink RX0 32 "ThreeLegs$Crowd" "up" "I"] ++ wsX00)
def wsX0_hasRunner : List Cond := .code yX0_hasRunner cX0_hasRunner 2 (some .boolean) :: ([.fieldLink RX0 9 "ThreeLegs$Crowd" "runs" "[Z"] ++ wsX00)
def wsX0_canTie : List Cond := .code yX0_canTie cX0_canTie 3 (some .boolean) :: ([.methodLink RX0 35 yX0_hasRunner, .instanceMethod yX0_hasRunner, .selects RX0 yX0_hasRunner yX0_hasRunner, .initialized RX0, .code yX0_hasRunner cX0_hasRunner 2 (some .boolean), .fieldLink RX0 9 "ThreeLegs$Crowd" "runs" "[Z"] ++ wsX00)
def wsX0_enter : List Cond := .code yX0_enter cX0_enter 5 none :: ([.fieldLink RX0 9 "ThreeLegs$Crowd" "runs" "[Z", .fieldLink RX0 15 "ThreeLegs$Crowd" "beat" "[I", .fieldLink RX0 19 "ThreeLegs$Crowd" "length" "[I", .fieldLink RX0 22 "ThreeLegs$Crowd" "give" "[I"] ++ wsX00)
def wsX0_leave : List Cond := .code yX0_leave cX0_leave 2 none :: ([.fieldLink RX0 9 "ThreeLegs$Crowd" "runs" "[Z", .methodLink RX0 35 yX0_hasRunner, .instanceMethod yX0_hasRunner, .selects RX0 yX0_hasRunner yX0_hasRunner, .initialized RX0, .code yX0_hasRunner cX0_hasRunner 2 (some .boolean)] ++ wsX00)
def wsX0_bits : List Cond := .code yX0_bits cX0_bits 3 (some .int) :: ([.fieldLink RX0 9 "ThreeLegs$Crowd" "runs" "[Z"] ++ wsX00)
def wsJ6_bitCount_0f7a4 : List Cond := .code yJ6_bitCount_0f7a4 cJ6_bitCount_0f7a4 1 (some .int) :: ([.constant RJ6 265 (1431655765), .constant RJ6 266 (858993459), .constant RJ6 267 (252645135)])
def wsX0_count : List Cond := .code yX0_count cX0_count 1 (some .int) :: ([.methodLink RX0 39 yX0_bits, .instanceMethod yX0_bits, .selects RX0 yX0_bits yX0_bits, .initialized RX0, .code yX0_bits cX0_bits 3 (some .int), .fieldLink RX0 9 "ThreeLegs$Crowd" "runs" "[Z", .methodLink RX0 43 yJ6_bitCount_0f7a4, .static yJ6_bitCount_0f7a4, .initialized RJ6, .code yJ6_bitCount_0f7a4 cJ6_bitCount_0f7a4 1 (some .int), .constant RJ6 265 (1431655765), .constant RJ6 266 (858993459), .constant RJ6 267 (252645135)] ++ wsX00)
def wsX0_copyFrom : List Cond := .code yX0_copyFrom cX0_copyFrom 3 none :: ([.fieldLink RX0 9 "ThreeLegs$Crowd" "runs" "[Z", .fieldLink RX0 15 "ThreeLegs$Crowd" "beat" "[I", .fieldLink RX0 19 "ThreeLegs$Crowd" "length" "[I", .fieldLink RX0 22 "ThreeLegs$Crowd" "give" "[I", .fieldLink RX0 25 "ThreeLegs$Crowd" "lurch" "I", .fieldLink RX0 29 "ThreeLegs$Crowd" "fall" "I", .fieldLink RX0 32 "ThreeLegs$Crowd" "up" "I"] ++ wsX00)
def wsX1_init : List Cond := .code yX1_init cX1_init 1 none :: ([.methodLink RX1 3 objectInit, .instanceMethod objectInit, .code objectInit ⟨#[0xb1]⟩ 1 none, .arrayClass .int, .fieldLink RX1 9 "ThreeLegs$Film" "signs" "[I"] ++ wsX10)
def wsX1_add : List Cond := .code yX1_add cX1_add 2 none :: ([.fieldLink RX1 15 "ThreeLegs$Film" "count" "I", .fieldLink RX1 9 "ThreeLegs$Film" "signs" "[I"] ++ wsX10)
def wsX1_firstFault : List Cond := .code yX1_firstFault cX1_firstFault 3 (some .int) :: ([.fieldLink RX1 15 "ThreeLegs$Film" "count" "I", .fieldLink RX1 9 "ThreeLegs$Film" "signs" "[I"] ++ wsX10)
def wsX1_canShow : List Cond := .code yX1_canShow cX1_canShow 3 (some .boolean) :: ([.fieldLink RX1 15 "ThreeLegs$Film" "count" "I", .fieldLink RX1 9 "ThreeLegs$Film" "signs" "[I"] ++ wsX10)
def wsX2_init : List Cond := .code yX2_init cX2_init 1 none :: ([.methodLink RX2 3 objectInit, .instanceMethod objectInit, .code objectInit ⟨#[0xb1]⟩ 1 none, .arrayClass .int, .fieldLink RX2 11 "ThreeLegs$Knots" "picks" "[I", .fieldLink RX2 15 "ThreeLegs$Knots" "free" "[I", .fieldLink RX2 18 "ThreeLegs$Knots" "mate" "[I", .fieldLink RX2 21 "ThreeLegs$Knots" "bestMate" "[I"] ++ wsX20)
def wsX2_lineUp : List Cond := .code yX2_lineUp cX2_lineUp 4 (some .int) :: ([.fieldLink RX2 15 "ThreeLegs$Knots" "free" "[I", .methodLink RX2 69 yX0_hasRunner, .instanceMethod yX0_hasRunner, .selects RX0 yX0_hasRunner yX0_hasRunner, .initialized RX0, .code yX0_hasRunner cX0_hasRunner 2 (some .boolean), .fieldLink RX0 9 "ThreeLegs$Crowd" "runs" "[Z"] ++ wsX20 ++ wsX00)
def wsX2_takeOut : List Cond := .code yX2_takeOut cX2_takeOut 4 none :: ([.fieldLink RX2 15 "ThreeLegs$Knots" "free" "[I"] ++ wsX20)
def wsX2_costOfPicks : List Cond := .code yX2_costOfPicks cX2_costOfPicks 11 (some .int) :: ([.fieldLink RX2 11 "ThreeLegs$Knots" "picks" "[I", .fieldLink RX2 15 "ThreeLegs$Knots" "free" "[I", .fieldLink RX2 18 "ThreeLegs$Knots" "mate" "[I", .constant RX2 58 (100000), .methodLink RX2 59 Lib.Math.max.name, .static Lib.Math.max.name, .initialized "java/lang/Math", .code Lib.Math.max.name Lib.Math.max.code 2 (some .int), .methodLink RX2 54 yX2_lineUp, .instanceMethod yX2_lineUp, .selects RX2 yX2_lineUp yX2_lineUp, .initialized RX2, .code yX2_lineUp cX2_lineUp 4 (some .int), .methodLink RX2 69 yX0_hasRunner, .instanceMethod yX0_hasRunner, .selects RX0 yX0_hasRunner yX0_hasRunner, .initialized RX0, .code yX0_hasRunner cX0_hasRunner 2 (some .boolean), .fieldLink RX0 9 "ThreeLegs$Crowd" "runs" "[Z", .methodLink RX2 65 yX2_takeOut, .instanceMethod yX2_takeOut, .selects RX2 yX2_takeOut yX2_takeOut, .code yX2_takeOut cX2_takeOut 4 none] ++ wsX20 ++ wsX00)
def wsX2_goToNextPicks : List Cond := .code yX2_goToNextPicks cX2_goToNextPicks 2 (some .boolean) :: ([.fieldLink RX2 30 "ThreeLegs$Knots" "people" "I", .fieldLink RX2 11 "ThreeLegs$Knots" "picks" "[I"] ++ wsX20)
def wsX2_seek_r1 : List Cond := [Cond.fieldLink RX2 30 "ThreeLegs$Knots" "people" "I", Cond.fieldLink RX2 11 "ThreeLegs$Knots" "picks" "[I", Cond.constant RX2 36 (2147483647), Cond.fieldLink RX2 37 "ThreeLegs$Knots" "least" "I", Cond.fieldLink RX2 18 "ThreeLegs$Knots" "mate" "[I", Cond.fieldLink RX2 21 "ThreeLegs$Knots" "bestMate" "[I", Cond.methodLink RX2 44 arraycopyName, Cond.native arraycopyName, Cond.static arraycopyName, Cond.initialized "java/lang/System", Cond.methodLink RX2 24 yX0_count, Cond.instanceMethod yX0_count, Cond.selects RX0 yX0_count yX0_count, Cond.initialized RX0, Cond.code yX0_count cX0_count 1 (some .int), Cond.methodLink RX0 39 yX0_bits, Cond.instanceMethod yX0_bits, Cond.selects RX0 yX0_bits yX0_bits, Cond.code yX0_bits cX0_bits 3 (some .int), Cond.fieldLink RX0 9 "ThreeLegs$Crowd" "runs" "[Z", Cond.methodLink RX0 43 yJ6_bitCount_0f7a4, Cond.static yJ6_bitCount_0f7a4, Cond.initialized RJ6, Cond.code yJ6_bitCount_0f7a4 cJ6_bitCount_0f7a4 1 (some .int)]
def wsX2_seek_r2 : List Cond := [Cond.constant RJ6 265 (1431655765), Cond.constant RJ6 266 (858993459), Cond.constant RJ6 267 (252645135), Cond.methodLink RX2 40 yX2_costOfPicks, Cond.instanceMethod yX2_costOfPicks, Cond.selects RX2 yX2_costOfPicks yX2_costOfPicks, Cond.initialized RX2, Cond.code yX2_costOfPicks cX2_costOfPicks 11 (some .int), Cond.fieldLink RX2 15 "ThreeLegs$Knots" "free" "[I", Cond.constant RX2 58 (100000), Cond.methodLink RX2 59 Lib.Math.max.name, Cond.static Lib.Math.max.name, Cond.initialized "java/lang/Math", Cond.code Lib.Math.max.name Lib.Math.max.code 2 (some .int), Cond.methodLink RX2 54 yX2_lineUp, Cond.instanceMethod yX2_lineUp, Cond.selects RX2 yX2_lineUp yX2_lineUp, Cond.code yX2_lineUp cX2_lineUp 4 (some .int), Cond.methodLink RX2 69 yX0_hasRunner, Cond.instanceMethod yX0_hasRunner, Cond.selects RX0 yX0_hasRunner yX0_hasRunner, Cond.code yX0_hasRunner cX0_hasRunner 2 (some .boolean), Cond.methodLink RX2 65 yX2_takeOut, Cond.instanceMethod yX2_takeOut]
def wsX2_seek_r3 : List Cond := [Cond.selects RX2 yX2_takeOut yX2_takeOut, Cond.code yX2_takeOut cX2_takeOut 4 none, Cond.methodLink RX2 50 yX2_goToNextPicks, Cond.instanceMethod yX2_goToNextPicks, Cond.selects RX2 yX2_goToNextPicks yX2_goToNextPicks, Cond.code yX2_goToNextPicks cX2_goToNextPicks 2 (some .boolean)]
def wsX2_seek : List Cond := .code yX2_seek cX2_seek 7 none :: ((wsX2_seek_r1 ++ (wsX2_seek_r2 ++ wsX2_seek_r3)) ++ wsX20 ++ wsX00)
def wsX3_init : List Cond := .code yX3_init cX3_init 1 none :: ([.methodLink RX3 3 objectInit, .instanceMethod objectInit, .code objectInit ⟨#[0xb1]⟩ 1 none, .fieldLink RX3 9 "ThreeLegs$Soonest" "time" "I", .fieldLink RX3 15 "ThreeLegs$Soonest" "key" "I"] ++ wsX30)
def wsX3_clear : List Cond := .code yX3_clear cX3_clear 1 none :: ([.fieldLink RX3 9 "ThreeLegs$Soonest" "time" "I", .fieldLink RX3 15 "ThreeLegs$Soonest" "key" "I"] ++ wsX30)
def wsX3_offer : List Cond := .code yX3_offer cX3_offer 3 none :: ([.fieldLink RX3 9 "ThreeLegs$Soonest" "time" "I", .fieldLink RX3 15 "ThreeLegs$Soonest" "key" "I"] ++ wsX30)
def wsX3_answer : List Cond := .code yX3_answer cX3_answer 2 (some .int) :: ([.fieldLink RX3 15 "ThreeLegs$Soonest" "key" "I", .fieldLink RX3 9 "ThreeLegs$Soonest" "time" "I"] ++ wsX30)
def wsX4_init : List Cond := .code yX4_init cX4_init 1 none :: ([.methodLink RX4 3 objectInit, .instanceMethod objectInit, .code objectInit ⟨#[0xb1]⟩ 1 none])
def wsX4_tie_r1 : List Cond := [Cond.fieldLink RX4 15 "ThreeLegs$Crowd" "beat" "[I", Cond.fieldLink RX4 19 "ThreeLegs$Walk" "firstBeat" "I", Cond.fieldLink RX4 25 "ThreeLegs$Walk" "otherBeat" "I", Cond.fieldLink RX4 28 "ThreeLegs$Crowd" "give" "[I", Cond.fieldLink RX4 31 "ThreeLegs$Walk" "firstGive" "I", Cond.fieldLink RX4 34 "ThreeLegs$Walk" "otherGive" "I", Cond.fieldLink RX4 37 "ThreeLegs$Crowd" "length" "[I", Cond.methodLink RX4 40 Lib.Math.min.name, Cond.static Lib.Math.min.name, Cond.initialized "java/lang/Math", Cond.code Lib.Math.min.name Lib.Math.min.code 2 (some .int), Cond.fieldLink RX4 46 "ThreeLegs$Walk" "stride" "I", Cond.fieldLink RX4 49 "ThreeLegs$Crowd" "lurch" "I", Cond.fieldLink RX4 52 "ThreeLegs$Walk" "lurch" "I", Cond.fieldLink RX4 53 "ThreeLegs$Crowd" "fall" "I", Cond.fieldLink RX4 56 "ThreeLegs$Walk" "fall" "I", Cond.fieldLink RX4 57 "ThreeLegs$Crowd" "up" "I", Cond.fieldLink RX4 60 "ThreeLegs$Walk" "up" "I", Cond.fieldLink RX4 61 "ThreeLegs$Walk" "firstTime" "I", Cond.fieldLink RX4 64 "ThreeLegs$Walk" "otherTime" "I", Cond.fieldLink RX4 67 "ThreeLegs$Walk" "steps" "I", Cond.fieldLink RX4 70 "ThreeLegs$Walk" "feet" "I", Cond.fieldLink RX4 73 "ThreeLegs$Walk" "lurches" "I", Cond.fieldLink RX4 76 "ThreeLegs$Walk" "falls" "I"]
def wsX4_tie_r2 : List Cond := [Cond.methodLink RX4 9 yX0_canTie, Cond.instanceMethod yX0_canTie, Cond.selects RX0 yX0_canTie yX0_canTie, Cond.initialized RX0, Cond.code yX0_canTie cX0_canTie 3 (some .boolean), Cond.methodLink RX0 35 yX0_hasRunner, Cond.instanceMethod yX0_hasRunner, Cond.selects RX0 yX0_hasRunner yX0_hasRunner, Cond.code yX0_hasRunner cX0_hasRunner 2 (some .boolean), Cond.fieldLink RX0 9 "ThreeLegs$Crowd" "runs" "[Z"]
def wsX4_tie : List Cond := .code yX4_tie cX4_tie 4 none :: ((wsX4_tie_r1 ++ wsX4_tie_r2) ++ wsX00 ++ wsX40)
def wsX4_beatBoth : List Cond := .code yX4_beatBoth cX4_beatBoth 2 none :: ([.fieldLink RX4 19 "ThreeLegs$Walk" "firstBeat" "I", .fieldLink RX4 25 "ThreeLegs$Walk" "otherBeat" "I"] ++ wsX40)
def wsX4_give : List Cond := .code yX4_give cX4_give 3 none :: ([.fieldLink RX4 31 "ThreeLegs$Walk" "firstGive" "I", .fieldLink RX4 34 "ThreeLegs$Walk" "otherGive" "I"] ++ wsX40)
def wsX4_speedUp : List Cond := .code yX4_speedUp cX4_speedUp 1 none :: ([.fieldLink RX4 19 "ThreeLegs$Walk" "firstBeat" "I", .methodLink RX4 79 Lib.Math.max.name, .static Lib.Math.max.name, .initialized "java/lang/Math", .code Lib.Math.max.name Lib.Math.max.code 2 (some .int), .fieldLink RX4 25 "ThreeLegs$Walk" "otherBeat" "I"] ++ wsX40)
def wsX4_time : List Cond := .code yX4_time cX4_time 1 (some .int) :: ([.fieldLink RX4 61 "ThreeLegs$Walk" "firstTime" "I", .fieldLink RX4 64 "ThreeLegs$Walk" "otherTime" "I", .methodLink RX4 79 Lib.Math.max.name, .static Lib.Math.max.name, .initialized "java/lang/Math", .code Lib.Math.max.name Lib.Math.max.code 2 (some .int)] ++ wsX40)
def wsX4_apart : List Cond := .code yX4_apart cX4_apart 1 (some .int) :: ([.fieldLink RX4 61 "ThreeLegs$Walk" "firstTime" "I", .fieldLink RX4 64 "ThreeLegs$Walk" "otherTime" "I", .methodLink RX4 82 Lib.Math.abs.name, .static Lib.Math.abs.name, .initialized "java/lang/Math", .code Lib.Math.abs.name Lib.Math.abs.code 1 (some .int)] ++ wsX40)
def wsX4_step_r1 : List Cond := [Cond.fieldLink RX4 61 "ThreeLegs$Walk" "firstTime" "I", Cond.fieldLink RX4 19 "ThreeLegs$Walk" "firstBeat" "I", Cond.fieldLink RX4 31 "ThreeLegs$Walk" "firstGive" "I", Cond.fieldLink RX4 64 "ThreeLegs$Walk" "otherTime" "I", Cond.methodLink RX4 79 Lib.Math.max.name, Cond.static Lib.Math.max.name, Cond.initialized "java/lang/Math", Cond.code Lib.Math.max.name Lib.Math.max.code 2 (some .int), Cond.fieldLink RX4 25 "ThreeLegs$Walk" "otherBeat" "I", Cond.fieldLink RX4 34 "ThreeLegs$Walk" "otherGive" "I", Cond.fieldLink RX4 86 "ThreeLegs$Walk" "firstWasEarlier" "Z", Cond.fieldLink RX4 67 "ThreeLegs$Walk" "steps" "I", Cond.fieldLink RX4 56 "ThreeLegs$Walk" "fall" "I", Cond.fieldLink RX4 76 "ThreeLegs$Walk" "falls" "I", Cond.fieldLink RX4 94 "ThreeLegs$Walk" "sign" "C", Cond.fieldLink RX4 60 "ThreeLegs$Walk" "up" "I", Cond.fieldLink RX4 52 "ThreeLegs$Walk" "lurch" "I", Cond.fieldLink RX4 73 "ThreeLegs$Walk" "lurches" "I", Cond.fieldLink RX4 70 "ThreeLegs$Walk" "feet" "I", Cond.fieldLink RX4 46 "ThreeLegs$Walk" "stride" "I", Cond.methodLink RX4 90 yX4_apart, Cond.instanceMethod yX4_apart, Cond.selects RX4 yX4_apart yX4_apart, Cond.initialized RX4]
def wsX4_step_r2 : List Cond := [Cond.code yX4_apart cX4_apart 1 (some .int), Cond.methodLink RX4 82 Lib.Math.abs.name, Cond.static Lib.Math.abs.name, Cond.code Lib.Math.abs.name Lib.Math.abs.code 1 (some .int)]
def wsX4_step : List Cond := .code yX4_step cX4_step 3 none :: ((wsX4_step_r1 ++ wsX4_step_r2) ++ wsX40)
def wsX4_timeTo_r1 : List Cond := [Cond.fieldLink RX4 70 "ThreeLegs$Walk" "feet" "I", Cond.methodLink RX4 98 yX4_speedUp, Cond.instanceMethod yX4_speedUp, Cond.selects RX4 yX4_speedUp yX4_speedUp, Cond.initialized RX4, Cond.code yX4_speedUp cX4_speedUp 1 none, Cond.fieldLink RX4 19 "ThreeLegs$Walk" "firstBeat" "I", Cond.methodLink RX4 79 Lib.Math.max.name, Cond.static Lib.Math.max.name, Cond.initialized "java/lang/Math", Cond.code Lib.Math.max.name Lib.Math.max.code 2 (some .int), Cond.fieldLink RX4 25 "ThreeLegs$Walk" "otherBeat" "I", Cond.methodLink RX4 101 yX4_step, Cond.instanceMethod yX4_step, Cond.selects RX4 yX4_step yX4_step, Cond.code yX4_step cX4_step 3 none, Cond.fieldLink RX4 61 "ThreeLegs$Walk" "firstTime" "I", Cond.fieldLink RX4 31 "ThreeLegs$Walk" "firstGive" "I", Cond.fieldLink RX4 64 "ThreeLegs$Walk" "otherTime" "I", Cond.fieldLink RX4 34 "ThreeLegs$Walk" "otherGive" "I", Cond.fieldLink RX4 86 "ThreeLegs$Walk" "firstWasEarlier" "Z", Cond.fieldLink RX4 67 "ThreeLegs$Walk" "steps" "I", Cond.fieldLink RX4 56 "ThreeLegs$Walk" "fall" "I", Cond.fieldLink RX4 76 "ThreeLegs$Walk" "falls" "I"]
def wsX4_timeTo_r2 : List Cond := [Cond.fieldLink RX4 94 "ThreeLegs$Walk" "sign" "C", Cond.fieldLink RX4 60 "ThreeLegs$Walk" "up" "I", Cond.fieldLink RX4 52 "ThreeLegs$Walk" "lurch" "I", Cond.fieldLink RX4 73 "ThreeLegs$Walk" "lurches" "I", Cond.fieldLink RX4 46 "ThreeLegs$Walk" "stride" "I", Cond.methodLink RX4 90 yX4_apart, Cond.instanceMethod yX4_apart, Cond.selects RX4 yX4_apart yX4_apart, Cond.code yX4_apart cX4_apart 1 (some .int), Cond.methodLink RX4 82 Lib.Math.abs.name, Cond.static Lib.Math.abs.name, Cond.code Lib.Math.abs.name Lib.Math.abs.code 1 (some .int), Cond.methodLink RX4 104 yX4_time, Cond.instanceMethod yX4_time, Cond.selects RX4 yX4_time yX4_time, Cond.code yX4_time cX4_time 1 (some .int)]
def wsX4_timeTo : List Cond := .code yX4_timeTo cX4_timeTo 4 (some .int) :: ((wsX4_timeTo_r1 ++ wsX4_timeTo_r2) ++ wsX40)
def wsX4_standsFor_r1 : List Cond := [Cond.fieldLink RX4 76 "ThreeLegs$Walk" "falls" "I", Cond.methodLink RX4 101 yX4_step, Cond.instanceMethod yX4_step, Cond.selects RX4 yX4_step yX4_step, Cond.initialized RX4, Cond.code yX4_step cX4_step 3 none, Cond.fieldLink RX4 61 "ThreeLegs$Walk" "firstTime" "I", Cond.fieldLink RX4 19 "ThreeLegs$Walk" "firstBeat" "I", Cond.fieldLink RX4 31 "ThreeLegs$Walk" "firstGive" "I", Cond.fieldLink RX4 64 "ThreeLegs$Walk" "otherTime" "I", Cond.methodLink RX4 79 Lib.Math.max.name, Cond.static Lib.Math.max.name, Cond.initialized "java/lang/Math", Cond.code Lib.Math.max.name Lib.Math.max.code 2 (some .int), Cond.fieldLink RX4 25 "ThreeLegs$Walk" "otherBeat" "I", Cond.fieldLink RX4 34 "ThreeLegs$Walk" "otherGive" "I", Cond.fieldLink RX4 86 "ThreeLegs$Walk" "firstWasEarlier" "Z", Cond.fieldLink RX4 67 "ThreeLegs$Walk" "steps" "I", Cond.fieldLink RX4 56 "ThreeLegs$Walk" "fall" "I", Cond.fieldLink RX4 94 "ThreeLegs$Walk" "sign" "C", Cond.fieldLink RX4 60 "ThreeLegs$Walk" "up" "I", Cond.fieldLink RX4 52 "ThreeLegs$Walk" "lurch" "I", Cond.fieldLink RX4 73 "ThreeLegs$Walk" "lurches" "I", Cond.fieldLink RX4 70 "ThreeLegs$Walk" "feet" "I"]
def wsX4_standsFor_r2 : List Cond := [Cond.fieldLink RX4 46 "ThreeLegs$Walk" "stride" "I", Cond.methodLink RX4 90 yX4_apart, Cond.instanceMethod yX4_apart, Cond.selects RX4 yX4_apart yX4_apart, Cond.code yX4_apart cX4_apart 1 (some .int), Cond.methodLink RX4 82 Lib.Math.abs.name, Cond.static Lib.Math.abs.name, Cond.code Lib.Math.abs.name Lib.Math.abs.code 1 (some .int)]
def wsX4_standsFor : List Cond := .code yX4_standsFor cX4_standsFor 3 (some .boolean) :: ((wsX4_standsFor_r1 ++ wsX4_standsFor_r2) ++ wsX40)
def wsX4_feetWithin_r1 : List Cond := [Cond.fieldLink RX4 70 "ThreeLegs$Walk" "feet" "I", Cond.methodLink RX4 101 yX4_step, Cond.instanceMethod yX4_step, Cond.selects RX4 yX4_step yX4_step, Cond.initialized RX4, Cond.code yX4_step cX4_step 3 none, Cond.fieldLink RX4 61 "ThreeLegs$Walk" "firstTime" "I", Cond.fieldLink RX4 19 "ThreeLegs$Walk" "firstBeat" "I", Cond.fieldLink RX4 31 "ThreeLegs$Walk" "firstGive" "I", Cond.fieldLink RX4 64 "ThreeLegs$Walk" "otherTime" "I", Cond.methodLink RX4 79 Lib.Math.max.name, Cond.static Lib.Math.max.name, Cond.initialized "java/lang/Math", Cond.code Lib.Math.max.name Lib.Math.max.code 2 (some .int), Cond.fieldLink RX4 25 "ThreeLegs$Walk" "otherBeat" "I", Cond.fieldLink RX4 34 "ThreeLegs$Walk" "otherGive" "I", Cond.fieldLink RX4 86 "ThreeLegs$Walk" "firstWasEarlier" "Z", Cond.fieldLink RX4 67 "ThreeLegs$Walk" "steps" "I", Cond.fieldLink RX4 56 "ThreeLegs$Walk" "fall" "I", Cond.fieldLink RX4 76 "ThreeLegs$Walk" "falls" "I", Cond.fieldLink RX4 94 "ThreeLegs$Walk" "sign" "C", Cond.fieldLink RX4 60 "ThreeLegs$Walk" "up" "I", Cond.fieldLink RX4 52 "ThreeLegs$Walk" "lurch" "I", Cond.fieldLink RX4 73 "ThreeLegs$Walk" "lurches" "I"]
def wsX4_feetWithin_r2 : List Cond := [Cond.fieldLink RX4 46 "ThreeLegs$Walk" "stride" "I", Cond.methodLink RX4 90 yX4_apart, Cond.instanceMethod yX4_apart, Cond.selects RX4 yX4_apart yX4_apart, Cond.code yX4_apart cX4_apart 1 (some .int), Cond.methodLink RX4 82 Lib.Math.abs.name, Cond.static Lib.Math.abs.name, Cond.code Lib.Math.abs.name Lib.Math.abs.code 1 (some .int), Cond.methodLink RX4 104 yX4_time, Cond.instanceMethod yX4_time, Cond.selects RX4 yX4_time yX4_time, Cond.code yX4_time cX4_time 1 (some .int)]
def wsX4_feetWithin : List Cond := .code yX4_feetWithin cX4_feetWithin 4 (some .int) :: ((wsX4_feetWithin_r1 ++ wsX4_feetWithin_r2) ++ wsX40)
def wsX5_init_r1 : List Cond := [Cond.methodLink RX5 1 objectInit, Cond.instanceMethod objectInit, Cond.code objectInit ⟨#[0xb1]⟩ 1 none, Cond.classLink RX5 7 RX0, Cond.instantiable RX0 7, Cond.initialized RX0, Cond.fieldLink RX5 10 "ThreeLegs" "crowd" "LThreeLegs$Crowd;", Cond.fieldLink RX5 16 "ThreeLegs" "images" "[LThreeLegs$Crowd;", Cond.arrayClass .boolean, Cond.fieldLink RX5 20 "ThreeLegs" "isKept" "[Z", Cond.classLink RX5 24 RX1, Cond.instantiable RX1 2, Cond.initialized RX1, Cond.fieldLink RX5 27 "ThreeLegs" "film" "LThreeLegs$Film;", Cond.classLink RX5 31 RX4, Cond.instantiable RX4 16, Cond.initialized RX4, Cond.fieldLink RX5 34 "ThreeLegs" "walk" "LThreeLegs$Walk;", Cond.classLink RX5 38 RX2, Cond.instantiable RX2 6, Cond.initialized RX2, Cond.fieldLink RX5 41 "ThreeLegs" "knots" "LThreeLegs$Knots;", Cond.classLink RX5 45 RX3, Cond.instantiable RX3 2]
def wsX5_init_r2 : List Cond := [Cond.initialized RX3, Cond.fieldLink RX5 48 "ThreeLegs" "soonest" "LThreeLegs$Soonest;", Cond.arrayClass .int, Cond.fieldLink RX5 52 "ThreeLegs" "times" "[I", Cond.instanceMethod yX0_init, Cond.code yX0_init cX0_init 1 none, Cond.methodLink RX0 3 objectInit, Cond.fieldLink RX0 9 "ThreeLegs$Crowd" "runs" "[Z", Cond.fieldLink RX0 15 "ThreeLegs$Crowd" "beat" "[I", Cond.fieldLink RX0 19 "ThreeLegs$Crowd" "length" "[I", Cond.fieldLink RX0 22 "ThreeLegs$Crowd" "give" "[I", Cond.fieldLink RX0 25 "ThreeLegs$Crowd" "lurch" "I", Cond.fieldLink RX0 29 "ThreeLegs$Crowd" "fall" "I", Cond.fieldLink RX0 32 "ThreeLegs$Crowd" "up" "I", Cond.instanceMethod yX1_init, Cond.code yX1_init cX1_init 1 none, Cond.methodLink RX1 3 objectInit, Cond.fieldLink RX1 9 "ThreeLegs$Film" "signs" "[I", Cond.instanceMethod yX4_init, Cond.code yX4_init cX4_init 1 none, Cond.methodLink RX4 3 objectInit, Cond.instanceMethod yX2_init, Cond.code yX2_init cX2_init 1 none, Cond.methodLink RX2 3 objectInit]
def wsX5_init_r3 : List Cond := [Cond.fieldLink RX2 11 "ThreeLegs$Knots" "picks" "[I", Cond.fieldLink RX2 15 "ThreeLegs$Knots" "free" "[I", Cond.fieldLink RX2 18 "ThreeLegs$Knots" "mate" "[I", Cond.fieldLink RX2 21 "ThreeLegs$Knots" "bestMate" "[I", Cond.instanceMethod yX3_init, Cond.code yX3_init cX3_init 1 none, Cond.methodLink RX3 3 objectInit, Cond.fieldLink RX3 9 "ThreeLegs$Soonest" "time" "I", Cond.fieldLink RX3 15 "ThreeLegs$Soonest" "key" "I"]
def wsX5_init : List Cond := .code yX5_init cX5_init 1 none :: ((wsX5_init_r1 ++ (wsX5_init_r2 ++ wsX5_init_r3)) ++ wsX00 ++ wsX50 ++ wsX10 ++ wsX40 ++ wsX20 ++ wsX30)
def wsX5_isWithin : List Cond := .code yX5_isWithin cX5_isWithin 3 (some .boolean) :: ([])
def wsX5_run_r1 : List Cond := [Cond.fieldLink RX5 10 "ThreeLegs" "crowd" "LThreeLegs$Crowd;", Cond.methodLink RX5 56 yX5_isWithin, Cond.static yX5_isWithin, Cond.initialized RX5, Cond.code yX5_isWithin cX5_isWithin 3 (some .boolean), Cond.methodLink RX5 60 yX0_enter, Cond.instanceMethod yX0_enter, Cond.selects RX0 yX0_enter yX0_enter, Cond.initialized RX0, Cond.code yX0_enter cX0_enter 5 none, Cond.fieldLink RX0 9 "ThreeLegs$Crowd" "runs" "[Z", Cond.fieldLink RX0 15 "ThreeLegs$Crowd" "beat" "[I", Cond.fieldLink RX0 19 "ThreeLegs$Crowd" "length" "[I", Cond.fieldLink RX0 22 "ThreeLegs$Crowd" "give" "[I", Cond.methodLink RX5 64 yX0_count, Cond.instanceMethod yX0_count, Cond.selects RX0 yX0_count yX0_count, Cond.code yX0_count cX0_count 1 (some .int), Cond.methodLink RX0 39 yX0_bits, Cond.instanceMethod yX0_bits, Cond.selects RX0 yX0_bits yX0_bits, Cond.code yX0_bits cX0_bits 3 (some .int), Cond.methodLink RX0 43 yJ6_bitCount_0f7a4, Cond.static yJ6_bitCount_0f7a4]
def wsX5_run_r2 : List Cond := [Cond.initialized RJ6, Cond.code yJ6_bitCount_0f7a4 cJ6_bitCount_0f7a4 1 (some .int), Cond.constant RJ6 265 (1431655765), Cond.constant RJ6 266 (858993459), Cond.constant RJ6 267 (252645135)]
def wsX5_run : List Cond := .code yX5_run cX5_run 5 (some .int) :: ((wsX5_run_r1 ++ wsX5_run_r2) ++ wsX50 ++ wsX00)
def wsX5_rest_r1 : List Cond := [Cond.fieldLink RX5 10 "ThreeLegs" "crowd" "LThreeLegs$Crowd;", Cond.methodLink RX5 68 yX0_hasRunner, Cond.instanceMethod yX0_hasRunner, Cond.selects RX0 yX0_hasRunner yX0_hasRunner, Cond.initialized RX0, Cond.code yX0_hasRunner cX0_hasRunner 2 (some .boolean), Cond.fieldLink RX0 9 "ThreeLegs$Crowd" "runs" "[Z", Cond.methodLink RX5 72 yX0_leave, Cond.instanceMethod yX0_leave, Cond.selects RX0 yX0_leave yX0_leave, Cond.code yX0_leave cX0_leave 2 none, Cond.methodLink RX0 35 yX0_hasRunner, Cond.methodLink RX5 64 yX0_count, Cond.instanceMethod yX0_count, Cond.selects RX0 yX0_count yX0_count, Cond.code yX0_count cX0_count 1 (some .int), Cond.methodLink RX0 39 yX0_bits, Cond.instanceMethod yX0_bits, Cond.selects RX0 yX0_bits yX0_bits, Cond.code yX0_bits cX0_bits 3 (some .int), Cond.methodLink RX0 43 yJ6_bitCount_0f7a4, Cond.static yJ6_bitCount_0f7a4, Cond.initialized RJ6, Cond.code yJ6_bitCount_0f7a4 cJ6_bitCount_0f7a4 1 (some .int)]
def wsX5_rest_r2 : List Cond := [Cond.constant RJ6 265 (1431655765), Cond.constant RJ6 266 (858993459), Cond.constant RJ6 267 (252645135)]
def wsX5_rest : List Cond := .code yX5_rest cX5_rest 2 (some .int) :: ((wsX5_rest_r1 ++ wsX5_rest_r2) ++ wsX50 ++ wsX00)
def wsX5_setLurch : List Cond := .code yX5_setLurch cX5_setLurch 3 (some .int) :: ([.fieldLink RX5 10 "ThreeLegs" "crowd" "LThreeLegs$Crowd;", .fieldLink RX5 86 "ThreeLegs$Crowd" "fall" "I", .fieldLink RX5 90 "ThreeLegs$Crowd" "lurch" "I", .methodLink RX5 56 yX5_isWithin, .static yX5_isWithin, .initialized RX5, .code yX5_isWithin cX5_isWithin 3 (some .boolean)] ++ wsX50 ++ wsX00)
def wsX5_setFall : List Cond := .code yX5_setFall cX5_setFall 3 (some .int) :: ([.fieldLink RX5 10 "ThreeLegs" "crowd" "LThreeLegs$Crowd;", .fieldLink RX5 90 "ThreeLegs$Crowd" "lurch" "I", .fieldLink RX5 86 "ThreeLegs$Crowd" "fall" "I", .methodLink RX5 56 yX5_isWithin, .static yX5_isWithin, .initialized RX5, .code yX5_isWithin cX5_isWithin 3 (some .boolean)] ++ wsX50 ++ wsX00)
def wsX5_setUp : List Cond := .code yX5_setUp cX5_setUp 3 (some .int) :: ([.fieldLink RX5 10 "ThreeLegs" "crowd" "LThreeLegs$Crowd;", .fieldLink RX5 93 "ThreeLegs$Crowd" "up" "I", .methodLink RX5 56 yX5_isWithin, .static yX5_isWithin, .initialized RX5, .code yX5_isWithin cX5_isWithin 3 (some .boolean)] ++ wsX50 ++ wsX00)
def wsX5_set : List Cond := .code yX5_set cX5_set 3 (some .int) :: ([.methodLink RX5 76 yX5_setLurch, .instanceMethod yX5_setLurch, .selects RX5 yX5_setLurch yX5_setLurch, .initialized RX5, .code yX5_setLurch cX5_setLurch 3 (some .int), .fieldLink RX5 10 "ThreeLegs" "crowd" "LThreeLegs$Crowd;", .fieldLink RX5 86 "ThreeLegs$Crowd" "fall" "I", .fieldLink RX5 90 "ThreeLegs$Crowd" "lurch" "I", .methodLink RX5 56 yX5_isWithin, .static yX5_isWithin, .code yX5_isWithin cX5_isWithin 3 (some .boolean), .methodLink RX5 80 yX5_setFall, .instanceMethod yX5_setFall, .selects RX5 yX5_setFall yX5_setFall, .code yX5_setFall cX5_setFall 3 (some .int), .methodLink RX5 83 yX5_setUp, .instanceMethod yX5_setUp, .selects RX5 yX5_setUp yX5_setUp, .code yX5_setUp cX5_setUp 3 (some .int), .fieldLink RX5 93 "ThreeLegs$Crowd" "up" "I"] ++ wsX50 ++ wsX00)
def wsX5_pair_r1 : List Cond := [Cond.fieldLink RX5 10 "ThreeLegs" "crowd" "LThreeLegs$Crowd;", Cond.fieldLink RX5 34 "ThreeLegs" "walk" "LThreeLegs$Walk;", Cond.fieldLink RX5 110 "ThreeLegs$Walk" "feet" "I", Cond.fieldLink RX5 113 "ThreeLegs$Walk" "lurches" "I", Cond.fieldLink RX5 116 "ThreeLegs$Walk" "falls" "I", Cond.methodLink RX5 96 yX0_canTie, Cond.instanceMethod yX0_canTie, Cond.selects RX0 yX0_canTie yX0_canTie, Cond.initialized RX0, Cond.code yX0_canTie cX0_canTie 3 (some .boolean), Cond.methodLink RX0 35 yX0_hasRunner, Cond.instanceMethod yX0_hasRunner, Cond.selects RX0 yX0_hasRunner yX0_hasRunner, Cond.code yX0_hasRunner cX0_hasRunner 2 (some .boolean), Cond.fieldLink RX0 9 "ThreeLegs$Crowd" "runs" "[Z", Cond.methodLink RX5 56 yX5_isWithin, Cond.static yX5_isWithin, Cond.initialized RX5, Cond.code yX5_isWithin cX5_isWithin 3 (some .boolean), Cond.methodLink RX5 100 yX4_tie, Cond.instanceMethod yX4_tie, Cond.selects RX4 yX4_tie yX4_tie, Cond.initialized RX4, Cond.code yX4_tie cX4_tie 4 none]
def wsX5_pair_r2 : List Cond := [Cond.fieldLink RX4 15 "ThreeLegs$Crowd" "beat" "[I", Cond.fieldLink RX4 19 "ThreeLegs$Walk" "firstBeat" "I", Cond.fieldLink RX4 25 "ThreeLegs$Walk" "otherBeat" "I", Cond.fieldLink RX4 28 "ThreeLegs$Crowd" "give" "[I", Cond.fieldLink RX4 31 "ThreeLegs$Walk" "firstGive" "I", Cond.fieldLink RX4 34 "ThreeLegs$Walk" "otherGive" "I", Cond.fieldLink RX4 37 "ThreeLegs$Crowd" "length" "[I", Cond.methodLink RX4 40 Lib.Math.min.name, Cond.static Lib.Math.min.name, Cond.initialized "java/lang/Math", Cond.code Lib.Math.min.name Lib.Math.min.code 2 (some .int), Cond.fieldLink RX4 46 "ThreeLegs$Walk" "stride" "I", Cond.fieldLink RX4 49 "ThreeLegs$Crowd" "lurch" "I", Cond.fieldLink RX4 52 "ThreeLegs$Walk" "lurch" "I", Cond.fieldLink RX4 53 "ThreeLegs$Crowd" "fall" "I", Cond.fieldLink RX4 56 "ThreeLegs$Walk" "fall" "I", Cond.fieldLink RX4 57 "ThreeLegs$Crowd" "up" "I", Cond.fieldLink RX4 60 "ThreeLegs$Walk" "up" "I", Cond.fieldLink RX4 61 "ThreeLegs$Walk" "firstTime" "I", Cond.fieldLink RX4 64 "ThreeLegs$Walk" "otherTime" "I", Cond.fieldLink RX4 67 "ThreeLegs$Walk" "steps" "I", Cond.fieldLink RX4 70 "ThreeLegs$Walk" "feet" "I", Cond.fieldLink RX4 73 "ThreeLegs$Walk" "lurches" "I", Cond.fieldLink RX4 76 "ThreeLegs$Walk" "falls" "I"]
def wsX5_pair_r3 : List Cond := [Cond.methodLink RX4 9 yX0_canTie, Cond.methodLink RX5 104 yX4_step, Cond.instanceMethod yX4_step, Cond.selects RX4 yX4_step yX4_step, Cond.code yX4_step cX4_step 3 none, Cond.methodLink RX4 79 Lib.Math.max.name, Cond.static Lib.Math.max.name, Cond.code Lib.Math.max.name Lib.Math.max.code 2 (some .int), Cond.fieldLink RX4 86 "ThreeLegs$Walk" "firstWasEarlier" "Z", Cond.fieldLink RX4 94 "ThreeLegs$Walk" "sign" "C", Cond.methodLink RX4 90 yX4_apart, Cond.instanceMethod yX4_apart, Cond.selects RX4 yX4_apart yX4_apart, Cond.code yX4_apart cX4_apart 1 (some .int), Cond.methodLink RX4 82 Lib.Math.abs.name, Cond.static Lib.Math.abs.name, Cond.code Lib.Math.abs.name Lib.Math.abs.code 1 (some .int), Cond.methodLink RX5 107 yX4_time, Cond.instanceMethod yX4_time, Cond.selects RX4 yX4_time yX4_time, Cond.code yX4_time cX4_time 1 (some .int), Cond.methodLink RX5 119 yX4_apart]
def wsX5_pair : List Cond := .code yX5_pair cX5_pair 6 (some .int) :: ((wsX5_pair_r1 ++ (wsX5_pair_r2 ++ wsX5_pair_r3)) ++ wsX50 ++ wsX40 ++ wsX00)
def wsX5_isFeet : List Cond := .code yX5_isFeet cX5_isFeet 1 (some .boolean) :: ([.methodLink RX5 56 yX5_isWithin, .static yX5_isWithin, .initialized RX5, .code yX5_isWithin cX5_isWithin 3 (some .boolean)])
def wsX5_refusalOfRace : List Cond := .code yX5_refusalOfRace cX5_refusalOfRace 5 (some .int) :: ([.fieldLink RX5 10 "ThreeLegs" "crowd" "LThreeLegs$Crowd;", .methodLink RX5 96 yX0_canTie, .instanceMethod yX0_canTie, .selects RX0 yX0_canTie yX0_canTie, .initialized RX0, .code yX0_canTie cX0_canTie 3 (some .boolean), .methodLink RX0 35 yX0_hasRunner, .instanceMethod yX0_hasRunner, .selects RX0 yX0_hasRunner yX0_hasRunner, .code yX0_hasRunner cX0_hasRunner 2 (some .boolean), .fieldLink RX0 9 "ThreeLegs$Crowd" "runs" "[Z", .methodLink RX5 140 yX5_isFeet, .static yX5_isFeet, .initialized RX5, .code yX5_isFeet cX5_isFeet 1 (some .boolean), .methodLink RX5 56 yX5_isWithin, .static yX5_isWithin, .code yX5_isWithin cX5_isWithin 3 (some .boolean)] ++ wsX50 ++ wsX00)
def wsX5_timeTo_r1 : List Cond := [Cond.fieldLink RX5 34 "ThreeLegs" "walk" "LThreeLegs$Walk;", Cond.fieldLink RX5 10 "ThreeLegs" "crowd" "LThreeLegs$Crowd;", Cond.methodLink RX5 100 yX4_tie, Cond.instanceMethod yX4_tie, Cond.selects RX4 yX4_tie yX4_tie, Cond.initialized RX4, Cond.code yX4_tie cX4_tie 4 none, Cond.fieldLink RX4 15 "ThreeLegs$Crowd" "beat" "[I", Cond.fieldLink RX4 19 "ThreeLegs$Walk" "firstBeat" "I", Cond.fieldLink RX4 25 "ThreeLegs$Walk" "otherBeat" "I", Cond.fieldLink RX4 28 "ThreeLegs$Crowd" "give" "[I", Cond.fieldLink RX4 31 "ThreeLegs$Walk" "firstGive" "I", Cond.fieldLink RX4 34 "ThreeLegs$Walk" "otherGive" "I", Cond.fieldLink RX4 37 "ThreeLegs$Crowd" "length" "[I", Cond.methodLink RX4 40 Lib.Math.min.name, Cond.static Lib.Math.min.name, Cond.initialized "java/lang/Math", Cond.code Lib.Math.min.name Lib.Math.min.code 2 (some .int), Cond.fieldLink RX4 46 "ThreeLegs$Walk" "stride" "I", Cond.fieldLink RX4 49 "ThreeLegs$Crowd" "lurch" "I", Cond.fieldLink RX4 52 "ThreeLegs$Walk" "lurch" "I", Cond.fieldLink RX4 53 "ThreeLegs$Crowd" "fall" "I", Cond.fieldLink RX4 56 "ThreeLegs$Walk" "fall" "I", Cond.fieldLink RX4 57 "ThreeLegs$Crowd" "up" "I"]
def wsX5_timeTo_r2 : List Cond := [Cond.fieldLink RX4 60 "ThreeLegs$Walk" "up" "I", Cond.fieldLink RX4 61 "ThreeLegs$Walk" "firstTime" "I", Cond.fieldLink RX4 64 "ThreeLegs$Walk" "otherTime" "I", Cond.fieldLink RX4 67 "ThreeLegs$Walk" "steps" "I", Cond.fieldLink RX4 70 "ThreeLegs$Walk" "feet" "I", Cond.fieldLink RX4 73 "ThreeLegs$Walk" "lurches" "I", Cond.fieldLink RX4 76 "ThreeLegs$Walk" "falls" "I", Cond.methodLink RX4 9 yX0_canTie, Cond.instanceMethod yX0_canTie, Cond.selects RX0 yX0_canTie yX0_canTie, Cond.initialized RX0, Cond.code yX0_canTie cX0_canTie 3 (some .boolean), Cond.methodLink RX0 35 yX0_hasRunner, Cond.instanceMethod yX0_hasRunner, Cond.selects RX0 yX0_hasRunner yX0_hasRunner, Cond.code yX0_hasRunner cX0_hasRunner 2 (some .boolean), Cond.fieldLink RX0 9 "ThreeLegs$Crowd" "runs" "[Z", Cond.methodLink RX5 168 yX4_timeTo, Cond.instanceMethod yX4_timeTo, Cond.selects RX4 yX4_timeTo yX4_timeTo, Cond.code yX4_timeTo cX4_timeTo 4 (some .int), Cond.methodLink RX4 98 yX4_speedUp, Cond.instanceMethod yX4_speedUp, Cond.selects RX4 yX4_speedUp yX4_speedUp]
def wsX5_timeTo_r3 : List Cond := [Cond.code yX4_speedUp cX4_speedUp 1 none, Cond.methodLink RX4 79 Lib.Math.max.name, Cond.static Lib.Math.max.name, Cond.code Lib.Math.max.name Lib.Math.max.code 2 (some .int), Cond.methodLink RX4 101 yX4_step, Cond.instanceMethod yX4_step, Cond.selects RX4 yX4_step yX4_step, Cond.code yX4_step cX4_step 3 none, Cond.fieldLink RX4 86 "ThreeLegs$Walk" "firstWasEarlier" "Z", Cond.fieldLink RX4 94 "ThreeLegs$Walk" "sign" "C", Cond.methodLink RX4 90 yX4_apart, Cond.instanceMethod yX4_apart, Cond.selects RX4 yX4_apart yX4_apart, Cond.code yX4_apart cX4_apart 1 (some .int), Cond.methodLink RX4 82 Lib.Math.abs.name, Cond.static Lib.Math.abs.name, Cond.code Lib.Math.abs.name Lib.Math.abs.code 1 (some .int), Cond.methodLink RX4 104 yX4_time, Cond.instanceMethod yX4_time, Cond.selects RX4 yX4_time yX4_time, Cond.code yX4_time cX4_time 1 (some .int)]
def wsX5_timeTo : List Cond := .code yX5_timeTo cX5_timeTo 4 (some .int) :: ((wsX5_timeTo_r1 ++ (wsX5_timeTo_r2 ++ wsX5_timeTo_r3)) ++ wsX50 ++ wsX00 ++ wsX40)
def wsX5_reach_r1 : List Cond := [Cond.fieldLink RX5 34 "ThreeLegs" "walk" "LThreeLegs$Walk;", Cond.fieldLink RX5 130 "ThreeLegs$Walk" "steps" "I", Cond.methodLink RX5 122 yX5_refusalOfRace, Cond.instanceMethod yX5_refusalOfRace, Cond.selects RX5 yX5_refusalOfRace yX5_refusalOfRace, Cond.initialized RX5, Cond.code yX5_refusalOfRace cX5_refusalOfRace 5 (some .int), Cond.fieldLink RX5 10 "ThreeLegs" "crowd" "LThreeLegs$Crowd;", Cond.methodLink RX5 96 yX0_canTie, Cond.instanceMethod yX0_canTie, Cond.selects RX0 yX0_canTie yX0_canTie, Cond.initialized RX0, Cond.code yX0_canTie cX0_canTie 3 (some .boolean), Cond.methodLink RX0 35 yX0_hasRunner, Cond.instanceMethod yX0_hasRunner, Cond.selects RX0 yX0_hasRunner yX0_hasRunner, Cond.code yX0_hasRunner cX0_hasRunner 2 (some .boolean), Cond.fieldLink RX0 9 "ThreeLegs$Crowd" "runs" "[Z", Cond.methodLink RX5 140 yX5_isFeet, Cond.static yX5_isFeet, Cond.code yX5_isFeet cX5_isFeet 1 (some .boolean), Cond.methodLink RX5 56 yX5_isWithin, Cond.static yX5_isWithin, Cond.code yX5_isWithin cX5_isWithin 3 (some .boolean)]
def wsX5_reach_r2 : List Cond := [Cond.methodLink RX5 126 yX5_timeTo, Cond.instanceMethod yX5_timeTo, Cond.selects RX5 yX5_timeTo yX5_timeTo, Cond.code yX5_timeTo cX5_timeTo 4 (some .int), Cond.methodLink RX5 100 yX4_tie, Cond.instanceMethod yX4_tie, Cond.selects RX4 yX4_tie yX4_tie, Cond.initialized RX4, Cond.code yX4_tie cX4_tie 4 none, Cond.fieldLink RX4 15 "ThreeLegs$Crowd" "beat" "[I", Cond.fieldLink RX4 19 "ThreeLegs$Walk" "firstBeat" "I", Cond.fieldLink RX4 25 "ThreeLegs$Walk" "otherBeat" "I", Cond.fieldLink RX4 28 "ThreeLegs$Crowd" "give" "[I", Cond.fieldLink RX4 31 "ThreeLegs$Walk" "firstGive" "I", Cond.fieldLink RX4 34 "ThreeLegs$Walk" "otherGive" "I", Cond.fieldLink RX4 37 "ThreeLegs$Crowd" "length" "[I", Cond.methodLink RX4 40 Lib.Math.min.name, Cond.static Lib.Math.min.name, Cond.initialized "java/lang/Math", Cond.code Lib.Math.min.name Lib.Math.min.code 2 (some .int), Cond.fieldLink RX4 46 "ThreeLegs$Walk" "stride" "I", Cond.fieldLink RX4 49 "ThreeLegs$Crowd" "lurch" "I", Cond.fieldLink RX4 52 "ThreeLegs$Walk" "lurch" "I", Cond.fieldLink RX4 53 "ThreeLegs$Crowd" "fall" "I"]
def wsX5_reach_r3 : List Cond := [Cond.fieldLink RX4 56 "ThreeLegs$Walk" "fall" "I", Cond.fieldLink RX4 57 "ThreeLegs$Crowd" "up" "I", Cond.fieldLink RX4 60 "ThreeLegs$Walk" "up" "I", Cond.fieldLink RX4 61 "ThreeLegs$Walk" "firstTime" "I", Cond.fieldLink RX4 64 "ThreeLegs$Walk" "otherTime" "I", Cond.fieldLink RX4 67 "ThreeLegs$Walk" "steps" "I", Cond.fieldLink RX4 70 "ThreeLegs$Walk" "feet" "I", Cond.fieldLink RX4 73 "ThreeLegs$Walk" "lurches" "I", Cond.fieldLink RX4 76 "ThreeLegs$Walk" "falls" "I", Cond.methodLink RX4 9 yX0_canTie, Cond.methodLink RX5 168 yX4_timeTo, Cond.instanceMethod yX4_timeTo, Cond.selects RX4 yX4_timeTo yX4_timeTo, Cond.code yX4_timeTo cX4_timeTo 4 (some .int), Cond.methodLink RX4 98 yX4_speedUp, Cond.instanceMethod yX4_speedUp, Cond.selects RX4 yX4_speedUp yX4_speedUp, Cond.code yX4_speedUp cX4_speedUp 1 none, Cond.methodLink RX4 79 Lib.Math.max.name, Cond.static Lib.Math.max.name, Cond.code Lib.Math.max.name Lib.Math.max.code 2 (some .int), Cond.methodLink RX4 101 yX4_step, Cond.instanceMethod yX4_step, Cond.selects RX4 yX4_step yX4_step]
def wsX5_reach_r4 : List Cond := [Cond.code yX4_step cX4_step 3 none, Cond.fieldLink RX4 86 "ThreeLegs$Walk" "firstWasEarlier" "Z", Cond.fieldLink RX4 94 "ThreeLegs$Walk" "sign" "C", Cond.methodLink RX4 90 yX4_apart, Cond.instanceMethod yX4_apart, Cond.selects RX4 yX4_apart yX4_apart, Cond.code yX4_apart cX4_apart 1 (some .int), Cond.methodLink RX4 82 Lib.Math.abs.name, Cond.static Lib.Math.abs.name, Cond.code Lib.Math.abs.name Lib.Math.abs.code 1 (some .int), Cond.methodLink RX4 104 yX4_time, Cond.instanceMethod yX4_time, Cond.selects RX4 yX4_time yX4_time, Cond.code yX4_time cX4_time 1 (some .int)]
def wsX5_reach : List Cond := .code yX5_reach cX5_reach 7 (some .int) :: ((wsX5_reach_r1 ++ (wsX5_reach_r2 ++ (wsX5_reach_r3 ++ wsX5_reach_r4))) ++ wsX50 ++ wsX40 ++ wsX00)
def wsX5_who_r1 : List Cond := [Cond.fieldLink RX5 10 "ThreeLegs" "crowd" "LThreeLegs$Crowd;", Cond.fieldLink RX5 34 "ThreeLegs" "walk" "LThreeLegs$Walk;", Cond.fieldLink RX5 130 "ThreeLegs$Walk" "steps" "I", Cond.fieldLink RX5 136 "ThreeLegs$Walk" "firstWasEarlier" "Z", Cond.methodLink RX5 96 yX0_canTie, Cond.instanceMethod yX0_canTie, Cond.selects RX0 yX0_canTie yX0_canTie, Cond.initialized RX0, Cond.code yX0_canTie cX0_canTie 3 (some .boolean), Cond.methodLink RX0 35 yX0_hasRunner, Cond.instanceMethod yX0_hasRunner, Cond.selects RX0 yX0_hasRunner yX0_hasRunner, Cond.code yX0_hasRunner cX0_hasRunner 2 (some .boolean), Cond.fieldLink RX0 9 "ThreeLegs$Crowd" "runs" "[Z", Cond.methodLink RX5 56 yX5_isWithin, Cond.static yX5_isWithin, Cond.initialized RX5, Cond.code yX5_isWithin cX5_isWithin 3 (some .boolean), Cond.methodLink RX5 100 yX4_tie, Cond.instanceMethod yX4_tie, Cond.selects RX4 yX4_tie yX4_tie, Cond.initialized RX4, Cond.code yX4_tie cX4_tie 4 none, Cond.fieldLink RX4 15 "ThreeLegs$Crowd" "beat" "[I"]
def wsX5_who_r2 : List Cond := [Cond.fieldLink RX4 19 "ThreeLegs$Walk" "firstBeat" "I", Cond.fieldLink RX4 25 "ThreeLegs$Walk" "otherBeat" "I", Cond.fieldLink RX4 28 "ThreeLegs$Crowd" "give" "[I", Cond.fieldLink RX4 31 "ThreeLegs$Walk" "firstGive" "I", Cond.fieldLink RX4 34 "ThreeLegs$Walk" "otherGive" "I", Cond.fieldLink RX4 37 "ThreeLegs$Crowd" "length" "[I", Cond.methodLink RX4 40 Lib.Math.min.name, Cond.static Lib.Math.min.name, Cond.initialized "java/lang/Math", Cond.code Lib.Math.min.name Lib.Math.min.code 2 (some .int), Cond.fieldLink RX4 46 "ThreeLegs$Walk" "stride" "I", Cond.fieldLink RX4 49 "ThreeLegs$Crowd" "lurch" "I", Cond.fieldLink RX4 52 "ThreeLegs$Walk" "lurch" "I", Cond.fieldLink RX4 53 "ThreeLegs$Crowd" "fall" "I", Cond.fieldLink RX4 56 "ThreeLegs$Walk" "fall" "I", Cond.fieldLink RX4 57 "ThreeLegs$Crowd" "up" "I", Cond.fieldLink RX4 60 "ThreeLegs$Walk" "up" "I", Cond.fieldLink RX4 61 "ThreeLegs$Walk" "firstTime" "I", Cond.fieldLink RX4 64 "ThreeLegs$Walk" "otherTime" "I", Cond.fieldLink RX4 67 "ThreeLegs$Walk" "steps" "I", Cond.fieldLink RX4 70 "ThreeLegs$Walk" "feet" "I", Cond.fieldLink RX4 73 "ThreeLegs$Walk" "lurches" "I", Cond.fieldLink RX4 76 "ThreeLegs$Walk" "falls" "I", Cond.methodLink RX4 9 yX0_canTie]
def wsX5_who_r3 : List Cond := [Cond.methodLink RX5 133 yX4_standsFor, Cond.instanceMethod yX4_standsFor, Cond.selects RX4 yX4_standsFor yX4_standsFor, Cond.code yX4_standsFor cX4_standsFor 3 (some .boolean), Cond.methodLink RX4 101 yX4_step, Cond.instanceMethod yX4_step, Cond.selects RX4 yX4_step yX4_step, Cond.code yX4_step cX4_step 3 none, Cond.methodLink RX4 79 Lib.Math.max.name, Cond.static Lib.Math.max.name, Cond.code Lib.Math.max.name Lib.Math.max.code 2 (some .int), Cond.fieldLink RX4 86 "ThreeLegs$Walk" "firstWasEarlier" "Z", Cond.fieldLink RX4 94 "ThreeLegs$Walk" "sign" "C", Cond.methodLink RX4 90 yX4_apart, Cond.instanceMethod yX4_apart, Cond.selects RX4 yX4_apart yX4_apart, Cond.code yX4_apart cX4_apart 1 (some .int), Cond.methodLink RX4 82 Lib.Math.abs.name, Cond.static Lib.Math.abs.name, Cond.code Lib.Math.abs.name Lib.Math.abs.code 1 (some .int)]
def wsX5_who : List Cond := .code yX5_who cX5_who 4 (some .int) :: ((wsX5_who_r1 ++ (wsX5_who_r2 ++ wsX5_who_r3)) ++ wsX50 ++ wsX40 ++ wsX00)
def wsX5_alone : List Cond := .code yX5_alone cX5_alone 6 (some .int) :: ([.fieldLink RX5 10 "ThreeLegs" "crowd" "LThreeLegs$Crowd;", .fieldLink RX5 143 "ThreeLegs$Crowd" "length" "[I", .fieldLink RX5 146 "ThreeLegs$Crowd" "beat" "[I", .methodLink RX5 68 yX0_hasRunner, .instanceMethod yX0_hasRunner, .selects RX0 yX0_hasRunner yX0_hasRunner, .initialized RX0, .code yX0_hasRunner cX0_hasRunner 2 (some .boolean), .fieldLink RX0 9 "ThreeLegs$Crowd" "runs" "[Z", .methodLink RX5 140 yX5_isFeet, .static yX5_isFeet, .initialized RX5, .code yX5_isFeet cX5_isFeet 1 (some .boolean), .methodLink RX5 56 yX5_isWithin, .static yX5_isWithin, .code yX5_isWithin cX5_isWithin 3 (some .boolean)] ++ wsX50 ++ wsX00)
def wsX5_timeAllPairs_r1 : List Cond := [Cond.fieldLink RX5 10 "ThreeLegs" "crowd" "LThreeLegs$Crowd;", Cond.fieldLink RX5 52 "ThreeLegs" "times" "[I", Cond.methodLink RX5 96 yX0_canTie, Cond.instanceMethod yX0_canTie, Cond.selects RX0 yX0_canTie yX0_canTie, Cond.initialized RX0, Cond.code yX0_canTie cX0_canTie 3 (some .boolean), Cond.methodLink RX0 35 yX0_hasRunner, Cond.instanceMethod yX0_hasRunner, Cond.selects RX0 yX0_hasRunner yX0_hasRunner, Cond.code yX0_hasRunner cX0_hasRunner 2 (some .boolean), Cond.fieldLink RX0 9 "ThreeLegs$Crowd" "runs" "[Z", Cond.methodLink RX5 126 yX5_timeTo, Cond.instanceMethod yX5_timeTo, Cond.selects RX5 yX5_timeTo yX5_timeTo, Cond.initialized RX5, Cond.code yX5_timeTo cX5_timeTo 4 (some .int), Cond.fieldLink RX5 34 "ThreeLegs" "walk" "LThreeLegs$Walk;", Cond.methodLink RX5 100 yX4_tie, Cond.instanceMethod yX4_tie, Cond.selects RX4 yX4_tie yX4_tie, Cond.initialized RX4, Cond.code yX4_tie cX4_tie 4 none, Cond.fieldLink RX4 15 "ThreeLegs$Crowd" "beat" "[I"]
def wsX5_timeAllPairs_r2 : List Cond := [Cond.fieldLink RX4 19 "ThreeLegs$Walk" "firstBeat" "I", Cond.fieldLink RX4 25 "ThreeLegs$Walk" "otherBeat" "I", Cond.fieldLink RX4 28 "ThreeLegs$Crowd" "give" "[I", Cond.fieldLink RX4 31 "ThreeLegs$Walk" "firstGive" "I", Cond.fieldLink RX4 34 "ThreeLegs$Walk" "otherGive" "I", Cond.fieldLink RX4 37 "ThreeLegs$Crowd" "length" "[I", Cond.methodLink RX4 40 Lib.Math.min.name, Cond.static Lib.Math.min.name, Cond.initialized "java/lang/Math", Cond.code Lib.Math.min.name Lib.Math.min.code 2 (some .int), Cond.fieldLink RX4 46 "ThreeLegs$Walk" "stride" "I", Cond.fieldLink RX4 49 "ThreeLegs$Crowd" "lurch" "I", Cond.fieldLink RX4 52 "ThreeLegs$Walk" "lurch" "I", Cond.fieldLink RX4 53 "ThreeLegs$Crowd" "fall" "I", Cond.fieldLink RX4 56 "ThreeLegs$Walk" "fall" "I", Cond.fieldLink RX4 57 "ThreeLegs$Crowd" "up" "I", Cond.fieldLink RX4 60 "ThreeLegs$Walk" "up" "I", Cond.fieldLink RX4 61 "ThreeLegs$Walk" "firstTime" "I", Cond.fieldLink RX4 64 "ThreeLegs$Walk" "otherTime" "I", Cond.fieldLink RX4 67 "ThreeLegs$Walk" "steps" "I", Cond.fieldLink RX4 70 "ThreeLegs$Walk" "feet" "I", Cond.fieldLink RX4 73 "ThreeLegs$Walk" "lurches" "I", Cond.fieldLink RX4 76 "ThreeLegs$Walk" "falls" "I", Cond.methodLink RX4 9 yX0_canTie]
def wsX5_timeAllPairs_r3 : List Cond := [Cond.methodLink RX5 168 yX4_timeTo, Cond.instanceMethod yX4_timeTo, Cond.selects RX4 yX4_timeTo yX4_timeTo, Cond.code yX4_timeTo cX4_timeTo 4 (some .int), Cond.methodLink RX4 98 yX4_speedUp, Cond.instanceMethod yX4_speedUp, Cond.selects RX4 yX4_speedUp yX4_speedUp, Cond.code yX4_speedUp cX4_speedUp 1 none, Cond.methodLink RX4 79 Lib.Math.max.name, Cond.static Lib.Math.max.name, Cond.code Lib.Math.max.name Lib.Math.max.code 2 (some .int), Cond.methodLink RX4 101 yX4_step, Cond.instanceMethod yX4_step, Cond.selects RX4 yX4_step yX4_step, Cond.code yX4_step cX4_step 3 none, Cond.fieldLink RX4 86 "ThreeLegs$Walk" "firstWasEarlier" "Z", Cond.fieldLink RX4 94 "ThreeLegs$Walk" "sign" "C", Cond.methodLink RX4 90 yX4_apart, Cond.instanceMethod yX4_apart, Cond.selects RX4 yX4_apart yX4_apart, Cond.code yX4_apart cX4_apart 1 (some .int), Cond.methodLink RX4 82 Lib.Math.abs.name, Cond.static Lib.Math.abs.name, Cond.code Lib.Math.abs.name Lib.Math.abs.code 1 (some .int)]
def wsX5_timeAllPairs_r4 : List Cond := [Cond.methodLink RX4 104 yX4_time, Cond.instanceMethod yX4_time, Cond.selects RX4 yX4_time yX4_time, Cond.code yX4_time cX4_time 1 (some .int)]
def wsX5_timeAllPairs : List Cond := .code yX5_timeAllPairs cX5_timeAllPairs 5 none :: ((wsX5_timeAllPairs_r1 ++ (wsX5_timeAllPairs_r2 ++ (wsX5_timeAllPairs_r3 ++ wsX5_timeAllPairs_r4))) ++ wsX50 ++ wsX00 ++ wsX40)
def wsX5_tied_r1 : List Cond := [Cond.fieldLink RX5 10 "ThreeLegs" "crowd" "LThreeLegs$Crowd;", Cond.fieldLink RX5 41 "ThreeLegs" "knots" "LThreeLegs$Knots;", Cond.fieldLink RX5 52 "ThreeLegs" "times" "[I", Cond.fieldLink RX5 156 "ThreeLegs$Knots" "least" "I", Cond.fieldLink RX5 159 "ThreeLegs$Knots" "bestMate" "[I", Cond.methodLink RX5 64 yX0_count, Cond.instanceMethod yX0_count, Cond.selects RX0 yX0_count yX0_count, Cond.initialized RX0, Cond.code yX0_count cX0_count 1 (some .int), Cond.methodLink RX0 39 yX0_bits, Cond.instanceMethod yX0_bits, Cond.selects RX0 yX0_bits yX0_bits, Cond.code yX0_bits cX0_bits 3 (some .int), Cond.fieldLink RX0 9 "ThreeLegs$Crowd" "runs" "[Z", Cond.methodLink RX0 43 yJ6_bitCount_0f7a4, Cond.static yJ6_bitCount_0f7a4, Cond.initialized RJ6, Cond.code yJ6_bitCount_0f7a4 cJ6_bitCount_0f7a4 1 (some .int), Cond.constant RJ6 265 (1431655765), Cond.constant RJ6 266 (858993459), Cond.constant RJ6 267 (252645135), Cond.methodLink RX5 68 yX0_hasRunner, Cond.instanceMethod yX0_hasRunner]
def wsX5_tied_r2 : List Cond := [Cond.selects RX0 yX0_hasRunner yX0_hasRunner, Cond.code yX0_hasRunner cX0_hasRunner 2 (some .boolean), Cond.methodLink RX5 140 yX5_isFeet, Cond.static yX5_isFeet, Cond.initialized RX5, Cond.code yX5_isFeet cX5_isFeet 1 (some .boolean), Cond.methodLink RX5 56 yX5_isWithin, Cond.static yX5_isWithin, Cond.code yX5_isWithin cX5_isWithin 3 (some .boolean), Cond.methodLink RX5 149 yX5_timeAllPairs, Cond.instanceMethod yX5_timeAllPairs, Cond.selects RX5 yX5_timeAllPairs yX5_timeAllPairs, Cond.code yX5_timeAllPairs cX5_timeAllPairs 5 none, Cond.methodLink RX5 96 yX0_canTie, Cond.instanceMethod yX0_canTie, Cond.selects RX0 yX0_canTie yX0_canTie, Cond.code yX0_canTie cX0_canTie 3 (some .boolean), Cond.methodLink RX0 35 yX0_hasRunner, Cond.methodLink RX5 126 yX5_timeTo, Cond.instanceMethod yX5_timeTo, Cond.selects RX5 yX5_timeTo yX5_timeTo, Cond.code yX5_timeTo cX5_timeTo 4 (some .int), Cond.fieldLink RX5 34 "ThreeLegs" "walk" "LThreeLegs$Walk;", Cond.methodLink RX5 100 yX4_tie]
def wsX5_tied_r3 : List Cond := [Cond.instanceMethod yX4_tie, Cond.selects RX4 yX4_tie yX4_tie, Cond.initialized RX4, Cond.code yX4_tie cX4_tie 4 none, Cond.fieldLink RX4 15 "ThreeLegs$Crowd" "beat" "[I", Cond.fieldLink RX4 19 "ThreeLegs$Walk" "firstBeat" "I", Cond.fieldLink RX4 25 "ThreeLegs$Walk" "otherBeat" "I", Cond.fieldLink RX4 28 "ThreeLegs$Crowd" "give" "[I", Cond.fieldLink RX4 31 "ThreeLegs$Walk" "firstGive" "I", Cond.fieldLink RX4 34 "ThreeLegs$Walk" "otherGive" "I", Cond.fieldLink RX4 37 "ThreeLegs$Crowd" "length" "[I", Cond.methodLink RX4 40 Lib.Math.min.name, Cond.static Lib.Math.min.name, Cond.initialized "java/lang/Math", Cond.code Lib.Math.min.name Lib.Math.min.code 2 (some .int), Cond.fieldLink RX4 46 "ThreeLegs$Walk" "stride" "I", Cond.fieldLink RX4 49 "ThreeLegs$Crowd" "lurch" "I", Cond.fieldLink RX4 52 "ThreeLegs$Walk" "lurch" "I", Cond.fieldLink RX4 53 "ThreeLegs$Crowd" "fall" "I", Cond.fieldLink RX4 56 "ThreeLegs$Walk" "fall" "I", Cond.fieldLink RX4 57 "ThreeLegs$Crowd" "up" "I", Cond.fieldLink RX4 60 "ThreeLegs$Walk" "up" "I", Cond.fieldLink RX4 61 "ThreeLegs$Walk" "firstTime" "I", Cond.fieldLink RX4 64 "ThreeLegs$Walk" "otherTime" "I"]
def wsX5_tied_r4 : List Cond := [Cond.fieldLink RX4 67 "ThreeLegs$Walk" "steps" "I", Cond.fieldLink RX4 70 "ThreeLegs$Walk" "feet" "I", Cond.fieldLink RX4 73 "ThreeLegs$Walk" "lurches" "I", Cond.fieldLink RX4 76 "ThreeLegs$Walk" "falls" "I", Cond.methodLink RX4 9 yX0_canTie, Cond.methodLink RX5 168 yX4_timeTo, Cond.instanceMethod yX4_timeTo, Cond.selects RX4 yX4_timeTo yX4_timeTo, Cond.code yX4_timeTo cX4_timeTo 4 (some .int), Cond.methodLink RX4 98 yX4_speedUp, Cond.instanceMethod yX4_speedUp, Cond.selects RX4 yX4_speedUp yX4_speedUp, Cond.code yX4_speedUp cX4_speedUp 1 none, Cond.methodLink RX4 79 Lib.Math.max.name, Cond.static Lib.Math.max.name, Cond.code Lib.Math.max.name Lib.Math.max.code 2 (some .int), Cond.methodLink RX4 101 yX4_step, Cond.instanceMethod yX4_step, Cond.selects RX4 yX4_step yX4_step, Cond.code yX4_step cX4_step 3 none, Cond.fieldLink RX4 86 "ThreeLegs$Walk" "firstWasEarlier" "Z", Cond.fieldLink RX4 94 "ThreeLegs$Walk" "sign" "C", Cond.methodLink RX4 90 yX4_apart, Cond.instanceMethod yX4_apart]
def wsX5_tied_r5 : List Cond := [Cond.selects RX4 yX4_apart yX4_apart, Cond.code yX4_apart cX4_apart 1 (some .int), Cond.methodLink RX4 82 Lib.Math.abs.name, Cond.static Lib.Math.abs.name, Cond.code Lib.Math.abs.name Lib.Math.abs.code 1 (some .int), Cond.methodLink RX4 104 yX4_time, Cond.instanceMethod yX4_time, Cond.selects RX4 yX4_time yX4_time, Cond.code yX4_time cX4_time 1 (some .int), Cond.methodLink RX5 152 yX2_seek, Cond.instanceMethod yX2_seek, Cond.selects RX2 yX2_seek yX2_seek, Cond.initialized RX2, Cond.code yX2_seek cX2_seek 7 none, Cond.fieldLink RX2 30 "ThreeLegs$Knots" "people" "I", Cond.fieldLink RX2 11 "ThreeLegs$Knots" "picks" "[I", Cond.constant RX2 36 (2147483647), Cond.fieldLink RX2 37 "ThreeLegs$Knots" "least" "I", Cond.fieldLink RX2 18 "ThreeLegs$Knots" "mate" "[I", Cond.fieldLink RX2 21 "ThreeLegs$Knots" "bestMate" "[I", Cond.methodLink RX2 44 arraycopyName, Cond.native arraycopyName, Cond.static arraycopyName, Cond.initialized "java/lang/System"]
def wsX5_tied_r6 : List Cond := [Cond.methodLink RX2 24 yX0_count, Cond.methodLink RX2 40 yX2_costOfPicks, Cond.instanceMethod yX2_costOfPicks, Cond.selects RX2 yX2_costOfPicks yX2_costOfPicks, Cond.code yX2_costOfPicks cX2_costOfPicks 11 (some .int), Cond.fieldLink RX2 15 "ThreeLegs$Knots" "free" "[I", Cond.constant RX2 58 (100000), Cond.methodLink RX2 59 Lib.Math.max.name, Cond.methodLink RX2 54 yX2_lineUp, Cond.instanceMethod yX2_lineUp, Cond.selects RX2 yX2_lineUp yX2_lineUp, Cond.code yX2_lineUp cX2_lineUp 4 (some .int), Cond.methodLink RX2 69 yX0_hasRunner, Cond.methodLink RX2 65 yX2_takeOut, Cond.instanceMethod yX2_takeOut, Cond.selects RX2 yX2_takeOut yX2_takeOut, Cond.code yX2_takeOut cX2_takeOut 4 none, Cond.methodLink RX2 50 yX2_goToNextPicks, Cond.instanceMethod yX2_goToNextPicks, Cond.selects RX2 yX2_goToNextPicks yX2_goToNextPicks, Cond.code yX2_goToNextPicks cX2_goToNextPicks 2 (some .boolean)]
def wsX5_tied : List Cond := .code yX5_tied cX5_tied 5 (some .int) :: ((wsX5_tied_r1 ++ (wsX5_tied_r2 ++ (wsX5_tied_r3 ++ (wsX5_tied_r4 ++ (wsX5_tied_r5 ++ wsX5_tied_r6))))) ++ wsX50 ++ wsX20 ++ wsX00 ++ wsX40)
def wsX5_call_r1 : List Cond := [Cond.fieldLink RX5 48 "ThreeLegs" "soonest" "LThreeLegs$Soonest;", Cond.fieldLink RX5 34 "ThreeLegs" "walk" "LThreeLegs$Walk;", Cond.fieldLink RX5 10 "ThreeLegs" "crowd" "LThreeLegs$Crowd;", Cond.methodLink RX5 122 yX5_refusalOfRace, Cond.instanceMethod yX5_refusalOfRace, Cond.selects RX5 yX5_refusalOfRace yX5_refusalOfRace, Cond.initialized RX5, Cond.code yX5_refusalOfRace cX5_refusalOfRace 5 (some .int), Cond.methodLink RX5 96 yX0_canTie, Cond.instanceMethod yX0_canTie, Cond.selects RX0 yX0_canTie yX0_canTie, Cond.initialized RX0, Cond.code yX0_canTie cX0_canTie 3 (some .boolean), Cond.methodLink RX0 35 yX0_hasRunner, Cond.instanceMethod yX0_hasRunner, Cond.selects RX0 yX0_hasRunner yX0_hasRunner, Cond.code yX0_hasRunner cX0_hasRunner 2 (some .boolean), Cond.fieldLink RX0 9 "ThreeLegs$Crowd" "runs" "[Z", Cond.methodLink RX5 140 yX5_isFeet, Cond.static yX5_isFeet, Cond.code yX5_isFeet cX5_isFeet 1 (some .boolean), Cond.methodLink RX5 56 yX5_isWithin, Cond.static yX5_isWithin, Cond.code yX5_isWithin cX5_isWithin 3 (some .boolean)]
def wsX5_call_r2 : List Cond := [Cond.methodLink RX5 162 yX3_clear, Cond.instanceMethod yX3_clear, Cond.selects RX3 yX3_clear yX3_clear, Cond.initialized RX3, Cond.code yX3_clear cX3_clear 1 none, Cond.fieldLink RX3 9 "ThreeLegs$Soonest" "time" "I", Cond.fieldLink RX3 15 "ThreeLegs$Soonest" "key" "I", Cond.methodLink RX5 100 yX4_tie, Cond.instanceMethod yX4_tie, Cond.selects RX4 yX4_tie yX4_tie, Cond.initialized RX4, Cond.code yX4_tie cX4_tie 4 none, Cond.fieldLink RX4 15 "ThreeLegs$Crowd" "beat" "[I", Cond.fieldLink RX4 19 "ThreeLegs$Walk" "firstBeat" "I", Cond.fieldLink RX4 25 "ThreeLegs$Walk" "otherBeat" "I", Cond.fieldLink RX4 28 "ThreeLegs$Crowd" "give" "[I", Cond.fieldLink RX4 31 "ThreeLegs$Walk" "firstGive" "I", Cond.fieldLink RX4 34 "ThreeLegs$Walk" "otherGive" "I", Cond.fieldLink RX4 37 "ThreeLegs$Crowd" "length" "[I", Cond.methodLink RX4 40 Lib.Math.min.name, Cond.static Lib.Math.min.name, Cond.initialized "java/lang/Math", Cond.code Lib.Math.min.name Lib.Math.min.code 2 (some .int), Cond.fieldLink RX4 46 "ThreeLegs$Walk" "stride" "I"]
def wsX5_call_r3 : List Cond := [Cond.fieldLink RX4 49 "ThreeLegs$Crowd" "lurch" "I", Cond.fieldLink RX4 52 "ThreeLegs$Walk" "lurch" "I", Cond.fieldLink RX4 53 "ThreeLegs$Crowd" "fall" "I", Cond.fieldLink RX4 56 "ThreeLegs$Walk" "fall" "I", Cond.fieldLink RX4 57 "ThreeLegs$Crowd" "up" "I", Cond.fieldLink RX4 60 "ThreeLegs$Walk" "up" "I", Cond.fieldLink RX4 61 "ThreeLegs$Walk" "firstTime" "I", Cond.fieldLink RX4 64 "ThreeLegs$Walk" "otherTime" "I", Cond.fieldLink RX4 67 "ThreeLegs$Walk" "steps" "I", Cond.fieldLink RX4 70 "ThreeLegs$Walk" "feet" "I", Cond.fieldLink RX4 73 "ThreeLegs$Walk" "lurches" "I", Cond.fieldLink RX4 76 "ThreeLegs$Walk" "falls" "I", Cond.methodLink RX4 9 yX0_canTie, Cond.methodLink RX5 165 yX4_beatBoth, Cond.instanceMethod yX4_beatBoth, Cond.selects RX4 yX4_beatBoth yX4_beatBoth, Cond.code yX4_beatBoth cX4_beatBoth 2 none, Cond.methodLink RX5 168 yX4_timeTo, Cond.instanceMethod yX4_timeTo, Cond.selects RX4 yX4_timeTo yX4_timeTo, Cond.code yX4_timeTo cX4_timeTo 4 (some .int), Cond.methodLink RX4 98 yX4_speedUp, Cond.instanceMethod yX4_speedUp, Cond.selects RX4 yX4_speedUp yX4_speedUp]
def wsX5_call_r4 : List Cond := [Cond.code yX4_speedUp cX4_speedUp 1 none, Cond.methodLink RX4 79 Lib.Math.max.name, Cond.static Lib.Math.max.name, Cond.code Lib.Math.max.name Lib.Math.max.code 2 (some .int), Cond.methodLink RX4 101 yX4_step, Cond.instanceMethod yX4_step, Cond.selects RX4 yX4_step yX4_step, Cond.code yX4_step cX4_step 3 none, Cond.fieldLink RX4 86 "ThreeLegs$Walk" "firstWasEarlier" "Z", Cond.fieldLink RX4 94 "ThreeLegs$Walk" "sign" "C", Cond.methodLink RX4 90 yX4_apart, Cond.instanceMethod yX4_apart, Cond.selects RX4 yX4_apart yX4_apart, Cond.code yX4_apart cX4_apart 1 (some .int), Cond.methodLink RX4 82 Lib.Math.abs.name, Cond.static Lib.Math.abs.name, Cond.code Lib.Math.abs.name Lib.Math.abs.code 1 (some .int), Cond.methodLink RX4 104 yX4_time, Cond.instanceMethod yX4_time, Cond.selects RX4 yX4_time yX4_time, Cond.code yX4_time cX4_time 1 (some .int), Cond.methodLink RX5 171 yX3_offer, Cond.instanceMethod yX3_offer, Cond.selects RX3 yX3_offer yX3_offer]
def wsX5_call_r5 : List Cond := [Cond.code yX3_offer cX3_offer 3 none, Cond.methodLink RX5 175 yX3_answer, Cond.instanceMethod yX3_answer, Cond.selects RX3 yX3_answer yX3_answer, Cond.code yX3_answer cX3_answer 2 (some .int)]
def wsX5_call : List Cond := .code yX5_call cX5_call 7 (some .int) :: ((wsX5_call_r1 ++ (wsX5_call_r2 ++ (wsX5_call_r3 ++ (wsX5_call_r4 ++ wsX5_call_r5)))) ++ wsX50 ++ wsX00 ++ wsX30 ++ wsX40)
def wsX5_quicken_r1 : List Cond := [Cond.fieldLink RX5 48 "ThreeLegs" "soonest" "LThreeLegs$Soonest;", Cond.fieldLink RX5 34 "ThreeLegs" "walk" "LThreeLegs$Walk;", Cond.fieldLink RX5 10 "ThreeLegs" "crowd" "LThreeLegs$Crowd;", Cond.methodLink RX5 122 yX5_refusalOfRace, Cond.instanceMethod yX5_refusalOfRace, Cond.selects RX5 yX5_refusalOfRace yX5_refusalOfRace, Cond.initialized RX5, Cond.code yX5_refusalOfRace cX5_refusalOfRace 5 (some .int), Cond.methodLink RX5 96 yX0_canTie, Cond.instanceMethod yX0_canTie, Cond.selects RX0 yX0_canTie yX0_canTie, Cond.initialized RX0, Cond.code yX0_canTie cX0_canTie 3 (some .boolean), Cond.methodLink RX0 35 yX0_hasRunner, Cond.instanceMethod yX0_hasRunner, Cond.selects RX0 yX0_hasRunner yX0_hasRunner, Cond.code yX0_hasRunner cX0_hasRunner 2 (some .boolean), Cond.fieldLink RX0 9 "ThreeLegs$Crowd" "runs" "[Z", Cond.methodLink RX5 140 yX5_isFeet, Cond.static yX5_isFeet, Cond.code yX5_isFeet cX5_isFeet 1 (some .boolean), Cond.methodLink RX5 56 yX5_isWithin, Cond.static yX5_isWithin, Cond.code yX5_isWithin cX5_isWithin 3 (some .boolean)]
def wsX5_quicken_r2 : List Cond := [Cond.methodLink RX5 162 yX3_clear, Cond.instanceMethod yX3_clear, Cond.selects RX3 yX3_clear yX3_clear, Cond.initialized RX3, Cond.code yX3_clear cX3_clear 1 none, Cond.fieldLink RX3 9 "ThreeLegs$Soonest" "time" "I", Cond.fieldLink RX3 15 "ThreeLegs$Soonest" "key" "I", Cond.methodLink RX5 100 yX4_tie, Cond.instanceMethod yX4_tie, Cond.selects RX4 yX4_tie yX4_tie, Cond.initialized RX4, Cond.code yX4_tie cX4_tie 4 none, Cond.fieldLink RX4 15 "ThreeLegs$Crowd" "beat" "[I", Cond.fieldLink RX4 19 "ThreeLegs$Walk" "firstBeat" "I", Cond.fieldLink RX4 25 "ThreeLegs$Walk" "otherBeat" "I", Cond.fieldLink RX4 28 "ThreeLegs$Crowd" "give" "[I", Cond.fieldLink RX4 31 "ThreeLegs$Walk" "firstGive" "I", Cond.fieldLink RX4 34 "ThreeLegs$Walk" "otherGive" "I", Cond.fieldLink RX4 37 "ThreeLegs$Crowd" "length" "[I", Cond.methodLink RX4 40 Lib.Math.min.name, Cond.static Lib.Math.min.name, Cond.initialized "java/lang/Math", Cond.code Lib.Math.min.name Lib.Math.min.code 2 (some .int), Cond.fieldLink RX4 46 "ThreeLegs$Walk" "stride" "I"]
def wsX5_quicken_r3 : List Cond := [Cond.fieldLink RX4 49 "ThreeLegs$Crowd" "lurch" "I", Cond.fieldLink RX4 52 "ThreeLegs$Walk" "lurch" "I", Cond.fieldLink RX4 53 "ThreeLegs$Crowd" "fall" "I", Cond.fieldLink RX4 56 "ThreeLegs$Walk" "fall" "I", Cond.fieldLink RX4 57 "ThreeLegs$Crowd" "up" "I", Cond.fieldLink RX4 60 "ThreeLegs$Walk" "up" "I", Cond.fieldLink RX4 61 "ThreeLegs$Walk" "firstTime" "I", Cond.fieldLink RX4 64 "ThreeLegs$Walk" "otherTime" "I", Cond.fieldLink RX4 67 "ThreeLegs$Walk" "steps" "I", Cond.fieldLink RX4 70 "ThreeLegs$Walk" "feet" "I", Cond.fieldLink RX4 73 "ThreeLegs$Walk" "lurches" "I", Cond.fieldLink RX4 76 "ThreeLegs$Walk" "falls" "I", Cond.methodLink RX4 9 yX0_canTie, Cond.methodLink RX5 168 yX4_timeTo, Cond.instanceMethod yX4_timeTo, Cond.selects RX4 yX4_timeTo yX4_timeTo, Cond.code yX4_timeTo cX4_timeTo 4 (some .int), Cond.methodLink RX4 98 yX4_speedUp, Cond.instanceMethod yX4_speedUp, Cond.selects RX4 yX4_speedUp yX4_speedUp, Cond.code yX4_speedUp cX4_speedUp 1 none, Cond.methodLink RX4 79 Lib.Math.max.name, Cond.static Lib.Math.max.name, Cond.code Lib.Math.max.name Lib.Math.max.code 2 (some .int)]
def wsX5_quicken_r4 : List Cond := [Cond.methodLink RX4 101 yX4_step, Cond.instanceMethod yX4_step, Cond.selects RX4 yX4_step yX4_step, Cond.code yX4_step cX4_step 3 none, Cond.fieldLink RX4 86 "ThreeLegs$Walk" "firstWasEarlier" "Z", Cond.fieldLink RX4 94 "ThreeLegs$Walk" "sign" "C", Cond.methodLink RX4 90 yX4_apart, Cond.instanceMethod yX4_apart, Cond.selects RX4 yX4_apart yX4_apart, Cond.code yX4_apart cX4_apart 1 (some .int), Cond.methodLink RX4 82 Lib.Math.abs.name, Cond.static Lib.Math.abs.name, Cond.code Lib.Math.abs.name Lib.Math.abs.code 1 (some .int), Cond.methodLink RX4 104 yX4_time, Cond.instanceMethod yX4_time, Cond.selects RX4 yX4_time yX4_time, Cond.code yX4_time cX4_time 1 (some .int), Cond.methodLink RX5 171 yX3_offer, Cond.instanceMethod yX3_offer, Cond.selects RX3 yX3_offer yX3_offer, Cond.code yX3_offer cX3_offer 3 none, Cond.methodLink RX5 126 yX5_timeTo, Cond.instanceMethod yX5_timeTo, Cond.selects RX5 yX5_timeTo yX5_timeTo]
def wsX5_quicken_r5 : List Cond := [Cond.code yX5_timeTo cX5_timeTo 4 (some .int), Cond.methodLink RX5 175 yX3_answer, Cond.instanceMethod yX3_answer, Cond.selects RX3 yX3_answer yX3_answer, Cond.code yX3_answer cX3_answer 2 (some .int)]
def wsX5_quicken : List Cond := .code yX5_quicken cX5_quicken 7 (some .int) :: ((wsX5_quicken_r1 ++ (wsX5_quicken_r2 ++ (wsX5_quicken_r3 ++ (wsX5_quicken_r4 ++ wsX5_quicken_r5)))) ++ wsX50 ++ wsX00 ++ wsX30 ++ wsX40)
def wsX5_yields_r1 : List Cond := [Cond.fieldLink RX5 48 "ThreeLegs" "soonest" "LThreeLegs$Soonest;", Cond.fieldLink RX5 34 "ThreeLegs" "walk" "LThreeLegs$Walk;", Cond.fieldLink RX5 10 "ThreeLegs" "crowd" "LThreeLegs$Crowd;", Cond.methodLink RX5 122 yX5_refusalOfRace, Cond.instanceMethod yX5_refusalOfRace, Cond.selects RX5 yX5_refusalOfRace yX5_refusalOfRace, Cond.initialized RX5, Cond.code yX5_refusalOfRace cX5_refusalOfRace 5 (some .int), Cond.methodLink RX5 96 yX0_canTie, Cond.instanceMethod yX0_canTie, Cond.selects RX0 yX0_canTie yX0_canTie, Cond.initialized RX0, Cond.code yX0_canTie cX0_canTie 3 (some .boolean), Cond.methodLink RX0 35 yX0_hasRunner, Cond.instanceMethod yX0_hasRunner, Cond.selects RX0 yX0_hasRunner yX0_hasRunner, Cond.code yX0_hasRunner cX0_hasRunner 2 (some .boolean), Cond.fieldLink RX0 9 "ThreeLegs$Crowd" "runs" "[Z", Cond.methodLink RX5 140 yX5_isFeet, Cond.static yX5_isFeet, Cond.code yX5_isFeet cX5_isFeet 1 (some .boolean), Cond.methodLink RX5 56 yX5_isWithin, Cond.static yX5_isWithin, Cond.code yX5_isWithin cX5_isWithin 3 (some .boolean)]
def wsX5_yields_r2 : List Cond := [Cond.methodLink RX5 162 yX3_clear, Cond.instanceMethod yX3_clear, Cond.selects RX3 yX3_clear yX3_clear, Cond.initialized RX3, Cond.code yX3_clear cX3_clear 1 none, Cond.fieldLink RX3 9 "ThreeLegs$Soonest" "time" "I", Cond.fieldLink RX3 15 "ThreeLegs$Soonest" "key" "I", Cond.methodLink RX5 100 yX4_tie, Cond.instanceMethod yX4_tie, Cond.selects RX4 yX4_tie yX4_tie, Cond.initialized RX4, Cond.code yX4_tie cX4_tie 4 none, Cond.fieldLink RX4 15 "ThreeLegs$Crowd" "beat" "[I", Cond.fieldLink RX4 19 "ThreeLegs$Walk" "firstBeat" "I", Cond.fieldLink RX4 25 "ThreeLegs$Walk" "otherBeat" "I", Cond.fieldLink RX4 28 "ThreeLegs$Crowd" "give" "[I", Cond.fieldLink RX4 31 "ThreeLegs$Walk" "firstGive" "I", Cond.fieldLink RX4 34 "ThreeLegs$Walk" "otherGive" "I", Cond.fieldLink RX4 37 "ThreeLegs$Crowd" "length" "[I", Cond.methodLink RX4 40 Lib.Math.min.name, Cond.static Lib.Math.min.name, Cond.initialized "java/lang/Math", Cond.code Lib.Math.min.name Lib.Math.min.code 2 (some .int), Cond.fieldLink RX4 46 "ThreeLegs$Walk" "stride" "I"]
def wsX5_yields_r3 : List Cond := [Cond.fieldLink RX4 49 "ThreeLegs$Crowd" "lurch" "I", Cond.fieldLink RX4 52 "ThreeLegs$Walk" "lurch" "I", Cond.fieldLink RX4 53 "ThreeLegs$Crowd" "fall" "I", Cond.fieldLink RX4 56 "ThreeLegs$Walk" "fall" "I", Cond.fieldLink RX4 57 "ThreeLegs$Crowd" "up" "I", Cond.fieldLink RX4 60 "ThreeLegs$Walk" "up" "I", Cond.fieldLink RX4 61 "ThreeLegs$Walk" "firstTime" "I", Cond.fieldLink RX4 64 "ThreeLegs$Walk" "otherTime" "I", Cond.fieldLink RX4 67 "ThreeLegs$Walk" "steps" "I", Cond.fieldLink RX4 70 "ThreeLegs$Walk" "feet" "I", Cond.fieldLink RX4 73 "ThreeLegs$Walk" "lurches" "I", Cond.fieldLink RX4 76 "ThreeLegs$Walk" "falls" "I", Cond.methodLink RX4 9 yX0_canTie, Cond.methodLink RX5 178 yX4_give, Cond.instanceMethod yX4_give, Cond.selects RX4 yX4_give yX4_give, Cond.code yX4_give cX4_give 3 none, Cond.methodLink RX5 168 yX4_timeTo, Cond.instanceMethod yX4_timeTo, Cond.selects RX4 yX4_timeTo yX4_timeTo, Cond.code yX4_timeTo cX4_timeTo 4 (some .int), Cond.methodLink RX4 98 yX4_speedUp, Cond.instanceMethod yX4_speedUp, Cond.selects RX4 yX4_speedUp yX4_speedUp]
def wsX5_yields_r4 : List Cond := [Cond.code yX4_speedUp cX4_speedUp 1 none, Cond.methodLink RX4 79 Lib.Math.max.name, Cond.static Lib.Math.max.name, Cond.code Lib.Math.max.name Lib.Math.max.code 2 (some .int), Cond.methodLink RX4 101 yX4_step, Cond.instanceMethod yX4_step, Cond.selects RX4 yX4_step yX4_step, Cond.code yX4_step cX4_step 3 none, Cond.fieldLink RX4 86 "ThreeLegs$Walk" "firstWasEarlier" "Z", Cond.fieldLink RX4 94 "ThreeLegs$Walk" "sign" "C", Cond.methodLink RX4 90 yX4_apart, Cond.instanceMethod yX4_apart, Cond.selects RX4 yX4_apart yX4_apart, Cond.code yX4_apart cX4_apart 1 (some .int), Cond.methodLink RX4 82 Lib.Math.abs.name, Cond.static Lib.Math.abs.name, Cond.code Lib.Math.abs.name Lib.Math.abs.code 1 (some .int), Cond.methodLink RX4 104 yX4_time, Cond.instanceMethod yX4_time, Cond.selects RX4 yX4_time yX4_time, Cond.code yX4_time cX4_time 1 (some .int), Cond.methodLink RX5 171 yX3_offer, Cond.instanceMethod yX3_offer, Cond.selects RX3 yX3_offer yX3_offer]
def wsX5_yields_r5 : List Cond := [Cond.code yX3_offer cX3_offer 3 none, Cond.methodLink RX5 175 yX3_answer, Cond.instanceMethod yX3_answer, Cond.selects RX3 yX3_answer yX3_answer, Cond.code yX3_answer cX3_answer 2 (some .int)]
def wsX5_yields : List Cond := .code yX5_yields cX5_yields 8 (some .int) :: ((wsX5_yields_r1 ++ (wsX5_yields_r2 ++ (wsX5_yields_r3 ++ (wsX5_yields_r4 ++ wsX5_yields_r5)))) ++ wsX50 ++ wsX00 ++ wsX30 ++ wsX40)
def wsX5_standsWith_r1 : List Cond := [Cond.fieldLink RX5 34 "ThreeLegs" "walk" "LThreeLegs$Walk;", Cond.fieldLink RX5 10 "ThreeLegs" "crowd" "LThreeLegs$Crowd;", Cond.methodLink RX5 100 yX4_tie, Cond.instanceMethod yX4_tie, Cond.selects RX4 yX4_tie yX4_tie, Cond.initialized RX4, Cond.code yX4_tie cX4_tie 4 none, Cond.fieldLink RX4 15 "ThreeLegs$Crowd" "beat" "[I", Cond.fieldLink RX4 19 "ThreeLegs$Walk" "firstBeat" "I", Cond.fieldLink RX4 25 "ThreeLegs$Walk" "otherBeat" "I", Cond.fieldLink RX4 28 "ThreeLegs$Crowd" "give" "[I", Cond.fieldLink RX4 31 "ThreeLegs$Walk" "firstGive" "I", Cond.fieldLink RX4 34 "ThreeLegs$Walk" "otherGive" "I", Cond.fieldLink RX4 37 "ThreeLegs$Crowd" "length" "[I", Cond.methodLink RX4 40 Lib.Math.min.name, Cond.static Lib.Math.min.name, Cond.initialized "java/lang/Math", Cond.code Lib.Math.min.name Lib.Math.min.code 2 (some .int), Cond.fieldLink RX4 46 "ThreeLegs$Walk" "stride" "I", Cond.fieldLink RX4 49 "ThreeLegs$Crowd" "lurch" "I", Cond.fieldLink RX4 52 "ThreeLegs$Walk" "lurch" "I", Cond.fieldLink RX4 53 "ThreeLegs$Crowd" "fall" "I", Cond.fieldLink RX4 56 "ThreeLegs$Walk" "fall" "I", Cond.fieldLink RX4 57 "ThreeLegs$Crowd" "up" "I"]
def wsX5_standsWith_r2 : List Cond := [Cond.fieldLink RX4 60 "ThreeLegs$Walk" "up" "I", Cond.fieldLink RX4 61 "ThreeLegs$Walk" "firstTime" "I", Cond.fieldLink RX4 64 "ThreeLegs$Walk" "otherTime" "I", Cond.fieldLink RX4 67 "ThreeLegs$Walk" "steps" "I", Cond.fieldLink RX4 70 "ThreeLegs$Walk" "feet" "I", Cond.fieldLink RX4 73 "ThreeLegs$Walk" "lurches" "I", Cond.fieldLink RX4 76 "ThreeLegs$Walk" "falls" "I", Cond.methodLink RX4 9 yX0_canTie, Cond.instanceMethod yX0_canTie, Cond.selects RX0 yX0_canTie yX0_canTie, Cond.initialized RX0, Cond.code yX0_canTie cX0_canTie 3 (some .boolean), Cond.methodLink RX0 35 yX0_hasRunner, Cond.instanceMethod yX0_hasRunner, Cond.selects RX0 yX0_hasRunner yX0_hasRunner, Cond.code yX0_hasRunner cX0_hasRunner 2 (some .boolean), Cond.fieldLink RX0 9 "ThreeLegs$Crowd" "runs" "[Z", Cond.methodLink RX5 178 yX4_give, Cond.instanceMethod yX4_give, Cond.selects RX4 yX4_give yX4_give, Cond.code yX4_give cX4_give 3 none, Cond.methodLink RX5 133 yX4_standsFor, Cond.instanceMethod yX4_standsFor, Cond.selects RX4 yX4_standsFor yX4_standsFor]
def wsX5_standsWith_r3 : List Cond := [Cond.code yX4_standsFor cX4_standsFor 3 (some .boolean), Cond.methodLink RX4 101 yX4_step, Cond.instanceMethod yX4_step, Cond.selects RX4 yX4_step yX4_step, Cond.code yX4_step cX4_step 3 none, Cond.methodLink RX4 79 Lib.Math.max.name, Cond.static Lib.Math.max.name, Cond.code Lib.Math.max.name Lib.Math.max.code 2 (some .int), Cond.fieldLink RX4 86 "ThreeLegs$Walk" "firstWasEarlier" "Z", Cond.fieldLink RX4 94 "ThreeLegs$Walk" "sign" "C", Cond.methodLink RX4 90 yX4_apart, Cond.instanceMethod yX4_apart, Cond.selects RX4 yX4_apart yX4_apart, Cond.code yX4_apart cX4_apart 1 (some .int), Cond.methodLink RX4 82 Lib.Math.abs.name, Cond.static Lib.Math.abs.name, Cond.code Lib.Math.abs.name Lib.Math.abs.code 1 (some .int)]
def wsX5_standsWith : List Cond := .code yX5_standsWith cX5_standsWith 6 (some .boolean) :: ((wsX5_standsWith_r1 ++ (wsX5_standsWith_r2 ++ wsX5_standsWith_r3)) ++ wsX50 ++ wsX00 ++ wsX40)
def wsX5_practice_r1 : List Cond := [Cond.fieldLink RX5 10 "ThreeLegs" "crowd" "LThreeLegs$Crowd;", Cond.fieldLink RX5 181 "ThreeLegs$Crowd" "give" "[I", Cond.methodLink RX5 96 yX0_canTie, Cond.instanceMethod yX0_canTie, Cond.selects RX0 yX0_canTie yX0_canTie, Cond.initialized RX0, Cond.code yX0_canTie cX0_canTie 3 (some .boolean), Cond.methodLink RX0 35 yX0_hasRunner, Cond.instanceMethod yX0_hasRunner, Cond.selects RX0 yX0_hasRunner yX0_hasRunner, Cond.code yX0_hasRunner cX0_hasRunner 2 (some .boolean), Cond.fieldLink RX0 9 "ThreeLegs$Crowd" "runs" "[Z", Cond.methodLink RX5 56 yX5_isWithin, Cond.static yX5_isWithin, Cond.initialized RX5, Cond.code yX5_isWithin cX5_isWithin 3 (some .boolean), Cond.methodLink RX5 183 yX5_standsWith, Cond.instanceMethod yX5_standsWith, Cond.selects RX5 yX5_standsWith yX5_standsWith, Cond.code yX5_standsWith cX5_standsWith 6 (some .boolean), Cond.fieldLink RX5 34 "ThreeLegs" "walk" "LThreeLegs$Walk;", Cond.methodLink RX5 100 yX4_tie, Cond.instanceMethod yX4_tie, Cond.selects RX4 yX4_tie yX4_tie]
def wsX5_practice_r2 : List Cond := [Cond.initialized RX4, Cond.code yX4_tie cX4_tie 4 none, Cond.fieldLink RX4 15 "ThreeLegs$Crowd" "beat" "[I", Cond.fieldLink RX4 19 "ThreeLegs$Walk" "firstBeat" "I", Cond.fieldLink RX4 25 "ThreeLegs$Walk" "otherBeat" "I", Cond.fieldLink RX4 28 "ThreeLegs$Crowd" "give" "[I", Cond.fieldLink RX4 31 "ThreeLegs$Walk" "firstGive" "I", Cond.fieldLink RX4 34 "ThreeLegs$Walk" "otherGive" "I", Cond.fieldLink RX4 37 "ThreeLegs$Crowd" "length" "[I", Cond.methodLink RX4 40 Lib.Math.min.name, Cond.static Lib.Math.min.name, Cond.initialized "java/lang/Math", Cond.code Lib.Math.min.name Lib.Math.min.code 2 (some .int), Cond.fieldLink RX4 46 "ThreeLegs$Walk" "stride" "I", Cond.fieldLink RX4 49 "ThreeLegs$Crowd" "lurch" "I", Cond.fieldLink RX4 52 "ThreeLegs$Walk" "lurch" "I", Cond.fieldLink RX4 53 "ThreeLegs$Crowd" "fall" "I", Cond.fieldLink RX4 56 "ThreeLegs$Walk" "fall" "I", Cond.fieldLink RX4 57 "ThreeLegs$Crowd" "up" "I", Cond.fieldLink RX4 60 "ThreeLegs$Walk" "up" "I", Cond.fieldLink RX4 61 "ThreeLegs$Walk" "firstTime" "I", Cond.fieldLink RX4 64 "ThreeLegs$Walk" "otherTime" "I", Cond.fieldLink RX4 67 "ThreeLegs$Walk" "steps" "I", Cond.fieldLink RX4 70 "ThreeLegs$Walk" "feet" "I"]
def wsX5_practice_r3 : List Cond := [Cond.fieldLink RX4 73 "ThreeLegs$Walk" "lurches" "I", Cond.fieldLink RX4 76 "ThreeLegs$Walk" "falls" "I", Cond.methodLink RX4 9 yX0_canTie, Cond.methodLink RX5 178 yX4_give, Cond.instanceMethod yX4_give, Cond.selects RX4 yX4_give yX4_give, Cond.code yX4_give cX4_give 3 none, Cond.methodLink RX5 133 yX4_standsFor, Cond.instanceMethod yX4_standsFor, Cond.selects RX4 yX4_standsFor yX4_standsFor, Cond.code yX4_standsFor cX4_standsFor 3 (some .boolean), Cond.methodLink RX4 101 yX4_step, Cond.instanceMethod yX4_step, Cond.selects RX4 yX4_step yX4_step, Cond.code yX4_step cX4_step 3 none, Cond.methodLink RX4 79 Lib.Math.max.name, Cond.static Lib.Math.max.name, Cond.code Lib.Math.max.name Lib.Math.max.code 2 (some .int), Cond.fieldLink RX4 86 "ThreeLegs$Walk" "firstWasEarlier" "Z", Cond.fieldLink RX4 94 "ThreeLegs$Walk" "sign" "C", Cond.methodLink RX4 90 yX4_apart, Cond.instanceMethod yX4_apart, Cond.selects RX4 yX4_apart yX4_apart, Cond.code yX4_apart cX4_apart 1 (some .int)]
def wsX5_practice_r4 : List Cond := [Cond.methodLink RX4 82 Lib.Math.abs.name, Cond.static Lib.Math.abs.name, Cond.code Lib.Math.abs.name Lib.Math.abs.code 1 (some .int)]
def wsX5_practice : List Cond := .code yX5_practice cX5_practice 11 (some .int) :: ((wsX5_practice_r1 ++ (wsX5_practice_r2 ++ (wsX5_practice_r3 ++ wsX5_practice_r4))) ++ wsX50 ++ wsX00 ++ wsX40)
def wsX5_scarf_r1 : List Cond := [Cond.fieldLink RX5 10 "ThreeLegs" "crowd" "LThreeLegs$Crowd;", Cond.fieldLink RX5 86 "ThreeLegs$Crowd" "fall" "I", Cond.fieldLink RX5 34 "ThreeLegs" "walk" "LThreeLegs$Walk;", Cond.fieldLink RX5 187 "ThreeLegs$Walk" "lurch" "I", Cond.methodLink RX5 96 yX0_canTie, Cond.instanceMethod yX0_canTie, Cond.selects RX0 yX0_canTie yX0_canTie, Cond.initialized RX0, Cond.code yX0_canTie cX0_canTie 3 (some .boolean), Cond.methodLink RX0 35 yX0_hasRunner, Cond.instanceMethod yX0_hasRunner, Cond.selects RX0 yX0_hasRunner yX0_hasRunner, Cond.code yX0_hasRunner cX0_hasRunner 2 (some .boolean), Cond.fieldLink RX0 9 "ThreeLegs$Crowd" "runs" "[Z", Cond.methodLink RX5 140 yX5_isFeet, Cond.static yX5_isFeet, Cond.initialized RX5, Cond.code yX5_isFeet cX5_isFeet 1 (some .boolean), Cond.methodLink RX5 56 yX5_isWithin, Cond.static yX5_isWithin, Cond.code yX5_isWithin cX5_isWithin 3 (some .boolean), Cond.methodLink RX5 100 yX4_tie, Cond.instanceMethod yX4_tie, Cond.selects RX4 yX4_tie yX4_tie]
def wsX5_scarf_r2 : List Cond := [Cond.initialized RX4, Cond.code yX4_tie cX4_tie 4 none, Cond.fieldLink RX4 15 "ThreeLegs$Crowd" "beat" "[I", Cond.fieldLink RX4 19 "ThreeLegs$Walk" "firstBeat" "I", Cond.fieldLink RX4 25 "ThreeLegs$Walk" "otherBeat" "I", Cond.fieldLink RX4 28 "ThreeLegs$Crowd" "give" "[I", Cond.fieldLink RX4 31 "ThreeLegs$Walk" "firstGive" "I", Cond.fieldLink RX4 34 "ThreeLegs$Walk" "otherGive" "I", Cond.fieldLink RX4 37 "ThreeLegs$Crowd" "length" "[I", Cond.methodLink RX4 40 Lib.Math.min.name, Cond.static Lib.Math.min.name, Cond.initialized "java/lang/Math", Cond.code Lib.Math.min.name Lib.Math.min.code 2 (some .int), Cond.fieldLink RX4 46 "ThreeLegs$Walk" "stride" "I", Cond.fieldLink RX4 49 "ThreeLegs$Crowd" "lurch" "I", Cond.fieldLink RX4 52 "ThreeLegs$Walk" "lurch" "I", Cond.fieldLink RX4 53 "ThreeLegs$Crowd" "fall" "I", Cond.fieldLink RX4 56 "ThreeLegs$Walk" "fall" "I", Cond.fieldLink RX4 57 "ThreeLegs$Crowd" "up" "I", Cond.fieldLink RX4 60 "ThreeLegs$Walk" "up" "I", Cond.fieldLink RX4 61 "ThreeLegs$Walk" "firstTime" "I", Cond.fieldLink RX4 64 "ThreeLegs$Walk" "otherTime" "I", Cond.fieldLink RX4 67 "ThreeLegs$Walk" "steps" "I", Cond.fieldLink RX4 70 "ThreeLegs$Walk" "feet" "I"]
def wsX5_scarf_r3 : List Cond := [Cond.fieldLink RX4 73 "ThreeLegs$Walk" "lurches" "I", Cond.fieldLink RX4 76 "ThreeLegs$Walk" "falls" "I", Cond.methodLink RX4 9 yX0_canTie, Cond.methodLink RX5 168 yX4_timeTo, Cond.instanceMethod yX4_timeTo, Cond.selects RX4 yX4_timeTo yX4_timeTo, Cond.code yX4_timeTo cX4_timeTo 4 (some .int), Cond.methodLink RX4 98 yX4_speedUp, Cond.instanceMethod yX4_speedUp, Cond.selects RX4 yX4_speedUp yX4_speedUp, Cond.code yX4_speedUp cX4_speedUp 1 none, Cond.methodLink RX4 79 Lib.Math.max.name, Cond.static Lib.Math.max.name, Cond.code Lib.Math.max.name Lib.Math.max.code 2 (some .int), Cond.methodLink RX4 101 yX4_step, Cond.instanceMethod yX4_step, Cond.selects RX4 yX4_step yX4_step, Cond.code yX4_step cX4_step 3 none, Cond.fieldLink RX4 86 "ThreeLegs$Walk" "firstWasEarlier" "Z", Cond.fieldLink RX4 94 "ThreeLegs$Walk" "sign" "C", Cond.methodLink RX4 90 yX4_apart, Cond.instanceMethod yX4_apart, Cond.selects RX4 yX4_apart yX4_apart, Cond.code yX4_apart cX4_apart 1 (some .int)]
def wsX5_scarf_r4 : List Cond := [Cond.methodLink RX4 82 Lib.Math.abs.name, Cond.static Lib.Math.abs.name, Cond.code Lib.Math.abs.name Lib.Math.abs.code 1 (some .int), Cond.methodLink RX4 104 yX4_time, Cond.instanceMethod yX4_time, Cond.selects RX4 yX4_time yX4_time, Cond.code yX4_time cX4_time 1 (some .int)]
def wsX5_scarf : List Cond := .code yX5_scarf cX5_scarf 7 (some .int) :: ((wsX5_scarf_r1 ++ (wsX5_scarf_r2 ++ (wsX5_scarf_r3 ++ wsX5_scarf_r4))) ++ wsX50 ++ wsX00 ++ wsX40)
def wsX5_even_r1 : List Cond := [Cond.fieldLink RX5 10 "ThreeLegs" "crowd" "LThreeLegs$Crowd;", Cond.fieldLink RX5 34 "ThreeLegs" "walk" "LThreeLegs$Walk;", Cond.methodLink RX5 191 Lib.Math.max.name, Cond.static Lib.Math.max.name, Cond.initialized "java/lang/Math", Cond.code Lib.Math.max.name Lib.Math.max.code 2 (some .int), Cond.methodLink RX5 96 yX0_canTie, Cond.instanceMethod yX0_canTie, Cond.selects RX0 yX0_canTie yX0_canTie, Cond.initialized RX0, Cond.code yX0_canTie cX0_canTie 3 (some .boolean), Cond.methodLink RX0 35 yX0_hasRunner, Cond.instanceMethod yX0_hasRunner, Cond.selects RX0 yX0_hasRunner yX0_hasRunner, Cond.code yX0_hasRunner cX0_hasRunner 2 (some .boolean), Cond.fieldLink RX0 9 "ThreeLegs$Crowd" "runs" "[Z", Cond.methodLink RX5 140 yX5_isFeet, Cond.static yX5_isFeet, Cond.initialized RX5, Cond.code yX5_isFeet cX5_isFeet 1 (some .boolean), Cond.methodLink RX5 56 yX5_isWithin, Cond.static yX5_isWithin, Cond.code yX5_isWithin cX5_isWithin 3 (some .boolean), Cond.methodLink RX5 126 yX5_timeTo]
def wsX5_even_r2 : List Cond := [Cond.instanceMethod yX5_timeTo, Cond.selects RX5 yX5_timeTo yX5_timeTo, Cond.code yX5_timeTo cX5_timeTo 4 (some .int), Cond.methodLink RX5 100 yX4_tie, Cond.instanceMethod yX4_tie, Cond.selects RX4 yX4_tie yX4_tie, Cond.initialized RX4, Cond.code yX4_tie cX4_tie 4 none, Cond.fieldLink RX4 15 "ThreeLegs$Crowd" "beat" "[I", Cond.fieldLink RX4 19 "ThreeLegs$Walk" "firstBeat" "I", Cond.fieldLink RX4 25 "ThreeLegs$Walk" "otherBeat" "I", Cond.fieldLink RX4 28 "ThreeLegs$Crowd" "give" "[I", Cond.fieldLink RX4 31 "ThreeLegs$Walk" "firstGive" "I", Cond.fieldLink RX4 34 "ThreeLegs$Walk" "otherGive" "I", Cond.fieldLink RX4 37 "ThreeLegs$Crowd" "length" "[I", Cond.methodLink RX4 40 Lib.Math.min.name, Cond.static Lib.Math.min.name, Cond.code Lib.Math.min.name Lib.Math.min.code 2 (some .int), Cond.fieldLink RX4 46 "ThreeLegs$Walk" "stride" "I", Cond.fieldLink RX4 49 "ThreeLegs$Crowd" "lurch" "I", Cond.fieldLink RX4 52 "ThreeLegs$Walk" "lurch" "I", Cond.fieldLink RX4 53 "ThreeLegs$Crowd" "fall" "I", Cond.fieldLink RX4 56 "ThreeLegs$Walk" "fall" "I", Cond.fieldLink RX4 57 "ThreeLegs$Crowd" "up" "I"]
def wsX5_even_r3 : List Cond := [Cond.fieldLink RX4 60 "ThreeLegs$Walk" "up" "I", Cond.fieldLink RX4 61 "ThreeLegs$Walk" "firstTime" "I", Cond.fieldLink RX4 64 "ThreeLegs$Walk" "otherTime" "I", Cond.fieldLink RX4 67 "ThreeLegs$Walk" "steps" "I", Cond.fieldLink RX4 70 "ThreeLegs$Walk" "feet" "I", Cond.fieldLink RX4 73 "ThreeLegs$Walk" "lurches" "I", Cond.fieldLink RX4 76 "ThreeLegs$Walk" "falls" "I", Cond.methodLink RX4 9 yX0_canTie, Cond.methodLink RX5 168 yX4_timeTo, Cond.instanceMethod yX4_timeTo, Cond.selects RX4 yX4_timeTo yX4_timeTo, Cond.code yX4_timeTo cX4_timeTo 4 (some .int), Cond.methodLink RX4 98 yX4_speedUp, Cond.instanceMethod yX4_speedUp, Cond.selects RX4 yX4_speedUp yX4_speedUp, Cond.code yX4_speedUp cX4_speedUp 1 none, Cond.methodLink RX4 79 Lib.Math.max.name, Cond.methodLink RX4 101 yX4_step, Cond.instanceMethod yX4_step, Cond.selects RX4 yX4_step yX4_step, Cond.code yX4_step cX4_step 3 none, Cond.fieldLink RX4 86 "ThreeLegs$Walk" "firstWasEarlier" "Z", Cond.fieldLink RX4 94 "ThreeLegs$Walk" "sign" "C", Cond.methodLink RX4 90 yX4_apart]
def wsX5_even_r4 : List Cond := [Cond.instanceMethod yX4_apart, Cond.selects RX4 yX4_apart yX4_apart, Cond.code yX4_apart cX4_apart 1 (some .int), Cond.methodLink RX4 82 Lib.Math.abs.name, Cond.static Lib.Math.abs.name, Cond.code Lib.Math.abs.name Lib.Math.abs.code 1 (some .int), Cond.methodLink RX4 104 yX4_time, Cond.instanceMethod yX4_time, Cond.selects RX4 yX4_time yX4_time, Cond.code yX4_time cX4_time 1 (some .int), Cond.methodLink RX5 188 yX4_feetWithin, Cond.instanceMethod yX4_feetWithin, Cond.selects RX4 yX4_feetWithin yX4_feetWithin, Cond.code yX4_feetWithin cX4_feetWithin 4 (some .int)]
def wsX5_even : List Cond := .code yX5_even cX5_even 7 (some .int) :: ((wsX5_even_r1 ++ (wsX5_even_r2 ++ (wsX5_even_r3 ++ wsX5_even_r4))) ++ wsX50 ++ wsX00 ++ wsX40)
def wsX5_say : List Cond := .code yX5_say cX5_say 2 (some .int) :: ([.fieldLink RX5 27 "ThreeLegs" "film" "LThreeLegs$Film;", .fieldLink RX5 196 "ThreeLegs$Film" "count" "I", .methodLink RX5 56 yX5_isWithin, .static yX5_isWithin, .initialized RX5, .code yX5_isWithin cX5_isWithin 3 (some .boolean), .methodLink RX5 198 yX1_add, .instanceMethod yX1_add, .selects RX1 yX1_add yX1_add, .initialized RX1, .code yX1_add cX1_add 2 none, .fieldLink RX1 15 "ThreeLegs$Film" "count" "I", .fieldLink RX1 9 "ThreeLegs$Film" "signs" "[I"] ++ wsX50 ++ wsX10)
def wsX5_wipe : List Cond := .code yX5_wipe cX5_wipe 2 (some .int) :: ([.fieldLink RX5 27 "ThreeLegs" "film" "LThreeLegs$Film;", .fieldLink RX5 196 "ThreeLegs$Film" "count" "I"] ++ wsX50 ++ wsX10)
def wsX5_fault : List Cond := .code yX5_fault cX5_fault 1 (some .int) :: ([.fieldLink RX5 27 "ThreeLegs" "film" "LThreeLegs$Film;", .methodLink RX5 201 yX1_firstFault, .instanceMethod yX1_firstFault, .selects RX1 yX1_firstFault yX1_firstFault, .initialized RX1, .code yX1_firstFault cX1_firstFault 3 (some .int), .fieldLink RX1 15 "ThreeLegs$Film" "count" "I", .fieldLink RX1 9 "ThreeLegs$Film" "signs" "[I"] ++ wsX50 ++ wsX10)
def wsX5_firstUnlike_r1 : List Cond := [Cond.fieldLink RX5 34 "ThreeLegs" "walk" "LThreeLegs$Walk;", Cond.fieldLink RX5 10 "ThreeLegs" "crowd" "LThreeLegs$Crowd;", Cond.fieldLink RX5 27 "ThreeLegs" "film" "LThreeLegs$Film;", Cond.fieldLink RX5 196 "ThreeLegs$Film" "count" "I", Cond.fieldLink RX5 220 "ThreeLegs$Walk" "sign" "C", Cond.methodLink RX5 100 yX4_tie, Cond.instanceMethod yX4_tie, Cond.selects RX4 yX4_tie yX4_tie, Cond.initialized RX4, Cond.code yX4_tie cX4_tie 4 none, Cond.fieldLink RX4 15 "ThreeLegs$Crowd" "beat" "[I", Cond.fieldLink RX4 19 "ThreeLegs$Walk" "firstBeat" "I", Cond.fieldLink RX4 25 "ThreeLegs$Walk" "otherBeat" "I", Cond.fieldLink RX4 28 "ThreeLegs$Crowd" "give" "[I", Cond.fieldLink RX4 31 "ThreeLegs$Walk" "firstGive" "I", Cond.fieldLink RX4 34 "ThreeLegs$Walk" "otherGive" "I", Cond.fieldLink RX4 37 "ThreeLegs$Crowd" "length" "[I", Cond.methodLink RX4 40 Lib.Math.min.name, Cond.static Lib.Math.min.name, Cond.initialized "java/lang/Math", Cond.code Lib.Math.min.name Lib.Math.min.code 2 (some .int), Cond.fieldLink RX4 46 "ThreeLegs$Walk" "stride" "I", Cond.fieldLink RX4 49 "ThreeLegs$Crowd" "lurch" "I", Cond.fieldLink RX4 52 "ThreeLegs$Walk" "lurch" "I"]
def wsX5_firstUnlike_r2 : List Cond := [Cond.fieldLink RX4 53 "ThreeLegs$Crowd" "fall" "I", Cond.fieldLink RX4 56 "ThreeLegs$Walk" "fall" "I", Cond.fieldLink RX4 57 "ThreeLegs$Crowd" "up" "I", Cond.fieldLink RX4 60 "ThreeLegs$Walk" "up" "I", Cond.fieldLink RX4 61 "ThreeLegs$Walk" "firstTime" "I", Cond.fieldLink RX4 64 "ThreeLegs$Walk" "otherTime" "I", Cond.fieldLink RX4 67 "ThreeLegs$Walk" "steps" "I", Cond.fieldLink RX4 70 "ThreeLegs$Walk" "feet" "I", Cond.fieldLink RX4 73 "ThreeLegs$Walk" "lurches" "I", Cond.fieldLink RX4 76 "ThreeLegs$Walk" "falls" "I", Cond.methodLink RX4 9 yX0_canTie, Cond.instanceMethod yX0_canTie, Cond.selects RX0 yX0_canTie yX0_canTie, Cond.initialized RX0, Cond.code yX0_canTie cX0_canTie 3 (some .boolean), Cond.methodLink RX0 35 yX0_hasRunner, Cond.instanceMethod yX0_hasRunner, Cond.selects RX0 yX0_hasRunner yX0_hasRunner, Cond.code yX0_hasRunner cX0_hasRunner 2 (some .boolean), Cond.fieldLink RX0 9 "ThreeLegs$Crowd" "runs" "[Z", Cond.methodLink RX5 104 yX4_step, Cond.instanceMethod yX4_step, Cond.selects RX4 yX4_step yX4_step, Cond.code yX4_step cX4_step 3 none]
def wsX5_firstUnlike_r3 : List Cond := [Cond.methodLink RX4 79 Lib.Math.max.name, Cond.static Lib.Math.max.name, Cond.code Lib.Math.max.name Lib.Math.max.code 2 (some .int), Cond.fieldLink RX4 86 "ThreeLegs$Walk" "firstWasEarlier" "Z", Cond.fieldLink RX4 94 "ThreeLegs$Walk" "sign" "C", Cond.methodLink RX4 90 yX4_apart, Cond.instanceMethod yX4_apart, Cond.selects RX4 yX4_apart yX4_apart, Cond.code yX4_apart cX4_apart 1 (some .int), Cond.methodLink RX4 82 Lib.Math.abs.name, Cond.static Lib.Math.abs.name, Cond.code Lib.Math.abs.name Lib.Math.abs.code 1 (some .int), Cond.methodLink RX5 224 yX1_canShow, Cond.instanceMethod yX1_canShow, Cond.selects RX1 yX1_canShow yX1_canShow, Cond.initialized RX1, Cond.code yX1_canShow cX1_canShow 3 (some .boolean), Cond.fieldLink RX1 15 "ThreeLegs$Film" "count" "I", Cond.fieldLink RX1 9 "ThreeLegs$Film" "signs" "[I"]
def wsX5_firstUnlike : List Cond := .code yX5_firstUnlike cX5_firstUnlike 4 (some .int) :: ((wsX5_firstUnlike_r1 ++ (wsX5_firstUnlike_r2 ++ wsX5_firstUnlike_r3)) ++ wsX50 ++ wsX10 ++ wsX40 ++ wsX00)
def wsX5_judge_r1 : List Cond := [Cond.fieldLink RX5 10 "ThreeLegs" "crowd" "LThreeLegs$Crowd;", Cond.fieldLink RX5 27 "ThreeLegs" "film" "LThreeLegs$Film;", Cond.methodLink RX5 96 yX0_canTie, Cond.instanceMethod yX0_canTie, Cond.selects RX0 yX0_canTie yX0_canTie, Cond.initialized RX0, Cond.code yX0_canTie cX0_canTie 3 (some .boolean), Cond.methodLink RX0 35 yX0_hasRunner, Cond.instanceMethod yX0_hasRunner, Cond.selects RX0 yX0_hasRunner yX0_hasRunner, Cond.code yX0_hasRunner cX0_hasRunner 2 (some .boolean), Cond.fieldLink RX0 9 "ThreeLegs$Crowd" "runs" "[Z", Cond.methodLink RX5 201 yX1_firstFault, Cond.instanceMethod yX1_firstFault, Cond.selects RX1 yX1_firstFault yX1_firstFault, Cond.initialized RX1, Cond.code yX1_firstFault cX1_firstFault 3 (some .int), Cond.fieldLink RX1 15 "ThreeLegs$Film" "count" "I", Cond.fieldLink RX1 9 "ThreeLegs$Film" "signs" "[I", Cond.methodLink RX5 204 yX5_firstUnlike, Cond.instanceMethod yX5_firstUnlike, Cond.selects RX5 yX5_firstUnlike yX5_firstUnlike, Cond.initialized RX5, Cond.code yX5_firstUnlike cX5_firstUnlike 4 (some .int)]
def wsX5_judge_r2 : List Cond := [Cond.fieldLink RX5 34 "ThreeLegs" "walk" "LThreeLegs$Walk;", Cond.fieldLink RX5 196 "ThreeLegs$Film" "count" "I", Cond.fieldLink RX5 220 "ThreeLegs$Walk" "sign" "C", Cond.methodLink RX5 100 yX4_tie, Cond.instanceMethod yX4_tie, Cond.selects RX4 yX4_tie yX4_tie, Cond.initialized RX4, Cond.code yX4_tie cX4_tie 4 none, Cond.fieldLink RX4 15 "ThreeLegs$Crowd" "beat" "[I", Cond.fieldLink RX4 19 "ThreeLegs$Walk" "firstBeat" "I", Cond.fieldLink RX4 25 "ThreeLegs$Walk" "otherBeat" "I", Cond.fieldLink RX4 28 "ThreeLegs$Crowd" "give" "[I", Cond.fieldLink RX4 31 "ThreeLegs$Walk" "firstGive" "I", Cond.fieldLink RX4 34 "ThreeLegs$Walk" "otherGive" "I", Cond.fieldLink RX4 37 "ThreeLegs$Crowd" "length" "[I", Cond.methodLink RX4 40 Lib.Math.min.name, Cond.static Lib.Math.min.name, Cond.initialized "java/lang/Math", Cond.code Lib.Math.min.name Lib.Math.min.code 2 (some .int), Cond.fieldLink RX4 46 "ThreeLegs$Walk" "stride" "I", Cond.fieldLink RX4 49 "ThreeLegs$Crowd" "lurch" "I", Cond.fieldLink RX4 52 "ThreeLegs$Walk" "lurch" "I", Cond.fieldLink RX4 53 "ThreeLegs$Crowd" "fall" "I", Cond.fieldLink RX4 56 "ThreeLegs$Walk" "fall" "I"]
def wsX5_judge_r3 : List Cond := [Cond.fieldLink RX4 57 "ThreeLegs$Crowd" "up" "I", Cond.fieldLink RX4 60 "ThreeLegs$Walk" "up" "I", Cond.fieldLink RX4 61 "ThreeLegs$Walk" "firstTime" "I", Cond.fieldLink RX4 64 "ThreeLegs$Walk" "otherTime" "I", Cond.fieldLink RX4 67 "ThreeLegs$Walk" "steps" "I", Cond.fieldLink RX4 70 "ThreeLegs$Walk" "feet" "I", Cond.fieldLink RX4 73 "ThreeLegs$Walk" "lurches" "I", Cond.fieldLink RX4 76 "ThreeLegs$Walk" "falls" "I", Cond.methodLink RX4 9 yX0_canTie, Cond.methodLink RX5 104 yX4_step, Cond.instanceMethod yX4_step, Cond.selects RX4 yX4_step yX4_step, Cond.code yX4_step cX4_step 3 none, Cond.methodLink RX4 79 Lib.Math.max.name, Cond.static Lib.Math.max.name, Cond.code Lib.Math.max.name Lib.Math.max.code 2 (some .int), Cond.fieldLink RX4 86 "ThreeLegs$Walk" "firstWasEarlier" "Z", Cond.fieldLink RX4 94 "ThreeLegs$Walk" "sign" "C", Cond.methodLink RX4 90 yX4_apart, Cond.instanceMethod yX4_apart, Cond.selects RX4 yX4_apart yX4_apart, Cond.code yX4_apart cX4_apart 1 (some .int), Cond.methodLink RX4 82 Lib.Math.abs.name, Cond.static Lib.Math.abs.name]
def wsX5_judge_r4 : List Cond := [Cond.code Lib.Math.abs.name Lib.Math.abs.code 1 (some .int), Cond.methodLink RX5 224 yX1_canShow, Cond.instanceMethod yX1_canShow, Cond.selects RX1 yX1_canShow yX1_canShow, Cond.code yX1_canShow cX1_canShow 3 (some .boolean)]
def wsX5_judge : List Cond := .code yX5_judge cX5_judge 3 (some .int) :: ((wsX5_judge_r1 ++ (wsX5_judge_r2 ++ (wsX5_judge_r3 ++ wsX5_judge_r4))) ++ wsX50 ++ wsX00 ++ wsX10 ++ wsX40)
def wsX5_fits_r1 : List Cond := [Cond.fieldLink RX5 27 "ThreeLegs" "film" "LThreeLegs$Film;", Cond.fieldLink RX5 10 "ThreeLegs" "crowd" "LThreeLegs$Crowd;", Cond.methodLink RX5 201 yX1_firstFault, Cond.instanceMethod yX1_firstFault, Cond.selects RX1 yX1_firstFault yX1_firstFault, Cond.initialized RX1, Cond.code yX1_firstFault cX1_firstFault 3 (some .int), Cond.fieldLink RX1 15 "ThreeLegs$Film" "count" "I", Cond.fieldLink RX1 9 "ThreeLegs$Film" "signs" "[I", Cond.methodLink RX5 96 yX0_canTie, Cond.instanceMethod yX0_canTie, Cond.selects RX0 yX0_canTie yX0_canTie, Cond.initialized RX0, Cond.code yX0_canTie cX0_canTie 3 (some .boolean), Cond.methodLink RX0 35 yX0_hasRunner, Cond.instanceMethod yX0_hasRunner, Cond.selects RX0 yX0_hasRunner yX0_hasRunner, Cond.code yX0_hasRunner cX0_hasRunner 2 (some .boolean), Cond.fieldLink RX0 9 "ThreeLegs$Crowd" "runs" "[Z", Cond.methodLink RX5 204 yX5_firstUnlike, Cond.instanceMethod yX5_firstUnlike, Cond.selects RX5 yX5_firstUnlike yX5_firstUnlike, Cond.initialized RX5, Cond.code yX5_firstUnlike cX5_firstUnlike 4 (some .int)]
def wsX5_fits_r2 : List Cond := [Cond.fieldLink RX5 34 "ThreeLegs" "walk" "LThreeLegs$Walk;", Cond.fieldLink RX5 196 "ThreeLegs$Film" "count" "I", Cond.fieldLink RX5 220 "ThreeLegs$Walk" "sign" "C", Cond.methodLink RX5 100 yX4_tie, Cond.instanceMethod yX4_tie, Cond.selects RX4 yX4_tie yX4_tie, Cond.initialized RX4, Cond.code yX4_tie cX4_tie 4 none, Cond.fieldLink RX4 15 "ThreeLegs$Crowd" "beat" "[I", Cond.fieldLink RX4 19 "ThreeLegs$Walk" "firstBeat" "I", Cond.fieldLink RX4 25 "ThreeLegs$Walk" "otherBeat" "I", Cond.fieldLink RX4 28 "ThreeLegs$Crowd" "give" "[I", Cond.fieldLink RX4 31 "ThreeLegs$Walk" "firstGive" "I", Cond.fieldLink RX4 34 "ThreeLegs$Walk" "otherGive" "I", Cond.fieldLink RX4 37 "ThreeLegs$Crowd" "length" "[I", Cond.methodLink RX4 40 Lib.Math.min.name, Cond.static Lib.Math.min.name, Cond.initialized "java/lang/Math", Cond.code Lib.Math.min.name Lib.Math.min.code 2 (some .int), Cond.fieldLink RX4 46 "ThreeLegs$Walk" "stride" "I", Cond.fieldLink RX4 49 "ThreeLegs$Crowd" "lurch" "I", Cond.fieldLink RX4 52 "ThreeLegs$Walk" "lurch" "I", Cond.fieldLink RX4 53 "ThreeLegs$Crowd" "fall" "I", Cond.fieldLink RX4 56 "ThreeLegs$Walk" "fall" "I"]
def wsX5_fits_r3 : List Cond := [Cond.fieldLink RX4 57 "ThreeLegs$Crowd" "up" "I", Cond.fieldLink RX4 60 "ThreeLegs$Walk" "up" "I", Cond.fieldLink RX4 61 "ThreeLegs$Walk" "firstTime" "I", Cond.fieldLink RX4 64 "ThreeLegs$Walk" "otherTime" "I", Cond.fieldLink RX4 67 "ThreeLegs$Walk" "steps" "I", Cond.fieldLink RX4 70 "ThreeLegs$Walk" "feet" "I", Cond.fieldLink RX4 73 "ThreeLegs$Walk" "lurches" "I", Cond.fieldLink RX4 76 "ThreeLegs$Walk" "falls" "I", Cond.methodLink RX4 9 yX0_canTie, Cond.methodLink RX5 104 yX4_step, Cond.instanceMethod yX4_step, Cond.selects RX4 yX4_step yX4_step, Cond.code yX4_step cX4_step 3 none, Cond.methodLink RX4 79 Lib.Math.max.name, Cond.static Lib.Math.max.name, Cond.code Lib.Math.max.name Lib.Math.max.code 2 (some .int), Cond.fieldLink RX4 86 "ThreeLegs$Walk" "firstWasEarlier" "Z", Cond.fieldLink RX4 94 "ThreeLegs$Walk" "sign" "C", Cond.methodLink RX4 90 yX4_apart, Cond.instanceMethod yX4_apart, Cond.selects RX4 yX4_apart yX4_apart, Cond.code yX4_apart cX4_apart 1 (some .int), Cond.methodLink RX4 82 Lib.Math.abs.name, Cond.static Lib.Math.abs.name]
def wsX5_fits_r4 : List Cond := [Cond.code Lib.Math.abs.name Lib.Math.abs.code 1 (some .int), Cond.methodLink RX5 224 yX1_canShow, Cond.instanceMethod yX1_canShow, Cond.selects RX1 yX1_canShow yX1_canShow, Cond.code yX1_canShow cX1_canShow 3 (some .boolean)]
def wsX5_fits : List Cond := .code yX5_fits cX5_fits 5 (some .int) :: ((wsX5_fits_r1 ++ (wsX5_fits_r2 ++ (wsX5_fits_r3 ++ wsX5_fits_r4))) ++ wsX50 ++ wsX10 ++ wsX00 ++ wsX40)
def wsX5_year_r1 : List Cond := [Cond.fieldLink RX5 48 "ThreeLegs" "soonest" "LThreeLegs$Soonest;", Cond.constant RX5 207 (65537), Cond.fieldLink RX5 10 "ThreeLegs" "crowd" "LThreeLegs$Crowd;", Cond.fieldLink RX5 52 "ThreeLegs" "times" "[I", Cond.fieldLink RX5 208 "ThreeLegs$Soonest" "time" "I", Cond.methodLink RX5 56 yX5_isWithin, Cond.static yX5_isWithin, Cond.initialized RX5, Cond.code yX5_isWithin cX5_isWithin 3 (some .boolean), Cond.methodLink RX5 140 yX5_isFeet, Cond.static yX5_isFeet, Cond.code yX5_isFeet cX5_isFeet 1 (some .boolean), Cond.methodLink RX5 149 yX5_timeAllPairs, Cond.instanceMethod yX5_timeAllPairs, Cond.selects RX5 yX5_timeAllPairs yX5_timeAllPairs, Cond.code yX5_timeAllPairs cX5_timeAllPairs 5 none, Cond.methodLink RX5 96 yX0_canTie, Cond.instanceMethod yX0_canTie, Cond.selects RX0 yX0_canTie yX0_canTie, Cond.initialized RX0, Cond.code yX0_canTie cX0_canTie 3 (some .boolean), Cond.methodLink RX0 35 yX0_hasRunner, Cond.instanceMethod yX0_hasRunner, Cond.selects RX0 yX0_hasRunner yX0_hasRunner]
def wsX5_year_r2 : List Cond := [Cond.code yX0_hasRunner cX0_hasRunner 2 (some .boolean), Cond.fieldLink RX0 9 "ThreeLegs$Crowd" "runs" "[Z", Cond.methodLink RX5 126 yX5_timeTo, Cond.instanceMethod yX5_timeTo, Cond.selects RX5 yX5_timeTo yX5_timeTo, Cond.code yX5_timeTo cX5_timeTo 4 (some .int), Cond.fieldLink RX5 34 "ThreeLegs" "walk" "LThreeLegs$Walk;", Cond.methodLink RX5 100 yX4_tie, Cond.instanceMethod yX4_tie, Cond.selects RX4 yX4_tie yX4_tie, Cond.initialized RX4, Cond.code yX4_tie cX4_tie 4 none, Cond.fieldLink RX4 15 "ThreeLegs$Crowd" "beat" "[I", Cond.fieldLink RX4 19 "ThreeLegs$Walk" "firstBeat" "I", Cond.fieldLink RX4 25 "ThreeLegs$Walk" "otherBeat" "I", Cond.fieldLink RX4 28 "ThreeLegs$Crowd" "give" "[I", Cond.fieldLink RX4 31 "ThreeLegs$Walk" "firstGive" "I", Cond.fieldLink RX4 34 "ThreeLegs$Walk" "otherGive" "I", Cond.fieldLink RX4 37 "ThreeLegs$Crowd" "length" "[I", Cond.methodLink RX4 40 Lib.Math.min.name, Cond.static Lib.Math.min.name, Cond.initialized "java/lang/Math", Cond.code Lib.Math.min.name Lib.Math.min.code 2 (some .int), Cond.fieldLink RX4 46 "ThreeLegs$Walk" "stride" "I"]
def wsX5_year_r3 : List Cond := [Cond.fieldLink RX4 49 "ThreeLegs$Crowd" "lurch" "I", Cond.fieldLink RX4 52 "ThreeLegs$Walk" "lurch" "I", Cond.fieldLink RX4 53 "ThreeLegs$Crowd" "fall" "I", Cond.fieldLink RX4 56 "ThreeLegs$Walk" "fall" "I", Cond.fieldLink RX4 57 "ThreeLegs$Crowd" "up" "I", Cond.fieldLink RX4 60 "ThreeLegs$Walk" "up" "I", Cond.fieldLink RX4 61 "ThreeLegs$Walk" "firstTime" "I", Cond.fieldLink RX4 64 "ThreeLegs$Walk" "otherTime" "I", Cond.fieldLink RX4 67 "ThreeLegs$Walk" "steps" "I", Cond.fieldLink RX4 70 "ThreeLegs$Walk" "feet" "I", Cond.fieldLink RX4 73 "ThreeLegs$Walk" "lurches" "I", Cond.fieldLink RX4 76 "ThreeLegs$Walk" "falls" "I", Cond.methodLink RX4 9 yX0_canTie, Cond.methodLink RX5 168 yX4_timeTo, Cond.instanceMethod yX4_timeTo, Cond.selects RX4 yX4_timeTo yX4_timeTo, Cond.code yX4_timeTo cX4_timeTo 4 (some .int), Cond.methodLink RX4 98 yX4_speedUp, Cond.instanceMethod yX4_speedUp, Cond.selects RX4 yX4_speedUp yX4_speedUp, Cond.code yX4_speedUp cX4_speedUp 1 none, Cond.methodLink RX4 79 Lib.Math.max.name, Cond.static Lib.Math.max.name, Cond.code Lib.Math.max.name Lib.Math.max.code 2 (some .int)]
def wsX5_year_r4 : List Cond := [Cond.methodLink RX4 101 yX4_step, Cond.instanceMethod yX4_step, Cond.selects RX4 yX4_step yX4_step, Cond.code yX4_step cX4_step 3 none, Cond.fieldLink RX4 86 "ThreeLegs$Walk" "firstWasEarlier" "Z", Cond.fieldLink RX4 94 "ThreeLegs$Walk" "sign" "C", Cond.methodLink RX4 90 yX4_apart, Cond.instanceMethod yX4_apart, Cond.selects RX4 yX4_apart yX4_apart, Cond.code yX4_apart cX4_apart 1 (some .int), Cond.methodLink RX4 82 Lib.Math.abs.name, Cond.static Lib.Math.abs.name, Cond.code Lib.Math.abs.name Lib.Math.abs.code 1 (some .int), Cond.methodLink RX4 104 yX4_time, Cond.instanceMethod yX4_time, Cond.selects RX4 yX4_time yX4_time, Cond.code yX4_time cX4_time 1 (some .int), Cond.methodLink RX5 162 yX3_clear, Cond.instanceMethod yX3_clear, Cond.selects RX3 yX3_clear yX3_clear, Cond.initialized RX3, Cond.code yX3_clear cX3_clear 1 none, Cond.fieldLink RX3 9 "ThreeLegs$Soonest" "time" "I", Cond.fieldLink RX3 15 "ThreeLegs$Soonest" "key" "I"]
def wsX5_year_r5 : List Cond := [Cond.methodLink RX5 171 yX3_offer, Cond.instanceMethod yX3_offer, Cond.selects RX3 yX3_offer yX3_offer, Cond.code yX3_offer cX3_offer 3 none]
def wsX5_year : List Cond := .code yX5_year cX5_year 12 (some .int) :: ((wsX5_year_r1 ++ (wsX5_year_r2 ++ (wsX5_year_r3 ++ (wsX5_year_r4 ++ wsX5_year_r5)))) ++ wsX50 ++ wsX30 ++ wsX00 ++ wsX40)
def wsX5_image : List Cond := .code yX5_image cX5_image 2 (some .int) :: ([.fieldLink RX5 16 "ThreeLegs" "images" "[LThreeLegs$Crowd;", .fieldLink RX5 10 "ThreeLegs" "crowd" "LThreeLegs$Crowd;", .fieldLink RX5 20 "ThreeLegs" "isKept" "[Z", .methodLink RX5 56 yX5_isWithin, .static yX5_isWithin, .initialized RX5, .code yX5_isWithin cX5_isWithin 3 (some .boolean), .methodLink RX5 210 yX0_copyFrom, .instanceMethod yX0_copyFrom, .selects RX0 yX0_copyFrom yX0_copyFrom, .initialized RX0, .code yX0_copyFrom cX0_copyFrom 3 none, .fieldLink RX0 9 "ThreeLegs$Crowd" "runs" "[Z", .fieldLink RX0 15 "ThreeLegs$Crowd" "beat" "[I", .fieldLink RX0 19 "ThreeLegs$Crowd" "length" "[I", .fieldLink RX0 22 "ThreeLegs$Crowd" "give" "[I", .fieldLink RX0 25 "ThreeLegs$Crowd" "lurch" "I", .fieldLink RX0 29 "ThreeLegs$Crowd" "fall" "I", .fieldLink RX0 32 "ThreeLegs$Crowd" "up" "I"] ++ wsX50 ++ wsX00)
def wsX5_restore : List Cond := .code yX5_restore cX5_restore 2 (some .int) :: ([.fieldLink RX5 20 "ThreeLegs" "isKept" "[Z", .fieldLink RX5 10 "ThreeLegs" "crowd" "LThreeLegs$Crowd;", .fieldLink RX5 16 "ThreeLegs" "images" "[LThreeLegs$Crowd;", .methodLink RX5 56 yX5_isWithin, .static yX5_isWithin, .initialized RX5, .code yX5_isWithin cX5_isWithin 3 (some .boolean), .methodLink RX5 210 yX0_copyFrom, .instanceMethod yX0_copyFrom, .selects RX0 yX0_copyFrom yX0_copyFrom, .initialized RX0, .code yX0_copyFrom cX0_copyFrom 3 none, .fieldLink RX0 9 "ThreeLegs$Crowd" "runs" "[Z", .fieldLink RX0 15 "ThreeLegs$Crowd" "beat" "[I", .fieldLink RX0 19 "ThreeLegs$Crowd" "length" "[I", .fieldLink RX0 22 "ThreeLegs$Crowd" "give" "[I", .fieldLink RX0 25 "ThreeLegs$Crowd" "lurch" "I", .fieldLink RX0 29 "ThreeLegs$Crowd" "fall" "I", .fieldLink RX0 32 "ThreeLegs$Crowd" "up" "I"] ++ wsX50 ++ wsX00)
def wsX5_toldOfPerson : List Cond := .code yX5_toldOfPerson cX5_toldOfPerson 3 (some .int) :: ([.fieldLink RX5 10 "ThreeLegs" "crowd" "LThreeLegs$Crowd;", .fieldLink RX5 146 "ThreeLegs$Crowd" "beat" "[I", .fieldLink RX5 143 "ThreeLegs$Crowd" "length" "[I", .fieldLink RX5 181 "ThreeLegs$Crowd" "give" "[I", .methodLink RX5 68 yX0_hasRunner, .instanceMethod yX0_hasRunner, .selects RX0 yX0_hasRunner yX0_hasRunner, .initialized RX0, .code yX0_hasRunner cX0_hasRunner 2 (some .boolean), .fieldLink RX0 9 "ThreeLegs$Crowd" "runs" "[Z"] ++ wsX50 ++ wsX00)
def wsX5_told : List Cond := .code yX5_told cX5_told 2 (some .int) :: ([.fieldLink RX5 27 "ThreeLegs" "film" "LThreeLegs$Film;", .fieldLink RX5 196 "ThreeLegs$Film" "count" "I", .fieldLink RX5 10 "ThreeLegs" "crowd" "LThreeLegs$Crowd;", .fieldLink RX5 90 "ThreeLegs$Crowd" "lurch" "I", .fieldLink RX5 86 "ThreeLegs$Crowd" "fall" "I", .fieldLink RX5 93 "ThreeLegs$Crowd" "up" "I", .methodLink RX5 214 yX0_bits, .instanceMethod yX0_bits, .selects RX0 yX0_bits yX0_bits, .initialized RX0, .code yX0_bits cX0_bits 3 (some .int), .fieldLink RX0 9 "ThreeLegs$Crowd" "runs" "[Z", .methodLink RX5 217 yX5_toldOfPerson, .instanceMethod yX5_toldOfPerson, .selects RX5 yX5_toldOfPerson yX5_toldOfPerson, .initialized RX5, .code yX5_toldOfPerson cX5_toldOfPerson 3 (some .int), .fieldLink RX5 146 "ThreeLegs$Crowd" "beat" "[I", .fieldLink RX5 143 "ThreeLegs$Crowd" "length" "[I", .fieldLink RX5 181 "ThreeLegs$Crowd" "give" "[I", .methodLink RX5 68 yX0_hasRunner, .instanceMethod yX0_hasRunner, .selects RX0 yX0_hasRunner yX0_hasRunner, .code yX0_hasRunner cX0_hasRunner 2 (some .boolean)] ++ wsX50 ++ wsX10 ++ wsX00)
def wsX6_init : List Cond := .code yX6_init cX6_init 1 none :: ([.methodLink RX6 1 objectInit, .instanceMethod objectInit, .code objectInit ⟨#[0xb1]⟩ 1 none, .arrayClass .int, .fieldLink RX6 7 "ThreeLegsModel" "beat" "[I", .fieldLink RX6 13 "ThreeLegsModel" "length" "[I", .fieldLink RX6 16 "ThreeLegsModel" "give" "[I", .fieldLink RX6 19 "ThreeLegsModel" "timeBy" "[I", .fieldLink RX6 22 "ThreeLegsModel" "with" "[I", .fieldLink RX6 25 "ThreeLegsModel" "bestWith" "[I", .fieldLink RX6 28 "ThreeLegsModel" "pad" "[I", .fieldLink RX6 31 "ThreeLegsModel" "kept" "[I", .arrayClass .boolean, .fieldLink RX6 34 "ThreeLegsModel" "isKept" "[Z", .fieldLink RX6 38 "ThreeLegsModel" "lurch" "I", .fieldLink RX6 42 "ThreeLegsModel" "fall" "I", .fieldLink RX6 45 "ThreeLegsModel" "up" "I"] ++ wsX60)
def wsX6_in : List Cond := .code yX6_in cX6_in 6 (some .boolean) :: ([])
def wsX6_ones : List Cond := .code yX6_ones cX6_ones 3 (some .int) :: ([])
def wsX6_runs : List Cond := .code yX6_runs cX6_runs 2 (some .boolean) :: ([.constantLong RX6 48 (7), .fieldLink RX6 54 "ThreeLegsModel" "running" "I", .methodLink RX6 50 yX6_in, .static yX6_in, .initialized RX6, .code yX6_in cX6_in 6 (some .boolean)] ++ wsX60)
def wsX6_run : List Cond := .code yX6_run cX6_run 5 (some .int) :: ([.constantLong RX6 48 (7), .constantLong RX6 57 (4), .constantLong RX6 59 (20), .constantLong RX6 61 (9), .fieldLink RX6 7 "ThreeLegsModel" "beat" "[I", .fieldLink RX6 13 "ThreeLegsModel" "length" "[I", .fieldLink RX6 16 "ThreeLegsModel" "give" "[I", .fieldLink RX6 54 "ThreeLegsModel" "running" "I", .methodLink RX6 50 yX6_in, .static yX6_in, .initialized RX6, .code yX6_in cX6_in 6 (some .boolean), .methodLink RX6 63 yX6_ones, .static yX6_ones, .code yX6_ones cX6_ones 3 (some .int)] ++ wsX60)
def wsX6_rest : List Cond := .code yX6_rest cX6_rest 2 (some .int) :: ([.fieldLink RX6 54 "ThreeLegsModel" "running" "I", .methodLink RX6 67 yX6_runs, .instanceMethod yX6_runs, .selects RX6 yX6_runs yX6_runs, .initialized RX6, .code yX6_runs cX6_runs 2 (some .boolean), .constantLong RX6 48 (7), .methodLink RX6 50 yX6_in, .static yX6_in, .code yX6_in cX6_in 6 (some .boolean), .methodLink RX6 63 yX6_ones, .static yX6_ones, .code yX6_ones cX6_ones 3 (some .int)] ++ wsX60)
def wsX6_set : List Cond := .code yX6_set cX6_set 5 (some .int) :: ([.fieldLink RX6 42 "ThreeLegsModel" "fall" "I", .constantLong RX6 61 (9), .fieldLink RX6 38 "ThreeLegsModel" "lurch" "I", .constantLong RX6 59 (20), .constantLong RX6 71 (99), .fieldLink RX6 45 "ThreeLegsModel" "up" "I", .methodLink RX6 50 yX6_in, .static yX6_in, .initialized RX6, .code yX6_in cX6_in 6 (some .boolean)] ++ wsX60)
def wsX6_isPair : List Cond := .code yX6_isPair cX6_isPair 3 (some .boolean) :: ([.methodLink RX6 67 yX6_runs, .instanceMethod yX6_runs, .selects RX6 yX6_runs yX6_runs, .initialized RX6, .code yX6_runs cX6_runs 2 (some .boolean), .constantLong RX6 48 (7), .fieldLink RX6 54 "ThreeLegsModel" "running" "I", .methodLink RX6 50 yX6_in, .static yX6_in, .code yX6_in cX6_in 6 (some .boolean)] ++ wsX60)
def wsX6_layPair : List Cond := .code yX6_layPair cX6_layPair 3 none :: ([.fieldLink RX6 7 "ThreeLegsModel" "beat" "[I", .fieldLink RX6 73 "ThreeLegsModel" "beatA" "I", .fieldLink RX6 76 "ThreeLegsModel" "beatB" "I", .fieldLink RX6 16 "ThreeLegsModel" "give" "[I", .fieldLink RX6 79 "ThreeLegsModel" "giveA" "I", .fieldLink RX6 82 "ThreeLegsModel" "giveB" "I", .fieldLink RX6 13 "ThreeLegsModel" "length" "[I", .fieldLink RX6 85 "ThreeLegsModel" "stride" "I", .fieldLink RX6 88 "ThreeLegsModel" "quickFrom" "I", .fieldLink RX6 38 "ThreeLegsModel" "lurch" "I", .fieldLink RX6 91 "ThreeLegsModel" "tight" "I"] ++ wsX60)
def wsX6_begin : List Cond := .code yX6_begin cX6_begin 1 none :: ([.fieldLink RX6 94 "ThreeLegsModel" "timeA" "I", .fieldLink RX6 97 "ThreeLegsModel" "timeB" "I", .fieldLink RX6 100 "ThreeLegsModel" "feet" "I", .fieldLink RX6 103 "ThreeLegsModel" "lurches" "I", .fieldLink RX6 106 "ThreeLegsModel" "falls" "I", .fieldLink RX6 109 "ThreeLegsModel" "steps" "I"] ++ wsX60)
def wsX6_quicker : List Cond := .code yX6_quicker cX6_quicker 2 (some .int) :: ([.fieldLink RX6 109 "ThreeLegsModel" "steps" "I", .fieldLink RX6 88 "ThreeLegsModel" "quickFrom" "I"] ++ wsX60)
def wsX6_next : List Cond := .code yX6_next cX6_next 5 (some .int) :: ([])
def wsX6_step_r1 : List Cond := [Cond.fieldLink RX6 94 "ThreeLegsModel" "timeA" "I", Cond.fieldLink RX6 97 "ThreeLegsModel" "timeB" "I", Cond.fieldLink RX6 73 "ThreeLegsModel" "beatA" "I", Cond.fieldLink RX6 79 "ThreeLegsModel" "giveA" "I", Cond.fieldLink RX6 76 "ThreeLegsModel" "beatB" "I", Cond.fieldLink RX6 82 "ThreeLegsModel" "giveB" "I", Cond.fieldLink RX6 42 "ThreeLegsModel" "fall" "I", Cond.fieldLink RX6 91 "ThreeLegsModel" "tight" "I", Cond.fieldLink RX6 119 "ThreeLegsModel" "how" "I", Cond.fieldLink RX6 122 "ThreeLegsModel" "earlier" "I", Cond.fieldLink RX6 106 "ThreeLegsModel" "falls" "I", Cond.fieldLink RX6 103 "ThreeLegsModel" "lurches" "I", Cond.fieldLink RX6 100 "ThreeLegsModel" "feet" "I", Cond.fieldLink RX6 85 "ThreeLegsModel" "stride" "I", Cond.fieldLink RX6 45 "ThreeLegsModel" "up" "I", Cond.fieldLink RX6 109 "ThreeLegsModel" "steps" "I", Cond.methodLink RX6 112 yX6_quicker, Cond.instanceMethod yX6_quicker, Cond.selects RX6 yX6_quicker yX6_quicker, Cond.initialized RX6, Cond.code yX6_quicker cX6_quicker 2 (some .int), Cond.fieldLink RX6 88 "ThreeLegsModel" "quickFrom" "I", Cond.methodLink RX6 115 yX6_next, Cond.static yX6_next]
def wsX6_step_r2 : List Cond := [Cond.code yX6_next cX6_next 5 (some .int)]
def wsX6_step : List Cond := .code yX6_step cX6_step 5 none :: ((wsX6_step_r1 ++ wsX6_step_r2) ++ wsX60)
def wsX6_time : List Cond := .code yX6_time cX6_time 1 (some .int) :: ([.fieldLink RX6 94 "ThreeLegsModel" "timeA" "I", .fieldLink RX6 97 "ThreeLegsModel" "timeB" "I"] ++ wsX60)
def wsX6_timeOf_r1 : List Cond := [Cond.fieldLink RX6 109 "ThreeLegsModel" "steps" "I", Cond.fieldLink RX6 100 "ThreeLegsModel" "feet" "I", Cond.constant RX6 135 (1000000000), Cond.methodLink RX6 125 yX6_begin, Cond.instanceMethod yX6_begin, Cond.selects RX6 yX6_begin yX6_begin, Cond.initialized RX6, Cond.code yX6_begin cX6_begin 1 none, Cond.fieldLink RX6 94 "ThreeLegsModel" "timeA" "I", Cond.fieldLink RX6 97 "ThreeLegsModel" "timeB" "I", Cond.fieldLink RX6 103 "ThreeLegsModel" "lurches" "I", Cond.fieldLink RX6 106 "ThreeLegsModel" "falls" "I", Cond.methodLink RX6 128 yX6_step, Cond.instanceMethod yX6_step, Cond.selects RX6 yX6_step yX6_step, Cond.code yX6_step cX6_step 5 none, Cond.fieldLink RX6 73 "ThreeLegsModel" "beatA" "I", Cond.fieldLink RX6 79 "ThreeLegsModel" "giveA" "I", Cond.fieldLink RX6 76 "ThreeLegsModel" "beatB" "I", Cond.fieldLink RX6 82 "ThreeLegsModel" "giveB" "I", Cond.fieldLink RX6 42 "ThreeLegsModel" "fall" "I", Cond.fieldLink RX6 91 "ThreeLegsModel" "tight" "I", Cond.fieldLink RX6 119 "ThreeLegsModel" "how" "I", Cond.fieldLink RX6 122 "ThreeLegsModel" "earlier" "I"]
def wsX6_timeOf_r2 : List Cond := [Cond.fieldLink RX6 85 "ThreeLegsModel" "stride" "I", Cond.fieldLink RX6 45 "ThreeLegsModel" "up" "I", Cond.methodLink RX6 112 yX6_quicker, Cond.instanceMethod yX6_quicker, Cond.selects RX6 yX6_quicker yX6_quicker, Cond.code yX6_quicker cX6_quicker 2 (some .int), Cond.fieldLink RX6 88 "ThreeLegsModel" "quickFrom" "I", Cond.methodLink RX6 115 yX6_next, Cond.static yX6_next, Cond.code yX6_next cX6_next 5 (some .int), Cond.methodLink RX6 131 yX6_time, Cond.instanceMethod yX6_time, Cond.selects RX6 yX6_time yX6_time, Cond.code yX6_time cX6_time 1 (some .int)]
def wsX6_timeOf : List Cond := .code yX6_timeOf cX6_timeOf 2 (some .int) :: ((wsX6_timeOf_r1 ++ wsX6_timeOf_r2) ++ wsX60)
def wsX6_pair_r1 : List Cond := [Cond.constantLong RX6 140 (999), Cond.constantLong RX6 57 (4), Cond.fieldLink RX6 109 "ThreeLegsModel" "steps" "I", Cond.fieldLink RX6 94 "ThreeLegsModel" "timeA" "I", Cond.fieldLink RX6 97 "ThreeLegsModel" "timeB" "I", Cond.fieldLink RX6 100 "ThreeLegsModel" "feet" "I", Cond.fieldLink RX6 103 "ThreeLegsModel" "lurches" "I", Cond.fieldLink RX6 106 "ThreeLegsModel" "falls" "I", Cond.methodLink RX6 136 yX6_isPair, Cond.instanceMethod yX6_isPair, Cond.selects RX6 yX6_isPair yX6_isPair, Cond.initialized RX6, Cond.code yX6_isPair cX6_isPair 3 (some .boolean), Cond.methodLink RX6 67 yX6_runs, Cond.instanceMethod yX6_runs, Cond.selects RX6 yX6_runs yX6_runs, Cond.code yX6_runs cX6_runs 2 (some .boolean), Cond.constantLong RX6 48 (7), Cond.fieldLink RX6 54 "ThreeLegsModel" "running" "I", Cond.methodLink RX6 50 yX6_in, Cond.static yX6_in, Cond.code yX6_in cX6_in 6 (some .boolean), Cond.methodLink RX6 142 yX6_layPair, Cond.instanceMethod yX6_layPair]
def wsX6_pair_r2 : List Cond := [Cond.selects RX6 yX6_layPair yX6_layPair, Cond.code yX6_layPair cX6_layPair 3 none, Cond.fieldLink RX6 7 "ThreeLegsModel" "beat" "[I", Cond.fieldLink RX6 73 "ThreeLegsModel" "beatA" "I", Cond.fieldLink RX6 76 "ThreeLegsModel" "beatB" "I", Cond.fieldLink RX6 16 "ThreeLegsModel" "give" "[I", Cond.fieldLink RX6 79 "ThreeLegsModel" "giveA" "I", Cond.fieldLink RX6 82 "ThreeLegsModel" "giveB" "I", Cond.fieldLink RX6 13 "ThreeLegsModel" "length" "[I", Cond.fieldLink RX6 85 "ThreeLegsModel" "stride" "I", Cond.fieldLink RX6 88 "ThreeLegsModel" "quickFrom" "I", Cond.fieldLink RX6 38 "ThreeLegsModel" "lurch" "I", Cond.fieldLink RX6 91 "ThreeLegsModel" "tight" "I", Cond.methodLink RX6 125 yX6_begin, Cond.instanceMethod yX6_begin, Cond.selects RX6 yX6_begin yX6_begin, Cond.code yX6_begin cX6_begin 1 none, Cond.methodLink RX6 128 yX6_step, Cond.instanceMethod yX6_step, Cond.selects RX6 yX6_step yX6_step, Cond.code yX6_step cX6_step 5 none, Cond.fieldLink RX6 42 "ThreeLegsModel" "fall" "I", Cond.fieldLink RX6 119 "ThreeLegsModel" "how" "I", Cond.fieldLink RX6 122 "ThreeLegsModel" "earlier" "I"]
def wsX6_pair_r3 : List Cond := [Cond.fieldLink RX6 45 "ThreeLegsModel" "up" "I", Cond.methodLink RX6 112 yX6_quicker, Cond.instanceMethod yX6_quicker, Cond.selects RX6 yX6_quicker yX6_quicker, Cond.code yX6_quicker cX6_quicker 2 (some .int), Cond.methodLink RX6 115 yX6_next, Cond.static yX6_next, Cond.code yX6_next cX6_next 5 (some .int), Cond.methodLink RX6 131 yX6_time, Cond.instanceMethod yX6_time, Cond.selects RX6 yX6_time yX6_time, Cond.code yX6_time cX6_time 1 (some .int)]
def wsX6_pair : List Cond := .code yX6_pair cX6_pair 6 (some .int) :: ((wsX6_pair_r1 ++ (wsX6_pair_r2 ++ wsX6_pair_r3)) ++ wsX60)
def wsX6_isFar : List Cond := .code yX6_isFar cX6_isFar 1 (some .boolean) :: ([.constantLong RX6 140 (999), .methodLink RX6 50 yX6_in, .static yX6_in, .initialized RX6, .code yX6_in cX6_in 6 (some .boolean)])
def wsX6_reach_r1 : List Cond := [Cond.constant RX6 135 (1000000000), Cond.fieldLink RX6 109 "ThreeLegsModel" "steps" "I", Cond.methodLink RX6 136 yX6_isPair, Cond.instanceMethod yX6_isPair, Cond.selects RX6 yX6_isPair yX6_isPair, Cond.initialized RX6, Cond.code yX6_isPair cX6_isPair 3 (some .boolean), Cond.methodLink RX6 67 yX6_runs, Cond.instanceMethod yX6_runs, Cond.selects RX6 yX6_runs yX6_runs, Cond.code yX6_runs cX6_runs 2 (some .boolean), Cond.constantLong RX6 48 (7), Cond.fieldLink RX6 54 "ThreeLegsModel" "running" "I", Cond.methodLink RX6 50 yX6_in, Cond.static yX6_in, Cond.code yX6_in cX6_in 6 (some .boolean), Cond.methodLink RX6 146 yX6_isFar, Cond.static yX6_isFar, Cond.code yX6_isFar cX6_isFar 1 (some .boolean), Cond.constantLong RX6 140 (999), Cond.methodLink RX6 142 yX6_layPair, Cond.instanceMethod yX6_layPair, Cond.selects RX6 yX6_layPair yX6_layPair, Cond.code yX6_layPair cX6_layPair 3 none]
def wsX6_reach_r2 : List Cond := [Cond.fieldLink RX6 7 "ThreeLegsModel" "beat" "[I", Cond.fieldLink RX6 73 "ThreeLegsModel" "beatA" "I", Cond.fieldLink RX6 76 "ThreeLegsModel" "beatB" "I", Cond.fieldLink RX6 16 "ThreeLegsModel" "give" "[I", Cond.fieldLink RX6 79 "ThreeLegsModel" "giveA" "I", Cond.fieldLink RX6 82 "ThreeLegsModel" "giveB" "I", Cond.fieldLink RX6 13 "ThreeLegsModel" "length" "[I", Cond.fieldLink RX6 85 "ThreeLegsModel" "stride" "I", Cond.fieldLink RX6 88 "ThreeLegsModel" "quickFrom" "I", Cond.fieldLink RX6 38 "ThreeLegsModel" "lurch" "I", Cond.fieldLink RX6 91 "ThreeLegsModel" "tight" "I", Cond.methodLink RX6 149 yX6_timeOf, Cond.instanceMethod yX6_timeOf, Cond.selects RX6 yX6_timeOf yX6_timeOf, Cond.code yX6_timeOf cX6_timeOf 2 (some .int), Cond.fieldLink RX6 100 "ThreeLegsModel" "feet" "I", Cond.methodLink RX6 125 yX6_begin, Cond.instanceMethod yX6_begin, Cond.selects RX6 yX6_begin yX6_begin, Cond.code yX6_begin cX6_begin 1 none, Cond.fieldLink RX6 94 "ThreeLegsModel" "timeA" "I", Cond.fieldLink RX6 97 "ThreeLegsModel" "timeB" "I", Cond.fieldLink RX6 103 "ThreeLegsModel" "lurches" "I", Cond.fieldLink RX6 106 "ThreeLegsModel" "falls" "I"]
def wsX6_reach_r3 : List Cond := [Cond.methodLink RX6 128 yX6_step, Cond.instanceMethod yX6_step, Cond.selects RX6 yX6_step yX6_step, Cond.code yX6_step cX6_step 5 none, Cond.fieldLink RX6 42 "ThreeLegsModel" "fall" "I", Cond.fieldLink RX6 119 "ThreeLegsModel" "how" "I", Cond.fieldLink RX6 122 "ThreeLegsModel" "earlier" "I", Cond.fieldLink RX6 45 "ThreeLegsModel" "up" "I", Cond.methodLink RX6 112 yX6_quicker, Cond.instanceMethod yX6_quicker, Cond.selects RX6 yX6_quicker yX6_quicker, Cond.code yX6_quicker cX6_quicker 2 (some .int), Cond.methodLink RX6 115 yX6_next, Cond.static yX6_next, Cond.code yX6_next cX6_next 5 (some .int), Cond.methodLink RX6 131 yX6_time, Cond.instanceMethod yX6_time, Cond.selects RX6 yX6_time yX6_time, Cond.code yX6_time cX6_time 1 (some .int)]
def wsX6_reach : List Cond := .code yX6_reach cX6_reach 6 (some .int) :: ((wsX6_reach_r1 ++ (wsX6_reach_r2 ++ wsX6_reach_r3)) ++ wsX60)
def wsX6_who_r1 : List Cond := [Cond.fieldLink RX6 109 "ThreeLegsModel" "steps" "I", Cond.fieldLink RX6 106 "ThreeLegsModel" "falls" "I", Cond.fieldLink RX6 122 "ThreeLegsModel" "earlier" "I", Cond.methodLink RX6 136 yX6_isPair, Cond.instanceMethod yX6_isPair, Cond.selects RX6 yX6_isPair yX6_isPair, Cond.initialized RX6, Cond.code yX6_isPair cX6_isPair 3 (some .boolean), Cond.methodLink RX6 67 yX6_runs, Cond.instanceMethod yX6_runs, Cond.selects RX6 yX6_runs yX6_runs, Cond.code yX6_runs cX6_runs 2 (some .boolean), Cond.constantLong RX6 48 (7), Cond.fieldLink RX6 54 "ThreeLegsModel" "running" "I", Cond.methodLink RX6 50 yX6_in, Cond.static yX6_in, Cond.code yX6_in cX6_in 6 (some .boolean), Cond.methodLink RX6 142 yX6_layPair, Cond.instanceMethod yX6_layPair, Cond.selects RX6 yX6_layPair yX6_layPair, Cond.code yX6_layPair cX6_layPair 3 none, Cond.fieldLink RX6 7 "ThreeLegsModel" "beat" "[I", Cond.fieldLink RX6 73 "ThreeLegsModel" "beatA" "I", Cond.fieldLink RX6 76 "ThreeLegsModel" "beatB" "I"]
def wsX6_who_r2 : List Cond := [Cond.fieldLink RX6 16 "ThreeLegsModel" "give" "[I", Cond.fieldLink RX6 79 "ThreeLegsModel" "giveA" "I", Cond.fieldLink RX6 82 "ThreeLegsModel" "giveB" "I", Cond.fieldLink RX6 13 "ThreeLegsModel" "length" "[I", Cond.fieldLink RX6 85 "ThreeLegsModel" "stride" "I", Cond.fieldLink RX6 88 "ThreeLegsModel" "quickFrom" "I", Cond.fieldLink RX6 38 "ThreeLegsModel" "lurch" "I", Cond.fieldLink RX6 91 "ThreeLegsModel" "tight" "I", Cond.methodLink RX6 125 yX6_begin, Cond.instanceMethod yX6_begin, Cond.selects RX6 yX6_begin yX6_begin, Cond.code yX6_begin cX6_begin 1 none, Cond.fieldLink RX6 94 "ThreeLegsModel" "timeA" "I", Cond.fieldLink RX6 97 "ThreeLegsModel" "timeB" "I", Cond.fieldLink RX6 100 "ThreeLegsModel" "feet" "I", Cond.fieldLink RX6 103 "ThreeLegsModel" "lurches" "I", Cond.methodLink RX6 128 yX6_step, Cond.instanceMethod yX6_step, Cond.selects RX6 yX6_step yX6_step, Cond.code yX6_step cX6_step 5 none, Cond.fieldLink RX6 42 "ThreeLegsModel" "fall" "I", Cond.fieldLink RX6 119 "ThreeLegsModel" "how" "I", Cond.fieldLink RX6 45 "ThreeLegsModel" "up" "I", Cond.methodLink RX6 112 yX6_quicker]
def wsX6_who_r3 : List Cond := [Cond.instanceMethod yX6_quicker, Cond.selects RX6 yX6_quicker yX6_quicker, Cond.code yX6_quicker cX6_quicker 2 (some .int), Cond.methodLink RX6 115 yX6_next, Cond.static yX6_next, Cond.code yX6_next cX6_next 5 (some .int)]
def wsX6_who : List Cond := .code yX6_who cX6_who 4 (some .int) :: ((wsX6_who_r1 ++ (wsX6_who_r2 ++ wsX6_who_r3)) ++ wsX60)
def wsX6_alone : List Cond := .code yX6_alone cX6_alone 3 (some .int) :: ([.fieldLink RX6 13 "ThreeLegsModel" "length" "[I", .fieldLink RX6 7 "ThreeLegsModel" "beat" "[I", .methodLink RX6 67 yX6_runs, .instanceMethod yX6_runs, .selects RX6 yX6_runs yX6_runs, .initialized RX6, .code yX6_runs cX6_runs 2 (some .boolean), .constantLong RX6 48 (7), .fieldLink RX6 54 "ThreeLegsModel" "running" "I", .methodLink RX6 50 yX6_in, .static yX6_in, .code yX6_in cX6_in 6 (some .boolean), .methodLink RX6 146 yX6_isFar, .static yX6_isFar, .code yX6_isFar cX6_isFar 1 (some .boolean), .constantLong RX6 140 (999)] ++ wsX60)
def wsX6_findTimes_r1 : List Cond := [Cond.fieldLink RX6 19 "ThreeLegsModel" "timeBy" "[I", Cond.constant RX6 135 (1000000000), Cond.constant RX6 152 (100000), Cond.methodLink RX6 136 yX6_isPair, Cond.instanceMethod yX6_isPair, Cond.selects RX6 yX6_isPair yX6_isPair, Cond.initialized RX6, Cond.code yX6_isPair cX6_isPair 3 (some .boolean), Cond.methodLink RX6 67 yX6_runs, Cond.instanceMethod yX6_runs, Cond.selects RX6 yX6_runs yX6_runs, Cond.code yX6_runs cX6_runs 2 (some .boolean), Cond.constantLong RX6 48 (7), Cond.fieldLink RX6 54 "ThreeLegsModel" "running" "I", Cond.methodLink RX6 50 yX6_in, Cond.static yX6_in, Cond.code yX6_in cX6_in 6 (some .boolean), Cond.methodLink RX6 142 yX6_layPair, Cond.instanceMethod yX6_layPair, Cond.selects RX6 yX6_layPair yX6_layPair, Cond.code yX6_layPair cX6_layPair 3 none, Cond.fieldLink RX6 7 "ThreeLegsModel" "beat" "[I", Cond.fieldLink RX6 73 "ThreeLegsModel" "beatA" "I", Cond.fieldLink RX6 76 "ThreeLegsModel" "beatB" "I"]
def wsX6_findTimes_r2 : List Cond := [Cond.fieldLink RX6 16 "ThreeLegsModel" "give" "[I", Cond.fieldLink RX6 79 "ThreeLegsModel" "giveA" "I", Cond.fieldLink RX6 82 "ThreeLegsModel" "giveB" "I", Cond.fieldLink RX6 13 "ThreeLegsModel" "length" "[I", Cond.fieldLink RX6 85 "ThreeLegsModel" "stride" "I", Cond.fieldLink RX6 88 "ThreeLegsModel" "quickFrom" "I", Cond.fieldLink RX6 38 "ThreeLegsModel" "lurch" "I", Cond.fieldLink RX6 91 "ThreeLegsModel" "tight" "I", Cond.methodLink RX6 149 yX6_timeOf, Cond.instanceMethod yX6_timeOf, Cond.selects RX6 yX6_timeOf yX6_timeOf, Cond.code yX6_timeOf cX6_timeOf 2 (some .int), Cond.fieldLink RX6 109 "ThreeLegsModel" "steps" "I", Cond.fieldLink RX6 100 "ThreeLegsModel" "feet" "I", Cond.methodLink RX6 125 yX6_begin, Cond.instanceMethod yX6_begin, Cond.selects RX6 yX6_begin yX6_begin, Cond.code yX6_begin cX6_begin 1 none, Cond.fieldLink RX6 94 "ThreeLegsModel" "timeA" "I", Cond.fieldLink RX6 97 "ThreeLegsModel" "timeB" "I", Cond.fieldLink RX6 103 "ThreeLegsModel" "lurches" "I", Cond.fieldLink RX6 106 "ThreeLegsModel" "falls" "I", Cond.methodLink RX6 128 yX6_step, Cond.instanceMethod yX6_step]
def wsX6_findTimes_r3 : List Cond := [Cond.selects RX6 yX6_step yX6_step, Cond.code yX6_step cX6_step 5 none, Cond.fieldLink RX6 42 "ThreeLegsModel" "fall" "I", Cond.fieldLink RX6 119 "ThreeLegsModel" "how" "I", Cond.fieldLink RX6 122 "ThreeLegsModel" "earlier" "I", Cond.fieldLink RX6 45 "ThreeLegsModel" "up" "I", Cond.methodLink RX6 112 yX6_quicker, Cond.instanceMethod yX6_quicker, Cond.selects RX6 yX6_quicker yX6_quicker, Cond.code yX6_quicker cX6_quicker 2 (some .int), Cond.methodLink RX6 115 yX6_next, Cond.static yX6_next, Cond.code yX6_next cX6_next 5 (some .int), Cond.methodLink RX6 131 yX6_time, Cond.instanceMethod yX6_time, Cond.selects RX6 yX6_time yX6_time, Cond.code yX6_time cX6_time 1 (some .int)]
def wsX6_findTimes : List Cond := .code yX6_findTimes cX6_findTimes 5 none :: ((wsX6_findTimes_r1 ++ (wsX6_findTimes_r2 ++ wsX6_findTimes_r3)) ++ wsX60)
def wsX6_tie : List Cond := .code yX6_tie cX6_tie 9 none :: ([.fieldLink RX6 54 "ThreeLegsModel" "running" "I", .fieldLink RX6 22 "ThreeLegsModel" "with" "[I", .methodLink RX6 63 yX6_ones, .static yX6_ones, .initialized RX6, .code yX6_ones cX6_ones 3 (some .int)] ++ wsX60)
def wsX6_tiedBy : List Cond := .code yX6_tiedBy cX6_tiedBy 5 (some .int) :: ([.fieldLink RX6 22 "ThreeLegsModel" "with" "[I", .fieldLink RX6 19 "ThreeLegsModel" "timeBy" "[I", .methodLink RX6 67 yX6_runs, .instanceMethod yX6_runs, .selects RX6 yX6_runs yX6_runs, .initialized RX6, .code yX6_runs cX6_runs 2 (some .boolean), .constantLong RX6 48 (7), .fieldLink RX6 54 "ThreeLegsModel" "running" "I", .methodLink RX6 50 yX6_in, .static yX6_in, .code yX6_in cX6_in 6 (some .boolean)] ++ wsX60)
def wsX6_tied_r1 : List Cond := [Cond.fieldLink RX6 54 "ThreeLegsModel" "running" "I", Cond.constant RX6 135 (1000000000), Cond.fieldLink RX6 25 "ThreeLegsModel" "bestWith" "[I", Cond.fieldLink RX6 22 "ThreeLegsModel" "with" "[I", Cond.methodLink RX6 63 yX6_ones, Cond.static yX6_ones, Cond.initialized RX6, Cond.code yX6_ones cX6_ones 3 (some .int), Cond.methodLink RX6 67 yX6_runs, Cond.instanceMethod yX6_runs, Cond.selects RX6 yX6_runs yX6_runs, Cond.code yX6_runs cX6_runs 2 (some .boolean), Cond.constantLong RX6 48 (7), Cond.methodLink RX6 50 yX6_in, Cond.static yX6_in, Cond.code yX6_in cX6_in 6 (some .boolean), Cond.methodLink RX6 146 yX6_isFar, Cond.static yX6_isFar, Cond.code yX6_isFar cX6_isFar 1 (some .boolean), Cond.constantLong RX6 140 (999), Cond.methodLink RX6 153 yX6_findTimes, Cond.instanceMethod yX6_findTimes, Cond.selects RX6 yX6_findTimes yX6_findTimes, Cond.code yX6_findTimes cX6_findTimes 5 none]
def wsX6_tied_r2 : List Cond := [Cond.fieldLink RX6 19 "ThreeLegsModel" "timeBy" "[I", Cond.constant RX6 152 (100000), Cond.methodLink RX6 136 yX6_isPair, Cond.instanceMethod yX6_isPair, Cond.selects RX6 yX6_isPair yX6_isPair, Cond.code yX6_isPair cX6_isPair 3 (some .boolean), Cond.methodLink RX6 142 yX6_layPair, Cond.instanceMethod yX6_layPair, Cond.selects RX6 yX6_layPair yX6_layPair, Cond.code yX6_layPair cX6_layPair 3 none, Cond.fieldLink RX6 7 "ThreeLegsModel" "beat" "[I", Cond.fieldLink RX6 73 "ThreeLegsModel" "beatA" "I", Cond.fieldLink RX6 76 "ThreeLegsModel" "beatB" "I", Cond.fieldLink RX6 16 "ThreeLegsModel" "give" "[I", Cond.fieldLink RX6 79 "ThreeLegsModel" "giveA" "I", Cond.fieldLink RX6 82 "ThreeLegsModel" "giveB" "I", Cond.fieldLink RX6 13 "ThreeLegsModel" "length" "[I", Cond.fieldLink RX6 85 "ThreeLegsModel" "stride" "I", Cond.fieldLink RX6 88 "ThreeLegsModel" "quickFrom" "I", Cond.fieldLink RX6 38 "ThreeLegsModel" "lurch" "I", Cond.fieldLink RX6 91 "ThreeLegsModel" "tight" "I", Cond.methodLink RX6 149 yX6_timeOf, Cond.instanceMethod yX6_timeOf, Cond.selects RX6 yX6_timeOf yX6_timeOf]
def wsX6_tied_r3 : List Cond := [Cond.code yX6_timeOf cX6_timeOf 2 (some .int), Cond.fieldLink RX6 109 "ThreeLegsModel" "steps" "I", Cond.fieldLink RX6 100 "ThreeLegsModel" "feet" "I", Cond.methodLink RX6 125 yX6_begin, Cond.instanceMethod yX6_begin, Cond.selects RX6 yX6_begin yX6_begin, Cond.code yX6_begin cX6_begin 1 none, Cond.fieldLink RX6 94 "ThreeLegsModel" "timeA" "I", Cond.fieldLink RX6 97 "ThreeLegsModel" "timeB" "I", Cond.fieldLink RX6 103 "ThreeLegsModel" "lurches" "I", Cond.fieldLink RX6 106 "ThreeLegsModel" "falls" "I", Cond.methodLink RX6 128 yX6_step, Cond.instanceMethod yX6_step, Cond.selects RX6 yX6_step yX6_step, Cond.code yX6_step cX6_step 5 none, Cond.fieldLink RX6 42 "ThreeLegsModel" "fall" "I", Cond.fieldLink RX6 119 "ThreeLegsModel" "how" "I", Cond.fieldLink RX6 122 "ThreeLegsModel" "earlier" "I", Cond.fieldLink RX6 45 "ThreeLegsModel" "up" "I", Cond.methodLink RX6 112 yX6_quicker, Cond.instanceMethod yX6_quicker, Cond.selects RX6 yX6_quicker yX6_quicker, Cond.code yX6_quicker cX6_quicker 2 (some .int), Cond.methodLink RX6 115 yX6_next]
def wsX6_tied_r4 : List Cond := [Cond.static yX6_next, Cond.code yX6_next cX6_next 5 (some .int), Cond.methodLink RX6 131 yX6_time, Cond.instanceMethod yX6_time, Cond.selects RX6 yX6_time yX6_time, Cond.code yX6_time cX6_time 1 (some .int), Cond.methodLink RX6 157 yX6_tie, Cond.instanceMethod yX6_tie, Cond.selects RX6 yX6_tie yX6_tie, Cond.code yX6_tie cX6_tie 9 none, Cond.methodLink RX6 160 yX6_tiedBy, Cond.instanceMethod yX6_tiedBy, Cond.selects RX6 yX6_tiedBy yX6_tiedBy, Cond.code yX6_tiedBy cX6_tiedBy 5 (some .int)]
def wsX6_tied : List Cond := .code yX6_tied cX6_tied 10 (some .int) :: ((wsX6_tied_r1 ++ (wsX6_tied_r2 ++ (wsX6_tied_r3 ++ wsX6_tied_r4))) ++ wsX60)
def wsX6_tryOne_r1 : List Cond := [Cond.fieldLink RX6 163 "ThreeLegsModel" "bestTime" "I", Cond.fieldLink RX6 166 "ThreeLegsModel" "bestIs" "I", Cond.methodLink RX6 149 yX6_timeOf, Cond.instanceMethod yX6_timeOf, Cond.selects RX6 yX6_timeOf yX6_timeOf, Cond.initialized RX6, Cond.code yX6_timeOf cX6_timeOf 2 (some .int), Cond.fieldLink RX6 109 "ThreeLegsModel" "steps" "I", Cond.fieldLink RX6 100 "ThreeLegsModel" "feet" "I", Cond.constant RX6 135 (1000000000), Cond.methodLink RX6 125 yX6_begin, Cond.instanceMethod yX6_begin, Cond.selects RX6 yX6_begin yX6_begin, Cond.code yX6_begin cX6_begin 1 none, Cond.fieldLink RX6 94 "ThreeLegsModel" "timeA" "I", Cond.fieldLink RX6 97 "ThreeLegsModel" "timeB" "I", Cond.fieldLink RX6 103 "ThreeLegsModel" "lurches" "I", Cond.fieldLink RX6 106 "ThreeLegsModel" "falls" "I", Cond.methodLink RX6 128 yX6_step, Cond.instanceMethod yX6_step, Cond.selects RX6 yX6_step yX6_step, Cond.code yX6_step cX6_step 5 none, Cond.fieldLink RX6 73 "ThreeLegsModel" "beatA" "I", Cond.fieldLink RX6 79 "ThreeLegsModel" "giveA" "I"]
def wsX6_tryOne_r2 : List Cond := [Cond.fieldLink RX6 76 "ThreeLegsModel" "beatB" "I", Cond.fieldLink RX6 82 "ThreeLegsModel" "giveB" "I", Cond.fieldLink RX6 42 "ThreeLegsModel" "fall" "I", Cond.fieldLink RX6 91 "ThreeLegsModel" "tight" "I", Cond.fieldLink RX6 119 "ThreeLegsModel" "how" "I", Cond.fieldLink RX6 122 "ThreeLegsModel" "earlier" "I", Cond.fieldLink RX6 85 "ThreeLegsModel" "stride" "I", Cond.fieldLink RX6 45 "ThreeLegsModel" "up" "I", Cond.methodLink RX6 112 yX6_quicker, Cond.instanceMethod yX6_quicker, Cond.selects RX6 yX6_quicker yX6_quicker, Cond.code yX6_quicker cX6_quicker 2 (some .int), Cond.fieldLink RX6 88 "ThreeLegsModel" "quickFrom" "I", Cond.methodLink RX6 115 yX6_next, Cond.static yX6_next, Cond.code yX6_next cX6_next 5 (some .int), Cond.methodLink RX6 131 yX6_time, Cond.instanceMethod yX6_time, Cond.selects RX6 yX6_time yX6_time, Cond.code yX6_time cX6_time 1 (some .int)]
def wsX6_tryOne : List Cond := .code yX6_tryOne cX6_tryOne 4 none :: ((wsX6_tryOne_r1 ++ wsX6_tryOne_r2) ++ wsX60)
def wsX6_beginTries : List Cond := .code yX6_beginTries cX6_beginTries 1 none :: ([.fieldLink RX6 166 "ThreeLegsModel" "bestIs" "I", .constant RX6 135 (1000000000), .fieldLink RX6 163 "ThreeLegsModel" "bestTime" "I"] ++ wsX60)
def wsX6_tellBest : List Cond := .code yX6_tellBest cX6_tellBest 2 (some .int) :: ([.fieldLink RX6 166 "ThreeLegsModel" "bestIs" "I", .fieldLink RX6 163 "ThreeLegsModel" "bestTime" "I"] ++ wsX60)
def wsX6_isAsked : List Cond := .code yX6_isAsked cX6_isAsked 2 (some .boolean) :: ([.methodLink RX6 146 yX6_isFar, .static yX6_isFar, .initialized RX6, .code yX6_isFar cX6_isFar 1 (some .boolean), .constantLong RX6 140 (999), .methodLink RX6 50 yX6_in, .static yX6_in, .code yX6_in cX6_in 6 (some .boolean)])
def wsX6_call_r1 : List Cond := [Cond.fieldLink RX6 73 "ThreeLegsModel" "beatA" "I", Cond.fieldLink RX6 76 "ThreeLegsModel" "beatB" "I", Cond.methodLink RX6 136 yX6_isPair, Cond.instanceMethod yX6_isPair, Cond.selects RX6 yX6_isPair yX6_isPair, Cond.initialized RX6, Cond.code yX6_isPair cX6_isPair 3 (some .boolean), Cond.methodLink RX6 67 yX6_runs, Cond.instanceMethod yX6_runs, Cond.selects RX6 yX6_runs yX6_runs, Cond.code yX6_runs cX6_runs 2 (some .boolean), Cond.constantLong RX6 48 (7), Cond.fieldLink RX6 54 "ThreeLegsModel" "running" "I", Cond.methodLink RX6 50 yX6_in, Cond.static yX6_in, Cond.code yX6_in cX6_in 6 (some .boolean), Cond.methodLink RX6 169 yX6_isAsked, Cond.static yX6_isAsked, Cond.code yX6_isAsked cX6_isAsked 2 (some .boolean), Cond.methodLink RX6 146 yX6_isFar, Cond.static yX6_isFar, Cond.code yX6_isFar cX6_isFar 1 (some .boolean), Cond.constantLong RX6 140 (999), Cond.methodLink RX6 142 yX6_layPair]
def wsX6_call_r2 : List Cond := [Cond.instanceMethod yX6_layPair, Cond.selects RX6 yX6_layPair yX6_layPair, Cond.code yX6_layPair cX6_layPair 3 none, Cond.fieldLink RX6 7 "ThreeLegsModel" "beat" "[I", Cond.fieldLink RX6 16 "ThreeLegsModel" "give" "[I", Cond.fieldLink RX6 79 "ThreeLegsModel" "giveA" "I", Cond.fieldLink RX6 82 "ThreeLegsModel" "giveB" "I", Cond.fieldLink RX6 13 "ThreeLegsModel" "length" "[I", Cond.fieldLink RX6 85 "ThreeLegsModel" "stride" "I", Cond.fieldLink RX6 88 "ThreeLegsModel" "quickFrom" "I", Cond.fieldLink RX6 38 "ThreeLegsModel" "lurch" "I", Cond.fieldLink RX6 91 "ThreeLegsModel" "tight" "I", Cond.methodLink RX6 172 yX6_beginTries, Cond.instanceMethod yX6_beginTries, Cond.selects RX6 yX6_beginTries yX6_beginTries, Cond.code yX6_beginTries cX6_beginTries 1 none, Cond.fieldLink RX6 166 "ThreeLegsModel" "bestIs" "I", Cond.constant RX6 135 (1000000000), Cond.fieldLink RX6 163 "ThreeLegsModel" "bestTime" "I", Cond.methodLink RX6 175 yX6_tryOne, Cond.instanceMethod yX6_tryOne, Cond.selects RX6 yX6_tryOne yX6_tryOne, Cond.code yX6_tryOne cX6_tryOne 4 none, Cond.methodLink RX6 149 yX6_timeOf]
def wsX6_call_r3 : List Cond := [Cond.instanceMethod yX6_timeOf, Cond.selects RX6 yX6_timeOf yX6_timeOf, Cond.code yX6_timeOf cX6_timeOf 2 (some .int), Cond.fieldLink RX6 109 "ThreeLegsModel" "steps" "I", Cond.fieldLink RX6 100 "ThreeLegsModel" "feet" "I", Cond.methodLink RX6 125 yX6_begin, Cond.instanceMethod yX6_begin, Cond.selects RX6 yX6_begin yX6_begin, Cond.code yX6_begin cX6_begin 1 none, Cond.fieldLink RX6 94 "ThreeLegsModel" "timeA" "I", Cond.fieldLink RX6 97 "ThreeLegsModel" "timeB" "I", Cond.fieldLink RX6 103 "ThreeLegsModel" "lurches" "I", Cond.fieldLink RX6 106 "ThreeLegsModel" "falls" "I", Cond.methodLink RX6 128 yX6_step, Cond.instanceMethod yX6_step, Cond.selects RX6 yX6_step yX6_step, Cond.code yX6_step cX6_step 5 none, Cond.fieldLink RX6 42 "ThreeLegsModel" "fall" "I", Cond.fieldLink RX6 119 "ThreeLegsModel" "how" "I", Cond.fieldLink RX6 122 "ThreeLegsModel" "earlier" "I", Cond.fieldLink RX6 45 "ThreeLegsModel" "up" "I", Cond.methodLink RX6 112 yX6_quicker, Cond.instanceMethod yX6_quicker, Cond.selects RX6 yX6_quicker yX6_quicker]
def wsX6_call_r4 : List Cond := [Cond.code yX6_quicker cX6_quicker 2 (some .int), Cond.methodLink RX6 115 yX6_next, Cond.static yX6_next, Cond.code yX6_next cX6_next 5 (some .int), Cond.methodLink RX6 131 yX6_time, Cond.instanceMethod yX6_time, Cond.selects RX6 yX6_time yX6_time, Cond.code yX6_time cX6_time 1 (some .int), Cond.methodLink RX6 178 yX6_tellBest, Cond.instanceMethod yX6_tellBest, Cond.selects RX6 yX6_tellBest yX6_tellBest, Cond.code yX6_tellBest cX6_tellBest 2 (some .int)]
def wsX6_call : List Cond := .code yX6_call cX6_call 6 (some .int) :: ((wsX6_call_r1 ++ (wsX6_call_r2 ++ (wsX6_call_r3 ++ wsX6_call_r4))) ++ wsX60)
def wsX6_quicken_r1 : List Cond := [Cond.fieldLink RX6 88 "ThreeLegsModel" "quickFrom" "I", Cond.methodLink RX6 136 yX6_isPair, Cond.instanceMethod yX6_isPair, Cond.selects RX6 yX6_isPair yX6_isPair, Cond.initialized RX6, Cond.code yX6_isPair cX6_isPair 3 (some .boolean), Cond.methodLink RX6 67 yX6_runs, Cond.instanceMethod yX6_runs, Cond.selects RX6 yX6_runs yX6_runs, Cond.code yX6_runs cX6_runs 2 (some .boolean), Cond.constantLong RX6 48 (7), Cond.fieldLink RX6 54 "ThreeLegsModel" "running" "I", Cond.methodLink RX6 50 yX6_in, Cond.static yX6_in, Cond.code yX6_in cX6_in 6 (some .boolean), Cond.methodLink RX6 169 yX6_isAsked, Cond.static yX6_isAsked, Cond.code yX6_isAsked cX6_isAsked 2 (some .boolean), Cond.methodLink RX6 146 yX6_isFar, Cond.static yX6_isFar, Cond.code yX6_isFar cX6_isFar 1 (some .boolean), Cond.constantLong RX6 140 (999), Cond.methodLink RX6 142 yX6_layPair, Cond.instanceMethod yX6_layPair]
def wsX6_quicken_r2 : List Cond := [Cond.selects RX6 yX6_layPair yX6_layPair, Cond.code yX6_layPair cX6_layPair 3 none, Cond.fieldLink RX6 7 "ThreeLegsModel" "beat" "[I", Cond.fieldLink RX6 73 "ThreeLegsModel" "beatA" "I", Cond.fieldLink RX6 76 "ThreeLegsModel" "beatB" "I", Cond.fieldLink RX6 16 "ThreeLegsModel" "give" "[I", Cond.fieldLink RX6 79 "ThreeLegsModel" "giveA" "I", Cond.fieldLink RX6 82 "ThreeLegsModel" "giveB" "I", Cond.fieldLink RX6 13 "ThreeLegsModel" "length" "[I", Cond.fieldLink RX6 85 "ThreeLegsModel" "stride" "I", Cond.fieldLink RX6 38 "ThreeLegsModel" "lurch" "I", Cond.fieldLink RX6 91 "ThreeLegsModel" "tight" "I", Cond.methodLink RX6 172 yX6_beginTries, Cond.instanceMethod yX6_beginTries, Cond.selects RX6 yX6_beginTries yX6_beginTries, Cond.code yX6_beginTries cX6_beginTries 1 none, Cond.fieldLink RX6 166 "ThreeLegsModel" "bestIs" "I", Cond.constant RX6 135 (1000000000), Cond.fieldLink RX6 163 "ThreeLegsModel" "bestTime" "I", Cond.methodLink RX6 175 yX6_tryOne, Cond.instanceMethod yX6_tryOne, Cond.selects RX6 yX6_tryOne yX6_tryOne, Cond.code yX6_tryOne cX6_tryOne 4 none, Cond.methodLink RX6 149 yX6_timeOf]
def wsX6_quicken_r3 : List Cond := [Cond.instanceMethod yX6_timeOf, Cond.selects RX6 yX6_timeOf yX6_timeOf, Cond.code yX6_timeOf cX6_timeOf 2 (some .int), Cond.fieldLink RX6 109 "ThreeLegsModel" "steps" "I", Cond.fieldLink RX6 100 "ThreeLegsModel" "feet" "I", Cond.methodLink RX6 125 yX6_begin, Cond.instanceMethod yX6_begin, Cond.selects RX6 yX6_begin yX6_begin, Cond.code yX6_begin cX6_begin 1 none, Cond.fieldLink RX6 94 "ThreeLegsModel" "timeA" "I", Cond.fieldLink RX6 97 "ThreeLegsModel" "timeB" "I", Cond.fieldLink RX6 103 "ThreeLegsModel" "lurches" "I", Cond.fieldLink RX6 106 "ThreeLegsModel" "falls" "I", Cond.methodLink RX6 128 yX6_step, Cond.instanceMethod yX6_step, Cond.selects RX6 yX6_step yX6_step, Cond.code yX6_step cX6_step 5 none, Cond.fieldLink RX6 42 "ThreeLegsModel" "fall" "I", Cond.fieldLink RX6 119 "ThreeLegsModel" "how" "I", Cond.fieldLink RX6 122 "ThreeLegsModel" "earlier" "I", Cond.fieldLink RX6 45 "ThreeLegsModel" "up" "I", Cond.methodLink RX6 112 yX6_quicker, Cond.instanceMethod yX6_quicker, Cond.selects RX6 yX6_quicker yX6_quicker]
def wsX6_quicken_r4 : List Cond := [Cond.code yX6_quicker cX6_quicker 2 (some .int), Cond.methodLink RX6 115 yX6_next, Cond.static yX6_next, Cond.code yX6_next cX6_next 5 (some .int), Cond.methodLink RX6 131 yX6_time, Cond.instanceMethod yX6_time, Cond.selects RX6 yX6_time yX6_time, Cond.code yX6_time cX6_time 1 (some .int), Cond.methodLink RX6 178 yX6_tellBest, Cond.instanceMethod yX6_tellBest, Cond.selects RX6 yX6_tellBest yX6_tellBest, Cond.code yX6_tellBest cX6_tellBest 2 (some .int)]
def wsX6_quicken : List Cond := .code yX6_quicken cX6_quicken 6 (some .int) :: ((wsX6_quicken_r1 ++ (wsX6_quicken_r2 ++ (wsX6_quicken_r3 ++ wsX6_quicken_r4))) ++ wsX60)
def wsX6_yields_r1 : List Cond := [Cond.fieldLink RX6 79 "ThreeLegsModel" "giveA" "I", Cond.fieldLink RX6 82 "ThreeLegsModel" "giveB" "I", Cond.methodLink RX6 136 yX6_isPair, Cond.instanceMethod yX6_isPair, Cond.selects RX6 yX6_isPair yX6_isPair, Cond.initialized RX6, Cond.code yX6_isPair cX6_isPair 3 (some .boolean), Cond.methodLink RX6 67 yX6_runs, Cond.instanceMethod yX6_runs, Cond.selects RX6 yX6_runs yX6_runs, Cond.code yX6_runs cX6_runs 2 (some .boolean), Cond.constantLong RX6 48 (7), Cond.fieldLink RX6 54 "ThreeLegsModel" "running" "I", Cond.methodLink RX6 50 yX6_in, Cond.static yX6_in, Cond.code yX6_in cX6_in 6 (some .boolean), Cond.methodLink RX6 169 yX6_isAsked, Cond.static yX6_isAsked, Cond.code yX6_isAsked cX6_isAsked 2 (some .boolean), Cond.methodLink RX6 146 yX6_isFar, Cond.static yX6_isFar, Cond.code yX6_isFar cX6_isFar 1 (some .boolean), Cond.constantLong RX6 140 (999), Cond.methodLink RX6 142 yX6_layPair]
def wsX6_yields_r2 : List Cond := [Cond.instanceMethod yX6_layPair, Cond.selects RX6 yX6_layPair yX6_layPair, Cond.code yX6_layPair cX6_layPair 3 none, Cond.fieldLink RX6 7 "ThreeLegsModel" "beat" "[I", Cond.fieldLink RX6 73 "ThreeLegsModel" "beatA" "I", Cond.fieldLink RX6 76 "ThreeLegsModel" "beatB" "I", Cond.fieldLink RX6 16 "ThreeLegsModel" "give" "[I", Cond.fieldLink RX6 13 "ThreeLegsModel" "length" "[I", Cond.fieldLink RX6 85 "ThreeLegsModel" "stride" "I", Cond.fieldLink RX6 88 "ThreeLegsModel" "quickFrom" "I", Cond.fieldLink RX6 38 "ThreeLegsModel" "lurch" "I", Cond.fieldLink RX6 91 "ThreeLegsModel" "tight" "I", Cond.methodLink RX6 172 yX6_beginTries, Cond.instanceMethod yX6_beginTries, Cond.selects RX6 yX6_beginTries yX6_beginTries, Cond.code yX6_beginTries cX6_beginTries 1 none, Cond.fieldLink RX6 166 "ThreeLegsModel" "bestIs" "I", Cond.constant RX6 135 (1000000000), Cond.fieldLink RX6 163 "ThreeLegsModel" "bestTime" "I", Cond.methodLink RX6 175 yX6_tryOne, Cond.instanceMethod yX6_tryOne, Cond.selects RX6 yX6_tryOne yX6_tryOne, Cond.code yX6_tryOne cX6_tryOne 4 none, Cond.methodLink RX6 149 yX6_timeOf]
def wsX6_yields_r3 : List Cond := [Cond.instanceMethod yX6_timeOf, Cond.selects RX6 yX6_timeOf yX6_timeOf, Cond.code yX6_timeOf cX6_timeOf 2 (some .int), Cond.fieldLink RX6 109 "ThreeLegsModel" "steps" "I", Cond.fieldLink RX6 100 "ThreeLegsModel" "feet" "I", Cond.methodLink RX6 125 yX6_begin, Cond.instanceMethod yX6_begin, Cond.selects RX6 yX6_begin yX6_begin, Cond.code yX6_begin cX6_begin 1 none, Cond.fieldLink RX6 94 "ThreeLegsModel" "timeA" "I", Cond.fieldLink RX6 97 "ThreeLegsModel" "timeB" "I", Cond.fieldLink RX6 103 "ThreeLegsModel" "lurches" "I", Cond.fieldLink RX6 106 "ThreeLegsModel" "falls" "I", Cond.methodLink RX6 128 yX6_step, Cond.instanceMethod yX6_step, Cond.selects RX6 yX6_step yX6_step, Cond.code yX6_step cX6_step 5 none, Cond.fieldLink RX6 42 "ThreeLegsModel" "fall" "I", Cond.fieldLink RX6 119 "ThreeLegsModel" "how" "I", Cond.fieldLink RX6 122 "ThreeLegsModel" "earlier" "I", Cond.fieldLink RX6 45 "ThreeLegsModel" "up" "I", Cond.methodLink RX6 112 yX6_quicker, Cond.instanceMethod yX6_quicker, Cond.selects RX6 yX6_quicker yX6_quicker]
def wsX6_yields_r4 : List Cond := [Cond.code yX6_quicker cX6_quicker 2 (some .int), Cond.methodLink RX6 115 yX6_next, Cond.static yX6_next, Cond.code yX6_next cX6_next 5 (some .int), Cond.methodLink RX6 131 yX6_time, Cond.instanceMethod yX6_time, Cond.selects RX6 yX6_time yX6_time, Cond.code yX6_time cX6_time 1 (some .int), Cond.methodLink RX6 178 yX6_tellBest, Cond.instanceMethod yX6_tellBest, Cond.selects RX6 yX6_tellBest yX6_tellBest, Cond.code yX6_tellBest cX6_tellBest 2 (some .int)]
def wsX6_yields : List Cond := .code yX6_yields cX6_yields 6 (some .int) :: ((wsX6_yields_r1 ++ (wsX6_yields_r2 ++ (wsX6_yields_r3 ++ wsX6_yields_r4))) ++ wsX60)
def wsX6_fallsIn_r1 : List Cond := [Cond.fieldLink RX6 109 "ThreeLegsModel" "steps" "I", Cond.fieldLink RX6 106 "ThreeLegsModel" "falls" "I", Cond.methodLink RX6 125 yX6_begin, Cond.instanceMethod yX6_begin, Cond.selects RX6 yX6_begin yX6_begin, Cond.initialized RX6, Cond.code yX6_begin cX6_begin 1 none, Cond.fieldLink RX6 94 "ThreeLegsModel" "timeA" "I", Cond.fieldLink RX6 97 "ThreeLegsModel" "timeB" "I", Cond.fieldLink RX6 100 "ThreeLegsModel" "feet" "I", Cond.fieldLink RX6 103 "ThreeLegsModel" "lurches" "I", Cond.methodLink RX6 128 yX6_step, Cond.instanceMethod yX6_step, Cond.selects RX6 yX6_step yX6_step, Cond.code yX6_step cX6_step 5 none, Cond.fieldLink RX6 73 "ThreeLegsModel" "beatA" "I", Cond.fieldLink RX6 79 "ThreeLegsModel" "giveA" "I", Cond.fieldLink RX6 76 "ThreeLegsModel" "beatB" "I", Cond.fieldLink RX6 82 "ThreeLegsModel" "giveB" "I", Cond.fieldLink RX6 42 "ThreeLegsModel" "fall" "I", Cond.fieldLink RX6 91 "ThreeLegsModel" "tight" "I", Cond.fieldLink RX6 119 "ThreeLegsModel" "how" "I", Cond.fieldLink RX6 122 "ThreeLegsModel" "earlier" "I", Cond.fieldLink RX6 85 "ThreeLegsModel" "stride" "I"]
def wsX6_fallsIn_r2 : List Cond := [Cond.fieldLink RX6 45 "ThreeLegsModel" "up" "I", Cond.methodLink RX6 112 yX6_quicker, Cond.instanceMethod yX6_quicker, Cond.selects RX6 yX6_quicker yX6_quicker, Cond.code yX6_quicker cX6_quicker 2 (some .int), Cond.fieldLink RX6 88 "ThreeLegsModel" "quickFrom" "I", Cond.methodLink RX6 115 yX6_next, Cond.static yX6_next, Cond.code yX6_next cX6_next 5 (some .int)]
def wsX6_fallsIn : List Cond := .code yX6_fallsIn cX6_fallsIn 2 (some .boolean) :: ((wsX6_fallsIn_r1 ++ wsX6_fallsIn_r2) ++ wsX60)
def wsX6_practice_r1 : List Cond := [Cond.constantLong RX6 140 (999), Cond.fieldLink RX6 16 "ThreeLegsModel" "give" "[I", Cond.fieldLink RX6 79 "ThreeLegsModel" "giveA" "I", Cond.fieldLink RX6 82 "ThreeLegsModel" "giveB" "I", Cond.methodLink RX6 136 yX6_isPair, Cond.instanceMethod yX6_isPair, Cond.selects RX6 yX6_isPair yX6_isPair, Cond.initialized RX6, Cond.code yX6_isPair cX6_isPair 3 (some .boolean), Cond.methodLink RX6 67 yX6_runs, Cond.instanceMethod yX6_runs, Cond.selects RX6 yX6_runs yX6_runs, Cond.code yX6_runs cX6_runs 2 (some .boolean), Cond.constantLong RX6 48 (7), Cond.fieldLink RX6 54 "ThreeLegsModel" "running" "I", Cond.methodLink RX6 50 yX6_in, Cond.static yX6_in, Cond.code yX6_in cX6_in 6 (some .boolean), Cond.methodLink RX6 142 yX6_layPair, Cond.instanceMethod yX6_layPair, Cond.selects RX6 yX6_layPair yX6_layPair, Cond.code yX6_layPair cX6_layPair 3 none, Cond.fieldLink RX6 7 "ThreeLegsModel" "beat" "[I", Cond.fieldLink RX6 73 "ThreeLegsModel" "beatA" "I"]
def wsX6_practice_r2 : List Cond := [Cond.fieldLink RX6 76 "ThreeLegsModel" "beatB" "I", Cond.fieldLink RX6 13 "ThreeLegsModel" "length" "[I", Cond.fieldLink RX6 85 "ThreeLegsModel" "stride" "I", Cond.fieldLink RX6 88 "ThreeLegsModel" "quickFrom" "I", Cond.fieldLink RX6 38 "ThreeLegsModel" "lurch" "I", Cond.fieldLink RX6 91 "ThreeLegsModel" "tight" "I", Cond.methodLink RX6 181 yX6_fallsIn, Cond.instanceMethod yX6_fallsIn, Cond.selects RX6 yX6_fallsIn yX6_fallsIn, Cond.code yX6_fallsIn cX6_fallsIn 2 (some .boolean), Cond.fieldLink RX6 109 "ThreeLegsModel" "steps" "I", Cond.fieldLink RX6 106 "ThreeLegsModel" "falls" "I", Cond.methodLink RX6 125 yX6_begin, Cond.instanceMethod yX6_begin, Cond.selects RX6 yX6_begin yX6_begin, Cond.code yX6_begin cX6_begin 1 none, Cond.fieldLink RX6 94 "ThreeLegsModel" "timeA" "I", Cond.fieldLink RX6 97 "ThreeLegsModel" "timeB" "I", Cond.fieldLink RX6 100 "ThreeLegsModel" "feet" "I", Cond.fieldLink RX6 103 "ThreeLegsModel" "lurches" "I", Cond.methodLink RX6 128 yX6_step, Cond.instanceMethod yX6_step, Cond.selects RX6 yX6_step yX6_step, Cond.code yX6_step cX6_step 5 none]
def wsX6_practice_r3 : List Cond := [Cond.fieldLink RX6 42 "ThreeLegsModel" "fall" "I", Cond.fieldLink RX6 119 "ThreeLegsModel" "how" "I", Cond.fieldLink RX6 122 "ThreeLegsModel" "earlier" "I", Cond.fieldLink RX6 45 "ThreeLegsModel" "up" "I", Cond.methodLink RX6 112 yX6_quicker, Cond.instanceMethod yX6_quicker, Cond.selects RX6 yX6_quicker yX6_quicker, Cond.code yX6_quicker cX6_quicker 2 (some .int), Cond.methodLink RX6 115 yX6_next, Cond.static yX6_next, Cond.code yX6_next cX6_next 5 (some .int)]
def wsX6_practice : List Cond := .code yX6_practice cX6_practice 10 (some .int) :: ((wsX6_practice_r1 ++ (wsX6_practice_r2 ++ wsX6_practice_r3)) ++ wsX60)
def wsX6_scarf_r1 : List Cond := [Cond.constantLong RX6 184 (9999), Cond.fieldLink RX6 42 "ThreeLegsModel" "fall" "I", Cond.fieldLink RX6 91 "ThreeLegsModel" "tight" "I", Cond.methodLink RX6 136 yX6_isPair, Cond.instanceMethod yX6_isPair, Cond.selects RX6 yX6_isPair yX6_isPair, Cond.initialized RX6, Cond.code yX6_isPair cX6_isPair 3 (some .boolean), Cond.methodLink RX6 67 yX6_runs, Cond.instanceMethod yX6_runs, Cond.selects RX6 yX6_runs yX6_runs, Cond.code yX6_runs cX6_runs 2 (some .boolean), Cond.constantLong RX6 48 (7), Cond.fieldLink RX6 54 "ThreeLegsModel" "running" "I", Cond.methodLink RX6 50 yX6_in, Cond.static yX6_in, Cond.code yX6_in cX6_in 6 (some .boolean), Cond.methodLink RX6 146 yX6_isFar, Cond.static yX6_isFar, Cond.code yX6_isFar cX6_isFar 1 (some .boolean), Cond.constantLong RX6 140 (999), Cond.methodLink RX6 142 yX6_layPair, Cond.instanceMethod yX6_layPair, Cond.selects RX6 yX6_layPair yX6_layPair]
def wsX6_scarf_r2 : List Cond := [Cond.code yX6_layPair cX6_layPair 3 none, Cond.fieldLink RX6 7 "ThreeLegsModel" "beat" "[I", Cond.fieldLink RX6 73 "ThreeLegsModel" "beatA" "I", Cond.fieldLink RX6 76 "ThreeLegsModel" "beatB" "I", Cond.fieldLink RX6 16 "ThreeLegsModel" "give" "[I", Cond.fieldLink RX6 79 "ThreeLegsModel" "giveA" "I", Cond.fieldLink RX6 82 "ThreeLegsModel" "giveB" "I", Cond.fieldLink RX6 13 "ThreeLegsModel" "length" "[I", Cond.fieldLink RX6 85 "ThreeLegsModel" "stride" "I", Cond.fieldLink RX6 88 "ThreeLegsModel" "quickFrom" "I", Cond.fieldLink RX6 38 "ThreeLegsModel" "lurch" "I", Cond.methodLink RX6 149 yX6_timeOf, Cond.instanceMethod yX6_timeOf, Cond.selects RX6 yX6_timeOf yX6_timeOf, Cond.code yX6_timeOf cX6_timeOf 2 (some .int), Cond.fieldLink RX6 109 "ThreeLegsModel" "steps" "I", Cond.fieldLink RX6 100 "ThreeLegsModel" "feet" "I", Cond.constant RX6 135 (1000000000), Cond.methodLink RX6 125 yX6_begin, Cond.instanceMethod yX6_begin, Cond.selects RX6 yX6_begin yX6_begin, Cond.code yX6_begin cX6_begin 1 none, Cond.fieldLink RX6 94 "ThreeLegsModel" "timeA" "I", Cond.fieldLink RX6 97 "ThreeLegsModel" "timeB" "I"]
def wsX6_scarf_r3 : List Cond := [Cond.fieldLink RX6 103 "ThreeLegsModel" "lurches" "I", Cond.fieldLink RX6 106 "ThreeLegsModel" "falls" "I", Cond.methodLink RX6 128 yX6_step, Cond.instanceMethod yX6_step, Cond.selects RX6 yX6_step yX6_step, Cond.code yX6_step cX6_step 5 none, Cond.fieldLink RX6 119 "ThreeLegsModel" "how" "I", Cond.fieldLink RX6 122 "ThreeLegsModel" "earlier" "I", Cond.fieldLink RX6 45 "ThreeLegsModel" "up" "I", Cond.methodLink RX6 112 yX6_quicker, Cond.instanceMethod yX6_quicker, Cond.selects RX6 yX6_quicker yX6_quicker, Cond.code yX6_quicker cX6_quicker 2 (some .int), Cond.methodLink RX6 115 yX6_next, Cond.static yX6_next, Cond.code yX6_next cX6_next 5 (some .int), Cond.methodLink RX6 131 yX6_time, Cond.instanceMethod yX6_time, Cond.selects RX6 yX6_time yX6_time, Cond.code yX6_time cX6_time 1 (some .int)]
def wsX6_scarf : List Cond := .code yX6_scarf cX6_scarf 6 (some .int) :: ((wsX6_scarf_r1 ++ (wsX6_scarf_r2 ++ wsX6_scarf_r3)) ++ wsX60)
def wsX6_even_r1 : List Cond := [Cond.constant RX6 135 (1000000000), Cond.methodLink RX6 136 yX6_isPair, Cond.instanceMethod yX6_isPair, Cond.selects RX6 yX6_isPair yX6_isPair, Cond.initialized RX6, Cond.code yX6_isPair cX6_isPair 3 (some .boolean), Cond.methodLink RX6 67 yX6_runs, Cond.instanceMethod yX6_runs, Cond.selects RX6 yX6_runs yX6_runs, Cond.code yX6_runs cX6_runs 2 (some .boolean), Cond.constantLong RX6 48 (7), Cond.fieldLink RX6 54 "ThreeLegsModel" "running" "I", Cond.methodLink RX6 50 yX6_in, Cond.static yX6_in, Cond.code yX6_in cX6_in 6 (some .boolean), Cond.methodLink RX6 146 yX6_isFar, Cond.static yX6_isFar, Cond.code yX6_isFar cX6_isFar 1 (some .boolean), Cond.constantLong RX6 140 (999), Cond.methodLink RX6 142 yX6_layPair, Cond.instanceMethod yX6_layPair, Cond.selects RX6 yX6_layPair yX6_layPair, Cond.code yX6_layPair cX6_layPair 3 none, Cond.fieldLink RX6 7 "ThreeLegsModel" "beat" "[I"]
def wsX6_even_r2 : List Cond := [Cond.fieldLink RX6 73 "ThreeLegsModel" "beatA" "I", Cond.fieldLink RX6 76 "ThreeLegsModel" "beatB" "I", Cond.fieldLink RX6 16 "ThreeLegsModel" "give" "[I", Cond.fieldLink RX6 79 "ThreeLegsModel" "giveA" "I", Cond.fieldLink RX6 82 "ThreeLegsModel" "giveB" "I", Cond.fieldLink RX6 13 "ThreeLegsModel" "length" "[I", Cond.fieldLink RX6 85 "ThreeLegsModel" "stride" "I", Cond.fieldLink RX6 88 "ThreeLegsModel" "quickFrom" "I", Cond.fieldLink RX6 38 "ThreeLegsModel" "lurch" "I", Cond.fieldLink RX6 91 "ThreeLegsModel" "tight" "I", Cond.methodLink RX6 149 yX6_timeOf, Cond.instanceMethod yX6_timeOf, Cond.selects RX6 yX6_timeOf yX6_timeOf, Cond.code yX6_timeOf cX6_timeOf 2 (some .int), Cond.fieldLink RX6 109 "ThreeLegsModel" "steps" "I", Cond.fieldLink RX6 100 "ThreeLegsModel" "feet" "I", Cond.methodLink RX6 125 yX6_begin, Cond.instanceMethod yX6_begin, Cond.selects RX6 yX6_begin yX6_begin, Cond.code yX6_begin cX6_begin 1 none, Cond.fieldLink RX6 94 "ThreeLegsModel" "timeA" "I", Cond.fieldLink RX6 97 "ThreeLegsModel" "timeB" "I", Cond.fieldLink RX6 103 "ThreeLegsModel" "lurches" "I", Cond.fieldLink RX6 106 "ThreeLegsModel" "falls" "I"]
def wsX6_even_r3 : List Cond := [Cond.methodLink RX6 128 yX6_step, Cond.instanceMethod yX6_step, Cond.selects RX6 yX6_step yX6_step, Cond.code yX6_step cX6_step 5 none, Cond.fieldLink RX6 42 "ThreeLegsModel" "fall" "I", Cond.fieldLink RX6 119 "ThreeLegsModel" "how" "I", Cond.fieldLink RX6 122 "ThreeLegsModel" "earlier" "I", Cond.fieldLink RX6 45 "ThreeLegsModel" "up" "I", Cond.methodLink RX6 112 yX6_quicker, Cond.instanceMethod yX6_quicker, Cond.selects RX6 yX6_quicker yX6_quicker, Cond.code yX6_quicker cX6_quicker 2 (some .int), Cond.methodLink RX6 115 yX6_next, Cond.static yX6_next, Cond.code yX6_next cX6_next 5 (some .int), Cond.methodLink RX6 131 yX6_time, Cond.instanceMethod yX6_time, Cond.selects RX6 yX6_time yX6_time, Cond.code yX6_time cX6_time 1 (some .int)]
def wsX6_even : List Cond := .code yX6_even cX6_even 8 (some .int) :: ((wsX6_even_r1 ++ (wsX6_even_r2 ++ wsX6_even_r3)) ++ wsX60)
def wsX6_say : List Cond := .code yX6_say cX6_say 2 (some .int) :: ([.constantLong RX6 186 (33), .constantLong RX6 188 (126), .fieldLink RX6 190 "ThreeLegsModel" "padMany" "I", .fieldLink RX6 28 "ThreeLegsModel" "pad" "[I", .methodLink RX6 50 yX6_in, .static yX6_in, .initialized RX6, .code yX6_in cX6_in 6 (some .boolean)] ++ wsX60)
def wsX6_wipe : List Cond := .code yX6_wipe cX6_wipe 2 (some .int) :: ([.fieldLink RX6 190 "ThreeLegsModel" "padMany" "I"] ++ wsX60)
def wsX6_fault : List Cond := .code yX6_fault cX6_fault 3 (some .int) :: ([.fieldLink RX6 190 "ThreeLegsModel" "padMany" "I", .fieldLink RX6 28 "ThreeLegsModel" "pad" "[I"] ++ wsX60)
def wsX6_judged_r1 : List Cond := [Cond.fieldLink RX6 190 "ThreeLegsModel" "padMany" "I", Cond.fieldLink RX6 28 "ThreeLegsModel" "pad" "[I", Cond.fieldLink RX6 119 "ThreeLegsModel" "how" "I", Cond.methodLink RX6 142 yX6_layPair, Cond.instanceMethod yX6_layPair, Cond.selects RX6 yX6_layPair yX6_layPair, Cond.initialized RX6, Cond.code yX6_layPair cX6_layPair 3 none, Cond.fieldLink RX6 7 "ThreeLegsModel" "beat" "[I", Cond.fieldLink RX6 73 "ThreeLegsModel" "beatA" "I", Cond.fieldLink RX6 76 "ThreeLegsModel" "beatB" "I", Cond.fieldLink RX6 16 "ThreeLegsModel" "give" "[I", Cond.fieldLink RX6 79 "ThreeLegsModel" "giveA" "I", Cond.fieldLink RX6 82 "ThreeLegsModel" "giveB" "I", Cond.fieldLink RX6 13 "ThreeLegsModel" "length" "[I", Cond.fieldLink RX6 85 "ThreeLegsModel" "stride" "I", Cond.fieldLink RX6 88 "ThreeLegsModel" "quickFrom" "I", Cond.fieldLink RX6 38 "ThreeLegsModel" "lurch" "I", Cond.fieldLink RX6 91 "ThreeLegsModel" "tight" "I", Cond.methodLink RX6 125 yX6_begin, Cond.instanceMethod yX6_begin, Cond.selects RX6 yX6_begin yX6_begin, Cond.code yX6_begin cX6_begin 1 none, Cond.fieldLink RX6 94 "ThreeLegsModel" "timeA" "I"]
def wsX6_judged_r2 : List Cond := [Cond.fieldLink RX6 97 "ThreeLegsModel" "timeB" "I", Cond.fieldLink RX6 100 "ThreeLegsModel" "feet" "I", Cond.fieldLink RX6 103 "ThreeLegsModel" "lurches" "I", Cond.fieldLink RX6 106 "ThreeLegsModel" "falls" "I", Cond.fieldLink RX6 109 "ThreeLegsModel" "steps" "I", Cond.methodLink RX6 128 yX6_step, Cond.instanceMethod yX6_step, Cond.selects RX6 yX6_step yX6_step, Cond.code yX6_step cX6_step 5 none, Cond.fieldLink RX6 42 "ThreeLegsModel" "fall" "I", Cond.fieldLink RX6 122 "ThreeLegsModel" "earlier" "I", Cond.fieldLink RX6 45 "ThreeLegsModel" "up" "I", Cond.methodLink RX6 112 yX6_quicker, Cond.instanceMethod yX6_quicker, Cond.selects RX6 yX6_quicker yX6_quicker, Cond.code yX6_quicker cX6_quicker 2 (some .int), Cond.methodLink RX6 115 yX6_next, Cond.static yX6_next, Cond.code yX6_next cX6_next 5 (some .int)]
def wsX6_judged : List Cond := .code yX6_judged cX6_judged 4 (some .int) :: ((wsX6_judged_r1 ++ wsX6_judged_r2) ++ wsX60)
def wsX6_judge_r1 : List Cond := [Cond.methodLink RX6 136 yX6_isPair, Cond.instanceMethod yX6_isPair, Cond.selects RX6 yX6_isPair yX6_isPair, Cond.initialized RX6, Cond.code yX6_isPair cX6_isPair 3 (some .boolean), Cond.methodLink RX6 67 yX6_runs, Cond.instanceMethod yX6_runs, Cond.selects RX6 yX6_runs yX6_runs, Cond.code yX6_runs cX6_runs 2 (some .boolean), Cond.constantLong RX6 48 (7), Cond.fieldLink RX6 54 "ThreeLegsModel" "running" "I", Cond.methodLink RX6 50 yX6_in, Cond.static yX6_in, Cond.code yX6_in cX6_in 6 (some .boolean), Cond.methodLink RX6 193 yX6_fault, Cond.instanceMethod yX6_fault, Cond.selects RX6 yX6_fault yX6_fault, Cond.code yX6_fault cX6_fault 3 (some .int), Cond.fieldLink RX6 190 "ThreeLegsModel" "padMany" "I", Cond.fieldLink RX6 28 "ThreeLegsModel" "pad" "[I", Cond.methodLink RX6 196 yX6_judged, Cond.instanceMethod yX6_judged, Cond.selects RX6 yX6_judged yX6_judged, Cond.code yX6_judged cX6_judged 4 (some .int)]
def wsX6_judge_r2 : List Cond := [Cond.fieldLink RX6 119 "ThreeLegsModel" "how" "I", Cond.methodLink RX6 142 yX6_layPair, Cond.instanceMethod yX6_layPair, Cond.selects RX6 yX6_layPair yX6_layPair, Cond.code yX6_layPair cX6_layPair 3 none, Cond.fieldLink RX6 7 "ThreeLegsModel" "beat" "[I", Cond.fieldLink RX6 73 "ThreeLegsModel" "beatA" "I", Cond.fieldLink RX6 76 "ThreeLegsModel" "beatB" "I", Cond.fieldLink RX6 16 "ThreeLegsModel" "give" "[I", Cond.fieldLink RX6 79 "ThreeLegsModel" "giveA" "I", Cond.fieldLink RX6 82 "ThreeLegsModel" "giveB" "I", Cond.fieldLink RX6 13 "ThreeLegsModel" "length" "[I", Cond.fieldLink RX6 85 "ThreeLegsModel" "stride" "I", Cond.fieldLink RX6 88 "ThreeLegsModel" "quickFrom" "I", Cond.fieldLink RX6 38 "ThreeLegsModel" "lurch" "I", Cond.fieldLink RX6 91 "ThreeLegsModel" "tight" "I", Cond.methodLink RX6 125 yX6_begin, Cond.instanceMethod yX6_begin, Cond.selects RX6 yX6_begin yX6_begin, Cond.code yX6_begin cX6_begin 1 none, Cond.fieldLink RX6 94 "ThreeLegsModel" "timeA" "I", Cond.fieldLink RX6 97 "ThreeLegsModel" "timeB" "I", Cond.fieldLink RX6 100 "ThreeLegsModel" "feet" "I", Cond.fieldLink RX6 103 "ThreeLegsModel" "lurches" "I"]
def wsX6_judge_r3 : List Cond := [Cond.fieldLink RX6 106 "ThreeLegsModel" "falls" "I", Cond.fieldLink RX6 109 "ThreeLegsModel" "steps" "I", Cond.methodLink RX6 128 yX6_step, Cond.instanceMethod yX6_step, Cond.selects RX6 yX6_step yX6_step, Cond.code yX6_step cX6_step 5 none, Cond.fieldLink RX6 42 "ThreeLegsModel" "fall" "I", Cond.fieldLink RX6 122 "ThreeLegsModel" "earlier" "I", Cond.fieldLink RX6 45 "ThreeLegsModel" "up" "I", Cond.methodLink RX6 112 yX6_quicker, Cond.instanceMethod yX6_quicker, Cond.selects RX6 yX6_quicker yX6_quicker, Cond.code yX6_quicker cX6_quicker 2 (some .int), Cond.methodLink RX6 115 yX6_next, Cond.static yX6_next, Cond.code yX6_next cX6_next 5 (some .int)]
def wsX6_judge : List Cond := .code yX6_judge cX6_judge 3 (some .int) :: ((wsX6_judge_r1 ++ (wsX6_judge_r2 ++ wsX6_judge_r3)) ++ wsX60)
def wsX6_fits_r1 : List Cond := [Cond.methodLink RX6 193 yX6_fault, Cond.instanceMethod yX6_fault, Cond.selects RX6 yX6_fault yX6_fault, Cond.initialized RX6, Cond.code yX6_fault cX6_fault 3 (some .int), Cond.fieldLink RX6 190 "ThreeLegsModel" "padMany" "I", Cond.fieldLink RX6 28 "ThreeLegsModel" "pad" "[I", Cond.methodLink RX6 136 yX6_isPair, Cond.instanceMethod yX6_isPair, Cond.selects RX6 yX6_isPair yX6_isPair, Cond.code yX6_isPair cX6_isPair 3 (some .boolean), Cond.methodLink RX6 67 yX6_runs, Cond.instanceMethod yX6_runs, Cond.selects RX6 yX6_runs yX6_runs, Cond.code yX6_runs cX6_runs 2 (some .boolean), Cond.constantLong RX6 48 (7), Cond.fieldLink RX6 54 "ThreeLegsModel" "running" "I", Cond.methodLink RX6 50 yX6_in, Cond.static yX6_in, Cond.code yX6_in cX6_in 6 (some .boolean), Cond.methodLink RX6 196 yX6_judged, Cond.instanceMethod yX6_judged, Cond.selects RX6 yX6_judged yX6_judged, Cond.code yX6_judged cX6_judged 4 (some .int)]
def wsX6_fits_r2 : List Cond := [Cond.fieldLink RX6 119 "ThreeLegsModel" "how" "I", Cond.methodLink RX6 142 yX6_layPair, Cond.instanceMethod yX6_layPair, Cond.selects RX6 yX6_layPair yX6_layPair, Cond.code yX6_layPair cX6_layPair 3 none, Cond.fieldLink RX6 7 "ThreeLegsModel" "beat" "[I", Cond.fieldLink RX6 73 "ThreeLegsModel" "beatA" "I", Cond.fieldLink RX6 76 "ThreeLegsModel" "beatB" "I", Cond.fieldLink RX6 16 "ThreeLegsModel" "give" "[I", Cond.fieldLink RX6 79 "ThreeLegsModel" "giveA" "I", Cond.fieldLink RX6 82 "ThreeLegsModel" "giveB" "I", Cond.fieldLink RX6 13 "ThreeLegsModel" "length" "[I", Cond.fieldLink RX6 85 "ThreeLegsModel" "stride" "I", Cond.fieldLink RX6 88 "ThreeLegsModel" "quickFrom" "I", Cond.fieldLink RX6 38 "ThreeLegsModel" "lurch" "I", Cond.fieldLink RX6 91 "ThreeLegsModel" "tight" "I", Cond.methodLink RX6 125 yX6_begin, Cond.instanceMethod yX6_begin, Cond.selects RX6 yX6_begin yX6_begin, Cond.code yX6_begin cX6_begin 1 none, Cond.fieldLink RX6 94 "ThreeLegsModel" "timeA" "I", Cond.fieldLink RX6 97 "ThreeLegsModel" "timeB" "I", Cond.fieldLink RX6 100 "ThreeLegsModel" "feet" "I", Cond.fieldLink RX6 103 "ThreeLegsModel" "lurches" "I"]
def wsX6_fits_r3 : List Cond := [Cond.fieldLink RX6 106 "ThreeLegsModel" "falls" "I", Cond.fieldLink RX6 109 "ThreeLegsModel" "steps" "I", Cond.methodLink RX6 128 yX6_step, Cond.instanceMethod yX6_step, Cond.selects RX6 yX6_step yX6_step, Cond.code yX6_step cX6_step 5 none, Cond.fieldLink RX6 42 "ThreeLegsModel" "fall" "I", Cond.fieldLink RX6 122 "ThreeLegsModel" "earlier" "I", Cond.fieldLink RX6 45 "ThreeLegsModel" "up" "I", Cond.methodLink RX6 112 yX6_quicker, Cond.instanceMethod yX6_quicker, Cond.selects RX6 yX6_quicker yX6_quicker, Cond.code yX6_quicker cX6_quicker 2 (some .int), Cond.methodLink RX6 115 yX6_next, Cond.static yX6_next, Cond.code yX6_next cX6_next 5 (some .int)]
def wsX6_fits : List Cond := .code yX6_fits cX6_fits 5 (some .int) :: ((wsX6_fits_r1 ++ (wsX6_fits_r2 ++ wsX6_fits_r3)) ++ wsX60)
def wsX6_year_r1 : List Cond := [Cond.constantLong RX6 184 (9999), Cond.constantLong RX6 71 (99), Cond.constantLong RX6 200 (-1), Cond.constantLong RX6 202 (8), Cond.constant RX6 135 (1000000000), Cond.constantLong RX6 204 (75), Cond.constantLong RX6 206 (74), Cond.constantLong RX6 208 (65537), Cond.methodLink RX6 50 yX6_in, Cond.static yX6_in, Cond.initialized RX6, Cond.code yX6_in cX6_in 6 (some .boolean), Cond.methodLink RX6 146 yX6_isFar, Cond.static yX6_isFar, Cond.code yX6_isFar cX6_isFar 1 (some .boolean), Cond.constantLong RX6 140 (999), Cond.methodLink RX6 153 yX6_findTimes, Cond.instanceMethod yX6_findTimes, Cond.selects RX6 yX6_findTimes yX6_findTimes, Cond.code yX6_findTimes cX6_findTimes 5 none, Cond.fieldLink RX6 19 "ThreeLegsModel" "timeBy" "[I", Cond.constant RX6 152 (100000), Cond.methodLink RX6 136 yX6_isPair, Cond.instanceMethod yX6_isPair]
def wsX6_year_r2 : List Cond := [Cond.selects RX6 yX6_isPair yX6_isPair, Cond.code yX6_isPair cX6_isPair 3 (some .boolean), Cond.methodLink RX6 67 yX6_runs, Cond.instanceMethod yX6_runs, Cond.selects RX6 yX6_runs yX6_runs, Cond.code yX6_runs cX6_runs 2 (some .boolean), Cond.constantLong RX6 48 (7), Cond.fieldLink RX6 54 "ThreeLegsModel" "running" "I", Cond.methodLink RX6 142 yX6_layPair, Cond.instanceMethod yX6_layPair, Cond.selects RX6 yX6_layPair yX6_layPair, Cond.code yX6_layPair cX6_layPair 3 none, Cond.fieldLink RX6 7 "ThreeLegsModel" "beat" "[I", Cond.fieldLink RX6 73 "ThreeLegsModel" "beatA" "I", Cond.fieldLink RX6 76 "ThreeLegsModel" "beatB" "I", Cond.fieldLink RX6 16 "ThreeLegsModel" "give" "[I", Cond.fieldLink RX6 79 "ThreeLegsModel" "giveA" "I", Cond.fieldLink RX6 82 "ThreeLegsModel" "giveB" "I", Cond.fieldLink RX6 13 "ThreeLegsModel" "length" "[I", Cond.fieldLink RX6 85 "ThreeLegsModel" "stride" "I", Cond.fieldLink RX6 88 "ThreeLegsModel" "quickFrom" "I", Cond.fieldLink RX6 38 "ThreeLegsModel" "lurch" "I", Cond.fieldLink RX6 91 "ThreeLegsModel" "tight" "I", Cond.methodLink RX6 149 yX6_timeOf]
def wsX6_year_r3 : List Cond := [Cond.instanceMethod yX6_timeOf, Cond.selects RX6 yX6_timeOf yX6_timeOf, Cond.code yX6_timeOf cX6_timeOf 2 (some .int), Cond.fieldLink RX6 109 "ThreeLegsModel" "steps" "I", Cond.fieldLink RX6 100 "ThreeLegsModel" "feet" "I", Cond.methodLink RX6 125 yX6_begin, Cond.instanceMethod yX6_begin, Cond.selects RX6 yX6_begin yX6_begin, Cond.code yX6_begin cX6_begin 1 none, Cond.fieldLink RX6 94 "ThreeLegsModel" "timeA" "I", Cond.fieldLink RX6 97 "ThreeLegsModel" "timeB" "I", Cond.fieldLink RX6 103 "ThreeLegsModel" "lurches" "I", Cond.fieldLink RX6 106 "ThreeLegsModel" "falls" "I", Cond.methodLink RX6 128 yX6_step, Cond.instanceMethod yX6_step, Cond.selects RX6 yX6_step yX6_step, Cond.code yX6_step cX6_step 5 none, Cond.fieldLink RX6 42 "ThreeLegsModel" "fall" "I", Cond.fieldLink RX6 119 "ThreeLegsModel" "how" "I", Cond.fieldLink RX6 122 "ThreeLegsModel" "earlier" "I", Cond.fieldLink RX6 45 "ThreeLegsModel" "up" "I", Cond.methodLink RX6 112 yX6_quicker, Cond.instanceMethod yX6_quicker, Cond.selects RX6 yX6_quicker yX6_quicker]
def wsX6_year_r4 : List Cond := [Cond.code yX6_quicker cX6_quicker 2 (some .int), Cond.methodLink RX6 115 yX6_next, Cond.static yX6_next, Cond.code yX6_next cX6_next 5 (some .int), Cond.methodLink RX6 131 yX6_time, Cond.instanceMethod yX6_time, Cond.selects RX6 yX6_time yX6_time, Cond.code yX6_time cX6_time 1 (some .int)]
def wsX6_year : List Cond := .code yX6_year cX6_year 13 (some .int) :: ((wsX6_year_r1 ++ (wsX6_year_r2 ++ (wsX6_year_r3 ++ wsX6_year_r4))) ++ wsX60)
def wsX6_pass : List Cond := .code yX6_pass cX6_pass 3 (some .int) :: ([.fieldLink RX6 210 "ThreeLegsModel" "isWriting" "Z", .fieldLink RX6 31 "ThreeLegsModel" "kept" "[I", .fieldLink RX6 214 "ThreeLegsModel" "keptAt" "I"] ++ wsX60)
def wsX6_passAll : List Cond := .code yX6_passAll cX6_passAll 2 none :: ([.fieldLink RX6 54 "ThreeLegsModel" "running" "I", .fieldLink RX6 38 "ThreeLegsModel" "lurch" "I", .fieldLink RX6 42 "ThreeLegsModel" "fall" "I", .fieldLink RX6 45 "ThreeLegsModel" "up" "I", .fieldLink RX6 7 "ThreeLegsModel" "beat" "[I", .fieldLink RX6 13 "ThreeLegsModel" "length" "[I", .fieldLink RX6 16 "ThreeLegsModel" "give" "[I", .methodLink RX6 217 yX6_pass, .instanceMethod yX6_pass, .selects RX6 yX6_pass yX6_pass, .initialized RX6, .code yX6_pass cX6_pass 3 (some .int), .fieldLink RX6 210 "ThreeLegsModel" "isWriting" "Z", .fieldLink RX6 31 "ThreeLegsModel" "kept" "[I", .fieldLink RX6 214 "ThreeLegsModel" "keptAt" "I"] ++ wsX60)
def wsX6_image : List Cond := .code yX6_image cX6_image 2 (some .int) :: ([.fieldLink RX6 214 "ThreeLegsModel" "keptAt" "I", .fieldLink RX6 210 "ThreeLegsModel" "isWriting" "Z", .fieldLink RX6 34 "ThreeLegsModel" "isKept" "[Z", .methodLink RX6 50 yX6_in, .static yX6_in, .initialized RX6, .code yX6_in cX6_in 6 (some .boolean), .methodLink RX6 220 yX6_passAll, .instanceMethod yX6_passAll, .selects RX6 yX6_passAll yX6_passAll, .code yX6_passAll cX6_passAll 2 none, .fieldLink RX6 54 "ThreeLegsModel" "running" "I", .fieldLink RX6 38 "ThreeLegsModel" "lurch" "I", .fieldLink RX6 42 "ThreeLegsModel" "fall" "I", .fieldLink RX6 45 "ThreeLegsModel" "up" "I", .fieldLink RX6 7 "ThreeLegsModel" "beat" "[I", .fieldLink RX6 13 "ThreeLegsModel" "length" "[I", .fieldLink RX6 16 "ThreeLegsModel" "give" "[I", .methodLink RX6 217 yX6_pass, .instanceMethod yX6_pass, .selects RX6 yX6_pass yX6_pass, .code yX6_pass cX6_pass 3 (some .int), .fieldLink RX6 31 "ThreeLegsModel" "kept" "[I"] ++ wsX60)
def wsX6_restore : List Cond := .code yX6_restore cX6_restore 2 (some .int) :: ([.fieldLink RX6 34 "ThreeLegsModel" "isKept" "[Z", .fieldLink RX6 214 "ThreeLegsModel" "keptAt" "I", .fieldLink RX6 210 "ThreeLegsModel" "isWriting" "Z", .methodLink RX6 50 yX6_in, .static yX6_in, .initialized RX6, .code yX6_in cX6_in 6 (some .boolean), .methodLink RX6 220 yX6_passAll, .instanceMethod yX6_passAll, .selects RX6 yX6_passAll yX6_passAll, .code yX6_passAll cX6_passAll 2 none, .fieldLink RX6 54 "ThreeLegsModel" "running" "I", .fieldLink RX6 38 "ThreeLegsModel" "lurch" "I", .fieldLink RX6 42 "ThreeLegsModel" "fall" "I", .fieldLink RX6 45 "ThreeLegsModel" "up" "I", .fieldLink RX6 7 "ThreeLegsModel" "beat" "[I", .fieldLink RX6 13 "ThreeLegsModel" "length" "[I", .fieldLink RX6 16 "ThreeLegsModel" "give" "[I", .methodLink RX6 217 yX6_pass, .instanceMethod yX6_pass, .selects RX6 yX6_pass yX6_pass, .code yX6_pass cX6_pass 3 (some .int), .fieldLink RX6 31 "ThreeLegsModel" "kept" "[I"] ++ wsX60)
def wsX6_told : List Cond := .code yX6_told cX6_told 4 (some .int) :: ([.constantLong RX6 223 (10), .constantLong RX6 225 (89), .fieldLink RX6 7 "ThreeLegsModel" "beat" "[I", .fieldLink RX6 13 "ThreeLegsModel" "length" "[I", .fieldLink RX6 16 "ThreeLegsModel" "give" "[I", .fieldLink RX6 190 "ThreeLegsModel" "padMany" "I", .fieldLink RX6 54 "ThreeLegsModel" "running" "I", .fieldLink RX6 38 "ThreeLegsModel" "lurch" "I", .fieldLink RX6 42 "ThreeLegsModel" "fall" "I", .fieldLink RX6 45 "ThreeLegsModel" "up" "I", .methodLink RX6 50 yX6_in, .static yX6_in, .initialized RX6, .code yX6_in cX6_in 6 (some .boolean), .methodLink RX6 67 yX6_runs, .instanceMethod yX6_runs, .selects RX6 yX6_runs yX6_runs, .code yX6_runs cX6_runs 2 (some .boolean), .constantLong RX6 48 (7)] ++ wsX60)
def wsJ9_abs_0f7a4 : List Cond := .code yJ9_abs_0f7a4 cJ9_abs_0f7a4 1 (some .int) :: ([])
def wsJ9_max_7cf53 : List Cond := .code yJ9_max_7cf53 cJ9_max_7cf53 2 (some .int) :: ([])
def wsJ9_min_7cf53 : List Cond := .code yJ9_min_7cf53 cJ9_min_7cf53 2 (some .int) :: ([])
def wsL_law_r1 : List Cond := [Cond.classLink RL 7 RX5, Cond.instantiable RX5 8, Cond.initialized RX5, Cond.classLink RL 10 RX6, Cond.instantiable RX6 33, Cond.initialized RX6, Cond.methodLink RL 9 yX5_init, Cond.instanceMethod yX5_init, Cond.code yX5_init cX5_init 1 none, Cond.methodLink RX5 1 objectInit, Cond.instanceMethod objectInit, Cond.code objectInit ⟨#[0xb1]⟩ 1 none, Cond.classLink RX5 7 RX0, Cond.instantiable RX0 7, Cond.initialized RX0, Cond.fieldLink RX5 10 "ThreeLegs" "crowd" "LThreeLegs$Crowd;", Cond.fieldLink RX5 16 "ThreeLegs" "images" "[LThreeLegs$Crowd;", Cond.arrayClass .boolean, Cond.fieldLink RX5 20 "ThreeLegs" "isKept" "[Z", Cond.classLink RX5 24 RX1, Cond.instantiable RX1 2, Cond.initialized RX1, Cond.fieldLink RX5 27 "ThreeLegs" "film" "LThreeLegs$Film;", Cond.classLink RX5 31 RX4]
def wsL_law_r2 : List Cond := [Cond.instantiable RX4 16, Cond.initialized RX4, Cond.fieldLink RX5 34 "ThreeLegs" "walk" "LThreeLegs$Walk;", Cond.classLink RX5 38 RX2, Cond.instantiable RX2 6, Cond.initialized RX2, Cond.fieldLink RX5 41 "ThreeLegs" "knots" "LThreeLegs$Knots;", Cond.classLink RX5 45 RX3, Cond.instantiable RX3 2, Cond.initialized RX3, Cond.fieldLink RX5 48 "ThreeLegs" "soonest" "LThreeLegs$Soonest;", Cond.arrayClass .int, Cond.fieldLink RX5 52 "ThreeLegs" "times" "[I", Cond.instanceMethod yX0_init, Cond.code yX0_init cX0_init 1 none, Cond.methodLink RX0 3 objectInit, Cond.fieldLink RX0 9 "ThreeLegs$Crowd" "runs" "[Z", Cond.fieldLink RX0 15 "ThreeLegs$Crowd" "beat" "[I", Cond.fieldLink RX0 19 "ThreeLegs$Crowd" "length" "[I", Cond.fieldLink RX0 22 "ThreeLegs$Crowd" "give" "[I", Cond.fieldLink RX0 25 "ThreeLegs$Crowd" "lurch" "I", Cond.fieldLink RX0 29 "ThreeLegs$Crowd" "fall" "I", Cond.fieldLink RX0 32 "ThreeLegs$Crowd" "up" "I", Cond.instanceMethod yX1_init]
def wsL_law_r3 : List Cond := [Cond.code yX1_init cX1_init 1 none, Cond.methodLink RX1 3 objectInit, Cond.fieldLink RX1 9 "ThreeLegs$Film" "signs" "[I", Cond.instanceMethod yX4_init, Cond.code yX4_init cX4_init 1 none, Cond.methodLink RX4 3 objectInit, Cond.instanceMethod yX2_init, Cond.code yX2_init cX2_init 1 none, Cond.methodLink RX2 3 objectInit, Cond.fieldLink RX2 11 "ThreeLegs$Knots" "picks" "[I", Cond.fieldLink RX2 15 "ThreeLegs$Knots" "free" "[I", Cond.fieldLink RX2 18 "ThreeLegs$Knots" "mate" "[I", Cond.fieldLink RX2 21 "ThreeLegs$Knots" "bestMate" "[I", Cond.instanceMethod yX3_init, Cond.code yX3_init cX3_init 1 none, Cond.methodLink RX3 3 objectInit, Cond.fieldLink RX3 9 "ThreeLegs$Soonest" "time" "I", Cond.fieldLink RX3 15 "ThreeLegs$Soonest" "key" "I", Cond.methodLink RL 12 yX6_init, Cond.instanceMethod yX6_init, Cond.code yX6_init cX6_init 1 none, Cond.methodLink RX6 1 objectInit, Cond.fieldLink RX6 7 "ThreeLegsModel" "beat" "[I", Cond.fieldLink RX6 13 "ThreeLegsModel" "length" "[I"]
def wsL_law_r4 : List Cond := [Cond.fieldLink RX6 16 "ThreeLegsModel" "give" "[I", Cond.fieldLink RX6 19 "ThreeLegsModel" "timeBy" "[I", Cond.fieldLink RX6 22 "ThreeLegsModel" "with" "[I", Cond.fieldLink RX6 25 "ThreeLegsModel" "bestWith" "[I", Cond.fieldLink RX6 28 "ThreeLegsModel" "pad" "[I", Cond.fieldLink RX6 31 "ThreeLegsModel" "kept" "[I", Cond.fieldLink RX6 34 "ThreeLegsModel" "isKept" "[Z", Cond.fieldLink RX6 38 "ThreeLegsModel" "lurch" "I", Cond.fieldLink RX6 42 "ThreeLegsModel" "fall" "I", Cond.fieldLink RX6 45 "ThreeLegsModel" "up" "I", Cond.methodLink RL 13 yX5_run, Cond.instanceMethod yX5_run, Cond.selects RX5 yX5_run yX5_run, Cond.code yX5_run cX5_run 5 (some .int), Cond.methodLink RX5 56 yX5_isWithin, Cond.static yX5_isWithin, Cond.code yX5_isWithin cX5_isWithin 3 (some .boolean), Cond.methodLink RX5 60 yX0_enter, Cond.instanceMethod yX0_enter, Cond.selects RX0 yX0_enter yX0_enter, Cond.code yX0_enter cX0_enter 5 none, Cond.methodLink RX5 64 yX0_count, Cond.instanceMethod yX0_count, Cond.selects RX0 yX0_count yX0_count]
def wsL_law_r5 : List Cond := [Cond.code yX0_count cX0_count 1 (some .int), Cond.methodLink RX0 39 yX0_bits, Cond.instanceMethod yX0_bits, Cond.selects RX0 yX0_bits yX0_bits, Cond.code yX0_bits cX0_bits 3 (some .int), Cond.methodLink RX0 43 yJ6_bitCount_0f7a4, Cond.static yJ6_bitCount_0f7a4, Cond.initialized RJ6, Cond.code yJ6_bitCount_0f7a4 cJ6_bitCount_0f7a4 1 (some .int), Cond.constant RJ6 265 (1431655765), Cond.constant RJ6 266 (858993459), Cond.constant RJ6 267 (252645135), Cond.methodLink RL 17 yX6_run, Cond.instanceMethod yX6_run, Cond.selects RX6 yX6_run yX6_run, Cond.code yX6_run cX6_run 5 (some .int), Cond.constantLong RX6 48 (7), Cond.constantLong RX6 57 (4), Cond.constantLong RX6 59 (20), Cond.constantLong RX6 61 (9), Cond.fieldLink RX6 54 "ThreeLegsModel" "running" "I", Cond.methodLink RX6 50 yX6_in, Cond.static yX6_in, Cond.code yX6_in cX6_in 6 (some .boolean)]
def wsL_law_r6 : List Cond := [Cond.methodLink RX6 63 yX6_ones, Cond.static yX6_ones, Cond.code yX6_ones cX6_ones 3 (some .int), Cond.methodLink RL 18 yX5_rest, Cond.instanceMethod yX5_rest, Cond.selects RX5 yX5_rest yX5_rest, Cond.code yX5_rest cX5_rest 2 (some .int), Cond.methodLink RX5 68 yX0_hasRunner, Cond.instanceMethod yX0_hasRunner, Cond.selects RX0 yX0_hasRunner yX0_hasRunner, Cond.code yX0_hasRunner cX0_hasRunner 2 (some .boolean), Cond.methodLink RX5 72 yX0_leave, Cond.instanceMethod yX0_leave, Cond.selects RX0 yX0_leave yX0_leave, Cond.code yX0_leave cX0_leave 2 none, Cond.methodLink RX0 35 yX0_hasRunner, Cond.methodLink RL 22 yX6_rest, Cond.instanceMethod yX6_rest, Cond.selects RX6 yX6_rest yX6_rest, Cond.code yX6_rest cX6_rest 2 (some .int), Cond.methodLink RX6 67 yX6_runs, Cond.instanceMethod yX6_runs, Cond.selects RX6 yX6_runs yX6_runs, Cond.code yX6_runs cX6_runs 2 (some .boolean)]
def wsL_law_r7 : List Cond := [Cond.methodLink RL 23 yX5_set, Cond.instanceMethod yX5_set, Cond.selects RX5 yX5_set yX5_set, Cond.code yX5_set cX5_set 3 (some .int), Cond.methodLink RX5 76 yX5_setLurch, Cond.instanceMethod yX5_setLurch, Cond.selects RX5 yX5_setLurch yX5_setLurch, Cond.code yX5_setLurch cX5_setLurch 3 (some .int), Cond.fieldLink RX5 86 "ThreeLegs$Crowd" "fall" "I", Cond.fieldLink RX5 90 "ThreeLegs$Crowd" "lurch" "I", Cond.methodLink RX5 80 yX5_setFall, Cond.instanceMethod yX5_setFall, Cond.selects RX5 yX5_setFall yX5_setFall, Cond.code yX5_setFall cX5_setFall 3 (some .int), Cond.methodLink RX5 83 yX5_setUp, Cond.instanceMethod yX5_setUp, Cond.selects RX5 yX5_setUp yX5_setUp, Cond.code yX5_setUp cX5_setUp 3 (some .int), Cond.fieldLink RX5 93 "ThreeLegs$Crowd" "up" "I", Cond.methodLink RL 27 yX6_set, Cond.instanceMethod yX6_set, Cond.selects RX6 yX6_set yX6_set, Cond.code yX6_set cX6_set 5 (some .int), Cond.constantLong RX6 71 (99)]
def wsL_law_r8 : List Cond := [Cond.methodLink RL 28 yX5_pair, Cond.instanceMethod yX5_pair, Cond.selects RX5 yX5_pair yX5_pair, Cond.code yX5_pair cX5_pair 6 (some .int), Cond.fieldLink RX5 110 "ThreeLegs$Walk" "feet" "I", Cond.fieldLink RX5 113 "ThreeLegs$Walk" "lurches" "I", Cond.fieldLink RX5 116 "ThreeLegs$Walk" "falls" "I", Cond.methodLink RX5 96 yX0_canTie, Cond.instanceMethod yX0_canTie, Cond.selects RX0 yX0_canTie yX0_canTie, Cond.code yX0_canTie cX0_canTie 3 (some .boolean), Cond.methodLink RX5 100 yX4_tie, Cond.instanceMethod yX4_tie, Cond.selects RX4 yX4_tie yX4_tie, Cond.code yX4_tie cX4_tie 4 none, Cond.fieldLink RX4 15 "ThreeLegs$Crowd" "beat" "[I", Cond.fieldLink RX4 19 "ThreeLegs$Walk" "firstBeat" "I", Cond.fieldLink RX4 25 "ThreeLegs$Walk" "otherBeat" "I", Cond.fieldLink RX4 28 "ThreeLegs$Crowd" "give" "[I", Cond.fieldLink RX4 31 "ThreeLegs$Walk" "firstGive" "I", Cond.fieldLink RX4 34 "ThreeLegs$Walk" "otherGive" "I", Cond.fieldLink RX4 37 "ThreeLegs$Crowd" "length" "[I", Cond.methodLink RX4 40 Lib.Math.min.name, Cond.static Lib.Math.min.name]
def wsL_law_r9 : List Cond := [Cond.initialized "java/lang/Math", Cond.code Lib.Math.min.name Lib.Math.min.code 2 (some .int), Cond.fieldLink RX4 46 "ThreeLegs$Walk" "stride" "I", Cond.fieldLink RX4 49 "ThreeLegs$Crowd" "lurch" "I", Cond.fieldLink RX4 52 "ThreeLegs$Walk" "lurch" "I", Cond.fieldLink RX4 53 "ThreeLegs$Crowd" "fall" "I", Cond.fieldLink RX4 56 "ThreeLegs$Walk" "fall" "I", Cond.fieldLink RX4 57 "ThreeLegs$Crowd" "up" "I", Cond.fieldLink RX4 60 "ThreeLegs$Walk" "up" "I", Cond.fieldLink RX4 61 "ThreeLegs$Walk" "firstTime" "I", Cond.fieldLink RX4 64 "ThreeLegs$Walk" "otherTime" "I", Cond.fieldLink RX4 67 "ThreeLegs$Walk" "steps" "I", Cond.fieldLink RX4 70 "ThreeLegs$Walk" "feet" "I", Cond.fieldLink RX4 73 "ThreeLegs$Walk" "lurches" "I", Cond.fieldLink RX4 76 "ThreeLegs$Walk" "falls" "I", Cond.methodLink RX4 9 yX0_canTie, Cond.methodLink RX5 104 yX4_step, Cond.instanceMethod yX4_step, Cond.selects RX4 yX4_step yX4_step, Cond.code yX4_step cX4_step 3 none, Cond.methodLink RX4 79 Lib.Math.max.name, Cond.static Lib.Math.max.name, Cond.code Lib.Math.max.name Lib.Math.max.code 2 (some .int), Cond.fieldLink RX4 86 "ThreeLegs$Walk" "firstWasEarlier" "Z"]
def wsL_law_r10 : List Cond := [Cond.fieldLink RX4 94 "ThreeLegs$Walk" "sign" "C", Cond.methodLink RX4 90 yX4_apart, Cond.instanceMethod yX4_apart, Cond.selects RX4 yX4_apart yX4_apart, Cond.code yX4_apart cX4_apart 1 (some .int), Cond.methodLink RX4 82 Lib.Math.abs.name, Cond.static Lib.Math.abs.name, Cond.code Lib.Math.abs.name Lib.Math.abs.code 1 (some .int), Cond.methodLink RX5 107 yX4_time, Cond.instanceMethod yX4_time, Cond.selects RX4 yX4_time yX4_time, Cond.code yX4_time cX4_time 1 (some .int), Cond.methodLink RX5 119 yX4_apart, Cond.methodLink RL 31 yX6_pair, Cond.instanceMethod yX6_pair, Cond.selects RX6 yX6_pair yX6_pair, Cond.code yX6_pair cX6_pair 6 (some .int), Cond.constantLong RX6 140 (999), Cond.fieldLink RX6 109 "ThreeLegsModel" "steps" "I", Cond.fieldLink RX6 94 "ThreeLegsModel" "timeA" "I", Cond.fieldLink RX6 97 "ThreeLegsModel" "timeB" "I", Cond.fieldLink RX6 100 "ThreeLegsModel" "feet" "I", Cond.fieldLink RX6 103 "ThreeLegsModel" "lurches" "I", Cond.fieldLink RX6 106 "ThreeLegsModel" "falls" "I"]
def wsL_law_r11 : List Cond := [Cond.methodLink RX6 136 yX6_isPair, Cond.instanceMethod yX6_isPair, Cond.selects RX6 yX6_isPair yX6_isPair, Cond.code yX6_isPair cX6_isPair 3 (some .boolean), Cond.methodLink RX6 142 yX6_layPair, Cond.instanceMethod yX6_layPair, Cond.selects RX6 yX6_layPair yX6_layPair, Cond.code yX6_layPair cX6_layPair 3 none, Cond.fieldLink RX6 73 "ThreeLegsModel" "beatA" "I", Cond.fieldLink RX6 76 "ThreeLegsModel" "beatB" "I", Cond.fieldLink RX6 79 "ThreeLegsModel" "giveA" "I", Cond.fieldLink RX6 82 "ThreeLegsModel" "giveB" "I", Cond.fieldLink RX6 85 "ThreeLegsModel" "stride" "I", Cond.fieldLink RX6 88 "ThreeLegsModel" "quickFrom" "I", Cond.fieldLink RX6 91 "ThreeLegsModel" "tight" "I", Cond.methodLink RX6 125 yX6_begin, Cond.instanceMethod yX6_begin, Cond.selects RX6 yX6_begin yX6_begin, Cond.code yX6_begin cX6_begin 1 none, Cond.methodLink RX6 128 yX6_step, Cond.instanceMethod yX6_step, Cond.selects RX6 yX6_step yX6_step, Cond.code yX6_step cX6_step 5 none, Cond.fieldLink RX6 119 "ThreeLegsModel" "how" "I"]
def wsL_law_r12 : List Cond := [Cond.fieldLink RX6 122 "ThreeLegsModel" "earlier" "I", Cond.methodLink RX6 112 yX6_quicker, Cond.instanceMethod yX6_quicker, Cond.selects RX6 yX6_quicker yX6_quicker, Cond.code yX6_quicker cX6_quicker 2 (some .int), Cond.methodLink RX6 115 yX6_next, Cond.static yX6_next, Cond.code yX6_next cX6_next 5 (some .int), Cond.methodLink RX6 131 yX6_time, Cond.instanceMethod yX6_time, Cond.selects RX6 yX6_time yX6_time, Cond.code yX6_time cX6_time 1 (some .int), Cond.methodLink RL 32 yX5_reach, Cond.instanceMethod yX5_reach, Cond.selects RX5 yX5_reach yX5_reach, Cond.code yX5_reach cX5_reach 7 (some .int), Cond.fieldLink RX5 130 "ThreeLegs$Walk" "steps" "I", Cond.methodLink RX5 122 yX5_refusalOfRace, Cond.instanceMethod yX5_refusalOfRace, Cond.selects RX5 yX5_refusalOfRace yX5_refusalOfRace, Cond.code yX5_refusalOfRace cX5_refusalOfRace 5 (some .int), Cond.methodLink RX5 140 yX5_isFeet, Cond.static yX5_isFeet, Cond.code yX5_isFeet cX5_isFeet 1 (some .boolean)]
def wsL_law_r13 : List Cond := [Cond.methodLink RX5 126 yX5_timeTo, Cond.instanceMethod yX5_timeTo, Cond.selects RX5 yX5_timeTo yX5_timeTo, Cond.code yX5_timeTo cX5_timeTo 4 (some .int), Cond.methodLink RX5 168 yX4_timeTo, Cond.instanceMethod yX4_timeTo, Cond.selects RX4 yX4_timeTo yX4_timeTo, Cond.code yX4_timeTo cX4_timeTo 4 (some .int), Cond.methodLink RX4 98 yX4_speedUp, Cond.instanceMethod yX4_speedUp, Cond.selects RX4 yX4_speedUp yX4_speedUp, Cond.code yX4_speedUp cX4_speedUp 1 none, Cond.methodLink RX4 101 yX4_step, Cond.methodLink RX4 104 yX4_time, Cond.methodLink RL 35 yX6_reach, Cond.instanceMethod yX6_reach, Cond.selects RX6 yX6_reach yX6_reach, Cond.code yX6_reach cX6_reach 6 (some .int), Cond.constant RX6 135 (1000000000), Cond.methodLink RX6 146 yX6_isFar, Cond.static yX6_isFar, Cond.code yX6_isFar cX6_isFar 1 (some .boolean), Cond.methodLink RX6 149 yX6_timeOf, Cond.instanceMethod yX6_timeOf]
def wsL_law_r14 : List Cond := [Cond.selects RX6 yX6_timeOf yX6_timeOf, Cond.code yX6_timeOf cX6_timeOf 2 (some .int), Cond.methodLink RL 36 yX5_who, Cond.instanceMethod yX5_who, Cond.selects RX5 yX5_who yX5_who, Cond.code yX5_who cX5_who 4 (some .int), Cond.fieldLink RX5 136 "ThreeLegs$Walk" "firstWasEarlier" "Z", Cond.methodLink RX5 133 yX4_standsFor, Cond.instanceMethod yX4_standsFor, Cond.selects RX4 yX4_standsFor yX4_standsFor, Cond.code yX4_standsFor cX4_standsFor 3 (some .boolean), Cond.methodLink RL 40 yX6_who, Cond.instanceMethod yX6_who, Cond.selects RX6 yX6_who yX6_who, Cond.code yX6_who cX6_who 4 (some .int), Cond.methodLink RL 41 yX5_alone, Cond.instanceMethod yX5_alone, Cond.selects RX5 yX5_alone yX5_alone, Cond.code yX5_alone cX5_alone 6 (some .int), Cond.fieldLink RX5 143 "ThreeLegs$Crowd" "length" "[I", Cond.fieldLink RX5 146 "ThreeLegs$Crowd" "beat" "[I", Cond.methodLink RL 44 yX6_alone, Cond.instanceMethod yX6_alone, Cond.selects RX6 yX6_alone yX6_alone]
def wsL_law_r15 : List Cond := [Cond.code yX6_alone cX6_alone 3 (some .int), Cond.methodLink RL 45 yX5_tied, Cond.instanceMethod yX5_tied, Cond.selects RX5 yX5_tied yX5_tied, Cond.code yX5_tied cX5_tied 5 (some .int), Cond.fieldLink RX5 156 "ThreeLegs$Knots" "least" "I", Cond.fieldLink RX5 159 "ThreeLegs$Knots" "bestMate" "[I", Cond.methodLink RX5 149 yX5_timeAllPairs, Cond.instanceMethod yX5_timeAllPairs, Cond.selects RX5 yX5_timeAllPairs yX5_timeAllPairs, Cond.code yX5_timeAllPairs cX5_timeAllPairs 5 none, Cond.methodLink RX5 152 yX2_seek, Cond.instanceMethod yX2_seek, Cond.selects RX2 yX2_seek yX2_seek, Cond.code yX2_seek cX2_seek 7 none, Cond.fieldLink RX2 30 "ThreeLegs$Knots" "people" "I", Cond.constant RX2 36 (2147483647), Cond.fieldLink RX2 37 "ThreeLegs$Knots" "least" "I", Cond.methodLink RX2 44 arraycopyName, Cond.native arraycopyName, Cond.static arraycopyName, Cond.initialized "java/lang/System", Cond.methodLink RX2 24 yX0_count, Cond.methodLink RX2 40 yX2_costOfPicks]
def wsL_law_r16 : List Cond := [Cond.instanceMethod yX2_costOfPicks, Cond.selects RX2 yX2_costOfPicks yX2_costOfPicks, Cond.code yX2_costOfPicks cX2_costOfPicks 11 (some .int), Cond.constant RX2 58 (100000), Cond.methodLink RX2 59 Lib.Math.max.name, Cond.methodLink RX2 54 yX2_lineUp, Cond.instanceMethod yX2_lineUp, Cond.selects RX2 yX2_lineUp yX2_lineUp, Cond.code yX2_lineUp cX2_lineUp 4 (some .int), Cond.methodLink RX2 69 yX0_hasRunner, Cond.methodLink RX2 65 yX2_takeOut, Cond.instanceMethod yX2_takeOut, Cond.selects RX2 yX2_takeOut yX2_takeOut, Cond.code yX2_takeOut cX2_takeOut 4 none, Cond.methodLink RX2 50 yX2_goToNextPicks, Cond.instanceMethod yX2_goToNextPicks, Cond.selects RX2 yX2_goToNextPicks yX2_goToNextPicks, Cond.code yX2_goToNextPicks cX2_goToNextPicks 2 (some .boolean), Cond.methodLink RL 48 yX6_tied, Cond.instanceMethod yX6_tied, Cond.selects RX6 yX6_tied yX6_tied, Cond.code yX6_tied cX6_tied 10 (some .int), Cond.methodLink RX6 153 yX6_findTimes, Cond.instanceMethod yX6_findTimes]
def wsL_law_r17 : List Cond := [Cond.selects RX6 yX6_findTimes yX6_findTimes, Cond.code yX6_findTimes cX6_findTimes 5 none, Cond.constant RX6 152 (100000), Cond.methodLink RX6 157 yX6_tie, Cond.instanceMethod yX6_tie, Cond.selects RX6 yX6_tie yX6_tie, Cond.code yX6_tie cX6_tie 9 none, Cond.methodLink RX6 160 yX6_tiedBy, Cond.instanceMethod yX6_tiedBy, Cond.selects RX6 yX6_tiedBy yX6_tiedBy, Cond.code yX6_tiedBy cX6_tiedBy 5 (some .int), Cond.methodLink RL 49 yX5_call, Cond.instanceMethod yX5_call, Cond.selects RX5 yX5_call yX5_call, Cond.code yX5_call cX5_call 7 (some .int), Cond.methodLink RX5 162 yX3_clear, Cond.instanceMethod yX3_clear, Cond.selects RX3 yX3_clear yX3_clear, Cond.code yX3_clear cX3_clear 1 none, Cond.methodLink RX5 165 yX4_beatBoth, Cond.instanceMethod yX4_beatBoth, Cond.selects RX4 yX4_beatBoth yX4_beatBoth, Cond.code yX4_beatBoth cX4_beatBoth 2 none, Cond.methodLink RX5 171 yX3_offer]
def wsL_law_r18 : List Cond := [Cond.instanceMethod yX3_offer, Cond.selects RX3 yX3_offer yX3_offer, Cond.code yX3_offer cX3_offer 3 none, Cond.methodLink RX5 175 yX3_answer, Cond.instanceMethod yX3_answer, Cond.selects RX3 yX3_answer yX3_answer, Cond.code yX3_answer cX3_answer 2 (some .int), Cond.methodLink RL 52 yX6_call, Cond.instanceMethod yX6_call, Cond.selects RX6 yX6_call yX6_call, Cond.code yX6_call cX6_call 6 (some .int), Cond.methodLink RX6 169 yX6_isAsked, Cond.static yX6_isAsked, Cond.code yX6_isAsked cX6_isAsked 2 (some .boolean), Cond.methodLink RX6 172 yX6_beginTries, Cond.instanceMethod yX6_beginTries, Cond.selects RX6 yX6_beginTries yX6_beginTries, Cond.code yX6_beginTries cX6_beginTries 1 none, Cond.fieldLink RX6 166 "ThreeLegsModel" "bestIs" "I", Cond.fieldLink RX6 163 "ThreeLegsModel" "bestTime" "I", Cond.methodLink RX6 175 yX6_tryOne, Cond.instanceMethod yX6_tryOne, Cond.selects RX6 yX6_tryOne yX6_tryOne, Cond.code yX6_tryOne cX6_tryOne 4 none]
def wsL_law_r19 : List Cond := [Cond.methodLink RX6 178 yX6_tellBest, Cond.instanceMethod yX6_tellBest, Cond.selects RX6 yX6_tellBest yX6_tellBest, Cond.code yX6_tellBest cX6_tellBest 2 (some .int), Cond.methodLink RL 53 yX5_quicken, Cond.instanceMethod yX5_quicken, Cond.selects RX5 yX5_quicken yX5_quicken, Cond.code yX5_quicken cX5_quicken 7 (some .int), Cond.methodLink RL 56 yX6_quicken, Cond.instanceMethod yX6_quicken, Cond.selects RX6 yX6_quicken yX6_quicken, Cond.code yX6_quicken cX6_quicken 6 (some .int), Cond.methodLink RL 57 yX5_yields, Cond.instanceMethod yX5_yields, Cond.selects RX5 yX5_yields yX5_yields, Cond.code yX5_yields cX5_yields 8 (some .int), Cond.methodLink RX5 178 yX4_give, Cond.instanceMethod yX4_give, Cond.selects RX4 yX4_give yX4_give, Cond.code yX4_give cX4_give 3 none, Cond.methodLink RL 60 yX6_yields, Cond.instanceMethod yX6_yields, Cond.selects RX6 yX6_yields yX6_yields, Cond.code yX6_yields cX6_yields 6 (some .int)]
def wsL_law_r20 : List Cond := [Cond.methodLink RL 61 yX5_practice, Cond.instanceMethod yX5_practice, Cond.selects RX5 yX5_practice yX5_practice, Cond.code yX5_practice cX5_practice 11 (some .int), Cond.fieldLink RX5 181 "ThreeLegs$Crowd" "give" "[I", Cond.methodLink RX5 183 yX5_standsWith, Cond.instanceMethod yX5_standsWith, Cond.selects RX5 yX5_standsWith yX5_standsWith, Cond.code yX5_standsWith cX5_standsWith 6 (some .boolean), Cond.methodLink RL 64 yX6_practice, Cond.instanceMethod yX6_practice, Cond.selects RX6 yX6_practice yX6_practice, Cond.code yX6_practice cX6_practice 10 (some .int), Cond.methodLink RX6 181 yX6_fallsIn, Cond.instanceMethod yX6_fallsIn, Cond.selects RX6 yX6_fallsIn yX6_fallsIn, Cond.code yX6_fallsIn cX6_fallsIn 2 (some .boolean), Cond.methodLink RL 65 yX5_scarf, Cond.instanceMethod yX5_scarf, Cond.selects RX5 yX5_scarf yX5_scarf, Cond.code yX5_scarf cX5_scarf 7 (some .int), Cond.fieldLink RX5 187 "ThreeLegs$Walk" "lurch" "I", Cond.methodLink RL 68 yX6_scarf, Cond.instanceMethod yX6_scarf]
def wsL_law_r21 : List Cond := [Cond.selects RX6 yX6_scarf yX6_scarf, Cond.code yX6_scarf cX6_scarf 6 (some .int), Cond.constantLong RX6 184 (9999), Cond.methodLink RL 69 yX5_even, Cond.instanceMethod yX5_even, Cond.selects RX5 yX5_even yX5_even, Cond.code yX5_even cX5_even 7 (some .int), Cond.methodLink RX5 191 Lib.Math.max.name, Cond.methodLink RX5 188 yX4_feetWithin, Cond.instanceMethod yX4_feetWithin, Cond.selects RX4 yX4_feetWithin yX4_feetWithin, Cond.code yX4_feetWithin cX4_feetWithin 4 (some .int), Cond.methodLink RL 73 yX6_even, Cond.instanceMethod yX6_even, Cond.selects RX6 yX6_even yX6_even, Cond.code yX6_even cX6_even 8 (some .int), Cond.methodLink RL 74 yX5_say, Cond.instanceMethod yX5_say, Cond.selects RX5 yX5_say yX5_say, Cond.code yX5_say cX5_say 2 (some .int), Cond.fieldLink RX5 196 "ThreeLegs$Film" "count" "I", Cond.methodLink RX5 198 yX1_add, Cond.instanceMethod yX1_add, Cond.selects RX1 yX1_add yX1_add]
def wsL_law_r22 : List Cond := [Cond.code yX1_add cX1_add 2 none, Cond.fieldLink RX1 15 "ThreeLegs$Film" "count" "I", Cond.methodLink RL 77 yX6_say, Cond.instanceMethod yX6_say, Cond.selects RX6 yX6_say yX6_say, Cond.code yX6_say cX6_say 2 (some .int), Cond.constantLong RX6 186 (33), Cond.constantLong RX6 188 (126), Cond.fieldLink RX6 190 "ThreeLegsModel" "padMany" "I", Cond.methodLink RL 78 yX5_wipe, Cond.instanceMethod yX5_wipe, Cond.selects RX5 yX5_wipe yX5_wipe, Cond.code yX5_wipe cX5_wipe 2 (some .int), Cond.methodLink RL 82 yX6_wipe, Cond.instanceMethod yX6_wipe, Cond.selects RX6 yX6_wipe yX6_wipe, Cond.code yX6_wipe cX6_wipe 2 (some .int), Cond.methodLink RL 83 yX5_fault, Cond.instanceMethod yX5_fault, Cond.selects RX5 yX5_fault yX5_fault, Cond.code yX5_fault cX5_fault 1 (some .int), Cond.methodLink RX5 201 yX1_firstFault, Cond.instanceMethod yX1_firstFault, Cond.selects RX1 yX1_firstFault yX1_firstFault]
def wsL_law_r23 : List Cond := [Cond.code yX1_firstFault cX1_firstFault 3 (some .int), Cond.methodLink RL 86 yX6_fault, Cond.instanceMethod yX6_fault, Cond.selects RX6 yX6_fault yX6_fault, Cond.code yX6_fault cX6_fault 3 (some .int), Cond.methodLink RL 87 yX5_judge, Cond.instanceMethod yX5_judge, Cond.selects RX5 yX5_judge yX5_judge, Cond.code yX5_judge cX5_judge 3 (some .int), Cond.methodLink RX5 204 yX5_firstUnlike, Cond.instanceMethod yX5_firstUnlike, Cond.selects RX5 yX5_firstUnlike yX5_firstUnlike, Cond.code yX5_firstUnlike cX5_firstUnlike 4 (some .int), Cond.fieldLink RX5 220 "ThreeLegs$Walk" "sign" "C", Cond.methodLink RX5 224 yX1_canShow, Cond.instanceMethod yX1_canShow, Cond.selects RX1 yX1_canShow yX1_canShow, Cond.code yX1_canShow cX1_canShow 3 (some .boolean), Cond.methodLink RL 90 yX6_judge, Cond.instanceMethod yX6_judge, Cond.selects RX6 yX6_judge yX6_judge, Cond.code yX6_judge cX6_judge 3 (some .int), Cond.methodLink RX6 193 yX6_fault, Cond.methodLink RX6 196 yX6_judged]
def wsL_law_r24 : List Cond := [Cond.instanceMethod yX6_judged, Cond.selects RX6 yX6_judged yX6_judged, Cond.code yX6_judged cX6_judged 4 (some .int), Cond.methodLink RL 91 yX5_fits, Cond.instanceMethod yX5_fits, Cond.selects RX5 yX5_fits yX5_fits, Cond.code yX5_fits cX5_fits 5 (some .int), Cond.methodLink RL 94 yX6_fits, Cond.instanceMethod yX6_fits, Cond.selects RX6 yX6_fits yX6_fits, Cond.code yX6_fits cX6_fits 5 (some .int), Cond.methodLink RL 95 yX5_year, Cond.instanceMethod yX5_year, Cond.selects RX5 yX5_year yX5_year, Cond.code yX5_year cX5_year 12 (some .int), Cond.constant RX5 207 (65537), Cond.fieldLink RX5 208 "ThreeLegs$Soonest" "time" "I", Cond.methodLink RL 98 yX6_year, Cond.instanceMethod yX6_year, Cond.selects RX6 yX6_year yX6_year, Cond.code yX6_year cX6_year 13 (some .int), Cond.constantLong RX6 200 (-1), Cond.constantLong RX6 202 (8), Cond.constantLong RX6 204 (75)]
def wsL_law_r25 : List Cond := [Cond.constantLong RX6 206 (74), Cond.constantLong RX6 208 (65537), Cond.methodLink RL 99 yX5_image, Cond.instanceMethod yX5_image, Cond.selects RX5 yX5_image yX5_image, Cond.code yX5_image cX5_image 2 (some .int), Cond.methodLink RX5 210 yX0_copyFrom, Cond.instanceMethod yX0_copyFrom, Cond.selects RX0 yX0_copyFrom yX0_copyFrom, Cond.code yX0_copyFrom cX0_copyFrom 3 none, Cond.methodLink RL 102 yX6_image, Cond.instanceMethod yX6_image, Cond.selects RX6 yX6_image yX6_image, Cond.code yX6_image cX6_image 2 (some .int), Cond.fieldLink RX6 214 "ThreeLegsModel" "keptAt" "I", Cond.fieldLink RX6 210 "ThreeLegsModel" "isWriting" "Z", Cond.methodLink RX6 220 yX6_passAll, Cond.instanceMethod yX6_passAll, Cond.selects RX6 yX6_passAll yX6_passAll, Cond.code yX6_passAll cX6_passAll 2 none, Cond.methodLink RX6 217 yX6_pass, Cond.instanceMethod yX6_pass, Cond.selects RX6 yX6_pass yX6_pass, Cond.code yX6_pass cX6_pass 3 (some .int)]
def wsL_law_r26 : List Cond := [Cond.methodLink RL 103 yX5_restore, Cond.instanceMethod yX5_restore, Cond.selects RX5 yX5_restore yX5_restore, Cond.code yX5_restore cX5_restore 2 (some .int), Cond.methodLink RL 106 yX6_restore, Cond.instanceMethod yX6_restore, Cond.selects RX6 yX6_restore yX6_restore, Cond.code yX6_restore cX6_restore 2 (some .int), Cond.methodLink RL 107 yX5_told, Cond.instanceMethod yX5_told, Cond.selects RX5 yX5_told yX5_told, Cond.code yX5_told cX5_told 2 (some .int), Cond.methodLink RX5 214 yX0_bits, Cond.methodLink RX5 217 yX5_toldOfPerson, Cond.instanceMethod yX5_toldOfPerson, Cond.selects RX5 yX5_toldOfPerson yX5_toldOfPerson, Cond.code yX5_toldOfPerson cX5_toldOfPerson 3 (some .int), Cond.methodLink RL 110 yX6_told, Cond.instanceMethod yX6_told, Cond.selects RX6 yX6_told yX6_told, Cond.code yX6_told cX6_told 4 (some .int), Cond.constantLong RX6 223 (10), Cond.constantLong RX6 225 (89)]
def wsL_law : List Cond := (wsL_law_r1 ++ (wsL_law_r2 ++ (wsL_law_r3 ++ (wsL_law_r4 ++ (wsL_law_r5 ++ (wsL_law_r6 ++ (wsL_law_r7 ++ (wsL_law_r8 ++ (wsL_law_r9 ++ (wsL_law_r10 ++ (wsL_law_r11 ++ (wsL_law_r12 ++ (wsL_law_r13 ++ (wsL_law_r14 ++ (wsL_law_r15 ++ (wsL_law_r16 ++ (wsL_law_r17 ++ (wsL_law_r18 ++ (wsL_law_r19 ++ (wsL_law_r20 ++ (wsL_law_r21 ++ (wsL_law_r22 ++ (wsL_law_r23 ++ (wsL_law_r24 ++ (wsL_law_r25 ++ wsL_law_r26))))))))))))))))))))))))) ++ wsX50 ++ wsX60 ++ wsX00 ++ wsX10 ++ wsX40 ++ wsX20 ++ wsX30 ++ ([] : List Cond)
set_option maxRecDepth 20000 in
theorem wsL_law_in : ∀ w ∈ wsL_law, w ∈ lw_tbl := fun w h => (goodIn_p wsL_law [47, 50, 55, 98, 112, 174, 201, 517, 239, 242, 246, 250, 254, 257, 622, 626, 632, 264, 268, 272, 636, 640, 277, 281, 285, 289, 644, 293, 297, 301, 305, 309, 312, 316, 319, 323, 649, 653, 658, 662, 666, 670, 673, 677, 328, 332, 335, 339, 343, 347, 681, 684, 688, 353, 357, 693, 361, 697, 365, 369, 373, 379, 383, 390, 397, 701, 705, 710, 714, 401, 405, 409, 413, 417, 718, 721, 725, 729, 733, 421, 737, 425, 429, 741, 433, 437, 745, 749, 441, 753, 445, 449, 758, 454, 458, 762, 462, 768, 466, 470, 772, 474, 478, 482, 776, 781, 486, 785, 490, 789, 495, 499, 798, 802, 806, 503, 810, 507, 512, 814] (by decide +kernel) (by decide +kernel) w h).1
theorem inlX0 : ∀ w ∈ wsX00, w ∈ wsL_law := fun _ h => List.mem_append_left _ (List.mem_append_left _ (List.mem_append_left _ (List.mem_append_left _ (List.mem_append_left _ (List.mem_append_right _ h)))))
theorem inX0 : ∀ w ∈ wsX00, w ∈ lw_tbl := fun w h => wsL_law_in w (inlX0 w h)
theorem inlX1 : ∀ w ∈ wsX10, w ∈ wsL_law := fun _ h => List.mem_append_left _ (List.mem_append_left _ (List.mem_append_left _ (List.mem_append_left _ (List.mem_append_right _ h))))
theorem inX1 : ∀ w ∈ wsX10, w ∈ lw_tbl := fun w h => wsL_law_in w (inlX1 w h)
theorem inlX2 : ∀ w ∈ wsX20, w ∈ wsL_law := fun _ h => List.mem_append_left _ (List.mem_append_left _ (List.mem_append_right _ h))
theorem inX2 : ∀ w ∈ wsX20, w ∈ lw_tbl := fun w h => wsL_law_in w (inlX2 w h)
theorem inlX3 : ∀ w ∈ wsX30, w ∈ wsL_law := fun _ h => List.mem_append_left _ (List.mem_append_right _ h)
theorem inX3 : ∀ w ∈ wsX30, w ∈ lw_tbl := fun w h => wsL_law_in w (inlX3 w h)
theorem inlX4 : ∀ w ∈ wsX40, w ∈ wsL_law := fun _ h => List.mem_append_left _ (List.mem_append_left _ (List.mem_append_left _ (List.mem_append_right _ h)))
theorem inX4 : ∀ w ∈ wsX40, w ∈ lw_tbl := fun w h => wsL_law_in w (inlX4 w h)
theorem inlX5 : ∀ w ∈ wsX50, w ∈ wsL_law := fun _ h => List.mem_append_left _ (List.mem_append_left _ (List.mem_append_left _ (List.mem_append_left _ (List.mem_append_left _ (List.mem_append_left _ (List.mem_append_left _ (List.mem_append_right _ h)))))))
theorem inX5 : ∀ w ∈ wsX50, w ∈ lw_tbl := fun w h => wsL_law_in w (inlX5 w h)
theorem inlX6 : ∀ w ∈ wsX60, w ∈ wsL_law := fun _ h => List.mem_append_left _ (List.mem_append_left _ (List.mem_append_left _ (List.mem_append_left _ (List.mem_append_left _ (List.mem_append_left _ (List.mem_append_right _ h))))))
theorem inX6 : ∀ w ∈ wsX60, w ∈ lw_tbl := fun w h => wsL_law_in w (inlX6 w h)
theorem inJ6 : ∀ w ∈ wsJ60, w ∈ lw_tbl := by decide +kernel
theorem inJ9 : ∀ w ∈ wsJ90, w ∈ lw_tbl := by decide +kernel
theorem inJ10 : ∀ w ∈ wsJ100, w ∈ lw_tbl := by decide +kernel
theorem dX0_init_0 : decode cX0_init 0 = .ok (.aload_n 0, 1) := by decide +kernel
theorem dX0_init_1 : decode cX0_init 1 = .ok (.invokespecial 3, 3) := by decide +kernel
theorem dX0_init_4 : decode cX0_init 4 = .ok (.aload_n 0, 1) := by decide +kernel
theorem dX0_init_5 : decode cX0_init 5 = .ok (.bipush 8, 2) := by decide +kernel
theorem dX0_init_7 : decode cX0_init 7 = .ok (.newarray .boolean, 2) := by decide +kernel
theorem dX0_init_9 : decode cX0_init 9 = .ok (.putfield 9, 3) := by decide +kernel
theorem dX0_init_12 : decode cX0_init 12 = .ok (.aload_n 0, 1) := by decide +kernel
theorem dX0_init_13 : decode cX0_init 13 = .ok (.bipush 8, 2) := by decide +kernel
theorem dX0_init_15 : decode cX0_init 15 = .ok (.newarray .int, 2) := by decide +kernel
theorem dX0_init_17 : decode cX0_init 17 = .ok (.putfield 15, 3) := by decide +kernel
theorem dX0_init_20 : decode cX0_init 20 = .ok (.aload_n 0, 1) := by decide +kernel
theorem dX0_init_21 : decode cX0_init 21 = .ok (.bipush 8, 2) := by decide +kernel
theorem dX0_init_23 : decode cX0_init 23 = .ok (.newarray .int, 2) := by decide +kernel
theorem dX0_init_25 : decode cX0_init 25 = .ok (.putfield 19, 3) := by decide +kernel
theorem dX0_init_28 : decode cX0_init 28 = .ok (.aload_n 0, 1) := by decide +kernel
theorem dX0_init_29 : decode cX0_init 29 = .ok (.bipush 8, 2) := by decide +kernel
theorem dX0_init_31 : decode cX0_init 31 = .ok (.newarray .int, 2) := by decide +kernel
theorem dX0_init_33 : decode cX0_init 33 = .ok (.putfield 22, 3) := by decide +kernel
theorem dX0_init_36 : decode cX0_init 36 = .ok (.aload_n 0, 1) := by decide +kernel
theorem dX0_init_37 : decode cX0_init 37 = .ok (.iconst 2, 1) := by decide +kernel
theorem dX0_init_38 : decode cX0_init 38 = .ok (.putfield 25, 3) := by decide +kernel
theorem dX0_init_41 : decode cX0_init 41 = .ok (.aload_n 0, 1) := by decide +kernel
theorem dX0_init_42 : decode cX0_init 42 = .ok (.iconst 5, 1) := by decide +kernel
theorem dX0_init_43 : decode cX0_init 43 = .ok (.putfield 29, 3) := by decide +kernel
theorem dX0_init_46 : decode cX0_init 46 = .ok (.aload_n 0, 1) := by decide +kernel
theorem dX0_init_47 : decode cX0_init 47 = .ok (.bipush 90, 2) := by decide +kernel
theorem dX0_init_49 : decode cX0_init 49 = .ok (.putfield 32, 3) := by decide +kernel
theorem dX0_init_52 : decode cX0_init 52 = .ok (.return_, 1) := by decide +kernel
theorem dX0_hasRunner_0 : decode cX0_hasRunner 0 = .ok (.iload_n 1, 1) := by decide +kernel
theorem dX0_hasRunner_1 : decode cX0_hasRunner 1 = .ok (.ifCond .lt 22, 3) := by decide +kernel
theorem dX0_hasRunner_4 : decode cX0_hasRunner 4 = .ok (.iload_n 1, 1) := by decide +kernel
theorem dX0_hasRunner_5 : decode cX0_hasRunner 5 = .ok (.bipush 8, 2) := by decide +kernel
theorem dX0_hasRunner_7 : decode cX0_hasRunner 7 = .ok (.if_icmp .ge 16, 3) := by decide +kernel
theorem dX0_hasRunner_10 : decode cX0_hasRunner 10 = .ok (.aload_n 0, 1) := by decide +kernel
theorem dX0_hasRunner_11 : decode cX0_hasRunner 11 = .ok (.getfield 9, 3) := by decide +kernel
theorem dX0_hasRunner_14 : decode cX0_hasRunner 14 = .ok (.iload_n 1, 1) := by decide +kernel
theorem dX0_hasRunner_15 : decode cX0_hasRunner 15 = .ok (.baload, 1) := by decide +kernel
theorem dX0_hasRunner_16 : decode cX0_hasRunner 16 = .ok (.ifCond .eq 7, 3) := by decide +kernel
theorem dX0_hasRunner_19 : decode cX0_hasRunner 19 = .ok (.iconst 1, 1) := by decide +kernel
theorem dX0_hasRunner_20 : decode cX0_hasRunner 20 = .ok (.goto 4, 3) := by decide +kernel
theorem dX0_hasRunner_23 : decode cX0_hasRunner 23 = .ok (.iconst 0, 1) := by decide +kernel
theorem dX0_hasRunner_24 : decode cX0_hasRunner 24 = .ok (.ireturn, 1) := by decide +kernel
set_option maxRecDepth 20000 in
theorem ggX0_canTie_X0_hasRunner : GoodIn wsX0_canTie wsX0_hasRunner := goodIn_r _ [5, 6, 7, 8, 9, 10, 11, 12, 13] (by decide +kernel) (by decide +kernel)
set_option maxRecDepth 20000 in
theorem gX0_canTie_X0_hasRunner : GoodIn wsX0_canTie (wsV RX0 35 RX0 yX0_hasRunner wsX0_hasRunner) := goodIn_app (goodIn_of _ (by decide +kernel)) ggX0_canTie_X0_hasRunner
theorem dX0_canTie_0 : decode cX0_canTie 0 = .ok (.iload_n 1, 1) := by decide +kernel
theorem dX0_canTie_1 : decode cX0_canTie 1 = .ok (.iload_n 2, 1) := by decide +kernel
theorem dX0_canTie_2 : decode cX0_canTie 2 = .ok (.if_icmp .eq 23, 3) := by decide +kernel
theorem dX0_canTie_5 : decode cX0_canTie 5 = .ok (.aload_n 0, 1) := by decide +kernel
theorem dX0_canTie_6 : decode cX0_canTie 6 = .ok (.iload_n 1, 1) := by decide +kernel
theorem dX0_canTie_7 : decode cX0_canTie 7 = .ok (.invokevirtual 35, 3) := by decide +kernel
theorem dX0_canTie_10 : decode cX0_canTie 10 = .ok (.ifCond .eq 15, 3) := by decide +kernel
theorem dX0_canTie_13 : decode cX0_canTie 13 = .ok (.aload_n 0, 1) := by decide +kernel
theorem dX0_canTie_14 : decode cX0_canTie 14 = .ok (.iload_n 2, 1) := by decide +kernel
theorem dX0_canTie_15 : decode cX0_canTie 15 = .ok (.invokevirtual 35, 3) := by decide +kernel
theorem dX0_canTie_18 : decode cX0_canTie 18 = .ok (.ifCond .eq 7, 3) := by decide +kernel
theorem dX0_canTie_21 : decode cX0_canTie 21 = .ok (.iconst 1, 1) := by decide +kernel
theorem dX0_canTie_22 : decode cX0_canTie 22 = .ok (.goto 4, 3) := by decide +kernel
theorem dX0_canTie_25 : decode cX0_canTie 25 = .ok (.iconst 0, 1) := by decide +kernel
theorem dX0_canTie_26 : decode cX0_canTie 26 = .ok (.ireturn, 1) := by decide +kernel
theorem dX0_enter_0 : decode cX0_enter 0 = .ok (.iload_n 1, 1) := by decide +kernel
theorem dX0_enter_1 : decode cX0_enter 1 = .ok (.ifCond .lt 38, 3) := by decide +kernel
theorem dX0_enter_4 : decode cX0_enter 4 = .ok (.iload_n 1, 1) := by decide +kernel
theorem dX0_enter_5 : decode cX0_enter 5 = .ok (.bipush 8, 2) := by decide +kernel
theorem dX0_enter_7 : decode cX0_enter 7 = .ok (.if_icmp .ge 32, 3) := by decide +kernel
theorem dX0_enter_10 : decode cX0_enter 10 = .ok (.aload_n 0, 1) := by decide +kernel
theorem dX0_enter_11 : decode cX0_enter 11 = .ok (.getfield 9, 3) := by decide +kernel
theorem dX0_enter_14 : decode cX0_enter 14 = .ok (.iload_n 1, 1) := by decide +kernel
theorem dX0_enter_15 : decode cX0_enter 15 = .ok (.iconst 1, 1) := by decide +kernel
theorem dX0_enter_16 : decode cX0_enter 16 = .ok (.bastore, 1) := by decide +kernel
theorem dX0_enter_17 : decode cX0_enter 17 = .ok (.aload_n 0, 1) := by decide +kernel
theorem dX0_enter_18 : decode cX0_enter 18 = .ok (.getfield 15, 3) := by decide +kernel
theorem dX0_enter_21 : decode cX0_enter 21 = .ok (.iload_n 1, 1) := by decide +kernel
theorem dX0_enter_22 : decode cX0_enter 22 = .ok (.iload_n 2, 1) := by decide +kernel
theorem dX0_enter_23 : decode cX0_enter 23 = .ok (.iastore, 1) := by decide +kernel
theorem dX0_enter_24 : decode cX0_enter 24 = .ok (.aload_n 0, 1) := by decide +kernel
theorem dX0_enter_25 : decode cX0_enter 25 = .ok (.getfield 19, 3) := by decide +kernel
theorem dX0_enter_28 : decode cX0_enter 28 = .ok (.iload_n 1, 1) := by decide +kernel
theorem dX0_enter_29 : decode cX0_enter 29 = .ok (.iload_n 3, 1) := by decide +kernel
theorem dX0_enter_30 : decode cX0_enter 30 = .ok (.iastore, 1) := by decide +kernel
theorem dX0_enter_31 : decode cX0_enter 31 = .ok (.aload_n 0, 1) := by decide +kernel
theorem dX0_enter_32 : decode cX0_enter 32 = .ok (.getfield 22, 3) := by decide +kernel
theorem dX0_enter_35 : decode cX0_enter 35 = .ok (.iload_n 1, 1) := by decide +kernel
theorem dX0_enter_36 : decode cX0_enter 36 = .ok (.iload 4, 2) := by decide +kernel
theorem dX0_enter_38 : decode cX0_enter 38 = .ok (.iastore, 1) := by decide +kernel
theorem dX0_enter_39 : decode cX0_enter 39 = .ok (.return_, 1) := by decide +kernel
set_option maxRecDepth 20000 in
theorem ggX0_leave_X0_hasRunner : GoodIn wsX0_leave wsX0_hasRunner := goodIn_r _ [6, 1, 7, 8, 9, 10, 11, 12, 13] (by decide +kernel) (by decide +kernel)
set_option maxRecDepth 20000 in
theorem gX0_leave_X0_hasRunner : GoodIn wsX0_leave (wsV RX0 35 RX0 yX0_hasRunner wsX0_hasRunner) := goodIn_app (goodIn_of _ (by decide +kernel)) ggX0_leave_X0_hasRunner
theorem dX0_leave_0 : decode cX0_leave 0 = .ok (.aload_n 0, 1) := by decide +kernel
theorem dX0_leave_1 : decode cX0_leave 1 = .ok (.iload_n 1, 1) := by decide +kernel
theorem dX0_leave_2 : decode cX0_leave 2 = .ok (.invokevirtual 35, 3) := by decide +kernel
theorem dX0_leave_5 : decode cX0_leave 5 = .ok (.ifCond .eq 10, 3) := by decide +kernel
theorem dX0_leave_8 : decode cX0_leave 8 = .ok (.aload_n 0, 1) := by decide +kernel
theorem dX0_leave_9 : decode cX0_leave 9 = .ok (.getfield 9, 3) := by decide +kernel
theorem dX0_leave_12 : decode cX0_leave 12 = .ok (.iload_n 1, 1) := by decide +kernel
theorem dX0_leave_13 : decode cX0_leave 13 = .ok (.iconst 0, 1) := by decide +kernel
theorem dX0_leave_14 : decode cX0_leave 14 = .ok (.bastore, 1) := by decide +kernel
theorem dX0_leave_15 : decode cX0_leave 15 = .ok (.return_, 1) := by decide +kernel
set_option maxRecDepth 20000 in
theorem ggX0_count_X0_bits : GoodIn wsX0_count wsX0_bits := goodIn_r _ [5, 6, 14, 15, 16, 17, 18, 19, 20] (by decide +kernel) (by decide +kernel)
set_option maxRecDepth 20000 in
theorem gX0_count_X0_bits : GoodIn wsX0_count (wsV RX0 39 RX0 yX0_bits wsX0_bits) := goodIn_app (goodIn_of _ (by decide +kernel)) ggX0_count_X0_bits
set_option maxRecDepth 20000 in
theorem ggX0_count_J6_bitCount_0f7a4 : GoodIn wsX0_count wsJ6_bitCount_0f7a4 := goodIn_r _ [10, 11, 12, 13] (by decide +kernel) (by decide +kernel)
set_option maxRecDepth 20000 in
theorem gX0_count_J6_bitCount_0f7a4 : GoodIn wsX0_count (va_wsS RX0 43 yJ6_bitCount_0f7a4 wsJ6_bitCount_0f7a4) := goodIn_app (goodIn_of _ (by decide +kernel)) ggX0_count_J6_bitCount_0f7a4
theorem dX0_count_0 : decode cX0_count 0 = .ok (.aload_n 0, 1) := by decide +kernel
theorem dX0_count_1 : decode cX0_count 1 = .ok (.invokevirtual 39, 3) := by decide +kernel
theorem dX0_count_4 : decode cX0_count 4 = .ok (.invokestatic 43, 3) := by decide +kernel
theorem dX0_count_7 : decode cX0_count 7 = .ok (.ireturn, 1) := by decide +kernel
theorem dX0_bits_0 : decode cX0_bits 0 = .ok (.iconst 0, 1) := by decide +kernel
theorem dX0_bits_1 : decode cX0_bits 1 = .ok (.istore_n 1, 1) := by decide +kernel
theorem dX0_bits_2 : decode cX0_bits 2 = .ok (.iconst 0, 1) := by decide +kernel
theorem dX0_bits_3 : decode cX0_bits 3 = .ok (.istore_n 2, 1) := by decide +kernel
theorem dX0_bits_4 : decode cX0_bits 4 = .ok (.iload_n 2, 1) := by decide +kernel
theorem dX0_bits_5 : decode cX0_bits 5 = .ok (.bipush 8, 2) := by decide +kernel
theorem dX0_bits_7 : decode cX0_bits 7 = .ok (.if_icmp .ge 28, 3) := by decide +kernel
theorem dX0_bits_10 : decode cX0_bits 10 = .ok (.iload_n 1, 1) := by decide +kernel
theorem dX0_bits_11 : decode cX0_bits 11 = .ok (.aload_n 0, 1) := by decide +kernel
theorem dX0_bits_12 : decode cX0_bits 12 = .ok (.getfield 9, 3) := by decide +kernel
theorem dX0_bits_15 : decode cX0_bits 15 = .ok (.iload_n 2, 1) := by decide +kernel
theorem dX0_bits_16 : decode cX0_bits 16 = .ok (.baload, 1) := by decide +kernel
theorem dX0_bits_17 : decode cX0_bits 17 = .ok (.ifCond .eq 9, 3) := by decide +kernel
theorem dX0_bits_20 : decode cX0_bits 20 = .ok (.iconst 1, 1) := by decide +kernel
theorem dX0_bits_21 : decode cX0_bits 21 = .ok (.iload_n 2, 1) := by decide +kernel
theorem dX0_bits_22 : decode cX0_bits 22 = .ok (.ishl, 1) := by decide +kernel
theorem dX0_bits_23 : decode cX0_bits 23 = .ok (.goto 4, 3) := by decide +kernel
theorem dX0_bits_26 : decode cX0_bits 26 = .ok (.iconst 0, 1) := by decide +kernel
theorem dX0_bits_27 : decode cX0_bits 27 = .ok (.ior, 1) := by decide +kernel
theorem dX0_bits_28 : decode cX0_bits 28 = .ok (.istore_n 1, 1) := by decide +kernel
theorem dX0_bits_29 : decode cX0_bits 29 = .ok (.iinc 2 1, 3) := by decide +kernel
theorem dX0_bits_32 : decode cX0_bits 32 = .ok (.goto (-28), 3) := by decide +kernel
theorem dX0_bits_35 : decode cX0_bits 35 = .ok (.iload_n 1, 1) := by decide +kernel
theorem dX0_bits_36 : decode cX0_bits 36 = .ok (.ireturn, 1) := by decide +kernel
theorem dX0_copyFrom_0 : decode cX0_copyFrom 0 = .ok (.iconst 0, 1) := by decide +kernel
theorem dX0_copyFrom_1 : decode cX0_copyFrom 1 = .ok (.istore_n 2, 1) := by decide +kernel
theorem dX0_copyFrom_2 : decode cX0_copyFrom 2 = .ok (.iload_n 2, 1) := by decide +kernel
theorem dX0_copyFrom_3 : decode cX0_copyFrom 3 = .ok (.bipush 8, 2) := by decide +kernel
theorem dX0_copyFrom_5 : decode cX0_copyFrom 5 = .ok (.if_icmp .ge 57, 3) := by decide +kernel
theorem dX0_copyFrom_8 : decode cX0_copyFrom 8 = .ok (.aload_n 0, 1) := by decide +kernel
theorem dX0_copyFrom_9 : decode cX0_copyFrom 9 = .ok (.getfield 9, 3) := by decide +kernel
theorem dX0_copyFrom_12 : decode cX0_copyFrom 12 = .ok (.iload_n 2, 1) := by decide +kernel
theorem dX0_copyFrom_13 : decode cX0_copyFrom 13 = .ok (.aload_n 1, 1) := by decide +kernel
theorem dX0_copyFrom_14 : decode cX0_copyFrom 14 = .ok (.getfield 9, 3) := by decide +kernel
theorem dX0_copyFrom_17 : decode cX0_copyFrom 17 = .ok (.iload_n 2, 1) := by decide +kernel
theorem dX0_copyFrom_18 : decode cX0_copyFrom 18 = .ok (.baload, 1) := by decide +kernel
theorem dX0_copyFrom_19 : decode cX0_copyFrom 19 = .ok (.bastore, 1) := by decide +kernel
theorem dX0_copyFrom_20 : decode cX0_copyFrom 20 = .ok (.aload_n 0, 1) := by decide +kernel
theorem dX0_copyFrom_21 : decode cX0_copyFrom 21 = .ok (.getfield 15, 3) := by decide +kernel
theorem dX0_copyFrom_24 : decode cX0_copyFrom 24 = .ok (.iload_n 2, 1) := by decide +kernel
theorem dX0_copyFrom_25 : decode cX0_copyFrom 25 = .ok (.aload_n 1, 1) := by decide +kernel
theorem dX0_copyFrom_26 : decode cX0_copyFrom 26 = .ok (.getfield 15, 3) := by decide +kernel
theorem dX0_copyFrom_29 : decode cX0_copyFrom 29 = .ok (.iload_n 2, 1) := by decide +kernel
theorem dX0_copyFrom_30 : decode cX0_copyFrom 30 = .ok (.iaload, 1) := by decide +kernel
theorem dX0_copyFrom_31 : decode cX0_copyFrom 31 = .ok (.iastore, 1) := by decide +kernel
theorem dX0_copyFrom_32 : decode cX0_copyFrom 32 = .ok (.aload_n 0, 1) := by decide +kernel
theorem dX0_copyFrom_33 : decode cX0_copyFrom 33 = .ok (.getfield 19, 3) := by decide +kernel
theorem dX0_copyFrom_36 : decode cX0_copyFrom 36 = .ok (.iload_n 2, 1) := by decide +kernel
theorem dX0_copyFrom_37 : decode cX0_copyFrom 37 = .ok (.aload_n 1, 1) := by decide +kernel
theorem dX0_copyFrom_38 : decode cX0_copyFrom 38 = .ok (.getfield 19, 3) := by decide +kernel
theorem dX0_copyFrom_41 : decode cX0_copyFrom 41 = .ok (.iload_n 2, 1) := by decide +kernel
theorem dX0_copyFrom_42 : decode cX0_copyFrom 42 = .ok (.iaload, 1) := by decide +kernel
theorem dX0_copyFrom_43 : decode cX0_copyFrom 43 = .ok (.iastore, 1) := by decide +kernel
theorem dX0_copyFrom_44 : decode cX0_copyFrom 44 = .ok (.aload_n 0, 1) := by decide +kernel
theorem dX0_copyFrom_45 : decode cX0_copyFrom 45 = .ok (.getfield 22, 3) := by decide +kernel
theorem dX0_copyFrom_48 : decode cX0_copyFrom 48 = .ok (.iload_n 2, 1) := by decide +kernel
theorem dX0_copyFrom_49 : decode cX0_copyFrom 49 = .ok (.aload_n 1, 1) := by decide +kernel
theorem dX0_copyFrom_50 : decode cX0_copyFrom 50 = .ok (.getfield 22, 3) := by decide +kernel
theorem dX0_copyFrom_53 : decode cX0_copyFrom 53 = .ok (.iload_n 2, 1) := by decide +kernel
theorem dX0_copyFrom_54 : decode cX0_copyFrom 54 = .ok (.iaload, 1) := by decide +kernel
theorem dX0_copyFrom_55 : decode cX0_copyFrom 55 = .ok (.iastore, 1) := by decide +kernel
theorem dX0_copyFrom_56 : decode cX0_copyFrom 56 = .ok (.iinc 2 1, 3) := by decide +kernel
theorem dX0_copyFrom_59 : decode cX0_copyFrom 59 = .ok (.goto (-57), 3) := by decide +kernel
theorem dX0_copyFrom_62 : decode cX0_copyFrom 62 = .ok (.aload_n 0, 1) := by decide +kernel
theorem dX0_copyFrom_63 : decode cX0_copyFrom 63 = .ok (.aload_n 1, 1) := by decide +kernel
theorem dX0_copyFrom_64 : decode cX0_copyFrom 64 = .ok (.getfield 25, 3) := by decide +kernel
theorem dX0_copyFrom_67 : decode cX0_copyFrom 67 = .ok (.putfield 25, 3) := by decide +kernel
theorem dX0_copyFrom_70 : decode cX0_copyFrom 70 = .ok (.aload_n 0, 1) := by decide +kernel
theorem dX0_copyFrom_71 : decode cX0_copyFrom 71 = .ok (.aload_n 1, 1) := by decide +kernel
theorem dX0_copyFrom_72 : decode cX0_copyFrom 72 = .ok (.getfield 29, 3) := by decide +kernel
theorem dX0_copyFrom_75 : decode cX0_copyFrom 75 = .ok (.putfield 29, 3) := by decide +kernel
theorem dX0_copyFrom_78 : decode cX0_copyFrom 78 = .ok (.aload_n 0, 1) := by decide +kernel
theorem dX0_copyFrom_79 : decode cX0_copyFrom 79 = .ok (.aload_n 1, 1) := by decide +kernel
theorem dX0_copyFrom_80 : decode cX0_copyFrom 80 = .ok (.getfield 32, 3) := by decide +kernel
theorem dX0_copyFrom_83 : decode cX0_copyFrom 83 = .ok (.putfield 32, 3) := by decide +kernel
theorem dX0_copyFrom_86 : decode cX0_copyFrom 86 = .ok (.return_, 1) := by decide +kernel
theorem dX1_init_0 : decode cX1_init 0 = .ok (.aload_n 0, 1) := by decide +kernel
theorem dX1_init_1 : decode cX1_init 1 = .ok (.invokespecial 3, 3) := by decide +kernel
theorem dX1_init_4 : decode cX1_init 4 = .ok (.aload_n 0, 1) := by decide +kernel
theorem dX1_init_5 : decode cX1_init 5 = .ok (.bipush 40, 2) := by decide +kernel
theorem dX1_init_7 : decode cX1_init 7 = .ok (.newarray .int, 2) := by decide +kernel
theorem dX1_init_9 : decode cX1_init 9 = .ok (.putfield 9, 3) := by decide +kernel
theorem dX1_init_12 : decode cX1_init 12 = .ok (.return_, 1) := by decide +kernel
theorem dX1_add_0 : decode cX1_add 0 = .ok (.aload_n 0, 1) := by decide +kernel
theorem dX1_add_1 : decode cX1_add 1 = .ok (.getfield 15, 3) := by decide +kernel
theorem dX1_add_4 : decode cX1_add 4 = .ok (.bipush 40, 2) := by decide +kernel
theorem dX1_add_6 : decode cX1_add 6 = .ok (.if_icmp .ge 23, 3) := by decide +kernel
theorem dX1_add_9 : decode cX1_add 9 = .ok (.aload_n 0, 1) := by decide +kernel
theorem dX1_add_10 : decode cX1_add 10 = .ok (.getfield 9, 3) := by decide +kernel
theorem dX1_add_13 : decode cX1_add 13 = .ok (.aload_n 0, 1) := by decide +kernel
theorem dX1_add_14 : decode cX1_add 14 = .ok (.getfield 15, 3) := by decide +kernel
theorem dX1_add_17 : decode cX1_add 17 = .ok (.iload_n 1, 1) := by decide +kernel
theorem dX1_add_18 : decode cX1_add 18 = .ok (.iastore, 1) := by decide +kernel
theorem dX1_add_19 : decode cX1_add 19 = .ok (.aload_n 0, 1) := by decide +kernel
theorem dX1_add_20 : decode cX1_add 20 = .ok (.dup, 1) := by decide +kernel
theorem dX1_add_21 : decode cX1_add 21 = .ok (.getfield 15, 3) := by decide +kernel
theorem dX1_add_24 : decode cX1_add 24 = .ok (.iconst 1, 1) := by decide +kernel
theorem dX1_add_25 : decode cX1_add 25 = .ok (.iadd, 1) := by decide +kernel
theorem dX1_add_26 : decode cX1_add 26 = .ok (.putfield 15, 3) := by decide +kernel
theorem dX1_add_29 : decode cX1_add 29 = .ok (.return_, 1) := by decide +kernel
theorem dX1_firstFault_0 : decode cX1_firstFault 0 = .ok (.iconst 0, 1) := by decide +kernel
theorem dX1_firstFault_1 : decode cX1_firstFault 1 = .ok (.istore_n 1, 1) := by decide +kernel
theorem dX1_firstFault_2 : decode cX1_firstFault 2 = .ok (.iload_n 1, 1) := by decide +kernel
theorem dX1_firstFault_3 : decode cX1_firstFault 3 = .ok (.aload_n 0, 1) := by decide +kernel
theorem dX1_firstFault_4 : decode cX1_firstFault 4 = .ok (.getfield 15, 3) := by decide +kernel
theorem dX1_firstFault_7 : decode cX1_firstFault 7 = .ok (.if_icmp .ge 42, 3) := by decide +kernel
theorem dX1_firstFault_10 : decode cX1_firstFault 10 = .ok (.aload_n 0, 1) := by decide +kernel
theorem dX1_firstFault_11 : decode cX1_firstFault 11 = .ok (.getfield 9, 3) := by decide +kernel
theorem dX1_firstFault_14 : decode cX1_firstFault 14 = .ok (.iload_n 1, 1) := by decide +kernel
theorem dX1_firstFault_15 : decode cX1_firstFault 15 = .ok (.iaload, 1) := by decide +kernel
theorem dX1_firstFault_16 : decode cX1_firstFault 16 = .ok (.istore_n 2, 1) := by decide +kernel
theorem dX1_firstFault_17 : decode cX1_firstFault 17 = .ok (.iload_n 2, 1) := by decide +kernel
theorem dX1_firstFault_18 : decode cX1_firstFault 18 = .ok (.bipush 115, 2) := by decide +kernel
theorem dX1_firstFault_20 : decode cX1_firstFault 20 = .ok (.if_icmp .eq 23, 3) := by decide +kernel
theorem dX1_firstFault_23 : decode cX1_firstFault 23 = .ok (.iload_n 2, 1) := by decide +kernel
theorem dX1_firstFault_24 : decode cX1_firstFault 24 = .ok (.bipush 108, 2) := by decide +kernel
theorem dX1_firstFault_26 : decode cX1_firstFault 26 = .ok (.if_icmp .eq 17, 3) := by decide +kernel
theorem dX1_firstFault_29 : decode cX1_firstFault 29 = .ok (.iload_n 2, 1) := by decide +kernel
theorem dX1_firstFault_30 : decode cX1_firstFault 30 = .ok (.bipush 102, 2) := by decide +kernel
theorem dX1_firstFault_32 : decode cX1_firstFault 32 = .ok (.if_icmp .eq 11, 3) := by decide +kernel
theorem dX1_firstFault_35 : decode cX1_firstFault 35 = .ok (.iload_n 2, 1) := by decide +kernel
theorem dX1_firstFault_36 : decode cX1_firstFault 36 = .ok (.bipush 63, 2) := by decide +kernel
theorem dX1_firstFault_38 : decode cX1_firstFault 38 = .ok (.if_icmp .eq 5, 3) := by decide +kernel
theorem dX1_firstFault_41 : decode cX1_firstFault 41 = .ok (.iload_n 1, 1) := by decide +kernel
theorem dX1_firstFault_42 : decode cX1_firstFault 42 = .ok (.ireturn, 1) := by decide +kernel
theorem dX1_firstFault_43 : decode cX1_firstFault 43 = .ok (.iinc 1 1, 3) := by decide +kernel
theorem dX1_firstFault_46 : decode cX1_firstFault 46 = .ok (.goto (-44), 3) := by decide +kernel
theorem dX1_firstFault_49 : decode cX1_firstFault 49 = .ok (.bipush (-6), 2) := by decide +kernel
theorem dX1_firstFault_51 : decode cX1_firstFault 51 = .ok (.ireturn, 1) := by decide +kernel
theorem dX1_canShow_0 : decode cX1_canShow 0 = .ok (.iload_n 1, 1) := by decide +kernel
theorem dX1_canShow_1 : decode cX1_canShow 1 = .ok (.ifCond .lt 36, 3) := by decide +kernel
theorem dX1_canShow_4 : decode cX1_canShow 4 = .ok (.iload_n 1, 1) := by decide +kernel
theorem dX1_canShow_5 : decode cX1_canShow 5 = .ok (.aload_n 0, 1) := by decide +kernel
theorem dX1_canShow_6 : decode cX1_canShow 6 = .ok (.getfield 15, 3) := by decide +kernel
theorem dX1_canShow_9 : decode cX1_canShow 9 = .ok (.if_icmp .ge 28, 3) := by decide +kernel
theorem dX1_canShow_12 : decode cX1_canShow 12 = .ok (.aload_n 0, 1) := by decide +kernel
theorem dX1_canShow_13 : decode cX1_canShow 13 = .ok (.getfield 9, 3) := by decide +kernel
theorem dX1_canShow_16 : decode cX1_canShow 16 = .ok (.iload_n 1, 1) := by decide +kernel
theorem dX1_canShow_17 : decode cX1_canShow 17 = .ok (.iaload, 1) := by decide +kernel
theorem dX1_canShow_18 : decode cX1_canShow 18 = .ok (.iload_n 2, 1) := by decide +kernel
theorem dX1_canShow_19 : decode cX1_canShow 19 = .ok (.if_icmp .eq 14, 3) := by decide +kernel
theorem dX1_canShow_22 : decode cX1_canShow 22 = .ok (.aload_n 0, 1) := by decide +kernel
theorem dX1_canShow_23 : decode cX1_canShow 23 = .ok (.getfield 9, 3) := by decide +kernel
theorem dX1_canShow_26 : decode cX1_canShow 26 = .ok (.iload_n 1, 1) := by decide +kernel
theorem dX1_canShow_27 : decode cX1_canShow 27 = .ok (.iaload, 1) := by decide +kernel
theorem dX1_canShow_28 : decode cX1_canShow 28 = .ok (.bipush 63, 2) := by decide +kernel
theorem dX1_canShow_30 : decode cX1_canShow 30 = .ok (.if_icmp .ne 7, 3) := by decide +kernel
theorem dX1_canShow_33 : decode cX1_canShow 33 = .ok (.iconst 1, 1) := by decide +kernel
theorem dX1_canShow_34 : decode cX1_canShow 34 = .ok (.goto 4, 3) := by decide +kernel
theorem dX1_canShow_37 : decode cX1_canShow 37 = .ok (.iconst 0, 1) := by decide +kernel
theorem dX1_canShow_38 : decode cX1_canShow 38 = .ok (.ireturn, 1) := by decide +kernel
theorem dX2_init_0 : decode cX2_init 0 = .ok (.aload_n 0, 1) := by decide +kernel
theorem dX2_init_1 : decode cX2_init 1 = .ok (.invokespecial 3, 3) := by decide +kernel
theorem dX2_init_4 : decode cX2_init 4 = .ok (.aload_n 0, 1) := by decide +kernel
theorem dX2_init_5 : decode cX2_init 5 = .ok (.iconst 4, 1) := by decide +kernel
theorem dX2_init_6 : decode cX2_init 6 = .ok (.newarray .int, 2) := by decide +kernel
theorem dX2_init_8 : decode cX2_init 8 = .ok (.putfield 11, 3) := by decide +kernel
theorem dX2_init_11 : decode cX2_init 11 = .ok (.aload_n 0, 1) := by decide +kernel
theorem dX2_init_12 : decode cX2_init 12 = .ok (.bipush 8, 2) := by decide +kernel
theorem dX2_init_14 : decode cX2_init 14 = .ok (.newarray .int, 2) := by decide +kernel
theorem dX2_init_16 : decode cX2_init 16 = .ok (.putfield 15, 3) := by decide +kernel
theorem dX2_init_19 : decode cX2_init 19 = .ok (.aload_n 0, 1) := by decide +kernel
theorem dX2_init_20 : decode cX2_init 20 = .ok (.bipush 8, 2) := by decide +kernel
theorem dX2_init_22 : decode cX2_init 22 = .ok (.newarray .int, 2) := by decide +kernel
theorem dX2_init_24 : decode cX2_init 24 = .ok (.putfield 18, 3) := by decide +kernel
theorem dX2_init_27 : decode cX2_init 27 = .ok (.aload_n 0, 1) := by decide +kernel
theorem dX2_init_28 : decode cX2_init 28 = .ok (.bipush 8, 2) := by decide +kernel
theorem dX2_init_30 : decode cX2_init 30 = .ok (.newarray .int, 2) := by decide +kernel
theorem dX2_init_32 : decode cX2_init 32 = .ok (.putfield 21, 3) := by decide +kernel
theorem dX2_init_35 : decode cX2_init 35 = .ok (.return_, 1) := by decide +kernel
set_option maxRecDepth 20000 in
theorem ggX2_seek_X0_count : GoodIn wsX2_seek wsX0_count := goodIn_r _ [15, 16, 17, 18, 14, 19, 20, 21, 22, 23, 24, 25, 26, 27, 61, 62, 63, 64, 65, 66, 67] (by decide +kernel) (by decide +kernel)
set_option maxRecDepth 20000 in
theorem gX2_seek_X0_count : GoodIn wsX2_seek (wsV RX2 24 RX0 yX0_count wsX0_count) := goodIn_app (goodIn_of _ (by decide +kernel)) ggX2_seek_X0_count
set_option maxRecDepth 20000 in
theorem ggX2_seek_X2_costOfPicks : GoodIn wsX2_seek wsX2_costOfPicks := goodIn_r _ [32, 2, 33, 5, 34, 35, 36, 37, 38, 39, 40, 41, 31, 42, 43, 44, 45, 14, 46, 20, 47, 48, 49, 50, 55, 56, 57, 58, 59, 60, 61, 62, 63, 64, 65, 66, 67] (by decide +kernel) (by decide +kernel)
set_option maxRecDepth 20000 in
theorem gX2_seek_X2_costOfPicks : GoodIn wsX2_seek (wsV RX2 40 RX2 yX2_costOfPicks wsX2_costOfPicks) := goodIn_app (goodIn_of _ (by decide +kernel)) ggX2_seek_X2_costOfPicks
set_option maxRecDepth 20000 in
theorem ggX2_seek_X2_goToNextPicks : GoodIn wsX2_seek wsX2_goToNextPicks := goodIn_r _ [54, 1, 2, 55, 56, 57, 58, 59, 60] (by decide +kernel) (by decide +kernel)
set_option maxRecDepth 20000 in
theorem gX2_seek_X2_goToNextPicks : GoodIn wsX2_seek (wsV RX2 50 RX2 yX2_goToNextPicks wsX2_goToNextPicks) := goodIn_app (goodIn_of _ (by decide +kernel)) ggX2_seek_X2_goToNextPicks
theorem dX2_seek_0 : decode cX2_seek 0 = .ok (.aload_n 0, 1) := by decide +kernel
theorem dX2_seek_1 : decode cX2_seek 1 = .ok (.aload_n 1, 1) := by decide +kernel
theorem dX2_seek_2 : decode cX2_seek 2 = .ok (.invokevirtual 24, 3) := by decide +kernel
theorem dX2_seek_5 : decode cX2_seek 5 = .ok (.putfield 30, 3) := by decide +kernel
theorem dX2_seek_8 : decode cX2_seek 8 = .ok (.iconst 0, 1) := by decide +kernel
theorem dX2_seek_9 : decode cX2_seek 9 = .ok (.istore 4, 2) := by decide +kernel
theorem dX2_seek_11 : decode cX2_seek 11 = .ok (.iload 4, 2) := by decide +kernel
theorem dX2_seek_13 : decode cX2_seek 13 = .ok (.iconst 4, 1) := by decide +kernel
theorem dX2_seek_14 : decode cX2_seek 14 = .ok (.if_icmp .ge 17, 3) := by decide +kernel
theorem dX2_seek_17 : decode cX2_seek 17 = .ok (.aload_n 0, 1) := by decide +kernel
theorem dX2_seek_18 : decode cX2_seek 18 = .ok (.getfield 11, 3) := by decide +kernel
theorem dX2_seek_21 : decode cX2_seek 21 = .ok (.iload 4, 2) := by decide +kernel
theorem dX2_seek_23 : decode cX2_seek 23 = .ok (.iconst 1, 1) := by decide +kernel
theorem dX2_seek_24 : decode cX2_seek 24 = .ok (.iastore, 1) := by decide +kernel
theorem dX2_seek_25 : decode cX2_seek 25 = .ok (.iinc 4 1, 3) := by decide +kernel
theorem dX2_seek_28 : decode cX2_seek 28 = .ok (.goto (-17), 3) := by decide +kernel
theorem dX2_seek_31 : decode cX2_seek 31 = .ok (.aload_n 0, 1) := by decide +kernel
theorem dX2_seek_32 : decode cX2_seek 32 = .ok (.ldc 36, 2) := by decide +kernel
theorem dX2_seek_34 : decode cX2_seek 34 = .ok (.putfield 37, 3) := by decide +kernel
theorem dX2_seek_37 : decode cX2_seek 37 = .ok (.iconst 1, 1) := by decide +kernel
theorem dX2_seek_38 : decode cX2_seek 38 = .ok (.istore 4, 2) := by decide +kernel
theorem dX2_seek_40 : decode cX2_seek 40 = .ok (.iconst 0, 1) := by decide +kernel
theorem dX2_seek_41 : decode cX2_seek 41 = .ok (.istore 5, 2) := by decide +kernel
theorem dX2_seek_43 : decode cX2_seek 43 = .ok (.iload 5, 2) := by decide +kernel
theorem dX2_seek_45 : decode cX2_seek 45 = .ok (.bipush 105, 2) := by decide +kernel
theorem dX2_seek_47 : decode cX2_seek 47 = .ok (.if_icmp .ge 59, 3) := by decide +kernel
theorem dX2_seek_50 : decode cX2_seek 50 = .ok (.iload 4, 2) := by decide +kernel
theorem dX2_seek_52 : decode cX2_seek 52 = .ok (.ifCond .eq 54, 3) := by decide +kernel
theorem dX2_seek_55 : decode cX2_seek 55 = .ok (.aload_n 0, 1) := by decide +kernel
theorem dX2_seek_56 : decode cX2_seek 56 = .ok (.aload_n 1, 1) := by decide +kernel
theorem dX2_seek_57 : decode cX2_seek 57 = .ok (.aload_n 2, 1) := by decide +kernel
theorem dX2_seek_58 : decode cX2_seek 58 = .ok (.iload_n 3, 1) := by decide +kernel
theorem dX2_seek_59 : decode cX2_seek 59 = .ok (.invokevirtual 40, 3) := by decide +kernel
theorem dX2_seek_62 : decode cX2_seek 62 = .ok (.istore 6, 2) := by decide +kernel
theorem dX2_seek_64 : decode cX2_seek 64 = .ok (.iload 6, 2) := by decide +kernel
theorem dX2_seek_66 : decode cX2_seek 66 = .ok (.aload_n 0, 1) := by decide +kernel
theorem dX2_seek_67 : decode cX2_seek 67 = .ok (.getfield 37, 3) := by decide +kernel
theorem dX2_seek_70 : decode cX2_seek 70 = .ok (.if_icmp .ge 24, 3) := by decide +kernel
theorem dX2_seek_73 : decode cX2_seek 73 = .ok (.aload_n 0, 1) := by decide +kernel
theorem dX2_seek_74 : decode cX2_seek 74 = .ok (.iload 6, 2) := by decide +kernel
theorem dX2_seek_76 : decode cX2_seek 76 = .ok (.putfield 37, 3) := by decide +kernel
theorem dX2_seek_79 : decode cX2_seek 79 = .ok (.aload_n 0, 1) := by decide +kernel
theorem dX2_seek_80 : decode cX2_seek 80 = .ok (.getfield 18, 3) := by decide +kernel
theorem dX2_seek_83 : decode cX2_seek 83 = .ok (.iconst 0, 1) := by decide +kernel
theorem dX2_seek_84 : decode cX2_seek 84 = .ok (.aload_n 0, 1) := by decide +kernel
theorem dX2_seek_85 : decode cX2_seek 85 = .ok (.getfield 21, 3) := by decide +kernel
theorem dX2_seek_88 : decode cX2_seek 88 = .ok (.iconst 0, 1) := by decide +kernel
theorem dX2_seek_89 : decode cX2_seek 89 = .ok (.bipush 8, 2) := by decide +kernel
theorem dX2_seek_91 : decode cX2_seek 91 = .ok (.invokestatic 44, 3) := by decide +kernel
theorem dX2_seek_94 : decode cX2_seek 94 = .ok (.aload_n 0, 1) := by decide +kernel
theorem dX2_seek_95 : decode cX2_seek 95 = .ok (.invokevirtual 50, 3) := by decide +kernel
theorem dX2_seek_98 : decode cX2_seek 98 = .ok (.istore 4, 2) := by decide +kernel
theorem dX2_seek_100 : decode cX2_seek 100 = .ok (.iinc 5 1, 3) := by decide +kernel
theorem dX2_seek_103 : decode cX2_seek 103 = .ok (.goto (-60), 3) := by decide +kernel
theorem dX2_seek_106 : decode cX2_seek 106 = .ok (.return_, 1) := by decide +kernel
theorem dX2_goToNextPicks_0 : decode cX2_goToNextPicks 0 = .ok (.aload_n 0, 1) := by decide +kernel
theorem dX2_goToNextPicks_1 : decode cX2_goToNextPicks 1 = .ok (.getfield 30, 3) := by decide +kernel
theorem dX2_goToNextPicks_4 : decode cX2_goToNextPicks 4 = .ok (.iconst 2, 1) := by decide +kernel
theorem dX2_goToNextPicks_5 : decode cX2_goToNextPicks 5 = .ok (.idiv, 1) := by decide +kernel
theorem dX2_goToNextPicks_6 : decode cX2_goToNextPicks 6 = .ok (.iconst 1, 1) := by decide +kernel
theorem dX2_goToNextPicks_7 : decode cX2_goToNextPicks 7 = .ok (.isub, 1) := by decide +kernel
theorem dX2_goToNextPicks_8 : decode cX2_goToNextPicks 8 = .ok (.istore_n 1, 1) := by decide +kernel
theorem dX2_goToNextPicks_9 : decode cX2_goToNextPicks 9 = .ok (.iload_n 1, 1) := by decide +kernel
theorem dX2_goToNextPicks_10 : decode cX2_goToNextPicks 10 = .ok (.ifCond .lt 47, 3) := by decide +kernel
theorem dX2_goToNextPicks_13 : decode cX2_goToNextPicks 13 = .ok (.aload_n 0, 1) := by decide +kernel
theorem dX2_goToNextPicks_14 : decode cX2_goToNextPicks 14 = .ok (.getfield 11, 3) := by decide +kernel
theorem dX2_goToNextPicks_17 : decode cX2_goToNextPicks 17 = .ok (.iload_n 1, 1) := by decide +kernel
theorem dX2_goToNextPicks_18 : decode cX2_goToNextPicks 18 = .ok (.iaload, 1) := by decide +kernel
theorem dX2_goToNextPicks_19 : decode cX2_goToNextPicks 19 = .ok (.aload_n 0, 1) := by decide +kernel
theorem dX2_goToNextPicks_20 : decode cX2_goToNextPicks 20 = .ok (.getfield 30, 3) := by decide +kernel
theorem dX2_goToNextPicks_23 : decode cX2_goToNextPicks 23 = .ok (.iconst 2, 1) := by decide +kernel
theorem dX2_goToNextPicks_24 : decode cX2_goToNextPicks 24 = .ok (.iload_n 1, 1) := by decide +kernel
theorem dX2_goToNextPicks_25 : decode cX2_goToNextPicks 25 = .ok (.imul, 1) := by decide +kernel
theorem dX2_goToNextPicks_26 : decode cX2_goToNextPicks 26 = .ok (.isub, 1) := by decide +kernel
theorem dX2_goToNextPicks_27 : decode cX2_goToNextPicks 27 = .ok (.iconst 1, 1) := by decide +kernel
theorem dX2_goToNextPicks_28 : decode cX2_goToNextPicks 28 = .ok (.isub, 1) := by decide +kernel
theorem dX2_goToNextPicks_29 : decode cX2_goToNextPicks 29 = .ok (.if_icmp .ge 15, 3) := by decide +kernel
theorem dX2_goToNextPicks_32 : decode cX2_goToNextPicks 32 = .ok (.aload_n 0, 1) := by decide +kernel
theorem dX2_goToNextPicks_33 : decode cX2_goToNextPicks 33 = .ok (.getfield 11, 3) := by decide +kernel
theorem dX2_goToNextPicks_36 : decode cX2_goToNextPicks 36 = .ok (.iload_n 1, 1) := by decide +kernel
theorem dX2_goToNextPicks_37 : decode cX2_goToNextPicks 37 = .ok (.dup2, 1) := by decide +kernel
theorem dX2_goToNextPicks_38 : decode cX2_goToNextPicks 38 = .ok (.iaload, 1) := by decide +kernel
theorem dX2_goToNextPicks_39 : decode cX2_goToNextPicks 39 = .ok (.iconst 1, 1) := by decide +kernel
theorem dX2_goToNextPicks_40 : decode cX2_goToNextPicks 40 = .ok (.iadd, 1) := by decide +kernel
theorem dX2_goToNextPicks_41 : decode cX2_goToNextPicks 41 = .ok (.iastore, 1) := by decide +kernel
theorem dX2_goToNextPicks_42 : decode cX2_goToNextPicks 42 = .ok (.iconst 1, 1) := by decide +kernel
theorem dX2_goToNextPicks_43 : decode cX2_goToNextPicks 43 = .ok (.ireturn, 1) := by decide +kernel
theorem dX2_goToNextPicks_44 : decode cX2_goToNextPicks 44 = .ok (.aload_n 0, 1) := by decide +kernel
theorem dX2_goToNextPicks_45 : decode cX2_goToNextPicks 45 = .ok (.getfield 11, 3) := by decide +kernel
theorem dX2_goToNextPicks_48 : decode cX2_goToNextPicks 48 = .ok (.iload_n 1, 1) := by decide +kernel
theorem dX2_goToNextPicks_49 : decode cX2_goToNextPicks 49 = .ok (.iconst 1, 1) := by decide +kernel
theorem dX2_goToNextPicks_50 : decode cX2_goToNextPicks 50 = .ok (.iastore, 1) := by decide +kernel
theorem dX2_goToNextPicks_51 : decode cX2_goToNextPicks 51 = .ok (.iinc 1 (-1), 3) := by decide +kernel
theorem dX2_goToNextPicks_54 : decode cX2_goToNextPicks 54 = .ok (.goto (-45), 3) := by decide +kernel
theorem dX2_goToNextPicks_57 : decode cX2_goToNextPicks 57 = .ok (.iconst 0, 1) := by decide +kernel
theorem dX2_goToNextPicks_58 : decode cX2_goToNextPicks 58 = .ok (.ireturn, 1) := by decide +kernel
set_option maxRecDepth 20000 in
theorem ggX2_costOfPicks_X2_lineUp : GoodIn wsX2_costOfPicks wsX2_lineUp := goodIn_r _ [13, 2, 14, 15, 16, 17, 18, 19, 24, 25, 26, 27, 28, 29, 30, 31, 32, 33, 34, 35, 36] (by decide +kernel) (by decide +kernel)
set_option maxRecDepth 20000 in
theorem gX2_costOfPicks_X2_lineUp : GoodIn wsX2_costOfPicks (wsV RX2 54 RX2 yX2_lineUp wsX2_lineUp) := goodIn_app (goodIn_of _ (by decide +kernel)) ggX2_costOfPicks_X2_lineUp
set_option maxRecDepth 20000 in
theorem ggX2_costOfPicks_X2_takeOut : GoodIn wsX2_costOfPicks wsX2_takeOut := goodIn_r _ [23, 2, 24, 25, 26, 27, 28, 29] (by decide +kernel) (by decide +kernel)
set_option maxRecDepth 20000 in
theorem gX2_costOfPicks_X2_takeOut : GoodIn wsX2_costOfPicks (wsV RX2 65 RX2 yX2_takeOut wsX2_takeOut) := goodIn_app (goodIn_of _ (by decide +kernel)) ggX2_costOfPicks_X2_takeOut
theorem dX2_costOfPicks_0 : decode cX2_costOfPicks 0 = .ok (.aload_n 0, 1) := by decide +kernel
theorem dX2_costOfPicks_1 : decode cX2_costOfPicks 1 = .ok (.aload_n 1, 1) := by decide +kernel
theorem dX2_costOfPicks_2 : decode cX2_costOfPicks 2 = .ok (.invokevirtual 54, 3) := by decide +kernel
theorem dX2_costOfPicks_5 : decode cX2_costOfPicks 5 = .ok (.istore 4, 2) := by decide +kernel
theorem dX2_costOfPicks_7 : decode cX2_costOfPicks 7 = .ok (.iconst 0, 1) := by decide +kernel
theorem dX2_costOfPicks_8 : decode cX2_costOfPicks 8 = .ok (.istore 5, 2) := by decide +kernel
theorem dX2_costOfPicks_10 : decode cX2_costOfPicks 10 = .ok (.iconst 0, 1) := by decide +kernel
theorem dX2_costOfPicks_11 : decode cX2_costOfPicks 11 = .ok (.istore 6, 2) := by decide +kernel
theorem dX2_costOfPicks_13 : decode cX2_costOfPicks 13 = .ok (.iload 6, 2) := by decide +kernel
theorem dX2_costOfPicks_15 : decode cX2_costOfPicks 15 = .ok (.iconst 4, 1) := by decide +kernel
theorem dX2_costOfPicks_16 : decode cX2_costOfPicks 16 = .ok (.if_icmp .ge 135, 3) := by decide +kernel
theorem dX2_costOfPicks_19 : decode cX2_costOfPicks 19 = .ok (.aload_n 0, 1) := by decide +kernel
theorem dX2_costOfPicks_20 : decode cX2_costOfPicks 20 = .ok (.getfield 11, 3) := by decide +kernel
theorem dX2_costOfPicks_23 : decode cX2_costOfPicks 23 = .ok (.iload 6, 2) := by decide +kernel
theorem dX2_costOfPicks_25 : decode cX2_costOfPicks 25 = .ok (.iaload, 1) := by decide +kernel
theorem dX2_costOfPicks_26 : decode cX2_costOfPicks 26 = .ok (.iload 4, 2) := by decide +kernel
theorem dX2_costOfPicks_28 : decode cX2_costOfPicks 28 = .ok (.if_icmp .ge 123, 3) := by decide +kernel
theorem dX2_costOfPicks_31 : decode cX2_costOfPicks 31 = .ok (.aload_n 0, 1) := by decide +kernel
theorem dX2_costOfPicks_32 : decode cX2_costOfPicks 32 = .ok (.getfield 15, 3) := by decide +kernel
theorem dX2_costOfPicks_35 : decode cX2_costOfPicks 35 = .ok (.iconst 0, 1) := by decide +kernel
theorem dX2_costOfPicks_36 : decode cX2_costOfPicks 36 = .ok (.iaload, 1) := by decide +kernel
theorem dX2_costOfPicks_37 : decode cX2_costOfPicks 37 = .ok (.istore 7, 2) := by decide +kernel
theorem dX2_costOfPicks_39 : decode cX2_costOfPicks 39 = .ok (.aload_n 0, 1) := by decide +kernel
theorem dX2_costOfPicks_40 : decode cX2_costOfPicks 40 = .ok (.getfield 15, 3) := by decide +kernel
theorem dX2_costOfPicks_43 : decode cX2_costOfPicks 43 = .ok (.aload_n 0, 1) := by decide +kernel
theorem dX2_costOfPicks_44 : decode cX2_costOfPicks 44 = .ok (.getfield 11, 3) := by decide +kernel
theorem dX2_costOfPicks_47 : decode cX2_costOfPicks 47 = .ok (.iload 6, 2) := by decide +kernel
theorem dX2_costOfPicks_49 : decode cX2_costOfPicks 49 = .ok (.iaload, 1) := by decide +kernel
theorem dX2_costOfPicks_50 : decode cX2_costOfPicks 50 = .ok (.iaload, 1) := by decide +kernel
theorem dX2_costOfPicks_51 : decode cX2_costOfPicks 51 = .ok (.istore 8, 2) := by decide +kernel
theorem dX2_costOfPicks_53 : decode cX2_costOfPicks 53 = .ok (.aload_n 0, 1) := by decide +kernel
theorem dX2_costOfPicks_54 : decode cX2_costOfPicks 54 = .ok (.getfield 18, 3) := by decide +kernel
theorem dX2_costOfPicks_57 : decode cX2_costOfPicks 57 = .ok (.iload 7, 2) := by decide +kernel
theorem dX2_costOfPicks_59 : decode cX2_costOfPicks 59 = .ok (.iload 8, 2) := by decide +kernel
theorem dX2_costOfPicks_61 : decode cX2_costOfPicks 61 = .ok (.iastore, 1) := by decide +kernel
theorem dX2_costOfPicks_62 : decode cX2_costOfPicks 62 = .ok (.aload_n 0, 1) := by decide +kernel
theorem dX2_costOfPicks_63 : decode cX2_costOfPicks 63 = .ok (.getfield 18, 3) := by decide +kernel
theorem dX2_costOfPicks_66 : decode cX2_costOfPicks 66 = .ok (.iload 8, 2) := by decide +kernel
theorem dX2_costOfPicks_68 : decode cX2_costOfPicks 68 = .ok (.iload 7, 2) := by decide +kernel
theorem dX2_costOfPicks_70 : decode cX2_costOfPicks 70 = .ok (.iastore, 1) := by decide +kernel
theorem dX2_costOfPicks_71 : decode cX2_costOfPicks 71 = .ok (.aload_n 2, 1) := by decide +kernel
theorem dX2_costOfPicks_72 : decode cX2_costOfPicks 72 = .ok (.bipush 8, 2) := by decide +kernel
theorem dX2_costOfPicks_74 : decode cX2_costOfPicks 74 = .ok (.iload 7, 2) := by decide +kernel
theorem dX2_costOfPicks_76 : decode cX2_costOfPicks 76 = .ok (.imul, 1) := by decide +kernel
theorem dX2_costOfPicks_77 : decode cX2_costOfPicks 77 = .ok (.iload 8, 2) := by decide +kernel
theorem dX2_costOfPicks_79 : decode cX2_costOfPicks 79 = .ok (.iadd, 1) := by decide +kernel
theorem dX2_costOfPicks_80 : decode cX2_costOfPicks 80 = .ok (.iaload, 1) := by decide +kernel
theorem dX2_costOfPicks_81 : decode cX2_costOfPicks 81 = .ok (.istore 9, 2) := by decide +kernel
theorem dX2_costOfPicks_83 : decode cX2_costOfPicks 83 = .ok (.iload 9, 2) := by decide +kernel
theorem dX2_costOfPicks_85 : decode cX2_costOfPicks 85 = .ok (.bipush (-6), 2) := by decide +kernel
theorem dX2_costOfPicks_87 : decode cX2_costOfPicks 87 = .ok (.if_icmp .ne 8, 3) := by decide +kernel
theorem dX2_costOfPicks_90 : decode cX2_costOfPicks 90 = .ok (.ldc 58, 2) := by decide +kernel
theorem dX2_costOfPicks_92 : decode cX2_costOfPicks 92 = .ok (.goto 5, 3) := by decide +kernel
theorem dX2_costOfPicks_95 : decode cX2_costOfPicks 95 = .ok (.iload 9, 2) := by decide +kernel
theorem dX2_costOfPicks_97 : decode cX2_costOfPicks 97 = .ok (.istore 10, 2) := by decide +kernel
theorem dX2_costOfPicks_99 : decode cX2_costOfPicks 99 = .ok (.iload_n 3, 1) := by decide +kernel
theorem dX2_costOfPicks_100 : decode cX2_costOfPicks 100 = .ok (.ifCond .eq 13, 3) := by decide +kernel
theorem dX2_costOfPicks_103 : decode cX2_costOfPicks 103 = .ok (.iload 5, 2) := by decide +kernel
theorem dX2_costOfPicks_105 : decode cX2_costOfPicks 105 = .ok (.iload 10, 2) := by decide +kernel
theorem dX2_costOfPicks_107 : decode cX2_costOfPicks 107 = .ok (.invokestatic 59, 3) := by decide +kernel
theorem dX2_costOfPicks_110 : decode cX2_costOfPicks 110 = .ok (.goto 8, 3) := by decide +kernel
theorem dX2_costOfPicks_113 : decode cX2_costOfPicks 113 = .ok (.iload 5, 2) := by decide +kernel
theorem dX2_costOfPicks_115 : decode cX2_costOfPicks 115 = .ok (.iload 10, 2) := by decide +kernel
theorem dX2_costOfPicks_117 : decode cX2_costOfPicks 117 = .ok (.iadd, 1) := by decide +kernel
theorem dX2_costOfPicks_118 : decode cX2_costOfPicks 118 = .ok (.istore 5, 2) := by decide +kernel
theorem dX2_costOfPicks_120 : decode cX2_costOfPicks 120 = .ok (.aload_n 0, 1) := by decide +kernel
theorem dX2_costOfPicks_121 : decode cX2_costOfPicks 121 = .ok (.aload_n 0, 1) := by decide +kernel
theorem dX2_costOfPicks_122 : decode cX2_costOfPicks 122 = .ok (.getfield 11, 3) := by decide +kernel
theorem dX2_costOfPicks_125 : decode cX2_costOfPicks 125 = .ok (.iload 6, 2) := by decide +kernel
theorem dX2_costOfPicks_127 : decode cX2_costOfPicks 127 = .ok (.iaload, 1) := by decide +kernel
theorem dX2_costOfPicks_128 : decode cX2_costOfPicks 128 = .ok (.iload 4, 2) := by decide +kernel
theorem dX2_costOfPicks_130 : decode cX2_costOfPicks 130 = .ok (.invokevirtual 65, 3) := by decide +kernel
theorem dX2_costOfPicks_133 : decode cX2_costOfPicks 133 = .ok (.aload_n 0, 1) := by decide +kernel
theorem dX2_costOfPicks_134 : decode cX2_costOfPicks 134 = .ok (.iconst 0, 1) := by decide +kernel
theorem dX2_costOfPicks_135 : decode cX2_costOfPicks 135 = .ok (.iload 4, 2) := by decide +kernel
theorem dX2_costOfPicks_137 : decode cX2_costOfPicks 137 = .ok (.iconst 1, 1) := by decide +kernel
theorem dX2_costOfPicks_138 : decode cX2_costOfPicks 138 = .ok (.isub, 1) := by decide +kernel
theorem dX2_costOfPicks_139 : decode cX2_costOfPicks 139 = .ok (.invokevirtual 65, 3) := by decide +kernel
theorem dX2_costOfPicks_142 : decode cX2_costOfPicks 142 = .ok (.iinc 4 (-2), 3) := by decide +kernel
theorem dX2_costOfPicks_145 : decode cX2_costOfPicks 145 = .ok (.iinc 6 1, 3) := by decide +kernel
theorem dX2_costOfPicks_148 : decode cX2_costOfPicks 148 = .ok (.goto (-135), 3) := by decide +kernel
theorem dX2_costOfPicks_151 : decode cX2_costOfPicks 151 = .ok (.iload 5, 2) := by decide +kernel
theorem dX2_costOfPicks_153 : decode cX2_costOfPicks 153 = .ok (.ireturn, 1) := by decide +kernel
set_option maxRecDepth 20000 in
theorem ggX2_lineUp_X0_hasRunner : GoodIn wsX2_lineUp wsX0_hasRunner := goodIn_r _ [6, 7, 14, 15, 16, 17, 18, 19, 20] (by decide +kernel) (by decide +kernel)
set_option maxRecDepth 20000 in
theorem gX2_lineUp_X0_hasRunner : GoodIn wsX2_lineUp (wsV RX2 69 RX0 yX0_hasRunner wsX0_hasRunner) := goodIn_app (goodIn_of _ (by decide +kernel)) ggX2_lineUp_X0_hasRunner
theorem dX2_lineUp_0 : decode cX2_lineUp 0 = .ok (.iconst 0, 1) := by decide +kernel
theorem dX2_lineUp_1 : decode cX2_lineUp 1 = .ok (.istore_n 2, 1) := by decide +kernel
theorem dX2_lineUp_2 : decode cX2_lineUp 2 = .ok (.iconst 0, 1) := by decide +kernel
theorem dX2_lineUp_3 : decode cX2_lineUp 3 = .ok (.istore_n 3, 1) := by decide +kernel
theorem dX2_lineUp_4 : decode cX2_lineUp 4 = .ok (.iload_n 3, 1) := by decide +kernel
theorem dX2_lineUp_5 : decode cX2_lineUp 5 = .ok (.bipush 8, 2) := by decide +kernel
theorem dX2_lineUp_7 : decode cX2_lineUp 7 = .ok (.if_icmp .ge 27, 3) := by decide +kernel
theorem dX2_lineUp_10 : decode cX2_lineUp 10 = .ok (.aload_n 1, 1) := by decide +kernel
theorem dX2_lineUp_11 : decode cX2_lineUp 11 = .ok (.iload_n 3, 1) := by decide +kernel
theorem dX2_lineUp_12 : decode cX2_lineUp 12 = .ok (.invokevirtual 69, 3) := by decide +kernel
theorem dX2_lineUp_15 : decode cX2_lineUp 15 = .ok (.ifCond .eq 13, 3) := by decide +kernel
theorem dX2_lineUp_18 : decode cX2_lineUp 18 = .ok (.aload_n 0, 1) := by decide +kernel
theorem dX2_lineUp_19 : decode cX2_lineUp 19 = .ok (.getfield 15, 3) := by decide +kernel
theorem dX2_lineUp_22 : decode cX2_lineUp 22 = .ok (.iload_n 2, 1) := by decide +kernel
theorem dX2_lineUp_23 : decode cX2_lineUp 23 = .ok (.iload_n 3, 1) := by decide +kernel
theorem dX2_lineUp_24 : decode cX2_lineUp 24 = .ok (.iastore, 1) := by decide +kernel
theorem dX2_lineUp_25 : decode cX2_lineUp 25 = .ok (.iinc 2 1, 3) := by decide +kernel
theorem dX2_lineUp_28 : decode cX2_lineUp 28 = .ok (.iinc 3 1, 3) := by decide +kernel
theorem dX2_lineUp_31 : decode cX2_lineUp 31 = .ok (.goto (-27), 3) := by decide +kernel
theorem dX2_lineUp_34 : decode cX2_lineUp 34 = .ok (.iload_n 2, 1) := by decide +kernel
theorem dX2_lineUp_35 : decode cX2_lineUp 35 = .ok (.ireturn, 1) := by decide +kernel
theorem dX2_takeOut_0 : decode cX2_takeOut 0 = .ok (.iload_n 1, 1) := by decide +kernel
theorem dX2_takeOut_1 : decode cX2_takeOut 1 = .ok (.istore_n 3, 1) := by decide +kernel
theorem dX2_takeOut_2 : decode cX2_takeOut 2 = .ok (.iload_n 3, 1) := by decide +kernel
theorem dX2_takeOut_3 : decode cX2_takeOut 3 = .ok (.iload_n 2, 1) := by decide +kernel
theorem dX2_takeOut_4 : decode cX2_takeOut 4 = .ok (.iconst 1, 1) := by decide +kernel
theorem dX2_takeOut_5 : decode cX2_takeOut 5 = .ok (.isub, 1) := by decide +kernel
theorem dX2_takeOut_6 : decode cX2_takeOut 6 = .ok (.if_icmp .ge 23, 3) := by decide +kernel
theorem dX2_takeOut_9 : decode cX2_takeOut 9 = .ok (.aload_n 0, 1) := by decide +kernel
theorem dX2_takeOut_10 : decode cX2_takeOut 10 = .ok (.getfield 15, 3) := by decide +kernel
theorem dX2_takeOut_13 : decode cX2_takeOut 13 = .ok (.iload_n 3, 1) := by decide +kernel
theorem dX2_takeOut_14 : decode cX2_takeOut 14 = .ok (.aload_n 0, 1) := by decide +kernel
theorem dX2_takeOut_15 : decode cX2_takeOut 15 = .ok (.getfield 15, 3) := by decide +kernel
theorem dX2_takeOut_18 : decode cX2_takeOut 18 = .ok (.iload_n 3, 1) := by decide +kernel
theorem dX2_takeOut_19 : decode cX2_takeOut 19 = .ok (.iconst 1, 1) := by decide +kernel
theorem dX2_takeOut_20 : decode cX2_takeOut 20 = .ok (.iadd, 1) := by decide +kernel
theorem dX2_takeOut_21 : decode cX2_takeOut 21 = .ok (.iaload, 1) := by decide +kernel
theorem dX2_takeOut_22 : decode cX2_takeOut 22 = .ok (.iastore, 1) := by decide +kernel
theorem dX2_takeOut_23 : decode cX2_takeOut 23 = .ok (.iinc 3 1, 3) := by decide +kernel
theorem dX2_takeOut_26 : decode cX2_takeOut 26 = .ok (.goto (-24), 3) := by decide +kernel
theorem dX2_takeOut_29 : decode cX2_takeOut 29 = .ok (.return_, 1) := by decide +kernel
theorem dX3_init_0 : decode cX3_init 0 = .ok (.aload_n 0, 1) := by decide +kernel
theorem dX3_init_1 : decode cX3_init 1 = .ok (.invokespecial 3, 3) := by decide +kernel
theorem dX3_init_4 : decode cX3_init 4 = .ok (.aload_n 0, 1) := by decide +kernel
theorem dX3_init_5 : decode cX3_init 5 = .ok (.bipush (-6), 2) := by decide +kernel
theorem dX3_init_7 : decode cX3_init 7 = .ok (.putfield 9, 3) := by decide +kernel
theorem dX3_init_10 : decode cX3_init 10 = .ok (.aload_n 0, 1) := by decide +kernel
theorem dX3_init_11 : decode cX3_init 11 = .ok (.bipush (-6), 2) := by decide +kernel
theorem dX3_init_13 : decode cX3_init 13 = .ok (.putfield 15, 3) := by decide +kernel
theorem dX3_init_16 : decode cX3_init 16 = .ok (.return_, 1) := by decide +kernel
theorem dX3_clear_0 : decode cX3_clear 0 = .ok (.aload_n 0, 1) := by decide +kernel
theorem dX3_clear_1 : decode cX3_clear 1 = .ok (.bipush (-6), 2) := by decide +kernel
theorem dX3_clear_3 : decode cX3_clear 3 = .ok (.putfield 9, 3) := by decide +kernel
theorem dX3_clear_6 : decode cX3_clear 6 = .ok (.aload_n 0, 1) := by decide +kernel
theorem dX3_clear_7 : decode cX3_clear 7 = .ok (.bipush (-6), 2) := by decide +kernel
theorem dX3_clear_9 : decode cX3_clear 9 = .ok (.putfield 15, 3) := by decide +kernel
theorem dX3_clear_12 : decode cX3_clear 12 = .ok (.return_, 1) := by decide +kernel
theorem dX3_offer_0 : decode cX3_offer 0 = .ok (.iload_n 2, 1) := by decide +kernel
theorem dX3_offer_1 : decode cX3_offer 1 = .ok (.bipush (-6), 2) := by decide +kernel
theorem dX3_offer_3 : decode cX3_offer 3 = .ok (.if_icmp .eq 30, 3) := by decide +kernel
theorem dX3_offer_6 : decode cX3_offer 6 = .ok (.aload_n 0, 1) := by decide +kernel
theorem dX3_offer_7 : decode cX3_offer 7 = .ok (.getfield 9, 3) := by decide +kernel
theorem dX3_offer_10 : decode cX3_offer 10 = .ok (.bipush (-6), 2) := by decide +kernel
theorem dX3_offer_12 : decode cX3_offer 12 = .ok (.if_icmp .eq 11, 3) := by decide +kernel
theorem dX3_offer_15 : decode cX3_offer 15 = .ok (.iload_n 2, 1) := by decide +kernel
theorem dX3_offer_16 : decode cX3_offer 16 = .ok (.aload_n 0, 1) := by decide +kernel
theorem dX3_offer_17 : decode cX3_offer 17 = .ok (.getfield 9, 3) := by decide +kernel
theorem dX3_offer_20 : decode cX3_offer 20 = .ok (.if_icmp .ge 13, 3) := by decide +kernel
theorem dX3_offer_23 : decode cX3_offer 23 = .ok (.aload_n 0, 1) := by decide +kernel
theorem dX3_offer_24 : decode cX3_offer 24 = .ok (.iload_n 2, 1) := by decide +kernel
theorem dX3_offer_25 : decode cX3_offer 25 = .ok (.putfield 9, 3) := by decide +kernel
theorem dX3_offer_28 : decode cX3_offer 28 = .ok (.aload_n 0, 1) := by decide +kernel
theorem dX3_offer_29 : decode cX3_offer 29 = .ok (.iload_n 1, 1) := by decide +kernel
theorem dX3_offer_30 : decode cX3_offer 30 = .ok (.putfield 15, 3) := by decide +kernel
theorem dX3_offer_33 : decode cX3_offer 33 = .ok (.return_, 1) := by decide +kernel
theorem dX3_answer_0 : decode cX3_answer 0 = .ok (.iload_n 1, 1) := by decide +kernel
theorem dX3_answer_1 : decode cX3_answer 1 = .ok (.ifCond .ne 10, 3) := by decide +kernel
theorem dX3_answer_4 : decode cX3_answer 4 = .ok (.aload_n 0, 1) := by decide +kernel
theorem dX3_answer_5 : decode cX3_answer 5 = .ok (.getfield 15, 3) := by decide +kernel
theorem dX3_answer_8 : decode cX3_answer 8 = .ok (.goto 7, 3) := by decide +kernel
theorem dX3_answer_11 : decode cX3_answer 11 = .ok (.aload_n 0, 1) := by decide +kernel
theorem dX3_answer_12 : decode cX3_answer 12 = .ok (.getfield 9, 3) := by decide +kernel
theorem dX3_answer_15 : decode cX3_answer 15 = .ok (.ireturn, 1) := by decide +kernel
theorem dX4_init_0 : decode cX4_init 0 = .ok (.aload_n 0, 1) := by decide +kernel
theorem dX4_init_1 : decode cX4_init 1 = .ok (.invokespecial 3, 3) := by decide +kernel
theorem dX4_init_4 : decode cX4_init 4 = .ok (.return_, 1) := by decide +kernel
set_option maxRecDepth 20000 in
theorem ggX4_tie_X0_canTie : GoodIn wsX4_tie wsX0_canTie := goodIn_r _ [29, 30, 31, 32, 28, 33, 34, 35, 36, 37, 38, 39, 40, 41] (by decide +kernel) (by decide +kernel)
set_option maxRecDepth 20000 in
theorem gX4_tie_X0_canTie : GoodIn wsX4_tie (wsV RX4 9 RX0 yX0_canTie wsX0_canTie) := goodIn_app (goodIn_of _ (by decide +kernel)) ggX4_tie_X0_canTie
theorem dX4_tie_0 : decode cX4_tie 0 = .ok (.aload_n 1, 1) := by decide +kernel
theorem dX4_tie_1 : decode cX4_tie 1 = .ok (.iload_n 2, 1) := by decide +kernel
theorem dX4_tie_2 : decode cX4_tie 2 = .ok (.iload_n 3, 1) := by decide +kernel
theorem dX4_tie_3 : decode cX4_tie 3 = .ok (.invokevirtual 9, 3) := by decide +kernel
theorem dX4_tie_6 : decode cX4_tie 6 = .ok (.ifCond .ne 4, 3) := by decide +kernel
theorem dX4_tie_9 : decode cX4_tie 9 = .ok (.return_, 1) := by decide +kernel
theorem dX4_tie_10 : decode cX4_tie 10 = .ok (.aload_n 0, 1) := by decide +kernel
theorem dX4_tie_11 : decode cX4_tie 11 = .ok (.aload_n 1, 1) := by decide +kernel
theorem dX4_tie_12 : decode cX4_tie 12 = .ok (.getfield 15, 3) := by decide +kernel
theorem dX4_tie_15 : decode cX4_tie 15 = .ok (.iload_n 2, 1) := by decide +kernel
theorem dX4_tie_16 : decode cX4_tie 16 = .ok (.iaload, 1) := by decide +kernel
theorem dX4_tie_17 : decode cX4_tie 17 = .ok (.putfield 19, 3) := by decide +kernel
theorem dX4_tie_20 : decode cX4_tie 20 = .ok (.aload_n 0, 1) := by decide +kernel
theorem dX4_tie_21 : decode cX4_tie 21 = .ok (.aload_n 1, 1) := by decide +kernel
theorem dX4_tie_22 : decode cX4_tie 22 = .ok (.getfield 15, 3) := by decide +kernel
theorem dX4_tie_25 : decode cX4_tie 25 = .ok (.iload_n 3, 1) := by decide +kernel
theorem dX4_tie_26 : decode cX4_tie 26 = .ok (.iaload, 1) := by decide +kernel
theorem dX4_tie_27 : decode cX4_tie 27 = .ok (.putfield 25, 3) := by decide +kernel
theorem dX4_tie_30 : decode cX4_tie 30 = .ok (.aload_n 0, 1) := by decide +kernel
theorem dX4_tie_31 : decode cX4_tie 31 = .ok (.aload_n 1, 1) := by decide +kernel
theorem dX4_tie_32 : decode cX4_tie 32 = .ok (.getfield 28, 3) := by decide +kernel
theorem dX4_tie_35 : decode cX4_tie 35 = .ok (.iload_n 2, 1) := by decide +kernel
theorem dX4_tie_36 : decode cX4_tie 36 = .ok (.iaload, 1) := by decide +kernel
theorem dX4_tie_37 : decode cX4_tie 37 = .ok (.putfield 31, 3) := by decide +kernel
theorem dX4_tie_40 : decode cX4_tie 40 = .ok (.aload_n 0, 1) := by decide +kernel
theorem dX4_tie_41 : decode cX4_tie 41 = .ok (.aload_n 1, 1) := by decide +kernel
theorem dX4_tie_42 : decode cX4_tie 42 = .ok (.getfield 28, 3) := by decide +kernel
theorem dX4_tie_45 : decode cX4_tie 45 = .ok (.iload_n 3, 1) := by decide +kernel
theorem dX4_tie_46 : decode cX4_tie 46 = .ok (.iaload, 1) := by decide +kernel
theorem dX4_tie_47 : decode cX4_tie 47 = .ok (.putfield 34, 3) := by decide +kernel
theorem dX4_tie_50 : decode cX4_tie 50 = .ok (.aload_n 0, 1) := by decide +kernel
theorem dX4_tie_51 : decode cX4_tie 51 = .ok (.aload_n 1, 1) := by decide +kernel
theorem dX4_tie_52 : decode cX4_tie 52 = .ok (.getfield 37, 3) := by decide +kernel
theorem dX4_tie_55 : decode cX4_tie 55 = .ok (.iload_n 2, 1) := by decide +kernel
theorem dX4_tie_56 : decode cX4_tie 56 = .ok (.iaload, 1) := by decide +kernel
theorem dX4_tie_57 : decode cX4_tie 57 = .ok (.aload_n 1, 1) := by decide +kernel
theorem dX4_tie_58 : decode cX4_tie 58 = .ok (.getfield 37, 3) := by decide +kernel
theorem dX4_tie_61 : decode cX4_tie 61 = .ok (.iload_n 3, 1) := by decide +kernel
theorem dX4_tie_62 : decode cX4_tie 62 = .ok (.iaload, 1) := by decide +kernel
theorem dX4_tie_63 : decode cX4_tie 63 = .ok (.invokestatic 40, 3) := by decide +kernel
theorem dX4_tie_66 : decode cX4_tie 66 = .ok (.putfield 46, 3) := by decide +kernel
theorem dX4_tie_69 : decode cX4_tie 69 = .ok (.aload_n 0, 1) := by decide +kernel
theorem dX4_tie_70 : decode cX4_tie 70 = .ok (.aload_n 1, 1) := by decide +kernel
theorem dX4_tie_71 : decode cX4_tie 71 = .ok (.getfield 49, 3) := by decide +kernel
theorem dX4_tie_74 : decode cX4_tie 74 = .ok (.putfield 52, 3) := by decide +kernel
theorem dX4_tie_77 : decode cX4_tie 77 = .ok (.aload_n 0, 1) := by decide +kernel
theorem dX4_tie_78 : decode cX4_tie 78 = .ok (.aload_n 1, 1) := by decide +kernel
theorem dX4_tie_79 : decode cX4_tie 79 = .ok (.getfield 53, 3) := by decide +kernel
theorem dX4_tie_82 : decode cX4_tie 82 = .ok (.putfield 56, 3) := by decide +kernel
theorem dX4_tie_85 : decode cX4_tie 85 = .ok (.aload_n 0, 1) := by decide +kernel
theorem dX4_tie_86 : decode cX4_tie 86 = .ok (.aload_n 1, 1) := by decide +kernel
theorem dX4_tie_87 : decode cX4_tie 87 = .ok (.getfield 57, 3) := by decide +kernel
theorem dX4_tie_90 : decode cX4_tie 90 = .ok (.putfield 60, 3) := by decide +kernel
theorem dX4_tie_93 : decode cX4_tie 93 = .ok (.aload_n 0, 1) := by decide +kernel
theorem dX4_tie_94 : decode cX4_tie 94 = .ok (.iconst 0, 1) := by decide +kernel
theorem dX4_tie_95 : decode cX4_tie 95 = .ok (.putfield 61, 3) := by decide +kernel
theorem dX4_tie_98 : decode cX4_tie 98 = .ok (.aload_n 0, 1) := by decide +kernel
theorem dX4_tie_99 : decode cX4_tie 99 = .ok (.iconst 0, 1) := by decide +kernel
theorem dX4_tie_100 : decode cX4_tie 100 = .ok (.putfield 64, 3) := by decide +kernel
theorem dX4_tie_103 : decode cX4_tie 103 = .ok (.aload_n 0, 1) := by decide +kernel
theorem dX4_tie_104 : decode cX4_tie 104 = .ok (.iconst 0, 1) := by decide +kernel
theorem dX4_tie_105 : decode cX4_tie 105 = .ok (.putfield 67, 3) := by decide +kernel
theorem dX4_tie_108 : decode cX4_tie 108 = .ok (.aload_n 0, 1) := by decide +kernel
theorem dX4_tie_109 : decode cX4_tie 109 = .ok (.iconst 0, 1) := by decide +kernel
theorem dX4_tie_110 : decode cX4_tie 110 = .ok (.putfield 70, 3) := by decide +kernel
theorem dX4_tie_113 : decode cX4_tie 113 = .ok (.aload_n 0, 1) := by decide +kernel
theorem dX4_tie_114 : decode cX4_tie 114 = .ok (.iconst 0, 1) := by decide +kernel
theorem dX4_tie_115 : decode cX4_tie 115 = .ok (.putfield 73, 3) := by decide +kernel
theorem dX4_tie_118 : decode cX4_tie 118 = .ok (.aload_n 0, 1) := by decide +kernel
theorem dX4_tie_119 : decode cX4_tie 119 = .ok (.iconst 0, 1) := by decide +kernel
theorem dX4_tie_120 : decode cX4_tie 120 = .ok (.putfield 76, 3) := by decide +kernel
theorem dX4_tie_123 : decode cX4_tie 123 = .ok (.return_, 1) := by decide +kernel
theorem dX4_beatBoth_0 : decode cX4_beatBoth 0 = .ok (.aload_n 0, 1) := by decide +kernel
theorem dX4_beatBoth_1 : decode cX4_beatBoth 1 = .ok (.iload_n 1, 1) := by decide +kernel
theorem dX4_beatBoth_2 : decode cX4_beatBoth 2 = .ok (.putfield 19, 3) := by decide +kernel
theorem dX4_beatBoth_5 : decode cX4_beatBoth 5 = .ok (.aload_n 0, 1) := by decide +kernel
theorem dX4_beatBoth_6 : decode cX4_beatBoth 6 = .ok (.iload_n 1, 1) := by decide +kernel
theorem dX4_beatBoth_7 : decode cX4_beatBoth 7 = .ok (.putfield 25, 3) := by decide +kernel
theorem dX4_beatBoth_10 : decode cX4_beatBoth 10 = .ok (.return_, 1) := by decide +kernel
theorem dX4_give_0 : decode cX4_give 0 = .ok (.aload_n 0, 1) := by decide +kernel
theorem dX4_give_1 : decode cX4_give 1 = .ok (.iload_n 1, 1) := by decide +kernel
theorem dX4_give_2 : decode cX4_give 2 = .ok (.putfield 31, 3) := by decide +kernel
theorem dX4_give_5 : decode cX4_give 5 = .ok (.aload_n 0, 1) := by decide +kernel
theorem dX4_give_6 : decode cX4_give 6 = .ok (.iload_n 2, 1) := by decide +kernel
theorem dX4_give_7 : decode cX4_give 7 = .ok (.putfield 34, 3) := by decide +kernel
theorem dX4_give_10 : decode cX4_give 10 = .ok (.return_, 1) := by decide +kernel
theorem dX4_speedUp_0 : decode cX4_speedUp 0 = .ok (.aload_n 0, 1) := by decide +kernel
theorem dX4_speedUp_1 : decode cX4_speedUp 1 = .ok (.iconst 4, 1) := by decide +kernel
theorem dX4_speedUp_2 : decode cX4_speedUp 2 = .ok (.aload_n 0, 1) := by decide +kernel
theorem dX4_speedUp_3 : decode cX4_speedUp 3 = .ok (.getfield 19, 3) := by decide +kernel
theorem dX4_speedUp_6 : decode cX4_speedUp 6 = .ok (.iconst 1, 1) := by decide +kernel
theorem dX4_speedUp_7 : decode cX4_speedUp 7 = .ok (.isub, 1) := by decide +kernel
theorem dX4_speedUp_8 : decode cX4_speedUp 8 = .ok (.invokestatic 79, 3) := by decide +kernel
theorem dX4_speedUp_11 : decode cX4_speedUp 11 = .ok (.putfield 19, 3) := by decide +kernel
theorem dX4_speedUp_14 : decode cX4_speedUp 14 = .ok (.aload_n 0, 1) := by decide +kernel
theorem dX4_speedUp_15 : decode cX4_speedUp 15 = .ok (.iconst 4, 1) := by decide +kernel
theorem dX4_speedUp_16 : decode cX4_speedUp 16 = .ok (.aload_n 0, 1) := by decide +kernel
theorem dX4_speedUp_17 : decode cX4_speedUp 17 = .ok (.getfield 25, 3) := by decide +kernel
theorem dX4_speedUp_20 : decode cX4_speedUp 20 = .ok (.iconst 1, 1) := by decide +kernel
theorem dX4_speedUp_21 : decode cX4_speedUp 21 = .ok (.isub, 1) := by decide +kernel
theorem dX4_speedUp_22 : decode cX4_speedUp 22 = .ok (.invokestatic 79, 3) := by decide +kernel
theorem dX4_speedUp_25 : decode cX4_speedUp 25 = .ok (.putfield 25, 3) := by decide +kernel
theorem dX4_speedUp_28 : decode cX4_speedUp 28 = .ok (.return_, 1) := by decide +kernel
theorem dX4_time_0 : decode cX4_time 0 = .ok (.aload_n 0, 1) := by decide +kernel
theorem dX4_time_1 : decode cX4_time 1 = .ok (.getfield 61, 3) := by decide +kernel
theorem dX4_time_4 : decode cX4_time 4 = .ok (.aload_n 0, 1) := by decide +kernel
theorem dX4_time_5 : decode cX4_time 5 = .ok (.getfield 64, 3) := by decide +kernel
theorem dX4_time_8 : decode cX4_time 8 = .ok (.invokestatic 79, 3) := by decide +kernel
theorem dX4_time_11 : decode cX4_time 11 = .ok (.ireturn, 1) := by decide +kernel
theorem dX4_apart_0 : decode cX4_apart 0 = .ok (.aload_n 0, 1) := by decide +kernel
theorem dX4_apart_1 : decode cX4_apart 1 = .ok (.getfield 61, 3) := by decide +kernel
theorem dX4_apart_4 : decode cX4_apart 4 = .ok (.aload_n 0, 1) := by decide +kernel
theorem dX4_apart_5 : decode cX4_apart 5 = .ok (.getfield 64, 3) := by decide +kernel
theorem dX4_apart_8 : decode cX4_apart 8 = .ok (.isub, 1) := by decide +kernel
theorem dX4_apart_9 : decode cX4_apart 9 = .ok (.invokestatic 82, 3) := by decide +kernel
theorem dX4_apart_12 : decode cX4_apart 12 = .ok (.ireturn, 1) := by decide +kernel
set_option maxRecDepth 20000 in
theorem ggX4_step_X4_apart : GoodIn wsX4_step wsX4_apart := goodIn_r _ [25, 1, 4, 26, 27, 7, 28, 29, 30, 31, 32, 33, 34, 35, 36, 37, 38, 39, 40, 41, 42, 43, 44] (by decide +kernel) (by decide +kernel)
set_option maxRecDepth 20000 in
theorem gX4_step_X4_apart : GoodIn wsX4_step (wsV RX4 90 RX4 yX4_apart wsX4_apart) := goodIn_app (goodIn_of _ (by decide +kernel)) ggX4_step_X4_apart
theorem dX4_step_0 : decode cX4_step 0 = .ok (.aload_n 0, 1) := by decide +kernel
theorem dX4_step_1 : decode cX4_step 1 = .ok (.getfield 61, 3) := by decide +kernel
theorem dX4_step_4 : decode cX4_step 4 = .ok (.iconst 1, 1) := by decide +kernel
theorem dX4_step_5 : decode cX4_step 5 = .ok (.aload_n 0, 1) := by decide +kernel
theorem dX4_step_6 : decode cX4_step 6 = .ok (.getfield 19, 3) := by decide +kernel
theorem dX4_step_9 : decode cX4_step 9 = .ok (.aload_n 0, 1) := by decide +kernel
theorem dX4_step_10 : decode cX4_step 10 = .ok (.getfield 31, 3) := by decide +kernel
theorem dX4_step_13 : decode cX4_step 13 = .ok (.aload_n 0, 1) := by decide +kernel
theorem dX4_step_14 : decode cX4_step 14 = .ok (.getfield 64, 3) := by decide +kernel
theorem dX4_step_17 : decode cX4_step 17 = .ok (.aload_n 0, 1) := by decide +kernel
theorem dX4_step_18 : decode cX4_step 18 = .ok (.getfield 61, 3) := by decide +kernel
theorem dX4_step_21 : decode cX4_step 21 = .ok (.isub, 1) := by decide +kernel
theorem dX4_step_22 : decode cX4_step 22 = .ok (.imul, 1) := by decide +kernel
theorem dX4_step_23 : decode cX4_step 23 = .ok (.iconst 4, 1) := by decide +kernel
theorem dX4_step_24 : decode cX4_step 24 = .ok (.idiv, 1) := by decide +kernel
theorem dX4_step_25 : decode cX4_step 25 = .ok (.iadd, 1) := by decide +kernel
theorem dX4_step_26 : decode cX4_step 26 = .ok (.invokestatic 79, 3) := by decide +kernel
theorem dX4_step_29 : decode cX4_step 29 = .ok (.iadd, 1) := by decide +kernel
theorem dX4_step_30 : decode cX4_step 30 = .ok (.istore_n 1, 1) := by decide +kernel
theorem dX4_step_31 : decode cX4_step 31 = .ok (.aload_n 0, 1) := by decide +kernel
theorem dX4_step_32 : decode cX4_step 32 = .ok (.getfield 64, 3) := by decide +kernel
theorem dX4_step_35 : decode cX4_step 35 = .ok (.iconst 1, 1) := by decide +kernel
theorem dX4_step_36 : decode cX4_step 36 = .ok (.aload_n 0, 1) := by decide +kernel
theorem dX4_step_37 : decode cX4_step 37 = .ok (.getfield 25, 3) := by decide +kernel
theorem dX4_step_40 : decode cX4_step 40 = .ok (.aload_n 0, 1) := by decide +kernel
theorem dX4_step_41 : decode cX4_step 41 = .ok (.getfield 34, 3) := by decide +kernel
theorem dX4_step_44 : decode cX4_step 44 = .ok (.aload_n 0, 1) := by decide +kernel
theorem dX4_step_45 : decode cX4_step 45 = .ok (.getfield 61, 3) := by decide +kernel
theorem dX4_step_48 : decode cX4_step 48 = .ok (.aload_n 0, 1) := by decide +kernel
theorem dX4_step_49 : decode cX4_step 49 = .ok (.getfield 64, 3) := by decide +kernel
theorem dX4_step_52 : decode cX4_step 52 = .ok (.isub, 1) := by decide +kernel
theorem dX4_step_53 : decode cX4_step 53 = .ok (.imul, 1) := by decide +kernel
theorem dX4_step_54 : decode cX4_step 54 = .ok (.iconst 4, 1) := by decide +kernel
theorem dX4_step_55 : decode cX4_step 55 = .ok (.idiv, 1) := by decide +kernel
theorem dX4_step_56 : decode cX4_step 56 = .ok (.iadd, 1) := by decide +kernel
theorem dX4_step_57 : decode cX4_step 57 = .ok (.invokestatic 79, 3) := by decide +kernel
theorem dX4_step_60 : decode cX4_step 60 = .ok (.iadd, 1) := by decide +kernel
theorem dX4_step_61 : decode cX4_step 61 = .ok (.istore_n 2, 1) := by decide +kernel
theorem dX4_step_62 : decode cX4_step 62 = .ok (.aload_n 0, 1) := by decide +kernel
theorem dX4_step_63 : decode cX4_step 63 = .ok (.iload_n 1, 1) := by decide +kernel
theorem dX4_step_64 : decode cX4_step 64 = .ok (.putfield 61, 3) := by decide +kernel
theorem dX4_step_67 : decode cX4_step 67 = .ok (.aload_n 0, 1) := by decide +kernel
theorem dX4_step_68 : decode cX4_step 68 = .ok (.iload_n 2, 1) := by decide +kernel
theorem dX4_step_69 : decode cX4_step 69 = .ok (.putfield 64, 3) := by decide +kernel
theorem dX4_step_72 : decode cX4_step 72 = .ok (.aload_n 0, 1) := by decide +kernel
theorem dX4_step_73 : decode cX4_step 73 = .ok (.iload_n 1, 1) := by decide +kernel
theorem dX4_step_74 : decode cX4_step 74 = .ok (.iload_n 2, 1) := by decide +kernel
theorem dX4_step_75 : decode cX4_step 75 = .ok (.if_icmp .ge 7, 3) := by decide +kernel
theorem dX4_step_78 : decode cX4_step 78 = .ok (.iconst 1, 1) := by decide +kernel
theorem dX4_step_79 : decode cX4_step 79 = .ok (.goto 4, 3) := by decide +kernel
theorem dX4_step_82 : decode cX4_step 82 = .ok (.iconst 0, 1) := by decide +kernel
theorem dX4_step_83 : decode cX4_step 83 = .ok (.putfield 86, 3) := by decide +kernel
theorem dX4_step_86 : decode cX4_step 86 = .ok (.aload_n 0, 1) := by decide +kernel
theorem dX4_step_87 : decode cX4_step 87 = .ok (.dup, 1) := by decide +kernel
theorem dX4_step_88 : decode cX4_step 88 = .ok (.getfield 67, 3) := by decide +kernel
theorem dX4_step_91 : decode cX4_step 91 = .ok (.iconst 1, 1) := by decide +kernel
theorem dX4_step_92 : decode cX4_step 92 = .ok (.iadd, 1) := by decide +kernel
theorem dX4_step_93 : decode cX4_step 93 = .ok (.putfield 67, 3) := by decide +kernel
theorem dX4_step_96 : decode cX4_step 96 = .ok (.aload_n 0, 1) := by decide +kernel
theorem dX4_step_97 : decode cX4_step 97 = .ok (.invokevirtual 90, 3) := by decide +kernel
theorem dX4_step_100 : decode cX4_step 100 = .ok (.aload_n 0, 1) := by decide +kernel
theorem dX4_step_101 : decode cX4_step 101 = .ok (.getfield 56, 3) := by decide +kernel
theorem dX4_step_104 : decode cX4_step 104 = .ok (.if_icmp .le 44, 3) := by decide +kernel
theorem dX4_step_107 : decode cX4_step 107 = .ok (.aload_n 0, 1) := by decide +kernel
theorem dX4_step_108 : decode cX4_step 108 = .ok (.dup, 1) := by decide +kernel
theorem dX4_step_109 : decode cX4_step 109 = .ok (.getfield 76, 3) := by decide +kernel
theorem dX4_step_112 : decode cX4_step 112 = .ok (.iconst 1, 1) := by decide +kernel
theorem dX4_step_113 : decode cX4_step 113 = .ok (.iadd, 1) := by decide +kernel
theorem dX4_step_114 : decode cX4_step 114 = .ok (.putfield 76, 3) := by decide +kernel
theorem dX4_step_117 : decode cX4_step 117 = .ok (.aload_n 0, 1) := by decide +kernel
theorem dX4_step_118 : decode cX4_step 118 = .ok (.bipush 102, 2) := by decide +kernel
theorem dX4_step_120 : decode cX4_step 120 = .ok (.putfield 94, 3) := by decide +kernel
theorem dX4_step_123 : decode cX4_step 123 = .ok (.aload_n 0, 1) := by decide +kernel
theorem dX4_step_124 : decode cX4_step 124 = .ok (.iload_n 1, 1) := by decide +kernel
theorem dX4_step_125 : decode cX4_step 125 = .ok (.iload_n 2, 1) := by decide +kernel
theorem dX4_step_126 : decode cX4_step 126 = .ok (.invokestatic 79, 3) := by decide +kernel
theorem dX4_step_129 : decode cX4_step 129 = .ok (.aload_n 0, 1) := by decide +kernel
theorem dX4_step_130 : decode cX4_step 130 = .ok (.getfield 60, 3) := by decide +kernel
theorem dX4_step_133 : decode cX4_step 133 = .ok (.iadd, 1) := by decide +kernel
theorem dX4_step_134 : decode cX4_step 134 = .ok (.putfield 61, 3) := by decide +kernel
theorem dX4_step_137 : decode cX4_step 137 = .ok (.aload_n 0, 1) := by decide +kernel
theorem dX4_step_138 : decode cX4_step 138 = .ok (.aload_n 0, 1) := by decide +kernel
theorem dX4_step_139 : decode cX4_step 139 = .ok (.getfield 61, 3) := by decide +kernel
theorem dX4_step_142 : decode cX4_step 142 = .ok (.putfield 64, 3) := by decide +kernel
theorem dX4_step_145 : decode cX4_step 145 = .ok (.goto 52, 3) := by decide +kernel
theorem dX4_step_148 : decode cX4_step 148 = .ok (.aload_n 0, 1) := by decide +kernel
theorem dX4_step_149 : decode cX4_step 149 = .ok (.invokevirtual 90, 3) := by decide +kernel
theorem dX4_step_152 : decode cX4_step 152 = .ok (.aload_n 0, 1) := by decide +kernel
theorem dX4_step_153 : decode cX4_step 153 = .ok (.getfield 52, 3) := by decide +kernel
theorem dX4_step_156 : decode cX4_step 156 = .ok (.if_icmp .le 22, 3) := by decide +kernel
theorem dX4_step_159 : decode cX4_step 159 = .ok (.aload_n 0, 1) := by decide +kernel
theorem dX4_step_160 : decode cX4_step 160 = .ok (.dup, 1) := by decide +kernel
theorem dX4_step_161 : decode cX4_step 161 = .ok (.getfield 73, 3) := by decide +kernel
theorem dX4_step_164 : decode cX4_step 164 = .ok (.iconst 1, 1) := by decide +kernel
theorem dX4_step_165 : decode cX4_step 165 = .ok (.iadd, 1) := by decide +kernel
theorem dX4_step_166 : decode cX4_step 166 = .ok (.putfield 73, 3) := by decide +kernel
theorem dX4_step_169 : decode cX4_step 169 = .ok (.aload_n 0, 1) := by decide +kernel
theorem dX4_step_170 : decode cX4_step 170 = .ok (.bipush 108, 2) := by decide +kernel
theorem dX4_step_172 : decode cX4_step 172 = .ok (.putfield 94, 3) := by decide +kernel
theorem dX4_step_175 : decode cX4_step 175 = .ok (.goto 22, 3) := by decide +kernel
theorem dX4_step_178 : decode cX4_step 178 = .ok (.aload_n 0, 1) := by decide +kernel
theorem dX4_step_179 : decode cX4_step 179 = .ok (.dup, 1) := by decide +kernel
theorem dX4_step_180 : decode cX4_step 180 = .ok (.getfield 70, 3) := by decide +kernel
theorem dX4_step_183 : decode cX4_step 183 = .ok (.aload_n 0, 1) := by decide +kernel
theorem dX4_step_184 : decode cX4_step 184 = .ok (.getfield 46, 3) := by decide +kernel
theorem dX4_step_187 : decode cX4_step 187 = .ok (.iadd, 1) := by decide +kernel
theorem dX4_step_188 : decode cX4_step 188 = .ok (.putfield 70, 3) := by decide +kernel
theorem dX4_step_191 : decode cX4_step 191 = .ok (.aload_n 0, 1) := by decide +kernel
theorem dX4_step_192 : decode cX4_step 192 = .ok (.bipush 115, 2) := by decide +kernel
theorem dX4_step_194 : decode cX4_step 194 = .ok (.putfield 94, 3) := by decide +kernel
theorem dX4_step_197 : decode cX4_step 197 = .ok (.return_, 1) := by decide +kernel
set_option maxRecDepth 20000 in
theorem ggX4_timeTo_X4_speedUp : GoodIn wsX4_timeTo wsX4_speedUp := goodIn_r _ [6, 7, 8, 9, 10, 11, 12, 41, 42, 43, 44, 45, 46, 47, 48, 49, 50, 51, 52, 53, 54, 55, 56] (by decide +kernel) (by decide +kernel)
set_option maxRecDepth 20000 in
theorem gX4_timeTo_X4_speedUp : GoodIn wsX4_timeTo (wsV RX4 98 RX4 yX4_speedUp wsX4_speedUp) := goodIn_app (goodIn_of _ (by decide +kernel)) ggX4_timeTo_X4_speedUp
set_option maxRecDepth 20000 in
theorem ggX4_timeTo_X4_step : GoodIn wsX4_timeTo wsX4_step := goodIn_r _ [16, 17, 7, 18, 19, 8, 9, 10, 11, 12, 20, 21, 22, 23, 24, 25, 26, 27, 28, 1, 29, 30, 31, 32, 5, 33, 34, 35, 36, 41, 42, 43, 44, 45, 46, 47, 48, 49, 50, 51, 52, 53, 54, 55, 56] (by decide +kernel) (by decide +kernel)
set_option maxRecDepth 20000 in
theorem gX4_timeTo_X4_step : GoodIn wsX4_timeTo (wsV RX4 101 RX4 yX4_step wsX4_step) := goodIn_app (goodIn_of _ (by decide +kernel)) ggX4_timeTo_X4_step
set_option maxRecDepth 20000 in
theorem ggX4_timeTo_X4_time : GoodIn wsX4_timeTo wsX4_time := goodIn_r _ [40, 17, 19, 8, 9, 10, 11, 41, 42, 43, 44, 45, 46, 47, 48, 49, 50, 51, 52, 53, 54, 55, 56] (by decide +kernel) (by decide +kernel)
set_option maxRecDepth 20000 in
theorem gX4_timeTo_X4_time : GoodIn wsX4_timeTo (wsV RX4 104 RX4 yX4_time wsX4_time) := goodIn_app (goodIn_of _ (by decide +kernel)) ggX4_timeTo_X4_time
theorem dX4_timeTo_0 : decode cX4_timeTo 0 = .ok (.iconst 0, 1) := by decide +kernel
theorem dX4_timeTo_1 : decode cX4_timeTo 1 = .ok (.istore_n 3, 1) := by decide +kernel
theorem dX4_timeTo_2 : decode cX4_timeTo 2 = .ok (.iload_n 3, 1) := by decide +kernel
theorem dX4_timeTo_3 : decode cX4_timeTo 3 = .ok (.sipush 999, 3) := by decide +kernel
theorem dX4_timeTo_6 : decode cX4_timeTo 6 = .ok (.if_icmp .ge 35, 3) := by decide +kernel
theorem dX4_timeTo_9 : decode cX4_timeTo 9 = .ok (.iload_n 3, 1) := by decide +kernel
theorem dX4_timeTo_10 : decode cX4_timeTo 10 = .ok (.iload_n 2, 1) := by decide +kernel
theorem dX4_timeTo_11 : decode cX4_timeTo 11 = .ok (.if_icmp .ne 7, 3) := by decide +kernel
theorem dX4_timeTo_14 : decode cX4_timeTo 14 = .ok (.aload_n 0, 1) := by decide +kernel
theorem dX4_timeTo_15 : decode cX4_timeTo 15 = .ok (.invokevirtual 98, 3) := by decide +kernel
theorem dX4_timeTo_18 : decode cX4_timeTo 18 = .ok (.aload_n 0, 1) := by decide +kernel
theorem dX4_timeTo_19 : decode cX4_timeTo 19 = .ok (.invokevirtual 101, 3) := by decide +kernel
theorem dX4_timeTo_22 : decode cX4_timeTo 22 = .ok (.aload_n 0, 1) := by decide +kernel
theorem dX4_timeTo_23 : decode cX4_timeTo 23 = .ok (.getfield 70, 3) := by decide +kernel
theorem dX4_timeTo_26 : decode cX4_timeTo 26 = .ok (.iload_n 1, 1) := by decide +kernel
theorem dX4_timeTo_27 : decode cX4_timeTo 27 = .ok (.if_icmp .lt 8, 3) := by decide +kernel
theorem dX4_timeTo_30 : decode cX4_timeTo 30 = .ok (.aload_n 0, 1) := by decide +kernel
theorem dX4_timeTo_31 : decode cX4_timeTo 31 = .ok (.invokevirtual 104, 3) := by decide +kernel
theorem dX4_timeTo_34 : decode cX4_timeTo 34 = .ok (.ireturn, 1) := by decide +kernel
theorem dX4_timeTo_35 : decode cX4_timeTo 35 = .ok (.iinc 3 1, 3) := by decide +kernel
theorem dX4_timeTo_38 : decode cX4_timeTo 38 = .ok (.goto (-36), 3) := by decide +kernel
theorem dX4_timeTo_41 : decode cX4_timeTo 41 = .ok (.bipush (-6), 2) := by decide +kernel
theorem dX4_timeTo_43 : decode cX4_timeTo 43 = .ok (.ireturn, 1) := by decide +kernel
set_option maxRecDepth 20000 in
theorem ggX4_standsFor_X4_step : GoodIn wsX4_standsFor wsX4_step := goodIn_r _ [6, 7, 8, 9, 10, 11, 12, 13, 14, 15, 16, 17, 18, 19, 1, 20, 21, 22, 23, 24, 25, 26, 27, 28, 5, 29, 30, 31, 32, 33, 34, 35, 36, 37, 38, 39, 40, 41, 42, 43, 44, 45, 46, 47, 48] (by decide +kernel) (by decide +kernel)
set_option maxRecDepth 20000 in
theorem gX4_standsFor_X4_step : GoodIn wsX4_standsFor (wsV RX4 101 RX4 yX4_step wsX4_step) := goodIn_app (goodIn_of _ (by decide +kernel)) ggX4_standsFor_X4_step
theorem dX4_standsFor_0 : decode cX4_standsFor 0 = .ok (.iconst 0, 1) := by decide +kernel
theorem dX4_standsFor_1 : decode cX4_standsFor 1 = .ok (.istore_n 2, 1) := by decide +kernel
theorem dX4_standsFor_2 : decode cX4_standsFor 2 = .ok (.iload_n 2, 1) := by decide +kernel
theorem dX4_standsFor_3 : decode cX4_standsFor 3 = .ok (.iload_n 1, 1) := by decide +kernel
theorem dX4_standsFor_4 : decode cX4_standsFor 4 = .ok (.if_icmp .ge 22, 3) := by decide +kernel
theorem dX4_standsFor_7 : decode cX4_standsFor 7 = .ok (.aload_n 0, 1) := by decide +kernel
theorem dX4_standsFor_8 : decode cX4_standsFor 8 = .ok (.invokevirtual 101, 3) := by decide +kernel
theorem dX4_standsFor_11 : decode cX4_standsFor 11 = .ok (.aload_n 0, 1) := by decide +kernel
theorem dX4_standsFor_12 : decode cX4_standsFor 12 = .ok (.getfield 76, 3) := by decide +kernel
theorem dX4_standsFor_15 : decode cX4_standsFor 15 = .ok (.ifCond .le 5, 3) := by decide +kernel
theorem dX4_standsFor_18 : decode cX4_standsFor 18 = .ok (.iconst 0, 1) := by decide +kernel
theorem dX4_standsFor_19 : decode cX4_standsFor 19 = .ok (.ireturn, 1) := by decide +kernel
theorem dX4_standsFor_20 : decode cX4_standsFor 20 = .ok (.iinc 2 1, 3) := by decide +kernel
theorem dX4_standsFor_23 : decode cX4_standsFor 23 = .ok (.goto (-21), 3) := by decide +kernel
theorem dX4_standsFor_26 : decode cX4_standsFor 26 = .ok (.iconst 1, 1) := by decide +kernel
theorem dX4_standsFor_27 : decode cX4_standsFor 27 = .ok (.ireturn, 1) := by decide +kernel
set_option maxRecDepth 20000 in
theorem ggX4_feetWithin_X4_step : GoodIn wsX4_feetWithin wsX4_step := goodIn_r _ [6, 7, 8, 9, 10, 11, 12, 13, 14, 15, 16, 17, 18, 19, 20, 21, 22, 23, 24, 1, 25, 26, 27, 28, 5, 29, 30, 31, 32, 37, 38, 39, 40, 41, 42, 43, 44, 45, 46, 47, 48, 49, 50, 51, 52] (by decide +kernel) (by decide +kernel)
set_option maxRecDepth 20000 in
theorem gX4_feetWithin_X4_step : GoodIn wsX4_feetWithin (wsV RX4 101 RX4 yX4_step wsX4_step) := goodIn_app (goodIn_of _ (by decide +kernel)) ggX4_feetWithin_X4_step
set_option maxRecDepth 20000 in
theorem ggX4_feetWithin_X4_time : GoodIn wsX4_feetWithin wsX4_time := goodIn_r _ [36, 7, 10, 11, 12, 13, 14, 37, 38, 39, 40, 41, 42, 43, 44, 45, 46, 47, 48, 49, 50, 51, 52] (by decide +kernel) (by decide +kernel)
set_option maxRecDepth 20000 in
theorem gX4_feetWithin_X4_time : GoodIn wsX4_feetWithin (wsV RX4 104 RX4 yX4_time wsX4_time) := goodIn_app (goodIn_of _ (by decide +kernel)) ggX4_feetWithin_X4_time
theorem dX4_feetWithin_0 : decode cX4_feetWithin 0 = .ok (.iconst 0, 1) := by decide +kernel
theorem dX4_feetWithin_1 : decode cX4_feetWithin 1 = .ok (.istore_n 2, 1) := by decide +kernel
theorem dX4_feetWithin_2 : decode cX4_feetWithin 2 = .ok (.iload_n 2, 1) := by decide +kernel
theorem dX4_feetWithin_3 : decode cX4_feetWithin 3 = .ok (.sipush 999, 3) := by decide +kernel
theorem dX4_feetWithin_6 : decode cX4_feetWithin 6 = .ok (.if_icmp .ge 28, 3) := by decide +kernel
theorem dX4_feetWithin_9 : decode cX4_feetWithin 9 = .ok (.aload_n 0, 1) := by decide +kernel
theorem dX4_feetWithin_10 : decode cX4_feetWithin 10 = .ok (.getfield 70, 3) := by decide +kernel
theorem dX4_feetWithin_13 : decode cX4_feetWithin 13 = .ok (.istore_n 3, 1) := by decide +kernel
theorem dX4_feetWithin_14 : decode cX4_feetWithin 14 = .ok (.aload_n 0, 1) := by decide +kernel
theorem dX4_feetWithin_15 : decode cX4_feetWithin 15 = .ok (.invokevirtual 101, 3) := by decide +kernel
theorem dX4_feetWithin_18 : decode cX4_feetWithin 18 = .ok (.aload_n 0, 1) := by decide +kernel
theorem dX4_feetWithin_19 : decode cX4_feetWithin 19 = .ok (.invokevirtual 104, 3) := by decide +kernel
theorem dX4_feetWithin_22 : decode cX4_feetWithin 22 = .ok (.iload_n 1, 1) := by decide +kernel
theorem dX4_feetWithin_23 : decode cX4_feetWithin 23 = .ok (.if_icmp .le 5, 3) := by decide +kernel
theorem dX4_feetWithin_26 : decode cX4_feetWithin 26 = .ok (.iload_n 3, 1) := by decide +kernel
theorem dX4_feetWithin_27 : decode cX4_feetWithin 27 = .ok (.ireturn, 1) := by decide +kernel
theorem dX4_feetWithin_28 : decode cX4_feetWithin 28 = .ok (.iinc 2 1, 3) := by decide +kernel
theorem dX4_feetWithin_31 : decode cX4_feetWithin 31 = .ok (.goto (-29), 3) := by decide +kernel
theorem dX4_feetWithin_34 : decode cX4_feetWithin 34 = .ok (.aload_n 0, 1) := by decide +kernel
theorem dX4_feetWithin_35 : decode cX4_feetWithin 35 = .ok (.getfield 70, 3) := by decide +kernel
theorem dX4_feetWithin_38 : decode cX4_feetWithin 38 = .ok (.ireturn, 1) := by decide +kernel
set_option maxRecDepth 20000 in
theorem ggX5_init_X0_init : GoodIn wsX5_init wsX0_init := goodIn_r _ [30, 31, 2, 3, 9, 32, 27, 33, 34, 35, 36, 37, 38, 58, 59, 60, 61, 62, 63, 64] (by decide +kernel) (by decide +kernel)
set_option maxRecDepth 20000 in
theorem gX5_init_X0_init_n9 : GoodIn wsX5_init (wsX0_init) := ggX5_init_X0_init
set_option maxRecDepth 20000 in
theorem ggX5_init_X1_init : GoodIn wsX5_init wsX1_init := goodIn_r _ [40, 41, 2, 3, 27, 42, 73, 74] (by decide +kernel) (by decide +kernel)
set_option maxRecDepth 20000 in
theorem gX5_init_X1_init_n26 : GoodIn wsX5_init (wsX1_init) := ggX5_init_X1_init
set_option maxRecDepth 20000 in
theorem ggX5_init_X4_init : GoodIn wsX5_init wsX4_init := goodIn_r _ [44, 45, 2, 3] (by decide +kernel) (by decide +kernel)
set_option maxRecDepth 20000 in
theorem gX5_init_X4_init_n33 : GoodIn wsX5_init (wsX4_init) := ggX5_init_X4_init
set_option maxRecDepth 20000 in
theorem ggX5_init_X2_init : GoodIn wsX5_init wsX2_init := goodIn_r _ [47, 48, 2, 3, 27, 49, 50, 51, 52, 91, 92, 93, 94, 95, 96] (by decide +kernel) (by decide +kernel)
set_option maxRecDepth 20000 in
theorem gX5_init_X2_init_n40 : GoodIn wsX5_init (wsX2_init) := ggX5_init_X2_init
set_option maxRecDepth 20000 in
theorem ggX5_init_X3_init : GoodIn wsX5_init wsX3_init := goodIn_r _ [54, 55, 2, 3, 56, 57, 97, 98] (by decide +kernel) (by decide +kernel)
set_option maxRecDepth 20000 in
theorem gX5_init_X3_init_n47 : GoodIn wsX5_init (wsX3_init) := ggX5_init_X3_init
theorem dX5_init_0 : decode cX5_init 0 = .ok (.aload_n 0, 1) := by decide +kernel
theorem dX5_init_1 : decode cX5_init 1 = .ok (.invokespecial 1, 3) := by decide +kernel
theorem dX5_init_4 : decode cX5_init 4 = .ok (.aload_n 0, 1) := by decide +kernel
theorem dX5_init_5 : decode cX5_init 5 = .ok (.new 7, 3) := by decide +kernel
theorem dX5_init_8 : decode cX5_init 8 = .ok (.dup, 1) := by decide +kernel
theorem dX5_init_9 : decode cX5_init 9 = .ok (.invokespecial 9, 3) := by decide +kernel
theorem dX5_init_12 : decode cX5_init 12 = .ok (.putfield 10, 3) := by decide +kernel
theorem dX5_init_15 : decode cX5_init 15 = .ok (.aload_n 0, 1) := by decide +kernel
theorem dX5_init_16 : decode cX5_init 16 = .ok (.iconst 2, 1) := by decide +kernel
theorem dX5_init_17 : decode cX5_init 17 = .ok (.anewarray 7, 3) := by decide +kernel
theorem dX5_init_20 : decode cX5_init 20 = .ok (.dup, 1) := by decide +kernel
theorem dX5_init_21 : decode cX5_init 21 = .ok (.iconst 0, 1) := by decide +kernel
theorem dX5_init_22 : decode cX5_init 22 = .ok (.new 7, 3) := by decide +kernel
theorem dX5_init_25 : decode cX5_init 25 = .ok (.dup, 1) := by decide +kernel
theorem dX5_init_26 : decode cX5_init 26 = .ok (.invokespecial 9, 3) := by decide +kernel
theorem dX5_init_29 : decode cX5_init 29 = .ok (.aastore, 1) := by decide +kernel
theorem dX5_init_30 : decode cX5_init 30 = .ok (.dup, 1) := by decide +kernel
theorem dX5_init_31 : decode cX5_init 31 = .ok (.iconst 1, 1) := by decide +kernel
theorem dX5_init_32 : decode cX5_init 32 = .ok (.new 7, 3) := by decide +kernel
theorem dX5_init_35 : decode cX5_init 35 = .ok (.dup, 1) := by decide +kernel
theorem dX5_init_36 : decode cX5_init 36 = .ok (.invokespecial 9, 3) := by decide +kernel
theorem dX5_init_39 : decode cX5_init 39 = .ok (.aastore, 1) := by decide +kernel
theorem dX5_init_40 : decode cX5_init 40 = .ok (.putfield 16, 3) := by decide +kernel
theorem dX5_init_43 : decode cX5_init 43 = .ok (.aload_n 0, 1) := by decide +kernel
theorem dX5_init_44 : decode cX5_init 44 = .ok (.iconst 2, 1) := by decide +kernel
theorem dX5_init_45 : decode cX5_init 45 = .ok (.newarray .boolean, 2) := by decide +kernel
theorem dX5_init_47 : decode cX5_init 47 = .ok (.putfield 20, 3) := by decide +kernel
theorem dX5_init_50 : decode cX5_init 50 = .ok (.aload_n 0, 1) := by decide +kernel
theorem dX5_init_51 : decode cX5_init 51 = .ok (.new 24, 3) := by decide +kernel
theorem dX5_init_54 : decode cX5_init 54 = .ok (.dup, 1) := by decide +kernel
theorem dX5_init_55 : decode cX5_init 55 = .ok (.invokespecial 26, 3) := by decide +kernel
theorem dX5_init_58 : decode cX5_init 58 = .ok (.putfield 27, 3) := by decide +kernel
theorem dX5_init_61 : decode cX5_init 61 = .ok (.aload_n 0, 1) := by decide +kernel
theorem dX5_init_62 : decode cX5_init 62 = .ok (.new 31, 3) := by decide +kernel
theorem dX5_init_65 : decode cX5_init 65 = .ok (.dup, 1) := by decide +kernel
theorem dX5_init_66 : decode cX5_init 66 = .ok (.invokespecial 33, 3) := by decide +kernel
theorem dX5_init_69 : decode cX5_init 69 = .ok (.putfield 34, 3) := by decide +kernel
theorem dX5_init_72 : decode cX5_init 72 = .ok (.aload_n 0, 1) := by decide +kernel
theorem dX5_init_73 : decode cX5_init 73 = .ok (.new 38, 3) := by decide +kernel
theorem dX5_init_76 : decode cX5_init 76 = .ok (.dup, 1) := by decide +kernel
theorem dX5_init_77 : decode cX5_init 77 = .ok (.invokespecial 40, 3) := by decide +kernel
theorem dX5_init_80 : decode cX5_init 80 = .ok (.putfield 41, 3) := by decide +kernel
theorem dX5_init_83 : decode cX5_init 83 = .ok (.aload_n 0, 1) := by decide +kernel
theorem dX5_init_84 : decode cX5_init 84 = .ok (.new 45, 3) := by decide +kernel
theorem dX5_init_87 : decode cX5_init 87 = .ok (.dup, 1) := by decide +kernel
theorem dX5_init_88 : decode cX5_init 88 = .ok (.invokespecial 47, 3) := by decide +kernel
theorem dX5_init_91 : decode cX5_init 91 = .ok (.putfield 48, 3) := by decide +kernel
theorem dX5_init_94 : decode cX5_init 94 = .ok (.aload_n 0, 1) := by decide +kernel
theorem dX5_init_95 : decode cX5_init 95 = .ok (.bipush 64, 2) := by decide +kernel
theorem dX5_init_97 : decode cX5_init 97 = .ok (.newarray .int, 2) := by decide +kernel
theorem dX5_init_99 : decode cX5_init 99 = .ok (.putfield 52, 3) := by decide +kernel
theorem dX5_init_102 : decode cX5_init 102 = .ok (.return_, 1) := by decide +kernel
set_option maxRecDepth 20000 in
theorem ggX5_run_X5_isWithin : GoodIn wsX5_run wsX5_isWithin := goodIn_r _ [5] (by decide +kernel) (by decide +kernel)
set_option maxRecDepth 20000 in
theorem gX5_run_X5_isWithin : GoodIn wsX5_run (va_wsS RX5 56 yX5_isWithin wsX5_isWithin) := goodIn_app (goodIn_of _ (by decide +kernel)) ggX5_run_X5_isWithin
set_option maxRecDepth 20000 in
theorem ggX5_run_X0_enter : GoodIn wsX5_run wsX0_enter := goodIn_r _ [10, 11, 12, 13, 14, 38, 39, 40, 41, 42, 43, 44] (by decide +kernel) (by decide +kernel)
set_option maxRecDepth 20000 in
theorem gX5_run_X0_enter : GoodIn wsX5_run (wsV RX5 60 RX0 yX0_enter wsX0_enter) := goodIn_app (goodIn_of _ (by decide +kernel)) ggX5_run_X0_enter
set_option maxRecDepth 20000 in
theorem ggX5_run_X0_count : GoodIn wsX5_run wsX0_count := goodIn_r _ [18, 19, 20, 21, 9, 22, 11, 23, 24, 25, 26, 27, 28, 29, 38, 39, 40, 41, 42, 43, 44] (by decide +kernel) (by decide +kernel)
set_option maxRecDepth 20000 in
theorem gX5_run_X0_count : GoodIn wsX5_run (wsV RX5 64 RX0 yX0_count wsX0_count) := goodIn_app (goodIn_of _ (by decide +kernel)) ggX5_run_X0_count
theorem dX5_run_0 : decode cX5_run 0 = .ok (.iload_n 1, 1) := by decide +kernel
theorem dX5_run_1 : decode cX5_run 1 = .ok (.iconst 0, 1) := by decide +kernel
theorem dX5_run_2 : decode cX5_run 2 = .ok (.bipush 7, 2) := by decide +kernel
theorem dX5_run_4 : decode cX5_run 4 = .ok (.invokestatic 56, 3) := by decide +kernel
theorem dX5_run_7 : decode cX5_run 7 = .ok (.ifCond .ne 5, 3) := by decide +kernel
theorem dX5_run_10 : decode cX5_run 10 = .ok (.iconst (-1), 1) := by decide +kernel
theorem dX5_run_11 : decode cX5_run 11 = .ok (.ireturn, 1) := by decide +kernel
theorem dX5_run_12 : decode cX5_run 12 = .ok (.iload_n 2, 1) := by decide +kernel
theorem dX5_run_13 : decode cX5_run 13 = .ok (.iconst 4, 1) := by decide +kernel
theorem dX5_run_14 : decode cX5_run 14 = .ok (.bipush 20, 2) := by decide +kernel
theorem dX5_run_16 : decode cX5_run 16 = .ok (.invokestatic 56, 3) := by decide +kernel
theorem dX5_run_19 : decode cX5_run 19 = .ok (.ifCond .eq 23, 3) := by decide +kernel
theorem dX5_run_22 : decode cX5_run 22 = .ok (.iload_n 3, 1) := by decide +kernel
theorem dX5_run_23 : decode cX5_run 23 = .ok (.iconst 1, 1) := by decide +kernel
theorem dX5_run_24 : decode cX5_run 24 = .ok (.bipush 9, 2) := by decide +kernel
theorem dX5_run_26 : decode cX5_run 26 = .ok (.invokestatic 56, 3) := by decide +kernel
theorem dX5_run_29 : decode cX5_run 29 = .ok (.ifCond .eq 13, 3) := by decide +kernel
theorem dX5_run_32 : decode cX5_run 32 = .ok (.iload 4, 2) := by decide +kernel
theorem dX5_run_34 : decode cX5_run 34 = .ok (.iconst 0, 1) := by decide +kernel
theorem dX5_run_35 : decode cX5_run 35 = .ok (.iconst 4, 1) := by decide +kernel
theorem dX5_run_36 : decode cX5_run 36 = .ok (.invokestatic 56, 3) := by decide +kernel
theorem dX5_run_39 : decode cX5_run 39 = .ok (.ifCond .ne 6, 3) := by decide +kernel
theorem dX5_run_42 : decode cX5_run 42 = .ok (.bipush (-2), 2) := by decide +kernel
theorem dX5_run_44 : decode cX5_run 44 = .ok (.ireturn, 1) := by decide +kernel
theorem dX5_run_45 : decode cX5_run 45 = .ok (.aload_n 0, 1) := by decide +kernel
theorem dX5_run_46 : decode cX5_run 46 = .ok (.getfield 10, 3) := by decide +kernel
theorem dX5_run_49 : decode cX5_run 49 = .ok (.iload_n 1, 1) := by decide +kernel
theorem dX5_run_50 : decode cX5_run 50 = .ok (.iload_n 2, 1) := by decide +kernel
theorem dX5_run_51 : decode cX5_run 51 = .ok (.iload_n 3, 1) := by decide +kernel
theorem dX5_run_52 : decode cX5_run 52 = .ok (.iload 4, 2) := by decide +kernel
theorem dX5_run_54 : decode cX5_run 54 = .ok (.invokevirtual 60, 3) := by decide +kernel
theorem dX5_run_57 : decode cX5_run 57 = .ok (.aload_n 0, 1) := by decide +kernel
theorem dX5_run_58 : decode cX5_run 58 = .ok (.getfield 10, 3) := by decide +kernel
theorem dX5_run_61 : decode cX5_run 61 = .ok (.invokevirtual 64, 3) := by decide +kernel
theorem dX5_run_64 : decode cX5_run 64 = .ok (.ireturn, 1) := by decide +kernel
set_option maxRecDepth 20000 in
theorem ggX5_rest_X0_hasRunner : GoodIn wsX5_rest wsX0_hasRunner := goodIn_r _ [6, 7, 36, 37, 38, 39, 40, 41, 42] (by decide +kernel) (by decide +kernel)
set_option maxRecDepth 20000 in
theorem gX5_rest_X0_hasRunner : GoodIn wsX5_rest (wsV RX5 68 RX0 yX0_hasRunner wsX0_hasRunner) := goodIn_app (goodIn_of _ (by decide +kernel)) ggX5_rest_X0_hasRunner
set_option maxRecDepth 20000 in
theorem ggX5_rest_X0_leave : GoodIn wsX5_rest wsX0_leave := goodIn_r _ [11, 7, 12, 3, 4, 5, 6, 36, 37, 38, 39, 40, 41, 42] (by decide +kernel) (by decide +kernel)
set_option maxRecDepth 20000 in
theorem gX5_rest_X0_leave : GoodIn wsX5_rest (wsV RX5 72 RX0 yX0_leave wsX0_leave) := goodIn_app (goodIn_of _ (by decide +kernel)) ggX5_rest_X0_leave
set_option maxRecDepth 20000 in
theorem ggX5_rest_X0_count : GoodIn wsX5_rest wsX0_count := goodIn_r _ [16, 17, 18, 19, 5, 20, 7, 21, 22, 23, 24, 25, 26, 27, 36, 37, 38, 39, 40, 41, 42] (by decide +kernel) (by decide +kernel)
set_option maxRecDepth 20000 in
theorem gX5_rest_X0_count : GoodIn wsX5_rest (wsV RX5 64 RX0 yX0_count wsX0_count) := goodIn_app (goodIn_of _ (by decide +kernel)) ggX5_rest_X0_count
theorem dX5_rest_0 : decode cX5_rest 0 = .ok (.aload_n 0, 1) := by decide +kernel
theorem dX5_rest_1 : decode cX5_rest 1 = .ok (.getfield 10, 3) := by decide +kernel
theorem dX5_rest_4 : decode cX5_rest 4 = .ok (.iload_n 1, 1) := by decide +kernel
theorem dX5_rest_5 : decode cX5_rest 5 = .ok (.invokevirtual 68, 3) := by decide +kernel
theorem dX5_rest_8 : decode cX5_rest 8 = .ok (.ifCond .ne 5, 3) := by decide +kernel
theorem dX5_rest_11 : decode cX5_rest 11 = .ok (.iconst (-1), 1) := by decide +kernel
theorem dX5_rest_12 : decode cX5_rest 12 = .ok (.ireturn, 1) := by decide +kernel
theorem dX5_rest_13 : decode cX5_rest 13 = .ok (.aload_n 0, 1) := by decide +kernel
theorem dX5_rest_14 : decode cX5_rest 14 = .ok (.getfield 10, 3) := by decide +kernel
theorem dX5_rest_17 : decode cX5_rest 17 = .ok (.iload_n 1, 1) := by decide +kernel
theorem dX5_rest_18 : decode cX5_rest 18 = .ok (.invokevirtual 72, 3) := by decide +kernel
theorem dX5_rest_21 : decode cX5_rest 21 = .ok (.aload_n 0, 1) := by decide +kernel
theorem dX5_rest_22 : decode cX5_rest 22 = .ok (.getfield 10, 3) := by decide +kernel
theorem dX5_rest_25 : decode cX5_rest 25 = .ok (.invokevirtual 64, 3) := by decide +kernel
theorem dX5_rest_28 : decode cX5_rest 28 = .ok (.ireturn, 1) := by decide +kernel
set_option maxRecDepth 20000 in
theorem ggX5_set_X5_setLurch : GoodIn wsX5_set wsX5_setLurch := goodIn_r _ [5, 6, 7, 8, 9, 10, 4, 11, 21, 22, 23, 24, 25, 26, 27, 28, 29, 30, 31, 32, 33, 34, 35] (by decide +kernel) (by decide +kernel)
set_option maxRecDepth 20000 in
theorem gX5_set_X5_setLurch : GoodIn wsX5_set (wsV RX5 76 RX5 yX5_setLurch wsX5_setLurch) := goodIn_app (goodIn_of _ (by decide +kernel)) ggX5_set_X5_setLurch
set_option maxRecDepth 20000 in
theorem ggX5_set_X5_setFall : GoodIn wsX5_set wsX5_setFall := goodIn_r _ [15, 6, 8, 7, 9, 10, 4, 11, 21, 22, 23, 24, 25, 26, 27, 28, 29, 30, 31, 32, 33, 34, 35] (by decide +kernel) (by decide +kernel)
set_option maxRecDepth 20000 in
theorem gX5_set_X5_setFall : GoodIn wsX5_set (wsV RX5 80 RX5 yX5_setFall wsX5_setFall) := goodIn_app (goodIn_of _ (by decide +kernel)) ggX5_set_X5_setFall
set_option maxRecDepth 20000 in
theorem ggX5_set_X5_setUp : GoodIn wsX5_set wsX5_setUp := goodIn_r _ [19, 6, 20, 9, 10, 4, 11, 21, 22, 23, 24, 25, 26, 27, 28, 29, 30, 31, 32, 33, 34, 35] (by decide +kernel) (by decide +kernel)
set_option maxRecDepth 20000 in
theorem gX5_set_X5_setUp : GoodIn wsX5_set (wsV RX5 83 RX5 yX5_setUp wsX5_setUp) := goodIn_app (goodIn_of _ (by decide +kernel)) ggX5_set_X5_setUp
theorem dX5_set_0 : decode cX5_set 0 = .ok (.iload_n 1, 1) := by decide +kernel
theorem dX5_set_1 : decode cX5_set 1 = .ok (.tableswitch 45 0 2 #[27, 33, 39], 27) := by decide +kernel
theorem dX5_set_28 : decode cX5_set 28 = .ok (.aload_n 0, 1) := by decide +kernel
theorem dX5_set_29 : decode cX5_set 29 = .ok (.iload_n 2, 1) := by decide +kernel
theorem dX5_set_30 : decode cX5_set 30 = .ok (.invokevirtual 76, 3) := by decide +kernel
theorem dX5_set_33 : decode cX5_set 33 = .ok (.ireturn, 1) := by decide +kernel
theorem dX5_set_34 : decode cX5_set 34 = .ok (.aload_n 0, 1) := by decide +kernel
theorem dX5_set_35 : decode cX5_set 35 = .ok (.iload_n 2, 1) := by decide +kernel
theorem dX5_set_36 : decode cX5_set 36 = .ok (.invokevirtual 80, 3) := by decide +kernel
theorem dX5_set_39 : decode cX5_set 39 = .ok (.ireturn, 1) := by decide +kernel
theorem dX5_set_40 : decode cX5_set 40 = .ok (.aload_n 0, 1) := by decide +kernel
theorem dX5_set_41 : decode cX5_set 41 = .ok (.iload_n 2, 1) := by decide +kernel
theorem dX5_set_42 : decode cX5_set 42 = .ok (.invokevirtual 83, 3) := by decide +kernel
theorem dX5_set_45 : decode cX5_set 45 = .ok (.ireturn, 1) := by decide +kernel
theorem dX5_set_46 : decode cX5_set 46 = .ok (.bipush (-2), 2) := by decide +kernel
theorem dX5_set_48 : decode cX5_set 48 = .ok (.ireturn, 1) := by decide +kernel
set_option maxRecDepth 20000 in
theorem ggX5_setLurch_X5_isWithin : GoodIn wsX5_setLurch wsX5_isWithin := goodIn_r _ [7] (by decide +kernel) (by decide +kernel)
set_option maxRecDepth 20000 in
theorem gX5_setLurch_X5_isWithin : GoodIn wsX5_setLurch (va_wsS RX5 56 yX5_isWithin wsX5_isWithin) := goodIn_app (goodIn_of _ (by decide +kernel)) ggX5_setLurch_X5_isWithin
theorem dX5_setLurch_0 : decode cX5_setLurch 0 = .ok (.iload_n 1, 1) := by decide +kernel
theorem dX5_setLurch_1 : decode cX5_setLurch 1 = .ok (.iconst 0, 1) := by decide +kernel
theorem dX5_setLurch_2 : decode cX5_setLurch 2 = .ok (.bipush 9, 2) := by decide +kernel
theorem dX5_setLurch_4 : decode cX5_setLurch 4 = .ok (.invokestatic 56, 3) := by decide +kernel
theorem dX5_setLurch_7 : decode cX5_setLurch 7 = .ok (.ifCond .eq 14, 3) := by decide +kernel
theorem dX5_setLurch_10 : decode cX5_setLurch 10 = .ok (.iload_n 1, 1) := by decide +kernel
theorem dX5_setLurch_11 : decode cX5_setLurch 11 = .ok (.aload_n 0, 1) := by decide +kernel
theorem dX5_setLurch_12 : decode cX5_setLurch 12 = .ok (.getfield 10, 3) := by decide +kernel
theorem dX5_setLurch_15 : decode cX5_setLurch 15 = .ok (.getfield 86, 3) := by decide +kernel
theorem dX5_setLurch_18 : decode cX5_setLurch 18 = .ok (.if_icmp .le 6, 3) := by decide +kernel
theorem dX5_setLurch_21 : decode cX5_setLurch 21 = .ok (.bipush (-2), 2) := by decide +kernel
theorem dX5_setLurch_23 : decode cX5_setLurch 23 = .ok (.ireturn, 1) := by decide +kernel
theorem dX5_setLurch_24 : decode cX5_setLurch 24 = .ok (.aload_n 0, 1) := by decide +kernel
theorem dX5_setLurch_25 : decode cX5_setLurch 25 = .ok (.getfield 10, 3) := by decide +kernel
theorem dX5_setLurch_28 : decode cX5_setLurch 28 = .ok (.getfield 90, 3) := by decide +kernel
theorem dX5_setLurch_31 : decode cX5_setLurch 31 = .ok (.istore_n 2, 1) := by decide +kernel
theorem dX5_setLurch_32 : decode cX5_setLurch 32 = .ok (.aload_n 0, 1) := by decide +kernel
theorem dX5_setLurch_33 : decode cX5_setLurch 33 = .ok (.getfield 10, 3) := by decide +kernel
theorem dX5_setLurch_36 : decode cX5_setLurch 36 = .ok (.iload_n 1, 1) := by decide +kernel
theorem dX5_setLurch_37 : decode cX5_setLurch 37 = .ok (.putfield 90, 3) := by decide +kernel
theorem dX5_setLurch_40 : decode cX5_setLurch 40 = .ok (.iload_n 2, 1) := by decide +kernel
theorem dX5_setLurch_41 : decode cX5_setLurch 41 = .ok (.ireturn, 1) := by decide +kernel
set_option maxRecDepth 20000 in
theorem ggX5_setFall_X5_isWithin : GoodIn wsX5_setFall wsX5_isWithin := goodIn_r _ [7] (by decide +kernel) (by decide +kernel)
set_option maxRecDepth 20000 in
theorem gX5_setFall_X5_isWithin : GoodIn wsX5_setFall (va_wsS RX5 56 yX5_isWithin wsX5_isWithin) := goodIn_app (goodIn_of _ (by decide +kernel)) ggX5_setFall_X5_isWithin
theorem dX5_setFall_0 : decode cX5_setFall 0 = .ok (.iload_n 1, 1) := by decide +kernel
theorem dX5_setFall_1 : decode cX5_setFall 1 = .ok (.aload_n 0, 1) := by decide +kernel
theorem dX5_setFall_2 : decode cX5_setFall 2 = .ok (.getfield 10, 3) := by decide +kernel
theorem dX5_setFall_5 : decode cX5_setFall 5 = .ok (.getfield 90, 3) := by decide +kernel
theorem dX5_setFall_8 : decode cX5_setFall 8 = .ok (.bipush 20, 2) := by decide +kernel
theorem dX5_setFall_10 : decode cX5_setFall 10 = .ok (.invokestatic 56, 3) := by decide +kernel
theorem dX5_setFall_13 : decode cX5_setFall 13 = .ok (.ifCond .ne 6, 3) := by decide +kernel
theorem dX5_setFall_16 : decode cX5_setFall 16 = .ok (.bipush (-2), 2) := by decide +kernel
theorem dX5_setFall_18 : decode cX5_setFall 18 = .ok (.ireturn, 1) := by decide +kernel
theorem dX5_setFall_19 : decode cX5_setFall 19 = .ok (.aload_n 0, 1) := by decide +kernel
theorem dX5_setFall_20 : decode cX5_setFall 20 = .ok (.getfield 10, 3) := by decide +kernel
theorem dX5_setFall_23 : decode cX5_setFall 23 = .ok (.getfield 86, 3) := by decide +kernel
theorem dX5_setFall_26 : decode cX5_setFall 26 = .ok (.istore_n 2, 1) := by decide +kernel
theorem dX5_setFall_27 : decode cX5_setFall 27 = .ok (.aload_n 0, 1) := by decide +kernel
theorem dX5_setFall_28 : decode cX5_setFall 28 = .ok (.getfield 10, 3) := by decide +kernel
theorem dX5_setFall_31 : decode cX5_setFall 31 = .ok (.iload_n 1, 1) := by decide +kernel
theorem dX5_setFall_32 : decode cX5_setFall 32 = .ok (.putfield 86, 3) := by decide +kernel
theorem dX5_setFall_35 : decode cX5_setFall 35 = .ok (.iload_n 2, 1) := by decide +kernel
theorem dX5_setFall_36 : decode cX5_setFall 36 = .ok (.ireturn, 1) := by decide +kernel
set_option maxRecDepth 20000 in
theorem ggX5_setUp_X5_isWithin : GoodIn wsX5_setUp wsX5_isWithin := goodIn_r _ [6] (by decide +kernel) (by decide +kernel)
set_option maxRecDepth 20000 in
theorem gX5_setUp_X5_isWithin : GoodIn wsX5_setUp (va_wsS RX5 56 yX5_isWithin wsX5_isWithin) := goodIn_app (goodIn_of _ (by decide +kernel)) ggX5_setUp_X5_isWithin
theorem dX5_setUp_0 : decode cX5_setUp 0 = .ok (.iload_n 1, 1) := by decide +kernel
theorem dX5_setUp_1 : decode cX5_setUp 1 = .ok (.iconst 0, 1) := by decide +kernel
theorem dX5_setUp_2 : decode cX5_setUp 2 = .ok (.bipush 99, 2) := by decide +kernel
theorem dX5_setUp_4 : decode cX5_setUp 4 = .ok (.invokestatic 56, 3) := by decide +kernel
theorem dX5_setUp_7 : decode cX5_setUp 7 = .ok (.ifCond .ne 6, 3) := by decide +kernel
theorem dX5_setUp_10 : decode cX5_setUp 10 = .ok (.bipush (-2), 2) := by decide +kernel
theorem dX5_setUp_12 : decode cX5_setUp 12 = .ok (.ireturn, 1) := by decide +kernel
theorem dX5_setUp_13 : decode cX5_setUp 13 = .ok (.aload_n 0, 1) := by decide +kernel
theorem dX5_setUp_14 : decode cX5_setUp 14 = .ok (.getfield 10, 3) := by decide +kernel
theorem dX5_setUp_17 : decode cX5_setUp 17 = .ok (.getfield 93, 3) := by decide +kernel
theorem dX5_setUp_20 : decode cX5_setUp 20 = .ok (.istore_n 2, 1) := by decide +kernel
theorem dX5_setUp_21 : decode cX5_setUp 21 = .ok (.aload_n 0, 1) := by decide +kernel
theorem dX5_setUp_22 : decode cX5_setUp 22 = .ok (.getfield 10, 3) := by decide +kernel
theorem dX5_setUp_25 : decode cX5_setUp 25 = .ok (.iload_n 1, 1) := by decide +kernel
theorem dX5_setUp_26 : decode cX5_setUp 26 = .ok (.putfield 93, 3) := by decide +kernel
theorem dX5_setUp_29 : decode cX5_setUp 29 = .ok (.iload_n 2, 1) := by decide +kernel
theorem dX5_setUp_30 : decode cX5_setUp 30 = .ok (.ireturn, 1) := by decide +kernel
set_option maxRecDepth 20000 in
theorem ggX5_pair_X0_canTie : GoodIn wsX5_pair wsX0_canTie := goodIn_r _ [10, 11, 12, 13, 9, 14, 15, 95, 96, 97, 98, 99, 100, 101] (by decide +kernel) (by decide +kernel)
set_option maxRecDepth 20000 in
theorem gX5_pair_X0_canTie : GoodIn wsX5_pair (wsV RX5 96 RX0 yX0_canTie wsX0_canTie) := goodIn_app (goodIn_of _ (by decide +kernel)) ggX5_pair_X0_canTie
set_option maxRecDepth 20000 in
theorem ggX5_pair_X5_isWithin : GoodIn wsX5_pair wsX5_isWithin := goodIn_r _ [19] (by decide +kernel) (by decide +kernel)
set_option maxRecDepth 20000 in
theorem gX5_pair_X5_isWithin : GoodIn wsX5_pair (va_wsS RX5 56 yX5_isWithin wsX5_isWithin) := goodIn_app (goodIn_of _ (by decide +kernel)) ggX5_pair_X5_isWithin
set_option maxRecDepth 20000 in
theorem ggX5_pair_X4_tie : GoodIn wsX5_pair wsX4_tie := goodIn_r _ [24, 25, 26, 27, 28, 29, 30, 31, 32, 33, 34, 35, 36, 37, 38, 39, 40, 41, 42, 43, 44, 45, 46, 47, 48, 49, 7, 8, 9, 10, 11, 12, 13, 14, 15, 95, 96, 97, 98, 99, 100, 101, 79, 80, 81, 82, 83, 84, 85, 86, 87, 88, 89, 90, 91, 92, 93, 94] (by decide +kernel) (by decide +kernel)
set_option maxRecDepth 20000 in
theorem gX5_pair_X4_tie : GoodIn wsX5_pair (wsV RX5 100 RX4 yX4_tie wsX4_tie) := goodIn_app (goodIn_of _ (by decide +kernel)) ggX5_pair_X4_tie
set_option maxRecDepth 20000 in
theorem ggX5_pair_X4_step : GoodIn wsX5_pair wsX4_step := goodIn_r _ [53, 43, 26, 29, 44, 54, 55, 34, 56, 27, 30, 57, 45, 40, 48, 58, 42, 38, 47, 46, 36, 59, 60, 61, 23, 62, 63, 64, 65, 79, 80, 81, 82, 83, 84, 85, 86, 87, 88, 89, 90, 91, 92, 93, 94] (by decide +kernel) (by decide +kernel)
set_option maxRecDepth 20000 in
theorem gX5_pair_X4_step : GoodIn wsX5_pair (wsV RX5 104 RX4 yX4_step wsX4_step) := goodIn_app (goodIn_of _ (by decide +kernel)) ggX5_pair_X4_step
set_option maxRecDepth 20000 in
theorem ggX5_pair_X4_time : GoodIn wsX5_pair wsX4_time := goodIn_r _ [69, 43, 44, 54, 55, 34, 56, 79, 80, 81, 82, 83, 84, 85, 86, 87, 88, 89, 90, 91, 92, 93, 94] (by decide +kernel) (by decide +kernel)
set_option maxRecDepth 20000 in
theorem gX5_pair_X4_time : GoodIn wsX5_pair (wsV RX5 107 RX4 yX4_time wsX4_time) := goodIn_app (goodIn_of _ (by decide +kernel)) ggX5_pair_X4_time
set_option maxRecDepth 20000 in
theorem ggX5_pair_X4_apart : GoodIn wsX5_pair wsX4_apart := goodIn_r _ [62, 43, 44, 63, 64, 34, 65, 79, 80, 81, 82, 83, 84, 85, 86, 87, 88, 89, 90, 91, 92, 93, 94] (by decide +kernel) (by decide +kernel)
set_option maxRecDepth 20000 in
theorem gX5_pair_X4_apart : GoodIn wsX5_pair (wsV RX5 119 RX4 yX4_apart wsX4_apart) := goodIn_app (goodIn_of _ (by decide +kernel)) ggX5_pair_X4_apart
theorem dX5_pair_0 : decode cX5_pair 0 = .ok (.aload_n 0, 1) := by decide +kernel
theorem dX5_pair_1 : decode cX5_pair 1 = .ok (.getfield 10, 3) := by decide +kernel
theorem dX5_pair_4 : decode cX5_pair 4 = .ok (.iload_n 1, 1) := by decide +kernel
theorem dX5_pair_5 : decode cX5_pair 5 = .ok (.iload_n 2, 1) := by decide +kernel
theorem dX5_pair_6 : decode cX5_pair 6 = .ok (.invokevirtual 96, 3) := by decide +kernel
theorem dX5_pair_9 : decode cX5_pair 9 = .ok (.ifCond .ne 5, 3) := by decide +kernel
theorem dX5_pair_12 : decode cX5_pair 12 = .ok (.iconst (-1), 1) := by decide +kernel
theorem dX5_pair_13 : decode cX5_pair 13 = .ok (.ireturn, 1) := by decide +kernel
theorem dX5_pair_14 : decode cX5_pair 14 = .ok (.iload_n 3, 1) := by decide +kernel
theorem dX5_pair_15 : decode cX5_pair 15 = .ok (.iconst 0, 1) := by decide +kernel
theorem dX5_pair_16 : decode cX5_pair 16 = .ok (.sipush 999, 3) := by decide +kernel
theorem dX5_pair_19 : decode cX5_pair 19 = .ok (.invokestatic 56, 3) := by decide +kernel
theorem dX5_pair_22 : decode cX5_pair 22 = .ok (.ifCond .eq 13, 3) := by decide +kernel
theorem dX5_pair_25 : decode cX5_pair 25 = .ok (.iload 4, 2) := by decide +kernel
theorem dX5_pair_27 : decode cX5_pair 27 = .ok (.iconst 0, 1) := by decide +kernel
theorem dX5_pair_28 : decode cX5_pair 28 = .ok (.iconst 4, 1) := by decide +kernel
theorem dX5_pair_29 : decode cX5_pair 29 = .ok (.invokestatic 56, 3) := by decide +kernel
theorem dX5_pair_32 : decode cX5_pair 32 = .ok (.ifCond .ne 6, 3) := by decide +kernel
theorem dX5_pair_35 : decode cX5_pair 35 = .ok (.bipush (-2), 2) := by decide +kernel
theorem dX5_pair_37 : decode cX5_pair 37 = .ok (.ireturn, 1) := by decide +kernel
theorem dX5_pair_38 : decode cX5_pair 38 = .ok (.aload_n 0, 1) := by decide +kernel
theorem dX5_pair_39 : decode cX5_pair 39 = .ok (.getfield 34, 3) := by decide +kernel
theorem dX5_pair_42 : decode cX5_pair 42 = .ok (.aload_n 0, 1) := by decide +kernel
theorem dX5_pair_43 : decode cX5_pair 43 = .ok (.getfield 10, 3) := by decide +kernel
theorem dX5_pair_46 : decode cX5_pair 46 = .ok (.iload_n 1, 1) := by decide +kernel
theorem dX5_pair_47 : decode cX5_pair 47 = .ok (.iload_n 2, 1) := by decide +kernel
theorem dX5_pair_48 : decode cX5_pair 48 = .ok (.invokevirtual 100, 3) := by decide +kernel
theorem dX5_pair_51 : decode cX5_pair 51 = .ok (.iconst 0, 1) := by decide +kernel
theorem dX5_pair_52 : decode cX5_pair 52 = .ok (.istore 5, 2) := by decide +kernel
theorem dX5_pair_54 : decode cX5_pair 54 = .ok (.iload 5, 2) := by decide +kernel
theorem dX5_pair_56 : decode cX5_pair 56 = .ok (.iload_n 3, 1) := by decide +kernel
theorem dX5_pair_57 : decode cX5_pair 57 = .ok (.if_icmp .ge 16, 3) := by decide +kernel
theorem dX5_pair_60 : decode cX5_pair 60 = .ok (.aload_n 0, 1) := by decide +kernel
theorem dX5_pair_61 : decode cX5_pair 61 = .ok (.getfield 34, 3) := by decide +kernel
theorem dX5_pair_64 : decode cX5_pair 64 = .ok (.invokevirtual 104, 3) := by decide +kernel
theorem dX5_pair_67 : decode cX5_pair 67 = .ok (.iinc 5 1, 3) := by decide +kernel
theorem dX5_pair_70 : decode cX5_pair 70 = .ok (.goto (-16), 3) := by decide +kernel
theorem dX5_pair_73 : decode cX5_pair 73 = .ok (.iload 4, 2) := by decide +kernel
theorem dX5_pair_75 : decode cX5_pair 75 = .ok (.tableswitch 61 0 3 #[29, 37, 45, 53], 29) := by decide +kernel
theorem dX5_pair_104 : decode cX5_pair 104 = .ok (.aload_n 0, 1) := by decide +kernel
theorem dX5_pair_105 : decode cX5_pair 105 = .ok (.getfield 34, 3) := by decide +kernel
theorem dX5_pair_108 : decode cX5_pair 108 = .ok (.invokevirtual 107, 3) := by decide +kernel
theorem dX5_pair_111 : decode cX5_pair 111 = .ok (.ireturn, 1) := by decide +kernel
theorem dX5_pair_112 : decode cX5_pair 112 = .ok (.aload_n 0, 1) := by decide +kernel
theorem dX5_pair_113 : decode cX5_pair 113 = .ok (.getfield 34, 3) := by decide +kernel
theorem dX5_pair_116 : decode cX5_pair 116 = .ok (.getfield 110, 3) := by decide +kernel
theorem dX5_pair_119 : decode cX5_pair 119 = .ok (.ireturn, 1) := by decide +kernel
theorem dX5_pair_120 : decode cX5_pair 120 = .ok (.aload_n 0, 1) := by decide +kernel
theorem dX5_pair_121 : decode cX5_pair 121 = .ok (.getfield 34, 3) := by decide +kernel
theorem dX5_pair_124 : decode cX5_pair 124 = .ok (.getfield 113, 3) := by decide +kernel
theorem dX5_pair_127 : decode cX5_pair 127 = .ok (.ireturn, 1) := by decide +kernel
theorem dX5_pair_128 : decode cX5_pair 128 = .ok (.aload_n 0, 1) := by decide +kernel
theorem dX5_pair_129 : decode cX5_pair 129 = .ok (.getfield 34, 3) := by decide +kernel
theorem dX5_pair_132 : decode cX5_pair 132 = .ok (.getfield 116, 3) := by decide +kernel
theorem dX5_pair_135 : decode cX5_pair 135 = .ok (.ireturn, 1) := by decide +kernel
theorem dX5_pair_136 : decode cX5_pair 136 = .ok (.aload_n 0, 1) := by decide +kernel
theorem dX5_pair_137 : decode cX5_pair 137 = .ok (.getfield 34, 3) := by decide +kernel
theorem dX5_pair_140 : decode cX5_pair 140 = .ok (.invokevirtual 119, 3) := by decide +kernel
theorem dX5_pair_143 : decode cX5_pair 143 = .ok (.ireturn, 1) := by decide +kernel
set_option maxRecDepth 20000 in
theorem ggX5_reach_X5_refusalOfRace : GoodIn wsX5_reach wsX5_refusalOfRace := goodIn_r _ [7, 8, 9, 10, 11, 12, 13, 14, 15, 16, 17, 18, 19, 20, 6, 21, 22, 23, 24, 87, 88, 89, 90, 91, 92, 93, 94, 111, 112, 113, 114, 115, 116, 117] (by decide +kernel) (by decide +kernel)
set_option maxRecDepth 20000 in
theorem gX5_reach_X5_refusalOfRace : GoodIn wsX5_reach (wsV RX5 122 RX5 yX5_refusalOfRace wsX5_refusalOfRace) := goodIn_app (goodIn_of _ (by decide +kernel)) ggX5_reach_X5_refusalOfRace
set_option maxRecDepth 20000 in
theorem ggX5_reach_X5_timeTo : GoodIn wsX5_reach wsX5_timeTo := goodIn_r _ [28, 1, 8, 29, 30, 31, 32, 33, 34, 35, 36, 37, 38, 39, 40, 41, 42, 43, 44, 45, 46, 47, 48, 49, 50, 51, 52, 53, 54, 55, 56, 57, 58, 10, 11, 12, 13, 14, 15, 16, 17, 18, 59, 60, 61, 62, 63, 64, 65, 66, 67, 68, 69, 70, 71, 72, 73, 74, 75, 76, 77, 78, 79, 80, 81, 82, 83, 84, 85, 86, 87, 88, 89, 90, 91, 92, 93, 94, 111, 112, 113, 114, 115, 116, 117, 95, 96, 97, 98, 99, 100, 101, 102, 103, 104, 105, 106, 107, 108, 109, 110] (by decide +kernel) (by decide +kernel)
set_option maxRecDepth 20000 in
theorem gX5_reach_X5_timeTo : GoodIn wsX5_reach (wsV RX5 126 RX5 yX5_timeTo wsX5_timeTo) := goodIn_app (goodIn_of _ (by decide +kernel)) ggX5_reach_X5_timeTo
theorem dX5_reach_0 : decode cX5_reach 0 = .ok (.aload_n 0, 1) := by decide +kernel
theorem dX5_reach_1 : decode cX5_reach 1 = .ok (.iload_n 1, 1) := by decide +kernel
theorem dX5_reach_2 : decode cX5_reach 2 = .ok (.iload_n 2, 1) := by decide +kernel
theorem dX5_reach_3 : decode cX5_reach 3 = .ok (.iload_n 3, 1) := by decide +kernel
theorem dX5_reach_4 : decode cX5_reach 4 = .ok (.iload 4, 2) := by decide +kernel
theorem dX5_reach_6 : decode cX5_reach 6 = .ok (.invokevirtual 122, 3) := by decide +kernel
theorem dX5_reach_9 : decode cX5_reach 9 = .ok (.istore 5, 2) := by decide +kernel
theorem dX5_reach_11 : decode cX5_reach 11 = .ok (.iload 5, 2) := by decide +kernel
theorem dX5_reach_13 : decode cX5_reach 13 = .ok (.ifCond .eq 6, 3) := by decide +kernel
theorem dX5_reach_16 : decode cX5_reach 16 = .ok (.iload 5, 2) := by decide +kernel
theorem dX5_reach_18 : decode cX5_reach 18 = .ok (.ireturn, 1) := by decide +kernel
theorem dX5_reach_19 : decode cX5_reach 19 = .ok (.aload_n 0, 1) := by decide +kernel
theorem dX5_reach_20 : decode cX5_reach 20 = .ok (.iload_n 1, 1) := by decide +kernel
theorem dX5_reach_21 : decode cX5_reach 21 = .ok (.iload_n 2, 1) := by decide +kernel
theorem dX5_reach_22 : decode cX5_reach 22 = .ok (.iload_n 3, 1) := by decide +kernel
theorem dX5_reach_23 : decode cX5_reach 23 = .ok (.invokevirtual 126, 3) := by decide +kernel
theorem dX5_reach_26 : decode cX5_reach 26 = .ok (.istore 6, 2) := by decide +kernel
theorem dX5_reach_28 : decode cX5_reach 28 = .ok (.iload 6, 2) := by decide +kernel
theorem dX5_reach_30 : decode cX5_reach 30 = .ok (.bipush (-6), 2) := by decide +kernel
theorem dX5_reach_32 : decode cX5_reach 32 = .ok (.if_icmp .ne 6, 3) := by decide +kernel
theorem dX5_reach_35 : decode cX5_reach 35 = .ok (.bipush (-6), 2) := by decide +kernel
theorem dX5_reach_37 : decode cX5_reach 37 = .ok (.ireturn, 1) := by decide +kernel
theorem dX5_reach_38 : decode cX5_reach 38 = .ok (.iload 4, 2) := by decide +kernel
theorem dX5_reach_40 : decode cX5_reach 40 = .ok (.ifCond .ne 15, 3) := by decide +kernel
theorem dX5_reach_43 : decode cX5_reach 43 = .ok (.aload_n 0, 1) := by decide +kernel
theorem dX5_reach_44 : decode cX5_reach 44 = .ok (.getfield 34, 3) := by decide +kernel
theorem dX5_reach_47 : decode cX5_reach 47 = .ok (.getfield 130, 3) := by decide +kernel
theorem dX5_reach_50 : decode cX5_reach 50 = .ok (.iconst 1, 1) := by decide +kernel
theorem dX5_reach_51 : decode cX5_reach 51 = .ok (.isub, 1) := by decide +kernel
theorem dX5_reach_52 : decode cX5_reach 52 = .ok (.goto 5, 3) := by decide +kernel
theorem dX5_reach_55 : decode cX5_reach 55 = .ok (.iload 6, 2) := by decide +kernel
theorem dX5_reach_57 : decode cX5_reach 57 = .ok (.ireturn, 1) := by decide +kernel
set_option maxRecDepth 20000 in
theorem ggX5_who_X0_canTie : GoodIn wsX5_who wsX0_canTie := goodIn_r _ [9, 10, 11, 12, 8, 13, 14, 93, 94, 95, 96, 97, 98, 99] (by decide +kernel) (by decide +kernel)
set_option maxRecDepth 20000 in
theorem gX5_who_X0_canTie : GoodIn wsX5_who (wsV RX5 96 RX0 yX0_canTie wsX0_canTie) := goodIn_app (goodIn_of _ (by decide +kernel)) ggX5_who_X0_canTie
set_option maxRecDepth 20000 in
theorem ggX5_who_X5_isWithin : GoodIn wsX5_who wsX5_isWithin := goodIn_r _ [18] (by decide +kernel) (by decide +kernel)
set_option maxRecDepth 20000 in
theorem gX5_who_X5_isWithin : GoodIn wsX5_who (va_wsS RX5 56 yX5_isWithin wsX5_isWithin) := goodIn_app (goodIn_of _ (by decide +kernel)) ggX5_who_X5_isWithin
set_option maxRecDepth 20000 in
theorem ggX5_who_X4_tie : GoodIn wsX5_who wsX4_tie := goodIn_r _ [23, 24, 25, 26, 27, 28, 29, 30, 31, 32, 33, 34, 35, 36, 37, 38, 39, 40, 41, 42, 43, 44, 45, 46, 47, 48, 6, 7, 8, 9, 10, 11, 12, 13, 14, 93, 94, 95, 96, 97, 98, 99, 77, 78, 79, 80, 81, 82, 83, 84, 85, 86, 87, 88, 89, 90, 91, 92] (by decide +kernel) (by decide +kernel)
set_option maxRecDepth 20000 in
theorem gX5_who_X4_tie : GoodIn wsX5_who (wsV RX5 100 RX4 yX4_tie wsX4_tie) := goodIn_app (goodIn_of _ (by decide +kernel)) ggX5_who_X4_tie
set_option maxRecDepth 20000 in
theorem ggX5_who_X4_standsFor : GoodIn wsX5_who wsX4_standsFor := goodIn_r _ [52, 47, 53, 54, 55, 22, 56, 42, 25, 28, 43, 57, 58, 33, 59, 26, 29, 60, 44, 39, 61, 41, 37, 46, 45, 35, 62, 63, 64, 65, 66, 67, 68, 77, 78, 79, 80, 81, 82, 83, 84, 85, 86, 87, 88, 89, 90, 91, 92] (by decide +kernel) (by decide +kernel)
set_option maxRecDepth 20000 in
theorem gX5_who_X4_standsFor : GoodIn wsX5_who (wsV RX5 133 RX4 yX4_standsFor wsX4_standsFor) := goodIn_app (goodIn_of _ (by decide +kernel)) ggX5_who_X4_standsFor
theorem dX5_who_0 : decode cX5_who 0 = .ok (.aload_n 0, 1) := by decide +kernel
theorem dX5_who_1 : decode cX5_who 1 = .ok (.getfield 10, 3) := by decide +kernel
theorem dX5_who_4 : decode cX5_who 4 = .ok (.iload_n 1, 1) := by decide +kernel
theorem dX5_who_5 : decode cX5_who 5 = .ok (.iload_n 2, 1) := by decide +kernel
theorem dX5_who_6 : decode cX5_who 6 = .ok (.invokevirtual 96, 3) := by decide +kernel
theorem dX5_who_9 : decode cX5_who 9 = .ok (.ifCond .ne 5, 3) := by decide +kernel
theorem dX5_who_12 : decode cX5_who 12 = .ok (.iconst (-1), 1) := by decide +kernel
theorem dX5_who_13 : decode cX5_who 13 = .ok (.ireturn, 1) := by decide +kernel
theorem dX5_who_14 : decode cX5_who 14 = .ok (.iload_n 3, 1) := by decide +kernel
theorem dX5_who_15 : decode cX5_who 15 = .ok (.iconst 0, 1) := by decide +kernel
theorem dX5_who_16 : decode cX5_who 16 = .ok (.iconst 1, 1) := by decide +kernel
theorem dX5_who_17 : decode cX5_who 17 = .ok (.invokestatic 56, 3) := by decide +kernel
theorem dX5_who_20 : decode cX5_who 20 = .ok (.ifCond .ne 6, 3) := by decide +kernel
theorem dX5_who_23 : decode cX5_who 23 = .ok (.bipush (-2), 2) := by decide +kernel
theorem dX5_who_25 : decode cX5_who 25 = .ok (.ireturn, 1) := by decide +kernel
theorem dX5_who_26 : decode cX5_who 26 = .ok (.aload_n 0, 1) := by decide +kernel
theorem dX5_who_27 : decode cX5_who 27 = .ok (.getfield 34, 3) := by decide +kernel
theorem dX5_who_30 : decode cX5_who 30 = .ok (.aload_n 0, 1) := by decide +kernel
theorem dX5_who_31 : decode cX5_who 31 = .ok (.getfield 10, 3) := by decide +kernel
theorem dX5_who_34 : decode cX5_who 34 = .ok (.iload_n 1, 1) := by decide +kernel
theorem dX5_who_35 : decode cX5_who 35 = .ok (.iload_n 2, 1) := by decide +kernel
theorem dX5_who_36 : decode cX5_who 36 = .ok (.invokevirtual 100, 3) := by decide +kernel
theorem dX5_who_39 : decode cX5_who 39 = .ok (.aload_n 0, 1) := by decide +kernel
theorem dX5_who_40 : decode cX5_who 40 = .ok (.getfield 34, 3) := by decide +kernel
theorem dX5_who_43 : decode cX5_who 43 = .ok (.sipush 999, 3) := by decide +kernel
theorem dX5_who_46 : decode cX5_who 46 = .ok (.invokevirtual 133, 3) := by decide +kernel
theorem dX5_who_49 : decode cX5_who 49 = .ok (.ifCond .eq 6, 3) := by decide +kernel
theorem dX5_who_52 : decode cX5_who 52 = .ok (.bipush (-6), 2) := by decide +kernel
theorem dX5_who_54 : decode cX5_who 54 = .ok (.ireturn, 1) := by decide +kernel
theorem dX5_who_55 : decode cX5_who 55 = .ok (.iload_n 3, 1) := by decide +kernel
theorem dX5_who_56 : decode cX5_who 56 = .ok (.ifCond .ne 13, 3) := by decide +kernel
theorem dX5_who_59 : decode cX5_who 59 = .ok (.aload_n 0, 1) := by decide +kernel
theorem dX5_who_60 : decode cX5_who 60 = .ok (.getfield 34, 3) := by decide +kernel
theorem dX5_who_63 : decode cX5_who 63 = .ok (.getfield 130, 3) := by decide +kernel
theorem dX5_who_66 : decode cX5_who 66 = .ok (.iconst 1, 1) := by decide +kernel
theorem dX5_who_67 : decode cX5_who 67 = .ok (.isub, 1) := by decide +kernel
theorem dX5_who_68 : decode cX5_who 68 = .ok (.ireturn, 1) := by decide +kernel
theorem dX5_who_69 : decode cX5_who 69 = .ok (.aload_n 0, 1) := by decide +kernel
theorem dX5_who_70 : decode cX5_who 70 = .ok (.getfield 34, 3) := by decide +kernel
theorem dX5_who_73 : decode cX5_who 73 = .ok (.getfield 136, 3) := by decide +kernel
theorem dX5_who_76 : decode cX5_who 76 = .ok (.ifCond .eq 7, 3) := by decide +kernel
theorem dX5_who_79 : decode cX5_who 79 = .ok (.iload_n 1, 1) := by decide +kernel
theorem dX5_who_80 : decode cX5_who 80 = .ok (.goto 4, 3) := by decide +kernel
theorem dX5_who_83 : decode cX5_who 83 = .ok (.iload_n 2, 1) := by decide +kernel
theorem dX5_who_84 : decode cX5_who 84 = .ok (.ireturn, 1) := by decide +kernel
set_option maxRecDepth 20000 in
theorem ggX5_alone_X0_hasRunner : GoodIn wsX5_alone wsX0_hasRunner := goodIn_r _ [8, 9, 25, 26, 27, 28, 29, 30, 31] (by decide +kernel) (by decide +kernel)
set_option maxRecDepth 20000 in
theorem gX5_alone_X0_hasRunner : GoodIn wsX5_alone (wsV RX5 68 RX0 yX0_hasRunner wsX0_hasRunner) := goodIn_app (goodIn_of _ (by decide +kernel)) ggX5_alone_X0_hasRunner
set_option maxRecDepth 20000 in
theorem ggX5_alone_X5_isFeet : GoodIn wsX5_alone wsX5_isFeet := goodIn_r _ [13, 14, 15, 12, 16] (by decide +kernel) (by decide +kernel)
set_option maxRecDepth 20000 in
theorem gX5_alone_X5_isFeet : GoodIn wsX5_alone (va_wsS RX5 140 yX5_isFeet wsX5_isFeet) := goodIn_app (goodIn_of _ (by decide +kernel)) ggX5_alone_X5_isFeet
theorem dX5_alone_0 : decode cX5_alone 0 = .ok (.aload_n 0, 1) := by decide +kernel
theorem dX5_alone_1 : decode cX5_alone 1 = .ok (.getfield 10, 3) := by decide +kernel
theorem dX5_alone_4 : decode cX5_alone 4 = .ok (.iload_n 1, 1) := by decide +kernel
theorem dX5_alone_5 : decode cX5_alone 5 = .ok (.invokevirtual 68, 3) := by decide +kernel
theorem dX5_alone_8 : decode cX5_alone 8 = .ok (.ifCond .ne 5, 3) := by decide +kernel
theorem dX5_alone_11 : decode cX5_alone 11 = .ok (.iconst (-1), 1) := by decide +kernel
theorem dX5_alone_12 : decode cX5_alone 12 = .ok (.ireturn, 1) := by decide +kernel
theorem dX5_alone_13 : decode cX5_alone 13 = .ok (.iload_n 2, 1) := by decide +kernel
theorem dX5_alone_14 : decode cX5_alone 14 = .ok (.invokestatic 140, 3) := by decide +kernel
theorem dX5_alone_17 : decode cX5_alone 17 = .ok (.ifCond .ne 6, 3) := by decide +kernel
theorem dX5_alone_20 : decode cX5_alone 20 = .ok (.bipush (-2), 2) := by decide +kernel
theorem dX5_alone_22 : decode cX5_alone 22 = .ok (.ireturn, 1) := by decide +kernel
theorem dX5_alone_23 : decode cX5_alone 23 = .ok (.iconst 0, 1) := by decide +kernel
theorem dX5_alone_24 : decode cX5_alone 24 = .ok (.istore_n 3, 1) := by decide +kernel
theorem dX5_alone_25 : decode cX5_alone 25 = .ok (.iconst 0, 1) := by decide +kernel
theorem dX5_alone_26 : decode cX5_alone 26 = .ok (.istore 4, 2) := by decide +kernel
theorem dX5_alone_28 : decode cX5_alone 28 = .ok (.iconst 0, 1) := by decide +kernel
theorem dX5_alone_29 : decode cX5_alone 29 = .ok (.istore 5, 2) := by decide +kernel
theorem dX5_alone_31 : decode cX5_alone 31 = .ok (.iload 5, 2) := by decide +kernel
theorem dX5_alone_33 : decode cX5_alone 33 = .ok (.sipush 999, 3) := by decide +kernel
theorem dX5_alone_36 : decode cX5_alone 36 = .ok (.if_icmp .ge 41, 3) := by decide +kernel
theorem dX5_alone_39 : decode cX5_alone 39 = .ok (.iload 4, 2) := by decide +kernel
theorem dX5_alone_41 : decode cX5_alone 41 = .ok (.iload_n 2, 1) := by decide +kernel
theorem dX5_alone_42 : decode cX5_alone 42 = .ok (.if_icmp .ge 35, 3) := by decide +kernel
theorem dX5_alone_45 : decode cX5_alone 45 = .ok (.iload 4, 2) := by decide +kernel
theorem dX5_alone_47 : decode cX5_alone 47 = .ok (.aload_n 0, 1) := by decide +kernel
theorem dX5_alone_48 : decode cX5_alone 48 = .ok (.getfield 10, 3) := by decide +kernel
theorem dX5_alone_51 : decode cX5_alone 51 = .ok (.getfield 143, 3) := by decide +kernel
theorem dX5_alone_54 : decode cX5_alone 54 = .ok (.iload_n 1, 1) := by decide +kernel
theorem dX5_alone_55 : decode cX5_alone 55 = .ok (.iaload, 1) := by decide +kernel
theorem dX5_alone_56 : decode cX5_alone 56 = .ok (.iadd, 1) := by decide +kernel
theorem dX5_alone_57 : decode cX5_alone 57 = .ok (.istore 4, 2) := by decide +kernel
theorem dX5_alone_59 : decode cX5_alone 59 = .ok (.iload_n 3, 1) := by decide +kernel
theorem dX5_alone_60 : decode cX5_alone 60 = .ok (.aload_n 0, 1) := by decide +kernel
theorem dX5_alone_61 : decode cX5_alone 61 = .ok (.getfield 10, 3) := by decide +kernel
theorem dX5_alone_64 : decode cX5_alone 64 = .ok (.getfield 146, 3) := by decide +kernel
theorem dX5_alone_67 : decode cX5_alone 67 = .ok (.iload_n 1, 1) := by decide +kernel
theorem dX5_alone_68 : decode cX5_alone 68 = .ok (.iaload, 1) := by decide +kernel
theorem dX5_alone_69 : decode cX5_alone 69 = .ok (.iadd, 1) := by decide +kernel
theorem dX5_alone_70 : decode cX5_alone 70 = .ok (.istore_n 3, 1) := by decide +kernel
theorem dX5_alone_71 : decode cX5_alone 71 = .ok (.iinc 5 1, 3) := by decide +kernel
theorem dX5_alone_74 : decode cX5_alone 74 = .ok (.goto (-43), 3) := by decide +kernel
theorem dX5_alone_77 : decode cX5_alone 77 = .ok (.iload_n 3, 1) := by decide +kernel
theorem dX5_alone_78 : decode cX5_alone 78 = .ok (.ireturn, 1) := by decide +kernel
set_option maxRecDepth 20000 in
theorem ggX5_tied_X0_count : GoodIn wsX5_tied wsX0_count := goodIn_r _ [10, 11, 12, 13, 9, 14, 15, 16, 17, 18, 19, 20, 21, 22, 156, 157, 158, 159, 160, 161, 162] (by decide +kernel) (by decide +kernel)
set_option maxRecDepth 20000 in
theorem gX5_tied_X0_count : GoodIn wsX5_tied (wsV RX5 64 RX0 yX0_count wsX0_count) := goodIn_app (goodIn_of _ (by decide +kernel)) ggX5_tied_X0_count
set_option maxRecDepth 20000 in
theorem ggX5_tied_X0_hasRunner : GoodIn wsX5_tied wsX0_hasRunner := goodIn_r _ [26, 15, 156, 157, 158, 159, 160, 161, 162] (by decide +kernel) (by decide +kernel)
set_option maxRecDepth 20000 in
theorem gX5_tied_X0_hasRunner : GoodIn wsX5_tied (wsV RX5 68 RX0 yX0_hasRunner wsX0_hasRunner) := goodIn_app (goodIn_of _ (by decide +kernel)) ggX5_tied_X0_hasRunner
set_option maxRecDepth 20000 in
theorem ggX5_tied_X5_isFeet : GoodIn wsX5_tied wsX5_isFeet := goodIn_r _ [30, 31, 32, 29, 33] (by decide +kernel) (by decide +kernel)
set_option maxRecDepth 20000 in
theorem gX5_tied_X5_isFeet : GoodIn wsX5_tied (va_wsS RX5 140 yX5_isFeet wsX5_isFeet) := goodIn_app (goodIn_of _ (by decide +kernel)) ggX5_tied_X5_isFeet
set_option maxRecDepth 20000 in
theorem ggX5_tied_X5_isWithin : GoodIn wsX5_tied wsX5_isWithin := goodIn_r _ [33] (by decide +kernel) (by decide +kernel)
set_option maxRecDepth 20000 in
theorem gX5_tied_X5_isWithin : GoodIn wsX5_tied (va_wsS RX5 56 yX5_isWithin wsX5_isWithin) := goodIn_app (goodIn_of _ (by decide +kernel)) ggX5_tied_X5_isWithin
set_option maxRecDepth 20000 in
theorem ggX5_tied_X5_timeAllPairs : GoodIn wsX5_tied wsX5_timeAllPairs := goodIn_r _ [37, 1, 3, 38, 39, 40, 9, 41, 42, 24, 25, 26, 15, 43, 44, 45, 29, 46, 47, 48, 49, 50, 51, 52, 53, 54, 55, 56, 57, 58, 59, 60, 61, 62, 63, 64, 65, 66, 67, 68, 69, 70, 71, 72, 73, 74, 75, 76, 77, 78, 79, 80, 81, 82, 83, 84, 85, 86, 87, 88, 89, 90, 91, 92, 93, 94, 95, 96, 97, 98, 99, 100, 101, 102, 103, 104, 105, 142, 143, 144, 145, 146, 147, 148, 149, 156, 157, 158, 159, 160, 161, 162, 163, 164, 165, 166, 167, 168, 169, 170, 171, 172, 173, 174, 175, 176, 177, 178] (by decide +kernel) (by decide +kernel)
set_option maxRecDepth 20000 in
theorem gX5_tied_X5_timeAllPairs : GoodIn wsX5_tied (wsV RX5 149 RX5 yX5_timeAllPairs wsX5_timeAllPairs) := goodIn_app (goodIn_of _ (by decide +kernel)) ggX5_tied_X5_timeAllPairs
set_option maxRecDepth 20000 in
theorem ggX5_tied_X2_seek : GoodIn wsX5_tied wsX2_seek := goodIn_r _ [110, 111, 112, 113, 114, 115, 116, 117, 118, 119, 120, 121, 7, 8, 9, 10, 11, 12, 13, 14, 15, 16, 17, 18, 19, 20, 21, 22, 122, 123, 124, 109, 125, 126, 127, 128, 87, 62, 88, 129, 130, 131, 132, 133, 24, 25, 26, 134, 135, 136, 137, 138, 139, 140, 141, 150, 151, 152, 153, 154, 155, 156, 157, 158, 159, 160, 161, 162] (by decide +kernel) (by decide +kernel)
set_option maxRecDepth 20000 in
theorem gX5_tied_X2_seek : GoodIn wsX5_tied (wsV RX5 152 RX2 yX2_seek wsX2_seek) := goodIn_app (goodIn_of _ (by decide +kernel)) ggX5_tied_X2_seek
theorem dX5_tied_0 : decode cX5_tied 0 = .ok (.aload_n 0, 1) := by decide +kernel
theorem dX5_tied_1 : decode cX5_tied 1 = .ok (.getfield 10, 3) := by decide +kernel
theorem dX5_tied_4 : decode cX5_tied 4 = .ok (.invokevirtual 64, 3) := by decide +kernel
theorem dX5_tied_7 : decode cX5_tied 7 = .ok (.istore 4, 2) := by decide +kernel
theorem dX5_tied_9 : decode cX5_tied 9 = .ok (.iload 4, 2) := by decide +kernel
theorem dX5_tied_11 : decode cX5_tied 11 = .ok (.ifCond .eq 10, 3) := by decide +kernel
theorem dX5_tied_14 : decode cX5_tied 14 = .ok (.iload 4, 2) := by decide +kernel
theorem dX5_tied_16 : decode cX5_tied 16 = .ok (.iconst 2, 1) := by decide +kernel
theorem dX5_tied_17 : decode cX5_tied 17 = .ok (.irem, 1) := by decide +kernel
theorem dX5_tied_18 : decode cX5_tied 18 = .ok (.ifCond .eq 6, 3) := by decide +kernel
theorem dX5_tied_21 : decode cX5_tied 21 = .ok (.bipush (-3), 2) := by decide +kernel
theorem dX5_tied_23 : decode cX5_tied 23 = .ok (.ireturn, 1) := by decide +kernel
theorem dX5_tied_24 : decode cX5_tied 24 = .ok (.iload_n 3, 1) := by decide +kernel
theorem dX5_tied_25 : decode cX5_tied 25 = .ok (.iconst (-1), 1) := by decide +kernel
theorem dX5_tied_26 : decode cX5_tied 26 = .ok (.if_icmp .eq 16, 3) := by decide +kernel
theorem dX5_tied_29 : decode cX5_tied 29 = .ok (.aload_n 0, 1) := by decide +kernel
theorem dX5_tied_30 : decode cX5_tied 30 = .ok (.getfield 10, 3) := by decide +kernel
theorem dX5_tied_33 : decode cX5_tied 33 = .ok (.iload_n 3, 1) := by decide +kernel
theorem dX5_tied_34 : decode cX5_tied 34 = .ok (.invokevirtual 68, 3) := by decide +kernel
theorem dX5_tied_37 : decode cX5_tied 37 = .ok (.ifCond .ne 5, 3) := by decide +kernel
theorem dX5_tied_40 : decode cX5_tied 40 = .ok (.iconst (-1), 1) := by decide +kernel
theorem dX5_tied_41 : decode cX5_tied 41 = .ok (.ireturn, 1) := by decide +kernel
theorem dX5_tied_42 : decode cX5_tied 42 = .ok (.iload_n 1, 1) := by decide +kernel
theorem dX5_tied_43 : decode cX5_tied 43 = .ok (.invokestatic 140, 3) := by decide +kernel
theorem dX5_tied_46 : decode cX5_tied 46 = .ok (.ifCond .eq 12, 3) := by decide +kernel
theorem dX5_tied_49 : decode cX5_tied 49 = .ok (.iload_n 2, 1) := by decide +kernel
theorem dX5_tied_50 : decode cX5_tied 50 = .ok (.iconst 0, 1) := by decide +kernel
theorem dX5_tied_51 : decode cX5_tied 51 = .ok (.iconst 1, 1) := by decide +kernel
theorem dX5_tied_52 : decode cX5_tied 52 = .ok (.invokestatic 56, 3) := by decide +kernel
theorem dX5_tied_55 : decode cX5_tied 55 = .ok (.ifCond .ne 6, 3) := by decide +kernel
theorem dX5_tied_58 : decode cX5_tied 58 = .ok (.bipush (-2), 2) := by decide +kernel
theorem dX5_tied_60 : decode cX5_tied 60 = .ok (.ireturn, 1) := by decide +kernel
theorem dX5_tied_61 : decode cX5_tied 61 = .ok (.aload_n 0, 1) := by decide +kernel
theorem dX5_tied_62 : decode cX5_tied 62 = .ok (.iload_n 1, 1) := by decide +kernel
theorem dX5_tied_63 : decode cX5_tied 63 = .ok (.invokevirtual 149, 3) := by decide +kernel
theorem dX5_tied_66 : decode cX5_tied 66 = .ok (.aload_n 0, 1) := by decide +kernel
theorem dX5_tied_67 : decode cX5_tied 67 = .ok (.getfield 41, 3) := by decide +kernel
theorem dX5_tied_70 : decode cX5_tied 70 = .ok (.aload_n 0, 1) := by decide +kernel
theorem dX5_tied_71 : decode cX5_tied 71 = .ok (.getfield 10, 3) := by decide +kernel
theorem dX5_tied_74 : decode cX5_tied 74 = .ok (.aload_n 0, 1) := by decide +kernel
theorem dX5_tied_75 : decode cX5_tied 75 = .ok (.getfield 52, 3) := by decide +kernel
theorem dX5_tied_78 : decode cX5_tied 78 = .ok (.iload_n 2, 1) := by decide +kernel
theorem dX5_tied_79 : decode cX5_tied 79 = .ok (.iconst 1, 1) := by decide +kernel
theorem dX5_tied_80 : decode cX5_tied 80 = .ok (.if_icmp .ne 7, 3) := by decide +kernel
theorem dX5_tied_83 : decode cX5_tied 83 = .ok (.iconst 1, 1) := by decide +kernel
theorem dX5_tied_84 : decode cX5_tied 84 = .ok (.goto 4, 3) := by decide +kernel
theorem dX5_tied_87 : decode cX5_tied 87 = .ok (.iconst 0, 1) := by decide +kernel
theorem dX5_tied_88 : decode cX5_tied 88 = .ok (.invokevirtual 152, 3) := by decide +kernel
theorem dX5_tied_91 : decode cX5_tied 91 = .ok (.iload_n 3, 1) := by decide +kernel
theorem dX5_tied_92 : decode cX5_tied 92 = .ok (.iconst (-1), 1) := by decide +kernel
theorem dX5_tied_93 : decode cX5_tied 93 = .ok (.if_icmp .ne 13, 3) := by decide +kernel
theorem dX5_tied_96 : decode cX5_tied 96 = .ok (.aload_n 0, 1) := by decide +kernel
theorem dX5_tied_97 : decode cX5_tied 97 = .ok (.getfield 41, 3) := by decide +kernel
theorem dX5_tied_100 : decode cX5_tied 100 = .ok (.getfield 156, 3) := by decide +kernel
theorem dX5_tied_103 : decode cX5_tied 103 = .ok (.goto 12, 3) := by decide +kernel
theorem dX5_tied_106 : decode cX5_tied 106 = .ok (.aload_n 0, 1) := by decide +kernel
theorem dX5_tied_107 : decode cX5_tied 107 = .ok (.getfield 41, 3) := by decide +kernel
theorem dX5_tied_110 : decode cX5_tied 110 = .ok (.getfield 159, 3) := by decide +kernel
theorem dX5_tied_113 : decode cX5_tied 113 = .ok (.iload_n 3, 1) := by decide +kernel
theorem dX5_tied_114 : decode cX5_tied 114 = .ok (.iaload, 1) := by decide +kernel
theorem dX5_tied_115 : decode cX5_tied 115 = .ok (.ireturn, 1) := by decide +kernel
set_option maxRecDepth 20000 in
theorem ggX5_call_X5_refusalOfRace : GoodIn wsX5_call wsX5_refusalOfRace := goodIn_r _ [8, 3, 9, 10, 11, 12, 13, 14, 15, 16, 17, 18, 19, 20, 7, 21, 22, 23, 24, 102, 103, 104, 105, 106, 107, 108, 109, 110, 111, 112, 113, 114, 115, 116] (by decide +kernel) (by decide +kernel)
set_option maxRecDepth 20000 in
theorem gX5_call_X5_refusalOfRace : GoodIn wsX5_call (wsV RX5 122 RX5 yX5_refusalOfRace wsX5_refusalOfRace) := goodIn_app (goodIn_of _ (by decide +kernel)) ggX5_call_X5_refusalOfRace
set_option maxRecDepth 20000 in
theorem ggX5_call_X3_clear : GoodIn wsX5_call wsX3_clear := goodIn_r _ [29, 30, 31, 117, 118] (by decide +kernel) (by decide +kernel)
set_option maxRecDepth 20000 in
theorem gX5_call_X3_clear : GoodIn wsX5_call (wsV RX5 162 RX3 yX3_clear wsX3_clear) := goodIn_app (goodIn_of _ (by decide +kernel)) ggX5_call_X3_clear
set_option maxRecDepth 20000 in
theorem ggX5_call_X4_tie : GoodIn wsX5_call wsX4_tie := goodIn_r _ [36, 37, 38, 39, 40, 41, 42, 43, 44, 45, 46, 47, 48, 49, 50, 51, 52, 53, 54, 55, 56, 57, 58, 59, 60, 61, 10, 11, 12, 13, 14, 15, 16, 17, 18, 110, 111, 112, 113, 114, 115, 116, 119, 120, 121, 122, 123, 124, 125, 126, 127, 128, 129, 130, 131, 132, 133, 134] (by decide +kernel) (by decide +kernel)
set_option maxRecDepth 20000 in
theorem gX5_call_X4_tie : GoodIn wsX5_call (wsV RX5 100 RX4 yX4_tie wsX4_tie) := goodIn_app (goodIn_of _ (by decide +kernel)) ggX5_call_X4_tie
set_option maxRecDepth 20000 in
theorem ggX5_call_X4_beatBoth : GoodIn wsX5_call wsX4_beatBoth := goodIn_r _ [65, 38, 39, 119, 120, 121, 122, 123, 124, 125, 126, 127, 128, 129, 130, 131, 132, 133, 134] (by decide +kernel) (by decide +kernel)
set_option maxRecDepth 20000 in
theorem gX5_call_X4_beatBoth : GoodIn wsX5_call (wsV RX5 165 RX4 yX4_beatBoth wsX4_beatBoth) := goodIn_app (goodIn_of _ (by decide +kernel)) ggX5_call_X4_beatBoth
set_option maxRecDepth 20000 in
theorem ggX5_call_X4_timeTo : GoodIn wsX5_call wsX4_timeTo := goodIn_r _ [69, 58, 70, 71, 72, 35, 73, 38, 74, 75, 46, 76, 39, 77, 78, 79, 80, 55, 41, 56, 42, 81, 57, 52, 60, 82, 54, 50, 59, 48, 83, 84, 85, 86, 87, 88, 89, 90, 91, 92, 93, 119, 120, 121, 122, 123, 124, 125, 126, 127, 128, 129, 130, 131, 132, 133, 134] (by decide +kernel) (by decide +kernel)
set_option maxRecDepth 20000 in
theorem gX5_call_X4_timeTo : GoodIn wsX5_call (wsV RX5 168 RX4 yX4_timeTo wsX4_timeTo) := goodIn_app (goodIn_of _ (by decide +kernel)) ggX5_call_X4_timeTo
set_option maxRecDepth 20000 in
theorem ggX5_call_X3_offer : GoodIn wsX5_call wsX3_offer := goodIn_r _ [97, 30, 31, 117, 118] (by decide +kernel) (by decide +kernel)
set_option maxRecDepth 20000 in
theorem gX5_call_X3_offer : GoodIn wsX5_call (wsV RX5 171 RX3 yX3_offer wsX3_offer) := goodIn_app (goodIn_of _ (by decide +kernel)) ggX5_call_X3_offer
set_option maxRecDepth 20000 in
theorem ggX5_call_X3_answer : GoodIn wsX5_call wsX3_answer := goodIn_r _ [101, 31, 30, 117, 118] (by decide +kernel) (by decide +kernel)
set_option maxRecDepth 20000 in
theorem gX5_call_X3_answer : GoodIn wsX5_call (wsV RX5 175 RX3 yX3_answer wsX3_answer) := goodIn_app (goodIn_of _ (by decide +kernel)) ggX5_call_X3_answer
theorem dX5_call_0 : decode cX5_call 0 = .ok (.aload_n 0, 1) := by decide +kernel
theorem dX5_call_1 : decode cX5_call 1 = .ok (.iload_n 1, 1) := by decide +kernel
theorem dX5_call_2 : decode cX5_call 2 = .ok (.iload_n 2, 1) := by decide +kernel
theorem dX5_call_3 : decode cX5_call 3 = .ok (.iload_n 3, 1) := by decide +kernel
theorem dX5_call_4 : decode cX5_call 4 = .ok (.iload 4, 2) := by decide +kernel
theorem dX5_call_6 : decode cX5_call 6 = .ok (.invokevirtual 122, 3) := by decide +kernel
theorem dX5_call_9 : decode cX5_call 9 = .ok (.istore 5, 2) := by decide +kernel
theorem dX5_call_11 : decode cX5_call 11 = .ok (.iload 5, 2) := by decide +kernel
theorem dX5_call_13 : decode cX5_call 13 = .ok (.ifCond .eq 6, 3) := by decide +kernel
theorem dX5_call_16 : decode cX5_call 16 = .ok (.iload 5, 2) := by decide +kernel
theorem dX5_call_18 : decode cX5_call 18 = .ok (.ireturn, 1) := by decide +kernel
theorem dX5_call_19 : decode cX5_call 19 = .ok (.aload_n 0, 1) := by decide +kernel
theorem dX5_call_20 : decode cX5_call 20 = .ok (.getfield 48, 3) := by decide +kernel
theorem dX5_call_23 : decode cX5_call 23 = .ok (.invokevirtual 162, 3) := by decide +kernel
theorem dX5_call_26 : decode cX5_call 26 = .ok (.iconst 4, 1) := by decide +kernel
theorem dX5_call_27 : decode cX5_call 27 = .ok (.istore 6, 2) := by decide +kernel
theorem dX5_call_29 : decode cX5_call 29 = .ok (.iload 6, 2) := by decide +kernel
theorem dX5_call_31 : decode cX5_call 31 = .ok (.bipush 20, 2) := by decide +kernel
theorem dX5_call_33 : decode cX5_call 33 = .ok (.if_icmp .gt 49, 3) := by decide +kernel
theorem dX5_call_36 : decode cX5_call 36 = .ok (.aload_n 0, 1) := by decide +kernel
theorem dX5_call_37 : decode cX5_call 37 = .ok (.getfield 34, 3) := by decide +kernel
theorem dX5_call_40 : decode cX5_call 40 = .ok (.aload_n 0, 1) := by decide +kernel
theorem dX5_call_41 : decode cX5_call 41 = .ok (.getfield 10, 3) := by decide +kernel
theorem dX5_call_44 : decode cX5_call 44 = .ok (.iload_n 1, 1) := by decide +kernel
theorem dX5_call_45 : decode cX5_call 45 = .ok (.iload_n 2, 1) := by decide +kernel
theorem dX5_call_46 : decode cX5_call 46 = .ok (.invokevirtual 100, 3) := by decide +kernel
theorem dX5_call_49 : decode cX5_call 49 = .ok (.aload_n 0, 1) := by decide +kernel
theorem dX5_call_50 : decode cX5_call 50 = .ok (.getfield 34, 3) := by decide +kernel
theorem dX5_call_53 : decode cX5_call 53 = .ok (.iload 6, 2) := by decide +kernel
theorem dX5_call_55 : decode cX5_call 55 = .ok (.invokevirtual 165, 3) := by decide +kernel
theorem dX5_call_58 : decode cX5_call 58 = .ok (.aload_n 0, 1) := by decide +kernel
theorem dX5_call_59 : decode cX5_call 59 = .ok (.getfield 48, 3) := by decide +kernel
theorem dX5_call_62 : decode cX5_call 62 = .ok (.iload 6, 2) := by decide +kernel
theorem dX5_call_64 : decode cX5_call 64 = .ok (.aload_n 0, 1) := by decide +kernel
theorem dX5_call_65 : decode cX5_call 65 = .ok (.getfield 34, 3) := by decide +kernel
theorem dX5_call_68 : decode cX5_call 68 = .ok (.iload_n 3, 1) := by decide +kernel
theorem dX5_call_69 : decode cX5_call 69 = .ok (.iconst (-1), 1) := by decide +kernel
theorem dX5_call_70 : decode cX5_call 70 = .ok (.invokevirtual 168, 3) := by decide +kernel
theorem dX5_call_73 : decode cX5_call 73 = .ok (.invokevirtual 171, 3) := by decide +kernel
theorem dX5_call_76 : decode cX5_call 76 = .ok (.iinc 6 1, 3) := by decide +kernel
theorem dX5_call_79 : decode cX5_call 79 = .ok (.goto (-50), 3) := by decide +kernel
theorem dX5_call_82 : decode cX5_call 82 = .ok (.aload_n 0, 1) := by decide +kernel
theorem dX5_call_83 : decode cX5_call 83 = .ok (.getfield 48, 3) := by decide +kernel
theorem dX5_call_86 : decode cX5_call 86 = .ok (.iload 4, 2) := by decide +kernel
theorem dX5_call_88 : decode cX5_call 88 = .ok (.invokevirtual 175, 3) := by decide +kernel
theorem dX5_call_91 : decode cX5_call 91 = .ok (.ireturn, 1) := by decide +kernel
set_option maxRecDepth 20000 in
theorem ggX5_quicken_X5_refusalOfRace : GoodIn wsX5_quicken wsX5_refusalOfRace := goodIn_r _ [8, 3, 9, 10, 11, 12, 13, 14, 15, 16, 17, 18, 19, 20, 7, 21, 22, 23, 24, 102, 103, 104, 105, 106, 107, 108, 109, 110, 111, 112, 113, 114, 115, 116] (by decide +kernel) (by decide +kernel)
set_option maxRecDepth 20000 in
theorem gX5_quicken_X5_refusalOfRace : GoodIn wsX5_quicken (wsV RX5 122 RX5 yX5_refusalOfRace wsX5_refusalOfRace) := goodIn_app (goodIn_of _ (by decide +kernel)) ggX5_quicken_X5_refusalOfRace
set_option maxRecDepth 20000 in
theorem ggX5_quicken_X3_clear : GoodIn wsX5_quicken wsX3_clear := goodIn_r _ [29, 30, 31, 117, 118] (by decide +kernel) (by decide +kernel)
set_option maxRecDepth 20000 in
theorem gX5_quicken_X3_clear : GoodIn wsX5_quicken (wsV RX5 162 RX3 yX3_clear wsX3_clear) := goodIn_app (goodIn_of _ (by decide +kernel)) ggX5_quicken_X3_clear
set_option maxRecDepth 20000 in
theorem ggX5_quicken_X4_tie : GoodIn wsX5_quicken wsX4_tie := goodIn_r _ [36, 37, 38, 39, 40, 41, 42, 43, 44, 45, 46, 47, 48, 49, 50, 51, 52, 53, 54, 55, 56, 57, 58, 59, 60, 61, 10, 11, 12, 13, 14, 15, 16, 17, 18, 110, 111, 112, 113, 114, 115, 116, 119, 120, 121, 122, 123, 124, 125, 126, 127, 128, 129, 130, 131, 132, 133, 134] (by decide +kernel) (by decide +kernel)
set_option maxRecDepth 20000 in
theorem gX5_quicken_X4_tie : GoodIn wsX5_quicken (wsV RX5 100 RX4 yX4_tie wsX4_tie) := goodIn_app (goodIn_of _ (by decide +kernel)) ggX5_quicken_X4_tie
set_option maxRecDepth 20000 in
theorem ggX5_quicken_X4_timeTo : GoodIn wsX5_quicken wsX4_timeTo := goodIn_r _ [65, 58, 66, 67, 68, 35, 69, 38, 70, 71, 46, 72, 39, 73, 74, 75, 76, 55, 41, 56, 42, 77, 57, 52, 60, 78, 54, 50, 59, 48, 79, 80, 81, 82, 83, 84, 85, 86, 87, 88, 89, 119, 120, 121, 122, 123, 124, 125, 126, 127, 128, 129, 130, 131, 132, 133, 134] (by decide +kernel) (by decide +kernel)
set_option maxRecDepth 20000 in
theorem gX5_quicken_X4_timeTo : GoodIn wsX5_quicken (wsV RX5 168 RX4 yX4_timeTo wsX4_timeTo) := goodIn_app (goodIn_of _ (by decide +kernel)) ggX5_quicken_X4_timeTo
set_option maxRecDepth 20000 in
theorem ggX5_quicken_X3_offer : GoodIn wsX5_quicken wsX3_offer := goodIn_r _ [93, 30, 31, 117, 118] (by decide +kernel) (by decide +kernel)
set_option maxRecDepth 20000 in
theorem gX5_quicken_X3_offer : GoodIn wsX5_quicken (wsV RX5 171 RX3 yX3_offer wsX3_offer) := goodIn_app (goodIn_of _ (by decide +kernel)) ggX5_quicken_X3_offer
set_option maxRecDepth 20000 in
theorem ggX5_quicken_X5_timeTo : GoodIn wsX5_quicken wsX5_timeTo := goodIn_r _ [97, 2, 3, 32, 33, 34, 35, 36, 37, 38, 39, 40, 41, 42, 43, 44, 45, 46, 47, 48, 49, 50, 51, 52, 53, 54, 55, 56, 57, 58, 59, 60, 61, 10, 11, 12, 13, 14, 15, 16, 17, 18, 62, 63, 64, 65, 66, 67, 68, 69, 70, 71, 72, 73, 74, 75, 76, 77, 78, 79, 80, 81, 82, 83, 84, 85, 86, 87, 88, 89, 102, 103, 104, 105, 106, 107, 108, 109, 110, 111, 112, 113, 114, 115, 116, 119, 120, 121, 122, 123, 124, 125, 126, 127, 128, 129, 130, 131, 132, 133, 134] (by decide +kernel) (by decide +kernel)
set_option maxRecDepth 20000 in
theorem gX5_quicken_X5_timeTo : GoodIn wsX5_quicken (wsV RX5 126 RX5 yX5_timeTo wsX5_timeTo) := goodIn_app (goodIn_of _ (by decide +kernel)) ggX5_quicken_X5_timeTo
set_option maxRecDepth 20000 in
theorem ggX5_quicken_X3_answer : GoodIn wsX5_quicken wsX3_answer := goodIn_r _ [101, 31, 30, 117, 118] (by decide +kernel) (by decide +kernel)
set_option maxRecDepth 20000 in
theorem gX5_quicken_X3_answer : GoodIn wsX5_quicken (wsV RX5 175 RX3 yX3_answer wsX3_answer) := goodIn_app (goodIn_of _ (by decide +kernel)) ggX5_quicken_X3_answer
theorem dX5_quicken_0 : decode cX5_quicken 0 = .ok (.aload_n 0, 1) := by decide +kernel
theorem dX5_quicken_1 : decode cX5_quicken 1 = .ok (.iload_n 1, 1) := by decide +kernel
theorem dX5_quicken_2 : decode cX5_quicken 2 = .ok (.iload_n 2, 1) := by decide +kernel
theorem dX5_quicken_3 : decode cX5_quicken 3 = .ok (.iload_n 3, 1) := by decide +kernel
theorem dX5_quicken_4 : decode cX5_quicken 4 = .ok (.iload 4, 2) := by decide +kernel
theorem dX5_quicken_6 : decode cX5_quicken 6 = .ok (.invokevirtual 122, 3) := by decide +kernel
theorem dX5_quicken_9 : decode cX5_quicken 9 = .ok (.istore 5, 2) := by decide +kernel
theorem dX5_quicken_11 : decode cX5_quicken 11 = .ok (.iload 5, 2) := by decide +kernel
theorem dX5_quicken_13 : decode cX5_quicken 13 = .ok (.ifCond .eq 6, 3) := by decide +kernel
theorem dX5_quicken_16 : decode cX5_quicken 16 = .ok (.iload 5, 2) := by decide +kernel
theorem dX5_quicken_18 : decode cX5_quicken 18 = .ok (.ireturn, 1) := by decide +kernel
theorem dX5_quicken_19 : decode cX5_quicken 19 = .ok (.aload_n 0, 1) := by decide +kernel
theorem dX5_quicken_20 : decode cX5_quicken 20 = .ok (.getfield 48, 3) := by decide +kernel
theorem dX5_quicken_23 : decode cX5_quicken 23 = .ok (.invokevirtual 162, 3) := by decide +kernel
theorem dX5_quicken_26 : decode cX5_quicken 26 = .ok (.iconst 0, 1) := by decide +kernel
theorem dX5_quicken_27 : decode cX5_quicken 27 = .ok (.istore 6, 2) := by decide +kernel
theorem dX5_quicken_29 : decode cX5_quicken 29 = .ok (.iload 6, 2) := by decide +kernel
theorem dX5_quicken_31 : decode cX5_quicken 31 = .ok (.bipush 60, 2) := by decide +kernel
theorem dX5_quicken_33 : decode cX5_quicken 33 = .ok (.if_icmp .gt 41, 3) := by decide +kernel
theorem dX5_quicken_36 : decode cX5_quicken 36 = .ok (.aload_n 0, 1) := by decide +kernel
theorem dX5_quicken_37 : decode cX5_quicken 37 = .ok (.getfield 34, 3) := by decide +kernel
theorem dX5_quicken_40 : decode cX5_quicken 40 = .ok (.aload_n 0, 1) := by decide +kernel
theorem dX5_quicken_41 : decode cX5_quicken 41 = .ok (.getfield 10, 3) := by decide +kernel
theorem dX5_quicken_44 : decode cX5_quicken 44 = .ok (.iload_n 1, 1) := by decide +kernel
theorem dX5_quicken_45 : decode cX5_quicken 45 = .ok (.iload_n 2, 1) := by decide +kernel
theorem dX5_quicken_46 : decode cX5_quicken 46 = .ok (.invokevirtual 100, 3) := by decide +kernel
theorem dX5_quicken_49 : decode cX5_quicken 49 = .ok (.aload_n 0, 1) := by decide +kernel
theorem dX5_quicken_50 : decode cX5_quicken 50 = .ok (.getfield 48, 3) := by decide +kernel
theorem dX5_quicken_53 : decode cX5_quicken 53 = .ok (.iload 6, 2) := by decide +kernel
theorem dX5_quicken_55 : decode cX5_quicken 55 = .ok (.aload_n 0, 1) := by decide +kernel
theorem dX5_quicken_56 : decode cX5_quicken 56 = .ok (.getfield 34, 3) := by decide +kernel
theorem dX5_quicken_59 : decode cX5_quicken 59 = .ok (.iload_n 3, 1) := by decide +kernel
theorem dX5_quicken_60 : decode cX5_quicken 60 = .ok (.iload 6, 2) := by decide +kernel
theorem dX5_quicken_62 : decode cX5_quicken 62 = .ok (.invokevirtual 168, 3) := by decide +kernel
theorem dX5_quicken_65 : decode cX5_quicken 65 = .ok (.invokevirtual 171, 3) := by decide +kernel
theorem dX5_quicken_68 : decode cX5_quicken 68 = .ok (.iinc 6 1, 3) := by decide +kernel
theorem dX5_quicken_71 : decode cX5_quicken 71 = .ok (.goto (-42), 3) := by decide +kernel
theorem dX5_quicken_74 : decode cX5_quicken 74 = .ok (.aload_n 0, 1) := by decide +kernel
theorem dX5_quicken_75 : decode cX5_quicken 75 = .ok (.getfield 48, 3) := by decide +kernel
theorem dX5_quicken_78 : decode cX5_quicken 78 = .ok (.bipush 61, 2) := by decide +kernel
theorem dX5_quicken_80 : decode cX5_quicken 80 = .ok (.aload_n 0, 1) := by decide +kernel
theorem dX5_quicken_81 : decode cX5_quicken 81 = .ok (.iload_n 1, 1) := by decide +kernel
theorem dX5_quicken_82 : decode cX5_quicken 82 = .ok (.iload_n 2, 1) := by decide +kernel
theorem dX5_quicken_83 : decode cX5_quicken 83 = .ok (.iload_n 3, 1) := by decide +kernel
theorem dX5_quicken_84 : decode cX5_quicken 84 = .ok (.invokevirtual 126, 3) := by decide +kernel
theorem dX5_quicken_87 : decode cX5_quicken 87 = .ok (.invokevirtual 171, 3) := by decide +kernel
theorem dX5_quicken_90 : decode cX5_quicken 90 = .ok (.aload_n 0, 1) := by decide +kernel
theorem dX5_quicken_91 : decode cX5_quicken 91 = .ok (.getfield 48, 3) := by decide +kernel
theorem dX5_quicken_94 : decode cX5_quicken 94 = .ok (.iload 4, 2) := by decide +kernel
theorem dX5_quicken_96 : decode cX5_quicken 96 = .ok (.invokevirtual 175, 3) := by decide +kernel
theorem dX5_quicken_99 : decode cX5_quicken 99 = .ok (.ireturn, 1) := by decide +kernel
set_option maxRecDepth 20000 in
theorem ggX5_yields_X5_refusalOfRace : GoodIn wsX5_yields wsX5_refusalOfRace := goodIn_r _ [8, 3, 9, 10, 11, 12, 13, 14, 15, 16, 17, 18, 19, 20, 7, 21, 22, 23, 24, 102, 103, 104, 105, 106, 107, 108, 109, 110, 111, 112, 113, 114, 115, 116] (by decide +kernel) (by decide +kernel)
set_option maxRecDepth 20000 in
theorem gX5_yields_X5_refusalOfRace : GoodIn wsX5_yields (wsV RX5 122 RX5 yX5_refusalOfRace wsX5_refusalOfRace) := goodIn_app (goodIn_of _ (by decide +kernel)) ggX5_yields_X5_refusalOfRace
set_option maxRecDepth 20000 in
theorem ggX5_yields_X3_clear : GoodIn wsX5_yields wsX3_clear := goodIn_r _ [29, 30, 31, 117, 118] (by decide +kernel) (by decide +kernel)
set_option maxRecDepth 20000 in
theorem gX5_yields_X3_clear : GoodIn wsX5_yields (wsV RX5 162 RX3 yX3_clear wsX3_clear) := goodIn_app (goodIn_of _ (by decide +kernel)) ggX5_yields_X3_clear
set_option maxRecDepth 20000 in
theorem ggX5_yields_X4_tie : GoodIn wsX5_yields wsX4_tie := goodIn_r _ [36, 37, 38, 39, 40, 41, 42, 43, 44, 45, 46, 47, 48, 49, 50, 51, 52, 53, 54, 55, 56, 57, 58, 59, 60, 61, 10, 11, 12, 13, 14, 15, 16, 17, 18, 110, 111, 112, 113, 114, 115, 116, 119, 120, 121, 122, 123, 124, 125, 126, 127, 128, 129, 130, 131, 132, 133, 134] (by decide +kernel) (by decide +kernel)
set_option maxRecDepth 20000 in
theorem gX5_yields_X4_tie : GoodIn wsX5_yields (wsV RX5 100 RX4 yX4_tie wsX4_tie) := goodIn_app (goodIn_of _ (by decide +kernel)) ggX5_yields_X4_tie
set_option maxRecDepth 20000 in
theorem ggX5_yields_X4_give : GoodIn wsX5_yields wsX4_give := goodIn_r _ [65, 41, 42, 119, 120, 121, 122, 123, 124, 125, 126, 127, 128, 129, 130, 131, 132, 133, 134] (by decide +kernel) (by decide +kernel)
set_option maxRecDepth 20000 in
theorem gX5_yields_X4_give : GoodIn wsX5_yields (wsV RX5 178 RX4 yX4_give wsX4_give) := goodIn_app (goodIn_of _ (by decide +kernel)) ggX5_yields_X4_give
set_option maxRecDepth 20000 in
theorem ggX5_yields_X4_timeTo : GoodIn wsX5_yields wsX4_timeTo := goodIn_r _ [69, 58, 70, 71, 72, 35, 73, 38, 74, 75, 46, 76, 39, 77, 78, 79, 80, 55, 41, 56, 42, 81, 57, 52, 60, 82, 54, 50, 59, 48, 83, 84, 85, 86, 87, 88, 89, 90, 91, 92, 93, 119, 120, 121, 122, 123, 124, 125, 126, 127, 128, 129, 130, 131, 132, 133, 134] (by decide +kernel) (by decide +kernel)
set_option maxRecDepth 20000 in
theorem gX5_yields_X4_timeTo : GoodIn wsX5_yields (wsV RX5 168 RX4 yX4_timeTo wsX4_timeTo) := goodIn_app (goodIn_of _ (by decide +kernel)) ggX5_yields_X4_timeTo
set_option maxRecDepth 20000 in
theorem ggX5_yields_X3_offer : GoodIn wsX5_yields wsX3_offer := goodIn_r _ [97, 30, 31, 117, 118] (by decide +kernel) (by decide +kernel)
set_option maxRecDepth 20000 in
theorem gX5_yields_X3_offer : GoodIn wsX5_yields (wsV RX5 171 RX3 yX3_offer wsX3_offer) := goodIn_app (goodIn_of _ (by decide +kernel)) ggX5_yields_X3_offer
set_option maxRecDepth 20000 in
theorem ggX5_yields_X3_answer : GoodIn wsX5_yields wsX3_answer := goodIn_r _ [101, 31, 30, 117, 118] (by decide +kernel) (by decide +kernel)
set_option maxRecDepth 20000 in
theorem gX5_yields_X3_answer : GoodIn wsX5_yields (wsV RX5 175 RX3 yX3_answer wsX3_answer) := goodIn_app (goodIn_of _ (by decide +kernel)) ggX5_yields_X3_answer
theorem dX5_yields_0 : decode cX5_yields 0 = .ok (.aload_n 0, 1) := by decide +kernel
theorem dX5_yields_1 : decode cX5_yields 1 = .ok (.iload_n 1, 1) := by decide +kernel
theorem dX5_yields_2 : decode cX5_yields 2 = .ok (.iload_n 2, 1) := by decide +kernel
theorem dX5_yields_3 : decode cX5_yields 3 = .ok (.iload_n 3, 1) := by decide +kernel
theorem dX5_yields_4 : decode cX5_yields 4 = .ok (.iload 4, 2) := by decide +kernel
theorem dX5_yields_6 : decode cX5_yields 6 = .ok (.invokevirtual 122, 3) := by decide +kernel
theorem dX5_yields_9 : decode cX5_yields 9 = .ok (.istore 5, 2) := by decide +kernel
theorem dX5_yields_11 : decode cX5_yields 11 = .ok (.iload 5, 2) := by decide +kernel
theorem dX5_yields_13 : decode cX5_yields 13 = .ok (.ifCond .eq 6, 3) := by decide +kernel
theorem dX5_yields_16 : decode cX5_yields 16 = .ok (.iload 5, 2) := by decide +kernel
theorem dX5_yields_18 : decode cX5_yields 18 = .ok (.ireturn, 1) := by decide +kernel
theorem dX5_yields_19 : decode cX5_yields 19 = .ok (.aload_n 0, 1) := by decide +kernel
theorem dX5_yields_20 : decode cX5_yields 20 = .ok (.getfield 48, 3) := by decide +kernel
theorem dX5_yields_23 : decode cX5_yields 23 = .ok (.invokevirtual 162, 3) := by decide +kernel
theorem dX5_yields_26 : decode cX5_yields 26 = .ok (.iconst 0, 1) := by decide +kernel
theorem dX5_yields_27 : decode cX5_yields 27 = .ok (.istore 6, 2) := by decide +kernel
theorem dX5_yields_29 : decode cX5_yields 29 = .ok (.iload 6, 2) := by decide +kernel
theorem dX5_yields_31 : decode cX5_yields 31 = .ok (.iconst 4, 1) := by decide +kernel
theorem dX5_yields_32 : decode cX5_yields 32 = .ok (.if_icmp .gt 72, 3) := by decide +kernel
theorem dX5_yields_35 : decode cX5_yields 35 = .ok (.iconst 0, 1) := by decide +kernel
theorem dX5_yields_36 : decode cX5_yields 36 = .ok (.istore 7, 2) := by decide +kernel
theorem dX5_yields_38 : decode cX5_yields 38 = .ok (.iload 7, 2) := by decide +kernel
theorem dX5_yields_40 : decode cX5_yields 40 = .ok (.iconst 4, 1) := by decide +kernel
theorem dX5_yields_41 : decode cX5_yields 41 = .ok (.if_icmp .gt 57, 3) := by decide +kernel
theorem dX5_yields_44 : decode cX5_yields 44 = .ok (.aload_n 0, 1) := by decide +kernel
theorem dX5_yields_45 : decode cX5_yields 45 = .ok (.getfield 34, 3) := by decide +kernel
theorem dX5_yields_48 : decode cX5_yields 48 = .ok (.aload_n 0, 1) := by decide +kernel
theorem dX5_yields_49 : decode cX5_yields 49 = .ok (.getfield 10, 3) := by decide +kernel
theorem dX5_yields_52 : decode cX5_yields 52 = .ok (.iload_n 1, 1) := by decide +kernel
theorem dX5_yields_53 : decode cX5_yields 53 = .ok (.iload_n 2, 1) := by decide +kernel
theorem dX5_yields_54 : decode cX5_yields 54 = .ok (.invokevirtual 100, 3) := by decide +kernel
theorem dX5_yields_57 : decode cX5_yields 57 = .ok (.aload_n 0, 1) := by decide +kernel
theorem dX5_yields_58 : decode cX5_yields 58 = .ok (.getfield 34, 3) := by decide +kernel
theorem dX5_yields_61 : decode cX5_yields 61 = .ok (.iload 6, 2) := by decide +kernel
theorem dX5_yields_63 : decode cX5_yields 63 = .ok (.iload 7, 2) := by decide +kernel
theorem dX5_yields_65 : decode cX5_yields 65 = .ok (.invokevirtual 178, 3) := by decide +kernel
theorem dX5_yields_68 : decode cX5_yields 68 = .ok (.aload_n 0, 1) := by decide +kernel
theorem dX5_yields_69 : decode cX5_yields 69 = .ok (.getfield 48, 3) := by decide +kernel
theorem dX5_yields_72 : decode cX5_yields 72 = .ok (.bipush 10, 2) := by decide +kernel
theorem dX5_yields_74 : decode cX5_yields 74 = .ok (.iload 6, 2) := by decide +kernel
theorem dX5_yields_76 : decode cX5_yields 76 = .ok (.imul, 1) := by decide +kernel
theorem dX5_yields_77 : decode cX5_yields 77 = .ok (.iload 7, 2) := by decide +kernel
theorem dX5_yields_79 : decode cX5_yields 79 = .ok (.iadd, 1) := by decide +kernel
theorem dX5_yields_80 : decode cX5_yields 80 = .ok (.aload_n 0, 1) := by decide +kernel
theorem dX5_yields_81 : decode cX5_yields 81 = .ok (.getfield 34, 3) := by decide +kernel
theorem dX5_yields_84 : decode cX5_yields 84 = .ok (.iload_n 3, 1) := by decide +kernel
theorem dX5_yields_85 : decode cX5_yields 85 = .ok (.iconst (-1), 1) := by decide +kernel
theorem dX5_yields_86 : decode cX5_yields 86 = .ok (.invokevirtual 168, 3) := by decide +kernel
theorem dX5_yields_89 : decode cX5_yields 89 = .ok (.invokevirtual 171, 3) := by decide +kernel
theorem dX5_yields_92 : decode cX5_yields 92 = .ok (.iinc 7 1, 3) := by decide +kernel
theorem dX5_yields_95 : decode cX5_yields 95 = .ok (.goto (-57), 3) := by decide +kernel
theorem dX5_yields_98 : decode cX5_yields 98 = .ok (.iinc 6 1, 3) := by decide +kernel
theorem dX5_yields_101 : decode cX5_yields 101 = .ok (.goto (-72), 3) := by decide +kernel
theorem dX5_yields_104 : decode cX5_yields 104 = .ok (.aload_n 0, 1) := by decide +kernel
theorem dX5_yields_105 : decode cX5_yields 105 = .ok (.getfield 48, 3) := by decide +kernel
theorem dX5_yields_108 : decode cX5_yields 108 = .ok (.iload 4, 2) := by decide +kernel
theorem dX5_yields_110 : decode cX5_yields 110 = .ok (.invokevirtual 175, 3) := by decide +kernel
theorem dX5_yields_113 : decode cX5_yields 113 = .ok (.ireturn, 1) := by decide +kernel
set_option maxRecDepth 20000 in
theorem ggX5_practice_X0_canTie : GoodIn wsX5_practice wsX0_canTie := goodIn_r _ [7, 8, 9, 10, 6, 11, 12, 84, 85, 86, 87, 88, 89, 90] (by decide +kernel) (by decide +kernel)
set_option maxRecDepth 20000 in
theorem gX5_practice_X0_canTie : GoodIn wsX5_practice (wsV RX5 96 RX0 yX0_canTie wsX0_canTie) := goodIn_app (goodIn_of _ (by decide +kernel)) ggX5_practice_X0_canTie
set_option maxRecDepth 20000 in
theorem ggX5_practice_X5_isWithin : GoodIn wsX5_practice wsX5_isWithin := goodIn_r _ [16] (by decide +kernel) (by decide +kernel)
set_option maxRecDepth 20000 in
theorem gX5_practice_X5_isWithin : GoodIn wsX5_practice (va_wsS RX5 56 yX5_isWithin wsX5_isWithin) := goodIn_app (goodIn_of _ (by decide +kernel)) ggX5_practice_X5_isWithin
set_option maxRecDepth 20000 in
theorem ggX5_practice_X5_standsWith : GoodIn wsX5_practice wsX5_standsWith := goodIn_r _ [20, 21, 1, 22, 23, 24, 25, 26, 27, 28, 29, 30, 31, 32, 33, 34, 35, 36, 37, 38, 39, 40, 41, 42, 43, 44, 45, 46, 47, 48, 49, 50, 51, 4, 5, 6, 7, 8, 9, 10, 11, 12, 52, 53, 54, 55, 56, 57, 58, 59, 60, 61, 62, 63, 64, 65, 66, 67, 68, 69, 70, 71, 72, 73, 74, 75, 76, 77, 78, 79, 80, 81, 82, 83, 84, 85, 86, 87, 88, 89, 90, 91, 92, 93, 94, 95, 96, 97, 98, 99, 100, 101, 102, 103, 104, 105, 106] (by decide +kernel) (by decide +kernel)
set_option maxRecDepth 20000 in
theorem gX5_practice_X5_standsWith : GoodIn wsX5_practice (wsV RX5 183 RX5 yX5_standsWith wsX5_standsWith) := goodIn_app (goodIn_of _ (by decide +kernel)) ggX5_practice_X5_standsWith
theorem dX5_practice_0 : decode cX5_practice 0 = .ok (.aload_n 0, 1) := by decide +kernel
theorem dX5_practice_1 : decode cX5_practice 1 = .ok (.getfield 10, 3) := by decide +kernel
theorem dX5_practice_4 : decode cX5_practice 4 = .ok (.iload_n 1, 1) := by decide +kernel
theorem dX5_practice_5 : decode cX5_practice 5 = .ok (.iload_n 2, 1) := by decide +kernel
theorem dX5_practice_6 : decode cX5_practice 6 = .ok (.invokevirtual 96, 3) := by decide +kernel
theorem dX5_practice_9 : decode cX5_practice 9 = .ok (.ifCond .ne 5, 3) := by decide +kernel
theorem dX5_practice_12 : decode cX5_practice 12 = .ok (.iconst (-1), 1) := by decide +kernel
theorem dX5_practice_13 : decode cX5_practice 13 = .ok (.ireturn, 1) := by decide +kernel
theorem dX5_practice_14 : decode cX5_practice 14 = .ok (.iload_n 3, 1) := by decide +kernel
theorem dX5_practice_15 : decode cX5_practice 15 = .ok (.iconst 0, 1) := by decide +kernel
theorem dX5_practice_16 : decode cX5_practice 16 = .ok (.sipush 999, 3) := by decide +kernel
theorem dX5_practice_19 : decode cX5_practice 19 = .ok (.invokestatic 56, 3) := by decide +kernel
theorem dX5_practice_22 : decode cX5_practice 22 = .ok (.ifCond .eq 13, 3) := by decide +kernel
theorem dX5_practice_25 : decode cX5_practice 25 = .ok (.iload 4, 2) := by decide +kernel
theorem dX5_practice_27 : decode cX5_practice 27 = .ok (.iconst 0, 1) := by decide +kernel
theorem dX5_practice_28 : decode cX5_practice 28 = .ok (.iconst 1, 1) := by decide +kernel
theorem dX5_practice_29 : decode cX5_practice 29 = .ok (.invokestatic 56, 3) := by decide +kernel
theorem dX5_practice_32 : decode cX5_practice 32 = .ok (.ifCond .ne 6, 3) := by decide +kernel
theorem dX5_practice_35 : decode cX5_practice 35 = .ok (.bipush (-2), 2) := by decide +kernel
theorem dX5_practice_37 : decode cX5_practice 37 = .ok (.ireturn, 1) := by decide +kernel
theorem dX5_practice_38 : decode cX5_practice 38 = .ok (.aload_n 0, 1) := by decide +kernel
theorem dX5_practice_39 : decode cX5_practice 39 = .ok (.getfield 10, 3) := by decide +kernel
theorem dX5_practice_42 : decode cX5_practice 42 = .ok (.getfield 181, 3) := by decide +kernel
theorem dX5_practice_45 : decode cX5_practice 45 = .ok (.iload_n 1, 1) := by decide +kernel
theorem dX5_practice_46 : decode cX5_practice 46 = .ok (.iaload, 1) := by decide +kernel
theorem dX5_practice_47 : decode cX5_practice 47 = .ok (.aload_n 0, 1) := by decide +kernel
theorem dX5_practice_48 : decode cX5_practice 48 = .ok (.getfield 10, 3) := by decide +kernel
theorem dX5_practice_51 : decode cX5_practice 51 = .ok (.getfield 181, 3) := by decide +kernel
theorem dX5_practice_54 : decode cX5_practice 54 = .ok (.iload_n 2, 1) := by decide +kernel
theorem dX5_practice_55 : decode cX5_practice 55 = .ok (.iaload, 1) := by decide +kernel
theorem dX5_practice_56 : decode cX5_practice 56 = .ok (.iadd, 1) := by decide +kernel
theorem dX5_practice_57 : decode cX5_practice 57 = .ok (.istore 5, 2) := by decide +kernel
theorem dX5_practice_59 : decode cX5_practice 59 = .ok (.bipush (-6), 2) := by decide +kernel
theorem dX5_practice_61 : decode cX5_practice 61 = .ok (.istore 6, 2) := by decide +kernel
theorem dX5_practice_63 : decode cX5_practice 63 = .ok (.bipush (-6), 2) := by decide +kernel
theorem dX5_practice_65 : decode cX5_practice 65 = .ok (.istore 7, 2) := by decide +kernel
theorem dX5_practice_67 : decode cX5_practice 67 = .ok (.aload_n 0, 1) := by decide +kernel
theorem dX5_practice_68 : decode cX5_practice 68 = .ok (.getfield 10, 3) := by decide +kernel
theorem dX5_practice_71 : decode cX5_practice 71 = .ok (.getfield 181, 3) := by decide +kernel
theorem dX5_practice_74 : decode cX5_practice 74 = .ok (.iload_n 1, 1) := by decide +kernel
theorem dX5_practice_75 : decode cX5_practice 75 = .ok (.iaload, 1) := by decide +kernel
theorem dX5_practice_76 : decode cX5_practice 76 = .ok (.istore 8, 2) := by decide +kernel
theorem dX5_practice_78 : decode cX5_practice 78 = .ok (.iload 8, 2) := by decide +kernel
theorem dX5_practice_80 : decode cX5_practice 80 = .ok (.iconst 4, 1) := by decide +kernel
theorem dX5_practice_81 : decode cX5_practice 81 = .ok (.if_icmp .gt 84, 3) := by decide +kernel
theorem dX5_practice_84 : decode cX5_practice 84 = .ok (.aload_n 0, 1) := by decide +kernel
theorem dX5_practice_85 : decode cX5_practice 85 = .ok (.getfield 10, 3) := by decide +kernel
theorem dX5_practice_88 : decode cX5_practice 88 = .ok (.getfield 181, 3) := by decide +kernel
theorem dX5_practice_91 : decode cX5_practice 91 = .ok (.iload_n 2, 1) := by decide +kernel
theorem dX5_practice_92 : decode cX5_practice 92 = .ok (.iaload, 1) := by decide +kernel
theorem dX5_practice_93 : decode cX5_practice 93 = .ok (.istore 9, 2) := by decide +kernel
theorem dX5_practice_95 : decode cX5_practice 95 = .ok (.iload 9, 2) := by decide +kernel
theorem dX5_practice_97 : decode cX5_practice 97 = .ok (.iconst 4, 1) := by decide +kernel
theorem dX5_practice_98 : decode cX5_practice 98 = .ok (.if_icmp .gt 61, 3) := by decide +kernel
theorem dX5_practice_101 : decode cX5_practice 101 = .ok (.iload 8, 2) := by decide +kernel
theorem dX5_practice_103 : decode cX5_practice 103 = .ok (.iload 9, 2) := by decide +kernel
theorem dX5_practice_105 : decode cX5_practice 105 = .ok (.iadd, 1) := by decide +kernel
theorem dX5_practice_106 : decode cX5_practice 106 = .ok (.iload 5, 2) := by decide +kernel
theorem dX5_practice_108 : decode cX5_practice 108 = .ok (.isub, 1) := by decide +kernel
theorem dX5_practice_109 : decode cX5_practice 109 = .ok (.istore 10, 2) := by decide +kernel
theorem dX5_practice_111 : decode cX5_practice 111 = .ok (.iload 6, 2) := by decide +kernel
theorem dX5_practice_113 : decode cX5_practice 113 = .ok (.bipush (-6), 2) := by decide +kernel
theorem dX5_practice_115 : decode cX5_practice 115 = .ok (.if_icmp .eq 10, 3) := by decide +kernel
theorem dX5_practice_118 : decode cX5_practice 118 = .ok (.iload 10, 2) := by decide +kernel
theorem dX5_practice_120 : decode cX5_practice 120 = .ok (.iload 6, 2) := by decide +kernel
theorem dX5_practice_122 : decode cX5_practice 122 = .ok (.if_icmp .ge 31, 3) := by decide +kernel
theorem dX5_practice_125 : decode cX5_practice 125 = .ok (.aload_n 0, 1) := by decide +kernel
theorem dX5_practice_126 : decode cX5_practice 126 = .ok (.iload_n 1, 1) := by decide +kernel
theorem dX5_practice_127 : decode cX5_practice 127 = .ok (.iload_n 2, 1) := by decide +kernel
theorem dX5_practice_128 : decode cX5_practice 128 = .ok (.iload 8, 2) := by decide +kernel
theorem dX5_practice_130 : decode cX5_practice 130 = .ok (.iload 9, 2) := by decide +kernel
theorem dX5_practice_132 : decode cX5_practice 132 = .ok (.iload_n 3, 1) := by decide +kernel
theorem dX5_practice_133 : decode cX5_practice 133 = .ok (.invokevirtual 183, 3) := by decide +kernel
theorem dX5_practice_136 : decode cX5_practice 136 = .ok (.ifCond .eq 17, 3) := by decide +kernel
theorem dX5_practice_139 : decode cX5_practice 139 = .ok (.iload 10, 2) := by decide +kernel
theorem dX5_practice_141 : decode cX5_practice 141 = .ok (.istore 6, 2) := by decide +kernel
theorem dX5_practice_143 : decode cX5_practice 143 = .ok (.bipush 10, 2) := by decide +kernel
theorem dX5_practice_145 : decode cX5_practice 145 = .ok (.iload 8, 2) := by decide +kernel
theorem dX5_practice_147 : decode cX5_practice 147 = .ok (.imul, 1) := by decide +kernel
theorem dX5_practice_148 : decode cX5_practice 148 = .ok (.iload 9, 2) := by decide +kernel
theorem dX5_practice_150 : decode cX5_practice 150 = .ok (.iadd, 1) := by decide +kernel
theorem dX5_practice_151 : decode cX5_practice 151 = .ok (.istore 7, 2) := by decide +kernel
theorem dX5_practice_153 : decode cX5_practice 153 = .ok (.iinc 9 1, 3) := by decide +kernel
theorem dX5_practice_156 : decode cX5_practice 156 = .ok (.goto (-61), 3) := by decide +kernel
theorem dX5_practice_159 : decode cX5_practice 159 = .ok (.iinc 8 1, 3) := by decide +kernel
theorem dX5_practice_162 : decode cX5_practice 162 = .ok (.goto (-84), 3) := by decide +kernel
theorem dX5_practice_165 : decode cX5_practice 165 = .ok (.iload 4, 2) := by decide +kernel
theorem dX5_practice_167 : decode cX5_practice 167 = .ok (.ifCond .ne 8, 3) := by decide +kernel
theorem dX5_practice_170 : decode cX5_practice 170 = .ok (.iload 6, 2) := by decide +kernel
theorem dX5_practice_172 : decode cX5_practice 172 = .ok (.goto 5, 3) := by decide +kernel
theorem dX5_practice_175 : decode cX5_practice 175 = .ok (.iload 7, 2) := by decide +kernel
theorem dX5_practice_177 : decode cX5_practice 177 = .ok (.ireturn, 1) := by decide +kernel
set_option maxRecDepth 20000 in
theorem ggX5_standsWith_X4_tie : GoodIn wsX5_standsWith wsX4_tie := goodIn_r _ [7, 8, 9, 10, 11, 12, 13, 14, 15, 16, 17, 18, 19, 20, 21, 22, 23, 24, 25, 26, 27, 28, 29, 30, 31, 32, 33, 34, 35, 36, 37, 38, 39, 40, 41, 74, 75, 76, 77, 78, 79, 80, 81, 82, 83, 84, 85, 86, 87, 88, 89, 90, 91, 92, 93, 94, 95, 96] (by decide +kernel) (by decide +kernel)
set_option maxRecDepth 20000 in
theorem gX5_standsWith_X4_tie : GoodIn wsX5_standsWith (wsV RX5 100 RX4 yX4_tie wsX4_tie) := goodIn_app (goodIn_of _ (by decide +kernel)) ggX5_standsWith_X4_tie
set_option maxRecDepth 20000 in
theorem ggX5_standsWith_X4_give : GoodIn wsX5_standsWith wsX4_give := goodIn_r _ [45, 12, 13, 81, 82, 83, 84, 85, 86, 87, 88, 89, 90, 91, 92, 93, 94, 95, 96] (by decide +kernel) (by decide +kernel)
set_option maxRecDepth 20000 in
theorem gX5_standsWith_X4_give : GoodIn wsX5_standsWith (wsV RX5 178 RX4 yX4_give wsX4_give) := goodIn_app (goodIn_of _ (by decide +kernel)) ggX5_standsWith_X4_give
set_option maxRecDepth 20000 in
theorem ggX5_standsWith_X4_standsFor : GoodIn wsX5_standsWith wsX4_standsFor := goodIn_r _ [49, 31, 50, 51, 52, 6, 53, 26, 9, 12, 27, 54, 55, 17, 56, 10, 13, 57, 28, 23, 58, 25, 21, 30, 29, 19, 59, 60, 61, 62, 63, 64, 65, 81, 82, 83, 84, 85, 86, 87, 88, 89, 90, 91, 92, 93, 94, 95, 96] (by decide +kernel) (by decide +kernel)
set_option maxRecDepth 20000 in
theorem gX5_standsWith_X4_standsFor : GoodIn wsX5_standsWith (wsV RX5 133 RX4 yX4_standsFor wsX4_standsFor) := goodIn_app (goodIn_of _ (by decide +kernel)) ggX5_standsWith_X4_standsFor
theorem dX5_standsWith_0 : decode cX5_standsWith 0 = .ok (.aload_n 0, 1) := by decide +kernel
theorem dX5_standsWith_1 : decode cX5_standsWith 1 = .ok (.getfield 34, 3) := by decide +kernel
theorem dX5_standsWith_4 : decode cX5_standsWith 4 = .ok (.aload_n 0, 1) := by decide +kernel
theorem dX5_standsWith_5 : decode cX5_standsWith 5 = .ok (.getfield 10, 3) := by decide +kernel
theorem dX5_standsWith_8 : decode cX5_standsWith 8 = .ok (.iload_n 1, 1) := by decide +kernel
theorem dX5_standsWith_9 : decode cX5_standsWith 9 = .ok (.iload_n 2, 1) := by decide +kernel
theorem dX5_standsWith_10 : decode cX5_standsWith 10 = .ok (.invokevirtual 100, 3) := by decide +kernel
theorem dX5_standsWith_13 : decode cX5_standsWith 13 = .ok (.aload_n 0, 1) := by decide +kernel
theorem dX5_standsWith_14 : decode cX5_standsWith 14 = .ok (.getfield 34, 3) := by decide +kernel
theorem dX5_standsWith_17 : decode cX5_standsWith 17 = .ok (.iload_n 3, 1) := by decide +kernel
theorem dX5_standsWith_18 : decode cX5_standsWith 18 = .ok (.iload 4, 2) := by decide +kernel
theorem dX5_standsWith_20 : decode cX5_standsWith 20 = .ok (.invokevirtual 178, 3) := by decide +kernel
theorem dX5_standsWith_23 : decode cX5_standsWith 23 = .ok (.aload_n 0, 1) := by decide +kernel
theorem dX5_standsWith_24 : decode cX5_standsWith 24 = .ok (.getfield 34, 3) := by decide +kernel
theorem dX5_standsWith_27 : decode cX5_standsWith 27 = .ok (.iload 5, 2) := by decide +kernel
theorem dX5_standsWith_29 : decode cX5_standsWith 29 = .ok (.invokevirtual 133, 3) := by decide +kernel
theorem dX5_standsWith_32 : decode cX5_standsWith 32 = .ok (.ireturn, 1) := by decide +kernel
set_option maxRecDepth 20000 in
theorem ggX5_scarf_X0_canTie : GoodIn wsX5_scarf wsX0_canTie := goodIn_r _ [9, 10, 11, 12, 8, 13, 14, 88, 89, 90, 91, 92, 93, 94] (by decide +kernel) (by decide +kernel)
set_option maxRecDepth 20000 in
theorem gX5_scarf_X0_canTie : GoodIn wsX5_scarf (wsV RX5 96 RX0 yX0_canTie wsX0_canTie) := goodIn_app (goodIn_of _ (by decide +kernel)) ggX5_scarf_X0_canTie
set_option maxRecDepth 20000 in
theorem ggX5_scarf_X5_isFeet : GoodIn wsX5_scarf wsX5_isFeet := goodIn_r _ [18, 19, 20, 17, 21] (by decide +kernel) (by decide +kernel)
set_option maxRecDepth 20000 in
theorem gX5_scarf_X5_isFeet : GoodIn wsX5_scarf (va_wsS RX5 140 yX5_isFeet wsX5_isFeet) := goodIn_app (goodIn_of _ (by decide +kernel)) ggX5_scarf_X5_isFeet
set_option maxRecDepth 20000 in
theorem ggX5_scarf_X5_isWithin : GoodIn wsX5_scarf wsX5_isWithin := goodIn_r _ [21] (by decide +kernel) (by decide +kernel)
set_option maxRecDepth 20000 in
theorem gX5_scarf_X5_isWithin : GoodIn wsX5_scarf (va_wsS RX5 56 yX5_isWithin wsX5_isWithin) := goodIn_app (goodIn_of _ (by decide +kernel)) ggX5_scarf_X5_isWithin
set_option maxRecDepth 20000 in
theorem ggX5_scarf_X4_tie : GoodIn wsX5_scarf wsX4_tie := goodIn_r _ [26, 27, 28, 29, 30, 31, 32, 33, 34, 35, 36, 37, 38, 39, 40, 41, 42, 43, 44, 45, 46, 47, 48, 49, 50, 51, 6, 7, 8, 9, 10, 11, 12, 13, 14, 88, 89, 90, 91, 92, 93, 94, 95, 96, 97, 98, 99, 100, 101, 102, 103, 104, 105, 106, 107, 108, 109, 110] (by decide +kernel) (by decide +kernel)
set_option maxRecDepth 20000 in
theorem gX5_scarf_X4_tie : GoodIn wsX5_scarf (wsV RX5 100 RX4 yX4_tie wsX4_tie) := goodIn_app (goodIn_of _ (by decide +kernel)) ggX5_scarf_X4_tie
set_option maxRecDepth 20000 in
theorem ggX5_scarf_X4_timeTo : GoodIn wsX5_scarf wsX4_timeTo := goodIn_r _ [55, 48, 56, 57, 58, 25, 59, 28, 60, 61, 36, 62, 29, 63, 64, 65, 66, 45, 31, 46, 32, 67, 47, 42, 50, 68, 44, 40, 49, 38, 69, 70, 71, 72, 73, 74, 75, 76, 77, 78, 79, 95, 96, 97, 98, 99, 100, 101, 102, 103, 104, 105, 106, 107, 108, 109, 110] (by decide +kernel) (by decide +kernel)
set_option maxRecDepth 20000 in
theorem gX5_scarf_X4_timeTo : GoodIn wsX5_scarf (wsV RX5 168 RX4 yX4_timeTo wsX4_timeTo) := goodIn_app (goodIn_of _ (by decide +kernel)) ggX5_scarf_X4_timeTo
theorem dX5_scarf_0 : decode cX5_scarf 0 = .ok (.aload_n 0, 1) := by decide +kernel
theorem dX5_scarf_1 : decode cX5_scarf 1 = .ok (.getfield 10, 3) := by decide +kernel
theorem dX5_scarf_4 : decode cX5_scarf 4 = .ok (.iload_n 1, 1) := by decide +kernel
theorem dX5_scarf_5 : decode cX5_scarf 5 = .ok (.iload_n 2, 1) := by decide +kernel
theorem dX5_scarf_6 : decode cX5_scarf 6 = .ok (.invokevirtual 96, 3) := by decide +kernel
theorem dX5_scarf_9 : decode cX5_scarf 9 = .ok (.ifCond .ne 5, 3) := by decide +kernel
theorem dX5_scarf_12 : decode cX5_scarf 12 = .ok (.iconst (-1), 1) := by decide +kernel
theorem dX5_scarf_13 : decode cX5_scarf 13 = .ok (.ireturn, 1) := by decide +kernel
theorem dX5_scarf_14 : decode cX5_scarf 14 = .ok (.iload_n 3, 1) := by decide +kernel
theorem dX5_scarf_15 : decode cX5_scarf 15 = .ok (.invokestatic 140, 3) := by decide +kernel
theorem dX5_scarf_18 : decode cX5_scarf 18 = .ok (.ifCond .eq 15, 3) := by decide +kernel
theorem dX5_scarf_21 : decode cX5_scarf 21 = .ok (.iload 4, 2) := by decide +kernel
theorem dX5_scarf_23 : decode cX5_scarf 23 = .ok (.iconst 0, 1) := by decide +kernel
theorem dX5_scarf_24 : decode cX5_scarf 24 = .ok (.sipush 9999, 3) := by decide +kernel
theorem dX5_scarf_27 : decode cX5_scarf 27 = .ok (.invokestatic 56, 3) := by decide +kernel
theorem dX5_scarf_30 : decode cX5_scarf 30 = .ok (.ifCond .ne 6, 3) := by decide +kernel
theorem dX5_scarf_33 : decode cX5_scarf 33 = .ok (.bipush (-2), 2) := by decide +kernel
theorem dX5_scarf_35 : decode cX5_scarf 35 = .ok (.ireturn, 1) := by decide +kernel
theorem dX5_scarf_36 : decode cX5_scarf 36 = .ok (.iconst 0, 1) := by decide +kernel
theorem dX5_scarf_37 : decode cX5_scarf 37 = .ok (.istore 5, 2) := by decide +kernel
theorem dX5_scarf_39 : decode cX5_scarf 39 = .ok (.iload 5, 2) := by decide +kernel
theorem dX5_scarf_41 : decode cX5_scarf 41 = .ok (.aload_n 0, 1) := by decide +kernel
theorem dX5_scarf_42 : decode cX5_scarf 42 = .ok (.getfield 10, 3) := by decide +kernel
theorem dX5_scarf_45 : decode cX5_scarf 45 = .ok (.getfield 86, 3) := by decide +kernel
theorem dX5_scarf_48 : decode cX5_scarf 48 = .ok (.if_icmp .gt 59, 3) := by decide +kernel
theorem dX5_scarf_51 : decode cX5_scarf 51 = .ok (.aload_n 0, 1) := by decide +kernel
theorem dX5_scarf_52 : decode cX5_scarf 52 = .ok (.getfield 34, 3) := by decide +kernel
theorem dX5_scarf_55 : decode cX5_scarf 55 = .ok (.aload_n 0, 1) := by decide +kernel
theorem dX5_scarf_56 : decode cX5_scarf 56 = .ok (.getfield 10, 3) := by decide +kernel
theorem dX5_scarf_59 : decode cX5_scarf 59 = .ok (.iload_n 1, 1) := by decide +kernel
theorem dX5_scarf_60 : decode cX5_scarf 60 = .ok (.iload_n 2, 1) := by decide +kernel
theorem dX5_scarf_61 : decode cX5_scarf 61 = .ok (.invokevirtual 100, 3) := by decide +kernel
theorem dX5_scarf_64 : decode cX5_scarf 64 = .ok (.aload_n 0, 1) := by decide +kernel
theorem dX5_scarf_65 : decode cX5_scarf 65 = .ok (.getfield 34, 3) := by decide +kernel
theorem dX5_scarf_68 : decode cX5_scarf 68 = .ok (.iload 5, 2) := by decide +kernel
theorem dX5_scarf_70 : decode cX5_scarf 70 = .ok (.putfield 187, 3) := by decide +kernel
theorem dX5_scarf_73 : decode cX5_scarf 73 = .ok (.aload_n 0, 1) := by decide +kernel
theorem dX5_scarf_74 : decode cX5_scarf 74 = .ok (.getfield 34, 3) := by decide +kernel
theorem dX5_scarf_77 : decode cX5_scarf 77 = .ok (.iload_n 3, 1) := by decide +kernel
theorem dX5_scarf_78 : decode cX5_scarf 78 = .ok (.iconst (-1), 1) := by decide +kernel
theorem dX5_scarf_79 : decode cX5_scarf 79 = .ok (.invokevirtual 168, 3) := by decide +kernel
theorem dX5_scarf_82 : decode cX5_scarf 82 = .ok (.istore 6, 2) := by decide +kernel
theorem dX5_scarf_84 : decode cX5_scarf 84 = .ok (.iload 6, 2) := by decide +kernel
theorem dX5_scarf_86 : decode cX5_scarf 86 = .ok (.bipush (-6), 2) := by decide +kernel
theorem dX5_scarf_88 : decode cX5_scarf 88 = .ok (.if_icmp .eq 13, 3) := by decide +kernel
theorem dX5_scarf_91 : decode cX5_scarf 91 = .ok (.iload 6, 2) := by decide +kernel
theorem dX5_scarf_93 : decode cX5_scarf 93 = .ok (.iload 4, 2) := by decide +kernel
theorem dX5_scarf_95 : decode cX5_scarf 95 = .ok (.if_icmp .gt 6, 3) := by decide +kernel
theorem dX5_scarf_98 : decode cX5_scarf 98 = .ok (.iload 5, 2) := by decide +kernel
theorem dX5_scarf_100 : decode cX5_scarf 100 = .ok (.ireturn, 1) := by decide +kernel
theorem dX5_scarf_101 : decode cX5_scarf 101 = .ok (.iinc 5 1, 3) := by decide +kernel
theorem dX5_scarf_104 : decode cX5_scarf 104 = .ok (.goto (-65), 3) := by decide +kernel
theorem dX5_scarf_107 : decode cX5_scarf 107 = .ok (.bipush (-6), 2) := by decide +kernel
theorem dX5_scarf_109 : decode cX5_scarf 109 = .ok (.ireturn, 1) := by decide +kernel
set_option maxRecDepth 20000 in
theorem ggX5_even_X0_canTie : GoodIn wsX5_even wsX0_canTie := goodIn_r _ [11, 12, 13, 14, 10, 15, 16, 95, 96, 97, 98, 99, 100, 101] (by decide +kernel) (by decide +kernel)
set_option maxRecDepth 20000 in
theorem gX5_even_X0_canTie : GoodIn wsX5_even (wsV RX5 96 RX0 yX0_canTie wsX0_canTie) := goodIn_app (goodIn_of _ (by decide +kernel)) ggX5_even_X0_canTie
set_option maxRecDepth 20000 in
theorem ggX5_even_X5_isFeet : GoodIn wsX5_even wsX5_isFeet := goodIn_r _ [20, 21, 22, 19, 23] (by decide +kernel) (by decide +kernel)
set_option maxRecDepth 20000 in
theorem gX5_even_X5_isFeet : GoodIn wsX5_even (va_wsS RX5 140 yX5_isFeet wsX5_isFeet) := goodIn_app (goodIn_of _ (by decide +kernel)) ggX5_even_X5_isFeet
set_option maxRecDepth 20000 in
theorem ggX5_even_X5_timeTo : GoodIn wsX5_even wsX5_timeTo := goodIn_r _ [27, 2, 1, 28, 29, 30, 31, 32, 33, 34, 35, 36, 37, 38, 39, 40, 41, 5, 42, 43, 44, 45, 46, 47, 48, 49, 50, 51, 52, 53, 54, 55, 56, 8, 9, 10, 11, 12, 13, 14, 15, 16, 57, 58, 59, 60, 61, 62, 63, 64, 65, 4, 6, 66, 67, 68, 69, 70, 71, 72, 73, 74, 75, 76, 77, 78, 79, 80, 81, 82, 87, 88, 89, 90, 91, 92, 93, 94, 95, 96, 97, 98, 99, 100, 101, 102, 103, 104, 105, 106, 107, 108, 109, 110, 111, 112, 113, 114, 115, 116, 117] (by decide +kernel) (by decide +kernel)
set_option maxRecDepth 20000 in
theorem gX5_even_X5_timeTo : GoodIn wsX5_even (wsV RX5 126 RX5 yX5_timeTo wsX5_timeTo) := goodIn_app (goodIn_of _ (by decide +kernel)) ggX5_even_X5_timeTo
set_option maxRecDepth 20000 in
theorem ggX5_even_X4_tie : GoodIn wsX5_even wsX4_tie := goodIn_r _ [32, 33, 34, 35, 36, 37, 38, 39, 40, 41, 5, 42, 43, 44, 45, 46, 47, 48, 49, 50, 51, 52, 53, 54, 55, 56, 8, 9, 10, 11, 12, 13, 14, 15, 16, 95, 96, 97, 98, 99, 100, 101, 102, 103, 104, 105, 106, 107, 108, 109, 110, 111, 112, 113, 114, 115, 116, 117] (by decide +kernel) (by decide +kernel)
set_option maxRecDepth 20000 in
theorem gX5_even_X4_tie : GoodIn wsX5_even (wsV RX5 100 RX4 yX4_tie wsX4_tie) := goodIn_app (goodIn_of _ (by decide +kernel)) ggX5_even_X4_tie
set_option maxRecDepth 20000 in
theorem ggX5_even_X4_feetWithin : GoodIn wsX5_even wsX4_feetWithin := goodIn_r _ [86, 53, 66, 67, 68, 31, 69, 50, 34, 37, 51, 65, 4, 5, 6, 35, 38, 70, 52, 47, 55, 71, 49, 45, 54, 43, 72, 73, 74, 75, 76, 77, 78, 79, 80, 81, 82, 102, 103, 104, 105, 106, 107, 108, 109, 110, 111, 112, 113, 114, 115, 116, 117] (by decide +kernel) (by decide +kernel)
set_option maxRecDepth 20000 in
theorem gX5_even_X4_feetWithin : GoodIn wsX5_even (wsV RX5 188 RX4 yX4_feetWithin wsX4_feetWithin) := goodIn_app (goodIn_of _ (by decide +kernel)) ggX5_even_X4_feetWithin
theorem dX5_even_0 : decode cX5_even 0 = .ok (.aload_n 0, 1) := by decide +kernel
theorem dX5_even_1 : decode cX5_even 1 = .ok (.getfield 10, 3) := by decide +kernel
theorem dX5_even_4 : decode cX5_even 4 = .ok (.iload_n 1, 1) := by decide +kernel
theorem dX5_even_5 : decode cX5_even 5 = .ok (.iload_n 2, 1) := by decide +kernel
theorem dX5_even_6 : decode cX5_even 6 = .ok (.invokevirtual 96, 3) := by decide +kernel
theorem dX5_even_9 : decode cX5_even 9 = .ok (.ifCond .eq 16, 3) := by decide +kernel
theorem dX5_even_12 : decode cX5_even 12 = .ok (.aload_n 0, 1) := by decide +kernel
theorem dX5_even_13 : decode cX5_even 13 = .ok (.getfield 10, 3) := by decide +kernel
theorem dX5_even_16 : decode cX5_even 16 = .ok (.iload_n 3, 1) := by decide +kernel
theorem dX5_even_17 : decode cX5_even 17 = .ok (.iload 4, 2) := by decide +kernel
theorem dX5_even_19 : decode cX5_even 19 = .ok (.invokevirtual 96, 3) := by decide +kernel
theorem dX5_even_22 : decode cX5_even 22 = .ok (.ifCond .ne 5, 3) := by decide +kernel
theorem dX5_even_25 : decode cX5_even 25 = .ok (.iconst (-1), 1) := by decide +kernel
theorem dX5_even_26 : decode cX5_even 26 = .ok (.ireturn, 1) := by decide +kernel
theorem dX5_even_27 : decode cX5_even 27 = .ok (.iload 5, 2) := by decide +kernel
theorem dX5_even_29 : decode cX5_even 29 = .ok (.invokestatic 140, 3) := by decide +kernel
theorem dX5_even_32 : decode cX5_even 32 = .ok (.ifCond .ne 6, 3) := by decide +kernel
theorem dX5_even_35 : decode cX5_even 35 = .ok (.bipush (-2), 2) := by decide +kernel
theorem dX5_even_37 : decode cX5_even 37 = .ok (.ireturn, 1) := by decide +kernel
theorem dX5_even_38 : decode cX5_even 38 = .ok (.aload_n 0, 1) := by decide +kernel
theorem dX5_even_39 : decode cX5_even 39 = .ok (.iload_n 3, 1) := by decide +kernel
theorem dX5_even_40 : decode cX5_even 40 = .ok (.iload 4, 2) := by decide +kernel
theorem dX5_even_42 : decode cX5_even 42 = .ok (.iload 5, 2) := by decide +kernel
theorem dX5_even_44 : decode cX5_even 44 = .ok (.invokevirtual 126, 3) := by decide +kernel
theorem dX5_even_47 : decode cX5_even 47 = .ok (.istore 6, 2) := by decide +kernel
theorem dX5_even_49 : decode cX5_even 49 = .ok (.iload 6, 2) := by decide +kernel
theorem dX5_even_51 : decode cX5_even 51 = .ok (.bipush (-6), 2) := by decide +kernel
theorem dX5_even_53 : decode cX5_even 53 = .ok (.if_icmp .ne 6, 3) := by decide +kernel
theorem dX5_even_56 : decode cX5_even 56 = .ok (.bipush (-6), 2) := by decide +kernel
theorem dX5_even_58 : decode cX5_even 58 = .ok (.ireturn, 1) := by decide +kernel
theorem dX5_even_59 : decode cX5_even 59 = .ok (.aload_n 0, 1) := by decide +kernel
theorem dX5_even_60 : decode cX5_even 60 = .ok (.getfield 34, 3) := by decide +kernel
theorem dX5_even_63 : decode cX5_even 63 = .ok (.aload_n 0, 1) := by decide +kernel
theorem dX5_even_64 : decode cX5_even 64 = .ok (.getfield 10, 3) := by decide +kernel
theorem dX5_even_67 : decode cX5_even 67 = .ok (.iload_n 1, 1) := by decide +kernel
theorem dX5_even_68 : decode cX5_even 68 = .ok (.iload_n 2, 1) := by decide +kernel
theorem dX5_even_69 : decode cX5_even 69 = .ok (.invokevirtual 100, 3) := by decide +kernel
theorem dX5_even_72 : decode cX5_even 72 = .ok (.iconst 0, 1) := by decide +kernel
theorem dX5_even_73 : decode cX5_even 73 = .ok (.iload 5, 2) := by decide +kernel
theorem dX5_even_75 : decode cX5_even 75 = .ok (.aload_n 0, 1) := by decide +kernel
theorem dX5_even_76 : decode cX5_even 76 = .ok (.getfield 34, 3) := by decide +kernel
theorem dX5_even_79 : decode cX5_even 79 = .ok (.iload 6, 2) := by decide +kernel
theorem dX5_even_81 : decode cX5_even 81 = .ok (.invokevirtual 188, 3) := by decide +kernel
theorem dX5_even_84 : decode cX5_even 84 = .ok (.isub, 1) := by decide +kernel
theorem dX5_even_85 : decode cX5_even 85 = .ok (.invokestatic 191, 3) := by decide +kernel
theorem dX5_even_88 : decode cX5_even 88 = .ok (.ireturn, 1) := by decide +kernel
set_option maxRecDepth 20000 in
theorem ggX5_say_X5_isWithin : GoodIn wsX5_say wsX5_isWithin := goodIn_r _ [6] (by decide +kernel) (by decide +kernel)
set_option maxRecDepth 20000 in
theorem gX5_say_X5_isWithin : GoodIn wsX5_say (va_wsS RX5 56 yX5_isWithin wsX5_isWithin) := goodIn_app (goodIn_of _ (by decide +kernel)) ggX5_say_X5_isWithin
set_option maxRecDepth 20000 in
theorem ggX5_say_X1_add : GoodIn wsX5_say wsX1_add := goodIn_r _ [11, 12, 13, 22, 23] (by decide +kernel) (by decide +kernel)
set_option maxRecDepth 20000 in
theorem gX5_say_X1_add : GoodIn wsX5_say (wsV RX5 198 RX1 yX1_add wsX1_add) := goodIn_app (goodIn_of _ (by decide +kernel)) ggX5_say_X1_add
theorem dX5_say_0 : decode cX5_say 0 = .ok (.iload_n 1, 1) := by decide +kernel
theorem dX5_say_1 : decode cX5_say 1 = .ok (.bipush 33, 2) := by decide +kernel
theorem dX5_say_3 : decode cX5_say 3 = .ok (.bipush 126, 2) := by decide +kernel
theorem dX5_say_5 : decode cX5_say 5 = .ok (.invokestatic 56, 3) := by decide +kernel
theorem dX5_say_8 : decode cX5_say 8 = .ok (.ifCond .ne 6, 3) := by decide +kernel
theorem dX5_say_11 : decode cX5_say 11 = .ok (.bipush (-2), 2) := by decide +kernel
theorem dX5_say_13 : decode cX5_say 13 = .ok (.ireturn, 1) := by decide +kernel
theorem dX5_say_14 : decode cX5_say 14 = .ok (.aload_n 0, 1) := by decide +kernel
theorem dX5_say_15 : decode cX5_say 15 = .ok (.getfield 27, 3) := by decide +kernel
theorem dX5_say_18 : decode cX5_say 18 = .ok (.getfield 196, 3) := by decide +kernel
theorem dX5_say_21 : decode cX5_say 21 = .ok (.bipush 40, 2) := by decide +kernel
theorem dX5_say_23 : decode cX5_say 23 = .ok (.if_icmp .lt 6, 3) := by decide +kernel
theorem dX5_say_26 : decode cX5_say 26 = .ok (.bipush (-4), 2) := by decide +kernel
theorem dX5_say_28 : decode cX5_say 28 = .ok (.ireturn, 1) := by decide +kernel
theorem dX5_say_29 : decode cX5_say 29 = .ok (.aload_n 0, 1) := by decide +kernel
theorem dX5_say_30 : decode cX5_say 30 = .ok (.getfield 27, 3) := by decide +kernel
theorem dX5_say_33 : decode cX5_say 33 = .ok (.iload_n 1, 1) := by decide +kernel
theorem dX5_say_34 : decode cX5_say 34 = .ok (.invokevirtual 198, 3) := by decide +kernel
theorem dX5_say_37 : decode cX5_say 37 = .ok (.aload_n 0, 1) := by decide +kernel
theorem dX5_say_38 : decode cX5_say 38 = .ok (.getfield 27, 3) := by decide +kernel
theorem dX5_say_41 : decode cX5_say 41 = .ok (.getfield 196, 3) := by decide +kernel
theorem dX5_say_44 : decode cX5_say 44 = .ok (.ireturn, 1) := by decide +kernel
theorem dX5_wipe_0 : decode cX5_wipe 0 = .ok (.aload_n 0, 1) := by decide +kernel
theorem dX5_wipe_1 : decode cX5_wipe 1 = .ok (.getfield 27, 3) := by decide +kernel
theorem dX5_wipe_4 : decode cX5_wipe 4 = .ok (.getfield 196, 3) := by decide +kernel
theorem dX5_wipe_7 : decode cX5_wipe 7 = .ok (.istore_n 1, 1) := by decide +kernel
theorem dX5_wipe_8 : decode cX5_wipe 8 = .ok (.aload_n 0, 1) := by decide +kernel
theorem dX5_wipe_9 : decode cX5_wipe 9 = .ok (.getfield 27, 3) := by decide +kernel
theorem dX5_wipe_12 : decode cX5_wipe 12 = .ok (.iconst 0, 1) := by decide +kernel
theorem dX5_wipe_13 : decode cX5_wipe 13 = .ok (.putfield 196, 3) := by decide +kernel
theorem dX5_wipe_16 : decode cX5_wipe 16 = .ok (.iload_n 1, 1) := by decide +kernel
theorem dX5_wipe_17 : decode cX5_wipe 17 = .ok (.ireturn, 1) := by decide +kernel
set_option maxRecDepth 20000 in
theorem ggX5_fault_X1_firstFault : GoodIn wsX5_fault wsX1_firstFault := goodIn_r _ [6, 7, 8, 17, 18] (by decide +kernel) (by decide +kernel)
set_option maxRecDepth 20000 in
theorem gX5_fault_X1_firstFault : GoodIn wsX5_fault (wsV RX5 201 RX1 yX1_firstFault wsX1_firstFault) := goodIn_app (goodIn_of _ (by decide +kernel)) ggX5_fault_X1_firstFault
theorem dX5_fault_0 : decode cX5_fault 0 = .ok (.aload_n 0, 1) := by decide +kernel
theorem dX5_fault_1 : decode cX5_fault 1 = .ok (.getfield 27, 3) := by decide +kernel
theorem dX5_fault_4 : decode cX5_fault 4 = .ok (.invokevirtual 201, 3) := by decide +kernel
theorem dX5_fault_7 : decode cX5_fault 7 = .ok (.ireturn, 1) := by decide +kernel
set_option maxRecDepth 20000 in
theorem ggX5_judge_X0_canTie : GoodIn wsX5_judge wsX0_canTie := goodIn_r _ [7, 8, 9, 10, 6, 11, 12, 86, 87, 88, 89, 90, 91, 92] (by decide +kernel) (by decide +kernel)
set_option maxRecDepth 20000 in
theorem gX5_judge_X0_canTie : GoodIn wsX5_judge (wsV RX5 96 RX0 yX0_canTie wsX0_canTie) := goodIn_app (goodIn_of _ (by decide +kernel)) ggX5_judge_X0_canTie
set_option maxRecDepth 20000 in
theorem ggX5_judge_X1_firstFault : GoodIn wsX5_judge wsX1_firstFault := goodIn_r _ [17, 18, 19, 93, 94] (by decide +kernel) (by decide +kernel)
set_option maxRecDepth 20000 in
theorem gX5_judge_X1_firstFault : GoodIn wsX5_judge (wsV RX5 201 RX1 yX1_firstFault wsX1_firstFault) := goodIn_app (goodIn_of _ (by decide +kernel)) ggX5_judge_X1_firstFault
set_option maxRecDepth 20000 in
theorem ggX5_judge_X5_firstUnlike : GoodIn wsX5_judge wsX5_firstUnlike := goodIn_r _ [24, 25, 1, 2, 26, 27, 28, 29, 30, 31, 32, 33, 34, 35, 36, 37, 38, 39, 40, 41, 42, 43, 44, 45, 46, 47, 48, 49, 50, 51, 52, 53, 54, 55, 56, 57, 4, 5, 6, 7, 8, 9, 10, 11, 12, 58, 59, 60, 61, 62, 63, 64, 65, 66, 67, 68, 69, 70, 71, 72, 73, 74, 75, 76, 16, 77, 18, 19, 78, 79, 80, 81, 82, 83, 84, 85, 93, 94, 95, 96, 97, 98, 99, 100, 101, 102, 103, 104, 105, 106, 107, 108, 109, 110, 86, 87, 88, 89, 90, 91, 92] (by decide +kernel) (by decide +kernel)
set_option maxRecDepth 20000 in
theorem gX5_judge_X5_firstUnlike : GoodIn wsX5_judge (wsV RX5 204 RX5 yX5_firstUnlike wsX5_firstUnlike) := goodIn_app (goodIn_of _ (by decide +kernel)) ggX5_judge_X5_firstUnlike
theorem dX5_judge_0 : decode cX5_judge 0 = .ok (.aload_n 0, 1) := by decide +kernel
theorem dX5_judge_1 : decode cX5_judge 1 = .ok (.getfield 10, 3) := by decide +kernel
theorem dX5_judge_4 : decode cX5_judge 4 = .ok (.iload_n 1, 1) := by decide +kernel
theorem dX5_judge_5 : decode cX5_judge 5 = .ok (.iload_n 2, 1) := by decide +kernel
theorem dX5_judge_6 : decode cX5_judge 6 = .ok (.invokevirtual 96, 3) := by decide +kernel
theorem dX5_judge_9 : decode cX5_judge 9 = .ok (.ifCond .ne 5, 3) := by decide +kernel
theorem dX5_judge_12 : decode cX5_judge 12 = .ok (.iconst (-1), 1) := by decide +kernel
theorem dX5_judge_13 : decode cX5_judge 13 = .ok (.ireturn, 1) := by decide +kernel
theorem dX5_judge_14 : decode cX5_judge 14 = .ok (.aload_n 0, 1) := by decide +kernel
theorem dX5_judge_15 : decode cX5_judge 15 = .ok (.getfield 27, 3) := by decide +kernel
theorem dX5_judge_18 : decode cX5_judge 18 = .ok (.invokevirtual 201, 3) := by decide +kernel
theorem dX5_judge_21 : decode cX5_judge 21 = .ok (.bipush (-6), 2) := by decide +kernel
theorem dX5_judge_23 : decode cX5_judge 23 = .ok (.if_icmp .eq 6, 3) := by decide +kernel
theorem dX5_judge_26 : decode cX5_judge 26 = .ok (.bipush (-5), 2) := by decide +kernel
theorem dX5_judge_28 : decode cX5_judge 28 = .ok (.ireturn, 1) := by decide +kernel
theorem dX5_judge_29 : decode cX5_judge 29 = .ok (.aload_n 0, 1) := by decide +kernel
theorem dX5_judge_30 : decode cX5_judge 30 = .ok (.iload_n 1, 1) := by decide +kernel
theorem dX5_judge_31 : decode cX5_judge 31 = .ok (.iload_n 2, 1) := by decide +kernel
theorem dX5_judge_32 : decode cX5_judge 32 = .ok (.invokevirtual 204, 3) := by decide +kernel
theorem dX5_judge_35 : decode cX5_judge 35 = .ok (.ireturn, 1) := by decide +kernel
set_option maxRecDepth 20000 in
theorem ggX5_fits_X1_firstFault : GoodIn wsX5_fits wsX1_firstFault := goodIn_r _ [7, 8, 9, 86, 87] (by decide +kernel) (by decide +kernel)
set_option maxRecDepth 20000 in
theorem gX5_fits_X1_firstFault : GoodIn wsX5_fits (wsV RX5 201 RX1 yX1_firstFault wsX1_firstFault) := goodIn_app (goodIn_of _ (by decide +kernel)) ggX5_fits_X1_firstFault
set_option maxRecDepth 20000 in
theorem ggX5_fits_X0_canTie : GoodIn wsX5_fits wsX0_canTie := goodIn_r _ [14, 15, 16, 17, 13, 18, 19, 88, 89, 90, 91, 92, 93, 94] (by decide +kernel) (by decide +kernel)
set_option maxRecDepth 20000 in
theorem gX5_fits_X0_canTie : GoodIn wsX5_fits (wsV RX5 96 RX0 yX0_canTie wsX0_canTie) := goodIn_app (goodIn_of _ (by decide +kernel)) ggX5_fits_X0_canTie
set_option maxRecDepth 20000 in
theorem ggX5_fits_X5_firstUnlike : GoodIn wsX5_fits wsX5_firstUnlike := goodIn_r _ [24, 25, 2, 1, 26, 27, 28, 29, 30, 31, 32, 33, 34, 35, 36, 37, 38, 39, 40, 41, 42, 43, 44, 45, 46, 47, 48, 49, 50, 51, 52, 53, 54, 55, 56, 57, 11, 12, 13, 14, 15, 16, 17, 18, 19, 58, 59, 60, 61, 62, 63, 64, 65, 66, 67, 68, 69, 70, 71, 72, 73, 74, 75, 76, 6, 77, 8, 9, 78, 79, 80, 81, 82, 83, 84, 85, 86, 87, 95, 96, 97, 98, 99, 100, 101, 102, 103, 104, 105, 106, 107, 108, 109, 110, 88, 89, 90, 91, 92, 93, 94] (by decide +kernel) (by decide +kernel)
set_option maxRecDepth 20000 in
theorem gX5_fits_X5_firstUnlike : GoodIn wsX5_fits (wsV RX5 204 RX5 yX5_firstUnlike wsX5_firstUnlike) := goodIn_app (goodIn_of _ (by decide +kernel)) ggX5_fits_X5_firstUnlike
theorem dX5_fits_0 : decode cX5_fits 0 = .ok (.aload_n 0, 1) := by decide +kernel
theorem dX5_fits_1 : decode cX5_fits 1 = .ok (.getfield 27, 3) := by decide +kernel
theorem dX5_fits_4 : decode cX5_fits 4 = .ok (.invokevirtual 201, 3) := by decide +kernel
theorem dX5_fits_7 : decode cX5_fits 7 = .ok (.bipush (-6), 2) := by decide +kernel
theorem dX5_fits_9 : decode cX5_fits 9 = .ok (.if_icmp .eq 6, 3) := by decide +kernel
theorem dX5_fits_12 : decode cX5_fits 12 = .ok (.bipush (-5), 2) := by decide +kernel
theorem dX5_fits_14 : decode cX5_fits 14 = .ok (.ireturn, 1) := by decide +kernel
theorem dX5_fits_15 : decode cX5_fits 15 = .ok (.iconst 0, 1) := by decide +kernel
theorem dX5_fits_16 : decode cX5_fits 16 = .ok (.istore_n 2, 1) := by decide +kernel
theorem dX5_fits_17 : decode cX5_fits 17 = .ok (.iconst 0, 1) := by decide +kernel
theorem dX5_fits_18 : decode cX5_fits 18 = .ok (.istore_n 3, 1) := by decide +kernel
theorem dX5_fits_19 : decode cX5_fits 19 = .ok (.iload_n 3, 1) := by decide +kernel
theorem dX5_fits_20 : decode cX5_fits 20 = .ok (.bipush 8, 2) := by decide +kernel
theorem dX5_fits_22 : decode cX5_fits 22 = .ok (.if_icmp .ge 68, 3) := by decide +kernel
theorem dX5_fits_25 : decode cX5_fits 25 = .ok (.iload_n 3, 1) := by decide +kernel
theorem dX5_fits_26 : decode cX5_fits 26 = .ok (.iconst 1, 1) := by decide +kernel
theorem dX5_fits_27 : decode cX5_fits 27 = .ok (.iadd, 1) := by decide +kernel
theorem dX5_fits_28 : decode cX5_fits 28 = .ok (.istore 4, 2) := by decide +kernel
theorem dX5_fits_30 : decode cX5_fits 30 = .ok (.iload 4, 2) := by decide +kernel
theorem dX5_fits_32 : decode cX5_fits 32 = .ok (.bipush 8, 2) := by decide +kernel
theorem dX5_fits_34 : decode cX5_fits 34 = .ok (.if_icmp .ge 50, 3) := by decide +kernel
theorem dX5_fits_37 : decode cX5_fits 37 = .ok (.aload_n 0, 1) := by decide +kernel
theorem dX5_fits_38 : decode cX5_fits 38 = .ok (.getfield 10, 3) := by decide +kernel
theorem dX5_fits_41 : decode cX5_fits 41 = .ok (.iload_n 3, 1) := by decide +kernel
theorem dX5_fits_42 : decode cX5_fits 42 = .ok (.iload 4, 2) := by decide +kernel
theorem dX5_fits_44 : decode cX5_fits 44 = .ok (.invokevirtual 96, 3) := by decide +kernel
theorem dX5_fits_47 : decode cX5_fits 47 = .ok (.ifCond .eq 31, 3) := by decide +kernel
theorem dX5_fits_50 : decode cX5_fits 50 = .ok (.aload_n 0, 1) := by decide +kernel
theorem dX5_fits_51 : decode cX5_fits 51 = .ok (.iload_n 3, 1) := by decide +kernel
theorem dX5_fits_52 : decode cX5_fits 52 = .ok (.iload 4, 2) := by decide +kernel
theorem dX5_fits_54 : decode cX5_fits 54 = .ok (.invokevirtual 204, 3) := by decide +kernel
theorem dX5_fits_57 : decode cX5_fits 57 = .ok (.bipush (-6), 2) := by decide +kernel
theorem dX5_fits_59 : decode cX5_fits 59 = .ok (.if_icmp .ne 19, 3) := by decide +kernel
theorem dX5_fits_62 : decode cX5_fits 62 = .ok (.iload_n 2, 1) := by decide +kernel
theorem dX5_fits_63 : decode cX5_fits 63 = .ok (.iload_n 1, 1) := by decide +kernel
theorem dX5_fits_64 : decode cX5_fits 64 = .ok (.if_icmp .ne 11, 3) := by decide +kernel
theorem dX5_fits_67 : decode cX5_fits 67 = .ok (.bipush 10, 2) := by decide +kernel
theorem dX5_fits_69 : decode cX5_fits 69 = .ok (.iload_n 3, 1) := by decide +kernel
theorem dX5_fits_70 : decode cX5_fits 70 = .ok (.imul, 1) := by decide +kernel
theorem dX5_fits_71 : decode cX5_fits 71 = .ok (.iload 4, 2) := by decide +kernel
theorem dX5_fits_73 : decode cX5_fits 73 = .ok (.iadd, 1) := by decide +kernel
theorem dX5_fits_74 : decode cX5_fits 74 = .ok (.ireturn, 1) := by decide +kernel
theorem dX5_fits_75 : decode cX5_fits 75 = .ok (.iinc 2 1, 3) := by decide +kernel
theorem dX5_fits_78 : decode cX5_fits 78 = .ok (.iinc 4 1, 3) := by decide +kernel
theorem dX5_fits_81 : decode cX5_fits 81 = .ok (.goto (-51), 3) := by decide +kernel
theorem dX5_fits_84 : decode cX5_fits 84 = .ok (.iinc 3 1, 3) := by decide +kernel
theorem dX5_fits_87 : decode cX5_fits 87 = .ok (.goto (-68), 3) := by decide +kernel
theorem dX5_fits_90 : decode cX5_fits 90 = .ok (.iload_n 1, 1) := by decide +kernel
theorem dX5_fits_91 : decode cX5_fits 91 = .ok (.iconst (-1), 1) := by decide +kernel
theorem dX5_fits_92 : decode cX5_fits 92 = .ok (.if_icmp .ne 7, 3) := by decide +kernel
theorem dX5_fits_95 : decode cX5_fits 95 = .ok (.iload_n 2, 1) := by decide +kernel
theorem dX5_fits_96 : decode cX5_fits 96 = .ok (.goto 5, 3) := by decide +kernel
theorem dX5_fits_99 : decode cX5_fits 99 = .ok (.bipush (-6), 2) := by decide +kernel
theorem dX5_fits_101 : decode cX5_fits 101 = .ok (.ireturn, 1) := by decide +kernel
set_option maxRecDepth 20000 in
theorem ggX5_year_X5_isWithin : GoodIn wsX5_year wsX5_isWithin := goodIn_r _ [9] (by decide +kernel) (by decide +kernel)
set_option maxRecDepth 20000 in
theorem gX5_year_X5_isWithin : GoodIn wsX5_year (va_wsS RX5 56 yX5_isWithin wsX5_isWithin) := goodIn_app (goodIn_of _ (by decide +kernel)) ggX5_year_X5_isWithin
set_option maxRecDepth 20000 in
theorem ggX5_year_X5_isFeet : GoodIn wsX5_year wsX5_isFeet := goodIn_r _ [12, 6, 7, 8, 9] (by decide +kernel) (by decide +kernel)
set_option maxRecDepth 20000 in
theorem gX5_year_X5_isFeet : GoodIn wsX5_year (va_wsS RX5 140 yX5_isFeet wsX5_isFeet) := goodIn_app (goodIn_of _ (by decide +kernel)) ggX5_year_X5_isFeet
set_option maxRecDepth 20000 in
theorem ggX5_year_X5_timeAllPairs : GoodIn wsX5_year wsX5_timeAllPairs := goodIn_r _ [16, 3, 4, 17, 18, 19, 20, 21, 22, 23, 24, 25, 26, 27, 28, 29, 8, 30, 31, 32, 33, 34, 35, 36, 37, 38, 39, 40, 41, 42, 43, 44, 45, 46, 47, 48, 49, 50, 51, 52, 53, 54, 55, 56, 57, 58, 59, 60, 61, 62, 63, 64, 65, 66, 67, 68, 69, 70, 71, 72, 73, 74, 75, 76, 77, 78, 79, 80, 81, 82, 83, 84, 85, 86, 87, 88, 89, 101, 102, 103, 104, 105, 106, 107, 108, 111, 112, 113, 114, 115, 116, 117, 118, 119, 120, 121, 122, 123, 124, 125, 126, 127, 128, 129, 130, 131, 132, 133] (by decide +kernel) (by decide +kernel)
set_option maxRecDepth 20000 in
theorem gX5_year_X5_timeAllPairs : GoodIn wsX5_year (wsV RX5 149 RX5 yX5_timeAllPairs wsX5_timeAllPairs) := goodIn_app (goodIn_of _ (by decide +kernel)) ggX5_year_X5_timeAllPairs
set_option maxRecDepth 20000 in
theorem ggX5_year_X3_clear : GoodIn wsX5_year wsX3_clear := goodIn_r _ [94, 95, 96, 109, 110] (by decide +kernel) (by decide +kernel)
set_option maxRecDepth 20000 in
theorem gX5_year_X3_clear : GoodIn wsX5_year (wsV RX5 162 RX3 yX3_clear wsX3_clear) := goodIn_app (goodIn_of _ (by decide +kernel)) ggX5_year_X3_clear
set_option maxRecDepth 20000 in
theorem ggX5_year_X0_canTie : GoodIn wsX5_year wsX0_canTie := goodIn_r _ [21, 22, 23, 24, 20, 25, 26, 111, 112, 113, 114, 115, 116, 117] (by decide +kernel) (by decide +kernel)
set_option maxRecDepth 20000 in
theorem gX5_year_X0_canTie : GoodIn wsX5_year (wsV RX5 96 RX0 yX0_canTie wsX0_canTie) := goodIn_app (goodIn_of _ (by decide +kernel)) ggX5_year_X0_canTie
set_option maxRecDepth 20000 in
theorem ggX5_year_X3_offer : GoodIn wsX5_year wsX3_offer := goodIn_r _ [100, 95, 96, 109, 110] (by decide +kernel) (by decide +kernel)
set_option maxRecDepth 20000 in
theorem gX5_year_X3_offer : GoodIn wsX5_year (wsV RX5 171 RX3 yX3_offer wsX3_offer) := goodIn_app (goodIn_of _ (by decide +kernel)) ggX5_year_X3_offer
theorem dX5_year_0 : decode cX5_year 0 = .ok (.iload_n 1, 1) := by decide +kernel
theorem dX5_year_1 : decode cX5_year 1 = .ok (.iconst 0, 1) := by decide +kernel
theorem dX5_year_2 : decode cX5_year 2 = .ok (.sipush 9999, 3) := by decide +kernel
theorem dX5_year_5 : decode cX5_year 5 = .ok (.invokestatic 56, 3) := by decide +kernel
theorem dX5_year_8 : decode cX5_year 8 = .ok (.ifCond .eq 31, 3) := by decide +kernel
theorem dX5_year_11 : decode cX5_year 11 = .ok (.iload_n 2, 1) := by decide +kernel
theorem dX5_year_12 : decode cX5_year 12 = .ok (.iconst 1, 1) := by decide +kernel
theorem dX5_year_13 : decode cX5_year 13 = .ok (.bipush 99, 2) := by decide +kernel
theorem dX5_year_15 : decode cX5_year 15 = .ok (.invokestatic 56, 3) := by decide +kernel
theorem dX5_year_18 : decode cX5_year 18 = .ok (.ifCond .eq 21, 3) := by decide +kernel
theorem dX5_year_21 : decode cX5_year 21 = .ok (.iload_n 3, 1) := by decide +kernel
theorem dX5_year_22 : decode cX5_year 22 = .ok (.invokestatic 140, 3) := by decide +kernel
theorem dX5_year_25 : decode cX5_year 25 = .ok (.ifCond .eq 14, 3) := by decide +kernel
theorem dX5_year_28 : decode cX5_year 28 = .ok (.iload 4, 2) := by decide +kernel
theorem dX5_year_30 : decode cX5_year 30 = .ok (.iconst (-1), 1) := by decide +kernel
theorem dX5_year_31 : decode cX5_year 31 = .ok (.bipush 8, 2) := by decide +kernel
theorem dX5_year_33 : decode cX5_year 33 = .ok (.invokestatic 56, 3) := by decide +kernel
theorem dX5_year_36 : decode cX5_year 36 = .ok (.ifCond .ne 6, 3) := by decide +kernel
theorem dX5_year_39 : decode cX5_year 39 = .ok (.bipush (-2), 2) := by decide +kernel
theorem dX5_year_41 : decode cX5_year 41 = .ok (.ireturn, 1) := by decide +kernel
theorem dX5_year_42 : decode cX5_year 42 = .ok (.aload_n 0, 1) := by decide +kernel
theorem dX5_year_43 : decode cX5_year 43 = .ok (.iload_n 3, 1) := by decide +kernel
theorem dX5_year_44 : decode cX5_year 44 = .ok (.invokevirtual 149, 3) := by decide +kernel
theorem dX5_year_47 : decode cX5_year 47 = .ok (.aload_n 0, 1) := by decide +kernel
theorem dX5_year_48 : decode cX5_year 48 = .ok (.getfield 48, 3) := by decide +kernel
theorem dX5_year_51 : decode cX5_year 51 = .ok (.invokevirtual 162, 3) := by decide +kernel
theorem dX5_year_54 : decode cX5_year 54 = .ok (.iconst 0, 1) := by decide +kernel
theorem dX5_year_55 : decode cX5_year 55 = .ok (.istore 5, 2) := by decide +kernel
theorem dX5_year_57 : decode cX5_year 57 = .ok (.iconst 0, 1) := by decide +kernel
theorem dX5_year_58 : decode cX5_year 58 = .ok (.istore 6, 2) := by decide +kernel
theorem dX5_year_60 : decode cX5_year 60 = .ok (.iload_n 1, 1) := by decide +kernel
theorem dX5_year_61 : decode cX5_year 61 = .ok (.istore 7, 2) := by decide +kernel
theorem dX5_year_63 : decode cX5_year 63 = .ok (.iconst 0, 1) := by decide +kernel
theorem dX5_year_64 : decode cX5_year 64 = .ok (.istore 8, 2) := by decide +kernel
theorem dX5_year_66 : decode cX5_year 66 = .ok (.iload 8, 2) := by decide +kernel
theorem dX5_year_68 : decode cX5_year 68 = .ok (.iload_n 2, 1) := by decide +kernel
theorem dX5_year_69 : decode cX5_year 69 = .ok (.if_icmp .ge 113, 3) := by decide +kernel
theorem dX5_year_72 : decode cX5_year 72 = .ok (.bipush 75, 2) := by decide +kernel
theorem dX5_year_74 : decode cX5_year 74 = .ok (.iload 7, 2) := by decide +kernel
theorem dX5_year_76 : decode cX5_year 76 = .ok (.imul, 1) := by decide +kernel
theorem dX5_year_77 : decode cX5_year 77 = .ok (.bipush 74, 2) := by decide +kernel
theorem dX5_year_79 : decode cX5_year 79 = .ok (.iadd, 1) := by decide +kernel
theorem dX5_year_80 : decode cX5_year 80 = .ok (.ldc 207, 2) := by decide +kernel
theorem dX5_year_82 : decode cX5_year 82 = .ok (.irem, 1) := by decide +kernel
theorem dX5_year_83 : decode cX5_year 83 = .ok (.istore 7, 2) := by decide +kernel
theorem dX5_year_85 : decode cX5_year 85 = .ok (.iload 7, 2) := by decide +kernel
theorem dX5_year_87 : decode cX5_year 87 = .ok (.bipush 8, 2) := by decide +kernel
theorem dX5_year_89 : decode cX5_year 89 = .ok (.irem, 1) := by decide +kernel
theorem dX5_year_90 : decode cX5_year 90 = .ok (.istore 9, 2) := by decide +kernel
theorem dX5_year_92 : decode cX5_year 92 = .ok (.iload 7, 2) := by decide +kernel
theorem dX5_year_94 : decode cX5_year 94 = .ok (.bipush 8, 2) := by decide +kernel
theorem dX5_year_96 : decode cX5_year 96 = .ok (.idiv, 1) := by decide +kernel
theorem dX5_year_97 : decode cX5_year 97 = .ok (.bipush 8, 2) := by decide +kernel
theorem dX5_year_99 : decode cX5_year 99 = .ok (.irem, 1) := by decide +kernel
theorem dX5_year_100 : decode cX5_year 100 = .ok (.istore 10, 2) := by decide +kernel
theorem dX5_year_102 : decode cX5_year 102 = .ok (.aload_n 0, 1) := by decide +kernel
theorem dX5_year_103 : decode cX5_year 103 = .ok (.getfield 10, 3) := by decide +kernel
theorem dX5_year_106 : decode cX5_year 106 = .ok (.iload 9, 2) := by decide +kernel
theorem dX5_year_108 : decode cX5_year 108 = .ok (.iload 10, 2) := by decide +kernel
theorem dX5_year_110 : decode cX5_year 110 = .ok (.invokevirtual 96, 3) := by decide +kernel
theorem dX5_year_113 : decode cX5_year 113 = .ok (.ifCond .eq 63, 3) := by decide +kernel
theorem dX5_year_116 : decode cX5_year 116 = .ok (.aload_n 0, 1) := by decide +kernel
theorem dX5_year_117 : decode cX5_year 117 = .ok (.getfield 52, 3) := by decide +kernel
theorem dX5_year_120 : decode cX5_year 120 = .ok (.bipush 8, 2) := by decide +kernel
theorem dX5_year_122 : decode cX5_year 122 = .ok (.iload 9, 2) := by decide +kernel
theorem dX5_year_124 : decode cX5_year 124 = .ok (.imul, 1) := by decide +kernel
theorem dX5_year_125 : decode cX5_year 125 = .ok (.iload 10, 2) := by decide +kernel
theorem dX5_year_127 : decode cX5_year 127 = .ok (.iadd, 1) := by decide +kernel
theorem dX5_year_128 : decode cX5_year 128 = .ok (.iaload, 1) := by decide +kernel
theorem dX5_year_129 : decode cX5_year 129 = .ok (.istore 11, 2) := by decide +kernel
theorem dX5_year_131 : decode cX5_year 131 = .ok (.iinc 5 1, 3) := by decide +kernel
theorem dX5_year_134 : decode cX5_year 134 = .ok (.iload 6, 2) := by decide +kernel
theorem dX5_year_136 : decode cX5_year 136 = .ok (.iload 11, 2) := by decide +kernel
theorem dX5_year_138 : decode cX5_year 138 = .ok (.bipush (-6), 2) := by decide +kernel
theorem dX5_year_140 : decode cX5_year 140 = .ok (.if_icmp .eq 21, 3) := by decide +kernel
theorem dX5_year_143 : decode cX5_year 143 = .ok (.iload 9, 2) := by decide +kernel
theorem dX5_year_145 : decode cX5_year 145 = .ok (.iload 4, 2) := by decide +kernel
theorem dX5_year_147 : decode cX5_year 147 = .ok (.if_icmp .eq 10, 3) := by decide +kernel
theorem dX5_year_150 : decode cX5_year 150 = .ok (.iload 10, 2) := by decide +kernel
theorem dX5_year_152 : decode cX5_year 152 = .ok (.iload 4, 2) := by decide +kernel
theorem dX5_year_154 : decode cX5_year 154 = .ok (.if_icmp .ne 7, 3) := by decide +kernel
theorem dX5_year_157 : decode cX5_year 157 = .ok (.iconst 1, 1) := by decide +kernel
theorem dX5_year_158 : decode cX5_year 158 = .ok (.goto 4, 3) := by decide +kernel
theorem dX5_year_161 : decode cX5_year 161 = .ok (.iconst 0, 1) := by decide +kernel
theorem dX5_year_162 : decode cX5_year 162 = .ok (.iadd, 1) := by decide +kernel
theorem dX5_year_163 : decode cX5_year 163 = .ok (.istore 6, 2) := by decide +kernel
theorem dX5_year_165 : decode cX5_year 165 = .ok (.aload_n 0, 1) := by decide +kernel
theorem dX5_year_166 : decode cX5_year 166 = .ok (.getfield 48, 3) := by decide +kernel
theorem dX5_year_169 : decode cX5_year 169 = .ok (.iload 8, 2) := by decide +kernel
theorem dX5_year_171 : decode cX5_year 171 = .ok (.iload 11, 2) := by decide +kernel
theorem dX5_year_173 : decode cX5_year 173 = .ok (.invokevirtual 171, 3) := by decide +kernel
theorem dX5_year_176 : decode cX5_year 176 = .ok (.iinc 8 1, 3) := by decide +kernel
theorem dX5_year_179 : decode cX5_year 179 = .ok (.goto (-113), 3) := by decide +kernel
theorem dX5_year_182 : decode cX5_year 182 = .ok (.iload 4, 2) := by decide +kernel
theorem dX5_year_184 : decode cX5_year 184 = .ok (.iconst (-1), 1) := by decide +kernel
theorem dX5_year_185 : decode cX5_year 185 = .ok (.if_icmp .ne 6, 3) := by decide +kernel
theorem dX5_year_188 : decode cX5_year 188 = .ok (.iload 5, 2) := by decide +kernel
theorem dX5_year_190 : decode cX5_year 190 = .ok (.ireturn, 1) := by decide +kernel
theorem dX5_year_191 : decode cX5_year 191 = .ok (.iload 4, 2) := by decide +kernel
theorem dX5_year_193 : decode cX5_year 193 = .ok (.bipush 8, 2) := by decide +kernel
theorem dX5_year_195 : decode cX5_year 195 = .ok (.if_icmp .ne 13, 3) := by decide +kernel
theorem dX5_year_198 : decode cX5_year 198 = .ok (.aload_n 0, 1) := by decide +kernel
theorem dX5_year_199 : decode cX5_year 199 = .ok (.getfield 48, 3) := by decide +kernel
theorem dX5_year_202 : decode cX5_year 202 = .ok (.getfield 208, 3) := by decide +kernel
theorem dX5_year_205 : decode cX5_year 205 = .ok (.goto 5, 3) := by decide +kernel
theorem dX5_year_208 : decode cX5_year 208 = .ok (.iload 6, 2) := by decide +kernel
theorem dX5_year_210 : decode cX5_year 210 = .ok (.ireturn, 1) := by decide +kernel
set_option maxRecDepth 20000 in
theorem ggX5_image_X5_isWithin : GoodIn wsX5_image wsX5_isWithin := goodIn_r _ [7] (by decide +kernel) (by decide +kernel)
set_option maxRecDepth 20000 in
theorem gX5_image_X5_isWithin : GoodIn wsX5_image (va_wsS RX5 56 yX5_isWithin wsX5_isWithin) := goodIn_app (goodIn_of _ (by decide +kernel)) ggX5_image_X5_isWithin
set_option maxRecDepth 20000 in
theorem ggX5_image_X0_copyFrom : GoodIn wsX5_image wsX0_copyFrom := goodIn_r _ [12, 13, 14, 15, 16, 17, 18, 19, 28, 29, 30, 31, 32, 33, 34] (by decide +kernel) (by decide +kernel)
set_option maxRecDepth 20000 in
theorem gX5_image_X0_copyFrom : GoodIn wsX5_image (wsV RX5 210 RX0 yX0_copyFrom wsX0_copyFrom) := goodIn_app (goodIn_of _ (by decide +kernel)) ggX5_image_X0_copyFrom
theorem dX5_image_0 : decode cX5_image 0 = .ok (.iload_n 1, 1) := by decide +kernel
theorem dX5_image_1 : decode cX5_image 1 = .ok (.iconst 0, 1) := by decide +kernel
theorem dX5_image_2 : decode cX5_image 2 = .ok (.iconst 1, 1) := by decide +kernel
theorem dX5_image_3 : decode cX5_image 3 = .ok (.invokestatic 56, 3) := by decide +kernel
theorem dX5_image_6 : decode cX5_image 6 = .ok (.ifCond .ne 6, 3) := by decide +kernel
theorem dX5_image_9 : decode cX5_image 9 = .ok (.bipush (-2), 2) := by decide +kernel
theorem dX5_image_11 : decode cX5_image 11 = .ok (.ireturn, 1) := by decide +kernel
theorem dX5_image_12 : decode cX5_image 12 = .ok (.aload_n 0, 1) := by decide +kernel
theorem dX5_image_13 : decode cX5_image 13 = .ok (.getfield 16, 3) := by decide +kernel
theorem dX5_image_16 : decode cX5_image 16 = .ok (.iload_n 1, 1) := by decide +kernel
theorem dX5_image_17 : decode cX5_image 17 = .ok (.aaload, 1) := by decide +kernel
theorem dX5_image_18 : decode cX5_image 18 = .ok (.aload_n 0, 1) := by decide +kernel
theorem dX5_image_19 : decode cX5_image 19 = .ok (.getfield 10, 3) := by decide +kernel
theorem dX5_image_22 : decode cX5_image 22 = .ok (.invokevirtual 210, 3) := by decide +kernel
theorem dX5_image_25 : decode cX5_image 25 = .ok (.aload_n 0, 1) := by decide +kernel
theorem dX5_image_26 : decode cX5_image 26 = .ok (.getfield 20, 3) := by decide +kernel
theorem dX5_image_29 : decode cX5_image 29 = .ok (.iload_n 1, 1) := by decide +kernel
theorem dX5_image_30 : decode cX5_image 30 = .ok (.iconst 1, 1) := by decide +kernel
theorem dX5_image_31 : decode cX5_image 31 = .ok (.bastore, 1) := by decide +kernel
theorem dX5_image_32 : decode cX5_image 32 = .ok (.iconst 1, 1) := by decide +kernel
theorem dX5_image_33 : decode cX5_image 33 = .ok (.ireturn, 1) := by decide +kernel
set_option maxRecDepth 20000 in
theorem ggX5_restore_X5_isWithin : GoodIn wsX5_restore wsX5_isWithin := goodIn_r _ [7] (by decide +kernel) (by decide +kernel)
set_option maxRecDepth 20000 in
theorem gX5_restore_X5_isWithin : GoodIn wsX5_restore (va_wsS RX5 56 yX5_isWithin wsX5_isWithin) := goodIn_app (goodIn_of _ (by decide +kernel)) ggX5_restore_X5_isWithin
set_option maxRecDepth 20000 in
theorem ggX5_restore_X0_copyFrom : GoodIn wsX5_restore wsX0_copyFrom := goodIn_r _ [12, 13, 14, 15, 16, 17, 18, 19, 28, 29, 30, 31, 32, 33, 34] (by decide +kernel) (by decide +kernel)
set_option maxRecDepth 20000 in
theorem gX5_restore_X0_copyFrom : GoodIn wsX5_restore (wsV RX5 210 RX0 yX0_copyFrom wsX0_copyFrom) := goodIn_app (goodIn_of _ (by decide +kernel)) ggX5_restore_X0_copyFrom
theorem dX5_restore_0 : decode cX5_restore 0 = .ok (.iload_n 1, 1) := by decide +kernel
theorem dX5_restore_1 : decode cX5_restore 1 = .ok (.iconst 0, 1) := by decide +kernel
theorem dX5_restore_2 : decode cX5_restore 2 = .ok (.iconst 1, 1) := by decide +kernel
theorem dX5_restore_3 : decode cX5_restore 3 = .ok (.invokestatic 56, 3) := by decide +kernel
theorem dX5_restore_6 : decode cX5_restore 6 = .ok (.ifCond .ne 6, 3) := by decide +kernel
theorem dX5_restore_9 : decode cX5_restore 9 = .ok (.bipush (-2), 2) := by decide +kernel
theorem dX5_restore_11 : decode cX5_restore 11 = .ok (.ireturn, 1) := by decide +kernel
theorem dX5_restore_12 : decode cX5_restore 12 = .ok (.aload_n 0, 1) := by decide +kernel
theorem dX5_restore_13 : decode cX5_restore 13 = .ok (.getfield 20, 3) := by decide +kernel
theorem dX5_restore_16 : decode cX5_restore 16 = .ok (.iload_n 1, 1) := by decide +kernel
theorem dX5_restore_17 : decode cX5_restore 17 = .ok (.baload, 1) := by decide +kernel
theorem dX5_restore_18 : decode cX5_restore 18 = .ok (.ifCond .ne 6, 3) := by decide +kernel
theorem dX5_restore_21 : decode cX5_restore 21 = .ok (.bipush (-3), 2) := by decide +kernel
theorem dX5_restore_23 : decode cX5_restore 23 = .ok (.ireturn, 1) := by decide +kernel
theorem dX5_restore_24 : decode cX5_restore 24 = .ok (.aload_n 0, 1) := by decide +kernel
theorem dX5_restore_25 : decode cX5_restore 25 = .ok (.getfield 10, 3) := by decide +kernel
theorem dX5_restore_28 : decode cX5_restore 28 = .ok (.aload_n 0, 1) := by decide +kernel
theorem dX5_restore_29 : decode cX5_restore 29 = .ok (.getfield 16, 3) := by decide +kernel
theorem dX5_restore_32 : decode cX5_restore 32 = .ok (.iload_n 1, 1) := by decide +kernel
theorem dX5_restore_33 : decode cX5_restore 33 = .ok (.aaload, 1) := by decide +kernel
theorem dX5_restore_34 : decode cX5_restore 34 = .ok (.invokevirtual 210, 3) := by decide +kernel
theorem dX5_restore_37 : decode cX5_restore 37 = .ok (.iconst 1, 1) := by decide +kernel
theorem dX5_restore_38 : decode cX5_restore 38 = .ok (.ireturn, 1) := by decide +kernel
set_option maxRecDepth 20000 in
theorem ggX5_told_X0_bits : GoodIn wsX5_told wsX0_bits := goodIn_r _ [11, 12, 35, 36, 37, 38, 39, 40, 41] (by decide +kernel) (by decide +kernel)
set_option maxRecDepth 20000 in
theorem gX5_told_X0_bits : GoodIn wsX5_told (wsV RX5 214 RX0 yX0_bits wsX0_bits) := goodIn_app (goodIn_of _ (by decide +kernel)) ggX5_told_X0_bits
set_option maxRecDepth 20000 in
theorem ggX5_told_X5_toldOfPerson : GoodIn wsX5_told wsX5_toldOfPerson := goodIn_r _ [17, 3, 18, 19, 20, 21, 22, 23, 10, 24, 12, 25, 26, 27, 28, 29, 30, 31, 32, 35, 36, 37, 38, 39, 40, 41] (by decide +kernel) (by decide +kernel)
set_option maxRecDepth 20000 in
theorem gX5_told_X5_toldOfPerson : GoodIn wsX5_told (wsV RX5 217 RX5 yX5_toldOfPerson wsX5_toldOfPerson) := goodIn_app (goodIn_of _ (by decide +kernel)) ggX5_told_X5_toldOfPerson
theorem dX5_told_0 : decode cX5_told 0 = .ok (.iload_n 1, 1) := by decide +kernel
theorem dX5_told_1 : decode cX5_told 1 = .ok (.tableswitch 75 0 4 #[35, 43, 51, 59, 67], 35) := by decide +kernel
theorem dX5_told_36 : decode cX5_told 36 = .ok (.aload_n 0, 1) := by decide +kernel
theorem dX5_told_37 : decode cX5_told 37 = .ok (.getfield 27, 3) := by decide +kernel
theorem dX5_told_40 : decode cX5_told 40 = .ok (.getfield 196, 3) := by decide +kernel
theorem dX5_told_43 : decode cX5_told 43 = .ok (.ireturn, 1) := by decide +kernel
theorem dX5_told_44 : decode cX5_told 44 = .ok (.aload_n 0, 1) := by decide +kernel
theorem dX5_told_45 : decode cX5_told 45 = .ok (.getfield 10, 3) := by decide +kernel
theorem dX5_told_48 : decode cX5_told 48 = .ok (.invokevirtual 214, 3) := by decide +kernel
theorem dX5_told_51 : decode cX5_told 51 = .ok (.ireturn, 1) := by decide +kernel
theorem dX5_told_52 : decode cX5_told 52 = .ok (.aload_n 0, 1) := by decide +kernel
theorem dX5_told_53 : decode cX5_told 53 = .ok (.getfield 10, 3) := by decide +kernel
theorem dX5_told_56 : decode cX5_told 56 = .ok (.getfield 90, 3) := by decide +kernel
theorem dX5_told_59 : decode cX5_told 59 = .ok (.ireturn, 1) := by decide +kernel
theorem dX5_told_60 : decode cX5_told 60 = .ok (.aload_n 0, 1) := by decide +kernel
theorem dX5_told_61 : decode cX5_told 61 = .ok (.getfield 10, 3) := by decide +kernel
theorem dX5_told_64 : decode cX5_told 64 = .ok (.getfield 86, 3) := by decide +kernel
theorem dX5_told_67 : decode cX5_told 67 = .ok (.ireturn, 1) := by decide +kernel
theorem dX5_told_68 : decode cX5_told 68 = .ok (.aload_n 0, 1) := by decide +kernel
theorem dX5_told_69 : decode cX5_told 69 = .ok (.getfield 10, 3) := by decide +kernel
theorem dX5_told_72 : decode cX5_told 72 = .ok (.getfield 93, 3) := by decide +kernel
theorem dX5_told_75 : decode cX5_told 75 = .ok (.ireturn, 1) := by decide +kernel
theorem dX5_told_76 : decode cX5_told 76 = .ok (.aload_n 0, 1) := by decide +kernel
theorem dX5_told_77 : decode cX5_told 77 = .ok (.iload_n 1, 1) := by decide +kernel
theorem dX5_told_78 : decode cX5_told 78 = .ok (.bipush 10, 2) := by decide +kernel
theorem dX5_told_80 : decode cX5_told 80 = .ok (.idiv, 1) := by decide +kernel
theorem dX5_told_81 : decode cX5_told 81 = .ok (.iconst 1, 1) := by decide +kernel
theorem dX5_told_82 : decode cX5_told 82 = .ok (.isub, 1) := by decide +kernel
theorem dX5_told_83 : decode cX5_told 83 = .ok (.iload_n 1, 1) := by decide +kernel
theorem dX5_told_84 : decode cX5_told 84 = .ok (.bipush 10, 2) := by decide +kernel
theorem dX5_told_86 : decode cX5_told 86 = .ok (.irem, 1) := by decide +kernel
theorem dX5_told_87 : decode cX5_told 87 = .ok (.invokevirtual 217, 3) := by decide +kernel
theorem dX5_told_90 : decode cX5_told 90 = .ok (.ireturn, 1) := by decide +kernel
set_option maxRecDepth 20000 in
theorem ggX5_toldOfPerson_X0_hasRunner : GoodIn wsX5_toldOfPerson wsX0_hasRunner := goodIn_r _ [9, 10, 19, 20, 21, 22, 23, 24, 25] (by decide +kernel) (by decide +kernel)
set_option maxRecDepth 20000 in
theorem gX5_toldOfPerson_X0_hasRunner : GoodIn wsX5_toldOfPerson (wsV RX5 68 RX0 yX0_hasRunner wsX0_hasRunner) := goodIn_app (goodIn_of _ (by decide +kernel)) ggX5_toldOfPerson_X0_hasRunner
theorem dX5_toldOfPerson_0 : decode cX5_toldOfPerson 0 = .ok (.aload_n 0, 1) := by decide +kernel
theorem dX5_toldOfPerson_1 : decode cX5_toldOfPerson 1 = .ok (.getfield 10, 3) := by decide +kernel
theorem dX5_toldOfPerson_4 : decode cX5_toldOfPerson 4 = .ok (.iload_n 1, 1) := by decide +kernel
theorem dX5_toldOfPerson_5 : decode cX5_toldOfPerson 5 = .ok (.invokevirtual 68, 3) := by decide +kernel
theorem dX5_toldOfPerson_8 : decode cX5_toldOfPerson 8 = .ok (.ifCond .ne 6, 3) := by decide +kernel
theorem dX5_toldOfPerson_11 : decode cX5_toldOfPerson 11 = .ok (.bipush (-2), 2) := by decide +kernel
theorem dX5_toldOfPerson_13 : decode cX5_toldOfPerson 13 = .ok (.ireturn, 1) := by decide +kernel
theorem dX5_toldOfPerson_14 : decode cX5_toldOfPerson 14 = .ok (.iload_n 2, 1) := by decide +kernel
theorem dX5_toldOfPerson_15 : decode cX5_toldOfPerson 15 = .ok (.tableswitch 55 0 2 #[25, 35, 45], 25) := by decide +kernel
theorem dX5_toldOfPerson_40 : decode cX5_toldOfPerson 40 = .ok (.aload_n 0, 1) := by decide +kernel
theorem dX5_toldOfPerson_41 : decode cX5_toldOfPerson 41 = .ok (.getfield 10, 3) := by decide +kernel
theorem dX5_toldOfPerson_44 : decode cX5_toldOfPerson 44 = .ok (.getfield 146, 3) := by decide +kernel
theorem dX5_toldOfPerson_47 : decode cX5_toldOfPerson 47 = .ok (.iload_n 1, 1) := by decide +kernel
theorem dX5_toldOfPerson_48 : decode cX5_toldOfPerson 48 = .ok (.iaload, 1) := by decide +kernel
theorem dX5_toldOfPerson_49 : decode cX5_toldOfPerson 49 = .ok (.ireturn, 1) := by decide +kernel
theorem dX5_toldOfPerson_50 : decode cX5_toldOfPerson 50 = .ok (.aload_n 0, 1) := by decide +kernel
theorem dX5_toldOfPerson_51 : decode cX5_toldOfPerson 51 = .ok (.getfield 10, 3) := by decide +kernel
theorem dX5_toldOfPerson_54 : decode cX5_toldOfPerson 54 = .ok (.getfield 143, 3) := by decide +kernel
theorem dX5_toldOfPerson_57 : decode cX5_toldOfPerson 57 = .ok (.iload_n 1, 1) := by decide +kernel
theorem dX5_toldOfPerson_58 : decode cX5_toldOfPerson 58 = .ok (.iaload, 1) := by decide +kernel
theorem dX5_toldOfPerson_59 : decode cX5_toldOfPerson 59 = .ok (.ireturn, 1) := by decide +kernel
theorem dX5_toldOfPerson_60 : decode cX5_toldOfPerson 60 = .ok (.aload_n 0, 1) := by decide +kernel
theorem dX5_toldOfPerson_61 : decode cX5_toldOfPerson 61 = .ok (.getfield 10, 3) := by decide +kernel
theorem dX5_toldOfPerson_64 : decode cX5_toldOfPerson 64 = .ok (.getfield 181, 3) := by decide +kernel
theorem dX5_toldOfPerson_67 : decode cX5_toldOfPerson 67 = .ok (.iload_n 1, 1) := by decide +kernel
theorem dX5_toldOfPerson_68 : decode cX5_toldOfPerson 68 = .ok (.iaload, 1) := by decide +kernel
theorem dX5_toldOfPerson_69 : decode cX5_toldOfPerson 69 = .ok (.ireturn, 1) := by decide +kernel
theorem dX5_toldOfPerson_70 : decode cX5_toldOfPerson 70 = .ok (.bipush (-2), 2) := by decide +kernel
theorem dX5_toldOfPerson_72 : decode cX5_toldOfPerson 72 = .ok (.ireturn, 1) := by decide +kernel
theorem dX5_isWithin_0 : decode cX5_isWithin 0 = .ok (.iload_n 0, 1) := by decide +kernel
theorem dX5_isWithin_1 : decode cX5_isWithin 1 = .ok (.iload_n 1, 1) := by decide +kernel
theorem dX5_isWithin_2 : decode cX5_isWithin 2 = .ok (.if_icmp .lt 12, 3) := by decide +kernel
theorem dX5_isWithin_5 : decode cX5_isWithin 5 = .ok (.iload_n 0, 1) := by decide +kernel
theorem dX5_isWithin_6 : decode cX5_isWithin 6 = .ok (.iload_n 2, 1) := by decide +kernel
theorem dX5_isWithin_7 : decode cX5_isWithin 7 = .ok (.if_icmp .gt 7, 3) := by decide +kernel
theorem dX5_isWithin_10 : decode cX5_isWithin 10 = .ok (.iconst 1, 1) := by decide +kernel
theorem dX5_isWithin_11 : decode cX5_isWithin 11 = .ok (.goto 4, 3) := by decide +kernel
theorem dX5_isWithin_14 : decode cX5_isWithin 14 = .ok (.iconst 0, 1) := by decide +kernel
theorem dX5_isWithin_15 : decode cX5_isWithin 15 = .ok (.ireturn, 1) := by decide +kernel
set_option maxRecDepth 20000 in
theorem ggX5_isFeet_X5_isWithin : GoodIn wsX5_isFeet wsX5_isWithin := goodIn_r _ [4] (by decide +kernel) (by decide +kernel)
set_option maxRecDepth 20000 in
theorem gX5_isFeet_X5_isWithin : GoodIn wsX5_isFeet (va_wsS RX5 56 yX5_isWithin wsX5_isWithin) := goodIn_app (goodIn_of _ (by decide +kernel)) ggX5_isFeet_X5_isWithin
theorem dX5_isFeet_0 : decode cX5_isFeet 0 = .ok (.iload_n 0, 1) := by decide +kernel
theorem dX5_isFeet_1 : decode cX5_isFeet 1 = .ok (.iconst 1, 1) := by decide +kernel
theorem dX5_isFeet_2 : decode cX5_isFeet 2 = .ok (.sipush 999, 3) := by decide +kernel
theorem dX5_isFeet_5 : decode cX5_isFeet 5 = .ok (.invokestatic 56, 3) := by decide +kernel
theorem dX5_isFeet_8 : decode cX5_isFeet 8 = .ok (.ireturn, 1) := by decide +kernel
set_option maxRecDepth 20000 in
theorem ggX5_refusalOfRace_X0_canTie : GoodIn wsX5_refusalOfRace wsX0_canTie := goodIn_r _ [6, 7, 8, 9, 5, 10, 11, 27, 28, 29, 30, 31, 32, 33] (by decide +kernel) (by decide +kernel)
set_option maxRecDepth 20000 in
theorem gX5_refusalOfRace_X0_canTie : GoodIn wsX5_refusalOfRace (wsV RX5 96 RX0 yX0_canTie wsX0_canTie) := goodIn_app (goodIn_of _ (by decide +kernel)) ggX5_refusalOfRace_X0_canTie
set_option maxRecDepth 20000 in
theorem ggX5_refusalOfRace_X5_isFeet : GoodIn wsX5_refusalOfRace wsX5_isFeet := goodIn_r _ [15, 16, 17, 14, 18] (by decide +kernel) (by decide +kernel)
set_option maxRecDepth 20000 in
theorem gX5_refusalOfRace_X5_isFeet : GoodIn wsX5_refusalOfRace (va_wsS RX5 140 yX5_isFeet wsX5_isFeet) := goodIn_app (goodIn_of _ (by decide +kernel)) ggX5_refusalOfRace_X5_isFeet
set_option maxRecDepth 20000 in
theorem ggX5_refusalOfRace_X5_isWithin : GoodIn wsX5_refusalOfRace wsX5_isWithin := goodIn_r _ [18] (by decide +kernel) (by decide +kernel)
set_option maxRecDepth 20000 in
theorem gX5_refusalOfRace_X5_isWithin : GoodIn wsX5_refusalOfRace (va_wsS RX5 56 yX5_isWithin wsX5_isWithin) := goodIn_app (goodIn_of _ (by decide +kernel)) ggX5_refusalOfRace_X5_isWithin
theorem dX5_refusalOfRace_0 : decode cX5_refusalOfRace 0 = .ok (.aload_n 0, 1) := by decide +kernel
theorem dX5_refusalOfRace_1 : decode cX5_refusalOfRace 1 = .ok (.getfield 10, 3) := by decide +kernel
theorem dX5_refusalOfRace_4 : decode cX5_refusalOfRace 4 = .ok (.iload_n 1, 1) := by decide +kernel
theorem dX5_refusalOfRace_5 : decode cX5_refusalOfRace 5 = .ok (.iload_n 2, 1) := by decide +kernel
theorem dX5_refusalOfRace_6 : decode cX5_refusalOfRace 6 = .ok (.invokevirtual 96, 3) := by decide +kernel
theorem dX5_refusalOfRace_9 : decode cX5_refusalOfRace 9 = .ok (.ifCond .ne 5, 3) := by decide +kernel
theorem dX5_refusalOfRace_12 : decode cX5_refusalOfRace 12 = .ok (.iconst (-1), 1) := by decide +kernel
theorem dX5_refusalOfRace_13 : decode cX5_refusalOfRace 13 = .ok (.ireturn, 1) := by decide +kernel
theorem dX5_refusalOfRace_14 : decode cX5_refusalOfRace 14 = .ok (.iload_n 3, 1) := by decide +kernel
theorem dX5_refusalOfRace_15 : decode cX5_refusalOfRace 15 = .ok (.invokestatic 140, 3) := by decide +kernel
theorem dX5_refusalOfRace_18 : decode cX5_refusalOfRace 18 = .ok (.ifCond .eq 17, 3) := by decide +kernel
theorem dX5_refusalOfRace_21 : decode cX5_refusalOfRace 21 = .ok (.iload 4, 2) := by decide +kernel
theorem dX5_refusalOfRace_23 : decode cX5_refusalOfRace 23 = .ok (.iconst 0, 1) := by decide +kernel
theorem dX5_refusalOfRace_24 : decode cX5_refusalOfRace 24 = .ok (.iconst 1, 1) := by decide +kernel
theorem dX5_refusalOfRace_25 : decode cX5_refusalOfRace 25 = .ok (.invokestatic 56, 3) := by decide +kernel
theorem dX5_refusalOfRace_28 : decode cX5_refusalOfRace 28 = .ok (.ifCond .eq 7, 3) := by decide +kernel
theorem dX5_refusalOfRace_31 : decode cX5_refusalOfRace 31 = .ok (.iconst 0, 1) := by decide +kernel
theorem dX5_refusalOfRace_32 : decode cX5_refusalOfRace 32 = .ok (.goto 5, 3) := by decide +kernel
theorem dX5_refusalOfRace_35 : decode cX5_refusalOfRace 35 = .ok (.bipush (-2), 2) := by decide +kernel
theorem dX5_refusalOfRace_37 : decode cX5_refusalOfRace 37 = .ok (.ireturn, 1) := by decide +kernel
set_option maxRecDepth 20000 in
theorem ggX5_timeTo_X4_tie : GoodIn wsX5_timeTo wsX4_tie := goodIn_r _ [7, 8, 9, 10, 11, 12, 13, 14, 15, 16, 17, 18, 19, 20, 21, 22, 23, 24, 25, 26, 27, 28, 29, 30, 31, 32, 33, 34, 35, 36, 37, 38, 39, 40, 41, 78, 79, 80, 81, 82, 83, 84, 85, 86, 87, 88, 89, 90, 91, 92, 93, 94, 95, 96, 97, 98, 99, 100] (by decide +kernel) (by decide +kernel)
set_option maxRecDepth 20000 in
theorem gX5_timeTo_X4_tie : GoodIn wsX5_timeTo (wsV RX5 100 RX4 yX4_tie wsX4_tie) := goodIn_app (goodIn_of _ (by decide +kernel)) ggX5_timeTo_X4_tie
set_option maxRecDepth 20000 in
theorem ggX5_timeTo_X4_timeTo : GoodIn wsX5_timeTo wsX4_timeTo := goodIn_r _ [45, 29, 46, 47, 48, 6, 49, 9, 50, 51, 17, 52, 10, 53, 54, 55, 56, 26, 12, 27, 13, 57, 28, 23, 31, 58, 25, 21, 30, 19, 59, 60, 61, 62, 63, 64, 65, 66, 67, 68, 69, 85, 86, 87, 88, 89, 90, 91, 92, 93, 94, 95, 96, 97, 98, 99, 100] (by decide +kernel) (by decide +kernel)
set_option maxRecDepth 20000 in
theorem gX5_timeTo_X4_timeTo : GoodIn wsX5_timeTo (wsV RX5 168 RX4 yX4_timeTo wsX4_timeTo) := goodIn_app (goodIn_of _ (by decide +kernel)) ggX5_timeTo_X4_timeTo
theorem dX5_timeTo_0 : decode cX5_timeTo 0 = .ok (.aload_n 0, 1) := by decide +kernel
theorem dX5_timeTo_1 : decode cX5_timeTo 1 = .ok (.getfield 34, 3) := by decide +kernel
theorem dX5_timeTo_4 : decode cX5_timeTo 4 = .ok (.aload_n 0, 1) := by decide +kernel
theorem dX5_timeTo_5 : decode cX5_timeTo 5 = .ok (.getfield 10, 3) := by decide +kernel
theorem dX5_timeTo_8 : decode cX5_timeTo 8 = .ok (.iload_n 1, 1) := by decide +kernel
theorem dX5_timeTo_9 : decode cX5_timeTo 9 = .ok (.iload_n 2, 1) := by decide +kernel
theorem dX5_timeTo_10 : decode cX5_timeTo 10 = .ok (.invokevirtual 100, 3) := by decide +kernel
theorem dX5_timeTo_13 : decode cX5_timeTo 13 = .ok (.aload_n 0, 1) := by decide +kernel
theorem dX5_timeTo_14 : decode cX5_timeTo 14 = .ok (.getfield 34, 3) := by decide +kernel
theorem dX5_timeTo_17 : decode cX5_timeTo 17 = .ok (.iload_n 3, 1) := by decide +kernel
theorem dX5_timeTo_18 : decode cX5_timeTo 18 = .ok (.iconst (-1), 1) := by decide +kernel
theorem dX5_timeTo_19 : decode cX5_timeTo 19 = .ok (.invokevirtual 168, 3) := by decide +kernel
theorem dX5_timeTo_22 : decode cX5_timeTo 22 = .ok (.ireturn, 1) := by decide +kernel
set_option maxRecDepth 20000 in
theorem ggX5_timeAllPairs_X0_canTie : GoodIn wsX5_timeAllPairs wsX0_canTie := goodIn_r _ [7, 8, 9, 10, 6, 11, 12, 85, 86, 87, 88, 89, 90, 91] (by decide +kernel) (by decide +kernel)
set_option maxRecDepth 20000 in
theorem gX5_timeAllPairs_X0_canTie : GoodIn wsX5_timeAllPairs (wsV RX5 96 RX0 yX0_canTie wsX0_canTie) := goodIn_app (goodIn_of _ (by decide +kernel)) ggX5_timeAllPairs_X0_canTie
set_option maxRecDepth 20000 in
theorem ggX5_timeAllPairs_X5_timeTo : GoodIn wsX5_timeAllPairs wsX5_timeTo := goodIn_r _ [17, 18, 1, 19, 20, 21, 22, 23, 24, 25, 26, 27, 28, 29, 30, 31, 32, 33, 34, 35, 36, 37, 38, 39, 40, 41, 42, 43, 44, 45, 46, 47, 48, 4, 5, 6, 7, 8, 9, 10, 11, 12, 49, 50, 51, 52, 53, 54, 55, 56, 57, 58, 59, 60, 61, 62, 63, 64, 65, 66, 67, 68, 69, 70, 71, 72, 73, 74, 75, 76, 77, 78, 79, 80, 81, 82, 83, 84, 85, 86, 87, 88, 89, 90, 91, 92, 93, 94, 95, 96, 97, 98, 99, 100, 101, 102, 103, 104, 105, 106, 107] (by decide +kernel) (by decide +kernel)
set_option maxRecDepth 20000 in
theorem gX5_timeAllPairs_X5_timeTo : GoodIn wsX5_timeAllPairs (wsV RX5 126 RX5 yX5_timeTo wsX5_timeTo) := goodIn_app (goodIn_of _ (by decide +kernel)) ggX5_timeAllPairs_X5_timeTo
theorem dX5_timeAllPairs_0 : decode cX5_timeAllPairs 0 = .ok (.iconst 0, 1) := by decide +kernel
theorem dX5_timeAllPairs_1 : decode cX5_timeAllPairs 1 = .ok (.istore_n 2, 1) := by decide +kernel
theorem dX5_timeAllPairs_2 : decode cX5_timeAllPairs 2 = .ok (.iload_n 2, 1) := by decide +kernel
theorem dX5_timeAllPairs_3 : decode cX5_timeAllPairs 3 = .ok (.bipush 8, 2) := by decide +kernel
theorem dX5_timeAllPairs_5 : decode cX5_timeAllPairs 5 = .ok (.if_icmp .ge 77, 3) := by decide +kernel
theorem dX5_timeAllPairs_8 : decode cX5_timeAllPairs 8 = .ok (.iload_n 2, 1) := by decide +kernel
theorem dX5_timeAllPairs_9 : decode cX5_timeAllPairs 9 = .ok (.iconst 1, 1) := by decide +kernel
theorem dX5_timeAllPairs_10 : decode cX5_timeAllPairs 10 = .ok (.iadd, 1) := by decide +kernel
theorem dX5_timeAllPairs_11 : decode cX5_timeAllPairs 11 = .ok (.istore_n 3, 1) := by decide +kernel
theorem dX5_timeAllPairs_12 : decode cX5_timeAllPairs 12 = .ok (.iload_n 3, 1) := by decide +kernel
theorem dX5_timeAllPairs_13 : decode cX5_timeAllPairs 13 = .ok (.bipush 8, 2) := by decide +kernel
theorem dX5_timeAllPairs_15 : decode cX5_timeAllPairs 15 = .ok (.if_icmp .ge 61, 3) := by decide +kernel
theorem dX5_timeAllPairs_18 : decode cX5_timeAllPairs 18 = .ok (.aload_n 0, 1) := by decide +kernel
theorem dX5_timeAllPairs_19 : decode cX5_timeAllPairs 19 = .ok (.getfield 10, 3) := by decide +kernel
theorem dX5_timeAllPairs_22 : decode cX5_timeAllPairs 22 = .ok (.iload_n 2, 1) := by decide +kernel
theorem dX5_timeAllPairs_23 : decode cX5_timeAllPairs 23 = .ok (.iload_n 3, 1) := by decide +kernel
theorem dX5_timeAllPairs_24 : decode cX5_timeAllPairs 24 = .ok (.invokevirtual 96, 3) := by decide +kernel
theorem dX5_timeAllPairs_27 : decode cX5_timeAllPairs 27 = .ok (.ifCond .eq 13, 3) := by decide +kernel
theorem dX5_timeAllPairs_30 : decode cX5_timeAllPairs 30 = .ok (.aload_n 0, 1) := by decide +kernel
theorem dX5_timeAllPairs_31 : decode cX5_timeAllPairs 31 = .ok (.iload_n 2, 1) := by decide +kernel
theorem dX5_timeAllPairs_32 : decode cX5_timeAllPairs 32 = .ok (.iload_n 3, 1) := by decide +kernel
theorem dX5_timeAllPairs_33 : decode cX5_timeAllPairs 33 = .ok (.iload_n 1, 1) := by decide +kernel
theorem dX5_timeAllPairs_34 : decode cX5_timeAllPairs 34 = .ok (.invokevirtual 126, 3) := by decide +kernel
theorem dX5_timeAllPairs_37 : decode cX5_timeAllPairs 37 = .ok (.goto 5, 3) := by decide +kernel
theorem dX5_timeAllPairs_40 : decode cX5_timeAllPairs 40 = .ok (.bipush (-6), 2) := by decide +kernel
theorem dX5_timeAllPairs_42 : decode cX5_timeAllPairs 42 = .ok (.istore 4, 2) := by decide +kernel
theorem dX5_timeAllPairs_44 : decode cX5_timeAllPairs 44 = .ok (.aload_n 0, 1) := by decide +kernel
theorem dX5_timeAllPairs_45 : decode cX5_timeAllPairs 45 = .ok (.getfield 52, 3) := by decide +kernel
theorem dX5_timeAllPairs_48 : decode cX5_timeAllPairs 48 = .ok (.bipush 8, 2) := by decide +kernel
theorem dX5_timeAllPairs_50 : decode cX5_timeAllPairs 50 = .ok (.iload_n 2, 1) := by decide +kernel
theorem dX5_timeAllPairs_51 : decode cX5_timeAllPairs 51 = .ok (.imul, 1) := by decide +kernel
theorem dX5_timeAllPairs_52 : decode cX5_timeAllPairs 52 = .ok (.iload_n 3, 1) := by decide +kernel
theorem dX5_timeAllPairs_53 : decode cX5_timeAllPairs 53 = .ok (.iadd, 1) := by decide +kernel
theorem dX5_timeAllPairs_54 : decode cX5_timeAllPairs 54 = .ok (.iload 4, 2) := by decide +kernel
theorem dX5_timeAllPairs_56 : decode cX5_timeAllPairs 56 = .ok (.iastore, 1) := by decide +kernel
theorem dX5_timeAllPairs_57 : decode cX5_timeAllPairs 57 = .ok (.aload_n 0, 1) := by decide +kernel
theorem dX5_timeAllPairs_58 : decode cX5_timeAllPairs 58 = .ok (.getfield 52, 3) := by decide +kernel
theorem dX5_timeAllPairs_61 : decode cX5_timeAllPairs 61 = .ok (.bipush 8, 2) := by decide +kernel
theorem dX5_timeAllPairs_63 : decode cX5_timeAllPairs 63 = .ok (.iload_n 3, 1) := by decide +kernel
theorem dX5_timeAllPairs_64 : decode cX5_timeAllPairs 64 = .ok (.imul, 1) := by decide +kernel
theorem dX5_timeAllPairs_65 : decode cX5_timeAllPairs 65 = .ok (.iload_n 2, 1) := by decide +kernel
theorem dX5_timeAllPairs_66 : decode cX5_timeAllPairs 66 = .ok (.iadd, 1) := by decide +kernel
theorem dX5_timeAllPairs_67 : decode cX5_timeAllPairs 67 = .ok (.iload 4, 2) := by decide +kernel
theorem dX5_timeAllPairs_69 : decode cX5_timeAllPairs 69 = .ok (.iastore, 1) := by decide +kernel
theorem dX5_timeAllPairs_70 : decode cX5_timeAllPairs 70 = .ok (.iinc 3 1, 3) := by decide +kernel
theorem dX5_timeAllPairs_73 : decode cX5_timeAllPairs 73 = .ok (.goto (-61), 3) := by decide +kernel
theorem dX5_timeAllPairs_76 : decode cX5_timeAllPairs 76 = .ok (.iinc 2 1, 3) := by decide +kernel
theorem dX5_timeAllPairs_79 : decode cX5_timeAllPairs 79 = .ok (.goto (-77), 3) := by decide +kernel
theorem dX5_timeAllPairs_82 : decode cX5_timeAllPairs 82 = .ok (.return_, 1) := by decide +kernel
set_option maxRecDepth 20000 in
theorem ggX5_firstUnlike_X4_tie : GoodIn wsX5_firstUnlike wsX4_tie := goodIn_r _ [10, 11, 12, 13, 14, 15, 16, 17, 18, 19, 20, 21, 22, 23, 24, 25, 26, 27, 28, 29, 30, 31, 32, 33, 34, 35, 36, 37, 38, 39, 40, 41, 42, 43, 44, 94, 95, 96, 97, 98, 99, 100, 78, 79, 80, 81, 82, 83, 84, 85, 86, 87, 88, 89, 90, 91, 92, 93] (by decide +kernel) (by decide +kernel)
set_option maxRecDepth 20000 in
theorem gX5_firstUnlike_X4_tie : GoodIn wsX5_firstUnlike (wsV RX5 100 RX4 yX4_tie wsX4_tie) := goodIn_app (goodIn_of _ (by decide +kernel)) ggX5_firstUnlike_X4_tie
set_option maxRecDepth 20000 in
theorem ggX5_firstUnlike_X4_step : GoodIn wsX5_firstUnlike wsX4_step := goodIn_r _ [48, 29, 12, 15, 30, 49, 50, 20, 51, 13, 16, 52, 31, 26, 34, 53, 28, 24, 33, 32, 22, 54, 55, 56, 9, 57, 58, 59, 60, 78, 79, 80, 81, 82, 83, 84, 85, 86, 87, 88, 89, 90, 91, 92, 93] (by decide +kernel) (by decide +kernel)
set_option maxRecDepth 20000 in
theorem gX5_firstUnlike_X4_step : GoodIn wsX5_firstUnlike (wsV RX5 104 RX4 yX4_step wsX4_step) := goodIn_app (goodIn_of _ (by decide +kernel)) ggX5_firstUnlike_X4_step
set_option maxRecDepth 20000 in
theorem ggX5_firstUnlike_X1_canShow : GoodIn wsX5_firstUnlike wsX1_canShow := goodIn_r _ [65, 66, 67, 76, 77] (by decide +kernel) (by decide +kernel)
set_option maxRecDepth 20000 in
theorem gX5_firstUnlike_X1_canShow : GoodIn wsX5_firstUnlike (wsV RX5 224 RX1 yX1_canShow wsX1_canShow) := goodIn_app (goodIn_of _ (by decide +kernel)) ggX5_firstUnlike_X1_canShow
theorem dX5_firstUnlike_0 : decode cX5_firstUnlike 0 = .ok (.aload_n 0, 1) := by decide +kernel
theorem dX5_firstUnlike_1 : decode cX5_firstUnlike 1 = .ok (.getfield 34, 3) := by decide +kernel
theorem dX5_firstUnlike_4 : decode cX5_firstUnlike 4 = .ok (.aload_n 0, 1) := by decide +kernel
theorem dX5_firstUnlike_5 : decode cX5_firstUnlike 5 = .ok (.getfield 10, 3) := by decide +kernel
theorem dX5_firstUnlike_8 : decode cX5_firstUnlike 8 = .ok (.iload_n 1, 1) := by decide +kernel
theorem dX5_firstUnlike_9 : decode cX5_firstUnlike 9 = .ok (.iload_n 2, 1) := by decide +kernel
theorem dX5_firstUnlike_10 : decode cX5_firstUnlike 10 = .ok (.invokevirtual 100, 3) := by decide +kernel
theorem dX5_firstUnlike_13 : decode cX5_firstUnlike 13 = .ok (.iconst 0, 1) := by decide +kernel
theorem dX5_firstUnlike_14 : decode cX5_firstUnlike 14 = .ok (.istore_n 3, 1) := by decide +kernel
theorem dX5_firstUnlike_15 : decode cX5_firstUnlike 15 = .ok (.iload_n 3, 1) := by decide +kernel
theorem dX5_firstUnlike_16 : decode cX5_firstUnlike 16 = .ok (.aload_n 0, 1) := by decide +kernel
theorem dX5_firstUnlike_17 : decode cX5_firstUnlike 17 = .ok (.getfield 27, 3) := by decide +kernel
theorem dX5_firstUnlike_20 : decode cX5_firstUnlike 20 = .ok (.getfield 196, 3) := by decide +kernel
theorem dX5_firstUnlike_23 : decode cX5_firstUnlike 23 = .ok (.if_icmp .ge 36, 3) := by decide +kernel
theorem dX5_firstUnlike_26 : decode cX5_firstUnlike 26 = .ok (.aload_n 0, 1) := by decide +kernel
theorem dX5_firstUnlike_27 : decode cX5_firstUnlike 27 = .ok (.getfield 34, 3) := by decide +kernel
theorem dX5_firstUnlike_30 : decode cX5_firstUnlike 30 = .ok (.invokevirtual 104, 3) := by decide +kernel
theorem dX5_firstUnlike_33 : decode cX5_firstUnlike 33 = .ok (.aload_n 0, 1) := by decide +kernel
theorem dX5_firstUnlike_34 : decode cX5_firstUnlike 34 = .ok (.getfield 27, 3) := by decide +kernel
theorem dX5_firstUnlike_37 : decode cX5_firstUnlike 37 = .ok (.iload_n 3, 1) := by decide +kernel
theorem dX5_firstUnlike_38 : decode cX5_firstUnlike 38 = .ok (.aload_n 0, 1) := by decide +kernel
theorem dX5_firstUnlike_39 : decode cX5_firstUnlike 39 = .ok (.getfield 34, 3) := by decide +kernel
theorem dX5_firstUnlike_42 : decode cX5_firstUnlike 42 = .ok (.getfield 220, 3) := by decide +kernel
theorem dX5_firstUnlike_45 : decode cX5_firstUnlike 45 = .ok (.invokevirtual 224, 3) := by decide +kernel
theorem dX5_firstUnlike_48 : decode cX5_firstUnlike 48 = .ok (.ifCond .ne 5, 3) := by decide +kernel
theorem dX5_firstUnlike_51 : decode cX5_firstUnlike 51 = .ok (.iload_n 3, 1) := by decide +kernel
theorem dX5_firstUnlike_52 : decode cX5_firstUnlike 52 = .ok (.ireturn, 1) := by decide +kernel
theorem dX5_firstUnlike_53 : decode cX5_firstUnlike 53 = .ok (.iinc 3 1, 3) := by decide +kernel
theorem dX5_firstUnlike_56 : decode cX5_firstUnlike 56 = .ok (.goto (-41), 3) := by decide +kernel
theorem dX5_firstUnlike_59 : decode cX5_firstUnlike 59 = .ok (.bipush (-6), 2) := by decide +kernel
theorem dX5_firstUnlike_61 : decode cX5_firstUnlike 61 = .ok (.ireturn, 1) := by decide +kernel
theorem dX6_init_0 : decode cX6_init 0 = .ok (.aload_n 0, 1) := by decide +kernel
theorem dX6_init_1 : decode cX6_init 1 = .ok (.invokespecial 1, 3) := by decide +kernel
theorem dX6_init_4 : decode cX6_init 4 = .ok (.aload_n 0, 1) := by decide +kernel
theorem dX6_init_5 : decode cX6_init 5 = .ok (.bipush 8, 2) := by decide +kernel
theorem dX6_init_7 : decode cX6_init 7 = .ok (.newarray .int, 2) := by decide +kernel
theorem dX6_init_9 : decode cX6_init 9 = .ok (.putfield 7, 3) := by decide +kernel
theorem dX6_init_12 : decode cX6_init 12 = .ok (.aload_n 0, 1) := by decide +kernel
theorem dX6_init_13 : decode cX6_init 13 = .ok (.bipush 8, 2) := by decide +kernel
theorem dX6_init_15 : decode cX6_init 15 = .ok (.newarray .int, 2) := by decide +kernel
theorem dX6_init_17 : decode cX6_init 17 = .ok (.putfield 13, 3) := by decide +kernel
theorem dX6_init_20 : decode cX6_init 20 = .ok (.aload_n 0, 1) := by decide +kernel
theorem dX6_init_21 : decode cX6_init 21 = .ok (.bipush 8, 2) := by decide +kernel
theorem dX6_init_23 : decode cX6_init 23 = .ok (.newarray .int, 2) := by decide +kernel
theorem dX6_init_25 : decode cX6_init 25 = .ok (.putfield 16, 3) := by decide +kernel
theorem dX6_init_28 : decode cX6_init 28 = .ok (.aload_n 0, 1) := by decide +kernel
theorem dX6_init_29 : decode cX6_init 29 = .ok (.bipush 64, 2) := by decide +kernel
theorem dX6_init_31 : decode cX6_init 31 = .ok (.newarray .int, 2) := by decide +kernel
theorem dX6_init_33 : decode cX6_init 33 = .ok (.putfield 19, 3) := by decide +kernel
theorem dX6_init_36 : decode cX6_init 36 = .ok (.aload_n 0, 1) := by decide +kernel
theorem dX6_init_37 : decode cX6_init 37 = .ok (.bipush 8, 2) := by decide +kernel
theorem dX6_init_39 : decode cX6_init 39 = .ok (.newarray .int, 2) := by decide +kernel
theorem dX6_init_41 : decode cX6_init 41 = .ok (.putfield 22, 3) := by decide +kernel
theorem dX6_init_44 : decode cX6_init 44 = .ok (.aload_n 0, 1) := by decide +kernel
theorem dX6_init_45 : decode cX6_init 45 = .ok (.bipush 8, 2) := by decide +kernel
theorem dX6_init_47 : decode cX6_init 47 = .ok (.newarray .int, 2) := by decide +kernel
theorem dX6_init_49 : decode cX6_init 49 = .ok (.putfield 25, 3) := by decide +kernel
theorem dX6_init_52 : decode cX6_init 52 = .ok (.aload_n 0, 1) := by decide +kernel
theorem dX6_init_53 : decode cX6_init 53 = .ok (.bipush 40, 2) := by decide +kernel
theorem dX6_init_55 : decode cX6_init 55 = .ok (.newarray .int, 2) := by decide +kernel
theorem dX6_init_57 : decode cX6_init 57 = .ok (.putfield 28, 3) := by decide +kernel
theorem dX6_init_60 : decode cX6_init 60 = .ok (.aload_n 0, 1) := by decide +kernel
theorem dX6_init_61 : decode cX6_init 61 = .ok (.bipush 80, 2) := by decide +kernel
theorem dX6_init_63 : decode cX6_init 63 = .ok (.newarray .int, 2) := by decide +kernel
theorem dX6_init_65 : decode cX6_init 65 = .ok (.putfield 31, 3) := by decide +kernel
theorem dX6_init_68 : decode cX6_init 68 = .ok (.aload_n 0, 1) := by decide +kernel
theorem dX6_init_69 : decode cX6_init 69 = .ok (.iconst 2, 1) := by decide +kernel
theorem dX6_init_70 : decode cX6_init 70 = .ok (.newarray .boolean, 2) := by decide +kernel
theorem dX6_init_72 : decode cX6_init 72 = .ok (.putfield 34, 3) := by decide +kernel
theorem dX6_init_75 : decode cX6_init 75 = .ok (.aload_n 0, 1) := by decide +kernel
theorem dX6_init_76 : decode cX6_init 76 = .ok (.iconst 2, 1) := by decide +kernel
theorem dX6_init_77 : decode cX6_init 77 = .ok (.putfield 38, 3) := by decide +kernel
theorem dX6_init_80 : decode cX6_init 80 = .ok (.aload_n 0, 1) := by decide +kernel
theorem dX6_init_81 : decode cX6_init 81 = .ok (.iconst 5, 1) := by decide +kernel
theorem dX6_init_82 : decode cX6_init 82 = .ok (.putfield 42, 3) := by decide +kernel
theorem dX6_init_85 : decode cX6_init 85 = .ok (.aload_n 0, 1) := by decide +kernel
theorem dX6_init_86 : decode cX6_init 86 = .ok (.bipush 90, 2) := by decide +kernel
theorem dX6_init_88 : decode cX6_init 88 = .ok (.putfield 45, 3) := by decide +kernel
theorem dX6_init_91 : decode cX6_init 91 = .ok (.return_, 1) := by decide +kernel
theorem dX6_in_0 : decode cX6_in 0 = .ok (.lload_n 0, 1) := by decide +kernel
theorem dX6_in_1 : decode cX6_in 1 = .ok (.lload_n 2, 1) := by decide +kernel
theorem dX6_in_2 : decode cX6_in 2 = .ok (.lcmp, 1) := by decide +kernel
theorem dX6_in_3 : decode cX6_in 3 = .ok (.ifCond .lt 14, 3) := by decide +kernel
theorem dX6_in_6 : decode cX6_in 6 = .ok (.lload_n 0, 1) := by decide +kernel
theorem dX6_in_7 : decode cX6_in 7 = .ok (.lload 4, 2) := by decide +kernel
theorem dX6_in_9 : decode cX6_in 9 = .ok (.lcmp, 1) := by decide +kernel
theorem dX6_in_10 : decode cX6_in 10 = .ok (.ifCond .gt 7, 3) := by decide +kernel
theorem dX6_in_13 : decode cX6_in 13 = .ok (.iconst 1, 1) := by decide +kernel
theorem dX6_in_14 : decode cX6_in 14 = .ok (.goto 4, 3) := by decide +kernel
theorem dX6_in_17 : decode cX6_in 17 = .ok (.iconst 0, 1) := by decide +kernel
theorem dX6_in_18 : decode cX6_in 18 = .ok (.ireturn, 1) := by decide +kernel
theorem dX6_ones_0 : decode cX6_ones 0 = .ok (.iconst 0, 1) := by decide +kernel
theorem dX6_ones_1 : decode cX6_ones 1 = .ok (.istore_n 1, 1) := by decide +kernel
theorem dX6_ones_2 : decode cX6_ones 2 = .ok (.iload_n 0, 1) := by decide +kernel
theorem dX6_ones_3 : decode cX6_ones 3 = .ok (.istore_n 2, 1) := by decide +kernel
theorem dX6_ones_4 : decode cX6_ones 4 = .ok (.iload_n 2, 1) := by decide +kernel
theorem dX6_ones_5 : decode cX6_ones 5 = .ok (.ifCond .eq 15, 3) := by decide +kernel
theorem dX6_ones_8 : decode cX6_ones 8 = .ok (.iinc 1 1, 3) := by decide +kernel
theorem dX6_ones_11 : decode cX6_ones 11 = .ok (.iload_n 2, 1) := by decide +kernel
theorem dX6_ones_12 : decode cX6_ones 12 = .ok (.iload_n 2, 1) := by decide +kernel
theorem dX6_ones_13 : decode cX6_ones 13 = .ok (.iconst 1, 1) := by decide +kernel
theorem dX6_ones_14 : decode cX6_ones 14 = .ok (.isub, 1) := by decide +kernel
theorem dX6_ones_15 : decode cX6_ones 15 = .ok (.iand, 1) := by decide +kernel
theorem dX6_ones_16 : decode cX6_ones 16 = .ok (.istore_n 2, 1) := by decide +kernel
theorem dX6_ones_17 : decode cX6_ones 17 = .ok (.goto (-13), 3) := by decide +kernel
theorem dX6_ones_20 : decode cX6_ones 20 = .ok (.iload_n 1, 1) := by decide +kernel
theorem dX6_ones_21 : decode cX6_ones 21 = .ok (.ireturn, 1) := by decide +kernel
set_option maxRecDepth 20000 in
theorem ggX6_runs_X6_in : GoodIn wsX6_runs wsX6_in := goodIn_r _ [6] (by decide +kernel) (by decide +kernel)
set_option maxRecDepth 20000 in
theorem gX6_runs_X6_in : GoodIn wsX6_runs (va_wsS RX6 50 yX6_in wsX6_in) := goodIn_app (goodIn_of _ (by decide +kernel)) ggX6_runs_X6_in
theorem dX6_runs_0 : decode cX6_runs 0 = .ok (.iload_n 1, 1) := by decide +kernel
theorem dX6_runs_1 : decode cX6_runs 1 = .ok (.i2l, 1) := by decide +kernel
theorem dX6_runs_2 : decode cX6_runs 2 = .ok (.lconst 0, 1) := by decide +kernel
theorem dX6_runs_3 : decode cX6_runs 3 = .ok (.ldc2_w 48, 3) := by decide +kernel
theorem dX6_runs_6 : decode cX6_runs 6 = .ok (.invokestatic 50, 3) := by decide +kernel
theorem dX6_runs_9 : decode cX6_runs 9 = .ok (.ifCond .eq 19, 3) := by decide +kernel
theorem dX6_runs_12 : decode cX6_runs 12 = .ok (.aload_n 0, 1) := by decide +kernel
theorem dX6_runs_13 : decode cX6_runs 13 = .ok (.getfield 54, 3) := by decide +kernel
theorem dX6_runs_16 : decode cX6_runs 16 = .ok (.iload_n 1, 1) := by decide +kernel
theorem dX6_runs_17 : decode cX6_runs 17 = .ok (.ishr, 1) := by decide +kernel
theorem dX6_runs_18 : decode cX6_runs 18 = .ok (.iconst 1, 1) := by decide +kernel
theorem dX6_runs_19 : decode cX6_runs 19 = .ok (.iand, 1) := by decide +kernel
theorem dX6_runs_20 : decode cX6_runs 20 = .ok (.iconst 1, 1) := by decide +kernel
theorem dX6_runs_21 : decode cX6_runs 21 = .ok (.if_icmp .ne 7, 3) := by decide +kernel
theorem dX6_runs_24 : decode cX6_runs 24 = .ok (.iconst 1, 1) := by decide +kernel
theorem dX6_runs_25 : decode cX6_runs 25 = .ok (.goto 4, 3) := by decide +kernel
theorem dX6_runs_28 : decode cX6_runs 28 = .ok (.iconst 0, 1) := by decide +kernel
theorem dX6_runs_29 : decode cX6_runs 29 = .ok (.ireturn, 1) := by decide +kernel
set_option maxRecDepth 20000 in
theorem ggX6_run_X6_in : GoodIn wsX6_run wsX6_in := goodIn_r _ [12] (by decide +kernel) (by decide +kernel)
set_option maxRecDepth 20000 in
theorem gX6_run_X6_in : GoodIn wsX6_run (va_wsS RX6 50 yX6_in wsX6_in) := goodIn_app (goodIn_of _ (by decide +kernel)) ggX6_run_X6_in
set_option maxRecDepth 20000 in
theorem ggX6_run_X6_ones : GoodIn wsX6_run wsX6_ones := goodIn_r _ [15] (by decide +kernel) (by decide +kernel)
set_option maxRecDepth 20000 in
theorem gX6_run_X6_ones : GoodIn wsX6_run (va_wsS RX6 63 yX6_ones wsX6_ones) := goodIn_app (goodIn_of _ (by decide +kernel)) ggX6_run_X6_ones
theorem dX6_run_0 : decode cX6_run 0 = .ok (.iload_n 1, 1) := by decide +kernel
theorem dX6_run_1 : decode cX6_run 1 = .ok (.i2l, 1) := by decide +kernel
theorem dX6_run_2 : decode cX6_run 2 = .ok (.lconst 0, 1) := by decide +kernel
theorem dX6_run_3 : decode cX6_run 3 = .ok (.ldc2_w 48, 3) := by decide +kernel
theorem dX6_run_6 : decode cX6_run 6 = .ok (.invokestatic 50, 3) := by decide +kernel
theorem dX6_run_9 : decode cX6_run 9 = .ok (.ifCond .ne 5, 3) := by decide +kernel
theorem dX6_run_12 : decode cX6_run 12 = .ok (.iconst (-1), 1) := by decide +kernel
theorem dX6_run_13 : decode cX6_run 13 = .ok (.ireturn, 1) := by decide +kernel
theorem dX6_run_14 : decode cX6_run 14 = .ok (.iload_n 2, 1) := by decide +kernel
theorem dX6_run_15 : decode cX6_run 15 = .ok (.i2l, 1) := by decide +kernel
theorem dX6_run_16 : decode cX6_run 16 = .ok (.ldc2_w 57, 3) := by decide +kernel
theorem dX6_run_19 : decode cX6_run 19 = .ok (.ldc2_w 59, 3) := by decide +kernel
theorem dX6_run_22 : decode cX6_run 22 = .ok (.invokestatic 50, 3) := by decide +kernel
theorem dX6_run_25 : decode cX6_run 25 = .ok (.ifCond .eq 28, 3) := by decide +kernel
theorem dX6_run_28 : decode cX6_run 28 = .ok (.iload_n 3, 1) := by decide +kernel
theorem dX6_run_29 : decode cX6_run 29 = .ok (.i2l, 1) := by decide +kernel
theorem dX6_run_30 : decode cX6_run 30 = .ok (.lconst 1, 1) := by decide +kernel
theorem dX6_run_31 : decode cX6_run 31 = .ok (.ldc2_w 61, 3) := by decide +kernel
theorem dX6_run_34 : decode cX6_run 34 = .ok (.invokestatic 50, 3) := by decide +kernel
theorem dX6_run_37 : decode cX6_run 37 = .ok (.ifCond .eq 16, 3) := by decide +kernel
theorem dX6_run_40 : decode cX6_run 40 = .ok (.iload 4, 2) := by decide +kernel
theorem dX6_run_42 : decode cX6_run 42 = .ok (.i2l, 1) := by decide +kernel
theorem dX6_run_43 : decode cX6_run 43 = .ok (.lconst 0, 1) := by decide +kernel
theorem dX6_run_44 : decode cX6_run 44 = .ok (.ldc2_w 57, 3) := by decide +kernel
theorem dX6_run_47 : decode cX6_run 47 = .ok (.invokestatic 50, 3) := by decide +kernel
theorem dX6_run_50 : decode cX6_run 50 = .ok (.ifCond .ne 6, 3) := by decide +kernel
theorem dX6_run_53 : decode cX6_run 53 = .ok (.bipush (-2), 2) := by decide +kernel
theorem dX6_run_55 : decode cX6_run 55 = .ok (.ireturn, 1) := by decide +kernel
theorem dX6_run_56 : decode cX6_run 56 = .ok (.aload_n 0, 1) := by decide +kernel
theorem dX6_run_57 : decode cX6_run 57 = .ok (.getfield 7, 3) := by decide +kernel
theorem dX6_run_60 : decode cX6_run 60 = .ok (.iload_n 1, 1) := by decide +kernel
theorem dX6_run_61 : decode cX6_run 61 = .ok (.iload_n 2, 1) := by decide +kernel
theorem dX6_run_62 : decode cX6_run 62 = .ok (.iastore, 1) := by decide +kernel
theorem dX6_run_63 : decode cX6_run 63 = .ok (.aload_n 0, 1) := by decide +kernel
theorem dX6_run_64 : decode cX6_run 64 = .ok (.getfield 13, 3) := by decide +kernel
theorem dX6_run_67 : decode cX6_run 67 = .ok (.iload_n 1, 1) := by decide +kernel
theorem dX6_run_68 : decode cX6_run 68 = .ok (.iload_n 3, 1) := by decide +kernel
theorem dX6_run_69 : decode cX6_run 69 = .ok (.iastore, 1) := by decide +kernel
theorem dX6_run_70 : decode cX6_run 70 = .ok (.aload_n 0, 1) := by decide +kernel
theorem dX6_run_71 : decode cX6_run 71 = .ok (.getfield 16, 3) := by decide +kernel
theorem dX6_run_74 : decode cX6_run 74 = .ok (.iload_n 1, 1) := by decide +kernel
theorem dX6_run_75 : decode cX6_run 75 = .ok (.iload 4, 2) := by decide +kernel
theorem dX6_run_77 : decode cX6_run 77 = .ok (.iastore, 1) := by decide +kernel
theorem dX6_run_78 : decode cX6_run 78 = .ok (.aload_n 0, 1) := by decide +kernel
theorem dX6_run_79 : decode cX6_run 79 = .ok (.dup, 1) := by decide +kernel
theorem dX6_run_80 : decode cX6_run 80 = .ok (.getfield 54, 3) := by decide +kernel
theorem dX6_run_83 : decode cX6_run 83 = .ok (.iconst 1, 1) := by decide +kernel
theorem dX6_run_84 : decode cX6_run 84 = .ok (.iload_n 1, 1) := by decide +kernel
theorem dX6_run_85 : decode cX6_run 85 = .ok (.ishl, 1) := by decide +kernel
theorem dX6_run_86 : decode cX6_run 86 = .ok (.ior, 1) := by decide +kernel
theorem dX6_run_87 : decode cX6_run 87 = .ok (.putfield 54, 3) := by decide +kernel
theorem dX6_run_90 : decode cX6_run 90 = .ok (.aload_n 0, 1) := by decide +kernel
theorem dX6_run_91 : decode cX6_run 91 = .ok (.getfield 54, 3) := by decide +kernel
theorem dX6_run_94 : decode cX6_run 94 = .ok (.invokestatic 63, 3) := by decide +kernel
theorem dX6_run_97 : decode cX6_run 97 = .ok (.ireturn, 1) := by decide +kernel
set_option maxRecDepth 20000 in
theorem ggX6_rest_X6_runs : GoodIn wsX6_rest wsX6_runs := goodIn_r _ [6, 7, 1, 8, 9, 5, 10, 14, 15, 16, 17, 18, 19, 20, 21, 22, 23, 24, 25, 26, 27, 28, 29, 30, 31, 32, 33, 34, 35, 36, 37, 38, 39, 40, 41, 42, 43, 44, 45, 46] (by decide +kernel) (by decide +kernel)
set_option maxRecDepth 20000 in
theorem gX6_rest_X6_runs : GoodIn wsX6_rest (wsV RX6 67 RX6 yX6_runs wsX6_runs) := goodIn_app (goodIn_of _ (by decide +kernel)) ggX6_rest_X6_runs
set_option maxRecDepth 20000 in
theorem ggX6_rest_X6_ones : GoodIn wsX6_rest wsX6_ones := goodIn_r _ [13] (by decide +kernel) (by decide +kernel)
set_option maxRecDepth 20000 in
theorem gX6_rest_X6_ones : GoodIn wsX6_rest (va_wsS RX6 63 yX6_ones wsX6_ones) := goodIn_app (goodIn_of _ (by decide +kernel)) ggX6_rest_X6_ones
theorem dX6_rest_0 : decode cX6_rest 0 = .ok (.aload_n 0, 1) := by decide +kernel
theorem dX6_rest_1 : decode cX6_rest 1 = .ok (.iload_n 1, 1) := by decide +kernel
theorem dX6_rest_2 : decode cX6_rest 2 = .ok (.invokevirtual 67, 3) := by decide +kernel
theorem dX6_rest_5 : decode cX6_rest 5 = .ok (.ifCond .ne 5, 3) := by decide +kernel
theorem dX6_rest_8 : decode cX6_rest 8 = .ok (.iconst (-1), 1) := by decide +kernel
theorem dX6_rest_9 : decode cX6_rest 9 = .ok (.ireturn, 1) := by decide +kernel
theorem dX6_rest_10 : decode cX6_rest 10 = .ok (.aload_n 0, 1) := by decide +kernel
theorem dX6_rest_11 : decode cX6_rest 11 = .ok (.dup, 1) := by decide +kernel
theorem dX6_rest_12 : decode cX6_rest 12 = .ok (.getfield 54, 3) := by decide +kernel
theorem dX6_rest_15 : decode cX6_rest 15 = .ok (.iconst 1, 1) := by decide +kernel
theorem dX6_rest_16 : decode cX6_rest 16 = .ok (.iload_n 1, 1) := by decide +kernel
theorem dX6_rest_17 : decode cX6_rest 17 = .ok (.ishl, 1) := by decide +kernel
theorem dX6_rest_18 : decode cX6_rest 18 = .ok (.iconst (-1), 1) := by decide +kernel
theorem dX6_rest_19 : decode cX6_rest 19 = .ok (.ixor, 1) := by decide +kernel
theorem dX6_rest_20 : decode cX6_rest 20 = .ok (.iand, 1) := by decide +kernel
theorem dX6_rest_21 : decode cX6_rest 21 = .ok (.putfield 54, 3) := by decide +kernel
theorem dX6_rest_24 : decode cX6_rest 24 = .ok (.aload_n 0, 1) := by decide +kernel
theorem dX6_rest_25 : decode cX6_rest 25 = .ok (.getfield 54, 3) := by decide +kernel
theorem dX6_rest_28 : decode cX6_rest 28 = .ok (.invokestatic 63, 3) := by decide +kernel
theorem dX6_rest_31 : decode cX6_rest 31 = .ok (.ireturn, 1) := by decide +kernel
set_option maxRecDepth 20000 in
theorem ggX6_set_X6_in : GoodIn wsX6_set wsX6_in := goodIn_r _ [10] (by decide +kernel) (by decide +kernel)
set_option maxRecDepth 20000 in
theorem gX6_set_X6_in : GoodIn wsX6_set (va_wsS RX6 50 yX6_in wsX6_in) := goodIn_app (goodIn_of _ (by decide +kernel)) ggX6_set_X6_in
theorem dX6_set_0 : decode cX6_set 0 = .ok (.iload_n 1, 1) := by decide +kernel
theorem dX6_set_1 : decode cX6_set 1 = .ok (.ifCond .ne 32, 3) := by decide +kernel
theorem dX6_set_4 : decode cX6_set 4 = .ok (.iload_n 2, 1) := by decide +kernel
theorem dX6_set_5 : decode cX6_set 5 = .ok (.i2l, 1) := by decide +kernel
theorem dX6_set_6 : decode cX6_set 6 = .ok (.lconst 0, 1) := by decide +kernel
theorem dX6_set_7 : decode cX6_set 7 = .ok (.aload_n 0, 1) := by decide +kernel
theorem dX6_set_8 : decode cX6_set 8 = .ok (.getfield 42, 3) := by decide +kernel
theorem dX6_set_11 : decode cX6_set 11 = .ok (.bipush 9, 2) := by decide +kernel
theorem dX6_set_13 : decode cX6_set 13 = .ok (.if_icmp .ge 11, 3) := by decide +kernel
theorem dX6_set_16 : decode cX6_set 16 = .ok (.aload_n 0, 1) := by decide +kernel
theorem dX6_set_17 : decode cX6_set 17 = .ok (.getfield 42, 3) := by decide +kernel
theorem dX6_set_20 : decode cX6_set 20 = .ok (.i2l, 1) := by decide +kernel
theorem dX6_set_21 : decode cX6_set 21 = .ok (.goto 6, 3) := by decide +kernel
theorem dX6_set_24 : decode cX6_set 24 = .ok (.ldc2_w 61, 3) := by decide +kernel
theorem dX6_set_27 : decode cX6_set 27 = .ok (.invokestatic 50, 3) := by decide +kernel
theorem dX6_set_30 : decode cX6_set 30 = .ok (.goto 46, 3) := by decide +kernel
theorem dX6_set_33 : decode cX6_set 33 = .ok (.iload_n 1, 1) := by decide +kernel
theorem dX6_set_34 : decode cX6_set 34 = .ok (.iconst 1, 1) := by decide +kernel
theorem dX6_set_35 : decode cX6_set 35 = .ok (.if_icmp .ne 19, 3) := by decide +kernel
theorem dX6_set_38 : decode cX6_set 38 = .ok (.iload_n 2, 1) := by decide +kernel
theorem dX6_set_39 : decode cX6_set 39 = .ok (.i2l, 1) := by decide +kernel
theorem dX6_set_40 : decode cX6_set 40 = .ok (.aload_n 0, 1) := by decide +kernel
theorem dX6_set_41 : decode cX6_set 41 = .ok (.getfield 38, 3) := by decide +kernel
theorem dX6_set_44 : decode cX6_set 44 = .ok (.i2l, 1) := by decide +kernel
theorem dX6_set_45 : decode cX6_set 45 = .ok (.ldc2_w 59, 3) := by decide +kernel
theorem dX6_set_48 : decode cX6_set 48 = .ok (.invokestatic 50, 3) := by decide +kernel
theorem dX6_set_51 : decode cX6_set 51 = .ok (.goto 25, 3) := by decide +kernel
theorem dX6_set_54 : decode cX6_set 54 = .ok (.iload_n 1, 1) := by decide +kernel
theorem dX6_set_55 : decode cX6_set 55 = .ok (.iconst 2, 1) := by decide +kernel
theorem dX6_set_56 : decode cX6_set 56 = .ok (.if_icmp .ne 19, 3) := by decide +kernel
theorem dX6_set_59 : decode cX6_set 59 = .ok (.iload_n 2, 1) := by decide +kernel
theorem dX6_set_60 : decode cX6_set 60 = .ok (.i2l, 1) := by decide +kernel
theorem dX6_set_61 : decode cX6_set 61 = .ok (.lconst 0, 1) := by decide +kernel
theorem dX6_set_62 : decode cX6_set 62 = .ok (.ldc2_w 71, 3) := by decide +kernel
theorem dX6_set_65 : decode cX6_set 65 = .ok (.invokestatic 50, 3) := by decide +kernel
theorem dX6_set_68 : decode cX6_set 68 = .ok (.ifCond .eq 7, 3) := by decide +kernel
theorem dX6_set_71 : decode cX6_set 71 = .ok (.iconst 1, 1) := by decide +kernel
theorem dX6_set_72 : decode cX6_set 72 = .ok (.goto 4, 3) := by decide +kernel
theorem dX6_set_75 : decode cX6_set 75 = .ok (.iconst 0, 1) := by decide +kernel
theorem dX6_set_76 : decode cX6_set 76 = .ok (.istore_n 3, 1) := by decide +kernel
theorem dX6_set_77 : decode cX6_set 77 = .ok (.iload_n 3, 1) := by decide +kernel
theorem dX6_set_78 : decode cX6_set 78 = .ok (.ifCond .ne 6, 3) := by decide +kernel
theorem dX6_set_81 : decode cX6_set 81 = .ok (.bipush (-2), 2) := by decide +kernel
theorem dX6_set_83 : decode cX6_set 83 = .ok (.ireturn, 1) := by decide +kernel
theorem dX6_set_84 : decode cX6_set 84 = .ok (.iload_n 1, 1) := by decide +kernel
theorem dX6_set_85 : decode cX6_set 85 = .ok (.ifCond .ne 10, 3) := by decide +kernel
theorem dX6_set_88 : decode cX6_set 88 = .ok (.aload_n 0, 1) := by decide +kernel
theorem dX6_set_89 : decode cX6_set 89 = .ok (.getfield 38, 3) := by decide +kernel
theorem dX6_set_92 : decode cX6_set 92 = .ok (.goto 19, 3) := by decide +kernel
theorem dX6_set_95 : decode cX6_set 95 = .ok (.iload_n 1, 1) := by decide +kernel
theorem dX6_set_96 : decode cX6_set 96 = .ok (.iconst 1, 1) := by decide +kernel
theorem dX6_set_97 : decode cX6_set 97 = .ok (.if_icmp .ne 10, 3) := by decide +kernel
theorem dX6_set_100 : decode cX6_set 100 = .ok (.aload_n 0, 1) := by decide +kernel
theorem dX6_set_101 : decode cX6_set 101 = .ok (.getfield 42, 3) := by decide +kernel
theorem dX6_set_104 : decode cX6_set 104 = .ok (.goto 7, 3) := by decide +kernel
theorem dX6_set_107 : decode cX6_set 107 = .ok (.aload_n 0, 1) := by decide +kernel
theorem dX6_set_108 : decode cX6_set 108 = .ok (.getfield 45, 3) := by decide +kernel
theorem dX6_set_111 : decode cX6_set 111 = .ok (.istore 4, 2) := by decide +kernel
theorem dX6_set_113 : decode cX6_set 113 = .ok (.aload_n 0, 1) := by decide +kernel
theorem dX6_set_114 : decode cX6_set 114 = .ok (.iload_n 1, 1) := by decide +kernel
theorem dX6_set_115 : decode cX6_set 115 = .ok (.ifCond .ne 7, 3) := by decide +kernel
theorem dX6_set_118 : decode cX6_set 118 = .ok (.iload_n 2, 1) := by decide +kernel
theorem dX6_set_119 : decode cX6_set 119 = .ok (.goto 7, 3) := by decide +kernel
theorem dX6_set_122 : decode cX6_set 122 = .ok (.aload_n 0, 1) := by decide +kernel
theorem dX6_set_123 : decode cX6_set 123 = .ok (.getfield 38, 3) := by decide +kernel
theorem dX6_set_126 : decode cX6_set 126 = .ok (.putfield 38, 3) := by decide +kernel
theorem dX6_set_129 : decode cX6_set 129 = .ok (.aload_n 0, 1) := by decide +kernel
theorem dX6_set_130 : decode cX6_set 130 = .ok (.iload_n 1, 1) := by decide +kernel
theorem dX6_set_131 : decode cX6_set 131 = .ok (.iconst 1, 1) := by decide +kernel
theorem dX6_set_132 : decode cX6_set 132 = .ok (.if_icmp .ne 7, 3) := by decide +kernel
theorem dX6_set_135 : decode cX6_set 135 = .ok (.iload_n 2, 1) := by decide +kernel
theorem dX6_set_136 : decode cX6_set 136 = .ok (.goto 7, 3) := by decide +kernel
theorem dX6_set_139 : decode cX6_set 139 = .ok (.aload_n 0, 1) := by decide +kernel
theorem dX6_set_140 : decode cX6_set 140 = .ok (.getfield 42, 3) := by decide +kernel
theorem dX6_set_143 : decode cX6_set 143 = .ok (.putfield 42, 3) := by decide +kernel
theorem dX6_set_146 : decode cX6_set 146 = .ok (.aload_n 0, 1) := by decide +kernel
theorem dX6_set_147 : decode cX6_set 147 = .ok (.iload_n 1, 1) := by decide +kernel
theorem dX6_set_148 : decode cX6_set 148 = .ok (.iconst 2, 1) := by decide +kernel
theorem dX6_set_149 : decode cX6_set 149 = .ok (.if_icmp .ne 7, 3) := by decide +kernel
theorem dX6_set_152 : decode cX6_set 152 = .ok (.iload_n 2, 1) := by decide +kernel
theorem dX6_set_153 : decode cX6_set 153 = .ok (.goto 7, 3) := by decide +kernel
theorem dX6_set_156 : decode cX6_set 156 = .ok (.aload_n 0, 1) := by decide +kernel
theorem dX6_set_157 : decode cX6_set 157 = .ok (.getfield 45, 3) := by decide +kernel
theorem dX6_set_160 : decode cX6_set 160 = .ok (.putfield 45, 3) := by decide +kernel
theorem dX6_set_163 : decode cX6_set 163 = .ok (.iload 4, 2) := by decide +kernel
theorem dX6_set_165 : decode cX6_set 165 = .ok (.ireturn, 1) := by decide +kernel
set_option maxRecDepth 20000 in
theorem ggX6_isPair_X6_runs : GoodIn wsX6_isPair wsX6_runs := goodIn_r _ [5, 6, 7, 8, 9, 4, 10, 11, 12, 13, 14, 15, 16, 17, 18, 19, 20, 21, 22, 23, 24, 25, 26, 27, 28, 29, 30, 31, 32, 33, 34, 35, 36, 37, 38, 39, 40, 41, 42, 43] (by decide +kernel) (by decide +kernel)
set_option maxRecDepth 20000 in
theorem gX6_isPair_X6_runs : GoodIn wsX6_isPair (wsV RX6 67 RX6 yX6_runs wsX6_runs) := goodIn_app (goodIn_of _ (by decide +kernel)) ggX6_isPair_X6_runs
theorem dX6_isPair_0 : decode cX6_isPair 0 = .ok (.aload_n 0, 1) := by decide +kernel
theorem dX6_isPair_1 : decode cX6_isPair 1 = .ok (.iload_n 1, 1) := by decide +kernel
theorem dX6_isPair_2 : decode cX6_isPair 2 = .ok (.invokevirtual 67, 3) := by decide +kernel
theorem dX6_isPair_5 : decode cX6_isPair 5 = .ok (.ifCond .eq 20, 3) := by decide +kernel
theorem dX6_isPair_8 : decode cX6_isPair 8 = .ok (.aload_n 0, 1) := by decide +kernel
theorem dX6_isPair_9 : decode cX6_isPair 9 = .ok (.iload_n 2, 1) := by decide +kernel
theorem dX6_isPair_10 : decode cX6_isPair 10 = .ok (.invokevirtual 67, 3) := by decide +kernel
theorem dX6_isPair_13 : decode cX6_isPair 13 = .ok (.ifCond .eq 12, 3) := by decide +kernel
theorem dX6_isPair_16 : decode cX6_isPair 16 = .ok (.iload_n 1, 1) := by decide +kernel
theorem dX6_isPair_17 : decode cX6_isPair 17 = .ok (.iload_n 2, 1) := by decide +kernel
theorem dX6_isPair_18 : decode cX6_isPair 18 = .ok (.if_icmp .eq 7, 3) := by decide +kernel
theorem dX6_isPair_21 : decode cX6_isPair 21 = .ok (.iconst 1, 1) := by decide +kernel
theorem dX6_isPair_22 : decode cX6_isPair 22 = .ok (.goto 4, 3) := by decide +kernel
theorem dX6_isPair_25 : decode cX6_isPair 25 = .ok (.iconst 0, 1) := by decide +kernel
theorem dX6_isPair_26 : decode cX6_isPair 26 = .ok (.ireturn, 1) := by decide +kernel
theorem dX6_layPair_0 : decode cX6_layPair 0 = .ok (.aload_n 0, 1) := by decide +kernel
theorem dX6_layPair_1 : decode cX6_layPair 1 = .ok (.aload_n 0, 1) := by decide +kernel
theorem dX6_layPair_2 : decode cX6_layPair 2 = .ok (.getfield 7, 3) := by decide +kernel
theorem dX6_layPair_5 : decode cX6_layPair 5 = .ok (.iload_n 1, 1) := by decide +kernel
theorem dX6_layPair_6 : decode cX6_layPair 6 = .ok (.iaload, 1) := by decide +kernel
theorem dX6_layPair_7 : decode cX6_layPair 7 = .ok (.putfield 73, 3) := by decide +kernel
theorem dX6_layPair_10 : decode cX6_layPair 10 = .ok (.aload_n 0, 1) := by decide +kernel
theorem dX6_layPair_11 : decode cX6_layPair 11 = .ok (.aload_n 0, 1) := by decide +kernel
theorem dX6_layPair_12 : decode cX6_layPair 12 = .ok (.getfield 7, 3) := by decide +kernel
theorem dX6_layPair_15 : decode cX6_layPair 15 = .ok (.iload_n 2, 1) := by decide +kernel
theorem dX6_layPair_16 : decode cX6_layPair 16 = .ok (.iaload, 1) := by decide +kernel
theorem dX6_layPair_17 : decode cX6_layPair 17 = .ok (.putfield 76, 3) := by decide +kernel
theorem dX6_layPair_20 : decode cX6_layPair 20 = .ok (.aload_n 0, 1) := by decide +kernel
theorem dX6_layPair_21 : decode cX6_layPair 21 = .ok (.aload_n 0, 1) := by decide +kernel
theorem dX6_layPair_22 : decode cX6_layPair 22 = .ok (.getfield 16, 3) := by decide +kernel
theorem dX6_layPair_25 : decode cX6_layPair 25 = .ok (.iload_n 1, 1) := by decide +kernel
theorem dX6_layPair_26 : decode cX6_layPair 26 = .ok (.iaload, 1) := by decide +kernel
theorem dX6_layPair_27 : decode cX6_layPair 27 = .ok (.putfield 79, 3) := by decide +kernel
theorem dX6_layPair_30 : decode cX6_layPair 30 = .ok (.aload_n 0, 1) := by decide +kernel
theorem dX6_layPair_31 : decode cX6_layPair 31 = .ok (.aload_n 0, 1) := by decide +kernel
theorem dX6_layPair_32 : decode cX6_layPair 32 = .ok (.getfield 16, 3) := by decide +kernel
theorem dX6_layPair_35 : decode cX6_layPair 35 = .ok (.iload_n 2, 1) := by decide +kernel
theorem dX6_layPair_36 : decode cX6_layPair 36 = .ok (.iaload, 1) := by decide +kernel
theorem dX6_layPair_37 : decode cX6_layPair 37 = .ok (.putfield 82, 3) := by decide +kernel
theorem dX6_layPair_40 : decode cX6_layPair 40 = .ok (.aload_n 0, 1) := by decide +kernel
theorem dX6_layPair_41 : decode cX6_layPair 41 = .ok (.aload_n 0, 1) := by decide +kernel
theorem dX6_layPair_42 : decode cX6_layPair 42 = .ok (.getfield 13, 3) := by decide +kernel
theorem dX6_layPair_45 : decode cX6_layPair 45 = .ok (.iload_n 1, 1) := by decide +kernel
theorem dX6_layPair_46 : decode cX6_layPair 46 = .ok (.iaload, 1) := by decide +kernel
theorem dX6_layPair_47 : decode cX6_layPair 47 = .ok (.aload_n 0, 1) := by decide +kernel
theorem dX6_layPair_48 : decode cX6_layPair 48 = .ok (.getfield 13, 3) := by decide +kernel
theorem dX6_layPair_51 : decode cX6_layPair 51 = .ok (.iload_n 2, 1) := by decide +kernel
theorem dX6_layPair_52 : decode cX6_layPair 52 = .ok (.iaload, 1) := by decide +kernel
theorem dX6_layPair_53 : decode cX6_layPair 53 = .ok (.if_icmp .ge 12, 3) := by decide +kernel
theorem dX6_layPair_56 : decode cX6_layPair 56 = .ok (.aload_n 0, 1) := by decide +kernel
theorem dX6_layPair_57 : decode cX6_layPair 57 = .ok (.getfield 13, 3) := by decide +kernel
theorem dX6_layPair_60 : decode cX6_layPair 60 = .ok (.iload_n 1, 1) := by decide +kernel
theorem dX6_layPair_61 : decode cX6_layPair 61 = .ok (.iaload, 1) := by decide +kernel
theorem dX6_layPair_62 : decode cX6_layPair 62 = .ok (.goto 9, 3) := by decide +kernel
theorem dX6_layPair_65 : decode cX6_layPair 65 = .ok (.aload_n 0, 1) := by decide +kernel
theorem dX6_layPair_66 : decode cX6_layPair 66 = .ok (.getfield 13, 3) := by decide +kernel
theorem dX6_layPair_69 : decode cX6_layPair 69 = .ok (.iload_n 2, 1) := by decide +kernel
theorem dX6_layPair_70 : decode cX6_layPair 70 = .ok (.iaload, 1) := by decide +kernel
theorem dX6_layPair_71 : decode cX6_layPair 71 = .ok (.putfield 85, 3) := by decide +kernel
theorem dX6_layPair_74 : decode cX6_layPair 74 = .ok (.aload_n 0, 1) := by decide +kernel
theorem dX6_layPair_75 : decode cX6_layPair 75 = .ok (.sipush 1000, 3) := by decide +kernel
theorem dX6_layPair_78 : decode cX6_layPair 78 = .ok (.putfield 88, 3) := by decide +kernel
theorem dX6_layPair_81 : decode cX6_layPair 81 = .ok (.aload_n 0, 1) := by decide +kernel
theorem dX6_layPair_82 : decode cX6_layPair 82 = .ok (.aload_n 0, 1) := by decide +kernel
theorem dX6_layPair_83 : decode cX6_layPair 83 = .ok (.getfield 38, 3) := by decide +kernel
theorem dX6_layPair_86 : decode cX6_layPair 86 = .ok (.putfield 91, 3) := by decide +kernel
theorem dX6_layPair_89 : decode cX6_layPair 89 = .ok (.return_, 1) := by decide +kernel
theorem dX6_begin_0 : decode cX6_begin 0 = .ok (.aload_n 0, 1) := by decide +kernel
theorem dX6_begin_1 : decode cX6_begin 1 = .ok (.iconst 0, 1) := by decide +kernel
theorem dX6_begin_2 : decode cX6_begin 2 = .ok (.putfield 94, 3) := by decide +kernel
theorem dX6_begin_5 : decode cX6_begin 5 = .ok (.aload_n 0, 1) := by decide +kernel
theorem dX6_begin_6 : decode cX6_begin 6 = .ok (.iconst 0, 1) := by decide +kernel
theorem dX6_begin_7 : decode cX6_begin 7 = .ok (.putfield 97, 3) := by decide +kernel
theorem dX6_begin_10 : decode cX6_begin 10 = .ok (.aload_n 0, 1) := by decide +kernel
theorem dX6_begin_11 : decode cX6_begin 11 = .ok (.iconst 0, 1) := by decide +kernel
theorem dX6_begin_12 : decode cX6_begin 12 = .ok (.putfield 100, 3) := by decide +kernel
theorem dX6_begin_15 : decode cX6_begin 15 = .ok (.aload_n 0, 1) := by decide +kernel
theorem dX6_begin_16 : decode cX6_begin 16 = .ok (.iconst 0, 1) := by decide +kernel
theorem dX6_begin_17 : decode cX6_begin 17 = .ok (.putfield 103, 3) := by decide +kernel
theorem dX6_begin_20 : decode cX6_begin 20 = .ok (.aload_n 0, 1) := by decide +kernel
theorem dX6_begin_21 : decode cX6_begin 21 = .ok (.iconst 0, 1) := by decide +kernel
theorem dX6_begin_22 : decode cX6_begin 22 = .ok (.putfield 106, 3) := by decide +kernel
theorem dX6_begin_25 : decode cX6_begin 25 = .ok (.aload_n 0, 1) := by decide +kernel
theorem dX6_begin_26 : decode cX6_begin 26 = .ok (.iconst 0, 1) := by decide +kernel
theorem dX6_begin_27 : decode cX6_begin 27 = .ok (.putfield 109, 3) := by decide +kernel
theorem dX6_begin_30 : decode cX6_begin 30 = .ok (.return_, 1) := by decide +kernel
theorem dX6_quicker_0 : decode cX6_quicker 0 = .ok (.aload_n 0, 1) := by decide +kernel
theorem dX6_quicker_1 : decode cX6_quicker 1 = .ok (.getfield 109, 3) := by decide +kernel
theorem dX6_quicker_4 : decode cX6_quicker 4 = .ok (.aload_n 0, 1) := by decide +kernel
theorem dX6_quicker_5 : decode cX6_quicker 5 = .ok (.getfield 88, 3) := by decide +kernel
theorem dX6_quicker_8 : decode cX6_quicker 8 = .ok (.if_icmp .lt 14, 3) := by decide +kernel
theorem dX6_quicker_11 : decode cX6_quicker 11 = .ok (.iload_n 1, 1) := by decide +kernel
theorem dX6_quicker_12 : decode cX6_quicker 12 = .ok (.iconst 4, 1) := by decide +kernel
theorem dX6_quicker_13 : decode cX6_quicker 13 = .ok (.if_icmp .le 9, 3) := by decide +kernel
theorem dX6_quicker_16 : decode cX6_quicker 16 = .ok (.iload_n 1, 1) := by decide +kernel
theorem dX6_quicker_17 : decode cX6_quicker 17 = .ok (.iconst 1, 1) := by decide +kernel
theorem dX6_quicker_18 : decode cX6_quicker 18 = .ok (.isub, 1) := by decide +kernel
theorem dX6_quicker_19 : decode cX6_quicker 19 = .ok (.goto 4, 3) := by decide +kernel
theorem dX6_quicker_22 : decode cX6_quicker 22 = .ok (.iload_n 1, 1) := by decide +kernel
theorem dX6_quicker_23 : decode cX6_quicker 23 = .ok (.ireturn, 1) := by decide +kernel
theorem dX6_next_0 : decode cX6_next 0 = .ok (.iload_n 0, 1) := by decide +kernel
theorem dX6_next_1 : decode cX6_next 1 = .ok (.iload_n 2, 1) := by decide +kernel
theorem dX6_next_2 : decode cX6_next 2 = .ok (.iadd, 1) := by decide +kernel
theorem dX6_next_3 : decode cX6_next 3 = .ok (.iload_n 3, 1) := by decide +kernel
theorem dX6_next_4 : decode cX6_next 4 = .ok (.iload_n 1, 1) := by decide +kernel
theorem dX6_next_5 : decode cX6_next 5 = .ok (.iload_n 0, 1) := by decide +kernel
theorem dX6_next_6 : decode cX6_next 6 = .ok (.isub, 1) := by decide +kernel
theorem dX6_next_7 : decode cX6_next 7 = .ok (.imul, 1) := by decide +kernel
theorem dX6_next_8 : decode cX6_next 8 = .ok (.iconst 4, 1) := by decide +kernel
theorem dX6_next_9 : decode cX6_next 9 = .ok (.idiv, 1) := by decide +kernel
theorem dX6_next_10 : decode cX6_next 10 = .ok (.iadd, 1) := by decide +kernel
theorem dX6_next_11 : decode cX6_next 11 = .ok (.istore 4, 2) := by decide +kernel
theorem dX6_next_13 : decode cX6_next 13 = .ok (.iload 4, 2) := by decide +kernel
theorem dX6_next_15 : decode cX6_next 15 = .ok (.iload_n 0, 1) := by decide +kernel
theorem dX6_next_16 : decode cX6_next 16 = .ok (.if_icmp .le 8, 3) := by decide +kernel
theorem dX6_next_19 : decode cX6_next 19 = .ok (.iload 4, 2) := by decide +kernel
theorem dX6_next_21 : decode cX6_next 21 = .ok (.goto 6, 3) := by decide +kernel
theorem dX6_next_24 : decode cX6_next 24 = .ok (.iload_n 0, 1) := by decide +kernel
theorem dX6_next_25 : decode cX6_next 25 = .ok (.iconst 1, 1) := by decide +kernel
theorem dX6_next_26 : decode cX6_next 26 = .ok (.iadd, 1) := by decide +kernel
theorem dX6_next_27 : decode cX6_next 27 = .ok (.ireturn, 1) := by decide +kernel
set_option maxRecDepth 20000 in
theorem ggX6_step_X6_quicker : GoodIn wsX6_step wsX6_quicker := goodIn_r _ [21, 16, 22, 26, 27, 28, 29, 30, 31, 32, 33, 34, 35, 36, 37, 38, 39, 40, 41, 42, 43, 44, 45, 46, 47, 48, 49, 50, 51, 52, 53, 54, 55, 56, 57, 58] (by decide +kernel) (by decide +kernel)
set_option maxRecDepth 20000 in
theorem gX6_step_X6_quicker : GoodIn wsX6_step (wsV RX6 112 RX6 yX6_quicker wsX6_quicker) := goodIn_app (goodIn_of _ (by decide +kernel)) ggX6_step_X6_quicker
set_option maxRecDepth 20000 in
theorem ggX6_step_X6_next : GoodIn wsX6_step wsX6_next := goodIn_r _ [25] (by decide +kernel) (by decide +kernel)
set_option maxRecDepth 20000 in
theorem gX6_step_X6_next : GoodIn wsX6_step (va_wsS RX6 115 yX6_next wsX6_next) := goodIn_app (goodIn_of _ (by decide +kernel)) ggX6_step_X6_next
theorem dX6_step_0 : decode cX6_step 0 = .ok (.aload_n 0, 1) := by decide +kernel
theorem dX6_step_1 : decode cX6_step 1 = .ok (.getfield 94, 3) := by decide +kernel
theorem dX6_step_4 : decode cX6_step 4 = .ok (.aload_n 0, 1) := by decide +kernel
theorem dX6_step_5 : decode cX6_step 5 = .ok (.getfield 97, 3) := by decide +kernel
theorem dX6_step_8 : decode cX6_step 8 = .ok (.aload_n 0, 1) := by decide +kernel
theorem dX6_step_9 : decode cX6_step 9 = .ok (.aload_n 0, 1) := by decide +kernel
theorem dX6_step_10 : decode cX6_step 10 = .ok (.getfield 73, 3) := by decide +kernel
theorem dX6_step_13 : decode cX6_step 13 = .ok (.invokevirtual 112, 3) := by decide +kernel
theorem dX6_step_16 : decode cX6_step 16 = .ok (.aload_n 0, 1) := by decide +kernel
theorem dX6_step_17 : decode cX6_step 17 = .ok (.getfield 79, 3) := by decide +kernel
theorem dX6_step_20 : decode cX6_step 20 = .ok (.invokestatic 115, 3) := by decide +kernel
theorem dX6_step_23 : decode cX6_step 23 = .ok (.istore_n 1, 1) := by decide +kernel
theorem dX6_step_24 : decode cX6_step 24 = .ok (.aload_n 0, 1) := by decide +kernel
theorem dX6_step_25 : decode cX6_step 25 = .ok (.getfield 97, 3) := by decide +kernel
theorem dX6_step_28 : decode cX6_step 28 = .ok (.aload_n 0, 1) := by decide +kernel
theorem dX6_step_29 : decode cX6_step 29 = .ok (.getfield 94, 3) := by decide +kernel
theorem dX6_step_32 : decode cX6_step 32 = .ok (.aload_n 0, 1) := by decide +kernel
theorem dX6_step_33 : decode cX6_step 33 = .ok (.aload_n 0, 1) := by decide +kernel
theorem dX6_step_34 : decode cX6_step 34 = .ok (.getfield 76, 3) := by decide +kernel
theorem dX6_step_37 : decode cX6_step 37 = .ok (.invokevirtual 112, 3) := by decide +kernel
theorem dX6_step_40 : decode cX6_step 40 = .ok (.aload_n 0, 1) := by decide +kernel
theorem dX6_step_41 : decode cX6_step 41 = .ok (.getfield 82, 3) := by decide +kernel
theorem dX6_step_44 : decode cX6_step 44 = .ok (.invokestatic 115, 3) := by decide +kernel
theorem dX6_step_47 : decode cX6_step 47 = .ok (.istore_n 2, 1) := by decide +kernel
theorem dX6_step_48 : decode cX6_step 48 = .ok (.iload_n 1, 1) := by decide +kernel
theorem dX6_step_49 : decode cX6_step 49 = .ok (.iload_n 2, 1) := by decide +kernel
theorem dX6_step_50 : decode cX6_step 50 = .ok (.if_icmp .le 9, 3) := by decide +kernel
theorem dX6_step_53 : decode cX6_step 53 = .ok (.iload_n 1, 1) := by decide +kernel
theorem dX6_step_54 : decode cX6_step 54 = .ok (.iload_n 2, 1) := by decide +kernel
theorem dX6_step_55 : decode cX6_step 55 = .ok (.isub, 1) := by decide +kernel
theorem dX6_step_56 : decode cX6_step 56 = .ok (.goto 6, 3) := by decide +kernel
theorem dX6_step_59 : decode cX6_step 59 = .ok (.iload_n 2, 1) := by decide +kernel
theorem dX6_step_60 : decode cX6_step 60 = .ok (.iload_n 1, 1) := by decide +kernel
theorem dX6_step_61 : decode cX6_step 61 = .ok (.isub, 1) := by decide +kernel
theorem dX6_step_62 : decode cX6_step 62 = .ok (.istore_n 3, 1) := by decide +kernel
theorem dX6_step_63 : decode cX6_step 63 = .ok (.iload_n 1, 1) := by decide +kernel
theorem dX6_step_64 : decode cX6_step 64 = .ok (.iload_n 2, 1) := by decide +kernel
theorem dX6_step_65 : decode cX6_step 65 = .ok (.if_icmp .le 7, 3) := by decide +kernel
theorem dX6_step_68 : decode cX6_step 68 = .ok (.iload_n 1, 1) := by decide +kernel
theorem dX6_step_69 : decode cX6_step 69 = .ok (.goto 4, 3) := by decide +kernel
theorem dX6_step_72 : decode cX6_step 72 = .ok (.iload_n 2, 1) := by decide +kernel
theorem dX6_step_73 : decode cX6_step 73 = .ok (.istore 4, 2) := by decide +kernel
theorem dX6_step_75 : decode cX6_step 75 = .ok (.aload_n 0, 1) := by decide +kernel
theorem dX6_step_76 : decode cX6_step 76 = .ok (.iload_n 3, 1) := by decide +kernel
theorem dX6_step_77 : decode cX6_step 77 = .ok (.aload_n 0, 1) := by decide +kernel
theorem dX6_step_78 : decode cX6_step 78 = .ok (.getfield 42, 3) := by decide +kernel
theorem dX6_step_81 : decode cX6_step 81 = .ok (.if_icmp .le 8, 3) := by decide +kernel
theorem dX6_step_84 : decode cX6_step 84 = .ok (.bipush 102, 2) := by decide +kernel
theorem dX6_step_86 : decode cX6_step 86 = .ok (.goto 18, 3) := by decide +kernel
theorem dX6_step_89 : decode cX6_step 89 = .ok (.iload_n 3, 1) := by decide +kernel
theorem dX6_step_90 : decode cX6_step 90 = .ok (.aload_n 0, 1) := by decide +kernel
theorem dX6_step_91 : decode cX6_step 91 = .ok (.getfield 91, 3) := by decide +kernel
theorem dX6_step_94 : decode cX6_step 94 = .ok (.if_icmp .le 8, 3) := by decide +kernel
theorem dX6_step_97 : decode cX6_step 97 = .ok (.bipush 108, 2) := by decide +kernel
theorem dX6_step_99 : decode cX6_step 99 = .ok (.goto 5, 3) := by decide +kernel
theorem dX6_step_102 : decode cX6_step 102 = .ok (.bipush 115, 2) := by decide +kernel
theorem dX6_step_104 : decode cX6_step 104 = .ok (.putfield 119, 3) := by decide +kernel
theorem dX6_step_107 : decode cX6_step 107 = .ok (.aload_n 0, 1) := by decide +kernel
theorem dX6_step_108 : decode cX6_step 108 = .ok (.iload_n 1, 1) := by decide +kernel
theorem dX6_step_109 : decode cX6_step 109 = .ok (.iload_n 2, 1) := by decide +kernel
theorem dX6_step_110 : decode cX6_step 110 = .ok (.if_icmp .ge 7, 3) := by decide +kernel
theorem dX6_step_113 : decode cX6_step 113 = .ok (.iconst 0, 1) := by decide +kernel
theorem dX6_step_114 : decode cX6_step 114 = .ok (.goto 4, 3) := by decide +kernel
theorem dX6_step_117 : decode cX6_step 117 = .ok (.iconst 1, 1) := by decide +kernel
theorem dX6_step_118 : decode cX6_step 118 = .ok (.putfield 122, 3) := by decide +kernel
theorem dX6_step_121 : decode cX6_step 121 = .ok (.aload_n 0, 1) := by decide +kernel
theorem dX6_step_122 : decode cX6_step 122 = .ok (.dup, 1) := by decide +kernel
theorem dX6_step_123 : decode cX6_step 123 = .ok (.getfield 106, 3) := by decide +kernel
theorem dX6_step_126 : decode cX6_step 126 = .ok (.aload_n 0, 1) := by decide +kernel
theorem dX6_step_127 : decode cX6_step 127 = .ok (.getfield 119, 3) := by decide +kernel
theorem dX6_step_130 : decode cX6_step 130 = .ok (.bipush 102, 2) := by decide +kernel
theorem dX6_step_132 : decode cX6_step 132 = .ok (.if_icmp .ne 7, 3) := by decide +kernel
theorem dX6_step_135 : decode cX6_step 135 = .ok (.iconst 1, 1) := by decide +kernel
theorem dX6_step_136 : decode cX6_step 136 = .ok (.goto 4, 3) := by decide +kernel
theorem dX6_step_139 : decode cX6_step 139 = .ok (.iconst 0, 1) := by decide +kernel
theorem dX6_step_140 : decode cX6_step 140 = .ok (.iadd, 1) := by decide +kernel
theorem dX6_step_141 : decode cX6_step 141 = .ok (.putfield 106, 3) := by decide +kernel
theorem dX6_step_144 : decode cX6_step 144 = .ok (.aload_n 0, 1) := by decide +kernel
theorem dX6_step_145 : decode cX6_step 145 = .ok (.dup, 1) := by decide +kernel
theorem dX6_step_146 : decode cX6_step 146 = .ok (.getfield 103, 3) := by decide +kernel
theorem dX6_step_149 : decode cX6_step 149 = .ok (.aload_n 0, 1) := by decide +kernel
theorem dX6_step_150 : decode cX6_step 150 = .ok (.getfield 119, 3) := by decide +kernel
theorem dX6_step_153 : decode cX6_step 153 = .ok (.bipush 108, 2) := by decide +kernel
theorem dX6_step_155 : decode cX6_step 155 = .ok (.if_icmp .ne 7, 3) := by decide +kernel
theorem dX6_step_158 : decode cX6_step 158 = .ok (.iconst 1, 1) := by decide +kernel
theorem dX6_step_159 : decode cX6_step 159 = .ok (.goto 4, 3) := by decide +kernel
theorem dX6_step_162 : decode cX6_step 162 = .ok (.iconst 0, 1) := by decide +kernel
theorem dX6_step_163 : decode cX6_step 163 = .ok (.iadd, 1) := by decide +kernel
theorem dX6_step_164 : decode cX6_step 164 = .ok (.putfield 103, 3) := by decide +kernel
theorem dX6_step_167 : decode cX6_step 167 = .ok (.aload_n 0, 1) := by decide +kernel
theorem dX6_step_168 : decode cX6_step 168 = .ok (.dup, 1) := by decide +kernel
theorem dX6_step_169 : decode cX6_step 169 = .ok (.getfield 100, 3) := by decide +kernel
theorem dX6_step_172 : decode cX6_step 172 = .ok (.aload_n 0, 1) := by decide +kernel
theorem dX6_step_173 : decode cX6_step 173 = .ok (.getfield 119, 3) := by decide +kernel
theorem dX6_step_176 : decode cX6_step 176 = .ok (.bipush 115, 2) := by decide +kernel
theorem dX6_step_178 : decode cX6_step 178 = .ok (.if_icmp .ne 10, 3) := by decide +kernel
theorem dX6_step_181 : decode cX6_step 181 = .ok (.aload_n 0, 1) := by decide +kernel
theorem dX6_step_182 : decode cX6_step 182 = .ok (.getfield 85, 3) := by decide +kernel
theorem dX6_step_185 : decode cX6_step 185 = .ok (.goto 4, 3) := by decide +kernel
theorem dX6_step_188 : decode cX6_step 188 = .ok (.iconst 0, 1) := by decide +kernel
theorem dX6_step_189 : decode cX6_step 189 = .ok (.iadd, 1) := by decide +kernel
theorem dX6_step_190 : decode cX6_step 190 = .ok (.putfield 100, 3) := by decide +kernel
theorem dX6_step_193 : decode cX6_step 193 = .ok (.aload_n 0, 1) := by decide +kernel
theorem dX6_step_194 : decode cX6_step 194 = .ok (.aload_n 0, 1) := by decide +kernel
theorem dX6_step_195 : decode cX6_step 195 = .ok (.getfield 119, 3) := by decide +kernel
theorem dX6_step_198 : decode cX6_step 198 = .ok (.bipush 102, 2) := by decide +kernel
theorem dX6_step_200 : decode cX6_step 200 = .ok (.if_icmp .ne 13, 3) := by decide +kernel
theorem dX6_step_203 : decode cX6_step 203 = .ok (.iload 4, 2) := by decide +kernel
theorem dX6_step_205 : decode cX6_step 205 = .ok (.aload_n 0, 1) := by decide +kernel
theorem dX6_step_206 : decode cX6_step 206 = .ok (.getfield 45, 3) := by decide +kernel
theorem dX6_step_209 : decode cX6_step 209 = .ok (.iadd, 1) := by decide +kernel
theorem dX6_step_210 : decode cX6_step 210 = .ok (.goto 4, 3) := by decide +kernel
theorem dX6_step_213 : decode cX6_step 213 = .ok (.iload_n 1, 1) := by decide +kernel
theorem dX6_step_214 : decode cX6_step 214 = .ok (.putfield 94, 3) := by decide +kernel
theorem dX6_step_217 : decode cX6_step 217 = .ok (.aload_n 0, 1) := by decide +kernel
theorem dX6_step_218 : decode cX6_step 218 = .ok (.aload_n 0, 1) := by decide +kernel
theorem dX6_step_219 : decode cX6_step 219 = .ok (.getfield 119, 3) := by decide +kernel
theorem dX6_step_222 : decode cX6_step 222 = .ok (.bipush 102, 2) := by decide +kernel
theorem dX6_step_224 : decode cX6_step 224 = .ok (.if_icmp .ne 13, 3) := by decide +kernel
theorem dX6_step_227 : decode cX6_step 227 = .ok (.iload 4, 2) := by decide +kernel
theorem dX6_step_229 : decode cX6_step 229 = .ok (.aload_n 0, 1) := by decide +kernel
theorem dX6_step_230 : decode cX6_step 230 = .ok (.getfield 45, 3) := by decide +kernel
theorem dX6_step_233 : decode cX6_step 233 = .ok (.iadd, 1) := by decide +kernel
theorem dX6_step_234 : decode cX6_step 234 = .ok (.goto 4, 3) := by decide +kernel
theorem dX6_step_237 : decode cX6_step 237 = .ok (.iload_n 2, 1) := by decide +kernel
theorem dX6_step_238 : decode cX6_step 238 = .ok (.putfield 97, 3) := by decide +kernel
theorem dX6_step_241 : decode cX6_step 241 = .ok (.aload_n 0, 1) := by decide +kernel
theorem dX6_step_242 : decode cX6_step 242 = .ok (.dup, 1) := by decide +kernel
theorem dX6_step_243 : decode cX6_step 243 = .ok (.getfield 109, 3) := by decide +kernel
theorem dX6_step_246 : decode cX6_step 246 = .ok (.iconst 1, 1) := by decide +kernel
theorem dX6_step_247 : decode cX6_step 247 = .ok (.iadd, 1) := by decide +kernel
theorem dX6_step_248 : decode cX6_step 248 = .ok (.putfield 109, 3) := by decide +kernel
theorem dX6_step_251 : decode cX6_step 251 = .ok (.return_, 1) := by decide +kernel
theorem dX6_time_0 : decode cX6_time 0 = .ok (.aload_n 0, 1) := by decide +kernel
theorem dX6_time_1 : decode cX6_time 1 = .ok (.getfield 94, 3) := by decide +kernel
theorem dX6_time_4 : decode cX6_time 4 = .ok (.aload_n 0, 1) := by decide +kernel
theorem dX6_time_5 : decode cX6_time 5 = .ok (.getfield 97, 3) := by decide +kernel
theorem dX6_time_8 : decode cX6_time 8 = .ok (.if_icmp .le 10, 3) := by decide +kernel
theorem dX6_time_11 : decode cX6_time 11 = .ok (.aload_n 0, 1) := by decide +kernel
theorem dX6_time_12 : decode cX6_time 12 = .ok (.getfield 94, 3) := by decide +kernel
theorem dX6_time_15 : decode cX6_time 15 = .ok (.goto 7, 3) := by decide +kernel
theorem dX6_time_18 : decode cX6_time 18 = .ok (.aload_n 0, 1) := by decide +kernel
theorem dX6_time_19 : decode cX6_time 19 = .ok (.getfield 97, 3) := by decide +kernel
theorem dX6_time_22 : decode cX6_time 22 = .ok (.ireturn, 1) := by decide +kernel
set_option maxRecDepth 20000 in
theorem ggX6_timeOf_X6_begin : GoodIn wsX6_timeOf wsX6_begin := goodIn_r _ [8, 9, 10, 2, 11, 12, 1, 39, 40, 41, 42, 43, 44, 45, 46, 47, 48, 49, 50, 51, 52, 53, 54, 55, 56, 57, 58, 59, 60, 61, 62, 63, 64, 65, 66, 67, 68, 69, 70, 71] (by decide +kernel) (by decide +kernel)
set_option maxRecDepth 20000 in
theorem gX6_timeOf_X6_begin : GoodIn wsX6_timeOf (wsV RX6 125 RX6 yX6_begin wsX6_begin) := goodIn_app (goodIn_of _ (by decide +kernel)) ggX6_timeOf_X6_begin
set_option maxRecDepth 20000 in
theorem ggX6_timeOf_X6_step : GoodIn wsX6_timeOf wsX6_step := goodIn_r _ [16, 9, 10, 17, 18, 19, 20, 21, 22, 23, 24, 12, 11, 2, 25, 26, 1, 27, 28, 29, 7, 30, 31, 32, 33, 34, 39, 40, 41, 42, 43, 44, 45, 46, 47, 48, 49, 50, 51, 52, 53, 54, 55, 56, 57, 58, 59, 60, 61, 62, 63, 64, 65, 66, 67, 68, 69, 70, 71] (by decide +kernel) (by decide +kernel)
set_option maxRecDepth 20000 in
theorem gX6_timeOf_X6_step : GoodIn wsX6_timeOf (wsV RX6 128 RX6 yX6_step wsX6_step) := goodIn_app (goodIn_of _ (by decide +kernel)) ggX6_timeOf_X6_step
set_option maxRecDepth 20000 in
theorem ggX6_timeOf_X6_time : GoodIn wsX6_timeOf wsX6_time := goodIn_r _ [38, 9, 10, 39, 40, 41, 42, 43, 44, 45, 46, 47, 48, 49, 50, 51, 52, 53, 54, 55, 56, 57, 58, 59, 60, 61, 62, 63, 64, 65, 66, 67, 68, 69, 70, 71] (by decide +kernel) (by decide +kernel)
set_option maxRecDepth 20000 in
theorem gX6_timeOf_X6_time : GoodIn wsX6_timeOf (wsV RX6 131 RX6 yX6_time wsX6_time) := goodIn_app (goodIn_of _ (by decide +kernel)) ggX6_timeOf_X6_time
theorem dX6_timeOf_0 : decode cX6_timeOf 0 = .ok (.aload_n 0, 1) := by decide +kernel
theorem dX6_timeOf_1 : decode cX6_timeOf 1 = .ok (.invokevirtual 125, 3) := by decide +kernel
theorem dX6_timeOf_4 : decode cX6_timeOf 4 = .ok (.aload_n 0, 1) := by decide +kernel
theorem dX6_timeOf_5 : decode cX6_timeOf 5 = .ok (.getfield 109, 3) := by decide +kernel
theorem dX6_timeOf_8 : decode cX6_timeOf 8 = .ok (.sipush 999, 3) := by decide +kernel
theorem dX6_timeOf_11 : decode cX6_timeOf 11 = .ok (.if_icmp .ge 18, 3) := by decide +kernel
theorem dX6_timeOf_14 : decode cX6_timeOf 14 = .ok (.aload_n 0, 1) := by decide +kernel
theorem dX6_timeOf_15 : decode cX6_timeOf 15 = .ok (.getfield 100, 3) := by decide +kernel
theorem dX6_timeOf_18 : decode cX6_timeOf 18 = .ok (.iload_n 1, 1) := by decide +kernel
theorem dX6_timeOf_19 : decode cX6_timeOf 19 = .ok (.if_icmp .ge 10, 3) := by decide +kernel
theorem dX6_timeOf_22 : decode cX6_timeOf 22 = .ok (.aload_n 0, 1) := by decide +kernel
theorem dX6_timeOf_23 : decode cX6_timeOf 23 = .ok (.invokevirtual 128, 3) := by decide +kernel
theorem dX6_timeOf_26 : decode cX6_timeOf 26 = .ok (.goto (-22), 3) := by decide +kernel
theorem dX6_timeOf_29 : decode cX6_timeOf 29 = .ok (.aload_n 0, 1) := by decide +kernel
theorem dX6_timeOf_30 : decode cX6_timeOf 30 = .ok (.getfield 100, 3) := by decide +kernel
theorem dX6_timeOf_33 : decode cX6_timeOf 33 = .ok (.iload_n 1, 1) := by decide +kernel
theorem dX6_timeOf_34 : decode cX6_timeOf 34 = .ok (.if_icmp .lt 10, 3) := by decide +kernel
theorem dX6_timeOf_37 : decode cX6_timeOf 37 = .ok (.aload_n 0, 1) := by decide +kernel
theorem dX6_timeOf_38 : decode cX6_timeOf 38 = .ok (.invokevirtual 131, 3) := by decide +kernel
theorem dX6_timeOf_41 : decode cX6_timeOf 41 = .ok (.goto 5, 3) := by decide +kernel
theorem dX6_timeOf_44 : decode cX6_timeOf 44 = .ok (.ldc 135, 2) := by decide +kernel
theorem dX6_timeOf_46 : decode cX6_timeOf 46 = .ok (.ireturn, 1) := by decide +kernel
set_option maxRecDepth 20000 in
theorem ggX6_pair_X6_isPair : GoodIn wsX6_pair wsX6_isPair := goodIn_r _ [13, 14, 15, 16, 12, 17, 18, 19, 20, 21, 22, 61, 62, 63, 64, 65, 66, 67, 68, 69, 70, 71, 72, 73, 74, 75, 76, 77, 78, 79, 80, 81, 82, 83, 84, 85, 86, 87, 88, 89, 90, 91, 92, 93] (by decide +kernel) (by decide +kernel)
set_option maxRecDepth 20000 in
theorem gX6_pair_X6_isPair : GoodIn wsX6_pair (wsV RX6 136 RX6 yX6_isPair wsX6_isPair) := goodIn_app (goodIn_of _ (by decide +kernel)) ggX6_pair_X6_isPair
set_option maxRecDepth 20000 in
theorem ggX6_pair_X6_in : GoodIn wsX6_pair wsX6_in := goodIn_r _ [22] (by decide +kernel) (by decide +kernel)
set_option maxRecDepth 20000 in
theorem gX6_pair_X6_in : GoodIn wsX6_pair (va_wsS RX6 50 yX6_in wsX6_in) := goodIn_app (goodIn_of _ (by decide +kernel)) ggX6_pair_X6_in
set_option maxRecDepth 20000 in
theorem ggX6_pair_X6_layPair : GoodIn wsX6_pair wsX6_layPair := goodIn_r _ [26, 27, 28, 29, 30, 31, 32, 33, 34, 35, 36, 37, 61, 62, 63, 64, 65, 66, 67, 68, 69, 70, 71, 72, 73, 74, 75, 76, 77, 78, 79, 80, 81, 82, 83, 84, 85, 86, 87, 88, 89, 90, 91, 92, 93] (by decide +kernel) (by decide +kernel)
set_option maxRecDepth 20000 in
theorem gX6_pair_X6_layPair : GoodIn wsX6_pair (wsV RX6 142 RX6 yX6_layPair wsX6_layPair) := goodIn_app (goodIn_of _ (by decide +kernel)) ggX6_pair_X6_layPair
set_option maxRecDepth 20000 in
theorem ggX6_pair_X6_begin : GoodIn wsX6_pair wsX6_begin := goodIn_r _ [41, 4, 5, 6, 7, 8, 3, 61, 62, 63, 64, 65, 66, 67, 68, 69, 70, 71, 72, 73, 74, 75, 76, 77, 78, 79, 80, 81, 82, 83, 84, 85, 86, 87, 88, 89, 90, 91, 92, 93] (by decide +kernel) (by decide +kernel)
set_option maxRecDepth 20000 in
theorem gX6_pair_X6_begin : GoodIn wsX6_pair (wsV RX6 125 RX6 yX6_begin wsX6_begin) := goodIn_app (goodIn_of _ (by decide +kernel)) ggX6_pair_X6_begin
set_option maxRecDepth 20000 in
theorem ggX6_pair_X6_step : GoodIn wsX6_pair wsX6_step := goodIn_r _ [45, 4, 5, 28, 31, 29, 32, 46, 37, 47, 48, 8, 7, 6, 34, 49, 3, 50, 51, 52, 12, 53, 35, 54, 55, 56, 61, 62, 63, 64, 65, 66, 67, 68, 69, 70, 71, 72, 73, 74, 75, 76, 77, 78, 79, 80, 81, 82, 83, 84, 85, 86, 87, 88, 89, 90, 91, 92, 93] (by decide +kernel) (by decide +kernel)
set_option maxRecDepth 20000 in
theorem gX6_pair_X6_step : GoodIn wsX6_pair (wsV RX6 128 RX6 yX6_step wsX6_step) := goodIn_app (goodIn_of _ (by decide +kernel)) ggX6_pair_X6_step
set_option maxRecDepth 20000 in
theorem ggX6_pair_X6_time : GoodIn wsX6_pair wsX6_time := goodIn_r _ [60, 4, 5, 61, 62, 63, 64, 65, 66, 67, 68, 69, 70, 71, 72, 73, 74, 75, 76, 77, 78, 79, 80, 81, 82, 83, 84, 85, 86, 87, 88, 89, 90, 91, 92, 93] (by decide +kernel) (by decide +kernel)
set_option maxRecDepth 20000 in
theorem gX6_pair_X6_time : GoodIn wsX6_pair (wsV RX6 131 RX6 yX6_time wsX6_time) := goodIn_app (goodIn_of _ (by decide +kernel)) ggX6_pair_X6_time
theorem dX6_pair_0 : decode cX6_pair 0 = .ok (.aload_n 0, 1) := by decide +kernel
theorem dX6_pair_1 : decode cX6_pair 1 = .ok (.iload_n 1, 1) := by decide +kernel
theorem dX6_pair_2 : decode cX6_pair 2 = .ok (.iload_n 2, 1) := by decide +kernel
theorem dX6_pair_3 : decode cX6_pair 3 = .ok (.invokevirtual 136, 3) := by decide +kernel
theorem dX6_pair_6 : decode cX6_pair 6 = .ok (.ifCond .ne 5, 3) := by decide +kernel
theorem dX6_pair_9 : decode cX6_pair 9 = .ok (.iconst (-1), 1) := by decide +kernel
theorem dX6_pair_10 : decode cX6_pair 10 = .ok (.ireturn, 1) := by decide +kernel
theorem dX6_pair_11 : decode cX6_pair 11 = .ok (.iload_n 3, 1) := by decide +kernel
theorem dX6_pair_12 : decode cX6_pair 12 = .ok (.i2l, 1) := by decide +kernel
theorem dX6_pair_13 : decode cX6_pair 13 = .ok (.lconst 0, 1) := by decide +kernel
theorem dX6_pair_14 : decode cX6_pair 14 = .ok (.ldc2_w 140, 3) := by decide +kernel
theorem dX6_pair_17 : decode cX6_pair 17 = .ok (.invokestatic 50, 3) := by decide +kernel
theorem dX6_pair_20 : decode cX6_pair 20 = .ok (.ifCond .eq 16, 3) := by decide +kernel
theorem dX6_pair_23 : decode cX6_pair 23 = .ok (.iload 4, 2) := by decide +kernel
theorem dX6_pair_25 : decode cX6_pair 25 = .ok (.i2l, 1) := by decide +kernel
theorem dX6_pair_26 : decode cX6_pair 26 = .ok (.lconst 0, 1) := by decide +kernel
theorem dX6_pair_27 : decode cX6_pair 27 = .ok (.ldc2_w 57, 3) := by decide +kernel
theorem dX6_pair_30 : decode cX6_pair 30 = .ok (.invokestatic 50, 3) := by decide +kernel
theorem dX6_pair_33 : decode cX6_pair 33 = .ok (.ifCond .ne 6, 3) := by decide +kernel
theorem dX6_pair_36 : decode cX6_pair 36 = .ok (.bipush (-2), 2) := by decide +kernel
theorem dX6_pair_38 : decode cX6_pair 38 = .ok (.ireturn, 1) := by decide +kernel
theorem dX6_pair_39 : decode cX6_pair 39 = .ok (.aload_n 0, 1) := by decide +kernel
theorem dX6_pair_40 : decode cX6_pair 40 = .ok (.iload_n 1, 1) := by decide +kernel
theorem dX6_pair_41 : decode cX6_pair 41 = .ok (.iload_n 2, 1) := by decide +kernel
theorem dX6_pair_42 : decode cX6_pair 42 = .ok (.invokevirtual 142, 3) := by decide +kernel
theorem dX6_pair_45 : decode cX6_pair 45 = .ok (.aload_n 0, 1) := by decide +kernel
theorem dX6_pair_46 : decode cX6_pair 46 = .ok (.invokevirtual 125, 3) := by decide +kernel
theorem dX6_pair_49 : decode cX6_pair 49 = .ok (.aload_n 0, 1) := by decide +kernel
theorem dX6_pair_50 : decode cX6_pair 50 = .ok (.getfield 109, 3) := by decide +kernel
theorem dX6_pair_53 : decode cX6_pair 53 = .ok (.iload_n 3, 1) := by decide +kernel
theorem dX6_pair_54 : decode cX6_pair 54 = .ok (.if_icmp .ge 10, 3) := by decide +kernel
theorem dX6_pair_57 : decode cX6_pair 57 = .ok (.aload_n 0, 1) := by decide +kernel
theorem dX6_pair_58 : decode cX6_pair 58 = .ok (.invokevirtual 128, 3) := by decide +kernel
theorem dX6_pair_61 : decode cX6_pair 61 = .ok (.goto (-12), 3) := by decide +kernel
theorem dX6_pair_64 : decode cX6_pair 64 = .ok (.aload_n 0, 1) := by decide +kernel
theorem dX6_pair_65 : decode cX6_pair 65 = .ok (.getfield 94, 3) := by decide +kernel
theorem dX6_pair_68 : decode cX6_pair 68 = .ok (.aload_n 0, 1) := by decide +kernel
theorem dX6_pair_69 : decode cX6_pair 69 = .ok (.getfield 97, 3) := by decide +kernel
theorem dX6_pair_72 : decode cX6_pair 72 = .ok (.if_icmp .le 15, 3) := by decide +kernel
theorem dX6_pair_75 : decode cX6_pair 75 = .ok (.aload_n 0, 1) := by decide +kernel
theorem dX6_pair_76 : decode cX6_pair 76 = .ok (.getfield 94, 3) := by decide +kernel
theorem dX6_pair_79 : decode cX6_pair 79 = .ok (.aload_n 0, 1) := by decide +kernel
theorem dX6_pair_80 : decode cX6_pair 80 = .ok (.getfield 97, 3) := by decide +kernel
theorem dX6_pair_83 : decode cX6_pair 83 = .ok (.isub, 1) := by decide +kernel
theorem dX6_pair_84 : decode cX6_pair 84 = .ok (.goto 12, 3) := by decide +kernel
theorem dX6_pair_87 : decode cX6_pair 87 = .ok (.aload_n 0, 1) := by decide +kernel
theorem dX6_pair_88 : decode cX6_pair 88 = .ok (.getfield 97, 3) := by decide +kernel
theorem dX6_pair_91 : decode cX6_pair 91 = .ok (.aload_n 0, 1) := by decide +kernel
theorem dX6_pair_92 : decode cX6_pair 92 = .ok (.getfield 94, 3) := by decide +kernel
theorem dX6_pair_95 : decode cX6_pair 95 = .ok (.isub, 1) := by decide +kernel
theorem dX6_pair_96 : decode cX6_pair 96 = .ok (.istore 5, 2) := by decide +kernel
theorem dX6_pair_98 : decode cX6_pair 98 = .ok (.iload 4, 2) := by decide +kernel
theorem dX6_pair_100 : decode cX6_pair 100 = .ok (.ifCond .ne 10, 3) := by decide +kernel
theorem dX6_pair_103 : decode cX6_pair 103 = .ok (.aload_n 0, 1) := by decide +kernel
theorem dX6_pair_104 : decode cX6_pair 104 = .ok (.invokevirtual 131, 3) := by decide +kernel
theorem dX6_pair_107 : decode cX6_pair 107 = .ok (.goto 44, 3) := by decide +kernel
theorem dX6_pair_110 : decode cX6_pair 110 = .ok (.iload 4, 2) := by decide +kernel
theorem dX6_pair_112 : decode cX6_pair 112 = .ok (.iconst 1, 1) := by decide +kernel
theorem dX6_pair_113 : decode cX6_pair 113 = .ok (.if_icmp .ne 10, 3) := by decide +kernel
theorem dX6_pair_116 : decode cX6_pair 116 = .ok (.aload_n 0, 1) := by decide +kernel
theorem dX6_pair_117 : decode cX6_pair 117 = .ok (.getfield 100, 3) := by decide +kernel
theorem dX6_pair_120 : decode cX6_pair 120 = .ok (.goto 31, 3) := by decide +kernel
theorem dX6_pair_123 : decode cX6_pair 123 = .ok (.iload 4, 2) := by decide +kernel
theorem dX6_pair_125 : decode cX6_pair 125 = .ok (.iconst 2, 1) := by decide +kernel
theorem dX6_pair_126 : decode cX6_pair 126 = .ok (.if_icmp .ne 10, 3) := by decide +kernel
theorem dX6_pair_129 : decode cX6_pair 129 = .ok (.aload_n 0, 1) := by decide +kernel
theorem dX6_pair_130 : decode cX6_pair 130 = .ok (.getfield 103, 3) := by decide +kernel
theorem dX6_pair_133 : decode cX6_pair 133 = .ok (.goto 18, 3) := by decide +kernel
theorem dX6_pair_136 : decode cX6_pair 136 = .ok (.iload 4, 2) := by decide +kernel
theorem dX6_pair_138 : decode cX6_pair 138 = .ok (.iconst 3, 1) := by decide +kernel
theorem dX6_pair_139 : decode cX6_pair 139 = .ok (.if_icmp .ne 10, 3) := by decide +kernel
theorem dX6_pair_142 : decode cX6_pair 142 = .ok (.aload_n 0, 1) := by decide +kernel
theorem dX6_pair_143 : decode cX6_pair 143 = .ok (.getfield 106, 3) := by decide +kernel
theorem dX6_pair_146 : decode cX6_pair 146 = .ok (.goto 5, 3) := by decide +kernel
theorem dX6_pair_149 : decode cX6_pair 149 = .ok (.iload 5, 2) := by decide +kernel
theorem dX6_pair_151 : decode cX6_pair 151 = .ok (.ireturn, 1) := by decide +kernel
set_option maxRecDepth 20000 in
theorem ggX6_isFar_X6_in : GoodIn wsX6_isFar wsX6_in := goodIn_r _ [5] (by decide +kernel) (by decide +kernel)
set_option maxRecDepth 20000 in
theorem gX6_isFar_X6_in : GoodIn wsX6_isFar (va_wsS RX6 50 yX6_in wsX6_in) := goodIn_app (goodIn_of _ (by decide +kernel)) ggX6_isFar_X6_in
theorem dX6_isFar_0 : decode cX6_isFar 0 = .ok (.iload_n 0, 1) := by decide +kernel
theorem dX6_isFar_1 : decode cX6_isFar 1 = .ok (.i2l, 1) := by decide +kernel
theorem dX6_isFar_2 : decode cX6_isFar 2 = .ok (.lconst 1, 1) := by decide +kernel
theorem dX6_isFar_3 : decode cX6_isFar 3 = .ok (.ldc2_w 140, 3) := by decide +kernel
theorem dX6_isFar_6 : decode cX6_isFar 6 = .ok (.invokestatic 50, 3) := by decide +kernel
theorem dX6_isFar_9 : decode cX6_isFar 9 = .ok (.ireturn, 1) := by decide +kernel
set_option maxRecDepth 20000 in
theorem ggX6_reach_X6_isPair : GoodIn wsX6_reach wsX6_isPair := goodIn_r _ [7, 8, 9, 10, 6, 11, 12, 13, 14, 15, 16, 68, 69, 70, 71, 72, 73, 74, 75, 76, 77, 78, 79, 80, 81, 82, 83, 84, 85, 86, 87, 88, 89, 90, 91, 92, 93, 94, 95, 96, 97, 98, 99, 100] (by decide +kernel) (by decide +kernel)
set_option maxRecDepth 20000 in
theorem gX6_reach_X6_isPair : GoodIn wsX6_reach (wsV RX6 136 RX6 yX6_isPair wsX6_isPair) := goodIn_app (goodIn_of _ (by decide +kernel)) ggX6_reach_X6_isPair
set_option maxRecDepth 20000 in
theorem ggX6_reach_X6_isFar : GoodIn wsX6_reach wsX6_isFar := goodIn_r _ [19, 20, 14, 15, 6, 16] (by decide +kernel) (by decide +kernel)
set_option maxRecDepth 20000 in
theorem gX6_reach_X6_isFar : GoodIn wsX6_reach (va_wsS RX6 146 yX6_isFar wsX6_isFar) := goodIn_app (goodIn_of _ (by decide +kernel)) ggX6_reach_X6_isFar
set_option maxRecDepth 20000 in
theorem ggX6_reach_X6_in : GoodIn wsX6_reach wsX6_in := goodIn_r _ [16] (by decide +kernel) (by decide +kernel)
set_option maxRecDepth 20000 in
theorem gX6_reach_X6_in : GoodIn wsX6_reach (va_wsS RX6 50 yX6_in wsX6_in) := goodIn_app (goodIn_of _ (by decide +kernel)) ggX6_reach_X6_in
set_option maxRecDepth 20000 in
theorem ggX6_reach_X6_layPair : GoodIn wsX6_reach wsX6_layPair := goodIn_r _ [24, 25, 26, 27, 28, 29, 30, 31, 32, 33, 34, 35, 68, 69, 70, 71, 72, 73, 74, 75, 76, 77, 78, 79, 80, 81, 82, 83, 84, 85, 86, 87, 88, 89, 90, 91, 92, 93, 94, 95, 96, 97, 98, 99, 100] (by decide +kernel) (by decide +kernel)
set_option maxRecDepth 20000 in
theorem gX6_reach_X6_layPair : GoodIn wsX6_reach (wsV RX6 142 RX6 yX6_layPair wsX6_layPair) := goodIn_app (goodIn_of _ (by decide +kernel)) ggX6_reach_X6_layPair
set_option maxRecDepth 20000 in
theorem ggX6_reach_X6_timeOf : GoodIn wsX6_reach wsX6_timeOf := goodIn_r _ [39, 2, 40, 1, 41, 42, 43, 6, 44, 45, 46, 47, 48, 49, 50, 51, 52, 26, 29, 27, 30, 53, 35, 54, 55, 32, 56, 57, 58, 59, 60, 33, 61, 62, 63, 64, 65, 66, 67, 68, 69, 70, 71, 72, 73, 74, 75, 76, 77, 78, 79, 80, 81, 82, 83, 84, 85, 86, 87, 88, 89, 90, 91, 92, 93, 94, 95, 96, 97, 98, 99, 100] (by decide +kernel) (by decide +kernel)
set_option maxRecDepth 20000 in
theorem gX6_reach_X6_timeOf : GoodIn wsX6_reach (wsV RX6 149 RX6 yX6_timeOf wsX6_timeOf) := goodIn_app (goodIn_of _ (by decide +kernel)) ggX6_reach_X6_timeOf
theorem dX6_reach_0 : decode cX6_reach 0 = .ok (.aload_n 0, 1) := by decide +kernel
theorem dX6_reach_1 : decode cX6_reach 1 = .ok (.iload_n 1, 1) := by decide +kernel
theorem dX6_reach_2 : decode cX6_reach 2 = .ok (.iload_n 2, 1) := by decide +kernel
theorem dX6_reach_3 : decode cX6_reach 3 = .ok (.invokevirtual 136, 3) := by decide +kernel
theorem dX6_reach_6 : decode cX6_reach 6 = .ok (.ifCond .ne 5, 3) := by decide +kernel
theorem dX6_reach_9 : decode cX6_reach 9 = .ok (.iconst (-1), 1) := by decide +kernel
theorem dX6_reach_10 : decode cX6_reach 10 = .ok (.ireturn, 1) := by decide +kernel
theorem dX6_reach_11 : decode cX6_reach 11 = .ok (.iload_n 3, 1) := by decide +kernel
theorem dX6_reach_12 : decode cX6_reach 12 = .ok (.invokestatic 146, 3) := by decide +kernel
theorem dX6_reach_15 : decode cX6_reach 15 = .ok (.ifCond .eq 14, 3) := by decide +kernel
theorem dX6_reach_18 : decode cX6_reach 18 = .ok (.iload 4, 2) := by decide +kernel
theorem dX6_reach_20 : decode cX6_reach 20 = .ok (.i2l, 1) := by decide +kernel
theorem dX6_reach_21 : decode cX6_reach 21 = .ok (.lconst 0, 1) := by decide +kernel
theorem dX6_reach_22 : decode cX6_reach 22 = .ok (.lconst 1, 1) := by decide +kernel
theorem dX6_reach_23 : decode cX6_reach 23 = .ok (.invokestatic 50, 3) := by decide +kernel
theorem dX6_reach_26 : decode cX6_reach 26 = .ok (.ifCond .ne 6, 3) := by decide +kernel
theorem dX6_reach_29 : decode cX6_reach 29 = .ok (.bipush (-2), 2) := by decide +kernel
theorem dX6_reach_31 : decode cX6_reach 31 = .ok (.ireturn, 1) := by decide +kernel
theorem dX6_reach_32 : decode cX6_reach 32 = .ok (.aload_n 0, 1) := by decide +kernel
theorem dX6_reach_33 : decode cX6_reach 33 = .ok (.iload_n 1, 1) := by decide +kernel
theorem dX6_reach_34 : decode cX6_reach 34 = .ok (.iload_n 2, 1) := by decide +kernel
theorem dX6_reach_35 : decode cX6_reach 35 = .ok (.invokevirtual 142, 3) := by decide +kernel
theorem dX6_reach_38 : decode cX6_reach 38 = .ok (.aload_n 0, 1) := by decide +kernel
theorem dX6_reach_39 : decode cX6_reach 39 = .ok (.iload_n 3, 1) := by decide +kernel
theorem dX6_reach_40 : decode cX6_reach 40 = .ok (.invokevirtual 149, 3) := by decide +kernel
theorem dX6_reach_43 : decode cX6_reach 43 = .ok (.istore 5, 2) := by decide +kernel
theorem dX6_reach_45 : decode cX6_reach 45 = .ok (.iload 5, 2) := by decide +kernel
theorem dX6_reach_47 : decode cX6_reach 47 = .ok (.ldc 135, 2) := by decide +kernel
theorem dX6_reach_49 : decode cX6_reach 49 = .ok (.if_icmp .ne 8, 3) := by decide +kernel
theorem dX6_reach_52 : decode cX6_reach 52 = .ok (.bipush (-6), 2) := by decide +kernel
theorem dX6_reach_54 : decode cX6_reach 54 = .ok (.goto 19, 3) := by decide +kernel
theorem dX6_reach_57 : decode cX6_reach 57 = .ok (.iload 4, 2) := by decide +kernel
theorem dX6_reach_59 : decode cX6_reach 59 = .ok (.ifCond .ne 12, 3) := by decide +kernel
theorem dX6_reach_62 : decode cX6_reach 62 = .ok (.aload_n 0, 1) := by decide +kernel
theorem dX6_reach_63 : decode cX6_reach 63 = .ok (.getfield 109, 3) := by decide +kernel
theorem dX6_reach_66 : decode cX6_reach 66 = .ok (.iconst 1, 1) := by decide +kernel
theorem dX6_reach_67 : decode cX6_reach 67 = .ok (.isub, 1) := by decide +kernel
theorem dX6_reach_68 : decode cX6_reach 68 = .ok (.goto 5, 3) := by decide +kernel
theorem dX6_reach_71 : decode cX6_reach 71 = .ok (.iload 5, 2) := by decide +kernel
theorem dX6_reach_73 : decode cX6_reach 73 = .ok (.ireturn, 1) := by decide +kernel
set_option maxRecDepth 20000 in
theorem ggX6_who_X6_isPair : GoodIn wsX6_who wsX6_isPair := goodIn_r _ [8, 9, 10, 11, 7, 12, 13, 14, 15, 16, 17, 55, 56, 57, 58, 59, 60, 61, 62, 63, 64, 65, 66, 67, 68, 69, 70, 71, 72, 73, 74, 75, 76, 77, 78, 79, 80, 81, 82, 83, 84, 85, 86, 87] (by decide +kernel) (by decide +kernel)
set_option maxRecDepth 20000 in
theorem gX6_who_X6_isPair : GoodIn wsX6_who (wsV RX6 136 RX6 yX6_isPair wsX6_isPair) := goodIn_app (goodIn_of _ (by decide +kernel)) ggX6_who_X6_isPair
set_option maxRecDepth 20000 in
theorem ggX6_who_X6_in : GoodIn wsX6_who wsX6_in := goodIn_r _ [17] (by decide +kernel) (by decide +kernel)
set_option maxRecDepth 20000 in
theorem gX6_who_X6_in : GoodIn wsX6_who (va_wsS RX6 50 yX6_in wsX6_in) := goodIn_app (goodIn_of _ (by decide +kernel)) ggX6_who_X6_in
set_option maxRecDepth 20000 in
theorem ggX6_who_X6_layPair : GoodIn wsX6_who wsX6_layPair := goodIn_r _ [21, 22, 23, 24, 25, 26, 27, 28, 29, 30, 31, 32, 55, 56, 57, 58, 59, 60, 61, 62, 63, 64, 65, 66, 67, 68, 69, 70, 71, 72, 73, 74, 75, 76, 77, 78, 79, 80, 81, 82, 83, 84, 85, 86, 87] (by decide +kernel) (by decide +kernel)
set_option maxRecDepth 20000 in
theorem gX6_who_X6_layPair : GoodIn wsX6_who (wsV RX6 142 RX6 yX6_layPair wsX6_layPair) := goodIn_app (goodIn_of _ (by decide +kernel)) ggX6_who_X6_layPair
set_option maxRecDepth 20000 in
theorem ggX6_who_X6_begin : GoodIn wsX6_who wsX6_begin := goodIn_r _ [36, 37, 38, 39, 40, 2, 1, 55, 56, 57, 58, 59, 60, 61, 62, 63, 64, 65, 66, 67, 68, 69, 70, 71, 72, 73, 74, 75, 76, 77, 78, 79, 80, 81, 82, 83, 84, 85, 86, 87] (by decide +kernel) (by decide +kernel)
set_option maxRecDepth 20000 in
theorem gX6_who_X6_begin : GoodIn wsX6_who (wsV RX6 125 RX6 yX6_begin wsX6_begin) := goodIn_app (goodIn_of _ (by decide +kernel)) ggX6_who_X6_begin
set_option maxRecDepth 20000 in
theorem ggX6_who_X6_step : GoodIn wsX6_who wsX6_step := goodIn_r _ [44, 37, 38, 23, 26, 24, 27, 45, 32, 46, 3, 2, 40, 39, 29, 47, 1, 48, 49, 50, 7, 51, 30, 52, 53, 54, 55, 56, 57, 58, 59, 60, 61, 62, 63, 64, 65, 66, 67, 68, 69, 70, 71, 72, 73, 74, 75, 76, 77, 78, 79, 80, 81, 82, 83, 84, 85, 86, 87] (by decide +kernel) (by decide +kernel)
set_option maxRecDepth 20000 in
theorem gX6_who_X6_step : GoodIn wsX6_who (wsV RX6 128 RX6 yX6_step wsX6_step) := goodIn_app (goodIn_of _ (by decide +kernel)) ggX6_who_X6_step
theorem dX6_who_0 : decode cX6_who 0 = .ok (.aload_n 0, 1) := by decide +kernel
theorem dX6_who_1 : decode cX6_who 1 = .ok (.iload_n 1, 1) := by decide +kernel
theorem dX6_who_2 : decode cX6_who 2 = .ok (.iload_n 2, 1) := by decide +kernel
theorem dX6_who_3 : decode cX6_who 3 = .ok (.invokevirtual 136, 3) := by decide +kernel
theorem dX6_who_6 : decode cX6_who 6 = .ok (.ifCond .ne 5, 3) := by decide +kernel
theorem dX6_who_9 : decode cX6_who 9 = .ok (.iconst (-1), 1) := by decide +kernel
theorem dX6_who_10 : decode cX6_who 10 = .ok (.ireturn, 1) := by decide +kernel
theorem dX6_who_11 : decode cX6_who 11 = .ok (.iload_n 3, 1) := by decide +kernel
theorem dX6_who_12 : decode cX6_who 12 = .ok (.i2l, 1) := by decide +kernel
theorem dX6_who_13 : decode cX6_who 13 = .ok (.lconst 0, 1) := by decide +kernel
theorem dX6_who_14 : decode cX6_who 14 = .ok (.lconst 1, 1) := by decide +kernel
theorem dX6_who_15 : decode cX6_who 15 = .ok (.invokestatic 50, 3) := by decide +kernel
theorem dX6_who_18 : decode cX6_who 18 = .ok (.ifCond .ne 6, 3) := by decide +kernel
theorem dX6_who_21 : decode cX6_who 21 = .ok (.bipush (-2), 2) := by decide +kernel
theorem dX6_who_23 : decode cX6_who 23 = .ok (.ireturn, 1) := by decide +kernel
theorem dX6_who_24 : decode cX6_who 24 = .ok (.aload_n 0, 1) := by decide +kernel
theorem dX6_who_25 : decode cX6_who 25 = .ok (.iload_n 1, 1) := by decide +kernel
theorem dX6_who_26 : decode cX6_who 26 = .ok (.iload_n 2, 1) := by decide +kernel
theorem dX6_who_27 : decode cX6_who 27 = .ok (.invokevirtual 142, 3) := by decide +kernel
theorem dX6_who_30 : decode cX6_who 30 = .ok (.aload_n 0, 1) := by decide +kernel
theorem dX6_who_31 : decode cX6_who 31 = .ok (.invokevirtual 125, 3) := by decide +kernel
theorem dX6_who_34 : decode cX6_who 34 = .ok (.aload_n 0, 1) := by decide +kernel
theorem dX6_who_35 : decode cX6_who 35 = .ok (.getfield 109, 3) := by decide +kernel
theorem dX6_who_38 : decode cX6_who 38 = .ok (.sipush 999, 3) := by decide +kernel
theorem dX6_who_41 : decode cX6_who 41 = .ok (.if_icmp .ge 17, 3) := by decide +kernel
theorem dX6_who_44 : decode cX6_who 44 = .ok (.aload_n 0, 1) := by decide +kernel
theorem dX6_who_45 : decode cX6_who 45 = .ok (.getfield 106, 3) := by decide +kernel
theorem dX6_who_48 : decode cX6_who 48 = .ok (.ifCond .ne 10, 3) := by decide +kernel
theorem dX6_who_51 : decode cX6_who 51 = .ok (.aload_n 0, 1) := by decide +kernel
theorem dX6_who_52 : decode cX6_who 52 = .ok (.invokevirtual 128, 3) := by decide +kernel
theorem dX6_who_55 : decode cX6_who 55 = .ok (.goto (-21), 3) := by decide +kernel
theorem dX6_who_58 : decode cX6_who 58 = .ok (.aload_n 0, 1) := by decide +kernel
theorem dX6_who_59 : decode cX6_who 59 = .ok (.getfield 106, 3) := by decide +kernel
theorem dX6_who_62 : decode cX6_who 62 = .ok (.ifCond .ne 8, 3) := by decide +kernel
theorem dX6_who_65 : decode cX6_who 65 = .ok (.bipush (-6), 2) := by decide +kernel
theorem dX6_who_67 : decode cX6_who 67 = .ok (.goto 28, 3) := by decide +kernel
theorem dX6_who_70 : decode cX6_who 70 = .ok (.iload_n 3, 1) := by decide +kernel
theorem dX6_who_71 : decode cX6_who 71 = .ok (.ifCond .ne 12, 3) := by decide +kernel
theorem dX6_who_74 : decode cX6_who 74 = .ok (.aload_n 0, 1) := by decide +kernel
theorem dX6_who_75 : decode cX6_who 75 = .ok (.getfield 109, 3) := by decide +kernel
theorem dX6_who_78 : decode cX6_who 78 = .ok (.iconst 1, 1) := by decide +kernel
theorem dX6_who_79 : decode cX6_who 79 = .ok (.isub, 1) := by decide +kernel
theorem dX6_who_80 : decode cX6_who 80 = .ok (.goto 15, 3) := by decide +kernel
theorem dX6_who_83 : decode cX6_who 83 = .ok (.aload_n 0, 1) := by decide +kernel
theorem dX6_who_84 : decode cX6_who 84 = .ok (.getfield 122, 3) := by decide +kernel
theorem dX6_who_87 : decode cX6_who 87 = .ok (.ifCond .ne 7, 3) := by decide +kernel
theorem dX6_who_90 : decode cX6_who 90 = .ok (.iload_n 1, 1) := by decide +kernel
theorem dX6_who_91 : decode cX6_who 91 = .ok (.goto 4, 3) := by decide +kernel
theorem dX6_who_94 : decode cX6_who 94 = .ok (.iload_n 2, 1) := by decide +kernel
theorem dX6_who_95 : decode cX6_who 95 = .ok (.ireturn, 1) := by decide +kernel
set_option maxRecDepth 20000 in
theorem ggX6_alone_X6_runs : GoodIn wsX6_alone wsX6_runs := goodIn_r _ [7, 8, 9, 10, 11, 6, 12, 17, 18, 19, 20, 21, 22, 23, 24, 25, 26, 27, 28, 29, 30, 31, 32, 33, 34, 35, 36, 37, 38, 39, 40, 41, 42, 43, 44, 45, 46, 47, 48, 49] (by decide +kernel) (by decide +kernel)
set_option maxRecDepth 20000 in
theorem gX6_alone_X6_runs : GoodIn wsX6_alone (wsV RX6 67 RX6 yX6_runs wsX6_runs) := goodIn_app (goodIn_of _ (by decide +kernel)) ggX6_alone_X6_runs
set_option maxRecDepth 20000 in
theorem ggX6_alone_X6_isFar : GoodIn wsX6_alone wsX6_isFar := goodIn_r _ [15, 16, 10, 11, 6, 12] (by decide +kernel) (by decide +kernel)
set_option maxRecDepth 20000 in
theorem gX6_alone_X6_isFar : GoodIn wsX6_alone (va_wsS RX6 146 yX6_isFar wsX6_isFar) := goodIn_app (goodIn_of _ (by decide +kernel)) ggX6_alone_X6_isFar
theorem dX6_alone_0 : decode cX6_alone 0 = .ok (.aload_n 0, 1) := by decide +kernel
theorem dX6_alone_1 : decode cX6_alone 1 = .ok (.iload_n 1, 1) := by decide +kernel
theorem dX6_alone_2 : decode cX6_alone 2 = .ok (.invokevirtual 67, 3) := by decide +kernel
theorem dX6_alone_5 : decode cX6_alone 5 = .ok (.ifCond .ne 5, 3) := by decide +kernel
theorem dX6_alone_8 : decode cX6_alone 8 = .ok (.iconst (-1), 1) := by decide +kernel
theorem dX6_alone_9 : decode cX6_alone 9 = .ok (.ireturn, 1) := by decide +kernel
theorem dX6_alone_10 : decode cX6_alone 10 = .ok (.iload_n 2, 1) := by decide +kernel
theorem dX6_alone_11 : decode cX6_alone 11 = .ok (.invokestatic 146, 3) := by decide +kernel
theorem dX6_alone_14 : decode cX6_alone 14 = .ok (.ifCond .eq 30, 3) := by decide +kernel
theorem dX6_alone_17 : decode cX6_alone 17 = .ok (.iload_n 2, 1) := by decide +kernel
theorem dX6_alone_18 : decode cX6_alone 18 = .ok (.aload_n 0, 1) := by decide +kernel
theorem dX6_alone_19 : decode cX6_alone 19 = .ok (.getfield 13, 3) := by decide +kernel
theorem dX6_alone_22 : decode cX6_alone 22 = .ok (.iload_n 1, 1) := by decide +kernel
theorem dX6_alone_23 : decode cX6_alone 23 = .ok (.iaload, 1) := by decide +kernel
theorem dX6_alone_24 : decode cX6_alone 24 = .ok (.iadd, 1) := by decide +kernel
theorem dX6_alone_25 : decode cX6_alone 25 = .ok (.iconst 1, 1) := by decide +kernel
theorem dX6_alone_26 : decode cX6_alone 26 = .ok (.isub, 1) := by decide +kernel
theorem dX6_alone_27 : decode cX6_alone 27 = .ok (.aload_n 0, 1) := by decide +kernel
theorem dX6_alone_28 : decode cX6_alone 28 = .ok (.getfield 13, 3) := by decide +kernel
theorem dX6_alone_31 : decode cX6_alone 31 = .ok (.iload_n 1, 1) := by decide +kernel
theorem dX6_alone_32 : decode cX6_alone 32 = .ok (.iaload, 1) := by decide +kernel
theorem dX6_alone_33 : decode cX6_alone 33 = .ok (.idiv, 1) := by decide +kernel
theorem dX6_alone_34 : decode cX6_alone 34 = .ok (.aload_n 0, 1) := by decide +kernel
theorem dX6_alone_35 : decode cX6_alone 35 = .ok (.getfield 7, 3) := by decide +kernel
theorem dX6_alone_38 : decode cX6_alone 38 = .ok (.iload_n 1, 1) := by decide +kernel
theorem dX6_alone_39 : decode cX6_alone 39 = .ok (.iaload, 1) := by decide +kernel
theorem dX6_alone_40 : decode cX6_alone 40 = .ok (.imul, 1) := by decide +kernel
theorem dX6_alone_41 : decode cX6_alone 41 = .ok (.goto 5, 3) := by decide +kernel
theorem dX6_alone_44 : decode cX6_alone 44 = .ok (.bipush (-2), 2) := by decide +kernel
theorem dX6_alone_46 : decode cX6_alone 46 = .ok (.ireturn, 1) := by decide +kernel
set_option maxRecDepth 20000 in
theorem ggX6_findTimes_X6_isPair : GoodIn wsX6_findTimes wsX6_isPair := goodIn_r _ [8, 9, 10, 11, 7, 12, 13, 14, 15, 16, 17, 66, 67, 68, 69, 70, 71, 72, 73, 74, 75, 76, 77, 78, 79, 80, 81, 82, 83, 84, 85, 86, 87, 88, 89, 90, 91, 92, 93, 94, 95, 96, 97, 98] (by decide +kernel) (by decide +kernel)
set_option maxRecDepth 20000 in
theorem gX6_findTimes_X6_isPair : GoodIn wsX6_findTimes (wsV RX6 136 RX6 yX6_isPair wsX6_isPair) := goodIn_app (goodIn_of _ (by decide +kernel)) ggX6_findTimes_X6_isPair
set_option maxRecDepth 20000 in
theorem ggX6_findTimes_X6_layPair : GoodIn wsX6_findTimes wsX6_layPair := goodIn_r _ [21, 22, 23, 24, 25, 26, 27, 28, 29, 30, 31, 32, 66, 67, 68, 69, 70, 71, 72, 73, 74, 75, 76, 77, 78, 79, 80, 81, 82, 83, 84, 85, 86, 87, 88, 89, 90, 91, 92, 93, 94, 95, 96, 97, 98] (by decide +kernel) (by decide +kernel)
set_option maxRecDepth 20000 in
theorem gX6_findTimes_X6_layPair : GoodIn wsX6_findTimes (wsV RX6 142 RX6 yX6_layPair wsX6_layPair) := goodIn_app (goodIn_of _ (by decide +kernel)) ggX6_findTimes_X6_layPair
set_option maxRecDepth 20000 in
theorem ggX6_findTimes_X6_timeOf : GoodIn wsX6_findTimes wsX6_timeOf := goodIn_r _ [36, 37, 38, 2, 39, 40, 41, 7, 42, 43, 44, 45, 46, 47, 48, 49, 50, 23, 26, 24, 27, 51, 32, 52, 53, 29, 54, 55, 56, 57, 58, 30, 59, 60, 61, 62, 63, 64, 65, 66, 67, 68, 69, 70, 71, 72, 73, 74, 75, 76, 77, 78, 79, 80, 81, 82, 83, 84, 85, 86, 87, 88, 89, 90, 91, 92, 93, 94, 95, 96, 97, 98] (by decide +kernel) (by decide +kernel)
set_option maxRecDepth 20000 in
theorem gX6_findTimes_X6_timeOf : GoodIn wsX6_findTimes (wsV RX6 149 RX6 yX6_timeOf wsX6_timeOf) := goodIn_app (goodIn_of _ (by decide +kernel)) ggX6_findTimes_X6_timeOf
theorem dX6_findTimes_0 : decode cX6_findTimes 0 = .ok (.iconst 0, 1) := by decide +kernel
theorem dX6_findTimes_1 : decode cX6_findTimes 1 = .ok (.istore_n 2, 1) := by decide +kernel
theorem dX6_findTimes_2 : decode cX6_findTimes 2 = .ok (.iload_n 2, 1) := by decide +kernel
theorem dX6_findTimes_3 : decode cX6_findTimes 3 = .ok (.bipush 8, 2) := by decide +kernel
theorem dX6_findTimes_5 : decode cX6_findTimes 5 = .ok (.if_icmp .ge 91, 3) := by decide +kernel
theorem dX6_findTimes_8 : decode cX6_findTimes 8 = .ok (.iconst 0, 1) := by decide +kernel
theorem dX6_findTimes_9 : decode cX6_findTimes 9 = .ok (.istore_n 3, 1) := by decide +kernel
theorem dX6_findTimes_10 : decode cX6_findTimes 10 = .ok (.iload_n 3, 1) := by decide +kernel
theorem dX6_findTimes_11 : decode cX6_findTimes 11 = .ok (.iload_n 2, 1) := by decide +kernel
theorem dX6_findTimes_12 : decode cX6_findTimes 12 = .ok (.if_icmp .ge 78, 3) := by decide +kernel
theorem dX6_findTimes_15 : decode cX6_findTimes 15 = .ok (.aload_n 0, 1) := by decide +kernel
theorem dX6_findTimes_16 : decode cX6_findTimes 16 = .ok (.iload_n 2, 1) := by decide +kernel
theorem dX6_findTimes_17 : decode cX6_findTimes 17 = .ok (.iload_n 3, 1) := by decide +kernel
theorem dX6_findTimes_18 : decode cX6_findTimes 18 = .ok (.invokevirtual 136, 3) := by decide +kernel
theorem dX6_findTimes_21 : decode cX6_findTimes 21 = .ok (.ifCond .eq 63, 3) := by decide +kernel
theorem dX6_findTimes_24 : decode cX6_findTimes 24 = .ok (.aload_n 0, 1) := by decide +kernel
theorem dX6_findTimes_25 : decode cX6_findTimes 25 = .ok (.iload_n 2, 1) := by decide +kernel
theorem dX6_findTimes_26 : decode cX6_findTimes 26 = .ok (.iload_n 3, 1) := by decide +kernel
theorem dX6_findTimes_27 : decode cX6_findTimes 27 = .ok (.invokevirtual 142, 3) := by decide +kernel
theorem dX6_findTimes_30 : decode cX6_findTimes 30 = .ok (.aload_n 0, 1) := by decide +kernel
theorem dX6_findTimes_31 : decode cX6_findTimes 31 = .ok (.iload_n 1, 1) := by decide +kernel
theorem dX6_findTimes_32 : decode cX6_findTimes 32 = .ok (.invokevirtual 149, 3) := by decide +kernel
theorem dX6_findTimes_35 : decode cX6_findTimes 35 = .ok (.istore 4, 2) := by decide +kernel
theorem dX6_findTimes_37 : decode cX6_findTimes 37 = .ok (.aload_n 0, 1) := by decide +kernel
theorem dX6_findTimes_38 : decode cX6_findTimes 38 = .ok (.getfield 19, 3) := by decide +kernel
theorem dX6_findTimes_41 : decode cX6_findTimes 41 = .ok (.bipush 8, 2) := by decide +kernel
theorem dX6_findTimes_43 : decode cX6_findTimes 43 = .ok (.iload_n 2, 1) := by decide +kernel
theorem dX6_findTimes_44 : decode cX6_findTimes 44 = .ok (.imul, 1) := by decide +kernel
theorem dX6_findTimes_45 : decode cX6_findTimes 45 = .ok (.iload_n 3, 1) := by decide +kernel
theorem dX6_findTimes_46 : decode cX6_findTimes 46 = .ok (.iadd, 1) := by decide +kernel
theorem dX6_findTimes_47 : decode cX6_findTimes 47 = .ok (.iload 4, 2) := by decide +kernel
theorem dX6_findTimes_49 : decode cX6_findTimes 49 = .ok (.ldc 135, 2) := by decide +kernel
theorem dX6_findTimes_51 : decode cX6_findTimes 51 = .ok (.if_icmp .ne 8, 3) := by decide +kernel
theorem dX6_findTimes_54 : decode cX6_findTimes 54 = .ok (.ldc 152, 2) := by decide +kernel
theorem dX6_findTimes_56 : decode cX6_findTimes 56 = .ok (.goto 5, 3) := by decide +kernel
theorem dX6_findTimes_59 : decode cX6_findTimes 59 = .ok (.iload 4, 2) := by decide +kernel
theorem dX6_findTimes_61 : decode cX6_findTimes 61 = .ok (.iastore, 1) := by decide +kernel
theorem dX6_findTimes_62 : decode cX6_findTimes 62 = .ok (.aload_n 0, 1) := by decide +kernel
theorem dX6_findTimes_63 : decode cX6_findTimes 63 = .ok (.getfield 19, 3) := by decide +kernel
theorem dX6_findTimes_66 : decode cX6_findTimes 66 = .ok (.bipush 8, 2) := by decide +kernel
theorem dX6_findTimes_68 : decode cX6_findTimes 68 = .ok (.iload_n 3, 1) := by decide +kernel
theorem dX6_findTimes_69 : decode cX6_findTimes 69 = .ok (.imul, 1) := by decide +kernel
theorem dX6_findTimes_70 : decode cX6_findTimes 70 = .ok (.iload_n 2, 1) := by decide +kernel
theorem dX6_findTimes_71 : decode cX6_findTimes 71 = .ok (.iadd, 1) := by decide +kernel
theorem dX6_findTimes_72 : decode cX6_findTimes 72 = .ok (.aload_n 0, 1) := by decide +kernel
theorem dX6_findTimes_73 : decode cX6_findTimes 73 = .ok (.getfield 19, 3) := by decide +kernel
theorem dX6_findTimes_76 : decode cX6_findTimes 76 = .ok (.bipush 8, 2) := by decide +kernel
theorem dX6_findTimes_78 : decode cX6_findTimes 78 = .ok (.iload_n 2, 1) := by decide +kernel
theorem dX6_findTimes_79 : decode cX6_findTimes 79 = .ok (.imul, 1) := by decide +kernel
theorem dX6_findTimes_80 : decode cX6_findTimes 80 = .ok (.iload_n 3, 1) := by decide +kernel
theorem dX6_findTimes_81 : decode cX6_findTimes 81 = .ok (.iadd, 1) := by decide +kernel
theorem dX6_findTimes_82 : decode cX6_findTimes 82 = .ok (.iaload, 1) := by decide +kernel
theorem dX6_findTimes_83 : decode cX6_findTimes 83 = .ok (.iastore, 1) := by decide +kernel
theorem dX6_findTimes_84 : decode cX6_findTimes 84 = .ok (.iinc 3 1, 3) := by decide +kernel
theorem dX6_findTimes_87 : decode cX6_findTimes 87 = .ok (.goto (-77), 3) := by decide +kernel
theorem dX6_findTimes_90 : decode cX6_findTimes 90 = .ok (.iinc 2 1, 3) := by decide +kernel
theorem dX6_findTimes_93 : decode cX6_findTimes 93 = .ok (.goto (-91), 3) := by decide +kernel
theorem dX6_findTimes_96 : decode cX6_findTimes 96 = .ok (.return_, 1) := by decide +kernel
set_option maxRecDepth 20000 in
theorem ggX6_tie_X6_ones : GoodIn wsX6_tie wsX6_ones := goodIn_r _ [6] (by decide +kernel) (by decide +kernel)
set_option maxRecDepth 20000 in
theorem gX6_tie_X6_ones : GoodIn wsX6_tie (va_wsS RX6 63 yX6_ones wsX6_ones) := goodIn_app (goodIn_of _ (by decide +kernel)) ggX6_tie_X6_ones
theorem dX6_tie_0 : decode cX6_tie 0 = .ok (.aload_n 0, 1) := by decide +kernel
theorem dX6_tie_1 : decode cX6_tie 1 = .ok (.getfield 54, 3) := by decide +kernel
theorem dX6_tie_4 : decode cX6_tie 4 = .ok (.istore_n 3, 1) := by decide +kernel
theorem dX6_tie_5 : decode cX6_tie 5 = .ok (.iload_n 1, 1) := by decide +kernel
theorem dX6_tie_6 : decode cX6_tie 6 = .ok (.istore 4, 2) := by decide +kernel
theorem dX6_tie_8 : decode cX6_tie 8 = .ok (.iload_n 2, 1) := by decide +kernel
theorem dX6_tie_9 : decode cX6_tie 9 = .ok (.istore 5, 2) := by decide +kernel
theorem dX6_tie_11 : decode cX6_tie 11 = .ok (.iload_n 3, 1) := by decide +kernel
theorem dX6_tie_12 : decode cX6_tie 12 = .ok (.ifCond .eq 120, 3) := by decide +kernel
theorem dX6_tie_15 : decode cX6_tie 15 = .ok (.iconst 0, 1) := by decide +kernel
theorem dX6_tie_16 : decode cX6_tie 16 = .ok (.istore 6, 2) := by decide +kernel
theorem dX6_tie_18 : decode cX6_tie 18 = .ok (.iload_n 3, 1) := by decide +kernel
theorem dX6_tie_19 : decode cX6_tie 19 = .ok (.iload 6, 2) := by decide +kernel
theorem dX6_tie_21 : decode cX6_tie 21 = .ok (.ishr, 1) := by decide +kernel
theorem dX6_tie_22 : decode cX6_tie 22 = .ok (.iconst 1, 1) := by decide +kernel
theorem dX6_tie_23 : decode cX6_tie 23 = .ok (.iand, 1) := by decide +kernel
theorem dX6_tie_24 : decode cX6_tie 24 = .ok (.ifCond .ne 9, 3) := by decide +kernel
theorem dX6_tie_27 : decode cX6_tie 27 = .ok (.iinc 6 1, 3) := by decide +kernel
theorem dX6_tie_30 : decode cX6_tie 30 = .ok (.goto (-12), 3) := by decide +kernel
theorem dX6_tie_33 : decode cX6_tie 33 = .ok (.iload_n 3, 1) := by decide +kernel
theorem dX6_tie_34 : decode cX6_tie 34 = .ok (.iconst 1, 1) := by decide +kernel
theorem dX6_tie_35 : decode cX6_tie 35 = .ok (.iload 6, 2) := by decide +kernel
theorem dX6_tie_37 : decode cX6_tie 37 = .ok (.ishl, 1) := by decide +kernel
theorem dX6_tie_38 : decode cX6_tie 38 = .ok (.iconst (-1), 1) := by decide +kernel
theorem dX6_tie_39 : decode cX6_tie 39 = .ok (.ixor, 1) := by decide +kernel
theorem dX6_tie_40 : decode cX6_tie 40 = .ok (.iand, 1) := by decide +kernel
theorem dX6_tie_41 : decode cX6_tie 41 = .ok (.istore_n 3, 1) := by decide +kernel
theorem dX6_tie_42 : decode cX6_tie 42 = .ok (.iload 5, 2) := by decide +kernel
theorem dX6_tie_44 : decode cX6_tie 44 = .ok (.iload_n 3, 1) := by decide +kernel
theorem dX6_tie_45 : decode cX6_tie 45 = .ok (.invokestatic 63, 3) := by decide +kernel
theorem dX6_tie_48 : decode cX6_tie 48 = .ok (.idiv, 1) := by decide +kernel
theorem dX6_tie_49 : decode cX6_tie 49 = .ok (.istore 5, 2) := by decide +kernel
theorem dX6_tie_51 : decode cX6_tie 51 = .ok (.iload 4, 2) := by decide +kernel
theorem dX6_tie_53 : decode cX6_tie 53 = .ok (.iload 5, 2) := by decide +kernel
theorem dX6_tie_55 : decode cX6_tie 55 = .ok (.idiv, 1) := by decide +kernel
theorem dX6_tie_56 : decode cX6_tie 56 = .ok (.istore 7, 2) := by decide +kernel
theorem dX6_tie_58 : decode cX6_tie 58 = .ok (.iload 4, 2) := by decide +kernel
theorem dX6_tie_60 : decode cX6_tie 60 = .ok (.iload 5, 2) := by decide +kernel
theorem dX6_tie_62 : decode cX6_tie 62 = .ok (.irem, 1) := by decide +kernel
theorem dX6_tie_63 : decode cX6_tie 63 = .ok (.istore 4, 2) := by decide +kernel
theorem dX6_tie_65 : decode cX6_tie 65 = .ok (.iload 6, 2) := by decide +kernel
theorem dX6_tie_67 : decode cX6_tie 67 = .ok (.iconst 1, 1) := by decide +kernel
theorem dX6_tie_68 : decode cX6_tie 68 = .ok (.iadd, 1) := by decide +kernel
theorem dX6_tie_69 : decode cX6_tie 69 = .ok (.istore 8, 2) := by decide +kernel
theorem dX6_tie_71 : decode cX6_tie 71 = .ok (.iload_n 3, 1) := by decide +kernel
theorem dX6_tie_72 : decode cX6_tie 72 = .ok (.iload 8, 2) := by decide +kernel
theorem dX6_tie_74 : decode cX6_tie 74 = .ok (.ishr, 1) := by decide +kernel
theorem dX6_tie_75 : decode cX6_tie 75 = .ok (.iconst 1, 1) := by decide +kernel
theorem dX6_tie_76 : decode cX6_tie 76 = .ok (.iand, 1) := by decide +kernel
theorem dX6_tie_77 : decode cX6_tie 77 = .ok (.ifCond .eq 8, 3) := by decide +kernel
theorem dX6_tie_80 : decode cX6_tie 80 = .ok (.iload 7, 2) := by decide +kernel
theorem dX6_tie_82 : decode cX6_tie 82 = .ok (.ifCond .le 20, 3) := by decide +kernel
theorem dX6_tie_85 : decode cX6_tie 85 = .ok (.iload 7, 2) := by decide +kernel
theorem dX6_tie_87 : decode cX6_tie 87 = .ok (.iload_n 3, 1) := by decide +kernel
theorem dX6_tie_88 : decode cX6_tie 88 = .ok (.iload 8, 2) := by decide +kernel
theorem dX6_tie_90 : decode cX6_tie 90 = .ok (.ishr, 1) := by decide +kernel
theorem dX6_tie_91 : decode cX6_tie 91 = .ok (.iconst 1, 1) := by decide +kernel
theorem dX6_tie_92 : decode cX6_tie 92 = .ok (.iand, 1) := by decide +kernel
theorem dX6_tie_93 : decode cX6_tie 93 = .ok (.isub, 1) := by decide +kernel
theorem dX6_tie_94 : decode cX6_tie 94 = .ok (.istore 7, 2) := by decide +kernel
theorem dX6_tie_96 : decode cX6_tie 96 = .ok (.iinc 8 1, 3) := by decide +kernel
theorem dX6_tie_99 : decode cX6_tie 99 = .ok (.goto (-28), 3) := by decide +kernel
theorem dX6_tie_102 : decode cX6_tie 102 = .ok (.iload_n 3, 1) := by decide +kernel
theorem dX6_tie_103 : decode cX6_tie 103 = .ok (.iconst 1, 1) := by decide +kernel
theorem dX6_tie_104 : decode cX6_tie 104 = .ok (.iload 8, 2) := by decide +kernel
theorem dX6_tie_106 : decode cX6_tie 106 = .ok (.ishl, 1) := by decide +kernel
theorem dX6_tie_107 : decode cX6_tie 107 = .ok (.iconst (-1), 1) := by decide +kernel
theorem dX6_tie_108 : decode cX6_tie 108 = .ok (.ixor, 1) := by decide +kernel
theorem dX6_tie_109 : decode cX6_tie 109 = .ok (.iand, 1) := by decide +kernel
theorem dX6_tie_110 : decode cX6_tie 110 = .ok (.istore_n 3, 1) := by decide +kernel
theorem dX6_tie_111 : decode cX6_tie 111 = .ok (.aload_n 0, 1) := by decide +kernel
theorem dX6_tie_112 : decode cX6_tie 112 = .ok (.getfield 22, 3) := by decide +kernel
theorem dX6_tie_115 : decode cX6_tie 115 = .ok (.iload 6, 2) := by decide +kernel
theorem dX6_tie_117 : decode cX6_tie 117 = .ok (.iload 8, 2) := by decide +kernel
theorem dX6_tie_119 : decode cX6_tie 119 = .ok (.iastore, 1) := by decide +kernel
theorem dX6_tie_120 : decode cX6_tie 120 = .ok (.aload_n 0, 1) := by decide +kernel
theorem dX6_tie_121 : decode cX6_tie 121 = .ok (.getfield 22, 3) := by decide +kernel
theorem dX6_tie_124 : decode cX6_tie 124 = .ok (.iload 8, 2) := by decide +kernel
theorem dX6_tie_126 : decode cX6_tie 126 = .ok (.iload 6, 2) := by decide +kernel
theorem dX6_tie_128 : decode cX6_tie 128 = .ok (.iastore, 1) := by decide +kernel
theorem dX6_tie_129 : decode cX6_tie 129 = .ok (.goto (-118), 3) := by decide +kernel
theorem dX6_tie_132 : decode cX6_tie 132 = .ok (.return_, 1) := by decide +kernel
set_option maxRecDepth 20000 in
theorem ggX6_tiedBy_X6_runs : GoodIn wsX6_tiedBy wsX6_runs := goodIn_r _ [7, 8, 9, 10, 11, 6, 12, 13, 14, 15, 16, 17, 18, 19, 20, 21, 22, 23, 24, 25, 26, 27, 28, 29, 30, 31, 32, 33, 34, 35, 36, 37, 38, 39, 40, 41, 42, 43, 44, 45] (by decide +kernel) (by decide +kernel)
set_option maxRecDepth 20000 in
theorem gX6_tiedBy_X6_runs : GoodIn wsX6_tiedBy (wsV RX6 67 RX6 yX6_runs wsX6_runs) := goodIn_app (goodIn_of _ (by decide +kernel)) ggX6_tiedBy_X6_runs
theorem dX6_tiedBy_0 : decode cX6_tiedBy 0 = .ok (.iconst 0, 1) := by decide +kernel
theorem dX6_tiedBy_1 : decode cX6_tiedBy 1 = .ok (.istore_n 2, 1) := by decide +kernel
theorem dX6_tiedBy_2 : decode cX6_tiedBy 2 = .ok (.iconst 0, 1) := by decide +kernel
theorem dX6_tiedBy_3 : decode cX6_tiedBy 3 = .ok (.istore_n 3, 1) := by decide +kernel
theorem dX6_tiedBy_4 : decode cX6_tiedBy 4 = .ok (.iload_n 3, 1) := by decide +kernel
theorem dX6_tiedBy_5 : decode cX6_tiedBy 5 = .ok (.bipush 8, 2) := by decide +kernel
theorem dX6_tiedBy_7 : decode cX6_tiedBy 7 = .ok (.if_icmp .ge 69, 3) := by decide +kernel
theorem dX6_tiedBy_10 : decode cX6_tiedBy 10 = .ok (.aload_n 0, 1) := by decide +kernel
theorem dX6_tiedBy_11 : decode cX6_tiedBy 11 = .ok (.iload_n 3, 1) := by decide +kernel
theorem dX6_tiedBy_12 : decode cX6_tiedBy 12 = .ok (.invokevirtual 67, 3) := by decide +kernel
theorem dX6_tiedBy_15 : decode cX6_tiedBy 15 = .ok (.ifCond .eq 55, 3) := by decide +kernel
theorem dX6_tiedBy_18 : decode cX6_tiedBy 18 = .ok (.aload_n 0, 1) := by decide +kernel
theorem dX6_tiedBy_19 : decode cX6_tiedBy 19 = .ok (.getfield 22, 3) := by decide +kernel
theorem dX6_tiedBy_22 : decode cX6_tiedBy 22 = .ok (.iload_n 3, 1) := by decide +kernel
theorem dX6_tiedBy_23 : decode cX6_tiedBy 23 = .ok (.iaload, 1) := by decide +kernel
theorem dX6_tiedBy_24 : decode cX6_tiedBy 24 = .ok (.iload_n 3, 1) := by decide +kernel
theorem dX6_tiedBy_25 : decode cX6_tiedBy 25 = .ok (.if_icmp .le 45, 3) := by decide +kernel
theorem dX6_tiedBy_28 : decode cX6_tiedBy 28 = .ok (.aload_n 0, 1) := by decide +kernel
theorem dX6_tiedBy_29 : decode cX6_tiedBy 29 = .ok (.getfield 19, 3) := by decide +kernel
theorem dX6_tiedBy_32 : decode cX6_tiedBy 32 = .ok (.bipush 8, 2) := by decide +kernel
theorem dX6_tiedBy_34 : decode cX6_tiedBy 34 = .ok (.iload_n 3, 1) := by decide +kernel
theorem dX6_tiedBy_35 : decode cX6_tiedBy 35 = .ok (.imul, 1) := by decide +kernel
theorem dX6_tiedBy_36 : decode cX6_tiedBy 36 = .ok (.aload_n 0, 1) := by decide +kernel
theorem dX6_tiedBy_37 : decode cX6_tiedBy 37 = .ok (.getfield 22, 3) := by decide +kernel
theorem dX6_tiedBy_40 : decode cX6_tiedBy 40 = .ok (.iload_n 3, 1) := by decide +kernel
theorem dX6_tiedBy_41 : decode cX6_tiedBy 41 = .ok (.iaload, 1) := by decide +kernel
theorem dX6_tiedBy_42 : decode cX6_tiedBy 42 = .ok (.iadd, 1) := by decide +kernel
theorem dX6_tiedBy_43 : decode cX6_tiedBy 43 = .ok (.iaload, 1) := by decide +kernel
theorem dX6_tiedBy_44 : decode cX6_tiedBy 44 = .ok (.istore 4, 2) := by decide +kernel
theorem dX6_tiedBy_46 : decode cX6_tiedBy 46 = .ok (.iload_n 1, 1) := by decide +kernel
theorem dX6_tiedBy_47 : decode cX6_tiedBy 47 = .ok (.ifCond .ne 10, 3) := by decide +kernel
theorem dX6_tiedBy_50 : decode cX6_tiedBy 50 = .ok (.iload_n 2, 1) := by decide +kernel
theorem dX6_tiedBy_51 : decode cX6_tiedBy 51 = .ok (.iload 4, 2) := by decide +kernel
theorem dX6_tiedBy_53 : decode cX6_tiedBy 53 = .ok (.iadd, 1) := by decide +kernel
theorem dX6_tiedBy_54 : decode cX6_tiedBy 54 = .ok (.goto 15, 3) := by decide +kernel
theorem dX6_tiedBy_57 : decode cX6_tiedBy 57 = .ok (.iload 4, 2) := by decide +kernel
theorem dX6_tiedBy_59 : decode cX6_tiedBy 59 = .ok (.iload_n 2, 1) := by decide +kernel
theorem dX6_tiedBy_60 : decode cX6_tiedBy 60 = .ok (.if_icmp .le 8, 3) := by decide +kernel
theorem dX6_tiedBy_63 : decode cX6_tiedBy 63 = .ok (.iload 4, 2) := by decide +kernel
theorem dX6_tiedBy_65 : decode cX6_tiedBy 65 = .ok (.goto 4, 3) := by decide +kernel
theorem dX6_tiedBy_68 : decode cX6_tiedBy 68 = .ok (.iload_n 2, 1) := by decide +kernel
theorem dX6_tiedBy_69 : decode cX6_tiedBy 69 = .ok (.istore_n 2, 1) := by decide +kernel
theorem dX6_tiedBy_70 : decode cX6_tiedBy 70 = .ok (.iinc 3 1, 3) := by decide +kernel
theorem dX6_tiedBy_73 : decode cX6_tiedBy 73 = .ok (.goto (-69), 3) := by decide +kernel
theorem dX6_tiedBy_76 : decode cX6_tiedBy 76 = .ok (.iload_n 2, 1) := by decide +kernel
theorem dX6_tiedBy_77 : decode cX6_tiedBy 77 = .ok (.ireturn, 1) := by decide +kernel
set_option maxRecDepth 20000 in
theorem ggX6_tied_X6_ones : GoodIn wsX6_tied wsX6_ones := goodIn_r _ [8] (by decide +kernel) (by decide +kernel)
set_option maxRecDepth 20000 in
theorem gX6_tied_X6_ones : GoodIn wsX6_tied (va_wsS RX6 63 yX6_ones wsX6_ones) := goodIn_app (goodIn_of _ (by decide +kernel)) ggX6_tied_X6_ones
set_option maxRecDepth 20000 in
theorem ggX6_tied_X6_runs : GoodIn wsX6_tied wsX6_runs := goodIn_r _ [12, 13, 1, 14, 15, 7, 16, 87, 88, 89, 90, 91, 92, 93, 94, 95, 96, 97, 98, 99, 100, 101, 102, 103, 104, 105, 106, 107, 108, 109, 110, 111, 112, 113, 114, 115, 116, 117, 118, 119] (by decide +kernel) (by decide +kernel)
set_option maxRecDepth 20000 in
theorem gX6_tied_X6_runs : GoodIn wsX6_tied (wsV RX6 67 RX6 yX6_runs wsX6_runs) := goodIn_app (goodIn_of _ (by decide +kernel)) ggX6_tied_X6_runs
set_option maxRecDepth 20000 in
theorem ggX6_tied_X6_isFar : GoodIn wsX6_tied wsX6_isFar := goodIn_r _ [19, 20, 14, 15, 7, 16] (by decide +kernel) (by decide +kernel)
set_option maxRecDepth 20000 in
theorem gX6_tied_X6_isFar : GoodIn wsX6_tied (va_wsS RX6 146 yX6_isFar wsX6_isFar) := goodIn_app (goodIn_of _ (by decide +kernel)) ggX6_tied_X6_isFar
set_option maxRecDepth 20000 in
theorem ggX6_tied_X6_in : GoodIn wsX6_tied wsX6_in := goodIn_r _ [16] (by decide +kernel) (by decide +kernel)
set_option maxRecDepth 20000 in
theorem gX6_tied_X6_in : GoodIn wsX6_tied (va_wsS RX6 50 yX6_in wsX6_in) := goodIn_app (goodIn_of _ (by decide +kernel)) ggX6_tied_X6_in
set_option maxRecDepth 20000 in
theorem ggX6_tied_X6_findTimes : GoodIn wsX6_tied wsX6_findTimes := goodIn_r _ [24, 25, 2, 26, 27, 28, 29, 7, 30, 9, 10, 11, 12, 13, 1, 14, 15, 16, 31, 32, 33, 34, 35, 36, 37, 38, 39, 40, 41, 42, 43, 44, 45, 46, 47, 48, 49, 50, 51, 52, 53, 54, 55, 56, 57, 58, 59, 60, 61, 62, 63, 64, 65, 66, 67, 68, 69, 70, 71, 72, 73, 74, 75, 76, 77, 78, 87, 88, 89, 90, 91, 92, 93, 94, 95, 96, 97, 98, 99, 100, 101, 102, 103, 104, 105, 106, 107, 108, 109, 110, 111, 112, 113, 114, 115, 116, 117, 118, 119] (by decide +kernel) (by decide +kernel)
set_option maxRecDepth 20000 in
theorem gX6_tied_X6_findTimes : GoodIn wsX6_tied (wsV RX6 153 RX6 yX6_findTimes wsX6_findTimes) := goodIn_app (goodIn_of _ (by decide +kernel)) ggX6_tied_X6_findTimes
set_option maxRecDepth 20000 in
theorem ggX6_tied_X6_tie : GoodIn wsX6_tied wsX6_tie := goodIn_r _ [82, 1, 4, 5, 6, 7, 8, 87, 88, 89, 90, 91, 92, 93, 94, 95, 96, 97, 98, 99, 100, 101, 102, 103, 104, 105, 106, 107, 108, 109, 110, 111, 112, 113, 114, 115, 116, 117, 118, 119] (by decide +kernel) (by decide +kernel)
set_option maxRecDepth 20000 in
theorem gX6_tied_X6_tie : GoodIn wsX6_tied (wsV RX6 157 RX6 yX6_tie wsX6_tie) := goodIn_app (goodIn_of _ (by decide +kernel)) ggX6_tied_X6_tie
set_option maxRecDepth 20000 in
theorem ggX6_tied_X6_tiedBy : GoodIn wsX6_tied wsX6_tiedBy := goodIn_r _ [86, 4, 25, 9, 10, 11, 7, 12, 13, 1, 14, 15, 16, 87, 88, 89, 90, 91, 92, 93, 94, 95, 96, 97, 98, 99, 100, 101, 102, 103, 104, 105, 106, 107, 108, 109, 110, 111, 112, 113, 114, 115, 116, 117, 118, 119] (by decide +kernel) (by decide +kernel)
set_option maxRecDepth 20000 in
theorem gX6_tied_X6_tiedBy : GoodIn wsX6_tied (wsV RX6 160 RX6 yX6_tiedBy wsX6_tiedBy) := goodIn_app (goodIn_of _ (by decide +kernel)) ggX6_tied_X6_tiedBy
theorem dX6_tied_0 : decode cX6_tied 0 = .ok (.aload_n 0, 1) := by decide +kernel
theorem dX6_tied_1 : decode cX6_tied 1 = .ok (.getfield 54, 3) := by decide +kernel
theorem dX6_tied_4 : decode cX6_tied 4 = .ok (.invokestatic 63, 3) := by decide +kernel
theorem dX6_tied_7 : decode cX6_tied 7 = .ok (.istore 4, 2) := by decide +kernel
theorem dX6_tied_9 : decode cX6_tied 9 = .ok (.iload 4, 2) := by decide +kernel
theorem dX6_tied_11 : decode cX6_tied 11 = .ok (.ifCond .eq 11, 3) := by decide +kernel
theorem dX6_tied_14 : decode cX6_tied 14 = .ok (.iload 4, 2) := by decide +kernel
theorem dX6_tied_16 : decode cX6_tied 16 = .ok (.iconst 2, 1) := by decide +kernel
theorem dX6_tied_17 : decode cX6_tied 17 = .ok (.irem, 1) := by decide +kernel
theorem dX6_tied_18 : decode cX6_tied 18 = .ok (.iconst 1, 1) := by decide +kernel
theorem dX6_tied_19 : decode cX6_tied 19 = .ok (.if_icmp .ne 6, 3) := by decide +kernel
theorem dX6_tied_22 : decode cX6_tied 22 = .ok (.bipush (-3), 2) := by decide +kernel
theorem dX6_tied_24 : decode cX6_tied 24 = .ok (.ireturn, 1) := by decide +kernel
theorem dX6_tied_25 : decode cX6_tied 25 = .ok (.iload_n 3, 1) := by decide +kernel
theorem dX6_tied_26 : decode cX6_tied 26 = .ok (.iconst (-1), 1) := by decide +kernel
theorem dX6_tied_27 : decode cX6_tied 27 = .ok (.if_icmp .eq 13, 3) := by decide +kernel
theorem dX6_tied_30 : decode cX6_tied 30 = .ok (.aload_n 0, 1) := by decide +kernel
theorem dX6_tied_31 : decode cX6_tied 31 = .ok (.iload_n 3, 1) := by decide +kernel
theorem dX6_tied_32 : decode cX6_tied 32 = .ok (.invokevirtual 67, 3) := by decide +kernel
theorem dX6_tied_35 : decode cX6_tied 35 = .ok (.ifCond .ne 5, 3) := by decide +kernel
theorem dX6_tied_38 : decode cX6_tied 38 = .ok (.iconst (-1), 1) := by decide +kernel
theorem dX6_tied_39 : decode cX6_tied 39 = .ok (.ireturn, 1) := by decide +kernel
theorem dX6_tied_40 : decode cX6_tied 40 = .ok (.iload_n 1, 1) := by decide +kernel
theorem dX6_tied_41 : decode cX6_tied 41 = .ok (.invokestatic 146, 3) := by decide +kernel
theorem dX6_tied_44 : decode cX6_tied 44 = .ok (.ifCond .eq 13, 3) := by decide +kernel
theorem dX6_tied_47 : decode cX6_tied 47 = .ok (.iload_n 2, 1) := by decide +kernel
theorem dX6_tied_48 : decode cX6_tied 48 = .ok (.i2l, 1) := by decide +kernel
theorem dX6_tied_49 : decode cX6_tied 49 = .ok (.lconst 0, 1) := by decide +kernel
theorem dX6_tied_50 : decode cX6_tied 50 = .ok (.lconst 1, 1) := by decide +kernel
theorem dX6_tied_51 : decode cX6_tied 51 = .ok (.invokestatic 50, 3) := by decide +kernel
theorem dX6_tied_54 : decode cX6_tied 54 = .ok (.ifCond .ne 6, 3) := by decide +kernel
theorem dX6_tied_57 : decode cX6_tied 57 = .ok (.bipush (-2), 2) := by decide +kernel
theorem dX6_tied_59 : decode cX6_tied 59 = .ok (.ireturn, 1) := by decide +kernel
theorem dX6_tied_60 : decode cX6_tied 60 = .ok (.aload_n 0, 1) := by decide +kernel
theorem dX6_tied_61 : decode cX6_tied 61 = .ok (.iload_n 1, 1) := by decide +kernel
theorem dX6_tied_62 : decode cX6_tied 62 = .ok (.invokevirtual 153, 3) := by decide +kernel
theorem dX6_tied_65 : decode cX6_tied 65 = .ok (.iload 4, 2) := by decide +kernel
theorem dX6_tied_67 : decode cX6_tied 67 = .ok (.iconst 2, 1) := by decide +kernel
theorem dX6_tied_68 : decode cX6_tied 68 = .ok (.if_icmp .ne 7, 3) := by decide +kernel
theorem dX6_tied_71 : decode cX6_tied 71 = .ok (.iconst 1, 1) := by decide +kernel
theorem dX6_tied_72 : decode cX6_tied 72 = .ok (.goto 27, 3) := by decide +kernel
theorem dX6_tied_75 : decode cX6_tied 75 = .ok (.iload 4, 2) := by decide +kernel
theorem dX6_tied_77 : decode cX6_tied 77 = .ok (.iconst 4, 1) := by decide +kernel
theorem dX6_tied_78 : decode cX6_tied 78 = .ok (.if_icmp .ne 7, 3) := by decide +kernel
theorem dX6_tied_81 : decode cX6_tied 81 = .ok (.iconst 3, 1) := by decide +kernel
theorem dX6_tied_82 : decode cX6_tied 82 = .ok (.goto 17, 3) := by decide +kernel
theorem dX6_tied_85 : decode cX6_tied 85 = .ok (.iload 4, 2) := by decide +kernel
theorem dX6_tied_87 : decode cX6_tied 87 = .ok (.bipush 6, 2) := by decide +kernel
theorem dX6_tied_89 : decode cX6_tied 89 = .ok (.if_icmp .ne 8, 3) := by decide +kernel
theorem dX6_tied_92 : decode cX6_tied 92 = .ok (.bipush 15, 2) := by decide +kernel
theorem dX6_tied_94 : decode cX6_tied 94 = .ok (.goto 5, 3) := by decide +kernel
theorem dX6_tied_97 : decode cX6_tied 97 = .ok (.bipush 105, 2) := by decide +kernel
theorem dX6_tied_99 : decode cX6_tied 99 = .ok (.istore 5, 2) := by decide +kernel
theorem dX6_tied_101 : decode cX6_tied 101 = .ok (.ldc 135, 2) := by decide +kernel
theorem dX6_tied_103 : decode cX6_tied 103 = .ok (.istore 6, 2) := by decide +kernel
theorem dX6_tied_105 : decode cX6_tied 105 = .ok (.iconst 0, 1) := by decide +kernel
theorem dX6_tied_106 : decode cX6_tied 106 = .ok (.istore 7, 2) := by decide +kernel
theorem dX6_tied_108 : decode cX6_tied 108 = .ok (.iload 7, 2) := by decide +kernel
theorem dX6_tied_110 : decode cX6_tied 110 = .ok (.iload 5, 2) := by decide +kernel
theorem dX6_tied_112 : decode cX6_tied 112 = .ok (.if_icmp .ge 65, 3) := by decide +kernel
theorem dX6_tied_115 : decode cX6_tied 115 = .ok (.aload_n 0, 1) := by decide +kernel
theorem dX6_tied_116 : decode cX6_tied 116 = .ok (.iload 7, 2) := by decide +kernel
theorem dX6_tied_118 : decode cX6_tied 118 = .ok (.iload 5, 2) := by decide +kernel
theorem dX6_tied_120 : decode cX6_tied 120 = .ok (.invokevirtual 157, 3) := by decide +kernel
theorem dX6_tied_123 : decode cX6_tied 123 = .ok (.aload_n 0, 1) := by decide +kernel
theorem dX6_tied_124 : decode cX6_tied 124 = .ok (.iload_n 2, 1) := by decide +kernel
theorem dX6_tied_125 : decode cX6_tied 125 = .ok (.invokevirtual 160, 3) := by decide +kernel
theorem dX6_tied_128 : decode cX6_tied 128 = .ok (.istore 8, 2) := by decide +kernel
theorem dX6_tied_130 : decode cX6_tied 130 = .ok (.iload 8, 2) := by decide +kernel
theorem dX6_tied_132 : decode cX6_tied 132 = .ok (.iload 6, 2) := by decide +kernel
theorem dX6_tied_134 : decode cX6_tied 134 = .ok (.if_icmp .ge 37, 3) := by decide +kernel
theorem dX6_tied_137 : decode cX6_tied 137 = .ok (.iload 8, 2) := by decide +kernel
theorem dX6_tied_139 : decode cX6_tied 139 = .ok (.istore 6, 2) := by decide +kernel
theorem dX6_tied_141 : decode cX6_tied 141 = .ok (.iconst 0, 1) := by decide +kernel
theorem dX6_tied_142 : decode cX6_tied 142 = .ok (.istore 9, 2) := by decide +kernel
theorem dX6_tied_144 : decode cX6_tied 144 = .ok (.iload 9, 2) := by decide +kernel
theorem dX6_tied_146 : decode cX6_tied 146 = .ok (.bipush 8, 2) := by decide +kernel
theorem dX6_tied_148 : decode cX6_tied 148 = .ok (.if_icmp .ge 23, 3) := by decide +kernel
theorem dX6_tied_151 : decode cX6_tied 151 = .ok (.aload_n 0, 1) := by decide +kernel
theorem dX6_tied_152 : decode cX6_tied 152 = .ok (.getfield 25, 3) := by decide +kernel
theorem dX6_tied_155 : decode cX6_tied 155 = .ok (.iload 9, 2) := by decide +kernel
theorem dX6_tied_157 : decode cX6_tied 157 = .ok (.aload_n 0, 1) := by decide +kernel
theorem dX6_tied_158 : decode cX6_tied 158 = .ok (.getfield 22, 3) := by decide +kernel
theorem dX6_tied_161 : decode cX6_tied 161 = .ok (.iload 9, 2) := by decide +kernel
theorem dX6_tied_163 : decode cX6_tied 163 = .ok (.iaload, 1) := by decide +kernel
theorem dX6_tied_164 : decode cX6_tied 164 = .ok (.iastore, 1) := by decide +kernel
theorem dX6_tied_165 : decode cX6_tied 165 = .ok (.iinc 9 1, 3) := by decide +kernel
theorem dX6_tied_168 : decode cX6_tied 168 = .ok (.goto (-24), 3) := by decide +kernel
theorem dX6_tied_171 : decode cX6_tied 171 = .ok (.iinc 7 1, 3) := by decide +kernel
theorem dX6_tied_174 : decode cX6_tied 174 = .ok (.goto (-66), 3) := by decide +kernel
theorem dX6_tied_177 : decode cX6_tied 177 = .ok (.iload_n 3, 1) := by decide +kernel
theorem dX6_tied_178 : decode cX6_tied 178 = .ok (.iconst (-1), 1) := by decide +kernel
theorem dX6_tied_179 : decode cX6_tied 179 = .ok (.if_icmp .ne 8, 3) := by decide +kernel
theorem dX6_tied_182 : decode cX6_tied 182 = .ok (.iload 6, 2) := by decide +kernel
theorem dX6_tied_184 : decode cX6_tied 184 = .ok (.goto 9, 3) := by decide +kernel
theorem dX6_tied_187 : decode cX6_tied 187 = .ok (.aload_n 0, 1) := by decide +kernel
theorem dX6_tied_188 : decode cX6_tied 188 = .ok (.getfield 25, 3) := by decide +kernel
theorem dX6_tied_191 : decode cX6_tied 191 = .ok (.iload_n 3, 1) := by decide +kernel
theorem dX6_tied_192 : decode cX6_tied 192 = .ok (.iaload, 1) := by decide +kernel
theorem dX6_tied_193 : decode cX6_tied 193 = .ok (.ireturn, 1) := by decide +kernel
set_option maxRecDepth 20000 in
theorem ggX6_tryOne_X6_timeOf : GoodIn wsX6_tryOne wsX6_timeOf := goodIn_r _ [7, 8, 9, 10, 11, 12, 13, 6, 14, 15, 16, 17, 18, 19, 20, 21, 22, 23, 24, 25, 26, 27, 28, 29, 30, 31, 32, 33, 34, 35, 36, 37, 38, 39, 40, 41, 42, 43, 44, 45, 46, 47, 48, 49, 50, 51, 52, 53, 54, 55, 56, 57, 58, 59, 60, 61, 62, 63, 64, 65, 66, 67, 68, 69, 70, 71, 72, 73, 74, 75, 76, 77] (by decide +kernel) (by decide +kernel)
set_option maxRecDepth 20000 in
theorem gX6_tryOne_X6_timeOf : GoodIn wsX6_tryOne (wsV RX6 149 RX6 yX6_timeOf wsX6_timeOf) := goodIn_app (goodIn_of _ (by decide +kernel)) ggX6_tryOne_X6_timeOf
theorem dX6_tryOne_0 : decode cX6_tryOne 0 = .ok (.aload_n 0, 1) := by decide +kernel
theorem dX6_tryOne_1 : decode cX6_tryOne 1 = .ok (.iload_n 2, 1) := by decide +kernel
theorem dX6_tryOne_2 : decode cX6_tryOne 2 = .ok (.invokevirtual 149, 3) := by decide +kernel
theorem dX6_tryOne_5 : decode cX6_tryOne 5 = .ok (.istore_n 3, 1) := by decide +kernel
theorem dX6_tryOne_6 : decode cX6_tryOne 6 = .ok (.aload_n 0, 1) := by decide +kernel
theorem dX6_tryOne_7 : decode cX6_tryOne 7 = .ok (.iload_n 3, 1) := by decide +kernel
theorem dX6_tryOne_8 : decode cX6_tryOne 8 = .ok (.aload_n 0, 1) := by decide +kernel
theorem dX6_tryOne_9 : decode cX6_tryOne 9 = .ok (.getfield 163, 3) := by decide +kernel
theorem dX6_tryOne_12 : decode cX6_tryOne 12 = .ok (.if_icmp .ge 7, 3) := by decide +kernel
theorem dX6_tryOne_15 : decode cX6_tryOne 15 = .ok (.iload_n 1, 1) := by decide +kernel
theorem dX6_tryOne_16 : decode cX6_tryOne 16 = .ok (.goto 7, 3) := by decide +kernel
theorem dX6_tryOne_19 : decode cX6_tryOne 19 = .ok (.aload_n 0, 1) := by decide +kernel
theorem dX6_tryOne_20 : decode cX6_tryOne 20 = .ok (.getfield 166, 3) := by decide +kernel
theorem dX6_tryOne_23 : decode cX6_tryOne 23 = .ok (.putfield 166, 3) := by decide +kernel
theorem dX6_tryOne_26 : decode cX6_tryOne 26 = .ok (.aload_n 0, 1) := by decide +kernel
theorem dX6_tryOne_27 : decode cX6_tryOne 27 = .ok (.iload_n 3, 1) := by decide +kernel
theorem dX6_tryOne_28 : decode cX6_tryOne 28 = .ok (.aload_n 0, 1) := by decide +kernel
theorem dX6_tryOne_29 : decode cX6_tryOne 29 = .ok (.getfield 163, 3) := by decide +kernel
theorem dX6_tryOne_32 : decode cX6_tryOne 32 = .ok (.if_icmp .ge 7, 3) := by decide +kernel
theorem dX6_tryOne_35 : decode cX6_tryOne 35 = .ok (.iload_n 3, 1) := by decide +kernel
theorem dX6_tryOne_36 : decode cX6_tryOne 36 = .ok (.goto 7, 3) := by decide +kernel
theorem dX6_tryOne_39 : decode cX6_tryOne 39 = .ok (.aload_n 0, 1) := by decide +kernel
theorem dX6_tryOne_40 : decode cX6_tryOne 40 = .ok (.getfield 163, 3) := by decide +kernel
theorem dX6_tryOne_43 : decode cX6_tryOne 43 = .ok (.putfield 163, 3) := by decide +kernel
theorem dX6_tryOne_46 : decode cX6_tryOne 46 = .ok (.return_, 1) := by decide +kernel
theorem dX6_beginTries_0 : decode cX6_beginTries 0 = .ok (.aload_n 0, 1) := by decide +kernel
theorem dX6_beginTries_1 : decode cX6_beginTries 1 = .ok (.bipush (-6), 2) := by decide +kernel
theorem dX6_beginTries_3 : decode cX6_beginTries 3 = .ok (.putfield 166, 3) := by decide +kernel
theorem dX6_beginTries_6 : decode cX6_beginTries 6 = .ok (.aload_n 0, 1) := by decide +kernel
theorem dX6_beginTries_7 : decode cX6_beginTries 7 = .ok (.ldc 135, 2) := by decide +kernel
theorem dX6_beginTries_9 : decode cX6_beginTries 9 = .ok (.putfield 163, 3) := by decide +kernel
theorem dX6_beginTries_12 : decode cX6_beginTries 12 = .ok (.return_, 1) := by decide +kernel
theorem dX6_tellBest_0 : decode cX6_tellBest 0 = .ok (.aload_n 0, 1) := by decide +kernel
theorem dX6_tellBest_1 : decode cX6_tellBest 1 = .ok (.getfield 166, 3) := by decide +kernel
theorem dX6_tellBest_4 : decode cX6_tellBest 4 = .ok (.ifCond .lt 7, 3) := by decide +kernel
theorem dX6_tellBest_7 : decode cX6_tellBest 7 = .ok (.iload_n 1, 1) := by decide +kernel
theorem dX6_tellBest_8 : decode cX6_tellBest 8 = .ok (.ifCond .ne 10, 3) := by decide +kernel
theorem dX6_tellBest_11 : decode cX6_tellBest 11 = .ok (.aload_n 0, 1) := by decide +kernel
theorem dX6_tellBest_12 : decode cX6_tellBest 12 = .ok (.getfield 166, 3) := by decide +kernel
theorem dX6_tellBest_15 : decode cX6_tellBest 15 = .ok (.goto 7, 3) := by decide +kernel
theorem dX6_tellBest_18 : decode cX6_tellBest 18 = .ok (.aload_n 0, 1) := by decide +kernel
theorem dX6_tellBest_19 : decode cX6_tellBest 19 = .ok (.getfield 163, 3) := by decide +kernel
theorem dX6_tellBest_22 : decode cX6_tellBest 22 = .ok (.ireturn, 1) := by decide +kernel
set_option maxRecDepth 20000 in
theorem ggX6_isAsked_X6_isFar : GoodIn wsX6_isAsked wsX6_isFar := goodIn_r _ [4, 5, 6, 7, 3, 8] (by decide +kernel) (by decide +kernel)
set_option maxRecDepth 20000 in
theorem gX6_isAsked_X6_isFar : GoodIn wsX6_isAsked (va_wsS RX6 146 yX6_isFar wsX6_isFar) := goodIn_app (goodIn_of _ (by decide +kernel)) ggX6_isAsked_X6_isFar
set_option maxRecDepth 20000 in
theorem ggX6_isAsked_X6_in : GoodIn wsX6_isAsked wsX6_in := goodIn_r _ [8] (by decide +kernel) (by decide +kernel)
set_option maxRecDepth 20000 in
theorem gX6_isAsked_X6_in : GoodIn wsX6_isAsked (va_wsS RX6 50 yX6_in wsX6_in) := goodIn_app (goodIn_of _ (by decide +kernel)) ggX6_isAsked_X6_in
theorem dX6_isAsked_0 : decode cX6_isAsked 0 = .ok (.iload_n 0, 1) := by decide +kernel
theorem dX6_isAsked_1 : decode cX6_isAsked 1 = .ok (.invokestatic 146, 3) := by decide +kernel
theorem dX6_isAsked_4 : decode cX6_isAsked 4 = .ok (.ifCond .eq 17, 3) := by decide +kernel
theorem dX6_isAsked_7 : decode cX6_isAsked 7 = .ok (.iload_n 1, 1) := by decide +kernel
theorem dX6_isAsked_8 : decode cX6_isAsked 8 = .ok (.i2l, 1) := by decide +kernel
theorem dX6_isAsked_9 : decode cX6_isAsked 9 = .ok (.lconst 0, 1) := by decide +kernel
theorem dX6_isAsked_10 : decode cX6_isAsked 10 = .ok (.lconst 1, 1) := by decide +kernel
theorem dX6_isAsked_11 : decode cX6_isAsked 11 = .ok (.invokestatic 50, 3) := by decide +kernel
theorem dX6_isAsked_14 : decode cX6_isAsked 14 = .ok (.ifCond .eq 7, 3) := by decide +kernel
theorem dX6_isAsked_17 : decode cX6_isAsked 17 = .ok (.iconst 1, 1) := by decide +kernel
theorem dX6_isAsked_18 : decode cX6_isAsked 18 = .ok (.goto 4, 3) := by decide +kernel
theorem dX6_isAsked_21 : decode cX6_isAsked 21 = .ok (.iconst 0, 1) := by decide +kernel
theorem dX6_isAsked_22 : decode cX6_isAsked 22 = .ok (.ireturn, 1) := by decide +kernel
set_option maxRecDepth 20000 in
theorem ggX6_call_X6_isPair : GoodIn wsX6_call wsX6_isPair := goodIn_r _ [7, 8, 9, 10, 6, 11, 12, 13, 14, 15, 16, 85, 86, 87, 88, 89, 90, 91, 92, 93, 94, 95, 96, 97, 98, 99, 100, 101, 102, 103, 104, 105, 106, 107, 108, 109, 110, 111, 112, 113, 114, 115, 116, 117] (by decide +kernel) (by decide +kernel)
set_option maxRecDepth 20000 in
theorem gX6_call_X6_isPair : GoodIn wsX6_call (wsV RX6 136 RX6 yX6_isPair wsX6_isPair) := goodIn_app (goodIn_of _ (by decide +kernel)) ggX6_call_X6_isPair
set_option maxRecDepth 20000 in
theorem ggX6_call_X6_isAsked : GoodIn wsX6_call wsX6_isAsked := goodIn_r _ [19, 20, 21, 6, 22, 23, 14, 15, 16] (by decide +kernel) (by decide +kernel)
set_option maxRecDepth 20000 in
theorem gX6_call_X6_isAsked : GoodIn wsX6_call (va_wsS RX6 169 yX6_isAsked wsX6_isAsked) := goodIn_app (goodIn_of _ (by decide +kernel)) ggX6_call_X6_isAsked
set_option maxRecDepth 20000 in
theorem ggX6_call_X6_layPair : GoodIn wsX6_call wsX6_layPair := goodIn_r _ [27, 28, 1, 2, 29, 30, 31, 32, 33, 34, 35, 36, 85, 86, 87, 88, 89, 90, 91, 92, 93, 94, 95, 96, 97, 98, 99, 100, 101, 102, 103, 104, 105, 106, 107, 108, 109, 110, 111, 112, 113, 114, 115, 116, 117] (by decide +kernel) (by decide +kernel)
set_option maxRecDepth 20000 in
theorem gX6_call_X6_layPair : GoodIn wsX6_call (wsV RX6 142 RX6 yX6_layPair wsX6_layPair) := goodIn_app (goodIn_of _ (by decide +kernel)) ggX6_call_X6_layPair
set_option maxRecDepth 20000 in
theorem ggX6_call_X6_beginTries : GoodIn wsX6_call wsX6_beginTries := goodIn_r _ [40, 41, 42, 43, 85, 86, 87, 88, 89, 90, 91, 92, 93, 94, 95, 96, 97, 98, 99, 100, 101, 102, 103, 104, 105, 106, 107, 108, 109, 110, 111, 112, 113, 114, 115, 116, 117] (by decide +kernel) (by decide +kernel)
set_option maxRecDepth 20000 in
theorem gX6_call_X6_beginTries : GoodIn wsX6_call (wsV RX6 172 RX6 yX6_beginTries wsX6_beginTries) := goodIn_app (goodIn_of _ (by decide +kernel)) ggX6_call_X6_beginTries
set_option maxRecDepth 20000 in
theorem ggX6_call_X6_tryOne : GoodIn wsX6_call wsX6_tryOne := goodIn_r _ [47, 43, 41, 48, 49, 50, 6, 51, 52, 53, 42, 54, 55, 56, 57, 58, 59, 60, 61, 62, 63, 64, 65, 1, 30, 2, 31, 66, 36, 67, 68, 33, 69, 70, 71, 72, 73, 34, 74, 75, 76, 77, 78, 79, 80, 85, 86, 87, 88, 89, 90, 91, 92, 93, 94, 95, 96, 97, 98, 99, 100, 101, 102, 103, 104, 105, 106, 107, 108, 109, 110, 111, 112, 113, 114, 115, 116, 117] (by decide +kernel) (by decide +kernel)
set_option maxRecDepth 20000 in
theorem gX6_call_X6_tryOne : GoodIn wsX6_call (wsV RX6 175 RX6 yX6_tryOne wsX6_tryOne) := goodIn_app (goodIn_of _ (by decide +kernel)) ggX6_call_X6_tryOne
set_option maxRecDepth 20000 in
theorem ggX6_call_X6_tellBest : GoodIn wsX6_call wsX6_tellBest := goodIn_r _ [84, 41, 43, 85, 86, 87, 88, 89, 90, 91, 92, 93, 94, 95, 96, 97, 98, 99, 100, 101, 102, 103, 104, 105, 106, 107, 108, 109, 110, 111, 112, 113, 114, 115, 116, 117] (by decide +kernel) (by decide +kernel)
set_option maxRecDepth 20000 in
theorem gX6_call_X6_tellBest : GoodIn wsX6_call (wsV RX6 178 RX6 yX6_tellBest wsX6_tellBest) := goodIn_app (goodIn_of _ (by decide +kernel)) ggX6_call_X6_tellBest
theorem dX6_call_0 : decode cX6_call 0 = .ok (.aload_n 0, 1) := by decide +kernel
theorem dX6_call_1 : decode cX6_call 1 = .ok (.iload_n 1, 1) := by decide +kernel
theorem dX6_call_2 : decode cX6_call 2 = .ok (.iload_n 2, 1) := by decide +kernel
theorem dX6_call_3 : decode cX6_call 3 = .ok (.invokevirtual 136, 3) := by decide +kernel
theorem dX6_call_6 : decode cX6_call 6 = .ok (.ifCond .ne 5, 3) := by decide +kernel
theorem dX6_call_9 : decode cX6_call 9 = .ok (.iconst (-1), 1) := by decide +kernel
theorem dX6_call_10 : decode cX6_call 10 = .ok (.ireturn, 1) := by decide +kernel
theorem dX6_call_11 : decode cX6_call 11 = .ok (.iload_n 3, 1) := by decide +kernel
theorem dX6_call_12 : decode cX6_call 12 = .ok (.iload 4, 2) := by decide +kernel
theorem dX6_call_14 : decode cX6_call 14 = .ok (.invokestatic 169, 3) := by decide +kernel
theorem dX6_call_17 : decode cX6_call 17 = .ok (.ifCond .ne 6, 3) := by decide +kernel
theorem dX6_call_20 : decode cX6_call 20 = .ok (.bipush (-2), 2) := by decide +kernel
theorem dX6_call_22 : decode cX6_call 22 = .ok (.ireturn, 1) := by decide +kernel
theorem dX6_call_23 : decode cX6_call 23 = .ok (.aload_n 0, 1) := by decide +kernel
theorem dX6_call_24 : decode cX6_call 24 = .ok (.iload_n 1, 1) := by decide +kernel
theorem dX6_call_25 : decode cX6_call 25 = .ok (.iload_n 2, 1) := by decide +kernel
theorem dX6_call_26 : decode cX6_call 26 = .ok (.invokevirtual 142, 3) := by decide +kernel
theorem dX6_call_29 : decode cX6_call 29 = .ok (.aload_n 0, 1) := by decide +kernel
theorem dX6_call_30 : decode cX6_call 30 = .ok (.invokevirtual 172, 3) := by decide +kernel
theorem dX6_call_33 : decode cX6_call 33 = .ok (.iconst 4, 1) := by decide +kernel
theorem dX6_call_34 : decode cX6_call 34 = .ok (.istore 5, 2) := by decide +kernel
theorem dX6_call_36 : decode cX6_call 36 = .ok (.iload 5, 2) := by decide +kernel
theorem dX6_call_38 : decode cX6_call 38 = .ok (.bipush 20, 2) := by decide +kernel
theorem dX6_call_40 : decode cX6_call 40 = .ok (.if_icmp .gt 28, 3) := by decide +kernel
theorem dX6_call_43 : decode cX6_call 43 = .ok (.aload_n 0, 1) := by decide +kernel
theorem dX6_call_44 : decode cX6_call 44 = .ok (.iload 5, 2) := by decide +kernel
theorem dX6_call_46 : decode cX6_call 46 = .ok (.putfield 73, 3) := by decide +kernel
theorem dX6_call_49 : decode cX6_call 49 = .ok (.aload_n 0, 1) := by decide +kernel
theorem dX6_call_50 : decode cX6_call 50 = .ok (.iload 5, 2) := by decide +kernel
theorem dX6_call_52 : decode cX6_call 52 = .ok (.putfield 76, 3) := by decide +kernel
theorem dX6_call_55 : decode cX6_call 55 = .ok (.aload_n 0, 1) := by decide +kernel
theorem dX6_call_56 : decode cX6_call 56 = .ok (.iload 5, 2) := by decide +kernel
theorem dX6_call_58 : decode cX6_call 58 = .ok (.iload_n 3, 1) := by decide +kernel
theorem dX6_call_59 : decode cX6_call 59 = .ok (.invokevirtual 175, 3) := by decide +kernel
theorem dX6_call_62 : decode cX6_call 62 = .ok (.iinc 5 1, 3) := by decide +kernel
theorem dX6_call_65 : decode cX6_call 65 = .ok (.goto (-29), 3) := by decide +kernel
theorem dX6_call_68 : decode cX6_call 68 = .ok (.aload_n 0, 1) := by decide +kernel
theorem dX6_call_69 : decode cX6_call 69 = .ok (.iload 4, 2) := by decide +kernel
theorem dX6_call_71 : decode cX6_call 71 = .ok (.invokevirtual 178, 3) := by decide +kernel
theorem dX6_call_74 : decode cX6_call 74 = .ok (.ireturn, 1) := by decide +kernel
set_option maxRecDepth 20000 in
theorem ggX6_quicken_X6_isPair : GoodIn wsX6_quicken wsX6_isPair := goodIn_r _ [6, 7, 8, 9, 5, 10, 11, 12, 13, 14, 15, 85, 86, 87, 88, 89, 90, 91, 92, 93, 94, 95, 96, 97, 98, 99, 100, 101, 102, 103, 104, 105, 106, 107, 108, 109, 110, 111, 112, 113, 114, 115, 116, 117] (by decide +kernel) (by decide +kernel)
set_option maxRecDepth 20000 in
theorem gX6_quicken_X6_isPair : GoodIn wsX6_quicken (wsV RX6 136 RX6 yX6_isPair wsX6_isPair) := goodIn_app (goodIn_of _ (by decide +kernel)) ggX6_quicken_X6_isPair
set_option maxRecDepth 20000 in
theorem ggX6_quicken_X6_isAsked : GoodIn wsX6_quicken wsX6_isAsked := goodIn_r _ [18, 19, 20, 5, 21, 22, 13, 14, 15] (by decide +kernel) (by decide +kernel)
set_option maxRecDepth 20000 in
theorem gX6_quicken_X6_isAsked : GoodIn wsX6_quicken (va_wsS RX6 169 yX6_isAsked wsX6_isAsked) := goodIn_app (goodIn_of _ (by decide +kernel)) ggX6_quicken_X6_isAsked
set_option maxRecDepth 20000 in
theorem ggX6_quicken_X6_layPair : GoodIn wsX6_quicken wsX6_layPair := goodIn_r _ [26, 27, 28, 29, 30, 31, 32, 33, 34, 1, 35, 36, 85, 86, 87, 88, 89, 90, 91, 92, 93, 94, 95, 96, 97, 98, 99, 100, 101, 102, 103, 104, 105, 106, 107, 108, 109, 110, 111, 112, 113, 114, 115, 116, 117] (by decide +kernel) (by decide +kernel)
set_option maxRecDepth 20000 in
theorem gX6_quicken_X6_layPair : GoodIn wsX6_quicken (wsV RX6 142 RX6 yX6_layPair wsX6_layPair) := goodIn_app (goodIn_of _ (by decide +kernel)) ggX6_quicken_X6_layPair
set_option maxRecDepth 20000 in
theorem ggX6_quicken_X6_beginTries : GoodIn wsX6_quicken wsX6_beginTries := goodIn_r _ [40, 41, 42, 43, 85, 86, 87, 88, 89, 90, 91, 92, 93, 94, 95, 96, 97, 98, 99, 100, 101, 102, 103, 104, 105, 106, 107, 108, 109, 110, 111, 112, 113, 114, 115, 116, 117] (by decide +kernel) (by decide +kernel)
set_option maxRecDepth 20000 in
theorem gX6_quicken_X6_beginTries : GoodIn wsX6_quicken (wsV RX6 172 RX6 yX6_beginTries wsX6_beginTries) := goodIn_app (goodIn_of _ (by decide +kernel)) ggX6_quicken_X6_beginTries
set_option maxRecDepth 20000 in
theorem ggX6_quicken_X6_tryOne : GoodIn wsX6_quicken wsX6_tryOne := goodIn_r _ [47, 43, 41, 48, 49, 50, 5, 51, 52, 53, 42, 54, 55, 56, 57, 58, 59, 60, 61, 62, 63, 64, 65, 28, 31, 29, 32, 66, 36, 67, 68, 34, 69, 70, 71, 72, 73, 1, 74, 75, 76, 77, 78, 79, 80, 85, 86, 87, 88, 89, 90, 91, 92, 93, 94, 95, 96, 97, 98, 99, 100, 101, 102, 103, 104, 105, 106, 107, 108, 109, 110, 111, 112, 113, 114, 115, 116, 117] (by decide +kernel) (by decide +kernel)
set_option maxRecDepth 20000 in
theorem gX6_quicken_X6_tryOne : GoodIn wsX6_quicken (wsV RX6 175 RX6 yX6_tryOne wsX6_tryOne) := goodIn_app (goodIn_of _ (by decide +kernel)) ggX6_quicken_X6_tryOne
set_option maxRecDepth 20000 in
theorem ggX6_quicken_X6_tellBest : GoodIn wsX6_quicken wsX6_tellBest := goodIn_r _ [84, 41, 43, 85, 86, 87, 88, 89, 90, 91, 92, 93, 94, 95, 96, 97, 98, 99, 100, 101, 102, 103, 104, 105, 106, 107, 108, 109, 110, 111, 112, 113, 114, 115, 116, 117] (by decide +kernel) (by decide +kernel)
set_option maxRecDepth 20000 in
theorem gX6_quicken_X6_tellBest : GoodIn wsX6_quicken (wsV RX6 178 RX6 yX6_tellBest wsX6_tellBest) := goodIn_app (goodIn_of _ (by decide +kernel)) ggX6_quicken_X6_tellBest
theorem dX6_quicken_0 : decode cX6_quicken 0 = .ok (.aload_n 0, 1) := by decide +kernel
theorem dX6_quicken_1 : decode cX6_quicken 1 = .ok (.iload_n 1, 1) := by decide +kernel
theorem dX6_quicken_2 : decode cX6_quicken 2 = .ok (.iload_n 2, 1) := by decide +kernel
theorem dX6_quicken_3 : decode cX6_quicken 3 = .ok (.invokevirtual 136, 3) := by decide +kernel
theorem dX6_quicken_6 : decode cX6_quicken 6 = .ok (.ifCond .ne 5, 3) := by decide +kernel
theorem dX6_quicken_9 : decode cX6_quicken 9 = .ok (.iconst (-1), 1) := by decide +kernel
theorem dX6_quicken_10 : decode cX6_quicken 10 = .ok (.ireturn, 1) := by decide +kernel
theorem dX6_quicken_11 : decode cX6_quicken 11 = .ok (.iload_n 3, 1) := by decide +kernel
theorem dX6_quicken_12 : decode cX6_quicken 12 = .ok (.iload 4, 2) := by decide +kernel
theorem dX6_quicken_14 : decode cX6_quicken 14 = .ok (.invokestatic 169, 3) := by decide +kernel
theorem dX6_quicken_17 : decode cX6_quicken 17 = .ok (.ifCond .ne 6, 3) := by decide +kernel
theorem dX6_quicken_20 : decode cX6_quicken 20 = .ok (.bipush (-2), 2) := by decide +kernel
theorem dX6_quicken_22 : decode cX6_quicken 22 = .ok (.ireturn, 1) := by decide +kernel
theorem dX6_quicken_23 : decode cX6_quicken 23 = .ok (.aload_n 0, 1) := by decide +kernel
theorem dX6_quicken_24 : decode cX6_quicken 24 = .ok (.iload_n 1, 1) := by decide +kernel
theorem dX6_quicken_25 : decode cX6_quicken 25 = .ok (.iload_n 2, 1) := by decide +kernel
theorem dX6_quicken_26 : decode cX6_quicken 26 = .ok (.invokevirtual 142, 3) := by decide +kernel
theorem dX6_quicken_29 : decode cX6_quicken 29 = .ok (.aload_n 0, 1) := by decide +kernel
theorem dX6_quicken_30 : decode cX6_quicken 30 = .ok (.invokevirtual 172, 3) := by decide +kernel
theorem dX6_quicken_33 : decode cX6_quicken 33 = .ok (.iconst 0, 1) := by decide +kernel
theorem dX6_quicken_34 : decode cX6_quicken 34 = .ok (.istore 5, 2) := by decide +kernel
theorem dX6_quicken_36 : decode cX6_quicken 36 = .ok (.iload 5, 2) := by decide +kernel
theorem dX6_quicken_38 : decode cX6_quicken 38 = .ok (.bipush 61, 2) := by decide +kernel
theorem dX6_quicken_40 : decode cX6_quicken 40 = .ok (.if_icmp .gt 35, 3) := by decide +kernel
theorem dX6_quicken_43 : decode cX6_quicken 43 = .ok (.aload_n 0, 1) := by decide +kernel
theorem dX6_quicken_44 : decode cX6_quicken 44 = .ok (.iload 5, 2) := by decide +kernel
theorem dX6_quicken_46 : decode cX6_quicken 46 = .ok (.bipush 61, 2) := by decide +kernel
theorem dX6_quicken_48 : decode cX6_quicken 48 = .ok (.if_icmp .ne 9, 3) := by decide +kernel
theorem dX6_quicken_51 : decode cX6_quicken 51 = .ok (.sipush 1000, 3) := by decide +kernel
theorem dX6_quicken_54 : decode cX6_quicken 54 = .ok (.goto 5, 3) := by decide +kernel
theorem dX6_quicken_57 : decode cX6_quicken 57 = .ok (.iload 5, 2) := by decide +kernel
theorem dX6_quicken_59 : decode cX6_quicken 59 = .ok (.putfield 88, 3) := by decide +kernel
theorem dX6_quicken_62 : decode cX6_quicken 62 = .ok (.aload_n 0, 1) := by decide +kernel
theorem dX6_quicken_63 : decode cX6_quicken 63 = .ok (.iload 5, 2) := by decide +kernel
theorem dX6_quicken_65 : decode cX6_quicken 65 = .ok (.iload_n 3, 1) := by decide +kernel
theorem dX6_quicken_66 : decode cX6_quicken 66 = .ok (.invokevirtual 175, 3) := by decide +kernel
theorem dX6_quicken_69 : decode cX6_quicken 69 = .ok (.iinc 5 1, 3) := by decide +kernel
theorem dX6_quicken_72 : decode cX6_quicken 72 = .ok (.goto (-36), 3) := by decide +kernel
theorem dX6_quicken_75 : decode cX6_quicken 75 = .ok (.aload_n 0, 1) := by decide +kernel
theorem dX6_quicken_76 : decode cX6_quicken 76 = .ok (.iload 4, 2) := by decide +kernel
theorem dX6_quicken_78 : decode cX6_quicken 78 = .ok (.invokevirtual 178, 3) := by decide +kernel
theorem dX6_quicken_81 : decode cX6_quicken 81 = .ok (.ireturn, 1) := by decide +kernel
set_option maxRecDepth 20000 in
theorem ggX6_yields_X6_isPair : GoodIn wsX6_yields wsX6_isPair := goodIn_r _ [7, 8, 9, 10, 6, 11, 12, 13, 14, 15, 16, 85, 86, 87, 88, 89, 90, 91, 92, 93, 94, 95, 96, 97, 98, 99, 100, 101, 102, 103, 104, 105, 106, 107, 108, 109, 110, 111, 112, 113, 114, 115, 116, 117] (by decide +kernel) (by decide +kernel)
set_option maxRecDepth 20000 in
theorem gX6_yields_X6_isPair : GoodIn wsX6_yields (wsV RX6 136 RX6 yX6_isPair wsX6_isPair) := goodIn_app (goodIn_of _ (by decide +kernel)) ggX6_yields_X6_isPair
set_option maxRecDepth 20000 in
theorem ggX6_yields_X6_isAsked : GoodIn wsX6_yields wsX6_isAsked := goodIn_r _ [19, 20, 21, 6, 22, 23, 14, 15, 16] (by decide +kernel) (by decide +kernel)
set_option maxRecDepth 20000 in
theorem gX6_yields_X6_isAsked : GoodIn wsX6_yields (va_wsS RX6 169 yX6_isAsked wsX6_isAsked) := goodIn_app (goodIn_of _ (by decide +kernel)) ggX6_yields_X6_isAsked
set_option maxRecDepth 20000 in
theorem ggX6_yields_X6_layPair : GoodIn wsX6_yields wsX6_layPair := goodIn_r _ [27, 28, 29, 30, 31, 1, 2, 32, 33, 34, 35, 36, 85, 86, 87, 88, 89, 90, 91, 92, 93, 94, 95, 96, 97, 98, 99, 100, 101, 102, 103, 104, 105, 106, 107, 108, 109, 110, 111, 112, 113, 114, 115, 116, 117] (by decide +kernel) (by decide +kernel)
set_option maxRecDepth 20000 in
theorem gX6_yields_X6_layPair : GoodIn wsX6_yields (wsV RX6 142 RX6 yX6_layPair wsX6_layPair) := goodIn_app (goodIn_of _ (by decide +kernel)) ggX6_yields_X6_layPair
set_option maxRecDepth 20000 in
theorem ggX6_yields_X6_beginTries : GoodIn wsX6_yields wsX6_beginTries := goodIn_r _ [40, 41, 42, 43, 85, 86, 87, 88, 89, 90, 91, 92, 93, 94, 95, 96, 97, 98, 99, 100, 101, 102, 103, 104, 105, 106, 107, 108, 109, 110, 111, 112, 113, 114, 115, 116, 117] (by decide +kernel) (by decide +kernel)
set_option maxRecDepth 20000 in
theorem gX6_yields_X6_beginTries : GoodIn wsX6_yields (wsV RX6 172 RX6 yX6_beginTries wsX6_beginTries) := goodIn_app (goodIn_of _ (by decide +kernel)) ggX6_yields_X6_beginTries
set_option maxRecDepth 20000 in
theorem ggX6_yields_X6_tryOne : GoodIn wsX6_yields wsX6_tryOne := goodIn_r _ [47, 43, 41, 48, 49, 50, 6, 51, 52, 53, 42, 54, 55, 56, 57, 58, 59, 60, 61, 62, 63, 64, 65, 29, 1, 30, 2, 66, 36, 67, 68, 33, 69, 70, 71, 72, 73, 34, 74, 75, 76, 77, 78, 79, 80, 85, 86, 87, 88, 89, 90, 91, 92, 93, 94, 95, 96, 97, 98, 99, 100, 101, 102, 103, 104, 105, 106, 107, 108, 109, 110, 111, 112, 113, 114, 115, 116, 117] (by decide +kernel) (by decide +kernel)
set_option maxRecDepth 20000 in
theorem gX6_yields_X6_tryOne : GoodIn wsX6_yields (wsV RX6 175 RX6 yX6_tryOne wsX6_tryOne) := goodIn_app (goodIn_of _ (by decide +kernel)) ggX6_yields_X6_tryOne
set_option maxRecDepth 20000 in
theorem ggX6_yields_X6_tellBest : GoodIn wsX6_yields wsX6_tellBest := goodIn_r _ [84, 41, 43, 85, 86, 87, 88, 89, 90, 91, 92, 93, 94, 95, 96, 97, 98, 99, 100, 101, 102, 103, 104, 105, 106, 107, 108, 109, 110, 111, 112, 113, 114, 115, 116, 117] (by decide +kernel) (by decide +kernel)
set_option maxRecDepth 20000 in
theorem gX6_yields_X6_tellBest : GoodIn wsX6_yields (wsV RX6 178 RX6 yX6_tellBest wsX6_tellBest) := goodIn_app (goodIn_of _ (by decide +kernel)) ggX6_yields_X6_tellBest
theorem dX6_yields_0 : decode cX6_yields 0 = .ok (.aload_n 0, 1) := by decide +kernel
theorem dX6_yields_1 : decode cX6_yields 1 = .ok (.iload_n 1, 1) := by decide +kernel
theorem dX6_yields_2 : decode cX6_yields 2 = .ok (.iload_n 2, 1) := by decide +kernel
theorem dX6_yields_3 : decode cX6_yields 3 = .ok (.invokevirtual 136, 3) := by decide +kernel
theorem dX6_yields_6 : decode cX6_yields 6 = .ok (.ifCond .ne 5, 3) := by decide +kernel
theorem dX6_yields_9 : decode cX6_yields 9 = .ok (.iconst (-1), 1) := by decide +kernel
theorem dX6_yields_10 : decode cX6_yields 10 = .ok (.ireturn, 1) := by decide +kernel
theorem dX6_yields_11 : decode cX6_yields 11 = .ok (.iload_n 3, 1) := by decide +kernel
theorem dX6_yields_12 : decode cX6_yields 12 = .ok (.iload 4, 2) := by decide +kernel
theorem dX6_yields_14 : decode cX6_yields 14 = .ok (.invokestatic 169, 3) := by decide +kernel
theorem dX6_yields_17 : decode cX6_yields 17 = .ok (.ifCond .ne 6, 3) := by decide +kernel
theorem dX6_yields_20 : decode cX6_yields 20 = .ok (.bipush (-2), 2) := by decide +kernel
theorem dX6_yields_22 : decode cX6_yields 22 = .ok (.ireturn, 1) := by decide +kernel
theorem dX6_yields_23 : decode cX6_yields 23 = .ok (.aload_n 0, 1) := by decide +kernel
theorem dX6_yields_24 : decode cX6_yields 24 = .ok (.iload_n 1, 1) := by decide +kernel
theorem dX6_yields_25 : decode cX6_yields 25 = .ok (.iload_n 2, 1) := by decide +kernel
theorem dX6_yields_26 : decode cX6_yields 26 = .ok (.invokevirtual 142, 3) := by decide +kernel
theorem dX6_yields_29 : decode cX6_yields 29 = .ok (.aload_n 0, 1) := by decide +kernel
theorem dX6_yields_30 : decode cX6_yields 30 = .ok (.invokevirtual 172, 3) := by decide +kernel
theorem dX6_yields_33 : decode cX6_yields 33 = .ok (.iconst 0, 1) := by decide +kernel
theorem dX6_yields_34 : decode cX6_yields 34 = .ok (.istore 5, 2) := by decide +kernel
theorem dX6_yields_36 : decode cX6_yields 36 = .ok (.iload 5, 2) := by decide +kernel
theorem dX6_yields_38 : decode cX6_yields 38 = .ok (.bipush 25, 2) := by decide +kernel
theorem dX6_yields_40 : decode cX6_yields 40 = .ok (.if_icmp .ge 42, 3) := by decide +kernel
theorem dX6_yields_43 : decode cX6_yields 43 = .ok (.aload_n 0, 1) := by decide +kernel
theorem dX6_yields_44 : decode cX6_yields 44 = .ok (.iload 5, 2) := by decide +kernel
theorem dX6_yields_46 : decode cX6_yields 46 = .ok (.iconst 5, 1) := by decide +kernel
theorem dX6_yields_47 : decode cX6_yields 47 = .ok (.idiv, 1) := by decide +kernel
theorem dX6_yields_48 : decode cX6_yields 48 = .ok (.putfield 79, 3) := by decide +kernel
theorem dX6_yields_51 : decode cX6_yields 51 = .ok (.aload_n 0, 1) := by decide +kernel
theorem dX6_yields_52 : decode cX6_yields 52 = .ok (.iload 5, 2) := by decide +kernel
theorem dX6_yields_54 : decode cX6_yields 54 = .ok (.iconst 5, 1) := by decide +kernel
theorem dX6_yields_55 : decode cX6_yields 55 = .ok (.irem, 1) := by decide +kernel
theorem dX6_yields_56 : decode cX6_yields 56 = .ok (.putfield 82, 3) := by decide +kernel
theorem dX6_yields_59 : decode cX6_yields 59 = .ok (.aload_n 0, 1) := by decide +kernel
theorem dX6_yields_60 : decode cX6_yields 60 = .ok (.bipush 10, 2) := by decide +kernel
theorem dX6_yields_62 : decode cX6_yields 62 = .ok (.aload_n 0, 1) := by decide +kernel
theorem dX6_yields_63 : decode cX6_yields 63 = .ok (.getfield 79, 3) := by decide +kernel
theorem dX6_yields_66 : decode cX6_yields 66 = .ok (.imul, 1) := by decide +kernel
theorem dX6_yields_67 : decode cX6_yields 67 = .ok (.aload_n 0, 1) := by decide +kernel
theorem dX6_yields_68 : decode cX6_yields 68 = .ok (.getfield 82, 3) := by decide +kernel
theorem dX6_yields_71 : decode cX6_yields 71 = .ok (.iadd, 1) := by decide +kernel
theorem dX6_yields_72 : decode cX6_yields 72 = .ok (.iload_n 3, 1) := by decide +kernel
theorem dX6_yields_73 : decode cX6_yields 73 = .ok (.invokevirtual 175, 3) := by decide +kernel
theorem dX6_yields_76 : decode cX6_yields 76 = .ok (.iinc 5 1, 3) := by decide +kernel
theorem dX6_yields_79 : decode cX6_yields 79 = .ok (.goto (-43), 3) := by decide +kernel
theorem dX6_yields_82 : decode cX6_yields 82 = .ok (.aload_n 0, 1) := by decide +kernel
theorem dX6_yields_83 : decode cX6_yields 83 = .ok (.iload 4, 2) := by decide +kernel
theorem dX6_yields_85 : decode cX6_yields 85 = .ok (.invokevirtual 178, 3) := by decide +kernel
theorem dX6_yields_88 : decode cX6_yields 88 = .ok (.ireturn, 1) := by decide +kernel
set_option maxRecDepth 20000 in
theorem ggX6_fallsIn_X6_begin : GoodIn wsX6_fallsIn wsX6_begin := goodIn_r _ [7, 8, 9, 10, 11, 2, 1, 34, 35, 36, 37, 38, 39, 40, 41, 42, 43, 44, 45, 46, 47, 48, 49, 50, 51, 52, 53, 54, 55, 56, 57, 58, 59, 60, 61, 62, 63, 64, 65, 66] (by decide +kernel) (by decide +kernel)
set_option maxRecDepth 20000 in
theorem gX6_fallsIn_X6_begin : GoodIn wsX6_fallsIn (wsV RX6 125 RX6 yX6_begin wsX6_begin) := goodIn_app (goodIn_of _ (by decide +kernel)) ggX6_fallsIn_X6_begin
set_option maxRecDepth 20000 in
theorem ggX6_fallsIn_X6_step : GoodIn wsX6_fallsIn wsX6_step := goodIn_r _ [15, 8, 9, 16, 17, 18, 19, 20, 21, 22, 23, 2, 11, 10, 24, 25, 1, 26, 27, 28, 6, 29, 30, 31, 32, 33, 34, 35, 36, 37, 38, 39, 40, 41, 42, 43, 44, 45, 46, 47, 48, 49, 50, 51, 52, 53, 54, 55, 56, 57, 58, 59, 60, 61, 62, 63, 64, 65, 66] (by decide +kernel) (by decide +kernel)
set_option maxRecDepth 20000 in
theorem gX6_fallsIn_X6_step : GoodIn wsX6_fallsIn (wsV RX6 128 RX6 yX6_step wsX6_step) := goodIn_app (goodIn_of _ (by decide +kernel)) ggX6_fallsIn_X6_step
theorem dX6_fallsIn_0 : decode cX6_fallsIn 0 = .ok (.aload_n 0, 1) := by decide +kernel
theorem dX6_fallsIn_1 : decode cX6_fallsIn 1 = .ok (.invokevirtual 125, 3) := by decide +kernel
theorem dX6_fallsIn_4 : decode cX6_fallsIn 4 = .ok (.aload_n 0, 1) := by decide +kernel
theorem dX6_fallsIn_5 : decode cX6_fallsIn 5 = .ok (.getfield 109, 3) := by decide +kernel
theorem dX6_fallsIn_8 : decode cX6_fallsIn 8 = .ok (.iload_n 1, 1) := by decide +kernel
theorem dX6_fallsIn_9 : decode cX6_fallsIn 9 = .ok (.if_icmp .ge 17, 3) := by decide +kernel
theorem dX6_fallsIn_12 : decode cX6_fallsIn 12 = .ok (.aload_n 0, 1) := by decide +kernel
theorem dX6_fallsIn_13 : decode cX6_fallsIn 13 = .ok (.getfield 106, 3) := by decide +kernel
theorem dX6_fallsIn_16 : decode cX6_fallsIn 16 = .ok (.ifCond .ne 10, 3) := by decide +kernel
theorem dX6_fallsIn_19 : decode cX6_fallsIn 19 = .ok (.aload_n 0, 1) := by decide +kernel
theorem dX6_fallsIn_20 : decode cX6_fallsIn 20 = .ok (.invokevirtual 128, 3) := by decide +kernel
theorem dX6_fallsIn_23 : decode cX6_fallsIn 23 = .ok (.goto (-19), 3) := by decide +kernel
theorem dX6_fallsIn_26 : decode cX6_fallsIn 26 = .ok (.aload_n 0, 1) := by decide +kernel
theorem dX6_fallsIn_27 : decode cX6_fallsIn 27 = .ok (.getfield 106, 3) := by decide +kernel
theorem dX6_fallsIn_30 : decode cX6_fallsIn 30 = .ok (.ifCond .le 7, 3) := by decide +kernel
theorem dX6_fallsIn_33 : decode cX6_fallsIn 33 = .ok (.iconst 1, 1) := by decide +kernel
theorem dX6_fallsIn_34 : decode cX6_fallsIn 34 = .ok (.goto 4, 3) := by decide +kernel
theorem dX6_fallsIn_37 : decode cX6_fallsIn 37 = .ok (.iconst 0, 1) := by decide +kernel
theorem dX6_fallsIn_38 : decode cX6_fallsIn 38 = .ok (.ireturn, 1) := by decide +kernel
set_option maxRecDepth 20000 in
theorem ggX6_practice_X6_isPair : GoodIn wsX6_practice wsX6_isPair := goodIn_r _ [9, 10, 11, 12, 8, 13, 14, 15, 16, 17, 18, 60, 61, 62, 63, 64, 65, 66, 67, 68, 69, 70, 71, 72, 73, 74, 75, 76, 77, 78, 79, 80, 81, 82, 83, 84, 85, 86, 87, 88, 89, 90, 91, 92] (by decide +kernel) (by decide +kernel)
set_option maxRecDepth 20000 in
theorem gX6_practice_X6_isPair : GoodIn wsX6_practice (wsV RX6 136 RX6 yX6_isPair wsX6_isPair) := goodIn_app (goodIn_of _ (by decide +kernel)) ggX6_practice_X6_isPair
set_option maxRecDepth 20000 in
theorem ggX6_practice_X6_in : GoodIn wsX6_practice wsX6_in := goodIn_r _ [18] (by decide +kernel) (by decide +kernel)
set_option maxRecDepth 20000 in
theorem gX6_practice_X6_in : GoodIn wsX6_practice (va_wsS RX6 50 yX6_in wsX6_in) := goodIn_app (goodIn_of _ (by decide +kernel)) ggX6_practice_X6_in
set_option maxRecDepth 20000 in
theorem ggX6_practice_X6_layPair : GoodIn wsX6_practice wsX6_layPair := goodIn_r _ [22, 23, 24, 25, 2, 3, 4, 26, 27, 28, 29, 30, 60, 61, 62, 63, 64, 65, 66, 67, 68, 69, 70, 71, 72, 73, 74, 75, 76, 77, 78, 79, 80, 81, 82, 83, 84, 85, 86, 87, 88, 89, 90, 91, 92] (by decide +kernel) (by decide +kernel)
set_option maxRecDepth 20000 in
theorem gX6_practice_X6_layPair : GoodIn wsX6_practice (wsV RX6 142 RX6 yX6_layPair wsX6_layPair) := goodIn_app (goodIn_of _ (by decide +kernel)) ggX6_practice_X6_layPair
set_option maxRecDepth 20000 in
theorem ggX6_practice_X6_fallsIn : GoodIn wsX6_practice wsX6_fallsIn := goodIn_r _ [34, 35, 36, 37, 38, 39, 8, 40, 41, 42, 43, 44, 45, 46, 47, 48, 24, 3, 25, 4, 49, 30, 50, 51, 27, 52, 53, 54, 55, 56, 28, 57, 58, 59, 60, 61, 62, 63, 64, 65, 66, 67, 68, 69, 70, 71, 72, 73, 74, 75, 76, 77, 78, 79, 80, 81, 82, 83, 84, 85, 86, 87, 88, 89, 90, 91, 92] (by decide +kernel) (by decide +kernel)
set_option maxRecDepth 20000 in
theorem gX6_practice_X6_fallsIn : GoodIn wsX6_practice (wsV RX6 181 RX6 yX6_fallsIn wsX6_fallsIn) := goodIn_app (goodIn_of _ (by decide +kernel)) ggX6_practice_X6_fallsIn
theorem dX6_practice_0 : decode cX6_practice 0 = .ok (.aload_n 0, 1) := by decide +kernel
theorem dX6_practice_1 : decode cX6_practice 1 = .ok (.iload_n 1, 1) := by decide +kernel
theorem dX6_practice_2 : decode cX6_practice 2 = .ok (.iload_n 2, 1) := by decide +kernel
theorem dX6_practice_3 : decode cX6_practice 3 = .ok (.invokevirtual 136, 3) := by decide +kernel
theorem dX6_practice_6 : decode cX6_practice 6 = .ok (.ifCond .ne 5, 3) := by decide +kernel
theorem dX6_practice_9 : decode cX6_practice 9 = .ok (.iconst (-1), 1) := by decide +kernel
theorem dX6_practice_10 : decode cX6_practice 10 = .ok (.ireturn, 1) := by decide +kernel
theorem dX6_practice_11 : decode cX6_practice 11 = .ok (.iload_n 3, 1) := by decide +kernel
theorem dX6_practice_12 : decode cX6_practice 12 = .ok (.i2l, 1) := by decide +kernel
theorem dX6_practice_13 : decode cX6_practice 13 = .ok (.lconst 0, 1) := by decide +kernel
theorem dX6_practice_14 : decode cX6_practice 14 = .ok (.ldc2_w 140, 3) := by decide +kernel
theorem dX6_practice_17 : decode cX6_practice 17 = .ok (.invokestatic 50, 3) := by decide +kernel
theorem dX6_practice_20 : decode cX6_practice 20 = .ok (.ifCond .eq 14, 3) := by decide +kernel
theorem dX6_practice_23 : decode cX6_practice 23 = .ok (.iload 4, 2) := by decide +kernel
theorem dX6_practice_25 : decode cX6_practice 25 = .ok (.i2l, 1) := by decide +kernel
theorem dX6_practice_26 : decode cX6_practice 26 = .ok (.lconst 0, 1) := by decide +kernel
theorem dX6_practice_27 : decode cX6_practice 27 = .ok (.lconst 1, 1) := by decide +kernel
theorem dX6_practice_28 : decode cX6_practice 28 = .ok (.invokestatic 50, 3) := by decide +kernel
theorem dX6_practice_31 : decode cX6_practice 31 = .ok (.ifCond .ne 6, 3) := by decide +kernel
theorem dX6_practice_34 : decode cX6_practice 34 = .ok (.bipush (-2), 2) := by decide +kernel
theorem dX6_practice_36 : decode cX6_practice 36 = .ok (.ireturn, 1) := by decide +kernel
theorem dX6_practice_37 : decode cX6_practice 37 = .ok (.aload_n 0, 1) := by decide +kernel
theorem dX6_practice_38 : decode cX6_practice 38 = .ok (.iload_n 1, 1) := by decide +kernel
theorem dX6_practice_39 : decode cX6_practice 39 = .ok (.iload_n 2, 1) := by decide +kernel
theorem dX6_practice_40 : decode cX6_practice 40 = .ok (.invokevirtual 142, 3) := by decide +kernel
theorem dX6_practice_43 : decode cX6_practice 43 = .ok (.bipush (-6), 2) := by decide +kernel
theorem dX6_practice_45 : decode cX6_practice 45 = .ok (.istore 5, 2) := by decide +kernel
theorem dX6_practice_47 : decode cX6_practice 47 = .ok (.iconst 0, 1) := by decide +kernel
theorem dX6_practice_48 : decode cX6_practice 48 = .ok (.istore 6, 2) := by decide +kernel
theorem dX6_practice_50 : decode cX6_practice 50 = .ok (.aload_n 0, 1) := by decide +kernel
theorem dX6_practice_51 : decode cX6_practice 51 = .ok (.getfield 16, 3) := by decide +kernel
theorem dX6_practice_54 : decode cX6_practice 54 = .ok (.iload_n 1, 1) := by decide +kernel
theorem dX6_practice_55 : decode cX6_practice 55 = .ok (.iaload, 1) := by decide +kernel
theorem dX6_practice_56 : decode cX6_practice 56 = .ok (.istore 7, 2) := by decide +kernel
theorem dX6_practice_58 : decode cX6_practice 58 = .ok (.iload 7, 2) := by decide +kernel
theorem dX6_practice_60 : decode cX6_practice 60 = .ok (.iconst 5, 1) := by decide +kernel
theorem dX6_practice_61 : decode cX6_practice 61 = .ok (.if_icmp .ge 96, 3) := by decide +kernel
theorem dX6_practice_64 : decode cX6_practice 64 = .ok (.aload_n 0, 1) := by decide +kernel
theorem dX6_practice_65 : decode cX6_practice 65 = .ok (.getfield 16, 3) := by decide +kernel
theorem dX6_practice_68 : decode cX6_practice 68 = .ok (.iload_n 2, 1) := by decide +kernel
theorem dX6_practice_69 : decode cX6_practice 69 = .ok (.iaload, 1) := by decide +kernel
theorem dX6_practice_70 : decode cX6_practice 70 = .ok (.istore 8, 2) := by decide +kernel
theorem dX6_practice_72 : decode cX6_practice 72 = .ok (.iload 8, 2) := by decide +kernel
theorem dX6_practice_74 : decode cX6_practice 74 = .ok (.iconst 5, 1) := by decide +kernel
theorem dX6_practice_75 : decode cX6_practice 75 = .ok (.if_icmp .ge 76, 3) := by decide +kernel
theorem dX6_practice_78 : decode cX6_practice 78 = .ok (.iload 7, 2) := by decide +kernel
theorem dX6_practice_80 : decode cX6_practice 80 = .ok (.aload_n 0, 1) := by decide +kernel
theorem dX6_practice_81 : decode cX6_practice 81 = .ok (.getfield 16, 3) := by decide +kernel
theorem dX6_practice_84 : decode cX6_practice 84 = .ok (.iload_n 1, 1) := by decide +kernel
theorem dX6_practice_85 : decode cX6_practice 85 = .ok (.iaload, 1) := by decide +kernel
theorem dX6_practice_86 : decode cX6_practice 86 = .ok (.isub, 1) := by decide +kernel
theorem dX6_practice_87 : decode cX6_practice 87 = .ok (.iload 8, 2) := by decide +kernel
theorem dX6_practice_89 : decode cX6_practice 89 = .ok (.iadd, 1) := by decide +kernel
theorem dX6_practice_90 : decode cX6_practice 90 = .ok (.aload_n 0, 1) := by decide +kernel
theorem dX6_practice_91 : decode cX6_practice 91 = .ok (.getfield 16, 3) := by decide +kernel
theorem dX6_practice_94 : decode cX6_practice 94 = .ok (.iload_n 2, 1) := by decide +kernel
theorem dX6_practice_95 : decode cX6_practice 95 = .ok (.iaload, 1) := by decide +kernel
theorem dX6_practice_96 : decode cX6_practice 96 = .ok (.isub, 1) := by decide +kernel
theorem dX6_practice_97 : decode cX6_practice 97 = .ok (.istore 9, 2) := by decide +kernel
theorem dX6_practice_99 : decode cX6_practice 99 = .ok (.aload_n 0, 1) := by decide +kernel
theorem dX6_practice_100 : decode cX6_practice 100 = .ok (.iload 7, 2) := by decide +kernel
theorem dX6_practice_102 : decode cX6_practice 102 = .ok (.putfield 79, 3) := by decide +kernel
theorem dX6_practice_105 : decode cX6_practice 105 = .ok (.aload_n 0, 1) := by decide +kernel
theorem dX6_practice_106 : decode cX6_practice 106 = .ok (.iload 8, 2) := by decide +kernel
theorem dX6_practice_108 : decode cX6_practice 108 = .ok (.putfield 82, 3) := by decide +kernel
theorem dX6_practice_111 : decode cX6_practice 111 = .ok (.iload 5, 2) := by decide +kernel
theorem dX6_practice_113 : decode cX6_practice 113 = .ok (.ifCond .lt 10, 3) := by decide +kernel
theorem dX6_practice_116 : decode cX6_practice 116 = .ok (.iload 9, 2) := by decide +kernel
theorem dX6_practice_118 : decode cX6_practice 118 = .ok (.iload 6, 2) := by decide +kernel
theorem dX6_practice_120 : decode cX6_practice 120 = .ok (.if_icmp .ge 25, 3) := by decide +kernel
theorem dX6_practice_123 : decode cX6_practice 123 = .ok (.aload_n 0, 1) := by decide +kernel
theorem dX6_practice_124 : decode cX6_practice 124 = .ok (.iload_n 3, 1) := by decide +kernel
theorem dX6_practice_125 : decode cX6_practice 125 = .ok (.invokevirtual 181, 3) := by decide +kernel
theorem dX6_practice_128 : decode cX6_practice 128 = .ok (.ifCond .ne 17, 3) := by decide +kernel
theorem dX6_practice_131 : decode cX6_practice 131 = .ok (.bipush 10, 2) := by decide +kernel
theorem dX6_practice_133 : decode cX6_practice 133 = .ok (.iload 7, 2) := by decide +kernel
theorem dX6_practice_135 : decode cX6_practice 135 = .ok (.imul, 1) := by decide +kernel
theorem dX6_practice_136 : decode cX6_practice 136 = .ok (.iload 8, 2) := by decide +kernel
theorem dX6_practice_138 : decode cX6_practice 138 = .ok (.iadd, 1) := by decide +kernel
theorem dX6_practice_139 : decode cX6_practice 139 = .ok (.istore 5, 2) := by decide +kernel
theorem dX6_practice_141 : decode cX6_practice 141 = .ok (.iload 9, 2) := by decide +kernel
theorem dX6_practice_143 : decode cX6_practice 143 = .ok (.istore 6, 2) := by decide +kernel
theorem dX6_practice_145 : decode cX6_practice 145 = .ok (.iinc 8 1, 3) := by decide +kernel
theorem dX6_practice_148 : decode cX6_practice 148 = .ok (.goto (-76), 3) := by decide +kernel
theorem dX6_practice_151 : decode cX6_practice 151 = .ok (.iinc 7 1, 3) := by decide +kernel
theorem dX6_practice_154 : decode cX6_practice 154 = .ok (.goto (-96), 3) := by decide +kernel
theorem dX6_practice_157 : decode cX6_practice 157 = .ok (.iload 5, 2) := by decide +kernel
theorem dX6_practice_159 : decode cX6_practice 159 = .ok (.ifCond .lt 9, 3) := by decide +kernel
theorem dX6_practice_162 : decode cX6_practice 162 = .ok (.iload 4, 2) := by decide +kernel
theorem dX6_practice_164 : decode cX6_practice 164 = .ok (.iconst 1, 1) := by decide +kernel
theorem dX6_practice_165 : decode cX6_practice 165 = .ok (.if_icmp .ne 8, 3) := by decide +kernel
theorem dX6_practice_168 : decode cX6_practice 168 = .ok (.iload 5, 2) := by decide +kernel
theorem dX6_practice_170 : decode cX6_practice 170 = .ok (.goto 5, 3) := by decide +kernel
theorem dX6_practice_173 : decode cX6_practice 173 = .ok (.iload 6, 2) := by decide +kernel
theorem dX6_practice_175 : decode cX6_practice 175 = .ok (.ireturn, 1) := by decide +kernel
set_option maxRecDepth 20000 in
theorem ggX6_scarf_X6_isPair : GoodIn wsX6_scarf wsX6_isPair := goodIn_r _ [8, 9, 10, 11, 7, 12, 13, 14, 15, 16, 17, 69, 70, 71, 72, 73, 74, 75, 76, 77, 78, 79, 80, 81, 82, 83, 84, 85, 86, 87, 88, 89, 90, 91, 92, 93, 94, 95, 96, 97, 98, 99, 100, 101] (by decide +kernel) (by decide +kernel)
set_option maxRecDepth 20000 in
theorem gX6_scarf_X6_isPair : GoodIn wsX6_scarf (wsV RX6 136 RX6 yX6_isPair wsX6_isPair) := goodIn_app (goodIn_of _ (by decide +kernel)) ggX6_scarf_X6_isPair
set_option maxRecDepth 20000 in
theorem ggX6_scarf_X6_isFar : GoodIn wsX6_scarf wsX6_isFar := goodIn_r _ [20, 21, 15, 16, 7, 17] (by decide +kernel) (by decide +kernel)
set_option maxRecDepth 20000 in
theorem gX6_scarf_X6_isFar : GoodIn wsX6_scarf (va_wsS RX6 146 yX6_isFar wsX6_isFar) := goodIn_app (goodIn_of _ (by decide +kernel)) ggX6_scarf_X6_isFar
set_option maxRecDepth 20000 in
theorem ggX6_scarf_X6_in : GoodIn wsX6_scarf wsX6_in := goodIn_r _ [17] (by decide +kernel) (by decide +kernel)
set_option maxRecDepth 20000 in
theorem gX6_scarf_X6_in : GoodIn wsX6_scarf (va_wsS RX6 50 yX6_in wsX6_in) := goodIn_app (goodIn_of _ (by decide +kernel)) ggX6_scarf_X6_in
set_option maxRecDepth 20000 in
theorem ggX6_scarf_X6_layPair : GoodIn wsX6_scarf wsX6_layPair := goodIn_r _ [25, 26, 27, 28, 29, 30, 31, 32, 33, 34, 35, 3, 69, 70, 71, 72, 73, 74, 75, 76, 77, 78, 79, 80, 81, 82, 83, 84, 85, 86, 87, 88, 89, 90, 91, 92, 93, 94, 95, 96, 97, 98, 99, 100, 101] (by decide +kernel) (by decide +kernel)
set_option maxRecDepth 20000 in
theorem gX6_scarf_X6_layPair : GoodIn wsX6_scarf (wsV RX6 142 RX6 yX6_layPair wsX6_layPair) := goodIn_app (goodIn_of _ (by decide +kernel)) ggX6_scarf_X6_layPair
set_option maxRecDepth 20000 in
theorem ggX6_scarf_X6_timeOf : GoodIn wsX6_scarf wsX6_timeOf := goodIn_r _ [39, 40, 41, 42, 43, 44, 45, 7, 46, 47, 48, 49, 50, 51, 52, 53, 54, 27, 30, 28, 31, 2, 3, 55, 56, 33, 57, 58, 59, 60, 61, 34, 62, 63, 64, 65, 66, 67, 68, 69, 70, 71, 72, 73, 74, 75, 76, 77, 78, 79, 80, 81, 82, 83, 84, 85, 86, 87, 88, 89, 90, 91, 92, 93, 94, 95, 96, 97, 98, 99, 100, 101] (by decide +kernel) (by decide +kernel)
set_option maxRecDepth 20000 in
theorem gX6_scarf_X6_timeOf : GoodIn wsX6_scarf (wsV RX6 149 RX6 yX6_timeOf wsX6_timeOf) := goodIn_app (goodIn_of _ (by decide +kernel)) ggX6_scarf_X6_timeOf
theorem dX6_scarf_0 : decode cX6_scarf 0 = .ok (.aload_n 0, 1) := by decide +kernel
theorem dX6_scarf_1 : decode cX6_scarf 1 = .ok (.iload_n 1, 1) := by decide +kernel
theorem dX6_scarf_2 : decode cX6_scarf 2 = .ok (.iload_n 2, 1) := by decide +kernel
theorem dX6_scarf_3 : decode cX6_scarf 3 = .ok (.invokevirtual 136, 3) := by decide +kernel
theorem dX6_scarf_6 : decode cX6_scarf 6 = .ok (.ifCond .ne 5, 3) := by decide +kernel
theorem dX6_scarf_9 : decode cX6_scarf 9 = .ok (.iconst (-1), 1) := by decide +kernel
theorem dX6_scarf_10 : decode cX6_scarf 10 = .ok (.ireturn, 1) := by decide +kernel
theorem dX6_scarf_11 : decode cX6_scarf 11 = .ok (.iload_n 3, 1) := by decide +kernel
theorem dX6_scarf_12 : decode cX6_scarf 12 = .ok (.invokestatic 146, 3) := by decide +kernel
theorem dX6_scarf_15 : decode cX6_scarf 15 = .ok (.ifCond .eq 16, 3) := by decide +kernel
theorem dX6_scarf_18 : decode cX6_scarf 18 = .ok (.iload 4, 2) := by decide +kernel
theorem dX6_scarf_20 : decode cX6_scarf 20 = .ok (.i2l, 1) := by decide +kernel
theorem dX6_scarf_21 : decode cX6_scarf 21 = .ok (.lconst 0, 1) := by decide +kernel
theorem dX6_scarf_22 : decode cX6_scarf 22 = .ok (.ldc2_w 184, 3) := by decide +kernel
theorem dX6_scarf_25 : decode cX6_scarf 25 = .ok (.invokestatic 50, 3) := by decide +kernel
theorem dX6_scarf_28 : decode cX6_scarf 28 = .ok (.ifCond .ne 6, 3) := by decide +kernel
theorem dX6_scarf_31 : decode cX6_scarf 31 = .ok (.bipush (-2), 2) := by decide +kernel
theorem dX6_scarf_33 : decode cX6_scarf 33 = .ok (.ireturn, 1) := by decide +kernel
theorem dX6_scarf_34 : decode cX6_scarf 34 = .ok (.aload_n 0, 1) := by decide +kernel
theorem dX6_scarf_35 : decode cX6_scarf 35 = .ok (.iload_n 1, 1) := by decide +kernel
theorem dX6_scarf_36 : decode cX6_scarf 36 = .ok (.iload_n 2, 1) := by decide +kernel
theorem dX6_scarf_37 : decode cX6_scarf 37 = .ok (.invokevirtual 142, 3) := by decide +kernel
theorem dX6_scarf_40 : decode cX6_scarf 40 = .ok (.iconst 0, 1) := by decide +kernel
theorem dX6_scarf_41 : decode cX6_scarf 41 = .ok (.istore 5, 2) := by decide +kernel
theorem dX6_scarf_43 : decode cX6_scarf 43 = .ok (.iload 5, 2) := by decide +kernel
theorem dX6_scarf_45 : decode cX6_scarf 45 = .ok (.aload_n 0, 1) := by decide +kernel
theorem dX6_scarf_46 : decode cX6_scarf 46 = .ok (.getfield 42, 3) := by decide +kernel
theorem dX6_scarf_49 : decode cX6_scarf 49 = .ok (.if_icmp .gt 28, 3) := by decide +kernel
theorem dX6_scarf_52 : decode cX6_scarf 52 = .ok (.aload_n 0, 1) := by decide +kernel
theorem dX6_scarf_53 : decode cX6_scarf 53 = .ok (.iload 5, 2) := by decide +kernel
theorem dX6_scarf_55 : decode cX6_scarf 55 = .ok (.putfield 91, 3) := by decide +kernel
theorem dX6_scarf_58 : decode cX6_scarf 58 = .ok (.aload_n 0, 1) := by decide +kernel
theorem dX6_scarf_59 : decode cX6_scarf 59 = .ok (.iload_n 3, 1) := by decide +kernel
theorem dX6_scarf_60 : decode cX6_scarf 60 = .ok (.invokevirtual 149, 3) := by decide +kernel
theorem dX6_scarf_63 : decode cX6_scarf 63 = .ok (.iload 4, 2) := by decide +kernel
theorem dX6_scarf_65 : decode cX6_scarf 65 = .ok (.if_icmp .gt 6, 3) := by decide +kernel
theorem dX6_scarf_68 : decode cX6_scarf 68 = .ok (.iload 5, 2) := by decide +kernel
theorem dX6_scarf_70 : decode cX6_scarf 70 = .ok (.ireturn, 1) := by decide +kernel
theorem dX6_scarf_71 : decode cX6_scarf 71 = .ok (.iinc 5 1, 3) := by decide +kernel
theorem dX6_scarf_74 : decode cX6_scarf 74 = .ok (.goto (-31), 3) := by decide +kernel
theorem dX6_scarf_77 : decode cX6_scarf 77 = .ok (.bipush (-6), 2) := by decide +kernel
theorem dX6_scarf_79 : decode cX6_scarf 79 = .ok (.ireturn, 1) := by decide +kernel
set_option maxRecDepth 20000 in
theorem ggX6_even_X6_isPair : GoodIn wsX6_even wsX6_isPair := goodIn_r _ [6, 7, 8, 9, 5, 10, 11, 12, 13, 14, 15, 68, 69, 70, 71, 72, 73, 74, 75, 76, 77, 78, 79, 80, 81, 82, 83, 84, 85, 86, 87, 88, 89, 90, 91, 92, 93, 94, 95, 96, 97, 98, 99, 100] (by decide +kernel) (by decide +kernel)
set_option maxRecDepth 20000 in
theorem gX6_even_X6_isPair : GoodIn wsX6_even (wsV RX6 136 RX6 yX6_isPair wsX6_isPair) := goodIn_app (goodIn_of _ (by decide +kernel)) ggX6_even_X6_isPair
set_option maxRecDepth 20000 in
theorem ggX6_even_X6_isFar : GoodIn wsX6_even wsX6_isFar := goodIn_r _ [18, 19, 13, 14, 5, 15] (by decide +kernel) (by decide +kernel)
set_option maxRecDepth 20000 in
theorem gX6_even_X6_isFar : GoodIn wsX6_even (va_wsS RX6 146 yX6_isFar wsX6_isFar) := goodIn_app (goodIn_of _ (by decide +kernel)) ggX6_even_X6_isFar
set_option maxRecDepth 20000 in
theorem ggX6_even_X6_layPair : GoodIn wsX6_even wsX6_layPair := goodIn_r _ [23, 24, 25, 26, 27, 28, 29, 30, 31, 32, 33, 34, 68, 69, 70, 71, 72, 73, 74, 75, 76, 77, 78, 79, 80, 81, 82, 83, 84, 85, 86, 87, 88, 89, 90, 91, 92, 93, 94, 95, 96, 97, 98, 99, 100] (by decide +kernel) (by decide +kernel)
set_option maxRecDepth 20000 in
theorem gX6_even_X6_layPair : GoodIn wsX6_even (wsV RX6 142 RX6 yX6_layPair wsX6_layPair) := goodIn_app (goodIn_of _ (by decide +kernel)) ggX6_even_X6_layPair
set_option maxRecDepth 20000 in
theorem ggX6_even_X6_timeOf : GoodIn wsX6_even wsX6_timeOf := goodIn_r _ [38, 39, 40, 1, 41, 42, 43, 5, 44, 45, 46, 47, 48, 49, 50, 51, 52, 25, 28, 26, 29, 53, 34, 54, 55, 31, 56, 57, 58, 59, 60, 32, 61, 62, 63, 64, 65, 66, 67, 68, 69, 70, 71, 72, 73, 74, 75, 76, 77, 78, 79, 80, 81, 82, 83, 84, 85, 86, 87, 88, 89, 90, 91, 92, 93, 94, 95, 96, 97, 98, 99, 100] (by decide +kernel) (by decide +kernel)
set_option maxRecDepth 20000 in
theorem gX6_even_X6_timeOf : GoodIn wsX6_even (wsV RX6 149 RX6 yX6_timeOf wsX6_timeOf) := goodIn_app (goodIn_of _ (by decide +kernel)) ggX6_even_X6_timeOf
theorem dX6_even_0 : decode cX6_even 0 = .ok (.aload_n 0, 1) := by decide +kernel
theorem dX6_even_1 : decode cX6_even 1 = .ok (.iload_n 1, 1) := by decide +kernel
theorem dX6_even_2 : decode cX6_even 2 = .ok (.iload_n 2, 1) := by decide +kernel
theorem dX6_even_3 : decode cX6_even 3 = .ok (.invokevirtual 136, 3) := by decide +kernel
theorem dX6_even_6 : decode cX6_even 6 = .ok (.ifCond .eq 13, 3) := by decide +kernel
theorem dX6_even_9 : decode cX6_even 9 = .ok (.aload_n 0, 1) := by decide +kernel
theorem dX6_even_10 : decode cX6_even 10 = .ok (.iload_n 3, 1) := by decide +kernel
theorem dX6_even_11 : decode cX6_even 11 = .ok (.iload 4, 2) := by decide +kernel
theorem dX6_even_13 : decode cX6_even 13 = .ok (.invokevirtual 136, 3) := by decide +kernel
theorem dX6_even_16 : decode cX6_even 16 = .ok (.ifCond .ne 5, 3) := by decide +kernel
theorem dX6_even_19 : decode cX6_even 19 = .ok (.iconst (-1), 1) := by decide +kernel
theorem dX6_even_20 : decode cX6_even 20 = .ok (.ireturn, 1) := by decide +kernel
theorem dX6_even_21 : decode cX6_even 21 = .ok (.iload 5, 2) := by decide +kernel
theorem dX6_even_23 : decode cX6_even 23 = .ok (.invokestatic 146, 3) := by decide +kernel
theorem dX6_even_26 : decode cX6_even 26 = .ok (.ifCond .ne 6, 3) := by decide +kernel
theorem dX6_even_29 : decode cX6_even 29 = .ok (.bipush (-2), 2) := by decide +kernel
theorem dX6_even_31 : decode cX6_even 31 = .ok (.ireturn, 1) := by decide +kernel
theorem dX6_even_32 : decode cX6_even 32 = .ok (.aload_n 0, 1) := by decide +kernel
theorem dX6_even_33 : decode cX6_even 33 = .ok (.iload_n 3, 1) := by decide +kernel
theorem dX6_even_34 : decode cX6_even 34 = .ok (.iload 4, 2) := by decide +kernel
theorem dX6_even_36 : decode cX6_even 36 = .ok (.invokevirtual 142, 3) := by decide +kernel
theorem dX6_even_39 : decode cX6_even 39 = .ok (.aload_n 0, 1) := by decide +kernel
theorem dX6_even_40 : decode cX6_even 40 = .ok (.iload 5, 2) := by decide +kernel
theorem dX6_even_42 : decode cX6_even 42 = .ok (.invokevirtual 149, 3) := by decide +kernel
theorem dX6_even_45 : decode cX6_even 45 = .ok (.istore 6, 2) := by decide +kernel
theorem dX6_even_47 : decode cX6_even 47 = .ok (.iload 6, 2) := by decide +kernel
theorem dX6_even_49 : decode cX6_even 49 = .ok (.ldc 135, 2) := by decide +kernel
theorem dX6_even_51 : decode cX6_even 51 = .ok (.if_icmp .ne 6, 3) := by decide +kernel
theorem dX6_even_54 : decode cX6_even 54 = .ok (.bipush (-6), 2) := by decide +kernel
theorem dX6_even_56 : decode cX6_even 56 = .ok (.ireturn, 1) := by decide +kernel
theorem dX6_even_57 : decode cX6_even 57 = .ok (.aload_n 0, 1) := by decide +kernel
theorem dX6_even_58 : decode cX6_even 58 = .ok (.iload_n 1, 1) := by decide +kernel
theorem dX6_even_59 : decode cX6_even 59 = .ok (.iload_n 2, 1) := by decide +kernel
theorem dX6_even_60 : decode cX6_even 60 = .ok (.invokevirtual 142, 3) := by decide +kernel
theorem dX6_even_63 : decode cX6_even 63 = .ok (.iconst 0, 1) := by decide +kernel
theorem dX6_even_64 : decode cX6_even 64 = .ok (.istore 7, 2) := by decide +kernel
theorem dX6_even_66 : decode cX6_even 66 = .ok (.iload 7, 2) := by decide +kernel
theorem dX6_even_68 : decode cX6_even 68 = .ok (.iload 5, 2) := by decide +kernel
theorem dX6_even_70 : decode cX6_even 70 = .ok (.if_icmp .ge 23, 3) := by decide +kernel
theorem dX6_even_73 : decode cX6_even 73 = .ok (.aload_n 0, 1) := by decide +kernel
theorem dX6_even_74 : decode cX6_even 74 = .ok (.iload 5, 2) := by decide +kernel
theorem dX6_even_76 : decode cX6_even 76 = .ok (.iload 7, 2) := by decide +kernel
theorem dX6_even_78 : decode cX6_even 78 = .ok (.isub, 1) := by decide +kernel
theorem dX6_even_79 : decode cX6_even 79 = .ok (.invokevirtual 149, 3) := by decide +kernel
theorem dX6_even_82 : decode cX6_even 82 = .ok (.iload 6, 2) := by decide +kernel
theorem dX6_even_84 : decode cX6_even 84 = .ok (.if_icmp .le 9, 3) := by decide +kernel
theorem dX6_even_87 : decode cX6_even 87 = .ok (.iinc 7 1, 3) := by decide +kernel
theorem dX6_even_90 : decode cX6_even 90 = .ok (.goto (-24), 3) := by decide +kernel
theorem dX6_even_93 : decode cX6_even 93 = .ok (.iload 7, 2) := by decide +kernel
theorem dX6_even_95 : decode cX6_even 95 = .ok (.ireturn, 1) := by decide +kernel
set_option maxRecDepth 20000 in
theorem ggX6_say_X6_in : GoodIn wsX6_say wsX6_in := goodIn_r _ [8] (by decide +kernel) (by decide +kernel)
set_option maxRecDepth 20000 in
theorem gX6_say_X6_in : GoodIn wsX6_say (va_wsS RX6 50 yX6_in wsX6_in) := goodIn_app (goodIn_of _ (by decide +kernel)) ggX6_say_X6_in
theorem dX6_say_0 : decode cX6_say 0 = .ok (.iload_n 1, 1) := by decide +kernel
theorem dX6_say_1 : decode cX6_say 1 = .ok (.i2l, 1) := by decide +kernel
theorem dX6_say_2 : decode cX6_say 2 = .ok (.ldc2_w 186, 3) := by decide +kernel
theorem dX6_say_5 : decode cX6_say 5 = .ok (.ldc2_w 188, 3) := by decide +kernel
theorem dX6_say_8 : decode cX6_say 8 = .ok (.invokestatic 50, 3) := by decide +kernel
theorem dX6_say_11 : decode cX6_say 11 = .ok (.ifCond .ne 6, 3) := by decide +kernel
theorem dX6_say_14 : decode cX6_say 14 = .ok (.bipush (-2), 2) := by decide +kernel
theorem dX6_say_16 : decode cX6_say 16 = .ok (.ireturn, 1) := by decide +kernel
theorem dX6_say_17 : decode cX6_say 17 = .ok (.aload_n 0, 1) := by decide +kernel
theorem dX6_say_18 : decode cX6_say 18 = .ok (.getfield 190, 3) := by decide +kernel
theorem dX6_say_21 : decode cX6_say 21 = .ok (.bipush 40, 2) := by decide +kernel
theorem dX6_say_23 : decode cX6_say 23 = .ok (.if_icmp .ne 6, 3) := by decide +kernel
theorem dX6_say_26 : decode cX6_say 26 = .ok (.bipush (-4), 2) := by decide +kernel
theorem dX6_say_28 : decode cX6_say 28 = .ok (.ireturn, 1) := by decide +kernel
theorem dX6_say_29 : decode cX6_say 29 = .ok (.aload_n 0, 1) := by decide +kernel
theorem dX6_say_30 : decode cX6_say 30 = .ok (.getfield 28, 3) := by decide +kernel
theorem dX6_say_33 : decode cX6_say 33 = .ok (.aload_n 0, 1) := by decide +kernel
theorem dX6_say_34 : decode cX6_say 34 = .ok (.getfield 190, 3) := by decide +kernel
theorem dX6_say_37 : decode cX6_say 37 = .ok (.iload_n 1, 1) := by decide +kernel
theorem dX6_say_38 : decode cX6_say 38 = .ok (.iastore, 1) := by decide +kernel
theorem dX6_say_39 : decode cX6_say 39 = .ok (.aload_n 0, 1) := by decide +kernel
theorem dX6_say_40 : decode cX6_say 40 = .ok (.dup, 1) := by decide +kernel
theorem dX6_say_41 : decode cX6_say 41 = .ok (.getfield 190, 3) := by decide +kernel
theorem dX6_say_44 : decode cX6_say 44 = .ok (.iconst 1, 1) := by decide +kernel
theorem dX6_say_45 : decode cX6_say 45 = .ok (.iadd, 1) := by decide +kernel
theorem dX6_say_46 : decode cX6_say 46 = .ok (.putfield 190, 3) := by decide +kernel
theorem dX6_say_49 : decode cX6_say 49 = .ok (.aload_n 0, 1) := by decide +kernel
theorem dX6_say_50 : decode cX6_say 50 = .ok (.getfield 190, 3) := by decide +kernel
theorem dX6_say_53 : decode cX6_say 53 = .ok (.ireturn, 1) := by decide +kernel
theorem dX6_wipe_0 : decode cX6_wipe 0 = .ok (.aload_n 0, 1) := by decide +kernel
theorem dX6_wipe_1 : decode cX6_wipe 1 = .ok (.getfield 190, 3) := by decide +kernel
theorem dX6_wipe_4 : decode cX6_wipe 4 = .ok (.istore_n 1, 1) := by decide +kernel
theorem dX6_wipe_5 : decode cX6_wipe 5 = .ok (.aload_n 0, 1) := by decide +kernel
theorem dX6_wipe_6 : decode cX6_wipe 6 = .ok (.iconst 0, 1) := by decide +kernel
theorem dX6_wipe_7 : decode cX6_wipe 7 = .ok (.putfield 190, 3) := by decide +kernel
theorem dX6_wipe_10 : decode cX6_wipe 10 = .ok (.iload_n 1, 1) := by decide +kernel
theorem dX6_wipe_11 : decode cX6_wipe 11 = .ok (.ireturn, 1) := by decide +kernel
theorem dX6_fault_0 : decode cX6_fault 0 = .ok (.iconst 0, 1) := by decide +kernel
theorem dX6_fault_1 : decode cX6_fault 1 = .ok (.istore_n 1, 1) := by decide +kernel
theorem dX6_fault_2 : decode cX6_fault 2 = .ok (.iload_n 1, 1) := by decide +kernel
theorem dX6_fault_3 : decode cX6_fault 3 = .ok (.aload_n 0, 1) := by decide +kernel
theorem dX6_fault_4 : decode cX6_fault 4 = .ok (.getfield 190, 3) := by decide +kernel
theorem dX6_fault_7 : decode cX6_fault 7 = .ok (.if_icmp .ge 42, 3) := by decide +kernel
theorem dX6_fault_10 : decode cX6_fault 10 = .ok (.aload_n 0, 1) := by decide +kernel
theorem dX6_fault_11 : decode cX6_fault 11 = .ok (.getfield 28, 3) := by decide +kernel
theorem dX6_fault_14 : decode cX6_fault 14 = .ok (.iload_n 1, 1) := by decide +kernel
theorem dX6_fault_15 : decode cX6_fault 15 = .ok (.iaload, 1) := by decide +kernel
theorem dX6_fault_16 : decode cX6_fault 16 = .ok (.istore_n 2, 1) := by decide +kernel
theorem dX6_fault_17 : decode cX6_fault 17 = .ok (.iload_n 2, 1) := by decide +kernel
theorem dX6_fault_18 : decode cX6_fault 18 = .ok (.bipush 115, 2) := by decide +kernel
theorem dX6_fault_20 : decode cX6_fault 20 = .ok (.if_icmp .eq 23, 3) := by decide +kernel
theorem dX6_fault_23 : decode cX6_fault 23 = .ok (.iload_n 2, 1) := by decide +kernel
theorem dX6_fault_24 : decode cX6_fault 24 = .ok (.bipush 108, 2) := by decide +kernel
theorem dX6_fault_26 : decode cX6_fault 26 = .ok (.if_icmp .eq 17, 3) := by decide +kernel
theorem dX6_fault_29 : decode cX6_fault 29 = .ok (.iload_n 2, 1) := by decide +kernel
theorem dX6_fault_30 : decode cX6_fault 30 = .ok (.bipush 102, 2) := by decide +kernel
theorem dX6_fault_32 : decode cX6_fault 32 = .ok (.if_icmp .eq 11, 3) := by decide +kernel
theorem dX6_fault_35 : decode cX6_fault 35 = .ok (.iload_n 2, 1) := by decide +kernel
theorem dX6_fault_36 : decode cX6_fault 36 = .ok (.bipush 63, 2) := by decide +kernel
theorem dX6_fault_38 : decode cX6_fault 38 = .ok (.if_icmp .eq 5, 3) := by decide +kernel
theorem dX6_fault_41 : decode cX6_fault 41 = .ok (.iload_n 1, 1) := by decide +kernel
theorem dX6_fault_42 : decode cX6_fault 42 = .ok (.ireturn, 1) := by decide +kernel
theorem dX6_fault_43 : decode cX6_fault 43 = .ok (.iinc 1 1, 3) := by decide +kernel
theorem dX6_fault_46 : decode cX6_fault 46 = .ok (.goto (-44), 3) := by decide +kernel
theorem dX6_fault_49 : decode cX6_fault 49 = .ok (.bipush (-6), 2) := by decide +kernel
theorem dX6_fault_51 : decode cX6_fault 51 = .ok (.ireturn, 1) := by decide +kernel
set_option maxRecDepth 20000 in
theorem ggX6_judged_X6_layPair : GoodIn wsX6_judged wsX6_layPair := goodIn_r _ [8, 9, 10, 11, 12, 13, 14, 15, 16, 17, 18, 19, 44, 45, 46, 47, 48, 49, 50, 51, 52, 53, 54, 55, 56, 57, 58, 59, 60, 61, 62, 63, 64, 65, 66, 67, 68, 69, 70, 71, 72, 73, 74, 75, 76] (by decide +kernel) (by decide +kernel)
set_option maxRecDepth 20000 in
theorem gX6_judged_X6_layPair : GoodIn wsX6_judged (wsV RX6 142 RX6 yX6_layPair wsX6_layPair) := goodIn_app (goodIn_of _ (by decide +kernel)) ggX6_judged_X6_layPair
set_option maxRecDepth 20000 in
theorem ggX6_judged_X6_begin : GoodIn wsX6_judged wsX6_begin := goodIn_r _ [23, 24, 25, 26, 27, 28, 29, 44, 45, 46, 47, 48, 49, 50, 51, 52, 53, 54, 55, 56, 57, 58, 59, 60, 61, 62, 63, 64, 65, 66, 67, 68, 69, 70, 71, 72, 73, 74, 75, 76] (by decide +kernel) (by decide +kernel)
set_option maxRecDepth 20000 in
theorem gX6_judged_X6_begin : GoodIn wsX6_judged (wsV RX6 125 RX6 yX6_begin wsX6_begin) := goodIn_app (goodIn_of _ (by decide +kernel)) ggX6_judged_X6_begin
set_option maxRecDepth 20000 in
theorem ggX6_judged_X6_step : GoodIn wsX6_judged wsX6_step := goodIn_r _ [33, 24, 25, 10, 13, 11, 14, 34, 19, 3, 35, 28, 27, 26, 16, 36, 29, 37, 38, 39, 7, 40, 17, 41, 42, 43, 44, 45, 46, 47, 48, 49, 50, 51, 52, 53, 54, 55, 56, 57, 58, 59, 60, 61, 62, 63, 64, 65, 66, 67, 68, 69, 70, 71, 72, 73, 74, 75, 76] (by decide +kernel) (by decide +kernel)
set_option maxRecDepth 20000 in
theorem gX6_judged_X6_step : GoodIn wsX6_judged (wsV RX6 128 RX6 yX6_step wsX6_step) := goodIn_app (goodIn_of _ (by decide +kernel)) ggX6_judged_X6_step
theorem dX6_judged_0 : decode cX6_judged 0 = .ok (.aload_n 0, 1) := by decide +kernel
theorem dX6_judged_1 : decode cX6_judged 1 = .ok (.iload_n 1, 1) := by decide +kernel
theorem dX6_judged_2 : decode cX6_judged 2 = .ok (.iload_n 2, 1) := by decide +kernel
theorem dX6_judged_3 : decode cX6_judged 3 = .ok (.invokevirtual 142, 3) := by decide +kernel
theorem dX6_judged_6 : decode cX6_judged 6 = .ok (.aload_n 0, 1) := by decide +kernel
theorem dX6_judged_7 : decode cX6_judged 7 = .ok (.invokevirtual 125, 3) := by decide +kernel
theorem dX6_judged_10 : decode cX6_judged 10 = .ok (.iconst 0, 1) := by decide +kernel
theorem dX6_judged_11 : decode cX6_judged 11 = .ok (.istore_n 3, 1) := by decide +kernel
theorem dX6_judged_12 : decode cX6_judged 12 = .ok (.iload_n 3, 1) := by decide +kernel
theorem dX6_judged_13 : decode cX6_judged 13 = .ok (.aload_n 0, 1) := by decide +kernel
theorem dX6_judged_14 : decode cX6_judged 14 = .ok (.getfield 190, 3) := by decide +kernel
theorem dX6_judged_17 : decode cX6_judged 17 = .ok (.if_icmp .ge 39, 3) := by decide +kernel
theorem dX6_judged_20 : decode cX6_judged 20 = .ok (.aload_n 0, 1) := by decide +kernel
theorem dX6_judged_21 : decode cX6_judged 21 = .ok (.invokevirtual 128, 3) := by decide +kernel
theorem dX6_judged_24 : decode cX6_judged 24 = .ok (.aload_n 0, 1) := by decide +kernel
theorem dX6_judged_25 : decode cX6_judged 25 = .ok (.getfield 28, 3) := by decide +kernel
theorem dX6_judged_28 : decode cX6_judged 28 = .ok (.iload_n 3, 1) := by decide +kernel
theorem dX6_judged_29 : decode cX6_judged 29 = .ok (.iaload, 1) := by decide +kernel
theorem dX6_judged_30 : decode cX6_judged 30 = .ok (.bipush 63, 2) := by decide +kernel
theorem dX6_judged_32 : decode cX6_judged 32 = .ok (.if_icmp .eq 18, 3) := by decide +kernel
theorem dX6_judged_35 : decode cX6_judged 35 = .ok (.aload_n 0, 1) := by decide +kernel
theorem dX6_judged_36 : decode cX6_judged 36 = .ok (.getfield 28, 3) := by decide +kernel
theorem dX6_judged_39 : decode cX6_judged 39 = .ok (.iload_n 3, 1) := by decide +kernel
theorem dX6_judged_40 : decode cX6_judged 40 = .ok (.iaload, 1) := by decide +kernel
theorem dX6_judged_41 : decode cX6_judged 41 = .ok (.aload_n 0, 1) := by decide +kernel
theorem dX6_judged_42 : decode cX6_judged 42 = .ok (.getfield 119, 3) := by decide +kernel
theorem dX6_judged_45 : decode cX6_judged 45 = .ok (.if_icmp .eq 5, 3) := by decide +kernel
theorem dX6_judged_48 : decode cX6_judged 48 = .ok (.iload_n 3, 1) := by decide +kernel
theorem dX6_judged_49 : decode cX6_judged 49 = .ok (.ireturn, 1) := by decide +kernel
theorem dX6_judged_50 : decode cX6_judged 50 = .ok (.iinc 3 1, 3) := by decide +kernel
theorem dX6_judged_53 : decode cX6_judged 53 = .ok (.goto (-41), 3) := by decide +kernel
theorem dX6_judged_56 : decode cX6_judged 56 = .ok (.bipush (-6), 2) := by decide +kernel
theorem dX6_judged_58 : decode cX6_judged 58 = .ok (.ireturn, 1) := by decide +kernel
set_option maxRecDepth 20000 in
theorem ggX6_judge_X6_isPair : GoodIn wsX6_judge wsX6_isPair := goodIn_r _ [5, 6, 7, 8, 4, 9, 10, 11, 12, 13, 14, 65, 66, 67, 68, 69, 70, 71, 72, 73, 74, 75, 76, 77, 78, 79, 80, 81, 82, 83, 84, 85, 86, 87, 88, 89, 90, 91, 92, 93, 94, 95, 96, 97] (by decide +kernel) (by decide +kernel)
set_option maxRecDepth 20000 in
theorem gX6_judge_X6_isPair : GoodIn wsX6_judge (wsV RX6 136 RX6 yX6_isPair wsX6_isPair) := goodIn_app (goodIn_of _ (by decide +kernel)) ggX6_judge_X6_isPair
set_option maxRecDepth 20000 in
theorem ggX6_judge_X6_fault : GoodIn wsX6_judge wsX6_fault := goodIn_r _ [18, 19, 20, 65, 66, 67, 68, 69, 70, 71, 72, 73, 74, 75, 76, 77, 78, 79, 80, 81, 82, 83, 84, 85, 86, 87, 88, 89, 90, 91, 92, 93, 94, 95, 96, 97] (by decide +kernel) (by decide +kernel)
set_option maxRecDepth 20000 in
theorem gX6_judge_X6_fault : GoodIn wsX6_judge (wsV RX6 193 RX6 yX6_fault wsX6_fault) := goodIn_app (goodIn_of _ (by decide +kernel)) ggX6_judge_X6_fault
set_option maxRecDepth 20000 in
theorem ggX6_judge_X6_judged : GoodIn wsX6_judge wsX6_judged := goodIn_r _ [24, 19, 20, 25, 26, 27, 28, 4, 29, 30, 31, 32, 33, 34, 35, 36, 37, 38, 39, 40, 41, 42, 43, 44, 45, 46, 47, 48, 49, 50, 51, 52, 53, 54, 55, 56, 57, 58, 59, 60, 61, 62, 63, 64, 65, 66, 67, 68, 69, 70, 71, 72, 73, 74, 75, 76, 77, 78, 79, 80, 81, 82, 83, 84, 85, 86, 87, 88, 89, 90, 91, 92, 93, 94, 95, 96, 97] (by decide +kernel) (by decide +kernel)
set_option maxRecDepth 20000 in
theorem gX6_judge_X6_judged : GoodIn wsX6_judge (wsV RX6 196 RX6 yX6_judged wsX6_judged) := goodIn_app (goodIn_of _ (by decide +kernel)) ggX6_judge_X6_judged
theorem dX6_judge_0 : decode cX6_judge 0 = .ok (.aload_n 0, 1) := by decide +kernel
theorem dX6_judge_1 : decode cX6_judge 1 = .ok (.iload_n 1, 1) := by decide +kernel
theorem dX6_judge_2 : decode cX6_judge 2 = .ok (.iload_n 2, 1) := by decide +kernel
theorem dX6_judge_3 : decode cX6_judge 3 = .ok (.invokevirtual 136, 3) := by decide +kernel
theorem dX6_judge_6 : decode cX6_judge 6 = .ok (.ifCond .ne 5, 3) := by decide +kernel
theorem dX6_judge_9 : decode cX6_judge 9 = .ok (.iconst (-1), 1) := by decide +kernel
theorem dX6_judge_10 : decode cX6_judge 10 = .ok (.ireturn, 1) := by decide +kernel
theorem dX6_judge_11 : decode cX6_judge 11 = .ok (.aload_n 0, 1) := by decide +kernel
theorem dX6_judge_12 : decode cX6_judge 12 = .ok (.invokevirtual 193, 3) := by decide +kernel
theorem dX6_judge_15 : decode cX6_judge 15 = .ok (.ifCond .lt 8, 3) := by decide +kernel
theorem dX6_judge_18 : decode cX6_judge 18 = .ok (.bipush (-5), 2) := by decide +kernel
theorem dX6_judge_20 : decode cX6_judge 20 = .ok (.goto 9, 3) := by decide +kernel
theorem dX6_judge_23 : decode cX6_judge 23 = .ok (.aload_n 0, 1) := by decide +kernel
theorem dX6_judge_24 : decode cX6_judge 24 = .ok (.iload_n 1, 1) := by decide +kernel
theorem dX6_judge_25 : decode cX6_judge 25 = .ok (.iload_n 2, 1) := by decide +kernel
theorem dX6_judge_26 : decode cX6_judge 26 = .ok (.invokevirtual 196, 3) := by decide +kernel
theorem dX6_judge_29 : decode cX6_judge 29 = .ok (.ireturn, 1) := by decide +kernel
set_option maxRecDepth 20000 in
theorem ggX6_fits_X6_fault : GoodIn wsX6_fits wsX6_fault := goodIn_r _ [5, 6, 7, 65, 66, 67, 68, 69, 70, 71, 72, 73, 74, 75, 76, 77, 78, 79, 80, 81, 82, 83, 84, 85, 86, 87, 88, 89, 90, 91, 92, 93, 94, 95, 96, 97] (by decide +kernel) (by decide +kernel)
set_option maxRecDepth 20000 in
theorem gX6_fits_X6_fault : GoodIn wsX6_fits (wsV RX6 193 RX6 yX6_fault wsX6_fault) := goodIn_app (goodIn_of _ (by decide +kernel)) ggX6_fits_X6_fault
set_option maxRecDepth 20000 in
theorem ggX6_fits_X6_isPair : GoodIn wsX6_fits wsX6_isPair := goodIn_r _ [11, 12, 13, 14, 4, 15, 16, 17, 18, 19, 20, 65, 66, 67, 68, 69, 70, 71, 72, 73, 74, 75, 76, 77, 78, 79, 80, 81, 82, 83, 84, 85, 86, 87, 88, 89, 90, 91, 92, 93, 94, 95, 96, 97] (by decide +kernel) (by decide +kernel)
set_option maxRecDepth 20000 in
theorem gX6_fits_X6_isPair : GoodIn wsX6_fits (wsV RX6 136 RX6 yX6_isPair wsX6_isPair) := goodIn_app (goodIn_of _ (by decide +kernel)) ggX6_fits_X6_isPair
set_option maxRecDepth 20000 in
theorem ggX6_fits_X6_judged : GoodIn wsX6_fits wsX6_judged := goodIn_r _ [24, 6, 7, 25, 26, 27, 28, 4, 29, 30, 31, 32, 33, 34, 35, 36, 37, 38, 39, 40, 41, 42, 43, 44, 45, 46, 47, 48, 49, 50, 51, 52, 53, 54, 55, 56, 57, 58, 59, 60, 61, 62, 63, 64, 65, 66, 67, 68, 69, 70, 71, 72, 73, 74, 75, 76, 77, 78, 79, 80, 81, 82, 83, 84, 85, 86, 87, 88, 89, 90, 91, 92, 93, 94, 95, 96, 97] (by decide +kernel) (by decide +kernel)
set_option maxRecDepth 20000 in
theorem gX6_fits_X6_judged : GoodIn wsX6_fits (wsV RX6 196 RX6 yX6_judged wsX6_judged) := goodIn_app (goodIn_of _ (by decide +kernel)) ggX6_fits_X6_judged
theorem dX6_fits_0 : decode cX6_fits 0 = .ok (.aload_n 0, 1) := by decide +kernel
theorem dX6_fits_1 : decode cX6_fits 1 = .ok (.invokevirtual 193, 3) := by decide +kernel
theorem dX6_fits_4 : decode cX6_fits 4 = .ok (.ifCond .lt 6, 3) := by decide +kernel
theorem dX6_fits_7 : decode cX6_fits 7 = .ok (.bipush (-5), 2) := by decide +kernel
theorem dX6_fits_9 : decode cX6_fits 9 = .ok (.ireturn, 1) := by decide +kernel
theorem dX6_fits_10 : decode cX6_fits 10 = .ok (.iconst 0, 1) := by decide +kernel
theorem dX6_fits_11 : decode cX6_fits 11 = .ok (.istore_n 2, 1) := by decide +kernel
theorem dX6_fits_12 : decode cX6_fits 12 = .ok (.iconst 0, 1) := by decide +kernel
theorem dX6_fits_13 : decode cX6_fits 13 = .ok (.istore_n 3, 1) := by decide +kernel
theorem dX6_fits_14 : decode cX6_fits 14 = .ok (.iload_n 3, 1) := by decide +kernel
theorem dX6_fits_15 : decode cX6_fits 15 = .ok (.bipush 8, 2) := by decide +kernel
theorem dX6_fits_17 : decode cX6_fits 17 = .ok (.if_icmp .ge 63, 3) := by decide +kernel
theorem dX6_fits_20 : decode cX6_fits 20 = .ok (.iload_n 3, 1) := by decide +kernel
theorem dX6_fits_21 : decode cX6_fits 21 = .ok (.iconst 1, 1) := by decide +kernel
theorem dX6_fits_22 : decode cX6_fits 22 = .ok (.iadd, 1) := by decide +kernel
theorem dX6_fits_23 : decode cX6_fits 23 = .ok (.istore 4, 2) := by decide +kernel
theorem dX6_fits_25 : decode cX6_fits 25 = .ok (.iload 4, 2) := by decide +kernel
theorem dX6_fits_27 : decode cX6_fits 27 = .ok (.bipush 8, 2) := by decide +kernel
theorem dX6_fits_29 : decode cX6_fits 29 = .ok (.if_icmp .ge 45, 3) := by decide +kernel
theorem dX6_fits_32 : decode cX6_fits 32 = .ok (.aload_n 0, 1) := by decide +kernel
theorem dX6_fits_33 : decode cX6_fits 33 = .ok (.iload_n 3, 1) := by decide +kernel
theorem dX6_fits_34 : decode cX6_fits 34 = .ok (.iload 4, 2) := by decide +kernel
theorem dX6_fits_36 : decode cX6_fits 36 = .ok (.invokevirtual 136, 3) := by decide +kernel
theorem dX6_fits_39 : decode cX6_fits 39 = .ok (.ifCond .eq 29, 3) := by decide +kernel
theorem dX6_fits_42 : decode cX6_fits 42 = .ok (.aload_n 0, 1) := by decide +kernel
theorem dX6_fits_43 : decode cX6_fits 43 = .ok (.iload_n 3, 1) := by decide +kernel
theorem dX6_fits_44 : decode cX6_fits 44 = .ok (.iload 4, 2) := by decide +kernel
theorem dX6_fits_46 : decode cX6_fits 46 = .ok (.invokevirtual 196, 3) := by decide +kernel
theorem dX6_fits_49 : decode cX6_fits 49 = .ok (.ifCond .ge 19, 3) := by decide +kernel
theorem dX6_fits_52 : decode cX6_fits 52 = .ok (.iload_n 2, 1) := by decide +kernel
theorem dX6_fits_53 : decode cX6_fits 53 = .ok (.iload_n 1, 1) := by decide +kernel
theorem dX6_fits_54 : decode cX6_fits 54 = .ok (.if_icmp .ne 11, 3) := by decide +kernel
theorem dX6_fits_57 : decode cX6_fits 57 = .ok (.bipush 10, 2) := by decide +kernel
theorem dX6_fits_59 : decode cX6_fits 59 = .ok (.iload_n 3, 1) := by decide +kernel
theorem dX6_fits_60 : decode cX6_fits 60 = .ok (.imul, 1) := by decide +kernel
theorem dX6_fits_61 : decode cX6_fits 61 = .ok (.iload 4, 2) := by decide +kernel
theorem dX6_fits_63 : decode cX6_fits 63 = .ok (.iadd, 1) := by decide +kernel
theorem dX6_fits_64 : decode cX6_fits 64 = .ok (.ireturn, 1) := by decide +kernel
theorem dX6_fits_65 : decode cX6_fits 65 = .ok (.iinc 2 1, 3) := by decide +kernel
theorem dX6_fits_68 : decode cX6_fits 68 = .ok (.iinc 4 1, 3) := by decide +kernel
theorem dX6_fits_71 : decode cX6_fits 71 = .ok (.goto (-46), 3) := by decide +kernel
theorem dX6_fits_74 : decode cX6_fits 74 = .ok (.iinc 3 1, 3) := by decide +kernel
theorem dX6_fits_77 : decode cX6_fits 77 = .ok (.goto (-63), 3) := by decide +kernel
theorem dX6_fits_80 : decode cX6_fits 80 = .ok (.iload_n 1, 1) := by decide +kernel
theorem dX6_fits_81 : decode cX6_fits 81 = .ok (.iconst (-1), 1) := by decide +kernel
theorem dX6_fits_82 : decode cX6_fits 82 = .ok (.if_icmp .ne 7, 3) := by decide +kernel
theorem dX6_fits_85 : decode cX6_fits 85 = .ok (.iload_n 2, 1) := by decide +kernel
theorem dX6_fits_86 : decode cX6_fits 86 = .ok (.goto 5, 3) := by decide +kernel
theorem dX6_fits_89 : decode cX6_fits 89 = .ok (.bipush (-6), 2) := by decide +kernel
theorem dX6_fits_91 : decode cX6_fits 91 = .ok (.ireturn, 1) := by decide +kernel
set_option maxRecDepth 20000 in
theorem ggX6_year_X6_in : GoodIn wsX6_year wsX6_in := goodIn_r _ [12] (by decide +kernel) (by decide +kernel)
set_option maxRecDepth 20000 in
theorem gX6_year_X6_in : GoodIn wsX6_year (va_wsS RX6 50 yX6_in wsX6_in) := goodIn_app (goodIn_of _ (by decide +kernel)) ggX6_year_X6_in
set_option maxRecDepth 20000 in
theorem ggX6_year_X6_isFar : GoodIn wsX6_year wsX6_isFar := goodIn_r _ [15, 16, 9, 10, 11, 12] (by decide +kernel) (by decide +kernel)
set_option maxRecDepth 20000 in
theorem gX6_year_X6_isFar : GoodIn wsX6_year (va_wsS RX6 146 yX6_isFar wsX6_isFar) := goodIn_app (goodIn_of _ (by decide +kernel)) ggX6_year_X6_isFar
set_option maxRecDepth 20000 in
theorem ggX6_year_X6_findTimes : GoodIn wsX6_year wsX6_findTimes := goodIn_r _ [20, 21, 5, 22, 23, 24, 25, 11, 26, 27, 28, 29, 30, 31, 32, 9, 10, 12, 33, 34, 35, 36, 37, 38, 39, 40, 41, 42, 43, 44, 45, 46, 47, 48, 49, 50, 51, 52, 53, 54, 55, 56, 57, 58, 59, 60, 61, 62, 63, 64, 65, 66, 67, 68, 69, 70, 71, 72, 73, 74, 75, 76, 77, 78, 79, 80, 81, 82, 83, 84, 85, 86, 87, 88, 89, 90, 91, 92, 93, 94, 95, 96, 97, 98, 99, 100, 101, 102, 103, 104, 105, 106, 107, 108, 109, 110, 111, 112, 113] (by decide +kernel) (by decide +kernel)
set_option maxRecDepth 20000 in
theorem gX6_year_X6_findTimes : GoodIn wsX6_year (wsV RX6 153 RX6 yX6_findTimes wsX6_findTimes) := goodIn_app (goodIn_of _ (by decide +kernel)) ggX6_year_X6_findTimes
set_option maxRecDepth 20000 in
theorem ggX6_year_X6_isPair : GoodIn wsX6_year wsX6_isPair := goodIn_r _ [26, 27, 28, 29, 11, 30, 31, 32, 9, 10, 12, 81, 82, 83, 84, 85, 86, 87, 88, 89, 90, 91, 92, 93, 94, 95, 96, 97, 98, 99, 100, 101, 102, 103, 104, 105, 106, 107, 108, 109, 110, 111, 112, 113] (by decide +kernel) (by decide +kernel)
set_option maxRecDepth 20000 in
theorem gX6_year_X6_isPair : GoodIn wsX6_year (wsV RX6 136 RX6 yX6_isPair wsX6_isPair) := goodIn_app (goodIn_of _ (by decide +kernel)) ggX6_year_X6_isPair
set_option maxRecDepth 20000 in
theorem ggX6_year_X6_layPair : GoodIn wsX6_year wsX6_layPair := goodIn_r _ [36, 37, 38, 39, 40, 41, 42, 43, 44, 45, 46, 47, 81, 82, 83, 84, 85, 86, 87, 88, 89, 90, 91, 92, 93, 94, 95, 96, 97, 98, 99, 100, 101, 102, 103, 104, 105, 106, 107, 108, 109, 110, 111, 112, 113] (by decide +kernel) (by decide +kernel)
set_option maxRecDepth 20000 in
theorem gX6_year_X6_layPair : GoodIn wsX6_year (wsV RX6 142 RX6 yX6_layPair wsX6_layPair) := goodIn_app (goodIn_of _ (by decide +kernel)) ggX6_year_X6_layPair
set_option maxRecDepth 20000 in
theorem ggX6_year_X6_timeOf : GoodIn wsX6_year wsX6_timeOf := goodIn_r _ [51, 52, 53, 5, 54, 55, 56, 11, 57, 58, 59, 60, 61, 62, 63, 64, 65, 38, 41, 39, 42, 66, 47, 67, 68, 44, 69, 70, 71, 72, 73, 45, 74, 75, 76, 77, 78, 79, 80, 81, 82, 83, 84, 85, 86, 87, 88, 89, 90, 91, 92, 93, 94, 95, 96, 97, 98, 99, 100, 101, 102, 103, 104, 105, 106, 107, 108, 109, 110, 111, 112, 113] (by decide +kernel) (by decide +kernel)
set_option maxRecDepth 20000 in
theorem gX6_year_X6_timeOf : GoodIn wsX6_year (wsV RX6 149 RX6 yX6_timeOf wsX6_timeOf) := goodIn_app (goodIn_of _ (by decide +kernel)) ggX6_year_X6_timeOf
theorem dX6_year_0 : decode cX6_year 0 = .ok (.iload_n 1, 1) := by decide +kernel
theorem dX6_year_1 : decode cX6_year 1 = .ok (.i2l, 1) := by decide +kernel
theorem dX6_year_2 : decode cX6_year 2 = .ok (.lconst 0, 1) := by decide +kernel
theorem dX6_year_3 : decode cX6_year 3 = .ok (.ldc2_w 184, 3) := by decide +kernel
theorem dX6_year_6 : decode cX6_year 6 = .ok (.invokestatic 50, 3) := by decide +kernel
theorem dX6_year_9 : decode cX6_year 9 = .ok (.ifCond .eq 37, 3) := by decide +kernel
theorem dX6_year_12 : decode cX6_year 12 = .ok (.iload_n 2, 1) := by decide +kernel
theorem dX6_year_13 : decode cX6_year 13 = .ok (.i2l, 1) := by decide +kernel
theorem dX6_year_14 : decode cX6_year 14 = .ok (.lconst 1, 1) := by decide +kernel
theorem dX6_year_15 : decode cX6_year 15 = .ok (.ldc2_w 71, 3) := by decide +kernel
theorem dX6_year_18 : decode cX6_year 18 = .ok (.invokestatic 50, 3) := by decide +kernel
theorem dX6_year_21 : decode cX6_year 21 = .ok (.ifCond .eq 25, 3) := by decide +kernel
theorem dX6_year_24 : decode cX6_year 24 = .ok (.iload_n 3, 1) := by decide +kernel
theorem dX6_year_25 : decode cX6_year 25 = .ok (.invokestatic 146, 3) := by decide +kernel
theorem dX6_year_28 : decode cX6_year 28 = .ok (.ifCond .eq 18, 3) := by decide +kernel
theorem dX6_year_31 : decode cX6_year 31 = .ok (.iload 4, 2) := by decide +kernel
theorem dX6_year_33 : decode cX6_year 33 = .ok (.i2l, 1) := by decide +kernel
theorem dX6_year_34 : decode cX6_year 34 = .ok (.ldc2_w 200, 3) := by decide +kernel
theorem dX6_year_37 : decode cX6_year 37 = .ok (.ldc2_w 202, 3) := by decide +kernel
theorem dX6_year_40 : decode cX6_year 40 = .ok (.invokestatic 50, 3) := by decide +kernel
theorem dX6_year_43 : decode cX6_year 43 = .ok (.ifCond .ne 6, 3) := by decide +kernel
theorem dX6_year_46 : decode cX6_year 46 = .ok (.bipush (-2), 2) := by decide +kernel
theorem dX6_year_48 : decode cX6_year 48 = .ok (.ireturn, 1) := by decide +kernel
theorem dX6_year_49 : decode cX6_year 49 = .ok (.aload_n 0, 1) := by decide +kernel
theorem dX6_year_50 : decode cX6_year 50 = .ok (.iload_n 3, 1) := by decide +kernel
theorem dX6_year_51 : decode cX6_year 51 = .ok (.invokevirtual 153, 3) := by decide +kernel
theorem dX6_year_54 : decode cX6_year 54 = .ok (.iload_n 1, 1) := by decide +kernel
theorem dX6_year_55 : decode cX6_year 55 = .ok (.istore 5, 2) := by decide +kernel
theorem dX6_year_57 : decode cX6_year 57 = .ok (.iconst 0, 1) := by decide +kernel
theorem dX6_year_58 : decode cX6_year 58 = .ok (.istore 6, 2) := by decide +kernel
theorem dX6_year_60 : decode cX6_year 60 = .ok (.iconst 0, 1) := by decide +kernel
theorem dX6_year_61 : decode cX6_year 61 = .ok (.istore 7, 2) := by decide +kernel
theorem dX6_year_63 : decode cX6_year 63 = .ok (.ldc 135, 2) := by decide +kernel
theorem dX6_year_65 : decode cX6_year 65 = .ok (.istore 8, 2) := by decide +kernel
theorem dX6_year_67 : decode cX6_year 67 = .ok (.iconst 0, 1) := by decide +kernel
theorem dX6_year_68 : decode cX6_year 68 = .ok (.istore 9, 2) := by decide +kernel
theorem dX6_year_70 : decode cX6_year 70 = .ok (.iload 9, 2) := by decide +kernel
theorem dX6_year_72 : decode cX6_year 72 = .ok (.iload_n 2, 1) := by decide +kernel
theorem dX6_year_73 : decode cX6_year 73 = .ok (.if_icmp .ge 120, 3) := by decide +kernel
theorem dX6_year_76 : decode cX6_year 76 = .ok (.ldc2_w 204, 3) := by decide +kernel
theorem dX6_year_79 : decode cX6_year 79 = .ok (.iload 5, 2) := by decide +kernel
theorem dX6_year_81 : decode cX6_year 81 = .ok (.i2l, 1) := by decide +kernel
theorem dX6_year_82 : decode cX6_year 82 = .ok (.lmul, 1) := by decide +kernel
theorem dX6_year_83 : decode cX6_year 83 = .ok (.ldc2_w 206, 3) := by decide +kernel
theorem dX6_year_86 : decode cX6_year 86 = .ok (.ladd, 1) := by decide +kernel
theorem dX6_year_87 : decode cX6_year 87 = .ok (.ldc2_w 208, 3) := by decide +kernel
theorem dX6_year_90 : decode cX6_year 90 = .ok (.lrem, 1) := by decide +kernel
theorem dX6_year_91 : decode cX6_year 91 = .ok (.l2i, 1) := by decide +kernel
theorem dX6_year_92 : decode cX6_year 92 = .ok (.istore 5, 2) := by decide +kernel
theorem dX6_year_94 : decode cX6_year 94 = .ok (.iload 5, 2) := by decide +kernel
theorem dX6_year_96 : decode cX6_year 96 = .ok (.bipush 8, 2) := by decide +kernel
theorem dX6_year_98 : decode cX6_year 98 = .ok (.irem, 1) := by decide +kernel
theorem dX6_year_99 : decode cX6_year 99 = .ok (.istore 10, 2) := by decide +kernel
theorem dX6_year_101 : decode cX6_year 101 = .ok (.iload 5, 2) := by decide +kernel
theorem dX6_year_103 : decode cX6_year 103 = .ok (.bipush 8, 2) := by decide +kernel
theorem dX6_year_105 : decode cX6_year 105 = .ok (.idiv, 1) := by decide +kernel
theorem dX6_year_106 : decode cX6_year 106 = .ok (.bipush 8, 2) := by decide +kernel
theorem dX6_year_108 : decode cX6_year 108 = .ok (.irem, 1) := by decide +kernel
theorem dX6_year_109 : decode cX6_year 109 = .ok (.istore 11, 2) := by decide +kernel
theorem dX6_year_111 : decode cX6_year 111 = .ok (.aload_n 0, 1) := by decide +kernel
theorem dX6_year_112 : decode cX6_year 112 = .ok (.iload 10, 2) := by decide +kernel
theorem dX6_year_114 : decode cX6_year 114 = .ok (.iload 11, 2) := by decide +kernel
theorem dX6_year_116 : decode cX6_year 116 = .ok (.invokevirtual 136, 3) := by decide +kernel
theorem dX6_year_119 : decode cX6_year 119 = .ok (.ifCond .eq 68, 3) := by decide +kernel
theorem dX6_year_122 : decode cX6_year 122 = .ok (.aload_n 0, 1) := by decide +kernel
theorem dX6_year_123 : decode cX6_year 123 = .ok (.iload 10, 2) := by decide +kernel
theorem dX6_year_125 : decode cX6_year 125 = .ok (.iload 11, 2) := by decide +kernel
theorem dX6_year_127 : decode cX6_year 127 = .ok (.invokevirtual 142, 3) := by decide +kernel
theorem dX6_year_130 : decode cX6_year 130 = .ok (.aload_n 0, 1) := by decide +kernel
theorem dX6_year_131 : decode cX6_year 131 = .ok (.iload_n 3, 1) := by decide +kernel
theorem dX6_year_132 : decode cX6_year 132 = .ok (.invokevirtual 149, 3) := by decide +kernel
theorem dX6_year_135 : decode cX6_year 135 = .ok (.istore 12, 2) := by decide +kernel
theorem dX6_year_137 : decode cX6_year 137 = .ok (.iinc 6 1, 3) := by decide +kernel
theorem dX6_year_140 : decode cX6_year 140 = .ok (.iload 7, 2) := by decide +kernel
theorem dX6_year_142 : decode cX6_year 142 = .ok (.iload 12, 2) := by decide +kernel
theorem dX6_year_144 : decode cX6_year 144 = .ok (.ldc 135, 2) := by decide +kernel
theorem dX6_year_146 : decode cX6_year 146 = .ok (.if_icmp .ge 21, 3) := by decide +kernel
theorem dX6_year_149 : decode cX6_year 149 = .ok (.iload 10, 2) := by decide +kernel
theorem dX6_year_151 : decode cX6_year 151 = .ok (.iload 4, 2) := by decide +kernel
theorem dX6_year_153 : decode cX6_year 153 = .ok (.if_icmp .eq 10, 3) := by decide +kernel
theorem dX6_year_156 : decode cX6_year 156 = .ok (.iload 11, 2) := by decide +kernel
theorem dX6_year_158 : decode cX6_year 158 = .ok (.iload 4, 2) := by decide +kernel
theorem dX6_year_160 : decode cX6_year 160 = .ok (.if_icmp .ne 7, 3) := by decide +kernel
theorem dX6_year_163 : decode cX6_year 163 = .ok (.iconst 1, 1) := by decide +kernel
theorem dX6_year_164 : decode cX6_year 164 = .ok (.goto 4, 3) := by decide +kernel
theorem dX6_year_167 : decode cX6_year 167 = .ok (.iconst 0, 1) := by decide +kernel
theorem dX6_year_168 : decode cX6_year 168 = .ok (.iadd, 1) := by decide +kernel
theorem dX6_year_169 : decode cX6_year 169 = .ok (.istore 7, 2) := by decide +kernel
theorem dX6_year_171 : decode cX6_year 171 = .ok (.iload 12, 2) := by decide +kernel
theorem dX6_year_173 : decode cX6_year 173 = .ok (.iload 8, 2) := by decide +kernel
theorem dX6_year_175 : decode cX6_year 175 = .ok (.if_icmp .ge 8, 3) := by decide +kernel
theorem dX6_year_178 : decode cX6_year 178 = .ok (.iload 12, 2) := by decide +kernel
theorem dX6_year_180 : decode cX6_year 180 = .ok (.goto 5, 3) := by decide +kernel
theorem dX6_year_183 : decode cX6_year 183 = .ok (.iload 8, 2) := by decide +kernel
theorem dX6_year_185 : decode cX6_year 185 = .ok (.istore 8, 2) := by decide +kernel
theorem dX6_year_187 : decode cX6_year 187 = .ok (.iinc 9 1, 3) := by decide +kernel
theorem dX6_year_190 : decode cX6_year 190 = .ok (.goto (-120), 3) := by decide +kernel
theorem dX6_year_193 : decode cX6_year 193 = .ok (.iload 4, 2) := by decide +kernel
theorem dX6_year_195 : decode cX6_year 195 = .ok (.iconst (-1), 1) := by decide +kernel
theorem dX6_year_196 : decode cX6_year 196 = .ok (.if_icmp .ne 8, 3) := by decide +kernel
theorem dX6_year_199 : decode cX6_year 199 = .ok (.iload 6, 2) := by decide +kernel
theorem dX6_year_201 : decode cX6_year 201 = .ok (.goto 29, 3) := by decide +kernel
theorem dX6_year_204 : decode cX6_year 204 = .ok (.iload 4, 2) := by decide +kernel
theorem dX6_year_206 : decode cX6_year 206 = .ok (.bipush 8, 2) := by decide +kernel
theorem dX6_year_208 : decode cX6_year 208 = .ok (.if_icmp .ge 8, 3) := by decide +kernel
theorem dX6_year_211 : decode cX6_year 211 = .ok (.iload 7, 2) := by decide +kernel
theorem dX6_year_213 : decode cX6_year 213 = .ok (.goto 17, 3) := by decide +kernel
theorem dX6_year_216 : decode cX6_year 216 = .ok (.iload 8, 2) := by decide +kernel
theorem dX6_year_218 : decode cX6_year 218 = .ok (.ldc 135, 2) := by decide +kernel
theorem dX6_year_220 : decode cX6_year 220 = .ok (.if_icmp .ne 8, 3) := by decide +kernel
theorem dX6_year_223 : decode cX6_year 223 = .ok (.bipush (-6), 2) := by decide +kernel
theorem dX6_year_225 : decode cX6_year 225 = .ok (.goto 5, 3) := by decide +kernel
theorem dX6_year_228 : decode cX6_year 228 = .ok (.iload 8, 2) := by decide +kernel
theorem dX6_year_230 : decode cX6_year 230 = .ok (.ireturn, 1) := by decide +kernel
theorem dX6_pass_0 : decode cX6_pass 0 = .ok (.aload_n 0, 1) := by decide +kernel
theorem dX6_pass_1 : decode cX6_pass 1 = .ok (.getfield 210, 3) := by decide +kernel
theorem dX6_pass_4 : decode cX6_pass 4 = .ok (.ifCond .eq 7, 3) := by decide +kernel
theorem dX6_pass_7 : decode cX6_pass 7 = .ok (.iload_n 1, 1) := by decide +kernel
theorem dX6_pass_8 : decode cX6_pass 8 = .ok (.goto 12, 3) := by decide +kernel
theorem dX6_pass_11 : decode cX6_pass 11 = .ok (.aload_n 0, 1) := by decide +kernel
theorem dX6_pass_12 : decode cX6_pass 12 = .ok (.getfield 31, 3) := by decide +kernel
theorem dX6_pass_15 : decode cX6_pass 15 = .ok (.aload_n 0, 1) := by decide +kernel
theorem dX6_pass_16 : decode cX6_pass 16 = .ok (.getfield 214, 3) := by decide +kernel
theorem dX6_pass_19 : decode cX6_pass 19 = .ok (.iaload, 1) := by decide +kernel
theorem dX6_pass_20 : decode cX6_pass 20 = .ok (.istore_n 2, 1) := by decide +kernel
theorem dX6_pass_21 : decode cX6_pass 21 = .ok (.aload_n 0, 1) := by decide +kernel
theorem dX6_pass_22 : decode cX6_pass 22 = .ok (.getfield 31, 3) := by decide +kernel
theorem dX6_pass_25 : decode cX6_pass 25 = .ok (.aload_n 0, 1) := by decide +kernel
theorem dX6_pass_26 : decode cX6_pass 26 = .ok (.getfield 214, 3) := by decide +kernel
theorem dX6_pass_29 : decode cX6_pass 29 = .ok (.iload_n 2, 1) := by decide +kernel
theorem dX6_pass_30 : decode cX6_pass 30 = .ok (.iastore, 1) := by decide +kernel
theorem dX6_pass_31 : decode cX6_pass 31 = .ok (.aload_n 0, 1) := by decide +kernel
theorem dX6_pass_32 : decode cX6_pass 32 = .ok (.dup, 1) := by decide +kernel
theorem dX6_pass_33 : decode cX6_pass 33 = .ok (.getfield 214, 3) := by decide +kernel
theorem dX6_pass_36 : decode cX6_pass 36 = .ok (.iconst 1, 1) := by decide +kernel
theorem dX6_pass_37 : decode cX6_pass 37 = .ok (.iadd, 1) := by decide +kernel
theorem dX6_pass_38 : decode cX6_pass 38 = .ok (.putfield 214, 3) := by decide +kernel
theorem dX6_pass_41 : decode cX6_pass 41 = .ok (.iload_n 2, 1) := by decide +kernel
theorem dX6_pass_42 : decode cX6_pass 42 = .ok (.ireturn, 1) := by decide +kernel
set_option maxRecDepth 20000 in
theorem ggX6_passAll_X6_pass : GoodIn wsX6_passAll wsX6_pass := goodIn_r _ [12, 13, 14, 15, 16, 17, 18, 19, 20, 21, 22, 23, 24, 25, 26, 27, 28, 29, 30, 31, 32, 33, 34, 35, 36, 37, 38, 39, 40, 41, 42, 43, 44, 45, 46, 47, 48] (by decide +kernel) (by decide +kernel)
set_option maxRecDepth 20000 in
theorem gX6_passAll_X6_pass : GoodIn wsX6_passAll (wsV RX6 217 RX6 yX6_pass wsX6_pass) := goodIn_app (goodIn_of _ (by decide +kernel)) ggX6_passAll_X6_pass
theorem dX6_passAll_0 : decode cX6_passAll 0 = .ok (.aload_n 0, 1) := by decide +kernel
theorem dX6_passAll_1 : decode cX6_passAll 1 = .ok (.aload_n 0, 1) := by decide +kernel
theorem dX6_passAll_2 : decode cX6_passAll 2 = .ok (.aload_n 0, 1) := by decide +kernel
theorem dX6_passAll_3 : decode cX6_passAll 3 = .ok (.getfield 54, 3) := by decide +kernel
theorem dX6_passAll_6 : decode cX6_passAll 6 = .ok (.invokevirtual 217, 3) := by decide +kernel
theorem dX6_passAll_9 : decode cX6_passAll 9 = .ok (.putfield 54, 3) := by decide +kernel
theorem dX6_passAll_12 : decode cX6_passAll 12 = .ok (.aload_n 0, 1) := by decide +kernel
theorem dX6_passAll_13 : decode cX6_passAll 13 = .ok (.aload_n 0, 1) := by decide +kernel
theorem dX6_passAll_14 : decode cX6_passAll 14 = .ok (.aload_n 0, 1) := by decide +kernel
theorem dX6_passAll_15 : decode cX6_passAll 15 = .ok (.getfield 38, 3) := by decide +kernel
theorem dX6_passAll_18 : decode cX6_passAll 18 = .ok (.invokevirtual 217, 3) := by decide +kernel
theorem dX6_passAll_21 : decode cX6_passAll 21 = .ok (.putfield 38, 3) := by decide +kernel
theorem dX6_passAll_24 : decode cX6_passAll 24 = .ok (.aload_n 0, 1) := by decide +kernel
theorem dX6_passAll_25 : decode cX6_passAll 25 = .ok (.aload_n 0, 1) := by decide +kernel
theorem dX6_passAll_26 : decode cX6_passAll 26 = .ok (.aload_n 0, 1) := by decide +kernel
theorem dX6_passAll_27 : decode cX6_passAll 27 = .ok (.getfield 42, 3) := by decide +kernel
theorem dX6_passAll_30 : decode cX6_passAll 30 = .ok (.invokevirtual 217, 3) := by decide +kernel
theorem dX6_passAll_33 : decode cX6_passAll 33 = .ok (.putfield 42, 3) := by decide +kernel
theorem dX6_passAll_36 : decode cX6_passAll 36 = .ok (.aload_n 0, 1) := by decide +kernel
theorem dX6_passAll_37 : decode cX6_passAll 37 = .ok (.aload_n 0, 1) := by decide +kernel
theorem dX6_passAll_38 : decode cX6_passAll 38 = .ok (.aload_n 0, 1) := by decide +kernel
theorem dX6_passAll_39 : decode cX6_passAll 39 = .ok (.getfield 45, 3) := by decide +kernel
theorem dX6_passAll_42 : decode cX6_passAll 42 = .ok (.invokevirtual 217, 3) := by decide +kernel
theorem dX6_passAll_45 : decode cX6_passAll 45 = .ok (.putfield 45, 3) := by decide +kernel
theorem dX6_passAll_48 : decode cX6_passAll 48 = .ok (.iconst 0, 1) := by decide +kernel
theorem dX6_passAll_49 : decode cX6_passAll 49 = .ok (.istore_n 1, 1) := by decide +kernel
theorem dX6_passAll_50 : decode cX6_passAll 50 = .ok (.iload_n 1, 1) := by decide +kernel
theorem dX6_passAll_51 : decode cX6_passAll 51 = .ok (.bipush 8, 2) := by decide +kernel
theorem dX6_passAll_53 : decode cX6_passAll 53 = .ok (.if_icmp .ge 57, 3) := by decide +kernel
theorem dX6_passAll_56 : decode cX6_passAll 56 = .ok (.aload_n 0, 1) := by decide +kernel
theorem dX6_passAll_57 : decode cX6_passAll 57 = .ok (.getfield 7, 3) := by decide +kernel
theorem dX6_passAll_60 : decode cX6_passAll 60 = .ok (.iload_n 1, 1) := by decide +kernel
theorem dX6_passAll_61 : decode cX6_passAll 61 = .ok (.aload_n 0, 1) := by decide +kernel
theorem dX6_passAll_62 : decode cX6_passAll 62 = .ok (.aload_n 0, 1) := by decide +kernel
theorem dX6_passAll_63 : decode cX6_passAll 63 = .ok (.getfield 7, 3) := by decide +kernel
theorem dX6_passAll_66 : decode cX6_passAll 66 = .ok (.iload_n 1, 1) := by decide +kernel
theorem dX6_passAll_67 : decode cX6_passAll 67 = .ok (.iaload, 1) := by decide +kernel
theorem dX6_passAll_68 : decode cX6_passAll 68 = .ok (.invokevirtual 217, 3) := by decide +kernel
theorem dX6_passAll_71 : decode cX6_passAll 71 = .ok (.iastore, 1) := by decide +kernel
theorem dX6_passAll_72 : decode cX6_passAll 72 = .ok (.aload_n 0, 1) := by decide +kernel
theorem dX6_passAll_73 : decode cX6_passAll 73 = .ok (.getfield 13, 3) := by decide +kernel
theorem dX6_passAll_76 : decode cX6_passAll 76 = .ok (.iload_n 1, 1) := by decide +kernel
theorem dX6_passAll_77 : decode cX6_passAll 77 = .ok (.aload_n 0, 1) := by decide +kernel
theorem dX6_passAll_78 : decode cX6_passAll 78 = .ok (.aload_n 0, 1) := by decide +kernel
theorem dX6_passAll_79 : decode cX6_passAll 79 = .ok (.getfield 13, 3) := by decide +kernel
theorem dX6_passAll_82 : decode cX6_passAll 82 = .ok (.iload_n 1, 1) := by decide +kernel
theorem dX6_passAll_83 : decode cX6_passAll 83 = .ok (.iaload, 1) := by decide +kernel
theorem dX6_passAll_84 : decode cX6_passAll 84 = .ok (.invokevirtual 217, 3) := by decide +kernel
theorem dX6_passAll_87 : decode cX6_passAll 87 = .ok (.iastore, 1) := by decide +kernel
theorem dX6_passAll_88 : decode cX6_passAll 88 = .ok (.aload_n 0, 1) := by decide +kernel
theorem dX6_passAll_89 : decode cX6_passAll 89 = .ok (.getfield 16, 3) := by decide +kernel
theorem dX6_passAll_92 : decode cX6_passAll 92 = .ok (.iload_n 1, 1) := by decide +kernel
theorem dX6_passAll_93 : decode cX6_passAll 93 = .ok (.aload_n 0, 1) := by decide +kernel
theorem dX6_passAll_94 : decode cX6_passAll 94 = .ok (.aload_n 0, 1) := by decide +kernel
theorem dX6_passAll_95 : decode cX6_passAll 95 = .ok (.getfield 16, 3) := by decide +kernel
theorem dX6_passAll_98 : decode cX6_passAll 98 = .ok (.iload_n 1, 1) := by decide +kernel
theorem dX6_passAll_99 : decode cX6_passAll 99 = .ok (.iaload, 1) := by decide +kernel
theorem dX6_passAll_100 : decode cX6_passAll 100 = .ok (.invokevirtual 217, 3) := by decide +kernel
theorem dX6_passAll_103 : decode cX6_passAll 103 = .ok (.iastore, 1) := by decide +kernel
theorem dX6_passAll_104 : decode cX6_passAll 104 = .ok (.iinc 1 1, 3) := by decide +kernel
theorem dX6_passAll_107 : decode cX6_passAll 107 = .ok (.goto (-57), 3) := by decide +kernel
theorem dX6_passAll_110 : decode cX6_passAll 110 = .ok (.return_, 1) := by decide +kernel
set_option maxRecDepth 20000 in
theorem ggX6_image_X6_in : GoodIn wsX6_image wsX6_in := goodIn_r _ [7] (by decide +kernel) (by decide +kernel)
set_option maxRecDepth 20000 in
theorem gX6_image_X6_in : GoodIn wsX6_image (va_wsS RX6 50 yX6_in wsX6_in) := goodIn_app (goodIn_of _ (by decide +kernel)) ggX6_image_X6_in
set_option maxRecDepth 20000 in
theorem ggX6_image_X6_passAll : GoodIn wsX6_image wsX6_passAll := goodIn_r _ [11, 12, 13, 14, 15, 16, 17, 18, 19, 20, 21, 6, 22, 2, 23, 1, 24, 25, 26, 27, 28, 29, 30, 31, 32, 33, 34, 35, 36, 37, 38, 39, 40, 41, 42, 43, 44, 45, 46, 47, 48, 49, 50, 51, 52, 53, 54, 55, 56] (by decide +kernel) (by decide +kernel)
set_option maxRecDepth 20000 in
theorem gX6_image_X6_passAll : GoodIn wsX6_image (wsV RX6 220 RX6 yX6_passAll wsX6_passAll) := goodIn_app (goodIn_of _ (by decide +kernel)) ggX6_image_X6_passAll
theorem dX6_image_0 : decode cX6_image 0 = .ok (.iload_n 1, 1) := by decide +kernel
theorem dX6_image_1 : decode cX6_image 1 = .ok (.i2l, 1) := by decide +kernel
theorem dX6_image_2 : decode cX6_image 2 = .ok (.lconst 0, 1) := by decide +kernel
theorem dX6_image_3 : decode cX6_image 3 = .ok (.lconst 1, 1) := by decide +kernel
theorem dX6_image_4 : decode cX6_image 4 = .ok (.invokestatic 50, 3) := by decide +kernel
theorem dX6_image_7 : decode cX6_image 7 = .ok (.ifCond .ne 6, 3) := by decide +kernel
theorem dX6_image_10 : decode cX6_image 10 = .ok (.bipush (-2), 2) := by decide +kernel
theorem dX6_image_12 : decode cX6_image 12 = .ok (.ireturn, 1) := by decide +kernel
theorem dX6_image_13 : decode cX6_image 13 = .ok (.aload_n 0, 1) := by decide +kernel
theorem dX6_image_14 : decode cX6_image 14 = .ok (.bipush 40, 2) := by decide +kernel
theorem dX6_image_16 : decode cX6_image 16 = .ok (.iload_n 1, 1) := by decide +kernel
theorem dX6_image_17 : decode cX6_image 17 = .ok (.imul, 1) := by decide +kernel
theorem dX6_image_18 : decode cX6_image 18 = .ok (.putfield 214, 3) := by decide +kernel
theorem dX6_image_21 : decode cX6_image 21 = .ok (.aload_n 0, 1) := by decide +kernel
theorem dX6_image_22 : decode cX6_image 22 = .ok (.iconst 1, 1) := by decide +kernel
theorem dX6_image_23 : decode cX6_image 23 = .ok (.putfield 210, 3) := by decide +kernel
theorem dX6_image_26 : decode cX6_image 26 = .ok (.aload_n 0, 1) := by decide +kernel
theorem dX6_image_27 : decode cX6_image 27 = .ok (.invokevirtual 220, 3) := by decide +kernel
theorem dX6_image_30 : decode cX6_image 30 = .ok (.aload_n 0, 1) := by decide +kernel
theorem dX6_image_31 : decode cX6_image 31 = .ok (.getfield 34, 3) := by decide +kernel
theorem dX6_image_34 : decode cX6_image 34 = .ok (.iload_n 1, 1) := by decide +kernel
theorem dX6_image_35 : decode cX6_image 35 = .ok (.iconst 1, 1) := by decide +kernel
theorem dX6_image_36 : decode cX6_image 36 = .ok (.bastore, 1) := by decide +kernel
theorem dX6_image_37 : decode cX6_image 37 = .ok (.iconst 1, 1) := by decide +kernel
theorem dX6_image_38 : decode cX6_image 38 = .ok (.ireturn, 1) := by decide +kernel
set_option maxRecDepth 20000 in
theorem ggX6_restore_X6_in : GoodIn wsX6_restore wsX6_in := goodIn_r _ [7] (by decide +kernel) (by decide +kernel)
set_option maxRecDepth 20000 in
theorem gX6_restore_X6_in : GoodIn wsX6_restore (va_wsS RX6 50 yX6_in wsX6_in) := goodIn_app (goodIn_of _ (by decide +kernel)) ggX6_restore_X6_in
set_option maxRecDepth 20000 in
theorem ggX6_restore_X6_passAll : GoodIn wsX6_restore wsX6_passAll := goodIn_r _ [11, 12, 13, 14, 15, 16, 17, 18, 19, 20, 21, 6, 22, 3, 23, 2, 24, 25, 26, 27, 28, 29, 30, 31, 32, 33, 34, 35, 36, 37, 38, 39, 40, 41, 42, 43, 44, 45, 46, 47, 48, 49, 50, 51, 52, 53, 54, 55, 56] (by decide +kernel) (by decide +kernel)
set_option maxRecDepth 20000 in
theorem gX6_restore_X6_passAll : GoodIn wsX6_restore (wsV RX6 220 RX6 yX6_passAll wsX6_passAll) := goodIn_app (goodIn_of _ (by decide +kernel)) ggX6_restore_X6_passAll
theorem dX6_restore_0 : decode cX6_restore 0 = .ok (.iload_n 1, 1) := by decide +kernel
theorem dX6_restore_1 : decode cX6_restore 1 = .ok (.i2l, 1) := by decide +kernel
theorem dX6_restore_2 : decode cX6_restore 2 = .ok (.lconst 0, 1) := by decide +kernel
theorem dX6_restore_3 : decode cX6_restore 3 = .ok (.lconst 1, 1) := by decide +kernel
theorem dX6_restore_4 : decode cX6_restore 4 = .ok (.invokestatic 50, 3) := by decide +kernel
theorem dX6_restore_7 : decode cX6_restore 7 = .ok (.ifCond .ne 6, 3) := by decide +kernel
theorem dX6_restore_10 : decode cX6_restore 10 = .ok (.bipush (-2), 2) := by decide +kernel
theorem dX6_restore_12 : decode cX6_restore 12 = .ok (.ireturn, 1) := by decide +kernel
theorem dX6_restore_13 : decode cX6_restore 13 = .ok (.aload_n 0, 1) := by decide +kernel
theorem dX6_restore_14 : decode cX6_restore 14 = .ok (.getfield 34, 3) := by decide +kernel
theorem dX6_restore_17 : decode cX6_restore 17 = .ok (.iload_n 1, 1) := by decide +kernel
theorem dX6_restore_18 : decode cX6_restore 18 = .ok (.baload, 1) := by decide +kernel
theorem dX6_restore_19 : decode cX6_restore 19 = .ok (.ifCond .ne 6, 3) := by decide +kernel
theorem dX6_restore_22 : decode cX6_restore 22 = .ok (.bipush (-3), 2) := by decide +kernel
theorem dX6_restore_24 : decode cX6_restore 24 = .ok (.ireturn, 1) := by decide +kernel
theorem dX6_restore_25 : decode cX6_restore 25 = .ok (.aload_n 0, 1) := by decide +kernel
theorem dX6_restore_26 : decode cX6_restore 26 = .ok (.bipush 40, 2) := by decide +kernel
theorem dX6_restore_28 : decode cX6_restore 28 = .ok (.iload_n 1, 1) := by decide +kernel
theorem dX6_restore_29 : decode cX6_restore 29 = .ok (.imul, 1) := by decide +kernel
theorem dX6_restore_30 : decode cX6_restore 30 = .ok (.putfield 214, 3) := by decide +kernel
theorem dX6_restore_33 : decode cX6_restore 33 = .ok (.aload_n 0, 1) := by decide +kernel
theorem dX6_restore_34 : decode cX6_restore 34 = .ok (.iconst 0, 1) := by decide +kernel
theorem dX6_restore_35 : decode cX6_restore 35 = .ok (.putfield 210, 3) := by decide +kernel
theorem dX6_restore_38 : decode cX6_restore 38 = .ok (.aload_n 0, 1) := by decide +kernel
theorem dX6_restore_39 : decode cX6_restore 39 = .ok (.invokevirtual 220, 3) := by decide +kernel
theorem dX6_restore_42 : decode cX6_restore 42 = .ok (.iconst 1, 1) := by decide +kernel
theorem dX6_restore_43 : decode cX6_restore 43 = .ok (.ireturn, 1) := by decide +kernel
set_option maxRecDepth 20000 in
theorem ggX6_told_X6_in : GoodIn wsX6_told wsX6_in := goodIn_r _ [14] (by decide +kernel) (by decide +kernel)
set_option maxRecDepth 20000 in
theorem gX6_told_X6_in : GoodIn wsX6_told (va_wsS RX6 50 yX6_in wsX6_in) := goodIn_app (goodIn_of _ (by decide +kernel)) ggX6_told_X6_in
set_option maxRecDepth 20000 in
theorem ggX6_told_X6_runs : GoodIn wsX6_told wsX6_runs := goodIn_r _ [18, 19, 7, 11, 12, 13, 14, 20, 21, 22, 23, 24, 25, 26, 27, 28, 29, 30, 31, 32, 33, 34, 35, 36, 37, 38, 39, 40, 41, 42, 43, 44, 45, 46, 47, 48, 49, 50, 51, 52] (by decide +kernel) (by decide +kernel)
set_option maxRecDepth 20000 in
theorem gX6_told_X6_runs : GoodIn wsX6_told (wsV RX6 67 RX6 yX6_runs wsX6_runs) := goodIn_app (goodIn_of _ (by decide +kernel)) ggX6_told_X6_runs
theorem dX6_told_0 : decode cX6_told 0 = .ok (.iload_n 1, 1) := by decide +kernel
theorem dX6_told_1 : decode cX6_told 1 = .ok (.i2l, 1) := by decide +kernel
theorem dX6_told_2 : decode cX6_told 2 = .ok (.ldc2_w 223, 3) := by decide +kernel
theorem dX6_told_5 : decode cX6_told 5 = .ok (.ldc2_w 225, 3) := by decide +kernel
theorem dX6_told_8 : decode cX6_told 8 = .ok (.invokestatic 50, 3) := by decide +kernel
theorem dX6_told_11 : decode cX6_told 11 = .ok (.ifCond .eq 67, 3) := by decide +kernel
theorem dX6_told_14 : decode cX6_told 14 = .ok (.iload_n 1, 1) := by decide +kernel
theorem dX6_told_15 : decode cX6_told 15 = .ok (.bipush 10, 2) := by decide +kernel
theorem dX6_told_17 : decode cX6_told 17 = .ok (.idiv, 1) := by decide +kernel
theorem dX6_told_18 : decode cX6_told 18 = .ok (.iconst 1, 1) := by decide +kernel
theorem dX6_told_19 : decode cX6_told 19 = .ok (.isub, 1) := by decide +kernel
theorem dX6_told_20 : decode cX6_told 20 = .ok (.istore_n 2, 1) := by decide +kernel
theorem dX6_told_21 : decode cX6_told 21 = .ok (.iload_n 1, 1) := by decide +kernel
theorem dX6_told_22 : decode cX6_told 22 = .ok (.bipush 10, 2) := by decide +kernel
theorem dX6_told_24 : decode cX6_told 24 = .ok (.irem, 1) := by decide +kernel
theorem dX6_told_25 : decode cX6_told 25 = .ok (.istore_n 3, 1) := by decide +kernel
theorem dX6_told_26 : decode cX6_told 26 = .ok (.aload_n 0, 1) := by decide +kernel
theorem dX6_told_27 : decode cX6_told 27 = .ok (.iload_n 2, 1) := by decide +kernel
theorem dX6_told_28 : decode cX6_told 28 = .ok (.invokevirtual 67, 3) := by decide +kernel
theorem dX6_told_31 : decode cX6_told 31 = .ok (.ifCond .eq 8, 3) := by decide +kernel
theorem dX6_told_34 : decode cX6_told 34 = .ok (.iload_n 3, 1) := by decide +kernel
theorem dX6_told_35 : decode cX6_told 35 = .ok (.iconst 2, 1) := by decide +kernel
theorem dX6_told_36 : decode cX6_told 36 = .ok (.if_icmp .le 8, 3) := by decide +kernel
theorem dX6_told_39 : decode cX6_told 39 = .ok (.bipush (-2), 2) := by decide +kernel
theorem dX6_told_41 : decode cX6_told 41 = .ok (.goto 36, 3) := by decide +kernel
theorem dX6_told_44 : decode cX6_told 44 = .ok (.iload_n 3, 1) := by decide +kernel
theorem dX6_told_45 : decode cX6_told 45 = .ok (.ifCond .ne 12, 3) := by decide +kernel
theorem dX6_told_48 : decode cX6_told 48 = .ok (.aload_n 0, 1) := by decide +kernel
theorem dX6_told_49 : decode cX6_told 49 = .ok (.getfield 7, 3) := by decide +kernel
theorem dX6_told_52 : decode cX6_told 52 = .ok (.iload_n 2, 1) := by decide +kernel
theorem dX6_told_53 : decode cX6_told 53 = .ok (.iaload, 1) := by decide +kernel
theorem dX6_told_54 : decode cX6_told 54 = .ok (.goto 23, 3) := by decide +kernel
theorem dX6_told_57 : decode cX6_told 57 = .ok (.iload_n 3, 1) := by decide +kernel
theorem dX6_told_58 : decode cX6_told 58 = .ok (.iconst 1, 1) := by decide +kernel
theorem dX6_told_59 : decode cX6_told 59 = .ok (.if_icmp .ne 12, 3) := by decide +kernel
theorem dX6_told_62 : decode cX6_told 62 = .ok (.aload_n 0, 1) := by decide +kernel
theorem dX6_told_63 : decode cX6_told 63 = .ok (.getfield 13, 3) := by decide +kernel
theorem dX6_told_66 : decode cX6_told 66 = .ok (.iload_n 2, 1) := by decide +kernel
theorem dX6_told_67 : decode cX6_told 67 = .ok (.iaload, 1) := by decide +kernel
theorem dX6_told_68 : decode cX6_told 68 = .ok (.goto 9, 3) := by decide +kernel
theorem dX6_told_71 : decode cX6_told 71 = .ok (.aload_n 0, 1) := by decide +kernel
theorem dX6_told_72 : decode cX6_told 72 = .ok (.getfield 16, 3) := by decide +kernel
theorem dX6_told_75 : decode cX6_told 75 = .ok (.iload_n 2, 1) := by decide +kernel
theorem dX6_told_76 : decode cX6_told 76 = .ok (.iaload, 1) := by decide +kernel
theorem dX6_told_77 : decode cX6_told 77 = .ok (.ireturn, 1) := by decide +kernel
theorem dX6_told_78 : decode cX6_told 78 = .ok (.iload_n 1, 1) := by decide +kernel
theorem dX6_told_79 : decode cX6_told 79 = .ok (.tableswitch 58 0 4 #[33, 38, 43, 48, 53], 33) := by decide +kernel
theorem dX6_told_112 : decode cX6_told 112 = .ok (.aload_n 0, 1) := by decide +kernel
theorem dX6_told_113 : decode cX6_told 113 = .ok (.getfield 190, 3) := by decide +kernel
theorem dX6_told_116 : decode cX6_told 116 = .ok (.ireturn, 1) := by decide +kernel
theorem dX6_told_117 : decode cX6_told 117 = .ok (.aload_n 0, 1) := by decide +kernel
theorem dX6_told_118 : decode cX6_told 118 = .ok (.getfield 54, 3) := by decide +kernel
theorem dX6_told_121 : decode cX6_told 121 = .ok (.ireturn, 1) := by decide +kernel
theorem dX6_told_122 : decode cX6_told 122 = .ok (.aload_n 0, 1) := by decide +kernel
theorem dX6_told_123 : decode cX6_told 123 = .ok (.getfield 38, 3) := by decide +kernel
theorem dX6_told_126 : decode cX6_told 126 = .ok (.ireturn, 1) := by decide +kernel
theorem dX6_told_127 : decode cX6_told 127 = .ok (.aload_n 0, 1) := by decide +kernel
theorem dX6_told_128 : decode cX6_told 128 = .ok (.getfield 42, 3) := by decide +kernel
theorem dX6_told_131 : decode cX6_told 131 = .ok (.ireturn, 1) := by decide +kernel
theorem dX6_told_132 : decode cX6_told 132 = .ok (.aload_n 0, 1) := by decide +kernel
theorem dX6_told_133 : decode cX6_told 133 = .ok (.getfield 45, 3) := by decide +kernel
theorem dX6_told_136 : decode cX6_told 136 = .ok (.ireturn, 1) := by decide +kernel
theorem dX6_told_137 : decode cX6_told 137 = .ok (.bipush (-2), 2) := by decide +kernel
theorem dX6_told_139 : decode cX6_told 139 = .ok (.ireturn, 1) := by decide +kernel
theorem dJ6_bitCount_0f7a4_0 : decode cJ6_bitCount_0f7a4 0 = .ok (.iload_n 0, 1) := by decide +kernel
theorem dJ6_bitCount_0f7a4_1 : decode cJ6_bitCount_0f7a4 1 = .ok (.iload_n 0, 1) := by decide +kernel
theorem dJ6_bitCount_0f7a4_2 : decode cJ6_bitCount_0f7a4 2 = .ok (.iconst 1, 1) := by decide +kernel
theorem dJ6_bitCount_0f7a4_3 : decode cJ6_bitCount_0f7a4 3 = .ok (.iushr, 1) := by decide +kernel
theorem dJ6_bitCount_0f7a4_4 : decode cJ6_bitCount_0f7a4 4 = .ok (.ldc_w 265, 3) := by decide +kernel
theorem dJ6_bitCount_0f7a4_7 : decode cJ6_bitCount_0f7a4 7 = .ok (.iand, 1) := by decide +kernel
theorem dJ6_bitCount_0f7a4_8 : decode cJ6_bitCount_0f7a4 8 = .ok (.isub, 1) := by decide +kernel
theorem dJ6_bitCount_0f7a4_9 : decode cJ6_bitCount_0f7a4 9 = .ok (.istore_n 0, 1) := by decide +kernel
theorem dJ6_bitCount_0f7a4_10 : decode cJ6_bitCount_0f7a4 10 = .ok (.iload_n 0, 1) := by decide +kernel
theorem dJ6_bitCount_0f7a4_11 : decode cJ6_bitCount_0f7a4 11 = .ok (.ldc_w 266, 3) := by decide +kernel
theorem dJ6_bitCount_0f7a4_14 : decode cJ6_bitCount_0f7a4 14 = .ok (.iand, 1) := by decide +kernel
theorem dJ6_bitCount_0f7a4_15 : decode cJ6_bitCount_0f7a4 15 = .ok (.iload_n 0, 1) := by decide +kernel
theorem dJ6_bitCount_0f7a4_16 : decode cJ6_bitCount_0f7a4 16 = .ok (.iconst 2, 1) := by decide +kernel
theorem dJ6_bitCount_0f7a4_17 : decode cJ6_bitCount_0f7a4 17 = .ok (.iushr, 1) := by decide +kernel
theorem dJ6_bitCount_0f7a4_18 : decode cJ6_bitCount_0f7a4 18 = .ok (.ldc_w 266, 3) := by decide +kernel
theorem dJ6_bitCount_0f7a4_21 : decode cJ6_bitCount_0f7a4 21 = .ok (.iand, 1) := by decide +kernel
theorem dJ6_bitCount_0f7a4_22 : decode cJ6_bitCount_0f7a4 22 = .ok (.iadd, 1) := by decide +kernel
theorem dJ6_bitCount_0f7a4_23 : decode cJ6_bitCount_0f7a4 23 = .ok (.istore_n 0, 1) := by decide +kernel
theorem dJ6_bitCount_0f7a4_24 : decode cJ6_bitCount_0f7a4 24 = .ok (.iload_n 0, 1) := by decide +kernel
theorem dJ6_bitCount_0f7a4_25 : decode cJ6_bitCount_0f7a4 25 = .ok (.iload_n 0, 1) := by decide +kernel
theorem dJ6_bitCount_0f7a4_26 : decode cJ6_bitCount_0f7a4 26 = .ok (.iconst 4, 1) := by decide +kernel
theorem dJ6_bitCount_0f7a4_27 : decode cJ6_bitCount_0f7a4 27 = .ok (.iushr, 1) := by decide +kernel
theorem dJ6_bitCount_0f7a4_28 : decode cJ6_bitCount_0f7a4 28 = .ok (.iadd, 1) := by decide +kernel
theorem dJ6_bitCount_0f7a4_29 : decode cJ6_bitCount_0f7a4 29 = .ok (.ldc_w 267, 3) := by decide +kernel
theorem dJ6_bitCount_0f7a4_32 : decode cJ6_bitCount_0f7a4 32 = .ok (.iand, 1) := by decide +kernel
theorem dJ6_bitCount_0f7a4_33 : decode cJ6_bitCount_0f7a4 33 = .ok (.istore_n 0, 1) := by decide +kernel
theorem dJ6_bitCount_0f7a4_34 : decode cJ6_bitCount_0f7a4 34 = .ok (.iload_n 0, 1) := by decide +kernel
theorem dJ6_bitCount_0f7a4_35 : decode cJ6_bitCount_0f7a4 35 = .ok (.iload_n 0, 1) := by decide +kernel
theorem dJ6_bitCount_0f7a4_36 : decode cJ6_bitCount_0f7a4 36 = .ok (.bipush 8, 2) := by decide +kernel
theorem dJ6_bitCount_0f7a4_38 : decode cJ6_bitCount_0f7a4 38 = .ok (.iushr, 1) := by decide +kernel
theorem dJ6_bitCount_0f7a4_39 : decode cJ6_bitCount_0f7a4 39 = .ok (.iadd, 1) := by decide +kernel
theorem dJ6_bitCount_0f7a4_40 : decode cJ6_bitCount_0f7a4 40 = .ok (.istore_n 0, 1) := by decide +kernel
theorem dJ6_bitCount_0f7a4_41 : decode cJ6_bitCount_0f7a4 41 = .ok (.iload_n 0, 1) := by decide +kernel
theorem dJ6_bitCount_0f7a4_42 : decode cJ6_bitCount_0f7a4 42 = .ok (.iload_n 0, 1) := by decide +kernel
theorem dJ6_bitCount_0f7a4_43 : decode cJ6_bitCount_0f7a4 43 = .ok (.bipush 16, 2) := by decide +kernel
theorem dJ6_bitCount_0f7a4_45 : decode cJ6_bitCount_0f7a4 45 = .ok (.iushr, 1) := by decide +kernel
theorem dJ6_bitCount_0f7a4_46 : decode cJ6_bitCount_0f7a4 46 = .ok (.iadd, 1) := by decide +kernel
theorem dJ6_bitCount_0f7a4_47 : decode cJ6_bitCount_0f7a4 47 = .ok (.istore_n 0, 1) := by decide +kernel
theorem dJ6_bitCount_0f7a4_48 : decode cJ6_bitCount_0f7a4 48 = .ok (.iload_n 0, 1) := by decide +kernel
theorem dJ6_bitCount_0f7a4_49 : decode cJ6_bitCount_0f7a4 49 = .ok (.bipush 63, 2) := by decide +kernel
theorem dJ6_bitCount_0f7a4_51 : decode cJ6_bitCount_0f7a4 51 = .ok (.iand, 1) := by decide +kernel
theorem dJ6_bitCount_0f7a4_52 : decode cJ6_bitCount_0f7a4 52 = .ok (.ireturn, 1) := by decide +kernel
theorem dJ9_abs_0f7a4_0 : decode cJ9_abs_0f7a4 0 = .ok (.iload_n 0, 1) := by decide +kernel
theorem dJ9_abs_0f7a4_1 : decode cJ9_abs_0f7a4 1 = .ok (.ifCond .ge 8, 3) := by decide +kernel
theorem dJ9_abs_0f7a4_4 : decode cJ9_abs_0f7a4 4 = .ok (.iload_n 0, 1) := by decide +kernel
theorem dJ9_abs_0f7a4_5 : decode cJ9_abs_0f7a4 5 = .ok (.ineg, 1) := by decide +kernel
theorem dJ9_abs_0f7a4_6 : decode cJ9_abs_0f7a4 6 = .ok (.goto 4, 3) := by decide +kernel
theorem dJ9_abs_0f7a4_9 : decode cJ9_abs_0f7a4 9 = .ok (.iload_n 0, 1) := by decide +kernel
theorem dJ9_abs_0f7a4_10 : decode cJ9_abs_0f7a4 10 = .ok (.ireturn, 1) := by decide +kernel
theorem dJ9_max_7cf53_0 : decode cJ9_max_7cf53 0 = .ok (.iload_n 0, 1) := by decide +kernel
theorem dJ9_max_7cf53_1 : decode cJ9_max_7cf53 1 = .ok (.iload_n 1, 1) := by decide +kernel
theorem dJ9_max_7cf53_2 : decode cJ9_max_7cf53 2 = .ok (.if_icmp .lt 7, 3) := by decide +kernel
theorem dJ9_max_7cf53_5 : decode cJ9_max_7cf53 5 = .ok (.iload_n 0, 1) := by decide +kernel
theorem dJ9_max_7cf53_6 : decode cJ9_max_7cf53 6 = .ok (.goto 4, 3) := by decide +kernel
theorem dJ9_max_7cf53_9 : decode cJ9_max_7cf53 9 = .ok (.iload_n 1, 1) := by decide +kernel
theorem dJ9_max_7cf53_10 : decode cJ9_max_7cf53 10 = .ok (.ireturn, 1) := by decide +kernel
theorem dJ9_min_7cf53_0 : decode cJ9_min_7cf53 0 = .ok (.iload_n 0, 1) := by decide +kernel
theorem dJ9_min_7cf53_1 : decode cJ9_min_7cf53 1 = .ok (.iload_n 1, 1) := by decide +kernel
theorem dJ9_min_7cf53_2 : decode cJ9_min_7cf53 2 = .ok (.if_icmp .gt 7, 3) := by decide +kernel
theorem dJ9_min_7cf53_5 : decode cJ9_min_7cf53 5 = .ok (.iload_n 0, 1) := by decide +kernel
theorem dJ9_min_7cf53_6 : decode cJ9_min_7cf53 6 = .ok (.goto 4, 3) := by decide +kernel
theorem dJ9_min_7cf53_9 : decode cJ9_min_7cf53 9 = .ok (.iload_n 1, 1) := by decide +kernel
theorem dJ9_min_7cf53_10 : decode cJ9_min_7cf53 10 = .ok (.ireturn, 1) := by decide +kernel
set_option maxRecDepth 20000 in
theorem ggL_law_X5_init : GoodIn wsL_law wsX5_init := goodIn_r _ [8, 9, 10, 11, 12, 13, 14, 15, 16, 17, 18, 19, 20, 21, 22, 23, 24, 25, 26, 27, 28, 29, 30, 31, 32, 33, 34, 35, 36, 37, 38, 39, 40, 41, 42, 43, 44, 45, 46, 47, 48, 49, 50, 51, 52, 53, 54, 55, 56, 57, 58, 59, 60, 61, 62, 63, 64, 65, 664, 665, 666, 667, 668, 669, 670, 623, 624, 625, 626, 627, 628, 629, 630, 671, 672, 673, 674, 675, 676, 677, 678, 679, 680, 681, 682, 683, 684, 685, 686, 687, 688, 689, 690, 691, 692, 693, 694, 695, 696] (by decide +kernel) (by decide +kernel)
set_option maxRecDepth 20000 in
theorem gL_law_X5_init : GoodIn wsL_law (wsX5_init) := ggL_law_X5_init
set_option maxRecDepth 20000 in
theorem ggL_law_X6_init : GoodIn wsL_law wsX6_init := goodIn_r _ [68, 69, 10, 11, 35, 70, 71, 72, 73, 74, 75, 76, 77, 17, 78, 79, 80, 81, 631, 632, 633, 634, 635, 636, 637, 638, 639, 640, 641, 642, 643, 644, 645, 646, 647, 648, 649, 650, 651, 652, 653, 654, 655, 656, 657, 658, 659, 660, 661, 662, 663] (by decide +kernel) (by decide +kernel)
set_option maxRecDepth 20000 in
theorem gL_law_X6_init : GoodIn wsL_law (wsX6_init) := ggL_law_X6_init
set_option maxRecDepth 20000 in
theorem ggL_law_X5_run : GoodIn wsL_law wsX5_run := goodIn_r _ [85, 15, 86, 87, 2, 88, 89, 90, 91, 14, 92, 40, 41, 42, 43, 93, 94, 95, 96, 97, 98, 99, 100, 101, 102, 103, 104, 105, 106, 107, 623, 624, 625, 626, 627, 628, 629, 630, 664, 665, 666, 667, 668, 669, 670] (by decide +kernel) (by decide +kernel)
set_option maxRecDepth 20000 in
theorem gL_law_X5_run : GoodIn wsL_law (wsV RL 13 RX5 yX5_run wsX5_run) := goodIn_app (goodIn_of _ (by decide +kernel)) ggL_law_X5_run
set_option maxRecDepth 20000 in
theorem ggL_law_X6_run : GoodIn wsL_law wsX6_run := goodIn_r _ [111, 112, 113, 114, 115, 70, 71, 72, 116, 117, 118, 5, 119, 120, 121, 122, 631, 632, 633, 634, 635, 636, 637, 638, 639, 640, 641, 642, 643, 644, 645, 646, 647, 648, 649, 650, 651, 652, 653, 654, 655, 656, 657, 658, 659, 660, 661, 662, 663] (by decide +kernel) (by decide +kernel)
set_option maxRecDepth 20000 in
theorem gL_law_X6_run : GoodIn wsL_law (wsV RL 17 RX6 yX6_run wsX6_run) := goodIn_app (goodIn_of _ (by decide +kernel)) ggL_law_X6_run
set_option maxRecDepth 20000 in
theorem ggL_law_X5_rest : GoodIn wsL_law wsX5_rest := goodIn_r _ [126, 15, 127, 128, 129, 14, 130, 40, 131, 132, 133, 134, 135, 93, 94, 95, 96, 97, 98, 99, 100, 101, 102, 103, 104, 105, 106, 107, 623, 624, 625, 626, 627, 628, 629, 630, 664, 665, 666, 667, 668, 669, 670] (by decide +kernel) (by decide +kernel)
set_option maxRecDepth 20000 in
theorem gL_law_X5_rest : GoodIn wsL_law (wsV RL 18 RX5 yX5_rest wsX5_rest) := goodIn_app (goodIn_of _ (by decide +kernel)) ggL_law_X5_rest
set_option maxRecDepth 20000 in
theorem ggL_law_X6_rest : GoodIn wsL_law wsX6_rest := goodIn_r _ [139, 116, 140, 141, 142, 5, 143, 112, 117, 118, 119, 120, 121, 122, 631, 632, 633, 634, 635, 636, 637, 638, 639, 640, 641, 642, 643, 644, 645, 646, 647, 648, 649, 650, 651, 652, 653, 654, 655, 656, 657, 658, 659, 660, 661, 662, 663] (by decide +kernel) (by decide +kernel)
set_option maxRecDepth 20000 in
theorem gL_law_X6_rest : GoodIn wsL_law (wsV RL 22 RX6 yX6_rest wsX6_rest) := goodIn_app (goodIn_of _ (by decide +kernel)) ggL_law_X6_rest
set_option maxRecDepth 20000 in
theorem ggL_law_X5_set : GoodIn wsL_law wsX5_set := goodIn_r _ [147, 148, 149, 150, 2, 151, 15, 152, 153, 86, 87, 88, 154, 155, 156, 157, 158, 159, 160, 161, 162, 623, 624, 625, 626, 627, 628, 629, 630, 664, 665, 666, 667, 668, 669, 670] (by decide +kernel) (by decide +kernel)
set_option maxRecDepth 20000 in
theorem gL_law_X5_set : GoodIn wsL_law (wsV RL 23 RX5 yX5_set wsX5_set) := goodIn_app (goodIn_of _ (by decide +kernel)) ggL_law_X5_set
set_option maxRecDepth 20000 in
theorem ggL_law_X6_set : GoodIn wsL_law wsX6_set := goodIn_r _ [166, 80, 115, 79, 114, 167, 81, 117, 118, 5, 119, 631, 632, 633, 634, 635, 636, 637, 638, 639, 640, 641, 642, 643, 644, 645, 646, 647, 648, 649, 650, 651, 652, 653, 654, 655, 656, 657, 658, 659, 660, 661, 662, 663] (by decide +kernel) (by decide +kernel)
set_option maxRecDepth 20000 in
theorem gL_law_X6_set : GoodIn wsL_law (wsV RL 27 RX6 yX6_set wsX6_set) := goodIn_app (goodIn_of _ (by decide +kernel)) ggL_law_X6_set
set_option maxRecDepth 20000 in
theorem ggL_law_X5_pair : GoodIn wsL_law wsX5_pair := goodIn_r _ [171, 15, 26, 172, 173, 174, 175, 176, 177, 14, 178, 135, 128, 129, 130, 40, 86, 87, 2, 88, 179, 180, 181, 25, 182, 183, 184, 185, 186, 187, 188, 189, 190, 191, 192, 193, 194, 195, 196, 197, 198, 199, 200, 201, 202, 203, 204, 205, 206, 207, 208, 209, 210, 211, 212, 213, 214, 215, 216, 217, 218, 219, 220, 221, 222, 223, 224, 225, 226, 227, 228, 623, 624, 625, 626, 627, 628, 629, 630, 673, 674, 675, 676, 677, 678, 679, 680, 681, 682, 683, 684, 685, 686, 687, 688, 664, 665, 666, 667, 668, 669, 670] (by decide +kernel) (by decide +kernel)
set_option maxRecDepth 20000 in
theorem gL_law_X5_pair : GoodIn wsL_law (wsV RL 28 RX5 yX5_pair wsX5_pair) := goodIn_app (goodIn_of _ (by decide +kernel)) ggL_law_X5_pair
set_option maxRecDepth 20000 in
theorem ggL_law_X6_pair : GoodIn wsL_law wsX6_pair := goodIn_r _ [232, 233, 113, 234, 235, 236, 237, 238, 239, 240, 241, 242, 5, 243, 140, 141, 142, 143, 112, 116, 117, 118, 119, 244, 245, 246, 247, 70, 248, 249, 72, 250, 251, 71, 252, 253, 79, 254, 255, 256, 257, 258, 259, 260, 261, 262, 80, 263, 264, 81, 265, 266, 267, 268, 269, 270, 271, 272, 273, 274, 275, 631, 632, 633, 634, 635, 636, 637, 638, 639, 640, 641, 642, 643, 644, 645, 646, 647, 648, 649, 650, 651, 652, 653, 654, 655, 656, 657, 658, 659, 660, 661, 662, 663] (by decide +kernel) (by decide +kernel)
set_option maxRecDepth 20000 in
theorem gL_law_X6_pair : GoodIn wsL_law (wsV RL 31 RX6 yX6_pair wsX6_pair) := goodIn_app (goodIn_of _ (by decide +kernel)) ggL_law_X6_pair
set_option maxRecDepth 20000 in
theorem ggL_law_X5_reach : GoodIn wsL_law wsX5_reach := goodIn_r _ [279, 26, 280, 281, 282, 283, 2, 284, 15, 175, 176, 177, 14, 178, 135, 128, 129, 130, 40, 285, 286, 287, 86, 87, 88, 288, 289, 290, 291, 179, 180, 181, 25, 182, 183, 184, 185, 186, 187, 188, 189, 190, 191, 192, 193, 194, 195, 196, 197, 198, 199, 200, 201, 202, 203, 204, 205, 206, 207, 292, 293, 294, 295, 296, 297, 298, 299, 212, 213, 214, 300, 209, 210, 211, 215, 216, 217, 218, 219, 220, 221, 222, 223, 301, 225, 226, 227, 623, 624, 625, 626, 627, 628, 629, 630, 673, 674, 675, 676, 677, 678, 679, 680, 681, 682, 683, 684, 685, 686, 687, 688, 664, 665, 666, 667, 668, 669, 670] (by decide +kernel) (by decide +kernel)
set_option maxRecDepth 20000 in
theorem gL_law_X5_reach : GoodIn wsL_law (wsV RL 32 RX5 yX5_reach wsX5_reach) := goodIn_app (goodIn_of _ (by decide +kernel)) ggL_law_X5_reach
set_option maxRecDepth 20000 in
theorem ggL_law_X6_reach : GoodIn wsL_law wsX6_reach := goodIn_r _ [305, 306, 234, 240, 241, 242, 5, 243, 140, 141, 142, 143, 112, 116, 117, 118, 119, 307, 308, 309, 233, 244, 245, 246, 247, 70, 248, 249, 72, 250, 251, 71, 252, 253, 79, 254, 310, 311, 312, 313, 237, 255, 256, 257, 258, 235, 236, 238, 239, 259, 260, 261, 262, 80, 263, 264, 81, 265, 266, 267, 268, 269, 270, 271, 272, 273, 274, 275, 631, 632, 633, 634, 635, 636, 637, 638, 639, 640, 641, 642, 643, 644, 645, 646, 647, 648, 649, 650, 651, 652, 653, 654, 655, 656, 657, 658, 659, 660, 661, 662, 663] (by decide +kernel) (by decide +kernel)
set_option maxRecDepth 20000 in
theorem gL_law_X6_reach : GoodIn wsL_law (wsV RL 35 RX6 yX6_reach wsX6_reach) := goodIn_app (goodIn_of _ (by decide +kernel)) ggL_law_X6_reach
set_option maxRecDepth 20000 in
theorem ggL_law_X5_who : GoodIn wsL_law wsX5_who := goodIn_r _ [317, 15, 26, 280, 318, 175, 176, 177, 14, 178, 135, 128, 129, 130, 40, 86, 87, 2, 88, 179, 180, 181, 25, 182, 183, 184, 185, 186, 187, 188, 189, 190, 191, 192, 193, 194, 195, 196, 197, 198, 199, 200, 201, 202, 203, 204, 205, 206, 207, 319, 320, 321, 322, 300, 209, 210, 211, 212, 213, 214, 215, 216, 217, 218, 219, 220, 221, 222, 223, 623, 624, 625, 626, 627, 628, 629, 630, 673, 674, 675, 676, 677, 678, 679, 680, 681, 682, 683, 684, 685, 686, 687, 688, 664, 665, 666, 667, 668, 669, 670] (by decide +kernel) (by decide +kernel)
set_option maxRecDepth 20000 in
theorem gL_law_X5_who : GoodIn wsL_law (wsV RL 36 RX5 yX5_who wsX5_who) := goodIn_app (goodIn_of _ (by decide +kernel)) ggL_law_X5_who
set_option maxRecDepth 20000 in
theorem ggL_law_X6_who : GoodIn wsL_law wsX6_who := goodIn_r _ [326, 234, 239, 264, 240, 241, 242, 5, 243, 140, 141, 142, 143, 112, 116, 117, 118, 119, 244, 245, 246, 247, 70, 248, 249, 72, 250, 251, 71, 252, 253, 79, 254, 255, 256, 257, 258, 235, 236, 237, 238, 259, 260, 261, 262, 80, 263, 81, 265, 266, 267, 268, 269, 270, 271, 631, 632, 633, 634, 635, 636, 637, 638, 639, 640, 641, 642, 643, 644, 645, 646, 647, 648, 649, 650, 651, 652, 653, 654, 655, 656, 657, 658, 659, 660, 661, 662, 663] (by decide +kernel) (by decide +kernel)
set_option maxRecDepth 20000 in
theorem gL_law_X6_who : GoodIn wsL_law (wsV RL 40 RX6 yX6_who wsX6_who) := goodIn_app (goodIn_of _ (by decide +kernel)) ggL_law_X6_who
set_option maxRecDepth 20000 in
theorem ggL_law_X5_alone : GoodIn wsL_law wsX5_alone := goodIn_r _ [330, 15, 331, 332, 127, 128, 129, 14, 130, 40, 285, 286, 2, 287, 86, 87, 88, 623, 624, 625, 626, 627, 628, 629, 630, 664, 665, 666, 667, 668, 669, 670] (by decide +kernel) (by decide +kernel)
set_option maxRecDepth 20000 in
theorem gL_law_X5_alone : GoodIn wsL_law (wsV RL 41 RX5 yX5_alone wsX5_alone) := goodIn_app (goodIn_of _ (by decide +kernel)) ggL_law_X5_alone
set_option maxRecDepth 20000 in
theorem ggL_law_X6_alone : GoodIn wsL_law wsX6_alone := goodIn_r _ [336, 71, 70, 140, 141, 142, 5, 143, 112, 116, 117, 118, 119, 307, 308, 309, 233, 631, 632, 633, 634, 635, 636, 637, 638, 639, 640, 641, 642, 643, 644, 645, 646, 647, 648, 649, 650, 651, 652, 653, 654, 655, 656, 657, 658, 659, 660, 661, 662, 663] (by decide +kernel) (by decide +kernel)
set_option maxRecDepth 20000 in
theorem gL_law_X6_alone : GoodIn wsL_law (wsV RL 44 RX6 yX6_alone wsX6_alone) := goodIn_app (goodIn_of _ (by decide +kernel)) ggL_law_X6_alone
set_option maxRecDepth 20000 in
theorem ggL_law_X5_tied : GoodIn wsL_law wsX5_tied := goodIn_r _ [340, 15, 30, 36, 341, 342, 93, 94, 95, 14, 96, 97, 98, 99, 100, 40, 101, 102, 103, 104, 105, 106, 107, 127, 128, 129, 130, 285, 286, 2, 287, 86, 87, 88, 343, 344, 345, 346, 175, 176, 177, 178, 135, 288, 289, 290, 291, 26, 179, 180, 181, 25, 182, 183, 184, 185, 186, 187, 188, 189, 190, 191, 192, 193, 194, 195, 196, 197, 198, 199, 200, 201, 202, 203, 204, 205, 206, 207, 292, 293, 294, 295, 296, 297, 298, 299, 212, 213, 214, 300, 209, 210, 211, 215, 216, 217, 218, 219, 220, 221, 222, 223, 301, 225, 226, 227, 347, 348, 349, 29, 350, 351, 57, 352, 353, 59, 60, 354, 355, 356, 357, 358, 359, 360, 361, 362, 58, 363, 364, 365, 366, 367, 368, 369, 370, 371, 372, 373, 374, 375, 376, 377, 623, 624, 625, 626, 627, 628, 629, 630, 689, 690, 691, 692, 693, 694, 664, 665, 666, 667, 668, 669, 670, 673, 674, 675, 676, 677, 678, 679, 680, 681, 682, 683, 684, 685, 686, 687, 688] (by decide +kernel) (by decide +kernel)
set_option maxRecDepth 20000 in
theorem gL_law_X5_tied : GoodIn wsL_law (wsV RL 45 RX5 yX5_tied wsX5_tied) := goodIn_app (goodIn_of _ (by decide +kernel)) ggL_law_X5_tied
set_option maxRecDepth 20000 in
theorem ggL_law_X6_tied : GoodIn wsL_law wsX6_tied := goodIn_r _ [381, 116, 306, 75, 74, 120, 121, 5, 122, 140, 141, 142, 143, 112, 117, 118, 119, 307, 308, 309, 233, 382, 383, 384, 385, 73, 386, 240, 241, 242, 243, 244, 245, 246, 247, 70, 248, 249, 72, 250, 251, 71, 252, 253, 79, 254, 310, 311, 312, 313, 234, 237, 255, 256, 257, 258, 235, 236, 238, 239, 259, 260, 261, 262, 80, 263, 264, 81, 265, 266, 267, 268, 269, 270, 271, 272, 273, 274, 275, 387, 388, 389, 390, 391, 392, 393, 394, 631, 632, 633, 634, 635, 636, 637, 638, 639, 640, 641, 642, 643, 644, 645, 646, 647, 648, 649, 650, 651, 652, 653, 654, 655, 656, 657, 658, 659, 660, 661, 662, 663] (by decide +kernel) (by decide +kernel)
set_option maxRecDepth 20000 in
theorem gL_law_X6_tied : GoodIn wsL_law (wsV RL 48 RX6 yX6_tied wsX6_tied) := goodIn_app (goodIn_of _ (by decide +kernel)) ggL_law_X6_tied
set_option maxRecDepth 20000 in
theorem ggL_law_X5_call : GoodIn wsL_law wsX5_call := goodIn_r _ [398, 34, 26, 15, 281, 282, 283, 2, 284, 175, 176, 177, 14, 178, 135, 128, 129, 130, 40, 285, 286, 287, 86, 87, 88, 399, 400, 401, 33, 402, 64, 65, 179, 180, 181, 25, 182, 183, 184, 185, 186, 187, 188, 189, 190, 191, 192, 193, 194, 195, 196, 197, 198, 199, 200, 201, 202, 203, 204, 205, 206, 207, 403, 404, 405, 406, 292, 293, 294, 295, 296, 297, 298, 299, 212, 213, 214, 300, 209, 210, 211, 215, 216, 217, 218, 219, 220, 221, 222, 223, 301, 225, 226, 227, 407, 408, 409, 410, 411, 412, 413, 414, 623, 624, 625, 626, 627, 628, 629, 630, 664, 665, 666, 667, 668, 669, 670, 695, 696, 673, 674, 675, 676, 677, 678, 679, 680, 681, 682, 683, 684, 685, 686, 687, 688] (by decide +kernel) (by decide +kernel)
set_option maxRecDepth 20000 in
theorem gL_law_X5_call : GoodIn wsL_law (wsV RL 49 RX5 yX5_call wsX5_call) := goodIn_app (goodIn_of _ (by decide +kernel)) ggL_law_X5_call
set_option maxRecDepth 20000 in
theorem ggL_law_X6_call : GoodIn wsL_law wsX6_call := goodIn_r _ [418, 248, 249, 240, 241, 242, 5, 243, 140, 141, 142, 143, 112, 116, 117, 118, 119, 419, 420, 421, 307, 308, 309, 233, 244, 245, 246, 247, 70, 72, 250, 251, 71, 252, 253, 79, 254, 422, 423, 424, 425, 426, 306, 427, 428, 429, 430, 431, 310, 311, 312, 313, 234, 237, 255, 256, 257, 258, 235, 236, 238, 239, 259, 260, 261, 262, 80, 263, 264, 81, 265, 266, 267, 268, 269, 270, 271, 272, 273, 274, 275, 432, 433, 434, 435, 631, 632, 633, 634, 635, 636, 637, 638, 639, 640, 641, 642, 643, 644, 645, 646, 647, 648, 649, 650, 651, 652, 653, 654, 655, 656, 657, 658, 659, 660, 661, 662, 663] (by decide +kernel) (by decide +kernel)
set_option maxRecDepth 20000 in
theorem gL_law_X6_call : GoodIn wsL_law (wsV RL 52 RX6 yX6_call wsX6_call) := goodIn_app (goodIn_of _ (by decide +kernel)) ggL_law_X6_call
set_option maxRecDepth 20000 in
theorem ggL_law_X5_quicken : GoodIn wsL_law wsX5_quicken := goodIn_r _ [439, 34, 26, 15, 281, 282, 283, 2, 284, 175, 176, 177, 14, 178, 135, 128, 129, 130, 40, 285, 286, 287, 86, 87, 88, 399, 400, 401, 33, 402, 64, 65, 179, 180, 181, 25, 182, 183, 184, 185, 186, 187, 188, 189, 190, 191, 192, 193, 194, 195, 196, 197, 198, 199, 200, 201, 202, 203, 204, 205, 206, 207, 292, 293, 294, 295, 296, 297, 298, 299, 212, 213, 214, 300, 209, 210, 211, 215, 216, 217, 218, 219, 220, 221, 222, 223, 301, 225, 226, 227, 407, 408, 409, 410, 288, 289, 290, 291, 411, 412, 413, 414, 623, 624, 625, 626, 627, 628, 629, 630, 664, 665, 666, 667, 668, 669, 670, 695, 696, 673, 674, 675, 676, 677, 678, 679, 680, 681, 682, 683, 684, 685, 686, 687, 688] (by decide +kernel) (by decide +kernel)
set_option maxRecDepth 20000 in
theorem gL_law_X5_quicken : GoodIn wsL_law (wsV RL 53 RX5 yX5_quicken wsX5_quicken) := goodIn_app (goodIn_of _ (by decide +kernel)) ggL_law_X5_quicken
set_option maxRecDepth 20000 in
theorem ggL_law_X6_quicken : GoodIn wsL_law wsX6_quicken := goodIn_r _ [443, 253, 240, 241, 242, 5, 243, 140, 141, 142, 143, 112, 116, 117, 118, 119, 419, 420, 421, 307, 308, 309, 233, 244, 245, 246, 247, 70, 248, 249, 72, 250, 251, 71, 252, 79, 254, 422, 423, 424, 425, 426, 306, 427, 428, 429, 430, 431, 310, 311, 312, 313, 234, 237, 255, 256, 257, 258, 235, 236, 238, 239, 259, 260, 261, 262, 80, 263, 264, 81, 265, 266, 267, 268, 269, 270, 271, 272, 273, 274, 275, 432, 433, 434, 435, 631, 632, 633, 634, 635, 636, 637, 638, 639, 640, 641, 642, 643, 644, 645, 646, 647, 648, 649, 650, 651, 652, 653, 654, 655, 656, 657, 658, 659, 660, 661, 662, 663] (by decide +kernel) (by decide +kernel)
set_option maxRecDepth 20000 in
theorem gL_law_X6_quicken : GoodIn wsL_law (wsV RL 56 RX6 yX6_quicken wsX6_quicken) := goodIn_app (goodIn_of _ (by decide +kernel)) ggL_law_X6_quicken
set_option maxRecDepth 20000 in
theorem ggL_law_X5_yields : GoodIn wsL_law wsX5_yields := goodIn_r _ [447, 34, 26, 15, 281, 282, 283, 2, 284, 175, 176, 177, 14, 178, 135, 128, 129, 130, 40, 285, 286, 287, 86, 87, 88, 399, 400, 401, 33, 402, 64, 65, 179, 180, 181, 25, 182, 183, 184, 185, 186, 187, 188, 189, 190, 191, 192, 193, 194, 195, 196, 197, 198, 199, 200, 201, 202, 203, 204, 205, 206, 207, 448, 449, 450, 451, 292, 293, 294, 295, 296, 297, 298, 299, 212, 213, 214, 300, 209, 210, 211, 215, 216, 217, 218, 219, 220, 221, 222, 223, 301, 225, 226, 227, 407, 408, 409, 410, 411, 412, 413, 414, 623, 624, 625, 626, 627, 628, 629, 630, 664, 665, 666, 667, 668, 669, 670, 695, 696, 673, 674, 675, 676, 677, 678, 679, 680, 681, 682, 683, 684, 685, 686, 687, 688] (by decide +kernel) (by decide +kernel)
set_option maxRecDepth 20000 in
theorem gL_law_X5_yields : GoodIn wsL_law (wsV RL 57 RX5 yX5_yields wsX5_yields) := goodIn_app (goodIn_of _ (by decide +kernel)) ggL_law_X5_yields
set_option maxRecDepth 20000 in
theorem ggL_law_X6_yields : GoodIn wsL_law wsX6_yields := goodIn_r _ [455, 250, 251, 240, 241, 242, 5, 243, 140, 141, 142, 143, 112, 116, 117, 118, 119, 419, 420, 421, 307, 308, 309, 233, 244, 245, 246, 247, 70, 248, 249, 72, 71, 252, 253, 79, 254, 422, 423, 424, 425, 426, 306, 427, 428, 429, 430, 431, 310, 311, 312, 313, 234, 237, 255, 256, 257, 258, 235, 236, 238, 239, 259, 260, 261, 262, 80, 263, 264, 81, 265, 266, 267, 268, 269, 270, 271, 272, 273, 274, 275, 432, 433, 434, 435, 631, 632, 633, 634, 635, 636, 637, 638, 639, 640, 641, 642, 643, 644, 645, 646, 647, 648, 649, 650, 651, 652, 653, 654, 655, 656, 657, 658, 659, 660, 661, 662, 663] (by decide +kernel) (by decide +kernel)
set_option maxRecDepth 20000 in
theorem gL_law_X6_yields : GoodIn wsL_law (wsV RL 60 RX6 yX6_yields wsX6_yields) := goodIn_app (goodIn_of _ (by decide +kernel)) ggL_law_X6_yields
set_option maxRecDepth 20000 in
theorem ggL_law_X5_practice : GoodIn wsL_law wsX5_practice := goodIn_r _ [459, 15, 460, 175, 176, 177, 14, 178, 135, 128, 129, 130, 40, 86, 87, 2, 88, 461, 462, 463, 464, 26, 179, 180, 181, 25, 182, 183, 184, 185, 186, 187, 188, 189, 190, 191, 192, 193, 194, 195, 196, 197, 198, 199, 200, 201, 202, 203, 204, 205, 206, 207, 448, 449, 450, 451, 319, 320, 321, 322, 300, 209, 210, 211, 212, 213, 214, 215, 216, 217, 218, 219, 220, 221, 222, 223, 623, 624, 625, 626, 627, 628, 629, 630, 664, 665, 666, 667, 668, 669, 670, 673, 674, 675, 676, 677, 678, 679, 680, 681, 682, 683, 684, 685, 686, 687, 688] (by decide +kernel) (by decide +kernel)
set_option maxRecDepth 20000 in
theorem gL_law_X5_practice : GoodIn wsL_law (wsV RL 61 RX5 yX5_practice wsX5_practice) := goodIn_app (goodIn_of _ (by decide +kernel)) ggL_law_X5_practice
set_option maxRecDepth 20000 in
theorem ggL_law_X6_practice : GoodIn wsL_law wsX6_practice := goodIn_r _ [468, 233, 72, 250, 251, 240, 241, 242, 5, 243, 140, 141, 142, 143, 112, 116, 117, 118, 119, 244, 245, 246, 247, 70, 248, 249, 71, 252, 253, 79, 254, 469, 470, 471, 472, 234, 239, 255, 256, 257, 258, 235, 236, 237, 238, 259, 260, 261, 262, 80, 263, 264, 81, 265, 266, 267, 268, 269, 270, 271, 631, 632, 633, 634, 635, 636, 637, 638, 639, 640, 641, 642, 643, 644, 645, 646, 647, 648, 649, 650, 651, 652, 653, 654, 655, 656, 657, 658, 659, 660, 661, 662, 663] (by decide +kernel) (by decide +kernel)
set_option maxRecDepth 20000 in
theorem gL_law_X6_practice : GoodIn wsL_law (wsV RL 64 RX6 yX6_practice wsX6_practice) := goodIn_app (goodIn_of _ (by decide +kernel)) ggL_law_X6_practice
set_option maxRecDepth 20000 in
theorem ggL_law_X5_scarf : GoodIn wsL_law wsX5_scarf := goodIn_r _ [476, 15, 152, 26, 477, 175, 176, 177, 14, 178, 135, 128, 129, 130, 40, 285, 286, 2, 287, 86, 87, 88, 179, 180, 181, 25, 182, 183, 184, 185, 186, 187, 188, 189, 190, 191, 192, 193, 194, 195, 196, 197, 198, 199, 200, 201, 202, 203, 204, 205, 206, 207, 292, 293, 294, 295, 296, 297, 298, 299, 212, 213, 214, 300, 209, 210, 211, 215, 216, 217, 218, 219, 220, 221, 222, 223, 301, 225, 226, 227, 623, 624, 625, 626, 627, 628, 629, 630, 664, 665, 666, 667, 668, 669, 670, 673, 674, 675, 676, 677, 678, 679, 680, 681, 682, 683, 684, 685, 686, 687, 688] (by decide +kernel) (by decide +kernel)
set_option maxRecDepth 20000 in
theorem gL_law_X5_scarf : GoodIn wsL_law (wsV RL 65 RX5 yX5_scarf wsX5_scarf) := goodIn_app (goodIn_of _ (by decide +kernel)) ggL_law_X5_scarf
set_option maxRecDepth 20000 in
theorem ggL_law_X6_scarf : GoodIn wsL_law wsX6_scarf := goodIn_r _ [481, 482, 80, 254, 240, 241, 242, 5, 243, 140, 141, 142, 143, 112, 116, 117, 118, 119, 307, 308, 309, 233, 244, 245, 246, 247, 70, 248, 249, 72, 250, 251, 71, 252, 253, 79, 310, 311, 312, 313, 234, 237, 306, 255, 256, 257, 258, 235, 236, 238, 239, 259, 260, 261, 262, 263, 264, 81, 265, 266, 267, 268, 269, 270, 271, 272, 273, 274, 275, 631, 632, 633, 634, 635, 636, 637, 638, 639, 640, 641, 642, 643, 644, 645, 646, 647, 648, 649, 650, 651, 652, 653, 654, 655, 656, 657, 658, 659, 660, 661, 662, 663] (by decide +kernel) (by decide +kernel)
set_option maxRecDepth 20000 in
theorem gL_law_X6_scarf : GoodIn wsL_law (wsV RL 68 RX6 yX6_scarf wsX6_scarf) := goodIn_app (goodIn_of _ (by decide +kernel)) ggL_law_X6_scarf
set_option maxRecDepth 20000 in
theorem ggL_law_X5_even : GoodIn wsL_law wsX5_even := goodIn_r _ [486, 15, 26, 487, 213, 192, 214, 175, 176, 177, 14, 178, 135, 128, 129, 130, 40, 285, 286, 2, 287, 86, 87, 88, 288, 289, 290, 291, 179, 180, 181, 25, 182, 183, 184, 185, 186, 187, 188, 189, 190, 191, 193, 194, 195, 196, 197, 198, 199, 200, 201, 202, 203, 204, 205, 206, 207, 292, 293, 294, 295, 296, 297, 298, 299, 212, 300, 209, 210, 211, 215, 216, 217, 218, 219, 220, 221, 222, 223, 301, 225, 226, 227, 488, 489, 490, 491, 623, 624, 625, 626, 627, 628, 629, 630, 664, 665, 666, 667, 668, 669, 670, 673, 674, 675, 676, 677, 678, 679, 680, 681, 682, 683, 684, 685, 686, 687, 688] (by decide +kernel) (by decide +kernel)
set_option maxRecDepth 20000 in
theorem gL_law_X5_even : GoodIn wsL_law (wsV RL 69 RX5 yX5_even wsX5_even) := goodIn_app (goodIn_of _ (by decide +kernel)) ggL_law_X5_even
set_option maxRecDepth 20000 in
theorem ggL_law_X6_even : GoodIn wsL_law wsX6_even := goodIn_r _ [495, 306, 240, 241, 242, 5, 243, 140, 141, 142, 143, 112, 116, 117, 118, 119, 307, 308, 309, 233, 244, 245, 246, 247, 70, 248, 249, 72, 250, 251, 71, 252, 253, 79, 254, 310, 311, 312, 313, 234, 237, 255, 256, 257, 258, 235, 236, 238, 239, 259, 260, 261, 262, 80, 263, 264, 81, 265, 266, 267, 268, 269, 270, 271, 272, 273, 274, 275, 631, 632, 633, 634, 635, 636, 637, 638, 639, 640, 641, 642, 643, 644, 645, 646, 647, 648, 649, 650, 651, 652, 653, 654, 655, 656, 657, 658, 659, 660, 661, 662, 663] (by decide +kernel) (by decide +kernel)
set_option maxRecDepth 20000 in
theorem gL_law_X6_even : GoodIn wsL_law (wsV RL 73 RX6 yX6_even wsX6_even) := goodIn_app (goodIn_of _ (by decide +kernel)) ggL_law_X6_even
set_option maxRecDepth 20000 in
theorem ggL_law_X5_say : GoodIn wsL_law wsX5_say := goodIn_r _ [499, 22, 500, 86, 87, 2, 88, 501, 502, 503, 21, 504, 505, 50, 623, 624, 625, 626, 627, 628, 629, 630, 671, 672] (by decide +kernel) (by decide +kernel)
set_option maxRecDepth 20000 in
theorem gL_law_X5_say : GoodIn wsL_law (wsV RL 74 RX5 yX5_say wsX5_say) := goodIn_app (goodIn_of _ (by decide +kernel)) ggL_law_X5_say
set_option maxRecDepth 20000 in
theorem ggL_law_X6_say : GoodIn wsL_law wsX6_say := goodIn_r _ [509, 510, 511, 512, 76, 117, 118, 5, 119, 631, 632, 633, 634, 635, 636, 637, 638, 639, 640, 641, 642, 643, 644, 645, 646, 647, 648, 649, 650, 651, 652, 653, 654, 655, 656, 657, 658, 659, 660, 661, 662, 663] (by decide +kernel) (by decide +kernel)
set_option maxRecDepth 20000 in
theorem gL_law_X6_say : GoodIn wsL_law (wsV RL 77 RX6 yX6_say wsX6_say) := goodIn_app (goodIn_of _ (by decide +kernel)) ggL_law_X6_say
set_option maxRecDepth 20000 in
theorem ggL_law_X5_wipe : GoodIn wsL_law wsX5_wipe := goodIn_r _ [516, 22, 500, 623, 624, 625, 626, 627, 628, 629, 630, 671, 672] (by decide +kernel) (by decide +kernel)
set_option maxRecDepth 20000 in
theorem gL_law_X5_wipe : GoodIn wsL_law (wsV RL 78 RX5 yX5_wipe wsX5_wipe) := goodIn_app (goodIn_of _ (by decide +kernel)) ggL_law_X5_wipe
set_option maxRecDepth 20000 in
theorem ggL_law_X6_wipe : GoodIn wsL_law wsX6_wipe := goodIn_r _ [520, 512, 631, 632, 633, 634, 635, 636, 637, 638, 639, 640, 641, 642, 643, 644, 645, 646, 647, 648, 649, 650, 651, 652, 653, 654, 655, 656, 657, 658, 659, 660, 661, 662, 663] (by decide +kernel) (by decide +kernel)
set_option maxRecDepth 20000 in
theorem gL_law_X6_wipe : GoodIn wsL_law (wsV RL 82 RX6 yX6_wipe wsX6_wipe) := goodIn_app (goodIn_of _ (by decide +kernel)) ggL_law_X6_wipe
set_option maxRecDepth 20000 in
theorem ggL_law_X5_fault : GoodIn wsL_law wsX5_fault := goodIn_r _ [524, 22, 525, 526, 527, 21, 528, 505, 50, 623, 624, 625, 626, 627, 628, 629, 630, 671, 672] (by decide +kernel) (by decide +kernel)
set_option maxRecDepth 20000 in
theorem gL_law_X5_fault : GoodIn wsL_law (wsV RL 83 RX5 yX5_fault wsX5_fault) := goodIn_app (goodIn_of _ (by decide +kernel)) ggL_law_X5_fault
set_option maxRecDepth 20000 in
theorem ggL_law_X6_fault : GoodIn wsL_law wsX6_fault := goodIn_r _ [532, 512, 76, 631, 632, 633, 634, 635, 636, 637, 638, 639, 640, 641, 642, 643, 644, 645, 646, 647, 648, 649, 650, 651, 652, 653, 654, 655, 656, 657, 658, 659, 660, 661, 662, 663] (by decide +kernel) (by decide +kernel)
set_option maxRecDepth 20000 in
theorem gL_law_X6_fault : GoodIn wsL_law (wsV RL 86 RX6 yX6_fault wsX6_fault) := goodIn_app (goodIn_of _ (by decide +kernel)) ggL_law_X6_fault
set_option maxRecDepth 20000 in
theorem ggL_law_X5_judge : GoodIn wsL_law wsX5_judge := goodIn_r _ [536, 15, 22, 175, 176, 177, 14, 178, 135, 128, 129, 130, 40, 525, 526, 527, 21, 528, 505, 50, 537, 538, 539, 2, 540, 26, 500, 541, 179, 180, 181, 25, 182, 183, 184, 185, 186, 187, 188, 189, 190, 191, 192, 193, 194, 195, 196, 197, 198, 199, 200, 201, 202, 203, 204, 205, 206, 207, 208, 209, 210, 211, 212, 213, 214, 215, 216, 217, 218, 219, 220, 221, 222, 223, 542, 543, 544, 545, 623, 624, 625, 626, 627, 628, 629, 630, 664, 665, 666, 667, 668, 669, 670, 671, 672, 673, 674, 675, 676, 677, 678, 679, 680, 681, 682, 683, 684, 685, 686, 687, 688] (by decide +kernel) (by decide +kernel)
set_option maxRecDepth 20000 in
theorem gL_law_X5_judge : GoodIn wsL_law (wsV RL 87 RX5 yX5_judge wsX5_judge) := goodIn_app (goodIn_of _ (by decide +kernel)) ggL_law_X5_judge
set_option maxRecDepth 20000 in
theorem ggL_law_X6_judge : GoodIn wsL_law wsX6_judge := goodIn_r _ [549, 240, 241, 242, 5, 243, 140, 141, 142, 143, 112, 116, 117, 118, 119, 550, 530, 531, 532, 512, 76, 551, 552, 553, 554, 263, 244, 245, 246, 247, 70, 248, 249, 72, 250, 251, 71, 252, 253, 79, 254, 255, 256, 257, 258, 235, 236, 237, 238, 239, 234, 259, 260, 261, 262, 80, 264, 81, 265, 266, 267, 268, 269, 270, 271, 631, 632, 633, 634, 635, 636, 637, 638, 639, 640, 641, 642, 643, 644, 645, 646, 647, 648, 649, 650, 651, 652, 653, 654, 655, 656, 657, 658, 659, 660, 661, 662, 663] (by decide +kernel) (by decide +kernel)
set_option maxRecDepth 20000 in
theorem gL_law_X6_judge : GoodIn wsL_law (wsV RL 90 RX6 yX6_judge wsX6_judge) := goodIn_app (goodIn_of _ (by decide +kernel)) ggL_law_X6_judge
set_option maxRecDepth 20000 in
theorem ggL_law_X5_fits : GoodIn wsL_law wsX5_fits := goodIn_r _ [558, 22, 15, 525, 526, 527, 21, 528, 505, 50, 175, 176, 177, 14, 178, 135, 128, 129, 130, 40, 537, 538, 539, 2, 540, 26, 500, 541, 179, 180, 181, 25, 182, 183, 184, 185, 186, 187, 188, 189, 190, 191, 192, 193, 194, 195, 196, 197, 198, 199, 200, 201, 202, 203, 204, 205, 206, 207, 208, 209, 210, 211, 212, 213, 214, 215, 216, 217, 218, 219, 220, 221, 222, 223, 542, 543, 544, 545, 623, 624, 625, 626, 627, 628, 629, 630, 671, 672, 664, 665, 666, 667, 668, 669, 670, 673, 674, 675, 676, 677, 678, 679, 680, 681, 682, 683, 684, 685, 686, 687, 688] (by decide +kernel) (by decide +kernel)
set_option maxRecDepth 20000 in
theorem gL_law_X5_fits : GoodIn wsL_law (wsV RL 91 RX5 yX5_fits wsX5_fits) := goodIn_app (goodIn_of _ (by decide +kernel)) ggL_law_X5_fits
set_option maxRecDepth 20000 in
theorem ggL_law_X6_fits : GoodIn wsL_law wsX6_fits := goodIn_r _ [562, 550, 530, 531, 5, 532, 512, 76, 240, 241, 242, 243, 140, 141, 142, 143, 112, 116, 117, 118, 119, 551, 552, 553, 554, 263, 244, 245, 246, 247, 70, 248, 249, 72, 250, 251, 71, 252, 253, 79, 254, 255, 256, 257, 258, 235, 236, 237, 238, 239, 234, 259, 260, 261, 262, 80, 264, 81, 265, 266, 267, 268, 269, 270, 271, 631, 632, 633, 634, 635, 636, 637, 638, 639, 640, 641, 642, 643, 644, 645, 646, 647, 648, 649, 650, 651, 652, 653, 654, 655, 656, 657, 658, 659, 660, 661, 662, 663] (by decide +kernel) (by decide +kernel)
set_option maxRecDepth 20000 in
theorem gL_law_X6_fits : GoodIn wsL_law (wsV RL 94 RX6 yX6_fits wsX6_fits) := goodIn_app (goodIn_of _ (by decide +kernel)) ggL_law_X6_fits
set_option maxRecDepth 20000 in
theorem ggL_law_X5_year : GoodIn wsL_law wsX5_year := goodIn_r _ [566, 34, 567, 15, 36, 568, 86, 87, 2, 88, 285, 286, 287, 343, 344, 345, 346, 175, 176, 177, 14, 178, 135, 128, 129, 130, 40, 288, 289, 290, 291, 26, 179, 180, 181, 25, 182, 183, 184, 185, 186, 187, 188, 189, 190, 191, 192, 193, 194, 195, 196, 197, 198, 199, 200, 201, 202, 203, 204, 205, 206, 207, 292, 293, 294, 295, 296, 297, 298, 299, 212, 213, 214, 300, 209, 210, 211, 215, 216, 217, 218, 219, 220, 221, 222, 223, 301, 225, 226, 227, 399, 400, 401, 33, 402, 64, 65, 407, 408, 409, 410, 623, 624, 625, 626, 627, 628, 629, 630, 695, 696, 664, 665, 666, 667, 668, 669, 670, 673, 674, 675, 676, 677, 678, 679, 680, 681, 682, 683, 684, 685, 686, 687, 688] (by decide +kernel) (by decide +kernel)
set_option maxRecDepth 20000 in
theorem gL_law_X5_year : GoodIn wsL_law (wsV RL 95 RX5 yX5_year wsX5_year) := goodIn_app (goodIn_of _ (by decide +kernel)) ggL_law_X5_year
set_option maxRecDepth 20000 in
theorem ggL_law_X6_year : GoodIn wsL_law wsX6_year := goodIn_r _ [572, 482, 167, 573, 574, 306, 575, 576, 577, 117, 118, 5, 119, 307, 308, 309, 233, 382, 383, 384, 385, 73, 386, 240, 241, 242, 243, 140, 141, 142, 143, 112, 116, 244, 245, 246, 247, 70, 248, 249, 72, 250, 251, 71, 252, 253, 79, 254, 310, 311, 312, 313, 234, 237, 255, 256, 257, 258, 235, 236, 238, 239, 259, 260, 261, 262, 80, 263, 264, 81, 265, 266, 267, 268, 269, 270, 271, 272, 273, 274, 275, 631, 632, 633, 634, 635, 636, 637, 638, 639, 640, 641, 642, 643, 644, 645, 646, 647, 648, 649, 650, 651, 652, 653, 654, 655, 656, 657, 658, 659, 660, 661, 662, 663] (by decide +kernel) (by decide +kernel)
set_option maxRecDepth 20000 in
theorem gL_law_X6_year : GoodIn wsL_law (wsV RL 98 RX6 yX6_year wsX6_year) := goodIn_app (goodIn_of _ (by decide +kernel)) ggL_law_X6_year
set_option maxRecDepth 20000 in
theorem ggL_law_X5_image : GoodIn wsL_law wsX5_image := goodIn_r _ [581, 16, 15, 18, 86, 87, 2, 88, 582, 583, 584, 14, 585, 40, 41, 42, 43, 44, 45, 46, 623, 624, 625, 626, 627, 628, 629, 630, 664, 665, 666, 667, 668, 669, 670] (by decide +kernel) (by decide +kernel)
set_option maxRecDepth 20000 in
theorem gL_law_X5_image : GoodIn wsL_law (wsV RL 99 RX5 yX5_image wsX5_image) := goodIn_app (goodIn_of _ (by decide +kernel)) ggL_law_X5_image
set_option maxRecDepth 20000 in
theorem ggL_law_X6_image : GoodIn wsL_law wsX6_image := goodIn_r _ [589, 590, 591, 78, 117, 118, 5, 119, 592, 593, 594, 595, 116, 79, 80, 81, 70, 71, 72, 596, 597, 598, 599, 77, 631, 632, 633, 634, 635, 636, 637, 638, 639, 640, 641, 642, 643, 644, 645, 646, 647, 648, 649, 650, 651, 652, 653, 654, 655, 656, 657, 658, 659, 660, 661, 662, 663] (by decide +kernel) (by decide +kernel)
set_option maxRecDepth 20000 in
theorem gL_law_X6_image : GoodIn wsL_law (wsV RL 102 RX6 yX6_image wsX6_image) := goodIn_app (goodIn_of _ (by decide +kernel)) ggL_law_X6_image
set_option maxRecDepth 20000 in
theorem ggL_law_X5_restore : GoodIn wsL_law wsX5_restore := goodIn_r _ [603, 18, 15, 16, 86, 87, 2, 88, 582, 583, 584, 14, 585, 40, 41, 42, 43, 44, 45, 46, 623, 624, 625, 626, 627, 628, 629, 630, 664, 665, 666, 667, 668, 669, 670] (by decide +kernel) (by decide +kernel)
set_option maxRecDepth 20000 in
theorem gL_law_X5_restore : GoodIn wsL_law (wsV RL 103 RX5 yX5_restore wsX5_restore) := goodIn_app (goodIn_of _ (by decide +kernel)) ggL_law_X5_restore
set_option maxRecDepth 20000 in
theorem ggL_law_X6_restore : GoodIn wsL_law wsX6_restore := goodIn_r _ [607, 78, 590, 591, 117, 118, 5, 119, 592, 593, 594, 595, 116, 79, 80, 81, 70, 71, 72, 596, 597, 598, 599, 77, 631, 632, 633, 634, 635, 636, 637, 638, 639, 640, 641, 642, 643, 644, 645, 646, 647, 648, 649, 650, 651, 652, 653, 654, 655, 656, 657, 658, 659, 660, 661, 662, 663] (by decide +kernel) (by decide +kernel)
set_option maxRecDepth 20000 in
theorem gL_law_X6_restore : GoodIn wsL_law (wsV RL 106 RX6 yX6_restore wsX6_restore) := goodIn_app (goodIn_of _ (by decide +kernel)) ggL_law_X6_restore
set_option maxRecDepth 20000 in
theorem ggL_law_X5_told : GoodIn wsL_law wsX5_told := goodIn_r _ [611, 22, 500, 15, 153, 152, 162, 612, 98, 99, 14, 100, 40, 613, 614, 615, 2, 616, 332, 331, 460, 127, 128, 129, 130, 623, 624, 625, 626, 627, 628, 629, 630, 671, 672, 664, 665, 666, 667, 668, 669, 670] (by decide +kernel) (by decide +kernel)
set_option maxRecDepth 20000 in
theorem gL_law_X5_told : GoodIn wsL_law (wsV RL 107 RX5 yX5_told wsX5_told) := goodIn_app (goodIn_of _ (by decide +kernel)) ggL_law_X5_told
set_option maxRecDepth 20000 in
theorem ggL_law_X6_told : GoodIn wsL_law wsX6_told := goodIn_r _ [620, 621, 622, 70, 71, 72, 512, 116, 79, 80, 81, 117, 118, 5, 119, 140, 141, 142, 143, 112, 631, 632, 633, 634, 635, 636, 637, 638, 639, 640, 641, 642, 643, 644, 645, 646, 647, 648, 649, 650, 651, 652, 653, 654, 655, 656, 657, 658, 659, 660, 661, 662, 663] (by decide +kernel) (by decide +kernel)
set_option maxRecDepth 20000 in
theorem gL_law_X6_told : GoodIn wsL_law (wsV RL 110 RX6 yX6_told wsX6_told) := goodIn_app (goodIn_of _ (by decide +kernel)) ggL_law_X6_told
theorem dL_law_0 : decode cL_law 0 = .ok (.new 7, 3) := by decide +kernel
theorem dL_law_3 : decode cL_law 3 = .ok (.dup, 1) := by decide +kernel
theorem dL_law_4 : decode cL_law 4 = .ok (.invokespecial 9, 3) := by decide +kernel
theorem dL_law_7 : decode cL_law 7 = .ok (.astore_n 1, 1) := by decide +kernel
theorem dL_law_8 : decode cL_law 8 = .ok (.new 10, 3) := by decide +kernel
theorem dL_law_11 : decode cL_law 11 = .ok (.dup, 1) := by decide +kernel
theorem dL_law_12 : decode cL_law 12 = .ok (.invokespecial 12, 3) := by decide +kernel
theorem dL_law_15 : decode cL_law 15 = .ok (.astore_n 2, 1) := by decide +kernel
theorem dL_law_16 : decode cL_law 16 = .ok (.iconst 0, 1) := by decide +kernel
theorem dL_law_17 : decode cL_law 17 = .ok (.istore_n 3, 1) := by decide +kernel
theorem dL_law_18 : decode cL_law 18 = .ok (.iload_n 3, 1) := by decide +kernel
theorem dL_law_19 : decode cL_law 19 = .ok (.aload_n 0, 1) := by decide +kernel
theorem dL_law_20 : decode cL_law 20 = .ok (.arraylength, 1) := by decide +kernel
theorem dL_law_21 : decode cL_law 21 = .ok (.bipush 6, 2) := by decide +kernel
theorem dL_law_23 : decode cL_law 23 = .ok (.isub, 1) := by decide +kernel
theorem dL_law_24 : decode cL_law 24 = .ok (.if_icmp .gt 1011, 3) := by decide +kernel
theorem dL_law_27 : decode cL_law 27 = .ok (.aload_n 0, 1) := by decide +kernel
theorem dL_law_28 : decode cL_law 28 = .ok (.iload_n 3, 1) := by decide +kernel
theorem dL_law_29 : decode cL_law 29 = .ok (.iaload, 1) := by decide +kernel
theorem dL_law_30 : decode cL_law 30 = .ok (.bipush 31, 2) := by decide +kernel
theorem dL_law_32 : decode cL_law 32 = .ok (.iand, 1) := by decide +kernel
theorem dL_law_33 : decode cL_law 33 = .ok (.tableswitch 996 0 22 #[107, 160, 183, 216, 269, 322, 365, 398, 441, 494, 547, 600, 653, 706, 769, 792, 805, 818, 851, 874, 927, 950, 973], 107) := by decide +kernel
theorem dL_law_140 : decode cL_law 140 = .ok (.aload_n 1, 1) := by decide +kernel
theorem dL_law_141 : decode cL_law 141 = .ok (.aload_n 0, 1) := by decide +kernel
theorem dL_law_142 : decode cL_law 142 = .ok (.iload_n 3, 1) := by decide +kernel
theorem dL_law_143 : decode cL_law 143 = .ok (.iconst 1, 1) := by decide +kernel
theorem dL_law_144 : decode cL_law 144 = .ok (.iadd, 1) := by decide +kernel
theorem dL_law_145 : decode cL_law 145 = .ok (.iaload, 1) := by decide +kernel
theorem dL_law_146 : decode cL_law 146 = .ok (.aload_n 0, 1) := by decide +kernel
theorem dL_law_147 : decode cL_law 147 = .ok (.iload_n 3, 1) := by decide +kernel
theorem dL_law_148 : decode cL_law 148 = .ok (.iconst 2, 1) := by decide +kernel
theorem dL_law_149 : decode cL_law 149 = .ok (.iadd, 1) := by decide +kernel
theorem dL_law_150 : decode cL_law 150 = .ok (.iaload, 1) := by decide +kernel
theorem dL_law_151 : decode cL_law 151 = .ok (.aload_n 0, 1) := by decide +kernel
theorem dL_law_152 : decode cL_law 152 = .ok (.iload_n 3, 1) := by decide +kernel
theorem dL_law_153 : decode cL_law 153 = .ok (.iconst 3, 1) := by decide +kernel
theorem dL_law_154 : decode cL_law 154 = .ok (.iadd, 1) := by decide +kernel
theorem dL_law_155 : decode cL_law 155 = .ok (.iaload, 1) := by decide +kernel
theorem dL_law_156 : decode cL_law 156 = .ok (.aload_n 0, 1) := by decide +kernel
theorem dL_law_157 : decode cL_law 157 = .ok (.iload_n 3, 1) := by decide +kernel
theorem dL_law_158 : decode cL_law 158 = .ok (.iconst 4, 1) := by decide +kernel
theorem dL_law_159 : decode cL_law 159 = .ok (.iadd, 1) := by decide +kernel
theorem dL_law_160 : decode cL_law 160 = .ok (.iaload, 1) := by decide +kernel
theorem dL_law_161 : decode cL_law 161 = .ok (.invokevirtual 13, 3) := by decide +kernel
theorem dL_law_164 : decode cL_law 164 = .ok (.aload_n 2, 1) := by decide +kernel
theorem dL_law_165 : decode cL_law 165 = .ok (.aload_n 0, 1) := by decide +kernel
theorem dL_law_166 : decode cL_law 166 = .ok (.iload_n 3, 1) := by decide +kernel
theorem dL_law_167 : decode cL_law 167 = .ok (.iconst 1, 1) := by decide +kernel
theorem dL_law_168 : decode cL_law 168 = .ok (.iadd, 1) := by decide +kernel
theorem dL_law_169 : decode cL_law 169 = .ok (.iaload, 1) := by decide +kernel
theorem dL_law_170 : decode cL_law 170 = .ok (.aload_n 0, 1) := by decide +kernel
theorem dL_law_171 : decode cL_law 171 = .ok (.iload_n 3, 1) := by decide +kernel
theorem dL_law_172 : decode cL_law 172 = .ok (.iconst 2, 1) := by decide +kernel
theorem dL_law_173 : decode cL_law 173 = .ok (.iadd, 1) := by decide +kernel
theorem dL_law_174 : decode cL_law 174 = .ok (.iaload, 1) := by decide +kernel
theorem dL_law_175 : decode cL_law 175 = .ok (.aload_n 0, 1) := by decide +kernel
theorem dL_law_176 : decode cL_law 176 = .ok (.iload_n 3, 1) := by decide +kernel
theorem dL_law_177 : decode cL_law 177 = .ok (.iconst 3, 1) := by decide +kernel
theorem dL_law_178 : decode cL_law 178 = .ok (.iadd, 1) := by decide +kernel
theorem dL_law_179 : decode cL_law 179 = .ok (.iaload, 1) := by decide +kernel
theorem dL_law_180 : decode cL_law 180 = .ok (.aload_n 0, 1) := by decide +kernel
theorem dL_law_181 : decode cL_law 181 = .ok (.iload_n 3, 1) := by decide +kernel
theorem dL_law_182 : decode cL_law 182 = .ok (.iconst 4, 1) := by decide +kernel
theorem dL_law_183 : decode cL_law 183 = .ok (.iadd, 1) := by decide +kernel
theorem dL_law_184 : decode cL_law 184 = .ok (.iaload, 1) := by decide +kernel
theorem dL_law_185 : decode cL_law 185 = .ok (.invokevirtual 17, 3) := by decide +kernel
theorem dL_law_188 : decode cL_law 188 = .ok (.if_icmp .eq 841, 3) := by decide +kernel
theorem dL_law_191 : decode cL_law 191 = .ok (.iconst 0, 1) := by decide +kernel
theorem dL_law_192 : decode cL_law 192 = .ok (.ireturn, 1) := by decide +kernel
theorem dL_law_193 : decode cL_law 193 = .ok (.aload_n 1, 1) := by decide +kernel
theorem dL_law_194 : decode cL_law 194 = .ok (.aload_n 0, 1) := by decide +kernel
theorem dL_law_195 : decode cL_law 195 = .ok (.iload_n 3, 1) := by decide +kernel
theorem dL_law_196 : decode cL_law 196 = .ok (.iconst 1, 1) := by decide +kernel
theorem dL_law_197 : decode cL_law 197 = .ok (.iadd, 1) := by decide +kernel
theorem dL_law_198 : decode cL_law 198 = .ok (.iaload, 1) := by decide +kernel
theorem dL_law_199 : decode cL_law 199 = .ok (.invokevirtual 18, 3) := by decide +kernel
theorem dL_law_202 : decode cL_law 202 = .ok (.aload_n 2, 1) := by decide +kernel
theorem dL_law_203 : decode cL_law 203 = .ok (.aload_n 0, 1) := by decide +kernel
theorem dL_law_204 : decode cL_law 204 = .ok (.iload_n 3, 1) := by decide +kernel
theorem dL_law_205 : decode cL_law 205 = .ok (.iconst 1, 1) := by decide +kernel
theorem dL_law_206 : decode cL_law 206 = .ok (.iadd, 1) := by decide +kernel
theorem dL_law_207 : decode cL_law 207 = .ok (.iaload, 1) := by decide +kernel
theorem dL_law_208 : decode cL_law 208 = .ok (.invokevirtual 22, 3) := by decide +kernel
theorem dL_law_211 : decode cL_law 211 = .ok (.if_icmp .eq 818, 3) := by decide +kernel
theorem dL_law_214 : decode cL_law 214 = .ok (.iconst 0, 1) := by decide +kernel
theorem dL_law_215 : decode cL_law 215 = .ok (.ireturn, 1) := by decide +kernel
theorem dL_law_216 : decode cL_law 216 = .ok (.aload_n 1, 1) := by decide +kernel
theorem dL_law_217 : decode cL_law 217 = .ok (.aload_n 0, 1) := by decide +kernel
theorem dL_law_218 : decode cL_law 218 = .ok (.iload_n 3, 1) := by decide +kernel
theorem dL_law_219 : decode cL_law 219 = .ok (.iconst 1, 1) := by decide +kernel
theorem dL_law_220 : decode cL_law 220 = .ok (.iadd, 1) := by decide +kernel
theorem dL_law_221 : decode cL_law 221 = .ok (.iaload, 1) := by decide +kernel
theorem dL_law_222 : decode cL_law 222 = .ok (.aload_n 0, 1) := by decide +kernel
theorem dL_law_223 : decode cL_law 223 = .ok (.iload_n 3, 1) := by decide +kernel
theorem dL_law_224 : decode cL_law 224 = .ok (.iconst 2, 1) := by decide +kernel
theorem dL_law_225 : decode cL_law 225 = .ok (.iadd, 1) := by decide +kernel
theorem dL_law_226 : decode cL_law 226 = .ok (.iaload, 1) := by decide +kernel
theorem dL_law_227 : decode cL_law 227 = .ok (.invokevirtual 23, 3) := by decide +kernel
theorem dL_law_230 : decode cL_law 230 = .ok (.aload_n 2, 1) := by decide +kernel
theorem dL_law_231 : decode cL_law 231 = .ok (.aload_n 0, 1) := by decide +kernel
theorem dL_law_232 : decode cL_law 232 = .ok (.iload_n 3, 1) := by decide +kernel
theorem dL_law_233 : decode cL_law 233 = .ok (.iconst 1, 1) := by decide +kernel
theorem dL_law_234 : decode cL_law 234 = .ok (.iadd, 1) := by decide +kernel
theorem dL_law_235 : decode cL_law 235 = .ok (.iaload, 1) := by decide +kernel
theorem dL_law_236 : decode cL_law 236 = .ok (.aload_n 0, 1) := by decide +kernel
theorem dL_law_237 : decode cL_law 237 = .ok (.iload_n 3, 1) := by decide +kernel
theorem dL_law_238 : decode cL_law 238 = .ok (.iconst 2, 1) := by decide +kernel
theorem dL_law_239 : decode cL_law 239 = .ok (.iadd, 1) := by decide +kernel
theorem dL_law_240 : decode cL_law 240 = .ok (.iaload, 1) := by decide +kernel
theorem dL_law_241 : decode cL_law 241 = .ok (.invokevirtual 27, 3) := by decide +kernel
theorem dL_law_244 : decode cL_law 244 = .ok (.if_icmp .eq 785, 3) := by decide +kernel
theorem dL_law_247 : decode cL_law 247 = .ok (.iconst 0, 1) := by decide +kernel
theorem dL_law_248 : decode cL_law 248 = .ok (.ireturn, 1) := by decide +kernel
theorem dL_law_249 : decode cL_law 249 = .ok (.aload_n 1, 1) := by decide +kernel
theorem dL_law_250 : decode cL_law 250 = .ok (.aload_n 0, 1) := by decide +kernel
theorem dL_law_251 : decode cL_law 251 = .ok (.iload_n 3, 1) := by decide +kernel
theorem dL_law_252 : decode cL_law 252 = .ok (.iconst 1, 1) := by decide +kernel
theorem dL_law_253 : decode cL_law 253 = .ok (.iadd, 1) := by decide +kernel
theorem dL_law_254 : decode cL_law 254 = .ok (.iaload, 1) := by decide +kernel
theorem dL_law_255 : decode cL_law 255 = .ok (.aload_n 0, 1) := by decide +kernel
theorem dL_law_256 : decode cL_law 256 = .ok (.iload_n 3, 1) := by decide +kernel
theorem dL_law_257 : decode cL_law 257 = .ok (.iconst 2, 1) := by decide +kernel
theorem dL_law_258 : decode cL_law 258 = .ok (.iadd, 1) := by decide +kernel
theorem dL_law_259 : decode cL_law 259 = .ok (.iaload, 1) := by decide +kernel
theorem dL_law_260 : decode cL_law 260 = .ok (.aload_n 0, 1) := by decide +kernel
theorem dL_law_261 : decode cL_law 261 = .ok (.iload_n 3, 1) := by decide +kernel
theorem dL_law_262 : decode cL_law 262 = .ok (.iconst 3, 1) := by decide +kernel
theorem dL_law_263 : decode cL_law 263 = .ok (.iadd, 1) := by decide +kernel
theorem dL_law_264 : decode cL_law 264 = .ok (.iaload, 1) := by decide +kernel
theorem dL_law_265 : decode cL_law 265 = .ok (.aload_n 0, 1) := by decide +kernel
theorem dL_law_266 : decode cL_law 266 = .ok (.iload_n 3, 1) := by decide +kernel
theorem dL_law_267 : decode cL_law 267 = .ok (.iconst 4, 1) := by decide +kernel
theorem dL_law_268 : decode cL_law 268 = .ok (.iadd, 1) := by decide +kernel
theorem dL_law_269 : decode cL_law 269 = .ok (.iaload, 1) := by decide +kernel
theorem dL_law_270 : decode cL_law 270 = .ok (.invokevirtual 28, 3) := by decide +kernel
theorem dL_law_273 : decode cL_law 273 = .ok (.aload_n 2, 1) := by decide +kernel
theorem dL_law_274 : decode cL_law 274 = .ok (.aload_n 0, 1) := by decide +kernel
theorem dL_law_275 : decode cL_law 275 = .ok (.iload_n 3, 1) := by decide +kernel
theorem dL_law_276 : decode cL_law 276 = .ok (.iconst 1, 1) := by decide +kernel
theorem dL_law_277 : decode cL_law 277 = .ok (.iadd, 1) := by decide +kernel
theorem dL_law_278 : decode cL_law 278 = .ok (.iaload, 1) := by decide +kernel
theorem dL_law_279 : decode cL_law 279 = .ok (.aload_n 0, 1) := by decide +kernel
theorem dL_law_280 : decode cL_law 280 = .ok (.iload_n 3, 1) := by decide +kernel
theorem dL_law_281 : decode cL_law 281 = .ok (.iconst 2, 1) := by decide +kernel
theorem dL_law_282 : decode cL_law 282 = .ok (.iadd, 1) := by decide +kernel
theorem dL_law_283 : decode cL_law 283 = .ok (.iaload, 1) := by decide +kernel
theorem dL_law_284 : decode cL_law 284 = .ok (.aload_n 0, 1) := by decide +kernel
theorem dL_law_285 : decode cL_law 285 = .ok (.iload_n 3, 1) := by decide +kernel
theorem dL_law_286 : decode cL_law 286 = .ok (.iconst 3, 1) := by decide +kernel
theorem dL_law_287 : decode cL_law 287 = .ok (.iadd, 1) := by decide +kernel
theorem dL_law_288 : decode cL_law 288 = .ok (.iaload, 1) := by decide +kernel
theorem dL_law_289 : decode cL_law 289 = .ok (.aload_n 0, 1) := by decide +kernel
theorem dL_law_290 : decode cL_law 290 = .ok (.iload_n 3, 1) := by decide +kernel
theorem dL_law_291 : decode cL_law 291 = .ok (.iconst 4, 1) := by decide +kernel
theorem dL_law_292 : decode cL_law 292 = .ok (.iadd, 1) := by decide +kernel
theorem dL_law_293 : decode cL_law 293 = .ok (.iaload, 1) := by decide +kernel
theorem dL_law_294 : decode cL_law 294 = .ok (.invokevirtual 31, 3) := by decide +kernel
theorem dL_law_297 : decode cL_law 297 = .ok (.if_icmp .eq 732, 3) := by decide +kernel
theorem dL_law_300 : decode cL_law 300 = .ok (.iconst 0, 1) := by decide +kernel
theorem dL_law_301 : decode cL_law 301 = .ok (.ireturn, 1) := by decide +kernel
theorem dL_law_302 : decode cL_law 302 = .ok (.aload_n 1, 1) := by decide +kernel
theorem dL_law_303 : decode cL_law 303 = .ok (.aload_n 0, 1) := by decide +kernel
theorem dL_law_304 : decode cL_law 304 = .ok (.iload_n 3, 1) := by decide +kernel
theorem dL_law_305 : decode cL_law 305 = .ok (.iconst 1, 1) := by decide +kernel
theorem dL_law_306 : decode cL_law 306 = .ok (.iadd, 1) := by decide +kernel
theorem dL_law_307 : decode cL_law 307 = .ok (.iaload, 1) := by decide +kernel
theorem dL_law_308 : decode cL_law 308 = .ok (.aload_n 0, 1) := by decide +kernel
theorem dL_law_309 : decode cL_law 309 = .ok (.iload_n 3, 1) := by decide +kernel
theorem dL_law_310 : decode cL_law 310 = .ok (.iconst 2, 1) := by decide +kernel
theorem dL_law_311 : decode cL_law 311 = .ok (.iadd, 1) := by decide +kernel
theorem dL_law_312 : decode cL_law 312 = .ok (.iaload, 1) := by decide +kernel
theorem dL_law_313 : decode cL_law 313 = .ok (.aload_n 0, 1) := by decide +kernel
theorem dL_law_314 : decode cL_law 314 = .ok (.iload_n 3, 1) := by decide +kernel
theorem dL_law_315 : decode cL_law 315 = .ok (.iconst 3, 1) := by decide +kernel
theorem dL_law_316 : decode cL_law 316 = .ok (.iadd, 1) := by decide +kernel
theorem dL_law_317 : decode cL_law 317 = .ok (.iaload, 1) := by decide +kernel
theorem dL_law_318 : decode cL_law 318 = .ok (.aload_n 0, 1) := by decide +kernel
theorem dL_law_319 : decode cL_law 319 = .ok (.iload_n 3, 1) := by decide +kernel
theorem dL_law_320 : decode cL_law 320 = .ok (.iconst 4, 1) := by decide +kernel
theorem dL_law_321 : decode cL_law 321 = .ok (.iadd, 1) := by decide +kernel
theorem dL_law_322 : decode cL_law 322 = .ok (.iaload, 1) := by decide +kernel
theorem dL_law_323 : decode cL_law 323 = .ok (.invokevirtual 32, 3) := by decide +kernel
theorem dL_law_326 : decode cL_law 326 = .ok (.aload_n 2, 1) := by decide +kernel
theorem dL_law_327 : decode cL_law 327 = .ok (.aload_n 0, 1) := by decide +kernel
theorem dL_law_328 : decode cL_law 328 = .ok (.iload_n 3, 1) := by decide +kernel
theorem dL_law_329 : decode cL_law 329 = .ok (.iconst 1, 1) := by decide +kernel
theorem dL_law_330 : decode cL_law 330 = .ok (.iadd, 1) := by decide +kernel
theorem dL_law_331 : decode cL_law 331 = .ok (.iaload, 1) := by decide +kernel
theorem dL_law_332 : decode cL_law 332 = .ok (.aload_n 0, 1) := by decide +kernel
theorem dL_law_333 : decode cL_law 333 = .ok (.iload_n 3, 1) := by decide +kernel
theorem dL_law_334 : decode cL_law 334 = .ok (.iconst 2, 1) := by decide +kernel
theorem dL_law_335 : decode cL_law 335 = .ok (.iadd, 1) := by decide +kernel
theorem dL_law_336 : decode cL_law 336 = .ok (.iaload, 1) := by decide +kernel
theorem dL_law_337 : decode cL_law 337 = .ok (.aload_n 0, 1) := by decide +kernel
theorem dL_law_338 : decode cL_law 338 = .ok (.iload_n 3, 1) := by decide +kernel
theorem dL_law_339 : decode cL_law 339 = .ok (.iconst 3, 1) := by decide +kernel
theorem dL_law_340 : decode cL_law 340 = .ok (.iadd, 1) := by decide +kernel
theorem dL_law_341 : decode cL_law 341 = .ok (.iaload, 1) := by decide +kernel
theorem dL_law_342 : decode cL_law 342 = .ok (.aload_n 0, 1) := by decide +kernel
theorem dL_law_343 : decode cL_law 343 = .ok (.iload_n 3, 1) := by decide +kernel
theorem dL_law_344 : decode cL_law 344 = .ok (.iconst 4, 1) := by decide +kernel
theorem dL_law_345 : decode cL_law 345 = .ok (.iadd, 1) := by decide +kernel
theorem dL_law_346 : decode cL_law 346 = .ok (.iaload, 1) := by decide +kernel
theorem dL_law_347 : decode cL_law 347 = .ok (.invokevirtual 35, 3) := by decide +kernel
theorem dL_law_350 : decode cL_law 350 = .ok (.if_icmp .eq 679, 3) := by decide +kernel
theorem dL_law_353 : decode cL_law 353 = .ok (.iconst 0, 1) := by decide +kernel
theorem dL_law_354 : decode cL_law 354 = .ok (.ireturn, 1) := by decide +kernel
theorem dL_law_355 : decode cL_law 355 = .ok (.aload_n 1, 1) := by decide +kernel
theorem dL_law_356 : decode cL_law 356 = .ok (.aload_n 0, 1) := by decide +kernel
theorem dL_law_357 : decode cL_law 357 = .ok (.iload_n 3, 1) := by decide +kernel
theorem dL_law_358 : decode cL_law 358 = .ok (.iconst 1, 1) := by decide +kernel
theorem dL_law_359 : decode cL_law 359 = .ok (.iadd, 1) := by decide +kernel
theorem dL_law_360 : decode cL_law 360 = .ok (.iaload, 1) := by decide +kernel
theorem dL_law_361 : decode cL_law 361 = .ok (.aload_n 0, 1) := by decide +kernel
theorem dL_law_362 : decode cL_law 362 = .ok (.iload_n 3, 1) := by decide +kernel
theorem dL_law_363 : decode cL_law 363 = .ok (.iconst 2, 1) := by decide +kernel
theorem dL_law_364 : decode cL_law 364 = .ok (.iadd, 1) := by decide +kernel
theorem dL_law_365 : decode cL_law 365 = .ok (.iaload, 1) := by decide +kernel
theorem dL_law_366 : decode cL_law 366 = .ok (.aload_n 0, 1) := by decide +kernel
theorem dL_law_367 : decode cL_law 367 = .ok (.iload_n 3, 1) := by decide +kernel
theorem dL_law_368 : decode cL_law 368 = .ok (.iconst 3, 1) := by decide +kernel
theorem dL_law_369 : decode cL_law 369 = .ok (.iadd, 1) := by decide +kernel
theorem dL_law_370 : decode cL_law 370 = .ok (.iaload, 1) := by decide +kernel
theorem dL_law_371 : decode cL_law 371 = .ok (.invokevirtual 36, 3) := by decide +kernel
theorem dL_law_374 : decode cL_law 374 = .ok (.aload_n 2, 1) := by decide +kernel
theorem dL_law_375 : decode cL_law 375 = .ok (.aload_n 0, 1) := by decide +kernel
theorem dL_law_376 : decode cL_law 376 = .ok (.iload_n 3, 1) := by decide +kernel
theorem dL_law_377 : decode cL_law 377 = .ok (.iconst 1, 1) := by decide +kernel
theorem dL_law_378 : decode cL_law 378 = .ok (.iadd, 1) := by decide +kernel
theorem dL_law_379 : decode cL_law 379 = .ok (.iaload, 1) := by decide +kernel
theorem dL_law_380 : decode cL_law 380 = .ok (.aload_n 0, 1) := by decide +kernel
theorem dL_law_381 : decode cL_law 381 = .ok (.iload_n 3, 1) := by decide +kernel
theorem dL_law_382 : decode cL_law 382 = .ok (.iconst 2, 1) := by decide +kernel
theorem dL_law_383 : decode cL_law 383 = .ok (.iadd, 1) := by decide +kernel
theorem dL_law_384 : decode cL_law 384 = .ok (.iaload, 1) := by decide +kernel
theorem dL_law_385 : decode cL_law 385 = .ok (.aload_n 0, 1) := by decide +kernel
theorem dL_law_386 : decode cL_law 386 = .ok (.iload_n 3, 1) := by decide +kernel
theorem dL_law_387 : decode cL_law 387 = .ok (.iconst 3, 1) := by decide +kernel
theorem dL_law_388 : decode cL_law 388 = .ok (.iadd, 1) := by decide +kernel
theorem dL_law_389 : decode cL_law 389 = .ok (.iaload, 1) := by decide +kernel
theorem dL_law_390 : decode cL_law 390 = .ok (.invokevirtual 40, 3) := by decide +kernel
theorem dL_law_393 : decode cL_law 393 = .ok (.if_icmp .eq 636, 3) := by decide +kernel
theorem dL_law_396 : decode cL_law 396 = .ok (.iconst 0, 1) := by decide +kernel
theorem dL_law_397 : decode cL_law 397 = .ok (.ireturn, 1) := by decide +kernel
theorem dL_law_398 : decode cL_law 398 = .ok (.aload_n 1, 1) := by decide +kernel
theorem dL_law_399 : decode cL_law 399 = .ok (.aload_n 0, 1) := by decide +kernel
theorem dL_law_400 : decode cL_law 400 = .ok (.iload_n 3, 1) := by decide +kernel
theorem dL_law_401 : decode cL_law 401 = .ok (.iconst 1, 1) := by decide +kernel
theorem dL_law_402 : decode cL_law 402 = .ok (.iadd, 1) := by decide +kernel
theorem dL_law_403 : decode cL_law 403 = .ok (.iaload, 1) := by decide +kernel
theorem dL_law_404 : decode cL_law 404 = .ok (.aload_n 0, 1) := by decide +kernel
theorem dL_law_405 : decode cL_law 405 = .ok (.iload_n 3, 1) := by decide +kernel
theorem dL_law_406 : decode cL_law 406 = .ok (.iconst 2, 1) := by decide +kernel
theorem dL_law_407 : decode cL_law 407 = .ok (.iadd, 1) := by decide +kernel
theorem dL_law_408 : decode cL_law 408 = .ok (.iaload, 1) := by decide +kernel
theorem dL_law_409 : decode cL_law 409 = .ok (.invokevirtual 41, 3) := by decide +kernel
theorem dL_law_412 : decode cL_law 412 = .ok (.aload_n 2, 1) := by decide +kernel
theorem dL_law_413 : decode cL_law 413 = .ok (.aload_n 0, 1) := by decide +kernel
theorem dL_law_414 : decode cL_law 414 = .ok (.iload_n 3, 1) := by decide +kernel
theorem dL_law_415 : decode cL_law 415 = .ok (.iconst 1, 1) := by decide +kernel
theorem dL_law_416 : decode cL_law 416 = .ok (.iadd, 1) := by decide +kernel
theorem dL_law_417 : decode cL_law 417 = .ok (.iaload, 1) := by decide +kernel
theorem dL_law_418 : decode cL_law 418 = .ok (.aload_n 0, 1) := by decide +kernel
theorem dL_law_419 : decode cL_law 419 = .ok (.iload_n 3, 1) := by decide +kernel
theorem dL_law_420 : decode cL_law 420 = .ok (.iconst 2, 1) := by decide +kernel
theorem dL_law_421 : decode cL_law 421 = .ok (.iadd, 1) := by decide +kernel
theorem dL_law_422 : decode cL_law 422 = .ok (.iaload, 1) := by decide +kernel
theorem dL_law_423 : decode cL_law 423 = .ok (.invokevirtual 44, 3) := by decide +kernel
theorem dL_law_426 : decode cL_law 426 = .ok (.if_icmp .eq 603, 3) := by decide +kernel
theorem dL_law_429 : decode cL_law 429 = .ok (.iconst 0, 1) := by decide +kernel
theorem dL_law_430 : decode cL_law 430 = .ok (.ireturn, 1) := by decide +kernel
theorem dL_law_431 : decode cL_law 431 = .ok (.aload_n 1, 1) := by decide +kernel
theorem dL_law_432 : decode cL_law 432 = .ok (.aload_n 0, 1) := by decide +kernel
theorem dL_law_433 : decode cL_law 433 = .ok (.iload_n 3, 1) := by decide +kernel
theorem dL_law_434 : decode cL_law 434 = .ok (.iconst 1, 1) := by decide +kernel
theorem dL_law_435 : decode cL_law 435 = .ok (.iadd, 1) := by decide +kernel
theorem dL_law_436 : decode cL_law 436 = .ok (.iaload, 1) := by decide +kernel
theorem dL_law_437 : decode cL_law 437 = .ok (.aload_n 0, 1) := by decide +kernel
theorem dL_law_438 : decode cL_law 438 = .ok (.iload_n 3, 1) := by decide +kernel
theorem dL_law_439 : decode cL_law 439 = .ok (.iconst 2, 1) := by decide +kernel
theorem dL_law_440 : decode cL_law 440 = .ok (.iadd, 1) := by decide +kernel
theorem dL_law_441 : decode cL_law 441 = .ok (.iaload, 1) := by decide +kernel
theorem dL_law_442 : decode cL_law 442 = .ok (.aload_n 0, 1) := by decide +kernel
theorem dL_law_443 : decode cL_law 443 = .ok (.iload_n 3, 1) := by decide +kernel
theorem dL_law_444 : decode cL_law 444 = .ok (.iconst 3, 1) := by decide +kernel
theorem dL_law_445 : decode cL_law 445 = .ok (.iadd, 1) := by decide +kernel
theorem dL_law_446 : decode cL_law 446 = .ok (.iaload, 1) := by decide +kernel
theorem dL_law_447 : decode cL_law 447 = .ok (.invokevirtual 45, 3) := by decide +kernel
theorem dL_law_450 : decode cL_law 450 = .ok (.aload_n 2, 1) := by decide +kernel
theorem dL_law_451 : decode cL_law 451 = .ok (.aload_n 0, 1) := by decide +kernel
theorem dL_law_452 : decode cL_law 452 = .ok (.iload_n 3, 1) := by decide +kernel
theorem dL_law_453 : decode cL_law 453 = .ok (.iconst 1, 1) := by decide +kernel
theorem dL_law_454 : decode cL_law 454 = .ok (.iadd, 1) := by decide +kernel
theorem dL_law_455 : decode cL_law 455 = .ok (.iaload, 1) := by decide +kernel
theorem dL_law_456 : decode cL_law 456 = .ok (.aload_n 0, 1) := by decide +kernel
theorem dL_law_457 : decode cL_law 457 = .ok (.iload_n 3, 1) := by decide +kernel
theorem dL_law_458 : decode cL_law 458 = .ok (.iconst 2, 1) := by decide +kernel
theorem dL_law_459 : decode cL_law 459 = .ok (.iadd, 1) := by decide +kernel
theorem dL_law_460 : decode cL_law 460 = .ok (.iaload, 1) := by decide +kernel
theorem dL_law_461 : decode cL_law 461 = .ok (.aload_n 0, 1) := by decide +kernel
theorem dL_law_462 : decode cL_law 462 = .ok (.iload_n 3, 1) := by decide +kernel
theorem dL_law_463 : decode cL_law 463 = .ok (.iconst 3, 1) := by decide +kernel
theorem dL_law_464 : decode cL_law 464 = .ok (.iadd, 1) := by decide +kernel
theorem dL_law_465 : decode cL_law 465 = .ok (.iaload, 1) := by decide +kernel
theorem dL_law_466 : decode cL_law 466 = .ok (.invokevirtual 48, 3) := by decide +kernel
theorem dL_law_469 : decode cL_law 469 = .ok (.if_icmp .eq 560, 3) := by decide +kernel
theorem dL_law_472 : decode cL_law 472 = .ok (.iconst 0, 1) := by decide +kernel
theorem dL_law_473 : decode cL_law 473 = .ok (.ireturn, 1) := by decide +kernel
theorem dL_law_474 : decode cL_law 474 = .ok (.aload_n 1, 1) := by decide +kernel
theorem dL_law_475 : decode cL_law 475 = .ok (.aload_n 0, 1) := by decide +kernel
theorem dL_law_476 : decode cL_law 476 = .ok (.iload_n 3, 1) := by decide +kernel
theorem dL_law_477 : decode cL_law 477 = .ok (.iconst 1, 1) := by decide +kernel
theorem dL_law_478 : decode cL_law 478 = .ok (.iadd, 1) := by decide +kernel
theorem dL_law_479 : decode cL_law 479 = .ok (.iaload, 1) := by decide +kernel
theorem dL_law_480 : decode cL_law 480 = .ok (.aload_n 0, 1) := by decide +kernel
theorem dL_law_481 : decode cL_law 481 = .ok (.iload_n 3, 1) := by decide +kernel
theorem dL_law_482 : decode cL_law 482 = .ok (.iconst 2, 1) := by decide +kernel
theorem dL_law_483 : decode cL_law 483 = .ok (.iadd, 1) := by decide +kernel
theorem dL_law_484 : decode cL_law 484 = .ok (.iaload, 1) := by decide +kernel
theorem dL_law_485 : decode cL_law 485 = .ok (.aload_n 0, 1) := by decide +kernel
theorem dL_law_486 : decode cL_law 486 = .ok (.iload_n 3, 1) := by decide +kernel
theorem dL_law_487 : decode cL_law 487 = .ok (.iconst 3, 1) := by decide +kernel
theorem dL_law_488 : decode cL_law 488 = .ok (.iadd, 1) := by decide +kernel
theorem dL_law_489 : decode cL_law 489 = .ok (.iaload, 1) := by decide +kernel
theorem dL_law_490 : decode cL_law 490 = .ok (.aload_n 0, 1) := by decide +kernel
theorem dL_law_491 : decode cL_law 491 = .ok (.iload_n 3, 1) := by decide +kernel
theorem dL_law_492 : decode cL_law 492 = .ok (.iconst 4, 1) := by decide +kernel
theorem dL_law_493 : decode cL_law 493 = .ok (.iadd, 1) := by decide +kernel
theorem dL_law_494 : decode cL_law 494 = .ok (.iaload, 1) := by decide +kernel
theorem dL_law_495 : decode cL_law 495 = .ok (.invokevirtual 49, 3) := by decide +kernel
theorem dL_law_498 : decode cL_law 498 = .ok (.aload_n 2, 1) := by decide +kernel
theorem dL_law_499 : decode cL_law 499 = .ok (.aload_n 0, 1) := by decide +kernel
theorem dL_law_500 : decode cL_law 500 = .ok (.iload_n 3, 1) := by decide +kernel
theorem dL_law_501 : decode cL_law 501 = .ok (.iconst 1, 1) := by decide +kernel
theorem dL_law_502 : decode cL_law 502 = .ok (.iadd, 1) := by decide +kernel
theorem dL_law_503 : decode cL_law 503 = .ok (.iaload, 1) := by decide +kernel
theorem dL_law_504 : decode cL_law 504 = .ok (.aload_n 0, 1) := by decide +kernel
theorem dL_law_505 : decode cL_law 505 = .ok (.iload_n 3, 1) := by decide +kernel
theorem dL_law_506 : decode cL_law 506 = .ok (.iconst 2, 1) := by decide +kernel
theorem dL_law_507 : decode cL_law 507 = .ok (.iadd, 1) := by decide +kernel
theorem dL_law_508 : decode cL_law 508 = .ok (.iaload, 1) := by decide +kernel
theorem dL_law_509 : decode cL_law 509 = .ok (.aload_n 0, 1) := by decide +kernel
theorem dL_law_510 : decode cL_law 510 = .ok (.iload_n 3, 1) := by decide +kernel
theorem dL_law_511 : decode cL_law 511 = .ok (.iconst 3, 1) := by decide +kernel
theorem dL_law_512 : decode cL_law 512 = .ok (.iadd, 1) := by decide +kernel
theorem dL_law_513 : decode cL_law 513 = .ok (.iaload, 1) := by decide +kernel
theorem dL_law_514 : decode cL_law 514 = .ok (.aload_n 0, 1) := by decide +kernel
theorem dL_law_515 : decode cL_law 515 = .ok (.iload_n 3, 1) := by decide +kernel
theorem dL_law_516 : decode cL_law 516 = .ok (.iconst 4, 1) := by decide +kernel
theorem dL_law_517 : decode cL_law 517 = .ok (.iadd, 1) := by decide +kernel
theorem dL_law_518 : decode cL_law 518 = .ok (.iaload, 1) := by decide +kernel
theorem dL_law_519 : decode cL_law 519 = .ok (.invokevirtual 52, 3) := by decide +kernel
theorem dL_law_522 : decode cL_law 522 = .ok (.if_icmp .eq 507, 3) := by decide +kernel
theorem dL_law_525 : decode cL_law 525 = .ok (.iconst 0, 1) := by decide +kernel
theorem dL_law_526 : decode cL_law 526 = .ok (.ireturn, 1) := by decide +kernel
theorem dL_law_527 : decode cL_law 527 = .ok (.aload_n 1, 1) := by decide +kernel
theorem dL_law_528 : decode cL_law 528 = .ok (.aload_n 0, 1) := by decide +kernel
theorem dL_law_529 : decode cL_law 529 = .ok (.iload_n 3, 1) := by decide +kernel
theorem dL_law_530 : decode cL_law 530 = .ok (.iconst 1, 1) := by decide +kernel
theorem dL_law_531 : decode cL_law 531 = .ok (.iadd, 1) := by decide +kernel
theorem dL_law_532 : decode cL_law 532 = .ok (.iaload, 1) := by decide +kernel
theorem dL_law_533 : decode cL_law 533 = .ok (.aload_n 0, 1) := by decide +kernel
theorem dL_law_534 : decode cL_law 534 = .ok (.iload_n 3, 1) := by decide +kernel
theorem dL_law_535 : decode cL_law 535 = .ok (.iconst 2, 1) := by decide +kernel
theorem dL_law_536 : decode cL_law 536 = .ok (.iadd, 1) := by decide +kernel
theorem dL_law_537 : decode cL_law 537 = .ok (.iaload, 1) := by decide +kernel
theorem dL_law_538 : decode cL_law 538 = .ok (.aload_n 0, 1) := by decide +kernel
theorem dL_law_539 : decode cL_law 539 = .ok (.iload_n 3, 1) := by decide +kernel
theorem dL_law_540 : decode cL_law 540 = .ok (.iconst 3, 1) := by decide +kernel
theorem dL_law_541 : decode cL_law 541 = .ok (.iadd, 1) := by decide +kernel
theorem dL_law_542 : decode cL_law 542 = .ok (.iaload, 1) := by decide +kernel
theorem dL_law_543 : decode cL_law 543 = .ok (.aload_n 0, 1) := by decide +kernel
theorem dL_law_544 : decode cL_law 544 = .ok (.iload_n 3, 1) := by decide +kernel
theorem dL_law_545 : decode cL_law 545 = .ok (.iconst 4, 1) := by decide +kernel
theorem dL_law_546 : decode cL_law 546 = .ok (.iadd, 1) := by decide +kernel
theorem dL_law_547 : decode cL_law 547 = .ok (.iaload, 1) := by decide +kernel
theorem dL_law_548 : decode cL_law 548 = .ok (.invokevirtual 53, 3) := by decide +kernel
theorem dL_law_551 : decode cL_law 551 = .ok (.aload_n 2, 1) := by decide +kernel
theorem dL_law_552 : decode cL_law 552 = .ok (.aload_n 0, 1) := by decide +kernel
theorem dL_law_553 : decode cL_law 553 = .ok (.iload_n 3, 1) := by decide +kernel
theorem dL_law_554 : decode cL_law 554 = .ok (.iconst 1, 1) := by decide +kernel
theorem dL_law_555 : decode cL_law 555 = .ok (.iadd, 1) := by decide +kernel
theorem dL_law_556 : decode cL_law 556 = .ok (.iaload, 1) := by decide +kernel
theorem dL_law_557 : decode cL_law 557 = .ok (.aload_n 0, 1) := by decide +kernel
theorem dL_law_558 : decode cL_law 558 = .ok (.iload_n 3, 1) := by decide +kernel
theorem dL_law_559 : decode cL_law 559 = .ok (.iconst 2, 1) := by decide +kernel
theorem dL_law_560 : decode cL_law 560 = .ok (.iadd, 1) := by decide +kernel
theorem dL_law_561 : decode cL_law 561 = .ok (.iaload, 1) := by decide +kernel
theorem dL_law_562 : decode cL_law 562 = .ok (.aload_n 0, 1) := by decide +kernel
theorem dL_law_563 : decode cL_law 563 = .ok (.iload_n 3, 1) := by decide +kernel
theorem dL_law_564 : decode cL_law 564 = .ok (.iconst 3, 1) := by decide +kernel
theorem dL_law_565 : decode cL_law 565 = .ok (.iadd, 1) := by decide +kernel
theorem dL_law_566 : decode cL_law 566 = .ok (.iaload, 1) := by decide +kernel
theorem dL_law_567 : decode cL_law 567 = .ok (.aload_n 0, 1) := by decide +kernel
theorem dL_law_568 : decode cL_law 568 = .ok (.iload_n 3, 1) := by decide +kernel
theorem dL_law_569 : decode cL_law 569 = .ok (.iconst 4, 1) := by decide +kernel
theorem dL_law_570 : decode cL_law 570 = .ok (.iadd, 1) := by decide +kernel
theorem dL_law_571 : decode cL_law 571 = .ok (.iaload, 1) := by decide +kernel
theorem dL_law_572 : decode cL_law 572 = .ok (.invokevirtual 56, 3) := by decide +kernel
theorem dL_law_575 : decode cL_law 575 = .ok (.if_icmp .eq 454, 3) := by decide +kernel
theorem dL_law_578 : decode cL_law 578 = .ok (.iconst 0, 1) := by decide +kernel
theorem dL_law_579 : decode cL_law 579 = .ok (.ireturn, 1) := by decide +kernel
theorem dL_law_580 : decode cL_law 580 = .ok (.aload_n 1, 1) := by decide +kernel
theorem dL_law_581 : decode cL_law 581 = .ok (.aload_n 0, 1) := by decide +kernel
theorem dL_law_582 : decode cL_law 582 = .ok (.iload_n 3, 1) := by decide +kernel
theorem dL_law_583 : decode cL_law 583 = .ok (.iconst 1, 1) := by decide +kernel
theorem dL_law_584 : decode cL_law 584 = .ok (.iadd, 1) := by decide +kernel
theorem dL_law_585 : decode cL_law 585 = .ok (.iaload, 1) := by decide +kernel
theorem dL_law_586 : decode cL_law 586 = .ok (.aload_n 0, 1) := by decide +kernel
theorem dL_law_587 : decode cL_law 587 = .ok (.iload_n 3, 1) := by decide +kernel
theorem dL_law_588 : decode cL_law 588 = .ok (.iconst 2, 1) := by decide +kernel
theorem dL_law_589 : decode cL_law 589 = .ok (.iadd, 1) := by decide +kernel
theorem dL_law_590 : decode cL_law 590 = .ok (.iaload, 1) := by decide +kernel
theorem dL_law_591 : decode cL_law 591 = .ok (.aload_n 0, 1) := by decide +kernel
theorem dL_law_592 : decode cL_law 592 = .ok (.iload_n 3, 1) := by decide +kernel
theorem dL_law_593 : decode cL_law 593 = .ok (.iconst 3, 1) := by decide +kernel
theorem dL_law_594 : decode cL_law 594 = .ok (.iadd, 1) := by decide +kernel
theorem dL_law_595 : decode cL_law 595 = .ok (.iaload, 1) := by decide +kernel
theorem dL_law_596 : decode cL_law 596 = .ok (.aload_n 0, 1) := by decide +kernel
theorem dL_law_597 : decode cL_law 597 = .ok (.iload_n 3, 1) := by decide +kernel
theorem dL_law_598 : decode cL_law 598 = .ok (.iconst 4, 1) := by decide +kernel
theorem dL_law_599 : decode cL_law 599 = .ok (.iadd, 1) := by decide +kernel
theorem dL_law_600 : decode cL_law 600 = .ok (.iaload, 1) := by decide +kernel
theorem dL_law_601 : decode cL_law 601 = .ok (.invokevirtual 57, 3) := by decide +kernel
theorem dL_law_604 : decode cL_law 604 = .ok (.aload_n 2, 1) := by decide +kernel
theorem dL_law_605 : decode cL_law 605 = .ok (.aload_n 0, 1) := by decide +kernel
theorem dL_law_606 : decode cL_law 606 = .ok (.iload_n 3, 1) := by decide +kernel
theorem dL_law_607 : decode cL_law 607 = .ok (.iconst 1, 1) := by decide +kernel
theorem dL_law_608 : decode cL_law 608 = .ok (.iadd, 1) := by decide +kernel
theorem dL_law_609 : decode cL_law 609 = .ok (.iaload, 1) := by decide +kernel
theorem dL_law_610 : decode cL_law 610 = .ok (.aload_n 0, 1) := by decide +kernel
theorem dL_law_611 : decode cL_law 611 = .ok (.iload_n 3, 1) := by decide +kernel
theorem dL_law_612 : decode cL_law 612 = .ok (.iconst 2, 1) := by decide +kernel
theorem dL_law_613 : decode cL_law 613 = .ok (.iadd, 1) := by decide +kernel
theorem dL_law_614 : decode cL_law 614 = .ok (.iaload, 1) := by decide +kernel
theorem dL_law_615 : decode cL_law 615 = .ok (.aload_n 0, 1) := by decide +kernel
theorem dL_law_616 : decode cL_law 616 = .ok (.iload_n 3, 1) := by decide +kernel
theorem dL_law_617 : decode cL_law 617 = .ok (.iconst 3, 1) := by decide +kernel
theorem dL_law_618 : decode cL_law 618 = .ok (.iadd, 1) := by decide +kernel
theorem dL_law_619 : decode cL_law 619 = .ok (.iaload, 1) := by decide +kernel
theorem dL_law_620 : decode cL_law 620 = .ok (.aload_n 0, 1) := by decide +kernel
theorem dL_law_621 : decode cL_law 621 = .ok (.iload_n 3, 1) := by decide +kernel
theorem dL_law_622 : decode cL_law 622 = .ok (.iconst 4, 1) := by decide +kernel
theorem dL_law_623 : decode cL_law 623 = .ok (.iadd, 1) := by decide +kernel
theorem dL_law_624 : decode cL_law 624 = .ok (.iaload, 1) := by decide +kernel
theorem dL_law_625 : decode cL_law 625 = .ok (.invokevirtual 60, 3) := by decide +kernel
theorem dL_law_628 : decode cL_law 628 = .ok (.if_icmp .eq 401, 3) := by decide +kernel
theorem dL_law_631 : decode cL_law 631 = .ok (.iconst 0, 1) := by decide +kernel
theorem dL_law_632 : decode cL_law 632 = .ok (.ireturn, 1) := by decide +kernel
theorem dL_law_633 : decode cL_law 633 = .ok (.aload_n 1, 1) := by decide +kernel
theorem dL_law_634 : decode cL_law 634 = .ok (.aload_n 0, 1) := by decide +kernel
theorem dL_law_635 : decode cL_law 635 = .ok (.iload_n 3, 1) := by decide +kernel
theorem dL_law_636 : decode cL_law 636 = .ok (.iconst 1, 1) := by decide +kernel
theorem dL_law_637 : decode cL_law 637 = .ok (.iadd, 1) := by decide +kernel
theorem dL_law_638 : decode cL_law 638 = .ok (.iaload, 1) := by decide +kernel
theorem dL_law_639 : decode cL_law 639 = .ok (.aload_n 0, 1) := by decide +kernel
theorem dL_law_640 : decode cL_law 640 = .ok (.iload_n 3, 1) := by decide +kernel
theorem dL_law_641 : decode cL_law 641 = .ok (.iconst 2, 1) := by decide +kernel
theorem dL_law_642 : decode cL_law 642 = .ok (.iadd, 1) := by decide +kernel
theorem dL_law_643 : decode cL_law 643 = .ok (.iaload, 1) := by decide +kernel
theorem dL_law_644 : decode cL_law 644 = .ok (.aload_n 0, 1) := by decide +kernel
theorem dL_law_645 : decode cL_law 645 = .ok (.iload_n 3, 1) := by decide +kernel
theorem dL_law_646 : decode cL_law 646 = .ok (.iconst 3, 1) := by decide +kernel
theorem dL_law_647 : decode cL_law 647 = .ok (.iadd, 1) := by decide +kernel
theorem dL_law_648 : decode cL_law 648 = .ok (.iaload, 1) := by decide +kernel
theorem dL_law_649 : decode cL_law 649 = .ok (.aload_n 0, 1) := by decide +kernel
theorem dL_law_650 : decode cL_law 650 = .ok (.iload_n 3, 1) := by decide +kernel
theorem dL_law_651 : decode cL_law 651 = .ok (.iconst 4, 1) := by decide +kernel
theorem dL_law_652 : decode cL_law 652 = .ok (.iadd, 1) := by decide +kernel
theorem dL_law_653 : decode cL_law 653 = .ok (.iaload, 1) := by decide +kernel
theorem dL_law_654 : decode cL_law 654 = .ok (.invokevirtual 61, 3) := by decide +kernel
theorem dL_law_657 : decode cL_law 657 = .ok (.aload_n 2, 1) := by decide +kernel
theorem dL_law_658 : decode cL_law 658 = .ok (.aload_n 0, 1) := by decide +kernel
theorem dL_law_659 : decode cL_law 659 = .ok (.iload_n 3, 1) := by decide +kernel
theorem dL_law_660 : decode cL_law 660 = .ok (.iconst 1, 1) := by decide +kernel
theorem dL_law_661 : decode cL_law 661 = .ok (.iadd, 1) := by decide +kernel
theorem dL_law_662 : decode cL_law 662 = .ok (.iaload, 1) := by decide +kernel
theorem dL_law_663 : decode cL_law 663 = .ok (.aload_n 0, 1) := by decide +kernel
theorem dL_law_664 : decode cL_law 664 = .ok (.iload_n 3, 1) := by decide +kernel
theorem dL_law_665 : decode cL_law 665 = .ok (.iconst 2, 1) := by decide +kernel
theorem dL_law_666 : decode cL_law 666 = .ok (.iadd, 1) := by decide +kernel
theorem dL_law_667 : decode cL_law 667 = .ok (.iaload, 1) := by decide +kernel
theorem dL_law_668 : decode cL_law 668 = .ok (.aload_n 0, 1) := by decide +kernel
theorem dL_law_669 : decode cL_law 669 = .ok (.iload_n 3, 1) := by decide +kernel
theorem dL_law_670 : decode cL_law 670 = .ok (.iconst 3, 1) := by decide +kernel
theorem dL_law_671 : decode cL_law 671 = .ok (.iadd, 1) := by decide +kernel
theorem dL_law_672 : decode cL_law 672 = .ok (.iaload, 1) := by decide +kernel
theorem dL_law_673 : decode cL_law 673 = .ok (.aload_n 0, 1) := by decide +kernel
theorem dL_law_674 : decode cL_law 674 = .ok (.iload_n 3, 1) := by decide +kernel
theorem dL_law_675 : decode cL_law 675 = .ok (.iconst 4, 1) := by decide +kernel
theorem dL_law_676 : decode cL_law 676 = .ok (.iadd, 1) := by decide +kernel
theorem dL_law_677 : decode cL_law 677 = .ok (.iaload, 1) := by decide +kernel
theorem dL_law_678 : decode cL_law 678 = .ok (.invokevirtual 64, 3) := by decide +kernel
theorem dL_law_681 : decode cL_law 681 = .ok (.if_icmp .eq 348, 3) := by decide +kernel
theorem dL_law_684 : decode cL_law 684 = .ok (.iconst 0, 1) := by decide +kernel
theorem dL_law_685 : decode cL_law 685 = .ok (.ireturn, 1) := by decide +kernel
theorem dL_law_686 : decode cL_law 686 = .ok (.aload_n 1, 1) := by decide +kernel
theorem dL_law_687 : decode cL_law 687 = .ok (.aload_n 0, 1) := by decide +kernel
theorem dL_law_688 : decode cL_law 688 = .ok (.iload_n 3, 1) := by decide +kernel
theorem dL_law_689 : decode cL_law 689 = .ok (.iconst 1, 1) := by decide +kernel
theorem dL_law_690 : decode cL_law 690 = .ok (.iadd, 1) := by decide +kernel
theorem dL_law_691 : decode cL_law 691 = .ok (.iaload, 1) := by decide +kernel
theorem dL_law_692 : decode cL_law 692 = .ok (.aload_n 0, 1) := by decide +kernel
theorem dL_law_693 : decode cL_law 693 = .ok (.iload_n 3, 1) := by decide +kernel
theorem dL_law_694 : decode cL_law 694 = .ok (.iconst 2, 1) := by decide +kernel
theorem dL_law_695 : decode cL_law 695 = .ok (.iadd, 1) := by decide +kernel
theorem dL_law_696 : decode cL_law 696 = .ok (.iaload, 1) := by decide +kernel
theorem dL_law_697 : decode cL_law 697 = .ok (.aload_n 0, 1) := by decide +kernel
theorem dL_law_698 : decode cL_law 698 = .ok (.iload_n 3, 1) := by decide +kernel
theorem dL_law_699 : decode cL_law 699 = .ok (.iconst 3, 1) := by decide +kernel
theorem dL_law_700 : decode cL_law 700 = .ok (.iadd, 1) := by decide +kernel
theorem dL_law_701 : decode cL_law 701 = .ok (.iaload, 1) := by decide +kernel
theorem dL_law_702 : decode cL_law 702 = .ok (.aload_n 0, 1) := by decide +kernel
theorem dL_law_703 : decode cL_law 703 = .ok (.iload_n 3, 1) := by decide +kernel
theorem dL_law_704 : decode cL_law 704 = .ok (.iconst 4, 1) := by decide +kernel
theorem dL_law_705 : decode cL_law 705 = .ok (.iadd, 1) := by decide +kernel
theorem dL_law_706 : decode cL_law 706 = .ok (.iaload, 1) := by decide +kernel
theorem dL_law_707 : decode cL_law 707 = .ok (.invokevirtual 65, 3) := by decide +kernel
theorem dL_law_710 : decode cL_law 710 = .ok (.aload_n 2, 1) := by decide +kernel
theorem dL_law_711 : decode cL_law 711 = .ok (.aload_n 0, 1) := by decide +kernel
theorem dL_law_712 : decode cL_law 712 = .ok (.iload_n 3, 1) := by decide +kernel
theorem dL_law_713 : decode cL_law 713 = .ok (.iconst 1, 1) := by decide +kernel
theorem dL_law_714 : decode cL_law 714 = .ok (.iadd, 1) := by decide +kernel
theorem dL_law_715 : decode cL_law 715 = .ok (.iaload, 1) := by decide +kernel
theorem dL_law_716 : decode cL_law 716 = .ok (.aload_n 0, 1) := by decide +kernel
theorem dL_law_717 : decode cL_law 717 = .ok (.iload_n 3, 1) := by decide +kernel
theorem dL_law_718 : decode cL_law 718 = .ok (.iconst 2, 1) := by decide +kernel
theorem dL_law_719 : decode cL_law 719 = .ok (.iadd, 1) := by decide +kernel
theorem dL_law_720 : decode cL_law 720 = .ok (.iaload, 1) := by decide +kernel
theorem dL_law_721 : decode cL_law 721 = .ok (.aload_n 0, 1) := by decide +kernel
theorem dL_law_722 : decode cL_law 722 = .ok (.iload_n 3, 1) := by decide +kernel
theorem dL_law_723 : decode cL_law 723 = .ok (.iconst 3, 1) := by decide +kernel
theorem dL_law_724 : decode cL_law 724 = .ok (.iadd, 1) := by decide +kernel
theorem dL_law_725 : decode cL_law 725 = .ok (.iaload, 1) := by decide +kernel
theorem dL_law_726 : decode cL_law 726 = .ok (.aload_n 0, 1) := by decide +kernel
theorem dL_law_727 : decode cL_law 727 = .ok (.iload_n 3, 1) := by decide +kernel
theorem dL_law_728 : decode cL_law 728 = .ok (.iconst 4, 1) := by decide +kernel
theorem dL_law_729 : decode cL_law 729 = .ok (.iadd, 1) := by decide +kernel
theorem dL_law_730 : decode cL_law 730 = .ok (.iaload, 1) := by decide +kernel
theorem dL_law_731 : decode cL_law 731 = .ok (.invokevirtual 68, 3) := by decide +kernel
theorem dL_law_734 : decode cL_law 734 = .ok (.if_icmp .eq 295, 3) := by decide +kernel
theorem dL_law_737 : decode cL_law 737 = .ok (.iconst 0, 1) := by decide +kernel
theorem dL_law_738 : decode cL_law 738 = .ok (.ireturn, 1) := by decide +kernel
theorem dL_law_739 : decode cL_law 739 = .ok (.aload_n 1, 1) := by decide +kernel
theorem dL_law_740 : decode cL_law 740 = .ok (.aload_n 0, 1) := by decide +kernel
theorem dL_law_741 : decode cL_law 741 = .ok (.iload_n 3, 1) := by decide +kernel
theorem dL_law_742 : decode cL_law 742 = .ok (.iconst 1, 1) := by decide +kernel
theorem dL_law_743 : decode cL_law 743 = .ok (.iadd, 1) := by decide +kernel
theorem dL_law_744 : decode cL_law 744 = .ok (.iaload, 1) := by decide +kernel
theorem dL_law_745 : decode cL_law 745 = .ok (.aload_n 0, 1) := by decide +kernel
theorem dL_law_746 : decode cL_law 746 = .ok (.iload_n 3, 1) := by decide +kernel
theorem dL_law_747 : decode cL_law 747 = .ok (.iconst 2, 1) := by decide +kernel
theorem dL_law_748 : decode cL_law 748 = .ok (.iadd, 1) := by decide +kernel
theorem dL_law_749 : decode cL_law 749 = .ok (.iaload, 1) := by decide +kernel
theorem dL_law_750 : decode cL_law 750 = .ok (.aload_n 0, 1) := by decide +kernel
theorem dL_law_751 : decode cL_law 751 = .ok (.iload_n 3, 1) := by decide +kernel
theorem dL_law_752 : decode cL_law 752 = .ok (.iconst 3, 1) := by decide +kernel
theorem dL_law_753 : decode cL_law 753 = .ok (.iadd, 1) := by decide +kernel
theorem dL_law_754 : decode cL_law 754 = .ok (.iaload, 1) := by decide +kernel
theorem dL_law_755 : decode cL_law 755 = .ok (.aload_n 0, 1) := by decide +kernel
theorem dL_law_756 : decode cL_law 756 = .ok (.iload_n 3, 1) := by decide +kernel
theorem dL_law_757 : decode cL_law 757 = .ok (.iconst 4, 1) := by decide +kernel
theorem dL_law_758 : decode cL_law 758 = .ok (.iadd, 1) := by decide +kernel
theorem dL_law_759 : decode cL_law 759 = .ok (.iaload, 1) := by decide +kernel
theorem dL_law_760 : decode cL_law 760 = .ok (.aload_n 0, 1) := by decide +kernel
theorem dL_law_761 : decode cL_law 761 = .ok (.iload_n 3, 1) := by decide +kernel
theorem dL_law_762 : decode cL_law 762 = .ok (.iconst 5, 1) := by decide +kernel
theorem dL_law_763 : decode cL_law 763 = .ok (.iadd, 1) := by decide +kernel
theorem dL_law_764 : decode cL_law 764 = .ok (.iaload, 1) := by decide +kernel
theorem dL_law_765 : decode cL_law 765 = .ok (.invokevirtual 69, 3) := by decide +kernel
theorem dL_law_768 : decode cL_law 768 = .ok (.aload_n 2, 1) := by decide +kernel
theorem dL_law_769 : decode cL_law 769 = .ok (.aload_n 0, 1) := by decide +kernel
theorem dL_law_770 : decode cL_law 770 = .ok (.iload_n 3, 1) := by decide +kernel
theorem dL_law_771 : decode cL_law 771 = .ok (.iconst 1, 1) := by decide +kernel
theorem dL_law_772 : decode cL_law 772 = .ok (.iadd, 1) := by decide +kernel
theorem dL_law_773 : decode cL_law 773 = .ok (.iaload, 1) := by decide +kernel
theorem dL_law_774 : decode cL_law 774 = .ok (.aload_n 0, 1) := by decide +kernel
theorem dL_law_775 : decode cL_law 775 = .ok (.iload_n 3, 1) := by decide +kernel
theorem dL_law_776 : decode cL_law 776 = .ok (.iconst 2, 1) := by decide +kernel
theorem dL_law_777 : decode cL_law 777 = .ok (.iadd, 1) := by decide +kernel
theorem dL_law_778 : decode cL_law 778 = .ok (.iaload, 1) := by decide +kernel
theorem dL_law_779 : decode cL_law 779 = .ok (.aload_n 0, 1) := by decide +kernel
theorem dL_law_780 : decode cL_law 780 = .ok (.iload_n 3, 1) := by decide +kernel
theorem dL_law_781 : decode cL_law 781 = .ok (.iconst 3, 1) := by decide +kernel
theorem dL_law_782 : decode cL_law 782 = .ok (.iadd, 1) := by decide +kernel
theorem dL_law_783 : decode cL_law 783 = .ok (.iaload, 1) := by decide +kernel
theorem dL_law_784 : decode cL_law 784 = .ok (.aload_n 0, 1) := by decide +kernel
theorem dL_law_785 : decode cL_law 785 = .ok (.iload_n 3, 1) := by decide +kernel
theorem dL_law_786 : decode cL_law 786 = .ok (.iconst 4, 1) := by decide +kernel
theorem dL_law_787 : decode cL_law 787 = .ok (.iadd, 1) := by decide +kernel
theorem dL_law_788 : decode cL_law 788 = .ok (.iaload, 1) := by decide +kernel
theorem dL_law_789 : decode cL_law 789 = .ok (.aload_n 0, 1) := by decide +kernel
theorem dL_law_790 : decode cL_law 790 = .ok (.iload_n 3, 1) := by decide +kernel
theorem dL_law_791 : decode cL_law 791 = .ok (.iconst 5, 1) := by decide +kernel
theorem dL_law_792 : decode cL_law 792 = .ok (.iadd, 1) := by decide +kernel
theorem dL_law_793 : decode cL_law 793 = .ok (.iaload, 1) := by decide +kernel
theorem dL_law_794 : decode cL_law 794 = .ok (.invokevirtual 73, 3) := by decide +kernel
theorem dL_law_797 : decode cL_law 797 = .ok (.if_icmp .eq 232, 3) := by decide +kernel
theorem dL_law_800 : decode cL_law 800 = .ok (.iconst 0, 1) := by decide +kernel
theorem dL_law_801 : decode cL_law 801 = .ok (.ireturn, 1) := by decide +kernel
theorem dL_law_802 : decode cL_law 802 = .ok (.aload_n 1, 1) := by decide +kernel
theorem dL_law_803 : decode cL_law 803 = .ok (.aload_n 0, 1) := by decide +kernel
theorem dL_law_804 : decode cL_law 804 = .ok (.iload_n 3, 1) := by decide +kernel
theorem dL_law_805 : decode cL_law 805 = .ok (.iconst 1, 1) := by decide +kernel
theorem dL_law_806 : decode cL_law 806 = .ok (.iadd, 1) := by decide +kernel
theorem dL_law_807 : decode cL_law 807 = .ok (.iaload, 1) := by decide +kernel
theorem dL_law_808 : decode cL_law 808 = .ok (.invokevirtual 74, 3) := by decide +kernel
theorem dL_law_811 : decode cL_law 811 = .ok (.aload_n 2, 1) := by decide +kernel
theorem dL_law_812 : decode cL_law 812 = .ok (.aload_n 0, 1) := by decide +kernel
theorem dL_law_813 : decode cL_law 813 = .ok (.iload_n 3, 1) := by decide +kernel
theorem dL_law_814 : decode cL_law 814 = .ok (.iconst 1, 1) := by decide +kernel
theorem dL_law_815 : decode cL_law 815 = .ok (.iadd, 1) := by decide +kernel
theorem dL_law_816 : decode cL_law 816 = .ok (.iaload, 1) := by decide +kernel
theorem dL_law_817 : decode cL_law 817 = .ok (.invokevirtual 77, 3) := by decide +kernel
theorem dL_law_820 : decode cL_law 820 = .ok (.if_icmp .eq 209, 3) := by decide +kernel
theorem dL_law_823 : decode cL_law 823 = .ok (.iconst 0, 1) := by decide +kernel
theorem dL_law_824 : decode cL_law 824 = .ok (.ireturn, 1) := by decide +kernel
theorem dL_law_825 : decode cL_law 825 = .ok (.aload_n 1, 1) := by decide +kernel
theorem dL_law_826 : decode cL_law 826 = .ok (.invokevirtual 78, 3) := by decide +kernel
theorem dL_law_829 : decode cL_law 829 = .ok (.aload_n 2, 1) := by decide +kernel
theorem dL_law_830 : decode cL_law 830 = .ok (.invokevirtual 82, 3) := by decide +kernel
theorem dL_law_833 : decode cL_law 833 = .ok (.if_icmp .eq 196, 3) := by decide +kernel
theorem dL_law_836 : decode cL_law 836 = .ok (.iconst 0, 1) := by decide +kernel
theorem dL_law_837 : decode cL_law 837 = .ok (.ireturn, 1) := by decide +kernel
theorem dL_law_838 : decode cL_law 838 = .ok (.aload_n 1, 1) := by decide +kernel
theorem dL_law_839 : decode cL_law 839 = .ok (.invokevirtual 83, 3) := by decide +kernel
theorem dL_law_842 : decode cL_law 842 = .ok (.aload_n 2, 1) := by decide +kernel
theorem dL_law_843 : decode cL_law 843 = .ok (.invokevirtual 86, 3) := by decide +kernel
theorem dL_law_846 : decode cL_law 846 = .ok (.if_icmp .eq 183, 3) := by decide +kernel
theorem dL_law_849 : decode cL_law 849 = .ok (.iconst 0, 1) := by decide +kernel
theorem dL_law_850 : decode cL_law 850 = .ok (.ireturn, 1) := by decide +kernel
theorem dL_law_851 : decode cL_law 851 = .ok (.aload_n 1, 1) := by decide +kernel
theorem dL_law_852 : decode cL_law 852 = .ok (.aload_n 0, 1) := by decide +kernel
theorem dL_law_853 : decode cL_law 853 = .ok (.iload_n 3, 1) := by decide +kernel
theorem dL_law_854 : decode cL_law 854 = .ok (.iconst 1, 1) := by decide +kernel
theorem dL_law_855 : decode cL_law 855 = .ok (.iadd, 1) := by decide +kernel
theorem dL_law_856 : decode cL_law 856 = .ok (.iaload, 1) := by decide +kernel
theorem dL_law_857 : decode cL_law 857 = .ok (.aload_n 0, 1) := by decide +kernel
theorem dL_law_858 : decode cL_law 858 = .ok (.iload_n 3, 1) := by decide +kernel
theorem dL_law_859 : decode cL_law 859 = .ok (.iconst 2, 1) := by decide +kernel
theorem dL_law_860 : decode cL_law 860 = .ok (.iadd, 1) := by decide +kernel
theorem dL_law_861 : decode cL_law 861 = .ok (.iaload, 1) := by decide +kernel
theorem dL_law_862 : decode cL_law 862 = .ok (.invokevirtual 87, 3) := by decide +kernel
theorem dL_law_865 : decode cL_law 865 = .ok (.aload_n 2, 1) := by decide +kernel
theorem dL_law_866 : decode cL_law 866 = .ok (.aload_n 0, 1) := by decide +kernel
theorem dL_law_867 : decode cL_law 867 = .ok (.iload_n 3, 1) := by decide +kernel
theorem dL_law_868 : decode cL_law 868 = .ok (.iconst 1, 1) := by decide +kernel
theorem dL_law_869 : decode cL_law 869 = .ok (.iadd, 1) := by decide +kernel
theorem dL_law_870 : decode cL_law 870 = .ok (.iaload, 1) := by decide +kernel
theorem dL_law_871 : decode cL_law 871 = .ok (.aload_n 0, 1) := by decide +kernel
theorem dL_law_872 : decode cL_law 872 = .ok (.iload_n 3, 1) := by decide +kernel
theorem dL_law_873 : decode cL_law 873 = .ok (.iconst 2, 1) := by decide +kernel
theorem dL_law_874 : decode cL_law 874 = .ok (.iadd, 1) := by decide +kernel
theorem dL_law_875 : decode cL_law 875 = .ok (.iaload, 1) := by decide +kernel
theorem dL_law_876 : decode cL_law 876 = .ok (.invokevirtual 90, 3) := by decide +kernel
theorem dL_law_879 : decode cL_law 879 = .ok (.if_icmp .eq 150, 3) := by decide +kernel
theorem dL_law_882 : decode cL_law 882 = .ok (.iconst 0, 1) := by decide +kernel
theorem dL_law_883 : decode cL_law 883 = .ok (.ireturn, 1) := by decide +kernel
theorem dL_law_884 : decode cL_law 884 = .ok (.aload_n 1, 1) := by decide +kernel
theorem dL_law_885 : decode cL_law 885 = .ok (.aload_n 0, 1) := by decide +kernel
theorem dL_law_886 : decode cL_law 886 = .ok (.iload_n 3, 1) := by decide +kernel
theorem dL_law_887 : decode cL_law 887 = .ok (.iconst 1, 1) := by decide +kernel
theorem dL_law_888 : decode cL_law 888 = .ok (.iadd, 1) := by decide +kernel
theorem dL_law_889 : decode cL_law 889 = .ok (.iaload, 1) := by decide +kernel
theorem dL_law_890 : decode cL_law 890 = .ok (.invokevirtual 91, 3) := by decide +kernel
theorem dL_law_893 : decode cL_law 893 = .ok (.aload_n 2, 1) := by decide +kernel
theorem dL_law_894 : decode cL_law 894 = .ok (.aload_n 0, 1) := by decide +kernel
theorem dL_law_895 : decode cL_law 895 = .ok (.iload_n 3, 1) := by decide +kernel
theorem dL_law_896 : decode cL_law 896 = .ok (.iconst 1, 1) := by decide +kernel
theorem dL_law_897 : decode cL_law 897 = .ok (.iadd, 1) := by decide +kernel
theorem dL_law_898 : decode cL_law 898 = .ok (.iaload, 1) := by decide +kernel
theorem dL_law_899 : decode cL_law 899 = .ok (.invokevirtual 94, 3) := by decide +kernel
theorem dL_law_902 : decode cL_law 902 = .ok (.if_icmp .eq 127, 3) := by decide +kernel
theorem dL_law_905 : decode cL_law 905 = .ok (.iconst 0, 1) := by decide +kernel
theorem dL_law_906 : decode cL_law 906 = .ok (.ireturn, 1) := by decide +kernel
theorem dL_law_907 : decode cL_law 907 = .ok (.aload_n 1, 1) := by decide +kernel
theorem dL_law_908 : decode cL_law 908 = .ok (.aload_n 0, 1) := by decide +kernel
theorem dL_law_909 : decode cL_law 909 = .ok (.iload_n 3, 1) := by decide +kernel
theorem dL_law_910 : decode cL_law 910 = .ok (.iconst 1, 1) := by decide +kernel
theorem dL_law_911 : decode cL_law 911 = .ok (.iadd, 1) := by decide +kernel
theorem dL_law_912 : decode cL_law 912 = .ok (.iaload, 1) := by decide +kernel
theorem dL_law_913 : decode cL_law 913 = .ok (.aload_n 0, 1) := by decide +kernel
theorem dL_law_914 : decode cL_law 914 = .ok (.iload_n 3, 1) := by decide +kernel
theorem dL_law_915 : decode cL_law 915 = .ok (.iconst 2, 1) := by decide +kernel
theorem dL_law_916 : decode cL_law 916 = .ok (.iadd, 1) := by decide +kernel
theorem dL_law_917 : decode cL_law 917 = .ok (.iaload, 1) := by decide +kernel
theorem dL_law_918 : decode cL_law 918 = .ok (.aload_n 0, 1) := by decide +kernel
theorem dL_law_919 : decode cL_law 919 = .ok (.iload_n 3, 1) := by decide +kernel
theorem dL_law_920 : decode cL_law 920 = .ok (.iconst 3, 1) := by decide +kernel
theorem dL_law_921 : decode cL_law 921 = .ok (.iadd, 1) := by decide +kernel
theorem dL_law_922 : decode cL_law 922 = .ok (.iaload, 1) := by decide +kernel
theorem dL_law_923 : decode cL_law 923 = .ok (.aload_n 0, 1) := by decide +kernel
theorem dL_law_924 : decode cL_law 924 = .ok (.iload_n 3, 1) := by decide +kernel
theorem dL_law_925 : decode cL_law 925 = .ok (.iconst 4, 1) := by decide +kernel
theorem dL_law_926 : decode cL_law 926 = .ok (.iadd, 1) := by decide +kernel
theorem dL_law_927 : decode cL_law 927 = .ok (.iaload, 1) := by decide +kernel
theorem dL_law_928 : decode cL_law 928 = .ok (.invokevirtual 95, 3) := by decide +kernel
theorem dL_law_931 : decode cL_law 931 = .ok (.aload_n 2, 1) := by decide +kernel
theorem dL_law_932 : decode cL_law 932 = .ok (.aload_n 0, 1) := by decide +kernel
theorem dL_law_933 : decode cL_law 933 = .ok (.iload_n 3, 1) := by decide +kernel
theorem dL_law_934 : decode cL_law 934 = .ok (.iconst 1, 1) := by decide +kernel
theorem dL_law_935 : decode cL_law 935 = .ok (.iadd, 1) := by decide +kernel
theorem dL_law_936 : decode cL_law 936 = .ok (.iaload, 1) := by decide +kernel
theorem dL_law_937 : decode cL_law 937 = .ok (.aload_n 0, 1) := by decide +kernel
theorem dL_law_938 : decode cL_law 938 = .ok (.iload_n 3, 1) := by decide +kernel
theorem dL_law_939 : decode cL_law 939 = .ok (.iconst 2, 1) := by decide +kernel
theorem dL_law_940 : decode cL_law 940 = .ok (.iadd, 1) := by decide +kernel
theorem dL_law_941 : decode cL_law 941 = .ok (.iaload, 1) := by decide +kernel
theorem dL_law_942 : decode cL_law 942 = .ok (.aload_n 0, 1) := by decide +kernel
theorem dL_law_943 : decode cL_law 943 = .ok (.iload_n 3, 1) := by decide +kernel
theorem dL_law_944 : decode cL_law 944 = .ok (.iconst 3, 1) := by decide +kernel
theorem dL_law_945 : decode cL_law 945 = .ok (.iadd, 1) := by decide +kernel
theorem dL_law_946 : decode cL_law 946 = .ok (.iaload, 1) := by decide +kernel
theorem dL_law_947 : decode cL_law 947 = .ok (.aload_n 0, 1) := by decide +kernel
theorem dL_law_948 : decode cL_law 948 = .ok (.iload_n 3, 1) := by decide +kernel
theorem dL_law_949 : decode cL_law 949 = .ok (.iconst 4, 1) := by decide +kernel
theorem dL_law_950 : decode cL_law 950 = .ok (.iadd, 1) := by decide +kernel
theorem dL_law_951 : decode cL_law 951 = .ok (.iaload, 1) := by decide +kernel
theorem dL_law_952 : decode cL_law 952 = .ok (.invokevirtual 98, 3) := by decide +kernel
theorem dL_law_955 : decode cL_law 955 = .ok (.if_icmp .eq 74, 3) := by decide +kernel
theorem dL_law_958 : decode cL_law 958 = .ok (.iconst 0, 1) := by decide +kernel
theorem dL_law_959 : decode cL_law 959 = .ok (.ireturn, 1) := by decide +kernel
theorem dL_law_960 : decode cL_law 960 = .ok (.aload_n 1, 1) := by decide +kernel
theorem dL_law_961 : decode cL_law 961 = .ok (.aload_n 0, 1) := by decide +kernel
theorem dL_law_962 : decode cL_law 962 = .ok (.iload_n 3, 1) := by decide +kernel
theorem dL_law_963 : decode cL_law 963 = .ok (.iconst 1, 1) := by decide +kernel
theorem dL_law_964 : decode cL_law 964 = .ok (.iadd, 1) := by decide +kernel
theorem dL_law_965 : decode cL_law 965 = .ok (.iaload, 1) := by decide +kernel
theorem dL_law_966 : decode cL_law 966 = .ok (.invokevirtual 99, 3) := by decide +kernel
theorem dL_law_969 : decode cL_law 969 = .ok (.aload_n 2, 1) := by decide +kernel
theorem dL_law_970 : decode cL_law 970 = .ok (.aload_n 0, 1) := by decide +kernel
theorem dL_law_971 : decode cL_law 971 = .ok (.iload_n 3, 1) := by decide +kernel
theorem dL_law_972 : decode cL_law 972 = .ok (.iconst 1, 1) := by decide +kernel
theorem dL_law_973 : decode cL_law 973 = .ok (.iadd, 1) := by decide +kernel
theorem dL_law_974 : decode cL_law 974 = .ok (.iaload, 1) := by decide +kernel
theorem dL_law_975 : decode cL_law 975 = .ok (.invokevirtual 102, 3) := by decide +kernel
theorem dL_law_978 : decode cL_law 978 = .ok (.if_icmp .eq 51, 3) := by decide +kernel
theorem dL_law_981 : decode cL_law 981 = .ok (.iconst 0, 1) := by decide +kernel
theorem dL_law_982 : decode cL_law 982 = .ok (.ireturn, 1) := by decide +kernel
theorem dL_law_983 : decode cL_law 983 = .ok (.aload_n 1, 1) := by decide +kernel
theorem dL_law_984 : decode cL_law 984 = .ok (.aload_n 0, 1) := by decide +kernel
theorem dL_law_985 : decode cL_law 985 = .ok (.iload_n 3, 1) := by decide +kernel
theorem dL_law_986 : decode cL_law 986 = .ok (.iconst 1, 1) := by decide +kernel
theorem dL_law_987 : decode cL_law 987 = .ok (.iadd, 1) := by decide +kernel
theorem dL_law_988 : decode cL_law 988 = .ok (.iaload, 1) := by decide +kernel
theorem dL_law_989 : decode cL_law 989 = .ok (.invokevirtual 103, 3) := by decide +kernel
theorem dL_law_992 : decode cL_law 992 = .ok (.aload_n 2, 1) := by decide +kernel
theorem dL_law_993 : decode cL_law 993 = .ok (.aload_n 0, 1) := by decide +kernel
theorem dL_law_994 : decode cL_law 994 = .ok (.iload_n 3, 1) := by decide +kernel
theorem dL_law_995 : decode cL_law 995 = .ok (.iconst 1, 1) := by decide +kernel
theorem dL_law_996 : decode cL_law 996 = .ok (.iadd, 1) := by decide +kernel
theorem dL_law_997 : decode cL_law 997 = .ok (.iaload, 1) := by decide +kernel
theorem dL_law_998 : decode cL_law 998 = .ok (.invokevirtual 106, 3) := by decide +kernel
theorem dL_law_1001 : decode cL_law 1001 = .ok (.if_icmp .eq 28, 3) := by decide +kernel
theorem dL_law_1004 : decode cL_law 1004 = .ok (.iconst 0, 1) := by decide +kernel
theorem dL_law_1005 : decode cL_law 1005 = .ok (.ireturn, 1) := by decide +kernel
theorem dL_law_1006 : decode cL_law 1006 = .ok (.aload_n 1, 1) := by decide +kernel
theorem dL_law_1007 : decode cL_law 1007 = .ok (.aload_n 0, 1) := by decide +kernel
theorem dL_law_1008 : decode cL_law 1008 = .ok (.iload_n 3, 1) := by decide +kernel
theorem dL_law_1009 : decode cL_law 1009 = .ok (.iconst 1, 1) := by decide +kernel
theorem dL_law_1010 : decode cL_law 1010 = .ok (.iadd, 1) := by decide +kernel
theorem dL_law_1011 : decode cL_law 1011 = .ok (.iaload, 1) := by decide +kernel
theorem dL_law_1012 : decode cL_law 1012 = .ok (.invokevirtual 107, 3) := by decide +kernel
theorem dL_law_1015 : decode cL_law 1015 = .ok (.aload_n 2, 1) := by decide +kernel
theorem dL_law_1016 : decode cL_law 1016 = .ok (.aload_n 0, 1) := by decide +kernel
theorem dL_law_1017 : decode cL_law 1017 = .ok (.iload_n 3, 1) := by decide +kernel
theorem dL_law_1018 : decode cL_law 1018 = .ok (.iconst 1, 1) := by decide +kernel
theorem dL_law_1019 : decode cL_law 1019 = .ok (.iadd, 1) := by decide +kernel
theorem dL_law_1020 : decode cL_law 1020 = .ok (.iaload, 1) := by decide +kernel
theorem dL_law_1021 : decode cL_law 1021 = .ok (.invokevirtual 110, 3) := by decide +kernel
theorem dL_law_1024 : decode cL_law 1024 = .ok (.if_icmp .eq 5, 3) := by decide +kernel
theorem dL_law_1027 : decode cL_law 1027 = .ok (.iconst 0, 1) := by decide +kernel
theorem dL_law_1028 : decode cL_law 1028 = .ok (.ireturn, 1) := by decide +kernel
theorem dL_law_1029 : decode cL_law 1029 = .ok (.iinc 3 6, 3) := by decide +kernel
theorem dL_law_1032 : decode cL_law 1032 = .ok (.goto (-1014), 3) := by decide +kernel
theorem dL_law_1035 : decode cL_law 1035 = .ok (.iconst 1, 1) := by decide +kernel
theorem dL_law_1036 : decode cL_law 1036 = .ok (.ireturn, 1) := by decide +kernel
abbrev vwCl : List vw_C := [(RX0, TX0, 7), (RX1, TX1, 2), (RX2, TX2, 6), (RX3, TX3, 2), (RX4, TX4, 16), (RX5, TX5, 8), (RX6, TX6, 33)]
/-- the objects of ThreeLegs$Crowd, kind 0: what each holds, by its address -/
end
section
theorem zz_0 : True := trivial
end
