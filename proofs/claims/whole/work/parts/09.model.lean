/-! ### ThreeLegsModel.in(JJJ)Z -/
abbrev wm_X6_in (cI cZ cO : ClassId)   : va_W := []
def F_X6_in  (p0 : Int64) (p1 : Int64) (p2 : Int64) : Option (Int32) :=
  (if (lg_cmp p0 p1) < 0 then some 0 else (if 0 < (lg_cmp p0 p2) then some 0 else some 1))
abbrev rm_X6_in : Room := { frames := 0, cells := 0, slots := 0, locals := 0 }
abbrev wu_X6_in : List Cond := .code yX6_in cX6_in 6 (some .boolean) :: lwG
set_option maxHeartbeats 20000000 in
set_option maxRecDepth 100000 in
theorem c_X6_in (l : Launch) (D : va_G) (cI cZ cO : ClassId)  (sz : Nat)  (p0 : Int64) (p1 : Int64) (p2 : Int64) (q : Int32) (hF : F_X6_in p0 p1 p2 = some q) : CtI l yX6_in wu_X6_in rm_X6_in D vwCl (tyL cI cZ cO) [.long p0, .long p1, .long p2] (wm_X6_in cI cZ cO) sz 0 0 (fun (r : Int32) (u : Unit) => r = q ∧ u = ()) (fun u => wm_X6_in cI cZ cO) := by
  refine mk_z (cc := cX6_in) (maxL := 6) (by decide) rfl (Nat.le_of_ble_eq_true rfl) ?_
  intro p e s m args below meth c A ls Q hx hb hml hown hts hin hK hP hD hS hA hl hQ
  have hl : lv_has ls 6 [(0, .long p0), (2, .long p1), (4, .long p2)] := hl
  unfold F_X6_in at hF
  refine lv_lload_n hx hb dX6_in_0 rfl (lv_at hl 0 rfl) ?_
  refine lv_lload_n hx hb dX6_in_1 rfl (lv_at hl 1 rfl) ?_
  refine W.lcmp hx hb dX6_in_2 ?_
  refine lv_if_lt (tgt := 17) hx hb dX6_in_3 (by decide) (fun h1 => ?_) (fun h1 => ?_)
  · replace hF := of_t h1 hF
    refine lv_iconst (v := 0) hx hb dX6_in_17 (by decide) ?_
    exact hQ _ _ _ _ _ () rfl ⟨Option.some.inj hF, rfl⟩ hP hD hS dX6_in_18
  · replace hF := of_f h1 hF
    refine lv_lload_n hx hb dX6_in_6 rfl (lv_at hl 0 rfl) ?_
    refine lv_lload hx hb dX6_in_7 (lv_at hl 2 rfl) ?_
    refine W.lcmp hx hb dX6_in_9 ?_
    refine lv_if_gt (tgt := 17) hx hb dX6_in_10 (by decide) (fun h2 => ?_) (fun h2 => ?_)
    · replace hF := of_t h2 hF
      refine lv_iconst (v := 0) hx hb dX6_in_17 (by decide) ?_
      exact hQ _ _ _ _ _ () rfl ⟨Option.some.inj hF, rfl⟩ hP hD hS dX6_in_18
    · replace hF := of_f h2 hF
      refine lv_iconst (v := 1) hx hb dX6_in_13 (by decide) ?_
      refine lv_goto (tgt := 18) hx hb dX6_in_14 (by decide) ?_
      exact hQ _ _ _ _ _ () rfl ⟨Option.some.inj hF, rfl⟩ hP hD hS dX6_in_18

/-! ### ThreeLegsModel.ones(I)I -/
abbrev wm_X6_ones (cI cZ cO : ClassId)   : va_W := []
def L_X6_ones_4 : Nat → Int32 → Int32 → (Int32 → Option (Int32)) → Option (Int32)
  | 0, _, _, _ => none
  | n6 + 1, v3, v4, K1 =>
    (if v4 = 0 then K1 v3 else dd (v3 + 1) (fun (v8 : Int32) => dd (v4 - 1) (fun (v9 : Int32) => dd (v4 &&& v9) (fun (v10 : Int32) => L_X6_ones_4 n6 v8 v10 K1))))
def F_X6_ones  (p0 : Int32) : Option (Int32) :=
  jn (fun (v2 : Int32) => some v2) (fun (K1 : Int32 → Option (Int32)) => L_X6_ones_4 2000 0 p0 K1)
abbrev rm_X6_ones : Room := { frames := 0, cells := 0, slots := 0, locals := 0 }
abbrev wu_X6_ones : List Cond := .code yX6_ones cX6_ones 3 (some .int) :: lwG
set_option maxHeartbeats 20000000 in
set_option maxRecDepth 100000 in
theorem c_X6_ones (l : Launch) (D : va_G) (cI cZ cO : ClassId)  (sz : Nat)  (p0 : Int32) (q : Int32) (hF : F_X6_ones p0 = some q) : CtI l yX6_ones wu_X6_ones rm_X6_ones D vwCl (tyL cI cZ cO) [.int p0] (wm_X6_ones cI cZ cO) sz 0 0 (fun (r : Int32) (u : Unit) => r = q ∧ u = ()) (fun u => wm_X6_ones cI cZ cO) := by
  refine mk_i (cc := cX6_ones) (maxL := 3) (by decide) rfl (Nat.le_of_ble_eq_true rfl) ?_
  intro p e s m args below meth c A ls Q hx hb hml hown hts hin hK hP hD hS hA hl hQ
  have hl : lv_has ls 3 [(0, .int p0)] := hl
  unfold F_X6_ones at hF
  refine lv_iconst (v := 0) hx hb dX6_ones_0 (by decide) ?_
  refine lv_istore_n (lv' := [(1, .int 0), (0, .int p0)]) hx hb dX6_ones_1 rfl hl (by decide) rfl (fun ls hl => ?_)
  refine lv_iload_n hx hb dX6_ones_2 rfl (lv_at hl 1 rfl) ?_
  refine lv_istore_n (lv' := [(2, .int p0), (1, .int 0), (0, .int p0)]) hx hb dX6_ones_3 rfl hl (by decide) rfl (fun ls hl => ?_)
  obtain ⟨K1, eK1, hF⟩ := of_jn hF
  have hK1 : ∀ (v2 : Int32) (ls : Array Slot) (H : Heap) (locs : List Loc), lv_has ls 3 [(1, .int v2)] → va_P D vwCl (wm_X6_ones cI cZ cO) H → va_D A (wm_X6_ones cI cZ cO) → va_S A s.heap H locs → K1 v2 = some q → W p l e rm_X6_ones s m args below meth c H locs 0 0 Q (F0 m 20 ls []) := by
    intro v2 ls H locs hl hP hD hS hF
    subst eK1
    refine lv_iload_n hx hb dX6_ones_20 rfl (lv_at hl 0 rfl) ?_
    exact hQ _ _ _ _ _ () ⟨Option.some.inj hF, rfl⟩ hP hD hS dX6_ones_21
  have hloop11 : ∀ (n6 : Nat) (v3 : Int32) (v4 : Int32) (ls : Array Slot) (H : Heap) (locs : List Loc), lv_has ls 3 [(1, .int v3), (2, .int v4)] → va_P D vwCl (wm_X6_ones cI cZ cO) H → va_D A (wm_X6_ones cI cZ cO) → va_S A s.heap H locs → L_X6_ones_4 n6 v3 v4 K1 = some q → W p l e rm_X6_ones s m args below meth c H locs 0 0 Q (F0 m 4 ls []) := by
    intro n6
    induction n6 with
    | zero =>
      intro v3 v4 ls H locs hl hP hD hS hF
      exact of_none hF
    | succ n6 ih5 =>
      intro v3 v4 ls H locs hl hP hD hS hF
      rw [L_X6_ones_4.eq_2] at hF
      refine lv_iload_n hx hb dX6_ones_4 rfl (lv_at hl 1 rfl) ?_
      refine lv_if_eq (tgt := 20) hx hb dX6_ones_5 (by decide) (fun h7 => ?_) (fun h7 => ?_)
      · replace hF := of_t h7 hF
        exact hK1 v3 ls _ _ (lv_sub hl [0] rfl) hP hD hS hF
      · replace hF := of_f h7 hF
        obtain ⟨v8, ev8⟩ : ∃ y : Int32, y = v3 + 1 := ⟨_, rfl⟩
        replace hF := of_dd hF v8 ev8
        refine lv_iinc (v := v8) (lv' := [(1, .int v8), (2, .int v4)]) hx hb dX6_ones_8 hl (k := 0) rfl (by rw [ev8]; rfl) (by decide) rfl (fun ls hl => ?_)
        refine lv_iload_n hx hb dX6_ones_11 rfl (lv_at hl 1 rfl) ?_
        refine lv_iload_n hx hb dX6_ones_12 rfl (lv_at hl 1 rfl) ?_
        refine lv_iconst (v := 1) hx hb dX6_ones_13 (by decide) ?_
        refine lv_isub hx hb dX6_ones_14 ?_
        refine lv_topi (fun v9 ev9 => ?_)
        replace hF := of_dd hF v9 ev9
        refine lv_iand hx hb dX6_ones_15 ?_
        refine lv_topi (fun v10 ev10 => ?_)
        replace hF := of_dd hF v10 ev10
        refine lv_istore_n (lv' := [(2, .int v10), (1, .int v8)]) hx hb dX6_ones_16 rfl hl (by decide) rfl (fun ls hl => ?_)
        refine lv_goto (tgt := 4) hx hb dX6_ones_17 (by decide) ?_
        exact ih5 v8 v10 ls _ _ (lv_sub hl [1, 0] rfl) hP hD hS hF
  exact hloop11 2000 0 p0 ls _ _ (lv_sub hl [1, 0] rfl) hP hD hS hF

/-! ### ThreeLegsModel.runs(I)Z -/
abbrev wm_X6_runs (cI cZ cO : ClassId) (m_h m_1 m_2 m_3 m_22 m_23 m_24 m_27 m_29 m_30 : Nat) (om : Ob) : va_W := [(m_h, .inr (6, [.int (om 0 0), .ref m_1, .ref m_2, .ref m_3, .int (om 4 0), .int (om 5 0), .int (om 6 0), .int (om 7 0), .int (om 8 0), .int (om 9 0), .int (om 10 0), .int (om 11 0), .int (om 12 0), .int (om 13 0), .int (om 14 0), .int (om 15 0), .int (om 16 0), .int (om 17 0), .int (om 18 0), .int (om 19 0), .int (om 20 0), .int (om 21 0), .ref m_22, .ref m_23, .ref m_24, .int (om 25 0), .int (om 26 0), .ref m_27, .int (om 28 0), .ref m_29, .ref m_30, .int (om 31 0), .int (om 32 0)])), (m_1, .inl (cI, 8, .inl (om 1))), (m_2, .inl (cI, 8, .inl (om 2))), (m_3, .inl (cI, 8, .inl (om 3))), (m_22, .inl (cI, 64, .inl (om 22))), (m_23, .inl (cI, 8, .inl (om 23))), (m_24, .inl (cI, 8, .inl (om 24))), (m_27, .inl (cI, 40, .inl (om 27))), (m_29, .inl (cI, 80, .inl (om 29))), (m_30, .inl (cZ, 2, .inl (om 30)))]
def F_X6_runs (om : Ob) (p0 : Int32) : Option (Int32) :=
  (F_X6_in (Int32.toInt64 p0) (0 : Int64) (7 : Int64)).bind (fun q1 => (if q1 = 0 then some 0 else dd ((om 0 0) >>> (p0 &&& 31)) (fun (v3 : Int32) => dd (v3 &&& 1) (fun (v4 : Int32) => (if v4 = 1 then some 1 else some 0)))))
abbrev rm_X6_runs : Room := { frames := 1, cells := 0, slots := 0, locals := 25 }
abbrev wu_X6_runs : List Cond := .code yX6_runs cX6_runs 2 (some .boolean) :: lwG
set_option maxHeartbeats 20000000 in
set_option maxRecDepth 100000 in
theorem c_X6_runs (l : Launch) (D : va_G) (cI cZ cO : ClassId) (m_h m_1 m_2 m_3 m_22 m_23 m_24 m_27 m_29 m_30 : Nat) (sz : Nat) (om : Ob) (p0 : Int32) (q : Int32) (hF : F_X6_runs om p0 = some q) : CtI l yX6_runs wu_X6_runs rm_X6_runs D vwCl (tyL cI cZ cO) [.ref m_h, .int p0] (wm_X6_runs cI cZ cO m_h m_1 m_2 m_3 m_22 m_23 m_24 m_27 m_29 m_30 om) sz 0 0 (fun (r : Int32) (u : Unit) => r = q ∧ u = ()) (fun u => wm_X6_runs cI cZ cO m_h m_1 m_2 m_3 m_22 m_23 m_24 m_27 m_29 m_30 om) := by
  refine mk_z (cc := cX6_runs) (maxL := 2) (by decide) rfl (Nat.le_of_ble_eq_true rfl) ?_
  intro p e s m args below meth c A ls Q hx hb hml hown hts hin hK hP hD hS hA hl hQ
  have hl : lv_has ls 2 [(0, .ref m_h), (1, .int p0)] := hl
  unfold F_X6_runs at hF
  refine lv_iload_n hx hb dX6_runs_0 rfl (lv_at hl 1 rfl) ?_
  refine lv_i2l hx hb dX6_runs_1 rfl ?_
  refine lv_lconst (v := 0) hx hb dX6_runs_2 (by decide) ?_
  refine lv_ldc2 hx hb hown (hts _ wd_623) dX6_runs_3 ?_
  obtain ⟨q1, hGq1, hF⟩ := of_bind hF
  refine callSi (As := [.long (Int32.toInt64 p0), .long (0 : Int64), .long (7 : Int64)]) (rest := []) ⟨hx, hb, hml, hown, hts⟩ hK hP hD hS hA (c_X6_in l D cI cZ cO  _ (Int32.toInt64 p0) (0 : Int64) (7 : Int64) q1 hGq1) (va_cwS 3 hts (gS wd_624 wd_625 wd_39 wd_626) rfl rfl rfl (by decide +kernel) ⟨Nat.le_of_ble_eq_true rfl, Nat.le_of_ble_eq_true rfl⟩) rfl hl.1 rfl (Nat.le_of_ble_eq_true rfl) dX6_runs_6 ⟨Nat.zero_le _, Nat.zero_le _⟩ (fun H locs hP hS => ?_)
  refine lv_if_eq (tgt := 28) hx hb dX6_runs_9 (by decide) (fun h2 => ?_) (fun h2 => ?_)
  · replace hF := of_t h2 hF
    refine lv_iconst (v := 0) hx hb dX6_runs_28 (by decide) ?_
    exact hQ _ _ _ _ _ () rfl ⟨Option.some.inj hF, rfl⟩ hP hD hS dX6_runs_29
  · replace hF := of_f h2 hF
    refine lv_aload_n hx hb dX6_runs_12 rfl (lv_at hl 0 rfl) ?_
    refine va_get (D := D) (ci := 6) (v := .int (om 0 0)) (C := RX6) (T := TX6) (N := 33) hx hb hts in_X6 hown hK hP 0 rfl rfl 0 (by decide) (hts _ wd_519) (fun _ h9 => h9) rfl dX6_runs_13 ?_
    refine lv_iload_n hx hb dX6_runs_16 rfl (lv_at hl 1 rfl) ?_
    refine lv_ishr hx hb dX6_runs_17 ?_
    refine lv_topi (fun v3 ev3 => ?_)
    replace hF := of_dd hF v3 ev3
    refine lv_iconst (v := 1) hx hb dX6_runs_18 (by decide) ?_
    refine lv_iand hx hb dX6_runs_19 ?_
    refine lv_topi (fun v4 ev4 => ?_)
    replace hF := of_dd hF v4 ev4
    refine lv_iconst (v := 1) hx hb dX6_runs_20 (by decide) ?_
    refine lv_icmp_ne (tgt := 28) hx hb dX6_runs_21 (by decide) (fun h5 => ?_) (fun h5 => ?_)
    · replace hF := of_f h5 hF
      refine lv_iconst (v := 0) hx hb dX6_runs_28 (by decide) ?_
      exact hQ _ _ _ _ _ () rfl ⟨Option.some.inj hF, rfl⟩ hP hD hS dX6_runs_29
    · replace hF := of_t h5 hF
      refine lv_iconst (v := 1) hx hb dX6_runs_24 (by decide) ?_
      refine lv_goto (tgt := 29) hx hb dX6_runs_25 (by decide) ?_
      exact hQ _ _ _ _ _ () rfl ⟨Option.some.inj hF, rfl⟩ hP hD hS dX6_runs_29

/-! ### ThreeLegsModel.run(IIII)I -/
abbrev wm_X6_run (cI cZ cO : ClassId) (m_h m_1 m_2 m_3 m_22 m_23 m_24 m_27 m_29 m_30 : Nat) (om : Ob) : va_W := [(m_h, .inr (6, [.int (om 0 0), .ref m_1, .ref m_2, .ref m_3, .int (om 4 0), .int (om 5 0), .int (om 6 0), .int (om 7 0), .int (om 8 0), .int (om 9 0), .int (om 10 0), .int (om 11 0), .int (om 12 0), .int (om 13 0), .int (om 14 0), .int (om 15 0), .int (om 16 0), .int (om 17 0), .int (om 18 0), .int (om 19 0), .int (om 20 0), .int (om 21 0), .ref m_22, .ref m_23, .ref m_24, .int (om 25 0), .int (om 26 0), .ref m_27, .int (om 28 0), .ref m_29, .ref m_30, .int (om 31 0), .int (om 32 0)])), (m_1, .inl (cI, 8, .inl (om 1))), (m_2, .inl (cI, 8, .inl (om 2))), (m_3, .inl (cI, 8, .inl (om 3))), (m_22, .inl (cI, 64, .inl (om 22))), (m_23, .inl (cI, 8, .inl (om 23))), (m_24, .inl (cI, 8, .inl (om 24))), (m_27, .inl (cI, 40, .inl (om 27))), (m_29, .inl (cI, 80, .inl (om 29))), (m_30, .inl (cZ, 2, .inl (om 30)))]
def F_X6_run (om : Ob) (p0 : Int32) (p1 : Int32) (p2 : Int32) (p3 : Int32) : Option (Int32 × Ob) :=
  (F_X6_in (Int32.toInt64 p0) (0 : Int64) (7 : Int64)).bind (fun q1 => (if q1 = 0 then some ((-1), om) else (F_X6_in (Int32.toInt64 p1) (4 : Int64) (20 : Int64)).bind (fun q3 => (if q3 = 0 then some ((-2), om) else (F_X6_in (Int32.toInt64 p2) (1 : Int64) (9 : Int64)).bind (fun q5 => (if q5 = 0 then some ((-2), om) else (F_X6_in (Int32.toInt64 p3) (0 : Int64) (4 : Int64)).bind (fun q7 => (if q7 = 0 then some ((-2), om) else ck p0 8 (dd (sO om 1 (upd (om 1) (p0).toNatClampNeg p1)) (fun (om10 : Ob) => ck p0 8 (dd (sO om10 2 (upd (om10 2) (p0).toNatClampNeg p2)) (fun (om12 : Ob) => ck p0 8 (dd (sO om12 3 (upd (om12 3) (p0).toNatClampNeg p3)) (fun (om14 : Ob) => dd (1 <<< (p0 &&& 31)) (fun (v15 : Int32) => dd ((om14 0 0) ||| v15) (fun (v16 : Int32) => dd (sO om14 0 (cst v16)) (fun (om17 : Ob) => (F_X6_ones (om17 0 0)).bind (fun q18 => some (q18, om17)))))))))))))))))))
abbrev rm_X6_run : Room := { frames := 1, cells := 0, slots := 0, locals := 25 }
abbrev wu_X6_run : List Cond := .code yX6_run cX6_run 5 (some .int) :: lwG
set_option maxHeartbeats 20000000 in
set_option maxRecDepth 100000 in
theorem c_X6_run (l : Launch) (D : va_G) (cI cZ cO : ClassId) (m_h m_1 m_2 m_3 m_22 m_23 m_24 m_27 m_29 m_30 : Nat) (sz : Nat) (om : Ob) (p0 : Int32) (p1 : Int32) (p2 : Int32) (p3 : Int32) (q : Int32 × Ob) (hF : F_X6_run om p0 p1 p2 p3 = some q) : CtI l yX6_run wu_X6_run rm_X6_run D vwCl (tyL cI cZ cO) [.ref m_h, .int p0, .int p1, .int p2, .int p3] (wm_X6_run cI cZ cO m_h m_1 m_2 m_3 m_22 m_23 m_24 m_27 m_29 m_30 om) sz 0 0 (fun (r : Int32) (u : Ob) => r = q.1 ∧ u = q.2) (fun u => wm_X6_run cI cZ cO m_h m_1 m_2 m_3 m_22 m_23 m_24 m_27 m_29 m_30 u) := by
  refine mk_i (cc := cX6_run) (maxL := 5) (by decide) rfl (Nat.le_of_ble_eq_true rfl) ?_
  intro p e s m args below meth c A ls Q hx hb hml hown hts hin hK hP hD hS hA hl hQ
  have hl : lv_has ls 5 [(0, .ref m_h), (1, .int p0), (2, .int p1), (3, .int p2), (4, .int p3)] := hl
  unfold F_X6_run at hF
  refine lv_iload_n hx hb dX6_run_0 rfl (lv_at hl 1 rfl) ?_
  refine lv_i2l hx hb dX6_run_1 rfl ?_
  refine lv_lconst (v := 0) hx hb dX6_run_2 (by decide) ?_
  refine lv_ldc2 hx hb hown (hts _ wd_623) dX6_run_3 ?_
  obtain ⟨q1, hGq1, hF⟩ := of_bind hF
  refine callSi (As := [.long (Int32.toInt64 p0), .long (0 : Int64), .long (7 : Int64)]) (rest := []) ⟨hx, hb, hml, hown, hts⟩ hK hP hD hS hA (c_X6_in l D cI cZ cO  _ (Int32.toInt64 p0) (0 : Int64) (7 : Int64) q1 hGq1) (va_cwS 3 hts (gS wd_624 wd_625 wd_39 wd_626) rfl rfl rfl (by decide +kernel) ⟨Nat.le_of_ble_eq_true rfl, Nat.le_of_ble_eq_true rfl⟩) rfl hl.1 rfl (Nat.le_of_ble_eq_true rfl) dX6_run_6 ⟨Nat.zero_le _, Nat.zero_le _⟩ (fun H locs hP hS => ?_)
  refine lv_if_ne (tgt := 14) hx hb dX6_run_9 (by decide) (fun h2 => ?_) (fun h2 => ?_)
  · replace hF := of_f h2 hF
    refine lv_iload_n hx hb dX6_run_14 rfl (lv_at hl 2 rfl) ?_
    refine lv_i2l hx hb dX6_run_15 rfl ?_
    refine lv_ldc2 hx hb hown (hts _ wd_627) dX6_run_16 ?_
    refine lv_ldc2 hx hb hown (hts _ wd_628) dX6_run_19 ?_
    obtain ⟨q3, hGq3, hF⟩ := of_bind hF
    refine callSi (As := [.long (Int32.toInt64 p1), .long (4 : Int64), .long (20 : Int64)]) (rest := []) ⟨hx, hb, hml, hown, hts⟩ hK hP hD hS hA (c_X6_in l D cI cZ cO  _ (Int32.toInt64 p1) (4 : Int64) (20 : Int64) q3 hGq3) (va_cwS 3 hts (gS wd_624 wd_625 wd_39 wd_626) rfl rfl rfl (by decide +kernel) ⟨Nat.le_of_ble_eq_true rfl, Nat.le_of_ble_eq_true rfl⟩) rfl hl.1 rfl (Nat.le_of_ble_eq_true rfl) dX6_run_22 ⟨Nat.zero_le _, Nat.zero_le _⟩ (fun H locs hP hS => ?_)
    refine lv_if_eq (tgt := 53) hx hb dX6_run_25 (by decide) (fun h4 => ?_) (fun h4 => ?_)
    · replace hF := of_t h4 hF
      refine lv_bipush (v := (-2)) hx hb dX6_run_53 (by decide) ?_
      exact hQ _ _ _ _ _ om ⟨inj_fst hF, inj_snd hF⟩ hP hD hS dX6_run_55
    · replace hF := of_f h4 hF
      refine lv_iload_n hx hb dX6_run_28 rfl (lv_at hl 3 rfl) ?_
      refine lv_i2l hx hb dX6_run_29 rfl ?_
      refine lv_lconst (v := 1) hx hb dX6_run_30 (by decide) ?_
      refine lv_ldc2 hx hb hown (hts _ wd_629) dX6_run_31 ?_
      obtain ⟨q5, hGq5, hF⟩ := of_bind hF
      refine callSi (As := [.long (Int32.toInt64 p2), .long (1 : Int64), .long (9 : Int64)]) (rest := []) ⟨hx, hb, hml, hown, hts⟩ hK hP hD hS hA (c_X6_in l D cI cZ cO  _ (Int32.toInt64 p2) (1 : Int64) (9 : Int64) q5 hGq5) (va_cwS 3 hts (gS wd_624 wd_625 wd_39 wd_626) rfl rfl rfl (by decide +kernel) ⟨Nat.le_of_ble_eq_true rfl, Nat.le_of_ble_eq_true rfl⟩) rfl hl.1 rfl (Nat.le_of_ble_eq_true rfl) dX6_run_34 ⟨Nat.zero_le _, Nat.zero_le _⟩ (fun H locs hP hS => ?_)
      refine lv_if_eq (tgt := 53) hx hb dX6_run_37 (by decide) (fun h6 => ?_) (fun h6 => ?_)
      · replace hF := of_t h6 hF
        refine lv_bipush (v := (-2)) hx hb dX6_run_53 (by decide) ?_
        exact hQ _ _ _ _ _ om ⟨inj_fst hF, inj_snd hF⟩ hP hD hS dX6_run_55
      · replace hF := of_f h6 hF
        refine lv_iload hx hb dX6_run_40 (lv_at hl 4 rfl) ?_
        refine lv_i2l hx hb dX6_run_42 rfl ?_
        refine lv_lconst (v := 0) hx hb dX6_run_43 (by decide) ?_
        refine lv_ldc2 hx hb hown (hts _ wd_627) dX6_run_44 ?_
        obtain ⟨q7, hGq7, hF⟩ := of_bind hF
        refine callSi (As := [.long (Int32.toInt64 p3), .long (0 : Int64), .long (4 : Int64)]) (rest := []) ⟨hx, hb, hml, hown, hts⟩ hK hP hD hS hA (c_X6_in l D cI cZ cO  _ (Int32.toInt64 p3) (0 : Int64) (4 : Int64) q7 hGq7) (va_cwS 3 hts (gS wd_624 wd_625 wd_39 wd_626) rfl rfl rfl (by decide +kernel) ⟨Nat.le_of_ble_eq_true rfl, Nat.le_of_ble_eq_true rfl⟩) rfl hl.1 rfl (Nat.le_of_ble_eq_true rfl) dX6_run_47 ⟨Nat.zero_le _, Nat.zero_le _⟩ (fun H locs hP hS => ?_)
        refine lv_if_ne (tgt := 56) hx hb dX6_run_50 (by decide) (fun h8 => ?_) (fun h8 => ?_)
        · replace hF := of_f h8 hF
          refine lv_aload_n hx hb dX6_run_56 rfl (lv_at hl 0 rfl) ?_
          refine va_get (D := D) (ci := 6) (v := .ref m_1) (C := RX6) (T := TX6) (N := 33) hx hb hts in_X6 hown hK hP 0 rfl rfl 1 (by decide) (hts _ wd_520) (fun _ h9 => h9) rfl dX6_run_57 ?_
          refine lv_iload_n hx hb dX6_run_60 rfl (lv_at hl 1 rfl) ?_
          refine lv_iload_n hx hb dX6_run_61 rfl (lv_at hl 2 rfl) ?_
          obtain ⟨h9, hF⟩ := of_ck hF
          refine va_iast (D := D) hx hb hK hP hD hS 1 0 rfl rfl h9 dX6_run_62 (fun H locs hP hD hS => ?_)
          obtain ⟨om10, hF, hP, hD⟩ := nm_o (P := fun y => va_P D vwCl (wm_X6_run cI cZ cO m_h m_1 m_2 m_3 m_22 m_23 m_24 m_27 m_29 m_30 y) _) (B := fun y => va_D A (wm_X6_run cI cZ cO m_h m_1 m_2 m_3 m_22 m_23 m_24 m_27 m_29 m_30 y)) hF hP hD
          refine lv_aload_n hx hb dX6_run_63 rfl (lv_at hl 0 rfl) ?_
          refine va_get (D := D) (ci := 6) (v := .ref m_2) (C := RX6) (T := TX6) (N := 33) hx hb hts in_X6 hown hK hP 0 rfl rfl 2 (by decide) (hts _ wd_521) (fun _ h9 => h9) rfl dX6_run_64 ?_
          refine lv_iload_n hx hb dX6_run_67 rfl (lv_at hl 1 rfl) ?_
          refine lv_iload_n hx hb dX6_run_68 rfl (lv_at hl 3 rfl) ?_
          obtain ⟨h11, hF⟩ := of_ck hF
          refine va_iast (D := D) hx hb hK hP hD hS 2 0 rfl rfl h11 dX6_run_69 (fun H locs hP hD hS => ?_)
          obtain ⟨om12, hF, hP, hD⟩ := nm_o (P := fun y => va_P D vwCl (wm_X6_run cI cZ cO m_h m_1 m_2 m_3 m_22 m_23 m_24 m_27 m_29 m_30 y) _) (B := fun y => va_D A (wm_X6_run cI cZ cO m_h m_1 m_2 m_3 m_22 m_23 m_24 m_27 m_29 m_30 y)) hF hP hD
          refine lv_aload_n hx hb dX6_run_70 rfl (lv_at hl 0 rfl) ?_
          refine va_get (D := D) (ci := 6) (v := .ref m_3) (C := RX6) (T := TX6) (N := 33) hx hb hts in_X6 hown hK hP 0 rfl rfl 3 (by decide) (hts _ wd_522) (fun _ h9 => h9) rfl dX6_run_71 ?_
          refine lv_iload_n hx hb dX6_run_74 rfl (lv_at hl 1 rfl) ?_
          refine lv_iload hx hb dX6_run_75 (lv_at hl 4 rfl) ?_
          obtain ⟨h13, hF⟩ := of_ck hF
          refine va_iast (D := D) hx hb hK hP hD hS 3 0 rfl rfl h13 dX6_run_77 (fun H locs hP hD hS => ?_)
          obtain ⟨om14, hF, hP, hD⟩ := nm_o (P := fun y => va_P D vwCl (wm_X6_run cI cZ cO m_h m_1 m_2 m_3 m_22 m_23 m_24 m_27 m_29 m_30 y) _) (B := fun y => va_D A (wm_X6_run cI cZ cO m_h m_1 m_2 m_3 m_22 m_23 m_24 m_27 m_29 m_30 y)) hF hP hD
          refine lv_aload_n hx hb dX6_run_78 rfl (lv_at hl 0 rfl) ?_
          refine lv_dup hx hb dX6_run_79 rfl ?_
          refine va_get (D := D) (ci := 6) (v := .int (om14 0 0)) (C := RX6) (T := TX6) (N := 33) hx hb hts in_X6 hown hK hP 0 rfl rfl 0 (by decide) (hts _ wd_519) (fun _ h9 => h9) rfl dX6_run_80 ?_
          refine lv_iconst (v := 1) hx hb dX6_run_83 (by decide) ?_
          refine lv_iload_n hx hb dX6_run_84 rfl (lv_at hl 1 rfl) ?_
          refine lv_ishl hx hb dX6_run_85 ?_
          refine lv_topi (fun v15 ev15 => ?_)
          replace hF := of_dd hF v15 ev15
          refine lv_ior hx hb dX6_run_86 ?_
          refine lv_topi (fun v16 ev16 => ?_)
          replace hF := of_dd hF v16 ev16
          refine va_put (D := D) (ci := 6) (v := .int v16) (ty := .int) (C := RX6) (T := TX6) (N := 33) hx hb hts in_X6 tyX6 tyX6_ok nmX6 hown hK hP hD hS 0 rfl rfl 0 (by decide) (hts _ wd_519) (fun _ h9 => h9) rfl (tyX6_ok 0 (by decide)) rfl rfl (Nat.le_of_ble_eq_true rfl) dX6_run_87 (fun H locs hP hD hS => ?_)
          obtain ⟨om17, hF, hP, hD⟩ := nm_o (P := fun y => va_P D vwCl (wm_X6_run cI cZ cO m_h m_1 m_2 m_3 m_22 m_23 m_24 m_27 m_29 m_30 y) _) (B := fun y => va_D A (wm_X6_run cI cZ cO m_h m_1 m_2 m_3 m_22 m_23 m_24 m_27 m_29 m_30 y)) hF hP hD
          refine lv_aload_n hx hb dX6_run_90 rfl (lv_at hl 0 rfl) ?_
          refine va_get (D := D) (ci := 6) (v := .int (om17 0 0)) (C := RX6) (T := TX6) (N := 33) hx hb hts in_X6 hown hK hP 0 rfl rfl 0 (by decide) (hts _ wd_519) (fun _ h9 => h9) rfl dX6_run_91 ?_
          obtain ⟨q18, hGq18, hF⟩ := of_bind hF
          refine callSi (As := [.int (om17 0 0)]) (rest := []) ⟨hx, hb, hml, hown, hts⟩ hK hP hD hS hA (c_X6_ones l D cI cZ cO  _ (om17 0 0) q18 hGq18) (va_cwS 1 hts (gS wd_630 wd_631 wd_39 wd_632) rfl rfl rfl (by decide +kernel) ⟨Nat.le_of_ble_eq_true rfl, Nat.le_of_ble_eq_true rfl⟩) rfl hl.1 rfl (Nat.le_of_ble_eq_true rfl) dX6_run_94 ⟨Nat.zero_le _, Nat.zero_le _⟩ (fun H locs hP hS => ?_)
          exact hQ _ _ _ _ _ om17 ⟨inj_fst hF, inj_snd hF⟩ hP hD hS dX6_run_97
        · replace hF := of_t h8 hF
          refine lv_bipush (v := (-2)) hx hb dX6_run_53 (by decide) ?_
          exact hQ _ _ _ _ _ om ⟨inj_fst hF, inj_snd hF⟩ hP hD hS dX6_run_55
  · replace hF := of_t h2 hF
    refine lv_iconst (v := (-1)) hx hb dX6_run_12 (by decide) ?_
    exact hQ _ _ _ _ _ om ⟨inj_fst hF, inj_snd hF⟩ hP hD hS dX6_run_13

/-! ### ThreeLegsModel.rest(I)I -/
abbrev wm_X6_rest (cI cZ cO : ClassId) (m_h m_1 m_2 m_3 m_22 m_23 m_24 m_27 m_29 m_30 : Nat) (om : Ob) : va_W := [(m_h, .inr (6, [.int (om 0 0), .ref m_1, .ref m_2, .ref m_3, .int (om 4 0), .int (om 5 0), .int (om 6 0), .int (om 7 0), .int (om 8 0), .int (om 9 0), .int (om 10 0), .int (om 11 0), .int (om 12 0), .int (om 13 0), .int (om 14 0), .int (om 15 0), .int (om 16 0), .int (om 17 0), .int (om 18 0), .int (om 19 0), .int (om 20 0), .int (om 21 0), .ref m_22, .ref m_23, .ref m_24, .int (om 25 0), .int (om 26 0), .ref m_27, .int (om 28 0), .ref m_29, .ref m_30, .int (om 31 0), .int (om 32 0)])), (m_1, .inl (cI, 8, .inl (om 1))), (m_2, .inl (cI, 8, .inl (om 2))), (m_3, .inl (cI, 8, .inl (om 3))), (m_22, .inl (cI, 64, .inl (om 22))), (m_23, .inl (cI, 8, .inl (om 23))), (m_24, .inl (cI, 8, .inl (om 24))), (m_27, .inl (cI, 40, .inl (om 27))), (m_29, .inl (cI, 80, .inl (om 29))), (m_30, .inl (cZ, 2, .inl (om 30)))]
def F_X6_rest (om : Ob) (p0 : Int32) : Option (Int32 × Ob) :=
  (F_X6_runs om p0).bind (fun q1 => (if q1 = 0 then some ((-1), om) else dd (1 <<< (p0 &&& 31)) (fun (v3 : Int32) => dd (v3 ^^^ (-1)) (fun (v4 : Int32) => dd ((om 0 0) &&& v4) (fun (v5 : Int32) => dd (sO om 0 (cst v5)) (fun (om6 : Ob) => (F_X6_ones (om6 0 0)).bind (fun q7 => some (q7, om6))))))))
abbrev rm_X6_rest : Room := { frames := 2, cells := 0, slots := 0, locals := 46 }
abbrev wu_X6_rest : List Cond := .code yX6_rest cX6_rest 2 (some .int) :: lwG
set_option maxHeartbeats 20000000 in
set_option maxRecDepth 100000 in
theorem c_X6_rest (l : Launch) (D : va_G) (cI cZ cO : ClassId) (m_h m_1 m_2 m_3 m_22 m_23 m_24 m_27 m_29 m_30 : Nat) (sz : Nat) (om : Ob) (p0 : Int32) (q : Int32 × Ob) (hF : F_X6_rest om p0 = some q) : CtI l yX6_rest wu_X6_rest rm_X6_rest D vwCl (tyL cI cZ cO) [.ref m_h, .int p0] (wm_X6_rest cI cZ cO m_h m_1 m_2 m_3 m_22 m_23 m_24 m_27 m_29 m_30 om) sz 0 0 (fun (r : Int32) (u : Ob) => r = q.1 ∧ u = q.2) (fun u => wm_X6_rest cI cZ cO m_h m_1 m_2 m_3 m_22 m_23 m_24 m_27 m_29 m_30 u) := by
  refine mk_i (cc := cX6_rest) (maxL := 2) (by decide) rfl (Nat.le_of_ble_eq_true rfl) ?_
  intro p e s m args below meth c A ls Q hx hb hml hown hts hin hK hP hD hS hA hl hQ
  have hl : lv_has ls 2 [(0, .ref m_h), (1, .int p0)] := hl
  unfold F_X6_rest at hF
  refine lv_aload_n hx hb dX6_rest_0 rfl (lv_at hl 0 rfl) ?_
  refine lv_iload_n hx hb dX6_rest_1 rfl (lv_at hl 1 rfl) ?_
  obtain ⟨q1, hGq1, hF⟩ := of_bind hF
  refine callVi (As := [.int p0]) (rest := []) (wr := []) (WN := wm_X6_rest cI cZ cO m_h m_1 m_2 m_3 m_22 m_23 m_24 m_27 m_29 m_30 om) ⟨hx, hb, hml, hown, hts⟩ hK hP hD hS hA [0, 1, 2, 3, 4, 5, 6, 7, 8, 9] [] [0, 1, 2, 3, 4, 5, 6, 7, 8, 9] (c_X6_runs l D cI cZ cO m_h m_1 m_2 m_3 m_22 m_23 m_24 m_27 m_29 m_30 _ om p0 q1 hGq1) (cwV 1 hts (gV wd_637 wd_639 wd_14 wd_39 wd_640) rfl rfl rfl (by decide +kernel) ⟨Nat.le_of_ble_eq_true rfl, Nat.le_of_ble_eq_true rfl⟩) 0 6 rfl rfl rfl rfl rfl rfl rfl (by decide) rfl rfl rfl hl.1 rfl (Nat.le_of_ble_eq_true rfl) dX6_rest_2 ⟨Nat.zero_le _, Nat.zero_le _⟩ (fun H locs hP hD hS => ?_)
  refine lv_if_ne (tgt := 10) hx hb dX6_rest_5 (by decide) (fun h2 => ?_) (fun h2 => ?_)
  · replace hF := of_f h2 hF
    refine lv_aload_n hx hb dX6_rest_10 rfl (lv_at hl 0 rfl) ?_
    refine lv_dup hx hb dX6_rest_11 rfl ?_
    refine va_get (D := D) (ci := 6) (v := .int (om 0 0)) (C := RX6) (T := TX6) (N := 33) hx hb hts in_X6 hown hK hP 0 rfl rfl 0 (by decide) (hts _ wd_519) (fun _ h9 => h9) rfl dX6_rest_12 ?_
    refine lv_iconst (v := 1) hx hb dX6_rest_15 (by decide) ?_
    refine lv_iload_n hx hb dX6_rest_16 rfl (lv_at hl 1 rfl) ?_
    refine lv_ishl hx hb dX6_rest_17 ?_
    refine lv_topi (fun v3 ev3 => ?_)
    replace hF := of_dd hF v3 ev3
    refine lv_iconst (v := (-1)) hx hb dX6_rest_18 (by decide) ?_
    refine lv_ixor hx hb dX6_rest_19 ?_
    refine lv_topi (fun v4 ev4 => ?_)
    replace hF := of_dd hF v4 ev4
    refine lv_iand hx hb dX6_rest_20 ?_
    refine lv_topi (fun v5 ev5 => ?_)
    replace hF := of_dd hF v5 ev5
    refine va_put (D := D) (ci := 6) (v := .int v5) (ty := .int) (C := RX6) (T := TX6) (N := 33) hx hb hts in_X6 tyX6 tyX6_ok nmX6 hown hK hP hD hS 0 rfl rfl 0 (by decide) (hts _ wd_519) (fun _ h9 => h9) rfl (tyX6_ok 0 (by decide)) rfl rfl (Nat.le_of_ble_eq_true rfl) dX6_rest_21 (fun H locs hP hD hS => ?_)
    obtain ⟨om6, hF, hP, hD⟩ := nm_o (P := fun y => va_P D vwCl (wm_X6_rest cI cZ cO m_h m_1 m_2 m_3 m_22 m_23 m_24 m_27 m_29 m_30 y) _) (B := fun y => va_D A (wm_X6_rest cI cZ cO m_h m_1 m_2 m_3 m_22 m_23 m_24 m_27 m_29 m_30 y)) hF hP hD
    refine lv_aload_n hx hb dX6_rest_24 rfl (lv_at hl 0 rfl) ?_
    refine va_get (D := D) (ci := 6) (v := .int (om6 0 0)) (C := RX6) (T := TX6) (N := 33) hx hb hts in_X6 hown hK hP 0 rfl rfl 0 (by decide) (hts _ wd_519) (fun _ h9 => h9) rfl dX6_rest_25 ?_
    obtain ⟨q7, hGq7, hF⟩ := of_bind hF
    refine callSi (As := [.int (om6 0 0)]) (rest := []) ⟨hx, hb, hml, hown, hts⟩ hK hP hD hS hA (c_X6_ones l D cI cZ cO  _ (om6 0 0) q7 hGq7) (va_cwS 1 hts (gS wd_630 wd_631 wd_39 wd_632) rfl rfl rfl (by decide +kernel) ⟨Nat.le_of_ble_eq_true rfl, Nat.le_of_ble_eq_true rfl⟩) rfl hl.1 rfl (Nat.le_of_ble_eq_true rfl) dX6_rest_28 ⟨Nat.zero_le _, Nat.zero_le _⟩ (fun H locs hP hS => ?_)
    exact hQ _ _ _ _ _ om6 ⟨inj_fst hF, inj_snd hF⟩ hP hD hS dX6_rest_31
  · replace hF := of_t h2 hF
    refine lv_iconst (v := (-1)) hx hb dX6_rest_8 (by decide) ?_
    exact hQ _ _ _ _ _ om ⟨inj_fst hF, inj_snd hF⟩ hP hD hS dX6_rest_9

/-! ### ThreeLegsModel.set(II)I -/
abbrev wm_X6_set (cI cZ cO : ClassId) (m_h m_1 m_2 m_3 m_22 m_23 m_24 m_27 m_29 m_30 : Nat) (om : Ob) : va_W := [(m_h, .inr (6, [.int (om 0 0), .ref m_1, .ref m_2, .ref m_3, .int (om 4 0), .int (om 5 0), .int (om 6 0), .int (om 7 0), .int (om 8 0), .int (om 9 0), .int (om 10 0), .int (om 11 0), .int (om 12 0), .int (om 13 0), .int (om 14 0), .int (om 15 0), .int (om 16 0), .int (om 17 0), .int (om 18 0), .int (om 19 0), .int (om 20 0), .int (om 21 0), .ref m_22, .ref m_23, .ref m_24, .int (om 25 0), .int (om 26 0), .ref m_27, .int (om 28 0), .ref m_29, .ref m_30, .int (om 31 0), .int (om 32 0)])), (m_1, .inl (cI, 8, .inl (om 1))), (m_2, .inl (cI, 8, .inl (om 2))), (m_3, .inl (cI, 8, .inl (om 3))), (m_22, .inl (cI, 64, .inl (om 22))), (m_23, .inl (cI, 8, .inl (om 23))), (m_24, .inl (cI, 8, .inl (om 24))), (m_27, .inl (cI, 40, .inl (om 27))), (m_29, .inl (cI, 80, .inl (om 29))), (m_30, .inl (cZ, 2, .inl (om 30)))]
def F_X6_set (om : Ob) (p0 : Int32) (p1 : Int32) : Option (Int32 × Ob) :=
  jn (fun (v2 : Int32) => (if v2 = 0 then some ((-2), om) else jn (fun (v5 : Int32) => jn (fun (v7 : Int32) => dd (sO om 4 (cst v7)) (fun (om8 : Ob) => jn (fun (v10 : Int32) => dd (sO om8 5 (cst v10)) (fun (om11 : Ob) => jn (fun (v13 : Int32) => dd (sO om11 6 (cst v13)) (fun (om14 : Ob) => some (v5, om14))) (fun (K12 : Int32 → Option (Int32 × Ob)) => (if p0 = 2 then K12 p1 else K12 (om11 6 0))))) (fun (K9 : Int32 → Option (Int32 × Ob)) => (if p0 = 1 then K9 p1 else K9 (om8 5 0))))) (fun (K6 : Int32 → Option (Int32 × Ob)) => (if p0 = 0 then K6 p1 else K6 (om 4 0)))) (fun (K4 : Int32 → Option (Int32 × Ob)) => (if p0 = 0 then K4 (om 4 0) else (if p0 = 1 then K4 (om 5 0) else K4 (om 6 0)))))) (fun (K1 : Int32 → Option (Int32 × Ob)) => (if p0 = 0 then jn (fun (v28 : Int64) => (F_X6_in (Int32.toInt64 p1) (0 : Int64) v28).bind (fun q29 => K1 q29)) (fun (K27 : Int64 → Option (Int32 × Ob)) => (if 9 ≤ (om 5 0) then K27 (9 : Int64) else K27 (Int32.toInt64 (om 5 0)))) else (if p0 = 1 then (F_X6_in (Int32.toInt64 p1) (Int32.toInt64 (om 4 0)) (20 : Int64)).bind (fun q26 => K1 q26) else jn (K1 0) (fun (K22 : Option (Int32 × Ob)) => (if p0 = 2 then (F_X6_in (Int32.toInt64 p1) (0 : Int64) (99 : Int64)).bind (fun q24 => (if q24 = 0 then K22 else K1 1)) else K22)))))
abbrev rm_X6_set : Room := { frames := 1, cells := 0, slots := 0, locals := 25 }
abbrev wu_X6_set : List Cond := .code yX6_set cX6_set 5 (some .int) :: lwG
set_option maxHeartbeats 20000000 in
set_option maxRecDepth 100000 in
theorem c_X6_set (l : Launch) (D : va_G) (cI cZ cO : ClassId) (m_h m_1 m_2 m_3 m_22 m_23 m_24 m_27 m_29 m_30 : Nat) (sz : Nat) (om : Ob) (p0 : Int32) (p1 : Int32) (q : Int32 × Ob) (hF : F_X6_set om p0 p1 = some q) : CtI l yX6_set wu_X6_set rm_X6_set D vwCl (tyL cI cZ cO) [.ref m_h, .int p0, .int p1] (wm_X6_set cI cZ cO m_h m_1 m_2 m_3 m_22 m_23 m_24 m_27 m_29 m_30 om) sz 0 0 (fun (r : Int32) (u : Ob) => r = q.1 ∧ u = q.2) (fun u => wm_X6_set cI cZ cO m_h m_1 m_2 m_3 m_22 m_23 m_24 m_27 m_29 m_30 u) := by
  refine mk_i (cc := cX6_set) (maxL := 5) (by decide) rfl (Nat.le_of_ble_eq_true rfl) ?_
  intro p e s m args below meth c A ls Q hx hb hml hown hts hin hK hP hD hS hA hl hQ
  have hl : lv_has ls 5 [(0, .ref m_h), (1, .int p0), (2, .int p1)] := hl
  unfold F_X6_set at hF
  refine lv_iload_n hx hb dX6_set_0 rfl (lv_at hl 1 rfl) ?_
  obtain ⟨K1, eK1, hF⟩ := of_jn hF
  have hK1 : ∀ (v2 : Int32) (ls : Array Slot) (H : Heap) (locs : List Loc), lv_has ls 5 [(0, .ref m_h), (1, .int p0), (2, .int p1)] → va_P D vwCl (wm_X6_set cI cZ cO m_h m_1 m_2 m_3 m_22 m_23 m_24 m_27 m_29 m_30 om) H → va_D A (wm_X6_set cI cZ cO m_h m_1 m_2 m_3 m_22 m_23 m_24 m_27 m_29 m_30 om) → va_S A s.heap H locs → K1 v2 = some q → W p l e rm_X6_set s m args below meth c H locs 0 0 Q (F0 m 76 ls [.int v2]) := by
    intro v2 ls H locs hl hP hD hS hF
    subst eK1
    refine lv_istore_n (lv' := [(3, .int v2), (0, .ref m_h), (1, .int p0), (2, .int p1)]) hx hb dX6_set_76 rfl hl (by decide) rfl (fun ls hl => ?_)
    refine lv_iload_n hx hb dX6_set_77 rfl (lv_at hl 0 rfl) ?_
    refine lv_if_ne (tgt := 84) hx hb dX6_set_78 (by decide) (fun h3 => ?_) (fun h3 => ?_)
    · replace hF := of_f h3 hF
      refine lv_iload_n hx hb dX6_set_84 rfl (lv_at hl 2 rfl) ?_
      obtain ⟨K4, eK4, hF⟩ := of_jn hF
      have hK4 : ∀ (v5 : Int32) (ls : Array Slot) (H : Heap) (locs : List Loc), lv_has ls 5 [(0, .ref m_h), (1, .int p0), (2, .int p1)] → va_P D vwCl (wm_X6_set cI cZ cO m_h m_1 m_2 m_3 m_22 m_23 m_24 m_27 m_29 m_30 om) H → va_D A (wm_X6_set cI cZ cO m_h m_1 m_2 m_3 m_22 m_23 m_24 m_27 m_29 m_30 om) → va_S A s.heap H locs → K4 v5 = some q → W p l e rm_X6_set s m args below meth c H locs 0 0 Q (F0 m 111 ls [.int v5]) := by
        intro v5 ls H locs hl hP hD hS hF
        subst eK4
        refine lv_istore (lv' := [(4, .int v5), (0, .ref m_h), (1, .int p0), (2, .int p1)]) hx hb dX6_set_111 hl (by decide) rfl (fun ls hl => ?_)
        refine lv_aload_n hx hb dX6_set_113 rfl (lv_at hl 1 rfl) ?_
        refine lv_iload_n hx hb dX6_set_114 rfl (lv_at hl 2 rfl) ?_
        obtain ⟨K6, eK6, hF⟩ := of_jn hF
        have hK6 : ∀ (v7 : Int32) (ls : Array Slot) (H : Heap) (locs : List Loc), lv_has ls 5 [(0, .ref m_h), (1, .int p0), (2, .int p1), (4, .int v5)] → va_P D vwCl (wm_X6_set cI cZ cO m_h m_1 m_2 m_3 m_22 m_23 m_24 m_27 m_29 m_30 om) H → va_D A (wm_X6_set cI cZ cO m_h m_1 m_2 m_3 m_22 m_23 m_24 m_27 m_29 m_30 om) → va_S A s.heap H locs → K6 v7 = some q → W p l e rm_X6_set s m args below meth c H locs 0 0 Q (F0 m 126 ls [.int v7, .ref m_h]) := by
          intro v7 ls H locs hl hP hD hS hF
          subst eK6
          refine va_put (D := D) (ci := 6) (v := .int v7) (ty := .int) (C := RX6) (T := TX6) (N := 33) hx hb hts in_X6 tyX6 tyX6_ok nmX6 hown hK hP hD hS 0 rfl rfl 4 (by decide) (hts _ wd_523) (fun _ h9 => h9) rfl (tyX6_ok 4 (by decide)) rfl rfl (Nat.le_of_ble_eq_true rfl) dX6_set_126 (fun H locs hP hD hS => ?_)
          obtain ⟨om8, hF, hP, hD⟩ := nm_o (P := fun y => va_P D vwCl (wm_X6_set cI cZ cO m_h m_1 m_2 m_3 m_22 m_23 m_24 m_27 m_29 m_30 y) _) (B := fun y => va_D A (wm_X6_set cI cZ cO m_h m_1 m_2 m_3 m_22 m_23 m_24 m_27 m_29 m_30 y)) hF hP hD
          refine lv_aload_n hx hb dX6_set_129 rfl (lv_at hl 0 rfl) ?_
          refine lv_iload_n hx hb dX6_set_130 rfl (lv_at hl 1 rfl) ?_
          refine lv_iconst (v := 1) hx hb dX6_set_131 (by decide) ?_
          obtain ⟨K9, eK9, hF⟩ := of_jn hF
          have hK9 : ∀ (v10 : Int32) (ls : Array Slot) (H : Heap) (locs : List Loc), lv_has ls 5 [(0, .ref m_h), (1, .int p0), (2, .int p1), (4, .int v5)] → va_P D vwCl (wm_X6_set cI cZ cO m_h m_1 m_2 m_3 m_22 m_23 m_24 m_27 m_29 m_30 om8) H → va_D A (wm_X6_set cI cZ cO m_h m_1 m_2 m_3 m_22 m_23 m_24 m_27 m_29 m_30 om8) → va_S A s.heap H locs → K9 v10 = some q → W p l e rm_X6_set s m args below meth c H locs 0 0 Q (F0 m 143 ls [.int v10, .ref m_h]) := by
            intro v10 ls H locs hl hP hD hS hF
            subst eK9
            refine va_put (D := D) (ci := 6) (v := .int v10) (ty := .int) (C := RX6) (T := TX6) (N := 33) hx hb hts in_X6 tyX6 tyX6_ok nmX6 hown hK hP hD hS 0 rfl rfl 5 (by decide) (hts _ wd_524) (fun _ h9 => h9) rfl (tyX6_ok 5 (by decide)) rfl rfl (Nat.le_of_ble_eq_true rfl) dX6_set_143 (fun H locs hP hD hS => ?_)
            obtain ⟨om11, hF, hP, hD⟩ := nm_o (P := fun y => va_P D vwCl (wm_X6_set cI cZ cO m_h m_1 m_2 m_3 m_22 m_23 m_24 m_27 m_29 m_30 y) _) (B := fun y => va_D A (wm_X6_set cI cZ cO m_h m_1 m_2 m_3 m_22 m_23 m_24 m_27 m_29 m_30 y)) hF hP hD
            refine lv_aload_n hx hb dX6_set_146 rfl (lv_at hl 0 rfl) ?_
            refine lv_iload_n hx hb dX6_set_147 rfl (lv_at hl 1 rfl) ?_
            refine lv_iconst (v := 2) hx hb dX6_set_148 (by decide) ?_
            obtain ⟨K12, eK12, hF⟩ := of_jn hF
            have hK12 : ∀ (v13 : Int32) (ls : Array Slot) (H : Heap) (locs : List Loc), lv_has ls 5 [(4, .int v5)] → va_P D vwCl (wm_X6_set cI cZ cO m_h m_1 m_2 m_3 m_22 m_23 m_24 m_27 m_29 m_30 om11) H → va_D A (wm_X6_set cI cZ cO m_h m_1 m_2 m_3 m_22 m_23 m_24 m_27 m_29 m_30 om11) → va_S A s.heap H locs → K12 v13 = some q → W p l e rm_X6_set s m args below meth c H locs 0 0 Q (F0 m 160 ls [.int v13, .ref m_h]) := by
              intro v13 ls H locs hl hP hD hS hF
              subst eK12
              refine va_put (D := D) (ci := 6) (v := .int v13) (ty := .int) (C := RX6) (T := TX6) (N := 33) hx hb hts in_X6 tyX6 tyX6_ok nmX6 hown hK hP hD hS 0 rfl rfl 6 (by decide) (hts _ wd_525) (fun _ h9 => h9) rfl (tyX6_ok 6 (by decide)) rfl rfl (Nat.le_of_ble_eq_true rfl) dX6_set_160 (fun H locs hP hD hS => ?_)
              obtain ⟨om14, hF, hP, hD⟩ := nm_o (P := fun y => va_P D vwCl (wm_X6_set cI cZ cO m_h m_1 m_2 m_3 m_22 m_23 m_24 m_27 m_29 m_30 y) _) (B := fun y => va_D A (wm_X6_set cI cZ cO m_h m_1 m_2 m_3 m_22 m_23 m_24 m_27 m_29 m_30 y)) hF hP hD
              refine lv_iload hx hb dX6_set_163 (lv_at hl 0 rfl) ?_
              exact hQ _ _ _ _ _ om14 ⟨inj_fst hF, inj_snd hF⟩ hP hD hS dX6_set_165
            refine lv_icmp_ne (tgt := 156) hx hb dX6_set_149 (by decide) (fun h15 => ?_) (fun h15 => ?_)
            · replace hF := of_f h15 hF
              refine lv_aload_n hx hb dX6_set_156 rfl (lv_at hl 0 rfl) ?_
              refine va_get (D := D) (ci := 6) (v := .int (om11 6 0)) (C := RX6) (T := TX6) (N := 33) hx hb hts in_X6 hown hK hP 0 rfl rfl 6 (by decide) (hts _ wd_525) (fun _ h9 => h9) rfl dX6_set_157 ?_
              exact hK12 (om11 6 0) ls _ _ (lv_sub hl [3] rfl) hP hD hS hF
            · replace hF := of_t h15 hF
              refine lv_iload_n hx hb dX6_set_152 rfl (lv_at hl 2 rfl) ?_
              refine lv_goto (tgt := 160) hx hb dX6_set_153 (by decide) ?_
              exact hK12 p1 ls _ _ (lv_sub hl [3] rfl) hP hD hS hF
          refine lv_icmp_ne (tgt := 139) hx hb dX6_set_132 (by decide) (fun h16 => ?_) (fun h16 => ?_)
          · replace hF := of_f h16 hF
            refine lv_aload_n hx hb dX6_set_139 rfl (lv_at hl 0 rfl) ?_
            refine va_get (D := D) (ci := 6) (v := .int (om8 5 0)) (C := RX6) (T := TX6) (N := 33) hx hb hts in_X6 hown hK hP 0 rfl rfl 5 (by decide) (hts _ wd_524) (fun _ h9 => h9) rfl dX6_set_140 ?_
            exact hK9 (om8 5 0) ls _ _ (lv_sub hl [0, 1, 2, 3] rfl) hP hD hS hF
          · replace hF := of_t h16 hF
            refine lv_iload_n hx hb dX6_set_135 rfl (lv_at hl 2 rfl) ?_
            refine lv_goto (tgt := 143) hx hb dX6_set_136 (by decide) ?_
            exact hK9 p1 ls _ _ (lv_sub hl [0, 1, 2, 3] rfl) hP hD hS hF
        refine lv_if_ne (tgt := 122) hx hb dX6_set_115 (by decide) (fun h17 => ?_) (fun h17 => ?_)
        · replace hF := of_f h17 hF
          refine lv_aload_n hx hb dX6_set_122 rfl (lv_at hl 1 rfl) ?_
          refine va_get (D := D) (ci := 6) (v := .int (om 4 0)) (C := RX6) (T := TX6) (N := 33) hx hb hts in_X6 hown hK hP 0 rfl rfl 4 (by decide) (hts _ wd_523) (fun _ h9 => h9) rfl dX6_set_123 ?_
          exact hK6 (om 4 0) ls _ _ (lv_sub hl [1, 2, 3, 0] rfl) hP hD hS hF
        · replace hF := of_t h17 hF
          refine lv_iload_n hx hb dX6_set_118 rfl (lv_at hl 3 rfl) ?_
          refine lv_goto (tgt := 126) hx hb dX6_set_119 (by decide) ?_
          exact hK6 p1 ls _ _ (lv_sub hl [1, 2, 3, 0] rfl) hP hD hS hF
      refine lv_if_ne (tgt := 95) hx hb dX6_set_85 (by decide) (fun h18 => ?_) (fun h18 => ?_)
      · replace hF := of_f h18 hF
        refine lv_iload_n hx hb dX6_set_95 rfl (lv_at hl 2 rfl) ?_
        refine lv_iconst (v := 1) hx hb dX6_set_96 (by decide) ?_
        refine lv_icmp_ne (tgt := 107) hx hb dX6_set_97 (by decide) (fun h19 => ?_) (fun h19 => ?_)
        · replace hF := of_f h19 hF
          refine lv_aload_n hx hb dX6_set_107 rfl (lv_at hl 1 rfl) ?_
          refine va_get (D := D) (ci := 6) (v := .int (om 6 0)) (C := RX6) (T := TX6) (N := 33) hx hb hts in_X6 hown hK hP 0 rfl rfl 6 (by decide) (hts _ wd_525) (fun _ h9 => h9) rfl dX6_set_108 ?_
          exact hK4 (om 6 0) ls _ _ (lv_sub hl [1, 2, 3] rfl) hP hD hS hF
        · replace hF := of_t h19 hF
          refine lv_aload_n hx hb dX6_set_100 rfl (lv_at hl 1 rfl) ?_
          refine va_get (D := D) (ci := 6) (v := .int (om 5 0)) (C := RX6) (T := TX6) (N := 33) hx hb hts in_X6 hown hK hP 0 rfl rfl 5 (by decide) (hts _ wd_524) (fun _ h9 => h9) rfl dX6_set_101 ?_
          refine lv_goto (tgt := 111) hx hb dX6_set_104 (by decide) ?_
          exact hK4 (om 5 0) ls _ _ (lv_sub hl [1, 2, 3] rfl) hP hD hS hF
      · replace hF := of_t h18 hF
        refine lv_aload_n hx hb dX6_set_88 rfl (lv_at hl 1 rfl) ?_
        refine va_get (D := D) (ci := 6) (v := .int (om 4 0)) (C := RX6) (T := TX6) (N := 33) hx hb hts in_X6 hown hK hP 0 rfl rfl 4 (by decide) (hts _ wd_523) (fun _ h9 => h9) rfl dX6_set_89 ?_
        refine lv_goto (tgt := 111) hx hb dX6_set_92 (by decide) ?_
        exact hK4 (om 4 0) ls _ _ (lv_sub hl [1, 2, 3] rfl) hP hD hS hF
    · replace hF := of_t h3 hF
      refine lv_bipush (v := (-2)) hx hb dX6_set_81 (by decide) ?_
      exact hQ _ _ _ _ _ om ⟨inj_fst hF, inj_snd hF⟩ hP hD hS dX6_set_83
  refine lv_if_ne (tgt := 33) hx hb dX6_set_1 (by decide) (fun h20 => ?_) (fun h20 => ?_)
  · replace hF := of_f h20 hF
    refine lv_iload_n hx hb dX6_set_33 rfl (lv_at hl 1 rfl) ?_
    refine lv_iconst (v := 1) hx hb dX6_set_34 (by decide) ?_
    refine lv_icmp_ne (tgt := 54) hx hb dX6_set_35 (by decide) (fun h21 => ?_) (fun h21 => ?_)
    · replace hF := of_f h21 hF
      refine lv_iload_n hx hb dX6_set_54 rfl (lv_at hl 1 rfl) ?_
      refine lv_iconst (v := 2) hx hb dX6_set_55 (by decide) ?_
      obtain ⟨K22, eK22, hF⟩ := of_jn hF
      have hK22 : ∀  (ls : Array Slot) (H : Heap) (locs : List Loc), lv_has ls 5 [(0, .ref m_h), (1, .int p0), (2, .int p1)] → va_P D vwCl (wm_X6_set cI cZ cO m_h m_1 m_2 m_3 m_22 m_23 m_24 m_27 m_29 m_30 om) H → va_D A (wm_X6_set cI cZ cO m_h m_1 m_2 m_3 m_22 m_23 m_24 m_27 m_29 m_30 om) → va_S A s.heap H locs → K22 = some q → W p l e rm_X6_set s m args below meth c H locs 0 0 Q (F0 m 75 ls []) := by
        intro  ls H locs hl hP hD hS hF
        subst eK22
        refine lv_iconst (v := 0) hx hb dX6_set_75 (by decide) ?_
        exact hK1 0 ls _ _ (lv_sub hl [0, 1, 2] rfl) hP hD hS hF
      refine lv_icmp_ne (tgt := 75) hx hb dX6_set_56 (by decide) (fun h23 => ?_) (fun h23 => ?_)
      · replace hF := of_f h23 hF
        exact hK22  ls _ _ (lv_sub hl [0, 1, 2] rfl) hP hD hS hF
      · replace hF := of_t h23 hF
        refine lv_iload_n hx hb dX6_set_59 rfl (lv_at hl 2 rfl) ?_
        refine lv_i2l hx hb dX6_set_60 rfl ?_
        refine lv_lconst (v := 0) hx hb dX6_set_61 (by decide) ?_
        refine lv_ldc2 hx hb hown (hts _ wd_645) dX6_set_62 ?_
        obtain ⟨q24, hGq24, hF⟩ := of_bind hF
        refine callSi (As := [.long (Int32.toInt64 p1), .long (0 : Int64), .long (99 : Int64)]) (rest := []) ⟨hx, hb, hml, hown, hts⟩ hK hP hD hS hA (c_X6_in l D cI cZ cO  _ (Int32.toInt64 p1) (0 : Int64) (99 : Int64) q24 hGq24) (va_cwS 3 hts (gS wd_624 wd_625 wd_39 wd_626) rfl rfl rfl (by decide +kernel) ⟨Nat.le_of_ble_eq_true rfl, Nat.le_of_ble_eq_true rfl⟩) rfl hl.1 rfl (Nat.le_of_ble_eq_true rfl) dX6_set_65 ⟨Nat.zero_le _, Nat.zero_le _⟩ (fun H locs hP hS => ?_)
        refine lv_if_eq (tgt := 75) hx hb dX6_set_68 (by decide) (fun h25 => ?_) (fun h25 => ?_)
        · replace hF := of_t h25 hF
          exact hK22  ls _ _ (lv_sub hl [0, 1, 2] rfl) hP hD hS hF
        · replace hF := of_f h25 hF
          refine lv_iconst (v := 1) hx hb dX6_set_71 (by decide) ?_
          refine lv_goto (tgt := 76) hx hb dX6_set_72 (by decide) ?_
          exact hK1 1 ls _ _ (lv_sub hl [0, 1, 2] rfl) hP hD hS hF
    · replace hF := of_t h21 hF
      refine lv_iload_n hx hb dX6_set_38 rfl (lv_at hl 2 rfl) ?_
      refine lv_i2l hx hb dX6_set_39 rfl ?_
      refine lv_aload_n hx hb dX6_set_40 rfl (lv_at hl 0 rfl) ?_
      refine va_get (D := D) (ci := 6) (v := .int (om 4 0)) (C := RX6) (T := TX6) (N := 33) hx hb hts in_X6 hown hK hP 0 rfl rfl 4 (by decide) (hts _ wd_523) (fun _ h9 => h9) rfl dX6_set_41 ?_
      refine lv_i2l hx hb dX6_set_44 rfl ?_
      refine lv_ldc2 hx hb hown (hts _ wd_628) dX6_set_45 ?_
      obtain ⟨q26, hGq26, hF⟩ := of_bind hF
      refine callSi (As := [.long (Int32.toInt64 p1), .long (Int32.toInt64 (om 4 0)), .long (20 : Int64)]) (rest := []) ⟨hx, hb, hml, hown, hts⟩ hK hP hD hS hA (c_X6_in l D cI cZ cO  _ (Int32.toInt64 p1) (Int32.toInt64 (om 4 0)) (20 : Int64) q26 hGq26) (va_cwS 3 hts (gS wd_624 wd_625 wd_39 wd_626) rfl rfl rfl (by decide +kernel) ⟨Nat.le_of_ble_eq_true rfl, Nat.le_of_ble_eq_true rfl⟩) rfl hl.1 rfl (Nat.le_of_ble_eq_true rfl) dX6_set_48 ⟨Nat.zero_le _, Nat.zero_le _⟩ (fun H locs hP hS => ?_)
      refine lv_goto (tgt := 76) hx hb dX6_set_51 (by decide) ?_
      exact hK1 q26 ls _ _ (lv_sub hl [0, 1, 2] rfl) hP hD hS hF
  · replace hF := of_t h20 hF
    refine lv_iload_n hx hb dX6_set_4 rfl (lv_at hl 2 rfl) ?_
    refine lv_i2l hx hb dX6_set_5 rfl ?_
    refine lv_lconst (v := 0) hx hb dX6_set_6 (by decide) ?_
    refine lv_aload_n hx hb dX6_set_7 rfl (lv_at hl 0 rfl) ?_
    refine va_get (D := D) (ci := 6) (v := .int (om 5 0)) (C := RX6) (T := TX6) (N := 33) hx hb hts in_X6 hown hK hP 0 rfl rfl 5 (by decide) (hts _ wd_524) (fun _ h9 => h9) rfl dX6_set_8 ?_
    refine lv_bipush (v := 9) hx hb dX6_set_11 (by decide) ?_
    obtain ⟨K27, eK27, hF⟩ := of_jn hF
    have hK27 : ∀ (v28 : Int64) (ls : Array Slot) (H : Heap) (locs : List Loc), lv_has ls 5 [(0, .ref m_h), (1, .int p0), (2, .int p1)] → va_P D vwCl (wm_X6_set cI cZ cO m_h m_1 m_2 m_3 m_22 m_23 m_24 m_27 m_29 m_30 om) H → va_D A (wm_X6_set cI cZ cO m_h m_1 m_2 m_3 m_22 m_23 m_24 m_27 m_29 m_30 om) → va_S A s.heap H locs → K27 v28 = some q → W p l e rm_X6_set s m args below meth c H locs 0 0 Q (F0 m 27 ls [.long v28, .long (0 : Int64), .long (Int32.toInt64 p1)]) := by
      intro v28 ls H locs hl hP hD hS hF
      subst eK27
      obtain ⟨q29, hGq29, hF⟩ := of_bind hF
      refine callSi (As := [.long (Int32.toInt64 p1), .long (0 : Int64), .long v28]) (rest := []) ⟨hx, hb, hml, hown, hts⟩ hK hP hD hS hA (c_X6_in l D cI cZ cO  _ (Int32.toInt64 p1) (0 : Int64) v28 q29 hGq29) (va_cwS 3 hts (gS wd_624 wd_625 wd_39 wd_626) rfl rfl rfl (by decide +kernel) ⟨Nat.le_of_ble_eq_true rfl, Nat.le_of_ble_eq_true rfl⟩) rfl hl.1 rfl (Nat.le_of_ble_eq_true rfl) dX6_set_27 ⟨Nat.zero_le _, Nat.zero_le _⟩ (fun H locs hP hS => ?_)
      refine lv_goto (tgt := 76) hx hb dX6_set_30 (by decide) ?_
      exact hK1 q29 ls _ _ (lv_sub hl [0, 1, 2] rfl) hP hD hS hF
    refine lv_icmp_ge (tgt := 24) hx hb dX6_set_13 (by decide) (fun h30 => ?_) (fun h30 => ?_)
    · replace hF := of_t h30 hF
      refine lv_ldc2 hx hb hown (hts _ wd_629) dX6_set_24 ?_
      exact hK27 (9 : Int64) ls _ _ (lv_sub hl [0, 1, 2] rfl) hP hD hS hF
    · replace hF := of_f h30 hF
      refine lv_aload_n hx hb dX6_set_16 rfl (lv_at hl 0 rfl) ?_
      refine va_get (D := D) (ci := 6) (v := .int (om 5 0)) (C := RX6) (T := TX6) (N := 33) hx hb hts in_X6 hown hK hP 0 rfl rfl 5 (by decide) (hts _ wd_524) (fun _ h9 => h9) rfl dX6_set_17 ?_
      refine lv_i2l hx hb dX6_set_20 rfl ?_
      refine lv_goto (tgt := 27) hx hb dX6_set_21 (by decide) ?_
      exact hK27 (Int32.toInt64 (om 5 0)) ls _ _ (lv_sub hl [0, 1, 2] rfl) hP hD hS hF

/-! ### ThreeLegsModel.isPair(II)Z -/
abbrev wm_X6_isPair (cI cZ cO : ClassId) (m_h m_1 m_2 m_3 m_22 m_23 m_24 m_27 m_29 m_30 : Nat) (om : Ob) : va_W := [(m_h, .inr (6, [.int (om 0 0), .ref m_1, .ref m_2, .ref m_3, .int (om 4 0), .int (om 5 0), .int (om 6 0), .int (om 7 0), .int (om 8 0), .int (om 9 0), .int (om 10 0), .int (om 11 0), .int (om 12 0), .int (om 13 0), .int (om 14 0), .int (om 15 0), .int (om 16 0), .int (om 17 0), .int (om 18 0), .int (om 19 0), .int (om 20 0), .int (om 21 0), .ref m_22, .ref m_23, .ref m_24, .int (om 25 0), .int (om 26 0), .ref m_27, .int (om 28 0), .ref m_29, .ref m_30, .int (om 31 0), .int (om 32 0)])), (m_1, .inl (cI, 8, .inl (om 1))), (m_2, .inl (cI, 8, .inl (om 2))), (m_3, .inl (cI, 8, .inl (om 3))), (m_22, .inl (cI, 64, .inl (om 22))), (m_23, .inl (cI, 8, .inl (om 23))), (m_24, .inl (cI, 8, .inl (om 24))), (m_27, .inl (cI, 40, .inl (om 27))), (m_29, .inl (cI, 80, .inl (om 29))), (m_30, .inl (cZ, 2, .inl (om 30)))]
def F_X6_isPair (om : Ob) (p0 : Int32) (p1 : Int32) : Option (Int32) :=
  (F_X6_runs om p0).bind (fun q1 => (if q1 = 0 then some 0 else (F_X6_runs om p1).bind (fun q3 => (if q3 = 0 then some 0 else (if p0 = p1 then some 0 else some 1)))))
abbrev rm_X6_isPair : Room := { frames := 2, cells := 0, slots := 0, locals := 46 }
abbrev wu_X6_isPair : List Cond := .code yX6_isPair cX6_isPair 3 (some .boolean) :: lwG
set_option maxHeartbeats 20000000 in
set_option maxRecDepth 100000 in
theorem c_X6_isPair (l : Launch) (D : va_G) (cI cZ cO : ClassId) (m_h m_1 m_2 m_3 m_22 m_23 m_24 m_27 m_29 m_30 : Nat) (sz : Nat) (om : Ob) (p0 : Int32) (p1 : Int32) (q : Int32) (hF : F_X6_isPair om p0 p1 = some q) : CtI l yX6_isPair wu_X6_isPair rm_X6_isPair D vwCl (tyL cI cZ cO) [.ref m_h, .int p0, .int p1] (wm_X6_isPair cI cZ cO m_h m_1 m_2 m_3 m_22 m_23 m_24 m_27 m_29 m_30 om) sz 0 0 (fun (r : Int32) (u : Unit) => r = q ∧ u = ()) (fun u => wm_X6_isPair cI cZ cO m_h m_1 m_2 m_3 m_22 m_23 m_24 m_27 m_29 m_30 om) := by
  refine mk_z (cc := cX6_isPair) (maxL := 3) (by decide) rfl (Nat.le_of_ble_eq_true rfl) ?_
  intro p e s m args below meth c A ls Q hx hb hml hown hts hin hK hP hD hS hA hl hQ
  have hl : lv_has ls 3 [(0, .ref m_h), (1, .int p0), (2, .int p1)] := hl
  unfold F_X6_isPair at hF
  refine lv_aload_n hx hb dX6_isPair_0 rfl (lv_at hl 0 rfl) ?_
  refine lv_iload_n hx hb dX6_isPair_1 rfl (lv_at hl 1 rfl) ?_
  obtain ⟨q1, hGq1, hF⟩ := of_bind hF
  refine callVi (As := [.int p0]) (rest := []) (wr := []) (WN := wm_X6_isPair cI cZ cO m_h m_1 m_2 m_3 m_22 m_23 m_24 m_27 m_29 m_30 om) ⟨hx, hb, hml, hown, hts⟩ hK hP hD hS hA [0, 1, 2, 3, 4, 5, 6, 7, 8, 9] [] [0, 1, 2, 3, 4, 5, 6, 7, 8, 9] (c_X6_runs l D cI cZ cO m_h m_1 m_2 m_3 m_22 m_23 m_24 m_27 m_29 m_30 _ om p0 q1 hGq1) (cwV 1 hts (gV wd_637 wd_639 wd_14 wd_39 wd_640) rfl rfl rfl (by decide +kernel) ⟨Nat.le_of_ble_eq_true rfl, Nat.le_of_ble_eq_true rfl⟩) 0 6 rfl rfl rfl rfl rfl rfl rfl (by decide) rfl rfl rfl hl.1 rfl (Nat.le_of_ble_eq_true rfl) dX6_isPair_2 ⟨Nat.zero_le _, Nat.zero_le _⟩ (fun H locs hP hD hS => ?_)
  refine lv_if_eq (tgt := 25) hx hb dX6_isPair_5 (by decide) (fun h2 => ?_) (fun h2 => ?_)
  · replace hF := of_t h2 hF
    refine lv_iconst (v := 0) hx hb dX6_isPair_25 (by decide) ?_
    exact hQ _ _ _ _ _ () rfl ⟨Option.some.inj hF, rfl⟩ hP hD hS dX6_isPair_26
  · replace hF := of_f h2 hF
    refine lv_aload_n hx hb dX6_isPair_8 rfl (lv_at hl 0 rfl) ?_
    refine lv_iload_n hx hb dX6_isPair_9 rfl (lv_at hl 2 rfl) ?_
    obtain ⟨q3, hGq3, hF⟩ := of_bind hF
    refine callVi (As := [.int p1]) (rest := []) (wr := []) (WN := wm_X6_isPair cI cZ cO m_h m_1 m_2 m_3 m_22 m_23 m_24 m_27 m_29 m_30 om) ⟨hx, hb, hml, hown, hts⟩ hK hP hD hS hA [0, 1, 2, 3, 4, 5, 6, 7, 8, 9] [] [0, 1, 2, 3, 4, 5, 6, 7, 8, 9] (c_X6_runs l D cI cZ cO m_h m_1 m_2 m_3 m_22 m_23 m_24 m_27 m_29 m_30 _ om p1 q3 hGq3) (cwV 1 hts (gV wd_637 wd_639 wd_14 wd_39 wd_640) rfl rfl rfl (by decide +kernel) ⟨Nat.le_of_ble_eq_true rfl, Nat.le_of_ble_eq_true rfl⟩) 0 6 rfl rfl rfl rfl rfl rfl rfl (by decide) rfl rfl rfl hl.1 rfl (Nat.le_of_ble_eq_true rfl) dX6_isPair_10 ⟨Nat.zero_le _, Nat.zero_le _⟩ (fun H locs hP hD hS => ?_)
    refine lv_if_eq (tgt := 25) hx hb dX6_isPair_13 (by decide) (fun h4 => ?_) (fun h4 => ?_)
    · replace hF := of_t h4 hF
      refine lv_iconst (v := 0) hx hb dX6_isPair_25 (by decide) ?_
      exact hQ _ _ _ _ _ () rfl ⟨Option.some.inj hF, rfl⟩ hP hD hS dX6_isPair_26
    · replace hF := of_f h4 hF
      refine lv_iload_n hx hb dX6_isPair_16 rfl (lv_at hl 1 rfl) ?_
      refine lv_iload_n hx hb dX6_isPair_17 rfl (lv_at hl 2 rfl) ?_
      refine lv_icmp_eq (tgt := 25) hx hb dX6_isPair_18 (by decide) (fun h5 => ?_) (fun h5 => ?_)
      · replace hF := of_t h5 hF
        refine lv_iconst (v := 0) hx hb dX6_isPair_25 (by decide) ?_
        exact hQ _ _ _ _ _ () rfl ⟨Option.some.inj hF, rfl⟩ hP hD hS dX6_isPair_26
      · replace hF := of_f h5 hF
        refine lv_iconst (v := 1) hx hb dX6_isPair_21 (by decide) ?_
        refine lv_goto (tgt := 26) hx hb dX6_isPair_22 (by decide) ?_
        exact hQ _ _ _ _ _ () rfl ⟨Option.some.inj hF, rfl⟩ hP hD hS dX6_isPair_26

/-! ### ThreeLegsModel.layPair(II)V -/
abbrev wm_X6_layPair (cI cZ cO : ClassId) (m_h m_1 m_2 m_3 m_22 m_23 m_24 m_27 m_29 m_30 : Nat) (om : Ob) : va_W := [(m_h, .inr (6, [.int (om 0 0), .ref m_1, .ref m_2, .ref m_3, .int (om 4 0), .int (om 5 0), .int (om 6 0), .int (om 7 0), .int (om 8 0), .int (om 9 0), .int (om 10 0), .int (om 11 0), .int (om 12 0), .int (om 13 0), .int (om 14 0), .int (om 15 0), .int (om 16 0), .int (om 17 0), .int (om 18 0), .int (om 19 0), .int (om 20 0), .int (om 21 0), .ref m_22, .ref m_23, .ref m_24, .int (om 25 0), .int (om 26 0), .ref m_27, .int (om 28 0), .ref m_29, .ref m_30, .int (om 31 0), .int (om 32 0)])), (m_1, .inl (cI, 8, .inl (om 1))), (m_2, .inl (cI, 8, .inl (om 2))), (m_3, .inl (cI, 8, .inl (om 3))), (m_22, .inl (cI, 64, .inl (om 22))), (m_23, .inl (cI, 8, .inl (om 23))), (m_24, .inl (cI, 8, .inl (om 24))), (m_27, .inl (cI, 40, .inl (om 27))), (m_29, .inl (cI, 80, .inl (om 29))), (m_30, .inl (cZ, 2, .inl (om 30)))]
def F_X6_layPair (om : Ob) (p0 : Int32) (p1 : Int32) : Option (Ob) :=
  ck p0 8 (dd (sO om 7 (cst ((om 1) (p0).toNatClampNeg))) (fun (om2 : Ob) => ck p1 8 (dd (sO om2 8 (cst ((om2 1) (p1).toNatClampNeg))) (fun (om4 : Ob) => ck p0 8 (dd (sO om4 9 (cst ((om4 3) (p0).toNatClampNeg))) (fun (om6 : Ob) => ck p1 8 (dd (sO om6 10 (cst ((om6 3) (p1).toNatClampNeg))) (fun (om8 : Ob) => ck p0 8 (ck p1 8 (jn (fun (v12 : Int32) => dd (sO om8 11 (cst v12)) (fun (om13 : Ob) => dd (sO om13 12 (cst 1000)) (fun (om14 : Ob) => dd (sO om14 13 (cst (om14 4 0))) (fun (om15 : Ob) => some om15)))) (fun (K11 : Int32 → Option (Ob)) => (if ((om8 2) (p1).toNatClampNeg) ≤ ((om8 2) (p0).toNatClampNeg) then ck p1 8 (K11 ((om8 2) (p1).toNatClampNeg)) else ck p0 8 (K11 ((om8 2) (p0).toNatClampNeg))))))))))))))
abbrev rm_X6_layPair : Room := { frames := 0, cells := 0, slots := 0, locals := 0 }
abbrev wu_X6_layPair : List Cond := .code yX6_layPair cX6_layPair 3 none :: lwG
set_option maxHeartbeats 20000000 in
set_option maxRecDepth 100000 in
theorem c_X6_layPair (l : Launch) (D : va_G) (cI cZ cO : ClassId) (m_h m_1 m_2 m_3 m_22 m_23 m_24 m_27 m_29 m_30 : Nat) (sz : Nat) (om : Ob) (p0 : Int32) (p1 : Int32) (q : Ob) (hF : F_X6_layPair om p0 p1 = some q) : CtV l yX6_layPair wu_X6_layPair rm_X6_layPair D vwCl (tyL cI cZ cO) [.ref m_h, .int p0, .int p1] (wm_X6_layPair cI cZ cO m_h m_1 m_2 m_3 m_22 m_23 m_24 m_27 m_29 m_30 om) sz 0 0 (fun u : Ob => u = q) (fun u => wm_X6_layPair cI cZ cO m_h m_1 m_2 m_3 m_22 m_23 m_24 m_27 m_29 m_30 u) := by
  refine mk_v (cc := cX6_layPair) (maxL := 3) (by decide) rfl (Nat.le_of_ble_eq_true rfl) ?_
  intro p e s m args below meth c A ls Q hx hb hml hown hts hin hK hP hD hS hA hl hQ
  have hl : lv_has ls 3 [(0, .ref m_h), (1, .int p0), (2, .int p1)] := hl
  unfold F_X6_layPair at hF
  refine lv_aload_n hx hb dX6_layPair_0 rfl (lv_at hl 0 rfl) ?_
  refine lv_aload_n hx hb dX6_layPair_1 rfl (lv_at hl 0 rfl) ?_
  refine va_get (D := D) (ci := 6) (v := .ref m_1) (C := RX6) (T := TX6) (N := 33) hx hb hts in_X6 hown hK hP 0 rfl rfl 1 (by decide) (hts _ wd_520) (fun _ h9 => h9) rfl dX6_layPair_2 ?_
  refine lv_iload_n hx hb dX6_layPair_5 rfl (lv_at hl 1 rfl) ?_
  obtain ⟨h1, hF⟩ := of_ck hF
  refine va_iald (D := D) hx hb hK hP 1 0 rfl rfl h1 dX6_layPair_6 ?_
  refine va_put (D := D) (ci := 6) (v := .int ((om 1) (p0).toNatClampNeg)) (ty := .int) (C := RX6) (T := TX6) (N := 33) hx hb hts in_X6 tyX6 tyX6_ok nmX6 hown hK hP hD hS 0 rfl rfl 7 (by decide) (hts _ wd_526) (fun _ h9 => h9) rfl (tyX6_ok 7 (by decide)) rfl rfl (Nat.le_of_ble_eq_true rfl) dX6_layPair_7 (fun H locs hP hD hS => ?_)
  obtain ⟨om2, hF, hP, hD⟩ := nm_o (P := fun y => va_P D vwCl (wm_X6_layPair cI cZ cO m_h m_1 m_2 m_3 m_22 m_23 m_24 m_27 m_29 m_30 y) _) (B := fun y => va_D A (wm_X6_layPair cI cZ cO m_h m_1 m_2 m_3 m_22 m_23 m_24 m_27 m_29 m_30 y)) hF hP hD
  refine lv_aload_n hx hb dX6_layPair_10 rfl (lv_at hl 0 rfl) ?_
  refine lv_aload_n hx hb dX6_layPair_11 rfl (lv_at hl 0 rfl) ?_
  refine va_get (D := D) (ci := 6) (v := .ref m_1) (C := RX6) (T := TX6) (N := 33) hx hb hts in_X6 hown hK hP 0 rfl rfl 1 (by decide) (hts _ wd_520) (fun _ h9 => h9) rfl dX6_layPair_12 ?_
  refine lv_iload_n hx hb dX6_layPair_15 rfl (lv_at hl 2 rfl) ?_
  obtain ⟨h3, hF⟩ := of_ck hF
  refine va_iald (D := D) hx hb hK hP 1 0 rfl rfl h3 dX6_layPair_16 ?_
  refine va_put (D := D) (ci := 6) (v := .int ((om2 1) (p1).toNatClampNeg)) (ty := .int) (C := RX6) (T := TX6) (N := 33) hx hb hts in_X6 tyX6 tyX6_ok nmX6 hown hK hP hD hS 0 rfl rfl 8 (by decide) (hts _ wd_527) (fun _ h9 => h9) rfl (tyX6_ok 8 (by decide)) rfl rfl (Nat.le_of_ble_eq_true rfl) dX6_layPair_17 (fun H locs hP hD hS => ?_)
  obtain ⟨om4, hF, hP, hD⟩ := nm_o (P := fun y => va_P D vwCl (wm_X6_layPair cI cZ cO m_h m_1 m_2 m_3 m_22 m_23 m_24 m_27 m_29 m_30 y) _) (B := fun y => va_D A (wm_X6_layPair cI cZ cO m_h m_1 m_2 m_3 m_22 m_23 m_24 m_27 m_29 m_30 y)) hF hP hD
  refine lv_aload_n hx hb dX6_layPair_20 rfl (lv_at hl 0 rfl) ?_
  refine lv_aload_n hx hb dX6_layPair_21 rfl (lv_at hl 0 rfl) ?_
  refine va_get (D := D) (ci := 6) (v := .ref m_3) (C := RX6) (T := TX6) (N := 33) hx hb hts in_X6 hown hK hP 0 rfl rfl 3 (by decide) (hts _ wd_522) (fun _ h9 => h9) rfl dX6_layPair_22 ?_
  refine lv_iload_n hx hb dX6_layPair_25 rfl (lv_at hl 1 rfl) ?_
  obtain ⟨h5, hF⟩ := of_ck hF
  refine va_iald (D := D) hx hb hK hP 3 0 rfl rfl h5 dX6_layPair_26 ?_
  refine va_put (D := D) (ci := 6) (v := .int ((om4 3) (p0).toNatClampNeg)) (ty := .int) (C := RX6) (T := TX6) (N := 33) hx hb hts in_X6 tyX6 tyX6_ok nmX6 hown hK hP hD hS 0 rfl rfl 9 (by decide) (hts _ wd_528) (fun _ h9 => h9) rfl (tyX6_ok 9 (by decide)) rfl rfl (Nat.le_of_ble_eq_true rfl) dX6_layPair_27 (fun H locs hP hD hS => ?_)
  obtain ⟨om6, hF, hP, hD⟩ := nm_o (P := fun y => va_P D vwCl (wm_X6_layPair cI cZ cO m_h m_1 m_2 m_3 m_22 m_23 m_24 m_27 m_29 m_30 y) _) (B := fun y => va_D A (wm_X6_layPair cI cZ cO m_h m_1 m_2 m_3 m_22 m_23 m_24 m_27 m_29 m_30 y)) hF hP hD
  refine lv_aload_n hx hb dX6_layPair_30 rfl (lv_at hl 0 rfl) ?_
  refine lv_aload_n hx hb dX6_layPair_31 rfl (lv_at hl 0 rfl) ?_
  refine va_get (D := D) (ci := 6) (v := .ref m_3) (C := RX6) (T := TX6) (N := 33) hx hb hts in_X6 hown hK hP 0 rfl rfl 3 (by decide) (hts _ wd_522) (fun _ h9 => h9) rfl dX6_layPair_32 ?_
  refine lv_iload_n hx hb dX6_layPair_35 rfl (lv_at hl 2 rfl) ?_
  obtain ⟨h7, hF⟩ := of_ck hF
  refine va_iald (D := D) hx hb hK hP 3 0 rfl rfl h7 dX6_layPair_36 ?_
  refine va_put (D := D) (ci := 6) (v := .int ((om6 3) (p1).toNatClampNeg)) (ty := .int) (C := RX6) (T := TX6) (N := 33) hx hb hts in_X6 tyX6 tyX6_ok nmX6 hown hK hP hD hS 0 rfl rfl 10 (by decide) (hts _ wd_529) (fun _ h9 => h9) rfl (tyX6_ok 10 (by decide)) rfl rfl (Nat.le_of_ble_eq_true rfl) dX6_layPair_37 (fun H locs hP hD hS => ?_)
  obtain ⟨om8, hF, hP, hD⟩ := nm_o (P := fun y => va_P D vwCl (wm_X6_layPair cI cZ cO m_h m_1 m_2 m_3 m_22 m_23 m_24 m_27 m_29 m_30 y) _) (B := fun y => va_D A (wm_X6_layPair cI cZ cO m_h m_1 m_2 m_3 m_22 m_23 m_24 m_27 m_29 m_30 y)) hF hP hD
  refine lv_aload_n hx hb dX6_layPair_40 rfl (lv_at hl 0 rfl) ?_
  refine lv_aload_n hx hb dX6_layPair_41 rfl (lv_at hl 0 rfl) ?_
  refine va_get (D := D) (ci := 6) (v := .ref m_2) (C := RX6) (T := TX6) (N := 33) hx hb hts in_X6 hown hK hP 0 rfl rfl 2 (by decide) (hts _ wd_521) (fun _ h9 => h9) rfl dX6_layPair_42 ?_
  refine lv_iload_n hx hb dX6_layPair_45 rfl (lv_at hl 1 rfl) ?_
  obtain ⟨h9, hF⟩ := of_ck hF
  refine va_iald (D := D) hx hb hK hP 2 0 rfl rfl h9 dX6_layPair_46 ?_
  refine lv_aload_n hx hb dX6_layPair_47 rfl (lv_at hl 0 rfl) ?_
  refine va_get (D := D) (ci := 6) (v := .ref m_2) (C := RX6) (T := TX6) (N := 33) hx hb hts in_X6 hown hK hP 0 rfl rfl 2 (by decide) (hts _ wd_521) (fun _ h9 => h9) rfl dX6_layPair_48 ?_
  refine lv_iload_n hx hb dX6_layPair_51 rfl (lv_at hl 2 rfl) ?_
  obtain ⟨h10, hF⟩ := of_ck hF
  refine va_iald (D := D) hx hb hK hP 2 0 rfl rfl h10 dX6_layPair_52 ?_
  obtain ⟨K11, eK11, hF⟩ := of_jn hF
  have hK11 : ∀ (v12 : Int32) (ls : Array Slot) (H : Heap) (locs : List Loc), lv_has ls 3 [(0, .ref m_h)] → va_P D vwCl (wm_X6_layPair cI cZ cO m_h m_1 m_2 m_3 m_22 m_23 m_24 m_27 m_29 m_30 om8) H → va_D A (wm_X6_layPair cI cZ cO m_h m_1 m_2 m_3 m_22 m_23 m_24 m_27 m_29 m_30 om8) → va_S A s.heap H locs → K11 v12 = some q → W p l e rm_X6_layPair s m args below meth c H locs 0 0 Q (F0 m 71 ls [.int v12, .ref m_h]) := by
    intro v12 ls H locs hl hP hD hS hF
    subst eK11
    refine va_put (D := D) (ci := 6) (v := .int v12) (ty := .int) (C := RX6) (T := TX6) (N := 33) hx hb hts in_X6 tyX6 tyX6_ok nmX6 hown hK hP hD hS 0 rfl rfl 11 (by decide) (hts _ wd_530) (fun _ h9 => h9) rfl (tyX6_ok 11 (by decide)) rfl rfl (Nat.le_of_ble_eq_true rfl) dX6_layPair_71 (fun H locs hP hD hS => ?_)
    obtain ⟨om13, hF, hP, hD⟩ := nm_o (P := fun y => va_P D vwCl (wm_X6_layPair cI cZ cO m_h m_1 m_2 m_3 m_22 m_23 m_24 m_27 m_29 m_30 y) _) (B := fun y => va_D A (wm_X6_layPair cI cZ cO m_h m_1 m_2 m_3 m_22 m_23 m_24 m_27 m_29 m_30 y)) hF hP hD
    refine lv_aload_n hx hb dX6_layPair_74 rfl (lv_at hl 0 rfl) ?_
    refine lv_sipush (v := 1000) hx hb dX6_layPair_75 (by decide) ?_
    refine va_put (D := D) (ci := 6) (v := .int 1000) (ty := .int) (C := RX6) (T := TX6) (N := 33) hx hb hts in_X6 tyX6 tyX6_ok nmX6 hown hK hP hD hS 0 rfl rfl 12 (by decide) (hts _ wd_531) (fun _ h9 => h9) rfl (tyX6_ok 12 (by decide)) rfl rfl (Nat.le_of_ble_eq_true rfl) dX6_layPair_78 (fun H locs hP hD hS => ?_)
    obtain ⟨om14, hF, hP, hD⟩ := nm_o (P := fun y => va_P D vwCl (wm_X6_layPair cI cZ cO m_h m_1 m_2 m_3 m_22 m_23 m_24 m_27 m_29 m_30 y) _) (B := fun y => va_D A (wm_X6_layPair cI cZ cO m_h m_1 m_2 m_3 m_22 m_23 m_24 m_27 m_29 m_30 y)) hF hP hD
    refine lv_aload_n hx hb dX6_layPair_81 rfl (lv_at hl 0 rfl) ?_
    refine lv_aload_n hx hb dX6_layPair_82 rfl (lv_at hl 0 rfl) ?_
    refine va_get (D := D) (ci := 6) (v := .int (om14 4 0)) (C := RX6) (T := TX6) (N := 33) hx hb hts in_X6 hown hK hP 0 rfl rfl 4 (by decide) (hts _ wd_523) (fun _ h9 => h9) rfl dX6_layPair_83 ?_
    refine va_put (D := D) (ci := 6) (v := .int (om14 4 0)) (ty := .int) (C := RX6) (T := TX6) (N := 33) hx hb hts in_X6 tyX6 tyX6_ok nmX6 hown hK hP hD hS 0 rfl rfl 13 (by decide) (hts _ wd_532) (fun _ h9 => h9) rfl (tyX6_ok 13 (by decide)) rfl rfl (Nat.le_of_ble_eq_true rfl) dX6_layPair_86 (fun H locs hP hD hS => ?_)
    obtain ⟨om15, hF, hP, hD⟩ := nm_o (P := fun y => va_P D vwCl (wm_X6_layPair cI cZ cO m_h m_1 m_2 m_3 m_22 m_23 m_24 m_27 m_29 m_30 y) _) (B := fun y => va_D A (wm_X6_layPair cI cZ cO m_h m_1 m_2 m_3 m_22 m_23 m_24 m_27 m_29 m_30 y)) hF hP hD
    exact hQ _ _ _ _ om15 (Option.some.inj hF) hP hD hS dX6_layPair_89
  refine lv_icmp_ge (tgt := 65) hx hb dX6_layPair_53 (by decide) (fun h16 => ?_) (fun h16 => ?_)
  · replace hF := of_t h16 hF
    refine lv_aload_n hx hb dX6_layPair_65 rfl (lv_at hl 0 rfl) ?_
    refine va_get (D := D) (ci := 6) (v := .ref m_2) (C := RX6) (T := TX6) (N := 33) hx hb hts in_X6 hown hK hP 0 rfl rfl 2 (by decide) (hts _ wd_521) (fun _ h9 => h9) rfl dX6_layPair_66 ?_
    refine lv_iload_n hx hb dX6_layPair_69 rfl (lv_at hl 2 rfl) ?_
    obtain ⟨h17, hF⟩ := of_ck hF
    refine va_iald (D := D) hx hb hK hP 2 0 rfl rfl h17 dX6_layPair_70 ?_
    exact hK11 ((om8 2) (p1).toNatClampNeg) ls _ _ (lv_sub hl [0] rfl) hP hD hS hF
  · replace hF := of_f h16 hF
    refine lv_aload_n hx hb dX6_layPair_56 rfl (lv_at hl 0 rfl) ?_
    refine va_get (D := D) (ci := 6) (v := .ref m_2) (C := RX6) (T := TX6) (N := 33) hx hb hts in_X6 hown hK hP 0 rfl rfl 2 (by decide) (hts _ wd_521) (fun _ h9 => h9) rfl dX6_layPair_57 ?_
    refine lv_iload_n hx hb dX6_layPair_60 rfl (lv_at hl 1 rfl) ?_
    obtain ⟨h18, hF⟩ := of_ck hF
    refine va_iald (D := D) hx hb hK hP 2 0 rfl rfl h18 dX6_layPair_61 ?_
    refine lv_goto (tgt := 71) hx hb dX6_layPair_62 (by decide) ?_
    exact hK11 ((om8 2) (p0).toNatClampNeg) ls _ _ (lv_sub hl [0] rfl) hP hD hS hF

/-! ### ThreeLegsModel.begin()V -/
abbrev wm_X6_begin (cI cZ cO : ClassId) (m_h m_1 m_2 m_3 m_22 m_23 m_24 m_27 m_29 m_30 : Nat) (om : Ob) : va_W := [(m_h, .inr (6, [.int (om 0 0), .ref m_1, .ref m_2, .ref m_3, .int (om 4 0), .int (om 5 0), .int (om 6 0), .int (om 7 0), .int (om 8 0), .int (om 9 0), .int (om 10 0), .int (om 11 0), .int (om 12 0), .int (om 13 0), .int (om 14 0), .int (om 15 0), .int (om 16 0), .int (om 17 0), .int (om 18 0), .int (om 19 0), .int (om 20 0), .int (om 21 0), .ref m_22, .ref m_23, .ref m_24, .int (om 25 0), .int (om 26 0), .ref m_27, .int (om 28 0), .ref m_29, .ref m_30, .int (om 31 0), .int (om 32 0)])), (m_1, .inl (cI, 8, .inl (om 1))), (m_2, .inl (cI, 8, .inl (om 2))), (m_3, .inl (cI, 8, .inl (om 3))), (m_22, .inl (cI, 64, .inl (om 22))), (m_23, .inl (cI, 8, .inl (om 23))), (m_24, .inl (cI, 8, .inl (om 24))), (m_27, .inl (cI, 40, .inl (om 27))), (m_29, .inl (cI, 80, .inl (om 29))), (m_30, .inl (cZ, 2, .inl (om 30)))]
def F_X6_begin (om : Ob)  : Option (Ob) :=
  dd (sO om 14 (cst 0)) (fun (om1 : Ob) => dd (sO om1 15 (cst 0)) (fun (om2 : Ob) => dd (sO om2 16 (cst 0)) (fun (om3 : Ob) => dd (sO om3 17 (cst 0)) (fun (om4 : Ob) => dd (sO om4 18 (cst 0)) (fun (om5 : Ob) => dd (sO om5 19 (cst 0)) (fun (om6 : Ob) => some om6))))))
abbrev rm_X6_begin : Room := { frames := 0, cells := 0, slots := 0, locals := 0 }
abbrev wu_X6_begin : List Cond := .code yX6_begin cX6_begin 1 none :: lwG
set_option maxHeartbeats 20000000 in
set_option maxRecDepth 100000 in
theorem c_X6_begin (l : Launch) (D : va_G) (cI cZ cO : ClassId) (m_h m_1 m_2 m_3 m_22 m_23 m_24 m_27 m_29 m_30 : Nat) (sz : Nat) (om : Ob)  (q : Ob) (hF : F_X6_begin om = some q) : CtV l yX6_begin wu_X6_begin rm_X6_begin D vwCl (tyL cI cZ cO) [.ref m_h] (wm_X6_begin cI cZ cO m_h m_1 m_2 m_3 m_22 m_23 m_24 m_27 m_29 m_30 om) sz 0 0 (fun u : Ob => u = q) (fun u => wm_X6_begin cI cZ cO m_h m_1 m_2 m_3 m_22 m_23 m_24 m_27 m_29 m_30 u) := by
  refine mk_v (cc := cX6_begin) (maxL := 1) (by decide) rfl (Nat.le_of_ble_eq_true rfl) ?_
  intro p e s m args below meth c A ls Q hx hb hml hown hts hin hK hP hD hS hA hl hQ
  have hl : lv_has ls 1 [(0, .ref m_h)] := hl
  unfold F_X6_begin at hF
  refine lv_aload_n hx hb dX6_begin_0 rfl (lv_at hl 0 rfl) ?_
  refine lv_iconst (v := 0) hx hb dX6_begin_1 (by decide) ?_
  refine va_put (D := D) (ci := 6) (v := .int 0) (ty := .int) (C := RX6) (T := TX6) (N := 33) hx hb hts in_X6 tyX6 tyX6_ok nmX6 hown hK hP hD hS 0 rfl rfl 14 (by decide) (hts _ wd_533) (fun _ h9 => h9) rfl (tyX6_ok 14 (by decide)) rfl rfl (Nat.le_of_ble_eq_true rfl) dX6_begin_2 (fun H locs hP hD hS => ?_)
  obtain ⟨om1, hF, hP, hD⟩ := nm_o (P := fun y => va_P D vwCl (wm_X6_begin cI cZ cO m_h m_1 m_2 m_3 m_22 m_23 m_24 m_27 m_29 m_30 y) _) (B := fun y => va_D A (wm_X6_begin cI cZ cO m_h m_1 m_2 m_3 m_22 m_23 m_24 m_27 m_29 m_30 y)) hF hP hD
  refine lv_aload_n hx hb dX6_begin_5 rfl (lv_at hl 0 rfl) ?_
  refine lv_iconst (v := 0) hx hb dX6_begin_6 (by decide) ?_
  refine va_put (D := D) (ci := 6) (v := .int 0) (ty := .int) (C := RX6) (T := TX6) (N := 33) hx hb hts in_X6 tyX6 tyX6_ok nmX6 hown hK hP hD hS 0 rfl rfl 15 (by decide) (hts _ wd_534) (fun _ h9 => h9) rfl (tyX6_ok 15 (by decide)) rfl rfl (Nat.le_of_ble_eq_true rfl) dX6_begin_7 (fun H locs hP hD hS => ?_)
  obtain ⟨om2, hF, hP, hD⟩ := nm_o (P := fun y => va_P D vwCl (wm_X6_begin cI cZ cO m_h m_1 m_2 m_3 m_22 m_23 m_24 m_27 m_29 m_30 y) _) (B := fun y => va_D A (wm_X6_begin cI cZ cO m_h m_1 m_2 m_3 m_22 m_23 m_24 m_27 m_29 m_30 y)) hF hP hD
  refine lv_aload_n hx hb dX6_begin_10 rfl (lv_at hl 0 rfl) ?_
  refine lv_iconst (v := 0) hx hb dX6_begin_11 (by decide) ?_
  refine va_put (D := D) (ci := 6) (v := .int 0) (ty := .int) (C := RX6) (T := TX6) (N := 33) hx hb hts in_X6 tyX6 tyX6_ok nmX6 hown hK hP hD hS 0 rfl rfl 16 (by decide) (hts _ wd_535) (fun _ h9 => h9) rfl (tyX6_ok 16 (by decide)) rfl rfl (Nat.le_of_ble_eq_true rfl) dX6_begin_12 (fun H locs hP hD hS => ?_)
  obtain ⟨om3, hF, hP, hD⟩ := nm_o (P := fun y => va_P D vwCl (wm_X6_begin cI cZ cO m_h m_1 m_2 m_3 m_22 m_23 m_24 m_27 m_29 m_30 y) _) (B := fun y => va_D A (wm_X6_begin cI cZ cO m_h m_1 m_2 m_3 m_22 m_23 m_24 m_27 m_29 m_30 y)) hF hP hD
  refine lv_aload_n hx hb dX6_begin_15 rfl (lv_at hl 0 rfl) ?_
  refine lv_iconst (v := 0) hx hb dX6_begin_16 (by decide) ?_
  refine va_put (D := D) (ci := 6) (v := .int 0) (ty := .int) (C := RX6) (T := TX6) (N := 33) hx hb hts in_X6 tyX6 tyX6_ok nmX6 hown hK hP hD hS 0 rfl rfl 17 (by decide) (hts _ wd_536) (fun _ h9 => h9) rfl (tyX6_ok 17 (by decide)) rfl rfl (Nat.le_of_ble_eq_true rfl) dX6_begin_17 (fun H locs hP hD hS => ?_)
  obtain ⟨om4, hF, hP, hD⟩ := nm_o (P := fun y => va_P D vwCl (wm_X6_begin cI cZ cO m_h m_1 m_2 m_3 m_22 m_23 m_24 m_27 m_29 m_30 y) _) (B := fun y => va_D A (wm_X6_begin cI cZ cO m_h m_1 m_2 m_3 m_22 m_23 m_24 m_27 m_29 m_30 y)) hF hP hD
  refine lv_aload_n hx hb dX6_begin_20 rfl (lv_at hl 0 rfl) ?_
  refine lv_iconst (v := 0) hx hb dX6_begin_21 (by decide) ?_
  refine va_put (D := D) (ci := 6) (v := .int 0) (ty := .int) (C := RX6) (T := TX6) (N := 33) hx hb hts in_X6 tyX6 tyX6_ok nmX6 hown hK hP hD hS 0 rfl rfl 18 (by decide) (hts _ wd_537) (fun _ h9 => h9) rfl (tyX6_ok 18 (by decide)) rfl rfl (Nat.le_of_ble_eq_true rfl) dX6_begin_22 (fun H locs hP hD hS => ?_)
  obtain ⟨om5, hF, hP, hD⟩ := nm_o (P := fun y => va_P D vwCl (wm_X6_begin cI cZ cO m_h m_1 m_2 m_3 m_22 m_23 m_24 m_27 m_29 m_30 y) _) (B := fun y => va_D A (wm_X6_begin cI cZ cO m_h m_1 m_2 m_3 m_22 m_23 m_24 m_27 m_29 m_30 y)) hF hP hD
  refine lv_aload_n hx hb dX6_begin_25 rfl (lv_at hl 0 rfl) ?_
  refine lv_iconst (v := 0) hx hb dX6_begin_26 (by decide) ?_
  refine va_put (D := D) (ci := 6) (v := .int 0) (ty := .int) (C := RX6) (T := TX6) (N := 33) hx hb hts in_X6 tyX6 tyX6_ok nmX6 hown hK hP hD hS 0 rfl rfl 19 (by decide) (hts _ wd_538) (fun _ h9 => h9) rfl (tyX6_ok 19 (by decide)) rfl rfl (Nat.le_of_ble_eq_true rfl) dX6_begin_27 (fun H locs hP hD hS => ?_)
  obtain ⟨om6, hF, hP, hD⟩ := nm_o (P := fun y => va_P D vwCl (wm_X6_begin cI cZ cO m_h m_1 m_2 m_3 m_22 m_23 m_24 m_27 m_29 m_30 y) _) (B := fun y => va_D A (wm_X6_begin cI cZ cO m_h m_1 m_2 m_3 m_22 m_23 m_24 m_27 m_29 m_30 y)) hF hP hD
  exact hQ _ _ _ _ om6 (Option.some.inj hF) hP hD hS dX6_begin_30

/-! ### ThreeLegsModel.quicker(I)I -/
abbrev wm_X6_quicker (cI cZ cO : ClassId) (m_h m_1 m_2 m_3 m_22 m_23 m_24 m_27 m_29 m_30 : Nat) (om : Ob) : va_W := [(m_h, .inr (6, [.int (om 0 0), .ref m_1, .ref m_2, .ref m_3, .int (om 4 0), .int (om 5 0), .int (om 6 0), .int (om 7 0), .int (om 8 0), .int (om 9 0), .int (om 10 0), .int (om 11 0), .int (om 12 0), .int (om 13 0), .int (om 14 0), .int (om 15 0), .int (om 16 0), .int (om 17 0), .int (om 18 0), .int (om 19 0), .int (om 20 0), .int (om 21 0), .ref m_22, .ref m_23, .ref m_24, .int (om 25 0), .int (om 26 0), .ref m_27, .int (om 28 0), .ref m_29, .ref m_30, .int (om 31 0), .int (om 32 0)])), (m_1, .inl (cI, 8, .inl (om 1))), (m_2, .inl (cI, 8, .inl (om 2))), (m_3, .inl (cI, 8, .inl (om 3))), (m_22, .inl (cI, 64, .inl (om 22))), (m_23, .inl (cI, 8, .inl (om 23))), (m_24, .inl (cI, 8, .inl (om 24))), (m_27, .inl (cI, 40, .inl (om 27))), (m_29, .inl (cI, 80, .inl (om 29))), (m_30, .inl (cZ, 2, .inl (om 30)))]
def F_X6_quicker (om : Ob) (p0 : Int32) : Option (Int32) :=
  (if (om 19 0) < (om 12 0) then some p0 else (if p0 ≤ 4 then some p0 else dd (p0 - 1) (fun (v3 : Int32) => some v3)))
abbrev rm_X6_quicker : Room := { frames := 0, cells := 0, slots := 0, locals := 0 }
abbrev wu_X6_quicker : List Cond := .code yX6_quicker cX6_quicker 2 (some .int) :: lwG
set_option maxHeartbeats 20000000 in
set_option maxRecDepth 100000 in
theorem c_X6_quicker (l : Launch) (D : va_G) (cI cZ cO : ClassId) (m_h m_1 m_2 m_3 m_22 m_23 m_24 m_27 m_29 m_30 : Nat) (sz : Nat) (om : Ob) (p0 : Int32) (q : Int32) (hF : F_X6_quicker om p0 = some q) : CtI l yX6_quicker wu_X6_quicker rm_X6_quicker D vwCl (tyL cI cZ cO) [.ref m_h, .int p0] (wm_X6_quicker cI cZ cO m_h m_1 m_2 m_3 m_22 m_23 m_24 m_27 m_29 m_30 om) sz 0 0 (fun (r : Int32) (u : Unit) => r = q ∧ u = ()) (fun u => wm_X6_quicker cI cZ cO m_h m_1 m_2 m_3 m_22 m_23 m_24 m_27 m_29 m_30 om) := by
  refine mk_i (cc := cX6_quicker) (maxL := 2) (by decide) rfl (Nat.le_of_ble_eq_true rfl) ?_
  intro p e s m args below meth c A ls Q hx hb hml hown hts hin hK hP hD hS hA hl hQ
  have hl : lv_has ls 2 [(0, .ref m_h), (1, .int p0)] := hl
  unfold F_X6_quicker at hF
  refine lv_aload_n hx hb dX6_quicker_0 rfl (lv_at hl 0 rfl) ?_
  refine va_get (D := D) (ci := 6) (v := .int (om 19 0)) (C := RX6) (T := TX6) (N := 33) hx hb hts in_X6 hown hK hP 0 rfl rfl 19 (by decide) (hts _ wd_538) (fun _ h9 => h9) rfl dX6_quicker_1 ?_
  refine lv_aload_n hx hb dX6_quicker_4 rfl (lv_at hl 0 rfl) ?_
  refine va_get (D := D) (ci := 6) (v := .int (om 12 0)) (C := RX6) (T := TX6) (N := 33) hx hb hts in_X6 hown hK hP 0 rfl rfl 12 (by decide) (hts _ wd_531) (fun _ h9 => h9) rfl dX6_quicker_5 ?_
  refine lv_icmp_lt (tgt := 22) hx hb dX6_quicker_8 (by decide) (fun h1 => ?_) (fun h1 => ?_)
  · replace hF := of_t h1 hF
    refine lv_iload_n hx hb dX6_quicker_22 rfl (lv_at hl 1 rfl) ?_
    exact hQ _ _ _ _ _ () ⟨Option.some.inj hF, rfl⟩ hP hD hS dX6_quicker_23
  · replace hF := of_f h1 hF
    refine lv_iload_n hx hb dX6_quicker_11 rfl (lv_at hl 1 rfl) ?_
    refine lv_iconst (v := 4) hx hb dX6_quicker_12 (by decide) ?_
    refine lv_icmp_le (tgt := 22) hx hb dX6_quicker_13 (by decide) (fun h2 => ?_) (fun h2 => ?_)
    · replace hF := of_t h2 hF
      refine lv_iload_n hx hb dX6_quicker_22 rfl (lv_at hl 1 rfl) ?_
      exact hQ _ _ _ _ _ () ⟨Option.some.inj hF, rfl⟩ hP hD hS dX6_quicker_23
    · replace hF := of_f h2 hF
      refine lv_iload_n hx hb dX6_quicker_16 rfl (lv_at hl 1 rfl) ?_
      refine lv_iconst (v := 1) hx hb dX6_quicker_17 (by decide) ?_
      refine lv_isub hx hb dX6_quicker_18 ?_
      refine lv_topi (fun v3 ev3 => ?_)
      replace hF := of_dd hF v3 ev3
      refine lv_goto (tgt := 23) hx hb dX6_quicker_19 (by decide) ?_
      exact hQ _ _ _ _ _ () ⟨Option.some.inj hF, rfl⟩ hP hD hS dX6_quicker_23

/-! ### ThreeLegsModel.next(IIII)I -/
abbrev wm_X6_next (cI cZ cO : ClassId)   : va_W := []
def F_X6_next  (p0 : Int32) (p1 : Int32) (p2 : Int32) (p3 : Int32) : Option (Int32) :=
  dd (p0 + p2) (fun (v1 : Int32) => dd (p1 - p0) (fun (v2 : Int32) => dd (p3 * v2) (fun (v3 : Int32) => dd (v3 / 4) (fun (v4 : Int32) => dd (v1 + v4) (fun (v5 : Int32) => (if v5 ≤ p0 then dd (p0 + 1) (fun (v7 : Int32) => some v7) else some v5))))))
abbrev rm_X6_next : Room := { frames := 0, cells := 0, slots := 0, locals := 0 }
abbrev wu_X6_next : List Cond := .code yX6_next cX6_next 5 (some .int) :: lwG
set_option maxHeartbeats 20000000 in
set_option maxRecDepth 100000 in
theorem c_X6_next (l : Launch) (D : va_G) (cI cZ cO : ClassId)  (sz : Nat)  (p0 : Int32) (p1 : Int32) (p2 : Int32) (p3 : Int32) (q : Int32) (hF : F_X6_next p0 p1 p2 p3 = some q) : CtI l yX6_next wu_X6_next rm_X6_next D vwCl (tyL cI cZ cO) [.int p0, .int p1, .int p2, .int p3] (wm_X6_next cI cZ cO) sz 0 0 (fun (r : Int32) (u : Unit) => r = q ∧ u = ()) (fun u => wm_X6_next cI cZ cO) := by
  refine mk_i (cc := cX6_next) (maxL := 5) (by decide) rfl (Nat.le_of_ble_eq_true rfl) ?_
  intro p e s m args below meth c A ls Q hx hb hml hown hts hin hK hP hD hS hA hl hQ
  have hl : lv_has ls 5 [(0, .int p0), (1, .int p1), (2, .int p2), (3, .int p3)] := hl
  unfold F_X6_next at hF
  refine lv_iload_n hx hb dX6_next_0 rfl (lv_at hl 0 rfl) ?_
  refine lv_iload_n hx hb dX6_next_1 rfl (lv_at hl 2 rfl) ?_
  refine lv_iadd hx hb dX6_next_2 ?_
  refine lv_topi (fun v1 ev1 => ?_)
  replace hF := of_dd hF v1 ev1
  refine lv_iload_n hx hb dX6_next_3 rfl (lv_at hl 3 rfl) ?_
  refine lv_iload_n hx hb dX6_next_4 rfl (lv_at hl 1 rfl) ?_
  refine lv_iload_n hx hb dX6_next_5 rfl (lv_at hl 0 rfl) ?_
  refine lv_isub hx hb dX6_next_6 ?_
  refine lv_topi (fun v2 ev2 => ?_)
  replace hF := of_dd hF v2 ev2
  refine lv_imul hx hb dX6_next_7 ?_
  refine lv_topi (fun v3 ev3 => ?_)
  replace hF := of_dd hF v3 ev3
  refine lv_iconst (v := 4) hx hb dX6_next_8 (by decide) ?_
  refine lv_idiv hx hb dX6_next_9 (by decide) ?_
  refine lv_topi (fun v4 ev4 => ?_)
  replace hF := of_dd hF v4 ev4
  refine lv_iadd hx hb dX6_next_10 ?_
  refine lv_topi (fun v5 ev5 => ?_)
  replace hF := of_dd hF v5 ev5
  refine lv_istore (lv' := [(4, .int v5), (0, .int p0), (1, .int p1), (2, .int p2), (3, .int p3)]) hx hb dX6_next_11 hl (by decide) rfl (fun ls hl => ?_)
  refine lv_iload hx hb dX6_next_13 (lv_at hl 0 rfl) ?_
  refine lv_iload_n hx hb dX6_next_15 rfl (lv_at hl 1 rfl) ?_
  refine lv_icmp_le (tgt := 24) hx hb dX6_next_16 (by decide) (fun h6 => ?_) (fun h6 => ?_)
  · replace hF := of_t h6 hF
    refine lv_iload_n hx hb dX6_next_24 rfl (lv_at hl 1 rfl) ?_
    refine lv_iconst (v := 1) hx hb dX6_next_25 (by decide) ?_
    refine lv_iadd hx hb dX6_next_26 ?_
    refine lv_topi (fun v7 ev7 => ?_)
    replace hF := of_dd hF v7 ev7
    exact hQ _ _ _ _ _ () ⟨Option.some.inj hF, rfl⟩ hP hD hS dX6_next_27
  · replace hF := of_f h6 hF
    refine lv_iload hx hb dX6_next_19 (lv_at hl 0 rfl) ?_
    refine lv_goto (tgt := 27) hx hb dX6_next_21 (by decide) ?_
    exact hQ _ _ _ _ _ () ⟨Option.some.inj hF, rfl⟩ hP hD hS dX6_next_27

/-! ### ThreeLegsModel.step()V -/
abbrev wm_X6_step (cI cZ cO : ClassId) (m_h m_1 m_2 m_3 m_22 m_23 m_24 m_27 m_29 m_30 : Nat) (om : Ob) : va_W := [(m_h, .inr (6, [.int (om 0 0), .ref m_1, .ref m_2, .ref m_3, .int (om 4 0), .int (om 5 0), .int (om 6 0), .int (om 7 0), .int (om 8 0), .int (om 9 0), .int (om 10 0), .int (om 11 0), .int (om 12 0), .int (om 13 0), .int (om 14 0), .int (om 15 0), .int (om 16 0), .int (om 17 0), .int (om 18 0), .int (om 19 0), .int (om 20 0), .int (om 21 0), .ref m_22, .ref m_23, .ref m_24, .int (om 25 0), .int (om 26 0), .ref m_27, .int (om 28 0), .ref m_29, .ref m_30, .int (om 31 0), .int (om 32 0)])), (m_1, .inl (cI, 8, .inl (om 1))), (m_2, .inl (cI, 8, .inl (om 2))), (m_3, .inl (cI, 8, .inl (om 3))), (m_22, .inl (cI, 64, .inl (om 22))), (m_23, .inl (cI, 8, .inl (om 23))), (m_24, .inl (cI, 8, .inl (om 24))), (m_27, .inl (cI, 40, .inl (om 27))), (m_29, .inl (cI, 80, .inl (om 29))), (m_30, .inl (cZ, 2, .inl (om 30)))]
def F_X6_step (om : Ob)  : Option (Ob) :=
  (F_X6_quicker om (om 7 0)).bind (fun q1 => (F_X6_next (om 14 0) (om 15 0) q1 (om 9 0)).bind (fun q2 => (F_X6_quicker om (om 8 0)).bind (fun q3 => (F_X6_next (om 15 0) (om 14 0) q3 (om 10 0)).bind (fun q4 => jn (fun (v6 : Int32) => jn (fun (v8 : Int32) => jn (fun (v10 : Int32) => dd (sO om 20 (cst v10)) (fun (om11 : Ob) => jn (fun (v13 : Int32) => dd (sO om11 21 (cst v13)) (fun (om14 : Ob) => jn (fun (v16 : Int32) => dd ((om14 18 0) + v16) (fun (v17 : Int32) => dd (sO om14 18 (cst v17)) (fun (om18 : Ob) => jn (fun (v20 : Int32) => dd ((om18 17 0) + v20) (fun (v21 : Int32) => dd (sO om18 17 (cst v21)) (fun (om22 : Ob) => jn (fun (v24 : Int32) => dd ((om22 16 0) + v24) (fun (v25 : Int32) => dd (sO om22 16 (cst v25)) (fun (om26 : Ob) => jn (fun (v28 : Int32) => dd (sO om26 14 (cst v28)) (fun (om29 : Ob) => jn (fun (v31 : Int32) => dd (sO om29 15 (cst v31)) (fun (om32 : Ob) => dd ((om32 19 0) + 1) (fun (v33 : Int32) => dd (sO om32 19 (cst v33)) (fun (om34 : Ob) => some om34)))) (fun (K30 : Int32 → Option (Ob)) => (if (om29 20 0) = 102 then dd (v8 + (om29 6 0)) (fun (v36 : Int32) => K30 v36) else K30 q4)))) (fun (K27 : Int32 → Option (Ob)) => (if (om26 20 0) = 102 then dd (v8 + (om26 6 0)) (fun (v38 : Int32) => K27 v38) else K27 q2))))) (fun (K23 : Int32 → Option (Ob)) => (if (om22 20 0) = 115 then K23 (om22 11 0) else K23 0))))) (fun (K19 : Int32 → Option (Ob)) => (if (om18 20 0) = 108 then K19 1 else K19 0))))) (fun (K15 : Int32 → Option (Ob)) => (if (om14 20 0) = 102 then K15 1 else K15 0)))) (fun (K12 : Int32 → Option (Ob)) => (if q4 ≤ q2 then K12 1 else K12 0)))) (fun (K9 : Int32 → Option (Ob)) => (if v6 ≤ (om 5 0) then (if v6 ≤ (om 13 0) then K9 115 else K9 108) else K9 102))) (fun (K7 : Int32 → Option (Ob)) => (if q2 ≤ q4 then K7 q4 else K7 q2))) (fun (K5 : Int32 → Option (Ob)) => (if q2 ≤ q4 then dd (q4 - q2) (fun (v47 : Int32) => K5 v47) else dd (q2 - q4) (fun (v48 : Int32) => K5 v48)))))))
abbrev rm_X6_step : Room := { frames := 1, cells := 0, slots := 0, locals := 24 }
abbrev wu_X6_step : List Cond := .code yX6_step cX6_step 5 none :: lwG
set_option maxHeartbeats 20000000 in
set_option maxRecDepth 100000 in
theorem c_X6_step (l : Launch) (D : va_G) (cI cZ cO : ClassId) (m_h m_1 m_2 m_3 m_22 m_23 m_24 m_27 m_29 m_30 : Nat) (sz : Nat) (om : Ob)  (q : Ob) (hF : F_X6_step om = some q) : CtV l yX6_step wu_X6_step rm_X6_step D vwCl (tyL cI cZ cO) [.ref m_h] (wm_X6_step cI cZ cO m_h m_1 m_2 m_3 m_22 m_23 m_24 m_27 m_29 m_30 om) sz 0 0 (fun u : Ob => u = q) (fun u => wm_X6_step cI cZ cO m_h m_1 m_2 m_3 m_22 m_23 m_24 m_27 m_29 m_30 u) := by
  refine mk_v (cc := cX6_step) (maxL := 5) (by decide) rfl (Nat.le_of_ble_eq_true rfl) ?_
  intro p e s m args below meth c A ls Q hx hb hml hown hts hin hK hP hD hS hA hl hQ
  have hl : lv_has ls 5 [(0, .ref m_h)] := hl
  unfold F_X6_step at hF
  refine lv_aload_n hx hb dX6_step_0 rfl (lv_at hl 0 rfl) ?_
  refine va_get (D := D) (ci := 6) (v := .int (om 14 0)) (C := RX6) (T := TX6) (N := 33) hx hb hts in_X6 hown hK hP 0 rfl rfl 14 (by decide) (hts _ wd_533) (fun _ h9 => h9) rfl dX6_step_1 ?_
  refine lv_aload_n hx hb dX6_step_4 rfl (lv_at hl 0 rfl) ?_
  refine va_get (D := D) (ci := 6) (v := .int (om 15 0)) (C := RX6) (T := TX6) (N := 33) hx hb hts in_X6 hown hK hP 0 rfl rfl 15 (by decide) (hts _ wd_534) (fun _ h9 => h9) rfl dX6_step_5 ?_
  refine lv_aload_n hx hb dX6_step_8 rfl (lv_at hl 0 rfl) ?_
  refine lv_aload_n hx hb dX6_step_9 rfl (lv_at hl 0 rfl) ?_
  refine va_get (D := D) (ci := 6) (v := .int (om 7 0)) (C := RX6) (T := TX6) (N := 33) hx hb hts in_X6 hown hK hP 0 rfl rfl 7 (by decide) (hts _ wd_526) (fun _ h9 => h9) rfl dX6_step_10 ?_
  obtain ⟨q1, hGq1, hF⟩ := of_bind hF
  refine callVi (As := [.int (om 7 0)]) (rest := [.int (om 15 0), .int (om 14 0)]) (wr := []) (WN := wm_X6_step cI cZ cO m_h m_1 m_2 m_3 m_22 m_23 m_24 m_27 m_29 m_30 om) ⟨hx, hb, hml, hown, hts⟩ hK hP hD hS hA [0, 1, 2, 3, 4, 5, 6, 7, 8, 9] [] [0, 1, 2, 3, 4, 5, 6, 7, 8, 9] (c_X6_quicker l D cI cZ cO m_h m_1 m_2 m_3 m_22 m_23 m_24 m_27 m_29 m_30 _ om (om 7 0) q1 hGq1) (cwV 1 hts (gV wd_667 wd_669 wd_19 wd_39 wd_670) rfl rfl rfl (by decide +kernel) ⟨Nat.le_of_ble_eq_true rfl, Nat.le_of_ble_eq_true rfl⟩) 0 6 rfl rfl rfl rfl rfl rfl rfl (by decide) rfl rfl rfl hl.1 rfl (Nat.le_of_ble_eq_true rfl) dX6_step_13 ⟨Nat.zero_le _, Nat.zero_le _⟩ (fun H locs hP hD hS => ?_)
  refine lv_aload_n hx hb dX6_step_16 rfl (lv_at hl 0 rfl) ?_
  refine va_get (D := D) (ci := 6) (v := .int (om 9 0)) (C := RX6) (T := TX6) (N := 33) hx hb hts in_X6 hown hK hP 0 rfl rfl 9 (by decide) (hts _ wd_528) (fun _ h9 => h9) rfl dX6_step_17 ?_
  obtain ⟨q2, hGq2, hF⟩ := of_bind hF
  refine callSi (As := [.int (om 14 0), .int (om 15 0), .int q1, .int (om 9 0)]) (rest := []) ⟨hx, hb, hml, hown, hts⟩ hK hP hD hS hA (c_X6_next l D cI cZ cO  _ (om 14 0) (om 15 0) q1 (om 9 0) q2 hGq2) (va_cwS 4 hts (gS wd_671 wd_672 wd_39 wd_673) rfl rfl rfl (by decide +kernel) ⟨Nat.le_of_ble_eq_true rfl, Nat.le_of_ble_eq_true rfl⟩) rfl hl.1 rfl (Nat.le_of_ble_eq_true rfl) dX6_step_20 ⟨Nat.zero_le _, Nat.zero_le _⟩ (fun H locs hP hS => ?_)
  refine lv_istore_n (lv' := [(1, .int q2), (0, .ref m_h)]) hx hb dX6_step_23 rfl hl (by decide) rfl (fun ls hl => ?_)
  refine lv_aload_n hx hb dX6_step_24 rfl (lv_at hl 1 rfl) ?_
  refine va_get (D := D) (ci := 6) (v := .int (om 15 0)) (C := RX6) (T := TX6) (N := 33) hx hb hts in_X6 hown hK hP 0 rfl rfl 15 (by decide) (hts _ wd_534) (fun _ h9 => h9) rfl dX6_step_25 ?_
  refine lv_aload_n hx hb dX6_step_28 rfl (lv_at hl 1 rfl) ?_
  refine va_get (D := D) (ci := 6) (v := .int (om 14 0)) (C := RX6) (T := TX6) (N := 33) hx hb hts in_X6 hown hK hP 0 rfl rfl 14 (by decide) (hts _ wd_533) (fun _ h9 => h9) rfl dX6_step_29 ?_
  refine lv_aload_n hx hb dX6_step_32 rfl (lv_at hl 1 rfl) ?_
  refine lv_aload_n hx hb dX6_step_33 rfl (lv_at hl 1 rfl) ?_
  refine va_get (D := D) (ci := 6) (v := .int (om 8 0)) (C := RX6) (T := TX6) (N := 33) hx hb hts in_X6 hown hK hP 0 rfl rfl 8 (by decide) (hts _ wd_527) (fun _ h9 => h9) rfl dX6_step_34 ?_
  obtain ⟨q3, hGq3, hF⟩ := of_bind hF
  refine callVi (As := [.int (om 8 0)]) (rest := [.int (om 14 0), .int (om 15 0)]) (wr := []) (WN := wm_X6_step cI cZ cO m_h m_1 m_2 m_3 m_22 m_23 m_24 m_27 m_29 m_30 om) ⟨hx, hb, hml, hown, hts⟩ hK hP hD hS hA [0, 1, 2, 3, 4, 5, 6, 7, 8, 9] [] [0, 1, 2, 3, 4, 5, 6, 7, 8, 9] (c_X6_quicker l D cI cZ cO m_h m_1 m_2 m_3 m_22 m_23 m_24 m_27 m_29 m_30 _ om (om 8 0) q3 hGq3) (cwV 1 hts (gV wd_667 wd_669 wd_19 wd_39 wd_670) rfl rfl rfl (by decide +kernel) ⟨Nat.le_of_ble_eq_true rfl, Nat.le_of_ble_eq_true rfl⟩) 0 6 rfl rfl rfl rfl rfl rfl rfl (by decide) rfl rfl rfl hl.1 rfl (Nat.le_of_ble_eq_true rfl) dX6_step_37 ⟨Nat.zero_le _, Nat.zero_le _⟩ (fun H locs hP hD hS => ?_)
  refine lv_aload_n hx hb dX6_step_40 rfl (lv_at hl 1 rfl) ?_
  refine va_get (D := D) (ci := 6) (v := .int (om 10 0)) (C := RX6) (T := TX6) (N := 33) hx hb hts in_X6 hown hK hP 0 rfl rfl 10 (by decide) (hts _ wd_529) (fun _ h9 => h9) rfl dX6_step_41 ?_
  obtain ⟨q4, hGq4, hF⟩ := of_bind hF
  refine callSi (As := [.int (om 15 0), .int (om 14 0), .int q3, .int (om 10 0)]) (rest := []) ⟨hx, hb, hml, hown, hts⟩ hK hP hD hS hA (c_X6_next l D cI cZ cO  _ (om 15 0) (om 14 0) q3 (om 10 0) q4 hGq4) (va_cwS 4 hts (gS wd_671 wd_672 wd_39 wd_673) rfl rfl rfl (by decide +kernel) ⟨Nat.le_of_ble_eq_true rfl, Nat.le_of_ble_eq_true rfl⟩) rfl hl.1 rfl (Nat.le_of_ble_eq_true rfl) dX6_step_44 ⟨Nat.zero_le _, Nat.zero_le _⟩ (fun H locs hP hS => ?_)
  refine lv_istore_n (lv' := [(2, .int q4), (1, .int q2), (0, .ref m_h)]) hx hb dX6_step_47 rfl hl (by decide) rfl (fun ls hl => ?_)
  refine lv_iload_n hx hb dX6_step_48 rfl (lv_at hl 1 rfl) ?_
  refine lv_iload_n hx hb dX6_step_49 rfl (lv_at hl 0 rfl) ?_
  obtain ⟨K5, eK5, hF⟩ := of_jn hF
  have hK5 : ∀ (v6 : Int32) (ls : Array Slot) (H : Heap) (locs : List Loc), lv_has ls 5 [(0, .ref m_h), (1, .int q2), (2, .int q4)] → va_P D vwCl (wm_X6_step cI cZ cO m_h m_1 m_2 m_3 m_22 m_23 m_24 m_27 m_29 m_30 om) H → va_D A (wm_X6_step cI cZ cO m_h m_1 m_2 m_3 m_22 m_23 m_24 m_27 m_29 m_30 om) → va_S A s.heap H locs → K5 v6 = some q → W p l e rm_X6_step s m args below meth c H locs 0 0 Q (F0 m 62 ls [.int v6]) := by
    intro v6 ls H locs hl hP hD hS hF
    subst eK5
    refine lv_istore_n (lv' := [(3, .int v6), (0, .ref m_h), (1, .int q2), (2, .int q4)]) hx hb dX6_step_62 rfl hl (by decide) rfl (fun ls hl => ?_)
    refine lv_iload_n hx hb dX6_step_63 rfl (lv_at hl 2 rfl) ?_
    refine lv_iload_n hx hb dX6_step_64 rfl (lv_at hl 3 rfl) ?_
    obtain ⟨K7, eK7, hF⟩ := of_jn hF
    have hK7 : ∀ (v8 : Int32) (ls : Array Slot) (H : Heap) (locs : List Loc), lv_has ls 5 [(0, .ref m_h), (1, .int q2), (2, .int q4), (3, .int v6)] → va_P D vwCl (wm_X6_step cI cZ cO m_h m_1 m_2 m_3 m_22 m_23 m_24 m_27 m_29 m_30 om) H → va_D A (wm_X6_step cI cZ cO m_h m_1 m_2 m_3 m_22 m_23 m_24 m_27 m_29 m_30 om) → va_S A s.heap H locs → K7 v8 = some q → W p l e rm_X6_step s m args below meth c H locs 0 0 Q (F0 m 73 ls [.int v8]) := by
      intro v8 ls H locs hl hP hD hS hF
      subst eK7
      refine lv_istore (lv' := [(4, .int v8), (0, .ref m_h), (1, .int q2), (2, .int q4), (3, .int v6)]) hx hb dX6_step_73 hl (by decide) rfl (fun ls hl => ?_)
      refine lv_aload_n hx hb dX6_step_75 rfl (lv_at hl 1 rfl) ?_
      refine lv_iload_n hx hb dX6_step_76 rfl (lv_at hl 4 rfl) ?_
      refine lv_aload_n hx hb dX6_step_77 rfl (lv_at hl 1 rfl) ?_
      refine va_get (D := D) (ci := 6) (v := .int (om 5 0)) (C := RX6) (T := TX6) (N := 33) hx hb hts in_X6 hown hK hP 0 rfl rfl 5 (by decide) (hts _ wd_524) (fun _ h9 => h9) rfl dX6_step_78 ?_
      obtain ⟨K9, eK9, hF⟩ := of_jn hF
      have hK9 : ∀ (v10 : Int32) (ls : Array Slot) (H : Heap) (locs : List Loc), lv_has ls 5 [(0, .ref m_h), (1, .int q2), (2, .int q4), (4, .int v8)] → va_P D vwCl (wm_X6_step cI cZ cO m_h m_1 m_2 m_3 m_22 m_23 m_24 m_27 m_29 m_30 om) H → va_D A (wm_X6_step cI cZ cO m_h m_1 m_2 m_3 m_22 m_23 m_24 m_27 m_29 m_30 om) → va_S A s.heap H locs → K9 v10 = some q → W p l e rm_X6_step s m args below meth c H locs 0 0 Q (F0 m 104 ls [.int v10, .ref m_h]) := by
        intro v10 ls H locs hl hP hD hS hF
        subst eK9
        refine va_put (D := D) (ci := 6) (v := .int v10) (ty := .int) (C := RX6) (T := TX6) (N := 33) hx hb hts in_X6 tyX6 tyX6_ok nmX6 hown hK hP hD hS 0 rfl rfl 20 (by decide) (hts _ wd_539) (fun _ h9 => h9) rfl (tyX6_ok 20 (by decide)) rfl rfl (Nat.le_of_ble_eq_true rfl) dX6_step_104 (fun H locs hP hD hS => ?_)
        obtain ⟨om11, hF, hP, hD⟩ := nm_o (P := fun y => va_P D vwCl (wm_X6_step cI cZ cO m_h m_1 m_2 m_3 m_22 m_23 m_24 m_27 m_29 m_30 y) _) (B := fun y => va_D A (wm_X6_step cI cZ cO m_h m_1 m_2 m_3 m_22 m_23 m_24 m_27 m_29 m_30 y)) hF hP hD
        refine lv_aload_n hx hb dX6_step_107 rfl (lv_at hl 0 rfl) ?_
        refine lv_iload_n hx hb dX6_step_108 rfl (lv_at hl 1 rfl) ?_
        refine lv_iload_n hx hb dX6_step_109 rfl (lv_at hl 2 rfl) ?_
        obtain ⟨K12, eK12, hF⟩ := of_jn hF
        have hK12 : ∀ (v13 : Int32) (ls : Array Slot) (H : Heap) (locs : List Loc), lv_has ls 5 [(0, .ref m_h), (1, .int q2), (2, .int q4), (4, .int v8)] → va_P D vwCl (wm_X6_step cI cZ cO m_h m_1 m_2 m_3 m_22 m_23 m_24 m_27 m_29 m_30 om11) H → va_D A (wm_X6_step cI cZ cO m_h m_1 m_2 m_3 m_22 m_23 m_24 m_27 m_29 m_30 om11) → va_S A s.heap H locs → K12 v13 = some q → W p l e rm_X6_step s m args below meth c H locs 0 0 Q (F0 m 118 ls [.int v13, .ref m_h]) := by
          intro v13 ls H locs hl hP hD hS hF
          subst eK12
          refine va_put (D := D) (ci := 6) (v := .int v13) (ty := .int) (C := RX6) (T := TX6) (N := 33) hx hb hts in_X6 tyX6 tyX6_ok nmX6 hown hK hP hD hS 0 rfl rfl 21 (by decide) (hts _ wd_540) (fun _ h9 => h9) rfl (tyX6_ok 21 (by decide)) rfl rfl (Nat.le_of_ble_eq_true rfl) dX6_step_118 (fun H locs hP hD hS => ?_)
          obtain ⟨om14, hF, hP, hD⟩ := nm_o (P := fun y => va_P D vwCl (wm_X6_step cI cZ cO m_h m_1 m_2 m_3 m_22 m_23 m_24 m_27 m_29 m_30 y) _) (B := fun y => va_D A (wm_X6_step cI cZ cO m_h m_1 m_2 m_3 m_22 m_23 m_24 m_27 m_29 m_30 y)) hF hP hD
          refine lv_aload_n hx hb dX6_step_121 rfl (lv_at hl 0 rfl) ?_
          refine lv_dup hx hb dX6_step_122 rfl ?_
          refine va_get (D := D) (ci := 6) (v := .int (om14 18 0)) (C := RX6) (T := TX6) (N := 33) hx hb hts in_X6 hown hK hP 0 rfl rfl 18 (by decide) (hts _ wd_537) (fun _ h9 => h9) rfl dX6_step_123 ?_
          refine lv_aload_n hx hb dX6_step_126 rfl (lv_at hl 0 rfl) ?_
          refine va_get (D := D) (ci := 6) (v := .int (om14 20 0)) (C := RX6) (T := TX6) (N := 33) hx hb hts in_X6 hown hK hP 0 rfl rfl 20 (by decide) (hts _ wd_539) (fun _ h9 => h9) rfl dX6_step_127 ?_
          refine lv_bipush (v := 102) hx hb dX6_step_130 (by decide) ?_
          obtain ⟨K15, eK15, hF⟩ := of_jn hF
          have hK15 : ∀ (v16 : Int32) (ls : Array Slot) (H : Heap) (locs : List Loc), lv_has ls 5 [(0, .ref m_h), (1, .int q2), (2, .int q4), (4, .int v8)] → va_P D vwCl (wm_X6_step cI cZ cO m_h m_1 m_2 m_3 m_22 m_23 m_24 m_27 m_29 m_30 om14) H → va_D A (wm_X6_step cI cZ cO m_h m_1 m_2 m_3 m_22 m_23 m_24 m_27 m_29 m_30 om14) → va_S A s.heap H locs → K15 v16 = some q → W p l e rm_X6_step s m args below meth c H locs 0 0 Q (F0 m 140 ls [.int v16, .int (om14 18 0), .ref m_h]) := by
            intro v16 ls H locs hl hP hD hS hF
            subst eK15
            refine lv_iadd hx hb dX6_step_140 ?_
            refine lv_topi (fun v17 ev17 => ?_)
            replace hF := of_dd hF v17 ev17
            refine va_put (D := D) (ci := 6) (v := .int v17) (ty := .int) (C := RX6) (T := TX6) (N := 33) hx hb hts in_X6 tyX6 tyX6_ok nmX6 hown hK hP hD hS 0 rfl rfl 18 (by decide) (hts _ wd_537) (fun _ h9 => h9) rfl (tyX6_ok 18 (by decide)) rfl rfl (Nat.le_of_ble_eq_true rfl) dX6_step_141 (fun H locs hP hD hS => ?_)
            obtain ⟨om18, hF, hP, hD⟩ := nm_o (P := fun y => va_P D vwCl (wm_X6_step cI cZ cO m_h m_1 m_2 m_3 m_22 m_23 m_24 m_27 m_29 m_30 y) _) (B := fun y => va_D A (wm_X6_step cI cZ cO m_h m_1 m_2 m_3 m_22 m_23 m_24 m_27 m_29 m_30 y)) hF hP hD
            refine lv_aload_n hx hb dX6_step_144 rfl (lv_at hl 0 rfl) ?_
            refine lv_dup hx hb dX6_step_145 rfl ?_
            refine va_get (D := D) (ci := 6) (v := .int (om18 17 0)) (C := RX6) (T := TX6) (N := 33) hx hb hts in_X6 hown hK hP 0 rfl rfl 17 (by decide) (hts _ wd_536) (fun _ h9 => h9) rfl dX6_step_146 ?_
            refine lv_aload_n hx hb dX6_step_149 rfl (lv_at hl 0 rfl) ?_
            refine va_get (D := D) (ci := 6) (v := .int (om18 20 0)) (C := RX6) (T := TX6) (N := 33) hx hb hts in_X6 hown hK hP 0 rfl rfl 20 (by decide) (hts _ wd_539) (fun _ h9 => h9) rfl dX6_step_150 ?_
            refine lv_bipush (v := 108) hx hb dX6_step_153 (by decide) ?_
            obtain ⟨K19, eK19, hF⟩ := of_jn hF
            have hK19 : ∀ (v20 : Int32) (ls : Array Slot) (H : Heap) (locs : List Loc), lv_has ls 5 [(0, .ref m_h), (1, .int q2), (2, .int q4), (4, .int v8)] → va_P D vwCl (wm_X6_step cI cZ cO m_h m_1 m_2 m_3 m_22 m_23 m_24 m_27 m_29 m_30 om18) H → va_D A (wm_X6_step cI cZ cO m_h m_1 m_2 m_3 m_22 m_23 m_24 m_27 m_29 m_30 om18) → va_S A s.heap H locs → K19 v20 = some q → W p l e rm_X6_step s m args below meth c H locs 0 0 Q (F0 m 163 ls [.int v20, .int (om18 17 0), .ref m_h]) := by
              intro v20 ls H locs hl hP hD hS hF
              subst eK19
              refine lv_iadd hx hb dX6_step_163 ?_
              refine lv_topi (fun v21 ev21 => ?_)
              replace hF := of_dd hF v21 ev21
              refine va_put (D := D) (ci := 6) (v := .int v21) (ty := .int) (C := RX6) (T := TX6) (N := 33) hx hb hts in_X6 tyX6 tyX6_ok nmX6 hown hK hP hD hS 0 rfl rfl 17 (by decide) (hts _ wd_536) (fun _ h9 => h9) rfl (tyX6_ok 17 (by decide)) rfl rfl (Nat.le_of_ble_eq_true rfl) dX6_step_164 (fun H locs hP hD hS => ?_)
              obtain ⟨om22, hF, hP, hD⟩ := nm_o (P := fun y => va_P D vwCl (wm_X6_step cI cZ cO m_h m_1 m_2 m_3 m_22 m_23 m_24 m_27 m_29 m_30 y) _) (B := fun y => va_D A (wm_X6_step cI cZ cO m_h m_1 m_2 m_3 m_22 m_23 m_24 m_27 m_29 m_30 y)) hF hP hD
              refine lv_aload_n hx hb dX6_step_167 rfl (lv_at hl 0 rfl) ?_
              refine lv_dup hx hb dX6_step_168 rfl ?_
              refine va_get (D := D) (ci := 6) (v := .int (om22 16 0)) (C := RX6) (T := TX6) (N := 33) hx hb hts in_X6 hown hK hP 0 rfl rfl 16 (by decide) (hts _ wd_535) (fun _ h9 => h9) rfl dX6_step_169 ?_
              refine lv_aload_n hx hb dX6_step_172 rfl (lv_at hl 0 rfl) ?_
              refine va_get (D := D) (ci := 6) (v := .int (om22 20 0)) (C := RX6) (T := TX6) (N := 33) hx hb hts in_X6 hown hK hP 0 rfl rfl 20 (by decide) (hts _ wd_539) (fun _ h9 => h9) rfl dX6_step_173 ?_
              refine lv_bipush (v := 115) hx hb dX6_step_176 (by decide) ?_
              obtain ⟨K23, eK23, hF⟩ := of_jn hF
              have hK23 : ∀ (v24 : Int32) (ls : Array Slot) (H : Heap) (locs : List Loc), lv_has ls 5 [(0, .ref m_h), (1, .int q2), (2, .int q4), (4, .int v8)] → va_P D vwCl (wm_X6_step cI cZ cO m_h m_1 m_2 m_3 m_22 m_23 m_24 m_27 m_29 m_30 om22) H → va_D A (wm_X6_step cI cZ cO m_h m_1 m_2 m_3 m_22 m_23 m_24 m_27 m_29 m_30 om22) → va_S A s.heap H locs → K23 v24 = some q → W p l e rm_X6_step s m args below meth c H locs 0 0 Q (F0 m 189 ls [.int v24, .int (om22 16 0), .ref m_h]) := by
                intro v24 ls H locs hl hP hD hS hF
                subst eK23
                refine lv_iadd hx hb dX6_step_189 ?_
                refine lv_topi (fun v25 ev25 => ?_)
                replace hF := of_dd hF v25 ev25
                refine va_put (D := D) (ci := 6) (v := .int v25) (ty := .int) (C := RX6) (T := TX6) (N := 33) hx hb hts in_X6 tyX6 tyX6_ok nmX6 hown hK hP hD hS 0 rfl rfl 16 (by decide) (hts _ wd_535) (fun _ h9 => h9) rfl (tyX6_ok 16 (by decide)) rfl rfl (Nat.le_of_ble_eq_true rfl) dX6_step_190 (fun H locs hP hD hS => ?_)
                obtain ⟨om26, hF, hP, hD⟩ := nm_o (P := fun y => va_P D vwCl (wm_X6_step cI cZ cO m_h m_1 m_2 m_3 m_22 m_23 m_24 m_27 m_29 m_30 y) _) (B := fun y => va_D A (wm_X6_step cI cZ cO m_h m_1 m_2 m_3 m_22 m_23 m_24 m_27 m_29 m_30 y)) hF hP hD
                refine lv_aload_n hx hb dX6_step_193 rfl (lv_at hl 0 rfl) ?_
                refine lv_aload_n hx hb dX6_step_194 rfl (lv_at hl 0 rfl) ?_
                refine va_get (D := D) (ci := 6) (v := .int (om26 20 0)) (C := RX6) (T := TX6) (N := 33) hx hb hts in_X6 hown hK hP 0 rfl rfl 20 (by decide) (hts _ wd_539) (fun _ h9 => h9) rfl dX6_step_195 ?_
                refine lv_bipush (v := 102) hx hb dX6_step_198 (by decide) ?_
                obtain ⟨K27, eK27, hF⟩ := of_jn hF
                have hK27 : ∀ (v28 : Int32) (ls : Array Slot) (H : Heap) (locs : List Loc), lv_has ls 5 [(0, .ref m_h), (2, .int q4), (4, .int v8)] → va_P D vwCl (wm_X6_step cI cZ cO m_h m_1 m_2 m_3 m_22 m_23 m_24 m_27 m_29 m_30 om26) H → va_D A (wm_X6_step cI cZ cO m_h m_1 m_2 m_3 m_22 m_23 m_24 m_27 m_29 m_30 om26) → va_S A s.heap H locs → K27 v28 = some q → W p l e rm_X6_step s m args below meth c H locs 0 0 Q (F0 m 214 ls [.int v28, .ref m_h]) := by
                  intro v28 ls H locs hl hP hD hS hF
                  subst eK27
                  refine va_put (D := D) (ci := 6) (v := .int v28) (ty := .int) (C := RX6) (T := TX6) (N := 33) hx hb hts in_X6 tyX6 tyX6_ok nmX6 hown hK hP hD hS 0 rfl rfl 14 (by decide) (hts _ wd_533) (fun _ h9 => h9) rfl (tyX6_ok 14 (by decide)) rfl rfl (Nat.le_of_ble_eq_true rfl) dX6_step_214 (fun H locs hP hD hS => ?_)
                  obtain ⟨om29, hF, hP, hD⟩ := nm_o (P := fun y => va_P D vwCl (wm_X6_step cI cZ cO m_h m_1 m_2 m_3 m_22 m_23 m_24 m_27 m_29 m_30 y) _) (B := fun y => va_D A (wm_X6_step cI cZ cO m_h m_1 m_2 m_3 m_22 m_23 m_24 m_27 m_29 m_30 y)) hF hP hD
                  refine lv_aload_n hx hb dX6_step_217 rfl (lv_at hl 0 rfl) ?_
                  refine lv_aload_n hx hb dX6_step_218 rfl (lv_at hl 0 rfl) ?_
                  refine va_get (D := D) (ci := 6) (v := .int (om29 20 0)) (C := RX6) (T := TX6) (N := 33) hx hb hts in_X6 hown hK hP 0 rfl rfl 20 (by decide) (hts _ wd_539) (fun _ h9 => h9) rfl dX6_step_219 ?_
                  refine lv_bipush (v := 102) hx hb dX6_step_222 (by decide) ?_
                  obtain ⟨K30, eK30, hF⟩ := of_jn hF
                  have hK30 : ∀ (v31 : Int32) (ls : Array Slot) (H : Heap) (locs : List Loc), lv_has ls 5 [(0, .ref m_h)] → va_P D vwCl (wm_X6_step cI cZ cO m_h m_1 m_2 m_3 m_22 m_23 m_24 m_27 m_29 m_30 om29) H → va_D A (wm_X6_step cI cZ cO m_h m_1 m_2 m_3 m_22 m_23 m_24 m_27 m_29 m_30 om29) → va_S A s.heap H locs → K30 v31 = some q → W p l e rm_X6_step s m args below meth c H locs 0 0 Q (F0 m 238 ls [.int v31, .ref m_h]) := by
                    intro v31 ls H locs hl hP hD hS hF
                    subst eK30
                    refine va_put (D := D) (ci := 6) (v := .int v31) (ty := .int) (C := RX6) (T := TX6) (N := 33) hx hb hts in_X6 tyX6 tyX6_ok nmX6 hown hK hP hD hS 0 rfl rfl 15 (by decide) (hts _ wd_534) (fun _ h9 => h9) rfl (tyX6_ok 15 (by decide)) rfl rfl (Nat.le_of_ble_eq_true rfl) dX6_step_238 (fun H locs hP hD hS => ?_)
                    obtain ⟨om32, hF, hP, hD⟩ := nm_o (P := fun y => va_P D vwCl (wm_X6_step cI cZ cO m_h m_1 m_2 m_3 m_22 m_23 m_24 m_27 m_29 m_30 y) _) (B := fun y => va_D A (wm_X6_step cI cZ cO m_h m_1 m_2 m_3 m_22 m_23 m_24 m_27 m_29 m_30 y)) hF hP hD
                    refine lv_aload_n hx hb dX6_step_241 rfl (lv_at hl 0 rfl) ?_
                    refine lv_dup hx hb dX6_step_242 rfl ?_
                    refine va_get (D := D) (ci := 6) (v := .int (om32 19 0)) (C := RX6) (T := TX6) (N := 33) hx hb hts in_X6 hown hK hP 0 rfl rfl 19 (by decide) (hts _ wd_538) (fun _ h9 => h9) rfl dX6_step_243 ?_
                    refine lv_iconst (v := 1) hx hb dX6_step_246 (by decide) ?_
                    refine lv_iadd hx hb dX6_step_247 ?_
                    refine lv_topi (fun v33 ev33 => ?_)
                    replace hF := of_dd hF v33 ev33
                    refine va_put (D := D) (ci := 6) (v := .int v33) (ty := .int) (C := RX6) (T := TX6) (N := 33) hx hb hts in_X6 tyX6 tyX6_ok nmX6 hown hK hP hD hS 0 rfl rfl 19 (by decide) (hts _ wd_538) (fun _ h9 => h9) rfl (tyX6_ok 19 (by decide)) rfl rfl (Nat.le_of_ble_eq_true rfl) dX6_step_248 (fun H locs hP hD hS => ?_)
                    obtain ⟨om34, hF, hP, hD⟩ := nm_o (P := fun y => va_P D vwCl (wm_X6_step cI cZ cO m_h m_1 m_2 m_3 m_22 m_23 m_24 m_27 m_29 m_30 y) _) (B := fun y => va_D A (wm_X6_step cI cZ cO m_h m_1 m_2 m_3 m_22 m_23 m_24 m_27 m_29 m_30 y)) hF hP hD
                    exact hQ _ _ _ _ om34 (Option.some.inj hF) hP hD hS dX6_step_251
                  refine lv_icmp_ne (tgt := 237) hx hb dX6_step_224 (by decide) (fun h35 => ?_) (fun h35 => ?_)
                  · replace hF := of_f h35 hF
                    refine lv_iload_n hx hb dX6_step_237 rfl (lv_at hl 1 rfl) ?_
                    exact hK30 q4 ls _ _ (lv_sub hl [0] rfl) hP hD hS hF
                  · replace hF := of_t h35 hF
                    refine lv_iload hx hb dX6_step_227 (lv_at hl 2 rfl) ?_
                    refine lv_aload_n hx hb dX6_step_229 rfl (lv_at hl 0 rfl) ?_
                    refine va_get (D := D) (ci := 6) (v := .int (om29 6 0)) (C := RX6) (T := TX6) (N := 33) hx hb hts in_X6 hown hK hP 0 rfl rfl 6 (by decide) (hts _ wd_525) (fun _ h9 => h9) rfl dX6_step_230 ?_
                    refine lv_iadd hx hb dX6_step_233 ?_
                    refine lv_topi (fun v36 ev36 => ?_)
                    replace hF := of_dd hF v36 ev36
                    refine lv_goto (tgt := 238) hx hb dX6_step_234 (by decide) ?_
                    exact hK30 v36 ls _ _ (lv_sub hl [0] rfl) hP hD hS hF
                refine lv_icmp_ne (tgt := 213) hx hb dX6_step_200 (by decide) (fun h37 => ?_) (fun h37 => ?_)
                · replace hF := of_f h37 hF
                  refine lv_iload_n hx hb dX6_step_213 rfl (lv_at hl 1 rfl) ?_
                  exact hK27 q2 ls _ _ (lv_sub hl [0, 2, 3] rfl) hP hD hS hF
                · replace hF := of_t h37 hF
                  refine lv_iload hx hb dX6_step_203 (lv_at hl 3 rfl) ?_
                  refine lv_aload_n hx hb dX6_step_205 rfl (lv_at hl 0 rfl) ?_
                  refine va_get (D := D) (ci := 6) (v := .int (om26 6 0)) (C := RX6) (T := TX6) (N := 33) hx hb hts in_X6 hown hK hP 0 rfl rfl 6 (by decide) (hts _ wd_525) (fun _ h9 => h9) rfl dX6_step_206 ?_
                  refine lv_iadd hx hb dX6_step_209 ?_
                  refine lv_topi (fun v38 ev38 => ?_)
                  replace hF := of_dd hF v38 ev38
                  refine lv_goto (tgt := 214) hx hb dX6_step_210 (by decide) ?_
                  exact hK27 v38 ls _ _ (lv_sub hl [0, 2, 3] rfl) hP hD hS hF
              refine lv_icmp_ne (tgt := 188) hx hb dX6_step_178 (by decide) (fun h39 => ?_) (fun h39 => ?_)
              · replace hF := of_f h39 hF
                refine lv_iconst (v := 0) hx hb dX6_step_188 (by decide) ?_
                exact hK23 0 ls _ _ (lv_sub hl [0, 1, 2, 3] rfl) hP hD hS hF
              · replace hF := of_t h39 hF
                refine lv_aload_n hx hb dX6_step_181 rfl (lv_at hl 0 rfl) ?_
                refine va_get (D := D) (ci := 6) (v := .int (om22 11 0)) (C := RX6) (T := TX6) (N := 33) hx hb hts in_X6 hown hK hP 0 rfl rfl 11 (by decide) (hts _ wd_530) (fun _ h9 => h9) rfl dX6_step_182 ?_
                refine lv_goto (tgt := 189) hx hb dX6_step_185 (by decide) ?_
                exact hK23 (om22 11 0) ls _ _ (lv_sub hl [0, 1, 2, 3] rfl) hP hD hS hF
            refine lv_icmp_ne (tgt := 162) hx hb dX6_step_155 (by decide) (fun h40 => ?_) (fun h40 => ?_)
            · replace hF := of_f h40 hF
              refine lv_iconst (v := 0) hx hb dX6_step_162 (by decide) ?_
              exact hK19 0 ls _ _ (lv_sub hl [0, 1, 2, 3] rfl) hP hD hS hF
            · replace hF := of_t h40 hF
              refine lv_iconst (v := 1) hx hb dX6_step_158 (by decide) ?_
              refine lv_goto (tgt := 163) hx hb dX6_step_159 (by decide) ?_
              exact hK19 1 ls _ _ (lv_sub hl [0, 1, 2, 3] rfl) hP hD hS hF
          refine lv_icmp_ne (tgt := 139) hx hb dX6_step_132 (by decide) (fun h41 => ?_) (fun h41 => ?_)
          · replace hF := of_f h41 hF
            refine lv_iconst (v := 0) hx hb dX6_step_139 (by decide) ?_
            exact hK15 0 ls _ _ (lv_sub hl [0, 1, 2, 3] rfl) hP hD hS hF
          · replace hF := of_t h41 hF
            refine lv_iconst (v := 1) hx hb dX6_step_135 (by decide) ?_
            refine lv_goto (tgt := 140) hx hb dX6_step_136 (by decide) ?_
            exact hK15 1 ls _ _ (lv_sub hl [0, 1, 2, 3] rfl) hP hD hS hF
        refine lv_icmp_ge (tgt := 117) hx hb dX6_step_110 (by decide) (fun h42 => ?_) (fun h42 => ?_)
        · replace hF := of_t h42 hF
          refine lv_iconst (v := 1) hx hb dX6_step_117 (by decide) ?_
          exact hK12 1 ls _ _ (lv_sub hl [0, 1, 2, 3] rfl) hP hD hS hF
        · replace hF := of_f h42 hF
          refine lv_iconst (v := 0) hx hb dX6_step_113 (by decide) ?_
          refine lv_goto (tgt := 118) hx hb dX6_step_114 (by decide) ?_
          exact hK12 0 ls _ _ (lv_sub hl [0, 1, 2, 3] rfl) hP hD hS hF
      refine lv_icmp_le (tgt := 89) hx hb dX6_step_81 (by decide) (fun h43 => ?_) (fun h43 => ?_)
      · replace hF := of_t h43 hF
        refine lv_iload_n hx hb dX6_step_89 rfl (lv_at hl 4 rfl) ?_
        refine lv_aload_n hx hb dX6_step_90 rfl (lv_at hl 1 rfl) ?_
        refine va_get (D := D) (ci := 6) (v := .int (om 13 0)) (C := RX6) (T := TX6) (N := 33) hx hb hts in_X6 hown hK hP 0 rfl rfl 13 (by decide) (hts _ wd_532) (fun _ h9 => h9) rfl dX6_step_91 ?_
        refine lv_icmp_le (tgt := 102) hx hb dX6_step_94 (by decide) (fun h44 => ?_) (fun h44 => ?_)
        · replace hF := of_t h44 hF
          refine lv_bipush (v := 115) hx hb dX6_step_102 (by decide) ?_
          exact hK9 115 ls _ _ (lv_sub hl [1, 2, 3, 0] rfl) hP hD hS hF
        · replace hF := of_f h44 hF
          refine lv_bipush (v := 108) hx hb dX6_step_97 (by decide) ?_
          refine lv_goto (tgt := 104) hx hb dX6_step_99 (by decide) ?_
          exact hK9 108 ls _ _ (lv_sub hl [1, 2, 3, 0] rfl) hP hD hS hF
      · replace hF := of_f h43 hF
        refine lv_bipush (v := 102) hx hb dX6_step_84 (by decide) ?_
        refine lv_goto (tgt := 104) hx hb dX6_step_86 (by decide) ?_
        exact hK9 102 ls _ _ (lv_sub hl [1, 2, 3, 0] rfl) hP hD hS hF
    refine lv_icmp_le (tgt := 72) hx hb dX6_step_65 (by decide) (fun h45 => ?_) (fun h45 => ?_)
    · replace hF := of_t h45 hF
      refine lv_iload_n hx hb dX6_step_72 rfl (lv_at hl 3 rfl) ?_
      exact hK7 q4 ls _ _ (lv_sub hl [1, 2, 3, 0] rfl) hP hD hS hF
    · replace hF := of_f h45 hF
      refine lv_iload_n hx hb dX6_step_68 rfl (lv_at hl 2 rfl) ?_
      refine lv_goto (tgt := 73) hx hb dX6_step_69 (by decide) ?_
      exact hK7 q2 ls _ _ (lv_sub hl [1, 2, 3, 0] rfl) hP hD hS hF
  refine lv_icmp_le (tgt := 59) hx hb dX6_step_50 (by decide) (fun h46 => ?_) (fun h46 => ?_)
  · replace hF := of_t h46 hF
    refine lv_iload_n hx hb dX6_step_59 rfl (lv_at hl 0 rfl) ?_
    refine lv_iload_n hx hb dX6_step_60 rfl (lv_at hl 1 rfl) ?_
    refine lv_isub hx hb dX6_step_61 ?_
    refine lv_topi (fun v47 ev47 => ?_)
    replace hF := of_dd hF v47 ev47
    exact hK5 v47 ls _ _ (lv_sub hl [2, 1, 0] rfl) hP hD hS hF
  · replace hF := of_f h46 hF
    refine lv_iload_n hx hb dX6_step_53 rfl (lv_at hl 1 rfl) ?_
    refine lv_iload_n hx hb dX6_step_54 rfl (lv_at hl 0 rfl) ?_
    refine lv_isub hx hb dX6_step_55 ?_
    refine lv_topi (fun v48 ev48 => ?_)
    replace hF := of_dd hF v48 ev48
    refine lv_goto (tgt := 62) hx hb dX6_step_56 (by decide) ?_
    exact hK5 v48 ls _ _ (lv_sub hl [2, 1, 0] rfl) hP hD hS hF

/-! ### ThreeLegsModel.time()I -/
abbrev wm_X6_time (cI cZ cO : ClassId) (m_h m_1 m_2 m_3 m_22 m_23 m_24 m_27 m_29 m_30 : Nat) (om : Ob) : va_W := [(m_h, .inr (6, [.int (om 0 0), .ref m_1, .ref m_2, .ref m_3, .int (om 4 0), .int (om 5 0), .int (om 6 0), .int (om 7 0), .int (om 8 0), .int (om 9 0), .int (om 10 0), .int (om 11 0), .int (om 12 0), .int (om 13 0), .int (om 14 0), .int (om 15 0), .int (om 16 0), .int (om 17 0), .int (om 18 0), .int (om 19 0), .int (om 20 0), .int (om 21 0), .ref m_22, .ref m_23, .ref m_24, .int (om 25 0), .int (om 26 0), .ref m_27, .int (om 28 0), .ref m_29, .ref m_30, .int (om 31 0), .int (om 32 0)])), (m_1, .inl (cI, 8, .inl (om 1))), (m_2, .inl (cI, 8, .inl (om 2))), (m_3, .inl (cI, 8, .inl (om 3))), (m_22, .inl (cI, 64, .inl (om 22))), (m_23, .inl (cI, 8, .inl (om 23))), (m_24, .inl (cI, 8, .inl (om 24))), (m_27, .inl (cI, 40, .inl (om 27))), (m_29, .inl (cI, 80, .inl (om 29))), (m_30, .inl (cZ, 2, .inl (om 30)))]
def F_X6_time (om : Ob)  : Option (Int32) :=
  (if (om 14 0) ≤ (om 15 0) then some (om 15 0) else some (om 14 0))
abbrev rm_X6_time : Room := { frames := 0, cells := 0, slots := 0, locals := 0 }
abbrev wu_X6_time : List Cond := .code yX6_time cX6_time 1 (some .int) :: lwG
set_option maxHeartbeats 20000000 in
set_option maxRecDepth 100000 in
theorem c_X6_time (l : Launch) (D : va_G) (cI cZ cO : ClassId) (m_h m_1 m_2 m_3 m_22 m_23 m_24 m_27 m_29 m_30 : Nat) (sz : Nat) (om : Ob)  (q : Int32) (hF : F_X6_time om = some q) : CtI l yX6_time wu_X6_time rm_X6_time D vwCl (tyL cI cZ cO) [.ref m_h] (wm_X6_time cI cZ cO m_h m_1 m_2 m_3 m_22 m_23 m_24 m_27 m_29 m_30 om) sz 0 0 (fun (r : Int32) (u : Unit) => r = q ∧ u = ()) (fun u => wm_X6_time cI cZ cO m_h m_1 m_2 m_3 m_22 m_23 m_24 m_27 m_29 m_30 om) := by
  refine mk_i (cc := cX6_time) (maxL := 1) (by decide) rfl (Nat.le_of_ble_eq_true rfl) ?_
  intro p e s m args below meth c A ls Q hx hb hml hown hts hin hK hP hD hS hA hl hQ
  have hl : lv_has ls 1 [(0, .ref m_h)] := hl
  unfold F_X6_time at hF
  refine lv_aload_n hx hb dX6_time_0 rfl (lv_at hl 0 rfl) ?_
  refine va_get (D := D) (ci := 6) (v := .int (om 14 0)) (C := RX6) (T := TX6) (N := 33) hx hb hts in_X6 hown hK hP 0 rfl rfl 14 (by decide) (hts _ wd_533) (fun _ h9 => h9) rfl dX6_time_1 ?_
  refine lv_aload_n hx hb dX6_time_4 rfl (lv_at hl 0 rfl) ?_
  refine va_get (D := D) (ci := 6) (v := .int (om 15 0)) (C := RX6) (T := TX6) (N := 33) hx hb hts in_X6 hown hK hP 0 rfl rfl 15 (by decide) (hts _ wd_534) (fun _ h9 => h9) rfl dX6_time_5 ?_
  refine lv_icmp_le (tgt := 18) hx hb dX6_time_8 (by decide) (fun h1 => ?_) (fun h1 => ?_)
  · replace hF := of_t h1 hF
    refine lv_aload_n hx hb dX6_time_18 rfl (lv_at hl 0 rfl) ?_
    refine va_get (D := D) (ci := 6) (v := .int (om 15 0)) (C := RX6) (T := TX6) (N := 33) hx hb hts in_X6 hown hK hP 0 rfl rfl 15 (by decide) (hts _ wd_534) (fun _ h9 => h9) rfl dX6_time_19 ?_
    exact hQ _ _ _ _ _ () ⟨Option.some.inj hF, rfl⟩ hP hD hS dX6_time_22
  · replace hF := of_f h1 hF
    refine lv_aload_n hx hb dX6_time_11 rfl (lv_at hl 0 rfl) ?_
    refine va_get (D := D) (ci := 6) (v := .int (om 14 0)) (C := RX6) (T := TX6) (N := 33) hx hb hts in_X6 hown hK hP 0 rfl rfl 14 (by decide) (hts _ wd_533) (fun _ h9 => h9) rfl dX6_time_12 ?_
    refine lv_goto (tgt := 22) hx hb dX6_time_15 (by decide) ?_
    exact hQ _ _ _ _ _ () ⟨Option.some.inj hF, rfl⟩ hP hD hS dX6_time_22

/-! ### ThreeLegsModel.timeOf(I)I -/
abbrev wm_X6_timeOf (cI cZ cO : ClassId) (m_h m_1 m_2 m_3 m_22 m_23 m_24 m_27 m_29 m_30 : Nat) (om : Ob) : va_W := [(m_h, .inr (6, [.int (om 0 0), .ref m_1, .ref m_2, .ref m_3, .int (om 4 0), .int (om 5 0), .int (om 6 0), .int (om 7 0), .int (om 8 0), .int (om 9 0), .int (om 10 0), .int (om 11 0), .int (om 12 0), .int (om 13 0), .int (om 14 0), .int (om 15 0), .int (om 16 0), .int (om 17 0), .int (om 18 0), .int (om 19 0), .int (om 20 0), .int (om 21 0), .ref m_22, .ref m_23, .ref m_24, .int (om 25 0), .int (om 26 0), .ref m_27, .int (om 28 0), .ref m_29, .ref m_30, .int (om 31 0), .int (om 32 0)])), (m_1, .inl (cI, 8, .inl (om 1))), (m_2, .inl (cI, 8, .inl (om 2))), (m_3, .inl (cI, 8, .inl (om 3))), (m_22, .inl (cI, 64, .inl (om 22))), (m_23, .inl (cI, 8, .inl (om 23))), (m_24, .inl (cI, 8, .inl (om 24))), (m_27, .inl (cI, 40, .inl (om 27))), (m_29, .inl (cI, 80, .inl (om 29))), (m_30, .inl (cZ, 2, .inl (om 30)))]
def L_X6_timeOf_4 : Nat → Int32 → Ob → (Ob → Option (Int32 × Ob)) → Option (Int32 × Ob)
  | 0, _, _, _ => none
  | n8 + 1, p0, om6, K2 =>
    (if 999 ≤ (om6 19 0) then K2 om6 else (if p0 ≤ (om6 16 0) then K2 om6 else (F_X6_step om6).bind (fun q11 => L_X6_timeOf_4 n8 p0 q11 K2)))
def F_X6_timeOf (om : Ob) (p0 : Int32) : Option (Int32 × Ob) :=
  (F_X6_begin om).bind (fun q1 => jn (fun (om3 : Ob) => (if (om3 16 0) < p0 then some (1000000000, om3) else (F_X6_time om3).bind (fun q5 => some (q5, om3)))) (fun (K2 : Ob → Option (Int32 × Ob)) => L_X6_timeOf_4 2000 p0 q1 K2))
abbrev rm_X6_timeOf : Room := { frames := 2, cells := 0, slots := 0, locals := 48 }
abbrev wu_X6_timeOf : List Cond := .code yX6_timeOf cX6_timeOf 2 (some .int) :: lwG
set_option maxHeartbeats 20000000 in
set_option maxRecDepth 100000 in
theorem c_X6_timeOf (l : Launch) (D : va_G) (cI cZ cO : ClassId) (m_h m_1 m_2 m_3 m_22 m_23 m_24 m_27 m_29 m_30 : Nat) (sz : Nat) (om : Ob) (p0 : Int32) (q : Int32 × Ob) (hF : F_X6_timeOf om p0 = some q) : CtI l yX6_timeOf wu_X6_timeOf rm_X6_timeOf D vwCl (tyL cI cZ cO) [.ref m_h, .int p0] (wm_X6_timeOf cI cZ cO m_h m_1 m_2 m_3 m_22 m_23 m_24 m_27 m_29 m_30 om) sz 0 0 (fun (r : Int32) (u : Ob) => r = q.1 ∧ u = q.2) (fun u => wm_X6_timeOf cI cZ cO m_h m_1 m_2 m_3 m_22 m_23 m_24 m_27 m_29 m_30 u) := by
  refine mk_i (cc := cX6_timeOf) (maxL := 2) (by decide) rfl (Nat.le_of_ble_eq_true rfl) ?_
  intro p e s m args below meth c A ls Q hx hb hml hown hts hin hK hP hD hS hA hl hQ
  have hl : lv_has ls 2 [(0, .ref m_h), (1, .int p0)] := hl
  unfold F_X6_timeOf at hF
  refine lv_aload_n hx hb dX6_timeOf_0 rfl (lv_at hl 0 rfl) ?_
  obtain ⟨q1, hGq1, hF⟩ := of_bind hF
  refine callVv (As := []) (rest := []) (wr := []) (WN := wm_X6_timeOf cI cZ cO m_h m_1 m_2 m_3 m_22 m_23 m_24 m_27 m_29 m_30 q1) ⟨hx, hb, hml, hown, hts⟩ hK hP hD hS hA [0, 1, 2, 3, 4, 5, 6, 7, 8, 9] [] [0, 1, 2, 3, 4, 5, 6, 7, 8, 9] (c_X6_begin l D cI cZ cO m_h m_1 m_2 m_3 m_22 m_23 m_24 m_27 m_29 m_30 _ om q1 hGq1) (cwV 0 hts (gV wd_659 wd_661 wd_17 wd_39 wd_662) rfl rfl rfl (by decide +kernel) ⟨Nat.le_of_ble_eq_true rfl, Nat.le_of_ble_eq_true rfl⟩) 0 6 rfl rfl rfl rfl rfl rfl rfl (by decide) rfl rfl rfl hl.1 rfl (Nat.le_of_ble_eq_true rfl) dX6_timeOf_1 ⟨Nat.zero_le _, Nat.zero_le _⟩ (fun H locs hP hD hS => ?_)
  obtain ⟨K2, eK2, hF⟩ := of_jn hF
  have hK2 : ∀ (om3 : Ob) (ls : Array Slot) (H : Heap) (locs : List Loc), lv_has ls 2 [(0, .ref m_h), (1, .int p0)] → va_P D vwCl (wm_X6_timeOf cI cZ cO m_h m_1 m_2 m_3 m_22 m_23 m_24 m_27 m_29 m_30 om3) H → va_D A (wm_X6_timeOf cI cZ cO m_h m_1 m_2 m_3 m_22 m_23 m_24 m_27 m_29 m_30 om3) → va_S A s.heap H locs → K2 om3 = some q → W p l e rm_X6_timeOf s m args below meth c H locs 0 0 Q (F0 m 29 ls []) := by
    intro om3 ls H locs hl hP hD hS hF
    subst eK2
    refine lv_aload_n hx hb dX6_timeOf_29 rfl (lv_at hl 0 rfl) ?_
    refine va_get (D := D) (ci := 6) (v := .int (om3 16 0)) (C := RX6) (T := TX6) (N := 33) hx hb hts in_X6 hown hK hP 0 rfl rfl 16 (by decide) (hts _ wd_535) (fun _ h9 => h9) rfl dX6_timeOf_30 ?_
    refine lv_iload_n hx hb dX6_timeOf_33 rfl (lv_at hl 1 rfl) ?_
    refine lv_icmp_lt (tgt := 44) hx hb dX6_timeOf_34 (by decide) (fun h4 => ?_) (fun h4 => ?_)
    · replace hF := of_t h4 hF
      refine lv_ldc hx hb hown (hts _ wd_689) dX6_timeOf_44 ?_
      exact hQ _ _ _ _ _ om3 ⟨inj_fst hF, inj_snd hF⟩ hP hD hS dX6_timeOf_46
    · replace hF := of_f h4 hF
      refine lv_aload_n hx hb dX6_timeOf_37 rfl (lv_at hl 0 rfl) ?_
      obtain ⟨q5, hGq5, hF⟩ := of_bind hF
      refine callVi (As := []) (rest := []) (wr := []) (WN := wm_X6_timeOf cI cZ cO m_h m_1 m_2 m_3 m_22 m_23 m_24 m_27 m_29 m_30 om3) ⟨hx, hb, hml, hown, hts⟩ hK hP hD hS hA [0, 1, 2, 3, 4, 5, 6, 7, 8, 9] [] [0, 1, 2, 3, 4, 5, 6, 7, 8, 9] (c_X6_time l D cI cZ cO m_h m_1 m_2 m_3 m_22 m_23 m_24 m_27 m_29 m_30 _ om3 q5 hGq5) (cwV 0 hts (gV wd_674 wd_676 wd_20 wd_39 wd_677) rfl rfl rfl (by decide +kernel) ⟨Nat.le_of_ble_eq_true rfl, Nat.le_of_ble_eq_true rfl⟩) 0 6 rfl rfl rfl rfl rfl rfl rfl (by decide) rfl rfl rfl hl.1 rfl (Nat.le_of_ble_eq_true rfl) dX6_timeOf_38 ⟨Nat.zero_le _, Nat.zero_le _⟩ (fun H locs hP hD hS => ?_)
      refine lv_goto (tgt := 46) hx hb dX6_timeOf_41 (by decide) ?_
      exact hQ _ _ _ _ _ om3 ⟨inj_fst hF, inj_snd hF⟩ hP hD hS dX6_timeOf_46
  have hloop12 : ∀ (n8 : Nat) (om6 : Ob) (ls : Array Slot) (H : Heap) (locs : List Loc), lv_has ls 2 [(0, .ref m_h), (1, .int p0)] → va_P D vwCl (wm_X6_timeOf cI cZ cO m_h m_1 m_2 m_3 m_22 m_23 m_24 m_27 m_29 m_30 om6) H → va_D A (wm_X6_timeOf cI cZ cO m_h m_1 m_2 m_3 m_22 m_23 m_24 m_27 m_29 m_30 om6) → va_S A s.heap H locs → L_X6_timeOf_4 n8 p0 om6 K2 = some q → W p l e rm_X6_timeOf s m args below meth c H locs 0 0 Q (F0 m 4 ls []) := by
    intro n8
    induction n8 with
    | zero =>
      intro om6 ls H locs hl hP hD hS hF
      exact of_none hF
    | succ n8 ih7 =>
      intro om6 ls H locs hl hP hD hS hF
      rw [L_X6_timeOf_4.eq_2] at hF
      refine lv_aload_n hx hb dX6_timeOf_4 rfl (lv_at hl 0 rfl) ?_
      refine va_get (D := D) (ci := 6) (v := .int (om6 19 0)) (C := RX6) (T := TX6) (N := 33) hx hb hts in_X6 hown hK hP 0 rfl rfl 19 (by decide) (hts _ wd_538) (fun _ h9 => h9) rfl dX6_timeOf_5 ?_
      refine lv_sipush (v := 999) hx hb dX6_timeOf_8 (by decide) ?_
      refine lv_icmp_ge (tgt := 29) hx hb dX6_timeOf_11 (by decide) (fun h9 => ?_) (fun h9 => ?_)
      · replace hF := of_t h9 hF
        exact hK2 om6 ls _ _ (lv_sub hl [0, 1] rfl) hP hD hS hF
      · replace hF := of_f h9 hF
        refine lv_aload_n hx hb dX6_timeOf_14 rfl (lv_at hl 0 rfl) ?_
        refine va_get (D := D) (ci := 6) (v := .int (om6 16 0)) (C := RX6) (T := TX6) (N := 33) hx hb hts in_X6 hown hK hP 0 rfl rfl 16 (by decide) (hts _ wd_535) (fun _ h9 => h9) rfl dX6_timeOf_15 ?_
        refine lv_iload_n hx hb dX6_timeOf_18 rfl (lv_at hl 1 rfl) ?_
        refine lv_icmp_ge (tgt := 29) hx hb dX6_timeOf_19 (by decide) (fun h10 => ?_) (fun h10 => ?_)
        · replace hF := of_t h10 hF
          exact hK2 om6 ls _ _ (lv_sub hl [0, 1] rfl) hP hD hS hF
        · replace hF := of_f h10 hF
          refine lv_aload_n hx hb dX6_timeOf_22 rfl (lv_at hl 0 rfl) ?_
          obtain ⟨q11, hGq11, hF⟩ := of_bind hF
          refine callVv (As := []) (rest := []) (wr := []) (WN := wm_X6_timeOf cI cZ cO m_h m_1 m_2 m_3 m_22 m_23 m_24 m_27 m_29 m_30 q11) ⟨hx, hb, hml, hown, hts⟩ hK hP hD hS hA [0, 1, 2, 3, 4, 5, 6, 7, 8, 9] [] [0, 1, 2, 3, 4, 5, 6, 7, 8, 9] (c_X6_step l D cI cZ cO m_h m_1 m_2 m_3 m_22 m_23 m_24 m_27 m_29 m_30 _ om6 q11 hGq11) (cwV 0 hts (gV wd_663 wd_665 wd_18 wd_39 wd_666) rfl rfl rfl (by decide +kernel) ⟨Nat.le_of_ble_eq_true rfl, Nat.le_of_ble_eq_true rfl⟩) 0 6 rfl rfl rfl rfl rfl rfl rfl (by decide) rfl rfl rfl hl.1 rfl (Nat.le_of_ble_eq_true rfl) dX6_timeOf_23 ⟨Nat.zero_le _, Nat.zero_le _⟩ (fun H locs hP hD hS => ?_)
          refine lv_goto (tgt := 4) hx hb dX6_timeOf_26 (by decide) ?_
          exact ih7 q11 ls _ _ (lv_sub hl [0, 1] rfl) hP hD hS hF
  exact hloop12 2000 q1 ls _ _ (lv_sub hl [0, 1] rfl) hP hD hS hF

/-! ### ThreeLegsModel.pair(IIII)I -/
abbrev wm_X6_pair (cI cZ cO : ClassId) (m_h m_1 m_2 m_3 m_22 m_23 m_24 m_27 m_29 m_30 : Nat) (om : Ob) : va_W := [(m_h, .inr (6, [.int (om 0 0), .ref m_1, .ref m_2, .ref m_3, .int (om 4 0), .int (om 5 0), .int (om 6 0), .int (om 7 0), .int (om 8 0), .int (om 9 0), .int (om 10 0), .int (om 11 0), .int (om 12 0), .int (om 13 0), .int (om 14 0), .int (om 15 0), .int (om 16 0), .int (om 17 0), .int (om 18 0), .int (om 19 0), .int (om 20 0), .int (om 21 0), .ref m_22, .ref m_23, .ref m_24, .int (om 25 0), .int (om 26 0), .ref m_27, .int (om 28 0), .ref m_29, .ref m_30, .int (om 31 0), .int (om 32 0)])), (m_1, .inl (cI, 8, .inl (om 1))), (m_2, .inl (cI, 8, .inl (om 2))), (m_3, .inl (cI, 8, .inl (om 3))), (m_22, .inl (cI, 64, .inl (om 22))), (m_23, .inl (cI, 8, .inl (om 23))), (m_24, .inl (cI, 8, .inl (om 24))), (m_27, .inl (cI, 40, .inl (om 27))), (m_29, .inl (cI, 80, .inl (om 29))), (m_30, .inl (cZ, 2, .inl (om 30)))]
def L_X6_pair_49 : Nat → Int32 → Ob → (Ob → Option (Int32 × Ob)) → Option (Int32 × Ob)
  | 0, _, _, _ => none
  | n23 + 1, p2, om21, K9 =>
    (if p2 ≤ (om21 19 0) then K9 om21 else (F_X6_step om21).bind (fun q25 => L_X6_pair_49 n23 p2 q25 K9))
def F_X6_pair (om : Ob) (p0 : Int32) (p1 : Int32) (p2 : Int32) (p3 : Int32) : Option (Int32 × Ob) :=
  (F_X6_isPair om p0 p1).bind (fun q1 => (if q1 = 0 then some ((-1), om) else (F_X6_in (Int32.toInt64 p2) (0 : Int64) (999 : Int64)).bind (fun q3 => (if q3 = 0 then some ((-2), om) else (F_X6_in (Int32.toInt64 p3) (0 : Int64) (4 : Int64)).bind (fun q5 => (if q5 = 0 then some ((-2), om) else (F_X6_layPair om p0 p1).bind (fun q7 => (F_X6_begin q7).bind (fun q8 => jn (fun (om10 : Ob) => jn (fun (v12 : Int32) => (if p3 = 0 then (F_X6_time om10).bind (fun q17 => some (q17, om10)) else (if p3 = 1 then some ((om10 16 0), om10) else (if p3 = 2 then some ((om10 17 0), om10) else (if p3 = 3 then some ((om10 18 0), om10) else some (v12, om10)))))) (fun (K11 : Int32 → Option (Int32 × Ob)) => (if (om10 14 0) ≤ (om10 15 0) then dd ((om10 15 0) - (om10 14 0)) (fun (v19 : Int32) => K11 v19) else dd ((om10 14 0) - (om10 15 0)) (fun (v20 : Int32) => K11 v20)))) (fun (K9 : Ob → Option (Int32 × Ob)) => L_X6_pair_49 2000 p2 q8 K9)))))))))
abbrev rm_X6_pair : Room := { frames := 3, cells := 0, slots := 0, locals := 68 }
abbrev wu_X6_pair : List Cond := .code yX6_pair cX6_pair 6 (some .int) :: lwG
set_option maxHeartbeats 20000000 in
set_option maxRecDepth 100000 in
theorem c_X6_pair (l : Launch) (D : va_G) (cI cZ cO : ClassId) (m_h m_1 m_2 m_3 m_22 m_23 m_24 m_27 m_29 m_30 : Nat) (sz : Nat) (om : Ob) (p0 : Int32) (p1 : Int32) (p2 : Int32) (p3 : Int32) (q : Int32 × Ob) (hF : F_X6_pair om p0 p1 p2 p3 = some q) : CtI l yX6_pair wu_X6_pair rm_X6_pair D vwCl (tyL cI cZ cO) [.ref m_h, .int p0, .int p1, .int p2, .int p3] (wm_X6_pair cI cZ cO m_h m_1 m_2 m_3 m_22 m_23 m_24 m_27 m_29 m_30 om) sz 0 0 (fun (r : Int32) (u : Ob) => r = q.1 ∧ u = q.2) (fun u => wm_X6_pair cI cZ cO m_h m_1 m_2 m_3 m_22 m_23 m_24 m_27 m_29 m_30 u) := by
  refine mk_i (cc := cX6_pair) (maxL := 6) (by decide) rfl (Nat.le_of_ble_eq_true rfl) ?_
  intro p e s m args below meth c A ls Q hx hb hml hown hts hin hK hP hD hS hA hl hQ
  have hl : lv_has ls 6 [(0, .ref m_h), (1, .int p0), (2, .int p1), (3, .int p2), (4, .int p3)] := hl
  unfold F_X6_pair at hF
  refine lv_aload_n hx hb dX6_pair_0 rfl (lv_at hl 0 rfl) ?_
  refine lv_iload_n hx hb dX6_pair_1 rfl (lv_at hl 1 rfl) ?_
  refine lv_iload_n hx hb dX6_pair_2 rfl (lv_at hl 2 rfl) ?_
  obtain ⟨q1, hGq1, hF⟩ := of_bind hF
  refine callVi (As := [.int p0, .int p1]) (rest := []) (wr := []) (WN := wm_X6_pair cI cZ cO m_h m_1 m_2 m_3 m_22 m_23 m_24 m_27 m_29 m_30 om) ⟨hx, hb, hml, hown, hts⟩ hK hP hD hS hA [0, 1, 2, 3, 4, 5, 6, 7, 8, 9] [] [0, 1, 2, 3, 4, 5, 6, 7, 8, 9] (c_X6_isPair l D cI cZ cO m_h m_1 m_2 m_3 m_22 m_23 m_24 m_27 m_29 m_30 _ om p0 p1 q1 hGq1) (cwV 2 hts (gV wd_650 wd_652 wd_15 wd_39 wd_653) rfl rfl rfl (by decide +kernel) ⟨Nat.le_of_ble_eq_true rfl, Nat.le_of_ble_eq_true rfl⟩) 0 6 rfl rfl rfl rfl rfl rfl rfl (by decide) rfl rfl rfl hl.1 rfl (Nat.le_of_ble_eq_true rfl) dX6_pair_3 ⟨Nat.zero_le _, Nat.zero_le _⟩ (fun H locs hP hD hS => ?_)
  refine lv_if_ne (tgt := 11) hx hb dX6_pair_6 (by decide) (fun h2 => ?_) (fun h2 => ?_)
  · replace hF := of_f h2 hF
    refine lv_iload_n hx hb dX6_pair_11 rfl (lv_at hl 3 rfl) ?_
    refine lv_i2l hx hb dX6_pair_12 rfl ?_
    refine lv_lconst (v := 0) hx hb dX6_pair_13 (by decide) ?_
    refine lv_ldc2 hx hb hown (hts _ wd_654) dX6_pair_14 ?_
    obtain ⟨q3, hGq3, hF⟩ := of_bind hF
    refine callSi (As := [.long (Int32.toInt64 p2), .long (0 : Int64), .long (999 : Int64)]) (rest := []) ⟨hx, hb, hml, hown, hts⟩ hK hP hD hS hA (c_X6_in l D cI cZ cO  _ (Int32.toInt64 p2) (0 : Int64) (999 : Int64) q3 hGq3) (va_cwS 3 hts (gS wd_624 wd_625 wd_39 wd_626) rfl rfl rfl (by decide +kernel) ⟨Nat.le_of_ble_eq_true rfl, Nat.le_of_ble_eq_true rfl⟩) rfl hl.1 rfl (Nat.le_of_ble_eq_true rfl) dX6_pair_17 ⟨Nat.zero_le _, Nat.zero_le _⟩ (fun H locs hP hS => ?_)
    refine lv_if_eq (tgt := 36) hx hb dX6_pair_20 (by decide) (fun h4 => ?_) (fun h4 => ?_)
    · replace hF := of_t h4 hF
      refine lv_bipush (v := (-2)) hx hb dX6_pair_36 (by decide) ?_
      exact hQ _ _ _ _ _ om ⟨inj_fst hF, inj_snd hF⟩ hP hD hS dX6_pair_38
    · replace hF := of_f h4 hF
      refine lv_iload hx hb dX6_pair_23 (lv_at hl 4 rfl) ?_
      refine lv_i2l hx hb dX6_pair_25 rfl ?_
      refine lv_lconst (v := 0) hx hb dX6_pair_26 (by decide) ?_
      refine lv_ldc2 hx hb hown (hts _ wd_627) dX6_pair_27 ?_
      obtain ⟨q5, hGq5, hF⟩ := of_bind hF
      refine callSi (As := [.long (Int32.toInt64 p3), .long (0 : Int64), .long (4 : Int64)]) (rest := []) ⟨hx, hb, hml, hown, hts⟩ hK hP hD hS hA (c_X6_in l D cI cZ cO  _ (Int32.toInt64 p3) (0 : Int64) (4 : Int64) q5 hGq5) (va_cwS 3 hts (gS wd_624 wd_625 wd_39 wd_626) rfl rfl rfl (by decide +kernel) ⟨Nat.le_of_ble_eq_true rfl, Nat.le_of_ble_eq_true rfl⟩) rfl hl.1 rfl (Nat.le_of_ble_eq_true rfl) dX6_pair_30 ⟨Nat.zero_le _, Nat.zero_le _⟩ (fun H locs hP hS => ?_)
      refine lv_if_ne (tgt := 39) hx hb dX6_pair_33 (by decide) (fun h6 => ?_) (fun h6 => ?_)
      · replace hF := of_f h6 hF
        refine lv_aload_n hx hb dX6_pair_39 rfl (lv_at hl 0 rfl) ?_
        refine lv_iload_n hx hb dX6_pair_40 rfl (lv_at hl 1 rfl) ?_
        refine lv_iload_n hx hb dX6_pair_41 rfl (lv_at hl 2 rfl) ?_
        obtain ⟨q7, hGq7, hF⟩ := of_bind hF
        refine callVv (As := [.int p0, .int p1]) (rest := []) (wr := []) (WN := wm_X6_pair cI cZ cO m_h m_1 m_2 m_3 m_22 m_23 m_24 m_27 m_29 m_30 q7) ⟨hx, hb, hml, hown, hts⟩ hK hP hD hS hA [0, 1, 2, 3, 4, 5, 6, 7, 8, 9] [] [0, 1, 2, 3, 4, 5, 6, 7, 8, 9] (c_X6_layPair l D cI cZ cO m_h m_1 m_2 m_3 m_22 m_23 m_24 m_27 m_29 m_30 _ om p0 p1 q7 hGq7) (cwV 2 hts (gV wd_655 wd_657 wd_16 wd_39 wd_658) rfl rfl rfl (by decide +kernel) ⟨Nat.le_of_ble_eq_true rfl, Nat.le_of_ble_eq_true rfl⟩) 0 6 rfl rfl rfl rfl rfl rfl rfl (by decide) rfl rfl rfl hl.1 rfl (Nat.le_of_ble_eq_true rfl) dX6_pair_42 ⟨Nat.zero_le _, Nat.zero_le _⟩ (fun H locs hP hD hS => ?_)
        refine lv_aload_n hx hb dX6_pair_45 rfl (lv_at hl 0 rfl) ?_
        obtain ⟨q8, hGq8, hF⟩ := of_bind hF
        refine callVv (As := []) (rest := []) (wr := []) (WN := wm_X6_pair cI cZ cO m_h m_1 m_2 m_3 m_22 m_23 m_24 m_27 m_29 m_30 q8) ⟨hx, hb, hml, hown, hts⟩ hK hP hD hS hA [0, 1, 2, 3, 4, 5, 6, 7, 8, 9] [] [0, 1, 2, 3, 4, 5, 6, 7, 8, 9] (c_X6_begin l D cI cZ cO m_h m_1 m_2 m_3 m_22 m_23 m_24 m_27 m_29 m_30 _ q7 q8 hGq8) (cwV 0 hts (gV wd_659 wd_661 wd_17 wd_39 wd_662) rfl rfl rfl (by decide +kernel) ⟨Nat.le_of_ble_eq_true rfl, Nat.le_of_ble_eq_true rfl⟩) 0 6 rfl rfl rfl rfl rfl rfl rfl (by decide) rfl rfl rfl hl.1 rfl (Nat.le_of_ble_eq_true rfl) dX6_pair_46 ⟨Nat.zero_le _, Nat.zero_le _⟩ (fun H locs hP hD hS => ?_)
        obtain ⟨K9, eK9, hF⟩ := of_jn hF
        have hK9 : ∀ (om10 : Ob) (ls : Array Slot) (H : Heap) (locs : List Loc), lv_has ls 6 [(0, .ref m_h), (4, .int p3)] → va_P D vwCl (wm_X6_pair cI cZ cO m_h m_1 m_2 m_3 m_22 m_23 m_24 m_27 m_29 m_30 om10) H → va_D A (wm_X6_pair cI cZ cO m_h m_1 m_2 m_3 m_22 m_23 m_24 m_27 m_29 m_30 om10) → va_S A s.heap H locs → K9 om10 = some q → W p l e rm_X6_pair s m args below meth c H locs 0 0 Q (F0 m 64 ls []) := by
          intro om10 ls H locs hl hP hD hS hF
          subst eK9
          refine lv_aload_n hx hb dX6_pair_64 rfl (lv_at hl 0 rfl) ?_
          refine va_get (D := D) (ci := 6) (v := .int (om10 14 0)) (C := RX6) (T := TX6) (N := 33) hx hb hts in_X6 hown hK hP 0 rfl rfl 14 (by decide) (hts _ wd_533) (fun _ h9 => h9) rfl dX6_pair_65 ?_
          refine lv_aload_n hx hb dX6_pair_68 rfl (lv_at hl 0 rfl) ?_
          refine va_get (D := D) (ci := 6) (v := .int (om10 15 0)) (C := RX6) (T := TX6) (N := 33) hx hb hts in_X6 hown hK hP 0 rfl rfl 15 (by decide) (hts _ wd_534) (fun _ h9 => h9) rfl dX6_pair_69 ?_
          obtain ⟨K11, eK11, hF⟩ := of_jn hF
          have hK11 : ∀ (v12 : Int32) (ls : Array Slot) (H : Heap) (locs : List Loc), lv_has ls 6 [(0, .ref m_h), (4, .int p3)] → va_P D vwCl (wm_X6_pair cI cZ cO m_h m_1 m_2 m_3 m_22 m_23 m_24 m_27 m_29 m_30 om10) H → va_D A (wm_X6_pair cI cZ cO m_h m_1 m_2 m_3 m_22 m_23 m_24 m_27 m_29 m_30 om10) → va_S A s.heap H locs → K11 v12 = some q → W p l e rm_X6_pair s m args below meth c H locs 0 0 Q (F0 m 96 ls [.int v12]) := by
            intro v12 ls H locs hl hP hD hS hF
            subst eK11
            refine lv_istore (lv' := [(5, .int v12), (0, .ref m_h), (4, .int p3)]) hx hb dX6_pair_96 hl (by decide) rfl (fun ls hl => ?_)
            refine lv_iload hx hb dX6_pair_98 (lv_at hl 2 rfl) ?_
            refine lv_if_ne (tgt := 110) hx hb dX6_pair_100 (by decide) (fun h13 => ?_) (fun h13 => ?_)
            · replace hF := of_f h13 hF
              refine lv_iload hx hb dX6_pair_110 (lv_at hl 2 rfl) ?_
              refine lv_iconst (v := 1) hx hb dX6_pair_112 (by decide) ?_
              refine lv_icmp_ne (tgt := 123) hx hb dX6_pair_113 (by decide) (fun h14 => ?_) (fun h14 => ?_)
              · replace hF := of_f h14 hF
                refine lv_iload hx hb dX6_pair_123 (lv_at hl 2 rfl) ?_
                refine lv_iconst (v := 2) hx hb dX6_pair_125 (by decide) ?_
                refine lv_icmp_ne (tgt := 136) hx hb dX6_pair_126 (by decide) (fun h15 => ?_) (fun h15 => ?_)
                · replace hF := of_f h15 hF
                  refine lv_iload hx hb dX6_pair_136 (lv_at hl 2 rfl) ?_
                  refine lv_iconst (v := 3) hx hb dX6_pair_138 (by decide) ?_
                  refine lv_icmp_ne (tgt := 149) hx hb dX6_pair_139 (by decide) (fun h16 => ?_) (fun h16 => ?_)
                  · replace hF := of_f h16 hF
                    refine lv_iload hx hb dX6_pair_149 (lv_at hl 0 rfl) ?_
                    exact hQ _ _ _ _ _ om10 ⟨inj_fst hF, inj_snd hF⟩ hP hD hS dX6_pair_151
                  · replace hF := of_t h16 hF
                    refine lv_aload_n hx hb dX6_pair_142 rfl (lv_at hl 1 rfl) ?_
                    refine va_get (D := D) (ci := 6) (v := .int (om10 18 0)) (C := RX6) (T := TX6) (N := 33) hx hb hts in_X6 hown hK hP 0 rfl rfl 18 (by decide) (hts _ wd_537) (fun _ h9 => h9) rfl dX6_pair_143 ?_
                    refine lv_goto (tgt := 151) hx hb dX6_pair_146 (by decide) ?_
                    exact hQ _ _ _ _ _ om10 ⟨inj_fst hF, inj_snd hF⟩ hP hD hS dX6_pair_151
                · replace hF := of_t h15 hF
                  refine lv_aload_n hx hb dX6_pair_129 rfl (lv_at hl 1 rfl) ?_
                  refine va_get (D := D) (ci := 6) (v := .int (om10 17 0)) (C := RX6) (T := TX6) (N := 33) hx hb hts in_X6 hown hK hP 0 rfl rfl 17 (by decide) (hts _ wd_536) (fun _ h9 => h9) rfl dX6_pair_130 ?_
                  refine lv_goto (tgt := 151) hx hb dX6_pair_133 (by decide) ?_
                  exact hQ _ _ _ _ _ om10 ⟨inj_fst hF, inj_snd hF⟩ hP hD hS dX6_pair_151
              · replace hF := of_t h14 hF
                refine lv_aload_n hx hb dX6_pair_116 rfl (lv_at hl 1 rfl) ?_
                refine va_get (D := D) (ci := 6) (v := .int (om10 16 0)) (C := RX6) (T := TX6) (N := 33) hx hb hts in_X6 hown hK hP 0 rfl rfl 16 (by decide) (hts _ wd_535) (fun _ h9 => h9) rfl dX6_pair_117 ?_
                refine lv_goto (tgt := 151) hx hb dX6_pair_120 (by decide) ?_
                exact hQ _ _ _ _ _ om10 ⟨inj_fst hF, inj_snd hF⟩ hP hD hS dX6_pair_151
            · replace hF := of_t h13 hF
              refine lv_aload_n hx hb dX6_pair_103 rfl (lv_at hl 1 rfl) ?_
              obtain ⟨q17, hGq17, hF⟩ := of_bind hF
              refine callVi (As := []) (rest := []) (wr := []) (WN := wm_X6_pair cI cZ cO m_h m_1 m_2 m_3 m_22 m_23 m_24 m_27 m_29 m_30 om10) ⟨hx, hb, hml, hown, hts⟩ hK hP hD hS hA [0, 1, 2, 3, 4, 5, 6, 7, 8, 9] [] [0, 1, 2, 3, 4, 5, 6, 7, 8, 9] (c_X6_time l D cI cZ cO m_h m_1 m_2 m_3 m_22 m_23 m_24 m_27 m_29 m_30 _ om10 q17 hGq17) (cwV 0 hts (gV wd_674 wd_676 wd_20 wd_39 wd_677) rfl rfl rfl (by decide +kernel) ⟨Nat.le_of_ble_eq_true rfl, Nat.le_of_ble_eq_true rfl⟩) 0 6 rfl rfl rfl rfl rfl rfl rfl (by decide) rfl rfl rfl hl.1 rfl (Nat.le_of_ble_eq_true rfl) dX6_pair_104 ⟨Nat.zero_le _, Nat.zero_le _⟩ (fun H locs hP hD hS => ?_)
              refine lv_goto (tgt := 151) hx hb dX6_pair_107 (by decide) ?_
              exact hQ _ _ _ _ _ om10 ⟨inj_fst hF, inj_snd hF⟩ hP hD hS dX6_pair_151
          refine lv_icmp_le (tgt := 87) hx hb dX6_pair_72 (by decide) (fun h18 => ?_) (fun h18 => ?_)
          · replace hF := of_t h18 hF
            refine lv_aload_n hx hb dX6_pair_87 rfl (lv_at hl 0 rfl) ?_
            refine va_get (D := D) (ci := 6) (v := .int (om10 15 0)) (C := RX6) (T := TX6) (N := 33) hx hb hts in_X6 hown hK hP 0 rfl rfl 15 (by decide) (hts _ wd_534) (fun _ h9 => h9) rfl dX6_pair_88 ?_
            refine lv_aload_n hx hb dX6_pair_91 rfl (lv_at hl 0 rfl) ?_
            refine va_get (D := D) (ci := 6) (v := .int (om10 14 0)) (C := RX6) (T := TX6) (N := 33) hx hb hts in_X6 hown hK hP 0 rfl rfl 14 (by decide) (hts _ wd_533) (fun _ h9 => h9) rfl dX6_pair_92 ?_
            refine lv_isub hx hb dX6_pair_95 ?_
            refine lv_topi (fun v19 ev19 => ?_)
            replace hF := of_dd hF v19 ev19
            exact hK11 v19 ls _ _ (lv_sub hl [0, 1] rfl) hP hD hS hF
          · replace hF := of_f h18 hF
            refine lv_aload_n hx hb dX6_pair_75 rfl (lv_at hl 0 rfl) ?_
            refine va_get (D := D) (ci := 6) (v := .int (om10 14 0)) (C := RX6) (T := TX6) (N := 33) hx hb hts in_X6 hown hK hP 0 rfl rfl 14 (by decide) (hts _ wd_533) (fun _ h9 => h9) rfl dX6_pair_76 ?_
            refine lv_aload_n hx hb dX6_pair_79 rfl (lv_at hl 0 rfl) ?_
            refine va_get (D := D) (ci := 6) (v := .int (om10 15 0)) (C := RX6) (T := TX6) (N := 33) hx hb hts in_X6 hown hK hP 0 rfl rfl 15 (by decide) (hts _ wd_534) (fun _ h9 => h9) rfl dX6_pair_80 ?_
            refine lv_isub hx hb dX6_pair_83 ?_
            refine lv_topi (fun v20 ev20 => ?_)
            replace hF := of_dd hF v20 ev20
            refine lv_goto (tgt := 96) hx hb dX6_pair_84 (by decide) ?_
            exact hK11 v20 ls _ _ (lv_sub hl [0, 1] rfl) hP hD hS hF
        have hloop26 : ∀ (n23 : Nat) (om21 : Ob) (ls : Array Slot) (H : Heap) (locs : List Loc), lv_has ls 6 [(0, .ref m_h), (3, .int p2), (4, .int p3)] → va_P D vwCl (wm_X6_pair cI cZ cO m_h m_1 m_2 m_3 m_22 m_23 m_24 m_27 m_29 m_30 om21) H → va_D A (wm_X6_pair cI cZ cO m_h m_1 m_2 m_3 m_22 m_23 m_24 m_27 m_29 m_30 om21) → va_S A s.heap H locs → L_X6_pair_49 n23 p2 om21 K9 = some q → W p l e rm_X6_pair s m args below meth c H locs 0 0 Q (F0 m 49 ls []) := by
          intro n23
          induction n23 with
          | zero =>
            intro om21 ls H locs hl hP hD hS hF
            exact of_none hF
          | succ n23 ih22 =>
            intro om21 ls H locs hl hP hD hS hF
            rw [L_X6_pair_49.eq_2] at hF
            refine lv_aload_n hx hb dX6_pair_49 rfl (lv_at hl 0 rfl) ?_
            refine va_get (D := D) (ci := 6) (v := .int (om21 19 0)) (C := RX6) (T := TX6) (N := 33) hx hb hts in_X6 hown hK hP 0 rfl rfl 19 (by decide) (hts _ wd_538) (fun _ h9 => h9) rfl dX6_pair_50 ?_
            refine lv_iload_n hx hb dX6_pair_53 rfl (lv_at hl 1 rfl) ?_
            refine lv_icmp_ge (tgt := 64) hx hb dX6_pair_54 (by decide) (fun h24 => ?_) (fun h24 => ?_)
            · replace hF := of_t h24 hF
              exact hK9 om21 ls _ _ (lv_sub hl [0, 2] rfl) hP hD hS hF
            · replace hF := of_f h24 hF
              refine lv_aload_n hx hb dX6_pair_57 rfl (lv_at hl 0 rfl) ?_
              obtain ⟨q25, hGq25, hF⟩ := of_bind hF
              refine callVv (As := []) (rest := []) (wr := []) (WN := wm_X6_pair cI cZ cO m_h m_1 m_2 m_3 m_22 m_23 m_24 m_27 m_29 m_30 q25) ⟨hx, hb, hml, hown, hts⟩ hK hP hD hS hA [0, 1, 2, 3, 4, 5, 6, 7, 8, 9] [] [0, 1, 2, 3, 4, 5, 6, 7, 8, 9] (c_X6_step l D cI cZ cO m_h m_1 m_2 m_3 m_22 m_23 m_24 m_27 m_29 m_30 _ om21 q25 hGq25) (cwV 0 hts (gV wd_663 wd_665 wd_18 wd_39 wd_666) rfl rfl rfl (by decide +kernel) ⟨Nat.le_of_ble_eq_true rfl, Nat.le_of_ble_eq_true rfl⟩) 0 6 rfl rfl rfl rfl rfl rfl rfl (by decide) rfl rfl rfl hl.1 rfl (Nat.le_of_ble_eq_true rfl) dX6_pair_58 ⟨Nat.zero_le _, Nat.zero_le _⟩ (fun H locs hP hD hS => ?_)
              refine lv_goto (tgt := 49) hx hb dX6_pair_61 (by decide) ?_
              exact ih22 q25 ls _ _ (lv_sub hl [0, 1, 2] rfl) hP hD hS hF
        exact hloop26 2000 q8 ls _ _ (lv_sub hl [0, 3, 4] rfl) hP hD hS hF
      · replace hF := of_t h6 hF
        refine lv_bipush (v := (-2)) hx hb dX6_pair_36 (by decide) ?_
        exact hQ _ _ _ _ _ om ⟨inj_fst hF, inj_snd hF⟩ hP hD hS dX6_pair_38
  · replace hF := of_t h2 hF
    refine lv_iconst (v := (-1)) hx hb dX6_pair_9 (by decide) ?_
    exact hQ _ _ _ _ _ om ⟨inj_fst hF, inj_snd hF⟩ hP hD hS dX6_pair_10

/-! ### ThreeLegsModel.isFar(I)Z -/
abbrev wm_X6_isFar (cI cZ cO : ClassId)   : va_W := []
def F_X6_isFar  (p0 : Int32) : Option (Int32) :=
  (F_X6_in (Int32.toInt64 p0) (1 : Int64) (999 : Int64)).bind (fun q1 => gz q1 (some q1))
abbrev rm_X6_isFar : Room := { frames := 1, cells := 0, slots := 0, locals := 25 }
abbrev wu_X6_isFar : List Cond := .code yX6_isFar cX6_isFar 1 (some .boolean) :: lwG
set_option maxHeartbeats 20000000 in
set_option maxRecDepth 100000 in
theorem c_X6_isFar (l : Launch) (D : va_G) (cI cZ cO : ClassId)  (sz : Nat)  (p0 : Int32) (q : Int32) (hF : F_X6_isFar p0 = some q) : CtI l yX6_isFar wu_X6_isFar rm_X6_isFar D vwCl (tyL cI cZ cO) [.int p0] (wm_X6_isFar cI cZ cO) sz 0 0 (fun (r : Int32) (u : Unit) => r = q ∧ u = ()) (fun u => wm_X6_isFar cI cZ cO) := by
  refine mk_z (cc := cX6_isFar) (maxL := 1) (by decide) rfl (Nat.le_of_ble_eq_true rfl) ?_
  intro p e s m args below meth c A ls Q hx hb hml hown hts hin hK hP hD hS hA hl hQ
  have hl : lv_has ls 1 [(0, .int p0)] := hl
  unfold F_X6_isFar at hF
  refine lv_iload_n hx hb dX6_isFar_0 rfl (lv_at hl 0 rfl) ?_
  refine lv_i2l hx hb dX6_isFar_1 rfl ?_
  refine lv_lconst (v := 1) hx hb dX6_isFar_2 (by decide) ?_
  refine lv_ldc2 hx hb hown (hts _ wd_654) dX6_isFar_3 ?_
  obtain ⟨q1, hGq1, hF⟩ := of_bind hF
  refine callSi (As := [.long (Int32.toInt64 p0), .long (1 : Int64), .long (999 : Int64)]) (rest := []) ⟨hx, hb, hml, hown, hts⟩ hK hP hD hS hA (c_X6_in l D cI cZ cO  _ (Int32.toInt64 p0) (1 : Int64) (999 : Int64) q1 hGq1) (va_cwS 3 hts (gS wd_624 wd_625 wd_39 wd_626) rfl rfl rfl (by decide +kernel) ⟨Nat.le_of_ble_eq_true rfl, Nat.le_of_ble_eq_true rfl⟩) rfl hl.1 rfl (Nat.le_of_ble_eq_true rfl) dX6_isFar_6 ⟨Nat.zero_le _, Nat.zero_le _⟩ (fun H locs hP hS => ?_)
  obtain ⟨hz2, hF⟩ := of_gz hF
  exact hQ _ _ _ _ _ () hz2.1 ⟨Option.some.inj hF, rfl⟩ hP hD hS dX6_isFar_9

/-! ### ThreeLegsModel.reach(IIII)I -/
abbrev wm_X6_reach (cI cZ cO : ClassId) (m_h m_1 m_2 m_3 m_22 m_23 m_24 m_27 m_29 m_30 : Nat) (om : Ob) : va_W := [(m_h, .inr (6, [.int (om 0 0), .ref m_1, .ref m_2, .ref m_3, .int (om 4 0), .int (om 5 0), .int (om 6 0), .int (om 7 0), .int (om 8 0), .int (om 9 0), .int (om 10 0), .int (om 11 0), .int (om 12 0), .int (om 13 0), .int (om 14 0), .int (om 15 0), .int (om 16 0), .int (om 17 0), .int (om 18 0), .int (om 19 0), .int (om 20 0), .int (om 21 0), .ref m_22, .ref m_23, .ref m_24, .int (om 25 0), .int (om 26 0), .ref m_27, .int (om 28 0), .ref m_29, .ref m_30, .int (om 31 0), .int (om 32 0)])), (m_1, .inl (cI, 8, .inl (om 1))), (m_2, .inl (cI, 8, .inl (om 2))), (m_3, .inl (cI, 8, .inl (om 3))), (m_22, .inl (cI, 64, .inl (om 22))), (m_23, .inl (cI, 8, .inl (om 23))), (m_24, .inl (cI, 8, .inl (om 24))), (m_27, .inl (cI, 40, .inl (om 27))), (m_29, .inl (cI, 80, .inl (om 29))), (m_30, .inl (cZ, 2, .inl (om 30)))]
def F_X6_reach (om : Ob) (p0 : Int32) (p1 : Int32) (p2 : Int32) (p3 : Int32) : Option (Int32 × Ob) :=
  (F_X6_isPair om p0 p1).bind (fun q1 => (if q1 = 0 then some ((-1), om) else (F_X6_isFar p2).bind (fun q3 => (if q3 = 0 then some ((-2), om) else (F_X6_in (Int32.toInt64 p3) (0 : Int64) (1 : Int64)).bind (fun q5 => (if q5 = 0 then some ((-2), om) else (F_X6_layPair om p0 p1).bind (fun q7 => (F_X6_timeOf q7 p2).bind (fun q8 => (if q8.1 = 1000000000 then some ((-6), q8.2) else (if p3 = 0 then dd ((q8.2 19 0) - 1) (fun (v11 : Int32) => some (v11, q8.2)) else some (q8.1, q8.2)))))))))))
abbrev rm_X6_reach : Room := { frames := 3, cells := 0, slots := 0, locals := 69 }
abbrev wu_X6_reach : List Cond := .code yX6_reach cX6_reach 6 (some .int) :: lwG
set_option maxHeartbeats 20000000 in
set_option maxRecDepth 100000 in
theorem c_X6_reach (l : Launch) (D : va_G) (cI cZ cO : ClassId) (m_h m_1 m_2 m_3 m_22 m_23 m_24 m_27 m_29 m_30 : Nat) (sz : Nat) (om : Ob) (p0 : Int32) (p1 : Int32) (p2 : Int32) (p3 : Int32) (q : Int32 × Ob) (hF : F_X6_reach om p0 p1 p2 p3 = some q) : CtI l yX6_reach wu_X6_reach rm_X6_reach D vwCl (tyL cI cZ cO) [.ref m_h, .int p0, .int p1, .int p2, .int p3] (wm_X6_reach cI cZ cO m_h m_1 m_2 m_3 m_22 m_23 m_24 m_27 m_29 m_30 om) sz 0 0 (fun (r : Int32) (u : Ob) => r = q.1 ∧ u = q.2) (fun u => wm_X6_reach cI cZ cO m_h m_1 m_2 m_3 m_22 m_23 m_24 m_27 m_29 m_30 u) := by
  refine mk_i (cc := cX6_reach) (maxL := 6) (by decide) rfl (Nat.le_of_ble_eq_true rfl) ?_
  intro p e s m args below meth c A ls Q hx hb hml hown hts hin hK hP hD hS hA hl hQ
  have hl : lv_has ls 6 [(0, .ref m_h), (1, .int p0), (2, .int p1), (3, .int p2), (4, .int p3)] := hl
  unfold F_X6_reach at hF
  refine lv_aload_n hx hb dX6_reach_0 rfl (lv_at hl 0 rfl) ?_
  refine lv_iload_n hx hb dX6_reach_1 rfl (lv_at hl 1 rfl) ?_
  refine lv_iload_n hx hb dX6_reach_2 rfl (lv_at hl 2 rfl) ?_
  obtain ⟨q1, hGq1, hF⟩ := of_bind hF
  refine callVi (As := [.int p0, .int p1]) (rest := []) (wr := []) (WN := wm_X6_reach cI cZ cO m_h m_1 m_2 m_3 m_22 m_23 m_24 m_27 m_29 m_30 om) ⟨hx, hb, hml, hown, hts⟩ hK hP hD hS hA [0, 1, 2, 3, 4, 5, 6, 7, 8, 9] [] [0, 1, 2, 3, 4, 5, 6, 7, 8, 9] (c_X6_isPair l D cI cZ cO m_h m_1 m_2 m_3 m_22 m_23 m_24 m_27 m_29 m_30 _ om p0 p1 q1 hGq1) (cwV 2 hts (gV wd_650 wd_652 wd_15 wd_39 wd_653) rfl rfl rfl (by decide +kernel) ⟨Nat.le_of_ble_eq_true rfl, Nat.le_of_ble_eq_true rfl⟩) 0 6 rfl rfl rfl rfl rfl rfl rfl (by decide) rfl rfl rfl hl.1 rfl (Nat.le_of_ble_eq_true rfl) dX6_reach_3 ⟨Nat.zero_le _, Nat.zero_le _⟩ (fun H locs hP hD hS => ?_)
  refine lv_if_ne (tgt := 11) hx hb dX6_reach_6 (by decide) (fun h2 => ?_) (fun h2 => ?_)
  · replace hF := of_f h2 hF
    refine lv_iload_n hx hb dX6_reach_11 rfl (lv_at hl 3 rfl) ?_
    obtain ⟨q3, hGq3, hF⟩ := of_bind hF
    refine callSi (As := [.int p2]) (rest := []) ⟨hx, hb, hml, hown, hts⟩ hK hP hD hS hA (c_X6_isFar l D cI cZ cO  _ p2 q3 hGq3) (va_cwS 1 hts (gS wd_682 wd_683 wd_39 wd_684) rfl rfl rfl (by decide +kernel) ⟨Nat.le_of_ble_eq_true rfl, Nat.le_of_ble_eq_true rfl⟩) rfl hl.1 rfl (Nat.le_of_ble_eq_true rfl) dX6_reach_12 ⟨Nat.zero_le _, Nat.zero_le _⟩ (fun H locs hP hS => ?_)
    refine lv_if_eq (tgt := 29) hx hb dX6_reach_15 (by decide) (fun h4 => ?_) (fun h4 => ?_)
    · replace hF := of_t h4 hF
      refine lv_bipush (v := (-2)) hx hb dX6_reach_29 (by decide) ?_
      exact hQ _ _ _ _ _ om ⟨inj_fst hF, inj_snd hF⟩ hP hD hS dX6_reach_31
    · replace hF := of_f h4 hF
      refine lv_iload hx hb dX6_reach_18 (lv_at hl 4 rfl) ?_
      refine lv_i2l hx hb dX6_reach_20 rfl ?_
      refine lv_lconst (v := 0) hx hb dX6_reach_21 (by decide) ?_
      refine lv_lconst (v := 1) hx hb dX6_reach_22 (by decide) ?_
      obtain ⟨q5, hGq5, hF⟩ := of_bind hF
      refine callSi (As := [.long (Int32.toInt64 p3), .long (0 : Int64), .long (1 : Int64)]) (rest := []) ⟨hx, hb, hml, hown, hts⟩ hK hP hD hS hA (c_X6_in l D cI cZ cO  _ (Int32.toInt64 p3) (0 : Int64) (1 : Int64) q5 hGq5) (va_cwS 3 hts (gS wd_624 wd_625 wd_39 wd_626) rfl rfl rfl (by decide +kernel) ⟨Nat.le_of_ble_eq_true rfl, Nat.le_of_ble_eq_true rfl⟩) rfl hl.1 rfl (Nat.le_of_ble_eq_true rfl) dX6_reach_23 ⟨Nat.zero_le _, Nat.zero_le _⟩ (fun H locs hP hS => ?_)
      refine lv_if_ne (tgt := 32) hx hb dX6_reach_26 (by decide) (fun h6 => ?_) (fun h6 => ?_)
      · replace hF := of_f h6 hF
        refine lv_aload_n hx hb dX6_reach_32 rfl (lv_at hl 0 rfl) ?_
        refine lv_iload_n hx hb dX6_reach_33 rfl (lv_at hl 1 rfl) ?_
        refine lv_iload_n hx hb dX6_reach_34 rfl (lv_at hl 2 rfl) ?_
        obtain ⟨q7, hGq7, hF⟩ := of_bind hF
        refine callVv (As := [.int p0, .int p1]) (rest := []) (wr := []) (WN := wm_X6_reach cI cZ cO m_h m_1 m_2 m_3 m_22 m_23 m_24 m_27 m_29 m_30 q7) ⟨hx, hb, hml, hown, hts⟩ hK hP hD hS hA [0, 1, 2, 3, 4, 5, 6, 7, 8, 9] [] [0, 1, 2, 3, 4, 5, 6, 7, 8, 9] (c_X6_layPair l D cI cZ cO m_h m_1 m_2 m_3 m_22 m_23 m_24 m_27 m_29 m_30 _ om p0 p1 q7 hGq7) (cwV 2 hts (gV wd_655 wd_657 wd_16 wd_39 wd_658) rfl rfl rfl (by decide +kernel) ⟨Nat.le_of_ble_eq_true rfl, Nat.le_of_ble_eq_true rfl⟩) 0 6 rfl rfl rfl rfl rfl rfl rfl (by decide) rfl rfl rfl hl.1 rfl (Nat.le_of_ble_eq_true rfl) dX6_reach_35 ⟨Nat.zero_le _, Nat.zero_le _⟩ (fun H locs hP hD hS => ?_)
        refine lv_aload_n hx hb dX6_reach_38 rfl (lv_at hl 0 rfl) ?_
        refine lv_iload_n hx hb dX6_reach_39 rfl (lv_at hl 3 rfl) ?_
        obtain ⟨q8, hGq8, hF⟩ := of_bind hF
        refine callVi (As := [.int p2]) (rest := []) (wr := []) (WN := wm_X6_reach cI cZ cO m_h m_1 m_2 m_3 m_22 m_23 m_24 m_27 m_29 m_30 q8.2) ⟨hx, hb, hml, hown, hts⟩ hK hP hD hS hA [0, 1, 2, 3, 4, 5, 6, 7, 8, 9] [] [0, 1, 2, 3, 4, 5, 6, 7, 8, 9] (c_X6_timeOf l D cI cZ cO m_h m_1 m_2 m_3 m_22 m_23 m_24 m_27 m_29 m_30 _ q7 p2 q8 hGq8) (cwV 1 hts (gV wd_685 wd_687 wd_21 wd_39 wd_688) rfl rfl rfl (by decide +kernel) ⟨Nat.le_of_ble_eq_true rfl, Nat.le_of_ble_eq_true rfl⟩) 0 6 rfl rfl rfl rfl rfl rfl rfl (by decide) rfl rfl rfl hl.1 rfl (Nat.le_of_ble_eq_true rfl) dX6_reach_40 ⟨Nat.zero_le _, Nat.zero_le _⟩ (fun H locs hP hD hS => ?_)
        refine lv_istore (lv' := [(5, .int q8.1), (0, .ref m_h), (1, .int p0), (2, .int p1), (3, .int p2), (4, .int p3)]) hx hb dX6_reach_43 hl (by decide) rfl (fun ls hl => ?_)
        refine lv_iload hx hb dX6_reach_45 (lv_at hl 0 rfl) ?_
        refine lv_ldc hx hb hown (hts _ wd_689) dX6_reach_47 ?_
        refine lv_icmp_ne (tgt := 57) hx hb dX6_reach_49 (by decide) (fun h9 => ?_) (fun h9 => ?_)
        · replace hF := of_f h9 hF
          refine lv_iload hx hb dX6_reach_57 (lv_at hl 5 rfl) ?_
          refine lv_if_ne (tgt := 71) hx hb dX6_reach_59 (by decide) (fun h10 => ?_) (fun h10 => ?_)
          · replace hF := of_f h10 hF
            refine lv_iload hx hb dX6_reach_71 (lv_at hl 0 rfl) ?_
            exact hQ _ _ _ _ _ q8.2 ⟨inj_fst hF, inj_snd hF⟩ hP hD hS dX6_reach_73
          · replace hF := of_t h10 hF
            refine lv_aload_n hx hb dX6_reach_62 rfl (lv_at hl 1 rfl) ?_
            refine va_get (D := D) (ci := 6) (v := .int (q8.2 19 0)) (C := RX6) (T := TX6) (N := 33) hx hb hts in_X6 hown hK hP 0 rfl rfl 19 (by decide) (hts _ wd_538) (fun _ h9 => h9) rfl dX6_reach_63 ?_
            refine lv_iconst (v := 1) hx hb dX6_reach_66 (by decide) ?_
            refine lv_isub hx hb dX6_reach_67 ?_
            refine lv_topi (fun v11 ev11 => ?_)
            replace hF := of_dd hF v11 ev11
            refine lv_goto (tgt := 73) hx hb dX6_reach_68 (by decide) ?_
            exact hQ _ _ _ _ _ q8.2 ⟨inj_fst hF, inj_snd hF⟩ hP hD hS dX6_reach_73
        · replace hF := of_t h9 hF
          refine lv_bipush (v := (-6)) hx hb dX6_reach_52 (by decide) ?_
          refine lv_goto (tgt := 73) hx hb dX6_reach_54 (by decide) ?_
          exact hQ _ _ _ _ _ q8.2 ⟨inj_fst hF, inj_snd hF⟩ hP hD hS dX6_reach_73
      · replace hF := of_t h6 hF
        refine lv_bipush (v := (-2)) hx hb dX6_reach_29 (by decide) ?_
        exact hQ _ _ _ _ _ om ⟨inj_fst hF, inj_snd hF⟩ hP hD hS dX6_reach_31
  · replace hF := of_t h2 hF
    refine lv_iconst (v := (-1)) hx hb dX6_reach_9 (by decide) ?_
    exact hQ _ _ _ _ _ om ⟨inj_fst hF, inj_snd hF⟩ hP hD hS dX6_reach_10

/-! ### ThreeLegsModel.who(III)I -/
abbrev wm_X6_who (cI cZ cO : ClassId) (m_h m_1 m_2 m_3 m_22 m_23 m_24 m_27 m_29 m_30 : Nat) (om : Ob) : va_W := [(m_h, .inr (6, [.int (om 0 0), .ref m_1, .ref m_2, .ref m_3, .int (om 4 0), .int (om 5 0), .int (om 6 0), .int (om 7 0), .int (om 8 0), .int (om 9 0), .int (om 10 0), .int (om 11 0), .int (om 12 0), .int (om 13 0), .int (om 14 0), .int (om 15 0), .int (om 16 0), .int (om 17 0), .int (om 18 0), .int (om 19 0), .int (om 20 0), .int (om 21 0), .ref m_22, .ref m_23, .ref m_24, .int (om 25 0), .int (om 26 0), .ref m_27, .int (om 28 0), .ref m_29, .ref m_30, .int (om 31 0), .int (om 32 0)])), (m_1, .inl (cI, 8, .inl (om 1))), (m_2, .inl (cI, 8, .inl (om 2))), (m_3, .inl (cI, 8, .inl (om 3))), (m_22, .inl (cI, 64, .inl (om 22))), (m_23, .inl (cI, 8, .inl (om 23))), (m_24, .inl (cI, 8, .inl (om 24))), (m_27, .inl (cI, 40, .inl (om 27))), (m_29, .inl (cI, 80, .inl (om 29))), (m_30, .inl (cZ, 2, .inl (om 30)))]
def L_X6_who_34 : Nat → Ob → (Ob → Option (Int32 × Ob)) → Option (Int32 × Ob)
  | 0, _, _ => none
  | n15 + 1, om13, K7 =>
    (if 999 ≤ (om13 19 0) then K7 om13 else (if (om13 18 0) = 0 then (F_X6_step om13).bind (fun q18 => L_X6_who_34 n15 q18 K7) else K7 om13))
def F_X6_who (om : Ob) (p0 : Int32) (p1 : Int32) (p2 : Int32) : Option (Int32 × Ob) :=
  (F_X6_isPair om p0 p1).bind (fun q1 => (if q1 = 0 then some ((-1), om) else (F_X6_in (Int32.toInt64 p2) (0 : Int64) (1 : Int64)).bind (fun q3 => (if q3 = 0 then some ((-2), om) else (F_X6_layPair om p0 p1).bind (fun q5 => (F_X6_begin q5).bind (fun q6 => jn (fun (om8 : Ob) => (if (om8 18 0) = 0 then some ((-6), om8) else (if p2 = 0 then dd ((om8 19 0) - 1) (fun (v12 : Int32) => some (v12, om8)) else (if (om8 21 0) = 0 then some (p0, om8) else some (p1, om8))))) (fun (K7 : Ob → Option (Int32 × Ob)) => L_X6_who_34 2000 q6 K7)))))))
abbrev rm_X6_who : Room := { frames := 3, cells := 0, slots := 0, locals := 68 }
abbrev wu_X6_who : List Cond := .code yX6_who cX6_who 4 (some .int) :: lwG
set_option maxHeartbeats 20000000 in
set_option maxRecDepth 100000 in
theorem c_X6_who (l : Launch) (D : va_G) (cI cZ cO : ClassId) (m_h m_1 m_2 m_3 m_22 m_23 m_24 m_27 m_29 m_30 : Nat) (sz : Nat) (om : Ob) (p0 : Int32) (p1 : Int32) (p2 : Int32) (q : Int32 × Ob) (hF : F_X6_who om p0 p1 p2 = some q) : CtI l yX6_who wu_X6_who rm_X6_who D vwCl (tyL cI cZ cO) [.ref m_h, .int p0, .int p1, .int p2] (wm_X6_who cI cZ cO m_h m_1 m_2 m_3 m_22 m_23 m_24 m_27 m_29 m_30 om) sz 0 0 (fun (r : Int32) (u : Ob) => r = q.1 ∧ u = q.2) (fun u => wm_X6_who cI cZ cO m_h m_1 m_2 m_3 m_22 m_23 m_24 m_27 m_29 m_30 u) := by
  refine mk_i (cc := cX6_who) (maxL := 4) (by decide) rfl (Nat.le_of_ble_eq_true rfl) ?_
  intro p e s m args below meth c A ls Q hx hb hml hown hts hin hK hP hD hS hA hl hQ
  have hl : lv_has ls 4 [(0, .ref m_h), (1, .int p0), (2, .int p1), (3, .int p2)] := hl
  unfold F_X6_who at hF
  refine lv_aload_n hx hb dX6_who_0 rfl (lv_at hl 0 rfl) ?_
  refine lv_iload_n hx hb dX6_who_1 rfl (lv_at hl 1 rfl) ?_
  refine lv_iload_n hx hb dX6_who_2 rfl (lv_at hl 2 rfl) ?_
  obtain ⟨q1, hGq1, hF⟩ := of_bind hF
  refine callVi (As := [.int p0, .int p1]) (rest := []) (wr := []) (WN := wm_X6_who cI cZ cO m_h m_1 m_2 m_3 m_22 m_23 m_24 m_27 m_29 m_30 om) ⟨hx, hb, hml, hown, hts⟩ hK hP hD hS hA [0, 1, 2, 3, 4, 5, 6, 7, 8, 9] [] [0, 1, 2, 3, 4, 5, 6, 7, 8, 9] (c_X6_isPair l D cI cZ cO m_h m_1 m_2 m_3 m_22 m_23 m_24 m_27 m_29 m_30 _ om p0 p1 q1 hGq1) (cwV 2 hts (gV wd_650 wd_652 wd_15 wd_39 wd_653) rfl rfl rfl (by decide +kernel) ⟨Nat.le_of_ble_eq_true rfl, Nat.le_of_ble_eq_true rfl⟩) 0 6 rfl rfl rfl rfl rfl rfl rfl (by decide) rfl rfl rfl hl.1 rfl (Nat.le_of_ble_eq_true rfl) dX6_who_3 ⟨Nat.zero_le _, Nat.zero_le _⟩ (fun H locs hP hD hS => ?_)
  refine lv_if_ne (tgt := 11) hx hb dX6_who_6 (by decide) (fun h2 => ?_) (fun h2 => ?_)
  · replace hF := of_f h2 hF
    refine lv_iload_n hx hb dX6_who_11 rfl (lv_at hl 3 rfl) ?_
    refine lv_i2l hx hb dX6_who_12 rfl ?_
    refine lv_lconst (v := 0) hx hb dX6_who_13 (by decide) ?_
    refine lv_lconst (v := 1) hx hb dX6_who_14 (by decide) ?_
    obtain ⟨q3, hGq3, hF⟩ := of_bind hF
    refine callSi (As := [.long (Int32.toInt64 p2), .long (0 : Int64), .long (1 : Int64)]) (rest := []) ⟨hx, hb, hml, hown, hts⟩ hK hP hD hS hA (c_X6_in l D cI cZ cO  _ (Int32.toInt64 p2) (0 : Int64) (1 : Int64) q3 hGq3) (va_cwS 3 hts (gS wd_624 wd_625 wd_39 wd_626) rfl rfl rfl (by decide +kernel) ⟨Nat.le_of_ble_eq_true rfl, Nat.le_of_ble_eq_true rfl⟩) rfl hl.1 rfl (Nat.le_of_ble_eq_true rfl) dX6_who_15 ⟨Nat.zero_le _, Nat.zero_le _⟩ (fun H locs hP hS => ?_)
    refine lv_if_ne (tgt := 24) hx hb dX6_who_18 (by decide) (fun h4 => ?_) (fun h4 => ?_)
    · replace hF := of_f h4 hF
      refine lv_aload_n hx hb dX6_who_24 rfl (lv_at hl 0 rfl) ?_
      refine lv_iload_n hx hb dX6_who_25 rfl (lv_at hl 1 rfl) ?_
      refine lv_iload_n hx hb dX6_who_26 rfl (lv_at hl 2 rfl) ?_
      obtain ⟨q5, hGq5, hF⟩ := of_bind hF
      refine callVv (As := [.int p0, .int p1]) (rest := []) (wr := []) (WN := wm_X6_who cI cZ cO m_h m_1 m_2 m_3 m_22 m_23 m_24 m_27 m_29 m_30 q5) ⟨hx, hb, hml, hown, hts⟩ hK hP hD hS hA [0, 1, 2, 3, 4, 5, 6, 7, 8, 9] [] [0, 1, 2, 3, 4, 5, 6, 7, 8, 9] (c_X6_layPair l D cI cZ cO m_h m_1 m_2 m_3 m_22 m_23 m_24 m_27 m_29 m_30 _ om p0 p1 q5 hGq5) (cwV 2 hts (gV wd_655 wd_657 wd_16 wd_39 wd_658) rfl rfl rfl (by decide +kernel) ⟨Nat.le_of_ble_eq_true rfl, Nat.le_of_ble_eq_true rfl⟩) 0 6 rfl rfl rfl rfl rfl rfl rfl (by decide) rfl rfl rfl hl.1 rfl (Nat.le_of_ble_eq_true rfl) dX6_who_27 ⟨Nat.zero_le _, Nat.zero_le _⟩ (fun H locs hP hD hS => ?_)
      refine lv_aload_n hx hb dX6_who_30 rfl (lv_at hl 0 rfl) ?_
      obtain ⟨q6, hGq6, hF⟩ := of_bind hF
      refine callVv (As := []) (rest := []) (wr := []) (WN := wm_X6_who cI cZ cO m_h m_1 m_2 m_3 m_22 m_23 m_24 m_27 m_29 m_30 q6) ⟨hx, hb, hml, hown, hts⟩ hK hP hD hS hA [0, 1, 2, 3, 4, 5, 6, 7, 8, 9] [] [0, 1, 2, 3, 4, 5, 6, 7, 8, 9] (c_X6_begin l D cI cZ cO m_h m_1 m_2 m_3 m_22 m_23 m_24 m_27 m_29 m_30 _ q5 q6 hGq6) (cwV 0 hts (gV wd_659 wd_661 wd_17 wd_39 wd_662) rfl rfl rfl (by decide +kernel) ⟨Nat.le_of_ble_eq_true rfl, Nat.le_of_ble_eq_true rfl⟩) 0 6 rfl rfl rfl rfl rfl rfl rfl (by decide) rfl rfl rfl hl.1 rfl (Nat.le_of_ble_eq_true rfl) dX6_who_31 ⟨Nat.zero_le _, Nat.zero_le _⟩ (fun H locs hP hD hS => ?_)
      obtain ⟨K7, eK7, hF⟩ := of_jn hF
      have hK7 : ∀ (om8 : Ob) (ls : Array Slot) (H : Heap) (locs : List Loc), lv_has ls 4 [(0, .ref m_h), (1, .int p0), (2, .int p1), (3, .int p2)] → va_P D vwCl (wm_X6_who cI cZ cO m_h m_1 m_2 m_3 m_22 m_23 m_24 m_27 m_29 m_30 om8) H → va_D A (wm_X6_who cI cZ cO m_h m_1 m_2 m_3 m_22 m_23 m_24 m_27 m_29 m_30 om8) → va_S A s.heap H locs → K7 om8 = some q → W p l e rm_X6_who s m args below meth c H locs 0 0 Q (F0 m 58 ls []) := by
        intro om8 ls H locs hl hP hD hS hF
        subst eK7
        refine lv_aload_n hx hb dX6_who_58 rfl (lv_at hl 0 rfl) ?_
        refine va_get (D := D) (ci := 6) (v := .int (om8 18 0)) (C := RX6) (T := TX6) (N := 33) hx hb hts in_X6 hown hK hP 0 rfl rfl 18 (by decide) (hts _ wd_537) (fun _ h9 => h9) rfl dX6_who_59 ?_
        refine lv_if_ne (tgt := 70) hx hb dX6_who_62 (by decide) (fun h9 => ?_) (fun h9 => ?_)
        · replace hF := of_f h9 hF
          refine lv_iload_n hx hb dX6_who_70 rfl (lv_at hl 3 rfl) ?_
          refine lv_if_ne (tgt := 83) hx hb dX6_who_71 (by decide) (fun h10 => ?_) (fun h10 => ?_)
          · replace hF := of_f h10 hF
            refine lv_aload_n hx hb dX6_who_83 rfl (lv_at hl 0 rfl) ?_
            refine va_get (D := D) (ci := 6) (v := .int (om8 21 0)) (C := RX6) (T := TX6) (N := 33) hx hb hts in_X6 hown hK hP 0 rfl rfl 21 (by decide) (hts _ wd_540) (fun _ h9 => h9) rfl dX6_who_84 ?_
            refine lv_if_ne (tgt := 94) hx hb dX6_who_87 (by decide) (fun h11 => ?_) (fun h11 => ?_)
            · replace hF := of_f h11 hF
              refine lv_iload_n hx hb dX6_who_94 rfl (lv_at hl 2 rfl) ?_
              exact hQ _ _ _ _ _ om8 ⟨inj_fst hF, inj_snd hF⟩ hP hD hS dX6_who_95
            · replace hF := of_t h11 hF
              refine lv_iload_n hx hb dX6_who_90 rfl (lv_at hl 1 rfl) ?_
              refine lv_goto (tgt := 95) hx hb dX6_who_91 (by decide) ?_
              exact hQ _ _ _ _ _ om8 ⟨inj_fst hF, inj_snd hF⟩ hP hD hS dX6_who_95
          · replace hF := of_t h10 hF
            refine lv_aload_n hx hb dX6_who_74 rfl (lv_at hl 0 rfl) ?_
            refine va_get (D := D) (ci := 6) (v := .int (om8 19 0)) (C := RX6) (T := TX6) (N := 33) hx hb hts in_X6 hown hK hP 0 rfl rfl 19 (by decide) (hts _ wd_538) (fun _ h9 => h9) rfl dX6_who_75 ?_
            refine lv_iconst (v := 1) hx hb dX6_who_78 (by decide) ?_
            refine lv_isub hx hb dX6_who_79 ?_
            refine lv_topi (fun v12 ev12 => ?_)
            replace hF := of_dd hF v12 ev12
            refine lv_goto (tgt := 95) hx hb dX6_who_80 (by decide) ?_
            exact hQ _ _ _ _ _ om8 ⟨inj_fst hF, inj_snd hF⟩ hP hD hS dX6_who_95
        · replace hF := of_t h9 hF
          refine lv_bipush (v := (-6)) hx hb dX6_who_65 (by decide) ?_
          refine lv_goto (tgt := 95) hx hb dX6_who_67 (by decide) ?_
          exact hQ _ _ _ _ _ om8 ⟨inj_fst hF, inj_snd hF⟩ hP hD hS dX6_who_95
      have hloop19 : ∀ (n15 : Nat) (om13 : Ob) (ls : Array Slot) (H : Heap) (locs : List Loc), lv_has ls 4 [(0, .ref m_h), (1, .int p0), (2, .int p1), (3, .int p2)] → va_P D vwCl (wm_X6_who cI cZ cO m_h m_1 m_2 m_3 m_22 m_23 m_24 m_27 m_29 m_30 om13) H → va_D A (wm_X6_who cI cZ cO m_h m_1 m_2 m_3 m_22 m_23 m_24 m_27 m_29 m_30 om13) → va_S A s.heap H locs → L_X6_who_34 n15 om13 K7 = some q → W p l e rm_X6_who s m args below meth c H locs 0 0 Q (F0 m 34 ls []) := by
        intro n15
        induction n15 with
        | zero =>
          intro om13 ls H locs hl hP hD hS hF
          exact of_none hF
        | succ n15 ih14 =>
          intro om13 ls H locs hl hP hD hS hF
          rw [L_X6_who_34.eq_2] at hF
          refine lv_aload_n hx hb dX6_who_34 rfl (lv_at hl 0 rfl) ?_
          refine va_get (D := D) (ci := 6) (v := .int (om13 19 0)) (C := RX6) (T := TX6) (N := 33) hx hb hts in_X6 hown hK hP 0 rfl rfl 19 (by decide) (hts _ wd_538) (fun _ h9 => h9) rfl dX6_who_35 ?_
          refine lv_sipush (v := 999) hx hb dX6_who_38 (by decide) ?_
          refine lv_icmp_ge (tgt := 58) hx hb dX6_who_41 (by decide) (fun h16 => ?_) (fun h16 => ?_)
          · replace hF := of_t h16 hF
            exact hK7 om13 ls _ _ (lv_sub hl [0, 1, 2, 3] rfl) hP hD hS hF
          · replace hF := of_f h16 hF
            refine lv_aload_n hx hb dX6_who_44 rfl (lv_at hl 0 rfl) ?_
            refine va_get (D := D) (ci := 6) (v := .int (om13 18 0)) (C := RX6) (T := TX6) (N := 33) hx hb hts in_X6 hown hK hP 0 rfl rfl 18 (by decide) (hts _ wd_537) (fun _ h9 => h9) rfl dX6_who_45 ?_
            refine lv_if_ne (tgt := 58) hx hb dX6_who_48 (by decide) (fun h17 => ?_) (fun h17 => ?_)
            · replace hF := of_f h17 hF
              exact hK7 om13 ls _ _ (lv_sub hl [0, 1, 2, 3] rfl) hP hD hS hF
            · replace hF := of_t h17 hF
              refine lv_aload_n hx hb dX6_who_51 rfl (lv_at hl 0 rfl) ?_
              obtain ⟨q18, hGq18, hF⟩ := of_bind hF
              refine callVv (As := []) (rest := []) (wr := []) (WN := wm_X6_who cI cZ cO m_h m_1 m_2 m_3 m_22 m_23 m_24 m_27 m_29 m_30 q18) ⟨hx, hb, hml, hown, hts⟩ hK hP hD hS hA [0, 1, 2, 3, 4, 5, 6, 7, 8, 9] [] [0, 1, 2, 3, 4, 5, 6, 7, 8, 9] (c_X6_step l D cI cZ cO m_h m_1 m_2 m_3 m_22 m_23 m_24 m_27 m_29 m_30 _ om13 q18 hGq18) (cwV 0 hts (gV wd_663 wd_665 wd_18 wd_39 wd_666) rfl rfl rfl (by decide +kernel) ⟨Nat.le_of_ble_eq_true rfl, Nat.le_of_ble_eq_true rfl⟩) 0 6 rfl rfl rfl rfl rfl rfl rfl (by decide) rfl rfl rfl hl.1 rfl (Nat.le_of_ble_eq_true rfl) dX6_who_52 ⟨Nat.zero_le _, Nat.zero_le _⟩ (fun H locs hP hD hS => ?_)
              refine lv_goto (tgt := 34) hx hb dX6_who_55 (by decide) ?_
              exact ih14 q18 ls _ _ (lv_sub hl [0, 1, 2, 3] rfl) hP hD hS hF
      exact hloop19 2000 q6 ls _ _ (lv_sub hl [0, 1, 2, 3] rfl) hP hD hS hF
    · replace hF := of_t h4 hF
      refine lv_bipush (v := (-2)) hx hb dX6_who_21 (by decide) ?_
      exact hQ _ _ _ _ _ om ⟨inj_fst hF, inj_snd hF⟩ hP hD hS dX6_who_23
  · replace hF := of_t h2 hF
    refine lv_iconst (v := (-1)) hx hb dX6_who_9 (by decide) ?_
    exact hQ _ _ _ _ _ om ⟨inj_fst hF, inj_snd hF⟩ hP hD hS dX6_who_10

/-! ### ThreeLegsModel.alone(II)I -/
abbrev wm_X6_alone (cI cZ cO : ClassId) (m_h m_1 m_2 m_3 m_22 m_23 m_24 m_27 m_29 m_30 : Nat) (om : Ob) : va_W := [(m_h, .inr (6, [.int (om 0 0), .ref m_1, .ref m_2, .ref m_3, .int (om 4 0), .int (om 5 0), .int (om 6 0), .int (om 7 0), .int (om 8 0), .int (om 9 0), .int (om 10 0), .int (om 11 0), .int (om 12 0), .int (om 13 0), .int (om 14 0), .int (om 15 0), .int (om 16 0), .int (om 17 0), .int (om 18 0), .int (om 19 0), .int (om 20 0), .int (om 21 0), .ref m_22, .ref m_23, .ref m_24, .int (om 25 0), .int (om 26 0), .ref m_27, .int (om 28 0), .ref m_29, .ref m_30, .int (om 31 0), .int (om 32 0)])), (m_1, .inl (cI, 8, .inl (om 1))), (m_2, .inl (cI, 8, .inl (om 2))), (m_3, .inl (cI, 8, .inl (om 3))), (m_22, .inl (cI, 64, .inl (om 22))), (m_23, .inl (cI, 8, .inl (om 23))), (m_24, .inl (cI, 8, .inl (om 24))), (m_27, .inl (cI, 40, .inl (om 27))), (m_29, .inl (cI, 80, .inl (om 29))), (m_30, .inl (cZ, 2, .inl (om 30)))]
def F_X6_alone (om : Ob) (p0 : Int32) (p1 : Int32) : Option (Int32) :=
  (F_X6_runs om p0).bind (fun q1 => (if q1 = 0 then some (-1) else (F_X6_isFar p1).bind (fun q3 => (if q3 = 0 then some (-2) else ck p0 8 (dd (p1 + ((om 2) (p0).toNatClampNeg)) (fun (v6 : Int32) => dd (v6 - 1) (fun (v7 : Int32) => ck p0 8 (dz ((om 2) (p0).toNatClampNeg) (dd (v7 / ((om 2) (p0).toNatClampNeg)) (fun (v10 : Int32) => ck p0 8 (dd (v10 * ((om 1) (p0).toNatClampNeg)) (fun (v12 : Int32) => some v12))))))))))))
abbrev rm_X6_alone : Room := { frames := 2, cells := 0, slots := 0, locals := 46 }
abbrev wu_X6_alone : List Cond := .code yX6_alone cX6_alone 3 (some .int) :: lwG
set_option maxHeartbeats 20000000 in
set_option maxRecDepth 100000 in
theorem c_X6_alone (l : Launch) (D : va_G) (cI cZ cO : ClassId) (m_h m_1 m_2 m_3 m_22 m_23 m_24 m_27 m_29 m_30 : Nat) (sz : Nat) (om : Ob) (p0 : Int32) (p1 : Int32) (q : Int32) (hF : F_X6_alone om p0 p1 = some q) : CtI l yX6_alone wu_X6_alone rm_X6_alone D vwCl (tyL cI cZ cO) [.ref m_h, .int p0, .int p1] (wm_X6_alone cI cZ cO m_h m_1 m_2 m_3 m_22 m_23 m_24 m_27 m_29 m_30 om) sz 0 0 (fun (r : Int32) (u : Unit) => r = q ∧ u = ()) (fun u => wm_X6_alone cI cZ cO m_h m_1 m_2 m_3 m_22 m_23 m_24 m_27 m_29 m_30 om) := by
  refine mk_i (cc := cX6_alone) (maxL := 3) (by decide) rfl (Nat.le_of_ble_eq_true rfl) ?_
  intro p e s m args below meth c A ls Q hx hb hml hown hts hin hK hP hD hS hA hl hQ
  have hl : lv_has ls 3 [(0, .ref m_h), (1, .int p0), (2, .int p1)] := hl
  unfold F_X6_alone at hF
  refine lv_aload_n hx hb dX6_alone_0 rfl (lv_at hl 0 rfl) ?_
  refine lv_iload_n hx hb dX6_alone_1 rfl (lv_at hl 1 rfl) ?_
  obtain ⟨q1, hGq1, hF⟩ := of_bind hF
  refine callVi (As := [.int p0]) (rest := []) (wr := []) (WN := wm_X6_alone cI cZ cO m_h m_1 m_2 m_3 m_22 m_23 m_24 m_27 m_29 m_30 om) ⟨hx, hb, hml, hown, hts⟩ hK hP hD hS hA [0, 1, 2, 3, 4, 5, 6, 7, 8, 9] [] [0, 1, 2, 3, 4, 5, 6, 7, 8, 9] (c_X6_runs l D cI cZ cO m_h m_1 m_2 m_3 m_22 m_23 m_24 m_27 m_29 m_30 _ om p0 q1 hGq1) (cwV 1 hts (gV wd_637 wd_639 wd_14 wd_39 wd_640) rfl rfl rfl (by decide +kernel) ⟨Nat.le_of_ble_eq_true rfl, Nat.le_of_ble_eq_true rfl⟩) 0 6 rfl rfl rfl rfl rfl rfl rfl (by decide) rfl rfl rfl hl.1 rfl (Nat.le_of_ble_eq_true rfl) dX6_alone_2 ⟨Nat.zero_le _, Nat.zero_le _⟩ (fun H locs hP hD hS => ?_)
  refine lv_if_ne (tgt := 10) hx hb dX6_alone_5 (by decide) (fun h2 => ?_) (fun h2 => ?_)
  · replace hF := of_f h2 hF
    refine lv_iload_n hx hb dX6_alone_10 rfl (lv_at hl 2 rfl) ?_
    obtain ⟨q3, hGq3, hF⟩ := of_bind hF
    refine callSi (As := [.int p1]) (rest := []) ⟨hx, hb, hml, hown, hts⟩ hK hP hD hS hA (c_X6_isFar l D cI cZ cO  _ p1 q3 hGq3) (va_cwS 1 hts (gS wd_682 wd_683 wd_39 wd_684) rfl rfl rfl (by decide +kernel) ⟨Nat.le_of_ble_eq_true rfl, Nat.le_of_ble_eq_true rfl⟩) rfl hl.1 rfl (Nat.le_of_ble_eq_true rfl) dX6_alone_11 ⟨Nat.zero_le _, Nat.zero_le _⟩ (fun H locs hP hS => ?_)
    refine lv_if_eq (tgt := 44) hx hb dX6_alone_14 (by decide) (fun h4 => ?_) (fun h4 => ?_)
    · replace hF := of_t h4 hF
      refine lv_bipush (v := (-2)) hx hb dX6_alone_44 (by decide) ?_
      exact hQ _ _ _ _ _ () ⟨Option.some.inj hF, rfl⟩ hP hD hS dX6_alone_46
    · replace hF := of_f h4 hF
      refine lv_iload_n hx hb dX6_alone_17 rfl (lv_at hl 2 rfl) ?_
      refine lv_aload_n hx hb dX6_alone_18 rfl (lv_at hl 0 rfl) ?_
      refine va_get (D := D) (ci := 6) (v := .ref m_2) (C := RX6) (T := TX6) (N := 33) hx hb hts in_X6 hown hK hP 0 rfl rfl 2 (by decide) (hts _ wd_521) (fun _ h9 => h9) rfl dX6_alone_19 ?_
      refine lv_iload_n hx hb dX6_alone_22 rfl (lv_at hl 1 rfl) ?_
      obtain ⟨h5, hF⟩ := of_ck hF
      refine va_iald (D := D) hx hb hK hP 2 0 rfl rfl h5 dX6_alone_23 ?_
      refine lv_iadd hx hb dX6_alone_24 ?_
      refine lv_topi (fun v6 ev6 => ?_)
      replace hF := of_dd hF v6 ev6
      refine lv_iconst (v := 1) hx hb dX6_alone_25 (by decide) ?_
      refine lv_isub hx hb dX6_alone_26 ?_
      refine lv_topi (fun v7 ev7 => ?_)
      replace hF := of_dd hF v7 ev7
      refine lv_aload_n hx hb dX6_alone_27 rfl (lv_at hl 0 rfl) ?_
      refine va_get (D := D) (ci := 6) (v := .ref m_2) (C := RX6) (T := TX6) (N := 33) hx hb hts in_X6 hown hK hP 0 rfl rfl 2 (by decide) (hts _ wd_521) (fun _ h9 => h9) rfl dX6_alone_28 ?_
      refine lv_iload_n hx hb dX6_alone_31 rfl (lv_at hl 1 rfl) ?_
      obtain ⟨h8, hF⟩ := of_ck hF
      refine va_iald (D := D) hx hb hK hP 2 0 rfl rfl h8 dX6_alone_32 ?_
      obtain ⟨hz9, hF⟩ := of_dz hF
      refine lv_idiv hx hb dX6_alone_33 hz9 ?_
      refine lv_topi (fun v10 ev10 => ?_)
      replace hF := of_dd hF v10 ev10
      refine lv_aload_n hx hb dX6_alone_34 rfl (lv_at hl 0 rfl) ?_
      refine va_get (D := D) (ci := 6) (v := .ref m_1) (C := RX6) (T := TX6) (N := 33) hx hb hts in_X6 hown hK hP 0 rfl rfl 1 (by decide) (hts _ wd_520) (fun _ h9 => h9) rfl dX6_alone_35 ?_
      refine lv_iload_n hx hb dX6_alone_38 rfl (lv_at hl 1 rfl) ?_
      obtain ⟨h11, hF⟩ := of_ck hF
      refine va_iald (D := D) hx hb hK hP 1 0 rfl rfl h11 dX6_alone_39 ?_
      refine lv_imul hx hb dX6_alone_40 ?_
      refine lv_topi (fun v12 ev12 => ?_)
      replace hF := of_dd hF v12 ev12
      refine lv_goto (tgt := 46) hx hb dX6_alone_41 (by decide) ?_
      exact hQ _ _ _ _ _ () ⟨Option.some.inj hF, rfl⟩ hP hD hS dX6_alone_46
  · replace hF := of_t h2 hF
    refine lv_iconst (v := (-1)) hx hb dX6_alone_8 (by decide) ?_
    exact hQ _ _ _ _ _ () ⟨Option.some.inj hF, rfl⟩ hP hD hS dX6_alone_9

/-! ### ThreeLegsModel.findTimes(I)V -/
abbrev wm_X6_findTimes (cI cZ cO : ClassId) (m_h m_1 m_2 m_3 m_22 m_23 m_24 m_27 m_29 m_30 : Nat) (om : Ob) : va_W := [(m_h, .inr (6, [.int (om 0 0), .ref m_1, .ref m_2, .ref m_3, .int (om 4 0), .int (om 5 0), .int (om 6 0), .int (om 7 0), .int (om 8 0), .int (om 9 0), .int (om 10 0), .int (om 11 0), .int (om 12 0), .int (om 13 0), .int (om 14 0), .int (om 15 0), .int (om 16 0), .int (om 17 0), .int (om 18 0), .int (om 19 0), .int (om 20 0), .int (om 21 0), .ref m_22, .ref m_23, .ref m_24, .int (om 25 0), .int (om 26 0), .ref m_27, .int (om 28 0), .ref m_29, .ref m_30, .int (om 31 0), .int (om 32 0)])), (m_1, .inl (cI, 8, .inl (om 1))), (m_2, .inl (cI, 8, .inl (om 2))), (m_3, .inl (cI, 8, .inl (om 3))), (m_22, .inl (cI, 64, .inl (om 22))), (m_23, .inl (cI, 8, .inl (om 23))), (m_24, .inl (cI, 8, .inl (om 24))), (m_27, .inl (cI, 40, .inl (om 27))), (m_29, .inl (cI, 80, .inl (om 29))), (m_30, .inl (cZ, 2, .inl (om 30)))]
def L_X6_findTimes_10 : Nat → Int32 → Int32 → Int32 → Ob → (Ob → Option (Ob)) → Option (Ob)
  | 0, _, _, _, _, _ => none
  | n14 + 1, p0, v3, v11, om12, K8 =>
    (if v3 ≤ v11 then K8 om12 else (F_X6_isPair om12 v3 v11).bind (fun q16 => (if q16 = 0 then dd (v11 + 1) (fun (v18 : Int32) => L_X6_findTimes_10 n14 p0 v3 v18 om12 K8) else (F_X6_layPair om12 v3 v11).bind (fun q19 => (F_X6_timeOf q19 p0).bind (fun q20 => dd (8 * v3) (fun (v21 : Int32) => dd (v21 + v11) (fun (v22 : Int32) => jn (fun (v24 : Int32) => ck v22 64 (dd (sO q20.2 22 (upd (q20.2 22) (v22).toNatClampNeg v24)) (fun (om26 : Ob) => dd (8 * v11) (fun (v27 : Int32) => dd (v27 + v3) (fun (v28 : Int32) => dd (8 * v3) (fun (v29 : Int32) => dd (v29 + v11) (fun (v30 : Int32) => ck v30 64 (ck v28 64 (dd (sO om26 22 (upd (om26 22) (v28).toNatClampNeg ((om26 22) (v30).toNatClampNeg))) (fun (om33 : Ob) => dd (v11 + 1) (fun (v34 : Int32) => L_X6_findTimes_10 n14 p0 v3 v34 om33 K8))))))))))) (fun (K23 : Int32 → Option (Ob)) => (if q20.1 = 1000000000 then K23 100000 else K23 q20.1)))))))))
def L_X6_findTimes_2 : Nat → Int32 → Int32 → Ob → (Ob → Option (Ob)) → Option (Ob)
  | 0, _, _, _, _ => none
  | n6 + 1, p0, v3, om4, K1 =>
    (if 8 ≤ v3 then K1 om4 else jn (fun (om9 : Ob) => dd (v3 + 1) (fun (v10 : Int32) => L_X6_findTimes_2 n6 p0 v10 om9 K1)) (fun (K8 : Ob → Option (Ob)) => L_X6_findTimes_10 2000 p0 v3 0 om4 K8))
def F_X6_findTimes (om : Ob) (p0 : Int32) : Option (Ob) :=
  jn (fun (om2 : Ob) => some om2) (fun (K1 : Ob → Option (Ob)) => L_X6_findTimes_2 2000 p0 0 om K1)
abbrev rm_X6_findTimes : Room := { frames := 3, cells := 0, slots := 0, locals := 69 }
abbrev wu_X6_findTimes : List Cond := .code yX6_findTimes cX6_findTimes 5 none :: lwG
set_option maxHeartbeats 20000000 in
set_option maxRecDepth 100000 in
theorem c_X6_findTimes (l : Launch) (D : va_G) (cI cZ cO : ClassId) (m_h m_1 m_2 m_3 m_22 m_23 m_24 m_27 m_29 m_30 : Nat) (sz : Nat) (om : Ob) (p0 : Int32) (q : Ob) (hF : F_X6_findTimes om p0 = some q) : CtV l yX6_findTimes wu_X6_findTimes rm_X6_findTimes D vwCl (tyL cI cZ cO) [.ref m_h, .int p0] (wm_X6_findTimes cI cZ cO m_h m_1 m_2 m_3 m_22 m_23 m_24 m_27 m_29 m_30 om) sz 0 0 (fun u : Ob => u = q) (fun u => wm_X6_findTimes cI cZ cO m_h m_1 m_2 m_3 m_22 m_23 m_24 m_27 m_29 m_30 u) := by
  refine mk_v (cc := cX6_findTimes) (maxL := 5) (by decide) rfl (Nat.le_of_ble_eq_true rfl) ?_
  intro p e s m args below meth c A ls Q hx hb hml hown hts hin hK hP hD hS hA hl hQ
  have hl : lv_has ls 5 [(0, .ref m_h), (1, .int p0)] := hl
  unfold F_X6_findTimes at hF
  refine lv_iconst (v := 0) hx hb dX6_findTimes_0 (by decide) ?_
  refine lv_istore_n (lv' := [(2, .int 0), (0, .ref m_h), (1, .int p0)]) hx hb dX6_findTimes_1 rfl hl (by decide) rfl (fun ls hl => ?_)
  obtain ⟨K1, eK1, hF⟩ := of_jn hF
  have hK1 : ∀ (om2 : Ob) (ls : Array Slot) (H : Heap) (locs : List Loc), lv_has ls 5 [] → va_P D vwCl (wm_X6_findTimes cI cZ cO m_h m_1 m_2 m_3 m_22 m_23 m_24 m_27 m_29 m_30 om2) H → va_D A (wm_X6_findTimes cI cZ cO m_h m_1 m_2 m_3 m_22 m_23 m_24 m_27 m_29 m_30 om2) → va_S A s.heap H locs → K1 om2 = some q → W p l e rm_X6_findTimes s m args below meth c H locs 0 0 Q (F0 m 96 ls []) := by
    intro om2 ls H locs hl hP hD hS hF
    subst eK1
    exact hQ _ _ _ _ om2 (Option.some.inj hF) hP hD hS dX6_findTimes_96
  have hloop37 : ∀ (n6 : Nat) (v3 : Int32) (om4 : Ob) (ls : Array Slot) (H : Heap) (locs : List Loc), lv_has ls 5 [(0, .ref m_h), (1, .int p0), (2, .int v3)] → va_P D vwCl (wm_X6_findTimes cI cZ cO m_h m_1 m_2 m_3 m_22 m_23 m_24 m_27 m_29 m_30 om4) H → va_D A (wm_X6_findTimes cI cZ cO m_h m_1 m_2 m_3 m_22 m_23 m_24 m_27 m_29 m_30 om4) → va_S A s.heap H locs → L_X6_findTimes_2 n6 p0 v3 om4 K1 = some q → W p l e rm_X6_findTimes s m args below meth c H locs 0 0 Q (F0 m 2 ls []) := by
    intro n6
    induction n6 with
    | zero =>
      intro v3 om4 ls H locs hl hP hD hS hF
      exact of_none hF
    | succ n6 ih5 =>
      intro v3 om4 ls H locs hl hP hD hS hF
      rw [L_X6_findTimes_2.eq_2] at hF
      refine lv_iload_n hx hb dX6_findTimes_2 rfl (lv_at hl 2 rfl) ?_
      refine lv_bipush (v := 8) hx hb dX6_findTimes_3 (by decide) ?_
      refine lv_icmp_ge (tgt := 96) hx hb dX6_findTimes_5 (by decide) (fun h7 => ?_) (fun h7 => ?_)
      · replace hF := of_t h7 hF
        exact hK1 om4 ls _ _ (lv_sub hl [] rfl) hP hD hS hF
      · replace hF := of_f h7 hF
        refine lv_iconst (v := 0) hx hb dX6_findTimes_8 (by decide) ?_
        refine lv_istore_n (lv' := [(3, .int 0), (0, .ref m_h), (1, .int p0), (2, .int v3)]) hx hb dX6_findTimes_9 rfl hl (by decide) rfl (fun ls hl => ?_)
        obtain ⟨K8, eK8, hF⟩ := of_jn hF
        have hK8 : ∀ (om9 : Ob) (ls : Array Slot) (H : Heap) (locs : List Loc), lv_has ls 5 [(0, .ref m_h), (1, .int p0), (2, .int v3)] → va_P D vwCl (wm_X6_findTimes cI cZ cO m_h m_1 m_2 m_3 m_22 m_23 m_24 m_27 m_29 m_30 om9) H → va_D A (wm_X6_findTimes cI cZ cO m_h m_1 m_2 m_3 m_22 m_23 m_24 m_27 m_29 m_30 om9) → va_S A s.heap H locs → K8 om9 = some q → W p l e rm_X6_findTimes s m args below meth c H locs 0 0 Q (F0 m 90 ls []) := by
          intro om9 ls H locs hl hP hD hS hF
          subst eK8
          obtain ⟨v10, ev10⟩ : ∃ y : Int32, y = v3 + 1 := ⟨_, rfl⟩
          replace hF := of_dd hF v10 ev10
          refine lv_iinc (v := v10) (lv' := [(2, .int v10), (0, .ref m_h), (1, .int p0)]) hx hb dX6_findTimes_90 hl (k := 2) rfl (by rw [ev10]; rfl) (by decide) rfl (fun ls hl => ?_)
          refine lv_goto (tgt := 2) hx hb dX6_findTimes_93 (by decide) ?_
          exact ih5 v10 om9 ls _ _ (lv_sub hl [1, 2, 0] rfl) hP hD hS hF
        have hloop36 : ∀ (n14 : Nat) (v11 : Int32) (om12 : Ob) (ls : Array Slot) (H : Heap) (locs : List Loc), lv_has ls 5 [(0, .ref m_h), (1, .int p0), (2, .int v3), (3, .int v11)] → va_P D vwCl (wm_X6_findTimes cI cZ cO m_h m_1 m_2 m_3 m_22 m_23 m_24 m_27 m_29 m_30 om12) H → va_D A (wm_X6_findTimes cI cZ cO m_h m_1 m_2 m_3 m_22 m_23 m_24 m_27 m_29 m_30 om12) → va_S A s.heap H locs → L_X6_findTimes_10 n14 p0 v3 v11 om12 K8 = some q → W p l e rm_X6_findTimes s m args below meth c H locs 0 0 Q (F0 m 10 ls []) := by
          intro n14
          induction n14 with
          | zero =>
            intro v11 om12 ls H locs hl hP hD hS hF
            exact of_none hF
          | succ n14 ih13 =>
            intro v11 om12 ls H locs hl hP hD hS hF
            rw [L_X6_findTimes_10.eq_2] at hF
            refine lv_iload_n hx hb dX6_findTimes_10 rfl (lv_at hl 3 rfl) ?_
            refine lv_iload_n hx hb dX6_findTimes_11 rfl (lv_at hl 2 rfl) ?_
            refine lv_icmp_ge (tgt := 90) hx hb dX6_findTimes_12 (by decide) (fun h15 => ?_) (fun h15 => ?_)
            · replace hF := of_t h15 hF
              exact hK8 om12 ls _ _ (lv_sub hl [0, 1, 2] rfl) hP hD hS hF
            · replace hF := of_f h15 hF
              refine lv_aload_n hx hb dX6_findTimes_15 rfl (lv_at hl 0 rfl) ?_
              refine lv_iload_n hx hb dX6_findTimes_16 rfl (lv_at hl 2 rfl) ?_
              refine lv_iload_n hx hb dX6_findTimes_17 rfl (lv_at hl 3 rfl) ?_
              obtain ⟨q16, hGq16, hF⟩ := of_bind hF
              refine callVi (As := [.int v3, .int v11]) (rest := []) (wr := []) (WN := wm_X6_findTimes cI cZ cO m_h m_1 m_2 m_3 m_22 m_23 m_24 m_27 m_29 m_30 om12) ⟨hx, hb, hml, hown, hts⟩ hK hP hD hS hA [0, 1, 2, 3, 4, 5, 6, 7, 8, 9] [] [0, 1, 2, 3, 4, 5, 6, 7, 8, 9] (c_X6_isPair l D cI cZ cO m_h m_1 m_2 m_3 m_22 m_23 m_24 m_27 m_29 m_30 _ om12 v3 v11 q16 hGq16) (cwV 2 hts (gV wd_650 wd_652 wd_15 wd_39 wd_653) rfl rfl rfl (by decide +kernel) ⟨Nat.le_of_ble_eq_true rfl, Nat.le_of_ble_eq_true rfl⟩) 0 6 rfl rfl rfl rfl rfl rfl rfl (by decide) rfl rfl rfl hl.1 rfl (Nat.le_of_ble_eq_true rfl) dX6_findTimes_18 ⟨Nat.zero_le _, Nat.zero_le _⟩ (fun H locs hP hD hS => ?_)
              refine lv_if_eq (tgt := 84) hx hb dX6_findTimes_21 (by decide) (fun h17 => ?_) (fun h17 => ?_)
              · replace hF := of_t h17 hF
                obtain ⟨v18, ev18⟩ : ∃ y : Int32, y = v11 + 1 := ⟨_, rfl⟩
                replace hF := of_dd hF v18 ev18
                refine lv_iinc (v := v18) (lv' := [(3, .int v18), (0, .ref m_h), (1, .int p0), (2, .int v3)]) hx hb dX6_findTimes_84 hl (k := 3) rfl (by rw [ev18]; rfl) (by decide) rfl (fun ls hl => ?_)
                refine lv_goto (tgt := 10) hx hb dX6_findTimes_87 (by decide) ?_
                exact ih13 v18 om12 ls _ _ (lv_sub hl [1, 2, 3, 0] rfl) hP hD hS hF
              · replace hF := of_f h17 hF
                refine lv_aload_n hx hb dX6_findTimes_24 rfl (lv_at hl 0 rfl) ?_
                refine lv_iload_n hx hb dX6_findTimes_25 rfl (lv_at hl 2 rfl) ?_
                refine lv_iload_n hx hb dX6_findTimes_26 rfl (lv_at hl 3 rfl) ?_
                obtain ⟨q19, hGq19, hF⟩ := of_bind hF
                refine callVv (As := [.int v3, .int v11]) (rest := []) (wr := []) (WN := wm_X6_findTimes cI cZ cO m_h m_1 m_2 m_3 m_22 m_23 m_24 m_27 m_29 m_30 q19) ⟨hx, hb, hml, hown, hts⟩ hK hP hD hS hA [0, 1, 2, 3, 4, 5, 6, 7, 8, 9] [] [0, 1, 2, 3, 4, 5, 6, 7, 8, 9] (c_X6_layPair l D cI cZ cO m_h m_1 m_2 m_3 m_22 m_23 m_24 m_27 m_29 m_30 _ om12 v3 v11 q19 hGq19) (cwV 2 hts (gV wd_655 wd_657 wd_16 wd_39 wd_658) rfl rfl rfl (by decide +kernel) ⟨Nat.le_of_ble_eq_true rfl, Nat.le_of_ble_eq_true rfl⟩) 0 6 rfl rfl rfl rfl rfl rfl rfl (by decide) rfl rfl rfl hl.1 rfl (Nat.le_of_ble_eq_true rfl) dX6_findTimes_27 ⟨Nat.zero_le _, Nat.zero_le _⟩ (fun H locs hP hD hS => ?_)
                refine lv_aload_n hx hb dX6_findTimes_30 rfl (lv_at hl 0 rfl) ?_
                refine lv_iload_n hx hb dX6_findTimes_31 rfl (lv_at hl 1 rfl) ?_
                obtain ⟨q20, hGq20, hF⟩ := of_bind hF
                refine callVi (As := [.int p0]) (rest := []) (wr := []) (WN := wm_X6_findTimes cI cZ cO m_h m_1 m_2 m_3 m_22 m_23 m_24 m_27 m_29 m_30 q20.2) ⟨hx, hb, hml, hown, hts⟩ hK hP hD hS hA [0, 1, 2, 3, 4, 5, 6, 7, 8, 9] [] [0, 1, 2, 3, 4, 5, 6, 7, 8, 9] (c_X6_timeOf l D cI cZ cO m_h m_1 m_2 m_3 m_22 m_23 m_24 m_27 m_29 m_30 _ q19 p0 q20 hGq20) (cwV 1 hts (gV wd_685 wd_687 wd_21 wd_39 wd_688) rfl rfl rfl (by decide +kernel) ⟨Nat.le_of_ble_eq_true rfl, Nat.le_of_ble_eq_true rfl⟩) 0 6 rfl rfl rfl rfl rfl rfl rfl (by decide) rfl rfl rfl hl.1 rfl (Nat.le_of_ble_eq_true rfl) dX6_findTimes_32 ⟨Nat.zero_le _, Nat.zero_le _⟩ (fun H locs hP hD hS => ?_)
                refine lv_istore (lv' := [(4, .int q20.1), (0, .ref m_h), (1, .int p0), (2, .int v3), (3, .int v11)]) hx hb dX6_findTimes_35 hl (by decide) rfl (fun ls hl => ?_)
                refine lv_aload_n hx hb dX6_findTimes_37 rfl (lv_at hl 1 rfl) ?_
                refine va_get (D := D) (ci := 6) (v := .ref m_22) (C := RX6) (T := TX6) (N := 33) hx hb hts in_X6 hown hK hP 0 rfl rfl 22 (by decide) (hts _ wd_541) (fun _ h9 => h9) rfl dX6_findTimes_38 ?_
                refine lv_bipush (v := 8) hx hb dX6_findTimes_41 (by decide) ?_
                refine lv_iload_n hx hb dX6_findTimes_43 rfl (lv_at hl 3 rfl) ?_
                refine lv_imul hx hb dX6_findTimes_44 ?_
                refine lv_topi (fun v21 ev21 => ?_)
                replace hF := of_dd hF v21 ev21
                refine lv_iload_n hx hb dX6_findTimes_45 rfl (lv_at hl 4 rfl) ?_
                refine lv_iadd hx hb dX6_findTimes_46 ?_
                refine lv_topi (fun v22 ev22 => ?_)
                replace hF := of_dd hF v22 ev22
                refine lv_iload hx hb dX6_findTimes_47 (lv_at hl 0 rfl) ?_
                refine lv_ldc hx hb hown (hts _ wd_689) dX6_findTimes_49 ?_
                obtain ⟨K23, eK23, hF⟩ := of_jn hF
                have hK23 : ∀ (v24 : Int32) (ls : Array Slot) (H : Heap) (locs : List Loc), lv_has ls 5 [(0, .ref m_h), (1, .int p0), (2, .int v3), (3, .int v11)] → va_P D vwCl (wm_X6_findTimes cI cZ cO m_h m_1 m_2 m_3 m_22 m_23 m_24 m_27 m_29 m_30 q20.2) H → va_D A (wm_X6_findTimes cI cZ cO m_h m_1 m_2 m_3 m_22 m_23 m_24 m_27 m_29 m_30 q20.2) → va_S A s.heap H locs → K23 v24 = some q → W p l e rm_X6_findTimes s m args below meth c H locs 0 0 Q (F0 m 61 ls [.int v24, .int v22, .ref m_22]) := by
                  intro v24 ls H locs hl hP hD hS hF
                  subst eK23
                  obtain ⟨h25, hF⟩ := of_ck hF
                  refine va_iast (D := D) hx hb hK hP hD hS 4 0 rfl rfl h25 dX6_findTimes_61 (fun H locs hP hD hS => ?_)
                  obtain ⟨om26, hF, hP, hD⟩ := nm_o (P := fun y => va_P D vwCl (wm_X6_findTimes cI cZ cO m_h m_1 m_2 m_3 m_22 m_23 m_24 m_27 m_29 m_30 y) _) (B := fun y => va_D A (wm_X6_findTimes cI cZ cO m_h m_1 m_2 m_3 m_22 m_23 m_24 m_27 m_29 m_30 y)) hF hP hD
                  refine lv_aload_n hx hb dX6_findTimes_62 rfl (lv_at hl 0 rfl) ?_
                  refine va_get (D := D) (ci := 6) (v := .ref m_22) (C := RX6) (T := TX6) (N := 33) hx hb hts in_X6 hown hK hP 0 rfl rfl 22 (by decide) (hts _ wd_541) (fun _ h9 => h9) rfl dX6_findTimes_63 ?_
                  refine lv_bipush (v := 8) hx hb dX6_findTimes_66 (by decide) ?_
                  refine lv_iload_n hx hb dX6_findTimes_68 rfl (lv_at hl 3 rfl) ?_
                  refine lv_imul hx hb dX6_findTimes_69 ?_
                  refine lv_topi (fun v27 ev27 => ?_)
                  replace hF := of_dd hF v27 ev27
                  refine lv_iload_n hx hb dX6_findTimes_70 rfl (lv_at hl 2 rfl) ?_
                  refine lv_iadd hx hb dX6_findTimes_71 ?_
                  refine lv_topi (fun v28 ev28 => ?_)
                  replace hF := of_dd hF v28 ev28
                  refine lv_aload_n hx hb dX6_findTimes_72 rfl (lv_at hl 0 rfl) ?_
                  refine va_get (D := D) (ci := 6) (v := .ref m_22) (C := RX6) (T := TX6) (N := 33) hx hb hts in_X6 hown hK hP 0 rfl rfl 22 (by decide) (hts _ wd_541) (fun _ h9 => h9) rfl dX6_findTimes_73 ?_
                  refine lv_bipush (v := 8) hx hb dX6_findTimes_76 (by decide) ?_
                  refine lv_iload_n hx hb dX6_findTimes_78 rfl (lv_at hl 2 rfl) ?_
                  refine lv_imul hx hb dX6_findTimes_79 ?_
                  refine lv_topi (fun v29 ev29 => ?_)
                  replace hF := of_dd hF v29 ev29
                  refine lv_iload_n hx hb dX6_findTimes_80 rfl (lv_at hl 3 rfl) ?_
                  refine lv_iadd hx hb dX6_findTimes_81 ?_
                  refine lv_topi (fun v30 ev30 => ?_)
                  replace hF := of_dd hF v30 ev30
                  obtain ⟨h31, hF⟩ := of_ck hF
                  refine va_iald (D := D) hx hb hK hP 4 0 rfl rfl h31 dX6_findTimes_82 ?_
                  obtain ⟨h32, hF⟩ := of_ck hF
                  refine va_iast (D := D) hx hb hK hP hD hS 4 0 rfl rfl h32 dX6_findTimes_83 (fun H locs hP hD hS => ?_)
                  obtain ⟨om33, hF, hP, hD⟩ := nm_o (P := fun y => va_P D vwCl (wm_X6_findTimes cI cZ cO m_h m_1 m_2 m_3 m_22 m_23 m_24 m_27 m_29 m_30 y) _) (B := fun y => va_D A (wm_X6_findTimes cI cZ cO m_h m_1 m_2 m_3 m_22 m_23 m_24 m_27 m_29 m_30 y)) hF hP hD
                  obtain ⟨v34, ev34⟩ : ∃ y : Int32, y = v11 + 1 := ⟨_, rfl⟩
                  replace hF := of_dd hF v34 ev34
                  refine lv_iinc (v := v34) (lv' := [(3, .int v34), (0, .ref m_h), (1, .int p0), (2, .int v3)]) hx hb dX6_findTimes_84 hl (k := 3) rfl (by rw [ev34]; rfl) (by decide) rfl (fun ls hl => ?_)
                  refine lv_goto (tgt := 10) hx hb dX6_findTimes_87 (by decide) ?_
                  exact ih13 v34 om33 ls _ _ (lv_sub hl [1, 2, 3, 0] rfl) hP hD hS hF
                refine lv_icmp_ne (tgt := 59) hx hb dX6_findTimes_51 (by decide) (fun h35 => ?_) (fun h35 => ?_)
                · replace hF := of_f h35 hF
                  refine lv_iload hx hb dX6_findTimes_59 (lv_at hl 0 rfl) ?_
                  exact hK23 q20.1 ls _ _ (lv_sub hl [1, 2, 3, 4] rfl) hP hD hS hF
                · replace hF := of_t h35 hF
                  refine lv_ldc hx hb hown (hts _ wd_706) dX6_findTimes_54 ?_
                  refine lv_goto (tgt := 61) hx hb dX6_findTimes_56 (by decide) ?_
                  exact hK23 100000 ls _ _ (lv_sub hl [1, 2, 3, 4] rfl) hP hD hS hF
        exact hloop36 2000 0 om4 ls _ _ (lv_sub hl [1, 2, 3, 0] rfl) hP hD hS hF
  exact hloop37 2000 0 om ls _ _ (lv_sub hl [1, 2, 0] rfl) hP hD hS hF

/-! ### ThreeLegsModel.tie(II)V -/
abbrev wm_X6_tie (cI cZ cO : ClassId) (m_h m_1 m_2 m_3 m_22 m_23 m_24 m_27 m_29 m_30 : Nat) (om : Ob) : va_W := [(m_h, .inr (6, [.int (om 0 0), .ref m_1, .ref m_2, .ref m_3, .int (om 4 0), .int (om 5 0), .int (om 6 0), .int (om 7 0), .int (om 8 0), .int (om 9 0), .int (om 10 0), .int (om 11 0), .int (om 12 0), .int (om 13 0), .int (om 14 0), .int (om 15 0), .int (om 16 0), .int (om 17 0), .int (om 18 0), .int (om 19 0), .int (om 20 0), .int (om 21 0), .ref m_22, .ref m_23, .ref m_24, .int (om 25 0), .int (om 26 0), .ref m_27, .int (om 28 0), .ref m_29, .ref m_30, .int (om 31 0), .int (om 32 0)])), (m_1, .inl (cI, 8, .inl (om 1))), (m_2, .inl (cI, 8, .inl (om 2))), (m_3, .inl (cI, 8, .inl (om 3))), (m_22, .inl (cI, 64, .inl (om 22))), (m_23, .inl (cI, 8, .inl (om 23))), (m_24, .inl (cI, 8, .inl (om 24))), (m_27, .inl (cI, 40, .inl (om 27))), (m_29, .inl (cI, 80, .inl (om 29))), (m_30, .inl (cZ, 2, .inl (om 30)))]
def L_X6_tie_71 : Nat → Int32 → Int32 → Int32 → (Int32 → Option (Ob)) → Option (Ob)
  | 0, _, _, _, _ => none
  | n35 + 1, v14, v32, v33, K23 =>
    dd (v14 >>> (v33 &&& 31)) (fun (v36 : Int32) => dd (v36 &&& 1) (fun (v37 : Int32) => jn (dd (v14 >>> (v33 &&& 31)) (fun (v39 : Int32) => dd (v39 &&& 1) (fun (v40 : Int32) => dd (v32 - v40) (fun (v41 : Int32) => dd (v33 + 1) (fun (v42 : Int32) => L_X6_tie_71 n35 v14 v41 v42 K23))))) (fun (K38 : Option (Ob)) => (if v37 = 0 then K38 else (if v32 ≤ 0 then K23 v33 else K38)))))
def L_X6_tie_18 : Nat → Int32 → Int32 → (Int32 → Option (Ob)) → Option (Ob)
  | 0, _, _, _ => none
  | n48 + 1, v3, v46, K10 =>
    dd (v3 >>> (v46 &&& 31)) (fun (v49 : Int32) => dd (v49 &&& 1) (fun (v50 : Int32) => (if v50 = 0 then dd (v46 + 1) (fun (v52 : Int32) => L_X6_tie_18 n48 v3 v52 K10) else K10 v46)))
def L_X6_tie_11 : Nat → Int32 → Int32 → Int32 → Ob → (Ob → Option (Ob)) → Option (Ob)
  | 0, _, _, _, _, _ => none
  | n8 + 1, v3, v4, v5, om6, K1 =>
    (if v3 = 0 then K1 om6 else jn (fun (v11 : Int32) => dd (1 <<< (v11 &&& 31)) (fun (v12 : Int32) => dd (v12 ^^^ (-1)) (fun (v13 : Int32) => dd (v3 &&& v13) (fun (v14 : Int32) => (F_X6_ones v14).bind (fun q15 => dz q15 (dd (v5 / q15) (fun (v17 : Int32) => dz v17 (dd (v4 / v17) (fun (v19 : Int32) => dz v17 (dd (v4 - v4 / v17 * v17) (fun (v21 : Int32) => dd (v11 + 1) (fun (v22 : Int32) => jn (fun (v24 : Int32) => dd (1 <<< (v24 &&& 31)) (fun (v25 : Int32) => dd (v25 ^^^ (-1)) (fun (v26 : Int32) => dd (v14 &&& v26) (fun (v27 : Int32) => ck v11 8 (dd (sO om6 23 (upd (om6 23) (v11).toNatClampNeg v24)) (fun (om29 : Ob) => ck v24 8 (dd (sO om29 23 (upd (om29 23) (v24).toNatClampNeg v11)) (fun (om31 : Ob) => L_X6_tie_11 n8 v27 v21 v17 om31 K1)))))))) (fun (K23 : Int32 → Option (Ob)) => L_X6_tie_71 2000 v14 v19 v22 K23))))))))))))) (fun (K10 : Int32 → Option (Ob)) => L_X6_tie_18 2000 v3 0 K10))
def F_X6_tie (om : Ob) (p0 : Int32) (p1 : Int32) : Option (Ob) :=
  jn (fun (om2 : Ob) => some om2) (fun (K1 : Ob → Option (Ob)) => L_X6_tie_11 2000 (om 0 0) p0 p1 om K1)
abbrev rm_X6_tie : Room := { frames := 1, cells := 0, slots := 0, locals := 22 }
abbrev wu_X6_tie : List Cond := .code yX6_tie cX6_tie 9 none :: lwG
set_option maxHeartbeats 20000000 in
set_option maxRecDepth 100000 in
theorem c_X6_tie (l : Launch) (D : va_G) (cI cZ cO : ClassId) (m_h m_1 m_2 m_3 m_22 m_23 m_24 m_27 m_29 m_30 : Nat) (sz : Nat) (om : Ob) (p0 : Int32) (p1 : Int32) (q : Ob) (hF : F_X6_tie om p0 p1 = some q) : CtV l yX6_tie wu_X6_tie rm_X6_tie D vwCl (tyL cI cZ cO) [.ref m_h, .int p0, .int p1] (wm_X6_tie cI cZ cO m_h m_1 m_2 m_3 m_22 m_23 m_24 m_27 m_29 m_30 om) sz 0 0 (fun u : Ob => u = q) (fun u => wm_X6_tie cI cZ cO m_h m_1 m_2 m_3 m_22 m_23 m_24 m_27 m_29 m_30 u) := by
  refine mk_v (cc := cX6_tie) (maxL := 9) (by decide) rfl (Nat.le_of_ble_eq_true rfl) ?_
  intro p e s m args below meth c A ls Q hx hb hml hown hts hin hK hP hD hS hA hl hQ
  have hl : lv_has ls 9 [(0, .ref m_h), (1, .int p0), (2, .int p1)] := hl
  unfold F_X6_tie at hF
  refine lv_aload_n hx hb dX6_tie_0 rfl (lv_at hl 0 rfl) ?_
  refine va_get (D := D) (ci := 6) (v := .int (om 0 0)) (C := RX6) (T := TX6) (N := 33) hx hb hts in_X6 hown hK hP 0 rfl rfl 0 (by decide) (hts _ wd_519) (fun _ h9 => h9) rfl dX6_tie_1 ?_
  refine lv_istore_n (lv' := [(3, .int (om 0 0)), (0, .ref m_h), (1, .int p0), (2, .int p1)]) hx hb dX6_tie_4 rfl hl (by decide) rfl (fun ls hl => ?_)
  refine lv_iload_n hx hb dX6_tie_5 rfl (lv_at hl 2 rfl) ?_
  refine lv_istore (lv' := [(4, .int p0), (3, .int (om 0 0)), (0, .ref m_h), (1, .int p0), (2, .int p1)]) hx hb dX6_tie_6 hl (by decide) rfl (fun ls hl => ?_)
  refine lv_iload_n hx hb dX6_tie_8 rfl (lv_at hl 4 rfl) ?_
  refine lv_istore (lv' := [(5, .int p1), (4, .int p0), (3, .int (om 0 0)), (0, .ref m_h), (1, .int p0), (2, .int p1)]) hx hb dX6_tie_9 hl (by decide) rfl (fun ls hl => ?_)
  obtain ⟨K1, eK1, hF⟩ := of_jn hF
  have hK1 : ∀ (om2 : Ob) (ls : Array Slot) (H : Heap) (locs : List Loc), lv_has ls 9 [] → va_P D vwCl (wm_X6_tie cI cZ cO m_h m_1 m_2 m_3 m_22 m_23 m_24 m_27 m_29 m_30 om2) H → va_D A (wm_X6_tie cI cZ cO m_h m_1 m_2 m_3 m_22 m_23 m_24 m_27 m_29 m_30 om2) → va_S A s.heap H locs → K1 om2 = some q → W p l e rm_X6_tie s m args below meth c H locs 0 0 Q (F0 m 132 ls []) := by
    intro om2 ls H locs hl hP hD hS hF
    subst eK1
    exact hQ _ _ _ _ om2 (Option.some.inj hF) hP hD hS dX6_tie_132
  have hloop54 : ∀ (n8 : Nat) (v3 : Int32) (v4 : Int32) (v5 : Int32) (om6 : Ob) (ls : Array Slot) (H : Heap) (locs : List Loc), lv_has ls 9 [(0, .ref m_h), (3, .int v3), (4, .int v4), (5, .int v5)] → va_P D vwCl (wm_X6_tie cI cZ cO m_h m_1 m_2 m_3 m_22 m_23 m_24 m_27 m_29 m_30 om6) H → va_D A (wm_X6_tie cI cZ cO m_h m_1 m_2 m_3 m_22 m_23 m_24 m_27 m_29 m_30 om6) → va_S A s.heap H locs → L_X6_tie_11 n8 v3 v4 v5 om6 K1 = some q → W p l e rm_X6_tie s m args below meth c H locs 0 0 Q (F0 m 11 ls []) := by
    intro n8
    induction n8 with
    | zero =>
      intro v3 v4 v5 om6 ls H locs hl hP hD hS hF
      exact of_none hF
    | succ n8 ih7 =>
      intro v3 v4 v5 om6 ls H locs hl hP hD hS hF
      rw [L_X6_tie_11.eq_2] at hF
      refine lv_iload_n hx hb dX6_tie_11 rfl (lv_at hl 1 rfl) ?_
      refine lv_if_eq (tgt := 132) hx hb dX6_tie_12 (by decide) (fun h9 => ?_) (fun h9 => ?_)
      · replace hF := of_t h9 hF
        exact hK1 om6 ls _ _ (lv_sub hl [] rfl) hP hD hS hF
      · replace hF := of_f h9 hF
        refine lv_iconst (v := 0) hx hb dX6_tie_15 (by decide) ?_
        refine lv_istore (lv' := [(6, .int 0), (0, .ref m_h), (3, .int v3), (4, .int v4), (5, .int v5)]) hx hb dX6_tie_16 hl (by decide) rfl (fun ls hl => ?_)
        obtain ⟨K10, eK10, hF⟩ := of_jn hF
        have hK10 : ∀ (v11 : Int32) (ls : Array Slot) (H : Heap) (locs : List Loc), lv_has ls 9 [(0, .ref m_h), (3, .int v3), (4, .int v4), (5, .int v5), (6, .int v11)] → va_P D vwCl (wm_X6_tie cI cZ cO m_h m_1 m_2 m_3 m_22 m_23 m_24 m_27 m_29 m_30 om6) H → va_D A (wm_X6_tie cI cZ cO m_h m_1 m_2 m_3 m_22 m_23 m_24 m_27 m_29 m_30 om6) → va_S A s.heap H locs → K10 v11 = some q → W p l e rm_X6_tie s m args below meth c H locs 0 0 Q (F0 m 33 ls []) := by
          intro v11 ls H locs hl hP hD hS hF
          subst eK10
          refine lv_iload_n hx hb dX6_tie_33 rfl (lv_at hl 1 rfl) ?_
          refine lv_iconst (v := 1) hx hb dX6_tie_34 (by decide) ?_
          refine lv_iload hx hb dX6_tie_35 (lv_at hl 4 rfl) ?_
          refine lv_ishl hx hb dX6_tie_37 ?_
          refine lv_topi (fun v12 ev12 => ?_)
          replace hF := of_dd hF v12 ev12
          refine lv_iconst (v := (-1)) hx hb dX6_tie_38 (by decide) ?_
          refine lv_ixor hx hb dX6_tie_39 ?_
          refine lv_topi (fun v13 ev13 => ?_)
          replace hF := of_dd hF v13 ev13
          refine lv_iand hx hb dX6_tie_40 ?_
          refine lv_topi (fun v14 ev14 => ?_)
          replace hF := of_dd hF v14 ev14
          refine lv_istore_n (lv' := [(3, .int v14), (0, .ref m_h), (4, .int v4), (5, .int v5), (6, .int v11)]) hx hb dX6_tie_41 rfl hl (by decide) rfl (fun ls hl => ?_)
          refine lv_iload hx hb dX6_tie_42 (lv_at hl 3 rfl) ?_
          refine lv_iload_n hx hb dX6_tie_44 rfl (lv_at hl 0 rfl) ?_
          obtain ⟨q15, hGq15, hF⟩ := of_bind hF
          refine callSi (As := [.int v14]) (rest := [.int v5]) ⟨hx, hb, hml, hown, hts⟩ hK hP hD hS hA (c_X6_ones l D cI cZ cO  _ v14 q15 hGq15) (va_cwS 1 hts (gS wd_630 wd_631 wd_39 wd_632) rfl rfl rfl (by decide +kernel) ⟨Nat.le_of_ble_eq_true rfl, Nat.le_of_ble_eq_true rfl⟩) rfl hl.1 rfl (Nat.le_of_ble_eq_true rfl) dX6_tie_45 ⟨Nat.zero_le _, Nat.zero_le _⟩ (fun H locs hP hS => ?_)
          obtain ⟨hz16, hF⟩ := of_dz hF
          refine lv_idiv hx hb dX6_tie_48 hz16 ?_
          refine lv_topi (fun v17 ev17 => ?_)
          replace hF := of_dd hF v17 ev17
          refine lv_istore (lv' := [(5, .int v17), (3, .int v14), (0, .ref m_h), (4, .int v4), (6, .int v11)]) hx hb dX6_tie_49 hl (by decide) rfl (fun ls hl => ?_)
          refine lv_iload hx hb dX6_tie_51 (lv_at hl 3 rfl) ?_
          refine lv_iload hx hb dX6_tie_53 (lv_at hl 0 rfl) ?_
          obtain ⟨hz18, hF⟩ := of_dz hF
          refine lv_idiv hx hb dX6_tie_55 hz18 ?_
          refine lv_topi (fun v19 ev19 => ?_)
          replace hF := of_dd hF v19 ev19
          refine lv_istore (lv' := [(7, .int v19), (5, .int v17), (3, .int v14), (0, .ref m_h), (4, .int v4), (6, .int v11)]) hx hb dX6_tie_56 hl (by decide) rfl (fun ls hl => ?_)
          refine lv_iload hx hb dX6_tie_58 (lv_at hl 4 rfl) ?_
          refine lv_iload hx hb dX6_tie_60 (lv_at hl 1 rfl) ?_
          obtain ⟨hz20, hF⟩ := of_dz hF
          refine lv_irem hx hb dX6_tie_62 hz20 ?_
          refine lv_topi (fun v21 ev21 => ?_)
          replace hF := of_dd hF v21 ev21
          refine lv_istore (lv' := [(4, .int v21), (7, .int v19), (5, .int v17), (3, .int v14), (0, .ref m_h), (6, .int v11)]) hx hb dX6_tie_63 hl (by decide) rfl (fun ls hl => ?_)
          refine lv_iload hx hb dX6_tie_65 (lv_at hl 5 rfl) ?_
          refine lv_iconst (v := 1) hx hb dX6_tie_67 (by decide) ?_
          refine lv_iadd hx hb dX6_tie_68 ?_
          refine lv_topi (fun v22 ev22 => ?_)
          replace hF := of_dd hF v22 ev22
          refine lv_istore (lv' := [(8, .int v22), (4, .int v21), (7, .int v19), (5, .int v17), (3, .int v14), (0, .ref m_h), (6, .int v11)]) hx hb dX6_tie_69 hl (by decide) rfl (fun ls hl => ?_)
          obtain ⟨K23, eK23, hF⟩ := of_jn hF
          have hK23 : ∀ (v24 : Int32) (ls : Array Slot) (H : Heap) (locs : List Loc), lv_has ls 9 [(0, .ref m_h), (3, .int v14), (4, .int v21), (5, .int v17), (6, .int v11), (8, .int v24)] → va_P D vwCl (wm_X6_tie cI cZ cO m_h m_1 m_2 m_3 m_22 m_23 m_24 m_27 m_29 m_30 om6) H → va_D A (wm_X6_tie cI cZ cO m_h m_1 m_2 m_3 m_22 m_23 m_24 m_27 m_29 m_30 om6) → va_S A s.heap H locs → K23 v24 = some q → W p l e rm_X6_tie s m args below meth c H locs 0 0 Q (F0 m 102 ls []) := by
            intro v24 ls H locs hl hP hD hS hF
            subst eK23
            refine lv_iload_n hx hb dX6_tie_102 rfl (lv_at hl 1 rfl) ?_
            refine lv_iconst (v := 1) hx hb dX6_tie_103 (by decide) ?_
            refine lv_iload hx hb dX6_tie_104 (lv_at hl 5 rfl) ?_
            refine lv_ishl hx hb dX6_tie_106 ?_
            refine lv_topi (fun v25 ev25 => ?_)
            replace hF := of_dd hF v25 ev25
            refine lv_iconst (v := (-1)) hx hb dX6_tie_107 (by decide) ?_
            refine lv_ixor hx hb dX6_tie_108 ?_
            refine lv_topi (fun v26 ev26 => ?_)
            replace hF := of_dd hF v26 ev26
            refine lv_iand hx hb dX6_tie_109 ?_
            refine lv_topi (fun v27 ev27 => ?_)
            replace hF := of_dd hF v27 ev27
            refine lv_istore_n (lv' := [(3, .int v27), (0, .ref m_h), (4, .int v21), (5, .int v17), (6, .int v11), (8, .int v24)]) hx hb dX6_tie_110 rfl hl (by decide) rfl (fun ls hl => ?_)
            refine lv_aload_n hx hb dX6_tie_111 rfl (lv_at hl 1 rfl) ?_
            refine va_get (D := D) (ci := 6) (v := .ref m_23) (C := RX6) (T := TX6) (N := 33) hx hb hts in_X6 hown hK hP 0 rfl rfl 23 (by decide) (hts _ wd_542) (fun _ h9 => h9) rfl dX6_tie_112 ?_
            refine lv_iload hx hb dX6_tie_115 (lv_at hl 4 rfl) ?_
            refine lv_iload hx hb dX6_tie_117 (lv_at hl 5 rfl) ?_
            obtain ⟨h28, hF⟩ := of_ck hF
            refine va_iast (D := D) hx hb hK hP hD hS 5 0 rfl rfl h28 dX6_tie_119 (fun H locs hP hD hS => ?_)
            obtain ⟨om29, hF, hP, hD⟩ := nm_o (P := fun y => va_P D vwCl (wm_X6_tie cI cZ cO m_h m_1 m_2 m_3 m_22 m_23 m_24 m_27 m_29 m_30 y) _) (B := fun y => va_D A (wm_X6_tie cI cZ cO m_h m_1 m_2 m_3 m_22 m_23 m_24 m_27 m_29 m_30 y)) hF hP hD
            refine lv_aload_n hx hb dX6_tie_120 rfl (lv_at hl 1 rfl) ?_
            refine va_get (D := D) (ci := 6) (v := .ref m_23) (C := RX6) (T := TX6) (N := 33) hx hb hts in_X6 hown hK hP 0 rfl rfl 23 (by decide) (hts _ wd_542) (fun _ h9 => h9) rfl dX6_tie_121 ?_
            refine lv_iload hx hb dX6_tie_124 (lv_at hl 5 rfl) ?_
            refine lv_iload hx hb dX6_tie_126 (lv_at hl 4 rfl) ?_
            obtain ⟨h30, hF⟩ := of_ck hF
            refine va_iast (D := D) hx hb hK hP hD hS 5 0 rfl rfl h30 dX6_tie_128 (fun H locs hP hD hS => ?_)
            obtain ⟨om31, hF, hP, hD⟩ := nm_o (P := fun y => va_P D vwCl (wm_X6_tie cI cZ cO m_h m_1 m_2 m_3 m_22 m_23 m_24 m_27 m_29 m_30 y) _) (B := fun y => va_D A (wm_X6_tie cI cZ cO m_h m_1 m_2 m_3 m_22 m_23 m_24 m_27 m_29 m_30 y)) hF hP hD
            refine lv_goto (tgt := 11) hx hb dX6_tie_129 (by decide) ?_
            exact ih7 v27 v21 v17 om31 ls _ _ (lv_sub hl [1, 0, 2, 3] rfl) hP hD hS hF
          have hloop45 : ∀ (n35 : Nat) (v32 : Int32) (v33 : Int32) (ls : Array Slot) (H : Heap) (locs : List Loc), lv_has ls 9 [(0, .ref m_h), (3, .int v14), (4, .int v21), (5, .int v17), (6, .int v11), (7, .int v32), (8, .int v33)] → va_P D vwCl (wm_X6_tie cI cZ cO m_h m_1 m_2 m_3 m_22 m_23 m_24 m_27 m_29 m_30 om6) H → va_D A (wm_X6_tie cI cZ cO m_h m_1 m_2 m_3 m_22 m_23 m_24 m_27 m_29 m_30 om6) → va_S A s.heap H locs → L_X6_tie_71 n35 v14 v32 v33 K23 = some q → W p l e rm_X6_tie s m args below meth c H locs 0 0 Q (F0 m 71 ls []) := by
            intro n35
            induction n35 with
            | zero =>
              intro v32 v33 ls H locs hl hP hD hS hF
              exact of_none hF
            | succ n35 ih34 =>
              intro v32 v33 ls H locs hl hP hD hS hF
              rw [L_X6_tie_71.eq_2] at hF
              refine lv_iload_n hx hb dX6_tie_71 rfl (lv_at hl 1 rfl) ?_
              refine lv_iload hx hb dX6_tie_72 (lv_at hl 6 rfl) ?_
              refine lv_ishr hx hb dX6_tie_74 ?_
              refine lv_topi (fun v36 ev36 => ?_)
              replace hF := of_dd hF v36 ev36
              refine lv_iconst (v := 1) hx hb dX6_tie_75 (by decide) ?_
              refine lv_iand hx hb dX6_tie_76 ?_
              refine lv_topi (fun v37 ev37 => ?_)
              replace hF := of_dd hF v37 ev37
              obtain ⟨K38, eK38, hF⟩ := of_jn hF
              have hK38 : ∀  (ls : Array Slot) (H : Heap) (locs : List Loc), lv_has ls 9 [(0, .ref m_h), (3, .int v14), (4, .int v21), (5, .int v17), (6, .int v11), (7, .int v32), (8, .int v33)] → va_P D vwCl (wm_X6_tie cI cZ cO m_h m_1 m_2 m_3 m_22 m_23 m_24 m_27 m_29 m_30 om6) H → va_D A (wm_X6_tie cI cZ cO m_h m_1 m_2 m_3 m_22 m_23 m_24 m_27 m_29 m_30 om6) → va_S A s.heap H locs → K38 = some q → W p l e rm_X6_tie s m args below meth c H locs 0 0 Q (F0 m 85 ls []) := by
                intro  ls H locs hl hP hD hS hF
                subst eK38
                refine lv_iload hx hb dX6_tie_85 (lv_at hl 5 rfl) ?_
                refine lv_iload_n hx hb dX6_tie_87 rfl (lv_at hl 1 rfl) ?_
                refine lv_iload hx hb dX6_tie_88 (lv_at hl 6 rfl) ?_
                refine lv_ishr hx hb dX6_tie_90 ?_
                refine lv_topi (fun v39 ev39 => ?_)
                replace hF := of_dd hF v39 ev39
                refine lv_iconst (v := 1) hx hb dX6_tie_91 (by decide) ?_
                refine lv_iand hx hb dX6_tie_92 ?_
                refine lv_topi (fun v40 ev40 => ?_)
                replace hF := of_dd hF v40 ev40
                refine lv_isub hx hb dX6_tie_93 ?_
                refine lv_topi (fun v41 ev41 => ?_)
                replace hF := of_dd hF v41 ev41
                refine lv_istore (lv' := [(7, .int v41), (0, .ref m_h), (3, .int v14), (4, .int v21), (5, .int v17), (6, .int v11), (8, .int v33)]) hx hb dX6_tie_94 hl (by decide) rfl (fun ls hl => ?_)
                obtain ⟨v42, ev42⟩ : ∃ y : Int32, y = v33 + 1 := ⟨_, rfl⟩
                replace hF := of_dd hF v42 ev42
                refine lv_iinc (v := v42) (lv' := [(8, .int v42), (7, .int v41), (0, .ref m_h), (3, .int v14), (4, .int v21), (5, .int v17), (6, .int v11)]) hx hb dX6_tie_96 hl (k := 6) rfl (by rw [ev42]; rfl) (by decide) rfl (fun ls hl => ?_)
                refine lv_goto (tgt := 71) hx hb dX6_tie_99 (by decide) ?_
                exact ih34 v41 v42 ls _ _ (lv_sub hl [2, 3, 4, 5, 6, 1, 0] rfl) hP hD hS hF
              refine lv_if_eq (tgt := 85) hx hb dX6_tie_77 (by decide) (fun h43 => ?_) (fun h43 => ?_)
              · replace hF := of_t h43 hF
                exact hK38  ls _ _ (lv_sub hl [0, 1, 2, 3, 4, 5, 6] rfl) hP hD hS hF
              · replace hF := of_f h43 hF
                refine lv_iload hx hb dX6_tie_80 (lv_at hl 5 rfl) ?_
                refine lv_if_le (tgt := 102) hx hb dX6_tie_82 (by decide) (fun h44 => ?_) (fun h44 => ?_)
                · replace hF := of_t h44 hF
                  exact hK23 v33 ls _ _ (lv_sub hl [0, 1, 2, 3, 4, 6] rfl) hP hD hS hF
                · replace hF := of_f h44 hF
                  exact hK38  ls _ _ (lv_sub hl [0, 1, 2, 3, 4, 5, 6] rfl) hP hD hS hF
          exact hloop45 2000 v19 v22 ls _ _ (lv_sub hl [5, 4, 1, 3, 6, 2, 0] rfl) hP hD hS hF
        have hloop53 : ∀ (n48 : Nat) (v46 : Int32) (ls : Array Slot) (H : Heap) (locs : List Loc), lv_has ls 9 [(0, .ref m_h), (3, .int v3), (4, .int v4), (5, .int v5), (6, .int v46)] → va_P D vwCl (wm_X6_tie cI cZ cO m_h m_1 m_2 m_3 m_22 m_23 m_24 m_27 m_29 m_30 om6) H → va_D A (wm_X6_tie cI cZ cO m_h m_1 m_2 m_3 m_22 m_23 m_24 m_27 m_29 m_30 om6) → va_S A s.heap H locs → L_X6_tie_18 n48 v3 v46 K10 = some q → W p l e rm_X6_tie s m args below meth c H locs 0 0 Q (F0 m 18 ls []) := by
          intro n48
          induction n48 with
          | zero =>
            intro v46 ls H locs hl hP hD hS hF
            exact of_none hF
          | succ n48 ih47 =>
            intro v46 ls H locs hl hP hD hS hF
            rw [L_X6_tie_18.eq_2] at hF
            refine lv_iload_n hx hb dX6_tie_18 rfl (lv_at hl 1 rfl) ?_
            refine lv_iload hx hb dX6_tie_19 (lv_at hl 4 rfl) ?_
            refine lv_ishr hx hb dX6_tie_21 ?_
            refine lv_topi (fun v49 ev49 => ?_)
            replace hF := of_dd hF v49 ev49
            refine lv_iconst (v := 1) hx hb dX6_tie_22 (by decide) ?_
            refine lv_iand hx hb dX6_tie_23 ?_
            refine lv_topi (fun v50 ev50 => ?_)
            replace hF := of_dd hF v50 ev50
            refine lv_if_ne (tgt := 33) hx hb dX6_tie_24 (by decide) (fun h51 => ?_) (fun h51 => ?_)
            · replace hF := of_f h51 hF
              exact hK10 v46 ls _ _ (lv_sub hl [0, 1, 2, 3, 4] rfl) hP hD hS hF
            · replace hF := of_t h51 hF
              obtain ⟨v52, ev52⟩ : ∃ y : Int32, y = v46 + 1 := ⟨_, rfl⟩
              replace hF := of_dd hF v52 ev52
              refine lv_iinc (v := v52) (lv' := [(6, .int v52), (0, .ref m_h), (3, .int v3), (4, .int v4), (5, .int v5)]) hx hb dX6_tie_27 hl (k := 4) rfl (by rw [ev52]; rfl) (by decide) rfl (fun ls hl => ?_)
              refine lv_goto (tgt := 18) hx hb dX6_tie_30 (by decide) ?_
              exact ih47 v52 ls _ _ (lv_sub hl [1, 2, 3, 4, 0] rfl) hP hD hS hF
        exact hloop53 2000 0 ls _ _ (lv_sub hl [1, 2, 3, 4, 0] rfl) hP hD hS hF
  exact hloop54 2000 (om 0 0) p0 p1 om ls _ _ (lv_sub hl [3, 2, 1, 0] rfl) hP hD hS hF

/-! ### ThreeLegsModel.tiedBy(I)I -/
abbrev wm_X6_tiedBy (cI cZ cO : ClassId) (m_h m_1 m_2 m_3 m_22 m_23 m_24 m_27 m_29 m_30 : Nat) (om : Ob) : va_W := [(m_h, .inr (6, [.int (om 0 0), .ref m_1, .ref m_2, .ref m_3, .int (om 4 0), .int (om 5 0), .int (om 6 0), .int (om 7 0), .int (om 8 0), .int (om 9 0), .int (om 10 0), .int (om 11 0), .int (om 12 0), .int (om 13 0), .int (om 14 0), .int (om 15 0), .int (om 16 0), .int (om 17 0), .int (om 18 0), .int (om 19 0), .int (om 20 0), .int (om 21 0), .ref m_22, .ref m_23, .ref m_24, .int (om 25 0), .int (om 26 0), .ref m_27, .int (om 28 0), .ref m_29, .ref m_30, .int (om 31 0), .int (om 32 0)])), (m_1, .inl (cI, 8, .inl (om 1))), (m_2, .inl (cI, 8, .inl (om 2))), (m_3, .inl (cI, 8, .inl (om 3))), (m_22, .inl (cI, 64, .inl (om 22))), (m_23, .inl (cI, 8, .inl (om 23))), (m_24, .inl (cI, 8, .inl (om 24))), (m_27, .inl (cI, 40, .inl (om 27))), (m_29, .inl (cI, 80, .inl (om 29))), (m_30, .inl (cZ, 2, .inl (om 30)))]
def L_X6_tiedBy_4 : Nat → Int32 → Ob → Int32 → Int32 → (Int32 → Option (Int32)) → Option (Int32)
  | 0, _, _, _, _, _ => none
  | n6 + 1, p0, om, v3, v4, K1 =>
    (if 8 ≤ v4 then K1 v3 else (F_X6_runs om v4).bind (fun q8 => (if q8 = 0 then dd (v4 + 1) (fun (v10 : Int32) => L_X6_tiedBy_4 n6 p0 om v3 v10 K1) else ck v4 8 ((if ((om 23) (v4).toNatClampNeg) ≤ v4 then dd (v4 + 1) (fun (v13 : Int32) => L_X6_tiedBy_4 n6 p0 om v3 v13 K1) else dd (8 * v4) (fun (v14 : Int32) => ck v4 8 (dd (v14 + ((om 23) (v4).toNatClampNeg)) (fun (v16 : Int32) => ck v16 64 ((if p0 = 0 then dd (v3 + ((om 22) (v16).toNatClampNeg)) (fun (v22 : Int32) => dd (v4 + 1) (fun (v23 : Int32) => L_X6_tiedBy_4 n6 p0 om v22 v23 K1)) else (if ((om 22) (v16).toNatClampNeg) ≤ v3 then dd (v4 + 1) (fun (v20 : Int32) => L_X6_tiedBy_4 n6 p0 om v3 v20 K1) else dd (v4 + 1) (fun (v21 : Int32) => L_X6_tiedBy_4 n6 p0 om ((om 22) (v16).toNatClampNeg) v21 K1))))))))))))
def F_X6_tiedBy (om : Ob) (p0 : Int32) : Option (Int32) :=
  jn (fun (v2 : Int32) => some v2) (fun (K1 : Int32 → Option (Int32)) => L_X6_tiedBy_4 2000 p0 om 0 0 K1)
abbrev rm_X6_tiedBy : Room := { frames := 2, cells := 0, slots := 0, locals := 46 }
abbrev wu_X6_tiedBy : List Cond := .code yX6_tiedBy cX6_tiedBy 5 (some .int) :: lwG
set_option maxHeartbeats 20000000 in
set_option maxRecDepth 100000 in
theorem c_X6_tiedBy (l : Launch) (D : va_G) (cI cZ cO : ClassId) (m_h m_1 m_2 m_3 m_22 m_23 m_24 m_27 m_29 m_30 : Nat) (sz : Nat) (om : Ob) (p0 : Int32) (q : Int32) (hF : F_X6_tiedBy om p0 = some q) : CtI l yX6_tiedBy wu_X6_tiedBy rm_X6_tiedBy D vwCl (tyL cI cZ cO) [.ref m_h, .int p0] (wm_X6_tiedBy cI cZ cO m_h m_1 m_2 m_3 m_22 m_23 m_24 m_27 m_29 m_30 om) sz 0 0 (fun (r : Int32) (u : Unit) => r = q ∧ u = ()) (fun u => wm_X6_tiedBy cI cZ cO m_h m_1 m_2 m_3 m_22 m_23 m_24 m_27 m_29 m_30 om) := by
  refine mk_i (cc := cX6_tiedBy) (maxL := 5) (by decide) rfl (Nat.le_of_ble_eq_true rfl) ?_
  intro p e s m args below meth c A ls Q hx hb hml hown hts hin hK hP hD hS hA hl hQ
  have hl : lv_has ls 5 [(0, .ref m_h), (1, .int p0)] := hl
  unfold F_X6_tiedBy at hF
  refine lv_iconst (v := 0) hx hb dX6_tiedBy_0 (by decide) ?_
  refine lv_istore_n (lv' := [(2, .int 0), (0, .ref m_h), (1, .int p0)]) hx hb dX6_tiedBy_1 rfl hl (by decide) rfl (fun ls hl => ?_)
  refine lv_iconst (v := 0) hx hb dX6_tiedBy_2 (by decide) ?_
  refine lv_istore_n (lv' := [(3, .int 0), (2, .int 0), (0, .ref m_h), (1, .int p0)]) hx hb dX6_tiedBy_3 rfl hl (by decide) rfl (fun ls hl => ?_)
  obtain ⟨K1, eK1, hF⟩ := of_jn hF
  have hK1 : ∀ (v2 : Int32) (ls : Array Slot) (H : Heap) (locs : List Loc), lv_has ls 5 [(2, .int v2)] → va_P D vwCl (wm_X6_tiedBy cI cZ cO m_h m_1 m_2 m_3 m_22 m_23 m_24 m_27 m_29 m_30 om) H → va_D A (wm_X6_tiedBy cI cZ cO m_h m_1 m_2 m_3 m_22 m_23 m_24 m_27 m_29 m_30 om) → va_S A s.heap H locs → K1 v2 = some q → W p l e rm_X6_tiedBy s m args below meth c H locs 0 0 Q (F0 m 76 ls []) := by
    intro v2 ls H locs hl hP hD hS hF
    subst eK1
    refine lv_iload_n hx hb dX6_tiedBy_76 rfl (lv_at hl 0 rfl) ?_
    exact hQ _ _ _ _ _ () ⟨Option.some.inj hF, rfl⟩ hP hD hS dX6_tiedBy_77
  have hloop24 : ∀ (n6 : Nat) (v3 : Int32) (v4 : Int32) (ls : Array Slot) (H : Heap) (locs : List Loc), lv_has ls 5 [(0, .ref m_h), (1, .int p0), (2, .int v3), (3, .int v4)] → va_P D vwCl (wm_X6_tiedBy cI cZ cO m_h m_1 m_2 m_3 m_22 m_23 m_24 m_27 m_29 m_30 om) H → va_D A (wm_X6_tiedBy cI cZ cO m_h m_1 m_2 m_3 m_22 m_23 m_24 m_27 m_29 m_30 om) → va_S A s.heap H locs → L_X6_tiedBy_4 n6 p0 om v3 v4 K1 = some q → W p l e rm_X6_tiedBy s m args below meth c H locs 0 0 Q (F0 m 4 ls []) := by
    intro n6
    induction n6 with
    | zero =>
      intro v3 v4 ls H locs hl hP hD hS hF
      exact of_none hF
    | succ n6 ih5 =>
      intro v3 v4 ls H locs hl hP hD hS hF
      rw [L_X6_tiedBy_4.eq_2] at hF
      refine lv_iload_n hx hb dX6_tiedBy_4 rfl (lv_at hl 3 rfl) ?_
      refine lv_bipush (v := 8) hx hb dX6_tiedBy_5 (by decide) ?_
      refine lv_icmp_ge (tgt := 76) hx hb dX6_tiedBy_7 (by decide) (fun h7 => ?_) (fun h7 => ?_)
      · replace hF := of_t h7 hF
        exact hK1 v3 ls _ _ (lv_sub hl [2] rfl) hP hD hS hF
      · replace hF := of_f h7 hF
        refine lv_aload_n hx hb dX6_tiedBy_10 rfl (lv_at hl 0 rfl) ?_
        refine lv_iload_n hx hb dX6_tiedBy_11 rfl (lv_at hl 3 rfl) ?_
        obtain ⟨q8, hGq8, hF⟩ := of_bind hF
        refine callVi (As := [.int v4]) (rest := []) (wr := []) (WN := wm_X6_tiedBy cI cZ cO m_h m_1 m_2 m_3 m_22 m_23 m_24 m_27 m_29 m_30 om) ⟨hx, hb, hml, hown, hts⟩ hK hP hD hS hA [0, 1, 2, 3, 4, 5, 6, 7, 8, 9] [] [0, 1, 2, 3, 4, 5, 6, 7, 8, 9] (c_X6_runs l D cI cZ cO m_h m_1 m_2 m_3 m_22 m_23 m_24 m_27 m_29 m_30 _ om v4 q8 hGq8) (cwV 1 hts (gV wd_637 wd_639 wd_14 wd_39 wd_640) rfl rfl rfl (by decide +kernel) ⟨Nat.le_of_ble_eq_true rfl, Nat.le_of_ble_eq_true rfl⟩) 0 6 rfl rfl rfl rfl rfl rfl rfl (by decide) rfl rfl rfl hl.1 rfl (Nat.le_of_ble_eq_true rfl) dX6_tiedBy_12 ⟨Nat.zero_le _, Nat.zero_le _⟩ (fun H locs hP hD hS => ?_)
        refine lv_if_eq (tgt := 70) hx hb dX6_tiedBy_15 (by decide) (fun h9 => ?_) (fun h9 => ?_)
        · replace hF := of_t h9 hF
          obtain ⟨v10, ev10⟩ : ∃ y : Int32, y = v4 + 1 := ⟨_, rfl⟩
          replace hF := of_dd hF v10 ev10
          refine lv_iinc (v := v10) (lv' := [(3, .int v10), (0, .ref m_h), (1, .int p0), (2, .int v3)]) hx hb dX6_tiedBy_70 hl (k := 3) rfl (by rw [ev10]; rfl) (by decide) rfl (fun ls hl => ?_)
          refine lv_goto (tgt := 4) hx hb dX6_tiedBy_73 (by decide) ?_
          exact ih5 v3 v10 ls _ _ (lv_sub hl [1, 2, 3, 0] rfl) hP hD hS hF
        · replace hF := of_f h9 hF
          refine lv_aload_n hx hb dX6_tiedBy_18 rfl (lv_at hl 0 rfl) ?_
          refine va_get (D := D) (ci := 6) (v := .ref m_23) (C := RX6) (T := TX6) (N := 33) hx hb hts in_X6 hown hK hP 0 rfl rfl 23 (by decide) (hts _ wd_542) (fun _ h9 => h9) rfl dX6_tiedBy_19 ?_
          refine lv_iload_n hx hb dX6_tiedBy_22 rfl (lv_at hl 3 rfl) ?_
          obtain ⟨h11, hF⟩ := of_ck hF
          refine va_iald (D := D) hx hb hK hP 5 0 rfl rfl h11 dX6_tiedBy_23 ?_
          refine lv_iload_n hx hb dX6_tiedBy_24 rfl (lv_at hl 3 rfl) ?_
          refine lv_icmp_le (tgt := 70) hx hb dX6_tiedBy_25 (by decide) (fun h12 => ?_) (fun h12 => ?_)
          · replace hF := of_t h12 hF
            obtain ⟨v13, ev13⟩ : ∃ y : Int32, y = v4 + 1 := ⟨_, rfl⟩
            replace hF := of_dd hF v13 ev13
            refine lv_iinc (v := v13) (lv' := [(3, .int v13), (0, .ref m_h), (1, .int p0), (2, .int v3)]) hx hb dX6_tiedBy_70 hl (k := 3) rfl (by rw [ev13]; rfl) (by decide) rfl (fun ls hl => ?_)
            refine lv_goto (tgt := 4) hx hb dX6_tiedBy_73 (by decide) ?_
            exact ih5 v3 v13 ls _ _ (lv_sub hl [1, 2, 3, 0] rfl) hP hD hS hF
          · replace hF := of_f h12 hF
            refine lv_aload_n hx hb dX6_tiedBy_28 rfl (lv_at hl 0 rfl) ?_
            refine va_get (D := D) (ci := 6) (v := .ref m_22) (C := RX6) (T := TX6) (N := 33) hx hb hts in_X6 hown hK hP 0 rfl rfl 22 (by decide) (hts _ wd_541) (fun _ h9 => h9) rfl dX6_tiedBy_29 ?_
            refine lv_bipush (v := 8) hx hb dX6_tiedBy_32 (by decide) ?_
            refine lv_iload_n hx hb dX6_tiedBy_34 rfl (lv_at hl 3 rfl) ?_
            refine lv_imul hx hb dX6_tiedBy_35 ?_
            refine lv_topi (fun v14 ev14 => ?_)
            replace hF := of_dd hF v14 ev14
            refine lv_aload_n hx hb dX6_tiedBy_36 rfl (lv_at hl 0 rfl) ?_
            refine va_get (D := D) (ci := 6) (v := .ref m_23) (C := RX6) (T := TX6) (N := 33) hx hb hts in_X6 hown hK hP 0 rfl rfl 23 (by decide) (hts _ wd_542) (fun _ h9 => h9) rfl dX6_tiedBy_37 ?_
            refine lv_iload_n hx hb dX6_tiedBy_40 rfl (lv_at hl 3 rfl) ?_
            obtain ⟨h15, hF⟩ := of_ck hF
            refine va_iald (D := D) hx hb hK hP 5 0 rfl rfl h15 dX6_tiedBy_41 ?_
            refine lv_iadd hx hb dX6_tiedBy_42 ?_
            refine lv_topi (fun v16 ev16 => ?_)
            replace hF := of_dd hF v16 ev16
            obtain ⟨h17, hF⟩ := of_ck hF
            refine va_iald (D := D) hx hb hK hP 4 0 rfl rfl h17 dX6_tiedBy_43 ?_
            refine lv_istore (lv' := [(4, .int ((om 22) (v16).toNatClampNeg)), (0, .ref m_h), (1, .int p0), (2, .int v3), (3, .int v4)]) hx hb dX6_tiedBy_44 hl (by decide) rfl (fun ls hl => ?_)
            refine lv_iload_n hx hb dX6_tiedBy_46 rfl (lv_at hl 2 rfl) ?_
            refine lv_if_ne (tgt := 57) hx hb dX6_tiedBy_47 (by decide) (fun h18 => ?_) (fun h18 => ?_)
            · replace hF := of_f h18 hF
              refine lv_iload hx hb dX6_tiedBy_57 (lv_at hl 0 rfl) ?_
              refine lv_iload_n hx hb dX6_tiedBy_59 rfl (lv_at hl 3 rfl) ?_
              refine lv_icmp_le (tgt := 68) hx hb dX6_tiedBy_60 (by decide) (fun h19 => ?_) (fun h19 => ?_)
              · replace hF := of_t h19 hF
                refine lv_iload_n hx hb dX6_tiedBy_68 rfl (lv_at hl 3 rfl) ?_
                refine lv_istore_n (lv' := [(2, .int v3), (4, .int ((om 22) (v16).toNatClampNeg)), (0, .ref m_h), (1, .int p0), (3, .int v4)]) hx hb dX6_tiedBy_69 rfl hl (by decide) rfl (fun ls hl => ?_)
                obtain ⟨v20, ev20⟩ : ∃ y : Int32, y = v4 + 1 := ⟨_, rfl⟩
                replace hF := of_dd hF v20 ev20
                refine lv_iinc (v := v20) (lv' := [(3, .int v20), (2, .int v3), (4, .int ((om 22) (v16).toNatClampNeg)), (0, .ref m_h), (1, .int p0)]) hx hb dX6_tiedBy_70 hl (k := 4) rfl (by rw [ev20]; rfl) (by decide) rfl (fun ls hl => ?_)
                refine lv_goto (tgt := 4) hx hb dX6_tiedBy_73 (by decide) ?_
                exact ih5 v3 v20 ls _ _ (lv_sub hl [3, 4, 1, 0] rfl) hP hD hS hF
              · replace hF := of_f h19 hF
                refine lv_iload hx hb dX6_tiedBy_63 (lv_at hl 0 rfl) ?_
                refine lv_goto (tgt := 69) hx hb dX6_tiedBy_65 (by decide) ?_
                refine lv_istore_n (lv' := [(2, .int ((om 22) (v16).toNatClampNeg)), (4, .int ((om 22) (v16).toNatClampNeg)), (0, .ref m_h), (1, .int p0), (3, .int v4)]) hx hb dX6_tiedBy_69 rfl hl (by decide) rfl (fun ls hl => ?_)
                obtain ⟨v21, ev21⟩ : ∃ y : Int32, y = v4 + 1 := ⟨_, rfl⟩
                replace hF := of_dd hF v21 ev21
                refine lv_iinc (v := v21) (lv' := [(3, .int v21), (2, .int ((om 22) (v16).toNatClampNeg)), (4, .int ((om 22) (v16).toNatClampNeg)), (0, .ref m_h), (1, .int p0)]) hx hb dX6_tiedBy_70 hl (k := 4) rfl (by rw [ev21]; rfl) (by decide) rfl (fun ls hl => ?_)
                refine lv_goto (tgt := 4) hx hb dX6_tiedBy_73 (by decide) ?_
                exact ih5 ((om 22) (v16).toNatClampNeg) v21 ls _ _ (lv_sub hl [3, 4, 1, 0] rfl) hP hD hS hF
            · replace hF := of_t h18 hF
              refine lv_iload_n hx hb dX6_tiedBy_50 rfl (lv_at hl 3 rfl) ?_
              refine lv_iload hx hb dX6_tiedBy_51 (lv_at hl 0 rfl) ?_
              refine lv_iadd hx hb dX6_tiedBy_53 ?_
              refine lv_topi (fun v22 ev22 => ?_)
              replace hF := of_dd hF v22 ev22
              refine lv_goto (tgt := 69) hx hb dX6_tiedBy_54 (by decide) ?_
              refine lv_istore_n (lv' := [(2, .int v22), (4, .int ((om 22) (v16).toNatClampNeg)), (0, .ref m_h), (1, .int p0), (3, .int v4)]) hx hb dX6_tiedBy_69 rfl hl (by decide) rfl (fun ls hl => ?_)
              obtain ⟨v23, ev23⟩ : ∃ y : Int32, y = v4 + 1 := ⟨_, rfl⟩
              replace hF := of_dd hF v23 ev23
              refine lv_iinc (v := v23) (lv' := [(3, .int v23), (2, .int v22), (4, .int ((om 22) (v16).toNatClampNeg)), (0, .ref m_h), (1, .int p0)]) hx hb dX6_tiedBy_70 hl (k := 4) rfl (by rw [ev23]; rfl) (by decide) rfl (fun ls hl => ?_)
              refine lv_goto (tgt := 4) hx hb dX6_tiedBy_73 (by decide) ?_
              exact ih5 v22 v23 ls _ _ (lv_sub hl [3, 4, 1, 0] rfl) hP hD hS hF
  exact hloop24 2000 0 0 ls _ _ (lv_sub hl [2, 3, 1, 0] rfl) hP hD hS hF

/-! ### ThreeLegsModel.tied(III)I -/
abbrev wm_X6_tied (cI cZ cO : ClassId) (m_h m_1 m_2 m_3 m_22 m_23 m_24 m_27 m_29 m_30 : Nat) (om : Ob) : va_W := [(m_h, .inr (6, [.int (om 0 0), .ref m_1, .ref m_2, .ref m_3, .int (om 4 0), .int (om 5 0), .int (om 6 0), .int (om 7 0), .int (om 8 0), .int (om 9 0), .int (om 10 0), .int (om 11 0), .int (om 12 0), .int (om 13 0), .int (om 14 0), .int (om 15 0), .int (om 16 0), .int (om 17 0), .int (om 18 0), .int (om 19 0), .int (om 20 0), .int (om 21 0), .ref m_22, .ref m_23, .ref m_24, .int (om 25 0), .int (om 26 0), .ref m_27, .int (om 28 0), .ref m_29, .ref m_30, .int (om 31 0), .int (om 32 0)])), (m_1, .inl (cI, 8, .inl (om 1))), (m_2, .inl (cI, 8, .inl (om 2))), (m_3, .inl (cI, 8, .inl (om 3))), (m_22, .inl (cI, 64, .inl (om 22))), (m_23, .inl (cI, 8, .inl (om 23))), (m_24, .inl (cI, 8, .inl (om 24))), (m_27, .inl (cI, 40, .inl (om 27))), (m_29, .inl (cI, 80, .inl (om 29))), (m_30, .inl (cZ, 2, .inl (om 30)))]
def L_X6_tied_144 : Nat → Int32 → Ob → (Ob → Option (Int32 × Ob)) → Option (Int32 × Ob)
  | 0, _, _, _ => none
  | n34 + 1, v31, om32, K28 =>
    (if 8 ≤ v31 then K28 om32 else ck v31 8 (ck v31 8 (dd (sO om32 24 (upd (om32 24) (v31).toNatClampNeg ((om32 23) (v31).toNatClampNeg))) (fun (om38 : Ob) => dd (v31 + 1) (fun (v39 : Int32) => L_X6_tied_144 n34 v39 om38 K28)))))
def L_X6_tied_108 : Nat → Int32 → Int32 → Int32 → Int32 → Ob → (Int32 → Ob → Option (Int32 × Ob)) → Option (Int32 × Ob)
  | 0, _, _, _, _, _, _ => none
  | n22 + 1, v12, p1, v18, v19, om20, K13 =>
    (if v12 ≤ v19 then K13 v18 om20 else (F_X6_tie om20 v19 v12).bind (fun q24 => (F_X6_tiedBy q24 p1).bind (fun q25 => (if v18 ≤ q25 then dd (v19 + 1) (fun (v27 : Int32) => L_X6_tied_108 n22 v12 p1 v18 v27 q24 K13) else jn (fun (om29 : Ob) => dd (v19 + 1) (fun (v30 : Int32) => L_X6_tied_108 n22 v12 p1 q25 v30 om29 K13)) (fun (K28 : Ob → Option (Int32 × Ob)) => L_X6_tied_144 2000 0 q24 K28)))))
def F_X6_tied (om : Ob) (p0 : Int32) (p1 : Int32) (p2 : Int32) : Option (Int32 × Ob) :=
  (F_X6_ones (om 0 0)).bind (fun q1 => (if q1 = 0 then some ((-3), om) else dd (q1 - q1 / 2 * 2) (fun (v3 : Int32) => (if v3 = 1 then some ((-3), om) else jn ((F_X6_isFar p0).bind (fun q6 => (if q6 = 0 then some ((-2), om) else (F_X6_in (Int32.toInt64 p1) (0 : Int64) (1 : Int64)).bind (fun q8 => (if q8 = 0 then some ((-2), om) else (F_X6_findTimes om p0).bind (fun q10 => jn (fun (v12 : Int32) => jn (fun (v14 : Int32) (om15 : Ob) => (if p2 = (-1) then some (v14, om15) else ck p2 8 (some (((om15 24) (p2).toNatClampNeg), om15)))) (fun (K13 : Int32 → Ob → Option (Int32 × Ob)) => L_X6_tied_108 2000 v12 p1 1000000000 0 q10 K13)) (fun (K11 : Int32 → Option (Int32 × Ob)) => (if q1 = 2 then K11 1 else (if q1 = 4 then K11 3 else (if q1 = 6 then K11 15 else K11 105)))))))))) (fun (K5 : Option (Int32 × Ob)) => (if p2 = (-1) then K5 else (F_X6_runs om p2).bind (fun q46 => (if q46 = 0 then some ((-1), om) else K5))))))))
abbrev rm_X6_tied : Room := { frames := 4, cells := 0, slots := 0, locals := 93 }
abbrev wu_X6_tied : List Cond := .code yX6_tied cX6_tied 10 (some .int) :: lwG
set_option maxHeartbeats 20000000 in
set_option maxRecDepth 100000 in
theorem c_X6_tied (l : Launch) (D : va_G) (cI cZ cO : ClassId) (m_h m_1 m_2 m_3 m_22 m_23 m_24 m_27 m_29 m_30 : Nat) (sz : Nat) (om : Ob) (p0 : Int32) (p1 : Int32) (p2 : Int32) (q : Int32 × Ob) (hF : F_X6_tied om p0 p1 p2 = some q) : CtI l yX6_tied wu_X6_tied rm_X6_tied D vwCl (tyL cI cZ cO) [.ref m_h, .int p0, .int p1, .int p2] (wm_X6_tied cI cZ cO m_h m_1 m_2 m_3 m_22 m_23 m_24 m_27 m_29 m_30 om) sz 0 0 (fun (r : Int32) (u : Ob) => r = q.1 ∧ u = q.2) (fun u => wm_X6_tied cI cZ cO m_h m_1 m_2 m_3 m_22 m_23 m_24 m_27 m_29 m_30 u) := by
  refine mk_i (cc := cX6_tied) (maxL := 10) (by decide) rfl (Nat.le_of_ble_eq_true rfl) ?_
  intro p e s m args below meth c A ls Q hx hb hml hown hts hin hK hP hD hS hA hl hQ
  have hl : lv_has ls 10 [(0, .ref m_h), (1, .int p0), (2, .int p1), (3, .int p2)] := hl
  unfold F_X6_tied at hF
  refine lv_aload_n hx hb dX6_tied_0 rfl (lv_at hl 0 rfl) ?_
  refine va_get (D := D) (ci := 6) (v := .int (om 0 0)) (C := RX6) (T := TX6) (N := 33) hx hb hts in_X6 hown hK hP 0 rfl rfl 0 (by decide) (hts _ wd_519) (fun _ h9 => h9) rfl dX6_tied_1 ?_
  obtain ⟨q1, hGq1, hF⟩ := of_bind hF
  refine callSi (As := [.int (om 0 0)]) (rest := []) ⟨hx, hb, hml, hown, hts⟩ hK hP hD hS hA (c_X6_ones l D cI cZ cO  _ (om 0 0) q1 hGq1) (va_cwS 1 hts (gS wd_630 wd_631 wd_39 wd_632) rfl rfl rfl (by decide +kernel) ⟨Nat.le_of_ble_eq_true rfl, Nat.le_of_ble_eq_true rfl⟩) rfl hl.1 rfl (Nat.le_of_ble_eq_true rfl) dX6_tied_4 ⟨Nat.zero_le _, Nat.zero_le _⟩ (fun H locs hP hS => ?_)
  refine lv_istore (lv' := [(4, .int q1), (0, .ref m_h), (1, .int p0), (2, .int p1), (3, .int p2)]) hx hb dX6_tied_7 hl (by decide) rfl (fun ls hl => ?_)
  refine lv_iload hx hb dX6_tied_9 (lv_at hl 0 rfl) ?_
  refine lv_if_eq (tgt := 22) hx hb dX6_tied_11 (by decide) (fun h2 => ?_) (fun h2 => ?_)
  · replace hF := of_t h2 hF
    refine lv_bipush (v := (-3)) hx hb dX6_tied_22 (by decide) ?_
    exact hQ _ _ _ _ _ om ⟨inj_fst hF, inj_snd hF⟩ hP hD hS dX6_tied_24
  · replace hF := of_f h2 hF
    refine lv_iload hx hb dX6_tied_14 (lv_at hl 0 rfl) ?_
    refine lv_iconst (v := 2) hx hb dX6_tied_16 (by decide) ?_
    refine lv_irem hx hb dX6_tied_17 (by decide) ?_
    refine lv_topi (fun v3 ev3 => ?_)
    replace hF := of_dd hF v3 ev3
    refine lv_iconst (v := 1) hx hb dX6_tied_18 (by decide) ?_
    refine lv_icmp_ne (tgt := 25) hx hb dX6_tied_19 (by decide) (fun h4 => ?_) (fun h4 => ?_)
    · replace hF := of_f h4 hF
      refine lv_iload_n hx hb dX6_tied_25 rfl (lv_at hl 4 rfl) ?_
      refine lv_iconst (v := (-1)) hx hb dX6_tied_26 (by decide) ?_
      obtain ⟨K5, eK5, hF⟩ := of_jn hF
      have hK5 : ∀  (ls : Array Slot) (H : Heap) (locs : List Loc), lv_has ls 10 [(0, .ref m_h), (1, .int p0), (2, .int p1), (3, .int p2), (4, .int q1)] → va_P D vwCl (wm_X6_tied cI cZ cO m_h m_1 m_2 m_3 m_22 m_23 m_24 m_27 m_29 m_30 om) H → va_D A (wm_X6_tied cI cZ cO m_h m_1 m_2 m_3 m_22 m_23 m_24 m_27 m_29 m_30 om) → va_S A s.heap H locs → K5 = some q → W p l e rm_X6_tied s m args below meth c H locs 0 0 Q (F0 m 40 ls []) := by
        intro  ls H locs hl hP hD hS hF
        subst eK5
        refine lv_iload_n hx hb dX6_tied_40 rfl (lv_at hl 1 rfl) ?_
        obtain ⟨q6, hGq6, hF⟩ := of_bind hF
        refine callSi (As := [.int p0]) (rest := []) ⟨hx, hb, hml, hown, hts⟩ hK hP hD hS hA (c_X6_isFar l D cI cZ cO  _ p0 q6 hGq6) (va_cwS 1 hts (gS wd_682 wd_683 wd_39 wd_684) rfl rfl rfl (by decide +kernel) ⟨Nat.le_of_ble_eq_true rfl, Nat.le_of_ble_eq_true rfl⟩) rfl hl.1 rfl (Nat.le_of_ble_eq_true rfl) dX6_tied_41 ⟨Nat.zero_le _, Nat.zero_le _⟩ (fun H locs hP hS => ?_)
        refine lv_if_eq (tgt := 57) hx hb dX6_tied_44 (by decide) (fun h7 => ?_) (fun h7 => ?_)
        · replace hF := of_t h7 hF
          refine lv_bipush (v := (-2)) hx hb dX6_tied_57 (by decide) ?_
          exact hQ _ _ _ _ _ om ⟨inj_fst hF, inj_snd hF⟩ hP hD hS dX6_tied_59
        · replace hF := of_f h7 hF
          refine lv_iload_n hx hb dX6_tied_47 rfl (lv_at hl 2 rfl) ?_
          refine lv_i2l hx hb dX6_tied_48 rfl ?_
          refine lv_lconst (v := 0) hx hb dX6_tied_49 (by decide) ?_
          refine lv_lconst (v := 1) hx hb dX6_tied_50 (by decide) ?_
          obtain ⟨q8, hGq8, hF⟩ := of_bind hF
          refine callSi (As := [.long (Int32.toInt64 p1), .long (0 : Int64), .long (1 : Int64)]) (rest := []) ⟨hx, hb, hml, hown, hts⟩ hK hP hD hS hA (c_X6_in l D cI cZ cO  _ (Int32.toInt64 p1) (0 : Int64) (1 : Int64) q8 hGq8) (va_cwS 3 hts (gS wd_624 wd_625 wd_39 wd_626) rfl rfl rfl (by decide +kernel) ⟨Nat.le_of_ble_eq_true rfl, Nat.le_of_ble_eq_true rfl⟩) rfl hl.1 rfl (Nat.le_of_ble_eq_true rfl) dX6_tied_51 ⟨Nat.zero_le _, Nat.zero_le _⟩ (fun H locs hP hS => ?_)
          refine lv_if_ne (tgt := 60) hx hb dX6_tied_54 (by decide) (fun h9 => ?_) (fun h9 => ?_)
          · replace hF := of_f h9 hF
            refine lv_aload_n hx hb dX6_tied_60 rfl (lv_at hl 0 rfl) ?_
            refine lv_iload_n hx hb dX6_tied_61 rfl (lv_at hl 1 rfl) ?_
            obtain ⟨q10, hGq10, hF⟩ := of_bind hF
            refine callVv (As := [.int p0]) (rest := []) (wr := []) (WN := wm_X6_tied cI cZ cO m_h m_1 m_2 m_3 m_22 m_23 m_24 m_27 m_29 m_30 q10) ⟨hx, hb, hml, hown, hts⟩ hK hP hD hS hA [0, 1, 2, 3, 4, 5, 6, 7, 8, 9] [] [0, 1, 2, 3, 4, 5, 6, 7, 8, 9] (c_X6_findTimes l D cI cZ cO m_h m_1 m_2 m_3 m_22 m_23 m_24 m_27 m_29 m_30 _ om p0 q10 hGq10) (cwV 1 hts (gV wd_702 wd_704 wd_22 wd_39 wd_705) rfl rfl rfl (by decide +kernel) ⟨Nat.le_of_ble_eq_true rfl, Nat.le_of_ble_eq_true rfl⟩) 0 6 rfl rfl rfl rfl rfl rfl rfl (by decide) rfl rfl rfl hl.1 rfl (Nat.le_of_ble_eq_true rfl) dX6_tied_62 ⟨Nat.zero_le _, Nat.zero_le _⟩ (fun H locs hP hD hS => ?_)
            refine lv_iload hx hb dX6_tied_65 (lv_at hl 4 rfl) ?_
            refine lv_iconst (v := 2) hx hb dX6_tied_67 (by decide) ?_
            obtain ⟨K11, eK11, hF⟩ := of_jn hF
            have hK11 : ∀ (v12 : Int32) (ls : Array Slot) (H : Heap) (locs : List Loc), lv_has ls 10 [(0, .ref m_h), (2, .int p1), (3, .int p2)] → va_P D vwCl (wm_X6_tied cI cZ cO m_h m_1 m_2 m_3 m_22 m_23 m_24 m_27 m_29 m_30 q10) H → va_D A (wm_X6_tied cI cZ cO m_h m_1 m_2 m_3 m_22 m_23 m_24 m_27 m_29 m_30 q10) → va_S A s.heap H locs → K11 v12 = some q → W p l e rm_X6_tied s m args below meth c H locs 0 0 Q (F0 m 99 ls [.int v12]) := by
              intro v12 ls H locs hl hP hD hS hF
              subst eK11
              refine lv_istore (lv' := [(5, .int v12), (0, .ref m_h), (2, .int p1), (3, .int p2)]) hx hb dX6_tied_99 hl (by decide) rfl (fun ls hl => ?_)
              refine lv_ldc hx hb hown (hts _ wd_689) dX6_tied_101 ?_
              refine lv_istore (lv' := [(6, .int 1000000000), (5, .int v12), (0, .ref m_h), (2, .int p1), (3, .int p2)]) hx hb dX6_tied_103 hl (by decide) rfl (fun ls hl => ?_)
              refine lv_iconst (v := 0) hx hb dX6_tied_105 (by decide) ?_
              refine lv_istore (lv' := [(7, .int 0), (6, .int 1000000000), (5, .int v12), (0, .ref m_h), (2, .int p1), (3, .int p2)]) hx hb dX6_tied_106 hl (by decide) rfl (fun ls hl => ?_)
              obtain ⟨K13, eK13, hF⟩ := of_jn hF
              have hK13 : ∀ (v14 : Int32) (om15 : Ob) (ls : Array Slot) (H : Heap) (locs : List Loc), lv_has ls 10 [(0, .ref m_h), (3, .int p2), (6, .int v14)] → va_P D vwCl (wm_X6_tied cI cZ cO m_h m_1 m_2 m_3 m_22 m_23 m_24 m_27 m_29 m_30 om15) H → va_D A (wm_X6_tied cI cZ cO m_h m_1 m_2 m_3 m_22 m_23 m_24 m_27 m_29 m_30 om15) → va_S A s.heap H locs → K13 v14 om15 = some q → W p l e rm_X6_tied s m args below meth c H locs 0 0 Q (F0 m 177 ls []) := by
                intro v14 om15 ls H locs hl hP hD hS hF
                subst eK13
                refine lv_iload_n hx hb dX6_tied_177 rfl (lv_at hl 1 rfl) ?_
                refine lv_iconst (v := (-1)) hx hb dX6_tied_178 (by decide) ?_
                refine lv_icmp_ne (tgt := 187) hx hb dX6_tied_179 (by decide) (fun h16 => ?_) (fun h16 => ?_)
                · replace hF := of_f h16 hF
                  refine lv_aload_n hx hb dX6_tied_187 rfl (lv_at hl 0 rfl) ?_
                  refine va_get (D := D) (ci := 6) (v := .ref m_24) (C := RX6) (T := TX6) (N := 33) hx hb hts in_X6 hown hK hP 0 rfl rfl 24 (by decide) (hts _ wd_543) (fun _ h9 => h9) rfl dX6_tied_188 ?_
                  refine lv_iload_n hx hb dX6_tied_191 rfl (lv_at hl 1 rfl) ?_
                  obtain ⟨h17, hF⟩ := of_ck hF
                  refine va_iald (D := D) hx hb hK hP 6 0 rfl rfl h17 dX6_tied_192 ?_
                  exact hQ _ _ _ _ _ om15 ⟨inj_fst hF, inj_snd hF⟩ hP hD hS dX6_tied_193
                · replace hF := of_t h16 hF
                  refine lv_iload hx hb dX6_tied_182 (lv_at hl 2 rfl) ?_
                  refine lv_goto (tgt := 193) hx hb dX6_tied_184 (by decide) ?_
                  exact hQ _ _ _ _ _ om15 ⟨inj_fst hF, inj_snd hF⟩ hP hD hS dX6_tied_193
              have hloop41 : ∀ (n22 : Nat) (v18 : Int32) (v19 : Int32) (om20 : Ob) (ls : Array Slot) (H : Heap) (locs : List Loc), lv_has ls 10 [(0, .ref m_h), (2, .int p1), (3, .int p2), (5, .int v12), (6, .int v18), (7, .int v19)] → va_P D vwCl (wm_X6_tied cI cZ cO m_h m_1 m_2 m_3 m_22 m_23 m_24 m_27 m_29 m_30 om20) H → va_D A (wm_X6_tied cI cZ cO m_h m_1 m_2 m_3 m_22 m_23 m_24 m_27 m_29 m_30 om20) → va_S A s.heap H locs → L_X6_tied_108 n22 v12 p1 v18 v19 om20 K13 = some q → W p l e rm_X6_tied s m args below meth c H locs 0 0 Q (F0 m 108 ls []) := by
                intro n22
                induction n22 with
                | zero =>
                  intro v18 v19 om20 ls H locs hl hP hD hS hF
                  exact of_none hF
                | succ n22 ih21 =>
                  intro v18 v19 om20 ls H locs hl hP hD hS hF
                  rw [L_X6_tied_108.eq_2] at hF
                  refine lv_iload hx hb dX6_tied_108 (lv_at hl 5 rfl) ?_
                  refine lv_iload hx hb dX6_tied_110 (lv_at hl 3 rfl) ?_
                  refine lv_icmp_ge (tgt := 177) hx hb dX6_tied_112 (by decide) (fun h23 => ?_) (fun h23 => ?_)
                  · replace hF := of_t h23 hF
                    exact hK13 v18 om20 ls _ _ (lv_sub hl [0, 2, 4] rfl) hP hD hS hF
                  · replace hF := of_f h23 hF
                    refine lv_aload_n hx hb dX6_tied_115 rfl (lv_at hl 0 rfl) ?_
                    refine lv_iload hx hb dX6_tied_116 (lv_at hl 5 rfl) ?_
                    refine lv_iload hx hb dX6_tied_118 (lv_at hl 3 rfl) ?_
                    obtain ⟨q24, hGq24, hF⟩ := of_bind hF
                    refine callVv (As := [.int v19, .int v12]) (rest := []) (wr := []) (WN := wm_X6_tied cI cZ cO m_h m_1 m_2 m_3 m_22 m_23 m_24 m_27 m_29 m_30 q24) ⟨hx, hb, hml, hown, hts⟩ hK hP hD hS hA [0, 1, 2, 3, 4, 5, 6, 7, 8, 9] [] [0, 1, 2, 3, 4, 5, 6, 7, 8, 9] (c_X6_tie l D cI cZ cO m_h m_1 m_2 m_3 m_22 m_23 m_24 m_27 m_29 m_30 _ om20 v19 v12 q24 hGq24) (cwV 2 hts (gV wd_707 wd_709 wd_23 wd_39 wd_710) rfl rfl rfl (by decide +kernel) ⟨Nat.le_of_ble_eq_true rfl, Nat.le_of_ble_eq_true rfl⟩) 0 6 rfl rfl rfl rfl rfl rfl rfl (by decide) rfl rfl rfl hl.1 rfl (Nat.le_of_ble_eq_true rfl) dX6_tied_120 ⟨Nat.zero_le _, Nat.zero_le _⟩ (fun H locs hP hD hS => ?_)
                    refine lv_aload_n hx hb dX6_tied_123 rfl (lv_at hl 0 rfl) ?_
                    refine lv_iload_n hx hb dX6_tied_124 rfl (lv_at hl 1 rfl) ?_
                    obtain ⟨q25, hGq25, hF⟩ := of_bind hF
                    refine callVi (As := [.int p1]) (rest := []) (wr := []) (WN := wm_X6_tied cI cZ cO m_h m_1 m_2 m_3 m_22 m_23 m_24 m_27 m_29 m_30 q24) ⟨hx, hb, hml, hown, hts⟩ hK hP hD hS hA [0, 1, 2, 3, 4, 5, 6, 7, 8, 9] [] [0, 1, 2, 3, 4, 5, 6, 7, 8, 9] (c_X6_tiedBy l D cI cZ cO m_h m_1 m_2 m_3 m_22 m_23 m_24 m_27 m_29 m_30 _ q24 p1 q25 hGq25) (cwV 1 hts (gV wd_711 wd_713 wd_24 wd_39 wd_714) rfl rfl rfl (by decide +kernel) ⟨Nat.le_of_ble_eq_true rfl, Nat.le_of_ble_eq_true rfl⟩) 0 6 rfl rfl rfl rfl rfl rfl rfl (by decide) rfl rfl rfl hl.1 rfl (Nat.le_of_ble_eq_true rfl) dX6_tied_125 ⟨Nat.zero_le _, Nat.zero_le _⟩ (fun H locs hP hD hS => ?_)
                    refine lv_istore (lv' := [(8, .int q25), (0, .ref m_h), (2, .int p1), (3, .int p2), (5, .int v12), (6, .int v18), (7, .int v19)]) hx hb dX6_tied_128 hl (by decide) rfl (fun ls hl => ?_)
                    refine lv_iload hx hb dX6_tied_130 (lv_at hl 0 rfl) ?_
                    refine lv_iload hx hb dX6_tied_132 (lv_at hl 5 rfl) ?_
                    refine lv_icmp_ge (tgt := 171) hx hb dX6_tied_134 (by decide) (fun h26 => ?_) (fun h26 => ?_)
                    · replace hF := of_t h26 hF
                      obtain ⟨v27, ev27⟩ : ∃ y : Int32, y = v19 + 1 := ⟨_, rfl⟩
                      replace hF := of_dd hF v27 ev27
                      refine lv_iinc (v := v27) (lv' := [(7, .int v27), (8, .int q25), (0, .ref m_h), (2, .int p1), (3, .int p2), (5, .int v12), (6, .int v18)]) hx hb dX6_tied_171 hl (k := 6) rfl (by rw [ev27]; rfl) (by decide) rfl (fun ls hl => ?_)
                      refine lv_goto (tgt := 108) hx hb dX6_tied_174 (by decide) ?_
                      exact ih21 v18 v27 q24 ls _ _ (lv_sub hl [2, 3, 4, 5, 6, 0] rfl) hP hD hS hF
                    · replace hF := of_f h26 hF
                      refine lv_iload hx hb dX6_tied_137 (lv_at hl 0 rfl) ?_
                      refine lv_istore (lv' := [(6, .int q25), (8, .int q25), (0, .ref m_h), (2, .int p1), (3, .int p2), (5, .int v12), (7, .int v19)]) hx hb dX6_tied_139 hl (by decide) rfl (fun ls hl => ?_)
                      refine lv_iconst (v := 0) hx hb dX6_tied_141 (by decide) ?_
                      refine lv_istore (lv' := [(9, .int 0), (6, .int q25), (8, .int q25), (0, .ref m_h), (2, .int p1), (3, .int p2), (5, .int v12), (7, .int v19)]) hx hb dX6_tied_142 hl (by decide) rfl (fun ls hl => ?_)
                      obtain ⟨K28, eK28, hF⟩ := of_jn hF
                      have hK28 : ∀ (om29 : Ob) (ls : Array Slot) (H : Heap) (locs : List Loc), lv_has ls 10 [(0, .ref m_h), (2, .int p1), (3, .int p2), (5, .int v12), (6, .int q25), (7, .int v19)] → va_P D vwCl (wm_X6_tied cI cZ cO m_h m_1 m_2 m_3 m_22 m_23 m_24 m_27 m_29 m_30 om29) H → va_D A (wm_X6_tied cI cZ cO m_h m_1 m_2 m_3 m_22 m_23 m_24 m_27 m_29 m_30 om29) → va_S A s.heap H locs → K28 om29 = some q → W p l e rm_X6_tied s m args below meth c H locs 0 0 Q (F0 m 171 ls []) := by
                        intro om29 ls H locs hl hP hD hS hF
                        subst eK28
                        obtain ⟨v30, ev30⟩ : ∃ y : Int32, y = v19 + 1 := ⟨_, rfl⟩
                        replace hF := of_dd hF v30 ev30
                        refine lv_iinc (v := v30) (lv' := [(7, .int v30), (0, .ref m_h), (2, .int p1), (3, .int p2), (5, .int v12), (6, .int q25)]) hx hb dX6_tied_171 hl (k := 5) rfl (by rw [ev30]; rfl) (by decide) rfl (fun ls hl => ?_)
                        refine lv_goto (tgt := 108) hx hb dX6_tied_174 (by decide) ?_
                        exact ih21 q25 v30 om29 ls _ _ (lv_sub hl [1, 2, 3, 4, 5, 0] rfl) hP hD hS hF
                      have hloop40 : ∀ (n34 : Nat) (v31 : Int32) (om32 : Ob) (ls : Array Slot) (H : Heap) (locs : List Loc), lv_has ls 10 [(0, .ref m_h), (2, .int p1), (3, .int p2), (5, .int v12), (6, .int q25), (7, .int v19), (9, .int v31)] → va_P D vwCl (wm_X6_tied cI cZ cO m_h m_1 m_2 m_3 m_22 m_23 m_24 m_27 m_29 m_30 om32) H → va_D A (wm_X6_tied cI cZ cO m_h m_1 m_2 m_3 m_22 m_23 m_24 m_27 m_29 m_30 om32) → va_S A s.heap H locs → L_X6_tied_144 n34 v31 om32 K28 = some q → W p l e rm_X6_tied s m args below meth c H locs 0 0 Q (F0 m 144 ls []) := by
                        intro n34
                        induction n34 with
                        | zero =>
                          intro v31 om32 ls H locs hl hP hD hS hF
                          exact of_none hF
                        | succ n34 ih33 =>
                          intro v31 om32 ls H locs hl hP hD hS hF
                          rw [L_X6_tied_144.eq_2] at hF
                          refine lv_iload hx hb dX6_tied_144 (lv_at hl 6 rfl) ?_
                          refine lv_bipush (v := 8) hx hb dX6_tied_146 (by decide) ?_
                          refine lv_icmp_ge (tgt := 171) hx hb dX6_tied_148 (by decide) (fun h35 => ?_) (fun h35 => ?_)
                          · replace hF := of_t h35 hF
                            exact hK28 om32 ls _ _ (lv_sub hl [0, 1, 2, 3, 4, 5] rfl) hP hD hS hF
                          · replace hF := of_f h35 hF
                            refine lv_aload_n hx hb dX6_tied_151 rfl (lv_at hl 0 rfl) ?_
                            refine va_get (D := D) (ci := 6) (v := .ref m_24) (C := RX6) (T := TX6) (N := 33) hx hb hts in_X6 hown hK hP 0 rfl rfl 24 (by decide) (hts _ wd_543) (fun _ h9 => h9) rfl dX6_tied_152 ?_
                            refine lv_iload hx hb dX6_tied_155 (lv_at hl 6 rfl) ?_
                            refine lv_aload_n hx hb dX6_tied_157 rfl (lv_at hl 0 rfl) ?_
                            refine va_get (D := D) (ci := 6) (v := .ref m_23) (C := RX6) (T := TX6) (N := 33) hx hb hts in_X6 hown hK hP 0 rfl rfl 23 (by decide) (hts _ wd_542) (fun _ h9 => h9) rfl dX6_tied_158 ?_
                            refine lv_iload hx hb dX6_tied_161 (lv_at hl 6 rfl) ?_
                            obtain ⟨h36, hF⟩ := of_ck hF
                            refine va_iald (D := D) hx hb hK hP 5 0 rfl rfl h36 dX6_tied_163 ?_
                            obtain ⟨h37, hF⟩ := of_ck hF
                            refine va_iast (D := D) hx hb hK hP hD hS 6 0 rfl rfl h37 dX6_tied_164 (fun H locs hP hD hS => ?_)
                            obtain ⟨om38, hF, hP, hD⟩ := nm_o (P := fun y => va_P D vwCl (wm_X6_tied cI cZ cO m_h m_1 m_2 m_3 m_22 m_23 m_24 m_27 m_29 m_30 y) _) (B := fun y => va_D A (wm_X6_tied cI cZ cO m_h m_1 m_2 m_3 m_22 m_23 m_24 m_27 m_29 m_30 y)) hF hP hD
                            obtain ⟨v39, ev39⟩ : ∃ y : Int32, y = v31 + 1 := ⟨_, rfl⟩
                            replace hF := of_dd hF v39 ev39
                            refine lv_iinc (v := v39) (lv' := [(9, .int v39), (0, .ref m_h), (2, .int p1), (3, .int p2), (5, .int v12), (6, .int q25), (7, .int v19)]) hx hb dX6_tied_165 hl (k := 6) rfl (by rw [ev39]; rfl) (by decide) rfl (fun ls hl => ?_)
                            refine lv_goto (tgt := 144) hx hb dX6_tied_168 (by decide) ?_
                            exact ih33 v39 om38 ls _ _ (lv_sub hl [1, 2, 3, 4, 5, 6, 0] rfl) hP hD hS hF
                      exact hloop40 2000 0 q24 ls _ _ (lv_sub hl [3, 4, 5, 6, 1, 7, 0] rfl) hP hD hS hF
              exact hloop41 2000 1000000000 0 q10 ls _ _ (lv_sub hl [3, 4, 5, 2, 1, 0] rfl) hP hD hS hF
            refine lv_icmp_ne (tgt := 75) hx hb dX6_tied_68 (by decide) (fun h42 => ?_) (fun h42 => ?_)
            · replace hF := of_f h42 hF
              refine lv_iload hx hb dX6_tied_75 (lv_at hl 4 rfl) ?_
              refine lv_iconst (v := 4) hx hb dX6_tied_77 (by decide) ?_
              refine lv_icmp_ne (tgt := 85) hx hb dX6_tied_78 (by decide) (fun h43 => ?_) (fun h43 => ?_)
              · replace hF := of_f h43 hF
                refine lv_iload hx hb dX6_tied_85 (lv_at hl 4 rfl) ?_
                refine lv_bipush (v := 6) hx hb dX6_tied_87 (by decide) ?_
                refine lv_icmp_ne (tgt := 97) hx hb dX6_tied_89 (by decide) (fun h44 => ?_) (fun h44 => ?_)
                · replace hF := of_f h44 hF
                  refine lv_bipush (v := 105) hx hb dX6_tied_97 (by decide) ?_
                  exact hK11 105 ls _ _ (lv_sub hl [0, 2, 3] rfl) hP hD hS hF
                · replace hF := of_t h44 hF
                  refine lv_bipush (v := 15) hx hb dX6_tied_92 (by decide) ?_
                  refine lv_goto (tgt := 99) hx hb dX6_tied_94 (by decide) ?_
                  exact hK11 15 ls _ _ (lv_sub hl [0, 2, 3] rfl) hP hD hS hF
              · replace hF := of_t h43 hF
                refine lv_iconst (v := 3) hx hb dX6_tied_81 (by decide) ?_
                refine lv_goto (tgt := 99) hx hb dX6_tied_82 (by decide) ?_
                exact hK11 3 ls _ _ (lv_sub hl [0, 2, 3] rfl) hP hD hS hF
            · replace hF := of_t h42 hF
              refine lv_iconst (v := 1) hx hb dX6_tied_71 (by decide) ?_
              refine lv_goto (tgt := 99) hx hb dX6_tied_72 (by decide) ?_
              exact hK11 1 ls _ _ (lv_sub hl [0, 2, 3] rfl) hP hD hS hF
          · replace hF := of_t h9 hF
            refine lv_bipush (v := (-2)) hx hb dX6_tied_57 (by decide) ?_
            exact hQ _ _ _ _ _ om ⟨inj_fst hF, inj_snd hF⟩ hP hD hS dX6_tied_59
      refine lv_icmp_eq (tgt := 40) hx hb dX6_tied_27 (by decide) (fun h45 => ?_) (fun h45 => ?_)
      · replace hF := of_t h45 hF
        exact hK5  ls _ _ (lv_sub hl [1, 2, 3, 4, 0] rfl) hP hD hS hF
      · replace hF := of_f h45 hF
        refine lv_aload_n hx hb dX6_tied_30 rfl (lv_at hl 1 rfl) ?_
        refine lv_iload_n hx hb dX6_tied_31 rfl (lv_at hl 4 rfl) ?_
        obtain ⟨q46, hGq46, hF⟩ := of_bind hF
        refine callVi (As := [.int p2]) (rest := []) (wr := []) (WN := wm_X6_tied cI cZ cO m_h m_1 m_2 m_3 m_22 m_23 m_24 m_27 m_29 m_30 om) ⟨hx, hb, hml, hown, hts⟩ hK hP hD hS hA [0, 1, 2, 3, 4, 5, 6, 7, 8, 9] [] [0, 1, 2, 3, 4, 5, 6, 7, 8, 9] (c_X6_runs l D cI cZ cO m_h m_1 m_2 m_3 m_22 m_23 m_24 m_27 m_29 m_30 _ om p2 q46 hGq46) (cwV 1 hts (gV wd_637 wd_639 wd_14 wd_39 wd_640) rfl rfl rfl (by decide +kernel) ⟨Nat.le_of_ble_eq_true rfl, Nat.le_of_ble_eq_true rfl⟩) 0 6 rfl rfl rfl rfl rfl rfl rfl (by decide) rfl rfl rfl hl.1 rfl (Nat.le_of_ble_eq_true rfl) dX6_tied_32 ⟨Nat.zero_le _, Nat.zero_le _⟩ (fun H locs hP hD hS => ?_)
        refine lv_if_ne (tgt := 40) hx hb dX6_tied_35 (by decide) (fun h47 => ?_) (fun h47 => ?_)
        · replace hF := of_f h47 hF
          exact hK5  ls _ _ (lv_sub hl [1, 2, 3, 4, 0] rfl) hP hD hS hF
        · replace hF := of_t h47 hF
          refine lv_iconst (v := (-1)) hx hb dX6_tied_38 (by decide) ?_
          exact hQ _ _ _ _ _ om ⟨inj_fst hF, inj_snd hF⟩ hP hD hS dX6_tied_39
    · replace hF := of_t h4 hF
      refine lv_bipush (v := (-3)) hx hb dX6_tied_22 (by decide) ?_
      exact hQ _ _ _ _ _ om ⟨inj_fst hF, inj_snd hF⟩ hP hD hS dX6_tied_24

/-! ### ThreeLegsModel.tryOne(II)V -/
abbrev wm_X6_tryOne (cI cZ cO : ClassId) (m_h m_1 m_2 m_3 m_22 m_23 m_24 m_27 m_29 m_30 : Nat) (om : Ob) : va_W := [(m_h, .inr (6, [.int (om 0 0), .ref m_1, .ref m_2, .ref m_3, .int (om 4 0), .int (om 5 0), .int (om 6 0), .int (om 7 0), .int (om 8 0), .int (om 9 0), .int (om 10 0), .int (om 11 0), .int (om 12 0), .int (om 13 0), .int (om 14 0), .int (om 15 0), .int (om 16 0), .int (om 17 0), .int (om 18 0), .int (om 19 0), .int (om 20 0), .int (om 21 0), .ref m_22, .ref m_23, .ref m_24, .int (om 25 0), .int (om 26 0), .ref m_27, .int (om 28 0), .ref m_29, .ref m_30, .int (om 31 0), .int (om 32 0)])), (m_1, .inl (cI, 8, .inl (om 1))), (m_2, .inl (cI, 8, .inl (om 2))), (m_3, .inl (cI, 8, .inl (om 3))), (m_22, .inl (cI, 64, .inl (om 22))), (m_23, .inl (cI, 8, .inl (om 23))), (m_24, .inl (cI, 8, .inl (om 24))), (m_27, .inl (cI, 40, .inl (om 27))), (m_29, .inl (cI, 80, .inl (om 29))), (m_30, .inl (cZ, 2, .inl (om 30)))]
def F_X6_tryOne (om : Ob) (p0 : Int32) (p1 : Int32) : Option (Ob) :=
  (F_X6_timeOf om p1).bind (fun q1 => jn (fun (v3 : Int32) => dd (sO q1.2 25 (cst v3)) (fun (om4 : Ob) => jn (fun (v6 : Int32) => dd (sO om4 26 (cst v6)) (fun (om7 : Ob) => some om7)) (fun (K5 : Int32 → Option (Ob)) => (if (om4 26 0) ≤ q1.1 then K5 (om4 26 0) else K5 q1.1)))) (fun (K2 : Int32 → Option (Ob)) => (if (q1.2 26 0) ≤ q1.1 then K2 (q1.2 25 0) else K2 p0)))
abbrev rm_X6_tryOne : Room := { frames := 3, cells := 0, slots := 0, locals := 69 }
abbrev wu_X6_tryOne : List Cond := .code yX6_tryOne cX6_tryOne 4 none :: lwG
set_option maxHeartbeats 20000000 in
set_option maxRecDepth 100000 in
theorem c_X6_tryOne (l : Launch) (D : va_G) (cI cZ cO : ClassId) (m_h m_1 m_2 m_3 m_22 m_23 m_24 m_27 m_29 m_30 : Nat) (sz : Nat) (om : Ob) (p0 : Int32) (p1 : Int32) (q : Ob) (hF : F_X6_tryOne om p0 p1 = some q) : CtV l yX6_tryOne wu_X6_tryOne rm_X6_tryOne D vwCl (tyL cI cZ cO) [.ref m_h, .int p0, .int p1] (wm_X6_tryOne cI cZ cO m_h m_1 m_2 m_3 m_22 m_23 m_24 m_27 m_29 m_30 om) sz 0 0 (fun u : Ob => u = q) (fun u => wm_X6_tryOne cI cZ cO m_h m_1 m_2 m_3 m_22 m_23 m_24 m_27 m_29 m_30 u) := by
  refine mk_v (cc := cX6_tryOne) (maxL := 4) (by decide) rfl (Nat.le_of_ble_eq_true rfl) ?_
  intro p e s m args below meth c A ls Q hx hb hml hown hts hin hK hP hD hS hA hl hQ
  have hl : lv_has ls 4 [(0, .ref m_h), (1, .int p0), (2, .int p1)] := hl
  unfold F_X6_tryOne at hF
  refine lv_aload_n hx hb dX6_tryOne_0 rfl (lv_at hl 0 rfl) ?_
  refine lv_iload_n hx hb dX6_tryOne_1 rfl (lv_at hl 2 rfl) ?_
  obtain ⟨q1, hGq1, hF⟩ := of_bind hF
  refine callVi (As := [.int p1]) (rest := []) (wr := []) (WN := wm_X6_tryOne cI cZ cO m_h m_1 m_2 m_3 m_22 m_23 m_24 m_27 m_29 m_30 q1.2) ⟨hx, hb, hml, hown, hts⟩ hK hP hD hS hA [0, 1, 2, 3, 4, 5, 6, 7, 8, 9] [] [0, 1, 2, 3, 4, 5, 6, 7, 8, 9] (c_X6_timeOf l D cI cZ cO m_h m_1 m_2 m_3 m_22 m_23 m_24 m_27 m_29 m_30 _ om p1 q1 hGq1) (cwV 1 hts (gV wd_685 wd_687 wd_21 wd_39 wd_688) rfl rfl rfl (by decide +kernel) ⟨Nat.le_of_ble_eq_true rfl, Nat.le_of_ble_eq_true rfl⟩) 0 6 rfl rfl rfl rfl rfl rfl rfl (by decide) rfl rfl rfl hl.1 rfl (Nat.le_of_ble_eq_true rfl) dX6_tryOne_2 ⟨Nat.zero_le _, Nat.zero_le _⟩ (fun H locs hP hD hS => ?_)
  refine lv_istore_n (lv' := [(3, .int q1.1), (0, .ref m_h), (1, .int p0), (2, .int p1)]) hx hb dX6_tryOne_5 rfl hl (by decide) rfl (fun ls hl => ?_)
  refine lv_aload_n hx hb dX6_tryOne_6 rfl (lv_at hl 1 rfl) ?_
  refine lv_iload_n hx hb dX6_tryOne_7 rfl (lv_at hl 0 rfl) ?_
  refine lv_aload_n hx hb dX6_tryOne_8 rfl (lv_at hl 1 rfl) ?_
  refine va_get (D := D) (ci := 6) (v := .int (q1.2 26 0)) (C := RX6) (T := TX6) (N := 33) hx hb hts in_X6 hown hK hP 0 rfl rfl 26 (by decide) (hts _ wd_545) (fun _ h9 => h9) rfl dX6_tryOne_9 ?_
  obtain ⟨K2, eK2, hF⟩ := of_jn hF
  have hK2 : ∀ (v3 : Int32) (ls : Array Slot) (H : Heap) (locs : List Loc), lv_has ls 4 [(0, .ref m_h), (3, .int q1.1)] → va_P D vwCl (wm_X6_tryOne cI cZ cO m_h m_1 m_2 m_3 m_22 m_23 m_24 m_27 m_29 m_30 q1.2) H → va_D A (wm_X6_tryOne cI cZ cO m_h m_1 m_2 m_3 m_22 m_23 m_24 m_27 m_29 m_30 q1.2) → va_S A s.heap H locs → K2 v3 = some q → W p l e rm_X6_tryOne s m args below meth c H locs 0 0 Q (F0 m 23 ls [.int v3, .ref m_h]) := by
    intro v3 ls H locs hl hP hD hS hF
    subst eK2
    refine va_put (D := D) (ci := 6) (v := .int v3) (ty := .int) (C := RX6) (T := TX6) (N := 33) hx hb hts in_X6 tyX6 tyX6_ok nmX6 hown hK hP hD hS 0 rfl rfl 25 (by decide) (hts _ wd_544) (fun _ h9 => h9) rfl (tyX6_ok 25 (by decide)) rfl rfl (Nat.le_of_ble_eq_true rfl) dX6_tryOne_23 (fun H locs hP hD hS => ?_)
    obtain ⟨om4, hF, hP, hD⟩ := nm_o (P := fun y => va_P D vwCl (wm_X6_tryOne cI cZ cO m_h m_1 m_2 m_3 m_22 m_23 m_24 m_27 m_29 m_30 y) _) (B := fun y => va_D A (wm_X6_tryOne cI cZ cO m_h m_1 m_2 m_3 m_22 m_23 m_24 m_27 m_29 m_30 y)) hF hP hD
    refine lv_aload_n hx hb dX6_tryOne_26 rfl (lv_at hl 0 rfl) ?_
    refine lv_iload_n hx hb dX6_tryOne_27 rfl (lv_at hl 1 rfl) ?_
    refine lv_aload_n hx hb dX6_tryOne_28 rfl (lv_at hl 0 rfl) ?_
    refine va_get (D := D) (ci := 6) (v := .int (om4 26 0)) (C := RX6) (T := TX6) (N := 33) hx hb hts in_X6 hown hK hP 0 rfl rfl 26 (by decide) (hts _ wd_545) (fun _ h9 => h9) rfl dX6_tryOne_29 ?_
    obtain ⟨K5, eK5, hF⟩ := of_jn hF
    have hK5 : ∀ (v6 : Int32) (ls : Array Slot) (H : Heap) (locs : List Loc), lv_has ls 4 [] → va_P D vwCl (wm_X6_tryOne cI cZ cO m_h m_1 m_2 m_3 m_22 m_23 m_24 m_27 m_29 m_30 om4) H → va_D A (wm_X6_tryOne cI cZ cO m_h m_1 m_2 m_3 m_22 m_23 m_24 m_27 m_29 m_30 om4) → va_S A s.heap H locs → K5 v6 = some q → W p l e rm_X6_tryOne s m args below meth c H locs 0 0 Q (F0 m 43 ls [.int v6, .ref m_h]) := by
      intro v6 ls H locs hl hP hD hS hF
      subst eK5
      refine va_put (D := D) (ci := 6) (v := .int v6) (ty := .int) (C := RX6) (T := TX6) (N := 33) hx hb hts in_X6 tyX6 tyX6_ok nmX6 hown hK hP hD hS 0 rfl rfl 26 (by decide) (hts _ wd_545) (fun _ h9 => h9) rfl (tyX6_ok 26 (by decide)) rfl rfl (Nat.le_of_ble_eq_true rfl) dX6_tryOne_43 (fun H locs hP hD hS => ?_)
      obtain ⟨om7, hF, hP, hD⟩ := nm_o (P := fun y => va_P D vwCl (wm_X6_tryOne cI cZ cO m_h m_1 m_2 m_3 m_22 m_23 m_24 m_27 m_29 m_30 y) _) (B := fun y => va_D A (wm_X6_tryOne cI cZ cO m_h m_1 m_2 m_3 m_22 m_23 m_24 m_27 m_29 m_30 y)) hF hP hD
      exact hQ _ _ _ _ om7 (Option.some.inj hF) hP hD hS dX6_tryOne_46
    refine lv_icmp_ge (tgt := 39) hx hb dX6_tryOne_32 (by decide) (fun h8 => ?_) (fun h8 => ?_)
    · replace hF := of_t h8 hF
      refine lv_aload_n hx hb dX6_tryOne_39 rfl (lv_at hl 0 rfl) ?_
      refine va_get (D := D) (ci := 6) (v := .int (om4 26 0)) (C := RX6) (T := TX6) (N := 33) hx hb hts in_X6 hown hK hP 0 rfl rfl 26 (by decide) (hts _ wd_545) (fun _ h9 => h9) rfl dX6_tryOne_40 ?_
      exact hK5 (om4 26 0) ls _ _ (lv_sub hl [] rfl) hP hD hS hF
    · replace hF := of_f h8 hF
      refine lv_iload_n hx hb dX6_tryOne_35 rfl (lv_at hl 1 rfl) ?_
      refine lv_goto (tgt := 43) hx hb dX6_tryOne_36 (by decide) ?_
      exact hK5 q1.1 ls _ _ (lv_sub hl [] rfl) hP hD hS hF
  refine lv_icmp_ge (tgt := 19) hx hb dX6_tryOne_12 (by decide) (fun h9 => ?_) (fun h9 => ?_)
  · replace hF := of_t h9 hF
    refine lv_aload_n hx hb dX6_tryOne_19 rfl (lv_at hl 1 rfl) ?_
    refine va_get (D := D) (ci := 6) (v := .int (q1.2 25 0)) (C := RX6) (T := TX6) (N := 33) hx hb hts in_X6 hown hK hP 0 rfl rfl 25 (by decide) (hts _ wd_544) (fun _ h9 => h9) rfl dX6_tryOne_20 ?_
    exact hK2 (q1.2 25 0) ls _ _ (lv_sub hl [1, 0] rfl) hP hD hS hF
  · replace hF := of_f h9 hF
    refine lv_iload_n hx hb dX6_tryOne_15 rfl (lv_at hl 2 rfl) ?_
    refine lv_goto (tgt := 23) hx hb dX6_tryOne_16 (by decide) ?_
    exact hK2 p0 ls _ _ (lv_sub hl [1, 0] rfl) hP hD hS hF

/-! ### ThreeLegsModel.beginTries()V -/
abbrev wm_X6_beginTries (cI cZ cO : ClassId) (m_h m_1 m_2 m_3 m_22 m_23 m_24 m_27 m_29 m_30 : Nat) (om : Ob) : va_W := [(m_h, .inr (6, [.int (om 0 0), .ref m_1, .ref m_2, .ref m_3, .int (om 4 0), .int (om 5 0), .int (om 6 0), .int (om 7 0), .int (om 8 0), .int (om 9 0), .int (om 10 0), .int (om 11 0), .int (om 12 0), .int (om 13 0), .int (om 14 0), .int (om 15 0), .int (om 16 0), .int (om 17 0), .int (om 18 0), .int (om 19 0), .int (om 20 0), .int (om 21 0), .ref m_22, .ref m_23, .ref m_24, .int (om 25 0), .int (om 26 0), .ref m_27, .int (om 28 0), .ref m_29, .ref m_30, .int (om 31 0), .int (om 32 0)])), (m_1, .inl (cI, 8, .inl (om 1))), (m_2, .inl (cI, 8, .inl (om 2))), (m_3, .inl (cI, 8, .inl (om 3))), (m_22, .inl (cI, 64, .inl (om 22))), (m_23, .inl (cI, 8, .inl (om 23))), (m_24, .inl (cI, 8, .inl (om 24))), (m_27, .inl (cI, 40, .inl (om 27))), (m_29, .inl (cI, 80, .inl (om 29))), (m_30, .inl (cZ, 2, .inl (om 30)))]
def F_X6_beginTries (om : Ob)  : Option (Ob) :=
  dd (sO om 25 (cst (-6))) (fun (om1 : Ob) => dd (sO om1 26 (cst 1000000000)) (fun (om2 : Ob) => some om2))
abbrev rm_X6_beginTries : Room := { frames := 0, cells := 0, slots := 0, locals := 0 }
abbrev wu_X6_beginTries : List Cond := .code yX6_beginTries cX6_beginTries 1 none :: lwG
set_option maxHeartbeats 20000000 in
set_option maxRecDepth 100000 in
theorem c_X6_beginTries (l : Launch) (D : va_G) (cI cZ cO : ClassId) (m_h m_1 m_2 m_3 m_22 m_23 m_24 m_27 m_29 m_30 : Nat) (sz : Nat) (om : Ob)  (q : Ob) (hF : F_X6_beginTries om = some q) : CtV l yX6_beginTries wu_X6_beginTries rm_X6_beginTries D vwCl (tyL cI cZ cO) [.ref m_h] (wm_X6_beginTries cI cZ cO m_h m_1 m_2 m_3 m_22 m_23 m_24 m_27 m_29 m_30 om) sz 0 0 (fun u : Ob => u = q) (fun u => wm_X6_beginTries cI cZ cO m_h m_1 m_2 m_3 m_22 m_23 m_24 m_27 m_29 m_30 u) := by
  refine mk_v (cc := cX6_beginTries) (maxL := 1) (by decide) rfl (Nat.le_of_ble_eq_true rfl) ?_
  intro p e s m args below meth c A ls Q hx hb hml hown hts hin hK hP hD hS hA hl hQ
  have hl : lv_has ls 1 [(0, .ref m_h)] := hl
  unfold F_X6_beginTries at hF
  refine lv_aload_n hx hb dX6_beginTries_0 rfl (lv_at hl 0 rfl) ?_
  refine lv_bipush (v := (-6)) hx hb dX6_beginTries_1 (by decide) ?_
  refine va_put (D := D) (ci := 6) (v := .int (-6)) (ty := .int) (C := RX6) (T := TX6) (N := 33) hx hb hts in_X6 tyX6 tyX6_ok nmX6 hown hK hP hD hS 0 rfl rfl 25 (by decide) (hts _ wd_544) (fun _ h9 => h9) rfl (tyX6_ok 25 (by decide)) rfl rfl (Nat.le_of_ble_eq_true rfl) dX6_beginTries_3 (fun H locs hP hD hS => ?_)
  obtain ⟨om1, hF, hP, hD⟩ := nm_o (P := fun y => va_P D vwCl (wm_X6_beginTries cI cZ cO m_h m_1 m_2 m_3 m_22 m_23 m_24 m_27 m_29 m_30 y) _) (B := fun y => va_D A (wm_X6_beginTries cI cZ cO m_h m_1 m_2 m_3 m_22 m_23 m_24 m_27 m_29 m_30 y)) hF hP hD
  refine lv_aload_n hx hb dX6_beginTries_6 rfl (lv_at hl 0 rfl) ?_
  refine lv_ldc hx hb hown (hts _ wd_689) dX6_beginTries_7 ?_
  refine va_put (D := D) (ci := 6) (v := .int 1000000000) (ty := .int) (C := RX6) (T := TX6) (N := 33) hx hb hts in_X6 tyX6 tyX6_ok nmX6 hown hK hP hD hS 0 rfl rfl 26 (by decide) (hts _ wd_545) (fun _ h9 => h9) rfl (tyX6_ok 26 (by decide)) rfl rfl (Nat.le_of_ble_eq_true rfl) dX6_beginTries_9 (fun H locs hP hD hS => ?_)
  obtain ⟨om2, hF, hP, hD⟩ := nm_o (P := fun y => va_P D vwCl (wm_X6_beginTries cI cZ cO m_h m_1 m_2 m_3 m_22 m_23 m_24 m_27 m_29 m_30 y) _) (B := fun y => va_D A (wm_X6_beginTries cI cZ cO m_h m_1 m_2 m_3 m_22 m_23 m_24 m_27 m_29 m_30 y)) hF hP hD
  exact hQ _ _ _ _ om2 (Option.some.inj hF) hP hD hS dX6_beginTries_12

/-! ### ThreeLegsModel.tellBest(I)I -/
abbrev wm_X6_tellBest (cI cZ cO : ClassId) (m_h m_1 m_2 m_3 m_22 m_23 m_24 m_27 m_29 m_30 : Nat) (om : Ob) : va_W := [(m_h, .inr (6, [.int (om 0 0), .ref m_1, .ref m_2, .ref m_3, .int (om 4 0), .int (om 5 0), .int (om 6 0), .int (om 7 0), .int (om 8 0), .int (om 9 0), .int (om 10 0), .int (om 11 0), .int (om 12 0), .int (om 13 0), .int (om 14 0), .int (om 15 0), .int (om 16 0), .int (om 17 0), .int (om 18 0), .int (om 19 0), .int (om 20 0), .int (om 21 0), .ref m_22, .ref m_23, .ref m_24, .int (om 25 0), .int (om 26 0), .ref m_27, .int (om 28 0), .ref m_29, .ref m_30, .int (om 31 0), .int (om 32 0)])), (m_1, .inl (cI, 8, .inl (om 1))), (m_2, .inl (cI, 8, .inl (om 2))), (m_3, .inl (cI, 8, .inl (om 3))), (m_22, .inl (cI, 64, .inl (om 22))), (m_23, .inl (cI, 8, .inl (om 23))), (m_24, .inl (cI, 8, .inl (om 24))), (m_27, .inl (cI, 40, .inl (om 27))), (m_29, .inl (cI, 80, .inl (om 29))), (m_30, .inl (cZ, 2, .inl (om 30)))]
def F_X6_tellBest (om : Ob) (p0 : Int32) : Option (Int32) :=
  (if (om 25 0) < 0 then some (om 25 0) else (if p0 = 0 then some (om 25 0) else some (om 26 0)))
abbrev rm_X6_tellBest : Room := { frames := 0, cells := 0, slots := 0, locals := 0 }
abbrev wu_X6_tellBest : List Cond := .code yX6_tellBest cX6_tellBest 2 (some .int) :: lwG
set_option maxHeartbeats 20000000 in
set_option maxRecDepth 100000 in
theorem c_X6_tellBest (l : Launch) (D : va_G) (cI cZ cO : ClassId) (m_h m_1 m_2 m_3 m_22 m_23 m_24 m_27 m_29 m_30 : Nat) (sz : Nat) (om : Ob) (p0 : Int32) (q : Int32) (hF : F_X6_tellBest om p0 = some q) : CtI l yX6_tellBest wu_X6_tellBest rm_X6_tellBest D vwCl (tyL cI cZ cO) [.ref m_h, .int p0] (wm_X6_tellBest cI cZ cO m_h m_1 m_2 m_3 m_22 m_23 m_24 m_27 m_29 m_30 om) sz 0 0 (fun (r : Int32) (u : Unit) => r = q ∧ u = ()) (fun u => wm_X6_tellBest cI cZ cO m_h m_1 m_2 m_3 m_22 m_23 m_24 m_27 m_29 m_30 om) := by
  refine mk_i (cc := cX6_tellBest) (maxL := 2) (by decide) rfl (Nat.le_of_ble_eq_true rfl) ?_
  intro p e s m args below meth c A ls Q hx hb hml hown hts hin hK hP hD hS hA hl hQ
  have hl : lv_has ls 2 [(0, .ref m_h), (1, .int p0)] := hl
  unfold F_X6_tellBest at hF
  refine lv_aload_n hx hb dX6_tellBest_0 rfl (lv_at hl 0 rfl) ?_
  refine va_get (D := D) (ci := 6) (v := .int (om 25 0)) (C := RX6) (T := TX6) (N := 33) hx hb hts in_X6 hown hK hP 0 rfl rfl 25 (by decide) (hts _ wd_544) (fun _ h9 => h9) rfl dX6_tellBest_1 ?_
  refine lv_if_lt (tgt := 11) hx hb dX6_tellBest_4 (by decide) (fun h1 => ?_) (fun h1 => ?_)
  · replace hF := of_t h1 hF
    refine lv_aload_n hx hb dX6_tellBest_11 rfl (lv_at hl 0 rfl) ?_
    refine va_get (D := D) (ci := 6) (v := .int (om 25 0)) (C := RX6) (T := TX6) (N := 33) hx hb hts in_X6 hown hK hP 0 rfl rfl 25 (by decide) (hts _ wd_544) (fun _ h9 => h9) rfl dX6_tellBest_12 ?_
    refine lv_goto (tgt := 22) hx hb dX6_tellBest_15 (by decide) ?_
    exact hQ _ _ _ _ _ () ⟨Option.some.inj hF, rfl⟩ hP hD hS dX6_tellBest_22
  · replace hF := of_f h1 hF
    refine lv_iload_n hx hb dX6_tellBest_7 rfl (lv_at hl 1 rfl) ?_
    refine lv_if_ne (tgt := 18) hx hb dX6_tellBest_8 (by decide) (fun h2 => ?_) (fun h2 => ?_)
    · replace hF := of_f h2 hF
      refine lv_aload_n hx hb dX6_tellBest_18 rfl (lv_at hl 0 rfl) ?_
      refine va_get (D := D) (ci := 6) (v := .int (om 26 0)) (C := RX6) (T := TX6) (N := 33) hx hb hts in_X6 hown hK hP 0 rfl rfl 26 (by decide) (hts _ wd_545) (fun _ h9 => h9) rfl dX6_tellBest_19 ?_
      exact hQ _ _ _ _ _ () ⟨Option.some.inj hF, rfl⟩ hP hD hS dX6_tellBest_22
    · replace hF := of_t h2 hF
      refine lv_aload_n hx hb dX6_tellBest_11 rfl (lv_at hl 0 rfl) ?_
      refine va_get (D := D) (ci := 6) (v := .int (om 25 0)) (C := RX6) (T := TX6) (N := 33) hx hb hts in_X6 hown hK hP 0 rfl rfl 25 (by decide) (hts _ wd_544) (fun _ h9 => h9) rfl dX6_tellBest_12 ?_
      refine lv_goto (tgt := 22) hx hb dX6_tellBest_15 (by decide) ?_
      exact hQ _ _ _ _ _ () ⟨Option.some.inj hF, rfl⟩ hP hD hS dX6_tellBest_22

/-! ### ThreeLegsModel.isAsked(II)Z -/
abbrev wm_X6_isAsked (cI cZ cO : ClassId)   : va_W := []
def F_X6_isAsked  (p0 : Int32) (p1 : Int32) : Option (Int32) :=
  (F_X6_isFar p0).bind (fun q1 => (if q1 = 0 then some 0 else (F_X6_in (Int32.toInt64 p1) (0 : Int64) (1 : Int64)).bind (fun q3 => (if q3 = 0 then some 0 else some 1))))
abbrev rm_X6_isAsked : Room := { frames := 2, cells := 0, slots := 0, locals := 45 }
abbrev wu_X6_isAsked : List Cond := .code yX6_isAsked cX6_isAsked 2 (some .boolean) :: lwG
set_option maxHeartbeats 20000000 in
set_option maxRecDepth 100000 in
theorem c_X6_isAsked (l : Launch) (D : va_G) (cI cZ cO : ClassId)  (sz : Nat)  (p0 : Int32) (p1 : Int32) (q : Int32) (hF : F_X6_isAsked p0 p1 = some q) : CtI l yX6_isAsked wu_X6_isAsked rm_X6_isAsked D vwCl (tyL cI cZ cO) [.int p0, .int p1] (wm_X6_isAsked cI cZ cO) sz 0 0 (fun (r : Int32) (u : Unit) => r = q ∧ u = ()) (fun u => wm_X6_isAsked cI cZ cO) := by
  refine mk_z (cc := cX6_isAsked) (maxL := 2) (by decide) rfl (Nat.le_of_ble_eq_true rfl) ?_
  intro p e s m args below meth c A ls Q hx hb hml hown hts hin hK hP hD hS hA hl hQ
  have hl : lv_has ls 2 [(0, .int p0), (1, .int p1)] := hl
  unfold F_X6_isAsked at hF
  refine lv_iload_n hx hb dX6_isAsked_0 rfl (lv_at hl 0 rfl) ?_
  obtain ⟨q1, hGq1, hF⟩ := of_bind hF
  refine callSi (As := [.int p0]) (rest := []) ⟨hx, hb, hml, hown, hts⟩ hK hP hD hS hA (c_X6_isFar l D cI cZ cO  _ p0 q1 hGq1) (va_cwS 1 hts (gS wd_682 wd_683 wd_39 wd_684) rfl rfl rfl (by decide +kernel) ⟨Nat.le_of_ble_eq_true rfl, Nat.le_of_ble_eq_true rfl⟩) rfl hl.1 rfl (Nat.le_of_ble_eq_true rfl) dX6_isAsked_1 ⟨Nat.zero_le _, Nat.zero_le _⟩ (fun H locs hP hS => ?_)
  refine lv_if_eq (tgt := 21) hx hb dX6_isAsked_4 (by decide) (fun h2 => ?_) (fun h2 => ?_)
  · replace hF := of_t h2 hF
    refine lv_iconst (v := 0) hx hb dX6_isAsked_21 (by decide) ?_
    exact hQ _ _ _ _ _ () rfl ⟨Option.some.inj hF, rfl⟩ hP hD hS dX6_isAsked_22
  · replace hF := of_f h2 hF
    refine lv_iload_n hx hb dX6_isAsked_7 rfl (lv_at hl 1 rfl) ?_
    refine lv_i2l hx hb dX6_isAsked_8 rfl ?_
    refine lv_lconst (v := 0) hx hb dX6_isAsked_9 (by decide) ?_
    refine lv_lconst (v := 1) hx hb dX6_isAsked_10 (by decide) ?_
    obtain ⟨q3, hGq3, hF⟩ := of_bind hF
    refine callSi (As := [.long (Int32.toInt64 p1), .long (0 : Int64), .long (1 : Int64)]) (rest := []) ⟨hx, hb, hml, hown, hts⟩ hK hP hD hS hA (c_X6_in l D cI cZ cO  _ (Int32.toInt64 p1) (0 : Int64) (1 : Int64) q3 hGq3) (va_cwS 3 hts (gS wd_624 wd_625 wd_39 wd_626) rfl rfl rfl (by decide +kernel) ⟨Nat.le_of_ble_eq_true rfl, Nat.le_of_ble_eq_true rfl⟩) rfl hl.1 rfl (Nat.le_of_ble_eq_true rfl) dX6_isAsked_11 ⟨Nat.zero_le _, Nat.zero_le _⟩ (fun H locs hP hS => ?_)
    refine lv_if_eq (tgt := 21) hx hb dX6_isAsked_14 (by decide) (fun h4 => ?_) (fun h4 => ?_)
    · replace hF := of_t h4 hF
      refine lv_iconst (v := 0) hx hb dX6_isAsked_21 (by decide) ?_
      exact hQ _ _ _ _ _ () rfl ⟨Option.some.inj hF, rfl⟩ hP hD hS dX6_isAsked_22
    · replace hF := of_f h4 hF
      refine lv_iconst (v := 1) hx hb dX6_isAsked_17 (by decide) ?_
      refine lv_goto (tgt := 22) hx hb dX6_isAsked_18 (by decide) ?_
      exact hQ _ _ _ _ _ () rfl ⟨Option.some.inj hF, rfl⟩ hP hD hS dX6_isAsked_22

/-! ### ThreeLegsModel.call(IIII)I -/
abbrev wm_X6_call (cI cZ cO : ClassId) (m_h m_1 m_2 m_3 m_22 m_23 m_24 m_27 m_29 m_30 : Nat) (om : Ob) : va_W := [(m_h, .inr (6, [.int (om 0 0), .ref m_1, .ref m_2, .ref m_3, .int (om 4 0), .int (om 5 0), .int (om 6 0), .int (om 7 0), .int (om 8 0), .int (om 9 0), .int (om 10 0), .int (om 11 0), .int (om 12 0), .int (om 13 0), .int (om 14 0), .int (om 15 0), .int (om 16 0), .int (om 17 0), .int (om 18 0), .int (om 19 0), .int (om 20 0), .int (om 21 0), .ref m_22, .ref m_23, .ref m_24, .int (om 25 0), .int (om 26 0), .ref m_27, .int (om 28 0), .ref m_29, .ref m_30, .int (om 31 0), .int (om 32 0)])), (m_1, .inl (cI, 8, .inl (om 1))), (m_2, .inl (cI, 8, .inl (om 2))), (m_3, .inl (cI, 8, .inl (om 3))), (m_22, .inl (cI, 64, .inl (om 22))), (m_23, .inl (cI, 8, .inl (om 23))), (m_24, .inl (cI, 8, .inl (om 24))), (m_27, .inl (cI, 40, .inl (om 27))), (m_29, .inl (cI, 80, .inl (om 29))), (m_30, .inl (cZ, 2, .inl (om 30)))]
def L_X6_call_36 : Nat → Int32 → Int32 → Ob → (Ob → Option (Int32 × Ob)) → Option (Int32 × Ob)
  | 0, _, _, _, _ => none
  | n13 + 1, p2, v10, om11, K7 =>
    (if 20 < v10 then K7 om11 else dd (sO om11 7 (cst v10)) (fun (om15 : Ob) => dd (sO om15 8 (cst v10)) (fun (om16 : Ob) => (F_X6_tryOne om16 v10 p2).bind (fun q17 => dd (v10 + 1) (fun (v18 : Int32) => L_X6_call_36 n13 p2 v18 q17 K7)))))
def F_X6_call (om : Ob) (p0 : Int32) (p1 : Int32) (p2 : Int32) (p3 : Int32) : Option (Int32 × Ob) :=
  (F_X6_isPair om p0 p1).bind (fun q1 => (if q1 = 0 then some ((-1), om) else (F_X6_isAsked p2 p3).bind (fun q3 => (if q3 = 0 then some ((-2), om) else (F_X6_layPair om p0 p1).bind (fun q5 => (F_X6_beginTries q5).bind (fun q6 => jn (fun (om8 : Ob) => (F_X6_tellBest om8 p3).bind (fun q9 => some (q9, om8))) (fun (K7 : Ob → Option (Int32 × Ob)) => L_X6_call_36 2000 p2 4 q6 K7)))))))
abbrev rm_X6_call : Room := { frames := 4, cells := 0, slots := 0, locals := 92 }
abbrev wu_X6_call : List Cond := .code yX6_call cX6_call 6 (some .int) :: lwG
set_option maxHeartbeats 20000000 in
set_option maxRecDepth 100000 in
theorem c_X6_call (l : Launch) (D : va_G) (cI cZ cO : ClassId) (m_h m_1 m_2 m_3 m_22 m_23 m_24 m_27 m_29 m_30 : Nat) (sz : Nat) (om : Ob) (p0 : Int32) (p1 : Int32) (p2 : Int32) (p3 : Int32) (q : Int32 × Ob) (hF : F_X6_call om p0 p1 p2 p3 = some q) : CtI l yX6_call wu_X6_call rm_X6_call D vwCl (tyL cI cZ cO) [.ref m_h, .int p0, .int p1, .int p2, .int p3] (wm_X6_call cI cZ cO m_h m_1 m_2 m_3 m_22 m_23 m_24 m_27 m_29 m_30 om) sz 0 0 (fun (r : Int32) (u : Ob) => r = q.1 ∧ u = q.2) (fun u => wm_X6_call cI cZ cO m_h m_1 m_2 m_3 m_22 m_23 m_24 m_27 m_29 m_30 u) := by
  refine mk_i (cc := cX6_call) (maxL := 6) (by decide) rfl (Nat.le_of_ble_eq_true rfl) ?_
  intro p e s m args below meth c A ls Q hx hb hml hown hts hin hK hP hD hS hA hl hQ
  have hl : lv_has ls 6 [(0, .ref m_h), (1, .int p0), (2, .int p1), (3, .int p2), (4, .int p3)] := hl
  unfold F_X6_call at hF
  refine lv_aload_n hx hb dX6_call_0 rfl (lv_at hl 0 rfl) ?_
  refine lv_iload_n hx hb dX6_call_1 rfl (lv_at hl 1 rfl) ?_
  refine lv_iload_n hx hb dX6_call_2 rfl (lv_at hl 2 rfl) ?_
  obtain ⟨q1, hGq1, hF⟩ := of_bind hF
  refine callVi (As := [.int p0, .int p1]) (rest := []) (wr := []) (WN := wm_X6_call cI cZ cO m_h m_1 m_2 m_3 m_22 m_23 m_24 m_27 m_29 m_30 om) ⟨hx, hb, hml, hown, hts⟩ hK hP hD hS hA [0, 1, 2, 3, 4, 5, 6, 7, 8, 9] [] [0, 1, 2, 3, 4, 5, 6, 7, 8, 9] (c_X6_isPair l D cI cZ cO m_h m_1 m_2 m_3 m_22 m_23 m_24 m_27 m_29 m_30 _ om p0 p1 q1 hGq1) (cwV 2 hts (gV wd_650 wd_652 wd_15 wd_39 wd_653) rfl rfl rfl (by decide +kernel) ⟨Nat.le_of_ble_eq_true rfl, Nat.le_of_ble_eq_true rfl⟩) 0 6 rfl rfl rfl rfl rfl rfl rfl (by decide) rfl rfl rfl hl.1 rfl (Nat.le_of_ble_eq_true rfl) dX6_call_3 ⟨Nat.zero_le _, Nat.zero_le _⟩ (fun H locs hP hD hS => ?_)
  refine lv_if_ne (tgt := 11) hx hb dX6_call_6 (by decide) (fun h2 => ?_) (fun h2 => ?_)
  · replace hF := of_f h2 hF
    refine lv_iload_n hx hb dX6_call_11 rfl (lv_at hl 3 rfl) ?_
    refine lv_iload hx hb dX6_call_12 (lv_at hl 4 rfl) ?_
    obtain ⟨q3, hGq3, hF⟩ := of_bind hF
    refine callSi (As := [.int p2, .int p3]) (rest := []) ⟨hx, hb, hml, hown, hts⟩ hK hP hD hS hA (c_X6_isAsked l D cI cZ cO  _ p2 p3 q3 hGq3) (va_cwS 2 hts (gS wd_719 wd_720 wd_39 wd_721) rfl rfl rfl (by decide +kernel) ⟨Nat.le_of_ble_eq_true rfl, Nat.le_of_ble_eq_true rfl⟩) rfl hl.1 rfl (Nat.le_of_ble_eq_true rfl) dX6_call_14 ⟨Nat.zero_le _, Nat.zero_le _⟩ (fun H locs hP hS => ?_)
    refine lv_if_ne (tgt := 23) hx hb dX6_call_17 (by decide) (fun h4 => ?_) (fun h4 => ?_)
    · replace hF := of_f h4 hF
      refine lv_aload_n hx hb dX6_call_23 rfl (lv_at hl 0 rfl) ?_
      refine lv_iload_n hx hb dX6_call_24 rfl (lv_at hl 1 rfl) ?_
      refine lv_iload_n hx hb dX6_call_25 rfl (lv_at hl 2 rfl) ?_
      obtain ⟨q5, hGq5, hF⟩ := of_bind hF
      refine callVv (As := [.int p0, .int p1]) (rest := []) (wr := []) (WN := wm_X6_call cI cZ cO m_h m_1 m_2 m_3 m_22 m_23 m_24 m_27 m_29 m_30 q5) ⟨hx, hb, hml, hown, hts⟩ hK hP hD hS hA [0, 1, 2, 3, 4, 5, 6, 7, 8, 9] [] [0, 1, 2, 3, 4, 5, 6, 7, 8, 9] (c_X6_layPair l D cI cZ cO m_h m_1 m_2 m_3 m_22 m_23 m_24 m_27 m_29 m_30 _ om p0 p1 q5 hGq5) (cwV 2 hts (gV wd_655 wd_657 wd_16 wd_39 wd_658) rfl rfl rfl (by decide +kernel) ⟨Nat.le_of_ble_eq_true rfl, Nat.le_of_ble_eq_true rfl⟩) 0 6 rfl rfl rfl rfl rfl rfl rfl (by decide) rfl rfl rfl hl.1 rfl (Nat.le_of_ble_eq_true rfl) dX6_call_26 ⟨Nat.zero_le _, Nat.zero_le _⟩ (fun H locs hP hD hS => ?_)
      refine lv_aload_n hx hb dX6_call_29 rfl (lv_at hl 0 rfl) ?_
      obtain ⟨q6, hGq6, hF⟩ := of_bind hF
      refine callVv (As := []) (rest := []) (wr := []) (WN := wm_X6_call cI cZ cO m_h m_1 m_2 m_3 m_22 m_23 m_24 m_27 m_29 m_30 q6) ⟨hx, hb, hml, hown, hts⟩ hK hP hD hS hA [0, 1, 2, 3, 4, 5, 6, 7, 8, 9] [] [0, 1, 2, 3, 4, 5, 6, 7, 8, 9] (c_X6_beginTries l D cI cZ cO m_h m_1 m_2 m_3 m_22 m_23 m_24 m_27 m_29 m_30 _ q5 q6 hGq6) (cwV 0 hts (gV wd_722 wd_724 wd_25 wd_39 wd_725) rfl rfl rfl (by decide +kernel) ⟨Nat.le_of_ble_eq_true rfl, Nat.le_of_ble_eq_true rfl⟩) 0 6 rfl rfl rfl rfl rfl rfl rfl (by decide) rfl rfl rfl hl.1 rfl (Nat.le_of_ble_eq_true rfl) dX6_call_30 ⟨Nat.zero_le _, Nat.zero_le _⟩ (fun H locs hP hD hS => ?_)
      refine lv_iconst (v := 4) hx hb dX6_call_33 (by decide) ?_
      refine lv_istore (lv' := [(5, .int 4), (0, .ref m_h), (1, .int p0), (2, .int p1), (3, .int p2), (4, .int p3)]) hx hb dX6_call_34 hl (by decide) rfl (fun ls hl => ?_)
      obtain ⟨K7, eK7, hF⟩ := of_jn hF
      have hK7 : ∀ (om8 : Ob) (ls : Array Slot) (H : Heap) (locs : List Loc), lv_has ls 6 [(0, .ref m_h), (4, .int p3)] → va_P D vwCl (wm_X6_call cI cZ cO m_h m_1 m_2 m_3 m_22 m_23 m_24 m_27 m_29 m_30 om8) H → va_D A (wm_X6_call cI cZ cO m_h m_1 m_2 m_3 m_22 m_23 m_24 m_27 m_29 m_30 om8) → va_S A s.heap H locs → K7 om8 = some q → W p l e rm_X6_call s m args below meth c H locs 0 0 Q (F0 m 68 ls []) := by
        intro om8 ls H locs hl hP hD hS hF
        subst eK7
        refine lv_aload_n hx hb dX6_call_68 rfl (lv_at hl 0 rfl) ?_
        refine lv_iload hx hb dX6_call_69 (lv_at hl 1 rfl) ?_
        obtain ⟨q9, hGq9, hF⟩ := of_bind hF
        refine callVi (As := [.int p3]) (rest := []) (wr := []) (WN := wm_X6_call cI cZ cO m_h m_1 m_2 m_3 m_22 m_23 m_24 m_27 m_29 m_30 om8) ⟨hx, hb, hml, hown, hts⟩ hK hP hD hS hA [0, 1, 2, 3, 4, 5, 6, 7, 8, 9] [] [0, 1, 2, 3, 4, 5, 6, 7, 8, 9] (c_X6_tellBest l D cI cZ cO m_h m_1 m_2 m_3 m_22 m_23 m_24 m_27 m_29 m_30 _ om8 p3 q9 hGq9) (cwV 1 hts (gV wd_730 wd_732 wd_27 wd_39 wd_733) rfl rfl rfl (by decide +kernel) ⟨Nat.le_of_ble_eq_true rfl, Nat.le_of_ble_eq_true rfl⟩) 0 6 rfl rfl rfl rfl rfl rfl rfl (by decide) rfl rfl rfl hl.1 rfl (Nat.le_of_ble_eq_true rfl) dX6_call_71 ⟨Nat.zero_le _, Nat.zero_le _⟩ (fun H locs hP hD hS => ?_)
        exact hQ _ _ _ _ _ om8 ⟨inj_fst hF, inj_snd hF⟩ hP hD hS dX6_call_74
      have hloop19 : ∀ (n13 : Nat) (v10 : Int32) (om11 : Ob) (ls : Array Slot) (H : Heap) (locs : List Loc), lv_has ls 6 [(0, .ref m_h), (3, .int p2), (4, .int p3), (5, .int v10)] → va_P D vwCl (wm_X6_call cI cZ cO m_h m_1 m_2 m_3 m_22 m_23 m_24 m_27 m_29 m_30 om11) H → va_D A (wm_X6_call cI cZ cO m_h m_1 m_2 m_3 m_22 m_23 m_24 m_27 m_29 m_30 om11) → va_S A s.heap H locs → L_X6_call_36 n13 p2 v10 om11 K7 = some q → W p l e rm_X6_call s m args below meth c H locs 0 0 Q (F0 m 36 ls []) := by
        intro n13
        induction n13 with
        | zero =>
          intro v10 om11 ls H locs hl hP hD hS hF
          exact of_none hF
        | succ n13 ih12 =>
          intro v10 om11 ls H locs hl hP hD hS hF
          rw [L_X6_call_36.eq_2] at hF
          refine lv_iload hx hb dX6_call_36 (lv_at hl 3 rfl) ?_
          refine lv_bipush (v := 20) hx hb dX6_call_38 (by decide) ?_
          refine lv_icmp_gt (tgt := 68) hx hb dX6_call_40 (by decide) (fun h14 => ?_) (fun h14 => ?_)
          · replace hF := of_t h14 hF
            exact hK7 om11 ls _ _ (lv_sub hl [0, 2] rfl) hP hD hS hF
          · replace hF := of_f h14 hF
            refine lv_aload_n hx hb dX6_call_43 rfl (lv_at hl 0 rfl) ?_
            refine lv_iload hx hb dX6_call_44 (lv_at hl 3 rfl) ?_
            refine va_put (D := D) (ci := 6) (v := .int v10) (ty := .int) (C := RX6) (T := TX6) (N := 33) hx hb hts in_X6 tyX6 tyX6_ok nmX6 hown hK hP hD hS 0 rfl rfl 7 (by decide) (hts _ wd_526) (fun _ h9 => h9) rfl (tyX6_ok 7 (by decide)) rfl rfl (Nat.le_of_ble_eq_true rfl) dX6_call_46 (fun H locs hP hD hS => ?_)
            obtain ⟨om15, hF, hP, hD⟩ := nm_o (P := fun y => va_P D vwCl (wm_X6_call cI cZ cO m_h m_1 m_2 m_3 m_22 m_23 m_24 m_27 m_29 m_30 y) _) (B := fun y => va_D A (wm_X6_call cI cZ cO m_h m_1 m_2 m_3 m_22 m_23 m_24 m_27 m_29 m_30 y)) hF hP hD
            refine lv_aload_n hx hb dX6_call_49 rfl (lv_at hl 0 rfl) ?_
            refine lv_iload hx hb dX6_call_50 (lv_at hl 3 rfl) ?_
            refine va_put (D := D) (ci := 6) (v := .int v10) (ty := .int) (C := RX6) (T := TX6) (N := 33) hx hb hts in_X6 tyX6 tyX6_ok nmX6 hown hK hP hD hS 0 rfl rfl 8 (by decide) (hts _ wd_527) (fun _ h9 => h9) rfl (tyX6_ok 8 (by decide)) rfl rfl (Nat.le_of_ble_eq_true rfl) dX6_call_52 (fun H locs hP hD hS => ?_)
            obtain ⟨om16, hF, hP, hD⟩ := nm_o (P := fun y => va_P D vwCl (wm_X6_call cI cZ cO m_h m_1 m_2 m_3 m_22 m_23 m_24 m_27 m_29 m_30 y) _) (B := fun y => va_D A (wm_X6_call cI cZ cO m_h m_1 m_2 m_3 m_22 m_23 m_24 m_27 m_29 m_30 y)) hF hP hD
            refine lv_aload_n hx hb dX6_call_55 rfl (lv_at hl 0 rfl) ?_
            refine lv_iload hx hb dX6_call_56 (lv_at hl 3 rfl) ?_
            refine lv_iload_n hx hb dX6_call_58 rfl (lv_at hl 1 rfl) ?_
            obtain ⟨q17, hGq17, hF⟩ := of_bind hF
            refine callVv (As := [.int v10, .int p2]) (rest := []) (wr := []) (WN := wm_X6_call cI cZ cO m_h m_1 m_2 m_3 m_22 m_23 m_24 m_27 m_29 m_30 q17) ⟨hx, hb, hml, hown, hts⟩ hK hP hD hS hA [0, 1, 2, 3, 4, 5, 6, 7, 8, 9] [] [0, 1, 2, 3, 4, 5, 6, 7, 8, 9] (c_X6_tryOne l D cI cZ cO m_h m_1 m_2 m_3 m_22 m_23 m_24 m_27 m_29 m_30 _ om16 v10 p2 q17 hGq17) (cwV 2 hts (gV wd_726 wd_728 wd_26 wd_39 wd_729) rfl rfl rfl (by decide +kernel) ⟨Nat.le_of_ble_eq_true rfl, Nat.le_of_ble_eq_true rfl⟩) 0 6 rfl rfl rfl rfl rfl rfl rfl (by decide) rfl rfl rfl hl.1 rfl (Nat.le_of_ble_eq_true rfl) dX6_call_59 ⟨Nat.zero_le _, Nat.zero_le _⟩ (fun H locs hP hD hS => ?_)
            obtain ⟨v18, ev18⟩ : ∃ y : Int32, y = v10 + 1 := ⟨_, rfl⟩
            replace hF := of_dd hF v18 ev18
            refine lv_iinc (v := v18) (lv' := [(5, .int v18), (0, .ref m_h), (3, .int p2), (4, .int p3)]) hx hb dX6_call_62 hl (k := 3) rfl (by rw [ev18]; rfl) (by decide) rfl (fun ls hl => ?_)
            refine lv_goto (tgt := 36) hx hb dX6_call_65 (by decide) ?_
            exact ih12 v18 q17 ls _ _ (lv_sub hl [1, 2, 3, 0] rfl) hP hD hS hF
      exact hloop19 2000 4 q6 ls _ _ (lv_sub hl [1, 4, 5, 0] rfl) hP hD hS hF
    · replace hF := of_t h4 hF
      refine lv_bipush (v := (-2)) hx hb dX6_call_20 (by decide) ?_
      exact hQ _ _ _ _ _ om ⟨inj_fst hF, inj_snd hF⟩ hP hD hS dX6_call_22
  · replace hF := of_t h2 hF
    refine lv_iconst (v := (-1)) hx hb dX6_call_9 (by decide) ?_
    exact hQ _ _ _ _ _ om ⟨inj_fst hF, inj_snd hF⟩ hP hD hS dX6_call_10

/-! ### ThreeLegsModel.quicken(IIII)I -/
abbrev wm_X6_quicken (cI cZ cO : ClassId) (m_h m_1 m_2 m_3 m_22 m_23 m_24 m_27 m_29 m_30 : Nat) (om : Ob) : va_W := [(m_h, .inr (6, [.int (om 0 0), .ref m_1, .ref m_2, .ref m_3, .int (om 4 0), .int (om 5 0), .int (om 6 0), .int (om 7 0), .int (om 8 0), .int (om 9 0), .int (om 10 0), .int (om 11 0), .int (om 12 0), .int (om 13 0), .int (om 14 0), .int (om 15 0), .int (om 16 0), .int (om 17 0), .int (om 18 0), .int (om 19 0), .int (om 20 0), .int (om 21 0), .ref m_22, .ref m_23, .ref m_24, .int (om 25 0), .int (om 26 0), .ref m_27, .int (om 28 0), .ref m_29, .ref m_30, .int (om 31 0), .int (om 32 0)])), (m_1, .inl (cI, 8, .inl (om 1))), (m_2, .inl (cI, 8, .inl (om 2))), (m_3, .inl (cI, 8, .inl (om 3))), (m_22, .inl (cI, 64, .inl (om 22))), (m_23, .inl (cI, 8, .inl (om 23))), (m_24, .inl (cI, 8, .inl (om 24))), (m_27, .inl (cI, 40, .inl (om 27))), (m_29, .inl (cI, 80, .inl (om 29))), (m_30, .inl (cZ, 2, .inl (om 30)))]
def L_X6_quicken_36 : Nat → Int32 → Int32 → Ob → (Ob → Option (Int32 × Ob)) → Option (Int32 × Ob)
  | 0, _, _, _, _ => none
  | n13 + 1, p2, v10, om11, K7 =>
    (if 61 < v10 then K7 om11 else jn (fun (v16 : Int32) => dd (sO om11 12 (cst v16)) (fun (om17 : Ob) => (F_X6_tryOne om17 v10 p2).bind (fun q18 => dd (v10 + 1) (fun (v19 : Int32) => L_X6_quicken_36 n13 p2 v19 q18 K7)))) (fun (K15 : Int32 → Option (Int32 × Ob)) => (if v10 = 61 then K15 1000 else K15 v10)))
def F_X6_quicken (om : Ob) (p0 : Int32) (p1 : Int32) (p2 : Int32) (p3 : Int32) : Option (Int32 × Ob) :=
  (F_X6_isPair om p0 p1).bind (fun q1 => (if q1 = 0 then some ((-1), om) else (F_X6_isAsked p2 p3).bind (fun q3 => (if q3 = 0 then some ((-2), om) else (F_X6_layPair om p0 p1).bind (fun q5 => (F_X6_beginTries q5).bind (fun q6 => jn (fun (om8 : Ob) => (F_X6_tellBest om8 p3).bind (fun q9 => some (q9, om8))) (fun (K7 : Ob → Option (Int32 × Ob)) => L_X6_quicken_36 2000 p2 0 q6 K7)))))))
abbrev rm_X6_quicken : Room := { frames := 4, cells := 0, slots := 0, locals := 92 }
abbrev wu_X6_quicken : List Cond := .code yX6_quicken cX6_quicken 6 (some .int) :: lwG
set_option maxHeartbeats 20000000 in
set_option maxRecDepth 100000 in
theorem c_X6_quicken (l : Launch) (D : va_G) (cI cZ cO : ClassId) (m_h m_1 m_2 m_3 m_22 m_23 m_24 m_27 m_29 m_30 : Nat) (sz : Nat) (om : Ob) (p0 : Int32) (p1 : Int32) (p2 : Int32) (p3 : Int32) (q : Int32 × Ob) (hF : F_X6_quicken om p0 p1 p2 p3 = some q) : CtI l yX6_quicken wu_X6_quicken rm_X6_quicken D vwCl (tyL cI cZ cO) [.ref m_h, .int p0, .int p1, .int p2, .int p3] (wm_X6_quicken cI cZ cO m_h m_1 m_2 m_3 m_22 m_23 m_24 m_27 m_29 m_30 om) sz 0 0 (fun (r : Int32) (u : Ob) => r = q.1 ∧ u = q.2) (fun u => wm_X6_quicken cI cZ cO m_h m_1 m_2 m_3 m_22 m_23 m_24 m_27 m_29 m_30 u) := by
  refine mk_i (cc := cX6_quicken) (maxL := 6) (by decide) rfl (Nat.le_of_ble_eq_true rfl) ?_
  intro p e s m args below meth c A ls Q hx hb hml hown hts hin hK hP hD hS hA hl hQ
  have hl : lv_has ls 6 [(0, .ref m_h), (1, .int p0), (2, .int p1), (3, .int p2), (4, .int p3)] := hl
  unfold F_X6_quicken at hF
  refine lv_aload_n hx hb dX6_quicken_0 rfl (lv_at hl 0 rfl) ?_
  refine lv_iload_n hx hb dX6_quicken_1 rfl (lv_at hl 1 rfl) ?_
  refine lv_iload_n hx hb dX6_quicken_2 rfl (lv_at hl 2 rfl) ?_
  obtain ⟨q1, hGq1, hF⟩ := of_bind hF
  refine callVi (As := [.int p0, .int p1]) (rest := []) (wr := []) (WN := wm_X6_quicken cI cZ cO m_h m_1 m_2 m_3 m_22 m_23 m_24 m_27 m_29 m_30 om) ⟨hx, hb, hml, hown, hts⟩ hK hP hD hS hA [0, 1, 2, 3, 4, 5, 6, 7, 8, 9] [] [0, 1, 2, 3, 4, 5, 6, 7, 8, 9] (c_X6_isPair l D cI cZ cO m_h m_1 m_2 m_3 m_22 m_23 m_24 m_27 m_29 m_30 _ om p0 p1 q1 hGq1) (cwV 2 hts (gV wd_650 wd_652 wd_15 wd_39 wd_653) rfl rfl rfl (by decide +kernel) ⟨Nat.le_of_ble_eq_true rfl, Nat.le_of_ble_eq_true rfl⟩) 0 6 rfl rfl rfl rfl rfl rfl rfl (by decide) rfl rfl rfl hl.1 rfl (Nat.le_of_ble_eq_true rfl) dX6_quicken_3 ⟨Nat.zero_le _, Nat.zero_le _⟩ (fun H locs hP hD hS => ?_)
  refine lv_if_ne (tgt := 11) hx hb dX6_quicken_6 (by decide) (fun h2 => ?_) (fun h2 => ?_)
  · replace hF := of_f h2 hF
    refine lv_iload_n hx hb dX6_quicken_11 rfl (lv_at hl 3 rfl) ?_
    refine lv_iload hx hb dX6_quicken_12 (lv_at hl 4 rfl) ?_
    obtain ⟨q3, hGq3, hF⟩ := of_bind hF
    refine callSi (As := [.int p2, .int p3]) (rest := []) ⟨hx, hb, hml, hown, hts⟩ hK hP hD hS hA (c_X6_isAsked l D cI cZ cO  _ p2 p3 q3 hGq3) (va_cwS 2 hts (gS wd_719 wd_720 wd_39 wd_721) rfl rfl rfl (by decide +kernel) ⟨Nat.le_of_ble_eq_true rfl, Nat.le_of_ble_eq_true rfl⟩) rfl hl.1 rfl (Nat.le_of_ble_eq_true rfl) dX6_quicken_14 ⟨Nat.zero_le _, Nat.zero_le _⟩ (fun H locs hP hS => ?_)
    refine lv_if_ne (tgt := 23) hx hb dX6_quicken_17 (by decide) (fun h4 => ?_) (fun h4 => ?_)
    · replace hF := of_f h4 hF
      refine lv_aload_n hx hb dX6_quicken_23 rfl (lv_at hl 0 rfl) ?_
      refine lv_iload_n hx hb dX6_quicken_24 rfl (lv_at hl 1 rfl) ?_
      refine lv_iload_n hx hb dX6_quicken_25 rfl (lv_at hl 2 rfl) ?_
      obtain ⟨q5, hGq5, hF⟩ := of_bind hF
      refine callVv (As := [.int p0, .int p1]) (rest := []) (wr := []) (WN := wm_X6_quicken cI cZ cO m_h m_1 m_2 m_3 m_22 m_23 m_24 m_27 m_29 m_30 q5) ⟨hx, hb, hml, hown, hts⟩ hK hP hD hS hA [0, 1, 2, 3, 4, 5, 6, 7, 8, 9] [] [0, 1, 2, 3, 4, 5, 6, 7, 8, 9] (c_X6_layPair l D cI cZ cO m_h m_1 m_2 m_3 m_22 m_23 m_24 m_27 m_29 m_30 _ om p0 p1 q5 hGq5) (cwV 2 hts (gV wd_655 wd_657 wd_16 wd_39 wd_658) rfl rfl rfl (by decide +kernel) ⟨Nat.le_of_ble_eq_true rfl, Nat.le_of_ble_eq_true rfl⟩) 0 6 rfl rfl rfl rfl rfl rfl rfl (by decide) rfl rfl rfl hl.1 rfl (Nat.le_of_ble_eq_true rfl) dX6_quicken_26 ⟨Nat.zero_le _, Nat.zero_le _⟩ (fun H locs hP hD hS => ?_)
      refine lv_aload_n hx hb dX6_quicken_29 rfl (lv_at hl 0 rfl) ?_
      obtain ⟨q6, hGq6, hF⟩ := of_bind hF
      refine callVv (As := []) (rest := []) (wr := []) (WN := wm_X6_quicken cI cZ cO m_h m_1 m_2 m_3 m_22 m_23 m_24 m_27 m_29 m_30 q6) ⟨hx, hb, hml, hown, hts⟩ hK hP hD hS hA [0, 1, 2, 3, 4, 5, 6, 7, 8, 9] [] [0, 1, 2, 3, 4, 5, 6, 7, 8, 9] (c_X6_beginTries l D cI cZ cO m_h m_1 m_2 m_3 m_22 m_23 m_24 m_27 m_29 m_30 _ q5 q6 hGq6) (cwV 0 hts (gV wd_722 wd_724 wd_25 wd_39 wd_725) rfl rfl rfl (by decide +kernel) ⟨Nat.le_of_ble_eq_true rfl, Nat.le_of_ble_eq_true rfl⟩) 0 6 rfl rfl rfl rfl rfl rfl rfl (by decide) rfl rfl rfl hl.1 rfl (Nat.le_of_ble_eq_true rfl) dX6_quicken_30 ⟨Nat.zero_le _, Nat.zero_le _⟩ (fun H locs hP hD hS => ?_)
      refine lv_iconst (v := 0) hx hb dX6_quicken_33 (by decide) ?_
      refine lv_istore (lv' := [(5, .int 0), (0, .ref m_h), (1, .int p0), (2, .int p1), (3, .int p2), (4, .int p3)]) hx hb dX6_quicken_34 hl (by decide) rfl (fun ls hl => ?_)
      obtain ⟨K7, eK7, hF⟩ := of_jn hF
      have hK7 : ∀ (om8 : Ob) (ls : Array Slot) (H : Heap) (locs : List Loc), lv_has ls 6 [(0, .ref m_h), (4, .int p3)] → va_P D vwCl (wm_X6_quicken cI cZ cO m_h m_1 m_2 m_3 m_22 m_23 m_24 m_27 m_29 m_30 om8) H → va_D A (wm_X6_quicken cI cZ cO m_h m_1 m_2 m_3 m_22 m_23 m_24 m_27 m_29 m_30 om8) → va_S A s.heap H locs → K7 om8 = some q → W p l e rm_X6_quicken s m args below meth c H locs 0 0 Q (F0 m 75 ls []) := by
        intro om8 ls H locs hl hP hD hS hF
        subst eK7
        refine lv_aload_n hx hb dX6_quicken_75 rfl (lv_at hl 0 rfl) ?_
        refine lv_iload hx hb dX6_quicken_76 (lv_at hl 1 rfl) ?_
        obtain ⟨q9, hGq9, hF⟩ := of_bind hF
        refine callVi (As := [.int p3]) (rest := []) (wr := []) (WN := wm_X6_quicken cI cZ cO m_h m_1 m_2 m_3 m_22 m_23 m_24 m_27 m_29 m_30 om8) ⟨hx, hb, hml, hown, hts⟩ hK hP hD hS hA [0, 1, 2, 3, 4, 5, 6, 7, 8, 9] [] [0, 1, 2, 3, 4, 5, 6, 7, 8, 9] (c_X6_tellBest l D cI cZ cO m_h m_1 m_2 m_3 m_22 m_23 m_24 m_27 m_29 m_30 _ om8 p3 q9 hGq9) (cwV 1 hts (gV wd_730 wd_732 wd_27 wd_39 wd_733) rfl rfl rfl (by decide +kernel) ⟨Nat.le_of_ble_eq_true rfl, Nat.le_of_ble_eq_true rfl⟩) 0 6 rfl rfl rfl rfl rfl rfl rfl (by decide) rfl rfl rfl hl.1 rfl (Nat.le_of_ble_eq_true rfl) dX6_quicken_78 ⟨Nat.zero_le _, Nat.zero_le _⟩ (fun H locs hP hD hS => ?_)
        exact hQ _ _ _ _ _ om8 ⟨inj_fst hF, inj_snd hF⟩ hP hD hS dX6_quicken_81
      have hloop21 : ∀ (n13 : Nat) (v10 : Int32) (om11 : Ob) (ls : Array Slot) (H : Heap) (locs : List Loc), lv_has ls 6 [(0, .ref m_h), (3, .int p2), (4, .int p3), (5, .int v10)] → va_P D vwCl (wm_X6_quicken cI cZ cO m_h m_1 m_2 m_3 m_22 m_23 m_24 m_27 m_29 m_30 om11) H → va_D A (wm_X6_quicken cI cZ cO m_h m_1 m_2 m_3 m_22 m_23 m_24 m_27 m_29 m_30 om11) → va_S A s.heap H locs → L_X6_quicken_36 n13 p2 v10 om11 K7 = some q → W p l e rm_X6_quicken s m args below meth c H locs 0 0 Q (F0 m 36 ls []) := by
        intro n13
        induction n13 with
        | zero =>
          intro v10 om11 ls H locs hl hP hD hS hF
          exact of_none hF
        | succ n13 ih12 =>
          intro v10 om11 ls H locs hl hP hD hS hF
          rw [L_X6_quicken_36.eq_2] at hF
          refine lv_iload hx hb dX6_quicken_36 (lv_at hl 3 rfl) ?_
          refine lv_bipush (v := 61) hx hb dX6_quicken_38 (by decide) ?_
          refine lv_icmp_gt (tgt := 75) hx hb dX6_quicken_40 (by decide) (fun h14 => ?_) (fun h14 => ?_)
          · replace hF := of_t h14 hF
            exact hK7 om11 ls _ _ (lv_sub hl [0, 2] rfl) hP hD hS hF
          · replace hF := of_f h14 hF
            refine lv_aload_n hx hb dX6_quicken_43 rfl (lv_at hl 0 rfl) ?_
            refine lv_iload hx hb dX6_quicken_44 (lv_at hl 3 rfl) ?_
            refine lv_bipush (v := 61) hx hb dX6_quicken_46 (by decide) ?_
            obtain ⟨K15, eK15, hF⟩ := of_jn hF
            have hK15 : ∀ (v16 : Int32) (ls : Array Slot) (H : Heap) (locs : List Loc), lv_has ls 6 [(0, .ref m_h), (3, .int p2), (4, .int p3), (5, .int v10)] → va_P D vwCl (wm_X6_quicken cI cZ cO m_h m_1 m_2 m_3 m_22 m_23 m_24 m_27 m_29 m_30 om11) H → va_D A (wm_X6_quicken cI cZ cO m_h m_1 m_2 m_3 m_22 m_23 m_24 m_27 m_29 m_30 om11) → va_S A s.heap H locs → K15 v16 = some q → W p l e rm_X6_quicken s m args below meth c H locs 0 0 Q (F0 m 59 ls [.int v16, .ref m_h]) := by
              intro v16 ls H locs hl hP hD hS hF
              subst eK15
              refine va_put (D := D) (ci := 6) (v := .int v16) (ty := .int) (C := RX6) (T := TX6) (N := 33) hx hb hts in_X6 tyX6 tyX6_ok nmX6 hown hK hP hD hS 0 rfl rfl 12 (by decide) (hts _ wd_531) (fun _ h9 => h9) rfl (tyX6_ok 12 (by decide)) rfl rfl (Nat.le_of_ble_eq_true rfl) dX6_quicken_59 (fun H locs hP hD hS => ?_)
              obtain ⟨om17, hF, hP, hD⟩ := nm_o (P := fun y => va_P D vwCl (wm_X6_quicken cI cZ cO m_h m_1 m_2 m_3 m_22 m_23 m_24 m_27 m_29 m_30 y) _) (B := fun y => va_D A (wm_X6_quicken cI cZ cO m_h m_1 m_2 m_3 m_22 m_23 m_24 m_27 m_29 m_30 y)) hF hP hD
              refine lv_aload_n hx hb dX6_quicken_62 rfl (lv_at hl 0 rfl) ?_
              refine lv_iload hx hb dX6_quicken_63 (lv_at hl 3 rfl) ?_
              refine lv_iload_n hx hb dX6_quicken_65 rfl (lv_at hl 1 rfl) ?_
              obtain ⟨q18, hGq18, hF⟩ := of_bind hF
              refine callVv (As := [.int v10, .int p2]) (rest := []) (wr := []) (WN := wm_X6_quicken cI cZ cO m_h m_1 m_2 m_3 m_22 m_23 m_24 m_27 m_29 m_30 q18) ⟨hx, hb, hml, hown, hts⟩ hK hP hD hS hA [0, 1, 2, 3, 4, 5, 6, 7, 8, 9] [] [0, 1, 2, 3, 4, 5, 6, 7, 8, 9] (c_X6_tryOne l D cI cZ cO m_h m_1 m_2 m_3 m_22 m_23 m_24 m_27 m_29 m_30 _ om17 v10 p2 q18 hGq18) (cwV 2 hts (gV wd_726 wd_728 wd_26 wd_39 wd_729) rfl rfl rfl (by decide +kernel) ⟨Nat.le_of_ble_eq_true rfl, Nat.le_of_ble_eq_true rfl⟩) 0 6 rfl rfl rfl rfl rfl rfl rfl (by decide) rfl rfl rfl hl.1 rfl (Nat.le_of_ble_eq_true rfl) dX6_quicken_66 ⟨Nat.zero_le _, Nat.zero_le _⟩ (fun H locs hP hD hS => ?_)
              obtain ⟨v19, ev19⟩ : ∃ y : Int32, y = v10 + 1 := ⟨_, rfl⟩
              replace hF := of_dd hF v19 ev19
              refine lv_iinc (v := v19) (lv' := [(5, .int v19), (0, .ref m_h), (3, .int p2), (4, .int p3)]) hx hb dX6_quicken_69 hl (k := 3) rfl (by rw [ev19]; rfl) (by decide) rfl (fun ls hl => ?_)
              refine lv_goto (tgt := 36) hx hb dX6_quicken_72 (by decide) ?_
              exact ih12 v19 q18 ls _ _ (lv_sub hl [1, 2, 3, 0] rfl) hP hD hS hF
            refine lv_icmp_ne (tgt := 57) hx hb dX6_quicken_48 (by decide) (fun h20 => ?_) (fun h20 => ?_)
            · replace hF := of_f h20 hF
              refine lv_iload hx hb dX6_quicken_57 (lv_at hl 3 rfl) ?_
              exact hK15 v10 ls _ _ (lv_sub hl [0, 1, 2, 3] rfl) hP hD hS hF
            · replace hF := of_t h20 hF
              refine lv_sipush (v := 1000) hx hb dX6_quicken_51 (by decide) ?_
              refine lv_goto (tgt := 59) hx hb dX6_quicken_54 (by decide) ?_
              exact hK15 1000 ls _ _ (lv_sub hl [0, 1, 2, 3] rfl) hP hD hS hF
      exact hloop21 2000 0 q6 ls _ _ (lv_sub hl [1, 4, 5, 0] rfl) hP hD hS hF
    · replace hF := of_t h4 hF
      refine lv_bipush (v := (-2)) hx hb dX6_quicken_20 (by decide) ?_
      exact hQ _ _ _ _ _ om ⟨inj_fst hF, inj_snd hF⟩ hP hD hS dX6_quicken_22
  · replace hF := of_t h2 hF
    refine lv_iconst (v := (-1)) hx hb dX6_quicken_9 (by decide) ?_
    exact hQ _ _ _ _ _ om ⟨inj_fst hF, inj_snd hF⟩ hP hD hS dX6_quicken_10

/-! ### ThreeLegsModel.yields(IIII)I -/
abbrev wm_X6_yields (cI cZ cO : ClassId) (m_h m_1 m_2 m_3 m_22 m_23 m_24 m_27 m_29 m_30 : Nat) (om : Ob) : va_W := [(m_h, .inr (6, [.int (om 0 0), .ref m_1, .ref m_2, .ref m_3, .int (om 4 0), .int (om 5 0), .int (om 6 0), .int (om 7 0), .int (om 8 0), .int (om 9 0), .int (om 10 0), .int (om 11 0), .int (om 12 0), .int (om 13 0), .int (om 14 0), .int (om 15 0), .int (om 16 0), .int (om 17 0), .int (om 18 0), .int (om 19 0), .int (om 20 0), .int (om 21 0), .ref m_22, .ref m_23, .ref m_24, .int (om 25 0), .int (om 26 0), .ref m_27, .int (om 28 0), .ref m_29, .ref m_30, .int (om 31 0), .int (om 32 0)])), (m_1, .inl (cI, 8, .inl (om 1))), (m_2, .inl (cI, 8, .inl (om 2))), (m_3, .inl (cI, 8, .inl (om 3))), (m_22, .inl (cI, 64, .inl (om 22))), (m_23, .inl (cI, 8, .inl (om 23))), (m_24, .inl (cI, 8, .inl (om 24))), (m_27, .inl (cI, 40, .inl (om 27))), (m_29, .inl (cI, 80, .inl (om 29))), (m_30, .inl (cZ, 2, .inl (om 30)))]
def L_X6_yields_36 : Nat → Int32 → Int32 → Ob → (Ob → Option (Int32 × Ob)) → Option (Int32 × Ob)
  | 0, _, _, _, _ => none
  | n13 + 1, p2, v10, om11, K7 =>
    (if 25 ≤ v10 then K7 om11 else dd (v10 / 5) (fun (v15 : Int32) => dd (sO om11 9 (cst v15)) (fun (om16 : Ob) => dd (v10 - v10 / 5 * 5) (fun (v17 : Int32) => dd (sO om16 10 (cst v17)) (fun (om18 : Ob) => dd (10 * (om18 9 0)) (fun (v19 : Int32) => dd (v19 + (om18 10 0)) (fun (v20 : Int32) => (F_X6_tryOne om18 v20 p2).bind (fun q21 => dd (v10 + 1) (fun (v22 : Int32) => L_X6_yields_36 n13 p2 v22 q21 K7)))))))))
def F_X6_yields (om : Ob) (p0 : Int32) (p1 : Int32) (p2 : Int32) (p3 : Int32) : Option (Int32 × Ob) :=
  (F_X6_isPair om p0 p1).bind (fun q1 => (if q1 = 0 then some ((-1), om) else (F_X6_isAsked p2 p3).bind (fun q3 => (if q3 = 0 then some ((-2), om) else (F_X6_layPair om p0 p1).bind (fun q5 => (F_X6_beginTries q5).bind (fun q6 => jn (fun (om8 : Ob) => (F_X6_tellBest om8 p3).bind (fun q9 => some (q9, om8))) (fun (K7 : Ob → Option (Int32 × Ob)) => L_X6_yields_36 2000 p2 0 q6 K7)))))))
abbrev rm_X6_yields : Room := { frames := 4, cells := 0, slots := 0, locals := 92 }
abbrev wu_X6_yields : List Cond := .code yX6_yields cX6_yields 6 (some .int) :: lwG
set_option maxHeartbeats 20000000 in
set_option maxRecDepth 100000 in
theorem c_X6_yields (l : Launch) (D : va_G) (cI cZ cO : ClassId) (m_h m_1 m_2 m_3 m_22 m_23 m_24 m_27 m_29 m_30 : Nat) (sz : Nat) (om : Ob) (p0 : Int32) (p1 : Int32) (p2 : Int32) (p3 : Int32) (q : Int32 × Ob) (hF : F_X6_yields om p0 p1 p2 p3 = some q) : CtI l yX6_yields wu_X6_yields rm_X6_yields D vwCl (tyL cI cZ cO) [.ref m_h, .int p0, .int p1, .int p2, .int p3] (wm_X6_yields cI cZ cO m_h m_1 m_2 m_3 m_22 m_23 m_24 m_27 m_29 m_30 om) sz 0 0 (fun (r : Int32) (u : Ob) => r = q.1 ∧ u = q.2) (fun u => wm_X6_yields cI cZ cO m_h m_1 m_2 m_3 m_22 m_23 m_24 m_27 m_29 m_30 u) := by
  refine mk_i (cc := cX6_yields) (maxL := 6) (by decide) rfl (Nat.le_of_ble_eq_true rfl) ?_
  intro p e s m args below meth c A ls Q hx hb hml hown hts hin hK hP hD hS hA hl hQ
  have hl : lv_has ls 6 [(0, .ref m_h), (1, .int p0), (2, .int p1), (3, .int p2), (4, .int p3)] := hl
  unfold F_X6_yields at hF
  refine lv_aload_n hx hb dX6_yields_0 rfl (lv_at hl 0 rfl) ?_
  refine lv_iload_n hx hb dX6_yields_1 rfl (lv_at hl 1 rfl) ?_
  refine lv_iload_n hx hb dX6_yields_2 rfl (lv_at hl 2 rfl) ?_
  obtain ⟨q1, hGq1, hF⟩ := of_bind hF
  refine callVi (As := [.int p0, .int p1]) (rest := []) (wr := []) (WN := wm_X6_yields cI cZ cO m_h m_1 m_2 m_3 m_22 m_23 m_24 m_27 m_29 m_30 om) ⟨hx, hb, hml, hown, hts⟩ hK hP hD hS hA [0, 1, 2, 3, 4, 5, 6, 7, 8, 9] [] [0, 1, 2, 3, 4, 5, 6, 7, 8, 9] (c_X6_isPair l D cI cZ cO m_h m_1 m_2 m_3 m_22 m_23 m_24 m_27 m_29 m_30 _ om p0 p1 q1 hGq1) (cwV 2 hts (gV wd_650 wd_652 wd_15 wd_39 wd_653) rfl rfl rfl (by decide +kernel) ⟨Nat.le_of_ble_eq_true rfl, Nat.le_of_ble_eq_true rfl⟩) 0 6 rfl rfl rfl rfl rfl rfl rfl (by decide) rfl rfl rfl hl.1 rfl (Nat.le_of_ble_eq_true rfl) dX6_yields_3 ⟨Nat.zero_le _, Nat.zero_le _⟩ (fun H locs hP hD hS => ?_)
  refine lv_if_ne (tgt := 11) hx hb dX6_yields_6 (by decide) (fun h2 => ?_) (fun h2 => ?_)
  · replace hF := of_f h2 hF
    refine lv_iload_n hx hb dX6_yields_11 rfl (lv_at hl 3 rfl) ?_
    refine lv_iload hx hb dX6_yields_12 (lv_at hl 4 rfl) ?_
    obtain ⟨q3, hGq3, hF⟩ := of_bind hF
    refine callSi (As := [.int p2, .int p3]) (rest := []) ⟨hx, hb, hml, hown, hts⟩ hK hP hD hS hA (c_X6_isAsked l D cI cZ cO  _ p2 p3 q3 hGq3) (va_cwS 2 hts (gS wd_719 wd_720 wd_39 wd_721) rfl rfl rfl (by decide +kernel) ⟨Nat.le_of_ble_eq_true rfl, Nat.le_of_ble_eq_true rfl⟩) rfl hl.1 rfl (Nat.le_of_ble_eq_true rfl) dX6_yields_14 ⟨Nat.zero_le _, Nat.zero_le _⟩ (fun H locs hP hS => ?_)
    refine lv_if_ne (tgt := 23) hx hb dX6_yields_17 (by decide) (fun h4 => ?_) (fun h4 => ?_)
    · replace hF := of_f h4 hF
      refine lv_aload_n hx hb dX6_yields_23 rfl (lv_at hl 0 rfl) ?_
      refine lv_iload_n hx hb dX6_yields_24 rfl (lv_at hl 1 rfl) ?_
      refine lv_iload_n hx hb dX6_yields_25 rfl (lv_at hl 2 rfl) ?_
      obtain ⟨q5, hGq5, hF⟩ := of_bind hF
      refine callVv (As := [.int p0, .int p1]) (rest := []) (wr := []) (WN := wm_X6_yields cI cZ cO m_h m_1 m_2 m_3 m_22 m_23 m_24 m_27 m_29 m_30 q5) ⟨hx, hb, hml, hown, hts⟩ hK hP hD hS hA [0, 1, 2, 3, 4, 5, 6, 7, 8, 9] [] [0, 1, 2, 3, 4, 5, 6, 7, 8, 9] (c_X6_layPair l D cI cZ cO m_h m_1 m_2 m_3 m_22 m_23 m_24 m_27 m_29 m_30 _ om p0 p1 q5 hGq5) (cwV 2 hts (gV wd_655 wd_657 wd_16 wd_39 wd_658) rfl rfl rfl (by decide +kernel) ⟨Nat.le_of_ble_eq_true rfl, Nat.le_of_ble_eq_true rfl⟩) 0 6 rfl rfl rfl rfl rfl rfl rfl (by decide) rfl rfl rfl hl.1 rfl (Nat.le_of_ble_eq_true rfl) dX6_yields_26 ⟨Nat.zero_le _, Nat.zero_le _⟩ (fun H locs hP hD hS => ?_)
      refine lv_aload_n hx hb dX6_yields_29 rfl (lv_at hl 0 rfl) ?_
      obtain ⟨q6, hGq6, hF⟩ := of_bind hF
      refine callVv (As := []) (rest := []) (wr := []) (WN := wm_X6_yields cI cZ cO m_h m_1 m_2 m_3 m_22 m_23 m_24 m_27 m_29 m_30 q6) ⟨hx, hb, hml, hown, hts⟩ hK hP hD hS hA [0, 1, 2, 3, 4, 5, 6, 7, 8, 9] [] [0, 1, 2, 3, 4, 5, 6, 7, 8, 9] (c_X6_beginTries l D cI cZ cO m_h m_1 m_2 m_3 m_22 m_23 m_24 m_27 m_29 m_30 _ q5 q6 hGq6) (cwV 0 hts (gV wd_722 wd_724 wd_25 wd_39 wd_725) rfl rfl rfl (by decide +kernel) ⟨Nat.le_of_ble_eq_true rfl, Nat.le_of_ble_eq_true rfl⟩) 0 6 rfl rfl rfl rfl rfl rfl rfl (by decide) rfl rfl rfl hl.1 rfl (Nat.le_of_ble_eq_true rfl) dX6_yields_30 ⟨Nat.zero_le _, Nat.zero_le _⟩ (fun H locs hP hD hS => ?_)
      refine lv_iconst (v := 0) hx hb dX6_yields_33 (by decide) ?_
      refine lv_istore (lv' := [(5, .int 0), (0, .ref m_h), (1, .int p0), (2, .int p1), (3, .int p2), (4, .int p3)]) hx hb dX6_yields_34 hl (by decide) rfl (fun ls hl => ?_)
      obtain ⟨K7, eK7, hF⟩ := of_jn hF
      have hK7 : ∀ (om8 : Ob) (ls : Array Slot) (H : Heap) (locs : List Loc), lv_has ls 6 [(0, .ref m_h), (4, .int p3)] → va_P D vwCl (wm_X6_yields cI cZ cO m_h m_1 m_2 m_3 m_22 m_23 m_24 m_27 m_29 m_30 om8) H → va_D A (wm_X6_yields cI cZ cO m_h m_1 m_2 m_3 m_22 m_23 m_24 m_27 m_29 m_30 om8) → va_S A s.heap H locs → K7 om8 = some q → W p l e rm_X6_yields s m args below meth c H locs 0 0 Q (F0 m 82 ls []) := by
        intro om8 ls H locs hl hP hD hS hF
        subst eK7
        refine lv_aload_n hx hb dX6_yields_82 rfl (lv_at hl 0 rfl) ?_
        refine lv_iload hx hb dX6_yields_83 (lv_at hl 1 rfl) ?_
        obtain ⟨q9, hGq9, hF⟩ := of_bind hF
        refine callVi (As := [.int p3]) (rest := []) (wr := []) (WN := wm_X6_yields cI cZ cO m_h m_1 m_2 m_3 m_22 m_23 m_24 m_27 m_29 m_30 om8) ⟨hx, hb, hml, hown, hts⟩ hK hP hD hS hA [0, 1, 2, 3, 4, 5, 6, 7, 8, 9] [] [0, 1, 2, 3, 4, 5, 6, 7, 8, 9] (c_X6_tellBest l D cI cZ cO m_h m_1 m_2 m_3 m_22 m_23 m_24 m_27 m_29 m_30 _ om8 p3 q9 hGq9) (cwV 1 hts (gV wd_730 wd_732 wd_27 wd_39 wd_733) rfl rfl rfl (by decide +kernel) ⟨Nat.le_of_ble_eq_true rfl, Nat.le_of_ble_eq_true rfl⟩) 0 6 rfl rfl rfl rfl rfl rfl rfl (by decide) rfl rfl rfl hl.1 rfl (Nat.le_of_ble_eq_true rfl) dX6_yields_85 ⟨Nat.zero_le _, Nat.zero_le _⟩ (fun H locs hP hD hS => ?_)
        exact hQ _ _ _ _ _ om8 ⟨inj_fst hF, inj_snd hF⟩ hP hD hS dX6_yields_88
      have hloop23 : ∀ (n13 : Nat) (v10 : Int32) (om11 : Ob) (ls : Array Slot) (H : Heap) (locs : List Loc), lv_has ls 6 [(0, .ref m_h), (3, .int p2), (4, .int p3), (5, .int v10)] → va_P D vwCl (wm_X6_yields cI cZ cO m_h m_1 m_2 m_3 m_22 m_23 m_24 m_27 m_29 m_30 om11) H → va_D A (wm_X6_yields cI cZ cO m_h m_1 m_2 m_3 m_22 m_23 m_24 m_27 m_29 m_30 om11) → va_S A s.heap H locs → L_X6_yields_36 n13 p2 v10 om11 K7 = some q → W p l e rm_X6_yields s m args below meth c H locs 0 0 Q (F0 m 36 ls []) := by
        intro n13
        induction n13 with
        | zero =>
          intro v10 om11 ls H locs hl hP hD hS hF
          exact of_none hF
        | succ n13 ih12 =>
          intro v10 om11 ls H locs hl hP hD hS hF
          rw [L_X6_yields_36.eq_2] at hF
          refine lv_iload hx hb dX6_yields_36 (lv_at hl 3 rfl) ?_
          refine lv_bipush (v := 25) hx hb dX6_yields_38 (by decide) ?_
          refine lv_icmp_ge (tgt := 82) hx hb dX6_yields_40 (by decide) (fun h14 => ?_) (fun h14 => ?_)
          · replace hF := of_t h14 hF
            exact hK7 om11 ls _ _ (lv_sub hl [0, 2] rfl) hP hD hS hF
          · replace hF := of_f h14 hF
            refine lv_aload_n hx hb dX6_yields_43 rfl (lv_at hl 0 rfl) ?_
            refine lv_iload hx hb dX6_yields_44 (lv_at hl 3 rfl) ?_
            refine lv_iconst (v := 5) hx hb dX6_yields_46 (by decide) ?_
            refine lv_idiv hx hb dX6_yields_47 (by decide) ?_
            refine lv_topi (fun v15 ev15 => ?_)
            replace hF := of_dd hF v15 ev15
            refine va_put (D := D) (ci := 6) (v := .int v15) (ty := .int) (C := RX6) (T := TX6) (N := 33) hx hb hts in_X6 tyX6 tyX6_ok nmX6 hown hK hP hD hS 0 rfl rfl 9 (by decide) (hts _ wd_528) (fun _ h9 => h9) rfl (tyX6_ok 9 (by decide)) rfl rfl (Nat.le_of_ble_eq_true rfl) dX6_yields_48 (fun H locs hP hD hS => ?_)
            obtain ⟨om16, hF, hP, hD⟩ := nm_o (P := fun y => va_P D vwCl (wm_X6_yields cI cZ cO m_h m_1 m_2 m_3 m_22 m_23 m_24 m_27 m_29 m_30 y) _) (B := fun y => va_D A (wm_X6_yields cI cZ cO m_h m_1 m_2 m_3 m_22 m_23 m_24 m_27 m_29 m_30 y)) hF hP hD
            refine lv_aload_n hx hb dX6_yields_51 rfl (lv_at hl 0 rfl) ?_
            refine lv_iload hx hb dX6_yields_52 (lv_at hl 3 rfl) ?_
            refine lv_iconst (v := 5) hx hb dX6_yields_54 (by decide) ?_
            refine lv_irem hx hb dX6_yields_55 (by decide) ?_
            refine lv_topi (fun v17 ev17 => ?_)
            replace hF := of_dd hF v17 ev17
            refine va_put (D := D) (ci := 6) (v := .int v17) (ty := .int) (C := RX6) (T := TX6) (N := 33) hx hb hts in_X6 tyX6 tyX6_ok nmX6 hown hK hP hD hS 0 rfl rfl 10 (by decide) (hts _ wd_529) (fun _ h9 => h9) rfl (tyX6_ok 10 (by decide)) rfl rfl (Nat.le_of_ble_eq_true rfl) dX6_yields_56 (fun H locs hP hD hS => ?_)
            obtain ⟨om18, hF, hP, hD⟩ := nm_o (P := fun y => va_P D vwCl (wm_X6_yields cI cZ cO m_h m_1 m_2 m_3 m_22 m_23 m_24 m_27 m_29 m_30 y) _) (B := fun y => va_D A (wm_X6_yields cI cZ cO m_h m_1 m_2 m_3 m_22 m_23 m_24 m_27 m_29 m_30 y)) hF hP hD
            refine lv_aload_n hx hb dX6_yields_59 rfl (lv_at hl 0 rfl) ?_
            refine lv_bipush (v := 10) hx hb dX6_yields_60 (by decide) ?_
            refine lv_aload_n hx hb dX6_yields_62 rfl (lv_at hl 0 rfl) ?_
            refine va_get (D := D) (ci := 6) (v := .int (om18 9 0)) (C := RX6) (T := TX6) (N := 33) hx hb hts in_X6 hown hK hP 0 rfl rfl 9 (by decide) (hts _ wd_528) (fun _ h9 => h9) rfl dX6_yields_63 ?_
            refine lv_imul hx hb dX6_yields_66 ?_
            refine lv_topi (fun v19 ev19 => ?_)
            replace hF := of_dd hF v19 ev19
            refine lv_aload_n hx hb dX6_yields_67 rfl (lv_at hl 0 rfl) ?_
            refine va_get (D := D) (ci := 6) (v := .int (om18 10 0)) (C := RX6) (T := TX6) (N := 33) hx hb hts in_X6 hown hK hP 0 rfl rfl 10 (by decide) (hts _ wd_529) (fun _ h9 => h9) rfl dX6_yields_68 ?_
            refine lv_iadd hx hb dX6_yields_71 ?_
            refine lv_topi (fun v20 ev20 => ?_)
            replace hF := of_dd hF v20 ev20
            refine lv_iload_n hx hb dX6_yields_72 rfl (lv_at hl 1 rfl) ?_
            obtain ⟨q21, hGq21, hF⟩ := of_bind hF
            refine callVv (As := [.int v20, .int p2]) (rest := []) (wr := []) (WN := wm_X6_yields cI cZ cO m_h m_1 m_2 m_3 m_22 m_23 m_24 m_27 m_29 m_30 q21) ⟨hx, hb, hml, hown, hts⟩ hK hP hD hS hA [0, 1, 2, 3, 4, 5, 6, 7, 8, 9] [] [0, 1, 2, 3, 4, 5, 6, 7, 8, 9] (c_X6_tryOne l D cI cZ cO m_h m_1 m_2 m_3 m_22 m_23 m_24 m_27 m_29 m_30 _ om18 v20 p2 q21 hGq21) (cwV 2 hts (gV wd_726 wd_728 wd_26 wd_39 wd_729) rfl rfl rfl (by decide +kernel) ⟨Nat.le_of_ble_eq_true rfl, Nat.le_of_ble_eq_true rfl⟩) 0 6 rfl rfl rfl rfl rfl rfl rfl (by decide) rfl rfl rfl hl.1 rfl (Nat.le_of_ble_eq_true rfl) dX6_yields_73 ⟨Nat.zero_le _, Nat.zero_le _⟩ (fun H locs hP hD hS => ?_)
            obtain ⟨v22, ev22⟩ : ∃ y : Int32, y = v10 + 1 := ⟨_, rfl⟩
            replace hF := of_dd hF v22 ev22
            refine lv_iinc (v := v22) (lv' := [(5, .int v22), (0, .ref m_h), (3, .int p2), (4, .int p3)]) hx hb dX6_yields_76 hl (k := 3) rfl (by rw [ev22]; rfl) (by decide) rfl (fun ls hl => ?_)
            refine lv_goto (tgt := 36) hx hb dX6_yields_79 (by decide) ?_
            exact ih12 v22 q21 ls _ _ (lv_sub hl [1, 2, 3, 0] rfl) hP hD hS hF
      exact hloop23 2000 0 q6 ls _ _ (lv_sub hl [1, 4, 5, 0] rfl) hP hD hS hF
    · replace hF := of_t h4 hF
      refine lv_bipush (v := (-2)) hx hb dX6_yields_20 (by decide) ?_
      exact hQ _ _ _ _ _ om ⟨inj_fst hF, inj_snd hF⟩ hP hD hS dX6_yields_22
  · replace hF := of_t h2 hF
    refine lv_iconst (v := (-1)) hx hb dX6_yields_9 (by decide) ?_
    exact hQ _ _ _ _ _ om ⟨inj_fst hF, inj_snd hF⟩ hP hD hS dX6_yields_10

/-! ### ThreeLegsModel.fallsIn(I)Z -/
abbrev wm_X6_fallsIn (cI cZ cO : ClassId) (m_h m_1 m_2 m_3 m_22 m_23 m_24 m_27 m_29 m_30 : Nat) (om : Ob) : va_W := [(m_h, .inr (6, [.int (om 0 0), .ref m_1, .ref m_2, .ref m_3, .int (om 4 0), .int (om 5 0), .int (om 6 0), .int (om 7 0), .int (om 8 0), .int (om 9 0), .int (om 10 0), .int (om 11 0), .int (om 12 0), .int (om 13 0), .int (om 14 0), .int (om 15 0), .int (om 16 0), .int (om 17 0), .int (om 18 0), .int (om 19 0), .int (om 20 0), .int (om 21 0), .ref m_22, .ref m_23, .ref m_24, .int (om 25 0), .int (om 26 0), .ref m_27, .int (om 28 0), .ref m_29, .ref m_30, .int (om 31 0), .int (om 32 0)])), (m_1, .inl (cI, 8, .inl (om 1))), (m_2, .inl (cI, 8, .inl (om 2))), (m_3, .inl (cI, 8, .inl (om 3))), (m_22, .inl (cI, 64, .inl (om 22))), (m_23, .inl (cI, 8, .inl (om 23))), (m_24, .inl (cI, 8, .inl (om 24))), (m_27, .inl (cI, 40, .inl (om 27))), (m_29, .inl (cI, 80, .inl (om 29))), (m_30, .inl (cZ, 2, .inl (om 30)))]
def L_X6_fallsIn_4 : Nat → Int32 → Ob → (Ob → Option (Int32 × Ob)) → Option (Int32 × Ob)
  | 0, _, _, _ => none
  | n7 + 1, p0, om5, K2 =>
    (if p0 ≤ (om5 19 0) then K2 om5 else (if (om5 18 0) = 0 then (F_X6_step om5).bind (fun q10 => L_X6_fallsIn_4 n7 p0 q10 K2) else K2 om5))
def F_X6_fallsIn (om : Ob) (p0 : Int32) : Option (Int32 × Ob) :=
  (F_X6_begin om).bind (fun q1 => jn (fun (om3 : Ob) => (if (om3 18 0) ≤ 0 then some (0, om3) else some (1, om3))) (fun (K2 : Ob → Option (Int32 × Ob)) => L_X6_fallsIn_4 2000 p0 q1 K2))
abbrev rm_X6_fallsIn : Room := { frames := 2, cells := 0, slots := 0, locals := 48 }
abbrev wu_X6_fallsIn : List Cond := .code yX6_fallsIn cX6_fallsIn 2 (some .boolean) :: lwG
set_option maxHeartbeats 20000000 in
set_option maxRecDepth 100000 in
theorem c_X6_fallsIn (l : Launch) (D : va_G) (cI cZ cO : ClassId) (m_h m_1 m_2 m_3 m_22 m_23 m_24 m_27 m_29 m_30 : Nat) (sz : Nat) (om : Ob) (p0 : Int32) (q : Int32 × Ob) (hF : F_X6_fallsIn om p0 = some q) : CtI l yX6_fallsIn wu_X6_fallsIn rm_X6_fallsIn D vwCl (tyL cI cZ cO) [.ref m_h, .int p0] (wm_X6_fallsIn cI cZ cO m_h m_1 m_2 m_3 m_22 m_23 m_24 m_27 m_29 m_30 om) sz 0 0 (fun (r : Int32) (u : Ob) => r = q.1 ∧ u = q.2) (fun u => wm_X6_fallsIn cI cZ cO m_h m_1 m_2 m_3 m_22 m_23 m_24 m_27 m_29 m_30 u) := by
  refine mk_z (cc := cX6_fallsIn) (maxL := 2) (by decide) rfl (Nat.le_of_ble_eq_true rfl) ?_
  intro p e s m args below meth c A ls Q hx hb hml hown hts hin hK hP hD hS hA hl hQ
  have hl : lv_has ls 2 [(0, .ref m_h), (1, .int p0)] := hl
  unfold F_X6_fallsIn at hF
  refine lv_aload_n hx hb dX6_fallsIn_0 rfl (lv_at hl 0 rfl) ?_
  obtain ⟨q1, hGq1, hF⟩ := of_bind hF
  refine callVv (As := []) (rest := []) (wr := []) (WN := wm_X6_fallsIn cI cZ cO m_h m_1 m_2 m_3 m_22 m_23 m_24 m_27 m_29 m_30 q1) ⟨hx, hb, hml, hown, hts⟩ hK hP hD hS hA [0, 1, 2, 3, 4, 5, 6, 7, 8, 9] [] [0, 1, 2, 3, 4, 5, 6, 7, 8, 9] (c_X6_begin l D cI cZ cO m_h m_1 m_2 m_3 m_22 m_23 m_24 m_27 m_29 m_30 _ om q1 hGq1) (cwV 0 hts (gV wd_659 wd_661 wd_17 wd_39 wd_662) rfl rfl rfl (by decide +kernel) ⟨Nat.le_of_ble_eq_true rfl, Nat.le_of_ble_eq_true rfl⟩) 0 6 rfl rfl rfl rfl rfl rfl rfl (by decide) rfl rfl rfl hl.1 rfl (Nat.le_of_ble_eq_true rfl) dX6_fallsIn_1 ⟨Nat.zero_le _, Nat.zero_le _⟩ (fun H locs hP hD hS => ?_)
  obtain ⟨K2, eK2, hF⟩ := of_jn hF
  have hK2 : ∀ (om3 : Ob) (ls : Array Slot) (H : Heap) (locs : List Loc), lv_has ls 2 [(0, .ref m_h)] → va_P D vwCl (wm_X6_fallsIn cI cZ cO m_h m_1 m_2 m_3 m_22 m_23 m_24 m_27 m_29 m_30 om3) H → va_D A (wm_X6_fallsIn cI cZ cO m_h m_1 m_2 m_3 m_22 m_23 m_24 m_27 m_29 m_30 om3) → va_S A s.heap H locs → K2 om3 = some q → W p l e rm_X6_fallsIn s m args below meth c H locs 0 0 Q (F0 m 26 ls []) := by
    intro om3 ls H locs hl hP hD hS hF
    subst eK2
    refine lv_aload_n hx hb dX6_fallsIn_26 rfl (lv_at hl 0 rfl) ?_
    refine va_get (D := D) (ci := 6) (v := .int (om3 18 0)) (C := RX6) (T := TX6) (N := 33) hx hb hts in_X6 hown hK hP 0 rfl rfl 18 (by decide) (hts _ wd_537) (fun _ h9 => h9) rfl dX6_fallsIn_27 ?_
    refine lv_if_le (tgt := 37) hx hb dX6_fallsIn_30 (by decide) (fun h4 => ?_) (fun h4 => ?_)
    · replace hF := of_t h4 hF
      refine lv_iconst (v := 0) hx hb dX6_fallsIn_37 (by decide) ?_
      exact hQ _ _ _ _ _ om3 rfl ⟨inj_fst hF, inj_snd hF⟩ hP hD hS dX6_fallsIn_38
    · replace hF := of_f h4 hF
      refine lv_iconst (v := 1) hx hb dX6_fallsIn_33 (by decide) ?_
      refine lv_goto (tgt := 38) hx hb dX6_fallsIn_34 (by decide) ?_
      exact hQ _ _ _ _ _ om3 rfl ⟨inj_fst hF, inj_snd hF⟩ hP hD hS dX6_fallsIn_38
  have hloop11 : ∀ (n7 : Nat) (om5 : Ob) (ls : Array Slot) (H : Heap) (locs : List Loc), lv_has ls 2 [(0, .ref m_h), (1, .int p0)] → va_P D vwCl (wm_X6_fallsIn cI cZ cO m_h m_1 m_2 m_3 m_22 m_23 m_24 m_27 m_29 m_30 om5) H → va_D A (wm_X6_fallsIn cI cZ cO m_h m_1 m_2 m_3 m_22 m_23 m_24 m_27 m_29 m_30 om5) → va_S A s.heap H locs → L_X6_fallsIn_4 n7 p0 om5 K2 = some q → W p l e rm_X6_fallsIn s m args below meth c H locs 0 0 Q (F0 m 4 ls []) := by
    intro n7
    induction n7 with
    | zero =>
      intro om5 ls H locs hl hP hD hS hF
      exact of_none hF
    | succ n7 ih6 =>
      intro om5 ls H locs hl hP hD hS hF
      rw [L_X6_fallsIn_4.eq_2] at hF
      refine lv_aload_n hx hb dX6_fallsIn_4 rfl (lv_at hl 0 rfl) ?_
      refine va_get (D := D) (ci := 6) (v := .int (om5 19 0)) (C := RX6) (T := TX6) (N := 33) hx hb hts in_X6 hown hK hP 0 rfl rfl 19 (by decide) (hts _ wd_538) (fun _ h9 => h9) rfl dX6_fallsIn_5 ?_
      refine lv_iload_n hx hb dX6_fallsIn_8 rfl (lv_at hl 1 rfl) ?_
      refine lv_icmp_ge (tgt := 26) hx hb dX6_fallsIn_9 (by decide) (fun h8 => ?_) (fun h8 => ?_)
      · replace hF := of_t h8 hF
        exact hK2 om5 ls _ _ (lv_sub hl [0] rfl) hP hD hS hF
      · replace hF := of_f h8 hF
        refine lv_aload_n hx hb dX6_fallsIn_12 rfl (lv_at hl 0 rfl) ?_
        refine va_get (D := D) (ci := 6) (v := .int (om5 18 0)) (C := RX6) (T := TX6) (N := 33) hx hb hts in_X6 hown hK hP 0 rfl rfl 18 (by decide) (hts _ wd_537) (fun _ h9 => h9) rfl dX6_fallsIn_13 ?_
        refine lv_if_ne (tgt := 26) hx hb dX6_fallsIn_16 (by decide) (fun h9 => ?_) (fun h9 => ?_)
        · replace hF := of_f h9 hF
          exact hK2 om5 ls _ _ (lv_sub hl [0] rfl) hP hD hS hF
        · replace hF := of_t h9 hF
          refine lv_aload_n hx hb dX6_fallsIn_19 rfl (lv_at hl 0 rfl) ?_
          obtain ⟨q10, hGq10, hF⟩ := of_bind hF
          refine callVv (As := []) (rest := []) (wr := []) (WN := wm_X6_fallsIn cI cZ cO m_h m_1 m_2 m_3 m_22 m_23 m_24 m_27 m_29 m_30 q10) ⟨hx, hb, hml, hown, hts⟩ hK hP hD hS hA [0, 1, 2, 3, 4, 5, 6, 7, 8, 9] [] [0, 1, 2, 3, 4, 5, 6, 7, 8, 9] (c_X6_step l D cI cZ cO m_h m_1 m_2 m_3 m_22 m_23 m_24 m_27 m_29 m_30 _ om5 q10 hGq10) (cwV 0 hts (gV wd_663 wd_665 wd_18 wd_39 wd_666) rfl rfl rfl (by decide +kernel) ⟨Nat.le_of_ble_eq_true rfl, Nat.le_of_ble_eq_true rfl⟩) 0 6 rfl rfl rfl rfl rfl rfl rfl (by decide) rfl rfl rfl hl.1 rfl (Nat.le_of_ble_eq_true rfl) dX6_fallsIn_20 ⟨Nat.zero_le _, Nat.zero_le _⟩ (fun H locs hP hD hS => ?_)
          refine lv_goto (tgt := 4) hx hb dX6_fallsIn_23 (by decide) ?_
          exact ih6 q10 ls _ _ (lv_sub hl [0, 1] rfl) hP hD hS hF
  exact hloop11 2000 q1 ls _ _ (lv_sub hl [0, 1] rfl) hP hD hS hF

/-! ### ThreeLegsModel.practice(IIII)I -/
abbrev wm_X6_practice (cI cZ cO : ClassId) (m_h m_1 m_2 m_3 m_22 m_23 m_24 m_27 m_29 m_30 : Nat) (om : Ob) : va_W := [(m_h, .inr (6, [.int (om 0 0), .ref m_1, .ref m_2, .ref m_3, .int (om 4 0), .int (om 5 0), .int (om 6 0), .int (om 7 0), .int (om 8 0), .int (om 9 0), .int (om 10 0), .int (om 11 0), .int (om 12 0), .int (om 13 0), .int (om 14 0), .int (om 15 0), .int (om 16 0), .int (om 17 0), .int (om 18 0), .int (om 19 0), .int (om 20 0), .int (om 21 0), .ref m_22, .ref m_23, .ref m_24, .int (om 25 0), .int (om 26 0), .ref m_27, .int (om 28 0), .ref m_29, .ref m_30, .int (om 31 0), .int (om 32 0)])), (m_1, .inl (cI, 8, .inl (om 1))), (m_2, .inl (cI, 8, .inl (om 2))), (m_3, .inl (cI, 8, .inl (om 3))), (m_22, .inl (cI, 64, .inl (om 22))), (m_23, .inl (cI, 8, .inl (om 23))), (m_24, .inl (cI, 8, .inl (om 24))), (m_27, .inl (cI, 40, .inl (om 27))), (m_29, .inl (cI, 80, .inl (om 29))), (m_30, .inl (cZ, 2, .inl (om 30)))]
def L_X6_practice_72 : Nat → Int32 → Int32 → Int32 → Int32 → Int32 → Int32 → Int32 → Ob → (Int32 → Int32 → Ob → Option (Int32 × Ob)) → Option (Int32 × Ob)
  | 0, _, _, _, _, _, _, _, _, _ => none
  | n33 + 1, p0, p1, p2, v17, v28, v29, v30, om31, K23 =>
    (if 5 ≤ v30 then K23 v28 v29 om31 else ck p0 8 (dd (v17 - ((om31 3) (p0).toNatClampNeg)) (fun (v36 : Int32) => dd (v36 + v30) (fun (v37 : Int32) => ck p1 8 (dd (v37 - ((om31 3) (p1).toNatClampNeg)) (fun (v39 : Int32) => dd (sO om31 9 (cst v17)) (fun (om40 : Ob) => dd (sO om40 10 (cst v30)) (fun (om41 : Ob) => jn ((F_X6_fallsIn om41 p2).bind (fun q43 => (if q43.1 = 0 then dd (10 * v17) (fun (v46 : Int32) => dd (v46 + v30) (fun (v47 : Int32) => dd (v30 + 1) (fun (v48 : Int32) => L_X6_practice_72 n33 p0 p1 p2 v17 v47 v39 v48 q43.2 K23))) else dd (v30 + 1) (fun (v45 : Int32) => L_X6_practice_72 n33 p0 p1 p2 v17 v28 v29 v45 q43.2 K23)))) (fun (K42 : Option (Int32 × Ob)) => (if v28 < 0 then K42 else (if v29 ≤ v39 then dd (v30 + 1) (fun (v51 : Int32) => L_X6_practice_72 n33 p0 p1 p2 v17 v28 v29 v51 om41 K23) else K42)))))))))))
def L_X6_practice_58 : Nat → Int32 → Int32 → Int32 → Int32 → Int32 → Int32 → Ob → (Int32 → Int32 → Ob → Option (Int32 × Ob)) → Option (Int32 × Ob)
  | 0, _, _, _, _, _, _, _, _ => none
  | n20 + 1, p0, p1, p2, v15, v16, v17, om18, K9 =>
    (if 5 ≤ v17 then K9 v15 v16 om18 else ck p1 8 (jn (fun (v24 : Int32) (v25 : Int32) (om26 : Ob) => dd (v17 + 1) (fun (v27 : Int32) => L_X6_practice_58 n20 p0 p1 p2 v24 v25 v27 om26 K9)) (fun (K23 : Int32 → Int32 → Ob → Option (Int32 × Ob)) => L_X6_practice_72 2000 p0 p1 p2 v17 v15 v16 ((om18 3) (p1).toNatClampNeg) om18 K23)))
def F_X6_practice (om : Ob) (p0 : Int32) (p1 : Int32) (p2 : Int32) (p3 : Int32) : Option (Int32 × Ob) :=
  (F_X6_isPair om p0 p1).bind (fun q1 => (if q1 = 0 then some ((-1), om) else (F_X6_in (Int32.toInt64 p2) (0 : Int64) (999 : Int64)).bind (fun q3 => (if q3 = 0 then some ((-2), om) else (F_X6_in (Int32.toInt64 p3) (0 : Int64) (1 : Int64)).bind (fun q5 => (if q5 = 0 then some ((-2), om) else (F_X6_layPair om p0 p1).bind (fun q7 => ck p0 8 (jn (fun (v10 : Int32) (v11 : Int32) (om12 : Ob) => (if v10 < 0 then some (v10, om12) else (if p3 = 1 then some (v10, om12) else some (v11, om12)))) (fun (K9 : Int32 → Int32 → Ob → Option (Int32 × Ob)) => L_X6_practice_58 2000 p0 p1 p2 (-6) 0 ((q7 3) (p0).toNatClampNeg) q7 K9)))))))))
abbrev rm_X6_practice : Room := { frames := 3, cells := 0, slots := 0, locals := 69 }
abbrev wu_X6_practice : List Cond := .code yX6_practice cX6_practice 10 (some .int) :: lwG
set_option maxHeartbeats 20000000 in
set_option maxRecDepth 100000 in
theorem c_X6_practice (l : Launch) (D : va_G) (cI cZ cO : ClassId) (m_h m_1 m_2 m_3 m_22 m_23 m_24 m_27 m_29 m_30 : Nat) (sz : Nat) (om : Ob) (p0 : Int32) (p1 : Int32) (p2 : Int32) (p3 : Int32) (q : Int32 × Ob) (hF : F_X6_practice om p0 p1 p2 p3 = some q) : CtI l yX6_practice wu_X6_practice rm_X6_practice D vwCl (tyL cI cZ cO) [.ref m_h, .int p0, .int p1, .int p2, .int p3] (wm_X6_practice cI cZ cO m_h m_1 m_2 m_3 m_22 m_23 m_24 m_27 m_29 m_30 om) sz 0 0 (fun (r : Int32) (u : Ob) => r = q.1 ∧ u = q.2) (fun u => wm_X6_practice cI cZ cO m_h m_1 m_2 m_3 m_22 m_23 m_24 m_27 m_29 m_30 u) := by
  refine mk_i (cc := cX6_practice) (maxL := 10) (by decide) rfl (Nat.le_of_ble_eq_true rfl) ?_
  intro p e s m args below meth c A ls Q hx hb hml hown hts hin hK hP hD hS hA hl hQ
  have hl : lv_has ls 10 [(0, .ref m_h), (1, .int p0), (2, .int p1), (3, .int p2), (4, .int p3)] := hl
  unfold F_X6_practice at hF
  refine lv_aload_n hx hb dX6_practice_0 rfl (lv_at hl 0 rfl) ?_
  refine lv_iload_n hx hb dX6_practice_1 rfl (lv_at hl 1 rfl) ?_
  refine lv_iload_n hx hb dX6_practice_2 rfl (lv_at hl 2 rfl) ?_
  obtain ⟨q1, hGq1, hF⟩ := of_bind hF
  refine callVi (As := [.int p0, .int p1]) (rest := []) (wr := []) (WN := wm_X6_practice cI cZ cO m_h m_1 m_2 m_3 m_22 m_23 m_24 m_27 m_29 m_30 om) ⟨hx, hb, hml, hown, hts⟩ hK hP hD hS hA [0, 1, 2, 3, 4, 5, 6, 7, 8, 9] [] [0, 1, 2, 3, 4, 5, 6, 7, 8, 9] (c_X6_isPair l D cI cZ cO m_h m_1 m_2 m_3 m_22 m_23 m_24 m_27 m_29 m_30 _ om p0 p1 q1 hGq1) (cwV 2 hts (gV wd_650 wd_652 wd_15 wd_39 wd_653) rfl rfl rfl (by decide +kernel) ⟨Nat.le_of_ble_eq_true rfl, Nat.le_of_ble_eq_true rfl⟩) 0 6 rfl rfl rfl rfl rfl rfl rfl (by decide) rfl rfl rfl hl.1 rfl (Nat.le_of_ble_eq_true rfl) dX6_practice_3 ⟨Nat.zero_le _, Nat.zero_le _⟩ (fun H locs hP hD hS => ?_)
  refine lv_if_ne (tgt := 11) hx hb dX6_practice_6 (by decide) (fun h2 => ?_) (fun h2 => ?_)
  · replace hF := of_f h2 hF
    refine lv_iload_n hx hb dX6_practice_11 rfl (lv_at hl 3 rfl) ?_
    refine lv_i2l hx hb dX6_practice_12 rfl ?_
    refine lv_lconst (v := 0) hx hb dX6_practice_13 (by decide) ?_
    refine lv_ldc2 hx hb hown (hts _ wd_654) dX6_practice_14 ?_
    obtain ⟨q3, hGq3, hF⟩ := of_bind hF
    refine callSi (As := [.long (Int32.toInt64 p2), .long (0 : Int64), .long (999 : Int64)]) (rest := []) ⟨hx, hb, hml, hown, hts⟩ hK hP hD hS hA (c_X6_in l D cI cZ cO  _ (Int32.toInt64 p2) (0 : Int64) (999 : Int64) q3 hGq3) (va_cwS 3 hts (gS wd_624 wd_625 wd_39 wd_626) rfl rfl rfl (by decide +kernel) ⟨Nat.le_of_ble_eq_true rfl, Nat.le_of_ble_eq_true rfl⟩) rfl hl.1 rfl (Nat.le_of_ble_eq_true rfl) dX6_practice_17 ⟨Nat.zero_le _, Nat.zero_le _⟩ (fun H locs hP hS => ?_)
    refine lv_if_eq (tgt := 34) hx hb dX6_practice_20 (by decide) (fun h4 => ?_) (fun h4 => ?_)
    · replace hF := of_t h4 hF
      refine lv_bipush (v := (-2)) hx hb dX6_practice_34 (by decide) ?_
      exact hQ _ _ _ _ _ om ⟨inj_fst hF, inj_snd hF⟩ hP hD hS dX6_practice_36
    · replace hF := of_f h4 hF
      refine lv_iload hx hb dX6_practice_23 (lv_at hl 4 rfl) ?_
      refine lv_i2l hx hb dX6_practice_25 rfl ?_
      refine lv_lconst (v := 0) hx hb dX6_practice_26 (by decide) ?_
      refine lv_lconst (v := 1) hx hb dX6_practice_27 (by decide) ?_
      obtain ⟨q5, hGq5, hF⟩ := of_bind hF
      refine callSi (As := [.long (Int32.toInt64 p3), .long (0 : Int64), .long (1 : Int64)]) (rest := []) ⟨hx, hb, hml, hown, hts⟩ hK hP hD hS hA (c_X6_in l D cI cZ cO  _ (Int32.toInt64 p3) (0 : Int64) (1 : Int64) q5 hGq5) (va_cwS 3 hts (gS wd_624 wd_625 wd_39 wd_626) rfl rfl rfl (by decide +kernel) ⟨Nat.le_of_ble_eq_true rfl, Nat.le_of_ble_eq_true rfl⟩) rfl hl.1 rfl (Nat.le_of_ble_eq_true rfl) dX6_practice_28 ⟨Nat.zero_le _, Nat.zero_le _⟩ (fun H locs hP hS => ?_)
      refine lv_if_ne (tgt := 37) hx hb dX6_practice_31 (by decide) (fun h6 => ?_) (fun h6 => ?_)
      · replace hF := of_f h6 hF
        refine lv_aload_n hx hb dX6_practice_37 rfl (lv_at hl 0 rfl) ?_
        refine lv_iload_n hx hb dX6_practice_38 rfl (lv_at hl 1 rfl) ?_
        refine lv_iload_n hx hb dX6_practice_39 rfl (lv_at hl 2 rfl) ?_
        obtain ⟨q7, hGq7, hF⟩ := of_bind hF
        refine callVv (As := [.int p0, .int p1]) (rest := []) (wr := []) (WN := wm_X6_practice cI cZ cO m_h m_1 m_2 m_3 m_22 m_23 m_24 m_27 m_29 m_30 q7) ⟨hx, hb, hml, hown, hts⟩ hK hP hD hS hA [0, 1, 2, 3, 4, 5, 6, 7, 8, 9] [] [0, 1, 2, 3, 4, 5, 6, 7, 8, 9] (c_X6_layPair l D cI cZ cO m_h m_1 m_2 m_3 m_22 m_23 m_24 m_27 m_29 m_30 _ om p0 p1 q7 hGq7) (cwV 2 hts (gV wd_655 wd_657 wd_16 wd_39 wd_658) rfl rfl rfl (by decide +kernel) ⟨Nat.le_of_ble_eq_true rfl, Nat.le_of_ble_eq_true rfl⟩) 0 6 rfl rfl rfl rfl rfl rfl rfl (by decide) rfl rfl rfl hl.1 rfl (Nat.le_of_ble_eq_true rfl) dX6_practice_40 ⟨Nat.zero_le _, Nat.zero_le _⟩ (fun H locs hP hD hS => ?_)
        refine lv_bipush (v := (-6)) hx hb dX6_practice_43 (by decide) ?_
        refine lv_istore (lv' := [(5, .int (-6)), (0, .ref m_h), (1, .int p0), (2, .int p1), (3, .int p2), (4, .int p3)]) hx hb dX6_practice_45 hl (by decide) rfl (fun ls hl => ?_)
        refine lv_iconst (v := 0) hx hb dX6_practice_47 (by decide) ?_
        refine lv_istore (lv' := [(6, .int 0), (5, .int (-6)), (0, .ref m_h), (1, .int p0), (2, .int p1), (3, .int p2), (4, .int p3)]) hx hb dX6_practice_48 hl (by decide) rfl (fun ls hl => ?_)
        refine lv_aload_n hx hb dX6_practice_50 rfl (lv_at hl 2 rfl) ?_
        refine va_get (D := D) (ci := 6) (v := .ref m_3) (C := RX6) (T := TX6) (N := 33) hx hb hts in_X6 hown hK hP 0 rfl rfl 3 (by decide) (hts _ wd_522) (fun _ h9 => h9) rfl dX6_practice_51 ?_
        refine lv_iload_n hx hb dX6_practice_54 rfl (lv_at hl 3 rfl) ?_
        obtain ⟨h8, hF⟩ := of_ck hF
        refine va_iald (D := D) hx hb hK hP 3 0 rfl rfl h8 dX6_practice_55 ?_
        refine lv_istore (lv' := [(7, .int ((q7 3) (p0).toNatClampNeg)), (6, .int 0), (5, .int (-6)), (0, .ref m_h), (1, .int p0), (2, .int p1), (3, .int p2), (4, .int p3)]) hx hb dX6_practice_56 hl (by decide) rfl (fun ls hl => ?_)
        obtain ⟨K9, eK9, hF⟩ := of_jn hF
        have hK9 : ∀ (v10 : Int32) (v11 : Int32) (om12 : Ob) (ls : Array Slot) (H : Heap) (locs : List Loc), lv_has ls 10 [(4, .int p3), (5, .int v10), (6, .int v11)] → va_P D vwCl (wm_X6_practice cI cZ cO m_h m_1 m_2 m_3 m_22 m_23 m_24 m_27 m_29 m_30 om12) H → va_D A (wm_X6_practice cI cZ cO m_h m_1 m_2 m_3 m_22 m_23 m_24 m_27 m_29 m_30 om12) → va_S A s.heap H locs → K9 v10 v11 om12 = some q → W p l e rm_X6_practice s m args below meth c H locs 0 0 Q (F0 m 157 ls []) := by
          intro v10 v11 om12 ls H locs hl hP hD hS hF
          subst eK9
          refine lv_iload hx hb dX6_practice_157 (lv_at hl 1 rfl) ?_
          refine lv_if_lt (tgt := 168) hx hb dX6_practice_159 (by decide) (fun h13 => ?_) (fun h13 => ?_)
          · replace hF := of_t h13 hF
            refine lv_iload hx hb dX6_practice_168 (lv_at hl 1 rfl) ?_
            refine lv_goto (tgt := 175) hx hb dX6_practice_170 (by decide) ?_
            exact hQ _ _ _ _ _ om12 ⟨inj_fst hF, inj_snd hF⟩ hP hD hS dX6_practice_175
          · replace hF := of_f h13 hF
            refine lv_iload hx hb dX6_practice_162 (lv_at hl 0 rfl) ?_
            refine lv_iconst (v := 1) hx hb dX6_practice_164 (by decide) ?_
            refine lv_icmp_ne (tgt := 173) hx hb dX6_practice_165 (by decide) (fun h14 => ?_) (fun h14 => ?_)
            · replace hF := of_f h14 hF
              refine lv_iload hx hb dX6_practice_173 (lv_at hl 2 rfl) ?_
              exact hQ _ _ _ _ _ om12 ⟨inj_fst hF, inj_snd hF⟩ hP hD hS dX6_practice_175
            · replace hF := of_t h14 hF
              refine lv_iload hx hb dX6_practice_168 (lv_at hl 1 rfl) ?_
              refine lv_goto (tgt := 175) hx hb dX6_practice_170 (by decide) ?_
              exact hQ _ _ _ _ _ om12 ⟨inj_fst hF, inj_snd hF⟩ hP hD hS dX6_practice_175
        have hloop53 : ∀ (n20 : Nat) (v15 : Int32) (v16 : Int32) (v17 : Int32) (om18 : Ob) (ls : Array Slot) (H : Heap) (locs : List Loc), lv_has ls 10 [(0, .ref m_h), (1, .int p0), (2, .int p1), (3, .int p2), (4, .int p3), (5, .int v15), (6, .int v16), (7, .int v17)] → va_P D vwCl (wm_X6_practice cI cZ cO m_h m_1 m_2 m_3 m_22 m_23 m_24 m_27 m_29 m_30 om18) H → va_D A (wm_X6_practice cI cZ cO m_h m_1 m_2 m_3 m_22 m_23 m_24 m_27 m_29 m_30 om18) → va_S A s.heap H locs → L_X6_practice_58 n20 p0 p1 p2 v15 v16 v17 om18 K9 = some q → W p l e rm_X6_practice s m args below meth c H locs 0 0 Q (F0 m 58 ls []) := by
          intro n20
          induction n20 with
          | zero =>
            intro v15 v16 v17 om18 ls H locs hl hP hD hS hF
            exact of_none hF
          | succ n20 ih19 =>
            intro v15 v16 v17 om18 ls H locs hl hP hD hS hF
            rw [L_X6_practice_58.eq_2] at hF
            refine lv_iload hx hb dX6_practice_58 (lv_at hl 7 rfl) ?_
            refine lv_iconst (v := 5) hx hb dX6_practice_60 (by decide) ?_
            refine lv_icmp_ge (tgt := 157) hx hb dX6_practice_61 (by decide) (fun h21 => ?_) (fun h21 => ?_)
            · replace hF := of_t h21 hF
              exact hK9 v15 v16 om18 ls _ _ (lv_sub hl [4, 5, 6] rfl) hP hD hS hF
            · replace hF := of_f h21 hF
              refine lv_aload_n hx hb dX6_practice_64 rfl (lv_at hl 0 rfl) ?_
              refine va_get (D := D) (ci := 6) (v := .ref m_3) (C := RX6) (T := TX6) (N := 33) hx hb hts in_X6 hown hK hP 0 rfl rfl 3 (by decide) (hts _ wd_522) (fun _ h9 => h9) rfl dX6_practice_65 ?_
              refine lv_iload_n hx hb dX6_practice_68 rfl (lv_at hl 2 rfl) ?_
              obtain ⟨h22, hF⟩ := of_ck hF
              refine va_iald (D := D) hx hb hK hP 3 0 rfl rfl h22 dX6_practice_69 ?_
              refine lv_istore (lv' := [(8, .int ((om18 3) (p1).toNatClampNeg)), (0, .ref m_h), (1, .int p0), (2, .int p1), (3, .int p2), (4, .int p3), (5, .int v15), (6, .int v16), (7, .int v17)]) hx hb dX6_practice_70 hl (by decide) rfl (fun ls hl => ?_)
              obtain ⟨K23, eK23, hF⟩ := of_jn hF
              have hK23 : ∀ (v24 : Int32) (v25 : Int32) (om26 : Ob) (ls : Array Slot) (H : Heap) (locs : List Loc), lv_has ls 10 [(0, .ref m_h), (1, .int p0), (2, .int p1), (3, .int p2), (4, .int p3), (5, .int v24), (6, .int v25), (7, .int v17)] → va_P D vwCl (wm_X6_practice cI cZ cO m_h m_1 m_2 m_3 m_22 m_23 m_24 m_27 m_29 m_30 om26) H → va_D A (wm_X6_practice cI cZ cO m_h m_1 m_2 m_3 m_22 m_23 m_24 m_27 m_29 m_30 om26) → va_S A s.heap H locs → K23 v24 v25 om26 = some q → W p l e rm_X6_practice s m args below meth c H locs 0 0 Q (F0 m 151 ls []) := by
                intro v24 v25 om26 ls H locs hl hP hD hS hF
                subst eK23
                obtain ⟨v27, ev27⟩ : ∃ y : Int32, y = v17 + 1 := ⟨_, rfl⟩
                replace hF := of_dd hF v27 ev27
                refine lv_iinc (v := v27) (lv' := [(7, .int v27), (0, .ref m_h), (1, .int p0), (2, .int p1), (3, .int p2), (4, .int p3), (5, .int v24), (6, .int v25)]) hx hb dX6_practice_151 hl (k := 7) rfl (by rw [ev27]; rfl) (by decide) rfl (fun ls hl => ?_)
                refine lv_goto (tgt := 58) hx hb dX6_practice_154 (by decide) ?_
                exact ih19 v24 v25 v27 om26 ls _ _ (lv_sub hl [1, 2, 3, 4, 5, 6, 7, 0] rfl) hP hD hS hF
              have hloop52 : ∀ (n33 : Nat) (v28 : Int32) (v29 : Int32) (v30 : Int32) (om31 : Ob) (ls : Array Slot) (H : Heap) (locs : List Loc), lv_has ls 10 [(0, .ref m_h), (1, .int p0), (2, .int p1), (3, .int p2), (4, .int p3), (5, .int v28), (6, .int v29), (7, .int v17), (8, .int v30)] → va_P D vwCl (wm_X6_practice cI cZ cO m_h m_1 m_2 m_3 m_22 m_23 m_24 m_27 m_29 m_30 om31) H → va_D A (wm_X6_practice cI cZ cO m_h m_1 m_2 m_3 m_22 m_23 m_24 m_27 m_29 m_30 om31) → va_S A s.heap H locs → L_X6_practice_72 n33 p0 p1 p2 v17 v28 v29 v30 om31 K23 = some q → W p l e rm_X6_practice s m args below meth c H locs 0 0 Q (F0 m 72 ls []) := by
                intro n33
                induction n33 with
                | zero =>
                  intro v28 v29 v30 om31 ls H locs hl hP hD hS hF
                  exact of_none hF
                | succ n33 ih32 =>
                  intro v28 v29 v30 om31 ls H locs hl hP hD hS hF
                  rw [L_X6_practice_72.eq_2] at hF
                  refine lv_iload hx hb dX6_practice_72 (lv_at hl 8 rfl) ?_
                  refine lv_iconst (v := 5) hx hb dX6_practice_74 (by decide) ?_
                  refine lv_icmp_ge (tgt := 151) hx hb dX6_practice_75 (by decide) (fun h34 => ?_) (fun h34 => ?_)
                  · replace hF := of_t h34 hF
                    exact hK23 v28 v29 om31 ls _ _ (lv_sub hl [0, 1, 2, 3, 4, 5, 6, 7] rfl) hP hD hS hF
                  · replace hF := of_f h34 hF
                    refine lv_iload hx hb dX6_practice_78 (lv_at hl 7 rfl) ?_
                    refine lv_aload_n hx hb dX6_practice_80 rfl (lv_at hl 0 rfl) ?_
                    refine va_get (D := D) (ci := 6) (v := .ref m_3) (C := RX6) (T := TX6) (N := 33) hx hb hts in_X6 hown hK hP 0 rfl rfl 3 (by decide) (hts _ wd_522) (fun _ h9 => h9) rfl dX6_practice_81 ?_
                    refine lv_iload_n hx hb dX6_practice_84 rfl (lv_at hl 1 rfl) ?_
                    obtain ⟨h35, hF⟩ := of_ck hF
                    refine va_iald (D := D) hx hb hK hP 3 0 rfl rfl h35 dX6_practice_85 ?_
                    refine lv_isub hx hb dX6_practice_86 ?_
                    refine lv_topi (fun v36 ev36 => ?_)
                    replace hF := of_dd hF v36 ev36
                    refine lv_iload hx hb dX6_practice_87 (lv_at hl 8 rfl) ?_
                    refine lv_iadd hx hb dX6_practice_89 ?_
                    refine lv_topi (fun v37 ev37 => ?_)
                    replace hF := of_dd hF v37 ev37
                    refine lv_aload_n hx hb dX6_practice_90 rfl (lv_at hl 0 rfl) ?_
                    refine va_get (D := D) (ci := 6) (v := .ref m_3) (C := RX6) (T := TX6) (N := 33) hx hb hts in_X6 hown hK hP 0 rfl rfl 3 (by decide) (hts _ wd_522) (fun _ h9 => h9) rfl dX6_practice_91 ?_
                    refine lv_iload_n hx hb dX6_practice_94 rfl (lv_at hl 2 rfl) ?_
                    obtain ⟨h38, hF⟩ := of_ck hF
                    refine va_iald (D := D) hx hb hK hP 3 0 rfl rfl h38 dX6_practice_95 ?_
                    refine lv_isub hx hb dX6_practice_96 ?_
                    refine lv_topi (fun v39 ev39 => ?_)
                    replace hF := of_dd hF v39 ev39
                    refine lv_istore (lv' := [(9, .int v39), (0, .ref m_h), (1, .int p0), (2, .int p1), (3, .int p2), (4, .int p3), (5, .int v28), (6, .int v29), (7, .int v17), (8, .int v30)]) hx hb dX6_practice_97 hl (by decide) rfl (fun ls hl => ?_)
                    refine lv_aload_n hx hb dX6_practice_99 rfl (lv_at hl 1 rfl) ?_
                    refine lv_iload hx hb dX6_practice_100 (lv_at hl 8 rfl) ?_
                    refine va_put (D := D) (ci := 6) (v := .int v17) (ty := .int) (C := RX6) (T := TX6) (N := 33) hx hb hts in_X6 tyX6 tyX6_ok nmX6 hown hK hP hD hS 0 rfl rfl 9 (by decide) (hts _ wd_528) (fun _ h9 => h9) rfl (tyX6_ok 9 (by decide)) rfl rfl (Nat.le_of_ble_eq_true rfl) dX6_practice_102 (fun H locs hP hD hS => ?_)
                    obtain ⟨om40, hF, hP, hD⟩ := nm_o (P := fun y => va_P D vwCl (wm_X6_practice cI cZ cO m_h m_1 m_2 m_3 m_22 m_23 m_24 m_27 m_29 m_30 y) _) (B := fun y => va_D A (wm_X6_practice cI cZ cO m_h m_1 m_2 m_3 m_22 m_23 m_24 m_27 m_29 m_30 y)) hF hP hD
                    refine lv_aload_n hx hb dX6_practice_105 rfl (lv_at hl 1 rfl) ?_
                    refine lv_iload hx hb dX6_practice_106 (lv_at hl 9 rfl) ?_
                    refine va_put (D := D) (ci := 6) (v := .int v30) (ty := .int) (C := RX6) (T := TX6) (N := 33) hx hb hts in_X6 tyX6 tyX6_ok nmX6 hown hK hP hD hS 0 rfl rfl 10 (by decide) (hts _ wd_529) (fun _ h9 => h9) rfl (tyX6_ok 10 (by decide)) rfl rfl (Nat.le_of_ble_eq_true rfl) dX6_practice_108 (fun H locs hP hD hS => ?_)
                    obtain ⟨om41, hF, hP, hD⟩ := nm_o (P := fun y => va_P D vwCl (wm_X6_practice cI cZ cO m_h m_1 m_2 m_3 m_22 m_23 m_24 m_27 m_29 m_30 y) _) (B := fun y => va_D A (wm_X6_practice cI cZ cO m_h m_1 m_2 m_3 m_22 m_23 m_24 m_27 m_29 m_30 y)) hF hP hD
                    refine lv_iload hx hb dX6_practice_111 (lv_at hl 6 rfl) ?_
                    obtain ⟨K42, eK42, hF⟩ := of_jn hF
                    have hK42 : ∀  (ls : Array Slot) (H : Heap) (locs : List Loc), lv_has ls 10 [(0, .ref m_h), (1, .int p0), (2, .int p1), (3, .int p2), (4, .int p3), (5, .int v28), (6, .int v29), (7, .int v17), (8, .int v30), (9, .int v39)] → va_P D vwCl (wm_X6_practice cI cZ cO m_h m_1 m_2 m_3 m_22 m_23 m_24 m_27 m_29 m_30 om41) H → va_D A (wm_X6_practice cI cZ cO m_h m_1 m_2 m_3 m_22 m_23 m_24 m_27 m_29 m_30 om41) → va_S A s.heap H locs → K42 = some q → W p l e rm_X6_practice s m args below meth c H locs 0 0 Q (F0 m 123 ls []) := by
                      intro  ls H locs hl hP hD hS hF
                      subst eK42
                      refine lv_aload_n hx hb dX6_practice_123 rfl (lv_at hl 0 rfl) ?_
                      refine lv_iload_n hx hb dX6_practice_124 rfl (lv_at hl 3 rfl) ?_
                      obtain ⟨q43, hGq43, hF⟩ := of_bind hF
                      refine callVi (As := [.int p2]) (rest := []) (wr := []) (WN := wm_X6_practice cI cZ cO m_h m_1 m_2 m_3 m_22 m_23 m_24 m_27 m_29 m_30 q43.2) ⟨hx, hb, hml, hown, hts⟩ hK hP hD hS hA [0, 1, 2, 3, 4, 5, 6, 7, 8, 9] [] [0, 1, 2, 3, 4, 5, 6, 7, 8, 9] (c_X6_fallsIn l D cI cZ cO m_h m_1 m_2 m_3 m_22 m_23 m_24 m_27 m_29 m_30 _ om41 p2 q43 hGq43) (cwV 1 hts (gV wd_746 wd_748 wd_28 wd_39 wd_749) rfl rfl rfl (by decide +kernel) ⟨Nat.le_of_ble_eq_true rfl, Nat.le_of_ble_eq_true rfl⟩) 0 6 rfl rfl rfl rfl rfl rfl rfl (by decide) rfl rfl rfl hl.1 rfl (Nat.le_of_ble_eq_true rfl) dX6_practice_125 ⟨Nat.zero_le _, Nat.zero_le _⟩ (fun H locs hP hD hS => ?_)
                      refine lv_if_ne (tgt := 145) hx hb dX6_practice_128 (by decide) (fun h44 => ?_) (fun h44 => ?_)
                      · replace hF := of_f h44 hF
                        obtain ⟨v45, ev45⟩ : ∃ y : Int32, y = v30 + 1 := ⟨_, rfl⟩
                        replace hF := of_dd hF v45 ev45
                        refine lv_iinc (v := v45) (lv' := [(8, .int v45), (0, .ref m_h), (1, .int p0), (2, .int p1), (3, .int p2), (4, .int p3), (5, .int v28), (6, .int v29), (7, .int v17), (9, .int v39)]) hx hb dX6_practice_145 hl (k := 8) rfl (by rw [ev45]; rfl) (by decide) rfl (fun ls hl => ?_)
                        refine lv_goto (tgt := 72) hx hb dX6_practice_148 (by decide) ?_
                        exact ih32 v28 v29 v45 q43.2 ls _ _ (lv_sub hl [1, 2, 3, 4, 5, 6, 7, 8, 0] rfl) hP hD hS hF
                      · replace hF := of_t h44 hF
                        refine lv_bipush (v := 10) hx hb dX6_practice_131 (by decide) ?_
                        refine lv_iload hx hb dX6_practice_133 (lv_at hl 7 rfl) ?_
                        refine lv_imul hx hb dX6_practice_135 ?_
                        refine lv_topi (fun v46 ev46 => ?_)
                        replace hF := of_dd hF v46 ev46
                        refine lv_iload hx hb dX6_practice_136 (lv_at hl 8 rfl) ?_
                        refine lv_iadd hx hb dX6_practice_138 ?_
                        refine lv_topi (fun v47 ev47 => ?_)
                        replace hF := of_dd hF v47 ev47
                        refine lv_istore (lv' := [(5, .int v47), (0, .ref m_h), (1, .int p0), (2, .int p1), (3, .int p2), (4, .int p3), (6, .int v29), (7, .int v17), (8, .int v30), (9, .int v39)]) hx hb dX6_practice_139 hl (by decide) rfl (fun ls hl => ?_)
                        refine lv_iload hx hb dX6_practice_141 (lv_at hl 9 rfl) ?_
                        refine lv_istore (lv' := [(6, .int v39), (5, .int v47), (0, .ref m_h), (1, .int p0), (2, .int p1), (3, .int p2), (4, .int p3), (7, .int v17), (8, .int v30), (9, .int v39)]) hx hb dX6_practice_143 hl (by decide) rfl (fun ls hl => ?_)
                        obtain ⟨v48, ev48⟩ : ∃ y : Int32, y = v30 + 1 := ⟨_, rfl⟩
                        replace hF := of_dd hF v48 ev48
                        refine lv_iinc (v := v48) (lv' := [(8, .int v48), (6, .int v39), (5, .int v47), (0, .ref m_h), (1, .int p0), (2, .int p1), (3, .int p2), (4, .int p3), (7, .int v17), (9, .int v39)]) hx hb dX6_practice_145 hl (k := 8) rfl (by rw [ev48]; rfl) (by decide) rfl (fun ls hl => ?_)
                        refine lv_goto (tgt := 72) hx hb dX6_practice_148 (by decide) ?_
                        exact ih32 v47 v39 v48 q43.2 ls _ _ (lv_sub hl [3, 4, 5, 6, 7, 2, 1, 8, 0] rfl) hP hD hS hF
                    refine lv_if_lt (tgt := 123) hx hb dX6_practice_113 (by decide) (fun h49 => ?_) (fun h49 => ?_)
                    · replace hF := of_t h49 hF
                      exact hK42  ls _ _ (lv_sub hl [1, 2, 3, 4, 5, 6, 7, 8, 9, 0] rfl) hP hD hS hF
                    · replace hF := of_f h49 hF
                      refine lv_iload hx hb dX6_practice_116 (lv_at hl 0 rfl) ?_
                      refine lv_iload hx hb dX6_practice_118 (lv_at hl 7 rfl) ?_
                      refine lv_icmp_ge (tgt := 145) hx hb dX6_practice_120 (by decide) (fun h50 => ?_) (fun h50 => ?_)
                      · replace hF := of_t h50 hF
                        obtain ⟨v51, ev51⟩ : ∃ y : Int32, y = v30 + 1 := ⟨_, rfl⟩
                        replace hF := of_dd hF v51 ev51
                        refine lv_iinc (v := v51) (lv' := [(8, .int v51), (9, .int v39), (0, .ref m_h), (1, .int p0), (2, .int p1), (3, .int p2), (4, .int p3), (5, .int v28), (6, .int v29), (7, .int v17)]) hx hb dX6_practice_145 hl (k := 9) rfl (by rw [ev51]; rfl) (by decide) rfl (fun ls hl => ?_)
                        refine lv_goto (tgt := 72) hx hb dX6_practice_148 (by decide) ?_
                        exact ih32 v28 v29 v51 om41 ls _ _ (lv_sub hl [2, 3, 4, 5, 6, 7, 8, 9, 0] rfl) hP hD hS hF
                      · replace hF := of_f h50 hF
                        exact hK42  ls _ _ (lv_sub hl [1, 2, 3, 4, 5, 6, 7, 8, 9, 0] rfl) hP hD hS hF
              exact hloop52 2000 v15 v16 ((om18 3) (p1).toNatClampNeg) om18 ls _ _ (lv_sub hl [1, 2, 3, 4, 5, 6, 7, 8, 0] rfl) hP hD hS hF
        exact hloop53 2000 (-6) 0 ((q7 3) (p0).toNatClampNeg) q7 ls _ _ (lv_sub hl [3, 4, 5, 6, 7, 2, 1, 0] rfl) hP hD hS hF
      · replace hF := of_t h6 hF
        refine lv_bipush (v := (-2)) hx hb dX6_practice_34 (by decide) ?_
        exact hQ _ _ _ _ _ om ⟨inj_fst hF, inj_snd hF⟩ hP hD hS dX6_practice_36
  · replace hF := of_t h2 hF
    refine lv_iconst (v := (-1)) hx hb dX6_practice_9 (by decide) ?_
    exact hQ _ _ _ _ _ om ⟨inj_fst hF, inj_snd hF⟩ hP hD hS dX6_practice_10

/-! ### ThreeLegsModel.scarf(IIII)I -/
abbrev wm_X6_scarf (cI cZ cO : ClassId) (m_h m_1 m_2 m_3 m_22 m_23 m_24 m_27 m_29 m_30 : Nat) (om : Ob) : va_W := [(m_h, .inr (6, [.int (om 0 0), .ref m_1, .ref m_2, .ref m_3, .int (om 4 0), .int (om 5 0), .int (om 6 0), .int (om 7 0), .int (om 8 0), .int (om 9 0), .int (om 10 0), .int (om 11 0), .int (om 12 0), .int (om 13 0), .int (om 14 0), .int (om 15 0), .int (om 16 0), .int (om 17 0), .int (om 18 0), .int (om 19 0), .int (om 20 0), .int (om 21 0), .ref m_22, .ref m_23, .ref m_24, .int (om 25 0), .int (om 26 0), .ref m_27, .int (om 28 0), .ref m_29, .ref m_30, .int (om 31 0), .int (om 32 0)])), (m_1, .inl (cI, 8, .inl (om 1))), (m_2, .inl (cI, 8, .inl (om 2))), (m_3, .inl (cI, 8, .inl (om 3))), (m_22, .inl (cI, 64, .inl (om 22))), (m_23, .inl (cI, 8, .inl (om 23))), (m_24, .inl (cI, 8, .inl (om 24))), (m_27, .inl (cI, 40, .inl (om 27))), (m_29, .inl (cI, 80, .inl (om 29))), (m_30, .inl (cZ, 2, .inl (om 30)))]
def L_X6_scarf_43 : Nat → Int32 → Int32 → Int32 → Ob → (Ob → Option (Int32 × Ob)) → Option (Int32 × Ob)
  | 0, _, _, _, _, _ => none
  | n13 + 1, p2, p3, v10, om11, K8 =>
    (if (om11 5 0) < v10 then K8 om11 else dd (sO om11 13 (cst v10)) (fun (om15 : Ob) => (F_X6_timeOf om15 p2).bind (fun q16 => (if p3 < q16.1 then dd (v10 + 1) (fun (v18 : Int32) => L_X6_scarf_43 n13 p2 p3 v18 q16.2 K8) else some (v10, q16.2)))))
def F_X6_scarf (om : Ob) (p0 : Int32) (p1 : Int32) (p2 : Int32) (p3 : Int32) : Option (Int32 × Ob) :=
  (F_X6_isPair om p0 p1).bind (fun q1 => (if q1 = 0 then some ((-1), om) else (F_X6_isFar p2).bind (fun q3 => (if q3 = 0 then some ((-2), om) else (F_X6_in (Int32.toInt64 p3) (0 : Int64) (9999 : Int64)).bind (fun q5 => (if q5 = 0 then some ((-2), om) else (F_X6_layPair om p0 p1).bind (fun q7 => jn (fun (om9 : Ob) => some ((-6), om9)) (fun (K8 : Ob → Option (Int32 × Ob)) => L_X6_scarf_43 2000 p2 p3 0 q7 K8))))))))
abbrev rm_X6_scarf : Room := { frames := 3, cells := 0, slots := 0, locals := 69 }
abbrev wu_X6_scarf : List Cond := .code yX6_scarf cX6_scarf 6 (some .int) :: lwG
set_option maxHeartbeats 20000000 in
set_option maxRecDepth 100000 in
theorem c_X6_scarf (l : Launch) (D : va_G) (cI cZ cO : ClassId) (m_h m_1 m_2 m_3 m_22 m_23 m_24 m_27 m_29 m_30 : Nat) (sz : Nat) (om : Ob) (p0 : Int32) (p1 : Int32) (p2 : Int32) (p3 : Int32) (q : Int32 × Ob) (hF : F_X6_scarf om p0 p1 p2 p3 = some q) : CtI l yX6_scarf wu_X6_scarf rm_X6_scarf D vwCl (tyL cI cZ cO) [.ref m_h, .int p0, .int p1, .int p2, .int p3] (wm_X6_scarf cI cZ cO m_h m_1 m_2 m_3 m_22 m_23 m_24 m_27 m_29 m_30 om) sz 0 0 (fun (r : Int32) (u : Ob) => r = q.1 ∧ u = q.2) (fun u => wm_X6_scarf cI cZ cO m_h m_1 m_2 m_3 m_22 m_23 m_24 m_27 m_29 m_30 u) := by
  refine mk_i (cc := cX6_scarf) (maxL := 6) (by decide) rfl (Nat.le_of_ble_eq_true rfl) ?_
  intro p e s m args below meth c A ls Q hx hb hml hown hts hin hK hP hD hS hA hl hQ
  have hl : lv_has ls 6 [(0, .ref m_h), (1, .int p0), (2, .int p1), (3, .int p2), (4, .int p3)] := hl
  unfold F_X6_scarf at hF
  refine lv_aload_n hx hb dX6_scarf_0 rfl (lv_at hl 0 rfl) ?_
  refine lv_iload_n hx hb dX6_scarf_1 rfl (lv_at hl 1 rfl) ?_
  refine lv_iload_n hx hb dX6_scarf_2 rfl (lv_at hl 2 rfl) ?_
  obtain ⟨q1, hGq1, hF⟩ := of_bind hF
  refine callVi (As := [.int p0, .int p1]) (rest := []) (wr := []) (WN := wm_X6_scarf cI cZ cO m_h m_1 m_2 m_3 m_22 m_23 m_24 m_27 m_29 m_30 om) ⟨hx, hb, hml, hown, hts⟩ hK hP hD hS hA [0, 1, 2, 3, 4, 5, 6, 7, 8, 9] [] [0, 1, 2, 3, 4, 5, 6, 7, 8, 9] (c_X6_isPair l D cI cZ cO m_h m_1 m_2 m_3 m_22 m_23 m_24 m_27 m_29 m_30 _ om p0 p1 q1 hGq1) (cwV 2 hts (gV wd_650 wd_652 wd_15 wd_39 wd_653) rfl rfl rfl (by decide +kernel) ⟨Nat.le_of_ble_eq_true rfl, Nat.le_of_ble_eq_true rfl⟩) 0 6 rfl rfl rfl rfl rfl rfl rfl (by decide) rfl rfl rfl hl.1 rfl (Nat.le_of_ble_eq_true rfl) dX6_scarf_3 ⟨Nat.zero_le _, Nat.zero_le _⟩ (fun H locs hP hD hS => ?_)
  refine lv_if_ne (tgt := 11) hx hb dX6_scarf_6 (by decide) (fun h2 => ?_) (fun h2 => ?_)
  · replace hF := of_f h2 hF
    refine lv_iload_n hx hb dX6_scarf_11 rfl (lv_at hl 3 rfl) ?_
    obtain ⟨q3, hGq3, hF⟩ := of_bind hF
    refine callSi (As := [.int p2]) (rest := []) ⟨hx, hb, hml, hown, hts⟩ hK hP hD hS hA (c_X6_isFar l D cI cZ cO  _ p2 q3 hGq3) (va_cwS 1 hts (gS wd_682 wd_683 wd_39 wd_684) rfl rfl rfl (by decide +kernel) ⟨Nat.le_of_ble_eq_true rfl, Nat.le_of_ble_eq_true rfl⟩) rfl hl.1 rfl (Nat.le_of_ble_eq_true rfl) dX6_scarf_12 ⟨Nat.zero_le _, Nat.zero_le _⟩ (fun H locs hP hS => ?_)
    refine lv_if_eq (tgt := 31) hx hb dX6_scarf_15 (by decide) (fun h4 => ?_) (fun h4 => ?_)
    · replace hF := of_t h4 hF
      refine lv_bipush (v := (-2)) hx hb dX6_scarf_31 (by decide) ?_
      exact hQ _ _ _ _ _ om ⟨inj_fst hF, inj_snd hF⟩ hP hD hS dX6_scarf_33
    · replace hF := of_f h4 hF
      refine lv_iload hx hb dX6_scarf_18 (lv_at hl 4 rfl) ?_
      refine lv_i2l hx hb dX6_scarf_20 rfl ?_
      refine lv_lconst (v := 0) hx hb dX6_scarf_21 (by decide) ?_
      refine lv_ldc2 hx hb hown (hts _ wd_754) dX6_scarf_22 ?_
      obtain ⟨q5, hGq5, hF⟩ := of_bind hF
      refine callSi (As := [.long (Int32.toInt64 p3), .long (0 : Int64), .long (9999 : Int64)]) (rest := []) ⟨hx, hb, hml, hown, hts⟩ hK hP hD hS hA (c_X6_in l D cI cZ cO  _ (Int32.toInt64 p3) (0 : Int64) (9999 : Int64) q5 hGq5) (va_cwS 3 hts (gS wd_624 wd_625 wd_39 wd_626) rfl rfl rfl (by decide +kernel) ⟨Nat.le_of_ble_eq_true rfl, Nat.le_of_ble_eq_true rfl⟩) rfl hl.1 rfl (Nat.le_of_ble_eq_true rfl) dX6_scarf_25 ⟨Nat.zero_le _, Nat.zero_le _⟩ (fun H locs hP hS => ?_)
      refine lv_if_ne (tgt := 34) hx hb dX6_scarf_28 (by decide) (fun h6 => ?_) (fun h6 => ?_)
      · replace hF := of_f h6 hF
        refine lv_aload_n hx hb dX6_scarf_34 rfl (lv_at hl 0 rfl) ?_
        refine lv_iload_n hx hb dX6_scarf_35 rfl (lv_at hl 1 rfl) ?_
        refine lv_iload_n hx hb dX6_scarf_36 rfl (lv_at hl 2 rfl) ?_
        obtain ⟨q7, hGq7, hF⟩ := of_bind hF
        refine callVv (As := [.int p0, .int p1]) (rest := []) (wr := []) (WN := wm_X6_scarf cI cZ cO m_h m_1 m_2 m_3 m_22 m_23 m_24 m_27 m_29 m_30 q7) ⟨hx, hb, hml, hown, hts⟩ hK hP hD hS hA [0, 1, 2, 3, 4, 5, 6, 7, 8, 9] [] [0, 1, 2, 3, 4, 5, 6, 7, 8, 9] (c_X6_layPair l D cI cZ cO m_h m_1 m_2 m_3 m_22 m_23 m_24 m_27 m_29 m_30 _ om p0 p1 q7 hGq7) (cwV 2 hts (gV wd_655 wd_657 wd_16 wd_39 wd_658) rfl rfl rfl (by decide +kernel) ⟨Nat.le_of_ble_eq_true rfl, Nat.le_of_ble_eq_true rfl⟩) 0 6 rfl rfl rfl rfl rfl rfl rfl (by decide) rfl rfl rfl hl.1 rfl (Nat.le_of_ble_eq_true rfl) dX6_scarf_37 ⟨Nat.zero_le _, Nat.zero_le _⟩ (fun H locs hP hD hS => ?_)
        refine lv_iconst (v := 0) hx hb dX6_scarf_40 (by decide) ?_
        refine lv_istore (lv' := [(5, .int 0), (0, .ref m_h), (1, .int p0), (2, .int p1), (3, .int p2), (4, .int p3)]) hx hb dX6_scarf_41 hl (by decide) rfl (fun ls hl => ?_)
        obtain ⟨K8, eK8, hF⟩ := of_jn hF
        have hK8 : ∀ (om9 : Ob) (ls : Array Slot) (H : Heap) (locs : List Loc), lv_has ls 6 [] → va_P D vwCl (wm_X6_scarf cI cZ cO m_h m_1 m_2 m_3 m_22 m_23 m_24 m_27 m_29 m_30 om9) H → va_D A (wm_X6_scarf cI cZ cO m_h m_1 m_2 m_3 m_22 m_23 m_24 m_27 m_29 m_30 om9) → va_S A s.heap H locs → K8 om9 = some q → W p l e rm_X6_scarf s m args below meth c H locs 0 0 Q (F0 m 77 ls []) := by
          intro om9 ls H locs hl hP hD hS hF
          subst eK8
          refine lv_bipush (v := (-6)) hx hb dX6_scarf_77 (by decide) ?_
          exact hQ _ _ _ _ _ om9 ⟨inj_fst hF, inj_snd hF⟩ hP hD hS dX6_scarf_79
        have hloop19 : ∀ (n13 : Nat) (v10 : Int32) (om11 : Ob) (ls : Array Slot) (H : Heap) (locs : List Loc), lv_has ls 6 [(0, .ref m_h), (3, .int p2), (4, .int p3), (5, .int v10)] → va_P D vwCl (wm_X6_scarf cI cZ cO m_h m_1 m_2 m_3 m_22 m_23 m_24 m_27 m_29 m_30 om11) H → va_D A (wm_X6_scarf cI cZ cO m_h m_1 m_2 m_3 m_22 m_23 m_24 m_27 m_29 m_30 om11) → va_S A s.heap H locs → L_X6_scarf_43 n13 p2 p3 v10 om11 K8 = some q → W p l e rm_X6_scarf s m args below meth c H locs 0 0 Q (F0 m 43 ls []) := by
          intro n13
          induction n13 with
          | zero =>
            intro v10 om11 ls H locs hl hP hD hS hF
            exact of_none hF
          | succ n13 ih12 =>
            intro v10 om11 ls H locs hl hP hD hS hF
            rw [L_X6_scarf_43.eq_2] at hF
            refine lv_iload hx hb dX6_scarf_43 (lv_at hl 3 rfl) ?_
            refine lv_aload_n hx hb dX6_scarf_45 rfl (lv_at hl 0 rfl) ?_
            refine va_get (D := D) (ci := 6) (v := .int (om11 5 0)) (C := RX6) (T := TX6) (N := 33) hx hb hts in_X6 hown hK hP 0 rfl rfl 5 (by decide) (hts _ wd_524) (fun _ h9 => h9) rfl dX6_scarf_46 ?_
            refine lv_icmp_gt (tgt := 77) hx hb dX6_scarf_49 (by decide) (fun h14 => ?_) (fun h14 => ?_)
            · replace hF := of_t h14 hF
              exact hK8 om11 ls _ _ (lv_sub hl [] rfl) hP hD hS hF
            · replace hF := of_f h14 hF
              refine lv_aload_n hx hb dX6_scarf_52 rfl (lv_at hl 0 rfl) ?_
              refine lv_iload hx hb dX6_scarf_53 (lv_at hl 3 rfl) ?_
              refine va_put (D := D) (ci := 6) (v := .int v10) (ty := .int) (C := RX6) (T := TX6) (N := 33) hx hb hts in_X6 tyX6 tyX6_ok nmX6 hown hK hP hD hS 0 rfl rfl 13 (by decide) (hts _ wd_532) (fun _ h9 => h9) rfl (tyX6_ok 13 (by decide)) rfl rfl (Nat.le_of_ble_eq_true rfl) dX6_scarf_55 (fun H locs hP hD hS => ?_)
              obtain ⟨om15, hF, hP, hD⟩ := nm_o (P := fun y => va_P D vwCl (wm_X6_scarf cI cZ cO m_h m_1 m_2 m_3 m_22 m_23 m_24 m_27 m_29 m_30 y) _) (B := fun y => va_D A (wm_X6_scarf cI cZ cO m_h m_1 m_2 m_3 m_22 m_23 m_24 m_27 m_29 m_30 y)) hF hP hD
              refine lv_aload_n hx hb dX6_scarf_58 rfl (lv_at hl 0 rfl) ?_
              refine lv_iload_n hx hb dX6_scarf_59 rfl (lv_at hl 1 rfl) ?_
              obtain ⟨q16, hGq16, hF⟩ := of_bind hF
              refine callVi (As := [.int p2]) (rest := []) (wr := []) (WN := wm_X6_scarf cI cZ cO m_h m_1 m_2 m_3 m_22 m_23 m_24 m_27 m_29 m_30 q16.2) ⟨hx, hb, hml, hown, hts⟩ hK hP hD hS hA [0, 1, 2, 3, 4, 5, 6, 7, 8, 9] [] [0, 1, 2, 3, 4, 5, 6, 7, 8, 9] (c_X6_timeOf l D cI cZ cO m_h m_1 m_2 m_3 m_22 m_23 m_24 m_27 m_29 m_30 _ om15 p2 q16 hGq16) (cwV 1 hts (gV wd_685 wd_687 wd_21 wd_39 wd_688) rfl rfl rfl (by decide +kernel) ⟨Nat.le_of_ble_eq_true rfl, Nat.le_of_ble_eq_true rfl⟩) 0 6 rfl rfl rfl rfl rfl rfl rfl (by decide) rfl rfl rfl hl.1 rfl (Nat.le_of_ble_eq_true rfl) dX6_scarf_60 ⟨Nat.zero_le _, Nat.zero_le _⟩ (fun H locs hP hD hS => ?_)
              refine lv_iload hx hb dX6_scarf_63 (lv_at hl 2 rfl) ?_
              refine lv_icmp_gt (tgt := 71) hx hb dX6_scarf_65 (by decide) (fun h17 => ?_) (fun h17 => ?_)
              · replace hF := of_t h17 hF
                obtain ⟨v18, ev18⟩ : ∃ y : Int32, y = v10 + 1 := ⟨_, rfl⟩
                replace hF := of_dd hF v18 ev18
                refine lv_iinc (v := v18) (lv' := [(5, .int v18), (0, .ref m_h), (3, .int p2), (4, .int p3)]) hx hb dX6_scarf_71 hl (k := 3) rfl (by rw [ev18]; rfl) (by decide) rfl (fun ls hl => ?_)
                refine lv_goto (tgt := 43) hx hb dX6_scarf_74 (by decide) ?_
                exact ih12 v18 q16.2 ls _ _ (lv_sub hl [1, 2, 3, 0] rfl) hP hD hS hF
              · replace hF := of_f h17 hF
                refine lv_iload hx hb dX6_scarf_68 (lv_at hl 3 rfl) ?_
                exact hQ _ _ _ _ _ q16.2 ⟨inj_fst hF, inj_snd hF⟩ hP hD hS dX6_scarf_70
        exact hloop19 2000 0 q7 ls _ _ (lv_sub hl [1, 4, 5, 0] rfl) hP hD hS hF
      · replace hF := of_t h6 hF
        refine lv_bipush (v := (-2)) hx hb dX6_scarf_31 (by decide) ?_
        exact hQ _ _ _ _ _ om ⟨inj_fst hF, inj_snd hF⟩ hP hD hS dX6_scarf_33
  · replace hF := of_t h2 hF
    refine lv_iconst (v := (-1)) hx hb dX6_scarf_9 (by decide) ?_
    exact hQ _ _ _ _ _ om ⟨inj_fst hF, inj_snd hF⟩ hP hD hS dX6_scarf_10

/-! ### ThreeLegsModel.even(IIIII)I -/
abbrev wm_X6_even (cI cZ cO : ClassId) (m_h m_1 m_2 m_3 m_22 m_23 m_24 m_27 m_29 m_30 : Nat) (om : Ob) : va_W := [(m_h, .inr (6, [.int (om 0 0), .ref m_1, .ref m_2, .ref m_3, .int (om 4 0), .int (om 5 0), .int (om 6 0), .int (om 7 0), .int (om 8 0), .int (om 9 0), .int (om 10 0), .int (om 11 0), .int (om 12 0), .int (om 13 0), .int (om 14 0), .int (om 15 0), .int (om 16 0), .int (om 17 0), .int (om 18 0), .int (om 19 0), .int (om 20 0), .int (om 21 0), .ref m_22, .ref m_23, .ref m_24, .int (om 25 0), .int (om 26 0), .ref m_27, .int (om 28 0), .ref m_29, .ref m_30, .int (om 31 0), .int (om 32 0)])), (m_1, .inl (cI, 8, .inl (om 1))), (m_2, .inl (cI, 8, .inl (om 2))), (m_3, .inl (cI, 8, .inl (om 3))), (m_22, .inl (cI, 64, .inl (om 22))), (m_23, .inl (cI, 8, .inl (om 23))), (m_24, .inl (cI, 8, .inl (om 24))), (m_27, .inl (cI, 40, .inl (om 27))), (m_29, .inl (cI, 80, .inl (om 29))), (m_30, .inl (cZ, 2, .inl (om 30)))]
def L_X6_even_66 : Nat → Int32 → Int32 → Int32 → Ob → (Int32 → Ob → Option (Int32 × Ob)) → Option (Int32 × Ob)
  | 0, _, _, _, _, _ => none
  | n18 + 1, v11, p4, v15, om16, K12 =>
    (if p4 ≤ v15 then K12 v15 om16 else dd (p4 - v15) (fun (v20 : Int32) => (F_X6_timeOf om16 v20).bind (fun q21 => (if q21.1 ≤ v11 then K12 v15 q21.2 else dd (v15 + 1) (fun (v23 : Int32) => L_X6_even_66 n18 v11 p4 v23 q21.2 K12)))))
def F_X6_even (om : Ob) (p0 : Int32) (p1 : Int32) (p2 : Int32) (p3 : Int32) (p4 : Int32) : Option (Int32 × Ob) :=
  (F_X6_isPair om p0 p1).bind (fun q1 => (if q1 = 0 then some ((-1), om) else (F_X6_isPair om p2 p3).bind (fun q3 => (if q3 = 0 then some ((-1), om) else (F_X6_isFar p4).bind (fun q5 => (if q5 = 0 then some ((-2), om) else (F_X6_layPair om p2 p3).bind (fun q7 => (F_X6_timeOf q7 p4).bind (fun q8 => (if q8.1 = 1000000000 then some ((-6), q8.2) else (F_X6_layPair q8.2 p0 p1).bind (fun q10 => dd q8.1 (fun (v11 : Int32) => jn (fun (v13 : Int32) (om14 : Ob) => some (v13, om14)) (fun (K12 : Int32 → Ob → Option (Int32 × Ob)) => L_X6_even_66 2000 v11 p4 0 q10 K12))))))))))))
abbrev rm_X6_even : Room := { frames := 3, cells := 0, slots := 0, locals := 69 }
abbrev wu_X6_even : List Cond := .code yX6_even cX6_even 8 (some .int) :: lwG
set_option maxHeartbeats 20000000 in
set_option maxRecDepth 100000 in
theorem c_X6_even (l : Launch) (D : va_G) (cI cZ cO : ClassId) (m_h m_1 m_2 m_3 m_22 m_23 m_24 m_27 m_29 m_30 : Nat) (sz : Nat) (om : Ob) (p0 : Int32) (p1 : Int32) (p2 : Int32) (p3 : Int32) (p4 : Int32) (q : Int32 × Ob) (hF : F_X6_even om p0 p1 p2 p3 p4 = some q) : CtI l yX6_even wu_X6_even rm_X6_even D vwCl (tyL cI cZ cO) [.ref m_h, .int p0, .int p1, .int p2, .int p3, .int p4] (wm_X6_even cI cZ cO m_h m_1 m_2 m_3 m_22 m_23 m_24 m_27 m_29 m_30 om) sz 0 0 (fun (r : Int32) (u : Ob) => r = q.1 ∧ u = q.2) (fun u => wm_X6_even cI cZ cO m_h m_1 m_2 m_3 m_22 m_23 m_24 m_27 m_29 m_30 u) := by
  refine mk_i (cc := cX6_even) (maxL := 8) (by decide) rfl (Nat.le_of_ble_eq_true rfl) ?_
  intro p e s m args below meth c A ls Q hx hb hml hown hts hin hK hP hD hS hA hl hQ
  have hl : lv_has ls 8 [(0, .ref m_h), (1, .int p0), (2, .int p1), (3, .int p2), (4, .int p3), (5, .int p4)] := hl
  unfold F_X6_even at hF
  refine lv_aload_n hx hb dX6_even_0 rfl (lv_at hl 0 rfl) ?_
  refine lv_iload_n hx hb dX6_even_1 rfl (lv_at hl 1 rfl) ?_
  refine lv_iload_n hx hb dX6_even_2 rfl (lv_at hl 2 rfl) ?_
  obtain ⟨q1, hGq1, hF⟩ := of_bind hF
  refine callVi (As := [.int p0, .int p1]) (rest := []) (wr := []) (WN := wm_X6_even cI cZ cO m_h m_1 m_2 m_3 m_22 m_23 m_24 m_27 m_29 m_30 om) ⟨hx, hb, hml, hown, hts⟩ hK hP hD hS hA [0, 1, 2, 3, 4, 5, 6, 7, 8, 9] [] [0, 1, 2, 3, 4, 5, 6, 7, 8, 9] (c_X6_isPair l D cI cZ cO m_h m_1 m_2 m_3 m_22 m_23 m_24 m_27 m_29 m_30 _ om p0 p1 q1 hGq1) (cwV 2 hts (gV wd_650 wd_652 wd_15 wd_39 wd_653) rfl rfl rfl (by decide +kernel) ⟨Nat.le_of_ble_eq_true rfl, Nat.le_of_ble_eq_true rfl⟩) 0 6 rfl rfl rfl rfl rfl rfl rfl (by decide) rfl rfl rfl hl.1 rfl (Nat.le_of_ble_eq_true rfl) dX6_even_3 ⟨Nat.zero_le _, Nat.zero_le _⟩ (fun H locs hP hD hS => ?_)
  refine lv_if_eq (tgt := 19) hx hb dX6_even_6 (by decide) (fun h2 => ?_) (fun h2 => ?_)
  · replace hF := of_t h2 hF
    refine lv_iconst (v := (-1)) hx hb dX6_even_19 (by decide) ?_
    exact hQ _ _ _ _ _ om ⟨inj_fst hF, inj_snd hF⟩ hP hD hS dX6_even_20
  · replace hF := of_f h2 hF
    refine lv_aload_n hx hb dX6_even_9 rfl (lv_at hl 0 rfl) ?_
    refine lv_iload_n hx hb dX6_even_10 rfl (lv_at hl 3 rfl) ?_
    refine lv_iload hx hb dX6_even_11 (lv_at hl 4 rfl) ?_
    obtain ⟨q3, hGq3, hF⟩ := of_bind hF
    refine callVi (As := [.int p2, .int p3]) (rest := []) (wr := []) (WN := wm_X6_even cI cZ cO m_h m_1 m_2 m_3 m_22 m_23 m_24 m_27 m_29 m_30 om) ⟨hx, hb, hml, hown, hts⟩ hK hP hD hS hA [0, 1, 2, 3, 4, 5, 6, 7, 8, 9] [] [0, 1, 2, 3, 4, 5, 6, 7, 8, 9] (c_X6_isPair l D cI cZ cO m_h m_1 m_2 m_3 m_22 m_23 m_24 m_27 m_29 m_30 _ om p2 p3 q3 hGq3) (cwV 2 hts (gV wd_650 wd_652 wd_15 wd_39 wd_653) rfl rfl rfl (by decide +kernel) ⟨Nat.le_of_ble_eq_true rfl, Nat.le_of_ble_eq_true rfl⟩) 0 6 rfl rfl rfl rfl rfl rfl rfl (by decide) rfl rfl rfl hl.1 rfl (Nat.le_of_ble_eq_true rfl) dX6_even_13 ⟨Nat.zero_le _, Nat.zero_le _⟩ (fun H locs hP hD hS => ?_)
    refine lv_if_ne (tgt := 21) hx hb dX6_even_16 (by decide) (fun h4 => ?_) (fun h4 => ?_)
    · replace hF := of_f h4 hF
      refine lv_iload hx hb dX6_even_21 (lv_at hl 5 rfl) ?_
      obtain ⟨q5, hGq5, hF⟩ := of_bind hF
      refine callSi (As := [.int p4]) (rest := []) ⟨hx, hb, hml, hown, hts⟩ hK hP hD hS hA (c_X6_isFar l D cI cZ cO  _ p4 q5 hGq5) (va_cwS 1 hts (gS wd_682 wd_683 wd_39 wd_684) rfl rfl rfl (by decide +kernel) ⟨Nat.le_of_ble_eq_true rfl, Nat.le_of_ble_eq_true rfl⟩) rfl hl.1 rfl (Nat.le_of_ble_eq_true rfl) dX6_even_23 ⟨Nat.zero_le _, Nat.zero_le _⟩ (fun H locs hP hS => ?_)
      refine lv_if_ne (tgt := 32) hx hb dX6_even_26 (by decide) (fun h6 => ?_) (fun h6 => ?_)
      · replace hF := of_f h6 hF
        refine lv_aload_n hx hb dX6_even_32 rfl (lv_at hl 0 rfl) ?_
        refine lv_iload_n hx hb dX6_even_33 rfl (lv_at hl 3 rfl) ?_
        refine lv_iload hx hb dX6_even_34 (lv_at hl 4 rfl) ?_
        obtain ⟨q7, hGq7, hF⟩ := of_bind hF
        refine callVv (As := [.int p2, .int p3]) (rest := []) (wr := []) (WN := wm_X6_even cI cZ cO m_h m_1 m_2 m_3 m_22 m_23 m_24 m_27 m_29 m_30 q7) ⟨hx, hb, hml, hown, hts⟩ hK hP hD hS hA [0, 1, 2, 3, 4, 5, 6, 7, 8, 9] [] [0, 1, 2, 3, 4, 5, 6, 7, 8, 9] (c_X6_layPair l D cI cZ cO m_h m_1 m_2 m_3 m_22 m_23 m_24 m_27 m_29 m_30 _ om p2 p3 q7 hGq7) (cwV 2 hts (gV wd_655 wd_657 wd_16 wd_39 wd_658) rfl rfl rfl (by decide +kernel) ⟨Nat.le_of_ble_eq_true rfl, Nat.le_of_ble_eq_true rfl⟩) 0 6 rfl rfl rfl rfl rfl rfl rfl (by decide) rfl rfl rfl hl.1 rfl (Nat.le_of_ble_eq_true rfl) dX6_even_36 ⟨Nat.zero_le _, Nat.zero_le _⟩ (fun H locs hP hD hS => ?_)
        refine lv_aload_n hx hb dX6_even_39 rfl (lv_at hl 0 rfl) ?_
        refine lv_iload hx hb dX6_even_40 (lv_at hl 5 rfl) ?_
        obtain ⟨q8, hGq8, hF⟩ := of_bind hF
        refine callVi (As := [.int p4]) (rest := []) (wr := []) (WN := wm_X6_even cI cZ cO m_h m_1 m_2 m_3 m_22 m_23 m_24 m_27 m_29 m_30 q8.2) ⟨hx, hb, hml, hown, hts⟩ hK hP hD hS hA [0, 1, 2, 3, 4, 5, 6, 7, 8, 9] [] [0, 1, 2, 3, 4, 5, 6, 7, 8, 9] (c_X6_timeOf l D cI cZ cO m_h m_1 m_2 m_3 m_22 m_23 m_24 m_27 m_29 m_30 _ q7 p4 q8 hGq8) (cwV 1 hts (gV wd_685 wd_687 wd_21 wd_39 wd_688) rfl rfl rfl (by decide +kernel) ⟨Nat.le_of_ble_eq_true rfl, Nat.le_of_ble_eq_true rfl⟩) 0 6 rfl rfl rfl rfl rfl rfl rfl (by decide) rfl rfl rfl hl.1 rfl (Nat.le_of_ble_eq_true rfl) dX6_even_42 ⟨Nat.zero_le _, Nat.zero_le _⟩ (fun H locs hP hD hS => ?_)
        refine lv_istore (lv' := [(6, .int q8.1), (0, .ref m_h), (1, .int p0), (2, .int p1), (3, .int p2), (4, .int p3), (5, .int p4)]) hx hb dX6_even_45 hl (by decide) rfl (fun ls hl => ?_)
        refine lv_iload hx hb dX6_even_47 (lv_at hl 0 rfl) ?_
        refine lv_ldc hx hb hown (hts _ wd_689) dX6_even_49 ?_
        refine lv_icmp_ne (tgt := 57) hx hb dX6_even_51 (by decide) (fun h9 => ?_) (fun h9 => ?_)
        · replace hF := of_f h9 hF
          refine lv_aload_n hx hb dX6_even_57 rfl (lv_at hl 1 rfl) ?_
          refine lv_iload_n hx hb dX6_even_58 rfl (lv_at hl 2 rfl) ?_
          refine lv_iload_n hx hb dX6_even_59 rfl (lv_at hl 3 rfl) ?_
          obtain ⟨q10, hGq10, hF⟩ := of_bind hF
          refine callVv (As := [.int p0, .int p1]) (rest := []) (wr := []) (WN := wm_X6_even cI cZ cO m_h m_1 m_2 m_3 m_22 m_23 m_24 m_27 m_29 m_30 q10) ⟨hx, hb, hml, hown, hts⟩ hK hP hD hS hA [0, 1, 2, 3, 4, 5, 6, 7, 8, 9] [] [0, 1, 2, 3, 4, 5, 6, 7, 8, 9] (c_X6_layPair l D cI cZ cO m_h m_1 m_2 m_3 m_22 m_23 m_24 m_27 m_29 m_30 _ q8.2 p0 p1 q10 hGq10) (cwV 2 hts (gV wd_655 wd_657 wd_16 wd_39 wd_658) rfl rfl rfl (by decide +kernel) ⟨Nat.le_of_ble_eq_true rfl, Nat.le_of_ble_eq_true rfl⟩) 0 6 rfl rfl rfl rfl rfl rfl rfl (by decide) rfl rfl rfl hl.1 rfl (Nat.le_of_ble_eq_true rfl) dX6_even_60 ⟨Nat.zero_le _, Nat.zero_le _⟩ (fun H locs hP hD hS => ?_)
          refine lv_iconst (v := 0) hx hb dX6_even_63 (by decide) ?_
          refine lv_istore (lv' := [(7, .int 0), (6, .int q8.1), (0, .ref m_h), (1, .int p0), (2, .int p1), (3, .int p2), (4, .int p3), (5, .int p4)]) hx hb dX6_even_64 hl (by decide) rfl (fun ls hl => ?_)
          obtain ⟨v11, hF, hl⟩ := nm_l (x := q8.1) (P := fun y => lv_has ls 8 [(7, .int 0), (6, .int y), (0, .ref m_h), (1, .int p0), (2, .int p1), (3, .int p2), (4, .int p3), (5, .int p4)]) hF hl
          obtain ⟨K12, eK12, hF⟩ := of_jn hF
          have hK12 : ∀ (v13 : Int32) (om14 : Ob) (ls : Array Slot) (H : Heap) (locs : List Loc), lv_has ls 8 [(7, .int v13)] → va_P D vwCl (wm_X6_even cI cZ cO m_h m_1 m_2 m_3 m_22 m_23 m_24 m_27 m_29 m_30 om14) H → va_D A (wm_X6_even cI cZ cO m_h m_1 m_2 m_3 m_22 m_23 m_24 m_27 m_29 m_30 om14) → va_S A s.heap H locs → K12 v13 om14 = some q → W p l e rm_X6_even s m args below meth c H locs 0 0 Q (F0 m 93 ls []) := by
            intro v13 om14 ls H locs hl hP hD hS hF
            subst eK12
            refine lv_iload hx hb dX6_even_93 (lv_at hl 0 rfl) ?_
            exact hQ _ _ _ _ _ om14 ⟨inj_fst hF, inj_snd hF⟩ hP hD hS dX6_even_95
          have hloop24 : ∀ (n18 : Nat) (v15 : Int32) (om16 : Ob) (ls : Array Slot) (H : Heap) (locs : List Loc), lv_has ls 8 [(0, .ref m_h), (5, .int p4), (6, .int v11), (7, .int v15)] → va_P D vwCl (wm_X6_even cI cZ cO m_h m_1 m_2 m_3 m_22 m_23 m_24 m_27 m_29 m_30 om16) H → va_D A (wm_X6_even cI cZ cO m_h m_1 m_2 m_3 m_22 m_23 m_24 m_27 m_29 m_30 om16) → va_S A s.heap H locs → L_X6_even_66 n18 v11 p4 v15 om16 K12 = some q → W p l e rm_X6_even s m args below meth c H locs 0 0 Q (F0 m 66 ls []) := by
            intro n18
            induction n18 with
            | zero =>
              intro v15 om16 ls H locs hl hP hD hS hF
              exact of_none hF
            | succ n18 ih17 =>
              intro v15 om16 ls H locs hl hP hD hS hF
              rw [L_X6_even_66.eq_2] at hF
              refine lv_iload hx hb dX6_even_66 (lv_at hl 3 rfl) ?_
              refine lv_iload hx hb dX6_even_68 (lv_at hl 1 rfl) ?_
              refine lv_icmp_ge (tgt := 93) hx hb dX6_even_70 (by decide) (fun h19 => ?_) (fun h19 => ?_)
              · replace hF := of_t h19 hF
                exact hK12 v15 om16 ls _ _ (lv_sub hl [3] rfl) hP hD hS hF
              · replace hF := of_f h19 hF
                refine lv_aload_n hx hb dX6_even_73 rfl (lv_at hl 0 rfl) ?_
                refine lv_iload hx hb dX6_even_74 (lv_at hl 1 rfl) ?_
                refine lv_iload hx hb dX6_even_76 (lv_at hl 3 rfl) ?_
                refine lv_isub hx hb dX6_even_78 ?_
                refine lv_topi (fun v20 ev20 => ?_)
                replace hF := of_dd hF v20 ev20
                obtain ⟨q21, hGq21, hF⟩ := of_bind hF
                refine callVi (As := [.int v20]) (rest := []) (wr := []) (WN := wm_X6_even cI cZ cO m_h m_1 m_2 m_3 m_22 m_23 m_24 m_27 m_29 m_30 q21.2) ⟨hx, hb, hml, hown, hts⟩ hK hP hD hS hA [0, 1, 2, 3, 4, 5, 6, 7, 8, 9] [] [0, 1, 2, 3, 4, 5, 6, 7, 8, 9] (c_X6_timeOf l D cI cZ cO m_h m_1 m_2 m_3 m_22 m_23 m_24 m_27 m_29 m_30 _ om16 v20 q21 hGq21) (cwV 1 hts (gV wd_685 wd_687 wd_21 wd_39 wd_688) rfl rfl rfl (by decide +kernel) ⟨Nat.le_of_ble_eq_true rfl, Nat.le_of_ble_eq_true rfl⟩) 0 6 rfl rfl rfl rfl rfl rfl rfl (by decide) rfl rfl rfl hl.1 rfl (Nat.le_of_ble_eq_true rfl) dX6_even_79 ⟨Nat.zero_le _, Nat.zero_le _⟩ (fun H locs hP hD hS => ?_)
                refine lv_iload hx hb dX6_even_82 (lv_at hl 2 rfl) ?_
                refine lv_icmp_le (tgt := 93) hx hb dX6_even_84 (by decide) (fun h22 => ?_) (fun h22 => ?_)
                · replace hF := of_t h22 hF
                  exact hK12 v15 q21.2 ls _ _ (lv_sub hl [3] rfl) hP hD hS hF
                · replace hF := of_f h22 hF
                  obtain ⟨v23, ev23⟩ : ∃ y : Int32, y = v15 + 1 := ⟨_, rfl⟩
                  replace hF := of_dd hF v23 ev23
                  refine lv_iinc (v := v23) (lv' := [(7, .int v23), (0, .ref m_h), (5, .int p4), (6, .int v11)]) hx hb dX6_even_87 hl (k := 3) rfl (by rw [ev23]; rfl) (by decide) rfl (fun ls hl => ?_)
                  refine lv_goto (tgt := 66) hx hb dX6_even_90 (by decide) ?_
                  exact ih17 v23 q21.2 ls _ _ (lv_sub hl [1, 2, 3, 0] rfl) hP hD hS hF
          exact hloop24 2000 0 q10 ls _ _ (lv_sub hl [2, 7, 1, 0] rfl) hP hD hS hF
        · replace hF := of_t h9 hF
          refine lv_bipush (v := (-6)) hx hb dX6_even_54 (by decide) ?_
          exact hQ _ _ _ _ _ q8.2 ⟨inj_fst hF, inj_snd hF⟩ hP hD hS dX6_even_56
      · replace hF := of_t h6 hF
        refine lv_bipush (v := (-2)) hx hb dX6_even_29 (by decide) ?_
        exact hQ _ _ _ _ _ om ⟨inj_fst hF, inj_snd hF⟩ hP hD hS dX6_even_31
    · replace hF := of_t h4 hF
      refine lv_iconst (v := (-1)) hx hb dX6_even_19 (by decide) ?_
      exact hQ _ _ _ _ _ om ⟨inj_fst hF, inj_snd hF⟩ hP hD hS dX6_even_20

/-! ### ThreeLegsModel.say(I)I -/
abbrev wm_X6_say (cI cZ cO : ClassId) (m_h m_1 m_2 m_3 m_22 m_23 m_24 m_27 m_29 m_30 : Nat) (om : Ob) : va_W := [(m_h, .inr (6, [.int (om 0 0), .ref m_1, .ref m_2, .ref m_3, .int (om 4 0), .int (om 5 0), .int (om 6 0), .int (om 7 0), .int (om 8 0), .int (om 9 0), .int (om 10 0), .int (om 11 0), .int (om 12 0), .int (om 13 0), .int (om 14 0), .int (om 15 0), .int (om 16 0), .int (om 17 0), .int (om 18 0), .int (om 19 0), .int (om 20 0), .int (om 21 0), .ref m_22, .ref m_23, .ref m_24, .int (om 25 0), .int (om 26 0), .ref m_27, .int (om 28 0), .ref m_29, .ref m_30, .int (om 31 0), .int (om 32 0)])), (m_1, .inl (cI, 8, .inl (om 1))), (m_2, .inl (cI, 8, .inl (om 2))), (m_3, .inl (cI, 8, .inl (om 3))), (m_22, .inl (cI, 64, .inl (om 22))), (m_23, .inl (cI, 8, .inl (om 23))), (m_24, .inl (cI, 8, .inl (om 24))), (m_27, .inl (cI, 40, .inl (om 27))), (m_29, .inl (cI, 80, .inl (om 29))), (m_30, .inl (cZ, 2, .inl (om 30)))]
def F_X6_say (om : Ob) (p0 : Int32) : Option (Int32 × Ob) :=
  (F_X6_in (Int32.toInt64 p0) (33 : Int64) (126 : Int64)).bind (fun q1 => (if q1 = 0 then some ((-2), om) else (if (om 28 0) = 40 then some ((-4), om) else ck (om 28 0) 40 (dd (sO om 27 (upd (om 27) ((om 28 0)).toNatClampNeg p0)) (fun (om5 : Ob) => dd ((om5 28 0) + 1) (fun (v6 : Int32) => dd (sO om5 28 (cst v6)) (fun (om7 : Ob) => some ((om7 28 0), om7))))))))
abbrev rm_X6_say : Room := { frames := 1, cells := 0, slots := 0, locals := 25 }
abbrev wu_X6_say : List Cond := .code yX6_say cX6_say 2 (some .int) :: lwG
set_option maxHeartbeats 20000000 in
set_option maxRecDepth 100000 in
theorem c_X6_say (l : Launch) (D : va_G) (cI cZ cO : ClassId) (m_h m_1 m_2 m_3 m_22 m_23 m_24 m_27 m_29 m_30 : Nat) (sz : Nat) (om : Ob) (p0 : Int32) (q : Int32 × Ob) (hF : F_X6_say om p0 = some q) : CtI l yX6_say wu_X6_say rm_X6_say D vwCl (tyL cI cZ cO) [.ref m_h, .int p0] (wm_X6_say cI cZ cO m_h m_1 m_2 m_3 m_22 m_23 m_24 m_27 m_29 m_30 om) sz 0 0 (fun (r : Int32) (u : Ob) => r = q.1 ∧ u = q.2) (fun u => wm_X6_say cI cZ cO m_h m_1 m_2 m_3 m_22 m_23 m_24 m_27 m_29 m_30 u) := by
  refine mk_i (cc := cX6_say) (maxL := 2) (by decide) rfl (Nat.le_of_ble_eq_true rfl) ?_
  intro p e s m args below meth c A ls Q hx hb hml hown hts hin hK hP hD hS hA hl hQ
  have hl : lv_has ls 2 [(0, .ref m_h), (1, .int p0)] := hl
  unfold F_X6_say at hF
  refine lv_iload_n hx hb dX6_say_0 rfl (lv_at hl 1 rfl) ?_
  refine lv_i2l hx hb dX6_say_1 rfl ?_
  refine lv_ldc2 hx hb hown (hts _ wd_763) dX6_say_2 ?_
  refine lv_ldc2 hx hb hown (hts _ wd_764) dX6_say_5 ?_
  obtain ⟨q1, hGq1, hF⟩ := of_bind hF
  refine callSi (As := [.long (Int32.toInt64 p0), .long (33 : Int64), .long (126 : Int64)]) (rest := []) ⟨hx, hb, hml, hown, hts⟩ hK hP hD hS hA (c_X6_in l D cI cZ cO  _ (Int32.toInt64 p0) (33 : Int64) (126 : Int64) q1 hGq1) (va_cwS 3 hts (gS wd_624 wd_625 wd_39 wd_626) rfl rfl rfl (by decide +kernel) ⟨Nat.le_of_ble_eq_true rfl, Nat.le_of_ble_eq_true rfl⟩) rfl hl.1 rfl (Nat.le_of_ble_eq_true rfl) dX6_say_8 ⟨Nat.zero_le _, Nat.zero_le _⟩ (fun H locs hP hS => ?_)
  refine lv_if_ne (tgt := 17) hx hb dX6_say_11 (by decide) (fun h2 => ?_) (fun h2 => ?_)
  · replace hF := of_f h2 hF
    refine lv_aload_n hx hb dX6_say_17 rfl (lv_at hl 0 rfl) ?_
    refine va_get (D := D) (ci := 6) (v := .int (om 28 0)) (C := RX6) (T := TX6) (N := 33) hx hb hts in_X6 hown hK hP 0 rfl rfl 28 (by decide) (hts _ wd_547) (fun _ h9 => h9) rfl dX6_say_18 ?_
    refine lv_bipush (v := 40) hx hb dX6_say_21 (by decide) ?_
    refine lv_icmp_ne (tgt := 29) hx hb dX6_say_23 (by decide) (fun h3 => ?_) (fun h3 => ?_)
    · replace hF := of_f h3 hF
      refine lv_aload_n hx hb dX6_say_29 rfl (lv_at hl 0 rfl) ?_
      refine va_get (D := D) (ci := 6) (v := .ref m_27) (C := RX6) (T := TX6) (N := 33) hx hb hts in_X6 hown hK hP 0 rfl rfl 27 (by decide) (hts _ wd_546) (fun _ h9 => h9) rfl dX6_say_30 ?_
      refine lv_aload_n hx hb dX6_say_33 rfl (lv_at hl 0 rfl) ?_
      refine va_get (D := D) (ci := 6) (v := .int (om 28 0)) (C := RX6) (T := TX6) (N := 33) hx hb hts in_X6 hown hK hP 0 rfl rfl 28 (by decide) (hts _ wd_547) (fun _ h9 => h9) rfl dX6_say_34 ?_
      refine lv_iload_n hx hb dX6_say_37 rfl (lv_at hl 1 rfl) ?_
      obtain ⟨h4, hF⟩ := of_ck hF
      refine va_iast (D := D) hx hb hK hP hD hS 7 0 rfl rfl h4 dX6_say_38 (fun H locs hP hD hS => ?_)
      obtain ⟨om5, hF, hP, hD⟩ := nm_o (P := fun y => va_P D vwCl (wm_X6_say cI cZ cO m_h m_1 m_2 m_3 m_22 m_23 m_24 m_27 m_29 m_30 y) _) (B := fun y => va_D A (wm_X6_say cI cZ cO m_h m_1 m_2 m_3 m_22 m_23 m_24 m_27 m_29 m_30 y)) hF hP hD
      refine lv_aload_n hx hb dX6_say_39 rfl (lv_at hl 0 rfl) ?_
      refine lv_dup hx hb dX6_say_40 rfl ?_
      refine va_get (D := D) (ci := 6) (v := .int (om5 28 0)) (C := RX6) (T := TX6) (N := 33) hx hb hts in_X6 hown hK hP 0 rfl rfl 28 (by decide) (hts _ wd_547) (fun _ h9 => h9) rfl dX6_say_41 ?_
      refine lv_iconst (v := 1) hx hb dX6_say_44 (by decide) ?_
      refine lv_iadd hx hb dX6_say_45 ?_
      refine lv_topi (fun v6 ev6 => ?_)
      replace hF := of_dd hF v6 ev6
      refine va_put (D := D) (ci := 6) (v := .int v6) (ty := .int) (C := RX6) (T := TX6) (N := 33) hx hb hts in_X6 tyX6 tyX6_ok nmX6 hown hK hP hD hS 0 rfl rfl 28 (by decide) (hts _ wd_547) (fun _ h9 => h9) rfl (tyX6_ok 28 (by decide)) rfl rfl (Nat.le_of_ble_eq_true rfl) dX6_say_46 (fun H locs hP hD hS => ?_)
      obtain ⟨om7, hF, hP, hD⟩ := nm_o (P := fun y => va_P D vwCl (wm_X6_say cI cZ cO m_h m_1 m_2 m_3 m_22 m_23 m_24 m_27 m_29 m_30 y) _) (B := fun y => va_D A (wm_X6_say cI cZ cO m_h m_1 m_2 m_3 m_22 m_23 m_24 m_27 m_29 m_30 y)) hF hP hD
      refine lv_aload_n hx hb dX6_say_49 rfl (lv_at hl 0 rfl) ?_
      refine va_get (D := D) (ci := 6) (v := .int (om7 28 0)) (C := RX6) (T := TX6) (N := 33) hx hb hts in_X6 hown hK hP 0 rfl rfl 28 (by decide) (hts _ wd_547) (fun _ h9 => h9) rfl dX6_say_50 ?_
      exact hQ _ _ _ _ _ om7 ⟨inj_fst hF, inj_snd hF⟩ hP hD hS dX6_say_53
    · replace hF := of_t h3 hF
      refine lv_bipush (v := (-4)) hx hb dX6_say_26 (by decide) ?_
      exact hQ _ _ _ _ _ om ⟨inj_fst hF, inj_snd hF⟩ hP hD hS dX6_say_28
  · replace hF := of_t h2 hF
    refine lv_bipush (v := (-2)) hx hb dX6_say_14 (by decide) ?_
    exact hQ _ _ _ _ _ om ⟨inj_fst hF, inj_snd hF⟩ hP hD hS dX6_say_16

/-! ### ThreeLegsModel.wipe()I -/
abbrev wm_X6_wipe (cI cZ cO : ClassId) (m_h m_1 m_2 m_3 m_22 m_23 m_24 m_27 m_29 m_30 : Nat) (om : Ob) : va_W := [(m_h, .inr (6, [.int (om 0 0), .ref m_1, .ref m_2, .ref m_3, .int (om 4 0), .int (om 5 0), .int (om 6 0), .int (om 7 0), .int (om 8 0), .int (om 9 0), .int (om 10 0), .int (om 11 0), .int (om 12 0), .int (om 13 0), .int (om 14 0), .int (om 15 0), .int (om 16 0), .int (om 17 0), .int (om 18 0), .int (om 19 0), .int (om 20 0), .int (om 21 0), .ref m_22, .ref m_23, .ref m_24, .int (om 25 0), .int (om 26 0), .ref m_27, .int (om 28 0), .ref m_29, .ref m_30, .int (om 31 0), .int (om 32 0)])), (m_1, .inl (cI, 8, .inl (om 1))), (m_2, .inl (cI, 8, .inl (om 2))), (m_3, .inl (cI, 8, .inl (om 3))), (m_22, .inl (cI, 64, .inl (om 22))), (m_23, .inl (cI, 8, .inl (om 23))), (m_24, .inl (cI, 8, .inl (om 24))), (m_27, .inl (cI, 40, .inl (om 27))), (m_29, .inl (cI, 80, .inl (om 29))), (m_30, .inl (cZ, 2, .inl (om 30)))]
def F_X6_wipe (om : Ob)  : Option (Int32 × Ob) :=
  dd (sO om 28 (cst 0)) (fun (om1 : Ob) => some ((om 28 0), om1))
abbrev rm_X6_wipe : Room := { frames := 0, cells := 0, slots := 0, locals := 0 }
abbrev wu_X6_wipe : List Cond := .code yX6_wipe cX6_wipe 2 (some .int) :: lwG
set_option maxHeartbeats 20000000 in
set_option maxRecDepth 100000 in
theorem c_X6_wipe (l : Launch) (D : va_G) (cI cZ cO : ClassId) (m_h m_1 m_2 m_3 m_22 m_23 m_24 m_27 m_29 m_30 : Nat) (sz : Nat) (om : Ob)  (q : Int32 × Ob) (hF : F_X6_wipe om = some q) : CtI l yX6_wipe wu_X6_wipe rm_X6_wipe D vwCl (tyL cI cZ cO) [.ref m_h] (wm_X6_wipe cI cZ cO m_h m_1 m_2 m_3 m_22 m_23 m_24 m_27 m_29 m_30 om) sz 0 0 (fun (r : Int32) (u : Ob) => r = q.1 ∧ u = q.2) (fun u => wm_X6_wipe cI cZ cO m_h m_1 m_2 m_3 m_22 m_23 m_24 m_27 m_29 m_30 u) := by
  refine mk_i (cc := cX6_wipe) (maxL := 2) (by decide) rfl (Nat.le_of_ble_eq_true rfl) ?_
  intro p e s m args below meth c A ls Q hx hb hml hown hts hin hK hP hD hS hA hl hQ
  have hl : lv_has ls 2 [(0, .ref m_h)] := hl
  unfold F_X6_wipe at hF
  refine lv_aload_n hx hb dX6_wipe_0 rfl (lv_at hl 0 rfl) ?_
  refine va_get (D := D) (ci := 6) (v := .int (om 28 0)) (C := RX6) (T := TX6) (N := 33) hx hb hts in_X6 hown hK hP 0 rfl rfl 28 (by decide) (hts _ wd_547) (fun _ h9 => h9) rfl dX6_wipe_1 ?_
  refine lv_istore_n (lv' := [(1, .int (om 28 0)), (0, .ref m_h)]) hx hb dX6_wipe_4 rfl hl (by decide) rfl (fun ls hl => ?_)
  refine lv_aload_n hx hb dX6_wipe_5 rfl (lv_at hl 1 rfl) ?_
  refine lv_iconst (v := 0) hx hb dX6_wipe_6 (by decide) ?_
  refine va_put (D := D) (ci := 6) (v := .int 0) (ty := .int) (C := RX6) (T := TX6) (N := 33) hx hb hts in_X6 tyX6 tyX6_ok nmX6 hown hK hP hD hS 0 rfl rfl 28 (by decide) (hts _ wd_547) (fun _ h9 => h9) rfl (tyX6_ok 28 (by decide)) rfl rfl (Nat.le_of_ble_eq_true rfl) dX6_wipe_7 (fun H locs hP hD hS => ?_)
  obtain ⟨om1, hF, hP, hD⟩ := nm_o (P := fun y => va_P D vwCl (wm_X6_wipe cI cZ cO m_h m_1 m_2 m_3 m_22 m_23 m_24 m_27 m_29 m_30 y) _) (B := fun y => va_D A (wm_X6_wipe cI cZ cO m_h m_1 m_2 m_3 m_22 m_23 m_24 m_27 m_29 m_30 y)) hF hP hD
  refine lv_iload_n hx hb dX6_wipe_10 rfl (lv_at hl 0 rfl) ?_
  exact hQ _ _ _ _ _ om1 ⟨inj_fst hF, inj_snd hF⟩ hP hD hS dX6_wipe_11

/-! ### ThreeLegsModel.fault()I -/
abbrev wm_X6_fault (cI cZ cO : ClassId) (m_h m_1 m_2 m_3 m_22 m_23 m_24 m_27 m_29 m_30 : Nat) (om : Ob) : va_W := [(m_h, .inr (6, [.int (om 0 0), .ref m_1, .ref m_2, .ref m_3, .int (om 4 0), .int (om 5 0), .int (om 6 0), .int (om 7 0), .int (om 8 0), .int (om 9 0), .int (om 10 0), .int (om 11 0), .int (om 12 0), .int (om 13 0), .int (om 14 0), .int (om 15 0), .int (om 16 0), .int (om 17 0), .int (om 18 0), .int (om 19 0), .int (om 20 0), .int (om 21 0), .ref m_22, .ref m_23, .ref m_24, .int (om 25 0), .int (om 26 0), .ref m_27, .int (om 28 0), .ref m_29, .ref m_30, .int (om 31 0), .int (om 32 0)])), (m_1, .inl (cI, 8, .inl (om 1))), (m_2, .inl (cI, 8, .inl (om 2))), (m_3, .inl (cI, 8, .inl (om 3))), (m_22, .inl (cI, 64, .inl (om 22))), (m_23, .inl (cI, 8, .inl (om 23))), (m_24, .inl (cI, 8, .inl (om 24))), (m_27, .inl (cI, 40, .inl (om 27))), (m_29, .inl (cI, 80, .inl (om 29))), (m_30, .inl (cZ, 2, .inl (om 30)))]
def L_X6_fault_2 : Nat → Ob → Int32 → (Option (Int32)) → Option (Int32)
  | 0, _, _, _ => none
  | n4 + 1, om, v2, K1 =>
    (if (om 28 0) ≤ v2 then K1 else ck v2 40 ((if ((om 27) (v2).toNatClampNeg) = 115 then dd (v2 + 1) (fun (v8 : Int32) => L_X6_fault_2 n4 om v8 K1) else (if ((om 27) (v2).toNatClampNeg) = 108 then dd (v2 + 1) (fun (v10 : Int32) => L_X6_fault_2 n4 om v10 K1) else (if ((om 27) (v2).toNatClampNeg) = 102 then dd (v2 + 1) (fun (v12 : Int32) => L_X6_fault_2 n4 om v12 K1) else (if ((om 27) (v2).toNatClampNeg) = 63 then dd (v2 + 1) (fun (v14 : Int32) => L_X6_fault_2 n4 om v14 K1) else some v2))))))
def F_X6_fault (om : Ob)  : Option (Int32) :=
  jn (some (-6)) (fun (K1 : Option (Int32)) => L_X6_fault_2 2000 om 0 K1)
abbrev rm_X6_fault : Room := { frames := 0, cells := 0, slots := 0, locals := 0 }
abbrev wu_X6_fault : List Cond := .code yX6_fault cX6_fault 3 (some .int) :: lwG
set_option maxHeartbeats 20000000 in
set_option maxRecDepth 100000 in
theorem c_X6_fault (l : Launch) (D : va_G) (cI cZ cO : ClassId) (m_h m_1 m_2 m_3 m_22 m_23 m_24 m_27 m_29 m_30 : Nat) (sz : Nat) (om : Ob)  (q : Int32) (hF : F_X6_fault om = some q) : CtI l yX6_fault wu_X6_fault rm_X6_fault D vwCl (tyL cI cZ cO) [.ref m_h] (wm_X6_fault cI cZ cO m_h m_1 m_2 m_3 m_22 m_23 m_24 m_27 m_29 m_30 om) sz 0 0 (fun (r : Int32) (u : Unit) => r = q ∧ u = ()) (fun u => wm_X6_fault cI cZ cO m_h m_1 m_2 m_3 m_22 m_23 m_24 m_27 m_29 m_30 om) := by
  refine mk_i (cc := cX6_fault) (maxL := 3) (by decide) rfl (Nat.le_of_ble_eq_true rfl) ?_
  intro p e s m args below meth c A ls Q hx hb hml hown hts hin hK hP hD hS hA hl hQ
  have hl : lv_has ls 3 [(0, .ref m_h)] := hl
  unfold F_X6_fault at hF
  refine lv_iconst (v := 0) hx hb dX6_fault_0 (by decide) ?_
  refine lv_istore_n (lv' := [(1, .int 0), (0, .ref m_h)]) hx hb dX6_fault_1 rfl hl (by decide) rfl (fun ls hl => ?_)
  obtain ⟨K1, eK1, hF⟩ := of_jn hF
  have hK1 : ∀  (ls : Array Slot) (H : Heap) (locs : List Loc), lv_has ls 3 [] → va_P D vwCl (wm_X6_fault cI cZ cO m_h m_1 m_2 m_3 m_22 m_23 m_24 m_27 m_29 m_30 om) H → va_D A (wm_X6_fault cI cZ cO m_h m_1 m_2 m_3 m_22 m_23 m_24 m_27 m_29 m_30 om) → va_S A s.heap H locs → K1 = some q → W p l e rm_X6_fault s m args below meth c H locs 0 0 Q (F0 m 49 ls []) := by
    intro  ls H locs hl hP hD hS hF
    subst eK1
    refine lv_bipush (v := (-6)) hx hb dX6_fault_49 (by decide) ?_
    exact hQ _ _ _ _ _ () ⟨Option.some.inj hF, rfl⟩ hP hD hS dX6_fault_51
  have hloop15 : ∀ (n4 : Nat) (v2 : Int32) (ls : Array Slot) (H : Heap) (locs : List Loc), lv_has ls 3 [(0, .ref m_h), (1, .int v2)] → va_P D vwCl (wm_X6_fault cI cZ cO m_h m_1 m_2 m_3 m_22 m_23 m_24 m_27 m_29 m_30 om) H → va_D A (wm_X6_fault cI cZ cO m_h m_1 m_2 m_3 m_22 m_23 m_24 m_27 m_29 m_30 om) → va_S A s.heap H locs → L_X6_fault_2 n4 om v2 K1 = some q → W p l e rm_X6_fault s m args below meth c H locs 0 0 Q (F0 m 2 ls []) := by
    intro n4
    induction n4 with
    | zero =>
      intro v2 ls H locs hl hP hD hS hF
      exact of_none hF
    | succ n4 ih3 =>
      intro v2 ls H locs hl hP hD hS hF
      rw [L_X6_fault_2.eq_2] at hF
      refine lv_iload_n hx hb dX6_fault_2 rfl (lv_at hl 1 rfl) ?_
      refine lv_aload_n hx hb dX6_fault_3 rfl (lv_at hl 0 rfl) ?_
      refine va_get (D := D) (ci := 6) (v := .int (om 28 0)) (C := RX6) (T := TX6) (N := 33) hx hb hts in_X6 hown hK hP 0 rfl rfl 28 (by decide) (hts _ wd_547) (fun _ h9 => h9) rfl dX6_fault_4 ?_
      refine lv_icmp_ge (tgt := 49) hx hb dX6_fault_7 (by decide) (fun h5 => ?_) (fun h5 => ?_)
      · replace hF := of_t h5 hF
        exact hK1  ls _ _ (lv_sub hl [] rfl) hP hD hS hF
      · replace hF := of_f h5 hF
        refine lv_aload_n hx hb dX6_fault_10 rfl (lv_at hl 0 rfl) ?_
        refine va_get (D := D) (ci := 6) (v := .ref m_27) (C := RX6) (T := TX6) (N := 33) hx hb hts in_X6 hown hK hP 0 rfl rfl 27 (by decide) (hts _ wd_546) (fun _ h9 => h9) rfl dX6_fault_11 ?_
        refine lv_iload_n hx hb dX6_fault_14 rfl (lv_at hl 1 rfl) ?_
        obtain ⟨h6, hF⟩ := of_ck hF
        refine va_iald (D := D) hx hb hK hP 7 0 rfl rfl h6 dX6_fault_15 ?_
        refine lv_istore_n (lv' := [(2, .int ((om 27) (v2).toNatClampNeg)), (0, .ref m_h), (1, .int v2)]) hx hb dX6_fault_16 rfl hl (by decide) rfl (fun ls hl => ?_)
        refine lv_iload_n hx hb dX6_fault_17 rfl (lv_at hl 0 rfl) ?_
        refine lv_bipush (v := 115) hx hb dX6_fault_18 (by decide) ?_
        refine lv_icmp_eq (tgt := 43) hx hb dX6_fault_20 (by decide) (fun h7 => ?_) (fun h7 => ?_)
        · replace hF := of_t h7 hF
          obtain ⟨v8, ev8⟩ : ∃ y : Int32, y = v2 + 1 := ⟨_, rfl⟩
          replace hF := of_dd hF v8 ev8
          refine lv_iinc (v := v8) (lv' := [(1, .int v8), (2, .int ((om 27) (v2).toNatClampNeg)), (0, .ref m_h)]) hx hb dX6_fault_43 hl (k := 2) rfl (by rw [ev8]; rfl) (by decide) rfl (fun ls hl => ?_)
          refine lv_goto (tgt := 2) hx hb dX6_fault_46 (by decide) ?_
          exact ih3 v8 ls _ _ (lv_sub hl [2, 0] rfl) hP hD hS hF
        · replace hF := of_f h7 hF
          refine lv_iload_n hx hb dX6_fault_23 rfl (lv_at hl 0 rfl) ?_
          refine lv_bipush (v := 108) hx hb dX6_fault_24 (by decide) ?_
          refine lv_icmp_eq (tgt := 43) hx hb dX6_fault_26 (by decide) (fun h9 => ?_) (fun h9 => ?_)
          · replace hF := of_t h9 hF
            obtain ⟨v10, ev10⟩ : ∃ y : Int32, y = v2 + 1 := ⟨_, rfl⟩
            replace hF := of_dd hF v10 ev10
            refine lv_iinc (v := v10) (lv' := [(1, .int v10), (2, .int ((om 27) (v2).toNatClampNeg)), (0, .ref m_h)]) hx hb dX6_fault_43 hl (k := 2) rfl (by rw [ev10]; rfl) (by decide) rfl (fun ls hl => ?_)
            refine lv_goto (tgt := 2) hx hb dX6_fault_46 (by decide) ?_
            exact ih3 v10 ls _ _ (lv_sub hl [2, 0] rfl) hP hD hS hF
          · replace hF := of_f h9 hF
            refine lv_iload_n hx hb dX6_fault_29 rfl (lv_at hl 0 rfl) ?_
            refine lv_bipush (v := 102) hx hb dX6_fault_30 (by decide) ?_
            refine lv_icmp_eq (tgt := 43) hx hb dX6_fault_32 (by decide) (fun h11 => ?_) (fun h11 => ?_)
            · replace hF := of_t h11 hF
              obtain ⟨v12, ev12⟩ : ∃ y : Int32, y = v2 + 1 := ⟨_, rfl⟩
              replace hF := of_dd hF v12 ev12
              refine lv_iinc (v := v12) (lv' := [(1, .int v12), (2, .int ((om 27) (v2).toNatClampNeg)), (0, .ref m_h)]) hx hb dX6_fault_43 hl (k := 2) rfl (by rw [ev12]; rfl) (by decide) rfl (fun ls hl => ?_)
              refine lv_goto (tgt := 2) hx hb dX6_fault_46 (by decide) ?_
              exact ih3 v12 ls _ _ (lv_sub hl [2, 0] rfl) hP hD hS hF
            · replace hF := of_f h11 hF
              refine lv_iload_n hx hb dX6_fault_35 rfl (lv_at hl 0 rfl) ?_
              refine lv_bipush (v := 63) hx hb dX6_fault_36 (by decide) ?_
              refine lv_icmp_eq (tgt := 43) hx hb dX6_fault_38 (by decide) (fun h13 => ?_) (fun h13 => ?_)
              · replace hF := of_t h13 hF
                obtain ⟨v14, ev14⟩ : ∃ y : Int32, y = v2 + 1 := ⟨_, rfl⟩
                replace hF := of_dd hF v14 ev14
                refine lv_iinc (v := v14) (lv' := [(1, .int v14), (2, .int ((om 27) (v2).toNatClampNeg)), (0, .ref m_h)]) hx hb dX6_fault_43 hl (k := 2) rfl (by rw [ev14]; rfl) (by decide) rfl (fun ls hl => ?_)
                refine lv_goto (tgt := 2) hx hb dX6_fault_46 (by decide) ?_
                exact ih3 v14 ls _ _ (lv_sub hl [2, 0] rfl) hP hD hS hF
              · replace hF := of_f h13 hF
                refine lv_iload_n hx hb dX6_fault_41 rfl (lv_at hl 2 rfl) ?_
                exact hQ _ _ _ _ _ () ⟨Option.some.inj hF, rfl⟩ hP hD hS dX6_fault_42
  exact hloop15 2000 0 ls _ _ (lv_sub hl [1, 0] rfl) hP hD hS hF

/-! ### ThreeLegsModel.judged(II)I -/
abbrev wm_X6_judged (cI cZ cO : ClassId) (m_h m_1 m_2 m_3 m_22 m_23 m_24 m_27 m_29 m_30 : Nat) (om : Ob) : va_W := [(m_h, .inr (6, [.int (om 0 0), .ref m_1, .ref m_2, .ref m_3, .int (om 4 0), .int (om 5 0), .int (om 6 0), .int (om 7 0), .int (om 8 0), .int (om 9 0), .int (om 10 0), .int (om 11 0), .int (om 12 0), .int (om 13 0), .int (om 14 0), .int (om 15 0), .int (om 16 0), .int (om 17 0), .int (om 18 0), .int (om 19 0), .int (om 20 0), .int (om 21 0), .ref m_22, .ref m_23, .ref m_24, .int (om 25 0), .int (om 26 0), .ref m_27, .int (om 28 0), .ref m_29, .ref m_30, .int (om 31 0), .int (om 32 0)])), (m_1, .inl (cI, 8, .inl (om 1))), (m_2, .inl (cI, 8, .inl (om 2))), (m_3, .inl (cI, 8, .inl (om 3))), (m_22, .inl (cI, 64, .inl (om 22))), (m_23, .inl (cI, 8, .inl (om 23))), (m_24, .inl (cI, 8, .inl (om 24))), (m_27, .inl (cI, 40, .inl (om 27))), (m_29, .inl (cI, 80, .inl (om 29))), (m_30, .inl (cZ, 2, .inl (om 30)))]
def L_X6_judged_12 : Nat → Int32 → Ob → (Ob → Option (Int32 × Ob)) → Option (Int32 × Ob)
  | 0, _, _, _ => none
  | n8 + 1, v5, om6, K3 =>
    (if (om6 28 0) ≤ v5 then K3 om6 else (F_X6_step om6).bind (fun q10 => ck v5 40 ((if ((q10 27) (v5).toNatClampNeg) = 63 then dd (v5 + 1) (fun (v13 : Int32) => L_X6_judged_12 n8 v13 q10 K3) else ck v5 40 ((if ((q10 27) (v5).toNatClampNeg) = (q10 20 0) then dd (v5 + 1) (fun (v16 : Int32) => L_X6_judged_12 n8 v16 q10 K3) else some (v5, q10)))))))
def F_X6_judged (om : Ob) (p0 : Int32) (p1 : Int32) : Option (Int32 × Ob) :=
  (F_X6_layPair om p0 p1).bind (fun q1 => (F_X6_begin q1).bind (fun q2 => jn (fun (om4 : Ob) => some ((-6), om4)) (fun (K3 : Ob → Option (Int32 × Ob)) => L_X6_judged_12 2000 0 q2 K3)))
abbrev rm_X6_judged : Room := { frames := 2, cells := 0, slots := 0, locals := 48 }
abbrev wu_X6_judged : List Cond := .code yX6_judged cX6_judged 4 (some .int) :: lwG
set_option maxHeartbeats 20000000 in
set_option maxRecDepth 100000 in
theorem c_X6_judged (l : Launch) (D : va_G) (cI cZ cO : ClassId) (m_h m_1 m_2 m_3 m_22 m_23 m_24 m_27 m_29 m_30 : Nat) (sz : Nat) (om : Ob) (p0 : Int32) (p1 : Int32) (q : Int32 × Ob) (hF : F_X6_judged om p0 p1 = some q) : CtI l yX6_judged wu_X6_judged rm_X6_judged D vwCl (tyL cI cZ cO) [.ref m_h, .int p0, .int p1] (wm_X6_judged cI cZ cO m_h m_1 m_2 m_3 m_22 m_23 m_24 m_27 m_29 m_30 om) sz 0 0 (fun (r : Int32) (u : Ob) => r = q.1 ∧ u = q.2) (fun u => wm_X6_judged cI cZ cO m_h m_1 m_2 m_3 m_22 m_23 m_24 m_27 m_29 m_30 u) := by
  refine mk_i (cc := cX6_judged) (maxL := 4) (by decide) rfl (Nat.le_of_ble_eq_true rfl) ?_
  intro p e s m args below meth c A ls Q hx hb hml hown hts hin hK hP hD hS hA hl hQ
  have hl : lv_has ls 4 [(0, .ref m_h), (1, .int p0), (2, .int p1)] := hl
  unfold F_X6_judged at hF
  refine lv_aload_n hx hb dX6_judged_0 rfl (lv_at hl 0 rfl) ?_
  refine lv_iload_n hx hb dX6_judged_1 rfl (lv_at hl 1 rfl) ?_
  refine lv_iload_n hx hb dX6_judged_2 rfl (lv_at hl 2 rfl) ?_
  obtain ⟨q1, hGq1, hF⟩ := of_bind hF
  refine callVv (As := [.int p0, .int p1]) (rest := []) (wr := []) (WN := wm_X6_judged cI cZ cO m_h m_1 m_2 m_3 m_22 m_23 m_24 m_27 m_29 m_30 q1) ⟨hx, hb, hml, hown, hts⟩ hK hP hD hS hA [0, 1, 2, 3, 4, 5, 6, 7, 8, 9] [] [0, 1, 2, 3, 4, 5, 6, 7, 8, 9] (c_X6_layPair l D cI cZ cO m_h m_1 m_2 m_3 m_22 m_23 m_24 m_27 m_29 m_30 _ om p0 p1 q1 hGq1) (cwV 2 hts (gV wd_655 wd_657 wd_16 wd_39 wd_658) rfl rfl rfl (by decide +kernel) ⟨Nat.le_of_ble_eq_true rfl, Nat.le_of_ble_eq_true rfl⟩) 0 6 rfl rfl rfl rfl rfl rfl rfl (by decide) rfl rfl rfl hl.1 rfl (Nat.le_of_ble_eq_true rfl) dX6_judged_3 ⟨Nat.zero_le _, Nat.zero_le _⟩ (fun H locs hP hD hS => ?_)
  refine lv_aload_n hx hb dX6_judged_6 rfl (lv_at hl 0 rfl) ?_
  obtain ⟨q2, hGq2, hF⟩ := of_bind hF
  refine callVv (As := []) (rest := []) (wr := []) (WN := wm_X6_judged cI cZ cO m_h m_1 m_2 m_3 m_22 m_23 m_24 m_27 m_29 m_30 q2) ⟨hx, hb, hml, hown, hts⟩ hK hP hD hS hA [0, 1, 2, 3, 4, 5, 6, 7, 8, 9] [] [0, 1, 2, 3, 4, 5, 6, 7, 8, 9] (c_X6_begin l D cI cZ cO m_h m_1 m_2 m_3 m_22 m_23 m_24 m_27 m_29 m_30 _ q1 q2 hGq2) (cwV 0 hts (gV wd_659 wd_661 wd_17 wd_39 wd_662) rfl rfl rfl (by decide +kernel) ⟨Nat.le_of_ble_eq_true rfl, Nat.le_of_ble_eq_true rfl⟩) 0 6 rfl rfl rfl rfl rfl rfl rfl (by decide) rfl rfl rfl hl.1 rfl (Nat.le_of_ble_eq_true rfl) dX6_judged_7 ⟨Nat.zero_le _, Nat.zero_le _⟩ (fun H locs hP hD hS => ?_)
  refine lv_iconst (v := 0) hx hb dX6_judged_10 (by decide) ?_
  refine lv_istore_n (lv' := [(3, .int 0), (0, .ref m_h), (1, .int p0), (2, .int p1)]) hx hb dX6_judged_11 rfl hl (by decide) rfl (fun ls hl => ?_)
  obtain ⟨K3, eK3, hF⟩ := of_jn hF
  have hK3 : ∀ (om4 : Ob) (ls : Array Slot) (H : Heap) (locs : List Loc), lv_has ls 4 [] → va_P D vwCl (wm_X6_judged cI cZ cO m_h m_1 m_2 m_3 m_22 m_23 m_24 m_27 m_29 m_30 om4) H → va_D A (wm_X6_judged cI cZ cO m_h m_1 m_2 m_3 m_22 m_23 m_24 m_27 m_29 m_30 om4) → va_S A s.heap H locs → K3 om4 = some q → W p l e rm_X6_judged s m args below meth c H locs 0 0 Q (F0 m 56 ls []) := by
    intro om4 ls H locs hl hP hD hS hF
    subst eK3
    refine lv_bipush (v := (-6)) hx hb dX6_judged_56 (by decide) ?_
    exact hQ _ _ _ _ _ om4 ⟨inj_fst hF, inj_snd hF⟩ hP hD hS dX6_judged_58
  have hloop17 : ∀ (n8 : Nat) (v5 : Int32) (om6 : Ob) (ls : Array Slot) (H : Heap) (locs : List Loc), lv_has ls 4 [(0, .ref m_h), (3, .int v5)] → va_P D vwCl (wm_X6_judged cI cZ cO m_h m_1 m_2 m_3 m_22 m_23 m_24 m_27 m_29 m_30 om6) H → va_D A (wm_X6_judged cI cZ cO m_h m_1 m_2 m_3 m_22 m_23 m_24 m_27 m_29 m_30 om6) → va_S A s.heap H locs → L_X6_judged_12 n8 v5 om6 K3 = some q → W p l e rm_X6_judged s m args below meth c H locs 0 0 Q (F0 m 12 ls []) := by
    intro n8
    induction n8 with
    | zero =>
      intro v5 om6 ls H locs hl hP hD hS hF
      exact of_none hF
    | succ n8 ih7 =>
      intro v5 om6 ls H locs hl hP hD hS hF
      rw [L_X6_judged_12.eq_2] at hF
      refine lv_iload_n hx hb dX6_judged_12 rfl (lv_at hl 1 rfl) ?_
      refine lv_aload_n hx hb dX6_judged_13 rfl (lv_at hl 0 rfl) ?_
      refine va_get (D := D) (ci := 6) (v := .int (om6 28 0)) (C := RX6) (T := TX6) (N := 33) hx hb hts in_X6 hown hK hP 0 rfl rfl 28 (by decide) (hts _ wd_547) (fun _ h9 => h9) rfl dX6_judged_14 ?_
      refine lv_icmp_ge (tgt := 56) hx hb dX6_judged_17 (by decide) (fun h9 => ?_) (fun h9 => ?_)
      · replace hF := of_t h9 hF
        exact hK3 om6 ls _ _ (lv_sub hl [] rfl) hP hD hS hF
      · replace hF := of_f h9 hF
        refine lv_aload_n hx hb dX6_judged_20 rfl (lv_at hl 0 rfl) ?_
        obtain ⟨q10, hGq10, hF⟩ := of_bind hF
        refine callVv (As := []) (rest := []) (wr := []) (WN := wm_X6_judged cI cZ cO m_h m_1 m_2 m_3 m_22 m_23 m_24 m_27 m_29 m_30 q10) ⟨hx, hb, hml, hown, hts⟩ hK hP hD hS hA [0, 1, 2, 3, 4, 5, 6, 7, 8, 9] [] [0, 1, 2, 3, 4, 5, 6, 7, 8, 9] (c_X6_step l D cI cZ cO m_h m_1 m_2 m_3 m_22 m_23 m_24 m_27 m_29 m_30 _ om6 q10 hGq10) (cwV 0 hts (gV wd_663 wd_665 wd_18 wd_39 wd_666) rfl rfl rfl (by decide +kernel) ⟨Nat.le_of_ble_eq_true rfl, Nat.le_of_ble_eq_true rfl⟩) 0 6 rfl rfl rfl rfl rfl rfl rfl (by decide) rfl rfl rfl hl.1 rfl (Nat.le_of_ble_eq_true rfl) dX6_judged_21 ⟨Nat.zero_le _, Nat.zero_le _⟩ (fun H locs hP hD hS => ?_)
        refine lv_aload_n hx hb dX6_judged_24 rfl (lv_at hl 0 rfl) ?_
        refine va_get (D := D) (ci := 6) (v := .ref m_27) (C := RX6) (T := TX6) (N := 33) hx hb hts in_X6 hown hK hP 0 rfl rfl 27 (by decide) (hts _ wd_546) (fun _ h9 => h9) rfl dX6_judged_25 ?_
        refine lv_iload_n hx hb dX6_judged_28 rfl (lv_at hl 1 rfl) ?_
        obtain ⟨h11, hF⟩ := of_ck hF
        refine va_iald (D := D) hx hb hK hP 7 0 rfl rfl h11 dX6_judged_29 ?_
        refine lv_bipush (v := 63) hx hb dX6_judged_30 (by decide) ?_
        refine lv_icmp_eq (tgt := 50) hx hb dX6_judged_32 (by decide) (fun h12 => ?_) (fun h12 => ?_)
        · replace hF := of_t h12 hF
          obtain ⟨v13, ev13⟩ : ∃ y : Int32, y = v5 + 1 := ⟨_, rfl⟩
          replace hF := of_dd hF v13 ev13
          refine lv_iinc (v := v13) (lv' := [(3, .int v13), (0, .ref m_h)]) hx hb dX6_judged_50 hl (k := 1) rfl (by rw [ev13]; rfl) (by decide) rfl (fun ls hl => ?_)
          refine lv_goto (tgt := 12) hx hb dX6_judged_53 (by decide) ?_
          exact ih7 v13 q10 ls _ _ (lv_sub hl [1, 0] rfl) hP hD hS hF
        · replace hF := of_f h12 hF
          refine lv_aload_n hx hb dX6_judged_35 rfl (lv_at hl 0 rfl) ?_
          refine va_get (D := D) (ci := 6) (v := .ref m_27) (C := RX6) (T := TX6) (N := 33) hx hb hts in_X6 hown hK hP 0 rfl rfl 27 (by decide) (hts _ wd_546) (fun _ h9 => h9) rfl dX6_judged_36 ?_
          refine lv_iload_n hx hb dX6_judged_39 rfl (lv_at hl 1 rfl) ?_
          obtain ⟨h14, hF⟩ := of_ck hF
          refine va_iald (D := D) hx hb hK hP 7 0 rfl rfl h14 dX6_judged_40 ?_
          refine lv_aload_n hx hb dX6_judged_41 rfl (lv_at hl 0 rfl) ?_
          refine va_get (D := D) (ci := 6) (v := .int (q10 20 0)) (C := RX6) (T := TX6) (N := 33) hx hb hts in_X6 hown hK hP 0 rfl rfl 20 (by decide) (hts _ wd_539) (fun _ h9 => h9) rfl dX6_judged_42 ?_
          refine lv_icmp_eq (tgt := 50) hx hb dX6_judged_45 (by decide) (fun h15 => ?_) (fun h15 => ?_)
          · replace hF := of_t h15 hF
            obtain ⟨v16, ev16⟩ : ∃ y : Int32, y = v5 + 1 := ⟨_, rfl⟩
            replace hF := of_dd hF v16 ev16
            refine lv_iinc (v := v16) (lv' := [(3, .int v16), (0, .ref m_h)]) hx hb dX6_judged_50 hl (k := 1) rfl (by rw [ev16]; rfl) (by decide) rfl (fun ls hl => ?_)
            refine lv_goto (tgt := 12) hx hb dX6_judged_53 (by decide) ?_
            exact ih7 v16 q10 ls _ _ (lv_sub hl [1, 0] rfl) hP hD hS hF
          · replace hF := of_f h15 hF
            refine lv_iload_n hx hb dX6_judged_48 rfl (lv_at hl 1 rfl) ?_
            exact hQ _ _ _ _ _ q10 ⟨inj_fst hF, inj_snd hF⟩ hP hD hS dX6_judged_49
  exact hloop17 2000 0 q2 ls _ _ (lv_sub hl [1, 0] rfl) hP hD hS hF

/-! ### ThreeLegsModel.judge(II)I -/
abbrev wm_X6_judge (cI cZ cO : ClassId) (m_h m_1 m_2 m_3 m_22 m_23 m_24 m_27 m_29 m_30 : Nat) (om : Ob) : va_W := [(m_h, .inr (6, [.int (om 0 0), .ref m_1, .ref m_2, .ref m_3, .int (om 4 0), .int (om 5 0), .int (om 6 0), .int (om 7 0), .int (om 8 0), .int (om 9 0), .int (om 10 0), .int (om 11 0), .int (om 12 0), .int (om 13 0), .int (om 14 0), .int (om 15 0), .int (om 16 0), .int (om 17 0), .int (om 18 0), .int (om 19 0), .int (om 20 0), .int (om 21 0), .ref m_22, .ref m_23, .ref m_24, .int (om 25 0), .int (om 26 0), .ref m_27, .int (om 28 0), .ref m_29, .ref m_30, .int (om 31 0), .int (om 32 0)])), (m_1, .inl (cI, 8, .inl (om 1))), (m_2, .inl (cI, 8, .inl (om 2))), (m_3, .inl (cI, 8, .inl (om 3))), (m_22, .inl (cI, 64, .inl (om 22))), (m_23, .inl (cI, 8, .inl (om 23))), (m_24, .inl (cI, 8, .inl (om 24))), (m_27, .inl (cI, 40, .inl (om 27))), (m_29, .inl (cI, 80, .inl (om 29))), (m_30, .inl (cZ, 2, .inl (om 30)))]
def F_X6_judge (om : Ob) (p0 : Int32) (p1 : Int32) : Option (Int32 × Ob) :=
  (F_X6_isPair om p0 p1).bind (fun q1 => (if q1 = 0 then some ((-1), om) else (F_X6_fault om).bind (fun q3 => (if q3 < 0 then (F_X6_judged om p0 p1).bind (fun q5 => some (q5.1, q5.2)) else some ((-5), om)))))
abbrev rm_X6_judge : Room := { frames := 3, cells := 0, slots := 0, locals := 71 }
abbrev wu_X6_judge : List Cond := .code yX6_judge cX6_judge 3 (some .int) :: lwG
set_option maxHeartbeats 20000000 in
set_option maxRecDepth 100000 in
theorem c_X6_judge (l : Launch) (D : va_G) (cI cZ cO : ClassId) (m_h m_1 m_2 m_3 m_22 m_23 m_24 m_27 m_29 m_30 : Nat) (sz : Nat) (om : Ob) (p0 : Int32) (p1 : Int32) (q : Int32 × Ob) (hF : F_X6_judge om p0 p1 = some q) : CtI l yX6_judge wu_X6_judge rm_X6_judge D vwCl (tyL cI cZ cO) [.ref m_h, .int p0, .int p1] (wm_X6_judge cI cZ cO m_h m_1 m_2 m_3 m_22 m_23 m_24 m_27 m_29 m_30 om) sz 0 0 (fun (r : Int32) (u : Ob) => r = q.1 ∧ u = q.2) (fun u => wm_X6_judge cI cZ cO m_h m_1 m_2 m_3 m_22 m_23 m_24 m_27 m_29 m_30 u) := by
  refine mk_i (cc := cX6_judge) (maxL := 3) (by decide) rfl (Nat.le_of_ble_eq_true rfl) ?_
  intro p e s m args below meth c A ls Q hx hb hml hown hts hin hK hP hD hS hA hl hQ
  have hl : lv_has ls 3 [(0, .ref m_h), (1, .int p0), (2, .int p1)] := hl
  unfold F_X6_judge at hF
  refine lv_aload_n hx hb dX6_judge_0 rfl (lv_at hl 0 rfl) ?_
  refine lv_iload_n hx hb dX6_judge_1 rfl (lv_at hl 1 rfl) ?_
  refine lv_iload_n hx hb dX6_judge_2 rfl (lv_at hl 2 rfl) ?_
  obtain ⟨q1, hGq1, hF⟩ := of_bind hF
  refine callVi (As := [.int p0, .int p1]) (rest := []) (wr := []) (WN := wm_X6_judge cI cZ cO m_h m_1 m_2 m_3 m_22 m_23 m_24 m_27 m_29 m_30 om) ⟨hx, hb, hml, hown, hts⟩ hK hP hD hS hA [0, 1, 2, 3, 4, 5, 6, 7, 8, 9] [] [0, 1, 2, 3, 4, 5, 6, 7, 8, 9] (c_X6_isPair l D cI cZ cO m_h m_1 m_2 m_3 m_22 m_23 m_24 m_27 m_29 m_30 _ om p0 p1 q1 hGq1) (cwV 2 hts (gV wd_650 wd_652 wd_15 wd_39 wd_653) rfl rfl rfl (by decide +kernel) ⟨Nat.le_of_ble_eq_true rfl, Nat.le_of_ble_eq_true rfl⟩) 0 6 rfl rfl rfl rfl rfl rfl rfl (by decide) rfl rfl rfl hl.1 rfl (Nat.le_of_ble_eq_true rfl) dX6_judge_3 ⟨Nat.zero_le _, Nat.zero_le _⟩ (fun H locs hP hD hS => ?_)
  refine lv_if_ne (tgt := 11) hx hb dX6_judge_6 (by decide) (fun h2 => ?_) (fun h2 => ?_)
  · replace hF := of_f h2 hF
    refine lv_aload_n hx hb dX6_judge_11 rfl (lv_at hl 0 rfl) ?_
    obtain ⟨q3, hGq3, hF⟩ := of_bind hF
    refine callVi (As := []) (rest := []) (wr := []) (WN := wm_X6_judge cI cZ cO m_h m_1 m_2 m_3 m_22 m_23 m_24 m_27 m_29 m_30 om) ⟨hx, hb, hml, hown, hts⟩ hK hP hD hS hA [0, 1, 2, 3, 4, 5, 6, 7, 8, 9] [] [0, 1, 2, 3, 4, 5, 6, 7, 8, 9] (c_X6_fault l D cI cZ cO m_h m_1 m_2 m_3 m_22 m_23 m_24 m_27 m_29 m_30 _ om q3 hGq3) (cwV 0 hts (gV wd_777 wd_770 wd_771 wd_39 wd_772) rfl rfl rfl (by decide +kernel) ⟨Nat.le_of_ble_eq_true rfl, Nat.le_of_ble_eq_true rfl⟩) 0 6 rfl rfl rfl rfl rfl rfl rfl (by decide) rfl rfl rfl hl.1 rfl (Nat.le_of_ble_eq_true rfl) dX6_judge_12 ⟨Nat.zero_le _, Nat.zero_le _⟩ (fun H locs hP hD hS => ?_)
    refine lv_if_lt (tgt := 23) hx hb dX6_judge_15 (by decide) (fun h4 => ?_) (fun h4 => ?_)
    · replace hF := of_t h4 hF
      refine lv_aload_n hx hb dX6_judge_23 rfl (lv_at hl 0 rfl) ?_
      refine lv_iload_n hx hb dX6_judge_24 rfl (lv_at hl 1 rfl) ?_
      refine lv_iload_n hx hb dX6_judge_25 rfl (lv_at hl 2 rfl) ?_
      obtain ⟨q5, hGq5, hF⟩ := of_bind hF
      refine callVi (As := [.int p0, .int p1]) (rest := []) (wr := []) (WN := wm_X6_judge cI cZ cO m_h m_1 m_2 m_3 m_22 m_23 m_24 m_27 m_29 m_30 q5.2) ⟨hx, hb, hml, hown, hts⟩ hK hP hD hS hA [0, 1, 2, 3, 4, 5, 6, 7, 8, 9] [] [0, 1, 2, 3, 4, 5, 6, 7, 8, 9] (c_X6_judged l D cI cZ cO m_h m_1 m_2 m_3 m_22 m_23 m_24 m_27 m_29 m_30 _ om p0 p1 q5 hGq5) (cwV 2 hts (gV wd_778 wd_780 wd_29 wd_39 wd_781) rfl rfl rfl (by decide +kernel) ⟨Nat.le_of_ble_eq_true rfl, Nat.le_of_ble_eq_true rfl⟩) 0 6 rfl rfl rfl rfl rfl rfl rfl (by decide) rfl rfl rfl hl.1 rfl (Nat.le_of_ble_eq_true rfl) dX6_judge_26 ⟨Nat.zero_le _, Nat.zero_le _⟩ (fun H locs hP hD hS => ?_)
      exact hQ _ _ _ _ _ q5.2 ⟨inj_fst hF, inj_snd hF⟩ hP hD hS dX6_judge_29
    · replace hF := of_f h4 hF
      refine lv_bipush (v := (-5)) hx hb dX6_judge_18 (by decide) ?_
      refine lv_goto (tgt := 29) hx hb dX6_judge_20 (by decide) ?_
      exact hQ _ _ _ _ _ om ⟨inj_fst hF, inj_snd hF⟩ hP hD hS dX6_judge_29
  · replace hF := of_t h2 hF
    refine lv_iconst (v := (-1)) hx hb dX6_judge_9 (by decide) ?_
    exact hQ _ _ _ _ _ om ⟨inj_fst hF, inj_snd hF⟩ hP hD hS dX6_judge_10

/-! ### ThreeLegsModel.fits(I)I -/
abbrev wm_X6_fits (cI cZ cO : ClassId) (m_h m_1 m_2 m_3 m_22 m_23 m_24 m_27 m_29 m_30 : Nat) (om : Ob) : va_W := [(m_h, .inr (6, [.int (om 0 0), .ref m_1, .ref m_2, .ref m_3, .int (om 4 0), .int (om 5 0), .int (om 6 0), .int (om 7 0), .int (om 8 0), .int (om 9 0), .int (om 10 0), .int (om 11 0), .int (om 12 0), .int (om 13 0), .int (om 14 0), .int (om 15 0), .int (om 16 0), .int (om 17 0), .int (om 18 0), .int (om 19 0), .int (om 20 0), .int (om 21 0), .ref m_22, .ref m_23, .ref m_24, .int (om 25 0), .int (om 26 0), .ref m_27, .int (om 28 0), .ref m_29, .ref m_30, .int (om 31 0), .int (om 32 0)])), (m_1, .inl (cI, 8, .inl (om 1))), (m_2, .inl (cI, 8, .inl (om 2))), (m_3, .inl (cI, 8, .inl (om 3))), (m_22, .inl (cI, 64, .inl (om 22))), (m_23, .inl (cI, 8, .inl (om 23))), (m_24, .inl (cI, 8, .inl (om 24))), (m_27, .inl (cI, 40, .inl (om 27))), (m_29, .inl (cI, 80, .inl (om 29))), (m_30, .inl (cZ, 2, .inl (om 30)))]
def L_X6_fits_25 : Nat → Int32 → Int32 → Int32 → Int32 → Ob → (Int32 → Ob → Option (Int32 × Ob)) → Option (Int32 × Ob)
  | 0, _, _, _, _, _, _ => none
  | n22 + 1, p0, v8, v18, v19, om20, K14 =>
    (if 8 ≤ v19 then K14 v18 om20 else (F_X6_isPair om20 v8 v19).bind (fun q24 => (if q24 = 0 then dd (v19 + 1) (fun (v26 : Int32) => L_X6_fits_25 n22 p0 v8 v18 v26 om20 K14) else (F_X6_judged om20 v8 v19).bind (fun q27 => (if 0 ≤ q27.1 then dd (v19 + 1) (fun (v29 : Int32) => L_X6_fits_25 n22 p0 v8 v18 v29 q27.2 K14) else (if v18 = p0 then dd (10 * v8) (fun (v33 : Int32) => dd (v33 + v19) (fun (v34 : Int32) => some (v34, q27.2))) else dd (v18 + 1) (fun (v31 : Int32) => dd (v19 + 1) (fun (v32 : Int32) => L_X6_fits_25 n22 p0 v8 v31 v32 q27.2 K14))))))))
def L_X6_fits_14 : Nat → Int32 → Int32 → Int32 → Ob → (Int32 → Ob → Option (Int32 × Ob)) → Option (Int32 × Ob)
  | 0, _, _, _, _, _ => none
  | n11 + 1, p0, v7, v8, om9, K3 =>
    (if 8 ≤ v8 then K3 v7 om9 else dd (v8 + 1) (fun (v13 : Int32) => jn (fun (v15 : Int32) (om16 : Ob) => dd (v8 + 1) (fun (v17 : Int32) => L_X6_fits_14 n11 p0 v15 v17 om16 K3)) (fun (K14 : Int32 → Ob → Option (Int32 × Ob)) => L_X6_fits_25 2000 p0 v8 v7 v13 om9 K14)))
def F_X6_fits (om : Ob) (p0 : Int32) : Option (Int32 × Ob) :=
  (F_X6_fault om).bind (fun q1 => (if q1 < 0 then jn (fun (v4 : Int32) (om5 : Ob) => (if p0 = (-1) then some (v4, om5) else some ((-6), om5))) (fun (K3 : Int32 → Ob → Option (Int32 × Ob)) => L_X6_fits_14 2000 p0 0 0 om K3) else some ((-5), om)))
abbrev rm_X6_fits : Room := { frames := 3, cells := 0, slots := 0, locals := 71 }
abbrev wu_X6_fits : List Cond := .code yX6_fits cX6_fits 5 (some .int) :: lwG
set_option maxHeartbeats 20000000 in
set_option maxRecDepth 100000 in
theorem c_X6_fits (l : Launch) (D : va_G) (cI cZ cO : ClassId) (m_h m_1 m_2 m_3 m_22 m_23 m_24 m_27 m_29 m_30 : Nat) (sz : Nat) (om : Ob) (p0 : Int32) (q : Int32 × Ob) (hF : F_X6_fits om p0 = some q) : CtI l yX6_fits wu_X6_fits rm_X6_fits D vwCl (tyL cI cZ cO) [.ref m_h, .int p0] (wm_X6_fits cI cZ cO m_h m_1 m_2 m_3 m_22 m_23 m_24 m_27 m_29 m_30 om) sz 0 0 (fun (r : Int32) (u : Ob) => r = q.1 ∧ u = q.2) (fun u => wm_X6_fits cI cZ cO m_h m_1 m_2 m_3 m_22 m_23 m_24 m_27 m_29 m_30 u) := by
  refine mk_i (cc := cX6_fits) (maxL := 5) (by decide) rfl (Nat.le_of_ble_eq_true rfl) ?_
  intro p e s m args below meth c A ls Q hx hb hml hown hts hin hK hP hD hS hA hl hQ
  have hl : lv_has ls 5 [(0, .ref m_h), (1, .int p0)] := hl
  unfold F_X6_fits at hF
  refine lv_aload_n hx hb dX6_fits_0 rfl (lv_at hl 0 rfl) ?_
  obtain ⟨q1, hGq1, hF⟩ := of_bind hF
  refine callVi (As := []) (rest := []) (wr := []) (WN := wm_X6_fits cI cZ cO m_h m_1 m_2 m_3 m_22 m_23 m_24 m_27 m_29 m_30 om) ⟨hx, hb, hml, hown, hts⟩ hK hP hD hS hA [0, 1, 2, 3, 4, 5, 6, 7, 8, 9] [] [0, 1, 2, 3, 4, 5, 6, 7, 8, 9] (c_X6_fault l D cI cZ cO m_h m_1 m_2 m_3 m_22 m_23 m_24 m_27 m_29 m_30 _ om q1 hGq1) (cwV 0 hts (gV wd_777 wd_770 wd_771 wd_39 wd_772) rfl rfl rfl (by decide +kernel) ⟨Nat.le_of_ble_eq_true rfl, Nat.le_of_ble_eq_true rfl⟩) 0 6 rfl rfl rfl rfl rfl rfl rfl (by decide) rfl rfl rfl hl.1 rfl (Nat.le_of_ble_eq_true rfl) dX6_fits_1 ⟨Nat.zero_le _, Nat.zero_le _⟩ (fun H locs hP hD hS => ?_)
  refine lv_if_lt (tgt := 10) hx hb dX6_fits_4 (by decide) (fun h2 => ?_) (fun h2 => ?_)
  · replace hF := of_t h2 hF
    refine lv_iconst (v := 0) hx hb dX6_fits_10 (by decide) ?_
    refine lv_istore_n (lv' := [(2, .int 0), (0, .ref m_h), (1, .int p0)]) hx hb dX6_fits_11 rfl hl (by decide) rfl (fun ls hl => ?_)
    refine lv_iconst (v := 0) hx hb dX6_fits_12 (by decide) ?_
    refine lv_istore_n (lv' := [(3, .int 0), (2, .int 0), (0, .ref m_h), (1, .int p0)]) hx hb dX6_fits_13 rfl hl (by decide) rfl (fun ls hl => ?_)
    obtain ⟨K3, eK3, hF⟩ := of_jn hF
    have hK3 : ∀ (v4 : Int32) (om5 : Ob) (ls : Array Slot) (H : Heap) (locs : List Loc), lv_has ls 5 [(1, .int p0), (2, .int v4)] → va_P D vwCl (wm_X6_fits cI cZ cO m_h m_1 m_2 m_3 m_22 m_23 m_24 m_27 m_29 m_30 om5) H → va_D A (wm_X6_fits cI cZ cO m_h m_1 m_2 m_3 m_22 m_23 m_24 m_27 m_29 m_30 om5) → va_S A s.heap H locs → K3 v4 om5 = some q → W p l e rm_X6_fits s m args below meth c H locs 0 0 Q (F0 m 80 ls []) := by
      intro v4 om5 ls H locs hl hP hD hS hF
      subst eK3
      refine lv_iload_n hx hb dX6_fits_80 rfl (lv_at hl 0 rfl) ?_
      refine lv_iconst (v := (-1)) hx hb dX6_fits_81 (by decide) ?_
      refine lv_icmp_ne (tgt := 89) hx hb dX6_fits_82 (by decide) (fun h6 => ?_) (fun h6 => ?_)
      · replace hF := of_f h6 hF
        refine lv_bipush (v := (-6)) hx hb dX6_fits_89 (by decide) ?_
        exact hQ _ _ _ _ _ om5 ⟨inj_fst hF, inj_snd hF⟩ hP hD hS dX6_fits_91
      · replace hF := of_t h6 hF
        refine lv_iload_n hx hb dX6_fits_85 rfl (lv_at hl 1 rfl) ?_
        refine lv_goto (tgt := 91) hx hb dX6_fits_86 (by decide) ?_
        exact hQ _ _ _ _ _ om5 ⟨inj_fst hF, inj_snd hF⟩ hP hD hS dX6_fits_91
    have hloop36 : ∀ (n11 : Nat) (v7 : Int32) (v8 : Int32) (om9 : Ob) (ls : Array Slot) (H : Heap) (locs : List Loc), lv_has ls 5 [(0, .ref m_h), (1, .int p0), (2, .int v7), (3, .int v8)] → va_P D vwCl (wm_X6_fits cI cZ cO m_h m_1 m_2 m_3 m_22 m_23 m_24 m_27 m_29 m_30 om9) H → va_D A (wm_X6_fits cI cZ cO m_h m_1 m_2 m_3 m_22 m_23 m_24 m_27 m_29 m_30 om9) → va_S A s.heap H locs → L_X6_fits_14 n11 p0 v7 v8 om9 K3 = some q → W p l e rm_X6_fits s m args below meth c H locs 0 0 Q (F0 m 14 ls []) := by
      intro n11
      induction n11 with
      | zero =>
        intro v7 v8 om9 ls H locs hl hP hD hS hF
        exact of_none hF
      | succ n11 ih10 =>
        intro v7 v8 om9 ls H locs hl hP hD hS hF
        rw [L_X6_fits_14.eq_2] at hF
        refine lv_iload_n hx hb dX6_fits_14 rfl (lv_at hl 3 rfl) ?_
        refine lv_bipush (v := 8) hx hb dX6_fits_15 (by decide) ?_
        refine lv_icmp_ge (tgt := 80) hx hb dX6_fits_17 (by decide) (fun h12 => ?_) (fun h12 => ?_)
        · replace hF := of_t h12 hF
          exact hK3 v7 om9 ls _ _ (lv_sub hl [1, 2] rfl) hP hD hS hF
        · replace hF := of_f h12 hF
          refine lv_iload_n hx hb dX6_fits_20 rfl (lv_at hl 3 rfl) ?_
          refine lv_iconst (v := 1) hx hb dX6_fits_21 (by decide) ?_
          refine lv_iadd hx hb dX6_fits_22 ?_
          refine lv_topi (fun v13 ev13 => ?_)
          replace hF := of_dd hF v13 ev13
          refine lv_istore (lv' := [(4, .int v13), (0, .ref m_h), (1, .int p0), (2, .int v7), (3, .int v8)]) hx hb dX6_fits_23 hl (by decide) rfl (fun ls hl => ?_)
          obtain ⟨K14, eK14, hF⟩ := of_jn hF
          have hK14 : ∀ (v15 : Int32) (om16 : Ob) (ls : Array Slot) (H : Heap) (locs : List Loc), lv_has ls 5 [(0, .ref m_h), (1, .int p0), (2, .int v15), (3, .int v8)] → va_P D vwCl (wm_X6_fits cI cZ cO m_h m_1 m_2 m_3 m_22 m_23 m_24 m_27 m_29 m_30 om16) H → va_D A (wm_X6_fits cI cZ cO m_h m_1 m_2 m_3 m_22 m_23 m_24 m_27 m_29 m_30 om16) → va_S A s.heap H locs → K14 v15 om16 = some q → W p l e rm_X6_fits s m args below meth c H locs 0 0 Q (F0 m 74 ls []) := by
            intro v15 om16 ls H locs hl hP hD hS hF
            subst eK14
            obtain ⟨v17, ev17⟩ : ∃ y : Int32, y = v8 + 1 := ⟨_, rfl⟩
            replace hF := of_dd hF v17 ev17
            refine lv_iinc (v := v17) (lv' := [(3, .int v17), (0, .ref m_h), (1, .int p0), (2, .int v15)]) hx hb dX6_fits_74 hl (k := 3) rfl (by rw [ev17]; rfl) (by decide) rfl (fun ls hl => ?_)
            refine lv_goto (tgt := 14) hx hb dX6_fits_77 (by decide) ?_
            exact ih10 v15 v17 om16 ls _ _ (lv_sub hl [1, 2, 3, 0] rfl) hP hD hS hF
          have hloop35 : ∀ (n22 : Nat) (v18 : Int32) (v19 : Int32) (om20 : Ob) (ls : Array Slot) (H : Heap) (locs : List Loc), lv_has ls 5 [(0, .ref m_h), (1, .int p0), (2, .int v18), (3, .int v8), (4, .int v19)] → va_P D vwCl (wm_X6_fits cI cZ cO m_h m_1 m_2 m_3 m_22 m_23 m_24 m_27 m_29 m_30 om20) H → va_D A (wm_X6_fits cI cZ cO m_h m_1 m_2 m_3 m_22 m_23 m_24 m_27 m_29 m_30 om20) → va_S A s.heap H locs → L_X6_fits_25 n22 p0 v8 v18 v19 om20 K14 = some q → W p l e rm_X6_fits s m args below meth c H locs 0 0 Q (F0 m 25 ls []) := by
            intro n22
            induction n22 with
            | zero =>
              intro v18 v19 om20 ls H locs hl hP hD hS hF
              exact of_none hF
            | succ n22 ih21 =>
              intro v18 v19 om20 ls H locs hl hP hD hS hF
              rw [L_X6_fits_25.eq_2] at hF
              refine lv_iload hx hb dX6_fits_25 (lv_at hl 4 rfl) ?_
              refine lv_bipush (v := 8) hx hb dX6_fits_27 (by decide) ?_
              refine lv_icmp_ge (tgt := 74) hx hb dX6_fits_29 (by decide) (fun h23 => ?_) (fun h23 => ?_)
              · replace hF := of_t h23 hF
                exact hK14 v18 om20 ls _ _ (lv_sub hl [0, 1, 2, 3] rfl) hP hD hS hF
              · replace hF := of_f h23 hF
                refine lv_aload_n hx hb dX6_fits_32 rfl (lv_at hl 0 rfl) ?_
                refine lv_iload_n hx hb dX6_fits_33 rfl (lv_at hl 3 rfl) ?_
                refine lv_iload hx hb dX6_fits_34 (lv_at hl 4 rfl) ?_
                obtain ⟨q24, hGq24, hF⟩ := of_bind hF
                refine callVi (As := [.int v8, .int v19]) (rest := []) (wr := []) (WN := wm_X6_fits cI cZ cO m_h m_1 m_2 m_3 m_22 m_23 m_24 m_27 m_29 m_30 om20) ⟨hx, hb, hml, hown, hts⟩ hK hP hD hS hA [0, 1, 2, 3, 4, 5, 6, 7, 8, 9] [] [0, 1, 2, 3, 4, 5, 6, 7, 8, 9] (c_X6_isPair l D cI cZ cO m_h m_1 m_2 m_3 m_22 m_23 m_24 m_27 m_29 m_30 _ om20 v8 v19 q24 hGq24) (cwV 2 hts (gV wd_650 wd_652 wd_15 wd_39 wd_653) rfl rfl rfl (by decide +kernel) ⟨Nat.le_of_ble_eq_true rfl, Nat.le_of_ble_eq_true rfl⟩) 0 6 rfl rfl rfl rfl rfl rfl rfl (by decide) rfl rfl rfl hl.1 rfl (Nat.le_of_ble_eq_true rfl) dX6_fits_36 ⟨Nat.zero_le _, Nat.zero_le _⟩ (fun H locs hP hD hS => ?_)
                refine lv_if_eq (tgt := 68) hx hb dX6_fits_39 (by decide) (fun h25 => ?_) (fun h25 => ?_)
                · replace hF := of_t h25 hF
                  obtain ⟨v26, ev26⟩ : ∃ y : Int32, y = v19 + 1 := ⟨_, rfl⟩
                  replace hF := of_dd hF v26 ev26
                  refine lv_iinc (v := v26) (lv' := [(4, .int v26), (0, .ref m_h), (1, .int p0), (2, .int v18), (3, .int v8)]) hx hb dX6_fits_68 hl (k := 4) rfl (by rw [ev26]; rfl) (by decide) rfl (fun ls hl => ?_)
                  refine lv_goto (tgt := 25) hx hb dX6_fits_71 (by decide) ?_
                  exact ih21 v18 v26 om20 ls _ _ (lv_sub hl [1, 2, 3, 4, 0] rfl) hP hD hS hF
                · replace hF := of_f h25 hF
                  refine lv_aload_n hx hb dX6_fits_42 rfl (lv_at hl 0 rfl) ?_
                  refine lv_iload_n hx hb dX6_fits_43 rfl (lv_at hl 3 rfl) ?_
                  refine lv_iload hx hb dX6_fits_44 (lv_at hl 4 rfl) ?_
                  obtain ⟨q27, hGq27, hF⟩ := of_bind hF
                  refine callVi (As := [.int v8, .int v19]) (rest := []) (wr := []) (WN := wm_X6_fits cI cZ cO m_h m_1 m_2 m_3 m_22 m_23 m_24 m_27 m_29 m_30 q27.2) ⟨hx, hb, hml, hown, hts⟩ hK hP hD hS hA [0, 1, 2, 3, 4, 5, 6, 7, 8, 9] [] [0, 1, 2, 3, 4, 5, 6, 7, 8, 9] (c_X6_judged l D cI cZ cO m_h m_1 m_2 m_3 m_22 m_23 m_24 m_27 m_29 m_30 _ om20 v8 v19 q27 hGq27) (cwV 2 hts (gV wd_778 wd_780 wd_29 wd_39 wd_781) rfl rfl rfl (by decide +kernel) ⟨Nat.le_of_ble_eq_true rfl, Nat.le_of_ble_eq_true rfl⟩) 0 6 rfl rfl rfl rfl rfl rfl rfl (by decide) rfl rfl rfl hl.1 rfl (Nat.le_of_ble_eq_true rfl) dX6_fits_46 ⟨Nat.zero_le _, Nat.zero_le _⟩ (fun H locs hP hD hS => ?_)
                  refine lv_if_ge (tgt := 68) hx hb dX6_fits_49 (by decide) (fun h28 => ?_) (fun h28 => ?_)
                  · replace hF := of_t h28 hF
                    obtain ⟨v29, ev29⟩ : ∃ y : Int32, y = v19 + 1 := ⟨_, rfl⟩
                    replace hF := of_dd hF v29 ev29
                    refine lv_iinc (v := v29) (lv' := [(4, .int v29), (0, .ref m_h), (1, .int p0), (2, .int v18), (3, .int v8)]) hx hb dX6_fits_68 hl (k := 4) rfl (by rw [ev29]; rfl) (by decide) rfl (fun ls hl => ?_)
                    refine lv_goto (tgt := 25) hx hb dX6_fits_71 (by decide) ?_
                    exact ih21 v18 v29 q27.2 ls _ _ (lv_sub hl [1, 2, 3, 4, 0] rfl) hP hD hS hF
                  · replace hF := of_f h28 hF
                    refine lv_iload_n hx hb dX6_fits_52 rfl (lv_at hl 2 rfl) ?_
                    refine lv_iload_n hx hb dX6_fits_53 rfl (lv_at hl 1 rfl) ?_
                    refine lv_icmp_ne (tgt := 65) hx hb dX6_fits_54 (by decide) (fun h30 => ?_) (fun h30 => ?_)
                    · replace hF := of_f h30 hF
                      obtain ⟨v31, ev31⟩ : ∃ y : Int32, y = v18 + 1 := ⟨_, rfl⟩
                      replace hF := of_dd hF v31 ev31
                      refine lv_iinc (v := v31) (lv' := [(2, .int v31), (0, .ref m_h), (1, .int p0), (3, .int v8), (4, .int v19)]) hx hb dX6_fits_65 hl (k := 2) rfl (by rw [ev31]; rfl) (by decide) rfl (fun ls hl => ?_)
                      obtain ⟨v32, ev32⟩ : ∃ y : Int32, y = v19 + 1 := ⟨_, rfl⟩
                      replace hF := of_dd hF v32 ev32
                      refine lv_iinc (v := v32) (lv' := [(4, .int v32), (2, .int v31), (0, .ref m_h), (1, .int p0), (3, .int v8)]) hx hb dX6_fits_68 hl (k := 4) rfl (by rw [ev32]; rfl) (by decide) rfl (fun ls hl => ?_)
                      refine lv_goto (tgt := 25) hx hb dX6_fits_71 (by decide) ?_
                      exact ih21 v31 v32 q27.2 ls _ _ (lv_sub hl [2, 3, 1, 4, 0] rfl) hP hD hS hF
                    · replace hF := of_t h30 hF
                      refine lv_bipush (v := 10) hx hb dX6_fits_57 (by decide) ?_
                      refine lv_iload_n hx hb dX6_fits_59 rfl (lv_at hl 3 rfl) ?_
                      refine lv_imul hx hb dX6_fits_60 ?_
                      refine lv_topi (fun v33 ev33 => ?_)
                      replace hF := of_dd hF v33 ev33
                      refine lv_iload hx hb dX6_fits_61 (lv_at hl 4 rfl) ?_
                      refine lv_iadd hx hb dX6_fits_63 ?_
                      refine lv_topi (fun v34 ev34 => ?_)
                      replace hF := of_dd hF v34 ev34
                      exact hQ _ _ _ _ _ q27.2 ⟨inj_fst hF, inj_snd hF⟩ hP hD hS dX6_fits_64
          exact hloop35 2000 v7 v13 om9 ls _ _ (lv_sub hl [1, 2, 3, 4, 0] rfl) hP hD hS hF
    exact hloop36 2000 0 0 om ls _ _ (lv_sub hl [2, 3, 1, 0] rfl) hP hD hS hF
  · replace hF := of_f h2 hF
    refine lv_bipush (v := (-5)) hx hb dX6_fits_7 (by decide) ?_
    exact hQ _ _ _ _ _ om ⟨inj_fst hF, inj_snd hF⟩ hP hD hS dX6_fits_9

/-! ### ThreeLegsModel.year(IIII)I -/
abbrev wm_X6_year (cI cZ cO : ClassId) (m_h m_1 m_2 m_3 m_22 m_23 m_24 m_27 m_29 m_30 : Nat) (om : Ob) : va_W := [(m_h, .inr (6, [.int (om 0 0), .ref m_1, .ref m_2, .ref m_3, .int (om 4 0), .int (om 5 0), .int (om 6 0), .int (om 7 0), .int (om 8 0), .int (om 9 0), .int (om 10 0), .int (om 11 0), .int (om 12 0), .int (om 13 0), .int (om 14 0), .int (om 15 0), .int (om 16 0), .int (om 17 0), .int (om 18 0), .int (om 19 0), .int (om 20 0), .int (om 21 0), .ref m_22, .ref m_23, .ref m_24, .int (om 25 0), .int (om 26 0), .ref m_27, .int (om 28 0), .ref m_29, .ref m_30, .int (om 31 0), .int (om 32 0)])), (m_1, .inl (cI, 8, .inl (om 1))), (m_2, .inl (cI, 8, .inl (om 2))), (m_3, .inl (cI, 8, .inl (om 3))), (m_22, .inl (cI, 64, .inl (om 22))), (m_23, .inl (cI, 8, .inl (om 23))), (m_24, .inl (cI, 8, .inl (om 24))), (m_27, .inl (cI, 40, .inl (om 27))), (m_29, .inl (cI, 80, .inl (om 29))), (m_30, .inl (cZ, 2, .inl (om 30)))]
def L_X6_year_70 : Nat → Int32 → Int32 → Int32 → Int32 → Int32 → Int32 → Int32 → Int32 → Ob → (Int32 → Int32 → Int32 → Ob → Option (Int32 × Ob)) → Option (Int32 × Ob)
  | 0, _, _, _, _, _, _, _, _, _, _ => none
  | n25 + 1, p1, p2, p3, v18, v19, v20, v21, v22, om23, K10 =>
    (if p1 ≤ v22 then K10 v19 v20 v21 om23 else dd ((75 : Int64) * (Int32.toInt64 v18)) (fun (v27 : Int64) => dd (v27 + (74 : Int64)) (fun (v28 : Int64) => dd (v28 - v28 / (65537 : Int64) * (65537 : Int64)) (fun (v29 : Int64) => dd ((Int64.toInt32 v29) - (Int64.toInt32 v29) / 8 * 8) (fun (v30 : Int32) => dd ((Int64.toInt32 v29) / 8) (fun (v31 : Int32) => dd (v31 - v31 / 8 * 8) (fun (v32 : Int32) => (F_X6_isPair om23 v30 v32).bind (fun q33 => (if q33 = 0 then dd (v22 + 1) (fun (v35 : Int32) => L_X6_year_70 n25 p1 p2 p3 (Int64.toInt32 v29) v19 v20 v21 v35 om23 K10) else (F_X6_layPair om23 v30 v32).bind (fun q36 => (F_X6_timeOf q36 p2).bind (fun q37 => dd (v19 + 1) (fun (v38 : Int32) => jn (fun (v40 : Int32) => dd (v20 + v40) (fun (v41 : Int32) => (if v21 ≤ q37.1 then dd (v22 + 1) (fun (v43 : Int32) => L_X6_year_70 n25 p1 p2 p3 (Int64.toInt32 v29) v38 v41 v21 v43 q37.2 K10) else dd (v22 + 1) (fun (v44 : Int32) => L_X6_year_70 n25 p1 p2 p3 (Int64.toInt32 v29) v38 v41 q37.1 v44 q37.2 K10)))) (fun (K39 : Int32 → Option (Int32 × Ob)) => jn (K39 0) (fun (K45 : Option (Int32 × Ob)) => (if 1000000000 ≤ q37.1 then K45 else jn (K39 1) (fun (K47 : Option (Int32 × Ob)) => (if v30 = p3 then K47 else (if v32 = p3 then K47 else K45))))))))))))))))))
def F_X6_year (om : Ob) (p0 : Int32) (p1 : Int32) (p2 : Int32) (p3 : Int32) : Option (Int32 × Ob) :=
  (F_X6_in (Int32.toInt64 p0) (0 : Int64) (9999 : Int64)).bind (fun q1 => (if q1 = 0 then some ((-2), om) else (F_X6_in (Int32.toInt64 p1) (1 : Int64) (99 : Int64)).bind (fun q3 => (if q3 = 0 then some ((-2), om) else (F_X6_isFar p2).bind (fun q5 => (if q5 = 0 then some ((-2), om) else (F_X6_in (Int32.toInt64 p3) (-1 : Int64) (8 : Int64)).bind (fun q7 => (if q7 = 0 then some ((-2), om) else (F_X6_findTimes om p2).bind (fun q9 => jn (fun (v11 : Int32) (v12 : Int32) (v13 : Int32) (om14 : Ob) => (if p3 = (-1) then some (v11, om14) else (if 8 ≤ p3 then (if v13 = 1000000000 then some ((-6), om14) else some (v13, om14)) else some (v12, om14)))) (fun (K10 : Int32 → Int32 → Int32 → Ob → Option (Int32 × Ob)) => L_X6_year_70 2000 p1 p2 p3 p0 0 0 1000000000 0 q9 K10))))))))))
abbrev rm_X6_year : Room := { frames := 4, cells := 0, slots := 0, locals := 93 }
abbrev wu_X6_year : List Cond := .code yX6_year cX6_year 13 (some .int) :: lwG
set_option maxHeartbeats 20000000 in
set_option maxRecDepth 100000 in
theorem c_X6_year (l : Launch) (D : va_G) (cI cZ cO : ClassId) (m_h m_1 m_2 m_3 m_22 m_23 m_24 m_27 m_29 m_30 : Nat) (sz : Nat) (om : Ob) (p0 : Int32) (p1 : Int32) (p2 : Int32) (p3 : Int32) (q : Int32 × Ob) (hF : F_X6_year om p0 p1 p2 p3 = some q) : CtI l yX6_year wu_X6_year rm_X6_year D vwCl (tyL cI cZ cO) [.ref m_h, .int p0, .int p1, .int p2, .int p3] (wm_X6_year cI cZ cO m_h m_1 m_2 m_3 m_22 m_23 m_24 m_27 m_29 m_30 om) sz 0 0 (fun (r : Int32) (u : Ob) => r = q.1 ∧ u = q.2) (fun u => wm_X6_year cI cZ cO m_h m_1 m_2 m_3 m_22 m_23 m_24 m_27 m_29 m_30 u) := by
  refine mk_i (cc := cX6_year) (maxL := 13) (by decide) rfl (Nat.le_of_ble_eq_true rfl) ?_
  intro p e s m args below meth c A ls Q hx hb hml hown hts hin hK hP hD hS hA hl hQ
  have hl : lv_has ls 13 [(0, .ref m_h), (1, .int p0), (2, .int p1), (3, .int p2), (4, .int p3)] := hl
  unfold F_X6_year at hF
  refine lv_iload_n hx hb dX6_year_0 rfl (lv_at hl 1 rfl) ?_
  refine lv_i2l hx hb dX6_year_1 rfl ?_
  refine lv_lconst (v := 0) hx hb dX6_year_2 (by decide) ?_
  refine lv_ldc2 hx hb hown (hts _ wd_754) dX6_year_3 ?_
  obtain ⟨q1, hGq1, hF⟩ := of_bind hF
  refine callSi (As := [.long (Int32.toInt64 p0), .long (0 : Int64), .long (9999 : Int64)]) (rest := []) ⟨hx, hb, hml, hown, hts⟩ hK hP hD hS hA (c_X6_in l D cI cZ cO  _ (Int32.toInt64 p0) (0 : Int64) (9999 : Int64) q1 hGq1) (va_cwS 3 hts (gS wd_624 wd_625 wd_39 wd_626) rfl rfl rfl (by decide +kernel) ⟨Nat.le_of_ble_eq_true rfl, Nat.le_of_ble_eq_true rfl⟩) rfl hl.1 rfl (Nat.le_of_ble_eq_true rfl) dX6_year_6 ⟨Nat.zero_le _, Nat.zero_le _⟩ (fun H locs hP hS => ?_)
  refine lv_if_eq (tgt := 46) hx hb dX6_year_9 (by decide) (fun h2 => ?_) (fun h2 => ?_)
  · replace hF := of_t h2 hF
    refine lv_bipush (v := (-2)) hx hb dX6_year_46 (by decide) ?_
    exact hQ _ _ _ _ _ om ⟨inj_fst hF, inj_snd hF⟩ hP hD hS dX6_year_48
  · replace hF := of_f h2 hF
    refine lv_iload_n hx hb dX6_year_12 rfl (lv_at hl 2 rfl) ?_
    refine lv_i2l hx hb dX6_year_13 rfl ?_
    refine lv_lconst (v := 1) hx hb dX6_year_14 (by decide) ?_
    refine lv_ldc2 hx hb hown (hts _ wd_645) dX6_year_15 ?_
    obtain ⟨q3, hGq3, hF⟩ := of_bind hF
    refine callSi (As := [.long (Int32.toInt64 p1), .long (1 : Int64), .long (99 : Int64)]) (rest := []) ⟨hx, hb, hml, hown, hts⟩ hK hP hD hS hA (c_X6_in l D cI cZ cO  _ (Int32.toInt64 p1) (1 : Int64) (99 : Int64) q3 hGq3) (va_cwS 3 hts (gS wd_624 wd_625 wd_39 wd_626) rfl rfl rfl (by decide +kernel) ⟨Nat.le_of_ble_eq_true rfl, Nat.le_of_ble_eq_true rfl⟩) rfl hl.1 rfl (Nat.le_of_ble_eq_true rfl) dX6_year_18 ⟨Nat.zero_le _, Nat.zero_le _⟩ (fun H locs hP hS => ?_)
    refine lv_if_eq (tgt := 46) hx hb dX6_year_21 (by decide) (fun h4 => ?_) (fun h4 => ?_)
    · replace hF := of_t h4 hF
      refine lv_bipush (v := (-2)) hx hb dX6_year_46 (by decide) ?_
      exact hQ _ _ _ _ _ om ⟨inj_fst hF, inj_snd hF⟩ hP hD hS dX6_year_48
    · replace hF := of_f h4 hF
      refine lv_iload_n hx hb dX6_year_24 rfl (lv_at hl 3 rfl) ?_
      obtain ⟨q5, hGq5, hF⟩ := of_bind hF
      refine callSi (As := [.int p2]) (rest := []) ⟨hx, hb, hml, hown, hts⟩ hK hP hD hS hA (c_X6_isFar l D cI cZ cO  _ p2 q5 hGq5) (va_cwS 1 hts (gS wd_682 wd_683 wd_39 wd_684) rfl rfl rfl (by decide +kernel) ⟨Nat.le_of_ble_eq_true rfl, Nat.le_of_ble_eq_true rfl⟩) rfl hl.1 rfl (Nat.le_of_ble_eq_true rfl) dX6_year_25 ⟨Nat.zero_le _, Nat.zero_le _⟩ (fun H locs hP hS => ?_)
      refine lv_if_eq (tgt := 46) hx hb dX6_year_28 (by decide) (fun h6 => ?_) (fun h6 => ?_)
      · replace hF := of_t h6 hF
        refine lv_bipush (v := (-2)) hx hb dX6_year_46 (by decide) ?_
        exact hQ _ _ _ _ _ om ⟨inj_fst hF, inj_snd hF⟩ hP hD hS dX6_year_48
      · replace hF := of_f h6 hF
        refine lv_iload hx hb dX6_year_31 (lv_at hl 4 rfl) ?_
        refine lv_i2l hx hb dX6_year_33 rfl ?_
        refine lv_ldc2 hx hb hown (hts _ wd_790) dX6_year_34 ?_
        refine lv_ldc2 hx hb hown (hts _ wd_791) dX6_year_37 ?_
        obtain ⟨q7, hGq7, hF⟩ := of_bind hF
        refine callSi (As := [.long (Int32.toInt64 p3), .long (-1 : Int64), .long (8 : Int64)]) (rest := []) ⟨hx, hb, hml, hown, hts⟩ hK hP hD hS hA (c_X6_in l D cI cZ cO  _ (Int32.toInt64 p3) (-1 : Int64) (8 : Int64) q7 hGq7) (va_cwS 3 hts (gS wd_624 wd_625 wd_39 wd_626) rfl rfl rfl (by decide +kernel) ⟨Nat.le_of_ble_eq_true rfl, Nat.le_of_ble_eq_true rfl⟩) rfl hl.1 rfl (Nat.le_of_ble_eq_true rfl) dX6_year_40 ⟨Nat.zero_le _, Nat.zero_le _⟩ (fun H locs hP hS => ?_)
        refine lv_if_ne (tgt := 49) hx hb dX6_year_43 (by decide) (fun h8 => ?_) (fun h8 => ?_)
        · replace hF := of_f h8 hF
          refine lv_aload_n hx hb dX6_year_49 rfl (lv_at hl 0 rfl) ?_
          refine lv_iload_n hx hb dX6_year_50 rfl (lv_at hl 3 rfl) ?_
          obtain ⟨q9, hGq9, hF⟩ := of_bind hF
          refine callVv (As := [.int p2]) (rest := []) (wr := []) (WN := wm_X6_year cI cZ cO m_h m_1 m_2 m_3 m_22 m_23 m_24 m_27 m_29 m_30 q9) ⟨hx, hb, hml, hown, hts⟩ hK hP hD hS hA [0, 1, 2, 3, 4, 5, 6, 7, 8, 9] [] [0, 1, 2, 3, 4, 5, 6, 7, 8, 9] (c_X6_findTimes l D cI cZ cO m_h m_1 m_2 m_3 m_22 m_23 m_24 m_27 m_29 m_30 _ om p2 q9 hGq9) (cwV 1 hts (gV wd_702 wd_704 wd_22 wd_39 wd_705) rfl rfl rfl (by decide +kernel) ⟨Nat.le_of_ble_eq_true rfl, Nat.le_of_ble_eq_true rfl⟩) 0 6 rfl rfl rfl rfl rfl rfl rfl (by decide) rfl rfl rfl hl.1 rfl (Nat.le_of_ble_eq_true rfl) dX6_year_51 ⟨Nat.zero_le _, Nat.zero_le _⟩ (fun H locs hP hD hS => ?_)
          refine lv_iload_n hx hb dX6_year_54 rfl (lv_at hl 1 rfl) ?_
          refine lv_istore (lv' := [(5, .int p0), (0, .ref m_h), (1, .int p0), (2, .int p1), (3, .int p2), (4, .int p3)]) hx hb dX6_year_55 hl (by decide) rfl (fun ls hl => ?_)
          refine lv_iconst (v := 0) hx hb dX6_year_57 (by decide) ?_
          refine lv_istore (lv' := [(6, .int 0), (5, .int p0), (0, .ref m_h), (1, .int p0), (2, .int p1), (3, .int p2), (4, .int p3)]) hx hb dX6_year_58 hl (by decide) rfl (fun ls hl => ?_)
          refine lv_iconst (v := 0) hx hb dX6_year_60 (by decide) ?_
          refine lv_istore (lv' := [(7, .int 0), (6, .int 0), (5, .int p0), (0, .ref m_h), (1, .int p0), (2, .int p1), (3, .int p2), (4, .int p3)]) hx hb dX6_year_61 hl (by decide) rfl (fun ls hl => ?_)
          refine lv_ldc hx hb hown (hts _ wd_689) dX6_year_63 ?_
          refine lv_istore (lv' := [(8, .int 1000000000), (7, .int 0), (6, .int 0), (5, .int p0), (0, .ref m_h), (1, .int p0), (2, .int p1), (3, .int p2), (4, .int p3)]) hx hb dX6_year_65 hl (by decide) rfl (fun ls hl => ?_)
          refine lv_iconst (v := 0) hx hb dX6_year_67 (by decide) ?_
          refine lv_istore (lv' := [(9, .int 0), (8, .int 1000000000), (7, .int 0), (6, .int 0), (5, .int p0), (0, .ref m_h), (1, .int p0), (2, .int p1), (3, .int p2), (4, .int p3)]) hx hb dX6_year_68 hl (by decide) rfl (fun ls hl => ?_)
          obtain ⟨K10, eK10, hF⟩ := of_jn hF
          have hK10 : ∀ (v11 : Int32) (v12 : Int32) (v13 : Int32) (om14 : Ob) (ls : Array Slot) (H : Heap) (locs : List Loc), lv_has ls 13 [(4, .int p3), (6, .int v11), (7, .int v12), (8, .int v13)] → va_P D vwCl (wm_X6_year cI cZ cO m_h m_1 m_2 m_3 m_22 m_23 m_24 m_27 m_29 m_30 om14) H → va_D A (wm_X6_year cI cZ cO m_h m_1 m_2 m_3 m_22 m_23 m_24 m_27 m_29 m_30 om14) → va_S A s.heap H locs → K10 v11 v12 v13 om14 = some q → W p l e rm_X6_year s m args below meth c H locs 0 0 Q (F0 m 193 ls []) := by
            intro v11 v12 v13 om14 ls H locs hl hP hD hS hF
            subst eK10
            refine lv_iload hx hb dX6_year_193 (lv_at hl 0 rfl) ?_
            refine lv_iconst (v := (-1)) hx hb dX6_year_195 (by decide) ?_
            refine lv_icmp_ne (tgt := 204) hx hb dX6_year_196 (by decide) (fun h15 => ?_) (fun h15 => ?_)
            · replace hF := of_f h15 hF
              refine lv_iload hx hb dX6_year_204 (lv_at hl 0 rfl) ?_
              refine lv_bipush (v := 8) hx hb dX6_year_206 (by decide) ?_
              refine lv_icmp_ge (tgt := 216) hx hb dX6_year_208 (by decide) (fun h16 => ?_) (fun h16 => ?_)
              · replace hF := of_t h16 hF
                refine lv_iload hx hb dX6_year_216 (lv_at hl 3 rfl) ?_
                refine lv_ldc hx hb hown (hts _ wd_689) dX6_year_218 ?_
                refine lv_icmp_ne (tgt := 228) hx hb dX6_year_220 (by decide) (fun h17 => ?_) (fun h17 => ?_)
                · replace hF := of_f h17 hF
                  refine lv_iload hx hb dX6_year_228 (lv_at hl 3 rfl) ?_
                  exact hQ _ _ _ _ _ om14 ⟨inj_fst hF, inj_snd hF⟩ hP hD hS dX6_year_230
                · replace hF := of_t h17 hF
                  refine lv_bipush (v := (-6)) hx hb dX6_year_223 (by decide) ?_
                  refine lv_goto (tgt := 230) hx hb dX6_year_225 (by decide) ?_
                  exact hQ _ _ _ _ _ om14 ⟨inj_fst hF, inj_snd hF⟩ hP hD hS dX6_year_230
              · replace hF := of_f h16 hF
                refine lv_iload hx hb dX6_year_211 (lv_at hl 2 rfl) ?_
                refine lv_goto (tgt := 230) hx hb dX6_year_213 (by decide) ?_
                exact hQ _ _ _ _ _ om14 ⟨inj_fst hF, inj_snd hF⟩ hP hD hS dX6_year_230
            · replace hF := of_t h15 hF
              refine lv_iload hx hb dX6_year_199 (lv_at hl 1 rfl) ?_
              refine lv_goto (tgt := 230) hx hb dX6_year_201 (by decide) ?_
              exact hQ _ _ _ _ _ om14 ⟨inj_fst hF, inj_snd hF⟩ hP hD hS dX6_year_230
          have hloop50 : ∀ (n25 : Nat) (v18 : Int32) (v19 : Int32) (v20 : Int32) (v21 : Int32) (v22 : Int32) (om23 : Ob) (ls : Array Slot) (H : Heap) (locs : List Loc), lv_has ls 13 [(0, .ref m_h), (2, .int p1), (3, .int p2), (4, .int p3), (5, .int v18), (6, .int v19), (7, .int v20), (8, .int v21), (9, .int v22)] → va_P D vwCl (wm_X6_year cI cZ cO m_h m_1 m_2 m_3 m_22 m_23 m_24 m_27 m_29 m_30 om23) H → va_D A (wm_X6_year cI cZ cO m_h m_1 m_2 m_3 m_22 m_23 m_24 m_27 m_29 m_30 om23) → va_S A s.heap H locs → L_X6_year_70 n25 p1 p2 p3 v18 v19 v20 v21 v22 om23 K10 = some q → W p l e rm_X6_year s m args below meth c H locs 0 0 Q (F0 m 70 ls []) := by
            intro n25
            induction n25 with
            | zero =>
              intro v18 v19 v20 v21 v22 om23 ls H locs hl hP hD hS hF
              exact of_none hF
            | succ n25 ih24 =>
              intro v18 v19 v20 v21 v22 om23 ls H locs hl hP hD hS hF
              rw [L_X6_year_70.eq_2] at hF
              refine lv_iload hx hb dX6_year_70 (lv_at hl 8 rfl) ?_
              refine lv_iload_n hx hb dX6_year_72 rfl (lv_at hl 1 rfl) ?_
              refine lv_icmp_ge (tgt := 193) hx hb dX6_year_73 (by decide) (fun h26 => ?_) (fun h26 => ?_)
              · replace hF := of_t h26 hF
                exact hK10 v19 v20 v21 om23 ls _ _ (lv_sub hl [3, 5, 6, 7] rfl) hP hD hS hF
              · replace hF := of_f h26 hF
                refine lv_ldc2 hx hb hown (hts _ wd_792) dX6_year_76 ?_
                refine lv_iload hx hb dX6_year_79 (lv_at hl 4 rfl) ?_
                refine lv_i2l hx hb dX6_year_81 rfl ?_
                refine lv_lmul hx hb dX6_year_82 ?_
                refine lv_topl (fun v27 ev27 => ?_)
                replace hF := of_dd hF v27 ev27
                refine lv_ldc2 hx hb hown (hts _ wd_793) dX6_year_83 ?_
                refine lv_ladd hx hb dX6_year_86 ?_
                refine lv_topl (fun v28 ev28 => ?_)
                replace hF := of_dd hF v28 ev28
                refine lv_ldc2 hx hb hown (hts _ wd_794) dX6_year_87 ?_
                refine lv_lrem hx hb dX6_year_90 (by decide) ?_
                refine lv_topl (fun v29 ev29 => ?_)
                replace hF := of_dd hF v29 ev29
                refine lv_l2i hx hb dX6_year_91 rfl ?_
                refine lv_istore (lv' := [(5, .int (Int64.toInt32 v29)), (0, .ref m_h), (2, .int p1), (3, .int p2), (4, .int p3), (6, .int v19), (7, .int v20), (8, .int v21), (9, .int v22)]) hx hb dX6_year_92 hl (by decide) rfl (fun ls hl => ?_)
                refine lv_iload hx hb dX6_year_94 (lv_at hl 0 rfl) ?_
                refine lv_bipush (v := 8) hx hb dX6_year_96 (by decide) ?_
                refine lv_irem hx hb dX6_year_98 (by decide) ?_
                refine lv_topi (fun v30 ev30 => ?_)
                replace hF := of_dd hF v30 ev30
                refine lv_istore (lv' := [(10, .int v30), (5, .int (Int64.toInt32 v29)), (0, .ref m_h), (2, .int p1), (3, .int p2), (4, .int p3), (6, .int v19), (7, .int v20), (8, .int v21), (9, .int v22)]) hx hb dX6_year_99 hl (by decide) rfl (fun ls hl => ?_)
                refine lv_iload hx hb dX6_year_101 (lv_at hl 1 rfl) ?_
                refine lv_bipush (v := 8) hx hb dX6_year_103 (by decide) ?_
                refine lv_idiv hx hb dX6_year_105 (by decide) ?_
                refine lv_topi (fun v31 ev31 => ?_)
                replace hF := of_dd hF v31 ev31
                refine lv_bipush (v := 8) hx hb dX6_year_106 (by decide) ?_
                refine lv_irem hx hb dX6_year_108 (by decide) ?_
                refine lv_topi (fun v32 ev32 => ?_)
                replace hF := of_dd hF v32 ev32
                refine lv_istore (lv' := [(11, .int v32), (10, .int v30), (5, .int (Int64.toInt32 v29)), (0, .ref m_h), (2, .int p1), (3, .int p2), (4, .int p3), (6, .int v19), (7, .int v20), (8, .int v21), (9, .int v22)]) hx hb dX6_year_109 hl (by decide) rfl (fun ls hl => ?_)
                refine lv_aload_n hx hb dX6_year_111 rfl (lv_at hl 3 rfl) ?_
                refine lv_iload hx hb dX6_year_112 (lv_at hl 1 rfl) ?_
                refine lv_iload hx hb dX6_year_114 (lv_at hl 0 rfl) ?_
                obtain ⟨q33, hGq33, hF⟩ := of_bind hF
                refine callVi (As := [.int v30, .int v32]) (rest := []) (wr := []) (WN := wm_X6_year cI cZ cO m_h m_1 m_2 m_3 m_22 m_23 m_24 m_27 m_29 m_30 om23) ⟨hx, hb, hml, hown, hts⟩ hK hP hD hS hA [0, 1, 2, 3, 4, 5, 6, 7, 8, 9] [] [0, 1, 2, 3, 4, 5, 6, 7, 8, 9] (c_X6_isPair l D cI cZ cO m_h m_1 m_2 m_3 m_22 m_23 m_24 m_27 m_29 m_30 _ om23 v30 v32 q33 hGq33) (cwV 2 hts (gV wd_650 wd_652 wd_15 wd_39 wd_653) rfl rfl rfl (by decide +kernel) ⟨Nat.le_of_ble_eq_true rfl, Nat.le_of_ble_eq_true rfl⟩) 0 6 rfl rfl rfl rfl rfl rfl rfl (by decide) rfl rfl rfl hl.1 rfl (Nat.le_of_ble_eq_true rfl) dX6_year_116 ⟨Nat.zero_le _, Nat.zero_le _⟩ (fun H locs hP hD hS => ?_)
                refine lv_if_eq (tgt := 187) hx hb dX6_year_119 (by decide) (fun h34 => ?_) (fun h34 => ?_)
                · replace hF := of_t h34 hF
                  obtain ⟨v35, ev35⟩ : ∃ y : Int32, y = v22 + 1 := ⟨_, rfl⟩
                  replace hF := of_dd hF v35 ev35
                  refine lv_iinc (v := v35) (lv' := [(9, .int v35), (11, .int v32), (10, .int v30), (5, .int (Int64.toInt32 v29)), (0, .ref m_h), (2, .int p1), (3, .int p2), (4, .int p3), (6, .int v19), (7, .int v20), (8, .int v21)]) hx hb dX6_year_187 hl (k := 10) rfl (by rw [ev35]; rfl) (by decide) rfl (fun ls hl => ?_)
                  refine lv_goto (tgt := 70) hx hb dX6_year_190 (by decide) ?_
                  exact ih24 (Int64.toInt32 v29) v19 v20 v21 v35 om23 ls _ _ (lv_sub hl [4, 5, 6, 7, 3, 8, 9, 10, 0] rfl) hP hD hS hF
                · replace hF := of_f h34 hF
                  refine lv_aload_n hx hb dX6_year_122 rfl (lv_at hl 3 rfl) ?_
                  refine lv_iload hx hb dX6_year_123 (lv_at hl 1 rfl) ?_
                  refine lv_iload hx hb dX6_year_125 (lv_at hl 0 rfl) ?_
                  obtain ⟨q36, hGq36, hF⟩ := of_bind hF
                  refine callVv (As := [.int v30, .int v32]) (rest := []) (wr := []) (WN := wm_X6_year cI cZ cO m_h m_1 m_2 m_3 m_22 m_23 m_24 m_27 m_29 m_30 q36) ⟨hx, hb, hml, hown, hts⟩ hK hP hD hS hA [0, 1, 2, 3, 4, 5, 6, 7, 8, 9] [] [0, 1, 2, 3, 4, 5, 6, 7, 8, 9] (c_X6_layPair l D cI cZ cO m_h m_1 m_2 m_3 m_22 m_23 m_24 m_27 m_29 m_30 _ om23 v30 v32 q36 hGq36) (cwV 2 hts (gV wd_655 wd_657 wd_16 wd_39 wd_658) rfl rfl rfl (by decide +kernel) ⟨Nat.le_of_ble_eq_true rfl, Nat.le_of_ble_eq_true rfl⟩) 0 6 rfl rfl rfl rfl rfl rfl rfl (by decide) rfl rfl rfl hl.1 rfl (Nat.le_of_ble_eq_true rfl) dX6_year_127 ⟨Nat.zero_le _, Nat.zero_le _⟩ (fun H locs hP hD hS => ?_)
                  refine lv_aload_n hx hb dX6_year_130 rfl (lv_at hl 3 rfl) ?_
                  refine lv_iload_n hx hb dX6_year_131 rfl (lv_at hl 5 rfl) ?_
                  obtain ⟨q37, hGq37, hF⟩ := of_bind hF
                  refine callVi (As := [.int p2]) (rest := []) (wr := []) (WN := wm_X6_year cI cZ cO m_h m_1 m_2 m_3 m_22 m_23 m_24 m_27 m_29 m_30 q37.2) ⟨hx, hb, hml, hown, hts⟩ hK hP hD hS hA [0, 1, 2, 3, 4, 5, 6, 7, 8, 9] [] [0, 1, 2, 3, 4, 5, 6, 7, 8, 9] (c_X6_timeOf l D cI cZ cO m_h m_1 m_2 m_3 m_22 m_23 m_24 m_27 m_29 m_30 _ q36 p2 q37 hGq37) (cwV 1 hts (gV wd_685 wd_687 wd_21 wd_39 wd_688) rfl rfl rfl (by decide +kernel) ⟨Nat.le_of_ble_eq_true rfl, Nat.le_of_ble_eq_true rfl⟩) 0 6 rfl rfl rfl rfl rfl rfl rfl (by decide) rfl rfl rfl hl.1 rfl (Nat.le_of_ble_eq_true rfl) dX6_year_132 ⟨Nat.zero_le _, Nat.zero_le _⟩ (fun H locs hP hD hS => ?_)
                  refine lv_istore (lv' := [(12, .int q37.1), (11, .int v32), (10, .int v30), (5, .int (Int64.toInt32 v29)), (0, .ref m_h), (2, .int p1), (3, .int p2), (4, .int p3), (6, .int v19), (7, .int v20), (8, .int v21), (9, .int v22)]) hx hb dX6_year_135 hl (by decide) rfl (fun ls hl => ?_)
                  obtain ⟨v38, ev38⟩ : ∃ y : Int32, y = v19 + 1 := ⟨_, rfl⟩
                  replace hF := of_dd hF v38 ev38
                  refine lv_iinc (v := v38) (lv' := [(6, .int v38), (12, .int q37.1), (11, .int v32), (10, .int v30), (5, .int (Int64.toInt32 v29)), (0, .ref m_h), (2, .int p1), (3, .int p2), (4, .int p3), (7, .int v20), (8, .int v21), (9, .int v22)]) hx hb dX6_year_137 hl (k := 8) rfl (by rw [ev38]; rfl) (by decide) rfl (fun ls hl => ?_)
                  refine lv_iload hx hb dX6_year_140 (lv_at hl 9 rfl) ?_
                  refine lv_iload hx hb dX6_year_142 (lv_at hl 1 rfl) ?_
                  refine lv_ldc hx hb hown (hts _ wd_689) dX6_year_144 ?_
                  obtain ⟨K39, eK39, hF⟩ := of_jn hF
                  have hK39 : ∀ (v40 : Int32) (ls : Array Slot) (H : Heap) (locs : List Loc), lv_has ls 13 [(0, .ref m_h), (2, .int p1), (3, .int p2), (4, .int p3), (5, .int (Int64.toInt32 v29)), (6, .int v38), (8, .int v21), (9, .int v22), (12, .int q37.1)] → va_P D vwCl (wm_X6_year cI cZ cO m_h m_1 m_2 m_3 m_22 m_23 m_24 m_27 m_29 m_30 q37.2) H → va_D A (wm_X6_year cI cZ cO m_h m_1 m_2 m_3 m_22 m_23 m_24 m_27 m_29 m_30 q37.2) → va_S A s.heap H locs → K39 v40 = some q → W p l e rm_X6_year s m args below meth c H locs 0 0 Q (F0 m 168 ls [.int v40, .int v20]) := by
                    intro v40 ls H locs hl hP hD hS hF
                    subst eK39
                    refine lv_iadd hx hb dX6_year_168 ?_
                    refine lv_topi (fun v41 ev41 => ?_)
                    replace hF := of_dd hF v41 ev41
                    refine lv_istore (lv' := [(7, .int v41), (0, .ref m_h), (2, .int p1), (3, .int p2), (4, .int p3), (5, .int (Int64.toInt32 v29)), (6, .int v38), (8, .int v21), (9, .int v22), (12, .int q37.1)]) hx hb dX6_year_169 hl (by decide) rfl (fun ls hl => ?_)
                    refine lv_iload hx hb dX6_year_171 (lv_at hl 9 rfl) ?_
                    refine lv_iload hx hb dX6_year_173 (lv_at hl 7 rfl) ?_
                    refine lv_icmp_ge (tgt := 183) hx hb dX6_year_175 (by decide) (fun h42 => ?_) (fun h42 => ?_)
                    · replace hF := of_t h42 hF
                      refine lv_iload hx hb dX6_year_183 (lv_at hl 7 rfl) ?_
                      refine lv_istore (lv' := [(8, .int v21), (7, .int v41), (0, .ref m_h), (2, .int p1), (3, .int p2), (4, .int p3), (5, .int (Int64.toInt32 v29)), (6, .int v38), (9, .int v22), (12, .int q37.1)]) hx hb dX6_year_185 hl (by decide) rfl (fun ls hl => ?_)
                      obtain ⟨v43, ev43⟩ : ∃ y : Int32, y = v22 + 1 := ⟨_, rfl⟩
                      replace hF := of_dd hF v43 ev43
                      refine lv_iinc (v := v43) (lv' := [(9, .int v43), (8, .int v21), (7, .int v41), (0, .ref m_h), (2, .int p1), (3, .int p2), (4, .int p3), (5, .int (Int64.toInt32 v29)), (6, .int v38), (12, .int q37.1)]) hx hb dX6_year_187 hl (k := 8) rfl (by rw [ev43]; rfl) (by decide) rfl (fun ls hl => ?_)
                      refine lv_goto (tgt := 70) hx hb dX6_year_190 (by decide) ?_
                      exact ih24 (Int64.toInt32 v29) v38 v41 v21 v43 q37.2 ls _ _ (lv_sub hl [3, 4, 5, 6, 7, 8, 2, 1, 0] rfl) hP hD hS hF
                    · replace hF := of_f h42 hF
                      refine lv_iload hx hb dX6_year_178 (lv_at hl 9 rfl) ?_
                      refine lv_goto (tgt := 185) hx hb dX6_year_180 (by decide) ?_
                      refine lv_istore (lv' := [(8, .int q37.1), (7, .int v41), (0, .ref m_h), (2, .int p1), (3, .int p2), (4, .int p3), (5, .int (Int64.toInt32 v29)), (6, .int v38), (9, .int v22), (12, .int q37.1)]) hx hb dX6_year_185 hl (by decide) rfl (fun ls hl => ?_)
                      obtain ⟨v44, ev44⟩ : ∃ y : Int32, y = v22 + 1 := ⟨_, rfl⟩
                      replace hF := of_dd hF v44 ev44
                      refine lv_iinc (v := v44) (lv' := [(9, .int v44), (8, .int q37.1), (7, .int v41), (0, .ref m_h), (2, .int p1), (3, .int p2), (4, .int p3), (5, .int (Int64.toInt32 v29)), (6, .int v38), (12, .int q37.1)]) hx hb dX6_year_187 hl (k := 8) rfl (by rw [ev44]; rfl) (by decide) rfl (fun ls hl => ?_)
                      refine lv_goto (tgt := 70) hx hb dX6_year_190 (by decide) ?_
                      exact ih24 (Int64.toInt32 v29) v38 v41 q37.1 v44 q37.2 ls _ _ (lv_sub hl [3, 4, 5, 6, 7, 8, 2, 1, 0] rfl) hP hD hS hF
                  obtain ⟨K45, eK45, hF⟩ := of_jn hF
                  have hK45 : ∀  (ls : Array Slot) (H : Heap) (locs : List Loc), lv_has ls 13 [(0, .ref m_h), (2, .int p1), (3, .int p2), (4, .int p3), (5, .int (Int64.toInt32 v29)), (6, .int v38), (8, .int v21), (9, .int v22), (12, .int q37.1)] → va_P D vwCl (wm_X6_year cI cZ cO m_h m_1 m_2 m_3 m_22 m_23 m_24 m_27 m_29 m_30 q37.2) H → va_D A (wm_X6_year cI cZ cO m_h m_1 m_2 m_3 m_22 m_23 m_24 m_27 m_29 m_30 q37.2) → va_S A s.heap H locs → K45 = some q → W p l e rm_X6_year s m args below meth c H locs 0 0 Q (F0 m 167 ls [.int v20]) := by
                    intro  ls H locs hl hP hD hS hF
                    subst eK45
                    refine lv_iconst (v := 0) hx hb dX6_year_167 (by decide) ?_
                    exact hK39 0 ls _ _ (lv_sub hl [0, 1, 2, 3, 4, 5, 6, 7, 8] rfl) hP hD hS hF
                  refine lv_icmp_ge (tgt := 167) hx hb dX6_year_146 (by decide) (fun h46 => ?_) (fun h46 => ?_)
                  · replace hF := of_t h46 hF
                    exact hK45  ls _ _ (lv_sub hl [5, 6, 7, 8, 4, 0, 10, 11, 1] rfl) hP hD hS hF
                  · replace hF := of_f h46 hF
                    refine lv_iload hx hb dX6_year_149 (lv_at hl 3 rfl) ?_
                    refine lv_iload hx hb dX6_year_151 (lv_at hl 8 rfl) ?_
                    obtain ⟨K47, eK47, hF⟩ := of_jn hF
                    have hK47 : ∀  (ls : Array Slot) (H : Heap) (locs : List Loc), lv_has ls 13 [(0, .ref m_h), (2, .int p1), (3, .int p2), (4, .int p3), (5, .int (Int64.toInt32 v29)), (6, .int v38), (8, .int v21), (9, .int v22), (12, .int q37.1)] → va_P D vwCl (wm_X6_year cI cZ cO m_h m_1 m_2 m_3 m_22 m_23 m_24 m_27 m_29 m_30 q37.2) H → va_D A (wm_X6_year cI cZ cO m_h m_1 m_2 m_3 m_22 m_23 m_24 m_27 m_29 m_30 q37.2) → va_S A s.heap H locs → K47 = some q → W p l e rm_X6_year s m args below meth c H locs 0 0 Q (F0 m 163 ls [.int v20]) := by
                      intro  ls H locs hl hP hD hS hF
                      subst eK47
                      refine lv_iconst (v := 1) hx hb dX6_year_163 (by decide) ?_
                      refine lv_goto (tgt := 168) hx hb dX6_year_164 (by decide) ?_
                      exact hK39 1 ls _ _ (lv_sub hl [0, 1, 2, 3, 4, 5, 6, 7, 8] rfl) hP hD hS hF
                    refine lv_icmp_eq (tgt := 163) hx hb dX6_year_153 (by decide) (fun h48 => ?_) (fun h48 => ?_)
                    · replace hF := of_t h48 hF
                      exact hK47  ls _ _ (lv_sub hl [5, 6, 7, 8, 4, 0, 10, 11, 1] rfl) hP hD hS hF
                    · replace hF := of_f h48 hF
                      refine lv_iload hx hb dX6_year_156 (lv_at hl 2 rfl) ?_
                      refine lv_iload hx hb dX6_year_158 (lv_at hl 8 rfl) ?_
                      refine lv_icmp_ne (tgt := 167) hx hb dX6_year_160 (by decide) (fun h49 => ?_) (fun h49 => ?_)
                      · replace hF := of_f h49 hF
                        exact hK45  ls _ _ (lv_sub hl [5, 6, 7, 8, 4, 0, 10, 11, 1] rfl) hP hD hS hF
                      · replace hF := of_t h49 hF
                        exact hK47  ls _ _ (lv_sub hl [5, 6, 7, 8, 4, 0, 10, 11, 1] rfl) hP hD hS hF
          exact hloop50 2000 p0 0 0 1000000000 0 q9 ls _ _ (lv_sub hl [5, 7, 8, 9, 4, 3, 2, 1, 0] rfl) hP hD hS hF
        · replace hF := of_t h8 hF
          refine lv_bipush (v := (-2)) hx hb dX6_year_46 (by decide) ?_
          exact hQ _ _ _ _ _ om ⟨inj_fst hF, inj_snd hF⟩ hP hD hS dX6_year_48

/-! ### ThreeLegsModel.pass(I)I -/
abbrev wm_X6_pass (cI cZ cO : ClassId) (m_h m_1 m_2 m_3 m_22 m_23 m_24 m_27 m_29 m_30 : Nat) (om : Ob) : va_W := [(m_h, .inr (6, [.int (om 0 0), .ref m_1, .ref m_2, .ref m_3, .int (om 4 0), .int (om 5 0), .int (om 6 0), .int (om 7 0), .int (om 8 0), .int (om 9 0), .int (om 10 0), .int (om 11 0), .int (om 12 0), .int (om 13 0), .int (om 14 0), .int (om 15 0), .int (om 16 0), .int (om 17 0), .int (om 18 0), .int (om 19 0), .int (om 20 0), .int (om 21 0), .ref m_22, .ref m_23, .ref m_24, .int (om 25 0), .int (om 26 0), .ref m_27, .int (om 28 0), .ref m_29, .ref m_30, .int (om 31 0), .int (om 32 0)])), (m_1, .inl (cI, 8, .inl (om 1))), (m_2, .inl (cI, 8, .inl (om 2))), (m_3, .inl (cI, 8, .inl (om 3))), (m_22, .inl (cI, 64, .inl (om 22))), (m_23, .inl (cI, 8, .inl (om 23))), (m_24, .inl (cI, 8, .inl (om 24))), (m_27, .inl (cI, 40, .inl (om 27))), (m_29, .inl (cI, 80, .inl (om 29))), (m_30, .inl (cZ, 2, .inl (om 30)))]
def F_X6_pass (om : Ob) (p0 : Int32) : Option (Int32 × Ob) :=
  jn (fun (v2 : Int32) => ck (om 31 0) 80 (dd (sO om 29 (upd (om 29) ((om 31 0)).toNatClampNeg v2)) (fun (om4 : Ob) => dd ((om4 31 0) + 1) (fun (v5 : Int32) => dd (sO om4 31 (cst v5)) (fun (om6 : Ob) => some (v2, om6)))))) (fun (K1 : Int32 → Option (Int32 × Ob)) => (if (om 32 0) = 0 then ck (om 31 0) 80 (K1 ((om 29) ((om 31 0)).toNatClampNeg)) else K1 p0))
abbrev rm_X6_pass : Room := { frames := 0, cells := 0, slots := 0, locals := 0 }
abbrev wu_X6_pass : List Cond := .code yX6_pass cX6_pass 3 (some .int) :: lwG
set_option maxHeartbeats 20000000 in
set_option maxRecDepth 100000 in
theorem c_X6_pass (l : Launch) (D : va_G) (cI cZ cO : ClassId) (m_h m_1 m_2 m_3 m_22 m_23 m_24 m_27 m_29 m_30 : Nat) (sz : Nat) (om : Ob) (p0 : Int32) (q : Int32 × Ob) (hF : F_X6_pass om p0 = some q) : CtI l yX6_pass wu_X6_pass rm_X6_pass D vwCl (tyL cI cZ cO) [.ref m_h, .int p0] (wm_X6_pass cI cZ cO m_h m_1 m_2 m_3 m_22 m_23 m_24 m_27 m_29 m_30 om) sz 0 0 (fun (r : Int32) (u : Ob) => r = q.1 ∧ u = q.2) (fun u => wm_X6_pass cI cZ cO m_h m_1 m_2 m_3 m_22 m_23 m_24 m_27 m_29 m_30 u) := by
  refine mk_i (cc := cX6_pass) (maxL := 3) (by decide) rfl (Nat.le_of_ble_eq_true rfl) ?_
  intro p e s m args below meth c A ls Q hx hb hml hown hts hin hK hP hD hS hA hl hQ
  have hl : lv_has ls 3 [(0, .ref m_h), (1, .int p0)] := hl
  unfold F_X6_pass at hF
  refine lv_aload_n hx hb dX6_pass_0 rfl (lv_at hl 0 rfl) ?_
  refine va_get (D := D) (ci := 6) (v := .int (om 32 0)) (C := RX6) (T := TX6) (N := 33) hx hb hts in_X6 hown hK hP 0 rfl rfl 32 (by decide) (hts _ wd_551) (fun _ h9 => h9) rfl dX6_pass_1 ?_
  obtain ⟨K1, eK1, hF⟩ := of_jn hF
  have hK1 : ∀ (v2 : Int32) (ls : Array Slot) (H : Heap) (locs : List Loc), lv_has ls 3 [(0, .ref m_h)] → va_P D vwCl (wm_X6_pass cI cZ cO m_h m_1 m_2 m_3 m_22 m_23 m_24 m_27 m_29 m_30 om) H → va_D A (wm_X6_pass cI cZ cO m_h m_1 m_2 m_3 m_22 m_23 m_24 m_27 m_29 m_30 om) → va_S A s.heap H locs → K1 v2 = some q → W p l e rm_X6_pass s m args below meth c H locs 0 0 Q (F0 m 20 ls [.int v2]) := by
    intro v2 ls H locs hl hP hD hS hF
    subst eK1
    refine lv_istore_n (lv' := [(2, .int v2), (0, .ref m_h)]) hx hb dX6_pass_20 rfl hl (by decide) rfl (fun ls hl => ?_)
    refine lv_aload_n hx hb dX6_pass_21 rfl (lv_at hl 1 rfl) ?_
    refine va_get (D := D) (ci := 6) (v := .ref m_29) (C := RX6) (T := TX6) (N := 33) hx hb hts in_X6 hown hK hP 0 rfl rfl 29 (by decide) (hts _ wd_548) (fun _ h9 => h9) rfl dX6_pass_22 ?_
    refine lv_aload_n hx hb dX6_pass_25 rfl (lv_at hl 1 rfl) ?_
    refine va_get (D := D) (ci := 6) (v := .int (om 31 0)) (C := RX6) (T := TX6) (N := 33) hx hb hts in_X6 hown hK hP 0 rfl rfl 31 (by decide) (hts _ wd_550) (fun _ h9 => h9) rfl dX6_pass_26 ?_
    refine lv_iload_n hx hb dX6_pass_29 rfl (lv_at hl 0 rfl) ?_
    obtain ⟨h3, hF⟩ := of_ck hF
    refine va_iast (D := D) hx hb hK hP hD hS 8 0 rfl rfl h3 dX6_pass_30 (fun H locs hP hD hS => ?_)
    obtain ⟨om4, hF, hP, hD⟩ := nm_o (P := fun y => va_P D vwCl (wm_X6_pass cI cZ cO m_h m_1 m_2 m_3 m_22 m_23 m_24 m_27 m_29 m_30 y) _) (B := fun y => va_D A (wm_X6_pass cI cZ cO m_h m_1 m_2 m_3 m_22 m_23 m_24 m_27 m_29 m_30 y)) hF hP hD
    refine lv_aload_n hx hb dX6_pass_31 rfl (lv_at hl 1 rfl) ?_
    refine lv_dup hx hb dX6_pass_32 rfl ?_
    refine va_get (D := D) (ci := 6) (v := .int (om4 31 0)) (C := RX6) (T := TX6) (N := 33) hx hb hts in_X6 hown hK hP 0 rfl rfl 31 (by decide) (hts _ wd_550) (fun _ h9 => h9) rfl dX6_pass_33 ?_
    refine lv_iconst (v := 1) hx hb dX6_pass_36 (by decide) ?_
    refine lv_iadd hx hb dX6_pass_37 ?_
    refine lv_topi (fun v5 ev5 => ?_)
    replace hF := of_dd hF v5 ev5
    refine va_put (D := D) (ci := 6) (v := .int v5) (ty := .int) (C := RX6) (T := TX6) (N := 33) hx hb hts in_X6 tyX6 tyX6_ok nmX6 hown hK hP hD hS 0 rfl rfl 31 (by decide) (hts _ wd_550) (fun _ h9 => h9) rfl (tyX6_ok 31 (by decide)) rfl rfl (Nat.le_of_ble_eq_true rfl) dX6_pass_38 (fun H locs hP hD hS => ?_)
    obtain ⟨om6, hF, hP, hD⟩ := nm_o (P := fun y => va_P D vwCl (wm_X6_pass cI cZ cO m_h m_1 m_2 m_3 m_22 m_23 m_24 m_27 m_29 m_30 y) _) (B := fun y => va_D A (wm_X6_pass cI cZ cO m_h m_1 m_2 m_3 m_22 m_23 m_24 m_27 m_29 m_30 y)) hF hP hD
    refine lv_iload_n hx hb dX6_pass_41 rfl (lv_at hl 0 rfl) ?_
    exact hQ _ _ _ _ _ om6 ⟨inj_fst hF, inj_snd hF⟩ hP hD hS dX6_pass_42
  refine lv_if_eq (tgt := 11) hx hb dX6_pass_4 (by decide) (fun h7 => ?_) (fun h7 => ?_)
  · replace hF := of_t h7 hF
    refine lv_aload_n hx hb dX6_pass_11 rfl (lv_at hl 0 rfl) ?_
    refine va_get (D := D) (ci := 6) (v := .ref m_29) (C := RX6) (T := TX6) (N := 33) hx hb hts in_X6 hown hK hP 0 rfl rfl 29 (by decide) (hts _ wd_548) (fun _ h9 => h9) rfl dX6_pass_12 ?_
    refine lv_aload_n hx hb dX6_pass_15 rfl (lv_at hl 0 rfl) ?_
    refine va_get (D := D) (ci := 6) (v := .int (om 31 0)) (C := RX6) (T := TX6) (N := 33) hx hb hts in_X6 hown hK hP 0 rfl rfl 31 (by decide) (hts _ wd_550) (fun _ h9 => h9) rfl dX6_pass_16 ?_
    obtain ⟨h8, hF⟩ := of_ck hF
    refine va_iald (D := D) hx hb hK hP 8 0 rfl rfl h8 dX6_pass_19 ?_
    exact hK1 ((om 29) ((om 31 0)).toNatClampNeg) ls _ _ (lv_sub hl [0] rfl) hP hD hS hF
  · replace hF := of_f h7 hF
    refine lv_iload_n hx hb dX6_pass_7 rfl (lv_at hl 1 rfl) ?_
    refine lv_goto (tgt := 20) hx hb dX6_pass_8 (by decide) ?_
    exact hK1 p0 ls _ _ (lv_sub hl [0] rfl) hP hD hS hF

/-! ### ThreeLegsModel.passAll()V -/
abbrev wm_X6_passAll (cI cZ cO : ClassId) (m_h m_1 m_2 m_3 m_22 m_23 m_24 m_27 m_29 m_30 : Nat) (om : Ob) : va_W := [(m_h, .inr (6, [.int (om 0 0), .ref m_1, .ref m_2, .ref m_3, .int (om 4 0), .int (om 5 0), .int (om 6 0), .int (om 7 0), .int (om 8 0), .int (om 9 0), .int (om 10 0), .int (om 11 0), .int (om 12 0), .int (om 13 0), .int (om 14 0), .int (om 15 0), .int (om 16 0), .int (om 17 0), .int (om 18 0), .int (om 19 0), .int (om 20 0), .int (om 21 0), .ref m_22, .ref m_23, .ref m_24, .int (om 25 0), .int (om 26 0), .ref m_27, .int (om 28 0), .ref m_29, .ref m_30, .int (om 31 0), .int (om 32 0)])), (m_1, .inl (cI, 8, .inl (om 1))), (m_2, .inl (cI, 8, .inl (om 2))), (m_3, .inl (cI, 8, .inl (om 3))), (m_22, .inl (cI, 64, .inl (om 22))), (m_23, .inl (cI, 8, .inl (om 23))), (m_24, .inl (cI, 8, .inl (om 24))), (m_27, .inl (cI, 40, .inl (om 27))), (m_29, .inl (cI, 80, .inl (om 29))), (m_30, .inl (cZ, 2, .inl (om 30)))]
def L_X6_passAll_50 : Nat → Int32 → Ob → (Ob → Option (Ob)) → Option (Ob)
  | 0, _, _, _ => none
  | n14 + 1, v11, om12, K9 =>
    (if 8 ≤ v11 then K9 om12 else ck v11 8 ((F_X6_pass om12 ((om12 1) (v11).toNatClampNeg)).bind (fun q17 => ck v11 8 (dd (sO q17.2 1 (upd (q17.2 1) (v11).toNatClampNeg q17.1)) (fun (om19 : Ob) => ck v11 8 ((F_X6_pass om19 ((om19 2) (v11).toNatClampNeg)).bind (fun q21 => ck v11 8 (dd (sO q21.2 2 (upd (q21.2 2) (v11).toNatClampNeg q21.1)) (fun (om23 : Ob) => ck v11 8 ((F_X6_pass om23 ((om23 3) (v11).toNatClampNeg)).bind (fun q25 => ck v11 8 (dd (sO q25.2 3 (upd (q25.2 3) (v11).toNatClampNeg q25.1)) (fun (om27 : Ob) => dd (v11 + 1) (fun (v28 : Int32) => L_X6_passAll_50 n14 v28 om27 K9))))))))))))))
def F_X6_passAll (om : Ob)  : Option (Ob) :=
  (F_X6_pass om (om 0 0)).bind (fun q1 => dd (sO q1.2 0 (cst q1.1)) (fun (om2 : Ob) => (F_X6_pass om2 (om2 4 0)).bind (fun q3 => dd (sO q3.2 4 (cst q3.1)) (fun (om4 : Ob) => (F_X6_pass om4 (om4 5 0)).bind (fun q5 => dd (sO q5.2 5 (cst q5.1)) (fun (om6 : Ob) => (F_X6_pass om6 (om6 6 0)).bind (fun q7 => dd (sO q7.2 6 (cst q7.1)) (fun (om8 : Ob) => jn (fun (om10 : Ob) => some om10) (fun (K9 : Ob → Option (Ob)) => L_X6_passAll_50 2000 0 om8 K9)))))))))
abbrev rm_X6_passAll : Room := { frames := 1, cells := 0, slots := 0, locals := 22 }
abbrev wu_X6_passAll : List Cond := .code yX6_passAll cX6_passAll 2 none :: lwG
set_option maxHeartbeats 20000000 in
set_option maxRecDepth 100000 in
theorem c_X6_passAll (l : Launch) (D : va_G) (cI cZ cO : ClassId) (m_h m_1 m_2 m_3 m_22 m_23 m_24 m_27 m_29 m_30 : Nat) (sz : Nat) (om : Ob)  (q : Ob) (hF : F_X6_passAll om = some q) : CtV l yX6_passAll wu_X6_passAll rm_X6_passAll D vwCl (tyL cI cZ cO) [.ref m_h] (wm_X6_passAll cI cZ cO m_h m_1 m_2 m_3 m_22 m_23 m_24 m_27 m_29 m_30 om) sz 0 0 (fun u : Ob => u = q) (fun u => wm_X6_passAll cI cZ cO m_h m_1 m_2 m_3 m_22 m_23 m_24 m_27 m_29 m_30 u) := by
  refine mk_v (cc := cX6_passAll) (maxL := 2) (by decide) rfl (Nat.le_of_ble_eq_true rfl) ?_
  intro p e s m args below meth c A ls Q hx hb hml hown hts hin hK hP hD hS hA hl hQ
  have hl : lv_has ls 2 [(0, .ref m_h)] := hl
  unfold F_X6_passAll at hF
  refine lv_aload_n hx hb dX6_passAll_0 rfl (lv_at hl 0 rfl) ?_
  refine lv_aload_n hx hb dX6_passAll_1 rfl (lv_at hl 0 rfl) ?_
  refine lv_aload_n hx hb dX6_passAll_2 rfl (lv_at hl 0 rfl) ?_
  refine va_get (D := D) (ci := 6) (v := .int (om 0 0)) (C := RX6) (T := TX6) (N := 33) hx hb hts in_X6 hown hK hP 0 rfl rfl 0 (by decide) (hts _ wd_519) (fun _ h9 => h9) rfl dX6_passAll_3 ?_
  obtain ⟨q1, hGq1, hF⟩ := of_bind hF
  refine callVi (As := [.int (om 0 0)]) (rest := [.ref m_h]) (wr := []) (WN := wm_X6_passAll cI cZ cO m_h m_1 m_2 m_3 m_22 m_23 m_24 m_27 m_29 m_30 q1.2) ⟨hx, hb, hml, hown, hts⟩ hK hP hD hS hA [0, 1, 2, 3, 4, 5, 6, 7, 8, 9] [] [0, 1, 2, 3, 4, 5, 6, 7, 8, 9] (c_X6_pass l D cI cZ cO m_h m_1 m_2 m_3 m_22 m_23 m_24 m_27 m_29 m_30 _ om (om 0 0) q1 hGq1) (cwV 1 hts (gV wd_803 wd_805 wd_31 wd_39 wd_806) rfl rfl rfl (by decide +kernel) ⟨Nat.le_of_ble_eq_true rfl, Nat.le_of_ble_eq_true rfl⟩) 0 6 rfl rfl rfl rfl rfl rfl rfl (by decide) rfl rfl rfl hl.1 rfl (Nat.le_of_ble_eq_true rfl) dX6_passAll_6 ⟨Nat.zero_le _, Nat.zero_le _⟩ (fun H locs hP hD hS => ?_)
  refine va_put (D := D) (ci := 6) (v := .int q1.1) (ty := .int) (C := RX6) (T := TX6) (N := 33) hx hb hts in_X6 tyX6 tyX6_ok nmX6 hown hK hP hD hS 0 rfl rfl 0 (by decide) (hts _ wd_519) (fun _ h9 => h9) rfl (tyX6_ok 0 (by decide)) rfl rfl (Nat.le_of_ble_eq_true rfl) dX6_passAll_9 (fun H locs hP hD hS => ?_)
  obtain ⟨om2, hF, hP, hD⟩ := nm_o (P := fun y => va_P D vwCl (wm_X6_passAll cI cZ cO m_h m_1 m_2 m_3 m_22 m_23 m_24 m_27 m_29 m_30 y) _) (B := fun y => va_D A (wm_X6_passAll cI cZ cO m_h m_1 m_2 m_3 m_22 m_23 m_24 m_27 m_29 m_30 y)) hF hP hD
  refine lv_aload_n hx hb dX6_passAll_12 rfl (lv_at hl 0 rfl) ?_
  refine lv_aload_n hx hb dX6_passAll_13 rfl (lv_at hl 0 rfl) ?_
  refine lv_aload_n hx hb dX6_passAll_14 rfl (lv_at hl 0 rfl) ?_
  refine va_get (D := D) (ci := 6) (v := .int (om2 4 0)) (C := RX6) (T := TX6) (N := 33) hx hb hts in_X6 hown hK hP 0 rfl rfl 4 (by decide) (hts _ wd_523) (fun _ h9 => h9) rfl dX6_passAll_15 ?_
  obtain ⟨q3, hGq3, hF⟩ := of_bind hF
  refine callVi (As := [.int (om2 4 0)]) (rest := [.ref m_h]) (wr := []) (WN := wm_X6_passAll cI cZ cO m_h m_1 m_2 m_3 m_22 m_23 m_24 m_27 m_29 m_30 q3.2) ⟨hx, hb, hml, hown, hts⟩ hK hP hD hS hA [0, 1, 2, 3, 4, 5, 6, 7, 8, 9] [] [0, 1, 2, 3, 4, 5, 6, 7, 8, 9] (c_X6_pass l D cI cZ cO m_h m_1 m_2 m_3 m_22 m_23 m_24 m_27 m_29 m_30 _ om2 (om2 4 0) q3 hGq3) (cwV 1 hts (gV wd_803 wd_805 wd_31 wd_39 wd_806) rfl rfl rfl (by decide +kernel) ⟨Nat.le_of_ble_eq_true rfl, Nat.le_of_ble_eq_true rfl⟩) 0 6 rfl rfl rfl rfl rfl rfl rfl (by decide) rfl rfl rfl hl.1 rfl (Nat.le_of_ble_eq_true rfl) dX6_passAll_18 ⟨Nat.zero_le _, Nat.zero_le _⟩ (fun H locs hP hD hS => ?_)
  refine va_put (D := D) (ci := 6) (v := .int q3.1) (ty := .int) (C := RX6) (T := TX6) (N := 33) hx hb hts in_X6 tyX6 tyX6_ok nmX6 hown hK hP hD hS 0 rfl rfl 4 (by decide) (hts _ wd_523) (fun _ h9 => h9) rfl (tyX6_ok 4 (by decide)) rfl rfl (Nat.le_of_ble_eq_true rfl) dX6_passAll_21 (fun H locs hP hD hS => ?_)
  obtain ⟨om4, hF, hP, hD⟩ := nm_o (P := fun y => va_P D vwCl (wm_X6_passAll cI cZ cO m_h m_1 m_2 m_3 m_22 m_23 m_24 m_27 m_29 m_30 y) _) (B := fun y => va_D A (wm_X6_passAll cI cZ cO m_h m_1 m_2 m_3 m_22 m_23 m_24 m_27 m_29 m_30 y)) hF hP hD
  refine lv_aload_n hx hb dX6_passAll_24 rfl (lv_at hl 0 rfl) ?_
  refine lv_aload_n hx hb dX6_passAll_25 rfl (lv_at hl 0 rfl) ?_
  refine lv_aload_n hx hb dX6_passAll_26 rfl (lv_at hl 0 rfl) ?_
  refine va_get (D := D) (ci := 6) (v := .int (om4 5 0)) (C := RX6) (T := TX6) (N := 33) hx hb hts in_X6 hown hK hP 0 rfl rfl 5 (by decide) (hts _ wd_524) (fun _ h9 => h9) rfl dX6_passAll_27 ?_
  obtain ⟨q5, hGq5, hF⟩ := of_bind hF
  refine callVi (As := [.int (om4 5 0)]) (rest := [.ref m_h]) (wr := []) (WN := wm_X6_passAll cI cZ cO m_h m_1 m_2 m_3 m_22 m_23 m_24 m_27 m_29 m_30 q5.2) ⟨hx, hb, hml, hown, hts⟩ hK hP hD hS hA [0, 1, 2, 3, 4, 5, 6, 7, 8, 9] [] [0, 1, 2, 3, 4, 5, 6, 7, 8, 9] (c_X6_pass l D cI cZ cO m_h m_1 m_2 m_3 m_22 m_23 m_24 m_27 m_29 m_30 _ om4 (om4 5 0) q5 hGq5) (cwV 1 hts (gV wd_803 wd_805 wd_31 wd_39 wd_806) rfl rfl rfl (by decide +kernel) ⟨Nat.le_of_ble_eq_true rfl, Nat.le_of_ble_eq_true rfl⟩) 0 6 rfl rfl rfl rfl rfl rfl rfl (by decide) rfl rfl rfl hl.1 rfl (Nat.le_of_ble_eq_true rfl) dX6_passAll_30 ⟨Nat.zero_le _, Nat.zero_le _⟩ (fun H locs hP hD hS => ?_)
  refine va_put (D := D) (ci := 6) (v := .int q5.1) (ty := .int) (C := RX6) (T := TX6) (N := 33) hx hb hts in_X6 tyX6 tyX6_ok nmX6 hown hK hP hD hS 0 rfl rfl 5 (by decide) (hts _ wd_524) (fun _ h9 => h9) rfl (tyX6_ok 5 (by decide)) rfl rfl (Nat.le_of_ble_eq_true rfl) dX6_passAll_33 (fun H locs hP hD hS => ?_)
  obtain ⟨om6, hF, hP, hD⟩ := nm_o (P := fun y => va_P D vwCl (wm_X6_passAll cI cZ cO m_h m_1 m_2 m_3 m_22 m_23 m_24 m_27 m_29 m_30 y) _) (B := fun y => va_D A (wm_X6_passAll cI cZ cO m_h m_1 m_2 m_3 m_22 m_23 m_24 m_27 m_29 m_30 y)) hF hP hD
  refine lv_aload_n hx hb dX6_passAll_36 rfl (lv_at hl 0 rfl) ?_
  refine lv_aload_n hx hb dX6_passAll_37 rfl (lv_at hl 0 rfl) ?_
  refine lv_aload_n hx hb dX6_passAll_38 rfl (lv_at hl 0 rfl) ?_
  refine va_get (D := D) (ci := 6) (v := .int (om6 6 0)) (C := RX6) (T := TX6) (N := 33) hx hb hts in_X6 hown hK hP 0 rfl rfl 6 (by decide) (hts _ wd_525) (fun _ h9 => h9) rfl dX6_passAll_39 ?_
  obtain ⟨q7, hGq7, hF⟩ := of_bind hF
  refine callVi (As := [.int (om6 6 0)]) (rest := [.ref m_h]) (wr := []) (WN := wm_X6_passAll cI cZ cO m_h m_1 m_2 m_3 m_22 m_23 m_24 m_27 m_29 m_30 q7.2) ⟨hx, hb, hml, hown, hts⟩ hK hP hD hS hA [0, 1, 2, 3, 4, 5, 6, 7, 8, 9] [] [0, 1, 2, 3, 4, 5, 6, 7, 8, 9] (c_X6_pass l D cI cZ cO m_h m_1 m_2 m_3 m_22 m_23 m_24 m_27 m_29 m_30 _ om6 (om6 6 0) q7 hGq7) (cwV 1 hts (gV wd_803 wd_805 wd_31 wd_39 wd_806) rfl rfl rfl (by decide +kernel) ⟨Nat.le_of_ble_eq_true rfl, Nat.le_of_ble_eq_true rfl⟩) 0 6 rfl rfl rfl rfl rfl rfl rfl (by decide) rfl rfl rfl hl.1 rfl (Nat.le_of_ble_eq_true rfl) dX6_passAll_42 ⟨Nat.zero_le _, Nat.zero_le _⟩ (fun H locs hP hD hS => ?_)
  refine va_put (D := D) (ci := 6) (v := .int q7.1) (ty := .int) (C := RX6) (T := TX6) (N := 33) hx hb hts in_X6 tyX6 tyX6_ok nmX6 hown hK hP hD hS 0 rfl rfl 6 (by decide) (hts _ wd_525) (fun _ h9 => h9) rfl (tyX6_ok 6 (by decide)) rfl rfl (Nat.le_of_ble_eq_true rfl) dX6_passAll_45 (fun H locs hP hD hS => ?_)
  obtain ⟨om8, hF, hP, hD⟩ := nm_o (P := fun y => va_P D vwCl (wm_X6_passAll cI cZ cO m_h m_1 m_2 m_3 m_22 m_23 m_24 m_27 m_29 m_30 y) _) (B := fun y => va_D A (wm_X6_passAll cI cZ cO m_h m_1 m_2 m_3 m_22 m_23 m_24 m_27 m_29 m_30 y)) hF hP hD
  refine lv_iconst (v := 0) hx hb dX6_passAll_48 (by decide) ?_
  refine lv_istore_n (lv' := [(1, .int 0), (0, .ref m_h)]) hx hb dX6_passAll_49 rfl hl (by decide) rfl (fun ls hl => ?_)
  obtain ⟨K9, eK9, hF⟩ := of_jn hF
  have hK9 : ∀ (om10 : Ob) (ls : Array Slot) (H : Heap) (locs : List Loc), lv_has ls 2 [] → va_P D vwCl (wm_X6_passAll cI cZ cO m_h m_1 m_2 m_3 m_22 m_23 m_24 m_27 m_29 m_30 om10) H → va_D A (wm_X6_passAll cI cZ cO m_h m_1 m_2 m_3 m_22 m_23 m_24 m_27 m_29 m_30 om10) → va_S A s.heap H locs → K9 om10 = some q → W p l e rm_X6_passAll s m args below meth c H locs 0 0 Q (F0 m 110 ls []) := by
    intro om10 ls H locs hl hP hD hS hF
    subst eK9
    exact hQ _ _ _ _ om10 (Option.some.inj hF) hP hD hS dX6_passAll_110
  have hloop29 : ∀ (n14 : Nat) (v11 : Int32) (om12 : Ob) (ls : Array Slot) (H : Heap) (locs : List Loc), lv_has ls 2 [(0, .ref m_h), (1, .int v11)] → va_P D vwCl (wm_X6_passAll cI cZ cO m_h m_1 m_2 m_3 m_22 m_23 m_24 m_27 m_29 m_30 om12) H → va_D A (wm_X6_passAll cI cZ cO m_h m_1 m_2 m_3 m_22 m_23 m_24 m_27 m_29 m_30 om12) → va_S A s.heap H locs → L_X6_passAll_50 n14 v11 om12 K9 = some q → W p l e rm_X6_passAll s m args below meth c H locs 0 0 Q (F0 m 50 ls []) := by
    intro n14
    induction n14 with
    | zero =>
      intro v11 om12 ls H locs hl hP hD hS hF
      exact of_none hF
    | succ n14 ih13 =>
      intro v11 om12 ls H locs hl hP hD hS hF
      rw [L_X6_passAll_50.eq_2] at hF
      refine lv_iload_n hx hb dX6_passAll_50 rfl (lv_at hl 1 rfl) ?_
      refine lv_bipush (v := 8) hx hb dX6_passAll_51 (by decide) ?_
      refine lv_icmp_ge (tgt := 110) hx hb dX6_passAll_53 (by decide) (fun h15 => ?_) (fun h15 => ?_)
      · replace hF := of_t h15 hF
        exact hK9 om12 ls _ _ (lv_sub hl [] rfl) hP hD hS hF
      · replace hF := of_f h15 hF
        refine lv_aload_n hx hb dX6_passAll_56 rfl (lv_at hl 0 rfl) ?_
        refine va_get (D := D) (ci := 6) (v := .ref m_1) (C := RX6) (T := TX6) (N := 33) hx hb hts in_X6 hown hK hP 0 rfl rfl 1 (by decide) (hts _ wd_520) (fun _ h9 => h9) rfl dX6_passAll_57 ?_
        refine lv_iload_n hx hb dX6_passAll_60 rfl (lv_at hl 1 rfl) ?_
        refine lv_aload_n hx hb dX6_passAll_61 rfl (lv_at hl 0 rfl) ?_
        refine lv_aload_n hx hb dX6_passAll_62 rfl (lv_at hl 0 rfl) ?_
        refine va_get (D := D) (ci := 6) (v := .ref m_1) (C := RX6) (T := TX6) (N := 33) hx hb hts in_X6 hown hK hP 0 rfl rfl 1 (by decide) (hts _ wd_520) (fun _ h9 => h9) rfl dX6_passAll_63 ?_
        refine lv_iload_n hx hb dX6_passAll_66 rfl (lv_at hl 1 rfl) ?_
        obtain ⟨h16, hF⟩ := of_ck hF
        refine va_iald (D := D) hx hb hK hP 1 0 rfl rfl h16 dX6_passAll_67 ?_
        obtain ⟨q17, hGq17, hF⟩ := of_bind hF
        refine callVi (As := [.int ((om12 1) (v11).toNatClampNeg)]) (rest := [.int v11, .ref m_1]) (wr := []) (WN := wm_X6_passAll cI cZ cO m_h m_1 m_2 m_3 m_22 m_23 m_24 m_27 m_29 m_30 q17.2) ⟨hx, hb, hml, hown, hts⟩ hK hP hD hS hA [0, 1, 2, 3, 4, 5, 6, 7, 8, 9] [] [0, 1, 2, 3, 4, 5, 6, 7, 8, 9] (c_X6_pass l D cI cZ cO m_h m_1 m_2 m_3 m_22 m_23 m_24 m_27 m_29 m_30 _ om12 ((om12 1) (v11).toNatClampNeg) q17 hGq17) (cwV 1 hts (gV wd_803 wd_805 wd_31 wd_39 wd_806) rfl rfl rfl (by decide +kernel) ⟨Nat.le_of_ble_eq_true rfl, Nat.le_of_ble_eq_true rfl⟩) 0 6 rfl rfl rfl rfl rfl rfl rfl (by decide) rfl rfl rfl hl.1 rfl (Nat.le_of_ble_eq_true rfl) dX6_passAll_68 ⟨Nat.zero_le _, Nat.zero_le _⟩ (fun H locs hP hD hS => ?_)
        obtain ⟨h18, hF⟩ := of_ck hF
        refine va_iast (D := D) hx hb hK hP hD hS 1 0 rfl rfl h18 dX6_passAll_71 (fun H locs hP hD hS => ?_)
        obtain ⟨om19, hF, hP, hD⟩ := nm_o (P := fun y => va_P D vwCl (wm_X6_passAll cI cZ cO m_h m_1 m_2 m_3 m_22 m_23 m_24 m_27 m_29 m_30 y) _) (B := fun y => va_D A (wm_X6_passAll cI cZ cO m_h m_1 m_2 m_3 m_22 m_23 m_24 m_27 m_29 m_30 y)) hF hP hD
        refine lv_aload_n hx hb dX6_passAll_72 rfl (lv_at hl 0 rfl) ?_
        refine va_get (D := D) (ci := 6) (v := .ref m_2) (C := RX6) (T := TX6) (N := 33) hx hb hts in_X6 hown hK hP 0 rfl rfl 2 (by decide) (hts _ wd_521) (fun _ h9 => h9) rfl dX6_passAll_73 ?_
        refine lv_iload_n hx hb dX6_passAll_76 rfl (lv_at hl 1 rfl) ?_
        refine lv_aload_n hx hb dX6_passAll_77 rfl (lv_at hl 0 rfl) ?_
        refine lv_aload_n hx hb dX6_passAll_78 rfl (lv_at hl 0 rfl) ?_
        refine va_get (D := D) (ci := 6) (v := .ref m_2) (C := RX6) (T := TX6) (N := 33) hx hb hts in_X6 hown hK hP 0 rfl rfl 2 (by decide) (hts _ wd_521) (fun _ h9 => h9) rfl dX6_passAll_79 ?_
        refine lv_iload_n hx hb dX6_passAll_82 rfl (lv_at hl 1 rfl) ?_
        obtain ⟨h20, hF⟩ := of_ck hF
        refine va_iald (D := D) hx hb hK hP 2 0 rfl rfl h20 dX6_passAll_83 ?_
        obtain ⟨q21, hGq21, hF⟩ := of_bind hF
        refine callVi (As := [.int ((om19 2) (v11).toNatClampNeg)]) (rest := [.int v11, .ref m_2]) (wr := []) (WN := wm_X6_passAll cI cZ cO m_h m_1 m_2 m_3 m_22 m_23 m_24 m_27 m_29 m_30 q21.2) ⟨hx, hb, hml, hown, hts⟩ hK hP hD hS hA [0, 1, 2, 3, 4, 5, 6, 7, 8, 9] [] [0, 1, 2, 3, 4, 5, 6, 7, 8, 9] (c_X6_pass l D cI cZ cO m_h m_1 m_2 m_3 m_22 m_23 m_24 m_27 m_29 m_30 _ om19 ((om19 2) (v11).toNatClampNeg) q21 hGq21) (cwV 1 hts (gV wd_803 wd_805 wd_31 wd_39 wd_806) rfl rfl rfl (by decide +kernel) ⟨Nat.le_of_ble_eq_true rfl, Nat.le_of_ble_eq_true rfl⟩) 0 6 rfl rfl rfl rfl rfl rfl rfl (by decide) rfl rfl rfl hl.1 rfl (Nat.le_of_ble_eq_true rfl) dX6_passAll_84 ⟨Nat.zero_le _, Nat.zero_le _⟩ (fun H locs hP hD hS => ?_)
        obtain ⟨h22, hF⟩ := of_ck hF
        refine va_iast (D := D) hx hb hK hP hD hS 2 0 rfl rfl h22 dX6_passAll_87 (fun H locs hP hD hS => ?_)
        obtain ⟨om23, hF, hP, hD⟩ := nm_o (P := fun y => va_P D vwCl (wm_X6_passAll cI cZ cO m_h m_1 m_2 m_3 m_22 m_23 m_24 m_27 m_29 m_30 y) _) (B := fun y => va_D A (wm_X6_passAll cI cZ cO m_h m_1 m_2 m_3 m_22 m_23 m_24 m_27 m_29 m_30 y)) hF hP hD
        refine lv_aload_n hx hb dX6_passAll_88 rfl (lv_at hl 0 rfl) ?_
        refine va_get (D := D) (ci := 6) (v := .ref m_3) (C := RX6) (T := TX6) (N := 33) hx hb hts in_X6 hown hK hP 0 rfl rfl 3 (by decide) (hts _ wd_522) (fun _ h9 => h9) rfl dX6_passAll_89 ?_
        refine lv_iload_n hx hb dX6_passAll_92 rfl (lv_at hl 1 rfl) ?_
        refine lv_aload_n hx hb dX6_passAll_93 rfl (lv_at hl 0 rfl) ?_
        refine lv_aload_n hx hb dX6_passAll_94 rfl (lv_at hl 0 rfl) ?_
        refine va_get (D := D) (ci := 6) (v := .ref m_3) (C := RX6) (T := TX6) (N := 33) hx hb hts in_X6 hown hK hP 0 rfl rfl 3 (by decide) (hts _ wd_522) (fun _ h9 => h9) rfl dX6_passAll_95 ?_
        refine lv_iload_n hx hb dX6_passAll_98 rfl (lv_at hl 1 rfl) ?_
        obtain ⟨h24, hF⟩ := of_ck hF
        refine va_iald (D := D) hx hb hK hP 3 0 rfl rfl h24 dX6_passAll_99 ?_
        obtain ⟨q25, hGq25, hF⟩ := of_bind hF
        refine callVi (As := [.int ((om23 3) (v11).toNatClampNeg)]) (rest := [.int v11, .ref m_3]) (wr := []) (WN := wm_X6_passAll cI cZ cO m_h m_1 m_2 m_3 m_22 m_23 m_24 m_27 m_29 m_30 q25.2) ⟨hx, hb, hml, hown, hts⟩ hK hP hD hS hA [0, 1, 2, 3, 4, 5, 6, 7, 8, 9] [] [0, 1, 2, 3, 4, 5, 6, 7, 8, 9] (c_X6_pass l D cI cZ cO m_h m_1 m_2 m_3 m_22 m_23 m_24 m_27 m_29 m_30 _ om23 ((om23 3) (v11).toNatClampNeg) q25 hGq25) (cwV 1 hts (gV wd_803 wd_805 wd_31 wd_39 wd_806) rfl rfl rfl (by decide +kernel) ⟨Nat.le_of_ble_eq_true rfl, Nat.le_of_ble_eq_true rfl⟩) 0 6 rfl rfl rfl rfl rfl rfl rfl (by decide) rfl rfl rfl hl.1 rfl (Nat.le_of_ble_eq_true rfl) dX6_passAll_100 ⟨Nat.zero_le _, Nat.zero_le _⟩ (fun H locs hP hD hS => ?_)
        obtain ⟨h26, hF⟩ := of_ck hF
        refine va_iast (D := D) hx hb hK hP hD hS 3 0 rfl rfl h26 dX6_passAll_103 (fun H locs hP hD hS => ?_)
        obtain ⟨om27, hF, hP, hD⟩ := nm_o (P := fun y => va_P D vwCl (wm_X6_passAll cI cZ cO m_h m_1 m_2 m_3 m_22 m_23 m_24 m_27 m_29 m_30 y) _) (B := fun y => va_D A (wm_X6_passAll cI cZ cO m_h m_1 m_2 m_3 m_22 m_23 m_24 m_27 m_29 m_30 y)) hF hP hD
        obtain ⟨v28, ev28⟩ : ∃ y : Int32, y = v11 + 1 := ⟨_, rfl⟩
        replace hF := of_dd hF v28 ev28
        refine lv_iinc (v := v28) (lv' := [(1, .int v28), (0, .ref m_h)]) hx hb dX6_passAll_104 hl (k := 1) rfl (by rw [ev28]; rfl) (by decide) rfl (fun ls hl => ?_)
        refine lv_goto (tgt := 50) hx hb dX6_passAll_107 (by decide) ?_
        exact ih13 v28 om27 ls _ _ (lv_sub hl [1, 0] rfl) hP hD hS hF
  exact hloop29 2000 0 om8 ls _ _ (lv_sub hl [1, 0] rfl) hP hD hS hF

/-! ### ThreeLegsModel.image(I)I -/
abbrev wm_X6_image (cI cZ cO : ClassId) (m_h m_1 m_2 m_3 m_22 m_23 m_24 m_27 m_29 m_30 : Nat) (om : Ob) : va_W := [(m_h, .inr (6, [.int (om 0 0), .ref m_1, .ref m_2, .ref m_3, .int (om 4 0), .int (om 5 0), .int (om 6 0), .int (om 7 0), .int (om 8 0), .int (om 9 0), .int (om 10 0), .int (om 11 0), .int (om 12 0), .int (om 13 0), .int (om 14 0), .int (om 15 0), .int (om 16 0), .int (om 17 0), .int (om 18 0), .int (om 19 0), .int (om 20 0), .int (om 21 0), .ref m_22, .ref m_23, .ref m_24, .int (om 25 0), .int (om 26 0), .ref m_27, .int (om 28 0), .ref m_29, .ref m_30, .int (om 31 0), .int (om 32 0)])), (m_1, .inl (cI, 8, .inl (om 1))), (m_2, .inl (cI, 8, .inl (om 2))), (m_3, .inl (cI, 8, .inl (om 3))), (m_22, .inl (cI, 64, .inl (om 22))), (m_23, .inl (cI, 8, .inl (om 23))), (m_24, .inl (cI, 8, .inl (om 24))), (m_27, .inl (cI, 40, .inl (om 27))), (m_29, .inl (cI, 80, .inl (om 29))), (m_30, .inl (cZ, 2, .inl (om 30)))]
def F_X6_image (om : Ob) (p0 : Int32) : Option (Int32 × Ob) :=
  (F_X6_in (Int32.toInt64 p0) (0 : Int64) (1 : Int64)).bind (fun q1 => (if q1 = 0 then some ((-2), om) else dd (40 * p0) (fun (v3 : Int32) => dd (sO om 31 (cst v3)) (fun (om4 : Ob) => dd (sO om4 32 (cst 1)) (fun (om5 : Ob) => (F_X6_passAll om5).bind (fun q6 => ck p0 2 (dd (sO q6 30 (upd (q6 30) (p0).toNatClampNeg (vp_nar .boolean 1))) (fun (om8 : Ob) => some (1, om8)))))))))
abbrev rm_X6_image : Room := { frames := 2, cells := 0, slots := 0, locals := 43 }
abbrev wu_X6_image : List Cond := .code yX6_image cX6_image 2 (some .int) :: lwG
set_option maxHeartbeats 20000000 in
set_option maxRecDepth 100000 in
theorem c_X6_image (l : Launch) (D : va_G) (cI cZ cO : ClassId) (m_h m_1 m_2 m_3 m_22 m_23 m_24 m_27 m_29 m_30 : Nat) (sz : Nat) (om : Ob) (p0 : Int32) (q : Int32 × Ob) (hF : F_X6_image om p0 = some q) : CtI l yX6_image wu_X6_image rm_X6_image D vwCl (tyL cI cZ cO) [.ref m_h, .int p0] (wm_X6_image cI cZ cO m_h m_1 m_2 m_3 m_22 m_23 m_24 m_27 m_29 m_30 om) sz 0 0 (fun (r : Int32) (u : Ob) => r = q.1 ∧ u = q.2) (fun u => wm_X6_image cI cZ cO m_h m_1 m_2 m_3 m_22 m_23 m_24 m_27 m_29 m_30 u) := by
  refine mk_i (cc := cX6_image) (maxL := 2) (by decide) rfl (Nat.le_of_ble_eq_true rfl) ?_
  intro p e s m args below meth c A ls Q hx hb hml hown hts hin hK hP hD hS hA hl hQ
  have hl : lv_has ls 2 [(0, .ref m_h), (1, .int p0)] := hl
  unfold F_X6_image at hF
  refine lv_iload_n hx hb dX6_image_0 rfl (lv_at hl 1 rfl) ?_
  refine lv_i2l hx hb dX6_image_1 rfl ?_
  refine lv_lconst (v := 0) hx hb dX6_image_2 (by decide) ?_
  refine lv_lconst (v := 1) hx hb dX6_image_3 (by decide) ?_
  obtain ⟨q1, hGq1, hF⟩ := of_bind hF
  refine callSi (As := [.long (Int32.toInt64 p0), .long (0 : Int64), .long (1 : Int64)]) (rest := []) ⟨hx, hb, hml, hown, hts⟩ hK hP hD hS hA (c_X6_in l D cI cZ cO  _ (Int32.toInt64 p0) (0 : Int64) (1 : Int64) q1 hGq1) (va_cwS 3 hts (gS wd_624 wd_625 wd_39 wd_626) rfl rfl rfl (by decide +kernel) ⟨Nat.le_of_ble_eq_true rfl, Nat.le_of_ble_eq_true rfl⟩) rfl hl.1 rfl (Nat.le_of_ble_eq_true rfl) dX6_image_4 ⟨Nat.zero_le _, Nat.zero_le _⟩ (fun H locs hP hS => ?_)
  refine lv_if_ne (tgt := 13) hx hb dX6_image_7 (by decide) (fun h2 => ?_) (fun h2 => ?_)
  · replace hF := of_f h2 hF
    refine lv_aload_n hx hb dX6_image_13 rfl (lv_at hl 0 rfl) ?_
    refine lv_bipush (v := 40) hx hb dX6_image_14 (by decide) ?_
    refine lv_iload_n hx hb dX6_image_16 rfl (lv_at hl 1 rfl) ?_
    refine lv_imul hx hb dX6_image_17 ?_
    refine lv_topi (fun v3 ev3 => ?_)
    replace hF := of_dd hF v3 ev3
    refine va_put (D := D) (ci := 6) (v := .int v3) (ty := .int) (C := RX6) (T := TX6) (N := 33) hx hb hts in_X6 tyX6 tyX6_ok nmX6 hown hK hP hD hS 0 rfl rfl 31 (by decide) (hts _ wd_550) (fun _ h9 => h9) rfl (tyX6_ok 31 (by decide)) rfl rfl (Nat.le_of_ble_eq_true rfl) dX6_image_18 (fun H locs hP hD hS => ?_)
    obtain ⟨om4, hF, hP, hD⟩ := nm_o (P := fun y => va_P D vwCl (wm_X6_image cI cZ cO m_h m_1 m_2 m_3 m_22 m_23 m_24 m_27 m_29 m_30 y) _) (B := fun y => va_D A (wm_X6_image cI cZ cO m_h m_1 m_2 m_3 m_22 m_23 m_24 m_27 m_29 m_30 y)) hF hP hD
    refine lv_aload_n hx hb dX6_image_21 rfl (lv_at hl 0 rfl) ?_
    refine lv_iconst (v := 1) hx hb dX6_image_22 (by decide) ?_
    refine va_put (D := D) (ci := 6) (v := .int 1) (ty := .boolean) (C := RX6) (T := TX6) (N := 33) hx hb hts in_X6 tyX6 tyX6_ok nmX6 hown hK hP hD hS 0 rfl rfl 32 (by decide) (hts _ wd_551) (fun _ h9 => h9) rfl (tyX6_ok 32 (by decide)) rfl rfl (Nat.le_of_ble_eq_true rfl) dX6_image_23 (fun H locs hP hD hS => ?_)
    obtain ⟨om5, hF, hP, hD⟩ := nm_o (P := fun y => va_P D vwCl (wm_X6_image cI cZ cO m_h m_1 m_2 m_3 m_22 m_23 m_24 m_27 m_29 m_30 y) _) (B := fun y => va_D A (wm_X6_image cI cZ cO m_h m_1 m_2 m_3 m_22 m_23 m_24 m_27 m_29 m_30 y)) hF hP hD
    refine lv_aload_n hx hb dX6_image_26 rfl (lv_at hl 0 rfl) ?_
    obtain ⟨q6, hGq6, hF⟩ := of_bind hF
    refine callVv (As := []) (rest := []) (wr := []) (WN := wm_X6_image cI cZ cO m_h m_1 m_2 m_3 m_22 m_23 m_24 m_27 m_29 m_30 q6) ⟨hx, hb, hml, hown, hts⟩ hK hP hD hS hA [0, 1, 2, 3, 4, 5, 6, 7, 8, 9] [] [0, 1, 2, 3, 4, 5, 6, 7, 8, 9] (c_X6_passAll l D cI cZ cO m_h m_1 m_2 m_3 m_22 m_23 m_24 m_27 m_29 m_30 _ om5 q6 hGq6) (cwV 0 hts (gV wd_799 wd_801 wd_30 wd_39 wd_802) rfl rfl rfl (by decide +kernel) ⟨Nat.le_of_ble_eq_true rfl, Nat.le_of_ble_eq_true rfl⟩) 0 6 rfl rfl rfl rfl rfl rfl rfl (by decide) rfl rfl rfl hl.1 rfl (Nat.le_of_ble_eq_true rfl) dX6_image_27 ⟨Nat.zero_le _, Nat.zero_le _⟩ (fun H locs hP hD hS => ?_)
    refine lv_aload_n hx hb dX6_image_30 rfl (lv_at hl 0 rfl) ?_
    refine va_get (D := D) (ci := 6) (v := .ref m_30) (C := RX6) (T := TX6) (N := 33) hx hb hts in_X6 hown hK hP 0 rfl rfl 30 (by decide) (hts _ wd_549) (fun _ h9 => h9) rfl dX6_image_31 ?_
    refine lv_iload_n hx hb dX6_image_34 rfl (lv_at hl 1 rfl) ?_
    refine lv_iconst (v := 1) hx hb dX6_image_35 (by decide) ?_
    obtain ⟨h7, hF⟩ := of_ck hF
    refine va_zast (D := D) hx hb hK hP hD hS 9 1 rfl rfl h7 dX6_image_36 (fun H locs hP hD hS => ?_)
    obtain ⟨om8, hF, hP, hD⟩ := nm_o (P := fun y => va_P D vwCl (wm_X6_image cI cZ cO m_h m_1 m_2 m_3 m_22 m_23 m_24 m_27 m_29 m_30 y) _) (B := fun y => va_D A (wm_X6_image cI cZ cO m_h m_1 m_2 m_3 m_22 m_23 m_24 m_27 m_29 m_30 y)) hF hP hD
    refine lv_iconst (v := 1) hx hb dX6_image_37 (by decide) ?_
    exact hQ _ _ _ _ _ om8 ⟨inj_fst hF, inj_snd hF⟩ hP hD hS dX6_image_38
  · replace hF := of_t h2 hF
    refine lv_bipush (v := (-2)) hx hb dX6_image_10 (by decide) ?_
    exact hQ _ _ _ _ _ om ⟨inj_fst hF, inj_snd hF⟩ hP hD hS dX6_image_12

/-! ### ThreeLegsModel.restore(I)I -/
abbrev wm_X6_restore (cI cZ cO : ClassId) (m_h m_1 m_2 m_3 m_22 m_23 m_24 m_27 m_29 m_30 : Nat) (om : Ob) : va_W := [(m_h, .inr (6, [.int (om 0 0), .ref m_1, .ref m_2, .ref m_3, .int (om 4 0), .int (om 5 0), .int (om 6 0), .int (om 7 0), .int (om 8 0), .int (om 9 0), .int (om 10 0), .int (om 11 0), .int (om 12 0), .int (om 13 0), .int (om 14 0), .int (om 15 0), .int (om 16 0), .int (om 17 0), .int (om 18 0), .int (om 19 0), .int (om 20 0), .int (om 21 0), .ref m_22, .ref m_23, .ref m_24, .int (om 25 0), .int (om 26 0), .ref m_27, .int (om 28 0), .ref m_29, .ref m_30, .int (om 31 0), .int (om 32 0)])), (m_1, .inl (cI, 8, .inl (om 1))), (m_2, .inl (cI, 8, .inl (om 2))), (m_3, .inl (cI, 8, .inl (om 3))), (m_22, .inl (cI, 64, .inl (om 22))), (m_23, .inl (cI, 8, .inl (om 23))), (m_24, .inl (cI, 8, .inl (om 24))), (m_27, .inl (cI, 40, .inl (om 27))), (m_29, .inl (cI, 80, .inl (om 29))), (m_30, .inl (cZ, 2, .inl (om 30)))]
def F_X6_restore (om : Ob) (p0 : Int32) : Option (Int32 × Ob) :=
  (F_X6_in (Int32.toInt64 p0) (0 : Int64) (1 : Int64)).bind (fun q1 => (if q1 = 0 then some ((-2), om) else ck p0 2 ((if ((om 30) (p0).toNatClampNeg) = 0 then some ((-3), om) else dd (40 * p0) (fun (v5 : Int32) => dd (sO om 31 (cst v5)) (fun (om6 : Ob) => dd (sO om6 32 (cst 0)) (fun (om7 : Ob) => (F_X6_passAll om7).bind (fun q8 => some (1, q8)))))))))
abbrev rm_X6_restore : Room := { frames := 2, cells := 0, slots := 0, locals := 43 }
abbrev wu_X6_restore : List Cond := .code yX6_restore cX6_restore 2 (some .int) :: lwG
set_option maxHeartbeats 20000000 in
set_option maxRecDepth 100000 in
theorem c_X6_restore (l : Launch) (D : va_G) (cI cZ cO : ClassId) (m_h m_1 m_2 m_3 m_22 m_23 m_24 m_27 m_29 m_30 : Nat) (sz : Nat) (om : Ob) (p0 : Int32) (q : Int32 × Ob) (hF : F_X6_restore om p0 = some q) : CtI l yX6_restore wu_X6_restore rm_X6_restore D vwCl (tyL cI cZ cO) [.ref m_h, .int p0] (wm_X6_restore cI cZ cO m_h m_1 m_2 m_3 m_22 m_23 m_24 m_27 m_29 m_30 om) sz 0 0 (fun (r : Int32) (u : Ob) => r = q.1 ∧ u = q.2) (fun u => wm_X6_restore cI cZ cO m_h m_1 m_2 m_3 m_22 m_23 m_24 m_27 m_29 m_30 u) := by
  refine mk_i (cc := cX6_restore) (maxL := 2) (by decide) rfl (Nat.le_of_ble_eq_true rfl) ?_
  intro p e s m args below meth c A ls Q hx hb hml hown hts hin hK hP hD hS hA hl hQ
  have hl : lv_has ls 2 [(0, .ref m_h), (1, .int p0)] := hl
  unfold F_X6_restore at hF
  refine lv_iload_n hx hb dX6_restore_0 rfl (lv_at hl 1 rfl) ?_
  refine lv_i2l hx hb dX6_restore_1 rfl ?_
  refine lv_lconst (v := 0) hx hb dX6_restore_2 (by decide) ?_
  refine lv_lconst (v := 1) hx hb dX6_restore_3 (by decide) ?_
  obtain ⟨q1, hGq1, hF⟩ := of_bind hF
  refine callSi (As := [.long (Int32.toInt64 p0), .long (0 : Int64), .long (1 : Int64)]) (rest := []) ⟨hx, hb, hml, hown, hts⟩ hK hP hD hS hA (c_X6_in l D cI cZ cO  _ (Int32.toInt64 p0) (0 : Int64) (1 : Int64) q1 hGq1) (va_cwS 3 hts (gS wd_624 wd_625 wd_39 wd_626) rfl rfl rfl (by decide +kernel) ⟨Nat.le_of_ble_eq_true rfl, Nat.le_of_ble_eq_true rfl⟩) rfl hl.1 rfl (Nat.le_of_ble_eq_true rfl) dX6_restore_4 ⟨Nat.zero_le _, Nat.zero_le _⟩ (fun H locs hP hS => ?_)
  refine lv_if_ne (tgt := 13) hx hb dX6_restore_7 (by decide) (fun h2 => ?_) (fun h2 => ?_)
  · replace hF := of_f h2 hF
    refine lv_aload_n hx hb dX6_restore_13 rfl (lv_at hl 0 rfl) ?_
    refine va_get (D := D) (ci := 6) (v := .ref m_30) (C := RX6) (T := TX6) (N := 33) hx hb hts in_X6 hown hK hP 0 rfl rfl 30 (by decide) (hts _ wd_549) (fun _ h9 => h9) rfl dX6_restore_14 ?_
    refine lv_iload_n hx hb dX6_restore_17 rfl (lv_at hl 1 rfl) ?_
    obtain ⟨h3, hF⟩ := of_ck hF
    refine va_zald (D := D) hx hb hK hP 9 1 rfl rfl h3 dX6_restore_18 ?_
    refine lv_if_ne (tgt := 25) hx hb dX6_restore_19 (by decide) (fun h4 => ?_) (fun h4 => ?_)
    · replace hF := of_f h4 hF
      refine lv_aload_n hx hb dX6_restore_25 rfl (lv_at hl 0 rfl) ?_
      refine lv_bipush (v := 40) hx hb dX6_restore_26 (by decide) ?_
      refine lv_iload_n hx hb dX6_restore_28 rfl (lv_at hl 1 rfl) ?_
      refine lv_imul hx hb dX6_restore_29 ?_
      refine lv_topi (fun v5 ev5 => ?_)
      replace hF := of_dd hF v5 ev5
      refine va_put (D := D) (ci := 6) (v := .int v5) (ty := .int) (C := RX6) (T := TX6) (N := 33) hx hb hts in_X6 tyX6 tyX6_ok nmX6 hown hK hP hD hS 0 rfl rfl 31 (by decide) (hts _ wd_550) (fun _ h9 => h9) rfl (tyX6_ok 31 (by decide)) rfl rfl (Nat.le_of_ble_eq_true rfl) dX6_restore_30 (fun H locs hP hD hS => ?_)
      obtain ⟨om6, hF, hP, hD⟩ := nm_o (P := fun y => va_P D vwCl (wm_X6_restore cI cZ cO m_h m_1 m_2 m_3 m_22 m_23 m_24 m_27 m_29 m_30 y) _) (B := fun y => va_D A (wm_X6_restore cI cZ cO m_h m_1 m_2 m_3 m_22 m_23 m_24 m_27 m_29 m_30 y)) hF hP hD
      refine lv_aload_n hx hb dX6_restore_33 rfl (lv_at hl 0 rfl) ?_
      refine lv_iconst (v := 0) hx hb dX6_restore_34 (by decide) ?_
      refine va_put (D := D) (ci := 6) (v := .int 0) (ty := .boolean) (C := RX6) (T := TX6) (N := 33) hx hb hts in_X6 tyX6 tyX6_ok nmX6 hown hK hP hD hS 0 rfl rfl 32 (by decide) (hts _ wd_551) (fun _ h9 => h9) rfl (tyX6_ok 32 (by decide)) rfl rfl (Nat.le_of_ble_eq_true rfl) dX6_restore_35 (fun H locs hP hD hS => ?_)
      obtain ⟨om7, hF, hP, hD⟩ := nm_o (P := fun y => va_P D vwCl (wm_X6_restore cI cZ cO m_h m_1 m_2 m_3 m_22 m_23 m_24 m_27 m_29 m_30 y) _) (B := fun y => va_D A (wm_X6_restore cI cZ cO m_h m_1 m_2 m_3 m_22 m_23 m_24 m_27 m_29 m_30 y)) hF hP hD
      refine lv_aload_n hx hb dX6_restore_38 rfl (lv_at hl 0 rfl) ?_
      obtain ⟨q8, hGq8, hF⟩ := of_bind hF
      refine callVv (As := []) (rest := []) (wr := []) (WN := wm_X6_restore cI cZ cO m_h m_1 m_2 m_3 m_22 m_23 m_24 m_27 m_29 m_30 q8) ⟨hx, hb, hml, hown, hts⟩ hK hP hD hS hA [0, 1, 2, 3, 4, 5, 6, 7, 8, 9] [] [0, 1, 2, 3, 4, 5, 6, 7, 8, 9] (c_X6_passAll l D cI cZ cO m_h m_1 m_2 m_3 m_22 m_23 m_24 m_27 m_29 m_30 _ om7 q8 hGq8) (cwV 0 hts (gV wd_799 wd_801 wd_30 wd_39 wd_802) rfl rfl rfl (by decide +kernel) ⟨Nat.le_of_ble_eq_true rfl, Nat.le_of_ble_eq_true rfl⟩) 0 6 rfl rfl rfl rfl rfl rfl rfl (by decide) rfl rfl rfl hl.1 rfl (Nat.le_of_ble_eq_true rfl) dX6_restore_39 ⟨Nat.zero_le _, Nat.zero_le _⟩ (fun H locs hP hD hS => ?_)
      refine lv_iconst (v := 1) hx hb dX6_restore_42 (by decide) ?_
      exact hQ _ _ _ _ _ q8 ⟨inj_fst hF, inj_snd hF⟩ hP hD hS dX6_restore_43
    · replace hF := of_t h4 hF
      refine lv_bipush (v := (-3)) hx hb dX6_restore_22 (by decide) ?_
      exact hQ _ _ _ _ _ om ⟨inj_fst hF, inj_snd hF⟩ hP hD hS dX6_restore_24
  · replace hF := of_t h2 hF
    refine lv_bipush (v := (-2)) hx hb dX6_restore_10 (by decide) ?_
    exact hQ _ _ _ _ _ om ⟨inj_fst hF, inj_snd hF⟩ hP hD hS dX6_restore_12

/-! ### ThreeLegsModel.told(I)I -/
abbrev wm_X6_told (cI cZ cO : ClassId) (m_h m_1 m_2 m_3 m_22 m_23 m_24 m_27 m_29 m_30 : Nat) (om : Ob) : va_W := [(m_h, .inr (6, [.int (om 0 0), .ref m_1, .ref m_2, .ref m_3, .int (om 4 0), .int (om 5 0), .int (om 6 0), .int (om 7 0), .int (om 8 0), .int (om 9 0), .int (om 10 0), .int (om 11 0), .int (om 12 0), .int (om 13 0), .int (om 14 0), .int (om 15 0), .int (om 16 0), .int (om 17 0), .int (om 18 0), .int (om 19 0), .int (om 20 0), .int (om 21 0), .ref m_22, .ref m_23, .ref m_24, .int (om 25 0), .int (om 26 0), .ref m_27, .int (om 28 0), .ref m_29, .ref m_30, .int (om 31 0), .int (om 32 0)])), (m_1, .inl (cI, 8, .inl (om 1))), (m_2, .inl (cI, 8, .inl (om 2))), (m_3, .inl (cI, 8, .inl (om 3))), (m_22, .inl (cI, 64, .inl (om 22))), (m_23, .inl (cI, 8, .inl (om 23))), (m_24, .inl (cI, 8, .inl (om 24))), (m_27, .inl (cI, 40, .inl (om 27))), (m_29, .inl (cI, 80, .inl (om 29))), (m_30, .inl (cZ, 2, .inl (om 30)))]
def F_X6_told (om : Ob) (p0 : Int32) : Option (Int32) :=
  (F_X6_in (Int32.toInt64 p0) (10 : Int64) (89 : Int64)).bind (fun q1 => (if q1 = 0 then (if p0 = 0 then some (om 28 0) else (if p0 = 1 then some (om 0 0) else (if p0 = 2 then some (om 4 0) else (if p0 = 3 then some (om 5 0) else (if p0 = 4 then some (om 6 0) else some (-2)))))) else dd (p0 / 10) (fun (v8 : Int32) => dd (v8 - 1) (fun (v9 : Int32) => dd (p0 - p0 / 10 * 10) (fun (v10 : Int32) => (F_X6_runs om v9).bind (fun q11 => (if q11 = 0 then some (-2) else (if v10 ≤ 2 then (if v10 = 0 then ck v9 8 (some ((om 1) (v9).toNatClampNeg)) else (if v10 = 1 then ck v9 8 (some ((om 2) (v9).toNatClampNeg)) else ck v9 8 (some ((om 3) (v9).toNatClampNeg)))) else some (-2)))))))))
abbrev rm_X6_told : Room := { frames := 2, cells := 0, slots := 0, locals := 46 }
abbrev wu_X6_told : List Cond := .code yX6_told cX6_told 4 (some .int) :: lwG
set_option maxHeartbeats 20000000 in
set_option maxRecDepth 100000 in
theorem c_X6_told (l : Launch) (D : va_G) (cI cZ cO : ClassId) (m_h m_1 m_2 m_3 m_22 m_23 m_24 m_27 m_29 m_30 : Nat) (sz : Nat) (om : Ob) (p0 : Int32) (q : Int32) (hF : F_X6_told om p0 = some q) : CtI l yX6_told wu_X6_told rm_X6_told D vwCl (tyL cI cZ cO) [.ref m_h, .int p0] (wm_X6_told cI cZ cO m_h m_1 m_2 m_3 m_22 m_23 m_24 m_27 m_29 m_30 om) sz 0 0 (fun (r : Int32) (u : Unit) => r = q ∧ u = ()) (fun u => wm_X6_told cI cZ cO m_h m_1 m_2 m_3 m_22 m_23 m_24 m_27 m_29 m_30 om) := by
  refine mk_i (cc := cX6_told) (maxL := 4) (by decide) rfl (Nat.le_of_ble_eq_true rfl) ?_
  intro p e s m args below meth c A ls Q hx hb hml hown hts hin hK hP hD hS hA hl hQ
  have hl : lv_has ls 4 [(0, .ref m_h), (1, .int p0)] := hl
  unfold F_X6_told at hF
  refine lv_iload_n hx hb dX6_told_0 rfl (lv_at hl 1 rfl) ?_
  refine lv_i2l hx hb dX6_told_1 rfl ?_
  refine lv_ldc2 hx hb hown (hts _ wd_815) dX6_told_2 ?_
  refine lv_ldc2 hx hb hown (hts _ wd_816) dX6_told_5 ?_
  obtain ⟨q1, hGq1, hF⟩ := of_bind hF
  refine callSi (As := [.long (Int32.toInt64 p0), .long (10 : Int64), .long (89 : Int64)]) (rest := []) ⟨hx, hb, hml, hown, hts⟩ hK hP hD hS hA (c_X6_in l D cI cZ cO  _ (Int32.toInt64 p0) (10 : Int64) (89 : Int64) q1 hGq1) (va_cwS 3 hts (gS wd_624 wd_625 wd_39 wd_626) rfl rfl rfl (by decide +kernel) ⟨Nat.le_of_ble_eq_true rfl, Nat.le_of_ble_eq_true rfl⟩) rfl hl.1 rfl (Nat.le_of_ble_eq_true rfl) dX6_told_8 ⟨Nat.zero_le _, Nat.zero_le _⟩ (fun H locs hP hS => ?_)
  refine lv_if_eq (tgt := 78) hx hb dX6_told_11 (by decide) (fun h2 => ?_) (fun h2 => ?_)
  · replace hF := of_t h2 hF
    refine lv_iload_n hx hb dX6_told_78 rfl (lv_at hl 1 rfl) ?_
    by_cases h3 : p0 = 0
    · replace hF := of_t h3 hF
      refine lv_tableIn (off := 33) (tgt := 112) hx hb dX6_told_79 (by rw [h3]; decide) (by rw [h3]; decide) (by rw [h3]; decide +kernel) (by decide) ?_
      refine lv_aload_n hx hb dX6_told_112 rfl (lv_at hl 0 rfl) ?_
      refine va_get (D := D) (ci := 6) (v := .int (om 28 0)) (C := RX6) (T := TX6) (N := 33) hx hb hts in_X6 hown hK hP 0 rfl rfl 28 (by decide) (hts _ wd_547) (fun _ h9 => h9) rfl dX6_told_113 ?_
      exact hQ _ _ _ _ _ () ⟨Option.some.inj hF, rfl⟩ hP hD hS dX6_told_116
    · replace hF := of_f h3 hF
      by_cases h4 : p0 = 1
      · replace hF := of_t h4 hF
        refine lv_tableIn (off := 38) (tgt := 117) hx hb dX6_told_79 (by rw [h4]; decide) (by rw [h4]; decide) (by rw [h4]; decide +kernel) (by decide) ?_
        refine lv_aload_n hx hb dX6_told_117 rfl (lv_at hl 0 rfl) ?_
        refine va_get (D := D) (ci := 6) (v := .int (om 0 0)) (C := RX6) (T := TX6) (N := 33) hx hb hts in_X6 hown hK hP 0 rfl rfl 0 (by decide) (hts _ wd_519) (fun _ h9 => h9) rfl dX6_told_118 ?_
        exact hQ _ _ _ _ _ () ⟨Option.some.inj hF, rfl⟩ hP hD hS dX6_told_121
      · replace hF := of_f h4 hF
        by_cases h5 : p0 = 2
        · replace hF := of_t h5 hF
          refine lv_tableIn (off := 43) (tgt := 122) hx hb dX6_told_79 (by rw [h5]; decide) (by rw [h5]; decide) (by rw [h5]; decide +kernel) (by decide) ?_
          refine lv_aload_n hx hb dX6_told_122 rfl (lv_at hl 0 rfl) ?_
          refine va_get (D := D) (ci := 6) (v := .int (om 4 0)) (C := RX6) (T := TX6) (N := 33) hx hb hts in_X6 hown hK hP 0 rfl rfl 4 (by decide) (hts _ wd_523) (fun _ h9 => h9) rfl dX6_told_123 ?_
          exact hQ _ _ _ _ _ () ⟨Option.some.inj hF, rfl⟩ hP hD hS dX6_told_126
        · replace hF := of_f h5 hF
          by_cases h6 : p0 = 3
          · replace hF := of_t h6 hF
            refine lv_tableIn (off := 48) (tgt := 127) hx hb dX6_told_79 (by rw [h6]; decide) (by rw [h6]; decide) (by rw [h6]; decide +kernel) (by decide) ?_
            refine lv_aload_n hx hb dX6_told_127 rfl (lv_at hl 0 rfl) ?_
            refine va_get (D := D) (ci := 6) (v := .int (om 5 0)) (C := RX6) (T := TX6) (N := 33) hx hb hts in_X6 hown hK hP 0 rfl rfl 5 (by decide) (hts _ wd_524) (fun _ h9 => h9) rfl dX6_told_128 ?_
            exact hQ _ _ _ _ _ () ⟨Option.some.inj hF, rfl⟩ hP hD hS dX6_told_131
          · replace hF := of_f h6 hF
            by_cases h7 : p0 = 4
            · replace hF := of_t h7 hF
              refine lv_tableIn (off := 53) (tgt := 132) hx hb dX6_told_79 (by rw [h7]; decide) (by rw [h7]; decide) (by rw [h7]; decide +kernel) (by decide) ?_
              refine lv_aload_n hx hb dX6_told_132 rfl (lv_at hl 0 rfl) ?_
              refine va_get (D := D) (ci := 6) (v := .int (om 6 0)) (C := RX6) (T := TX6) (N := 33) hx hb hts in_X6 hown hK hP 0 rfl rfl 6 (by decide) (hts _ wd_525) (fun _ h9 => h9) rfl dX6_told_133 ?_
              exact hQ _ _ _ _ _ () ⟨Option.some.inj hF, rfl⟩ hP hD hS dX6_told_136
            · replace hF := of_f h7 hF
              refine lv_tableOut (tgt := 137) hx hb dX6_told_79 (tab_out (fun k g1 g2 => by
                    have g3 : k = 0 ∨ k = 1 ∨ k = 2 ∨ k = 3 ∨ k = 4 := by omega
                    rcases g3 with rfl | rfl | rfl | rfl | rfl
                    · exact h3
                    · exact h4
                    · exact h5
                    · exact h6
                    · exact h7)) (by decide) ?_
              refine lv_bipush (v := (-2)) hx hb dX6_told_137 (by decide) ?_
              exact hQ _ _ _ _ _ () ⟨Option.some.inj hF, rfl⟩ hP hD hS dX6_told_139
  · replace hF := of_f h2 hF
    refine lv_iload_n hx hb dX6_told_14 rfl (lv_at hl 1 rfl) ?_
    refine lv_bipush (v := 10) hx hb dX6_told_15 (by decide) ?_
    refine lv_idiv hx hb dX6_told_17 (by decide) ?_
    refine lv_topi (fun v8 ev8 => ?_)
    replace hF := of_dd hF v8 ev8
    refine lv_iconst (v := 1) hx hb dX6_told_18 (by decide) ?_
    refine lv_isub hx hb dX6_told_19 ?_
    refine lv_topi (fun v9 ev9 => ?_)
    replace hF := of_dd hF v9 ev9
    refine lv_istore_n (lv' := [(2, .int v9), (0, .ref m_h), (1, .int p0)]) hx hb dX6_told_20 rfl hl (by decide) rfl (fun ls hl => ?_)
    refine lv_iload_n hx hb dX6_told_21 rfl (lv_at hl 2 rfl) ?_
    refine lv_bipush (v := 10) hx hb dX6_told_22 (by decide) ?_
    refine lv_irem hx hb dX6_told_24 (by decide) ?_
    refine lv_topi (fun v10 ev10 => ?_)
    replace hF := of_dd hF v10 ev10
    refine lv_istore_n (lv' := [(3, .int v10), (2, .int v9), (0, .ref m_h), (1, .int p0)]) hx hb dX6_told_25 rfl hl (by decide) rfl (fun ls hl => ?_)
    refine lv_aload_n hx hb dX6_told_26 rfl (lv_at hl 2 rfl) ?_
    refine lv_iload_n hx hb dX6_told_27 rfl (lv_at hl 1 rfl) ?_
    obtain ⟨q11, hGq11, hF⟩ := of_bind hF
    refine callVi (As := [.int v9]) (rest := []) (wr := []) (WN := wm_X6_told cI cZ cO m_h m_1 m_2 m_3 m_22 m_23 m_24 m_27 m_29 m_30 om) ⟨hx, hb, hml, hown, hts⟩ hK hP hD hS hA [0, 1, 2, 3, 4, 5, 6, 7, 8, 9] [] [0, 1, 2, 3, 4, 5, 6, 7, 8, 9] (c_X6_runs l D cI cZ cO m_h m_1 m_2 m_3 m_22 m_23 m_24 m_27 m_29 m_30 _ om v9 q11 hGq11) (cwV 1 hts (gV wd_637 wd_639 wd_14 wd_39 wd_640) rfl rfl rfl (by decide +kernel) ⟨Nat.le_of_ble_eq_true rfl, Nat.le_of_ble_eq_true rfl⟩) 0 6 rfl rfl rfl rfl rfl rfl rfl (by decide) rfl rfl rfl hl.1 rfl (Nat.le_of_ble_eq_true rfl) dX6_told_28 ⟨Nat.zero_le _, Nat.zero_le _⟩ (fun H locs hP hD hS => ?_)
    refine lv_if_eq (tgt := 39) hx hb dX6_told_31 (by decide) (fun h12 => ?_) (fun h12 => ?_)
    · replace hF := of_t h12 hF
      refine lv_bipush (v := (-2)) hx hb dX6_told_39 (by decide) ?_
      refine lv_goto (tgt := 77) hx hb dX6_told_41 (by decide) ?_
      exact hQ _ _ _ _ _ () ⟨Option.some.inj hF, rfl⟩ hP hD hS dX6_told_77
    · replace hF := of_f h12 hF
      refine lv_iload_n hx hb dX6_told_34 rfl (lv_at hl 0 rfl) ?_
      refine lv_iconst (v := 2) hx hb dX6_told_35 (by decide) ?_
      refine lv_icmp_le (tgt := 44) hx hb dX6_told_36 (by decide) (fun h13 => ?_) (fun h13 => ?_)
      · replace hF := of_t h13 hF
        refine lv_iload_n hx hb dX6_told_44 rfl (lv_at hl 0 rfl) ?_
        refine lv_if_ne (tgt := 57) hx hb dX6_told_45 (by decide) (fun h14 => ?_) (fun h14 => ?_)
        · replace hF := of_f h14 hF
          refine lv_iload_n hx hb dX6_told_57 rfl (lv_at hl 0 rfl) ?_
          refine lv_iconst (v := 1) hx hb dX6_told_58 (by decide) ?_
          refine lv_icmp_ne (tgt := 71) hx hb dX6_told_59 (by decide) (fun h15 => ?_) (fun h15 => ?_)
          · replace hF := of_f h15 hF
            refine lv_aload_n hx hb dX6_told_71 rfl (lv_at hl 2 rfl) ?_
            refine va_get (D := D) (ci := 6) (v := .ref m_3) (C := RX6) (T := TX6) (N := 33) hx hb hts in_X6 hown hK hP 0 rfl rfl 3 (by decide) (hts _ wd_522) (fun _ h9 => h9) rfl dX6_told_72 ?_
            refine lv_iload_n hx hb dX6_told_75 rfl (lv_at hl 1 rfl) ?_
            obtain ⟨h16, hF⟩ := of_ck hF
            refine va_iald (D := D) hx hb hK hP 3 0 rfl rfl h16 dX6_told_76 ?_
            exact hQ _ _ _ _ _ () ⟨Option.some.inj hF, rfl⟩ hP hD hS dX6_told_77
          · replace hF := of_t h15 hF
            refine lv_aload_n hx hb dX6_told_62 rfl (lv_at hl 2 rfl) ?_
            refine va_get (D := D) (ci := 6) (v := .ref m_2) (C := RX6) (T := TX6) (N := 33) hx hb hts in_X6 hown hK hP 0 rfl rfl 2 (by decide) (hts _ wd_521) (fun _ h9 => h9) rfl dX6_told_63 ?_
            refine lv_iload_n hx hb dX6_told_66 rfl (lv_at hl 1 rfl) ?_
            obtain ⟨h17, hF⟩ := of_ck hF
            refine va_iald (D := D) hx hb hK hP 2 0 rfl rfl h17 dX6_told_67 ?_
            refine lv_goto (tgt := 77) hx hb dX6_told_68 (by decide) ?_
            exact hQ _ _ _ _ _ () ⟨Option.some.inj hF, rfl⟩ hP hD hS dX6_told_77
        · replace hF := of_t h14 hF
          refine lv_aload_n hx hb dX6_told_48 rfl (lv_at hl 2 rfl) ?_
          refine va_get (D := D) (ci := 6) (v := .ref m_1) (C := RX6) (T := TX6) (N := 33) hx hb hts in_X6 hown hK hP 0 rfl rfl 1 (by decide) (hts _ wd_520) (fun _ h9 => h9) rfl dX6_told_49 ?_
          refine lv_iload_n hx hb dX6_told_52 rfl (lv_at hl 1 rfl) ?_
          obtain ⟨h18, hF⟩ := of_ck hF
          refine va_iald (D := D) hx hb hK hP 1 0 rfl rfl h18 dX6_told_53 ?_
          refine lv_goto (tgt := 77) hx hb dX6_told_54 (by decide) ?_
          exact hQ _ _ _ _ _ () ⟨Option.some.inj hF, rfl⟩ hP hD hS dX6_told_77
      · replace hF := of_f h13 hF
        refine lv_bipush (v := (-2)) hx hb dX6_told_39 (by decide) ?_
        refine lv_goto (tgt := 77) hx hb dX6_told_41 (by decide) ?_
        exact hQ _ _ _ _ _ () ⟨Option.some.inj hF, rfl⟩ hP hD hS dX6_told_77
