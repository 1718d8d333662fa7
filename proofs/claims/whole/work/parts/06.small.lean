/-! ### ThreeLegs$Crowd.hasRunner(I)Z -/
abbrev wm_X0_hasRunner (cI cZ cO : ClassId) (c_h c_0 c_1 c_2 c_3 : Nat) (oc : Ob) : va_W := [(c_h, .inr (0, [.ref c_0, .ref c_1, .ref c_2, .ref c_3, .int (oc 4 0), .int (oc 5 0), .int (oc 6 0)])), (c_0, .inl (cZ, 8, .inl (oc 0))), (c_1, .inl (cI, 8, .inl (oc 1))), (c_2, .inl (cI, 8, .inl (oc 2))), (c_3, .inl (cI, 8, .inl (oc 3)))]
def F_X0_hasRunner (oc : Ob) (p0 : Int32) : Option (Int32) :=
  (if p0 < 0 then some 0 else (if 8 ≤ p0 then some 0 else ck p0 8 ((if ((oc 0) (p0).toNatClampNeg) = 0 then some 0 else some 1))))
abbrev rm_X0_hasRunner : Room := { frames := 0, cells := 0, slots := 0, locals := 0 }
abbrev wu_X0_hasRunner : List Cond := .code yX0_hasRunner cX0_hasRunner 2 (some .boolean) :: lwG
set_option maxHeartbeats 20000000 in
set_option maxRecDepth 100000 in
theorem c_X0_hasRunner (l : Launch) (D : va_G) (cI cZ cO : ClassId) (c_h c_0 c_1 c_2 c_3 : Nat) (sz : Nat) (oc : Ob) (p0 : Int32) (q : Int32) (hF : F_X0_hasRunner oc p0 = some q) : CtI l yX0_hasRunner wu_X0_hasRunner rm_X0_hasRunner D vwCl (tyL cI cZ cO) [.ref c_h, .int p0] (wm_X0_hasRunner cI cZ cO c_h c_0 c_1 c_2 c_3 oc) sz 0 0 (fun (r : Int32) (u : Unit) => r = q ∧ u = ()) (fun u => wm_X0_hasRunner cI cZ cO c_h c_0 c_1 c_2 c_3 oc) := by
  refine mk_z (cc := cX0_hasRunner) (maxL := 2) (by decide) rfl (Nat.le_of_ble_eq_true rfl) ?_
  intro p e s m args below meth c A ls Q hx hb hml hown hts hin hK hP hD hS hA hl hQ
  have hl : lv_has ls 2 [(0, .ref c_h), (1, .int p0)] := hl
  unfold F_X0_hasRunner at hF
  refine lv_iload_n hx hb dX0_hasRunner_0 rfl (lv_at hl 1 rfl) ?_
  refine lv_if_lt (tgt := 23) hx hb dX0_hasRunner_1 (by decide) (fun h1 => ?_) (fun h1 => ?_)
  · replace hF := of_t h1 hF
    refine lv_iconst (v := 0) hx hb dX0_hasRunner_23 (by decide) ?_
    exact hQ _ _ _ _ _ () rfl ⟨Option.some.inj hF, rfl⟩ hP hD hS dX0_hasRunner_24
  · replace hF := of_f h1 hF
    refine lv_iload_n hx hb dX0_hasRunner_4 rfl (lv_at hl 1 rfl) ?_
    refine lv_bipush (v := 8) hx hb dX0_hasRunner_5 (by decide) ?_
    refine lv_icmp_ge (tgt := 23) hx hb dX0_hasRunner_7 (by decide) (fun h2 => ?_) (fun h2 => ?_)
    · replace hF := of_t h2 hF
      refine lv_iconst (v := 0) hx hb dX0_hasRunner_23 (by decide) ?_
      exact hQ _ _ _ _ _ () rfl ⟨Option.some.inj hF, rfl⟩ hP hD hS dX0_hasRunner_24
    · replace hF := of_f h2 hF
      refine lv_aload_n hx hb dX0_hasRunner_10 rfl (lv_at hl 0 rfl) ?_
      refine va_get (D := D) (ci := 0) (v := .ref c_0) (C := RX0) (T := TX0) (N := 7) hx hb hts in_X0 hown hK hP 0 rfl rfl 0 (by decide) (hts _ wd_57) (fun _ h9 => h9) rfl dX0_hasRunner_11 ?_
      refine lv_iload_n hx hb dX0_hasRunner_14 rfl (lv_at hl 1 rfl) ?_
      obtain ⟨h3, hF⟩ := of_ck hF
      refine va_zald (D := D) hx hb hK hP 1 1 rfl rfl h3 dX0_hasRunner_15 ?_
      refine lv_if_eq (tgt := 23) hx hb dX0_hasRunner_16 (by decide) (fun h4 => ?_) (fun h4 => ?_)
      · replace hF := of_t h4 hF
        refine lv_iconst (v := 0) hx hb dX0_hasRunner_23 (by decide) ?_
        exact hQ _ _ _ _ _ () rfl ⟨Option.some.inj hF, rfl⟩ hP hD hS dX0_hasRunner_24
      · replace hF := of_f h4 hF
        refine lv_iconst (v := 1) hx hb dX0_hasRunner_19 (by decide) ?_
        refine lv_goto (tgt := 24) hx hb dX0_hasRunner_20 (by decide) ?_
        exact hQ _ _ _ _ _ () rfl ⟨Option.some.inj hF, rfl⟩ hP hD hS dX0_hasRunner_24

/-! ### ThreeLegs$Crowd.canTie(II)Z -/
abbrev wm_X0_canTie (cI cZ cO : ClassId) (c_h c_0 c_1 c_2 c_3 : Nat) (oc : Ob) : va_W := [(c_h, .inr (0, [.ref c_0, .ref c_1, .ref c_2, .ref c_3, .int (oc 4 0), .int (oc 5 0), .int (oc 6 0)])), (c_0, .inl (cZ, 8, .inl (oc 0))), (c_1, .inl (cI, 8, .inl (oc 1))), (c_2, .inl (cI, 8, .inl (oc 2))), (c_3, .inl (cI, 8, .inl (oc 3)))]
def F_X0_canTie (oc : Ob) (p0 : Int32) (p1 : Int32) : Option (Int32) :=
  (if p0 = p1 then some 0 else (F_X0_hasRunner oc p0).bind (fun q2 => (if q2 = 0 then some 0 else (F_X0_hasRunner oc p1).bind (fun q4 => (if q4 = 0 then some 0 else some 1)))))
abbrev rm_X0_canTie : Room := { frames := 1, cells := 0, slots := 0, locals := 21 }
abbrev wu_X0_canTie : List Cond := .code yX0_canTie cX0_canTie 3 (some .boolean) :: lwG
set_option maxHeartbeats 20000000 in
set_option maxRecDepth 100000 in
theorem c_X0_canTie (l : Launch) (D : va_G) (cI cZ cO : ClassId) (c_h c_0 c_1 c_2 c_3 : Nat) (sz : Nat) (oc : Ob) (p0 : Int32) (p1 : Int32) (q : Int32) (hF : F_X0_canTie oc p0 p1 = some q) : CtI l yX0_canTie wu_X0_canTie rm_X0_canTie D vwCl (tyL cI cZ cO) [.ref c_h, .int p0, .int p1] (wm_X0_canTie cI cZ cO c_h c_0 c_1 c_2 c_3 oc) sz 0 0 (fun (r : Int32) (u : Unit) => r = q ∧ u = ()) (fun u => wm_X0_canTie cI cZ cO c_h c_0 c_1 c_2 c_3 oc) := by
  refine mk_z (cc := cX0_canTie) (maxL := 3) (by decide) rfl (Nat.le_of_ble_eq_true rfl) ?_
  intro p e s m args below meth c A ls Q hx hb hml hown hts hin hK hP hD hS hA hl hQ
  have hl : lv_has ls 3 [(0, .ref c_h), (1, .int p0), (2, .int p1)] := hl
  unfold F_X0_canTie at hF
  refine lv_iload_n hx hb dX0_canTie_0 rfl (lv_at hl 1 rfl) ?_
  refine lv_iload_n hx hb dX0_canTie_1 rfl (lv_at hl 2 rfl) ?_
  refine lv_icmp_eq (tgt := 25) hx hb dX0_canTie_2 (by decide) (fun h1 => ?_) (fun h1 => ?_)
  · replace hF := of_t h1 hF
    refine lv_iconst (v := 0) hx hb dX0_canTie_25 (by decide) ?_
    exact hQ _ _ _ _ _ () rfl ⟨Option.some.inj hF, rfl⟩ hP hD hS dX0_canTie_26
  · replace hF := of_f h1 hF
    refine lv_aload_n hx hb dX0_canTie_5 rfl (lv_at hl 0 rfl) ?_
    refine lv_iload_n hx hb dX0_canTie_6 rfl (lv_at hl 1 rfl) ?_
    obtain ⟨q2, hGq2, hF⟩ := of_bind hF
    refine callVi (As := [.int p0]) (rest := []) (wr := []) (WN := wm_X0_canTie cI cZ cO c_h c_0 c_1 c_2 c_3 oc) ⟨hx, hb, hml, hown, hts⟩ hK hP hD hS hA [0, 1, 2, 3, 4] [] [0, 1, 2, 3, 4] (c_X0_hasRunner l D cI cZ cO c_h c_0 c_1 c_2 c_3 _ oc p0 q2 hGq2) (cwV 1 hts (gV wd_273 wd_266 wd_267 wd_34 wd_268) rfl rfl rfl (by decide +kernel) ⟨Nat.le_of_ble_eq_true rfl, Nat.le_of_ble_eq_true rfl⟩) 0 0 rfl rfl rfl rfl rfl rfl rfl (by decide) rfl rfl rfl hl.1 rfl (Nat.le_of_ble_eq_true rfl) dX0_canTie_7 ⟨Nat.zero_le _, Nat.zero_le _⟩ (fun H locs hP hD hS => ?_)
    refine lv_if_eq (tgt := 25) hx hb dX0_canTie_10 (by decide) (fun h3 => ?_) (fun h3 => ?_)
    · replace hF := of_t h3 hF
      refine lv_iconst (v := 0) hx hb dX0_canTie_25 (by decide) ?_
      exact hQ _ _ _ _ _ () rfl ⟨Option.some.inj hF, rfl⟩ hP hD hS dX0_canTie_26
    · replace hF := of_f h3 hF
      refine lv_aload_n hx hb dX0_canTie_13 rfl (lv_at hl 0 rfl) ?_
      refine lv_iload_n hx hb dX0_canTie_14 rfl (lv_at hl 2 rfl) ?_
      obtain ⟨q4, hGq4, hF⟩ := of_bind hF
      refine callVi (As := [.int p1]) (rest := []) (wr := []) (WN := wm_X0_canTie cI cZ cO c_h c_0 c_1 c_2 c_3 oc) ⟨hx, hb, hml, hown, hts⟩ hK hP hD hS hA [0, 1, 2, 3, 4] [] [0, 1, 2, 3, 4] (c_X0_hasRunner l D cI cZ cO c_h c_0 c_1 c_2 c_3 _ oc p1 q4 hGq4) (cwV 1 hts (gV wd_273 wd_266 wd_267 wd_34 wd_268) rfl rfl rfl (by decide +kernel) ⟨Nat.le_of_ble_eq_true rfl, Nat.le_of_ble_eq_true rfl⟩) 0 0 rfl rfl rfl rfl rfl rfl rfl (by decide) rfl rfl rfl hl.1 rfl (Nat.le_of_ble_eq_true rfl) dX0_canTie_15 ⟨Nat.zero_le _, Nat.zero_le _⟩ (fun H locs hP hD hS => ?_)
      refine lv_if_eq (tgt := 25) hx hb dX0_canTie_18 (by decide) (fun h5 => ?_) (fun h5 => ?_)
      · replace hF := of_t h5 hF
        refine lv_iconst (v := 0) hx hb dX0_canTie_25 (by decide) ?_
        exact hQ _ _ _ _ _ () rfl ⟨Option.some.inj hF, rfl⟩ hP hD hS dX0_canTie_26
      · replace hF := of_f h5 hF
        refine lv_iconst (v := 1) hx hb dX0_canTie_21 (by decide) ?_
        refine lv_goto (tgt := 26) hx hb dX0_canTie_22 (by decide) ?_
        exact hQ _ _ _ _ _ () rfl ⟨Option.some.inj hF, rfl⟩ hP hD hS dX0_canTie_26

/-! ### ThreeLegs$Crowd.enter(IIII)V -/
abbrev wm_X0_enter (cI cZ cO : ClassId) (c_h c_0 c_1 c_2 c_3 : Nat) (oc : Ob) : va_W := [(c_h, .inr (0, [.ref c_0, .ref c_1, .ref c_2, .ref c_3, .int (oc 4 0), .int (oc 5 0), .int (oc 6 0)])), (c_0, .inl (cZ, 8, .inl (oc 0))), (c_1, .inl (cI, 8, .inl (oc 1))), (c_2, .inl (cI, 8, .inl (oc 2))), (c_3, .inl (cI, 8, .inl (oc 3)))]
def F_X0_enter (oc : Ob) (p0 : Int32) (p1 : Int32) (p2 : Int32) (p3 : Int32) : Option (Ob) :=
  (if p0 < 0 then some oc else (if 8 ≤ p0 then some oc else ck p0 8 (dd (sO oc 0 (upd (oc 0) (p0).toNatClampNeg (vp_nar .boolean 1))) (fun (oc4 : Ob) => ck p0 8 (dd (sO oc4 1 (upd (oc4 1) (p0).toNatClampNeg p1)) (fun (oc6 : Ob) => ck p0 8 (dd (sO oc6 2 (upd (oc6 2) (p0).toNatClampNeg p2)) (fun (oc8 : Ob) => ck p0 8 (dd (sO oc8 3 (upd (oc8 3) (p0).toNatClampNeg p3)) (fun (oc10 : Ob) => some oc10))))))))))
abbrev rm_X0_enter : Room := { frames := 0, cells := 0, slots := 0, locals := 0 }
abbrev wu_X0_enter : List Cond := .code yX0_enter cX0_enter 5 none :: lwG
set_option maxHeartbeats 20000000 in
set_option maxRecDepth 100000 in
theorem c_X0_enter (l : Launch) (D : va_G) (cI cZ cO : ClassId) (c_h c_0 c_1 c_2 c_3 : Nat) (sz : Nat) (oc : Ob) (p0 : Int32) (p1 : Int32) (p2 : Int32) (p3 : Int32) (q : Ob) (hF : F_X0_enter oc p0 p1 p2 p3 = some q) : CtV l yX0_enter wu_X0_enter rm_X0_enter D vwCl (tyL cI cZ cO) [.ref c_h, .int p0, .int p1, .int p2, .int p3] (wm_X0_enter cI cZ cO c_h c_0 c_1 c_2 c_3 oc) sz 0 0 (fun u : Ob => u = q) (fun u => wm_X0_enter cI cZ cO c_h c_0 c_1 c_2 c_3 u) := by
  refine mk_v (cc := cX0_enter) (maxL := 5) (by decide) rfl (Nat.le_of_ble_eq_true rfl) ?_
  intro p e s m args below meth c A ls Q hx hb hml hown hts hin hK hP hD hS hA hl hQ
  have hl : lv_has ls 5 [(0, .ref c_h), (1, .int p0), (2, .int p1), (3, .int p2), (4, .int p3)] := hl
  unfold F_X0_enter at hF
  refine lv_iload_n hx hb dX0_enter_0 rfl (lv_at hl 1 rfl) ?_
  refine lv_if_lt (tgt := 39) hx hb dX0_enter_1 (by decide) (fun h1 => ?_) (fun h1 => ?_)
  · replace hF := of_t h1 hF
    exact hQ _ _ _ _ oc (Option.some.inj hF) hP hD hS dX0_enter_39
  · replace hF := of_f h1 hF
    refine lv_iload_n hx hb dX0_enter_4 rfl (lv_at hl 1 rfl) ?_
    refine lv_bipush (v := 8) hx hb dX0_enter_5 (by decide) ?_
    refine lv_icmp_ge (tgt := 39) hx hb dX0_enter_7 (by decide) (fun h2 => ?_) (fun h2 => ?_)
    · replace hF := of_t h2 hF
      exact hQ _ _ _ _ oc (Option.some.inj hF) hP hD hS dX0_enter_39
    · replace hF := of_f h2 hF
      refine lv_aload_n hx hb dX0_enter_10 rfl (lv_at hl 0 rfl) ?_
      refine va_get (D := D) (ci := 0) (v := .ref c_0) (C := RX0) (T := TX0) (N := 7) hx hb hts in_X0 hown hK hP 0 rfl rfl 0 (by decide) (hts _ wd_57) (fun _ h9 => h9) rfl dX0_enter_11 ?_
      refine lv_iload_n hx hb dX0_enter_14 rfl (lv_at hl 1 rfl) ?_
      refine lv_iconst (v := 1) hx hb dX0_enter_15 (by decide) ?_
      obtain ⟨h3, hF⟩ := of_ck hF
      refine va_zast (D := D) hx hb hK hP hD hS 1 1 rfl rfl h3 dX0_enter_16 (fun H locs hP hD hS => ?_)
      obtain ⟨oc4, hF, hP, hD⟩ := nm_o (P := fun y => va_P D vwCl (wm_X0_enter cI cZ cO c_h c_0 c_1 c_2 c_3 y) _) (B := fun y => va_D A (wm_X0_enter cI cZ cO c_h c_0 c_1 c_2 c_3 y)) hF hP hD
      refine lv_aload_n hx hb dX0_enter_17 rfl (lv_at hl 0 rfl) ?_
      refine va_get (D := D) (ci := 0) (v := .ref c_1) (C := RX0) (T := TX0) (N := 7) hx hb hts in_X0 hown hK hP 0 rfl rfl 1 (by decide) (hts _ wd_58) (fun _ h9 => h9) rfl dX0_enter_18 ?_
      refine lv_iload_n hx hb dX0_enter_21 rfl (lv_at hl 1 rfl) ?_
      refine lv_iload_n hx hb dX0_enter_22 rfl (lv_at hl 2 rfl) ?_
      obtain ⟨h5, hF⟩ := of_ck hF
      refine va_iast (D := D) hx hb hK hP hD hS 2 0 rfl rfl h5 dX0_enter_23 (fun H locs hP hD hS => ?_)
      obtain ⟨oc6, hF, hP, hD⟩ := nm_o (P := fun y => va_P D vwCl (wm_X0_enter cI cZ cO c_h c_0 c_1 c_2 c_3 y) _) (B := fun y => va_D A (wm_X0_enter cI cZ cO c_h c_0 c_1 c_2 c_3 y)) hF hP hD
      refine lv_aload_n hx hb dX0_enter_24 rfl (lv_at hl 0 rfl) ?_
      refine va_get (D := D) (ci := 0) (v := .ref c_2) (C := RX0) (T := TX0) (N := 7) hx hb hts in_X0 hown hK hP 0 rfl rfl 2 (by decide) (hts _ wd_61) (fun _ h9 => h9) rfl dX0_enter_25 ?_
      refine lv_iload_n hx hb dX0_enter_28 rfl (lv_at hl 1 rfl) ?_
      refine lv_iload_n hx hb dX0_enter_29 rfl (lv_at hl 3 rfl) ?_
      obtain ⟨h7, hF⟩ := of_ck hF
      refine va_iast (D := D) hx hb hK hP hD hS 3 0 rfl rfl h7 dX0_enter_30 (fun H locs hP hD hS => ?_)
      obtain ⟨oc8, hF, hP, hD⟩ := nm_o (P := fun y => va_P D vwCl (wm_X0_enter cI cZ cO c_h c_0 c_1 c_2 c_3 y) _) (B := fun y => va_D A (wm_X0_enter cI cZ cO c_h c_0 c_1 c_2 c_3 y)) hF hP hD
      refine lv_aload_n hx hb dX0_enter_31 rfl (lv_at hl 0 rfl) ?_
      refine va_get (D := D) (ci := 0) (v := .ref c_3) (C := RX0) (T := TX0) (N := 7) hx hb hts in_X0 hown hK hP 0 rfl rfl 3 (by decide) (hts _ wd_64) (fun _ h9 => h9) rfl dX0_enter_32 ?_
      refine lv_iload_n hx hb dX0_enter_35 rfl (lv_at hl 1 rfl) ?_
      refine lv_iload hx hb dX0_enter_36 (lv_at hl 4 rfl) ?_
      obtain ⟨h9, hF⟩ := of_ck hF
      refine va_iast (D := D) hx hb hK hP hD hS 4 0 rfl rfl h9 dX0_enter_38 (fun H locs hP hD hS => ?_)
      obtain ⟨oc10, hF, hP, hD⟩ := nm_o (P := fun y => va_P D vwCl (wm_X0_enter cI cZ cO c_h c_0 c_1 c_2 c_3 y) _) (B := fun y => va_D A (wm_X0_enter cI cZ cO c_h c_0 c_1 c_2 c_3 y)) hF hP hD
      exact hQ _ _ _ _ oc10 (Option.some.inj hF) hP hD hS dX0_enter_39

/-! ### ThreeLegs$Crowd.leave(I)V -/
abbrev wm_X0_leave (cI cZ cO : ClassId) (c_h c_0 c_1 c_2 c_3 : Nat) (oc : Ob) : va_W := [(c_h, .inr (0, [.ref c_0, .ref c_1, .ref c_2, .ref c_3, .int (oc 4 0), .int (oc 5 0), .int (oc 6 0)])), (c_0, .inl (cZ, 8, .inl (oc 0))), (c_1, .inl (cI, 8, .inl (oc 1))), (c_2, .inl (cI, 8, .inl (oc 2))), (c_3, .inl (cI, 8, .inl (oc 3)))]
def F_X0_leave (oc : Ob) (p0 : Int32) : Option (Ob) :=
  (F_X0_hasRunner oc p0).bind (fun q1 => (if q1 = 0 then some oc else ck p0 8 (dd (sO oc 0 (upd (oc 0) (p0).toNatClampNeg (vp_nar .boolean 0))) (fun (oc4 : Ob) => some oc4))))
abbrev rm_X0_leave : Room := { frames := 1, cells := 0, slots := 0, locals := 21 }
abbrev wu_X0_leave : List Cond := .code yX0_leave cX0_leave 2 none :: lwG
set_option maxHeartbeats 20000000 in
set_option maxRecDepth 100000 in
theorem c_X0_leave (l : Launch) (D : va_G) (cI cZ cO : ClassId) (c_h c_0 c_1 c_2 c_3 : Nat) (sz : Nat) (oc : Ob) (p0 : Int32) (q : Ob) (hF : F_X0_leave oc p0 = some q) : CtV l yX0_leave wu_X0_leave rm_X0_leave D vwCl (tyL cI cZ cO) [.ref c_h, .int p0] (wm_X0_leave cI cZ cO c_h c_0 c_1 c_2 c_3 oc) sz 0 0 (fun u : Ob => u = q) (fun u => wm_X0_leave cI cZ cO c_h c_0 c_1 c_2 c_3 u) := by
  refine mk_v (cc := cX0_leave) (maxL := 2) (by decide) rfl (Nat.le_of_ble_eq_true rfl) ?_
  intro p e s m args below meth c A ls Q hx hb hml hown hts hin hK hP hD hS hA hl hQ
  have hl : lv_has ls 2 [(0, .ref c_h), (1, .int p0)] := hl
  unfold F_X0_leave at hF
  refine lv_aload_n hx hb dX0_leave_0 rfl (lv_at hl 0 rfl) ?_
  refine lv_iload_n hx hb dX0_leave_1 rfl (lv_at hl 1 rfl) ?_
  obtain ⟨q1, hGq1, hF⟩ := of_bind hF
  refine callVi (As := [.int p0]) (rest := []) (wr := []) (WN := wm_X0_leave cI cZ cO c_h c_0 c_1 c_2 c_3 oc) ⟨hx, hb, hml, hown, hts⟩ hK hP hD hS hA [0, 1, 2, 3, 4] [] [0, 1, 2, 3, 4] (c_X0_hasRunner l D cI cZ cO c_h c_0 c_1 c_2 c_3 _ oc p0 q1 hGq1) (cwV 1 hts (gV wd_273 wd_266 wd_267 wd_34 wd_268) rfl rfl rfl (by decide +kernel) ⟨Nat.le_of_ble_eq_true rfl, Nat.le_of_ble_eq_true rfl⟩) 0 0 rfl rfl rfl rfl rfl rfl rfl (by decide) rfl rfl rfl hl.1 rfl (Nat.le_of_ble_eq_true rfl) dX0_leave_2 ⟨Nat.zero_le _, Nat.zero_le _⟩ (fun H locs hP hD hS => ?_)
  refine lv_if_eq (tgt := 15) hx hb dX0_leave_5 (by decide) (fun h2 => ?_) (fun h2 => ?_)
  · replace hF := of_t h2 hF
    exact hQ _ _ _ _ oc (Option.some.inj hF) hP hD hS dX0_leave_15
  · replace hF := of_f h2 hF
    refine lv_aload_n hx hb dX0_leave_8 rfl (lv_at hl 0 rfl) ?_
    refine va_get (D := D) (ci := 0) (v := .ref c_0) (C := RX0) (T := TX0) (N := 7) hx hb hts in_X0 hown hK hP 0 rfl rfl 0 (by decide) (hts _ wd_57) (fun _ h9 => h9) rfl dX0_leave_9 ?_
    refine lv_iload_n hx hb dX0_leave_12 rfl (lv_at hl 1 rfl) ?_
    refine lv_iconst (v := 0) hx hb dX0_leave_13 (by decide) ?_
    obtain ⟨h3, hF⟩ := of_ck hF
    refine va_zast (D := D) hx hb hK hP hD hS 1 1 rfl rfl h3 dX0_leave_14 (fun H locs hP hD hS => ?_)
    obtain ⟨oc4, hF, hP, hD⟩ := nm_o (P := fun y => va_P D vwCl (wm_X0_leave cI cZ cO c_h c_0 c_1 c_2 c_3 y) _) (B := fun y => va_D A (wm_X0_leave cI cZ cO c_h c_0 c_1 c_2 c_3 y)) hF hP hD
    exact hQ _ _ _ _ oc4 (Option.some.inj hF) hP hD hS dX0_leave_15

/-! ### ThreeLegs$Crowd.bits()I -/
abbrev wm_X0_bits (cI cZ cO : ClassId) (c_h c_0 c_1 c_2 c_3 : Nat) (oc : Ob) : va_W := [(c_h, .inr (0, [.ref c_0, .ref c_1, .ref c_2, .ref c_3, .int (oc 4 0), .int (oc 5 0), .int (oc 6 0)])), (c_0, .inl (cZ, 8, .inl (oc 0))), (c_1, .inl (cI, 8, .inl (oc 1))), (c_2, .inl (cI, 8, .inl (oc 2))), (c_3, .inl (cI, 8, .inl (oc 3)))]
def L_X0_bits_4 : Nat → Ob → Int32 → Int32 → (Int32 → Option (Int32)) → Option (Int32)
  | 0, _, _, _, _ => none
  | n6 + 1, oc, v3, v4, K1 =>
    (if 8 ≤ v4 then K1 v3 else ck v4 8 ((if ((oc 0) (v4).toNatClampNeg) = 0 then dd (v3 ||| 0) (fun (v10 : Int32) => dd (v4 + 1) (fun (v11 : Int32) => L_X0_bits_4 n6 oc v10 v11 K1)) else dd (1 <<< (v4 &&& 31)) (fun (v12 : Int32) => dd (v3 ||| v12) (fun (v13 : Int32) => dd (v4 + 1) (fun (v14 : Int32) => L_X0_bits_4 n6 oc v13 v14 K1))))))
def F_X0_bits (oc : Ob)  : Option (Int32) :=
  jn (fun (v2 : Int32) => some v2) (fun (K1 : Int32 → Option (Int32)) => L_X0_bits_4 2000 oc 0 0 K1)
abbrev rm_X0_bits : Room := { frames := 0, cells := 0, slots := 0, locals := 0 }
abbrev wu_X0_bits : List Cond := .code yX0_bits cX0_bits 3 (some .int) :: lwG
set_option maxHeartbeats 20000000 in
set_option maxRecDepth 100000 in
theorem c_X0_bits (l : Launch) (D : va_G) (cI cZ cO : ClassId) (c_h c_0 c_1 c_2 c_3 : Nat) (sz : Nat) (oc : Ob)  (q : Int32) (hF : F_X0_bits oc = some q) : CtI l yX0_bits wu_X0_bits rm_X0_bits D vwCl (tyL cI cZ cO) [.ref c_h] (wm_X0_bits cI cZ cO c_h c_0 c_1 c_2 c_3 oc) sz 0 0 (fun (r : Int32) (u : Unit) => r = q ∧ u = ()) (fun u => wm_X0_bits cI cZ cO c_h c_0 c_1 c_2 c_3 oc) := by
  refine mk_i (cc := cX0_bits) (maxL := 3) (by decide) rfl (Nat.le_of_ble_eq_true rfl) ?_
  intro p e s m args below meth c A ls Q hx hb hml hown hts hin hK hP hD hS hA hl hQ
  have hl : lv_has ls 3 [(0, .ref c_h)] := hl
  unfold F_X0_bits at hF
  refine lv_iconst (v := 0) hx hb dX0_bits_0 (by decide) ?_
  refine lv_istore_n (lv' := [(1, .int 0), (0, .ref c_h)]) hx hb dX0_bits_1 rfl hl (by decide) rfl (fun ls hl => ?_)
  refine lv_iconst (v := 0) hx hb dX0_bits_2 (by decide) ?_
  refine lv_istore_n (lv' := [(2, .int 0), (1, .int 0), (0, .ref c_h)]) hx hb dX0_bits_3 rfl hl (by decide) rfl (fun ls hl => ?_)
  obtain ⟨K1, eK1, hF⟩ := of_jn hF
  have hK1 : ∀ (v2 : Int32) (ls : Array Slot) (H : Heap) (locs : List Loc), lv_has ls 3 [(1, .int v2)] → va_P D vwCl (wm_X0_bits cI cZ cO c_h c_0 c_1 c_2 c_3 oc) H → va_D A (wm_X0_bits cI cZ cO c_h c_0 c_1 c_2 c_3 oc) → va_S A s.heap H locs → K1 v2 = some q → W p l e rm_X0_bits s m args below meth c H locs 0 0 Q (F0 m 35 ls []) := by
    intro v2 ls H locs hl hP hD hS hF
    subst eK1
    refine lv_iload_n hx hb dX0_bits_35 rfl (lv_at hl 0 rfl) ?_
    exact hQ _ _ _ _ _ () ⟨Option.some.inj hF, rfl⟩ hP hD hS dX0_bits_36
  have hloop15 : ∀ (n6 : Nat) (v3 : Int32) (v4 : Int32) (ls : Array Slot) (H : Heap) (locs : List Loc), lv_has ls 3 [(0, .ref c_h), (1, .int v3), (2, .int v4)] → va_P D vwCl (wm_X0_bits cI cZ cO c_h c_0 c_1 c_2 c_3 oc) H → va_D A (wm_X0_bits cI cZ cO c_h c_0 c_1 c_2 c_3 oc) → va_S A s.heap H locs → L_X0_bits_4 n6 oc v3 v4 K1 = some q → W p l e rm_X0_bits s m args below meth c H locs 0 0 Q (F0 m 4 ls []) := by
    intro n6
    induction n6 with
    | zero =>
      intro v3 v4 ls H locs hl hP hD hS hF
      exact of_none hF
    | succ n6 ih5 =>
      intro v3 v4 ls H locs hl hP hD hS hF
      rw [L_X0_bits_4.eq_2] at hF
      refine lv_iload_n hx hb dX0_bits_4 rfl (lv_at hl 2 rfl) ?_
      refine lv_bipush (v := 8) hx hb dX0_bits_5 (by decide) ?_
      refine lv_icmp_ge (tgt := 35) hx hb dX0_bits_7 (by decide) (fun h7 => ?_) (fun h7 => ?_)
      · replace hF := of_t h7 hF
        exact hK1 v3 ls _ _ (lv_sub hl [1] rfl) hP hD hS hF
      · replace hF := of_f h7 hF
        refine lv_iload_n hx hb dX0_bits_10 rfl (lv_at hl 1 rfl) ?_
        refine lv_aload_n hx hb dX0_bits_11 rfl (lv_at hl 0 rfl) ?_
        refine va_get (D := D) (ci := 0) (v := .ref c_0) (C := RX0) (T := TX0) (N := 7) hx hb hts in_X0 hown hK hP 0 rfl rfl 0 (by decide) (hts _ wd_57) (fun _ h9 => h9) rfl dX0_bits_12 ?_
        refine lv_iload_n hx hb dX0_bits_15 rfl (lv_at hl 2 rfl) ?_
        obtain ⟨h8, hF⟩ := of_ck hF
        refine va_zald (D := D) hx hb hK hP 1 1 rfl rfl h8 dX0_bits_16 ?_
        refine lv_if_eq (tgt := 26) hx hb dX0_bits_17 (by decide) (fun h9 => ?_) (fun h9 => ?_)
        · replace hF := of_t h9 hF
          refine lv_iconst (v := 0) hx hb dX0_bits_26 (by decide) ?_
          refine lv_ior hx hb dX0_bits_27 ?_
          refine lv_topi (fun v10 ev10 => ?_)
          replace hF := of_dd hF v10 ev10
          refine lv_istore_n (lv' := [(1, .int v10), (0, .ref c_h), (2, .int v4)]) hx hb dX0_bits_28 rfl hl (by decide) rfl (fun ls hl => ?_)
          obtain ⟨v11, ev11⟩ : ∃ y : Int32, y = v4 + 1 := ⟨_, rfl⟩
          replace hF := of_dd hF v11 ev11
          refine lv_iinc (v := v11) (lv' := [(2, .int v11), (1, .int v10), (0, .ref c_h)]) hx hb dX0_bits_29 hl (k := 2) rfl (by rw [ev11]; rfl) (by decide) rfl (fun ls hl => ?_)
          refine lv_goto (tgt := 4) hx hb dX0_bits_32 (by decide) ?_
          exact ih5 v10 v11 ls _ _ (lv_sub hl [2, 1, 0] rfl) hP hD hS hF
        · replace hF := of_f h9 hF
          refine lv_iconst (v := 1) hx hb dX0_bits_20 (by decide) ?_
          refine lv_iload_n hx hb dX0_bits_21 rfl (lv_at hl 2 rfl) ?_
          refine lv_ishl hx hb dX0_bits_22 ?_
          refine lv_topi (fun v12 ev12 => ?_)
          replace hF := of_dd hF v12 ev12
          refine lv_goto (tgt := 27) hx hb dX0_bits_23 (by decide) ?_
          refine lv_ior hx hb dX0_bits_27 ?_
          refine lv_topi (fun v13 ev13 => ?_)
          replace hF := of_dd hF v13 ev13
          refine lv_istore_n (lv' := [(1, .int v13), (0, .ref c_h), (2, .int v4)]) hx hb dX0_bits_28 rfl hl (by decide) rfl (fun ls hl => ?_)
          obtain ⟨v14, ev14⟩ : ∃ y : Int32, y = v4 + 1 := ⟨_, rfl⟩
          replace hF := of_dd hF v14 ev14
          refine lv_iinc (v := v14) (lv' := [(2, .int v14), (1, .int v13), (0, .ref c_h)]) hx hb dX0_bits_29 hl (k := 2) rfl (by rw [ev14]; rfl) (by decide) rfl (fun ls hl => ?_)
          refine lv_goto (tgt := 4) hx hb dX0_bits_32 (by decide) ?_
          exact ih5 v13 v14 ls _ _ (lv_sub hl [2, 1, 0] rfl) hP hD hS hF
  exact hloop15 2000 0 0 ls _ _ (lv_sub hl [2, 1, 0] rfl) hP hD hS hF

/-! ### java/lang/Integer.bitCount(I)I -/
abbrev wm_J6_bitCount_0f7a4 (cI cZ cO : ClassId)   : va_W := []
def F_J6_bitCount_0f7a4  (p0 : Int32) : Option (Int32) :=
  dd ((p0.toUInt32 >>> ((1 : Int32).toUInt32 &&& Int32.toUInt32 31)).toInt32) (fun (v1 : Int32) => dd (v1 &&& 1431655765) (fun (v2 : Int32) => dd (p0 - v2) (fun (v3 : Int32) => dd (v3 &&& 858993459) (fun (v4 : Int32) => dd ((v3.toUInt32 >>> ((2 : Int32).toUInt32 &&& Int32.toUInt32 31)).toInt32) (fun (v5 : Int32) => dd (v5 &&& 858993459) (fun (v6 : Int32) => dd (v4 + v6) (fun (v7 : Int32) => dd ((v7.toUInt32 >>> ((4 : Int32).toUInt32 &&& Int32.toUInt32 31)).toInt32) (fun (v8 : Int32) => dd (v7 + v8) (fun (v9 : Int32) => dd (v9 &&& 252645135) (fun (v10 : Int32) => dd ((v10.toUInt32 >>> ((8 : Int32).toUInt32 &&& Int32.toUInt32 31)).toInt32) (fun (v11 : Int32) => dd (v10 + v11) (fun (v12 : Int32) => dd ((v12.toUInt32 >>> ((16 : Int32).toUInt32 &&& Int32.toUInt32 31)).toInt32) (fun (v13 : Int32) => dd (v12 + v13) (fun (v14 : Int32) => dd (v14 &&& 63) (fun (v15 : Int32) => some v15)))))))))))))))
abbrev rm_J6_bitCount_0f7a4 : Room := { frames := 0, cells := 0, slots := 0, locals := 0 }
abbrev wu_J6_bitCount_0f7a4 : List Cond := .code yJ6_bitCount_0f7a4 cJ6_bitCount_0f7a4 1 (some .int) :: lwG
set_option maxHeartbeats 20000000 in
set_option maxRecDepth 100000 in
theorem c_J6_bitCount_0f7a4 (l : Launch) (D : va_G) (cI cZ cO : ClassId)  (sz : Nat)  (p0 : Int32) (q : Int32) (hF : F_J6_bitCount_0f7a4 p0 = some q) : CtI l yJ6_bitCount_0f7a4 wu_J6_bitCount_0f7a4 rm_J6_bitCount_0f7a4 D vwCl (tyL cI cZ cO) [.int p0] (wm_J6_bitCount_0f7a4 cI cZ cO) sz 0 0 (fun (r : Int32) (u : Unit) => r = q ∧ u = ()) (fun u => wm_J6_bitCount_0f7a4 cI cZ cO) := by
  refine mk_i (cc := cJ6_bitCount_0f7a4) (maxL := 1) (by decide) rfl (Nat.le_of_ble_eq_true rfl) ?_
  intro p e s m args below meth c A ls Q hx hb hml hown hts hin hK hP hD hS hA hl hQ
  have hl : lv_has ls 1 [(0, .int p0)] := hl
  unfold F_J6_bitCount_0f7a4 at hF
  refine lv_iload_n hx hb dJ6_bitCount_0f7a4_0 rfl (lv_at hl 0 rfl) ?_
  refine lv_iload_n hx hb dJ6_bitCount_0f7a4_1 rfl (lv_at hl 0 rfl) ?_
  refine lv_iconst (v := 1) hx hb dJ6_bitCount_0f7a4_2 (by decide) ?_
  refine lv_iushr (v := (p0.toUInt32 >>> ((1 : Int32).toUInt32 &&& Int32.toUInt32 31)).toInt32) hx hb dJ6_bitCount_0f7a4_3 rfl ?_
  refine lv_topi (fun v1 ev1 => ?_)
  replace hF := of_dd hF v1 ev1
  refine lv_ldcw hx hb hown (hts _ wd_258) dJ6_bitCount_0f7a4_4 ?_
  refine lv_iand hx hb dJ6_bitCount_0f7a4_7 ?_
  refine lv_topi (fun v2 ev2 => ?_)
  replace hF := of_dd hF v2 ev2
  refine lv_isub hx hb dJ6_bitCount_0f7a4_8 ?_
  refine lv_topi (fun v3 ev3 => ?_)
  replace hF := of_dd hF v3 ev3
  refine lv_istore_n (lv' := [(0, .int v3)]) hx hb dJ6_bitCount_0f7a4_9 rfl hl (by decide) rfl (fun ls hl => ?_)
  refine lv_iload_n hx hb dJ6_bitCount_0f7a4_10 rfl (lv_at hl 0 rfl) ?_
  refine lv_ldcw hx hb hown (hts _ wd_259) dJ6_bitCount_0f7a4_11 ?_
  refine lv_iand hx hb dJ6_bitCount_0f7a4_14 ?_
  refine lv_topi (fun v4 ev4 => ?_)
  replace hF := of_dd hF v4 ev4
  refine lv_iload_n hx hb dJ6_bitCount_0f7a4_15 rfl (lv_at hl 0 rfl) ?_
  refine lv_iconst (v := 2) hx hb dJ6_bitCount_0f7a4_16 (by decide) ?_
  refine lv_iushr (v := (v3.toUInt32 >>> ((2 : Int32).toUInt32 &&& Int32.toUInt32 31)).toInt32) hx hb dJ6_bitCount_0f7a4_17 rfl ?_
  refine lv_topi (fun v5 ev5 => ?_)
  replace hF := of_dd hF v5 ev5
  refine lv_ldcw hx hb hown (hts _ wd_259) dJ6_bitCount_0f7a4_18 ?_
  refine lv_iand hx hb dJ6_bitCount_0f7a4_21 ?_
  refine lv_topi (fun v6 ev6 => ?_)
  replace hF := of_dd hF v6 ev6
  refine lv_iadd hx hb dJ6_bitCount_0f7a4_22 ?_
  refine lv_topi (fun v7 ev7 => ?_)
  replace hF := of_dd hF v7 ev7
  refine lv_istore_n (lv' := [(0, .int v7)]) hx hb dJ6_bitCount_0f7a4_23 rfl hl (by decide) rfl (fun ls hl => ?_)
  refine lv_iload_n hx hb dJ6_bitCount_0f7a4_24 rfl (lv_at hl 0 rfl) ?_
  refine lv_iload_n hx hb dJ6_bitCount_0f7a4_25 rfl (lv_at hl 0 rfl) ?_
  refine lv_iconst (v := 4) hx hb dJ6_bitCount_0f7a4_26 (by decide) ?_
  refine lv_iushr (v := (v7.toUInt32 >>> ((4 : Int32).toUInt32 &&& Int32.toUInt32 31)).toInt32) hx hb dJ6_bitCount_0f7a4_27 rfl ?_
  refine lv_topi (fun v8 ev8 => ?_)
  replace hF := of_dd hF v8 ev8
  refine lv_iadd hx hb dJ6_bitCount_0f7a4_28 ?_
  refine lv_topi (fun v9 ev9 => ?_)
  replace hF := of_dd hF v9 ev9
  refine lv_ldcw hx hb hown (hts _ wd_260) dJ6_bitCount_0f7a4_29 ?_
  refine lv_iand hx hb dJ6_bitCount_0f7a4_32 ?_
  refine lv_topi (fun v10 ev10 => ?_)
  replace hF := of_dd hF v10 ev10
  refine lv_istore_n (lv' := [(0, .int v10)]) hx hb dJ6_bitCount_0f7a4_33 rfl hl (by decide) rfl (fun ls hl => ?_)
  refine lv_iload_n hx hb dJ6_bitCount_0f7a4_34 rfl (lv_at hl 0 rfl) ?_
  refine lv_iload_n hx hb dJ6_bitCount_0f7a4_35 rfl (lv_at hl 0 rfl) ?_
  refine lv_bipush (v := 8) hx hb dJ6_bitCount_0f7a4_36 (by decide) ?_
  refine lv_iushr (v := (v10.toUInt32 >>> ((8 : Int32).toUInt32 &&& Int32.toUInt32 31)).toInt32) hx hb dJ6_bitCount_0f7a4_38 rfl ?_
  refine lv_topi (fun v11 ev11 => ?_)
  replace hF := of_dd hF v11 ev11
  refine lv_iadd hx hb dJ6_bitCount_0f7a4_39 ?_
  refine lv_topi (fun v12 ev12 => ?_)
  replace hF := of_dd hF v12 ev12
  refine lv_istore_n (lv' := [(0, .int v12)]) hx hb dJ6_bitCount_0f7a4_40 rfl hl (by decide) rfl (fun ls hl => ?_)
  refine lv_iload_n hx hb dJ6_bitCount_0f7a4_41 rfl (lv_at hl 0 rfl) ?_
  refine lv_iload_n hx hb dJ6_bitCount_0f7a4_42 rfl (lv_at hl 0 rfl) ?_
  refine lv_bipush (v := 16) hx hb dJ6_bitCount_0f7a4_43 (by decide) ?_
  refine lv_iushr (v := (v12.toUInt32 >>> ((16 : Int32).toUInt32 &&& Int32.toUInt32 31)).toInt32) hx hb dJ6_bitCount_0f7a4_45 rfl ?_
  refine lv_topi (fun v13 ev13 => ?_)
  replace hF := of_dd hF v13 ev13
  refine lv_iadd hx hb dJ6_bitCount_0f7a4_46 ?_
  refine lv_topi (fun v14 ev14 => ?_)
  replace hF := of_dd hF v14 ev14
  refine lv_istore_n (lv' := [(0, .int v14)]) hx hb dJ6_bitCount_0f7a4_47 rfl hl (by decide) rfl (fun ls hl => ?_)
  refine lv_iload_n hx hb dJ6_bitCount_0f7a4_48 rfl (lv_at hl 0 rfl) ?_
  refine lv_bipush (v := 63) hx hb dJ6_bitCount_0f7a4_49 (by decide) ?_
  refine lv_iand hx hb dJ6_bitCount_0f7a4_51 ?_
  refine lv_topi (fun v15 ev15 => ?_)
  replace hF := of_dd hF v15 ev15
  exact hQ _ _ _ _ _ () ⟨Option.some.inj hF, rfl⟩ hP hD hS dJ6_bitCount_0f7a4_52

/-! ### ThreeLegs$Crowd.count()I -/
abbrev wm_X0_count (cI cZ cO : ClassId) (c_h c_0 c_1 c_2 c_3 : Nat) (oc : Ob) : va_W := [(c_h, .inr (0, [.ref c_0, .ref c_1, .ref c_2, .ref c_3, .int (oc 4 0), .int (oc 5 0), .int (oc 6 0)])), (c_0, .inl (cZ, 8, .inl (oc 0))), (c_1, .inl (cI, 8, .inl (oc 1))), (c_2, .inl (cI, 8, .inl (oc 2))), (c_3, .inl (cI, 8, .inl (oc 3)))]
def F_X0_count (oc : Ob)  : Option (Int32) :=
  (F_X0_bits oc).bind (fun q1 => (F_J6_bitCount_0f7a4 q1).bind (fun q2 => some q2))
abbrev rm_X0_count : Room := { frames := 1, cells := 0, slots := 0, locals := 22 }
abbrev wu_X0_count : List Cond := .code yX0_count cX0_count 1 (some .int) :: lwG
set_option maxHeartbeats 20000000 in
set_option maxRecDepth 100000 in
theorem c_X0_count (l : Launch) (D : va_G) (cI cZ cO : ClassId) (c_h c_0 c_1 c_2 c_3 : Nat) (sz : Nat) (oc : Ob)  (q : Int32) (hF : F_X0_count oc = some q) : CtI l yX0_count wu_X0_count rm_X0_count D vwCl (tyL cI cZ cO) [.ref c_h] (wm_X0_count cI cZ cO c_h c_0 c_1 c_2 c_3 oc) sz 0 0 (fun (r : Int32) (u : Unit) => r = q ∧ u = ()) (fun u => wm_X0_count cI cZ cO c_h c_0 c_1 c_2 c_3 oc) := by
  refine mk_i (cc := cX0_count) (maxL := 1) (by decide) rfl (Nat.le_of_ble_eq_true rfl) ?_
  intro p e s m args below meth c A ls Q hx hb hml hown hts hin hK hP hD hS hA hl hQ
  have hl : lv_has ls 1 [(0, .ref c_h)] := hl
  unfold F_X0_count at hF
  refine lv_aload_n hx hb dX0_count_0 rfl (lv_at hl 0 rfl) ?_
  obtain ⟨q1, hGq1, hF⟩ := of_bind hF
  refine callVi (As := []) (rest := []) (wr := []) (WN := wm_X0_count cI cZ cO c_h c_0 c_1 c_2 c_3 oc) ⟨hx, hb, hml, hown, hts⟩ hK hP hD hS hA [0, 1, 2, 3, 4] [] [0, 1, 2, 3, 4] (c_X0_bits l D cI cZ cO c_h c_0 c_1 c_2 c_3 _ oc q1 hGq1) (cwV 0 hts (gV wd_251 wd_252 wd_253 wd_34 wd_254) rfl rfl rfl (by decide +kernel) ⟨Nat.le_of_ble_eq_true rfl, Nat.le_of_ble_eq_true rfl⟩) 0 0 rfl rfl rfl rfl rfl rfl rfl (by decide) rfl rfl rfl hl.1 rfl (Nat.le_of_ble_eq_true rfl) dX0_count_1 ⟨Nat.zero_le _, Nat.zero_le _⟩ (fun H locs hP hD hS => ?_)
  obtain ⟨q2, hGq2, hF⟩ := of_bind hF
  refine callSi (As := [.int q1]) (rest := []) ⟨hx, hb, hml, hown, hts⟩ hK hP hD hS hA (c_J6_bitCount_0f7a4 l D cI cZ cO  _ q1 q2 hGq2) (va_cwS 1 hts (gS wd_255 wd_256 wd_40 wd_257) rfl rfl rfl (by decide +kernel) ⟨Nat.le_of_ble_eq_true rfl, Nat.le_of_ble_eq_true rfl⟩) rfl hl.1 rfl (Nat.le_of_ble_eq_true rfl) dX0_count_4 ⟨Nat.zero_le _, Nat.zero_le _⟩ (fun H locs hP hS => ?_)
  exact hQ _ _ _ _ _ () ⟨Option.some.inj hF, rfl⟩ hP hD hS dX0_count_7

/-! ### ThreeLegs$Crowd.copyFrom(LThreeLegs$Crowd;)V -/
abbrev wm_X0_copyFrom (cI cZ cO : ClassId) (c_h c_0 c_1 c_2 c_3 d_h d_0 d_1 d_2 d_3 : Nat) (oc : Ob) (od : Ob) : va_W := [(c_h, .inr (0, [.ref c_0, .ref c_1, .ref c_2, .ref c_3, .int (oc 4 0), .int (oc 5 0), .int (oc 6 0)])), (c_0, .inl (cZ, 8, .inl (oc 0))), (c_1, .inl (cI, 8, .inl (oc 1))), (c_2, .inl (cI, 8, .inl (oc 2))), (c_3, .inl (cI, 8, .inl (oc 3))), (d_h, .inr (0, [.ref d_0, .ref d_1, .ref d_2, .ref d_3, .int (od 4 0), .int (od 5 0), .int (od 6 0)])), (d_0, .inl (cZ, 8, .inl (od 0))), (d_1, .inl (cI, 8, .inl (od 1))), (d_2, .inl (cI, 8, .inl (od 2))), (d_3, .inl (cI, 8, .inl (od 3)))]
def L_X0_copyFrom_2 : Nat → Ob → Int32 → Ob → (Ob → Option (Ob)) → Option (Ob)
  | 0, _, _, _, _ => none
  | n9 + 1, od, v6, oc7, K1 =>
    (if 8 ≤ v6 then K1 oc7 else ck v6 8 (ck v6 8 (dd (sO oc7 0 (upd (oc7 0) (v6).toNatClampNeg (vp_nar .boolean ((od 0) (v6).toNatClampNeg)))) (fun (oc13 : Ob) => ck v6 8 (ck v6 8 (dd (sO oc13 1 (upd (oc13 1) (v6).toNatClampNeg ((od 1) (v6).toNatClampNeg))) (fun (oc16 : Ob) => ck v6 8 (ck v6 8 (dd (sO oc16 2 (upd (oc16 2) (v6).toNatClampNeg ((od 2) (v6).toNatClampNeg))) (fun (oc19 : Ob) => ck v6 8 (ck v6 8 (dd (sO oc19 3 (upd (oc19 3) (v6).toNatClampNeg ((od 3) (v6).toNatClampNeg))) (fun (oc22 : Ob) => dd (v6 + 1) (fun (v23 : Int32) => L_X0_copyFrom_2 n9 od v23 oc22 K1))))))))))))))
def F_X0_copyFrom (oc : Ob) (od : Ob)  : Option (Ob) :=
  jn (fun (oc2 : Ob) => dd (sO oc2 4 (cst (od 4 0))) (fun (oc3 : Ob) => dd (sO oc3 5 (cst (od 5 0))) (fun (oc4 : Ob) => dd (sO oc4 6 (cst (od 6 0))) (fun (oc5 : Ob) => some oc5)))) (fun (K1 : Ob → Option (Ob)) => L_X0_copyFrom_2 2000 od 0 oc K1)
abbrev rm_X0_copyFrom : Room := { frames := 0, cells := 0, slots := 0, locals := 0 }
abbrev wu_X0_copyFrom : List Cond := .code yX0_copyFrom cX0_copyFrom 3 none :: lwG
set_option maxHeartbeats 20000000 in
set_option maxRecDepth 100000 in
theorem c_X0_copyFrom (l : Launch) (D : va_G) (cI cZ cO : ClassId) (c_h c_0 c_1 c_2 c_3 d_h d_0 d_1 d_2 d_3 : Nat) (sz : Nat) (oc : Ob) (od : Ob)  (q : Ob) (hF : F_X0_copyFrom oc od = some q) : CtV l yX0_copyFrom wu_X0_copyFrom rm_X0_copyFrom D vwCl (tyL cI cZ cO) [.ref c_h, .ref d_h] (wm_X0_copyFrom cI cZ cO c_h c_0 c_1 c_2 c_3 d_h d_0 d_1 d_2 d_3 oc od) sz 0 0 (fun u : Ob => u = q) (fun u => wm_X0_copyFrom cI cZ cO c_h c_0 c_1 c_2 c_3 d_h d_0 d_1 d_2 d_3 u od) := by
  refine mk_v (cc := cX0_copyFrom) (maxL := 3) (by decide) rfl (Nat.le_of_ble_eq_true rfl) ?_
  intro p e s m args below meth c A ls Q hx hb hml hown hts hin hK hP hD hS hA hl hQ
  have hl : lv_has ls 3 [(0, .ref c_h), (1, .ref d_h)] := hl
  unfold F_X0_copyFrom at hF
  refine lv_iconst (v := 0) hx hb dX0_copyFrom_0 (by decide) ?_
  refine lv_istore_n (lv' := [(2, .int 0), (0, .ref c_h), (1, .ref d_h)]) hx hb dX0_copyFrom_1 rfl hl (by decide) rfl (fun ls hl => ?_)
  obtain ⟨K1, eK1, hF⟩ := of_jn hF
  have hK1 : ∀ (oc2 : Ob) (ls : Array Slot) (H : Heap) (locs : List Loc), lv_has ls 3 [(0, .ref c_h), (1, .ref d_h)] → va_P D vwCl (wm_X0_copyFrom cI cZ cO c_h c_0 c_1 c_2 c_3 d_h d_0 d_1 d_2 d_3 oc2 od) H → va_D A (wm_X0_copyFrom cI cZ cO c_h c_0 c_1 c_2 c_3 d_h d_0 d_1 d_2 d_3 oc2 od) → va_S A s.heap H locs → K1 oc2 = some q → W p l e rm_X0_copyFrom s m args below meth c H locs 0 0 Q (F0 m 62 ls []) := by
    intro oc2 ls H locs hl hP hD hS hF
    subst eK1
    refine lv_aload_n hx hb dX0_copyFrom_62 rfl (lv_at hl 0 rfl) ?_
    refine lv_aload_n hx hb dX0_copyFrom_63 rfl (lv_at hl 1 rfl) ?_
    refine va_get (D := D) (ci := 0) (v := .int (od 4 0)) (C := RX0) (T := TX0) (N := 7) hx hb hts in_X0 hown hK hP 5 rfl rfl 4 (by decide) (hts _ wd_67) (fun _ h9 => h9) rfl dX0_copyFrom_64 ?_
    refine va_put (D := D) (ci := 0) (v := .int (od 4 0)) (ty := .int) (C := RX0) (T := TX0) (N := 7) hx hb hts in_X0 tyX0 tyX0_ok nmX0 hown hK hP hD hS 0 rfl rfl 4 (by decide) (hts _ wd_67) (fun _ h9 => h9) rfl (tyX0_ok 4 (by decide)) rfl rfl (Nat.le_of_ble_eq_true rfl) dX0_copyFrom_67 (fun H locs hP hD hS => ?_)
    obtain ⟨oc3, hF, hP, hD⟩ := nm_o (P := fun y => va_P D vwCl (wm_X0_copyFrom cI cZ cO c_h c_0 c_1 c_2 c_3 d_h d_0 d_1 d_2 d_3 y od) _) (B := fun y => va_D A (wm_X0_copyFrom cI cZ cO c_h c_0 c_1 c_2 c_3 d_h d_0 d_1 d_2 d_3 y od)) hF hP hD
    refine lv_aload_n hx hb dX0_copyFrom_70 rfl (lv_at hl 0 rfl) ?_
    refine lv_aload_n hx hb dX0_copyFrom_71 rfl (lv_at hl 1 rfl) ?_
    refine va_get (D := D) (ci := 0) (v := .int (od 5 0)) (C := RX0) (T := TX0) (N := 7) hx hb hts in_X0 hown hK hP 5 rfl rfl 5 (by decide) (hts _ wd_70) (fun _ h9 => h9) rfl dX0_copyFrom_72 ?_
    refine va_put (D := D) (ci := 0) (v := .int (od 5 0)) (ty := .int) (C := RX0) (T := TX0) (N := 7) hx hb hts in_X0 tyX0 tyX0_ok nmX0 hown hK hP hD hS 0 rfl rfl 5 (by decide) (hts _ wd_70) (fun _ h9 => h9) rfl (tyX0_ok 5 (by decide)) rfl rfl (Nat.le_of_ble_eq_true rfl) dX0_copyFrom_75 (fun H locs hP hD hS => ?_)
    obtain ⟨oc4, hF, hP, hD⟩ := nm_o (P := fun y => va_P D vwCl (wm_X0_copyFrom cI cZ cO c_h c_0 c_1 c_2 c_3 d_h d_0 d_1 d_2 d_3 y od) _) (B := fun y => va_D A (wm_X0_copyFrom cI cZ cO c_h c_0 c_1 c_2 c_3 d_h d_0 d_1 d_2 d_3 y od)) hF hP hD
    refine lv_aload_n hx hb dX0_copyFrom_78 rfl (lv_at hl 0 rfl) ?_
    refine lv_aload_n hx hb dX0_copyFrom_79 rfl (lv_at hl 1 rfl) ?_
    refine va_get (D := D) (ci := 0) (v := .int (od 6 0)) (C := RX0) (T := TX0) (N := 7) hx hb hts in_X0 hown hK hP 5 rfl rfl 6 (by decide) (hts _ wd_73) (fun _ h9 => h9) rfl dX0_copyFrom_80 ?_
    refine va_put (D := D) (ci := 0) (v := .int (od 6 0)) (ty := .int) (C := RX0) (T := TX0) (N := 7) hx hb hts in_X0 tyX0 tyX0_ok nmX0 hown hK hP hD hS 0 rfl rfl 6 (by decide) (hts _ wd_73) (fun _ h9 => h9) rfl (tyX0_ok 6 (by decide)) rfl rfl (Nat.le_of_ble_eq_true rfl) dX0_copyFrom_83 (fun H locs hP hD hS => ?_)
    obtain ⟨oc5, hF, hP, hD⟩ := nm_o (P := fun y => va_P D vwCl (wm_X0_copyFrom cI cZ cO c_h c_0 c_1 c_2 c_3 d_h d_0 d_1 d_2 d_3 y od) _) (B := fun y => va_D A (wm_X0_copyFrom cI cZ cO c_h c_0 c_1 c_2 c_3 d_h d_0 d_1 d_2 d_3 y od)) hF hP hD
    exact hQ _ _ _ _ oc5 (Option.some.inj hF) hP hD hS dX0_copyFrom_86
  have hloop24 : ∀ (n9 : Nat) (v6 : Int32) (oc7 : Ob) (ls : Array Slot) (H : Heap) (locs : List Loc), lv_has ls 3 [(0, .ref c_h), (1, .ref d_h), (2, .int v6)] → va_P D vwCl (wm_X0_copyFrom cI cZ cO c_h c_0 c_1 c_2 c_3 d_h d_0 d_1 d_2 d_3 oc7 od) H → va_D A (wm_X0_copyFrom cI cZ cO c_h c_0 c_1 c_2 c_3 d_h d_0 d_1 d_2 d_3 oc7 od) → va_S A s.heap H locs → L_X0_copyFrom_2 n9 od v6 oc7 K1 = some q → W p l e rm_X0_copyFrom s m args below meth c H locs 0 0 Q (F0 m 2 ls []) := by
    intro n9
    induction n9 with
    | zero =>
      intro v6 oc7 ls H locs hl hP hD hS hF
      exact of_none hF
    | succ n9 ih8 =>
      intro v6 oc7 ls H locs hl hP hD hS hF
      rw [L_X0_copyFrom_2.eq_2] at hF
      refine lv_iload_n hx hb dX0_copyFrom_2 rfl (lv_at hl 2 rfl) ?_
      refine lv_bipush (v := 8) hx hb dX0_copyFrom_3 (by decide) ?_
      refine lv_icmp_ge (tgt := 62) hx hb dX0_copyFrom_5 (by decide) (fun h10 => ?_) (fun h10 => ?_)
      · replace hF := of_t h10 hF
        exact hK1 oc7 ls _ _ (lv_sub hl [0, 1] rfl) hP hD hS hF
      · replace hF := of_f h10 hF
        refine lv_aload_n hx hb dX0_copyFrom_8 rfl (lv_at hl 0 rfl) ?_
        refine va_get (D := D) (ci := 0) (v := .ref c_0) (C := RX0) (T := TX0) (N := 7) hx hb hts in_X0 hown hK hP 0 rfl rfl 0 (by decide) (hts _ wd_57) (fun _ h9 => h9) rfl dX0_copyFrom_9 ?_
        refine lv_iload_n hx hb dX0_copyFrom_12 rfl (lv_at hl 2 rfl) ?_
        refine lv_aload_n hx hb dX0_copyFrom_13 rfl (lv_at hl 1 rfl) ?_
        refine va_get (D := D) (ci := 0) (v := .ref d_0) (C := RX0) (T := TX0) (N := 7) hx hb hts in_X0 hown hK hP 5 rfl rfl 0 (by decide) (hts _ wd_57) (fun _ h9 => h9) rfl dX0_copyFrom_14 ?_
        refine lv_iload_n hx hb dX0_copyFrom_17 rfl (lv_at hl 2 rfl) ?_
        obtain ⟨h11, hF⟩ := of_ck hF
        refine va_zald (D := D) hx hb hK hP 6 1 rfl rfl h11 dX0_copyFrom_18 ?_
        obtain ⟨h12, hF⟩ := of_ck hF
        refine va_zast (D := D) hx hb hK hP hD hS 1 1 rfl rfl h12 dX0_copyFrom_19 (fun H locs hP hD hS => ?_)
        obtain ⟨oc13, hF, hP, hD⟩ := nm_o (P := fun y => va_P D vwCl (wm_X0_copyFrom cI cZ cO c_h c_0 c_1 c_2 c_3 d_h d_0 d_1 d_2 d_3 y od) _) (B := fun y => va_D A (wm_X0_copyFrom cI cZ cO c_h c_0 c_1 c_2 c_3 d_h d_0 d_1 d_2 d_3 y od)) hF hP hD
        refine lv_aload_n hx hb dX0_copyFrom_20 rfl (lv_at hl 0 rfl) ?_
        refine va_get (D := D) (ci := 0) (v := .ref c_1) (C := RX0) (T := TX0) (N := 7) hx hb hts in_X0 hown hK hP 0 rfl rfl 1 (by decide) (hts _ wd_58) (fun _ h9 => h9) rfl dX0_copyFrom_21 ?_
        refine lv_iload_n hx hb dX0_copyFrom_24 rfl (lv_at hl 2 rfl) ?_
        refine lv_aload_n hx hb dX0_copyFrom_25 rfl (lv_at hl 1 rfl) ?_
        refine va_get (D := D) (ci := 0) (v := .ref d_1) (C := RX0) (T := TX0) (N := 7) hx hb hts in_X0 hown hK hP 5 rfl rfl 1 (by decide) (hts _ wd_58) (fun _ h9 => h9) rfl dX0_copyFrom_26 ?_
        refine lv_iload_n hx hb dX0_copyFrom_29 rfl (lv_at hl 2 rfl) ?_
        obtain ⟨h14, hF⟩ := of_ck hF
        refine va_iald (D := D) hx hb hK hP 7 0 rfl rfl h14 dX0_copyFrom_30 ?_
        obtain ⟨h15, hF⟩ := of_ck hF
        refine va_iast (D := D) hx hb hK hP hD hS 2 0 rfl rfl h15 dX0_copyFrom_31 (fun H locs hP hD hS => ?_)
        obtain ⟨oc16, hF, hP, hD⟩ := nm_o (P := fun y => va_P D vwCl (wm_X0_copyFrom cI cZ cO c_h c_0 c_1 c_2 c_3 d_h d_0 d_1 d_2 d_3 y od) _) (B := fun y => va_D A (wm_X0_copyFrom cI cZ cO c_h c_0 c_1 c_2 c_3 d_h d_0 d_1 d_2 d_3 y od)) hF hP hD
        refine lv_aload_n hx hb dX0_copyFrom_32 rfl (lv_at hl 0 rfl) ?_
        refine va_get (D := D) (ci := 0) (v := .ref c_2) (C := RX0) (T := TX0) (N := 7) hx hb hts in_X0 hown hK hP 0 rfl rfl 2 (by decide) (hts _ wd_61) (fun _ h9 => h9) rfl dX0_copyFrom_33 ?_
        refine lv_iload_n hx hb dX0_copyFrom_36 rfl (lv_at hl 2 rfl) ?_
        refine lv_aload_n hx hb dX0_copyFrom_37 rfl (lv_at hl 1 rfl) ?_
        refine va_get (D := D) (ci := 0) (v := .ref d_2) (C := RX0) (T := TX0) (N := 7) hx hb hts in_X0 hown hK hP 5 rfl rfl 2 (by decide) (hts _ wd_61) (fun _ h9 => h9) rfl dX0_copyFrom_38 ?_
        refine lv_iload_n hx hb dX0_copyFrom_41 rfl (lv_at hl 2 rfl) ?_
        obtain ⟨h17, hF⟩ := of_ck hF
        refine va_iald (D := D) hx hb hK hP 8 0 rfl rfl h17 dX0_copyFrom_42 ?_
        obtain ⟨h18, hF⟩ := of_ck hF
        refine va_iast (D := D) hx hb hK hP hD hS 3 0 rfl rfl h18 dX0_copyFrom_43 (fun H locs hP hD hS => ?_)
        obtain ⟨oc19, hF, hP, hD⟩ := nm_o (P := fun y => va_P D vwCl (wm_X0_copyFrom cI cZ cO c_h c_0 c_1 c_2 c_3 d_h d_0 d_1 d_2 d_3 y od) _) (B := fun y => va_D A (wm_X0_copyFrom cI cZ cO c_h c_0 c_1 c_2 c_3 d_h d_0 d_1 d_2 d_3 y od)) hF hP hD
        refine lv_aload_n hx hb dX0_copyFrom_44 rfl (lv_at hl 0 rfl) ?_
        refine va_get (D := D) (ci := 0) (v := .ref c_3) (C := RX0) (T := TX0) (N := 7) hx hb hts in_X0 hown hK hP 0 rfl rfl 3 (by decide) (hts _ wd_64) (fun _ h9 => h9) rfl dX0_copyFrom_45 ?_
        refine lv_iload_n hx hb dX0_copyFrom_48 rfl (lv_at hl 2 rfl) ?_
        refine lv_aload_n hx hb dX0_copyFrom_49 rfl (lv_at hl 1 rfl) ?_
        refine va_get (D := D) (ci := 0) (v := .ref d_3) (C := RX0) (T := TX0) (N := 7) hx hb hts in_X0 hown hK hP 5 rfl rfl 3 (by decide) (hts _ wd_64) (fun _ h9 => h9) rfl dX0_copyFrom_50 ?_
        refine lv_iload_n hx hb dX0_copyFrom_53 rfl (lv_at hl 2 rfl) ?_
        obtain ⟨h20, hF⟩ := of_ck hF
        refine va_iald (D := D) hx hb hK hP 9 0 rfl rfl h20 dX0_copyFrom_54 ?_
        obtain ⟨h21, hF⟩ := of_ck hF
        refine va_iast (D := D) hx hb hK hP hD hS 4 0 rfl rfl h21 dX0_copyFrom_55 (fun H locs hP hD hS => ?_)
        obtain ⟨oc22, hF, hP, hD⟩ := nm_o (P := fun y => va_P D vwCl (wm_X0_copyFrom cI cZ cO c_h c_0 c_1 c_2 c_3 d_h d_0 d_1 d_2 d_3 y od) _) (B := fun y => va_D A (wm_X0_copyFrom cI cZ cO c_h c_0 c_1 c_2 c_3 d_h d_0 d_1 d_2 d_3 y od)) hF hP hD
        obtain ⟨v23, ev23⟩ : ∃ y : Int32, y = v6 + 1 := ⟨_, rfl⟩
        replace hF := of_dd hF v23 ev23
        refine lv_iinc (v := v23) (lv' := [(2, .int v23), (0, .ref c_h), (1, .ref d_h)]) hx hb dX0_copyFrom_56 hl (k := 2) rfl (by rw [ev23]; rfl) (by decide) rfl (fun ls hl => ?_)
        refine lv_goto (tgt := 2) hx hb dX0_copyFrom_59 (by decide) ?_
        exact ih8 v23 oc22 ls _ _ (lv_sub hl [1, 2, 0] rfl) hP hD hS hF
  exact hloop24 2000 0 oc ls _ _ (lv_sub hl [1, 2, 0] rfl) hP hD hS hF

/-! ### ThreeLegs$Film.add(I)V -/
abbrev wm_X1_add (cI cZ cO : ClassId) (f_h f_0 : Nat) (of : Ob) : va_W := [(f_h, .inr (1, [.ref f_0, .int (of 1 0)])), (f_0, .inl (cI, 40, .inl (of 0)))]
def F_X1_add (of : Ob) (p0 : Int32) : Option (Ob) :=
  (if 40 ≤ (of 1 0) then some of else ck (of 1 0) 40 (dd (sO of 0 (upd (of 0) ((of 1 0)).toNatClampNeg p0)) (fun (of3 : Ob) => dd ((of3 1 0) + 1) (fun (v4 : Int32) => dd (sO of3 1 (cst v4)) (fun (of5 : Ob) => some of5)))))
abbrev rm_X1_add : Room := { frames := 0, cells := 0, slots := 0, locals := 0 }
abbrev wu_X1_add : List Cond := .code yX1_add cX1_add 2 none :: lwG
set_option maxHeartbeats 20000000 in
set_option maxRecDepth 100000 in
theorem c_X1_add (l : Launch) (D : va_G) (cI cZ cO : ClassId) (f_h f_0 : Nat) (sz : Nat) (of : Ob) (p0 : Int32) (q : Ob) (hF : F_X1_add of p0 = some q) : CtV l yX1_add wu_X1_add rm_X1_add D vwCl (tyL cI cZ cO) [.ref f_h, .int p0] (wm_X1_add cI cZ cO f_h f_0 of) sz 0 0 (fun u : Ob => u = q) (fun u => wm_X1_add cI cZ cO f_h f_0 u) := by
  refine mk_v (cc := cX1_add) (maxL := 2) (by decide) rfl (Nat.le_of_ble_eq_true rfl) ?_
  intro p e s m args below meth c A ls Q hx hb hml hown hts hin hK hP hD hS hA hl hQ
  have hl : lv_has ls 2 [(0, .ref f_h), (1, .int p0)] := hl
  unfold F_X1_add at hF
  refine lv_aload_n hx hb dX1_add_0 rfl (lv_at hl 0 rfl) ?_
  refine va_get (D := D) (ci := 1) (v := .int (of 1 0)) (C := RX1) (T := TX1) (N := 2) hx hb hts in_X1 hown hK hP 0 rfl rfl 1 (by decide) (hts _ wd_101) (fun _ h9 => h9) rfl dX1_add_1 ?_
  refine lv_bipush (v := 40) hx hb dX1_add_4 (by decide) ?_
  refine lv_icmp_ge (tgt := 29) hx hb dX1_add_6 (by decide) (fun h1 => ?_) (fun h1 => ?_)
  · replace hF := of_t h1 hF
    exact hQ _ _ _ _ of (Option.some.inj hF) hP hD hS dX1_add_29
  · replace hF := of_f h1 hF
    refine lv_aload_n hx hb dX1_add_9 rfl (lv_at hl 0 rfl) ?_
    refine va_get (D := D) (ci := 1) (v := .ref f_0) (C := RX1) (T := TX1) (N := 2) hx hb hts in_X1 hown hK hP 0 rfl rfl 0 (by decide) (hts _ wd_100) (fun _ h9 => h9) rfl dX1_add_10 ?_
    refine lv_aload_n hx hb dX1_add_13 rfl (lv_at hl 0 rfl) ?_
    refine va_get (D := D) (ci := 1) (v := .int (of 1 0)) (C := RX1) (T := TX1) (N := 2) hx hb hts in_X1 hown hK hP 0 rfl rfl 1 (by decide) (hts _ wd_101) (fun _ h9 => h9) rfl dX1_add_14 ?_
    refine lv_iload_n hx hb dX1_add_17 rfl (lv_at hl 1 rfl) ?_
    obtain ⟨h2, hF⟩ := of_ck hF
    refine va_iast (D := D) hx hb hK hP hD hS 1 0 rfl rfl h2 dX1_add_18 (fun H locs hP hD hS => ?_)
    obtain ⟨of3, hF, hP, hD⟩ := nm_o (P := fun y => va_P D vwCl (wm_X1_add cI cZ cO f_h f_0 y) _) (B := fun y => va_D A (wm_X1_add cI cZ cO f_h f_0 y)) hF hP hD
    refine lv_aload_n hx hb dX1_add_19 rfl (lv_at hl 0 rfl) ?_
    refine lv_dup hx hb dX1_add_20 rfl ?_
    refine va_get (D := D) (ci := 1) (v := .int (of3 1 0)) (C := RX1) (T := TX1) (N := 2) hx hb hts in_X1 hown hK hP 0 rfl rfl 1 (by decide) (hts _ wd_101) (fun _ h9 => h9) rfl dX1_add_21 ?_
    refine lv_iconst (v := 1) hx hb dX1_add_24 (by decide) ?_
    refine lv_iadd hx hb dX1_add_25 ?_
    refine lv_topi (fun v4 ev4 => ?_)
    replace hF := of_dd hF v4 ev4
    refine va_put (D := D) (ci := 1) (v := .int v4) (ty := .int) (C := RX1) (T := TX1) (N := 2) hx hb hts in_X1 tyX1 tyX1_ok nmX1 hown hK hP hD hS 0 rfl rfl 1 (by decide) (hts _ wd_101) (fun _ h9 => h9) rfl (tyX1_ok 1 (by decide)) rfl rfl (Nat.le_of_ble_eq_true rfl) dX1_add_26 (fun H locs hP hD hS => ?_)
    obtain ⟨of5, hF, hP, hD⟩ := nm_o (P := fun y => va_P D vwCl (wm_X1_add cI cZ cO f_h f_0 y) _) (B := fun y => va_D A (wm_X1_add cI cZ cO f_h f_0 y)) hF hP hD
    exact hQ _ _ _ _ of5 (Option.some.inj hF) hP hD hS dX1_add_29

/-! ### ThreeLegs$Film.firstFault()I -/
abbrev wm_X1_firstFault (cI cZ cO : ClassId) (f_h f_0 : Nat) (of : Ob) : va_W := [(f_h, .inr (1, [.ref f_0, .int (of 1 0)])), (f_0, .inl (cI, 40, .inl (of 0)))]
def L_X1_firstFault_2 : Nat → Ob → Int32 → (Option (Int32)) → Option (Int32)
  | 0, _, _, _ => none
  | n4 + 1, of, v2, K1 =>
    (if (of 1 0) ≤ v2 then K1 else ck v2 40 ((if ((of 0) (v2).toNatClampNeg) = 115 then dd (v2 + 1) (fun (v8 : Int32) => L_X1_firstFault_2 n4 of v8 K1) else (if ((of 0) (v2).toNatClampNeg) = 108 then dd (v2 + 1) (fun (v10 : Int32) => L_X1_firstFault_2 n4 of v10 K1) else (if ((of 0) (v2).toNatClampNeg) = 102 then dd (v2 + 1) (fun (v12 : Int32) => L_X1_firstFault_2 n4 of v12 K1) else (if ((of 0) (v2).toNatClampNeg) = 63 then dd (v2 + 1) (fun (v14 : Int32) => L_X1_firstFault_2 n4 of v14 K1) else some v2))))))
def F_X1_firstFault (of : Ob)  : Option (Int32) :=
  jn (some (-6)) (fun (K1 : Option (Int32)) => L_X1_firstFault_2 2000 of 0 K1)
abbrev rm_X1_firstFault : Room := { frames := 0, cells := 0, slots := 0, locals := 0 }
abbrev wu_X1_firstFault : List Cond := .code yX1_firstFault cX1_firstFault 3 (some .int) :: lwG
set_option maxHeartbeats 20000000 in
set_option maxRecDepth 100000 in
theorem c_X1_firstFault (l : Launch) (D : va_G) (cI cZ cO : ClassId) (f_h f_0 : Nat) (sz : Nat) (of : Ob)  (q : Int32) (hF : F_X1_firstFault of = some q) : CtI l yX1_firstFault wu_X1_firstFault rm_X1_firstFault D vwCl (tyL cI cZ cO) [.ref f_h] (wm_X1_firstFault cI cZ cO f_h f_0 of) sz 0 0 (fun (r : Int32) (u : Unit) => r = q ∧ u = ()) (fun u => wm_X1_firstFault cI cZ cO f_h f_0 of) := by
  refine mk_i (cc := cX1_firstFault) (maxL := 3) (by decide) rfl (Nat.le_of_ble_eq_true rfl) ?_
  intro p e s m args below meth c A ls Q hx hb hml hown hts hin hK hP hD hS hA hl hQ
  have hl : lv_has ls 3 [(0, .ref f_h)] := hl
  unfold F_X1_firstFault at hF
  refine lv_iconst (v := 0) hx hb dX1_firstFault_0 (by decide) ?_
  refine lv_istore_n (lv' := [(1, .int 0), (0, .ref f_h)]) hx hb dX1_firstFault_1 rfl hl (by decide) rfl (fun ls hl => ?_)
  obtain ⟨K1, eK1, hF⟩ := of_jn hF
  have hK1 : ∀  (ls : Array Slot) (H : Heap) (locs : List Loc), lv_has ls 3 [] → va_P D vwCl (wm_X1_firstFault cI cZ cO f_h f_0 of) H → va_D A (wm_X1_firstFault cI cZ cO f_h f_0 of) → va_S A s.heap H locs → K1 = some q → W p l e rm_X1_firstFault s m args below meth c H locs 0 0 Q (F0 m 49 ls []) := by
    intro  ls H locs hl hP hD hS hF
    subst eK1
    refine lv_bipush (v := (-6)) hx hb dX1_firstFault_49 (by decide) ?_
    exact hQ _ _ _ _ _ () ⟨Option.some.inj hF, rfl⟩ hP hD hS dX1_firstFault_51
  have hloop15 : ∀ (n4 : Nat) (v2 : Int32) (ls : Array Slot) (H : Heap) (locs : List Loc), lv_has ls 3 [(0, .ref f_h), (1, .int v2)] → va_P D vwCl (wm_X1_firstFault cI cZ cO f_h f_0 of) H → va_D A (wm_X1_firstFault cI cZ cO f_h f_0 of) → va_S A s.heap H locs → L_X1_firstFault_2 n4 of v2 K1 = some q → W p l e rm_X1_firstFault s m args below meth c H locs 0 0 Q (F0 m 2 ls []) := by
    intro n4
    induction n4 with
    | zero =>
      intro v2 ls H locs hl hP hD hS hF
      exact of_none hF
    | succ n4 ih3 =>
      intro v2 ls H locs hl hP hD hS hF
      rw [L_X1_firstFault_2.eq_2] at hF
      refine lv_iload_n hx hb dX1_firstFault_2 rfl (lv_at hl 1 rfl) ?_
      refine lv_aload_n hx hb dX1_firstFault_3 rfl (lv_at hl 0 rfl) ?_
      refine va_get (D := D) (ci := 1) (v := .int (of 1 0)) (C := RX1) (T := TX1) (N := 2) hx hb hts in_X1 hown hK hP 0 rfl rfl 1 (by decide) (hts _ wd_101) (fun _ h9 => h9) rfl dX1_firstFault_4 ?_
      refine lv_icmp_ge (tgt := 49) hx hb dX1_firstFault_7 (by decide) (fun h5 => ?_) (fun h5 => ?_)
      · replace hF := of_t h5 hF
        exact hK1  ls _ _ (lv_sub hl [] rfl) hP hD hS hF
      · replace hF := of_f h5 hF
        refine lv_aload_n hx hb dX1_firstFault_10 rfl (lv_at hl 0 rfl) ?_
        refine va_get (D := D) (ci := 1) (v := .ref f_0) (C := RX1) (T := TX1) (N := 2) hx hb hts in_X1 hown hK hP 0 rfl rfl 0 (by decide) (hts _ wd_100) (fun _ h9 => h9) rfl dX1_firstFault_11 ?_
        refine lv_iload_n hx hb dX1_firstFault_14 rfl (lv_at hl 1 rfl) ?_
        obtain ⟨h6, hF⟩ := of_ck hF
        refine va_iald (D := D) hx hb hK hP 1 0 rfl rfl h6 dX1_firstFault_15 ?_
        refine lv_istore_n (lv' := [(2, .int ((of 0) (v2).toNatClampNeg)), (0, .ref f_h), (1, .int v2)]) hx hb dX1_firstFault_16 rfl hl (by decide) rfl (fun ls hl => ?_)
        refine lv_iload_n hx hb dX1_firstFault_17 rfl (lv_at hl 0 rfl) ?_
        refine lv_bipush (v := 115) hx hb dX1_firstFault_18 (by decide) ?_
        refine lv_icmp_eq (tgt := 43) hx hb dX1_firstFault_20 (by decide) (fun h7 => ?_) (fun h7 => ?_)
        · replace hF := of_t h7 hF
          obtain ⟨v8, ev8⟩ : ∃ y : Int32, y = v2 + 1 := ⟨_, rfl⟩
          replace hF := of_dd hF v8 ev8
          refine lv_iinc (v := v8) (lv' := [(1, .int v8), (2, .int ((of 0) (v2).toNatClampNeg)), (0, .ref f_h)]) hx hb dX1_firstFault_43 hl (k := 2) rfl (by rw [ev8]; rfl) (by decide) rfl (fun ls hl => ?_)
          refine lv_goto (tgt := 2) hx hb dX1_firstFault_46 (by decide) ?_
          exact ih3 v8 ls _ _ (lv_sub hl [2, 0] rfl) hP hD hS hF
        · replace hF := of_f h7 hF
          refine lv_iload_n hx hb dX1_firstFault_23 rfl (lv_at hl 0 rfl) ?_
          refine lv_bipush (v := 108) hx hb dX1_firstFault_24 (by decide) ?_
          refine lv_icmp_eq (tgt := 43) hx hb dX1_firstFault_26 (by decide) (fun h9 => ?_) (fun h9 => ?_)
          · replace hF := of_t h9 hF
            obtain ⟨v10, ev10⟩ : ∃ y : Int32, y = v2 + 1 := ⟨_, rfl⟩
            replace hF := of_dd hF v10 ev10
            refine lv_iinc (v := v10) (lv' := [(1, .int v10), (2, .int ((of 0) (v2).toNatClampNeg)), (0, .ref f_h)]) hx hb dX1_firstFault_43 hl (k := 2) rfl (by rw [ev10]; rfl) (by decide) rfl (fun ls hl => ?_)
            refine lv_goto (tgt := 2) hx hb dX1_firstFault_46 (by decide) ?_
            exact ih3 v10 ls _ _ (lv_sub hl [2, 0] rfl) hP hD hS hF
          · replace hF := of_f h9 hF
            refine lv_iload_n hx hb dX1_firstFault_29 rfl (lv_at hl 0 rfl) ?_
            refine lv_bipush (v := 102) hx hb dX1_firstFault_30 (by decide) ?_
            refine lv_icmp_eq (tgt := 43) hx hb dX1_firstFault_32 (by decide) (fun h11 => ?_) (fun h11 => ?_)
            · replace hF := of_t h11 hF
              obtain ⟨v12, ev12⟩ : ∃ y : Int32, y = v2 + 1 := ⟨_, rfl⟩
              replace hF := of_dd hF v12 ev12
              refine lv_iinc (v := v12) (lv' := [(1, .int v12), (2, .int ((of 0) (v2).toNatClampNeg)), (0, .ref f_h)]) hx hb dX1_firstFault_43 hl (k := 2) rfl (by rw [ev12]; rfl) (by decide) rfl (fun ls hl => ?_)
              refine lv_goto (tgt := 2) hx hb dX1_firstFault_46 (by decide) ?_
              exact ih3 v12 ls _ _ (lv_sub hl [2, 0] rfl) hP hD hS hF
            · replace hF := of_f h11 hF
              refine lv_iload_n hx hb dX1_firstFault_35 rfl (lv_at hl 0 rfl) ?_
              refine lv_bipush (v := 63) hx hb dX1_firstFault_36 (by decide) ?_
              refine lv_icmp_eq (tgt := 43) hx hb dX1_firstFault_38 (by decide) (fun h13 => ?_) (fun h13 => ?_)
              · replace hF := of_t h13 hF
                obtain ⟨v14, ev14⟩ : ∃ y : Int32, y = v2 + 1 := ⟨_, rfl⟩
                replace hF := of_dd hF v14 ev14
                refine lv_iinc (v := v14) (lv' := [(1, .int v14), (2, .int ((of 0) (v2).toNatClampNeg)), (0, .ref f_h)]) hx hb dX1_firstFault_43 hl (k := 2) rfl (by rw [ev14]; rfl) (by decide) rfl (fun ls hl => ?_)
                refine lv_goto (tgt := 2) hx hb dX1_firstFault_46 (by decide) ?_
                exact ih3 v14 ls _ _ (lv_sub hl [2, 0] rfl) hP hD hS hF
              · replace hF := of_f h13 hF
                refine lv_iload_n hx hb dX1_firstFault_41 rfl (lv_at hl 2 rfl) ?_
                exact hQ _ _ _ _ _ () ⟨Option.some.inj hF, rfl⟩ hP hD hS dX1_firstFault_42
  exact hloop15 2000 0 ls _ _ (lv_sub hl [1, 0] rfl) hP hD hS hF

/-! ### ThreeLegs$Film.canShow(IC)Z -/
abbrev wm_X1_canShow (cI cZ cO : ClassId) (f_h f_0 : Nat) (of : Ob) : va_W := [(f_h, .inr (1, [.ref f_0, .int (of 1 0)])), (f_0, .inl (cI, 40, .inl (of 0)))]
def F_X1_canShow (of : Ob) (p0 : Int32) (p1 : Int32) : Option (Int32) :=
  (if p0 < 0 then some 0 else (if (of 1 0) ≤ p0 then some 0 else ck p0 40 ((if ((of 0) (p0).toNatClampNeg) = p1 then some 1 else ck p0 40 ((if ((of 0) (p0).toNatClampNeg) = 63 then some 1 else some 0))))))
abbrev rm_X1_canShow : Room := { frames := 0, cells := 0, slots := 0, locals := 0 }
abbrev wu_X1_canShow : List Cond := .code yX1_canShow cX1_canShow 3 (some .boolean) :: lwG
set_option maxHeartbeats 20000000 in
set_option maxRecDepth 100000 in
theorem c_X1_canShow (l : Launch) (D : va_G) (cI cZ cO : ClassId) (f_h f_0 : Nat) (sz : Nat) (of : Ob) (p0 : Int32) (p1 : Int32) (q : Int32) (hF : F_X1_canShow of p0 p1 = some q) : CtI l yX1_canShow wu_X1_canShow rm_X1_canShow D vwCl (tyL cI cZ cO) [.ref f_h, .int p0, .int p1] (wm_X1_canShow cI cZ cO f_h f_0 of) sz 0 0 (fun (r : Int32) (u : Unit) => r = q ∧ u = ()) (fun u => wm_X1_canShow cI cZ cO f_h f_0 of) := by
  refine mk_z (cc := cX1_canShow) (maxL := 3) (by decide) rfl (Nat.le_of_ble_eq_true rfl) ?_
  intro p e s m args below meth c A ls Q hx hb hml hown hts hin hK hP hD hS hA hl hQ
  have hl : lv_has ls 3 [(0, .ref f_h), (1, .int p0), (2, .int p1)] := hl
  unfold F_X1_canShow at hF
  refine lv_iload_n hx hb dX1_canShow_0 rfl (lv_at hl 1 rfl) ?_
  refine lv_if_lt (tgt := 37) hx hb dX1_canShow_1 (by decide) (fun h1 => ?_) (fun h1 => ?_)
  · replace hF := of_t h1 hF
    refine lv_iconst (v := 0) hx hb dX1_canShow_37 (by decide) ?_
    exact hQ _ _ _ _ _ () rfl ⟨Option.some.inj hF, rfl⟩ hP hD hS dX1_canShow_38
  · replace hF := of_f h1 hF
    refine lv_iload_n hx hb dX1_canShow_4 rfl (lv_at hl 1 rfl) ?_
    refine lv_aload_n hx hb dX1_canShow_5 rfl (lv_at hl 0 rfl) ?_
    refine va_get (D := D) (ci := 1) (v := .int (of 1 0)) (C := RX1) (T := TX1) (N := 2) hx hb hts in_X1 hown hK hP 0 rfl rfl 1 (by decide) (hts _ wd_101) (fun _ h9 => h9) rfl dX1_canShow_6 ?_
    refine lv_icmp_ge (tgt := 37) hx hb dX1_canShow_9 (by decide) (fun h2 => ?_) (fun h2 => ?_)
    · replace hF := of_t h2 hF
      refine lv_iconst (v := 0) hx hb dX1_canShow_37 (by decide) ?_
      exact hQ _ _ _ _ _ () rfl ⟨Option.some.inj hF, rfl⟩ hP hD hS dX1_canShow_38
    · replace hF := of_f h2 hF
      refine lv_aload_n hx hb dX1_canShow_12 rfl (lv_at hl 0 rfl) ?_
      refine va_get (D := D) (ci := 1) (v := .ref f_0) (C := RX1) (T := TX1) (N := 2) hx hb hts in_X1 hown hK hP 0 rfl rfl 0 (by decide) (hts _ wd_100) (fun _ h9 => h9) rfl dX1_canShow_13 ?_
      refine lv_iload_n hx hb dX1_canShow_16 rfl (lv_at hl 1 rfl) ?_
      obtain ⟨h3, hF⟩ := of_ck hF
      refine va_iald (D := D) hx hb hK hP 1 0 rfl rfl h3 dX1_canShow_17 ?_
      refine lv_iload_n hx hb dX1_canShow_18 rfl (lv_at hl 2 rfl) ?_
      refine lv_icmp_eq (tgt := 33) hx hb dX1_canShow_19 (by decide) (fun h4 => ?_) (fun h4 => ?_)
      · replace hF := of_t h4 hF
        refine lv_iconst (v := 1) hx hb dX1_canShow_33 (by decide) ?_
        refine lv_goto (tgt := 38) hx hb dX1_canShow_34 (by decide) ?_
        exact hQ _ _ _ _ _ () rfl ⟨Option.some.inj hF, rfl⟩ hP hD hS dX1_canShow_38
      · replace hF := of_f h4 hF
        refine lv_aload_n hx hb dX1_canShow_22 rfl (lv_at hl 0 rfl) ?_
        refine va_get (D := D) (ci := 1) (v := .ref f_0) (C := RX1) (T := TX1) (N := 2) hx hb hts in_X1 hown hK hP 0 rfl rfl 0 (by decide) (hts _ wd_100) (fun _ h9 => h9) rfl dX1_canShow_23 ?_
        refine lv_iload_n hx hb dX1_canShow_26 rfl (lv_at hl 1 rfl) ?_
        obtain ⟨h5, hF⟩ := of_ck hF
        refine va_iald (D := D) hx hb hK hP 1 0 rfl rfl h5 dX1_canShow_27 ?_
        refine lv_bipush (v := 63) hx hb dX1_canShow_28 (by decide) ?_
        refine lv_icmp_ne (tgt := 37) hx hb dX1_canShow_30 (by decide) (fun h6 => ?_) (fun h6 => ?_)
        · replace hF := of_f h6 hF
          refine lv_iconst (v := 0) hx hb dX1_canShow_37 (by decide) ?_
          exact hQ _ _ _ _ _ () rfl ⟨Option.some.inj hF, rfl⟩ hP hD hS dX1_canShow_38
        · replace hF := of_t h6 hF
          refine lv_iconst (v := 1) hx hb dX1_canShow_33 (by decide) ?_
          refine lv_goto (tgt := 38) hx hb dX1_canShow_34 (by decide) ?_
          exact hQ _ _ _ _ _ () rfl ⟨Option.some.inj hF, rfl⟩ hP hD hS dX1_canShow_38

/-! ### ThreeLegs$Soonest.clear()V -/
abbrev wm_X3_clear (cI cZ cO : ClassId) (s_h : Nat) (os : Ob) : va_W := [(s_h, .inr (3, [.int (os 0 0), .int (os 1 0)]))]
def F_X3_clear (os : Ob)  : Option (Ob) :=
  dd (sO os 0 (cst (-6))) (fun (os1 : Ob) => dd (sO os1 1 (cst (-6))) (fun (os2 : Ob) => some os2))
abbrev rm_X3_clear : Room := { frames := 0, cells := 0, slots := 0, locals := 0 }
abbrev wu_X3_clear : List Cond := .code yX3_clear cX3_clear 1 none :: lwG
set_option maxHeartbeats 20000000 in
set_option maxRecDepth 100000 in
theorem c_X3_clear (l : Launch) (D : va_G) (cI cZ cO : ClassId) (s_h : Nat) (sz : Nat) (os : Ob)  (q : Ob) (hF : F_X3_clear os = some q) : CtV l yX3_clear wu_X3_clear rm_X3_clear D vwCl (tyL cI cZ cO) [.ref s_h] (wm_X3_clear cI cZ cO s_h os) sz 0 0 (fun u : Ob => u = q) (fun u => wm_X3_clear cI cZ cO s_h u) := by
  refine mk_v (cc := cX3_clear) (maxL := 1) (by decide) rfl (Nat.le_of_ble_eq_true rfl) ?_
  intro p e s m args below meth c A ls Q hx hb hml hown hts hin hK hP hD hS hA hl hQ
  have hl : lv_has ls 1 [(0, .ref s_h)] := hl
  unfold F_X3_clear at hF
  refine lv_aload_n hx hb dX3_clear_0 rfl (lv_at hl 0 rfl) ?_
  refine lv_bipush (v := (-6)) hx hb dX3_clear_1 (by decide) ?_
  refine va_put (D := D) (ci := 3) (v := .int (-6)) (ty := .int) (C := RX3) (T := TX3) (N := 2) hx hb hts in_X3 tyX3 tyX3_ok nmX3 hown hK hP hD hS 0 rfl rfl 0 (by decide) (hts _ wd_203) (fun _ h9 => h9) rfl (tyX3_ok 0 (by decide)) rfl rfl (Nat.le_of_ble_eq_true rfl) dX3_clear_3 (fun H locs hP hD hS => ?_)
  obtain ⟨os1, hF, hP, hD⟩ := nm_o (P := fun y => va_P D vwCl (wm_X3_clear cI cZ cO s_h y) _) (B := fun y => va_D A (wm_X3_clear cI cZ cO s_h y)) hF hP hD
  refine lv_aload_n hx hb dX3_clear_6 rfl (lv_at hl 0 rfl) ?_
  refine lv_bipush (v := (-6)) hx hb dX3_clear_7 (by decide) ?_
  refine va_put (D := D) (ci := 3) (v := .int (-6)) (ty := .int) (C := RX3) (T := TX3) (N := 2) hx hb hts in_X3 tyX3 tyX3_ok nmX3 hown hK hP hD hS 0 rfl rfl 1 (by decide) (hts _ wd_205) (fun _ h9 => h9) rfl (tyX3_ok 1 (by decide)) rfl rfl (Nat.le_of_ble_eq_true rfl) dX3_clear_9 (fun H locs hP hD hS => ?_)
  obtain ⟨os2, hF, hP, hD⟩ := nm_o (P := fun y => va_P D vwCl (wm_X3_clear cI cZ cO s_h y) _) (B := fun y => va_D A (wm_X3_clear cI cZ cO s_h y)) hF hP hD
  exact hQ _ _ _ _ os2 (Option.some.inj hF) hP hD hS dX3_clear_12

/-! ### ThreeLegs$Soonest.offer(II)V -/
abbrev wm_X3_offer (cI cZ cO : ClassId) (s_h : Nat) (os : Ob) : va_W := [(s_h, .inr (3, [.int (os 0 0), .int (os 1 0)]))]
def F_X3_offer (os : Ob) (p0 : Int32) (p1 : Int32) : Option (Ob) :=
  (if p1 = (-6) then some os else jn (dd (sO os 0 (cst p1)) (fun (os3 : Ob) => dd (sO os3 1 (cst p0)) (fun (os4 : Ob) => some os4))) (fun (K2 : Option (Ob)) => (if (os 0 0) = (-6) then K2 else (if (os 0 0) ≤ p1 then some os else K2))))
abbrev rm_X3_offer : Room := { frames := 0, cells := 0, slots := 0, locals := 0 }
abbrev wu_X3_offer : List Cond := .code yX3_offer cX3_offer 3 none :: lwG
set_option maxHeartbeats 20000000 in
set_option maxRecDepth 100000 in
theorem c_X3_offer (l : Launch) (D : va_G) (cI cZ cO : ClassId) (s_h : Nat) (sz : Nat) (os : Ob) (p0 : Int32) (p1 : Int32) (q : Ob) (hF : F_X3_offer os p0 p1 = some q) : CtV l yX3_offer wu_X3_offer rm_X3_offer D vwCl (tyL cI cZ cO) [.ref s_h, .int p0, .int p1] (wm_X3_offer cI cZ cO s_h os) sz 0 0 (fun u : Ob => u = q) (fun u => wm_X3_offer cI cZ cO s_h u) := by
  refine mk_v (cc := cX3_offer) (maxL := 3) (by decide) rfl (Nat.le_of_ble_eq_true rfl) ?_
  intro p e s m args below meth c A ls Q hx hb hml hown hts hin hK hP hD hS hA hl hQ
  have hl : lv_has ls 3 [(0, .ref s_h), (1, .int p0), (2, .int p1)] := hl
  unfold F_X3_offer at hF
  refine lv_iload_n hx hb dX3_offer_0 rfl (lv_at hl 2 rfl) ?_
  refine lv_bipush (v := (-6)) hx hb dX3_offer_1 (by decide) ?_
  refine lv_icmp_eq (tgt := 33) hx hb dX3_offer_3 (by decide) (fun h1 => ?_) (fun h1 => ?_)
  · replace hF := of_t h1 hF
    exact hQ _ _ _ _ os (Option.some.inj hF) hP hD hS dX3_offer_33
  · replace hF := of_f h1 hF
    refine lv_aload_n hx hb dX3_offer_6 rfl (lv_at hl 0 rfl) ?_
    refine va_get (D := D) (ci := 3) (v := .int (os 0 0)) (C := RX3) (T := TX3) (N := 2) hx hb hts in_X3 hown hK hP 0 rfl rfl 0 (by decide) (hts _ wd_203) (fun _ h9 => h9) rfl dX3_offer_7 ?_
    refine lv_bipush (v := (-6)) hx hb dX3_offer_10 (by decide) ?_
    obtain ⟨K2, eK2, hF⟩ := of_jn hF
    have hK2 : ∀  (ls : Array Slot) (H : Heap) (locs : List Loc), lv_has ls 3 [(0, .ref s_h), (1, .int p0), (2, .int p1)] → va_P D vwCl (wm_X3_offer cI cZ cO s_h os) H → va_D A (wm_X3_offer cI cZ cO s_h os) → va_S A s.heap H locs → K2 = some q → W p l e rm_X3_offer s m args below meth c H locs 0 0 Q (F0 m 23 ls []) := by
      intro  ls H locs hl hP hD hS hF
      subst eK2
      refine lv_aload_n hx hb dX3_offer_23 rfl (lv_at hl 0 rfl) ?_
      refine lv_iload_n hx hb dX3_offer_24 rfl (lv_at hl 2 rfl) ?_
      refine va_put (D := D) (ci := 3) (v := .int p1) (ty := .int) (C := RX3) (T := TX3) (N := 2) hx hb hts in_X3 tyX3 tyX3_ok nmX3 hown hK hP hD hS 0 rfl rfl 0 (by decide) (hts _ wd_203) (fun _ h9 => h9) rfl (tyX3_ok 0 (by decide)) rfl rfl (Nat.le_of_ble_eq_true rfl) dX3_offer_25 (fun H locs hP hD hS => ?_)
      obtain ⟨os3, hF, hP, hD⟩ := nm_o (P := fun y => va_P D vwCl (wm_X3_offer cI cZ cO s_h y) _) (B := fun y => va_D A (wm_X3_offer cI cZ cO s_h y)) hF hP hD
      refine lv_aload_n hx hb dX3_offer_28 rfl (lv_at hl 0 rfl) ?_
      refine lv_iload_n hx hb dX3_offer_29 rfl (lv_at hl 1 rfl) ?_
      refine va_put (D := D) (ci := 3) (v := .int p0) (ty := .int) (C := RX3) (T := TX3) (N := 2) hx hb hts in_X3 tyX3 tyX3_ok nmX3 hown hK hP hD hS 0 rfl rfl 1 (by decide) (hts _ wd_205) (fun _ h9 => h9) rfl (tyX3_ok 1 (by decide)) rfl rfl (Nat.le_of_ble_eq_true rfl) dX3_offer_30 (fun H locs hP hD hS => ?_)
      obtain ⟨os4, hF, hP, hD⟩ := nm_o (P := fun y => va_P D vwCl (wm_X3_offer cI cZ cO s_h y) _) (B := fun y => va_D A (wm_X3_offer cI cZ cO s_h y)) hF hP hD
      exact hQ _ _ _ _ os4 (Option.some.inj hF) hP hD hS dX3_offer_33
    refine lv_icmp_eq (tgt := 23) hx hb dX3_offer_12 (by decide) (fun h5 => ?_) (fun h5 => ?_)
    · replace hF := of_t h5 hF
      exact hK2  ls _ _ (lv_sub hl [0, 1, 2] rfl) hP hD hS hF
    · replace hF := of_f h5 hF
      refine lv_iload_n hx hb dX3_offer_15 rfl (lv_at hl 2 rfl) ?_
      refine lv_aload_n hx hb dX3_offer_16 rfl (lv_at hl 0 rfl) ?_
      refine va_get (D := D) (ci := 3) (v := .int (os 0 0)) (C := RX3) (T := TX3) (N := 2) hx hb hts in_X3 hown hK hP 0 rfl rfl 0 (by decide) (hts _ wd_203) (fun _ h9 => h9) rfl dX3_offer_17 ?_
      refine lv_icmp_ge (tgt := 33) hx hb dX3_offer_20 (by decide) (fun h6 => ?_) (fun h6 => ?_)
      · replace hF := of_t h6 hF
        exact hQ _ _ _ _ os (Option.some.inj hF) hP hD hS dX3_offer_33
      · replace hF := of_f h6 hF
        exact hK2  ls _ _ (lv_sub hl [0, 1, 2] rfl) hP hD hS hF

/-! ### ThreeLegs$Soonest.answer(I)I -/
abbrev wm_X3_answer (cI cZ cO : ClassId) (s_h : Nat) (os : Ob) : va_W := [(s_h, .inr (3, [.int (os 0 0), .int (os 1 0)]))]
def F_X3_answer (os : Ob) (p0 : Int32) : Option (Int32) :=
  (if p0 = 0 then some (os 1 0) else some (os 0 0))
abbrev rm_X3_answer : Room := { frames := 0, cells := 0, slots := 0, locals := 0 }
abbrev wu_X3_answer : List Cond := .code yX3_answer cX3_answer 2 (some .int) :: lwG
set_option maxHeartbeats 20000000 in
set_option maxRecDepth 100000 in
theorem c_X3_answer (l : Launch) (D : va_G) (cI cZ cO : ClassId) (s_h : Nat) (sz : Nat) (os : Ob) (p0 : Int32) (q : Int32) (hF : F_X3_answer os p0 = some q) : CtI l yX3_answer wu_X3_answer rm_X3_answer D vwCl (tyL cI cZ cO) [.ref s_h, .int p0] (wm_X3_answer cI cZ cO s_h os) sz 0 0 (fun (r : Int32) (u : Unit) => r = q ∧ u = ()) (fun u => wm_X3_answer cI cZ cO s_h os) := by
  refine mk_i (cc := cX3_answer) (maxL := 2) (by decide) rfl (Nat.le_of_ble_eq_true rfl) ?_
  intro p e s m args below meth c A ls Q hx hb hml hown hts hin hK hP hD hS hA hl hQ
  have hl : lv_has ls 2 [(0, .ref s_h), (1, .int p0)] := hl
  unfold F_X3_answer at hF
  refine lv_iload_n hx hb dX3_answer_0 rfl (lv_at hl 1 rfl) ?_
  refine lv_if_ne (tgt := 11) hx hb dX3_answer_1 (by decide) (fun h1 => ?_) (fun h1 => ?_)
  · replace hF := of_f h1 hF
    refine lv_aload_n hx hb dX3_answer_11 rfl (lv_at hl 0 rfl) ?_
    refine va_get (D := D) (ci := 3) (v := .int (os 0 0)) (C := RX3) (T := TX3) (N := 2) hx hb hts in_X3 hown hK hP 0 rfl rfl 0 (by decide) (hts _ wd_203) (fun _ h9 => h9) rfl dX3_answer_12 ?_
    exact hQ _ _ _ _ _ () ⟨Option.some.inj hF, rfl⟩ hP hD hS dX3_answer_15
  · replace hF := of_t h1 hF
    refine lv_aload_n hx hb dX3_answer_4 rfl (lv_at hl 0 rfl) ?_
    refine va_get (D := D) (ci := 3) (v := .int (os 1 0)) (C := RX3) (T := TX3) (N := 2) hx hb hts in_X3 hown hK hP 0 rfl rfl 1 (by decide) (hts _ wd_205) (fun _ h9 => h9) rfl dX3_answer_5 ?_
    refine lv_goto (tgt := 15) hx hb dX3_answer_8 (by decide) ?_
    exact hQ _ _ _ _ _ () ⟨Option.some.inj hF, rfl⟩ hP hD hS dX3_answer_15
