/-! ### ThreeLegs$Crowd.hasRunner(I)Z -/
abbrev wm_X0_hasRunner (cI cZ cO : ClassId) (c_h c_0 c_1 c_2 c_3 : Nat) (oc : Ob) : va_W := [(c_h, .inr (0, [.ref c_0, .ref c_1, .ref c_2, .ref c_3, .int (oc 4 0), .int (oc 5 0), .int (oc 6 0)])), (c_0, .inl (cZ, 8, .inl (oc 0))), (c_1, .inl (cI, 8, .inl (oc 1))), (c_2, .inl (cI, 8, .inl (oc 2))), (c_3, .inl (cI, 8, .inl (oc 3)))]
def F_X0_hasRunner (oc : Ob) (p0 : Int32) : Option (Int32) :=
  (if p0 < 0 then some 0 else (if 8 ≤ p0 then some 0 else ck p0 8 ((if ((oc 0) (p0).toNatClampNeg) = 0 then some 0 else some 1))))
abbrev rm_X0_hasRunner : Room := { frames := 0, cells := 0, slots := 0, locals := 0 }
abbrev wu_X0_hasRunner : List Cond := .code yX0_hasRunner cX0_hasRunner 2 (some .boolean) :: lwG
set_option maxHeartbeats 20000000 in
set_option maxRecDepth 100000 in
theorem c_X0_hasRunner (l : Launch) (D : va_G) (cI cZ cO : ClassId) (c_h c_0 c_1 c_2 c_3 : Nat) (sz : Nat) (oc : Ob) (p0 : Int32) (q : Int32) (hF : F_X0_hasRunner oc p0 = some q) : CtI l yX0_hasRunner wu_X0_hasRunner rm_X0_hasRunner D vwCl (tyL cI cZ cO) [.ref c_h, .int p0] (wm_X0_hasRunner cI cZ cO c_h c_0 c_1 c_2 c_3 oc) sz 0 0 (fun (r : Int32) (u : Unit) => r = q ∧ u = ()) (fun u => wm_X0_hasRunner cI cZ cO c_h c_0 c_1 c_2 c_3 oc) := by
  refine mk_z (cc := cX0_hasRunner) (maxL := 2) (by decide) rfl (Nat.le_of_ble_eq_true rfl) ?_
  intro p e s m args below meth c A ls Q hx hb hml hown hts hin hK hP hD hS hA hl hQ
  have hl : lv_has ls 2 [(0, .ref c_h), (1, .int p0)] := hl
  unfold F_X0_hasRunner at hF
  refine lv_iload_n hx hb dX0_hasRunner_0 rfl (lv_at hl 1 rfl) ?_
  refine lv_if_lt (tgt := 23) hx hb dX0_hasRunner_1 (by decide) (fun h1 => ?_) (fun h1 => ?_)
  · replace hF := of_t h1 hF
    refine lv_iconst (v := 0) hx hb dX0_hasRunner_23 (by decide) ?_
    exact hQ _ _ _ _ _ () rfl ⟨Option.some.inj hF, rfl⟩ hP hD hS dX0_hasRunner_24
  · replace hF := of_f h1 hF
    refine lv_iload_n hx hb dX0_hasRunner_4 rfl (lv_at hl 1 rfl) ?_
    refine lv_bipush (v := 8) hx hb dX0_hasRunner_5 (by decide) ?_
    refine lv_icmp_ge (tgt := 23) hx hb dX0_hasRunner_7 (by decide) (fun h2 => ?_) (fun h2 => ?_)
    · replace hF := of_t h2 hF
      refine lv_iconst (v := 0) hx hb dX0_hasRunner_23 (by decide) ?_
      exact hQ _ _ _ _ _ () rfl ⟨Option.some.inj hF, rfl⟩ hP hD hS dX0_hasRunner_24
    · replace hF := of_f h2 hF
      refine lv_aload_n hx hb dX0_hasRunner_10 rfl (lv_at hl 0 rfl) ?_
      refine va_get (D := D) (ci := 0) (v := .ref c_0) (C := RX0) (T := TX0) (N := 7) hx hb hts in_X0 hown hK hP 0 rfl rfl 0 (by decide) (hts _ wd_57) (fun _ h9 => h9) rfl dX0_hasRunner_11 ?_
      refine lv_iload_n hx hb dX0_hasRunner_14 rfl (lv_at hl 1 rfl) ?_
      obtain ⟨h3, hF⟩ := of_ck hF
      refine va_zald (D := D) hx hb hK hP 1 1 rfl rfl h3 dX0_hasRunner_15 ?_
      refine lv_if_eq (tgt := 23) hx hb dX0_hasRunner_16 (by decide) (fun h4 => ?_) (fun h4 => ?_)
      · replace hF := of_t h4 hF
        refine lv_iconst (v := 0) hx hb dX0_hasRunner_23 (by decide) ?_
        exact hQ _ _ _ _ _ () rfl ⟨Option.some.inj hF, rfl⟩ hP hD hS dX0_hasRunner_24
      · replace hF := of_f h4 hF
        refine lv_iconst (v := 1) hx hb dX0_hasRunner_19 (by decide) ?_
        refine lv_goto (tgt := 24) hx hb dX0_hasRunner_20 (by decide) ?_
        exact hQ _ _ _ _ _ () rfl ⟨Option.some.inj hF, rfl⟩ hP hD hS dX0_hasRunner_24
/-! ### ThreeLegs$Crowd.canTie(II)Z -/
abbrev wm_X0_canTie (cI cZ cO : ClassId) (c_h c_0 c_1 c_2 c_3 : Nat) (oc : Ob) : va_W := [(c_h, .inr (0, [.ref c_0, .ref c_1, .ref c_2, .ref c_3, .int (oc 4 0), .int (oc 5 0), .int (oc 6 0)])), (c_0, .inl (cZ, 8, .inl (oc 0))), (c_1, .inl (cI, 8, .inl (oc 1))), (c_2, .inl (cI, 8, .inl (oc 2))), (c_3, .inl (cI, 8, .inl (oc 3)))]
def F_X0_canTie (oc : Ob) (p0 : Int32) (p1 : Int32) : Option (Int32) :=
  (if p0 = p1 then some 0 else (F_X0_hasRunner oc p0).bind (fun q2 => (if q2 = 0 then some 0 else (F_X0_hasRunner oc p1).bind (fun q4 => (if q4 = 0 then some 0 else some 1)))))
abbrev rm_X0_canTie : Room := { frames := 1, cells := 0, slots := 0, locals := 21 }
abbrev wu_X0_canTie : List Cond := .code yX0_canTie cX0_canTie 3 (some .boolean) :: lwG
set_option maxHeartbeats 20000000 in
set_option maxRecDepth 100000 in
theorem c_X0_canTie (l : Launch) (D : va_G) (cI cZ cO : ClassId) (c_h c_0 c_1 c_2 c_3 : Nat) (sz : Nat) (oc : Ob) (p0 : Int32) (p1 : Int32) (q : Int32) (hF : F_X0_canTie oc p0 p1 = some q) : CtI l yX0_canTie wu_X0_canTie rm_X0_canTie D vwCl (tyL cI cZ cO) [.ref c_h, .int p0, .int p1] (wm_X0_canTie cI cZ cO c_h c_0 c_1 c_2 c_3 oc) sz 0 0 (fun (r : Int32) (u : Unit) => r = q ∧ u = ()) (fun u => wm_X0_canTie cI cZ cO c_h c_0 c_1 c_2 c_3 oc) := by
  refine mk_z (cc := cX0_canTie) (maxL := 3) (by decide) rfl (Nat.le_of_ble_eq_true rfl) ?_
  intro p e s m args below meth c A ls Q hx hb hml hown hts hin hK hP hD hS hA hl hQ
  have hl : lv_has ls 3 [(0, .ref c_h), (1, .int p0), (2, .int p1)] := hl
  unfold F_X0_canTie at hF
  refine lv_iload_n hx hb dX0_canTie_0 rfl (lv_at hl 1 rfl) ?_
  refine lv_iload_n hx hb dX0_canTie_1 rfl (lv_at hl 2 rfl) ?_
  refine lv_icmp_eq (tgt := 25) hx hb dX0_canTie_2 (by decide) (fun h1 => ?_) (fun h1 => ?_)
  · replace hF := of_t h1 hF
    refine lv_iconst (v := 0) hx hb dX0_canTie_25 (by decide) ?_
    exact hQ _ _ _ _ _ () rfl ⟨Option.some.inj hF, rfl⟩ hP hD hS dX0_canTie_26
  · replace hF := of_f h1 hF
    refine lv_aload_n hx hb dX0_canTie_5 rfl (lv_at hl 0 rfl) ?_
    refine lv_iload_n hx hb dX0_canTie_6 rfl (lv_at hl 1 rfl) ?_
    obtain ⟨q2, hGq2, hF⟩ := of_bind hF
    refine callVi (As := [.int p0]) (rest := []) (wr := []) (WN := wm_X0_canTie cI cZ cO c_h c_0 c_1 c_2 c_3 oc) ⟨hx, hb, hml, hown, hts⟩ hK hP hD hS hA [0, 1, 2, 3, 4] [] [0, 1, 2, 3, 4] (c_X0_hasRunner l D cI cZ cO c_h c_0 c_1 c_2 c_3 _ oc p0 q2 hGq2) (cwV 1 hts (gV wd_273 wd_266 wd_267 wd_34 wd_268) rfl rfl rfl (by decide +kernel) ⟨Nat.le_of_ble_eq_true rfl, Nat.le_of_ble_eq_true rfl⟩) 0 0 rfl rfl rfl rfl rfl rfl rfl (by decide) rfl rfl rfl hl.1 rfl (Nat.le_of_ble_eq_true rfl) dX0_canTie_7 ⟨Nat.zero_le _, Nat.zero_le _⟩ (fun H locs hP hD hS => ?_)
    refine lv_if_eq (tgt := 25) hx hb dX0_canTie_10 (by decide) (fun h3 => ?_) (fun h3 => ?_)
    · replace hF := of_t h3 hF
      refine lv_iconst (v := 0) hx hb dX0_canTie_25 (by decide) ?_
      exact hQ _ _ _ _ _ () rfl ⟨Option.some.inj hF, rfl⟩ hP hD hS dX0_canTie_26
    · replace hF := of_f h3 hF
      refine lv_aload_n hx hb dX0_canTie_13 rfl (lv_at hl 0 rfl) ?_
      refine lv_iload_n hx hb dX0_canTie_14 rfl (lv_at hl 2 rfl) ?_
      obtain ⟨q4, hGq4, hF⟩ := of_bind hF
      refine callVi (As := [.int p1]) (rest := []) (wr := []) (WN := wm_X0_canTie cI cZ cO c_h c_0 c_1 c_2 c_3 oc) ⟨hx, hb, hml, hown, hts⟩ hK hP hD hS hA [0, 1, 2, 3, 4] [] [0, 1, 2, 3, 4] (c_X0_hasRunner l D cI cZ cO c_h c_0 c_1 c_2 c_3 _ oc p1 q4 hGq4) (cwV 1 hts (gV wd_273 wd_266 wd_267 wd_34 wd_268) rfl rfl rfl (by decide +kernel) ⟨Nat.le_of_ble_eq_true rfl, Nat.le_of_ble_eq_true rfl⟩) 0 0 rfl rfl rfl rfl rfl rfl rfl (by decide) rfl rfl rfl hl.1 rfl (Nat.le_of_ble_eq_true rfl) dX0_canTie_15 ⟨Nat.zero_le _, Nat.zero_le _⟩ (fun H locs hP hD hS => ?_)
      refine lv_if_eq (tgt := 25) hx hb dX0_canTie_18 (by decide) (fun h5 => ?_) (fun h5 => ?_)
      · replace hF := of_t h5 hF
        refine lv_iconst (v := 0) hx hb dX0_canTie_25 (by decide) ?_
        exact hQ _ _ _ _ _ () rfl ⟨Option.some.inj hF, rfl⟩ hP hD hS dX0_canTie_26
      · replace hF := of_f h5 hF
        refine lv_iconst (v := 1) hx hb dX0_canTie_21 (by decide) ?_
        refine lv_goto (tgt := 26) hx hb dX0_canTie_22 (by decide) ?_
        exact hQ _ _ _ _ _ () rfl ⟨Option.some.inj hF, rfl⟩ hP hD hS dX0_canTie_26
/-! ### ThreeLegs$Walk.apart()I -/
abbrev wm_X4_apart (cI cZ cO : ClassId) (w_h : Nat) (ow : Ob) : va_W := [(w_h, .inr (4, [.int (ow 0 0), .int (ow 1 0), .int (ow 2 0), .int (ow 3 0), .int (ow 4 0), .int (ow 5 0), .int (ow 6 0), .int (ow 7 0), .int (ow 8 0), .int (ow 9 0), .int (ow 10 0), .int (ow 11 0), .int (ow 12 0), .int (ow 13 0), .int (ow 14 0), .int (ow 15 0)]))]
def F_X4_apart (ow : Ob)  : Option (Int32) :=
  dd ((ow 8 0) - (ow 9 0)) (fun (v1 : Int32) => dd (if 0 ≤ v1 then v1 else 0 - v1) (fun (v2 : Int32) => some v2))
abbrev rm_X4_apart : Room := { frames := 1, cells := 0, slots := 0, locals := 21 }
abbrev wu_X4_apart : List Cond := .code yX4_apart cX4_apart 1 (some .int) :: lwG
set_option maxHeartbeats 20000000 in
set_option maxRecDepth 100000 in
theorem c_X4_apart (l : Launch) (D : va_G) (cI cZ cO : ClassId) (w_h : Nat) (sz : Nat) (ow : Ob)  (q : Int32) (hF : F_X4_apart ow = some q) : CtI l yX4_apart wu_X4_apart rm_X4_apart D vwCl (tyL cI cZ cO) [.ref w_h] (wm_X4_apart cI cZ cO w_h ow) sz 0 0 (fun (r : Int32) (u : Unit) => r = q ∧ u = ()) (fun u => wm_X4_apart cI cZ cO w_h ow) := by
  refine mk_i (cc := cX4_apart) (maxL := 1) (by decide) rfl (Nat.le_of_ble_eq_true rfl) ?_
  intro p e s m args below meth c A ls Q hx hb hml hown hts hin hK hP hD hS hA hl hQ
  have hl : lv_has ls 1 [(0, .ref w_h)] := hl
  unfold F_X4_apart at hF
  refine lv_aload_n hx hb dX4_apart_0 rfl (lv_at hl 0 rfl) ?_
  refine va_get (D := D) (ci := 4) (v := .int (ow 8 0)) (C := RX4) (T := TX4) (N := 16) hx hb hts in_X4 hown hK hP 0 rfl rfl 8 (by decide) (hts _ wd_123) (fun _ h9 => h9) rfl dX4_apart_1 ?_
  refine lv_aload_n hx hb dX4_apart_4 rfl (lv_at hl 0 rfl) ?_
  refine va_get (D := D) (ci := 4) (v := .int (ow 9 0)) (C := RX4) (T := TX4) (N := 16) hx hb hts in_X4 hown hK hP 0 rfl rfl 9 (by decide) (hts _ wd_124) (fun _ h9 => h9) rfl dX4_apart_5 ?_
  refine lv_isub hx hb dX4_apart_8 ?_
  refine lv_topi (fun v1 ev1 => ?_)
  replace hF := of_dd hF v1 ev1
  refine va_mabs hx hb (hml.trans hl.1.symm) hown (hts _ wd_317) (hts _ wd_318) (hts _ wd_41) (hts _ wd_319) (Nat.le_of_ble_eq_true rfl) (Nat.le_of_ble_eq_true rfl) (Nat.zero_le _) (Nat.zero_le _) dX4_apart_9 ?_
  refine lv_topi (fun v2 ev2 => ?_)
  replace hF := of_dd hF v2 ev2
  exact hQ _ _ _ _ _ () ⟨Option.some.inj hF, rfl⟩ hP hD hS dX4_apart_12
/-! ### ThreeLegs$Walk.speedUp()V -/
abbrev wm_X4_speedUp (cI cZ cO : ClassId) (w_h : Nat) (ow : Ob) : va_W := [(w_h, .inr (4, [.int (ow 0 0), .int (ow 1 0), .int (ow 2 0), .int (ow 3 0), .int (ow 4 0), .int (ow 5 0), .int (ow 6 0), .int (ow 7 0), .int (ow 8 0), .int (ow 9 0), .int (ow 10 0), .int (ow 11 0), .int (ow 12 0), .int (ow 13 0), .int (ow 14 0), .int (ow 15 0)]))]
def F_X4_speedUp (ow : Ob)  : Option (Ob) :=
  dd ((ow 0 0) - 1) (fun (v1 : Int32) => dd (if (4 : Int32) < v1 then v1 else (4 : Int32)) (fun (v2 : Int32) => dd (sO ow 0 (cst v2)) (fun (ow3 : Ob) => dd ((ow3 1 0) - 1) (fun (v4 : Int32) => dd (if (4 : Int32) < v4 then v4 else (4 : Int32)) (fun (v5 : Int32) => dd (sO ow3 1 (cst v5)) (fun (ow6 : Ob) => some ow6))))))
abbrev rm_X4_speedUp : Room := { frames := 1, cells := 0, slots := 0, locals := 21 }
abbrev wu_X4_speedUp : List Cond := .code yX4_speedUp cX4_speedUp 1 none :: lwG
set_option maxHeartbeats 20000000 in
set_option maxRecDepth 100000 in
theorem c_X4_speedUp (l : Launch) (D : va_G) (cI cZ cO : ClassId) (w_h : Nat) (sz : Nat) (ow : Ob)  (q : Ob) (hF : F_X4_speedUp ow = some q) : CtV l yX4_speedUp wu_X4_speedUp rm_X4_speedUp D vwCl (tyL cI cZ cO) [.ref w_h] (wm_X4_speedUp cI cZ cO w_h ow) sz 0 0 (fun u : Ob => u = q) (fun u => wm_X4_speedUp cI cZ cO w_h u) := by
  refine mk_v (cc := cX4_speedUp) (maxL := 1) (by decide) rfl (Nat.le_of_ble_eq_true rfl) ?_
  intro p e s m args below meth c A ls Q hx hb hml hown hts hin hK hP hD hS hA hl hQ
  have hl : lv_has ls 1 [(0, .ref w_h)] := hl
  unfold F_X4_speedUp at hF
  refine lv_aload_n hx hb dX4_speedUp_0 rfl (lv_at hl 0 rfl) ?_
  refine lv_iconst (v := 4) hx hb dX4_speedUp_1 (by decide) ?_
  refine lv_aload_n hx hb dX4_speedUp_2 rfl (lv_at hl 0 rfl) ?_
  refine va_get (D := D) (ci := 4) (v := .int (ow 0 0)) (C := RX4) (T := TX4) (N := 16) hx hb hts in_X4 hown hK hP 0 rfl rfl 0 (by decide) (hts _ wd_114) (fun _ h9 => h9) rfl dX4_speedUp_3 ?_
  refine lv_iconst (v := 1) hx hb dX4_speedUp_6 (by decide) ?_
  refine lv_isub hx hb dX4_speedUp_7 ?_
  refine lv_topi (fun v1 ev1 => ?_)
  replace hF := of_dd hF v1 ev1
  refine va_mmax hx hb (hml.trans hl.1.symm) hown (hts _ wd_310) (hts _ wd_311) (hts _ wd_41) (hts _ wd_312) (Nat.le_of_ble_eq_true rfl) (Nat.le_of_ble_eq_true rfl) (Nat.zero_le _) (Nat.zero_le _) dX4_speedUp_8 ?_
  refine lv_topi (fun v2 ev2 => ?_)
  replace hF := of_dd hF v2 ev2
  refine va_put (D := D) (ci := 4) (v := .int v2) (ty := .int) (C := RX4) (T := TX4) (N := 16) hx hb hts in_X4 tyX4 tyX4_ok nmX4 hown hK hP hD hS 0 rfl rfl 0 (by decide) (hts _ wd_114) (fun _ h9 => h9) rfl (tyX4_ok 0 (by decide)) rfl rfl (Nat.le_of_ble_eq_true rfl) dX4_speedUp_11 (fun H locs hP hD hS => ?_)
  obtain ⟨ow3, hF, hP, hD⟩ := nm_o (P := fun y => va_P D vwCl (wm_X4_speedUp cI cZ cO w_h y) _) (B := fun y => va_D A (wm_X4_speedUp cI cZ cO w_h y)) hF hP hD
  refine lv_aload_n hx hb dX4_speedUp_14 rfl (lv_at hl 0 rfl) ?_
  refine lv_iconst (v := 4) hx hb dX4_speedUp_15 (by decide) ?_
  refine lv_aload_n hx hb dX4_speedUp_16 rfl (lv_at hl 0 rfl) ?_
  refine va_get (D := D) (ci := 4) (v := .int (ow3 1 0)) (C := RX4) (T := TX4) (N := 16) hx hb hts in_X4 hown hK hP 0 rfl rfl 1 (by decide) (hts _ wd_115) (fun _ h9 => h9) rfl dX4_speedUp_17 ?_
  refine lv_iconst (v := 1) hx hb dX4_speedUp_20 (by decide) ?_
  refine lv_isub hx hb dX4_speedUp_21 ?_
  refine lv_topi (fun v4 ev4 => ?_)
  replace hF := of_dd hF v4 ev4
  refine va_mmax hx hb (hml.trans hl.1.symm) hown (hts _ wd_310) (hts _ wd_311) (hts _ wd_41) (hts _ wd_312) (Nat.le_of_ble_eq_true rfl) (Nat.le_of_ble_eq_true rfl) (Nat.zero_le _) (Nat.zero_le _) dX4_speedUp_22 ?_
  refine lv_topi (fun v5 ev5 => ?_)
  replace hF := of_dd hF v5 ev5
  refine va_put (D := D) (ci := 4) (v := .int v5) (ty := .int) (C := RX4) (T := TX4) (N := 16) hx hb hts in_X4 tyX4 tyX4_ok nmX4 hown hK hP hD hS 0 rfl rfl 1 (by decide) (hts _ wd_115) (fun _ h9 => h9) rfl (tyX4_ok 1 (by decide)) rfl rfl (Nat.le_of_ble_eq_true rfl) dX4_speedUp_25 (fun H locs hP hD hS => ?_)
  obtain ⟨ow6, hF, hP, hD⟩ := nm_o (P := fun y => va_P D vwCl (wm_X4_speedUp cI cZ cO w_h y) _) (B := fun y => va_D A (wm_X4_speedUp cI cZ cO w_h y)) hF hP hD
  exact hQ _ _ _ _ ow6 (Option.some.inj hF) hP hD hS dX4_speedUp_28
/-! ### ThreeLegs$Walk.time()I -/
abbrev wm_X4_time (cI cZ cO : ClassId) (w_h : Nat) (ow : Ob) : va_W := [(w_h, .inr (4, [.int (ow 0 0), .int (ow 1 0), .int (ow 2 0), .int (ow 3 0), .int (ow 4 0), .int (ow 5 0), .int (ow 6 0), .int (ow 7 0), .int (ow 8 0), .int (ow 9 0), .int (ow 10 0), .int (ow 11 0), .int (ow 12 0), .int (ow 13 0), .int (ow 14 0), .int (ow 15 0)]))]
def F_X4_time (ow : Ob)  : Option (Int32) :=
  dd (if (ow 8 0) < (ow 9 0) then (ow 9 0) else (ow 8 0)) (fun (v1 : Int32) => some v1)
abbrev rm_X4_time : Room := { frames := 1, cells := 0, slots := 0, locals := 21 }
abbrev wu_X4_time : List Cond := .code yX4_time cX4_time 1 (some .int) :: lwG
set_option maxHeartbeats 20000000 in
set_option maxRecDepth 100000 in
theorem c_X4_time (l : Launch) (D : va_G) (cI cZ cO : ClassId) (w_h : Nat) (sz : Nat) (ow : Ob)  (q : Int32) (hF : F_X4_time ow = some q) : CtI l yX4_time wu_X4_time rm_X4_time D vwCl (tyL cI cZ cO) [.ref w_h] (wm_X4_time cI cZ cO w_h ow) sz 0 0 (fun (r : Int32) (u : Unit) => r = q ∧ u = ()) (fun u => wm_X4_time cI cZ cO w_h ow) := by
  refine mk_i (cc := cX4_time) (maxL := 1) (by decide) rfl (Nat.le_of_ble_eq_true rfl) ?_
  intro p e s m args below meth c A ls Q hx hb hml hown hts hin hK hP hD hS hA hl hQ
  have hl : lv_has ls 1 [(0, .ref w_h)] := hl
  unfold F_X4_time at hF
  refine lv_aload_n hx hb dX4_time_0 rfl (lv_at hl 0 rfl) ?_
  refine va_get (D := D) (ci := 4) (v := .int (ow 8 0)) (C := RX4) (T := TX4) (N := 16) hx hb hts in_X4 hown hK hP 0 rfl rfl 8 (by decide) (hts _ wd_123) (fun _ h9 => h9) rfl dX4_time_1 ?_
  refine lv_aload_n hx hb dX4_time_4 rfl (lv_at hl 0 rfl) ?_
  refine va_get (D := D) (ci := 4) (v := .int (ow 9 0)) (C := RX4) (T := TX4) (N := 16) hx hb hts in_X4 hown hK hP 0 rfl rfl 9 (by decide) (hts _ wd_124) (fun _ h9 => h9) rfl dX4_time_5 ?_
  refine va_mmax hx hb (hml.trans hl.1.symm) hown (hts _ wd_310) (hts _ wd_311) (hts _ wd_41) (hts _ wd_312) (Nat.le_of_ble_eq_true rfl) (Nat.le_of_ble_eq_true rfl) (Nat.zero_le _) (Nat.zero_le _) dX4_time_8 ?_
  refine lv_topi (fun v1 ev1 => ?_)
  replace hF := of_dd hF v1 ev1
  exact hQ _ _ _ _ _ () ⟨Option.some.inj hF, rfl⟩ hP hD hS dX4_time_11
/-! ### ThreeLegs$Walk.step()V -/
abbrev wm_X4_step (cI cZ cO : ClassId) (w_h : Nat) (ow : Ob) : va_W := [(w_h, .inr (4, [.int (ow 0 0), .int (ow 1 0), .int (ow 2 0), .int (ow 3 0), .int (ow 4 0), .int (ow 5 0), .int (ow 6 0), .int (ow 7 0), .int (ow 8 0), .int (ow 9 0), .int (ow 10 0), .int (ow 11 0), .int (ow 12 0), .int (ow 13 0), .int (ow 14 0), .int (ow 15 0)]))]
def F_X4_step (ow : Ob)  : Option (Ob) :=
  dd ((ow 9 0) - (ow 8 0)) (fun (v1 : Int32) => dd ((ow 2 0) * v1) (fun (v2 : Int32) => dd (v2 / 4) (fun (v3 : Int32) => dd ((ow 0 0) + v3) (fun (v4 : Int32) => dd (if (1 : Int32) < v4 then v4 else (1 : Int32)) (fun (v5 : Int32) => dd ((ow 8 0) + v5) (fun (v6 : Int32) => dd ((ow 8 0) - (ow 9 0)) (fun (v7 : Int32) => dd ((ow 3 0) * v7) (fun (v8 : Int32) => dd (v8 / 4) (fun (v9 : Int32) => dd ((ow 1 0) + v9) (fun (v10 : Int32) => dd (if (1 : Int32) < v10 then v10 else (1 : Int32)) (fun (v11 : Int32) => dd ((ow 9 0) + v11) (fun (v12 : Int32) => dd (sO ow 8 (cst v6)) (fun (ow13 : Ob) => dd (sO ow13 9 (cst v12)) (fun (ow14 : Ob) => jn (fun (v16 : Int32) => gz v16 (dd (sO ow14 15 (cst v16)) (fun (ow18 : Ob) => dd ((ow18 10 0) + 1) (fun (v19 : Int32) => dd (sO ow18 10 (cst v19)) (fun (ow20 : Ob) => (F_X4_apart ow20).bind (fun q21 => (if q21 ≤ (ow20 6 0) then (F_X4_apart ow20).bind (fun q23 => (if q23 ≤ (ow20 5 0) then dd ((ow20 11 0) + (ow20 4 0)) (fun (v25 : Int32) => dd (sO ow20 11 (cst v25)) (fun (ow26 : Ob) => dd (sO ow26 14 (cst 115)) (fun (ow27 : Ob) => some ow27))) else dd ((ow20 12 0) + 1) (fun (v28 : Int32) => dd (sO ow20 12 (cst v28)) (fun (ow29 : Ob) => dd (sO ow29 14 (cst 108)) (fun (ow30 : Ob) => some ow30))))) else dd ((ow20 13 0) + 1) (fun (v31 : Int32) => dd (sO ow20 13 (cst v31)) (fun (ow32 : Ob) => dd (sO ow32 14 (cst 102)) (fun (ow33 : Ob) => dd (if v6 < v12 then v12 else v6) (fun (v34 : Int32) => dd (v34 + (ow33 7 0)) (fun (v35 : Int32) => dd (sO ow33 8 (cst v35)) (fun (ow36 : Ob) => dd (sO ow36 9 (cst (ow36 8 0))) (fun (ow37 : Ob) => some ow37)))))))))))))) (fun (K15 : Int32 → Option (Ob)) => (if v12 ≤ v6 then K15 0 else K15 1))))))))))))))))
abbrev rm_X4_step : Room := { frames := 2, cells := 0, slots := 0, locals := 41 }
abbrev wu_X4_step : List Cond := .code yX4_step cX4_step 3 none :: lwG
set_option maxHeartbeats 20000000 in
set_option maxRecDepth 100000 in
theorem c_X4_step (l : Launch) (D : va_G) (cI cZ cO : ClassId) (w_h : Nat) (sz : Nat) (ow : Ob)  (q : Ob) (hF : F_X4_step ow = some q) : CtV l yX4_step wu_X4_step rm_X4_step D vwCl (tyL cI cZ cO) [.ref w_h] (wm_X4_step cI cZ cO w_h ow) sz 0 0 (fun u : Ob => u = q) (fun u => wm_X4_step cI cZ cO w_h u) := by
  refine mk_v (cc := cX4_step) (maxL := 3) (by decide) rfl (Nat.le_of_ble_eq_true rfl) ?_
  intro p e s m args below meth c A ls Q hx hb hml hown hts hin hK hP hD hS hA hl hQ
  have hl : lv_has ls 3 [(0, .ref w_h)] := hl
  unfold F_X4_step at hF
  refine lv_aload_n hx hb dX4_step_0 rfl (lv_at hl 0 rfl) ?_
  refine va_get (D := D) (ci := 4) (v := .int (ow 8 0)) (C := RX4) (T := TX4) (N := 16) hx hb hts in_X4 hown hK hP 0 rfl rfl 8 (by decide) (hts _ wd_123) (fun _ h9 => h9) rfl dX4_step_1 ?_
  refine lv_iconst (v := 1) hx hb dX4_step_4 (by decide) ?_
  refine lv_aload_n hx hb dX4_step_5 rfl (lv_at hl 0 rfl) ?_
  refine va_get (D := D) (ci := 4) (v := .int (ow 0 0)) (C := RX4) (T := TX4) (N := 16) hx hb hts in_X4 hown hK hP 0 rfl rfl 0 (by decide) (hts _ wd_114) (fun _ h9 => h9) rfl dX4_step_6 ?_
  refine lv_aload_n hx hb dX4_step_9 rfl (lv_at hl 0 rfl) ?_
  refine va_get (D := D) (ci := 4) (v := .int (ow 2 0)) (C := RX4) (T := TX4) (N := 16) hx hb hts in_X4 hown hK hP 0 rfl rfl 2 (by decide) (hts _ wd_116) (fun _ h9 => h9) rfl dX4_step_10 ?_
  refine lv_aload_n hx hb dX4_step_13 rfl (lv_at hl 0 rfl) ?_
  refine va_get (D := D) (ci := 4) (v := .int (ow 9 0)) (C := RX4) (T := TX4) (N := 16) hx hb hts in_X4 hown hK hP 0 rfl rfl 9 (by decide) (hts _ wd_124) (fun _ h9 => h9) rfl dX4_step_14 ?_
  refine lv_aload_n hx hb dX4_step_17 rfl (lv_at hl 0 rfl) ?_
  refine va_get (D := D) (ci := 4) (v := .int (ow 8 0)) (C := RX4) (T := TX4) (N := 16) hx hb hts in_X4 hown hK hP 0 rfl rfl 8 (by decide) (hts _ wd_123) (fun _ h9 => h9) rfl dX4_step_18 ?_
  refine lv_isub hx hb dX4_step_21 ?_
  refine lv_topi (fun v1 ev1 => ?_)
  replace hF := of_dd hF v1 ev1
  refine lv_imul hx hb dX4_step_22 ?_
  refine lv_topi (fun v2 ev2 => ?_)
  replace hF := of_dd hF v2 ev2
  refine lv_iconst (v := 4) hx hb dX4_step_23 (by decide) ?_
  refine lv_idiv hx hb dX4_step_24 (by decide) ?_
  refine lv_topi (fun v3 ev3 => ?_)
  replace hF := of_dd hF v3 ev3
  refine lv_iadd hx hb dX4_step_25 ?_
  refine lv_topi (fun v4 ev4 => ?_)
  replace hF := of_dd hF v4 ev4
  refine va_mmax hx hb (hml.trans hl.1.symm) hown (hts _ wd_310) (hts _ wd_311) (hts _ wd_41) (hts _ wd_312) (Nat.le_of_ble_eq_true rfl) (Nat.le_of_ble_eq_true rfl) (Nat.zero_le _) (Nat.zero_le _) dX4_step_26 ?_
  refine lv_topi (fun v5 ev5 => ?_)
  replace hF := of_dd hF v5 ev5
  refine lv_iadd hx hb dX4_step_29 ?_
  refine lv_topi (fun v6 ev6 => ?_)
  replace hF := of_dd hF v6 ev6
  refine lv_istore_n (lv' := [(1, .int v6), (0, .ref w_h)]) hx hb dX4_step_30 rfl hl (by decide) rfl (fun ls hl => ?_)
  refine lv_aload_n hx hb dX4_step_31 rfl (lv_at hl 1 rfl) ?_
  refine va_get (D := D) (ci := 4) (v := .int (ow 9 0)) (C := RX4) (T := TX4) (N := 16) hx hb hts in_X4 hown hK hP 0 rfl rfl 9 (by decide) (hts _ wd_124) (fun _ h9 => h9) rfl dX4_step_32 ?_
  refine lv_iconst (v := 1) hx hb dX4_step_35 (by decide) ?_
  refine lv_aload_n hx hb dX4_step_36 rfl (lv_at hl 1 rfl) ?_
  refine va_get (D := D) (ci := 4) (v := .int (ow 1 0)) (C := RX4) (T := TX4) (N := 16) hx hb hts in_X4 hown hK hP 0 rfl rfl 1 (by decide) (hts _ wd_115) (fun _ h9 => h9) rfl dX4_step_37 ?_
  refine lv_aload_n hx hb dX4_step_40 rfl (lv_at hl 1 rfl) ?_
  refine va_get (D := D) (ci := 4) (v := .int (ow 3 0)) (C := RX4) (T := TX4) (N := 16) hx hb hts in_X4 hown hK hP 0 rfl rfl 3 (by decide) (hts _ wd_117) (fun _ h9 => h9) rfl dX4_step_41 ?_
  refine lv_aload_n hx hb dX4_step_44 rfl (lv_at hl 1 rfl) ?_
  refine va_get (D := D) (ci := 4) (v := .int (ow 8 0)) (C := RX4) (T := TX4) (N := 16) hx hb hts in_X4 hown hK hP 0 rfl rfl 8 (by decide) (hts _ wd_123) (fun _ h9 => h9) rfl dX4_step_45 ?_
  refine lv_aload_n hx hb dX4_step_48 rfl (lv_at hl 1 rfl) ?_
  refine va_get (D := D) (ci := 4) (v := .int (ow 9 0)) (C := RX4) (T := TX4) (N := 16) hx hb hts in_X4 hown hK hP 0 rfl rfl 9 (by decide) (hts _ wd_124) (fun _ h9 => h9) rfl dX4_step_49 ?_
  refine lv_isub hx hb dX4_step_52 ?_
  refine lv_topi (fun v7 ev7 => ?_)
  replace hF := of_dd hF v7 ev7
  refine lv_imul hx hb dX4_step_53 ?_
  refine lv_topi (fun v8 ev8 => ?_)
  replace hF := of_dd hF v8 ev8
  refine lv_iconst (v := 4) hx hb dX4_step_54 (by decide) ?_
  refine lv_idiv hx hb dX4_step_55 (by decide) ?_
  refine lv_topi (fun v9 ev9 => ?_)
  replace hF := of_dd hF v9 ev9
  refine lv_iadd hx hb dX4_step_56 ?_
  refine lv_topi (fun v10 ev10 => ?_)
  replace hF := of_dd hF v10 ev10
  refine va_mmax hx hb (hml.trans hl.1.symm) hown (hts _ wd_310) (hts _ wd_311) (hts _ wd_41) (hts _ wd_312) (Nat.le_of_ble_eq_true rfl) (Nat.le_of_ble_eq_true rfl) (Nat.zero_le _) (Nat.zero_le _) dX4_step_57 ?_
  refine lv_topi (fun v11 ev11 => ?_)
  replace hF := of_dd hF v11 ev11
  refine lv_iadd hx hb dX4_step_60 ?_
  refine lv_topi (fun v12 ev12 => ?_)
  replace hF := of_dd hF v12 ev12
  refine lv_istore_n (lv' := [(2, .int v12), (1, .int v6), (0, .ref w_h)]) hx hb dX4_step_61 rfl hl (by decide) rfl (fun ls hl => ?_)
  refine lv_aload_n hx hb dX4_step_62 rfl (lv_at hl 2 rfl) ?_
  refine lv_iload_n hx hb dX4_step_63 rfl (lv_at hl 1 rfl) ?_
  refine va_put (D := D) (ci := 4) (v := .int v6) (ty := .int) (C := RX4) (T := TX4) (N := 16) hx hb hts in_X4 tyX4 tyX4_ok nmX4 hown hK hP hD hS 0 rfl rfl 8 (by decide) (hts _ wd_123) (fun _ h9 => h9) rfl (tyX4_ok 8 (by decide)) rfl rfl (Nat.le_of_ble_eq_true rfl) dX4_step_64 (fun H locs hP hD hS => ?_)
  obtain ⟨ow13, hF, hP, hD⟩ := nm_o (P := fun y => va_P D vwCl (wm_X4_step cI cZ cO w_h y) _) (B := fun y => va_D A (wm_X4_step cI cZ cO w_h y)) hF hP hD
  refine lv_aload_n hx hb dX4_step_67 rfl (lv_at hl 2 rfl) ?_
  refine lv_iload_n hx hb dX4_step_68 rfl (lv_at hl 0 rfl) ?_
  refine va_put (D := D) (ci := 4) (v := .int v12) (ty := .int) (C := RX4) (T := TX4) (N := 16) hx hb hts in_X4 tyX4 tyX4_ok nmX4 hown hK hP hD hS 0 rfl rfl 9 (by decide) (hts _ wd_124) (fun _ h9 => h9) rfl (tyX4_ok 9 (by decide)) rfl rfl (Nat.le_of_ble_eq_true rfl) dX4_step_69 (fun H locs hP hD hS => ?_)
  obtain ⟨ow14, hF, hP, hD⟩ := nm_o (P := fun y => va_P D vwCl (wm_X4_step cI cZ cO w_h y) _) (B := fun y => va_D A (wm_X4_step cI cZ cO w_h y)) hF hP hD
  refine lv_aload_n hx hb dX4_step_72 rfl (lv_at hl 2 rfl) ?_
  refine lv_iload_n hx hb dX4_step_73 rfl (lv_at hl 1 rfl) ?_
  refine lv_iload_n hx hb dX4_step_74 rfl (lv_at hl 0 rfl) ?_
  obtain ⟨K15, eK15, hF⟩ := of_jn hF
  have hK15 : ∀ (v16 : Int32) (ls : Array Slot) (H : Heap) (locs : List Loc), lv_has ls 3 [(0, .ref w_h), (1, .int v6), (2, .int v12)] → va_P D vwCl (wm_X4_step cI cZ cO w_h ow14) H → va_D A (wm_X4_step cI cZ cO w_h ow14) → va_S A s.heap H locs → K15 v16 = some q → W p l e rm_X4_step s m args below meth c H locs 0 0 Q (F0 m 83 ls [.int v16, .ref w_h]) := by
    intro v16 ls H locs hl hP hD hS hF
    subst eK15
    obtain ⟨hz17, hF⟩ := of_gz hF
    refine va_put (D := D) (ci := 4) (v := .int v16) (ty := .boolean) (C := RX4) (T := TX4) (N := 16) hx hb hts in_X4 tyX4 tyX4_ok nmX4 hown hK hP hD hS 0 rfl rfl 15 (by decide) (hts _ wd_135) (fun _ h9 => h9) rfl (tyX4_ok 15 (by decide)) hz17.1 hz17.2 (Nat.le_of_ble_eq_true rfl) dX4_step_83 (fun H locs hP hD hS => ?_)
    obtain ⟨ow18, hF, hP, hD⟩ := nm_o (P := fun y => va_P D vwCl (wm_X4_step cI cZ cO w_h y) _) (B := fun y => va_D A (wm_X4_step cI cZ cO w_h y)) hF hP hD
    refine lv_aload_n hx hb dX4_step_86 rfl (lv_at hl 0 rfl) ?_
    refine lv_dup hx hb dX4_step_87 rfl ?_
    refine va_get (D := D) (ci := 4) (v := .int (ow18 10 0)) (C := RX4) (T := TX4) (N := 16) hx hb hts in_X4 hown hK hP 0 rfl rfl 10 (by decide) (hts _ wd_125) (fun _ h9 => h9) rfl dX4_step_88 ?_
    refine lv_iconst (v := 1) hx hb dX4_step_91 (by decide) ?_
    refine lv_iadd hx hb dX4_step_92 ?_
    refine lv_topi (fun v19 ev19 => ?_)
    replace hF := of_dd hF v19 ev19
    refine va_put (D := D) (ci := 4) (v := .int v19) (ty := .int) (C := RX4) (T := TX4) (N := 16) hx hb hts in_X4 tyX4 tyX4_ok nmX4 hown hK hP hD hS 0 rfl rfl 10 (by decide) (hts _ wd_125) (fun _ h9 => h9) rfl (tyX4_ok 10 (by decide)) rfl rfl (Nat.le_of_ble_eq_true rfl) dX4_step_93 (fun H locs hP hD hS => ?_)
    obtain ⟨ow20, hF, hP, hD⟩ := nm_o (P := fun y => va_P D vwCl (wm_X4_step cI cZ cO w_h y) _) (B := fun y => va_D A (wm_X4_step cI cZ cO w_h y)) hF hP hD
    refine lv_aload_n hx hb dX4_step_96 rfl (lv_at hl 0 rfl) ?_
    obtain ⟨q21, hGq21, hF⟩ := of_bind hF
    refine callVi (As := []) (rest := []) (wr := []) (WN := wm_X4_step cI cZ cO w_h ow20) ⟨hx, hb, hml, hown, hts⟩ hK hP hD hS hA [0] [] [0] (c_X4_apart l D cI cZ cO w_h _ ow20 q21 hGq21) (cwV 0 hts (gV wd_313 wd_314 wd_315 wd_36 wd_316) rfl rfl rfl (by decide +kernel) ⟨Nat.le_of_ble_eq_true rfl, Nat.le_of_ble_eq_true rfl⟩) 0 4 rfl rfl rfl rfl rfl rfl rfl (by decide) rfl rfl rfl hl.1 rfl (Nat.le_of_ble_eq_true rfl) dX4_step_97 ⟨Nat.zero_le _, Nat.zero_le _⟩ (fun H locs hP hD hS => ?_)
    refine lv_aload_n hx hb dX4_step_100 rfl (lv_at hl 0 rfl) ?_
    refine va_get (D := D) (ci := 4) (v := .int (ow20 6 0)) (C := RX4) (T := TX4) (N := 16) hx hb hts in_X4 hown hK hP 0 rfl rfl 6 (by decide) (hts _ wd_121) (fun _ h9 => h9) rfl dX4_step_101 ?_
    refine lv_icmp_le (tgt := 148) hx hb dX4_step_104 (by decide) (fun h22 => ?_) (fun h22 => ?_)
    · replace hF := of_t h22 hF
      refine lv_aload_n hx hb dX4_step_148 rfl (lv_at hl 0 rfl) ?_
      obtain ⟨q23, hGq23, hF⟩ := of_bind hF
      refine callVi (As := []) (rest := []) (wr := []) (WN := wm_X4_step cI cZ cO w_h ow20) ⟨hx, hb, hml, hown, hts⟩ hK hP hD hS hA [0] [] [0] (c_X4_apart l D cI cZ cO w_h _ ow20 q23 hGq23) (cwV 0 hts (gV wd_313 wd_314 wd_315 wd_36 wd_316) rfl rfl rfl (by decide +kernel) ⟨Nat.le_of_ble_eq_true rfl, Nat.le_of_ble_eq_true rfl⟩) 0 4 rfl rfl rfl rfl rfl rfl rfl (by decide) rfl rfl rfl hl.1 rfl (Nat.le_of_ble_eq_true rfl) dX4_step_149 ⟨Nat.zero_le _, Nat.zero_le _⟩ (fun H locs hP hD hS => ?_)
      refine lv_aload_n hx hb dX4_step_152 rfl (lv_at hl 0 rfl) ?_
      refine va_get (D := D) (ci := 4) (v := .int (ow20 5 0)) (C := RX4) (T := TX4) (N := 16) hx hb hts in_X4 hown hK hP 0 rfl rfl 5 (by decide) (hts _ wd_119) (fun _ h9 => h9) rfl dX4_step_153 ?_
      refine lv_icmp_le (tgt := 178) hx hb dX4_step_156 (by decide) (fun h24 => ?_) (fun h24 => ?_)
      · replace hF := of_t h24 hF
        refine lv_aload_n hx hb dX4_step_178 rfl (lv_at hl 0 rfl) ?_
        refine lv_dup hx hb dX4_step_179 rfl ?_
        refine va_get (D := D) (ci := 4) (v := .int (ow20 11 0)) (C := RX4) (T := TX4) (N := 16) hx hb hts in_X4 hown hK hP 0 rfl rfl 11 (by decide) (hts _ wd_127) (fun _ h9 => h9) rfl dX4_step_180 ?_
        refine lv_aload_n hx hb dX4_step_183 rfl (lv_at hl 0 rfl) ?_
        refine va_get (D := D) (ci := 4) (v := .int (ow20 4 0)) (C := RX4) (T := TX4) (N := 16) hx hb hts in_X4 hown hK hP 0 rfl rfl 4 (by decide) (hts _ wd_118) (fun _ h9 => h9) rfl dX4_step_184 ?_
        refine lv_iadd hx hb dX4_step_187 ?_
        refine lv_topi (fun v25 ev25 => ?_)
        replace hF := of_dd hF v25 ev25
        refine va_put (D := D) (ci := 4) (v := .int v25) (ty := .int) (C := RX4) (T := TX4) (N := 16) hx hb hts in_X4 tyX4 tyX4_ok nmX4 hown hK hP hD hS 0 rfl rfl 11 (by decide) (hts _ wd_127) (fun _ h9 => h9) rfl (tyX4_ok 11 (by decide)) rfl rfl (Nat.le_of_ble_eq_true rfl) dX4_step_188 (fun H locs hP hD hS => ?_)
        obtain ⟨ow26, hF, hP, hD⟩ := nm_o (P := fun y => va_P D vwCl (wm_X4_step cI cZ cO w_h y) _) (B := fun y => va_D A (wm_X4_step cI cZ cO w_h y)) hF hP hD
        refine lv_aload_n hx hb dX4_step_191 rfl (lv_at hl 0 rfl) ?_
        refine lv_bipush (v := 115) hx hb dX4_step_192 (by decide) ?_
        refine va_put (D := D) (ci := 4) (v := .int 115) (ty := .char) (C := RX4) (T := TX4) (N := 16) hx hb hts in_X4 tyX4 tyX4_ok nmX4 hown hK hP hD hS 0 rfl rfl 14 (by decide) (hts _ wd_133) (fun _ h9 => h9) rfl (tyX4_ok 14 (by decide)) rfl rfl (Nat.le_of_ble_eq_true rfl) dX4_step_194 (fun H locs hP hD hS => ?_)
        obtain ⟨ow27, hF, hP, hD⟩ := nm_o (P := fun y => va_P D vwCl (wm_X4_step cI cZ cO w_h y) _) (B := fun y => va_D A (wm_X4_step cI cZ cO w_h y)) hF hP hD
        exact hQ _ _ _ _ ow27 (Option.some.inj hF) hP hD hS dX4_step_197
      · replace hF := of_f h24 hF
        refine lv_aload_n hx hb dX4_step_159 rfl (lv_at hl 0 rfl) ?_
        refine lv_dup hx hb dX4_step_160 rfl ?_
        refine va_get (D := D) (ci := 4) (v := .int (ow20 12 0)) (C := RX4) (T := TX4) (N := 16) hx hb hts in_X4 hown hK hP 0 rfl rfl 12 (by decide) (hts _ wd_129) (fun _ h9 => h9) rfl dX4_step_161 ?_
        refine lv_iconst (v := 1) hx hb dX4_step_164 (by decide) ?_
        refine lv_iadd hx hb dX4_step_165 ?_
        refine lv_topi (fun v28 ev28 => ?_)
        replace hF := of_dd hF v28 ev28
        refine va_put (D := D) (ci := 4) (v := .int v28) (ty := .int) (C := RX4) (T := TX4) (N := 16) hx hb hts in_X4 tyX4 tyX4_ok nmX4 hown hK hP hD hS 0 rfl rfl 12 (by decide) (hts _ wd_129) (fun _ h9 => h9) rfl (tyX4_ok 12 (by decide)) rfl rfl (Nat.le_of_ble_eq_true rfl) dX4_step_166 (fun H locs hP hD hS => ?_)
        obtain ⟨ow29, hF, hP, hD⟩ := nm_o (P := fun y => va_P D vwCl (wm_X4_step cI cZ cO w_h y) _) (B := fun y => va_D A (wm_X4_step cI cZ cO w_h y)) hF hP hD
        refine lv_aload_n hx hb dX4_step_169 rfl (lv_at hl 0 rfl) ?_
        refine lv_bipush (v := 108) hx hb dX4_step_170 (by decide) ?_
        refine va_put (D := D) (ci := 4) (v := .int 108) (ty := .char) (C := RX4) (T := TX4) (N := 16) hx hb hts in_X4 tyX4 tyX4_ok nmX4 hown hK hP hD hS 0 rfl rfl 14 (by decide) (hts _ wd_133) (fun _ h9 => h9) rfl (tyX4_ok 14 (by decide)) rfl rfl (Nat.le_of_ble_eq_true rfl) dX4_step_172 (fun H locs hP hD hS => ?_)
        obtain ⟨ow30, hF, hP, hD⟩ := nm_o (P := fun y => va_P D vwCl (wm_X4_step cI cZ cO w_h y) _) (B := fun y => va_D A (wm_X4_step cI cZ cO w_h y)) hF hP hD
        refine lv_goto (tgt := 197) hx hb dX4_step_175 (by decide) ?_
        exact hQ _ _ _ _ ow30 (Option.some.inj hF) hP hD hS dX4_step_197
    · replace hF := of_f h22 hF
      refine lv_aload_n hx hb dX4_step_107 rfl (lv_at hl 0 rfl) ?_
      refine lv_dup hx hb dX4_step_108 rfl ?_
      refine va_get (D := D) (ci := 4) (v := .int (ow20 13 0)) (C := RX4) (T := TX4) (N := 16) hx hb hts in_X4 hown hK hP 0 rfl rfl 13 (by decide) (hts _ wd_131) (fun _ h9 => h9) rfl dX4_step_109 ?_
      refine lv_iconst (v := 1) hx hb dX4_step_112 (by decide) ?_
      refine lv_iadd hx hb dX4_step_113 ?_
      refine lv_topi (fun v31 ev31 => ?_)
      replace hF := of_dd hF v31 ev31
      refine va_put (D := D) (ci := 4) (v := .int v31) (ty := .int) (C := RX4) (T := TX4) (N := 16) hx hb hts in_X4 tyX4 tyX4_ok nmX4 hown hK hP hD hS 0 rfl rfl 13 (by decide) (hts _ wd_131) (fun _ h9 => h9) rfl (tyX4_ok 13 (by decide)) rfl rfl (Nat.le_of_ble_eq_true rfl) dX4_step_114 (fun H locs hP hD hS => ?_)
      obtain ⟨ow32, hF, hP, hD⟩ := nm_o (P := fun y => va_P D vwCl (wm_X4_step cI cZ cO w_h y) _) (B := fun y => va_D A (wm_X4_step cI cZ cO w_h y)) hF hP hD
      refine lv_aload_n hx hb dX4_step_117 rfl (lv_at hl 0 rfl) ?_
      refine lv_bipush (v := 102) hx hb dX4_step_118 (by decide) ?_
      refine va_put (D := D) (ci := 4) (v := .int 102) (ty := .char) (C := RX4) (T := TX4) (N := 16) hx hb hts in_X4 tyX4 tyX4_ok nmX4 hown hK hP hD hS 0 rfl rfl 14 (by decide) (hts _ wd_133) (fun _ h9 => h9) rfl (tyX4_ok 14 (by decide)) rfl rfl (Nat.le_of_ble_eq_true rfl) dX4_step_120 (fun H locs hP hD hS => ?_)
      obtain ⟨ow33, hF, hP, hD⟩ := nm_o (P := fun y => va_P D vwCl (wm_X4_step cI cZ cO w_h y) _) (B := fun y => va_D A (wm_X4_step cI cZ cO w_h y)) hF hP hD
      refine lv_aload_n hx hb dX4_step_123 rfl (lv_at hl 0 rfl) ?_
      refine lv_iload_n hx hb dX4_step_124 rfl (lv_at hl 1 rfl) ?_
      refine lv_iload_n hx hb dX4_step_125 rfl (lv_at hl 2 rfl) ?_
      refine va_mmax hx hb (hml.trans hl.1.symm) hown (hts _ wd_310) (hts _ wd_311) (hts _ wd_41) (hts _ wd_312) (Nat.le_of_ble_eq_true rfl) (Nat.le_of_ble_eq_true rfl) (Nat.zero_le _) (Nat.zero_le _) dX4_step_126 ?_
      refine lv_topi (fun v34 ev34 => ?_)
      replace hF := of_dd hF v34 ev34
      refine lv_aload_n hx hb dX4_step_129 rfl (lv_at hl 0 rfl) ?_
      refine va_get (D := D) (ci := 4) (v := .int (ow33 7 0)) (C := RX4) (T := TX4) (N := 16) hx hb hts in_X4 hown hK hP 0 rfl rfl 7 (by decide) (hts _ wd_122) (fun _ h9 => h9) rfl dX4_step_130 ?_
      refine lv_iadd hx hb dX4_step_133 ?_
      refine lv_topi (fun v35 ev35 => ?_)
      replace hF := of_dd hF v35 ev35
      refine va_put (D := D) (ci := 4) (v := .int v35) (ty := .int) (C := RX4) (T := TX4) (N := 16) hx hb hts in_X4 tyX4 tyX4_ok nmX4 hown hK hP hD hS 0 rfl rfl 8 (by decide) (hts _ wd_123) (fun _ h9 => h9) rfl (tyX4_ok 8 (by decide)) rfl rfl (Nat.le_of_ble_eq_true rfl) dX4_step_134 (fun H locs hP hD hS => ?_)
      obtain ⟨ow36, hF, hP, hD⟩ := nm_o (P := fun y => va_P D vwCl (wm_X4_step cI cZ cO w_h y) _) (B := fun y => va_D A (wm_X4_step cI cZ cO w_h y)) hF hP hD
      refine lv_aload_n hx hb dX4_step_137 rfl (lv_at hl 0 rfl) ?_
      refine lv_aload_n hx hb dX4_step_138 rfl (lv_at hl 0 rfl) ?_
      refine va_get (D := D) (ci := 4) (v := .int (ow36 8 0)) (C := RX4) (T := TX4) (N := 16) hx hb hts in_X4 hown hK hP 0 rfl rfl 8 (by decide) (hts _ wd_123) (fun _ h9 => h9) rfl dX4_step_139 ?_
      refine va_put (D := D) (ci := 4) (v := .int (ow36 8 0)) (ty := .int) (C := RX4) (T := TX4) (N := 16) hx hb hts in_X4 tyX4 tyX4_ok nmX4 hown hK hP hD hS 0 rfl rfl 9 (by decide) (hts _ wd_124) (fun _ h9 => h9) rfl (tyX4_ok 9 (by decide)) rfl rfl (Nat.le_of_ble_eq_true rfl) dX4_step_142 (fun H locs hP hD hS => ?_)
      obtain ⟨ow37, hF, hP, hD⟩ := nm_o (P := fun y => va_P D vwCl (wm_X4_step cI cZ cO w_h y) _) (B := fun y => va_D A (wm_X4_step cI cZ cO w_h y)) hF hP hD
      refine lv_goto (tgt := 197) hx hb dX4_step_145 (by decide) ?_
      exact hQ _ _ _ _ ow37 (Option.some.inj hF) hP hD hS dX4_step_197
  refine lv_icmp_ge (tgt := 82) hx hb dX4_step_75 (by decide) (fun h38 => ?_) (fun h38 => ?_)
  · replace hF := of_t h38 hF
    refine lv_iconst (v := 0) hx hb dX4_step_82 (by decide) ?_
    exact hK15 0 ls _ _ (lv_sub hl [2, 1, 0] rfl) hP hD hS hF
  · replace hF := of_f h38 hF
    refine lv_iconst (v := 1) hx hb dX4_step_78 (by decide) ?_
    refine lv_goto (tgt := 83) hx hb dX4_step_79 (by decide) ?_
    exact hK15 1 ls _ _ (lv_sub hl [2, 1, 0] rfl) hP hD hS hF
/-! ### ThreeLegs$Walk.timeTo(II)I -/
abbrev wm_X4_timeTo (cI cZ cO : ClassId) (w_h : Nat) (ow : Ob) : va_W := [(w_h, .inr (4, [.int (ow 0 0), .int (ow 1 0), .int (ow 2 0), .int (ow 3 0), .int (ow 4 0), .int (ow 5 0), .int (ow 6 0), .int (ow 7 0), .int (ow 8 0), .int (ow 9 0), .int (ow 10 0), .int (ow 11 0), .int (ow 12 0), .int (ow 13 0), .int (ow 14 0), .int (ow 15 0)]))]
def L_X4_timeTo_2 : Nat → Int32 → Int32 → Int32 → Ob → (Ob → Option (Int32 × Ob)) → Option (Int32 × Ob)
  | 0, _, _, _, _, _ => none
  | n7 + 1, p0, p1, v4, ow5, K1 =>
    (if 999 ≤ v4 then some ((-6), ow5) else jn (fun (ow10 : Ob) => (F_X4_step ow10).bind (fun q11 => (if (q11 11 0) < p0 then dd (v4 + 1) (fun (v13 : Int32) => L_X4_timeTo_2 n7 p0 p1 v13 q11 K1) else K1 q11))) (fun (K9 : Ob → Option (Int32 × Ob)) => (if v4 = p1 then (F_X4_speedUp ow5).bind (fun q15 => K9 q15) else K9 ow5)))
def F_X4_timeTo (ow : Ob) (p0 : Int32) (p1 : Int32) : Option (Int32 × Ob) :=
  jn (fun (ow2 : Ob) => (F_X4_time ow2).bind (fun q3 => some (q3, ow2))) (fun (K1 : Ob → Option (Int32 × Ob)) => L_X4_timeTo_2 2000 p0 p1 0 ow K1)
abbrev rm_X4_timeTo : Room := { frames := 3, cells := 0, slots := 0, locals := 63 }
abbrev wu_X4_timeTo : List Cond := .code yX4_timeTo cX4_timeTo 4 (some .int) :: lwG
set_option maxHeartbeats 20000000 in
set_option maxRecDepth 100000 in
theorem c_X4_timeTo (l : Launch) (D : va_G) (cI cZ cO : ClassId) (w_h : Nat) (sz : Nat) (ow : Ob) (p0 : Int32) (p1 : Int32) (q : Int32 × Ob) (hF : F_X4_timeTo ow p0 p1 = some q) : CtI l yX4_timeTo wu_X4_timeTo rm_X4_timeTo D vwCl (tyL cI cZ cO) [.ref w_h, .int p0, .int p1] (wm_X4_timeTo cI cZ cO w_h ow) sz 0 0 (fun (r : Int32) (u : Ob) => r = q.1 ∧ u = q.2) (fun u => wm_X4_timeTo cI cZ cO w_h u) := by
  refine mk_i (cc := cX4_timeTo) (maxL := 4) (by decide) rfl (Nat.le_of_ble_eq_true rfl) ?_
  intro p e s m args below meth c A ls Q hx hb hml hown hts hin hK hP hD hS hA hl hQ
  have hl : lv_has ls 4 [(0, .ref w_h), (1, .int p0), (2, .int p1)] := hl
  unfold F_X4_timeTo at hF
  refine lv_iconst (v := 0) hx hb dX4_timeTo_0 (by decide) ?_
  refine lv_istore_n (lv' := [(3, .int 0), (0, .ref w_h), (1, .int p0), (2, .int p1)]) hx hb dX4_timeTo_1 rfl hl (by decide) rfl (fun ls hl => ?_)
  obtain ⟨K1, eK1, hF⟩ := of_jn hF
  have hK1 : ∀ (ow2 : Ob) (ls : Array Slot) (H : Heap) (locs : List Loc), lv_has ls 4 [(0, .ref w_h)] → va_P D vwCl (wm_X4_timeTo cI cZ cO w_h ow2) H → va_D A (wm_X4_timeTo cI cZ cO w_h ow2) → va_S A s.heap H locs → K1 ow2 = some q → W p l e rm_X4_timeTo s m args below meth c H locs 0 0 Q (F0 m 30 ls []) := by
    intro ow2 ls H locs hl hP hD hS hF
    subst eK1
    refine lv_aload_n hx hb dX4_timeTo_30 rfl (lv_at hl 0 rfl) ?_
    obtain ⟨q3, hGq3, hF⟩ := of_bind hF
    refine callVi (As := []) (rest := []) (wr := []) (WN := wm_X4_timeTo cI cZ cO w_h ow2) ⟨hx, hb, hml, hown, hts⟩ hK hP hD hS hA [0] [] [0] (c_X4_time l D cI cZ cO w_h _ ow2 q3 hGq3) (cwV 0 hts (gV wd_349 wd_321 wd_322 wd_36 wd_323) rfl rfl rfl (by decide +kernel) ⟨Nat.le_of_ble_eq_true rfl, Nat.le_of_ble_eq_true rfl⟩) 0 4 rfl rfl rfl rfl rfl rfl rfl (by decide) rfl rfl rfl hl.1 rfl (Nat.le_of_ble_eq_true rfl) dX4_timeTo_31 ⟨Nat.zero_le _, Nat.zero_le _⟩ (fun H locs hP hD hS => ?_)
    exact hQ _ _ _ _ _ ow2 ⟨congrArg Prod.fst (Option.some.inj hF), congrArg Prod.snd (Option.some.inj hF)⟩ hP hD hS dX4_timeTo_34
  have hloop16 : ∀ (n7 : Nat) (v4 : Int32) (ow5 : Ob) (ls : Array Slot) (H : Heap) (locs : List Loc), lv_has ls 4 [(0, .ref w_h), (1, .int p0), (2, .int p1), (3, .int v4)] → va_P D vwCl (wm_X4_timeTo cI cZ cO w_h ow5) H → va_D A (wm_X4_timeTo cI cZ cO w_h ow5) → va_S A s.heap H locs → L_X4_timeTo_2 n7 p0 p1 v4 ow5 K1 = some q → W p l e rm_X4_timeTo s m args below meth c H locs 0 0 Q (F0 m 2 ls []) := by
    intro n7
    induction n7 with
    | zero =>
      intro v4 ow5 ls H locs hl hP hD hS hF
      exact of_none hF
    | succ n7 ih6 =>
      intro v4 ow5 ls H locs hl hP hD hS hF
      rw [L_X4_timeTo_2.eq_2] at hF
      refine lv_iload_n hx hb dX4_timeTo_2 rfl (lv_at hl 3 rfl) ?_
      refine lv_sipush (v := 999) hx hb dX4_timeTo_3 (by decide) ?_
      refine lv_icmp_ge (tgt := 41) hx hb dX4_timeTo_6 (by decide) (fun h8 => ?_) (fun h8 => ?_)
      · replace hF := of_t h8 hF
        refine lv_bipush (v := (-6)) hx hb dX4_timeTo_41 (by decide) ?_
        exact hQ _ _ _ _ _ ow5 ⟨congrArg Prod.fst (Option.some.inj hF), congrArg Prod.snd (Option.some.inj hF)⟩ hP hD hS dX4_timeTo_43
      · replace hF := of_f h8 hF
        refine lv_iload_n hx hb dX4_timeTo_9 rfl (lv_at hl 3 rfl) ?_
        refine lv_iload_n hx hb dX4_timeTo_10 rfl (lv_at hl 2 rfl) ?_
        obtain ⟨K9, eK9, hF⟩ := of_jn hF
        have hK9 : ∀ (ow10 : Ob) (ls : Array Slot) (H : Heap) (locs : List Loc), lv_has ls 4 [(0, .ref w_h), (1, .int p0), (2, .int p1), (3, .int v4)] → va_P D vwCl (wm_X4_timeTo cI cZ cO w_h ow10) H → va_D A (wm_X4_timeTo cI cZ cO w_h ow10) → va_S A s.heap H locs → K9 ow10 = some q → W p l e rm_X4_timeTo s m args below meth c H locs 0 0 Q (F0 m 18 ls []) := by
          intro ow10 ls H locs hl hP hD hS hF
          subst eK9
          refine lv_aload_n hx hb dX4_timeTo_18 rfl (lv_at hl 0 rfl) ?_
          obtain ⟨q11, hGq11, hF⟩ := of_bind hF
          refine callVv (As := []) (rest := []) (wr := []) (WN := wm_X4_timeTo cI cZ cO w_h q11) ⟨hx, hb, hml, hown, hts⟩ hK hP hD hS hA [0] [] [0] (c_X4_step l D cI cZ cO w_h _ ow10 q11 hGq11) (cwV 0 hts (gV wd_348 wd_307 wd_308 wd_36 wd_309) rfl rfl rfl (by decide +kernel) ⟨Nat.le_of_ble_eq_true rfl, Nat.le_of_ble_eq_true rfl⟩) 0 4 rfl rfl rfl rfl rfl rfl rfl (by decide) rfl rfl rfl hl.1 rfl (Nat.le_of_ble_eq_true rfl) dX4_timeTo_19 ⟨Nat.zero_le _, Nat.zero_le _⟩ (fun H locs hP hD hS => ?_)
          refine lv_aload_n hx hb dX4_timeTo_22 rfl (lv_at hl 0 rfl) ?_
          refine va_get (D := D) (ci := 4) (v := .int (q11 11 0)) (C := RX4) (T := TX4) (N := 16) hx hb hts in_X4 hown hK hP 0 rfl rfl 11 (by decide) (hts _ wd_127) (fun _ h9 => h9) rfl dX4_timeTo_23 ?_
          refine lv_iload_n hx hb dX4_timeTo_26 rfl (lv_at hl 1 rfl) ?_
          refine lv_icmp_lt (tgt := 35) hx hb dX4_timeTo_27 (by decide) (fun h12 => ?_) (fun h12 => ?_)
          · replace hF := of_t h12 hF
            obtain ⟨v13, ev13⟩ : ∃ y : Int32, y = v4 + 1 := ⟨_, rfl⟩
            replace hF := of_dd hF v13 ev13
            refine lv_iinc (v := v13) (lv' := [(3, .int v13), (0, .ref w_h), (1, .int p0), (2, .int p1)]) hx hb dX4_timeTo_35 hl (k := 3) rfl (by rw [ev13]; rfl) (by decide) rfl (fun ls hl => ?_)
            refine lv_goto (tgt := 2) hx hb dX4_timeTo_38 (by decide) ?_
            exact ih6 v13 q11 ls _ _ (lv_sub hl [1, 2, 3, 0] rfl) hP hD hS hF
          · replace hF := of_f h12 hF
            exact hK1 q11 ls _ _ (lv_sub hl [0] rfl) hP hD hS hF
        refine lv_icmp_ne (tgt := 18) hx hb dX4_timeTo_11 (by decide) (fun h14 => ?_) (fun h14 => ?_)
        · replace hF := of_f h14 hF
          exact hK9 ow5 ls _ _ (lv_sub hl [0, 1, 2, 3] rfl) hP hD hS hF
        · replace hF := of_t h14 hF
          refine lv_aload_n hx hb dX4_timeTo_14 rfl (lv_at hl 0 rfl) ?_
          obtain ⟨q15, hGq15, hF⟩ := of_bind hF
          refine callVv (As := []) (rest := []) (wr := []) (WN := wm_X4_timeTo cI cZ cO w_h q15) ⟨hx, hb, hml, hown, hts⟩ hK hP hD hS hA [0] [] [0] (c_X4_speedUp l D cI cZ cO w_h _ ow5 q15 hGq15) (cwV 0 hts (gV wd_344 wd_346 wd_5 wd_36 wd_347) rfl rfl rfl (by decide +kernel) ⟨Nat.le_of_ble_eq_true rfl, Nat.le_of_ble_eq_true rfl⟩) 0 4 rfl rfl rfl rfl rfl rfl rfl (by decide) rfl rfl rfl hl.1 rfl (Nat.le_of_ble_eq_true rfl) dX4_timeTo_15 ⟨Nat.zero_le _, Nat.zero_le _⟩ (fun H locs hP hD hS => ?_)
          exact hK9 q15 ls _ _ (lv_sub hl [0, 1, 2, 3] rfl) hP hD hS hF
  exact hloop16 2000 0 ow ls _ _ (lv_sub hl [1, 2, 3, 0] rfl) hP hD hS hF
