/-! ### ThreeLegs.isWithin(III)Z -/
abbrev wm_X5_isWithin (cI cZ cO : ClassId)   : va_W := []
def F_X5_isWithin  (p0 : Int32) (p1 : Int32) (p2 : Int32) : Option (Int32) :=
  (if p0 < p1 then some 0 else (if p2 < p0 then some 0 else some 1))
abbrev rm_X5_isWithin : Room := { frames := 0, cells := 0, slots := 0, locals := 0 }
abbrev wu_X5_isWithin : List Cond := .code yX5_isWithin cX5_isWithin 3 (some .boolean) :: lwG
set_option maxHeartbeats 20000000 in
set_option maxRecDepth 100000 in
theorem c_X5_isWithin (l : Launch) (D : va_G) (cI cZ cO : ClassId)  (sz : Nat)  (p0 : Int32) (p1 : Int32) (p2 : Int32) (q : Int32) (hF : F_X5_isWithin p0 p1 p2 = some q) : CtI l yX5_isWithin wu_X5_isWithin rm_X5_isWithin D vwCl (tyL cI cZ cO) [.int p0, .int p1, .int p2] (wm_X5_isWithin cI cZ cO) sz 0 0 (fun (r : Int32) (u : Unit) => r = q ∧ u = ()) (fun u => wm_X5_isWithin cI cZ cO) := by
  refine mk_z (cc := cX5_isWithin) (maxL := 3) (by decide) rfl (Nat.le_of_ble_eq_true rfl) ?_
  intro p e s m args below meth c A ls Q hx hb hml hown hts hin hK hP hD hS hA hl hQ
  have hl : lv_has ls 3 [(0, .int p0), (1, .int p1), (2, .int p2)] := hl
  unfold F_X5_isWithin at hF
  refine lv_iload_n hx hb dX5_isWithin_0 rfl (lv_at hl 0 rfl) ?_
  refine lv_iload_n hx hb dX5_isWithin_1 rfl (lv_at hl 1 rfl) ?_
  refine lv_icmp_lt (tgt := 14) hx hb dX5_isWithin_2 (by decide) (fun h1 => ?_) (fun h1 => ?_)
  · replace hF := of_t h1 hF
    refine lv_iconst (v := 0) hx hb dX5_isWithin_14 (by decide) ?_
    exact hQ _ _ _ _ _ () rfl ⟨Option.some.inj hF, rfl⟩ hP hD hS dX5_isWithin_15
  · replace hF := of_f h1 hF
    refine lv_iload_n hx hb dX5_isWithin_5 rfl (lv_at hl 0 rfl) ?_
    refine lv_iload_n hx hb dX5_isWithin_6 rfl (lv_at hl 2 rfl) ?_
    refine lv_icmp_gt (tgt := 14) hx hb dX5_isWithin_7 (by decide) (fun h2 => ?_) (fun h2 => ?_)
    · replace hF := of_t h2 hF
      refine lv_iconst (v := 0) hx hb dX5_isWithin_14 (by decide) ?_
      exact hQ _ _ _ _ _ () rfl ⟨Option.some.inj hF, rfl⟩ hP hD hS dX5_isWithin_15
    · replace hF := of_f h2 hF
      refine lv_iconst (v := 1) hx hb dX5_isWithin_10 (by decide) ?_
      refine lv_goto (tgt := 15) hx hb dX5_isWithin_11 (by decide) ?_
      exact hQ _ _ _ _ _ () rfl ⟨Option.some.inj hF, rfl⟩ hP hD hS dX5_isWithin_15

/-! ### ThreeLegs.run(IIII)I -/
abbrev wm_X5_run (cI cZ cO : ClassId) (x_h c_h i_h k_h f_h w_h n_h s_h t_h c_0 c_1 c_2 c_3 : Nat) (oc : Ob) : va_W := [(x_h, .inr (5, [.ref c_h, .ref i_h, .ref k_h, .ref f_h, .ref w_h, .ref n_h, .ref s_h, .ref t_h])), (c_h, .inr (0, [.ref c_0, .ref c_1, .ref c_2, .ref c_3, .int (oc 4 0), .int (oc 5 0), .int (oc 6 0)])), (c_0, .inl (cZ, 8, .inl (oc 0))), (c_1, .inl (cI, 8, .inl (oc 1))), (c_2, .inl (cI, 8, .inl (oc 2))), (c_3, .inl (cI, 8, .inl (oc 3)))]
def F_X5_run (oc : Ob) (p0 : Int32) (p1 : Int32) (p2 : Int32) (p3 : Int32) : Option (Int32 × Ob) :=
  (F_X5_isWithin p0 0 7).bind (fun q1 => (if q1 = 0 then some ((-1), oc) else (F_X5_isWithin p1 4 20).bind (fun q3 => (if q3 = 0 then some ((-2), oc) else (F_X5_isWithin p2 1 9).bind (fun q5 => (if q5 = 0 then some ((-2), oc) else (F_X5_isWithin p3 0 4).bind (fun q7 => (if q7 = 0 then some ((-2), oc) else (F_X0_enter oc p0 p1 p2 p3).bind (fun q9 => (F_X0_count q9).bind (fun q10 => some (q10, q9)))))))))))
abbrev rm_X5_run : Room := { frames := 2, cells := 0, slots := 0, locals := 42 }
abbrev wu_X5_run : List Cond := .code yX5_run cX5_run 5 (some .int) :: lwG
set_option maxHeartbeats 20000000 in
set_option maxRecDepth 100000 in
theorem c_X5_run (l : Launch) (D : va_G) (cI cZ cO : ClassId) (x_h c_h i_h k_h f_h w_h n_h s_h t_h c_0 c_1 c_2 c_3 : Nat) (sz : Nat) (oc : Ob) (p0 : Int32) (p1 : Int32) (p2 : Int32) (p3 : Int32) (q : Int32 × Ob) (hF : F_X5_run oc p0 p1 p2 p3 = some q) : CtI l yX5_run wu_X5_run rm_X5_run D vwCl (tyL cI cZ cO) [.ref x_h, .int p0, .int p1, .int p2, .int p3] (wm_X5_run cI cZ cO x_h c_h i_h k_h f_h w_h n_h s_h t_h c_0 c_1 c_2 c_3 oc) sz 0 0 (fun (r : Int32) (u : Ob) => r = q.1 ∧ u = q.2) (fun u => wm_X5_run cI cZ cO x_h c_h i_h k_h f_h w_h n_h s_h t_h c_0 c_1 c_2 c_3 u) := by
  refine mk_i (cc := cX5_run) (maxL := 5) (by decide) rfl (Nat.le_of_ble_eq_true rfl) ?_
  intro p e s m args below meth c A ls Q hx hb hml hown hts hin hK hP hD hS hA hl hQ
  have hl : lv_has ls 5 [(0, .ref x_h), (1, .int p0), (2, .int p1), (3, .int p2), (4, .int p3)] := hl
  unfold F_X5_run at hF
  refine lv_iload_n hx hb dX5_run_0 rfl (lv_at hl 1 rfl) ?_
  refine lv_iconst (v := 0) hx hb dX5_run_1 (by decide) ?_
  refine lv_bipush (v := 7) hx hb dX5_run_2 (by decide) ?_
  obtain ⟨q1, hGq1, hF⟩ := of_bind hF
  refine callSi (As := [.int p0, .int 0, .int 7]) (rest := []) ⟨hx, hb, hml, hown, hts⟩ hK hP hD hS hA (c_X5_isWithin l D cI cZ cO  _ p0 0 7 q1 hGq1) (va_cwS 3 hts (gS wd_240 wd_241 wd_33 wd_242) rfl rfl rfl (by decide +kernel) ⟨Nat.le_of_ble_eq_true rfl, Nat.le_of_ble_eq_true rfl⟩) rfl hl.1 rfl (Nat.le_of_ble_eq_true rfl) dX5_run_4 ⟨Nat.zero_le _, Nat.zero_le _⟩ (fun H locs hP hS => ?_)
  refine lv_if_ne (tgt := 12) hx hb dX5_run_7 (by decide) (fun h2 => ?_) (fun h2 => ?_)
  · replace hF := of_f h2 hF
    refine lv_iload_n hx hb dX5_run_12 rfl (lv_at hl 2 rfl) ?_
    refine lv_iconst (v := 4) hx hb dX5_run_13 (by decide) ?_
    refine lv_bipush (v := 20) hx hb dX5_run_14 (by decide) ?_
    obtain ⟨q3, hGq3, hF⟩ := of_bind hF
    refine callSi (As := [.int p1, .int 4, .int 20]) (rest := []) ⟨hx, hb, hml, hown, hts⟩ hK hP hD hS hA (c_X5_isWithin l D cI cZ cO  _ p1 4 20 q3 hGq3) (va_cwS 3 hts (gS wd_240 wd_241 wd_33 wd_242) rfl rfl rfl (by decide +kernel) ⟨Nat.le_of_ble_eq_true rfl, Nat.le_of_ble_eq_true rfl⟩) rfl hl.1 rfl (Nat.le_of_ble_eq_true rfl) dX5_run_16 ⟨Nat.zero_le _, Nat.zero_le _⟩ (fun H locs hP hS => ?_)
    refine lv_if_eq (tgt := 42) hx hb dX5_run_19 (by decide) (fun h4 => ?_) (fun h4 => ?_)
    · replace hF := of_t h4 hF
      refine lv_bipush (v := (-2)) hx hb dX5_run_42 (by decide) ?_
      exact hQ _ _ _ _ _ oc ⟨inj_fst hF, inj_snd hF⟩ hP hD hS dX5_run_44
    · replace hF := of_f h4 hF
      refine lv_iload_n hx hb dX5_run_22 rfl (lv_at hl 3 rfl) ?_
      refine lv_iconst (v := 1) hx hb dX5_run_23 (by decide) ?_
      refine lv_bipush (v := 9) hx hb dX5_run_24 (by decide) ?_
      obtain ⟨q5, hGq5, hF⟩ := of_bind hF
      refine callSi (As := [.int p2, .int 1, .int 9]) (rest := []) ⟨hx, hb, hml, hown, hts⟩ hK hP hD hS hA (c_X5_isWithin l D cI cZ cO  _ p2 1 9 q5 hGq5) (va_cwS 3 hts (gS wd_240 wd_241 wd_33 wd_242) rfl rfl rfl (by decide +kernel) ⟨Nat.le_of_ble_eq_true rfl, Nat.le_of_ble_eq_true rfl⟩) rfl hl.1 rfl (Nat.le_of_ble_eq_true rfl) dX5_run_26 ⟨Nat.zero_le _, Nat.zero_le _⟩ (fun H locs hP hS => ?_)
      refine lv_if_eq (tgt := 42) hx hb dX5_run_29 (by decide) (fun h6 => ?_) (fun h6 => ?_)
      · replace hF := of_t h6 hF
        refine lv_bipush (v := (-2)) hx hb dX5_run_42 (by decide) ?_
        exact hQ _ _ _ _ _ oc ⟨inj_fst hF, inj_snd hF⟩ hP hD hS dX5_run_44
      · replace hF := of_f h6 hF
        refine lv_iload hx hb dX5_run_32 (lv_at hl 4 rfl) ?_
        refine lv_iconst (v := 0) hx hb dX5_run_34 (by decide) ?_
        refine lv_iconst (v := 4) hx hb dX5_run_35 (by decide) ?_
        obtain ⟨q7, hGq7, hF⟩ := of_bind hF
        refine callSi (As := [.int p3, .int 0, .int 4]) (rest := []) ⟨hx, hb, hml, hown, hts⟩ hK hP hD hS hA (c_X5_isWithin l D cI cZ cO  _ p3 0 4 q7 hGq7) (va_cwS 3 hts (gS wd_240 wd_241 wd_33 wd_242) rfl rfl rfl (by decide +kernel) ⟨Nat.le_of_ble_eq_true rfl, Nat.le_of_ble_eq_true rfl⟩) rfl hl.1 rfl (Nat.le_of_ble_eq_true rfl) dX5_run_36 ⟨Nat.zero_le _, Nat.zero_le _⟩ (fun H locs hP hS => ?_)
        refine lv_if_ne (tgt := 45) hx hb dX5_run_39 (by decide) (fun h8 => ?_) (fun h8 => ?_)
        · replace hF := of_f h8 hF
          refine lv_aload_n hx hb dX5_run_45 rfl (lv_at hl 0 rfl) ?_
          refine va_get (D := D) (ci := 5) (v := .ref c_h) (C := RX5) (T := TX5) (N := 8) hx hb hts in_X5 hown hK hP 0 rfl rfl 0 (by decide) (hts _ wd_211) (fun _ h9 => h9) rfl dX5_run_46 ?_
          refine lv_iload_n hx hb dX5_run_49 rfl (lv_at hl 1 rfl) ?_
          refine lv_iload_n hx hb dX5_run_50 rfl (lv_at hl 2 rfl) ?_
          refine lv_iload_n hx hb dX5_run_51 rfl (lv_at hl 3 rfl) ?_
          refine lv_iload hx hb dX5_run_52 (lv_at hl 4 rfl) ?_
          obtain ⟨q9, hGq9, hF⟩ := of_bind hF
          refine callVv (As := [.int p0, .int p1, .int p2, .int p3]) (rest := []) (wr := [(x_h, .inr (5, [.ref c_h, .ref i_h, .ref k_h, .ref f_h, .ref w_h, .ref n_h, .ref s_h, .ref t_h]))]) (WN := wm_X5_run cI cZ cO x_h c_h i_h k_h f_h w_h n_h s_h t_h c_0 c_1 c_2 c_3 q9) ⟨hx, hb, hml, hown, hts⟩ hK hP hD hS hA [1, 2, 3, 4, 5] [0] [0, 1, 2, 3, 4, 5] (c_X0_enter l D cI cZ cO c_h c_0 c_1 c_2 c_3 _ oc p0 p1 p2 p3 q9 hGq9) (cwV 4 hts (gV wd_243 wd_244 wd_245 wd_34 wd_246) rfl rfl rfl (by decide +kernel) ⟨Nat.le_of_ble_eq_true rfl, Nat.le_of_ble_eq_true rfl⟩) 0 0 rfl rfl rfl rfl rfl rfl rfl (by decide) rfl rfl rfl hl.1 rfl (Nat.le_of_ble_eq_true rfl) dX5_run_54 ⟨Nat.zero_le _, Nat.zero_le _⟩ (fun H locs hP hD hS => ?_)
          refine lv_aload_n hx hb dX5_run_57 rfl (lv_at hl 0 rfl) ?_
          refine va_get (D := D) (ci := 5) (v := .ref c_h) (C := RX5) (T := TX5) (N := 8) hx hb hts in_X5 hown hK hP 0 rfl rfl 0 (by decide) (hts _ wd_211) (fun _ h9 => h9) rfl dX5_run_58 ?_
          obtain ⟨q10, hGq10, hF⟩ := of_bind hF
          refine callVi (As := []) (rest := []) (wr := [(x_h, .inr (5, [.ref c_h, .ref i_h, .ref k_h, .ref f_h, .ref w_h, .ref n_h, .ref s_h, .ref t_h]))]) (WN := wm_X5_run cI cZ cO x_h c_h i_h k_h f_h w_h n_h s_h t_h c_0 c_1 c_2 c_3 q9) ⟨hx, hb, hml, hown, hts⟩ hK hP hD hS hA [1, 2, 3, 4, 5] [0] [0, 1, 2, 3, 4, 5] (c_X0_count l D cI cZ cO c_h c_0 c_1 c_2 c_3 _ q9 q10 hGq10) (cwV 0 hts (gV wd_247 wd_248 wd_249 wd_34 wd_250) rfl rfl rfl (by decide +kernel) ⟨Nat.le_of_ble_eq_true rfl, Nat.le_of_ble_eq_true rfl⟩) 0 0 rfl rfl rfl rfl rfl rfl rfl (by decide) rfl rfl rfl hl.1 rfl (Nat.le_of_ble_eq_true rfl) dX5_run_61 ⟨Nat.zero_le _, Nat.zero_le _⟩ (fun H locs hP hD hS => ?_)
          exact hQ _ _ _ _ _ q9 ⟨inj_fst hF, inj_snd hF⟩ hP hD hS dX5_run_64
        · replace hF := of_t h8 hF
          refine lv_bipush (v := (-2)) hx hb dX5_run_42 (by decide) ?_
          exact hQ _ _ _ _ _ oc ⟨inj_fst hF, inj_snd hF⟩ hP hD hS dX5_run_44
  · replace hF := of_t h2 hF
    refine lv_iconst (v := (-1)) hx hb dX5_run_10 (by decide) ?_
    exact hQ _ _ _ _ _ oc ⟨inj_fst hF, inj_snd hF⟩ hP hD hS dX5_run_11

/-! ### ThreeLegs.rest(I)I -/
abbrev wm_X5_rest (cI cZ cO : ClassId) (x_h c_h i_h k_h f_h w_h n_h s_h t_h c_0 c_1 c_2 c_3 : Nat) (oc : Ob) : va_W := [(x_h, .inr (5, [.ref c_h, .ref i_h, .ref k_h, .ref f_h, .ref w_h, .ref n_h, .ref s_h, .ref t_h])), (c_h, .inr (0, [.ref c_0, .ref c_1, .ref c_2, .ref c_3, .int (oc 4 0), .int (oc 5 0), .int (oc 6 0)])), (c_0, .inl (cZ, 8, .inl (oc 0))), (c_1, .inl (cI, 8, .inl (oc 1))), (c_2, .inl (cI, 8, .inl (oc 2))), (c_3, .inl (cI, 8, .inl (oc 3)))]
def F_X5_rest (oc : Ob) (p0 : Int32) : Option (Int32 × Ob) :=
  (F_X0_hasRunner oc p0).bind (fun q1 => (if q1 = 0 then some ((-1), oc) else (F_X0_leave oc p0).bind (fun q3 => (F_X0_count q3).bind (fun q4 => some (q4, q3)))))
abbrev rm_X5_rest : Room := { frames := 2, cells := 0, slots := 0, locals := 42 }
abbrev wu_X5_rest : List Cond := .code yX5_rest cX5_rest 2 (some .int) :: lwG
set_option maxHeartbeats 20000000 in
set_option maxRecDepth 100000 in
theorem c_X5_rest (l : Launch) (D : va_G) (cI cZ cO : ClassId) (x_h c_h i_h k_h f_h w_h n_h s_h t_h c_0 c_1 c_2 c_3 : Nat) (sz : Nat) (oc : Ob) (p0 : Int32) (q : Int32 × Ob) (hF : F_X5_rest oc p0 = some q) : CtI l yX5_rest wu_X5_rest rm_X5_rest D vwCl (tyL cI cZ cO) [.ref x_h, .int p0] (wm_X5_rest cI cZ cO x_h c_h i_h k_h f_h w_h n_h s_h t_h c_0 c_1 c_2 c_3 oc) sz 0 0 (fun (r : Int32) (u : Ob) => r = q.1 ∧ u = q.2) (fun u => wm_X5_rest cI cZ cO x_h c_h i_h k_h f_h w_h n_h s_h t_h c_0 c_1 c_2 c_3 u) := by
  refine mk_i (cc := cX5_rest) (maxL := 2) (by decide) rfl (Nat.le_of_ble_eq_true rfl) ?_
  intro p e s m args below meth c A ls Q hx hb hml hown hts hin hK hP hD hS hA hl hQ
  have hl : lv_has ls 2 [(0, .ref x_h), (1, .int p0)] := hl
  unfold F_X5_rest at hF
  refine lv_aload_n hx hb dX5_rest_0 rfl (lv_at hl 0 rfl) ?_
  refine va_get (D := D) (ci := 5) (v := .ref c_h) (C := RX5) (T := TX5) (N := 8) hx hb hts in_X5 hown hK hP 0 rfl rfl 0 (by decide) (hts _ wd_211) (fun _ h9 => h9) rfl dX5_rest_1 ?_
  refine lv_iload_n hx hb dX5_rest_4 rfl (lv_at hl 1 rfl) ?_
  obtain ⟨q1, hGq1, hF⟩ := of_bind hF
  refine callVi (As := [.int p0]) (rest := []) (wr := [(x_h, .inr (5, [.ref c_h, .ref i_h, .ref k_h, .ref f_h, .ref w_h, .ref n_h, .ref s_h, .ref t_h]))]) (WN := wm_X5_rest cI cZ cO x_h c_h i_h k_h f_h w_h n_h s_h t_h c_0 c_1 c_2 c_3 oc) ⟨hx, hb, hml, hown, hts⟩ hK hP hD hS hA [1, 2, 3, 4, 5] [0] [0, 1, 2, 3, 4, 5] (c_X0_hasRunner l D cI cZ cO c_h c_0 c_1 c_2 c_3 _ oc p0 q1 hGq1) (cwV 1 hts (gV wd_265 wd_266 wd_267 wd_34 wd_268) rfl rfl rfl (by decide +kernel) ⟨Nat.le_of_ble_eq_true rfl, Nat.le_of_ble_eq_true rfl⟩) 0 0 rfl rfl rfl rfl rfl rfl rfl (by decide) rfl rfl rfl hl.1 rfl (Nat.le_of_ble_eq_true rfl) dX5_rest_5 ⟨Nat.zero_le _, Nat.zero_le _⟩ (fun H locs hP hD hS => ?_)
  refine lv_if_ne (tgt := 13) hx hb dX5_rest_8 (by decide) (fun h2 => ?_) (fun h2 => ?_)
  · replace hF := of_f h2 hF
    refine lv_aload_n hx hb dX5_rest_13 rfl (lv_at hl 0 rfl) ?_
    refine va_get (D := D) (ci := 5) (v := .ref c_h) (C := RX5) (T := TX5) (N := 8) hx hb hts in_X5 hown hK hP 0 rfl rfl 0 (by decide) (hts _ wd_211) (fun _ h9 => h9) rfl dX5_rest_14 ?_
    refine lv_iload_n hx hb dX5_rest_17 rfl (lv_at hl 1 rfl) ?_
    obtain ⟨q3, hGq3, hF⟩ := of_bind hF
    refine callVv (As := [.int p0]) (rest := []) (wr := [(x_h, .inr (5, [.ref c_h, .ref i_h, .ref k_h, .ref f_h, .ref w_h, .ref n_h, .ref s_h, .ref t_h]))]) (WN := wm_X5_rest cI cZ cO x_h c_h i_h k_h f_h w_h n_h s_h t_h c_0 c_1 c_2 c_3 q3) ⟨hx, hb, hml, hown, hts⟩ hK hP hD hS hA [1, 2, 3, 4, 5] [0] [0, 1, 2, 3, 4, 5] (c_X0_leave l D cI cZ cO c_h c_0 c_1 c_2 c_3 _ oc p0 q3 hGq3) (cwV 1 hts (gV wd_269 wd_270 wd_271 wd_34 wd_272) rfl rfl rfl (by decide +kernel) ⟨Nat.le_of_ble_eq_true rfl, Nat.le_of_ble_eq_true rfl⟩) 0 0 rfl rfl rfl rfl rfl rfl rfl (by decide) rfl rfl rfl hl.1 rfl (Nat.le_of_ble_eq_true rfl) dX5_rest_18 ⟨Nat.zero_le _, Nat.zero_le _⟩ (fun H locs hP hD hS => ?_)
    refine lv_aload_n hx hb dX5_rest_21 rfl (lv_at hl 0 rfl) ?_
    refine va_get (D := D) (ci := 5) (v := .ref c_h) (C := RX5) (T := TX5) (N := 8) hx hb hts in_X5 hown hK hP 0 rfl rfl 0 (by decide) (hts _ wd_211) (fun _ h9 => h9) rfl dX5_rest_22 ?_
    obtain ⟨q4, hGq4, hF⟩ := of_bind hF
    refine callVi (As := []) (rest := []) (wr := [(x_h, .inr (5, [.ref c_h, .ref i_h, .ref k_h, .ref f_h, .ref w_h, .ref n_h, .ref s_h, .ref t_h]))]) (WN := wm_X5_rest cI cZ cO x_h c_h i_h k_h f_h w_h n_h s_h t_h c_0 c_1 c_2 c_3 q3) ⟨hx, hb, hml, hown, hts⟩ hK hP hD hS hA [1, 2, 3, 4, 5] [0] [0, 1, 2, 3, 4, 5] (c_X0_count l D cI cZ cO c_h c_0 c_1 c_2 c_3 _ q3 q4 hGq4) (cwV 0 hts (gV wd_247 wd_248 wd_249 wd_34 wd_250) rfl rfl rfl (by decide +kernel) ⟨Nat.le_of_ble_eq_true rfl, Nat.le_of_ble_eq_true rfl⟩) 0 0 rfl rfl rfl rfl rfl rfl rfl (by decide) rfl rfl rfl hl.1 rfl (Nat.le_of_ble_eq_true rfl) dX5_rest_25 ⟨Nat.zero_le _, Nat.zero_le _⟩ (fun H locs hP hD hS => ?_)
    exact hQ _ _ _ _ _ q3 ⟨inj_fst hF, inj_snd hF⟩ hP hD hS dX5_rest_28
  · replace hF := of_t h2 hF
    refine lv_iconst (v := (-1)) hx hb dX5_rest_11 (by decide) ?_
    exact hQ _ _ _ _ _ oc ⟨inj_fst hF, inj_snd hF⟩ hP hD hS dX5_rest_12

/-! ### ThreeLegs.setLurch(I)I -/
abbrev wm_X5_setLurch (cI cZ cO : ClassId) (x_h c_h i_h k_h f_h w_h n_h s_h t_h c_0 c_1 c_2 c_3 : Nat) (oc : Ob) : va_W := [(x_h, .inr (5, [.ref c_h, .ref i_h, .ref k_h, .ref f_h, .ref w_h, .ref n_h, .ref s_h, .ref t_h])), (c_h, .inr (0, [.ref c_0, .ref c_1, .ref c_2, .ref c_3, .int (oc 4 0), .int (oc 5 0), .int (oc 6 0)])), (c_0, .inl (cZ, 8, .inl (oc 0))), (c_1, .inl (cI, 8, .inl (oc 1))), (c_2, .inl (cI, 8, .inl (oc 2))), (c_3, .inl (cI, 8, .inl (oc 3)))]
def F_X5_setLurch (oc : Ob) (p0 : Int32) : Option (Int32 × Ob) :=
  (F_X5_isWithin p0 0 9).bind (fun q1 => (if q1 = 0 then some ((-2), oc) else (if p0 ≤ (oc 5 0) then dd (sO oc 4 (cst p0)) (fun (oc4 : Ob) => some ((oc 4 0), oc4)) else some ((-2), oc))))
abbrev rm_X5_setLurch : Room := { frames := 1, cells := 0, slots := 0, locals := 22 }
abbrev wu_X5_setLurch : List Cond := .code yX5_setLurch cX5_setLurch 3 (some .int) :: lwG
set_option maxHeartbeats 20000000 in
set_option maxRecDepth 100000 in
theorem c_X5_setLurch (l : Launch) (D : va_G) (cI cZ cO : ClassId) (x_h c_h i_h k_h f_h w_h n_h s_h t_h c_0 c_1 c_2 c_3 : Nat) (sz : Nat) (oc : Ob) (p0 : Int32) (q : Int32 × Ob) (hF : F_X5_setLurch oc p0 = some q) : CtI l yX5_setLurch wu_X5_setLurch rm_X5_setLurch D vwCl (tyL cI cZ cO) [.ref x_h, .int p0] (wm_X5_setLurch cI cZ cO x_h c_h i_h k_h f_h w_h n_h s_h t_h c_0 c_1 c_2 c_3 oc) sz 0 0 (fun (r : Int32) (u : Ob) => r = q.1 ∧ u = q.2) (fun u => wm_X5_setLurch cI cZ cO x_h c_h i_h k_h f_h w_h n_h s_h t_h c_0 c_1 c_2 c_3 u) := by
  refine mk_i (cc := cX5_setLurch) (maxL := 3) (by decide) rfl (Nat.le_of_ble_eq_true rfl) ?_
  intro p e s m args below meth c A ls Q hx hb hml hown hts hin hK hP hD hS hA hl hQ
  have hl : lv_has ls 3 [(0, .ref x_h), (1, .int p0)] := hl
  unfold F_X5_setLurch at hF
  refine lv_iload_n hx hb dX5_setLurch_0 rfl (lv_at hl 1 rfl) ?_
  refine lv_iconst (v := 0) hx hb dX5_setLurch_1 (by decide) ?_
  refine lv_bipush (v := 9) hx hb dX5_setLurch_2 (by decide) ?_
  obtain ⟨q1, hGq1, hF⟩ := of_bind hF
  refine callSi (As := [.int p0, .int 0, .int 9]) (rest := []) ⟨hx, hb, hml, hown, hts⟩ hK hP hD hS hA (c_X5_isWithin l D cI cZ cO  _ p0 0 9 q1 hGq1) (va_cwS 3 hts (gS wd_240 wd_241 wd_33 wd_242) rfl rfl rfl (by decide +kernel) ⟨Nat.le_of_ble_eq_true rfl, Nat.le_of_ble_eq_true rfl⟩) rfl hl.1 rfl (Nat.le_of_ble_eq_true rfl) dX5_setLurch_4 ⟨Nat.zero_le _, Nat.zero_le _⟩ (fun H locs hP hS => ?_)
  refine lv_if_eq (tgt := 21) hx hb dX5_setLurch_7 (by decide) (fun h2 => ?_) (fun h2 => ?_)
  · replace hF := of_t h2 hF
    refine lv_bipush (v := (-2)) hx hb dX5_setLurch_21 (by decide) ?_
    exact hQ _ _ _ _ _ oc ⟨inj_fst hF, inj_snd hF⟩ hP hD hS dX5_setLurch_23
  · replace hF := of_f h2 hF
    refine lv_iload_n hx hb dX5_setLurch_10 rfl (lv_at hl 1 rfl) ?_
    refine lv_aload_n hx hb dX5_setLurch_11 rfl (lv_at hl 0 rfl) ?_
    refine va_get (D := D) (ci := 5) (v := .ref c_h) (C := RX5) (T := TX5) (N := 8) hx hb hts in_X5 hown hK hP 0 rfl rfl 0 (by decide) (hts _ wd_211) (fun _ h9 => h9) rfl dX5_setLurch_12 ?_
    refine va_get (D := D) (ci := 0) (v := .int (oc 5 0)) (C := RX0) (T := TX0) (N := 7) hx hb hts in_X0 hown hK hP 1 rfl rfl 5 (by decide) (hts _ wd_72) (fun _ h9 => h9) rfl dX5_setLurch_15 ?_
    refine lv_icmp_le (tgt := 24) hx hb dX5_setLurch_18 (by decide) (fun h3 => ?_) (fun h3 => ?_)
    · replace hF := of_t h3 hF
      refine lv_aload_n hx hb dX5_setLurch_24 rfl (lv_at hl 0 rfl) ?_
      refine va_get (D := D) (ci := 5) (v := .ref c_h) (C := RX5) (T := TX5) (N := 8) hx hb hts in_X5 hown hK hP 0 rfl rfl 0 (by decide) (hts _ wd_211) (fun _ h9 => h9) rfl dX5_setLurch_25 ?_
      refine va_get (D := D) (ci := 0) (v := .int (oc 4 0)) (C := RX0) (T := TX0) (N := 7) hx hb hts in_X0 hown hK hP 1 rfl rfl 4 (by decide) (hts _ wd_69) (fun _ h9 => h9) rfl dX5_setLurch_28 ?_
      refine lv_istore_n (lv' := [(2, .int (oc 4 0)), (0, .ref x_h), (1, .int p0)]) hx hb dX5_setLurch_31 rfl hl (by decide) rfl (fun ls hl => ?_)
      refine lv_aload_n hx hb dX5_setLurch_32 rfl (lv_at hl 1 rfl) ?_
      refine va_get (D := D) (ci := 5) (v := .ref c_h) (C := RX5) (T := TX5) (N := 8) hx hb hts in_X5 hown hK hP 0 rfl rfl 0 (by decide) (hts _ wd_211) (fun _ h9 => h9) rfl dX5_setLurch_33 ?_
      refine lv_iload_n hx hb dX5_setLurch_36 rfl (lv_at hl 2 rfl) ?_
      refine va_put (D := D) (ci := 0) (v := .int p0) (ty := .int) (C := RX0) (T := TX0) (N := 7) hx hb hts in_X0 tyX0 tyX0_ok nmX0 hown hK hP hD hS 1 rfl rfl 4 (by decide) (hts _ wd_69) (fun _ h9 => h9) rfl (tyX0_ok 4 (by decide)) rfl rfl (Nat.le_of_ble_eq_true rfl) dX5_setLurch_37 (fun H locs hP hD hS => ?_)
      obtain ⟨oc4, hF, hP, hD⟩ := nm_o (P := fun y => va_P D vwCl (wm_X5_setLurch cI cZ cO x_h c_h i_h k_h f_h w_h n_h s_h t_h c_0 c_1 c_2 c_3 y) _) (B := fun y => va_D A (wm_X5_setLurch cI cZ cO x_h c_h i_h k_h f_h w_h n_h s_h t_h c_0 c_1 c_2 c_3 y)) hF hP hD
      refine lv_iload_n hx hb dX5_setLurch_40 rfl (lv_at hl 0 rfl) ?_
      exact hQ _ _ _ _ _ oc4 ⟨inj_fst hF, inj_snd hF⟩ hP hD hS dX5_setLurch_41
    · replace hF := of_f h3 hF
      refine lv_bipush (v := (-2)) hx hb dX5_setLurch_21 (by decide) ?_
      exact hQ _ _ _ _ _ oc ⟨inj_fst hF, inj_snd hF⟩ hP hD hS dX5_setLurch_23

/-! ### ThreeLegs.setFall(I)I -/
abbrev wm_X5_setFall (cI cZ cO : ClassId) (x_h c_h i_h k_h f_h w_h n_h s_h t_h c_0 c_1 c_2 c_3 : Nat) (oc : Ob) : va_W := [(x_h, .inr (5, [.ref c_h, .ref i_h, .ref k_h, .ref f_h, .ref w_h, .ref n_h, .ref s_h, .ref t_h])), (c_h, .inr (0, [.ref c_0, .ref c_1, .ref c_2, .ref c_3, .int (oc 4 0), .int (oc 5 0), .int (oc 6 0)])), (c_0, .inl (cZ, 8, .inl (oc 0))), (c_1, .inl (cI, 8, .inl (oc 1))), (c_2, .inl (cI, 8, .inl (oc 2))), (c_3, .inl (cI, 8, .inl (oc 3)))]
def F_X5_setFall (oc : Ob) (p0 : Int32) : Option (Int32 × Ob) :=
  (F_X5_isWithin p0 (oc 4 0) 20).bind (fun q1 => (if q1 = 0 then some ((-2), oc) else dd (sO oc 5 (cst p0)) (fun (oc3 : Ob) => some ((oc 5 0), oc3))))
abbrev rm_X5_setFall : Room := { frames := 1, cells := 0, slots := 0, locals := 22 }
abbrev wu_X5_setFall : List Cond := .code yX5_setFall cX5_setFall 3 (some .int) :: lwG
set_option maxHeartbeats 20000000 in
set_option maxRecDepth 100000 in
theorem c_X5_setFall (l : Launch) (D : va_G) (cI cZ cO : ClassId) (x_h c_h i_h k_h f_h w_h n_h s_h t_h c_0 c_1 c_2 c_3 : Nat) (sz : Nat) (oc : Ob) (p0 : Int32) (q : Int32 × Ob) (hF : F_X5_setFall oc p0 = some q) : CtI l yX5_setFall wu_X5_setFall rm_X5_setFall D vwCl (tyL cI cZ cO) [.ref x_h, .int p0] (wm_X5_setFall cI cZ cO x_h c_h i_h k_h f_h w_h n_h s_h t_h c_0 c_1 c_2 c_3 oc) sz 0 0 (fun (r : Int32) (u : Ob) => r = q.1 ∧ u = q.2) (fun u => wm_X5_setFall cI cZ cO x_h c_h i_h k_h f_h w_h n_h s_h t_h c_0 c_1 c_2 c_3 u) := by
  refine mk_i (cc := cX5_setFall) (maxL := 3) (by decide) rfl (Nat.le_of_ble_eq_true rfl) ?_
  intro p e s m args below meth c A ls Q hx hb hml hown hts hin hK hP hD hS hA hl hQ
  have hl : lv_has ls 3 [(0, .ref x_h), (1, .int p0)] := hl
  unfold F_X5_setFall at hF
  refine lv_iload_n hx hb dX5_setFall_0 rfl (lv_at hl 1 rfl) ?_
  refine lv_aload_n hx hb dX5_setFall_1 rfl (lv_at hl 0 rfl) ?_
  refine va_get (D := D) (ci := 5) (v := .ref c_h) (C := RX5) (T := TX5) (N := 8) hx hb hts in_X5 hown hK hP 0 rfl rfl 0 (by decide) (hts _ wd_211) (fun _ h9 => h9) rfl dX5_setFall_2 ?_
  refine va_get (D := D) (ci := 0) (v := .int (oc 4 0)) (C := RX0) (T := TX0) (N := 7) hx hb hts in_X0 hown hK hP 1 rfl rfl 4 (by decide) (hts _ wd_69) (fun _ h9 => h9) rfl dX5_setFall_5 ?_
  refine lv_bipush (v := 20) hx hb dX5_setFall_8 (by decide) ?_
  obtain ⟨q1, hGq1, hF⟩ := of_bind hF
  refine callSi (As := [.int p0, .int (oc 4 0), .int 20]) (rest := []) ⟨hx, hb, hml, hown, hts⟩ hK hP hD hS hA (c_X5_isWithin l D cI cZ cO  _ p0 (oc 4 0) 20 q1 hGq1) (va_cwS 3 hts (gS wd_240 wd_241 wd_33 wd_242) rfl rfl rfl (by decide +kernel) ⟨Nat.le_of_ble_eq_true rfl, Nat.le_of_ble_eq_true rfl⟩) rfl hl.1 rfl (Nat.le_of_ble_eq_true rfl) dX5_setFall_10 ⟨Nat.zero_le _, Nat.zero_le _⟩ (fun H locs hP hS => ?_)
  refine lv_if_ne (tgt := 19) hx hb dX5_setFall_13 (by decide) (fun h2 => ?_) (fun h2 => ?_)
  · replace hF := of_f h2 hF
    refine lv_aload_n hx hb dX5_setFall_19 rfl (lv_at hl 0 rfl) ?_
    refine va_get (D := D) (ci := 5) (v := .ref c_h) (C := RX5) (T := TX5) (N := 8) hx hb hts in_X5 hown hK hP 0 rfl rfl 0 (by decide) (hts _ wd_211) (fun _ h9 => h9) rfl dX5_setFall_20 ?_
    refine va_get (D := D) (ci := 0) (v := .int (oc 5 0)) (C := RX0) (T := TX0) (N := 7) hx hb hts in_X0 hown hK hP 1 rfl rfl 5 (by decide) (hts _ wd_72) (fun _ h9 => h9) rfl dX5_setFall_23 ?_
    refine lv_istore_n (lv' := [(2, .int (oc 5 0)), (0, .ref x_h), (1, .int p0)]) hx hb dX5_setFall_26 rfl hl (by decide) rfl (fun ls hl => ?_)
    refine lv_aload_n hx hb dX5_setFall_27 rfl (lv_at hl 1 rfl) ?_
    refine va_get (D := D) (ci := 5) (v := .ref c_h) (C := RX5) (T := TX5) (N := 8) hx hb hts in_X5 hown hK hP 0 rfl rfl 0 (by decide) (hts _ wd_211) (fun _ h9 => h9) rfl dX5_setFall_28 ?_
    refine lv_iload_n hx hb dX5_setFall_31 rfl (lv_at hl 2 rfl) ?_
    refine va_put (D := D) (ci := 0) (v := .int p0) (ty := .int) (C := RX0) (T := TX0) (N := 7) hx hb hts in_X0 tyX0 tyX0_ok nmX0 hown hK hP hD hS 1 rfl rfl 5 (by decide) (hts _ wd_72) (fun _ h9 => h9) rfl (tyX0_ok 5 (by decide)) rfl rfl (Nat.le_of_ble_eq_true rfl) dX5_setFall_32 (fun H locs hP hD hS => ?_)
    obtain ⟨oc3, hF, hP, hD⟩ := nm_o (P := fun y => va_P D vwCl (wm_X5_setFall cI cZ cO x_h c_h i_h k_h f_h w_h n_h s_h t_h c_0 c_1 c_2 c_3 y) _) (B := fun y => va_D A (wm_X5_setFall cI cZ cO x_h c_h i_h k_h f_h w_h n_h s_h t_h c_0 c_1 c_2 c_3 y)) hF hP hD
    refine lv_iload_n hx hb dX5_setFall_35 rfl (lv_at hl 0 rfl) ?_
    exact hQ _ _ _ _ _ oc3 ⟨inj_fst hF, inj_snd hF⟩ hP hD hS dX5_setFall_36
  · replace hF := of_t h2 hF
    refine lv_bipush (v := (-2)) hx hb dX5_setFall_16 (by decide) ?_
    exact hQ _ _ _ _ _ oc ⟨inj_fst hF, inj_snd hF⟩ hP hD hS dX5_setFall_18

/-! ### ThreeLegs.setUp(I)I -/
abbrev wm_X5_setUp (cI cZ cO : ClassId) (x_h c_h i_h k_h f_h w_h n_h s_h t_h c_0 c_1 c_2 c_3 : Nat) (oc : Ob) : va_W := [(x_h, .inr (5, [.ref c_h, .ref i_h, .ref k_h, .ref f_h, .ref w_h, .ref n_h, .ref s_h, .ref t_h])), (c_h, .inr (0, [.ref c_0, .ref c_1, .ref c_2, .ref c_3, .int (oc 4 0), .int (oc 5 0), .int (oc 6 0)])), (c_0, .inl (cZ, 8, .inl (oc 0))), (c_1, .inl (cI, 8, .inl (oc 1))), (c_2, .inl (cI, 8, .inl (oc 2))), (c_3, .inl (cI, 8, .inl (oc 3)))]
def F_X5_setUp (oc : Ob) (p0 : Int32) : Option (Int32 × Ob) :=
  (F_X5_isWithin p0 0 99).bind (fun q1 => (if q1 = 0 then some ((-2), oc) else dd (sO oc 6 (cst p0)) (fun (oc3 : Ob) => some ((oc 6 0), oc3))))
abbrev rm_X5_setUp : Room := { frames := 1, cells := 0, slots := 0, locals := 22 }
abbrev wu_X5_setUp : List Cond := .code yX5_setUp cX5_setUp 3 (some .int) :: lwG
set_option maxHeartbeats 20000000 in
set_option maxRecDepth 100000 in
theorem c_X5_setUp (l : Launch) (D : va_G) (cI cZ cO : ClassId) (x_h c_h i_h k_h f_h w_h n_h s_h t_h c_0 c_1 c_2 c_3 : Nat) (sz : Nat) (oc : Ob) (p0 : Int32) (q : Int32 × Ob) (hF : F_X5_setUp oc p0 = some q) : CtI l yX5_setUp wu_X5_setUp rm_X5_setUp D vwCl (tyL cI cZ cO) [.ref x_h, .int p0] (wm_X5_setUp cI cZ cO x_h c_h i_h k_h f_h w_h n_h s_h t_h c_0 c_1 c_2 c_3 oc) sz 0 0 (fun (r : Int32) (u : Ob) => r = q.1 ∧ u = q.2) (fun u => wm_X5_setUp cI cZ cO x_h c_h i_h k_h f_h w_h n_h s_h t_h c_0 c_1 c_2 c_3 u) := by
  refine mk_i (cc := cX5_setUp) (maxL := 3) (by decide) rfl (Nat.le_of_ble_eq_true rfl) ?_
  intro p e s m args below meth c A ls Q hx hb hml hown hts hin hK hP hD hS hA hl hQ
  have hl : lv_has ls 3 [(0, .ref x_h), (1, .int p0)] := hl
  unfold F_X5_setUp at hF
  refine lv_iload_n hx hb dX5_setUp_0 rfl (lv_at hl 1 rfl) ?_
  refine lv_iconst (v := 0) hx hb dX5_setUp_1 (by decide) ?_
  refine lv_bipush (v := 99) hx hb dX5_setUp_2 (by decide) ?_
  obtain ⟨q1, hGq1, hF⟩ := of_bind hF
  refine callSi (As := [.int p0, .int 0, .int 99]) (rest := []) ⟨hx, hb, hml, hown, hts⟩ hK hP hD hS hA (c_X5_isWithin l D cI cZ cO  _ p0 0 99 q1 hGq1) (va_cwS 3 hts (gS wd_240 wd_241 wd_33 wd_242) rfl rfl rfl (by decide +kernel) ⟨Nat.le_of_ble_eq_true rfl, Nat.le_of_ble_eq_true rfl⟩) rfl hl.1 rfl (Nat.le_of_ble_eq_true rfl) dX5_setUp_4 ⟨Nat.zero_le _, Nat.zero_le _⟩ (fun H locs hP hS => ?_)
  refine lv_if_ne (tgt := 13) hx hb dX5_setUp_7 (by decide) (fun h2 => ?_) (fun h2 => ?_)
  · replace hF := of_f h2 hF
    refine lv_aload_n hx hb dX5_setUp_13 rfl (lv_at hl 0 rfl) ?_
    refine va_get (D := D) (ci := 5) (v := .ref c_h) (C := RX5) (T := TX5) (N := 8) hx hb hts in_X5 hown hK hP 0 rfl rfl 0 (by decide) (hts _ wd_211) (fun _ h9 => h9) rfl dX5_setUp_14 ?_
    refine va_get (D := D) (ci := 0) (v := .int (oc 6 0)) (C := RX0) (T := TX0) (N := 7) hx hb hts in_X0 hown hK hP 1 rfl rfl 6 (by decide) (hts _ wd_75) (fun _ h9 => h9) rfl dX5_setUp_17 ?_
    refine lv_istore_n (lv' := [(2, .int (oc 6 0)), (0, .ref x_h), (1, .int p0)]) hx hb dX5_setUp_20 rfl hl (by decide) rfl (fun ls hl => ?_)
    refine lv_aload_n hx hb dX5_setUp_21 rfl (lv_at hl 1 rfl) ?_
    refine va_get (D := D) (ci := 5) (v := .ref c_h) (C := RX5) (T := TX5) (N := 8) hx hb hts in_X5 hown hK hP 0 rfl rfl 0 (by decide) (hts _ wd_211) (fun _ h9 => h9) rfl dX5_setUp_22 ?_
    refine lv_iload_n hx hb dX5_setUp_25 rfl (lv_at hl 2 rfl) ?_
    refine va_put (D := D) (ci := 0) (v := .int p0) (ty := .int) (C := RX0) (T := TX0) (N := 7) hx hb hts in_X0 tyX0 tyX0_ok nmX0 hown hK hP hD hS 1 rfl rfl 6 (by decide) (hts _ wd_75) (fun _ h9 => h9) rfl (tyX0_ok 6 (by decide)) rfl rfl (Nat.le_of_ble_eq_true rfl) dX5_setUp_26 (fun H locs hP hD hS => ?_)
    obtain ⟨oc3, hF, hP, hD⟩ := nm_o (P := fun y => va_P D vwCl (wm_X5_setUp cI cZ cO x_h c_h i_h k_h f_h w_h n_h s_h t_h c_0 c_1 c_2 c_3 y) _) (B := fun y => va_D A (wm_X5_setUp cI cZ cO x_h c_h i_h k_h f_h w_h n_h s_h t_h c_0 c_1 c_2 c_3 y)) hF hP hD
    refine lv_iload_n hx hb dX5_setUp_29 rfl (lv_at hl 0 rfl) ?_
    exact hQ _ _ _ _ _ oc3 ⟨inj_fst hF, inj_snd hF⟩ hP hD hS dX5_setUp_30
  · replace hF := of_t h2 hF
    refine lv_bipush (v := (-2)) hx hb dX5_setUp_10 (by decide) ?_
    exact hQ _ _ _ _ _ oc ⟨inj_fst hF, inj_snd hF⟩ hP hD hS dX5_setUp_12

/-! ### ThreeLegs.set(II)I -/
abbrev wm_X5_set (cI cZ cO : ClassId) (x_h c_h i_h k_h f_h w_h n_h s_h t_h c_0 c_1 c_2 c_3 : Nat) (oc : Ob) : va_W := [(x_h, .inr (5, [.ref c_h, .ref i_h, .ref k_h, .ref f_h, .ref w_h, .ref n_h, .ref s_h, .ref t_h])), (c_h, .inr (0, [.ref c_0, .ref c_1, .ref c_2, .ref c_3, .int (oc 4 0), .int (oc 5 0), .int (oc 6 0)])), (c_0, .inl (cZ, 8, .inl (oc 0))), (c_1, .inl (cI, 8, .inl (oc 1))), (c_2, .inl (cI, 8, .inl (oc 2))), (c_3, .inl (cI, 8, .inl (oc 3)))]
def F_X5_set (oc : Ob) (p0 : Int32) (p1 : Int32) : Option (Int32 × Ob) :=
  (if p0 = 0 then (F_X5_setLurch oc p1).bind (fun q2 => some (q2.1, q2.2)) else (if p0 = 1 then (F_X5_setFall oc p1).bind (fun q4 => some (q4.1, q4.2)) else (if p0 = 2 then (F_X5_setUp oc p1).bind (fun q6 => some (q6.1, q6.2)) else some ((-2), oc))))
abbrev rm_X5_set : Room := { frames := 2, cells := 0, slots := 0, locals := 44 }
abbrev wu_X5_set : List Cond := .code yX5_set cX5_set 3 (some .int) :: lwG
set_option maxHeartbeats 20000000 in
set_option maxRecDepth 100000 in
theorem c_X5_set (l : Launch) (D : va_G) (cI cZ cO : ClassId) (x_h c_h i_h k_h f_h w_h n_h s_h t_h c_0 c_1 c_2 c_3 : Nat) (sz : Nat) (oc : Ob) (p0 : Int32) (p1 : Int32) (q : Int32 × Ob) (hF : F_X5_set oc p0 p1 = some q) : CtI l yX5_set wu_X5_set rm_X5_set D vwCl (tyL cI cZ cO) [.ref x_h, .int p0, .int p1] (wm_X5_set cI cZ cO x_h c_h i_h k_h f_h w_h n_h s_h t_h c_0 c_1 c_2 c_3 oc) sz 0 0 (fun (r : Int32) (u : Ob) => r = q.1 ∧ u = q.2) (fun u => wm_X5_set cI cZ cO x_h c_h i_h k_h f_h w_h n_h s_h t_h c_0 c_1 c_2 c_3 u) := by
  refine mk_i (cc := cX5_set) (maxL := 3) (by decide) rfl (Nat.le_of_ble_eq_true rfl) ?_
  intro p e s m args below meth c A ls Q hx hb hml hown hts hin hK hP hD hS hA hl hQ
  have hl : lv_has ls 3 [(0, .ref x_h), (1, .int p0), (2, .int p1)] := hl
  unfold F_X5_set at hF
  refine lv_iload_n hx hb dX5_set_0 rfl (lv_at hl 1 rfl) ?_
  by_cases h1 : p0 = 0
  · replace hF := of_t h1 hF
    refine lv_tableIn (off := 27) (tgt := 28) hx hb dX5_set_1 (by rw [h1]; decide) (by rw [h1]; decide) (by rw [h1]; decide +kernel) (by decide) ?_
    refine lv_aload_n hx hb dX5_set_28 rfl (lv_at hl 0 rfl) ?_
    refine lv_iload_n hx hb dX5_set_29 rfl (lv_at hl 2 rfl) ?_
    obtain ⟨q2, hGq2, hF⟩ := of_bind hF
    refine callVi (As := [.int p1]) (rest := []) (wr := []) (WN := wm_X5_set cI cZ cO x_h c_h i_h k_h f_h w_h n_h s_h t_h c_0 c_1 c_2 c_3 q2.2) ⟨hx, hb, hml, hown, hts⟩ hK hP hD hS hA [0, 1, 2, 3, 4, 5] [] [0, 1, 2, 3, 4, 5] (c_X5_setLurch l D cI cZ cO x_h c_h i_h k_h f_h w_h n_h s_h t_h c_0 c_1 c_2 c_3 _ oc p1 q2 hGq2) (cwV 1 hts (gV wd_278 wd_280 wd_0 wd_33 wd_281) rfl rfl rfl (by decide +kernel) ⟨Nat.le_of_ble_eq_true rfl, Nat.le_of_ble_eq_true rfl⟩) 0 5 rfl rfl rfl rfl rfl rfl rfl (by decide) rfl rfl rfl hl.1 rfl (Nat.le_of_ble_eq_true rfl) dX5_set_30 ⟨Nat.zero_le _, Nat.zero_le _⟩ (fun H locs hP hD hS => ?_)
    exact hQ _ _ _ _ _ q2.2 ⟨inj_fst hF, inj_snd hF⟩ hP hD hS dX5_set_33
  · replace hF := of_f h1 hF
    by_cases h3 : p0 = 1
    · replace hF := of_t h3 hF
      refine lv_tableIn (off := 33) (tgt := 34) hx hb dX5_set_1 (by rw [h3]; decide) (by rw [h3]; decide) (by rw [h3]; decide +kernel) (by decide) ?_
      refine lv_aload_n hx hb dX5_set_34 rfl (lv_at hl 0 rfl) ?_
      refine lv_iload_n hx hb dX5_set_35 rfl (lv_at hl 2 rfl) ?_
      obtain ⟨q4, hGq4, hF⟩ := of_bind hF
      refine callVi (As := [.int p1]) (rest := []) (wr := []) (WN := wm_X5_set cI cZ cO x_h c_h i_h k_h f_h w_h n_h s_h t_h c_0 c_1 c_2 c_3 q4.2) ⟨hx, hb, hml, hown, hts⟩ hK hP hD hS hA [0, 1, 2, 3, 4, 5] [] [0, 1, 2, 3, 4, 5] (c_X5_setFall l D cI cZ cO x_h c_h i_h k_h f_h w_h n_h s_h t_h c_0 c_1 c_2 c_3 _ oc p1 q4 hGq4) (cwV 1 hts (gV wd_282 wd_284 wd_1 wd_33 wd_285) rfl rfl rfl (by decide +kernel) ⟨Nat.le_of_ble_eq_true rfl, Nat.le_of_ble_eq_true rfl⟩) 0 5 rfl rfl rfl rfl rfl rfl rfl (by decide) rfl rfl rfl hl.1 rfl (Nat.le_of_ble_eq_true rfl) dX5_set_36 ⟨Nat.zero_le _, Nat.zero_le _⟩ (fun H locs hP hD hS => ?_)
      exact hQ _ _ _ _ _ q4.2 ⟨inj_fst hF, inj_snd hF⟩ hP hD hS dX5_set_39
    · replace hF := of_f h3 hF
      by_cases h5 : p0 = 2
      · replace hF := of_t h5 hF
        refine lv_tableIn (off := 39) (tgt := 40) hx hb dX5_set_1 (by rw [h5]; decide) (by rw [h5]; decide) (by rw [h5]; decide +kernel) (by decide) ?_
        refine lv_aload_n hx hb dX5_set_40 rfl (lv_at hl 0 rfl) ?_
        refine lv_iload_n hx hb dX5_set_41 rfl (lv_at hl 2 rfl) ?_
        obtain ⟨q6, hGq6, hF⟩ := of_bind hF
        refine callVi (As := [.int p1]) (rest := []) (wr := []) (WN := wm_X5_set cI cZ cO x_h c_h i_h k_h f_h w_h n_h s_h t_h c_0 c_1 c_2 c_3 q6.2) ⟨hx, hb, hml, hown, hts⟩ hK hP hD hS hA [0, 1, 2, 3, 4, 5] [] [0, 1, 2, 3, 4, 5] (c_X5_setUp l D cI cZ cO x_h c_h i_h k_h f_h w_h n_h s_h t_h c_0 c_1 c_2 c_3 _ oc p1 q6 hGq6) (cwV 1 hts (gV wd_286 wd_288 wd_2 wd_33 wd_289) rfl rfl rfl (by decide +kernel) ⟨Nat.le_of_ble_eq_true rfl, Nat.le_of_ble_eq_true rfl⟩) 0 5 rfl rfl rfl rfl rfl rfl rfl (by decide) rfl rfl rfl hl.1 rfl (Nat.le_of_ble_eq_true rfl) dX5_set_42 ⟨Nat.zero_le _, Nat.zero_le _⟩ (fun H locs hP hD hS => ?_)
        exact hQ _ _ _ _ _ q6.2 ⟨inj_fst hF, inj_snd hF⟩ hP hD hS dX5_set_45
      · replace hF := of_f h5 hF
        refine lv_tableOut (tgt := 46) hx hb dX5_set_1 (tab_out (fun k g1 g2 => by
              have g3 : k = 0 ∨ k = 1 ∨ k = 2 := by omega
              rcases g3 with rfl | rfl | rfl
              · exact h1
              · exact h3
              · exact h5)) (by decide) ?_
        refine lv_bipush (v := (-2)) hx hb dX5_set_46 (by decide) ?_
        exact hQ _ _ _ _ _ oc ⟨inj_fst hF, inj_snd hF⟩ hP hD hS dX5_set_48

/-! ### ThreeLegs.pair(IIII)I -/
abbrev wm_X5_pair (cI cZ cO : ClassId) (x_h c_h i_h k_h f_h w_h n_h s_h t_h c_0 c_1 c_2 c_3 : Nat) (oc : Ob) (ow : Ob) : va_W := [(x_h, .inr (5, [.ref c_h, .ref i_h, .ref k_h, .ref f_h, .ref w_h, .ref n_h, .ref s_h, .ref t_h])), (c_h, .inr (0, [.ref c_0, .ref c_1, .ref c_2, .ref c_3, .int (oc 4 0), .int (oc 5 0), .int (oc 6 0)])), (c_0, .inl (cZ, 8, .inl (oc 0))), (c_1, .inl (cI, 8, .inl (oc 1))), (c_2, .inl (cI, 8, .inl (oc 2))), (c_3, .inl (cI, 8, .inl (oc 3))), (w_h, .inr (4, [.int (ow 0 0), .int (ow 1 0), .int (ow 2 0), .int (ow 3 0), .int (ow 4 0), .int (ow 5 0), .int (ow 6 0), .int (ow 7 0), .int (ow 8 0), .int (ow 9 0), .int (ow 10 0), .int (ow 11 0), .int (ow 12 0), .int (ow 13 0), .int (ow 14 0), .int (ow 15 0)]))]
def L_X5_pair_54 : Nat → Int32 → Int32 → Ob → (Ob → Option (Int32 × Ob)) → Option (Int32 × Ob)
  | 0, _, _, _, _ => none
  | n19 + 1, p2, v16, ow17, K8 =>
    (if p2 ≤ v16 then K8 ow17 else (F_X4_step ow17).bind (fun q21 => dd (v16 + 1) (fun (v22 : Int32) => L_X5_pair_54 n19 p2 v22 q21 K8)))
def F_X5_pair (oc : Ob) (ow : Ob) (p0 : Int32) (p1 : Int32) (p2 : Int32) (p3 : Int32) : Option (Int32 × Ob) :=
  (F_X0_canTie oc p0 p1).bind (fun q1 => (if q1 = 0 then some ((-1), ow) else (F_X5_isWithin p2 0 999).bind (fun q3 => (if q3 = 0 then some ((-2), ow) else (F_X5_isWithin p3 0 4).bind (fun q5 => (if q5 = 0 then some ((-2), ow) else (F_X4_tie ow oc p0 p1).bind (fun q7 => jn (fun (ow9 : Ob) => (if p3 = 0 then (F_X4_time ow9).bind (fun q11 => some (q11, ow9)) else (if p3 = 1 then some ((ow9 11 0), ow9) else (if p3 = 2 then some ((ow9 12 0), ow9) else (if p3 = 3 then some ((ow9 13 0), ow9) else (F_X4_apart ow9).bind (fun q15 => some (q15, ow9))))))) (fun (K8 : Ob → Option (Int32 × Ob)) => L_X5_pair_54 2000 p2 0 q7 K8))))))))
abbrev rm_X5_pair : Room := { frames := 3, cells := 0, slots := 0, locals := 66 }
abbrev wu_X5_pair : List Cond := .code yX5_pair cX5_pair 6 (some .int) :: lwG
set_option maxHeartbeats 20000000 in
set_option maxRecDepth 100000 in
theorem c_X5_pair (l : Launch) (D : va_G) (cI cZ cO : ClassId) (x_h c_h i_h k_h f_h w_h n_h s_h t_h c_0 c_1 c_2 c_3 : Nat) (sz : Nat) (oc : Ob) (ow : Ob) (p0 : Int32) (p1 : Int32) (p2 : Int32) (p3 : Int32) (q : Int32 × Ob) (hF : F_X5_pair oc ow p0 p1 p2 p3 = some q) : CtI l yX5_pair wu_X5_pair rm_X5_pair D vwCl (tyL cI cZ cO) [.ref x_h, .int p0, .int p1, .int p2, .int p3] (wm_X5_pair cI cZ cO x_h c_h i_h k_h f_h w_h n_h s_h t_h c_0 c_1 c_2 c_3 oc ow) sz 0 0 (fun (r : Int32) (u : Ob) => r = q.1 ∧ u = q.2) (fun u => wm_X5_pair cI cZ cO x_h c_h i_h k_h f_h w_h n_h s_h t_h c_0 c_1 c_2 c_3 oc u) := by
  refine mk_i (cc := cX5_pair) (maxL := 6) (by decide) rfl (Nat.le_of_ble_eq_true rfl) ?_
  intro p e s m args below meth c A ls Q hx hb hml hown hts hin hK hP hD hS hA hl hQ
  have hl : lv_has ls 6 [(0, .ref x_h), (1, .int p0), (2, .int p1), (3, .int p2), (4, .int p3)] := hl
  unfold F_X5_pair at hF
  refine lv_aload_n hx hb dX5_pair_0 rfl (lv_at hl 0 rfl) ?_
  refine va_get (D := D) (ci := 5) (v := .ref c_h) (C := RX5) (T := TX5) (N := 8) hx hb hts in_X5 hown hK hP 0 rfl rfl 0 (by decide) (hts _ wd_211) (fun _ h9 => h9) rfl dX5_pair_1 ?_
  refine lv_iload_n hx hb dX5_pair_4 rfl (lv_at hl 1 rfl) ?_
  refine lv_iload_n hx hb dX5_pair_5 rfl (lv_at hl 2 rfl) ?_
  obtain ⟨q1, hGq1, hF⟩ := of_bind hF
  refine callVi (As := [.int p0, .int p1]) (rest := []) (wr := [(x_h, .inr (5, [.ref c_h, .ref i_h, .ref k_h, .ref f_h, .ref w_h, .ref n_h, .ref s_h, .ref t_h])), (w_h, .inr (4, [.int (ow 0 0), .int (ow 1 0), .int (ow 2 0), .int (ow 3 0), .int (ow 4 0), .int (ow 5 0), .int (ow 6 0), .int (ow 7 0), .int (ow 8 0), .int (ow 9 0), .int (ow 10 0), .int (ow 11 0), .int (ow 12 0), .int (ow 13 0), .int (ow 14 0), .int (ow 15 0)]))]) (WN := wm_X5_pair cI cZ cO x_h c_h i_h k_h f_h w_h n_h s_h t_h c_0 c_1 c_2 c_3 oc ow) ⟨hx, hb, hml, hown, hts⟩ hK hP hD hS hA [1, 2, 3, 4, 5] [0, 6] [0, 2, 3, 4, 5, 6, 1] (c_X0_canTie l D cI cZ cO c_h c_0 c_1 c_2 c_3 _ oc p0 p1 q1 hGq1) (cwV 2 hts (gV wd_294 wd_295 wd_296 wd_34 wd_297) rfl rfl rfl (by decide +kernel) ⟨Nat.le_of_ble_eq_true rfl, Nat.le_of_ble_eq_true rfl⟩) 0 0 rfl rfl rfl rfl rfl rfl rfl (by decide) rfl rfl rfl hl.1 rfl (Nat.le_of_ble_eq_true rfl) dX5_pair_6 ⟨Nat.zero_le _, Nat.zero_le _⟩ (fun H locs hP hD hS => ?_)
  refine lv_if_ne (tgt := 14) hx hb dX5_pair_9 (by decide) (fun h2 => ?_) (fun h2 => ?_)
  · replace hF := of_f h2 hF
    refine lv_iload_n hx hb dX5_pair_14 rfl (lv_at hl 3 rfl) ?_
    refine lv_iconst (v := 0) hx hb dX5_pair_15 (by decide) ?_
    refine lv_sipush (v := 999) hx hb dX5_pair_16 (by decide) ?_
    obtain ⟨q3, hGq3, hF⟩ := of_bind hF
    refine callSi (As := [.int p2, .int 0, .int 999]) (rest := []) ⟨hx, hb, hml, hown, hts⟩ hK hP hD hS hA (c_X5_isWithin l D cI cZ cO  _ p2 0 999 q3 hGq3) (va_cwS 3 hts (gS wd_240 wd_241 wd_33 wd_242) rfl rfl rfl (by decide +kernel) ⟨Nat.le_of_ble_eq_true rfl, Nat.le_of_ble_eq_true rfl⟩) rfl hl.1 rfl (Nat.le_of_ble_eq_true rfl) dX5_pair_19 ⟨Nat.zero_le _, Nat.zero_le _⟩ (fun H locs hP hS => ?_)
    refine lv_if_eq (tgt := 35) hx hb dX5_pair_22 (by decide) (fun h4 => ?_) (fun h4 => ?_)
    · replace hF := of_t h4 hF
      refine lv_bipush (v := (-2)) hx hb dX5_pair_35 (by decide) ?_
      exact hQ _ _ _ _ _ ow ⟨inj_fst hF, inj_snd hF⟩ hP hD hS dX5_pair_37
    · replace hF := of_f h4 hF
      refine lv_iload hx hb dX5_pair_25 (lv_at hl 4 rfl) ?_
      refine lv_iconst (v := 0) hx hb dX5_pair_27 (by decide) ?_
      refine lv_iconst (v := 4) hx hb dX5_pair_28 (by decide) ?_
      obtain ⟨q5, hGq5, hF⟩ := of_bind hF
      refine callSi (As := [.int p3, .int 0, .int 4]) (rest := []) ⟨hx, hb, hml, hown, hts⟩ hK hP hD hS hA (c_X5_isWithin l D cI cZ cO  _ p3 0 4 q5 hGq5) (va_cwS 3 hts (gS wd_240 wd_241 wd_33 wd_242) rfl rfl rfl (by decide +kernel) ⟨Nat.le_of_ble_eq_true rfl, Nat.le_of_ble_eq_true rfl⟩) rfl hl.1 rfl (Nat.le_of_ble_eq_true rfl) dX5_pair_29 ⟨Nat.zero_le _, Nat.zero_le _⟩ (fun H locs hP hS => ?_)
      refine lv_if_ne (tgt := 38) hx hb dX5_pair_32 (by decide) (fun h6 => ?_) (fun h6 => ?_)
      · replace hF := of_f h6 hF
        refine lv_aload_n hx hb dX5_pair_38 rfl (lv_at hl 0 rfl) ?_
        refine va_get (D := D) (ci := 5) (v := .ref w_h) (C := RX5) (T := TX5) (N := 8) hx hb hts in_X5 hown hK hP 0 rfl rfl 4 (by decide) (hts _ wd_215) (fun _ h9 => h9) rfl dX5_pair_39 ?_
        refine lv_aload_n hx hb dX5_pair_42 rfl (lv_at hl 0 rfl) ?_
        refine va_get (D := D) (ci := 5) (v := .ref c_h) (C := RX5) (T := TX5) (N := 8) hx hb hts in_X5 hown hK hP 0 rfl rfl 0 (by decide) (hts _ wd_211) (fun _ h9 => h9) rfl dX5_pair_43 ?_
        refine lv_iload_n hx hb dX5_pair_46 rfl (lv_at hl 1 rfl) ?_
        refine lv_iload_n hx hb dX5_pair_47 rfl (lv_at hl 2 rfl) ?_
        obtain ⟨q7, hGq7, hF⟩ := of_bind hF
        refine callVv (As := [.ref c_h, .int p0, .int p1]) (rest := []) (wr := [(x_h, .inr (5, [.ref c_h, .ref i_h, .ref k_h, .ref f_h, .ref w_h, .ref n_h, .ref s_h, .ref t_h]))]) (WN := wm_X5_pair cI cZ cO x_h c_h i_h k_h f_h w_h n_h s_h t_h c_0 c_1 c_2 c_3 oc q7) ⟨hx, hb, hml, hown, hts⟩ hK hP hD hS hA [6, 1, 2, 3, 4, 5] [0] [0, 2, 3, 4, 5, 6, 1] (c_X4_tie l D cI cZ cO w_h c_h c_0 c_1 c_2 c_3 _ ow oc p0 p1 q7 hGq7) (cwV 3 hts (gV wd_298 wd_299 wd_300 wd_36 wd_301) rfl rfl rfl (by decide +kernel) ⟨Nat.le_of_ble_eq_true rfl, Nat.le_of_ble_eq_true rfl⟩) 0 4 rfl rfl rfl rfl rfl rfl rfl (by decide) rfl rfl rfl hl.1 rfl (Nat.le_of_ble_eq_true rfl) dX5_pair_48 ⟨Nat.zero_le _, Nat.zero_le _⟩ (fun H locs hP hD hS => ?_)
        refine lv_iconst (v := 0) hx hb dX5_pair_51 (by decide) ?_
        refine lv_istore (lv' := [(5, .int 0), (0, .ref x_h), (1, .int p0), (2, .int p1), (3, .int p2), (4, .int p3)]) hx hb dX5_pair_52 hl (by decide) rfl (fun ls hl => ?_)
        obtain ⟨K8, eK8, hF⟩ := of_jn hF
        have hK8 : ∀ (ow9 : Ob) (ls : Array Slot) (H : Heap) (locs : List Loc), lv_has ls 6 [(0, .ref x_h), (4, .int p3)] → va_P D vwCl (wm_X5_pair cI cZ cO x_h c_h i_h k_h f_h w_h n_h s_h t_h c_0 c_1 c_2 c_3 oc ow9) H → va_D A (wm_X5_pair cI cZ cO x_h c_h i_h k_h f_h w_h n_h s_h t_h c_0 c_1 c_2 c_3 oc ow9) → va_S A s.heap H locs → K8 ow9 = some q → W p l e rm_X5_pair s m args below meth c H locs 0 0 Q (F0 m 73 ls []) := by
          intro ow9 ls H locs hl hP hD hS hF
          subst eK8
          refine lv_iload hx hb dX5_pair_73 (lv_at hl 1 rfl) ?_
          by_cases h10 : p3 = 0
          · replace hF := of_t h10 hF
            refine lv_tableIn (off := 29) (tgt := 104) hx hb dX5_pair_75 (by rw [h10]; decide) (by rw [h10]; decide) (by rw [h10]; decide +kernel) (by decide) ?_
            refine lv_aload_n hx hb dX5_pair_104 rfl (lv_at hl 0 rfl) ?_
            refine va_get (D := D) (ci := 5) (v := .ref w_h) (C := RX5) (T := TX5) (N := 8) hx hb hts in_X5 hown hK hP 0 rfl rfl 4 (by decide) (hts _ wd_215) (fun _ h9 => h9) rfl dX5_pair_105 ?_
            obtain ⟨q11, hGq11, hF⟩ := of_bind hF
            refine callVi (As := []) (rest := []) (wr := [(x_h, .inr (5, [.ref c_h, .ref i_h, .ref k_h, .ref f_h, .ref w_h, .ref n_h, .ref s_h, .ref t_h])), (c_h, .inr (0, [.ref c_0, .ref c_1, .ref c_2, .ref c_3, .int (oc 4 0), .int (oc 5 0), .int (oc 6 0)])), (c_0, .inl (cZ, 8, .inl (oc 0))), (c_1, .inl (cI, 8, .inl (oc 1))), (c_2, .inl (cI, 8, .inl (oc 2))), (c_3, .inl (cI, 8, .inl (oc 3)))]) (WN := wm_X5_pair cI cZ cO x_h c_h i_h k_h f_h w_h n_h s_h t_h c_0 c_1 c_2 c_3 oc ow9) ⟨hx, hb, hml, hown, hts⟩ hK hP hD hS hA [6] [0, 1, 2, 3, 4, 5] [0, 1, 2, 3, 4, 5, 6] (c_X4_time l D cI cZ cO w_h _ ow9 q11 hGq11) (cwV 0 hts (gV wd_320 wd_321 wd_322 wd_36 wd_323) rfl rfl rfl (by decide +kernel) ⟨Nat.le_of_ble_eq_true rfl, Nat.le_of_ble_eq_true rfl⟩) 0 4 rfl rfl rfl rfl rfl rfl rfl (by decide) rfl rfl rfl hl.1 rfl (Nat.le_of_ble_eq_true rfl) dX5_pair_108 ⟨Nat.zero_le _, Nat.zero_le _⟩ (fun H locs hP hD hS => ?_)
            exact hQ _ _ _ _ _ ow9 ⟨inj_fst hF, inj_snd hF⟩ hP hD hS dX5_pair_111
          · replace hF := of_f h10 hF
            by_cases h12 : p3 = 1
            · replace hF := of_t h12 hF
              refine lv_tableIn (off := 37) (tgt := 112) hx hb dX5_pair_75 (by rw [h12]; decide) (by rw [h12]; decide) (by rw [h12]; decide +kernel) (by decide) ?_
              refine lv_aload_n hx hb dX5_pair_112 rfl (lv_at hl 0 rfl) ?_
              refine va_get (D := D) (ci := 5) (v := .ref w_h) (C := RX5) (T := TX5) (N := 8) hx hb hts in_X5 hown hK hP 0 rfl rfl 4 (by decide) (hts _ wd_215) (fun _ h9 => h9) rfl dX5_pair_113 ?_
              refine va_get (D := D) (ci := 4) (v := .int (ow9 11 0)) (C := RX4) (T := TX4) (N := 16) hx hb hts in_X4 hown hK hP 6 rfl rfl 11 (by decide) (hts _ wd_128) (fun _ h9 => h9) rfl dX5_pair_116 ?_
              exact hQ _ _ _ _ _ ow9 ⟨inj_fst hF, inj_snd hF⟩ hP hD hS dX5_pair_119
            · replace hF := of_f h12 hF
              by_cases h13 : p3 = 2
              · replace hF := of_t h13 hF
                refine lv_tableIn (off := 45) (tgt := 120) hx hb dX5_pair_75 (by rw [h13]; decide) (by rw [h13]; decide) (by rw [h13]; decide +kernel) (by decide) ?_
                refine lv_aload_n hx hb dX5_pair_120 rfl (lv_at hl 0 rfl) ?_
                refine va_get (D := D) (ci := 5) (v := .ref w_h) (C := RX5) (T := TX5) (N := 8) hx hb hts in_X5 hown hK hP 0 rfl rfl 4 (by decide) (hts _ wd_215) (fun _ h9 => h9) rfl dX5_pair_121 ?_
                refine va_get (D := D) (ci := 4) (v := .int (ow9 12 0)) (C := RX4) (T := TX4) (N := 16) hx hb hts in_X4 hown hK hP 6 rfl rfl 12 (by decide) (hts _ wd_130) (fun _ h9 => h9) rfl dX5_pair_124 ?_
                exact hQ _ _ _ _ _ ow9 ⟨inj_fst hF, inj_snd hF⟩ hP hD hS dX5_pair_127
              · replace hF := of_f h13 hF
                by_cases h14 : p3 = 3
                · replace hF := of_t h14 hF
                  refine lv_tableIn (off := 53) (tgt := 128) hx hb dX5_pair_75 (by rw [h14]; decide) (by rw [h14]; decide) (by rw [h14]; decide +kernel) (by decide) ?_
                  refine lv_aload_n hx hb dX5_pair_128 rfl (lv_at hl 0 rfl) ?_
                  refine va_get (D := D) (ci := 5) (v := .ref w_h) (C := RX5) (T := TX5) (N := 8) hx hb hts in_X5 hown hK hP 0 rfl rfl 4 (by decide) (hts _ wd_215) (fun _ h9 => h9) rfl dX5_pair_129 ?_
                  refine va_get (D := D) (ci := 4) (v := .int (ow9 13 0)) (C := RX4) (T := TX4) (N := 16) hx hb hts in_X4 hown hK hP 6 rfl rfl 13 (by decide) (hts _ wd_132) (fun _ h9 => h9) rfl dX5_pair_132 ?_
                  exact hQ _ _ _ _ _ ow9 ⟨inj_fst hF, inj_snd hF⟩ hP hD hS dX5_pair_135
                · replace hF := of_f h14 hF
                  refine lv_tableOut (tgt := 136) hx hb dX5_pair_75 (tab_out (fun k g1 g2 => by
                        have g3 : k = 0 ∨ k = 1 ∨ k = 2 ∨ k = 3 := by omega
                        rcases g3 with rfl | rfl | rfl | rfl
                        · exact h10
                        · exact h12
                        · exact h13
                        · exact h14)) (by decide) ?_
                  refine lv_aload_n hx hb dX5_pair_136 rfl (lv_at hl 0 rfl) ?_
                  refine va_get (D := D) (ci := 5) (v := .ref w_h) (C := RX5) (T := TX5) (N := 8) hx hb hts in_X5 hown hK hP 0 rfl rfl 4 (by decide) (hts _ wd_215) (fun _ h9 => h9) rfl dX5_pair_137 ?_
                  obtain ⟨q15, hGq15, hF⟩ := of_bind hF
                  refine callVi (As := []) (rest := []) (wr := [(x_h, .inr (5, [.ref c_h, .ref i_h, .ref k_h, .ref f_h, .ref w_h, .ref n_h, .ref s_h, .ref t_h])), (c_h, .inr (0, [.ref c_0, .ref c_1, .ref c_2, .ref c_3, .int (oc 4 0), .int (oc 5 0), .int (oc 6 0)])), (c_0, .inl (cZ, 8, .inl (oc 0))), (c_1, .inl (cI, 8, .inl (oc 1))), (c_2, .inl (cI, 8, .inl (oc 2))), (c_3, .inl (cI, 8, .inl (oc 3)))]) (WN := wm_X5_pair cI cZ cO x_h c_h i_h k_h f_h w_h n_h s_h t_h c_0 c_1 c_2 c_3 oc ow9) ⟨hx, hb, hml, hown, hts⟩ hK hP hD hS hA [6] [0, 1, 2, 3, 4, 5] [0, 1, 2, 3, 4, 5, 6] (c_X4_apart l D cI cZ cO w_h _ ow9 q15 hGq15) (cwV 0 hts (gV wd_324 wd_314 wd_315 wd_36 wd_316) rfl rfl rfl (by decide +kernel) ⟨Nat.le_of_ble_eq_true rfl, Nat.le_of_ble_eq_true rfl⟩) 0 4 rfl rfl rfl rfl rfl rfl rfl (by decide) rfl rfl rfl hl.1 rfl (Nat.le_of_ble_eq_true rfl) dX5_pair_140 ⟨Nat.zero_le _, Nat.zero_le _⟩ (fun H locs hP hD hS => ?_)
                  exact hQ _ _ _ _ _ ow9 ⟨inj_fst hF, inj_snd hF⟩ hP hD hS dX5_pair_143
        have hloop23 : ∀ (n19 : Nat) (v16 : Int32) (ow17 : Ob) (ls : Array Slot) (H : Heap) (locs : List Loc), lv_has ls 6 [(0, .ref x_h), (3, .int p2), (4, .int p3), (5, .int v16)] → va_P D vwCl (wm_X5_pair cI cZ cO x_h c_h i_h k_h f_h w_h n_h s_h t_h c_0 c_1 c_2 c_3 oc ow17) H → va_D A (wm_X5_pair cI cZ cO x_h c_h i_h k_h f_h w_h n_h s_h t_h c_0 c_1 c_2 c_3 oc ow17) → va_S A s.heap H locs → L_X5_pair_54 n19 p2 v16 ow17 K8 = some q → W p l e rm_X5_pair s m args below meth c H locs 0 0 Q (F0 m 54 ls []) := by
          intro n19
          induction n19 with
          | zero =>
            intro v16 ow17 ls H locs hl hP hD hS hF
            exact of_none hF
          | succ n19 ih18 =>
            intro v16 ow17 ls H locs hl hP hD hS hF
            rw [L_X5_pair_54.eq_2] at hF
            refine lv_iload hx hb dX5_pair_54 (lv_at hl 3 rfl) ?_
            refine lv_iload_n hx hb dX5_pair_56 rfl (lv_at hl 1 rfl) ?_
            refine lv_icmp_ge (tgt := 73) hx hb dX5_pair_57 (by decide) (fun h20 => ?_) (fun h20 => ?_)
            · replace hF := of_t h20 hF
              exact hK8 ow17 ls _ _ (lv_sub hl [0, 2] rfl) hP hD hS hF
            · replace hF := of_f h20 hF
              refine lv_aload_n hx hb dX5_pair_60 rfl (lv_at hl 0 rfl) ?_
              refine va_get (D := D) (ci := 5) (v := .ref w_h) (C := RX5) (T := TX5) (N := 8) hx hb hts in_X5 hown hK hP 0 rfl rfl 4 (by decide) (hts _ wd_215) (fun _ h9 => h9) rfl dX5_pair_61 ?_
              obtain ⟨q21, hGq21, hF⟩ := of_bind hF
              refine callVv (As := []) (rest := []) (wr := [(x_h, .inr (5, [.ref c_h, .ref i_h, .ref k_h, .ref f_h, .ref w_h, .ref n_h, .ref s_h, .ref t_h])), (c_h, .inr (0, [.ref c_0, .ref c_1, .ref c_2, .ref c_3, .int (oc 4 0), .int (oc 5 0), .int (oc 6 0)])), (c_0, .inl (cZ, 8, .inl (oc 0))), (c_1, .inl (cI, 8, .inl (oc 1))), (c_2, .inl (cI, 8, .inl (oc 2))), (c_3, .inl (cI, 8, .inl (oc 3)))]) (WN := wm_X5_pair cI cZ cO x_h c_h i_h k_h f_h w_h n_h s_h t_h c_0 c_1 c_2 c_3 oc q21) ⟨hx, hb, hml, hown, hts⟩ hK hP hD hS hA [6] [0, 1, 2, 3, 4, 5] [0, 1, 2, 3, 4, 5, 6] (c_X4_step l D cI cZ cO w_h _ ow17 q21 hGq21) (cwV 0 hts (gV wd_306 wd_307 wd_308 wd_36 wd_309) rfl rfl rfl (by decide +kernel) ⟨Nat.le_of_ble_eq_true rfl, Nat.le_of_ble_eq_true rfl⟩) 0 4 rfl rfl rfl rfl rfl rfl rfl (by decide) rfl rfl rfl hl.1 rfl (Nat.le_of_ble_eq_true rfl) dX5_pair_64 ⟨Nat.zero_le _, Nat.zero_le _⟩ (fun H locs hP hD hS => ?_)
              obtain ⟨v22, ev22⟩ : ∃ y : Int32, y = v16 + 1 := ⟨_, rfl⟩
              replace hF := of_dd hF v22 ev22
              refine lv_iinc (v := v22) (lv' := [(5, .int v22), (0, .ref x_h), (3, .int p2), (4, .int p3)]) hx hb dX5_pair_67 hl (k := 3) rfl (by rw [ev22]; rfl) (by decide) rfl (fun ls hl => ?_)
              refine lv_goto (tgt := 54) hx hb dX5_pair_70 (by decide) ?_
              exact ih18 v22 q21 ls _ _ (lv_sub hl [1, 2, 3, 0] rfl) hP hD hS hF
        exact hloop23 2000 0 q7 ls _ _ (lv_sub hl [1, 4, 5, 0] rfl) hP hD hS hF
      · replace hF := of_t h6 hF
        refine lv_bipush (v := (-2)) hx hb dX5_pair_35 (by decide) ?_
        exact hQ _ _ _ _ _ ow ⟨inj_fst hF, inj_snd hF⟩ hP hD hS dX5_pair_37
  · replace hF := of_t h2 hF
    refine lv_iconst (v := (-1)) hx hb dX5_pair_12 (by decide) ?_
    exact hQ _ _ _ _ _ ow ⟨inj_fst hF, inj_snd hF⟩ hP hD hS dX5_pair_13

/-! ### ThreeLegs.isFeet(I)Z -/
abbrev wm_X5_isFeet (cI cZ cO : ClassId)   : va_W := []
def F_X5_isFeet  (p0 : Int32) : Option (Int32) :=
  (F_X5_isWithin p0 1 999).bind (fun q1 => gz q1 (some q1))
abbrev rm_X5_isFeet : Room := { frames := 1, cells := 0, slots := 0, locals := 22 }
abbrev wu_X5_isFeet : List Cond := .code yX5_isFeet cX5_isFeet 1 (some .boolean) :: lwG
set_option maxHeartbeats 20000000 in
set_option maxRecDepth 100000 in
theorem c_X5_isFeet (l : Launch) (D : va_G) (cI cZ cO : ClassId)  (sz : Nat)  (p0 : Int32) (q : Int32) (hF : F_X5_isFeet p0 = some q) : CtI l yX5_isFeet wu_X5_isFeet rm_X5_isFeet D vwCl (tyL cI cZ cO) [.int p0] (wm_X5_isFeet cI cZ cO) sz 0 0 (fun (r : Int32) (u : Unit) => r = q ∧ u = ()) (fun u => wm_X5_isFeet cI cZ cO) := by
  refine mk_z (cc := cX5_isFeet) (maxL := 1) (by decide) rfl (Nat.le_of_ble_eq_true rfl) ?_
  intro p e s m args below meth c A ls Q hx hb hml hown hts hin hK hP hD hS hA hl hQ
  have hl : lv_has ls 1 [(0, .int p0)] := hl
  unfold F_X5_isFeet at hF
  refine lv_iload_n hx hb dX5_isFeet_0 rfl (lv_at hl 0 rfl) ?_
  refine lv_iconst (v := 1) hx hb dX5_isFeet_1 (by decide) ?_
  refine lv_sipush (v := 999) hx hb dX5_isFeet_2 (by decide) ?_
  obtain ⟨q1, hGq1, hF⟩ := of_bind hF
  refine callSi (As := [.int p0, .int 1, .int 999]) (rest := []) ⟨hx, hb, hml, hown, hts⟩ hK hP hD hS hA (c_X5_isWithin l D cI cZ cO  _ p0 1 999 q1 hGq1) (va_cwS 3 hts (gS wd_240 wd_241 wd_33 wd_242) rfl rfl rfl (by decide +kernel) ⟨Nat.le_of_ble_eq_true rfl, Nat.le_of_ble_eq_true rfl⟩) rfl hl.1 rfl (Nat.le_of_ble_eq_true rfl) dX5_isFeet_5 ⟨Nat.zero_le _, Nat.zero_le _⟩ (fun H locs hP hS => ?_)
  obtain ⟨hz2, hF⟩ := of_gz hF
  exact hQ _ _ _ _ _ () hz2.1 ⟨Option.some.inj hF, rfl⟩ hP hD hS dX5_isFeet_8

/-! ### ThreeLegs.refusalOfRace(IIII)I -/
abbrev wm_X5_refusalOfRace (cI cZ cO : ClassId) (x_h c_h i_h k_h f_h w_h n_h s_h t_h c_0 c_1 c_2 c_3 : Nat) (oc : Ob) : va_W := [(x_h, .inr (5, [.ref c_h, .ref i_h, .ref k_h, .ref f_h, .ref w_h, .ref n_h, .ref s_h, .ref t_h])), (c_h, .inr (0, [.ref c_0, .ref c_1, .ref c_2, .ref c_3, .int (oc 4 0), .int (oc 5 0), .int (oc 6 0)])), (c_0, .inl (cZ, 8, .inl (oc 0))), (c_1, .inl (cI, 8, .inl (oc 1))), (c_2, .inl (cI, 8, .inl (oc 2))), (c_3, .inl (cI, 8, .inl (oc 3)))]
def F_X5_refusalOfRace (oc : Ob) (p0 : Int32) (p1 : Int32) (p2 : Int32) (p3 : Int32) : Option (Int32) :=
  (F_X0_canTie oc p0 p1).bind (fun q1 => (if q1 = 0 then some (-1) else (F_X5_isFeet p2).bind (fun q3 => (if q3 = 0 then some (-2) else (F_X5_isWithin p3 0 1).bind (fun q5 => (if q5 = 0 then some (-2) else some 0))))))
abbrev rm_X5_refusalOfRace : Room := { frames := 2, cells := 0, slots := 0, locals := 43 }
abbrev wu_X5_refusalOfRace : List Cond := .code yX5_refusalOfRace cX5_refusalOfRace 5 (some .int) :: lwG
set_option maxHeartbeats 20000000 in
set_option maxRecDepth 100000 in
theorem c_X5_refusalOfRace (l : Launch) (D : va_G) (cI cZ cO : ClassId) (x_h c_h i_h k_h f_h w_h n_h s_h t_h c_0 c_1 c_2 c_3 : Nat) (sz : Nat) (oc : Ob) (p0 : Int32) (p1 : Int32) (p2 : Int32) (p3 : Int32) (q : Int32) (hF : F_X5_refusalOfRace oc p0 p1 p2 p3 = some q) : CtI l yX5_refusalOfRace wu_X5_refusalOfRace rm_X5_refusalOfRace D vwCl (tyL cI cZ cO) [.ref x_h, .int p0, .int p1, .int p2, .int p3] (wm_X5_refusalOfRace cI cZ cO x_h c_h i_h k_h f_h w_h n_h s_h t_h c_0 c_1 c_2 c_3 oc) sz 0 0 (fun (r : Int32) (u : Unit) => r = q ∧ u = ()) (fun u => wm_X5_refusalOfRace cI cZ cO x_h c_h i_h k_h f_h w_h n_h s_h t_h c_0 c_1 c_2 c_3 oc) := by
  refine mk_i (cc := cX5_refusalOfRace) (maxL := 5) (by decide) rfl (Nat.le_of_ble_eq_true rfl) ?_
  intro p e s m args below meth c A ls Q hx hb hml hown hts hin hK hP hD hS hA hl hQ
  have hl : lv_has ls 5 [(0, .ref x_h), (1, .int p0), (2, .int p1), (3, .int p2), (4, .int p3)] := hl
  unfold F_X5_refusalOfRace at hF
  refine lv_aload_n hx hb dX5_refusalOfRace_0 rfl (lv_at hl 0 rfl) ?_
  refine va_get (D := D) (ci := 5) (v := .ref c_h) (C := RX5) (T := TX5) (N := 8) hx hb hts in_X5 hown hK hP 0 rfl rfl 0 (by decide) (hts _ wd_211) (fun _ h9 => h9) rfl dX5_refusalOfRace_1 ?_
  refine lv_iload_n hx hb dX5_refusalOfRace_4 rfl (lv_at hl 1 rfl) ?_
  refine lv_iload_n hx hb dX5_refusalOfRace_5 rfl (lv_at hl 2 rfl) ?_
  obtain ⟨q1, hGq1, hF⟩ := of_bind hF
  refine callVi (As := [.int p0, .int p1]) (rest := []) (wr := [(x_h, .inr (5, [.ref c_h, .ref i_h, .ref k_h, .ref f_h, .ref w_h, .ref n_h, .ref s_h, .ref t_h]))]) (WN := wm_X5_refusalOfRace cI cZ cO x_h c_h i_h k_h f_h w_h n_h s_h t_h c_0 c_1 c_2 c_3 oc) ⟨hx, hb, hml, hown, hts⟩ hK hP hD hS hA [1, 2, 3, 4, 5] [0] [0, 1, 2, 3, 4, 5] (c_X0_canTie l D cI cZ cO c_h c_0 c_1 c_2 c_3 _ oc p0 p1 q1 hGq1) (cwV 2 hts (gV wd_294 wd_295 wd_296 wd_34 wd_297) rfl rfl rfl (by decide +kernel) ⟨Nat.le_of_ble_eq_true rfl, Nat.le_of_ble_eq_true rfl⟩) 0 0 rfl rfl rfl rfl rfl rfl rfl (by decide) rfl rfl rfl hl.1 rfl (Nat.le_of_ble_eq_true rfl) dX5_refusalOfRace_6 ⟨Nat.zero_le _, Nat.zero_le _⟩ (fun H locs hP hD hS => ?_)
  refine lv_if_ne (tgt := 14) hx hb dX5_refusalOfRace_9 (by decide) (fun h2 => ?_) (fun h2 => ?_)
  · replace hF := of_f h2 hF
    refine lv_iload_n hx hb dX5_refusalOfRace_14 rfl (lv_at hl 3 rfl) ?_
    obtain ⟨q3, hGq3, hF⟩ := of_bind hF
    refine callSi (As := [.int p2]) (rest := []) ⟨hx, hb, hml, hown, hts⟩ hK hP hD hS hA (c_X5_isFeet l D cI cZ cO  _ p2 q3 hGq3) (va_cwS 1 hts (gS wd_333 wd_334 wd_33 wd_335) rfl rfl rfl (by decide +kernel) ⟨Nat.le_of_ble_eq_true rfl, Nat.le_of_ble_eq_true rfl⟩) rfl hl.1 rfl (Nat.le_of_ble_eq_true rfl) dX5_refusalOfRace_15 ⟨Nat.zero_le _, Nat.zero_le _⟩ (fun H locs hP hS => ?_)
    refine lv_if_eq (tgt := 35) hx hb dX5_refusalOfRace_18 (by decide) (fun h4 => ?_) (fun h4 => ?_)
    · replace hF := of_t h4 hF
      refine lv_bipush (v := (-2)) hx hb dX5_refusalOfRace_35 (by decide) ?_
      exact hQ _ _ _ _ _ () ⟨Option.some.inj hF, rfl⟩ hP hD hS dX5_refusalOfRace_37
    · replace hF := of_f h4 hF
      refine lv_iload hx hb dX5_refusalOfRace_21 (lv_at hl 4 rfl) ?_
      refine lv_iconst (v := 0) hx hb dX5_refusalOfRace_23 (by decide) ?_
      refine lv_iconst (v := 1) hx hb dX5_refusalOfRace_24 (by decide) ?_
      obtain ⟨q5, hGq5, hF⟩ := of_bind hF
      refine callSi (As := [.int p3, .int 0, .int 1]) (rest := []) ⟨hx, hb, hml, hown, hts⟩ hK hP hD hS hA (c_X5_isWithin l D cI cZ cO  _ p3 0 1 q5 hGq5) (va_cwS 3 hts (gS wd_240 wd_241 wd_33 wd_242) rfl rfl rfl (by decide +kernel) ⟨Nat.le_of_ble_eq_true rfl, Nat.le_of_ble_eq_true rfl⟩) rfl hl.1 rfl (Nat.le_of_ble_eq_true rfl) dX5_refusalOfRace_25 ⟨Nat.zero_le _, Nat.zero_le _⟩ (fun H locs hP hS => ?_)
      refine lv_if_eq (tgt := 35) hx hb dX5_refusalOfRace_28 (by decide) (fun h6 => ?_) (fun h6 => ?_)
      · replace hF := of_t h6 hF
        refine lv_bipush (v := (-2)) hx hb dX5_refusalOfRace_35 (by decide) ?_
        exact hQ _ _ _ _ _ () ⟨Option.some.inj hF, rfl⟩ hP hD hS dX5_refusalOfRace_37
      · replace hF := of_f h6 hF
        refine lv_iconst (v := 0) hx hb dX5_refusalOfRace_31 (by decide) ?_
        refine lv_goto (tgt := 37) hx hb dX5_refusalOfRace_32 (by decide) ?_
        exact hQ _ _ _ _ _ () ⟨Option.some.inj hF, rfl⟩ hP hD hS dX5_refusalOfRace_37
  · replace hF := of_t h2 hF
    refine lv_iconst (v := (-1)) hx hb dX5_refusalOfRace_12 (by decide) ?_
    exact hQ _ _ _ _ _ () ⟨Option.some.inj hF, rfl⟩ hP hD hS dX5_refusalOfRace_13

/-! ### ThreeLegs.timeTo(III)I -/
abbrev wm_X5_timeTo (cI cZ cO : ClassId) (x_h c_h i_h k_h f_h w_h n_h s_h t_h c_0 c_1 c_2 c_3 : Nat) (oc : Ob) (ow : Ob) : va_W := [(x_h, .inr (5, [.ref c_h, .ref i_h, .ref k_h, .ref f_h, .ref w_h, .ref n_h, .ref s_h, .ref t_h])), (c_h, .inr (0, [.ref c_0, .ref c_1, .ref c_2, .ref c_3, .int (oc 4 0), .int (oc 5 0), .int (oc 6 0)])), (c_0, .inl (cZ, 8, .inl (oc 0))), (c_1, .inl (cI, 8, .inl (oc 1))), (c_2, .inl (cI, 8, .inl (oc 2))), (c_3, .inl (cI, 8, .inl (oc 3))), (w_h, .inr (4, [.int (ow 0 0), .int (ow 1 0), .int (ow 2 0), .int (ow 3 0), .int (ow 4 0), .int (ow 5 0), .int (ow 6 0), .int (ow 7 0), .int (ow 8 0), .int (ow 9 0), .int (ow 10 0), .int (ow 11 0), .int (ow 12 0), .int (ow 13 0), .int (ow 14 0), .int (ow 15 0)]))]
def F_X5_timeTo (oc : Ob) (ow : Ob) (p0 : Int32) (p1 : Int32) (p2 : Int32) : Option (Int32 × Ob) :=
  (F_X4_tie ow oc p0 p1).bind (fun q1 => (F_X4_timeTo q1 p2 (-1)).bind (fun q2 => some (q2.1, q2.2)))
abbrev rm_X5_timeTo : Room := { frames := 4, cells := 0, slots := 0, locals := 86 }
abbrev wu_X5_timeTo : List Cond := .code yX5_timeTo cX5_timeTo 4 (some .int) :: lwG
set_option maxHeartbeats 20000000 in
set_option maxRecDepth 100000 in
theorem c_X5_timeTo (l : Launch) (D : va_G) (cI cZ cO : ClassId) (x_h c_h i_h k_h f_h w_h n_h s_h t_h c_0 c_1 c_2 c_3 : Nat) (sz : Nat) (oc : Ob) (ow : Ob) (p0 : Int32) (p1 : Int32) (p2 : Int32) (q : Int32 × Ob) (hF : F_X5_timeTo oc ow p0 p1 p2 = some q) : CtI l yX5_timeTo wu_X5_timeTo rm_X5_timeTo D vwCl (tyL cI cZ cO) [.ref x_h, .int p0, .int p1, .int p2] (wm_X5_timeTo cI cZ cO x_h c_h i_h k_h f_h w_h n_h s_h t_h c_0 c_1 c_2 c_3 oc ow) sz 0 0 (fun (r : Int32) (u : Ob) => r = q.1 ∧ u = q.2) (fun u => wm_X5_timeTo cI cZ cO x_h c_h i_h k_h f_h w_h n_h s_h t_h c_0 c_1 c_2 c_3 oc u) := by
  refine mk_i (cc := cX5_timeTo) (maxL := 4) (by decide) rfl (Nat.le_of_ble_eq_true rfl) ?_
  intro p e s m args below meth c A ls Q hx hb hml hown hts hin hK hP hD hS hA hl hQ
  have hl : lv_has ls 4 [(0, .ref x_h), (1, .int p0), (2, .int p1), (3, .int p2)] := hl
  unfold F_X5_timeTo at hF
  refine lv_aload_n hx hb dX5_timeTo_0 rfl (lv_at hl 0 rfl) ?_
  refine va_get (D := D) (ci := 5) (v := .ref w_h) (C := RX5) (T := TX5) (N := 8) hx hb hts in_X5 hown hK hP 0 rfl rfl 4 (by decide) (hts _ wd_215) (fun _ h9 => h9) rfl dX5_timeTo_1 ?_
  refine lv_aload_n hx hb dX5_timeTo_4 rfl (lv_at hl 0 rfl) ?_
  refine va_get (D := D) (ci := 5) (v := .ref c_h) (C := RX5) (T := TX5) (N := 8) hx hb hts in_X5 hown hK hP 0 rfl rfl 0 (by decide) (hts _ wd_211) (fun _ h9 => h9) rfl dX5_timeTo_5 ?_
  refine lv_iload_n hx hb dX5_timeTo_8 rfl (lv_at hl 1 rfl) ?_
  refine lv_iload_n hx hb dX5_timeTo_9 rfl (lv_at hl 2 rfl) ?_
  obtain ⟨q1, hGq1, hF⟩ := of_bind hF
  refine callVv (As := [.ref c_h, .int p0, .int p1]) (rest := []) (wr := [(x_h, .inr (5, [.ref c_h, .ref i_h, .ref k_h, .ref f_h, .ref w_h, .ref n_h, .ref s_h, .ref t_h]))]) (WN := wm_X5_timeTo cI cZ cO x_h c_h i_h k_h f_h w_h n_h s_h t_h c_0 c_1 c_2 c_3 oc q1) ⟨hx, hb, hml, hown, hts⟩ hK hP hD hS hA [6, 1, 2, 3, 4, 5] [0] [0, 2, 3, 4, 5, 6, 1] (c_X4_tie l D cI cZ cO w_h c_h c_0 c_1 c_2 c_3 _ ow oc p0 p1 q1 hGq1) (cwV 3 hts (gV wd_298 wd_299 wd_300 wd_36 wd_301) rfl rfl rfl (by decide +kernel) ⟨Nat.le_of_ble_eq_true rfl, Nat.le_of_ble_eq_true rfl⟩) 0 4 rfl rfl rfl rfl rfl rfl rfl (by decide) rfl rfl rfl hl.1 rfl (Nat.le_of_ble_eq_true rfl) dX5_timeTo_10 ⟨Nat.zero_le _, Nat.zero_le _⟩ (fun H locs hP hD hS => ?_)
  refine lv_aload_n hx hb dX5_timeTo_13 rfl (lv_at hl 0 rfl) ?_
  refine va_get (D := D) (ci := 5) (v := .ref w_h) (C := RX5) (T := TX5) (N := 8) hx hb hts in_X5 hown hK hP 0 rfl rfl 4 (by decide) (hts _ wd_215) (fun _ h9 => h9) rfl dX5_timeTo_14 ?_
  refine lv_iload_n hx hb dX5_timeTo_17 rfl (lv_at hl 3 rfl) ?_
  refine lv_iconst (v := (-1)) hx hb dX5_timeTo_18 (by decide) ?_
  obtain ⟨q2, hGq2, hF⟩ := of_bind hF
  refine callVi (As := [.int p2, .int (-1)]) (rest := []) (wr := [(x_h, .inr (5, [.ref c_h, .ref i_h, .ref k_h, .ref f_h, .ref w_h, .ref n_h, .ref s_h, .ref t_h])), (c_h, .inr (0, [.ref c_0, .ref c_1, .ref c_2, .ref c_3, .int (oc 4 0), .int (oc 5 0), .int (oc 6 0)])), (c_0, .inl (cZ, 8, .inl (oc 0))), (c_1, .inl (cI, 8, .inl (oc 1))), (c_2, .inl (cI, 8, .inl (oc 2))), (c_3, .inl (cI, 8, .inl (oc 3)))]) (WN := wm_X5_timeTo cI cZ cO x_h c_h i_h k_h f_h w_h n_h s_h t_h c_0 c_1 c_2 c_3 oc q2.2) ⟨hx, hb, hml, hown, hts⟩ hK hP hD hS hA [6] [0, 1, 2, 3, 4, 5] [0, 1, 2, 3, 4, 5, 6] (c_X4_timeTo l D cI cZ cO w_h _ q1 p2 (-1) q2 hGq2) (cwV 2 hts (gV wd_340 wd_341 wd_342 wd_36 wd_343) rfl rfl rfl (by decide +kernel) ⟨Nat.le_of_ble_eq_true rfl, Nat.le_of_ble_eq_true rfl⟩) 0 4 rfl rfl rfl rfl rfl rfl rfl (by decide) rfl rfl rfl hl.1 rfl (Nat.le_of_ble_eq_true rfl) dX5_timeTo_19 ⟨Nat.zero_le _, Nat.zero_le _⟩ (fun H locs hP hD hS => ?_)
  exact hQ _ _ _ _ _ q2.2 ⟨inj_fst hF, inj_snd hF⟩ hP hD hS dX5_timeTo_22

/-! ### ThreeLegs.reach(IIII)I -/
abbrev wm_X5_reach (cI cZ cO : ClassId) (x_h c_h i_h k_h f_h w_h n_h s_h t_h c_0 c_1 c_2 c_3 : Nat) (oc : Ob) (ow : Ob) : va_W := [(x_h, .inr (5, [.ref c_h, .ref i_h, .ref k_h, .ref f_h, .ref w_h, .ref n_h, .ref s_h, .ref t_h])), (c_h, .inr (0, [.ref c_0, .ref c_1, .ref c_2, .ref c_3, .int (oc 4 0), .int (oc 5 0), .int (oc 6 0)])), (c_0, .inl (cZ, 8, .inl (oc 0))), (c_1, .inl (cI, 8, .inl (oc 1))), (c_2, .inl (cI, 8, .inl (oc 2))), (c_3, .inl (cI, 8, .inl (oc 3))), (w_h, .inr (4, [.int (ow 0 0), .int (ow 1 0), .int (ow 2 0), .int (ow 3 0), .int (ow 4 0), .int (ow 5 0), .int (ow 6 0), .int (ow 7 0), .int (ow 8 0), .int (ow 9 0), .int (ow 10 0), .int (ow 11 0), .int (ow 12 0), .int (ow 13 0), .int (ow 14 0), .int (ow 15 0)]))]
def F_X5_reach (oc : Ob) (ow : Ob) (p0 : Int32) (p1 : Int32) (p2 : Int32) (p3 : Int32) : Option (Int32 × Ob) :=
  (F_X5_refusalOfRace oc p0 p1 p2 p3).bind (fun q1 => (if q1 = 0 then (F_X5_timeTo oc ow p0 p1 p2).bind (fun q3 => (if q3.1 = (-6) then some ((-6), q3.2) else (if p3 = 0 then dd ((q3.2 10 0) - 1) (fun (v6 : Int32) => some (v6, q3.2)) else some (q3.1, q3.2)))) else some (q1, ow)))
abbrev rm_X5_reach : Room := { frames := 5, cells := 0, slots := 0, locals := 109 }
abbrev wu_X5_reach : List Cond := .code yX5_reach cX5_reach 7 (some .int) :: lwG
set_option maxHeartbeats 20000000 in
set_option maxRecDepth 100000 in
theorem c_X5_reach (l : Launch) (D : va_G) (cI cZ cO : ClassId) (x_h c_h i_h k_h f_h w_h n_h s_h t_h c_0 c_1 c_2 c_3 : Nat) (sz : Nat) (oc : Ob) (ow : Ob) (p0 : Int32) (p1 : Int32) (p2 : Int32) (p3 : Int32) (q : Int32 × Ob) (hF : F_X5_reach oc ow p0 p1 p2 p3 = some q) : CtI l yX5_reach wu_X5_reach rm_X5_reach D vwCl (tyL cI cZ cO) [.ref x_h, .int p0, .int p1, .int p2, .int p3] (wm_X5_reach cI cZ cO x_h c_h i_h k_h f_h w_h n_h s_h t_h c_0 c_1 c_2 c_3 oc ow) sz 0 0 (fun (r : Int32) (u : Ob) => r = q.1 ∧ u = q.2) (fun u => wm_X5_reach cI cZ cO x_h c_h i_h k_h f_h w_h n_h s_h t_h c_0 c_1 c_2 c_3 oc u) := by
  refine mk_i (cc := cX5_reach) (maxL := 7) (by decide) rfl (Nat.le_of_ble_eq_true rfl) ?_
  intro p e s m args below meth c A ls Q hx hb hml hown hts hin hK hP hD hS hA hl hQ
  have hl : lv_has ls 7 [(0, .ref x_h), (1, .int p0), (2, .int p1), (3, .int p2), (4, .int p3)] := hl
  unfold F_X5_reach at hF
  refine lv_aload_n hx hb dX5_reach_0 rfl (lv_at hl 0 rfl) ?_
  refine lv_iload_n hx hb dX5_reach_1 rfl (lv_at hl 1 rfl) ?_
  refine lv_iload_n hx hb dX5_reach_2 rfl (lv_at hl 2 rfl) ?_
  refine lv_iload_n hx hb dX5_reach_3 rfl (lv_at hl 3 rfl) ?_
  refine lv_iload hx hb dX5_reach_4 (lv_at hl 4 rfl) ?_
  obtain ⟨q1, hGq1, hF⟩ := of_bind hF
  refine callVi (As := [.int p0, .int p1, .int p2, .int p3]) (rest := []) (wr := [(w_h, .inr (4, [.int (ow 0 0), .int (ow 1 0), .int (ow 2 0), .int (ow 3 0), .int (ow 4 0), .int (ow 5 0), .int (ow 6 0), .int (ow 7 0), .int (ow 8 0), .int (ow 9 0), .int (ow 10 0), .int (ow 11 0), .int (ow 12 0), .int (ow 13 0), .int (ow 14 0), .int (ow 15 0)]))]) (WN := wm_X5_reach cI cZ cO x_h c_h i_h k_h f_h w_h n_h s_h t_h c_0 c_1 c_2 c_3 oc ow) ⟨hx, hb, hml, hown, hts⟩ hK hP hD hS hA [0, 1, 2, 3, 4, 5] [6] [1, 2, 3, 4, 5, 6, 0] (c_X5_refusalOfRace l D cI cZ cO x_h c_h i_h k_h f_h w_h n_h s_h t_h c_0 c_1 c_2 c_3 _ oc p0 p1 p2 p3 q1 hGq1) (cwV 4 hts (gV wd_329 wd_331 wd_3 wd_33 wd_332) rfl rfl rfl (by decide +kernel) ⟨Nat.le_of_ble_eq_true rfl, Nat.le_of_ble_eq_true rfl⟩) 0 5 rfl rfl rfl rfl rfl rfl rfl (by decide) rfl rfl rfl hl.1 rfl (Nat.le_of_ble_eq_true rfl) dX5_reach_6 ⟨Nat.zero_le _, Nat.zero_le _⟩ (fun H locs hP hD hS => ?_)
  refine lv_istore (lv' := [(5, .int q1), (0, .ref x_h), (1, .int p0), (2, .int p1), (3, .int p2), (4, .int p3)]) hx hb dX5_reach_9 hl (by decide) rfl (fun ls hl => ?_)
  refine lv_iload hx hb dX5_reach_11 (lv_at hl 0 rfl) ?_
  refine lv_if_eq (tgt := 19) hx hb dX5_reach_13 (by decide) (fun h2 => ?_) (fun h2 => ?_)
  · replace hF := of_t h2 hF
    refine lv_aload_n hx hb dX5_reach_19 rfl (lv_at hl 1 rfl) ?_
    refine lv_iload_n hx hb dX5_reach_20 rfl (lv_at hl 2 rfl) ?_
    refine lv_iload_n hx hb dX5_reach_21 rfl (lv_at hl 3 rfl) ?_
    refine lv_iload_n hx hb dX5_reach_22 rfl (lv_at hl 4 rfl) ?_
    obtain ⟨q3, hGq3, hF⟩ := of_bind hF
    refine callVi (As := [.int p0, .int p1, .int p2]) (rest := []) (wr := []) (WN := wm_X5_reach cI cZ cO x_h c_h i_h k_h f_h w_h n_h s_h t_h c_0 c_1 c_2 c_3 oc q3.2) ⟨hx, hb, hml, hown, hts⟩ hK hP hD hS hA [0, 1, 2, 3, 4, 5, 6] [] [0, 1, 2, 3, 4, 5, 6] (c_X5_timeTo l D cI cZ cO x_h c_h i_h k_h f_h w_h n_h s_h t_h c_0 c_1 c_2 c_3 _ oc ow p0 p1 p2 q3 hGq3) (cwV 3 hts (gV wd_336 wd_338 wd_4 wd_33 wd_339) rfl rfl rfl (by decide +kernel) ⟨Nat.le_of_ble_eq_true rfl, Nat.le_of_ble_eq_true rfl⟩) 0 5 rfl rfl rfl rfl rfl rfl rfl (by decide) rfl rfl rfl hl.1 rfl (Nat.le_of_ble_eq_true rfl) dX5_reach_23 ⟨Nat.zero_le _, Nat.zero_le _⟩ (fun H locs hP hD hS => ?_)
    refine lv_istore (lv' := [(6, .int q3.1), (5, .int q1), (0, .ref x_h), (1, .int p0), (2, .int p1), (3, .int p2), (4, .int p3)]) hx hb dX5_reach_26 hl (by decide) rfl (fun ls hl => ?_)
    refine lv_iload hx hb dX5_reach_28 (lv_at hl 0 rfl) ?_
    refine lv_bipush (v := (-6)) hx hb dX5_reach_30 (by decide) ?_
    refine lv_icmp_ne (tgt := 38) hx hb dX5_reach_32 (by decide) (fun h4 => ?_) (fun h4 => ?_)
    · replace hF := of_f h4 hF
      refine lv_iload hx hb dX5_reach_38 (lv_at hl 6 rfl) ?_
      refine lv_if_ne (tgt := 55) hx hb dX5_reach_40 (by decide) (fun h5 => ?_) (fun h5 => ?_)
      · replace hF := of_f h5 hF
        refine lv_iload hx hb dX5_reach_55 (lv_at hl 0 rfl) ?_
        exact hQ _ _ _ _ _ q3.2 ⟨inj_fst hF, inj_snd hF⟩ hP hD hS dX5_reach_57
      · replace hF := of_t h5 hF
        refine lv_aload_n hx hb dX5_reach_43 rfl (lv_at hl 2 rfl) ?_
        refine va_get (D := D) (ci := 5) (v := .ref w_h) (C := RX5) (T := TX5) (N := 8) hx hb hts in_X5 hown hK hP 0 rfl rfl 4 (by decide) (hts _ wd_215) (fun _ h9 => h9) rfl dX5_reach_44 ?_
        refine va_get (D := D) (ci := 4) (v := .int (q3.2 10 0)) (C := RX4) (T := TX4) (N := 16) hx hb hts in_X4 hown hK hP 6 rfl rfl 10 (by decide) (hts _ wd_126) (fun _ h9 => h9) rfl dX5_reach_47 ?_
        refine lv_iconst (v := 1) hx hb dX5_reach_50 (by decide) ?_
        refine lv_isub hx hb dX5_reach_51 ?_
        refine lv_topi (fun v6 ev6 => ?_)
        replace hF := of_dd hF v6 ev6
        refine lv_goto (tgt := 57) hx hb dX5_reach_52 (by decide) ?_
        exact hQ _ _ _ _ _ q3.2 ⟨inj_fst hF, inj_snd hF⟩ hP hD hS dX5_reach_57
    · replace hF := of_t h4 hF
      refine lv_bipush (v := (-6)) hx hb dX5_reach_35 (by decide) ?_
      exact hQ _ _ _ _ _ q3.2 ⟨inj_fst hF, inj_snd hF⟩ hP hD hS dX5_reach_37
  · replace hF := of_f h2 hF
    refine lv_iload hx hb dX5_reach_16 (lv_at hl 0 rfl) ?_
    exact hQ _ _ _ _ _ ow ⟨inj_fst hF, inj_snd hF⟩ hP hD hS dX5_reach_18

/-! ### ThreeLegs.who(III)I -/
abbrev wm_X5_who (cI cZ cO : ClassId) (x_h c_h i_h k_h f_h w_h n_h s_h t_h c_0 c_1 c_2 c_3 : Nat) (oc : Ob) (ow : Ob) : va_W := [(x_h, .inr (5, [.ref c_h, .ref i_h, .ref k_h, .ref f_h, .ref w_h, .ref n_h, .ref s_h, .ref t_h])), (c_h, .inr (0, [.ref c_0, .ref c_1, .ref c_2, .ref c_3, .int (oc 4 0), .int (oc 5 0), .int (oc 6 0)])), (c_0, .inl (cZ, 8, .inl (oc 0))), (c_1, .inl (cI, 8, .inl (oc 1))), (c_2, .inl (cI, 8, .inl (oc 2))), (c_3, .inl (cI, 8, .inl (oc 3))), (w_h, .inr (4, [.int (ow 0 0), .int (ow 1 0), .int (ow 2 0), .int (ow 3 0), .int (ow 4 0), .int (ow 5 0), .int (ow 6 0), .int (ow 7 0), .int (ow 8 0), .int (ow 9 0), .int (ow 10 0), .int (ow 11 0), .int (ow 12 0), .int (ow 13 0), .int (ow 14 0), .int (ow 15 0)]))]
def F_X5_who (oc : Ob) (ow : Ob) (p0 : Int32) (p1 : Int32) (p2 : Int32) : Option (Int32 × Ob) :=
  (F_X0_canTie oc p0 p1).bind (fun q1 => (if q1 = 0 then some ((-1), ow) else (F_X5_isWithin p2 0 1).bind (fun q3 => (if q3 = 0 then some ((-2), ow) else (F_X4_tie ow oc p0 p1).bind (fun q5 => (F_X4_standsFor q5 999).bind (fun q6 => (if q6.1 = 0 then (if p2 = 0 then dd ((q6.2 10 0) - 1) (fun (v10 : Int32) => some (v10, q6.2)) else (if (q6.2 15 0) = 0 then some (p1, q6.2) else some (p0, q6.2))) else some ((-6), q6.2))))))))
abbrev rm_X5_who : Room := { frames := 4, cells := 0, slots := 0, locals := 85 }
abbrev wu_X5_who : List Cond := .code yX5_who cX5_who 4 (some .int) :: lwG
set_option maxHeartbeats 20000000 in
set_option maxRecDepth 100000 in
theorem c_X5_who (l : Launch) (D : va_G) (cI cZ cO : ClassId) (x_h c_h i_h k_h f_h w_h n_h s_h t_h c_0 c_1 c_2 c_3 : Nat) (sz : Nat) (oc : Ob) (ow : Ob) (p0 : Int32) (p1 : Int32) (p2 : Int32) (q : Int32 × Ob) (hF : F_X5_who oc ow p0 p1 p2 = some q) : CtI l yX5_who wu_X5_who rm_X5_who D vwCl (tyL cI cZ cO) [.ref x_h, .int p0, .int p1, .int p2] (wm_X5_who cI cZ cO x_h c_h i_h k_h f_h w_h n_h s_h t_h c_0 c_1 c_2 c_3 oc ow) sz 0 0 (fun (r : Int32) (u : Ob) => r = q.1 ∧ u = q.2) (fun u => wm_X5_who cI cZ cO x_h c_h i_h k_h f_h w_h n_h s_h t_h c_0 c_1 c_2 c_3 oc u) := by
  refine mk_i (cc := cX5_who) (maxL := 4) (by decide) rfl (Nat.le_of_ble_eq_true rfl) ?_
  intro p e s m args below meth c A ls Q hx hb hml hown hts hin hK hP hD hS hA hl hQ
  have hl : lv_has ls 4 [(0, .ref x_h), (1, .int p0), (2, .int p1), (3, .int p2)] := hl
  unfold F_X5_who at hF
  refine lv_aload_n hx hb dX5_who_0 rfl (lv_at hl 0 rfl) ?_
  refine va_get (D := D) (ci := 5) (v := .ref c_h) (C := RX5) (T := TX5) (N := 8) hx hb hts in_X5 hown hK hP 0 rfl rfl 0 (by decide) (hts _ wd_211) (fun _ h9 => h9) rfl dX5_who_1 ?_
  refine lv_iload_n hx hb dX5_who_4 rfl (lv_at hl 1 rfl) ?_
  refine lv_iload_n hx hb dX5_who_5 rfl (lv_at hl 2 rfl) ?_
  obtain ⟨q1, hGq1, hF⟩ := of_bind hF
  refine callVi (As := [.int p0, .int p1]) (rest := []) (wr := [(x_h, .inr (5, [.ref c_h, .ref i_h, .ref k_h, .ref f_h, .ref w_h, .ref n_h, .ref s_h, .ref t_h])), (w_h, .inr (4, [.int (ow 0 0), .int (ow 1 0), .int (ow 2 0), .int (ow 3 0), .int (ow 4 0), .int (ow 5 0), .int (ow 6 0), .int (ow 7 0), .int (ow 8 0), .int (ow 9 0), .int (ow 10 0), .int (ow 11 0), .int (ow 12 0), .int (ow 13 0), .int (ow 14 0), .int (ow 15 0)]))]) (WN := wm_X5_who cI cZ cO x_h c_h i_h k_h f_h w_h n_h s_h t_h c_0 c_1 c_2 c_3 oc ow) ⟨hx, hb, hml, hown, hts⟩ hK hP hD hS hA [1, 2, 3, 4, 5] [0, 6] [0, 2, 3, 4, 5, 6, 1] (c_X0_canTie l D cI cZ cO c_h c_0 c_1 c_2 c_3 _ oc p0 p1 q1 hGq1) (cwV 2 hts (gV wd_294 wd_295 wd_296 wd_34 wd_297) rfl rfl rfl (by decide +kernel) ⟨Nat.le_of_ble_eq_true rfl, Nat.le_of_ble_eq_true rfl⟩) 0 0 rfl rfl rfl rfl rfl rfl rfl (by decide) rfl rfl rfl hl.1 rfl (Nat.le_of_ble_eq_true rfl) dX5_who_6 ⟨Nat.zero_le _, Nat.zero_le _⟩ (fun H locs hP hD hS => ?_)
  refine lv_if_ne (tgt := 14) hx hb dX5_who_9 (by decide) (fun h2 => ?_) (fun h2 => ?_)
  · replace hF := of_f h2 hF
    refine lv_iload_n hx hb dX5_who_14 rfl (lv_at hl 3 rfl) ?_
    refine lv_iconst (v := 0) hx hb dX5_who_15 (by decide) ?_
    refine lv_iconst (v := 1) hx hb dX5_who_16 (by decide) ?_
    obtain ⟨q3, hGq3, hF⟩ := of_bind hF
    refine callSi (As := [.int p2, .int 0, .int 1]) (rest := []) ⟨hx, hb, hml, hown, hts⟩ hK hP hD hS hA (c_X5_isWithin l D cI cZ cO  _ p2 0 1 q3 hGq3) (va_cwS 3 hts (gS wd_240 wd_241 wd_33 wd_242) rfl rfl rfl (by decide +kernel) ⟨Nat.le_of_ble_eq_true rfl, Nat.le_of_ble_eq_true rfl⟩) rfl hl.1 rfl (Nat.le_of_ble_eq_true rfl) dX5_who_17 ⟨Nat.zero_le _, Nat.zero_le _⟩ (fun H locs hP hS => ?_)
    refine lv_if_ne (tgt := 26) hx hb dX5_who_20 (by decide) (fun h4 => ?_) (fun h4 => ?_)
    · replace hF := of_f h4 hF
      refine lv_aload_n hx hb dX5_who_26 rfl (lv_at hl 0 rfl) ?_
      refine va_get (D := D) (ci := 5) (v := .ref w_h) (C := RX5) (T := TX5) (N := 8) hx hb hts in_X5 hown hK hP 0 rfl rfl 4 (by decide) (hts _ wd_215) (fun _ h9 => h9) rfl dX5_who_27 ?_
      refine lv_aload_n hx hb dX5_who_30 rfl (lv_at hl 0 rfl) ?_
      refine va_get (D := D) (ci := 5) (v := .ref c_h) (C := RX5) (T := TX5) (N := 8) hx hb hts in_X5 hown hK hP 0 rfl rfl 0 (by decide) (hts _ wd_211) (fun _ h9 => h9) rfl dX5_who_31 ?_
      refine lv_iload_n hx hb dX5_who_34 rfl (lv_at hl 1 rfl) ?_
      refine lv_iload_n hx hb dX5_who_35 rfl (lv_at hl 2 rfl) ?_
      obtain ⟨q5, hGq5, hF⟩ := of_bind hF
      refine callVv (As := [.ref c_h, .int p0, .int p1]) (rest := []) (wr := [(x_h, .inr (5, [.ref c_h, .ref i_h, .ref k_h, .ref f_h, .ref w_h, .ref n_h, .ref s_h, .ref t_h]))]) (WN := wm_X5_who cI cZ cO x_h c_h i_h k_h f_h w_h n_h s_h t_h c_0 c_1 c_2 c_3 oc q5) ⟨hx, hb, hml, hown, hts⟩ hK hP hD hS hA [6, 1, 2, 3, 4, 5] [0] [0, 2, 3, 4, 5, 6, 1] (c_X4_tie l D cI cZ cO w_h c_h c_0 c_1 c_2 c_3 _ ow oc p0 p1 q5 hGq5) (cwV 3 hts (gV wd_298 wd_299 wd_300 wd_36 wd_301) rfl rfl rfl (by decide +kernel) ⟨Nat.le_of_ble_eq_true rfl, Nat.le_of_ble_eq_true rfl⟩) 0 4 rfl rfl rfl rfl rfl rfl rfl (by decide) rfl rfl rfl hl.1 rfl (Nat.le_of_ble_eq_true rfl) dX5_who_36 ⟨Nat.zero_le _, Nat.zero_le _⟩ (fun H locs hP hD hS => ?_)
      refine lv_aload_n hx hb dX5_who_39 rfl (lv_at hl 0 rfl) ?_
      refine va_get (D := D) (ci := 5) (v := .ref w_h) (C := RX5) (T := TX5) (N := 8) hx hb hts in_X5 hown hK hP 0 rfl rfl 4 (by decide) (hts _ wd_215) (fun _ h9 => h9) rfl dX5_who_40 ?_
      refine lv_sipush (v := 999) hx hb dX5_who_43 (by decide) ?_
      obtain ⟨q6, hGq6, hF⟩ := of_bind hF
      refine callVi (As := [.int 999]) (rest := []) (wr := [(x_h, .inr (5, [.ref c_h, .ref i_h, .ref k_h, .ref f_h, .ref w_h, .ref n_h, .ref s_h, .ref t_h])), (c_h, .inr (0, [.ref c_0, .ref c_1, .ref c_2, .ref c_3, .int (oc 4 0), .int (oc 5 0), .int (oc 6 0)])), (c_0, .inl (cZ, 8, .inl (oc 0))), (c_1, .inl (cI, 8, .inl (oc 1))), (c_2, .inl (cI, 8, .inl (oc 2))), (c_3, .inl (cI, 8, .inl (oc 3)))]) (WN := wm_X5_who cI cZ cO x_h c_h i_h k_h f_h w_h n_h s_h t_h c_0 c_1 c_2 c_3 oc q6.2) ⟨hx, hb, hml, hown, hts⟩ hK hP hD hS hA [6] [0, 1, 2, 3, 4, 5] [0, 1, 2, 3, 4, 5, 6] (c_X4_standsFor l D cI cZ cO w_h _ q5 999 q6 hGq6) (cwV 1 hts (gV wd_354 wd_355 wd_356 wd_36 wd_357) rfl rfl rfl (by decide +kernel) ⟨Nat.le_of_ble_eq_true rfl, Nat.le_of_ble_eq_true rfl⟩) 0 4 rfl rfl rfl rfl rfl rfl rfl (by decide) rfl rfl rfl hl.1 rfl (Nat.le_of_ble_eq_true rfl) dX5_who_46 ⟨Nat.zero_le _, Nat.zero_le _⟩ (fun H locs hP hD hS => ?_)
      refine lv_if_eq (tgt := 55) hx hb dX5_who_49 (by decide) (fun h7 => ?_) (fun h7 => ?_)
      · replace hF := of_t h7 hF
        refine lv_iload_n hx hb dX5_who_55 rfl (lv_at hl 3 rfl) ?_
        refine lv_if_ne (tgt := 69) hx hb dX5_who_56 (by decide) (fun h8 => ?_) (fun h8 => ?_)
        · replace hF := of_f h8 hF
          refine lv_aload_n hx hb dX5_who_69 rfl (lv_at hl 0 rfl) ?_
          refine va_get (D := D) (ci := 5) (v := .ref w_h) (C := RX5) (T := TX5) (N := 8) hx hb hts in_X5 hown hK hP 0 rfl rfl 4 (by decide) (hts _ wd_215) (fun _ h9 => h9) rfl dX5_who_70 ?_
          refine va_get (D := D) (ci := 4) (v := .int (q6.2 15 0)) (C := RX4) (T := TX4) (N := 16) hx hb hts in_X4 hown hK hP 6 rfl rfl 15 (by decide) (hts _ wd_136) (fun _ h9 => h9) rfl dX5_who_73 ?_
          refine lv_if_eq (tgt := 83) hx hb dX5_who_76 (by decide) (fun h9 => ?_) (fun h9 => ?_)
          · replace hF := of_t h9 hF
            refine lv_iload_n hx hb dX5_who_83 rfl (lv_at hl 2 rfl) ?_
            exact hQ _ _ _ _ _ q6.2 ⟨inj_fst hF, inj_snd hF⟩ hP hD hS dX5_who_84
          · replace hF := of_f h9 hF
            refine lv_iload_n hx hb dX5_who_79 rfl (lv_at hl 1 rfl) ?_
            refine lv_goto (tgt := 84) hx hb dX5_who_80 (by decide) ?_
            exact hQ _ _ _ _ _ q6.2 ⟨inj_fst hF, inj_snd hF⟩ hP hD hS dX5_who_84
        · replace hF := of_t h8 hF
          refine lv_aload_n hx hb dX5_who_59 rfl (lv_at hl 0 rfl) ?_
          refine va_get (D := D) (ci := 5) (v := .ref w_h) (C := RX5) (T := TX5) (N := 8) hx hb hts in_X5 hown hK hP 0 rfl rfl 4 (by decide) (hts _ wd_215) (fun _ h9 => h9) rfl dX5_who_60 ?_
          refine va_get (D := D) (ci := 4) (v := .int (q6.2 10 0)) (C := RX4) (T := TX4) (N := 16) hx hb hts in_X4 hown hK hP 6 rfl rfl 10 (by decide) (hts _ wd_126) (fun _ h9 => h9) rfl dX5_who_63 ?_
          refine lv_iconst (v := 1) hx hb dX5_who_66 (by decide) ?_
          refine lv_isub hx hb dX5_who_67 ?_
          refine lv_topi (fun v10 ev10 => ?_)
          replace hF := of_dd hF v10 ev10
          exact hQ _ _ _ _ _ q6.2 ⟨inj_fst hF, inj_snd hF⟩ hP hD hS dX5_who_68
      · replace hF := of_f h7 hF
        refine lv_bipush (v := (-6)) hx hb dX5_who_52 (by decide) ?_
        exact hQ _ _ _ _ _ q6.2 ⟨inj_fst hF, inj_snd hF⟩ hP hD hS dX5_who_54
    · replace hF := of_t h4 hF
      refine lv_bipush (v := (-2)) hx hb dX5_who_23 (by decide) ?_
      exact hQ _ _ _ _ _ ow ⟨inj_fst hF, inj_snd hF⟩ hP hD hS dX5_who_25
  · replace hF := of_t h2 hF
    refine lv_iconst (v := (-1)) hx hb dX5_who_12 (by decide) ?_
    exact hQ _ _ _ _ _ ow ⟨inj_fst hF, inj_snd hF⟩ hP hD hS dX5_who_13

/-! ### ThreeLegs.alone(II)I -/
abbrev wm_X5_alone (cI cZ cO : ClassId) (x_h c_h i_h k_h f_h w_h n_h s_h t_h c_0 c_1 c_2 c_3 : Nat) (oc : Ob) : va_W := [(x_h, .inr (5, [.ref c_h, .ref i_h, .ref k_h, .ref f_h, .ref w_h, .ref n_h, .ref s_h, .ref t_h])), (c_h, .inr (0, [.ref c_0, .ref c_1, .ref c_2, .ref c_3, .int (oc 4 0), .int (oc 5 0), .int (oc 6 0)])), (c_0, .inl (cZ, 8, .inl (oc 0))), (c_1, .inl (cI, 8, .inl (oc 1))), (c_2, .inl (cI, 8, .inl (oc 2))), (c_3, .inl (cI, 8, .inl (oc 3)))]
def L_X5_alone_31 : Nat → Int32 → Int32 → Ob → Int32 → Int32 → Int32 → (Int32 → Option (Int32)) → Option (Int32)
  | 0, _, _, _, _, _, _, _ => none
  | n11 + 1, p0, p1, oc, v7, v8, v9, K5 =>
    (if 999 ≤ v9 then K5 v7 else (if p1 ≤ v8 then K5 v7 else ck p0 8 (dd (v8 + ((oc 2) (p0).toNatClampNeg)) (fun (v15 : Int32) => ck p0 8 (dd (v7 + ((oc 1) (p0).toNatClampNeg)) (fun (v17 : Int32) => dd (v9 + 1) (fun (v18 : Int32) => L_X5_alone_31 n11 p0 p1 oc v17 v15 v18 K5)))))))
def F_X5_alone (oc : Ob) (p0 : Int32) (p1 : Int32) : Option (Int32) :=
  (F_X0_hasRunner oc p0).bind (fun q1 => (if q1 = 0 then some (-1) else (F_X5_isFeet p1).bind (fun q3 => (if q3 = 0 then some (-2) else jn (fun (v6 : Int32) => some v6) (fun (K5 : Int32 → Option (Int32)) => L_X5_alone_31 2000 p0 p1 oc 0 0 0 K5)))))
abbrev rm_X5_alone : Room := { frames := 2, cells := 0, slots := 0, locals := 42 }
abbrev wu_X5_alone : List Cond := .code yX5_alone cX5_alone 6 (some .int) :: lwG
set_option maxHeartbeats 20000000 in
set_option maxRecDepth 100000 in
theorem c_X5_alone (l : Launch) (D : va_G) (cI cZ cO : ClassId) (x_h c_h i_h k_h f_h w_h n_h s_h t_h c_0 c_1 c_2 c_3 : Nat) (sz : Nat) (oc : Ob) (p0 : Int32) (p1 : Int32) (q : Int32) (hF : F_X5_alone oc p0 p1 = some q) : CtI l yX5_alone wu_X5_alone rm_X5_alone D vwCl (tyL cI cZ cO) [.ref x_h, .int p0, .int p1] (wm_X5_alone cI cZ cO x_h c_h i_h k_h f_h w_h n_h s_h t_h c_0 c_1 c_2 c_3 oc) sz 0 0 (fun (r : Int32) (u : Unit) => r = q ∧ u = ()) (fun u => wm_X5_alone cI cZ cO x_h c_h i_h k_h f_h w_h n_h s_h t_h c_0 c_1 c_2 c_3 oc) := by
  refine mk_i (cc := cX5_alone) (maxL := 6) (by decide) rfl (Nat.le_of_ble_eq_true rfl) ?_
  intro p e s m args below meth c A ls Q hx hb hml hown hts hin hK hP hD hS hA hl hQ
  have hl : lv_has ls 6 [(0, .ref x_h), (1, .int p0), (2, .int p1)] := hl
  unfold F_X5_alone at hF
  refine lv_aload_n hx hb dX5_alone_0 rfl (lv_at hl 0 rfl) ?_
  refine va_get (D := D) (ci := 5) (v := .ref c_h) (C := RX5) (T := TX5) (N := 8) hx hb hts in_X5 hown hK hP 0 rfl rfl 0 (by decide) (hts _ wd_211) (fun _ h9 => h9) rfl dX5_alone_1 ?_
  refine lv_iload_n hx hb dX5_alone_4 rfl (lv_at hl 1 rfl) ?_
  obtain ⟨q1, hGq1, hF⟩ := of_bind hF
  refine callVi (As := [.int p0]) (rest := []) (wr := [(x_h, .inr (5, [.ref c_h, .ref i_h, .ref k_h, .ref f_h, .ref w_h, .ref n_h, .ref s_h, .ref t_h]))]) (WN := wm_X5_alone cI cZ cO x_h c_h i_h k_h f_h w_h n_h s_h t_h c_0 c_1 c_2 c_3 oc) ⟨hx, hb, hml, hown, hts⟩ hK hP hD hS hA [1, 2, 3, 4, 5] [0] [0, 1, 2, 3, 4, 5] (c_X0_hasRunner l D cI cZ cO c_h c_0 c_1 c_2 c_3 _ oc p0 q1 hGq1) (cwV 1 hts (gV wd_265 wd_266 wd_267 wd_34 wd_268) rfl rfl rfl (by decide +kernel) ⟨Nat.le_of_ble_eq_true rfl, Nat.le_of_ble_eq_true rfl⟩) 0 0 rfl rfl rfl rfl rfl rfl rfl (by decide) rfl rfl rfl hl.1 rfl (Nat.le_of_ble_eq_true rfl) dX5_alone_5 ⟨Nat.zero_le _, Nat.zero_le _⟩ (fun H locs hP hD hS => ?_)
  refine lv_if_ne (tgt := 13) hx hb dX5_alone_8 (by decide) (fun h2 => ?_) (fun h2 => ?_)
  · replace hF := of_f h2 hF
    refine lv_iload_n hx hb dX5_alone_13 rfl (lv_at hl 2 rfl) ?_
    obtain ⟨q3, hGq3, hF⟩ := of_bind hF
    refine callSi (As := [.int p1]) (rest := []) ⟨hx, hb, hml, hown, hts⟩ hK hP hD hS hA (c_X5_isFeet l D cI cZ cO  _ p1 q3 hGq3) (va_cwS 1 hts (gS wd_333 wd_334 wd_33 wd_335) rfl rfl rfl (by decide +kernel) ⟨Nat.le_of_ble_eq_true rfl, Nat.le_of_ble_eq_true rfl⟩) rfl hl.1 rfl (Nat.le_of_ble_eq_true rfl) dX5_alone_14 ⟨Nat.zero_le _, Nat.zero_le _⟩ (fun H locs hP hS => ?_)
    refine lv_if_ne (tgt := 23) hx hb dX5_alone_17 (by decide) (fun h4 => ?_) (fun h4 => ?_)
    · replace hF := of_f h4 hF
      refine lv_iconst (v := 0) hx hb dX5_alone_23 (by decide) ?_
      refine lv_istore_n (lv' := [(3, .int 0), (0, .ref x_h), (1, .int p0), (2, .int p1)]) hx hb dX5_alone_24 rfl hl (by decide) rfl (fun ls hl => ?_)
      refine lv_iconst (v := 0) hx hb dX5_alone_25 (by decide) ?_
      refine lv_istore (lv' := [(4, .int 0), (3, .int 0), (0, .ref x_h), (1, .int p0), (2, .int p1)]) hx hb dX5_alone_26 hl (by decide) rfl (fun ls hl => ?_)
      refine lv_iconst (v := 0) hx hb dX5_alone_28 (by decide) ?_
      refine lv_istore (lv' := [(5, .int 0), (4, .int 0), (3, .int 0), (0, .ref x_h), (1, .int p0), (2, .int p1)]) hx hb dX5_alone_29 hl (by decide) rfl (fun ls hl => ?_)
      obtain ⟨K5, eK5, hF⟩ := of_jn hF
      have hK5 : ∀ (v6 : Int32) (ls : Array Slot) (H : Heap) (locs : List Loc), lv_has ls 6 [(3, .int v6)] → va_P D vwCl (wm_X5_alone cI cZ cO x_h c_h i_h k_h f_h w_h n_h s_h t_h c_0 c_1 c_2 c_3 oc) H → va_D A (wm_X5_alone cI cZ cO x_h c_h i_h k_h f_h w_h n_h s_h t_h c_0 c_1 c_2 c_3 oc) → va_S A s.heap H locs → K5 v6 = some q → W p l e rm_X5_alone s m args below meth c H locs 0 0 Q (F0 m 77 ls []) := by
        intro v6 ls H locs hl hP hD hS hF
        subst eK5
        refine lv_iload_n hx hb dX5_alone_77 rfl (lv_at hl 0 rfl) ?_
        exact hQ _ _ _ _ _ () ⟨Option.some.inj hF, rfl⟩ hP hD hS dX5_alone_78
      have hloop19 : ∀ (n11 : Nat) (v7 : Int32) (v8 : Int32) (v9 : Int32) (ls : Array Slot) (H : Heap) (locs : List Loc), lv_has ls 6 [(0, .ref x_h), (1, .int p0), (2, .int p1), (3, .int v7), (4, .int v8), (5, .int v9)] → va_P D vwCl (wm_X5_alone cI cZ cO x_h c_h i_h k_h f_h w_h n_h s_h t_h c_0 c_1 c_2 c_3 oc) H → va_D A (wm_X5_alone cI cZ cO x_h c_h i_h k_h f_h w_h n_h s_h t_h c_0 c_1 c_2 c_3 oc) → va_S A s.heap H locs → L_X5_alone_31 n11 p0 p1 oc v7 v8 v9 K5 = some q → W p l e rm_X5_alone s m args below meth c H locs 0 0 Q (F0 m 31 ls []) := by
        intro n11
        induction n11 with
        | zero =>
          intro v7 v8 v9 ls H locs hl hP hD hS hF
          exact of_none hF
        | succ n11 ih10 =>
          intro v7 v8 v9 ls H locs hl hP hD hS hF
          rw [L_X5_alone_31.eq_2] at hF
          refine lv_iload hx hb dX5_alone_31 (lv_at hl 5 rfl) ?_
          refine lv_sipush (v := 999) hx hb dX5_alone_33 (by decide) ?_
          refine lv_icmp_ge (tgt := 77) hx hb dX5_alone_36 (by decide) (fun h12 => ?_) (fun h12 => ?_)
          · replace hF := of_t h12 hF
            exact hK5 v7 ls _ _ (lv_sub hl [3] rfl) hP hD hS hF
          · replace hF := of_f h12 hF
            refine lv_iload hx hb dX5_alone_39 (lv_at hl 4 rfl) ?_
            refine lv_iload_n hx hb dX5_alone_41 rfl (lv_at hl 2 rfl) ?_
            refine lv_icmp_ge (tgt := 77) hx hb dX5_alone_42 (by decide) (fun h13 => ?_) (fun h13 => ?_)
            · replace hF := of_t h13 hF
              exact hK5 v7 ls _ _ (lv_sub hl [3] rfl) hP hD hS hF
            · replace hF := of_f h13 hF
              refine lv_iload hx hb dX5_alone_45 (lv_at hl 4 rfl) ?_
              refine lv_aload_n hx hb dX5_alone_47 rfl (lv_at hl 0 rfl) ?_
              refine va_get (D := D) (ci := 5) (v := .ref c_h) (C := RX5) (T := TX5) (N := 8) hx hb hts in_X5 hown hK hP 0 rfl rfl 0 (by decide) (hts _ wd_211) (fun _ h9 => h9) rfl dX5_alone_48 ?_
              refine va_get (D := D) (ci := 0) (v := .ref c_2) (C := RX0) (T := TX0) (N := 7) hx hb hts in_X0 hown hK hP 1 rfl rfl 2 (by decide) (hts _ wd_63) (fun _ h9 => h9) rfl dX5_alone_51 ?_
              refine lv_iload_n hx hb dX5_alone_54 rfl (lv_at hl 1 rfl) ?_
              obtain ⟨h14, hF⟩ := of_ck hF
              refine va_iald (D := D) hx hb hK hP 4 0 rfl rfl h14 dX5_alone_55 ?_
              refine lv_iadd hx hb dX5_alone_56 ?_
              refine lv_topi (fun v15 ev15 => ?_)
              replace hF := of_dd hF v15 ev15
              refine lv_istore (lv' := [(4, .int v15), (0, .ref x_h), (1, .int p0), (2, .int p1), (3, .int v7), (5, .int v9)]) hx hb dX5_alone_57 hl (by decide) rfl (fun ls hl => ?_)
              refine lv_iload_n hx hb dX5_alone_59 rfl (lv_at hl 4 rfl) ?_
              refine lv_aload_n hx hb dX5_alone_60 rfl (lv_at hl 1 rfl) ?_
              refine va_get (D := D) (ci := 5) (v := .ref c_h) (C := RX5) (T := TX5) (N := 8) hx hb hts in_X5 hown hK hP 0 rfl rfl 0 (by decide) (hts _ wd_211) (fun _ h9 => h9) rfl dX5_alone_61 ?_
              refine va_get (D := D) (ci := 0) (v := .ref c_1) (C := RX0) (T := TX0) (N := 7) hx hb hts in_X0 hown hK hP 1 rfl rfl 1 (by decide) (hts _ wd_60) (fun _ h9 => h9) rfl dX5_alone_64 ?_
              refine lv_iload_n hx hb dX5_alone_67 rfl (lv_at hl 2 rfl) ?_
              obtain ⟨h16, hF⟩ := of_ck hF
              refine va_iald (D := D) hx hb hK hP 3 0 rfl rfl h16 dX5_alone_68 ?_
              refine lv_iadd hx hb dX5_alone_69 ?_
              refine lv_topi (fun v17 ev17 => ?_)
              replace hF := of_dd hF v17 ev17
              refine lv_istore_n (lv' := [(3, .int v17), (4, .int v15), (0, .ref x_h), (1, .int p0), (2, .int p1), (5, .int v9)]) hx hb dX5_alone_70 rfl hl (by decide) rfl (fun ls hl => ?_)
              obtain ⟨v18, ev18⟩ : ∃ y : Int32, y = v9 + 1 := ⟨_, rfl⟩
              replace hF := of_dd hF v18 ev18
              refine lv_iinc (v := v18) (lv' := [(5, .int v18), (3, .int v17), (4, .int v15), (0, .ref x_h), (1, .int p0), (2, .int p1)]) hx hb dX5_alone_71 hl (k := 5) rfl (by rw [ev18]; rfl) (by decide) rfl (fun ls hl => ?_)
              refine lv_goto (tgt := 31) hx hb dX5_alone_74 (by decide) ?_
              exact ih10 v17 v15 v18 ls _ _ (lv_sub hl [3, 4, 5, 1, 2, 0] rfl) hP hD hS hF
      exact hloop19 2000 0 0 0 ls _ _ (lv_sub hl [3, 4, 5, 2, 1, 0] rfl) hP hD hS hF
    · replace hF := of_t h4 hF
      refine lv_bipush (v := (-2)) hx hb dX5_alone_20 (by decide) ?_
      exact hQ _ _ _ _ _ () ⟨Option.some.inj hF, rfl⟩ hP hD hS dX5_alone_22
  · replace hF := of_t h2 hF
    refine lv_iconst (v := (-1)) hx hb dX5_alone_11 (by decide) ?_
    exact hQ _ _ _ _ _ () ⟨Option.some.inj hF, rfl⟩ hP hD hS dX5_alone_12

/-! ### ThreeLegs.timeAllPairs(I)V -/
abbrev wm_X5_timeAllPairs (cI cZ cO : ClassId) (x_h c_h i_h k_h f_h w_h n_h s_h t_h c_0 c_1 c_2 c_3 : Nat) (oc : Ob) (ow : Ob) (ot : (Nat → Int32)) : va_W := [(x_h, .inr (5, [.ref c_h, .ref i_h, .ref k_h, .ref f_h, .ref w_h, .ref n_h, .ref s_h, .ref t_h])), (c_h, .inr (0, [.ref c_0, .ref c_1, .ref c_2, .ref c_3, .int (oc 4 0), .int (oc 5 0), .int (oc 6 0)])), (c_0, .inl (cZ, 8, .inl (oc 0))), (c_1, .inl (cI, 8, .inl (oc 1))), (c_2, .inl (cI, 8, .inl (oc 2))), (c_3, .inl (cI, 8, .inl (oc 3))), (w_h, .inr (4, [.int (ow 0 0), .int (ow 1 0), .int (ow 2 0), .int (ow 3 0), .int (ow 4 0), .int (ow 5 0), .int (ow 6 0), .int (ow 7 0), .int (ow 8 0), .int (ow 9 0), .int (ow 10 0), .int (ow 11 0), .int (ow 12 0), .int (ow 13 0), .int (ow 14 0), .int (ow 15 0)])), (t_h, .inl (cI, 64, .inl ot))]
def L_X5_timeAllPairs_12 : Nat → Int32 → Int32 → Ob → Int32 → Ob → (Nat → Int32) → (Ob → (Nat → Int32) → Option (Ob × (Nat → Int32))) → Option (Ob × (Nat → Int32))
  | 0, _, _, _, _, _, _, _ => none
  | n19 + 1, p0, v4, oc, v15, ow16, ot17, K11 =>
    (if 8 ≤ v15 then K11 ow16 ot17 else (F_X0_canTie oc v4 v15).bind (fun q21 => jn (fun (v23 : Int32) (ow24 : Ob) => dd (8 * v4) (fun (v25 : Int32) => dd (v25 + v15) (fun (v26 : Int32) => ck v26 64 (dd (upd ot17 (v26).toNatClampNeg v23) (fun (ot28 : (Nat → Int32)) => dd (8 * v15) (fun (v29 : Int32) => dd (v29 + v4) (fun (v30 : Int32) => ck v30 64 (dd (upd ot28 (v30).toNatClampNeg v23) (fun (ot32 : (Nat → Int32)) => dd (v15 + 1) (fun (v33 : Int32) => L_X5_timeAllPairs_12 n19 p0 v4 oc v33 ow24 ot32 K11)))))))))) (fun (K22 : Int32 → Ob → Option (Ob × (Nat → Int32))) => (if q21 = 0 then K22 (-6) ow16 else (F_X5_timeTo oc ow16 v4 v15 p0).bind (fun q35 => K22 q35.1 q35.2)))))
def L_X5_timeAllPairs_2 : Nat → Int32 → Ob → Int32 → Ob → (Nat → Int32) → (Ob → (Nat → Int32) → Option (Ob × (Nat → Int32))) → Option (Ob × (Nat → Int32))
  | 0, _, _, _, _, _, _ => none
  | n8 + 1, p0, oc, v4, ow5, ot6, K1 =>
    (if 8 ≤ v4 then K1 ow5 ot6 else dd (v4 + 1) (fun (v10 : Int32) => jn (fun (ow12 : Ob) (ot13 : (Nat → Int32)) => dd (v4 + 1) (fun (v14 : Int32) => L_X5_timeAllPairs_2 n8 p0 oc v14 ow12 ot13 K1)) (fun (K11 : Ob → (Nat → Int32) → Option (Ob × (Nat → Int32))) => L_X5_timeAllPairs_12 2000 p0 v4 oc v10 ow5 ot6 K11)))
def F_X5_timeAllPairs (oc : Ob) (ow : Ob) (ot : (Nat → Int32)) (p0 : Int32) : Option (Ob × (Nat → Int32)) :=
  jn (fun (ow2 : Ob) (ot3 : (Nat → Int32)) => some (ow2, ot3)) (fun (K1 : Ob → (Nat → Int32) → Option (Ob × (Nat → Int32))) => L_X5_timeAllPairs_2 2000 p0 oc 0 ow ot K1)
abbrev rm_X5_timeAllPairs : Room := { frames := 5, cells := 0, slots := 0, locals := 109 }
abbrev wu_X5_timeAllPairs : List Cond := .code yX5_timeAllPairs cX5_timeAllPairs 5 none :: lwG
set_option maxHeartbeats 20000000 in
set_option maxRecDepth 100000 in
theorem c_X5_timeAllPairs (l : Launch) (D : va_G) (cI cZ cO : ClassId) (x_h c_h i_h k_h f_h w_h n_h s_h t_h c_0 c_1 c_2 c_3 : Nat) (sz : Nat) (oc : Ob) (ow : Ob) (ot : (Nat → Int32)) (p0 : Int32) (q : Ob × (Nat → Int32)) (hF : F_X5_timeAllPairs oc ow ot p0 = some q) : CtV l yX5_timeAllPairs wu_X5_timeAllPairs rm_X5_timeAllPairs D vwCl (tyL cI cZ cO) [.ref x_h, .int p0] (wm_X5_timeAllPairs cI cZ cO x_h c_h i_h k_h f_h w_h n_h s_h t_h c_0 c_1 c_2 c_3 oc ow ot) sz 0 0 (fun u : Ob × (Nat → Int32) => u = q) (fun u => wm_X5_timeAllPairs cI cZ cO x_h c_h i_h k_h f_h w_h n_h s_h t_h c_0 c_1 c_2 c_3 oc u.1 u.2) := by
  refine mk_v (cc := cX5_timeAllPairs) (maxL := 5) (by decide) rfl (Nat.le_of_ble_eq_true rfl) ?_
  intro p e s m args below meth c A ls Q hx hb hml hown hts hin hK hP hD hS hA hl hQ
  have hl : lv_has ls 5 [(0, .ref x_h), (1, .int p0)] := hl
  unfold F_X5_timeAllPairs at hF
  refine lv_iconst (v := 0) hx hb dX5_timeAllPairs_0 (by decide) ?_
  refine lv_istore_n (lv' := [(2, .int 0), (0, .ref x_h), (1, .int p0)]) hx hb dX5_timeAllPairs_1 rfl hl (by decide) rfl (fun ls hl => ?_)
  obtain ⟨K1, eK1, hF⟩ := of_jn hF
  have hK1 : ∀ (ow2 : Ob) (ot3 : (Nat → Int32)) (ls : Array Slot) (H : Heap) (locs : List Loc), lv_has ls 5 [] → va_P D vwCl (wm_X5_timeAllPairs cI cZ cO x_h c_h i_h k_h f_h w_h n_h s_h t_h c_0 c_1 c_2 c_3 oc ow2 ot3) H → va_D A (wm_X5_timeAllPairs cI cZ cO x_h c_h i_h k_h f_h w_h n_h s_h t_h c_0 c_1 c_2 c_3 oc ow2 ot3) → va_S A s.heap H locs → K1 ow2 ot3 = some q → W p l e rm_X5_timeAllPairs s m args below meth c H locs 0 0 Q (F0 m 82 ls []) := by
    intro ow2 ot3 ls H locs hl hP hD hS hF
    subst eK1
    exact hQ _ _ _ _ (ow2, ot3) (Option.some.inj hF) hP hD hS dX5_timeAllPairs_82
  have hloop37 : ∀ (n8 : Nat) (v4 : Int32) (ow5 : Ob) (ot6 : (Nat → Int32)) (ls : Array Slot) (H : Heap) (locs : List Loc), lv_has ls 5 [(0, .ref x_h), (1, .int p0), (2, .int v4)] → va_P D vwCl (wm_X5_timeAllPairs cI cZ cO x_h c_h i_h k_h f_h w_h n_h s_h t_h c_0 c_1 c_2 c_3 oc ow5 ot6) H → va_D A (wm_X5_timeAllPairs cI cZ cO x_h c_h i_h k_h f_h w_h n_h s_h t_h c_0 c_1 c_2 c_3 oc ow5 ot6) → va_S A s.heap H locs → L_X5_timeAllPairs_2 n8 p0 oc v4 ow5 ot6 K1 = some q → W p l e rm_X5_timeAllPairs s m args below meth c H locs 0 0 Q (F0 m 2 ls []) := by
    intro n8
    induction n8 with
    | zero =>
      intro v4 ow5 ot6 ls H locs hl hP hD hS hF
      exact of_none hF
    | succ n8 ih7 =>
      intro v4 ow5 ot6 ls H locs hl hP hD hS hF
      rw [L_X5_timeAllPairs_2.eq_2] at hF
      refine lv_iload_n hx hb dX5_timeAllPairs_2 rfl (lv_at hl 2 rfl) ?_
      refine lv_bipush (v := 8) hx hb dX5_timeAllPairs_3 (by decide) ?_
      refine lv_icmp_ge (tgt := 82) hx hb dX5_timeAllPairs_5 (by decide) (fun h9 => ?_) (fun h9 => ?_)
      · replace hF := of_t h9 hF
        exact hK1 ow5 ot6 ls _ _ (lv_sub hl [] rfl) hP hD hS hF
      · replace hF := of_f h9 hF
        refine lv_iload_n hx hb dX5_timeAllPairs_8 rfl (lv_at hl 2 rfl) ?_
        refine lv_iconst (v := 1) hx hb dX5_timeAllPairs_9 (by decide) ?_
        refine lv_iadd hx hb dX5_timeAllPairs_10 ?_
        refine lv_topi (fun v10 ev10 => ?_)
        replace hF := of_dd hF v10 ev10
        refine lv_istore_n (lv' := [(3, .int v10), (0, .ref x_h), (1, .int p0), (2, .int v4)]) hx hb dX5_timeAllPairs_11 rfl hl (by decide) rfl (fun ls hl => ?_)
        obtain ⟨K11, eK11, hF⟩ := of_jn hF
        have hK11 : ∀ (ow12 : Ob) (ot13 : (Nat → Int32)) (ls : Array Slot) (H : Heap) (locs : List Loc), lv_has ls 5 [(0, .ref x_h), (1, .int p0), (2, .int v4)] → va_P D vwCl (wm_X5_timeAllPairs cI cZ cO x_h c_h i_h k_h f_h w_h n_h s_h t_h c_0 c_1 c_2 c_3 oc ow12 ot13) H → va_D A (wm_X5_timeAllPairs cI cZ cO x_h c_h i_h k_h f_h w_h n_h s_h t_h c_0 c_1 c_2 c_3 oc ow12 ot13) → va_S A s.heap H locs → K11 ow12 ot13 = some q → W p l e rm_X5_timeAllPairs s m args below meth c H locs 0 0 Q (F0 m 76 ls []) := by
          intro ow12 ot13 ls H locs hl hP hD hS hF
          subst eK11
          obtain ⟨v14, ev14⟩ : ∃ y : Int32, y = v4 + 1 := ⟨_, rfl⟩
          replace hF := of_dd hF v14 ev14
          refine lv_iinc (v := v14) (lv' := [(2, .int v14), (0, .ref x_h), (1, .int p0)]) hx hb dX5_timeAllPairs_76 hl (k := 2) rfl (by rw [ev14]; rfl) (by decide) rfl (fun ls hl => ?_)
          refine lv_goto (tgt := 2) hx hb dX5_timeAllPairs_79 (by decide) ?_
          exact ih7 v14 ow12 ot13 ls _ _ (lv_sub hl [1, 2, 0] rfl) hP hD hS hF
        have hloop36 : ∀ (n19 : Nat) (v15 : Int32) (ow16 : Ob) (ot17 : (Nat → Int32)) (ls : Array Slot) (H : Heap) (locs : List Loc), lv_has ls 5 [(0, .ref x_h), (1, .int p0), (2, .int v4), (3, .int v15)] → va_P D vwCl (wm_X5_timeAllPairs cI cZ cO x_h c_h i_h k_h f_h w_h n_h s_h t_h c_0 c_1 c_2 c_3 oc ow16 ot17) H → va_D A (wm_X5_timeAllPairs cI cZ cO x_h c_h i_h k_h f_h w_h n_h s_h t_h c_0 c_1 c_2 c_3 oc ow16 ot17) → va_S A s.heap H locs → L_X5_timeAllPairs_12 n19 p0 v4 oc v15 ow16 ot17 K11 = some q → W p l e rm_X5_timeAllPairs s m args below meth c H locs 0 0 Q (F0 m 12 ls []) := by
          intro n19
          induction n19 with
          | zero =>
            intro v15 ow16 ot17 ls H locs hl hP hD hS hF
            exact of_none hF
          | succ n19 ih18 =>
            intro v15 ow16 ot17 ls H locs hl hP hD hS hF
            rw [L_X5_timeAllPairs_12.eq_2] at hF
            refine lv_iload_n hx hb dX5_timeAllPairs_12 rfl (lv_at hl 3 rfl) ?_
            refine lv_bipush (v := 8) hx hb dX5_timeAllPairs_13 (by decide) ?_
            refine lv_icmp_ge (tgt := 76) hx hb dX5_timeAllPairs_15 (by decide) (fun h20 => ?_) (fun h20 => ?_)
            · replace hF := of_t h20 hF
              exact hK11 ow16 ot17 ls _ _ (lv_sub hl [0, 1, 2] rfl) hP hD hS hF
            · replace hF := of_f h20 hF
              refine lv_aload_n hx hb dX5_timeAllPairs_18 rfl (lv_at hl 0 rfl) ?_
              refine va_get (D := D) (ci := 5) (v := .ref c_h) (C := RX5) (T := TX5) (N := 8) hx hb hts in_X5 hown hK hP 0 rfl rfl 0 (by decide) (hts _ wd_211) (fun _ h9 => h9) rfl dX5_timeAllPairs_19 ?_
              refine lv_iload_n hx hb dX5_timeAllPairs_22 rfl (lv_at hl 2 rfl) ?_
              refine lv_iload_n hx hb dX5_timeAllPairs_23 rfl (lv_at hl 3 rfl) ?_
              obtain ⟨q21, hGq21, hF⟩ := of_bind hF
              refine callVi (As := [.int v4, .int v15]) (rest := []) (wr := [(x_h, .inr (5, [.ref c_h, .ref i_h, .ref k_h, .ref f_h, .ref w_h, .ref n_h, .ref s_h, .ref t_h])), (w_h, .inr (4, [.int (ow16 0 0), .int (ow16 1 0), .int (ow16 2 0), .int (ow16 3 0), .int (ow16 4 0), .int (ow16 5 0), .int (ow16 6 0), .int (ow16 7 0), .int (ow16 8 0), .int (ow16 9 0), .int (ow16 10 0), .int (ow16 11 0), .int (ow16 12 0), .int (ow16 13 0), .int (ow16 14 0), .int (ow16 15 0)])), (t_h, .inl (cI, 64, .inl ot17))]) (WN := wm_X5_timeAllPairs cI cZ cO x_h c_h i_h k_h f_h w_h n_h s_h t_h c_0 c_1 c_2 c_3 oc ow16 ot17) ⟨hx, hb, hml, hown, hts⟩ hK hP hD hS hA [1, 2, 3, 4, 5] [0, 6, 7] [0, 3, 4, 5, 6, 7, 1, 2] (c_X0_canTie l D cI cZ cO c_h c_0 c_1 c_2 c_3 _ oc v4 v15 q21 hGq21) (cwV 2 hts (gV wd_294 wd_295 wd_296 wd_34 wd_297) rfl rfl rfl (by decide +kernel) ⟨Nat.le_of_ble_eq_true rfl, Nat.le_of_ble_eq_true rfl⟩) 0 0 rfl rfl rfl rfl rfl rfl rfl (by decide) rfl rfl rfl hl.1 rfl (Nat.le_of_ble_eq_true rfl) dX5_timeAllPairs_24 ⟨Nat.zero_le _, Nat.zero_le _⟩ (fun H locs hP hD hS => ?_)
              obtain ⟨K22, eK22, hF⟩ := of_jn hF
              have hK22 : ∀ (v23 : Int32) (ow24 : Ob) (ls : Array Slot) (H : Heap) (locs : List Loc), lv_has ls 5 [(0, .ref x_h), (1, .int p0), (2, .int v4), (3, .int v15)] → va_P D vwCl (wm_X5_timeAllPairs cI cZ cO x_h c_h i_h k_h f_h w_h n_h s_h t_h c_0 c_1 c_2 c_3 oc ow24 ot17) H → va_D A (wm_X5_timeAllPairs cI cZ cO x_h c_h i_h k_h f_h w_h n_h s_h t_h c_0 c_1 c_2 c_3 oc ow24 ot17) → va_S A s.heap H locs → K22 v23 ow24 = some q → W p l e rm_X5_timeAllPairs s m args below meth c H locs 0 0 Q (F0 m 42 ls [.int v23]) := by
                intro v23 ow24 ls H locs hl hP hD hS hF
                subst eK22
                refine lv_istore (lv' := [(4, .int v23), (0, .ref x_h), (1, .int p0), (2, .int v4), (3, .int v15)]) hx hb dX5_timeAllPairs_42 hl (by decide) rfl (fun ls hl => ?_)
                refine lv_aload_n hx hb dX5_timeAllPairs_44 rfl (lv_at hl 1 rfl) ?_
                refine va_get (D := D) (ci := 5) (v := .ref t_h) (C := RX5) (T := TX5) (N := 8) hx hb hts in_X5 hown hK hP 0 rfl rfl 7 (by decide) (hts _ wd_218) (fun _ h9 => h9) rfl dX5_timeAllPairs_45 ?_
                refine lv_bipush (v := 8) hx hb dX5_timeAllPairs_48 (by decide) ?_
                refine lv_iload_n hx hb dX5_timeAllPairs_50 rfl (lv_at hl 3 rfl) ?_
                refine lv_imul hx hb dX5_timeAllPairs_51 ?_
                refine lv_topi (fun v25 ev25 => ?_)
                replace hF := of_dd hF v25 ev25
                refine lv_iload_n hx hb dX5_timeAllPairs_52 rfl (lv_at hl 4 rfl) ?_
                refine lv_iadd hx hb dX5_timeAllPairs_53 ?_
                refine lv_topi (fun v26 ev26 => ?_)
                replace hF := of_dd hF v26 ev26
                refine lv_iload hx hb dX5_timeAllPairs_54 (lv_at hl 0 rfl) ?_
                obtain ⟨h27, hF⟩ := of_ck hF
                refine va_iast (D := D) hx hb hK hP hD hS 7 0 rfl rfl h27 dX5_timeAllPairs_56 (fun H locs hP hD hS => ?_)
                obtain ⟨ot28, hF, hP, hD⟩ := nm_o (P := fun y => va_P D vwCl (wm_X5_timeAllPairs cI cZ cO x_h c_h i_h k_h f_h w_h n_h s_h t_h c_0 c_1 c_2 c_3 oc ow24 y) _) (B := fun y => va_D A (wm_X5_timeAllPairs cI cZ cO x_h c_h i_h k_h f_h w_h n_h s_h t_h c_0 c_1 c_2 c_3 oc ow24 y)) hF hP hD
                refine lv_aload_n hx hb dX5_timeAllPairs_57 rfl (lv_at hl 1 rfl) ?_
                refine va_get (D := D) (ci := 5) (v := .ref t_h) (C := RX5) (T := TX5) (N := 8) hx hb hts in_X5 hown hK hP 0 rfl rfl 7 (by decide) (hts _ wd_218) (fun _ h9 => h9) rfl dX5_timeAllPairs_58 ?_
                refine lv_bipush (v := 8) hx hb dX5_timeAllPairs_61 (by decide) ?_
                refine lv_iload_n hx hb dX5_timeAllPairs_63 rfl (lv_at hl 4 rfl) ?_
                refine lv_imul hx hb dX5_timeAllPairs_64 ?_
                refine lv_topi (fun v29 ev29 => ?_)
                replace hF := of_dd hF v29 ev29
                refine lv_iload_n hx hb dX5_timeAllPairs_65 rfl (lv_at hl 3 rfl) ?_
                refine lv_iadd hx hb dX5_timeAllPairs_66 ?_
                refine lv_topi (fun v30 ev30 => ?_)
                replace hF := of_dd hF v30 ev30
                refine lv_iload hx hb dX5_timeAllPairs_67 (lv_at hl 0 rfl) ?_
                obtain ⟨h31, hF⟩ := of_ck hF
                refine va_iast (D := D) hx hb hK hP hD hS 7 0 rfl rfl h31 dX5_timeAllPairs_69 (fun H locs hP hD hS => ?_)
                obtain ⟨ot32, hF, hP, hD⟩ := nm_o (P := fun y => va_P D vwCl (wm_X5_timeAllPairs cI cZ cO x_h c_h i_h k_h f_h w_h n_h s_h t_h c_0 c_1 c_2 c_3 oc ow24 y) _) (B := fun y => va_D A (wm_X5_timeAllPairs cI cZ cO x_h c_h i_h k_h f_h w_h n_h s_h t_h c_0 c_1 c_2 c_3 oc ow24 y)) hF hP hD
                obtain ⟨v33, ev33⟩ : ∃ y : Int32, y = v15 + 1 := ⟨_, rfl⟩
                replace hF := of_dd hF v33 ev33
                refine lv_iinc (v := v33) (lv' := [(3, .int v33), (4, .int v23), (0, .ref x_h), (1, .int p0), (2, .int v4)]) hx hb dX5_timeAllPairs_70 hl (k := 4) rfl (by rw [ev33]; rfl) (by decide) rfl (fun ls hl => ?_)
                refine lv_goto (tgt := 12) hx hb dX5_timeAllPairs_73 (by decide) ?_
                exact ih18 v33 ow24 ot32 ls _ _ (lv_sub hl [2, 3, 4, 0] rfl) hP hD hS hF
              refine lv_if_eq (tgt := 40) hx hb dX5_timeAllPairs_27 (by decide) (fun h34 => ?_) (fun h34 => ?_)
              · replace hF := of_t h34 hF
                refine lv_bipush (v := (-6)) hx hb dX5_timeAllPairs_40 (by decide) ?_
                exact hK22 (-6) ow16 ls _ _ (lv_sub hl [0, 1, 2, 3] rfl) hP hD hS hF
              · replace hF := of_f h34 hF
                refine lv_aload_n hx hb dX5_timeAllPairs_30 rfl (lv_at hl 0 rfl) ?_
                refine lv_iload_n hx hb dX5_timeAllPairs_31 rfl (lv_at hl 2 rfl) ?_
                refine lv_iload_n hx hb dX5_timeAllPairs_32 rfl (lv_at hl 3 rfl) ?_
                refine lv_iload_n hx hb dX5_timeAllPairs_33 rfl (lv_at hl 1 rfl) ?_
                obtain ⟨q35, hGq35, hF⟩ := of_bind hF
                refine callVi (As := [.int v4, .int v15, .int p0]) (rest := []) (wr := [(t_h, .inl (cI, 64, .inl ot17))]) (WN := wm_X5_timeAllPairs cI cZ cO x_h c_h i_h k_h f_h w_h n_h s_h t_h c_0 c_1 c_2 c_3 oc q35.2 ot17) ⟨hx, hb, hml, hown, hts⟩ hK hP hD hS hA [0, 1, 2, 3, 4, 5, 6] [7] [1, 2, 3, 4, 5, 6, 7, 0] (c_X5_timeTo l D cI cZ cO x_h c_h i_h k_h f_h w_h n_h s_h t_h c_0 c_1 c_2 c_3 _ oc ow16 v4 v15 p0 q35 hGq35) (cwV 3 hts (gV wd_336 wd_338 wd_4 wd_33 wd_339) rfl rfl rfl (by decide +kernel) ⟨Nat.le_of_ble_eq_true rfl, Nat.le_of_ble_eq_true rfl⟩) 0 5 rfl rfl rfl rfl rfl rfl rfl (by decide) rfl rfl rfl hl.1 rfl (Nat.le_of_ble_eq_true rfl) dX5_timeAllPairs_34 ⟨Nat.zero_le _, Nat.zero_le _⟩ (fun H locs hP hD hS => ?_)
                refine lv_goto (tgt := 42) hx hb dX5_timeAllPairs_37 (by decide) ?_
                exact hK22 q35.1 q35.2 ls _ _ (lv_sub hl [0, 1, 2, 3] rfl) hP hD hS hF
        exact hloop36 2000 v10 ow5 ot6 ls _ _ (lv_sub hl [1, 2, 3, 0] rfl) hP hD hS hF
  exact hloop37 2000 0 ow ot ls _ _ (lv_sub hl [1, 2, 0] rfl) hP hD hS hF

/-! ### ThreeLegs.tied(III)I -/
abbrev wm_X5_tied (cI cZ cO : ClassId) (x_h c_h i_h k_h f_h w_h n_h s_h t_h c_0 c_1 c_2 c_3 n_0 n_1 n_2 n_3 : Nat) (oc : Ob) (ow : Ob) (on : Ob) (ot : (Nat → Int32)) : va_W := [(x_h, .inr (5, [.ref c_h, .ref i_h, .ref k_h, .ref f_h, .ref w_h, .ref n_h, .ref s_h, .ref t_h])), (c_h, .inr (0, [.ref c_0, .ref c_1, .ref c_2, .ref c_3, .int (oc 4 0), .int (oc 5 0), .int (oc 6 0)])), (c_0, .inl (cZ, 8, .inl (oc 0))), (c_1, .inl (cI, 8, .inl (oc 1))), (c_2, .inl (cI, 8, .inl (oc 2))), (c_3, .inl (cI, 8, .inl (oc 3))), (w_h, .inr (4, [.int (ow 0 0), .int (ow 1 0), .int (ow 2 0), .int (ow 3 0), .int (ow 4 0), .int (ow 5 0), .int (ow 6 0), .int (ow 7 0), .int (ow 8 0), .int (ow 9 0), .int (ow 10 0), .int (ow 11 0), .int (ow 12 0), .int (ow 13 0), .int (ow 14 0), .int (ow 15 0)])), (n_h, .inr (2, [.ref n_0, .ref n_1, .ref n_2, .ref n_3, .int (on 4 0), .int (on 5 0)])), (n_0, .inl (cI, 4, .inl (on 0))), (n_1, .inl (cI, 8, .inl (on 1))), (n_2, .inl (cI, 8, .inl (on 2))), (n_3, .inl (cI, 8, .inl (on 3))), (t_h, .inl (cI, 64, .inl ot))]
def F_X5_tied (oc : Ob) (ow : Ob) (on : Ob) (ot : (Nat → Int32)) (p0 : Int32) (p1 : Int32) (p2 : Int32) : Option (Int32 × Ob × Ob × (Nat → Int32)) :=
  (F_X0_count oc).bind (fun q1 => (if q1 = 0 then some ((-3), ow, on, ot) else dd (q1 - q1 / 2 * 2) (fun (v3 : Int32) => (if v3 = 0 then jn ((F_X5_isFeet p0).bind (fun q6 => (if q6 = 0 then some ((-2), ow, on, ot) else (F_X5_isWithin p1 0 1).bind (fun q8 => (if q8 = 0 then some ((-2), ow, on, ot) else (F_X5_timeAllPairs oc ow ot p0).bind (fun q10 => jn (fun (v12 : Int32) => (F_X2_seek on oc q10.2 v12).bind (fun q13 => (if p2 = (-1) then some ((q13 5 0), q10.1, q13, q10.2) else ck p2 8 (some (((q13 3) (p2).toNatClampNeg), q10.1, q13, q10.2))))) (fun (K11 : Int32 → Option (Int32 × Ob × Ob × (Nat → Int32))) => (if p1 = 1 then K11 1 else K11 0)))))))) (fun (K5 : Option (Int32 × Ob × Ob × (Nat → Int32))) => (if p2 = (-1) then K5 else (F_X0_hasRunner oc p2).bind (fun q18 => (if q18 = 0 then some ((-1), ow, on, ot) else K5)))) else some ((-3), ow, on, ot)))))
abbrev rm_X5_tied : Room := { frames := 6, cells := 0, slots := 0, locals := 133 }
abbrev wu_X5_tied : List Cond := .code yX5_tied cX5_tied 5 (some .int) :: lwG
set_option maxHeartbeats 20000000 in
set_option maxRecDepth 100000 in
theorem c_X5_tied (l : Launch) (D : va_G) (cI cZ cO : ClassId) (x_h c_h i_h k_h f_h w_h n_h s_h t_h c_0 c_1 c_2 c_3 n_0 n_1 n_2 n_3 : Nat) (sz : Nat) (oc : Ob) (ow : Ob) (on : Ob) (ot : (Nat → Int32)) (p0 : Int32) (p1 : Int32) (p2 : Int32) (q : Int32 × Ob × Ob × (Nat → Int32)) (hF : F_X5_tied oc ow on ot p0 p1 p2 = some q) : CtI l yX5_tied wu_X5_tied rm_X5_tied D vwCl (tyL cI cZ cO) [.ref x_h, .int p0, .int p1, .int p2] (wm_X5_tied cI cZ cO x_h c_h i_h k_h f_h w_h n_h s_h t_h c_0 c_1 c_2 c_3 n_0 n_1 n_2 n_3 oc ow on ot) sz 0 0 (fun (r : Int32) (u : Ob × Ob × (Nat → Int32)) => r = q.1 ∧ u = q.2) (fun u => wm_X5_tied cI cZ cO x_h c_h i_h k_h f_h w_h n_h s_h t_h c_0 c_1 c_2 c_3 n_0 n_1 n_2 n_3 oc u.1 u.2.1 u.2.2) := by
  refine mk_i (cc := cX5_tied) (maxL := 5) (by decide) rfl (Nat.le_of_ble_eq_true rfl) ?_
  intro p e s m args below meth c A ls Q hx hb hml hown hts hin hK hP hD hS hA hl hQ
  have hl : lv_has ls 5 [(0, .ref x_h), (1, .int p0), (2, .int p1), (3, .int p2)] := hl
  unfold F_X5_tied at hF
  refine lv_aload_n hx hb dX5_tied_0 rfl (lv_at hl 0 rfl) ?_
  refine va_get (D := D) (ci := 5) (v := .ref c_h) (C := RX5) (T := TX5) (N := 8) hx hb hts in_X5 hown hK hP 0 rfl rfl 0 (by decide) (hts _ wd_211) (fun _ h9 => h9) rfl dX5_tied_1 ?_
  obtain ⟨q1, hGq1, hF⟩ := of_bind hF
  refine callVi (As := []) (rest := []) (wr := [(x_h, .inr (5, [.ref c_h, .ref i_h, .ref k_h, .ref f_h, .ref w_h, .ref n_h, .ref s_h, .ref t_h])), (w_h, .inr (4, [.int (ow 0 0), .int (ow 1 0), .int (ow 2 0), .int (ow 3 0), .int (ow 4 0), .int (ow 5 0), .int (ow 6 0), .int (ow 7 0), .int (ow 8 0), .int (ow 9 0), .int (ow 10 0), .int (ow 11 0), .int (ow 12 0), .int (ow 13 0), .int (ow 14 0), .int (ow 15 0)])), (n_h, .inr (2, [.ref n_0, .ref n_1, .ref n_2, .ref n_3, .int (on 4 0), .int (on 5 0)])), (n_0, .inl (cI, 4, .inl (on 0))), (n_1, .inl (cI, 8, .inl (on 1))), (n_2, .inl (cI, 8, .inl (on 2))), (n_3, .inl (cI, 8, .inl (on 3))), (t_h, .inl (cI, 64, .inl ot))]) (WN := wm_X5_tied cI cZ cO x_h c_h i_h k_h f_h w_h n_h s_h t_h c_0 c_1 c_2 c_3 n_0 n_1 n_2 n_3 oc ow on ot) ⟨hx, hb, hml, hown, hts⟩ hK hP hD hS hA [1, 2, 3, 4, 5] [0, 6, 7, 8, 9, 10, 11, 12] [0, 8, 9, 10, 11, 12, 1, 2, 3, 4, 5, 6, 7] (c_X0_count l D cI cZ cO c_h c_0 c_1 c_2 c_3 _ oc q1 hGq1) (cwV 0 hts (gV wd_247 wd_248 wd_249 wd_34 wd_250) rfl rfl rfl (by decide +kernel) ⟨Nat.le_of_ble_eq_true rfl, Nat.le_of_ble_eq_true rfl⟩) 0 0 rfl rfl rfl rfl rfl rfl rfl (by decide) rfl rfl rfl hl.1 rfl (Nat.le_of_ble_eq_true rfl) dX5_tied_4 ⟨Nat.zero_le _, Nat.zero_le _⟩ (fun H locs hP hD hS => ?_)
  refine lv_istore (lv' := [(4, .int q1), (0, .ref x_h), (1, .int p0), (2, .int p1), (3, .int p2)]) hx hb dX5_tied_7 hl (by decide) rfl (fun ls hl => ?_)
  refine lv_iload hx hb dX5_tied_9 (lv_at hl 0 rfl) ?_
  refine lv_if_eq (tgt := 21) hx hb dX5_tied_11 (by decide) (fun h2 => ?_) (fun h2 => ?_)
  · replace hF := of_t h2 hF
    refine lv_bipush (v := (-3)) hx hb dX5_tied_21 (by decide) ?_
    exact hQ _ _ _ _ _ (ow, on, ot) ⟨inj_fst hF, inj_snd hF⟩ hP hD hS dX5_tied_23
  · replace hF := of_f h2 hF
    refine lv_iload hx hb dX5_tied_14 (lv_at hl 0 rfl) ?_
    refine lv_iconst (v := 2) hx hb dX5_tied_16 (by decide) ?_
    refine lv_irem hx hb dX5_tied_17 (by decide) ?_
    refine lv_topi (fun v3 ev3 => ?_)
    replace hF := of_dd hF v3 ev3
    refine lv_if_eq (tgt := 24) hx hb dX5_tied_18 (by decide) (fun h4 => ?_) (fun h4 => ?_)
    · replace hF := of_t h4 hF
      refine lv_iload_n hx hb dX5_tied_24 rfl (lv_at hl 4 rfl) ?_
      refine lv_iconst (v := (-1)) hx hb dX5_tied_25 (by decide) ?_
      obtain ⟨K5, eK5, hF⟩ := of_jn hF
      have hK5 : ∀  (ls : Array Slot) (H : Heap) (locs : List Loc), lv_has ls 5 [(0, .ref x_h), (1, .int p0), (2, .int p1), (3, .int p2)] → va_P D vwCl (wm_X5_tied cI cZ cO x_h c_h i_h k_h f_h w_h n_h s_h t_h c_0 c_1 c_2 c_3 n_0 n_1 n_2 n_3 oc ow on ot) H → va_D A (wm_X5_tied cI cZ cO x_h c_h i_h k_h f_h w_h n_h s_h t_h c_0 c_1 c_2 c_3 n_0 n_1 n_2 n_3 oc ow on ot) → va_S A s.heap H locs → K5 = some q → W p l e rm_X5_tied s m args below meth c H locs 0 0 Q (F0 m 42 ls []) := by
        intro  ls H locs hl hP hD hS hF
        subst eK5
        refine lv_iload_n hx hb dX5_tied_42 rfl (lv_at hl 1 rfl) ?_
        obtain ⟨q6, hGq6, hF⟩ := of_bind hF
        refine callSi (As := [.int p0]) (rest := []) ⟨hx, hb, hml, hown, hts⟩ hK hP hD hS hA (c_X5_isFeet l D cI cZ cO  _ p0 q6 hGq6) (va_cwS 1 hts (gS wd_333 wd_334 wd_33 wd_335) rfl rfl rfl (by decide +kernel) ⟨Nat.le_of_ble_eq_true rfl, Nat.le_of_ble_eq_true rfl⟩) rfl hl.1 rfl (Nat.le_of_ble_eq_true rfl) dX5_tied_43 ⟨Nat.zero_le _, Nat.zero_le _⟩ (fun H locs hP hS => ?_)
        refine lv_if_eq (tgt := 58) hx hb dX5_tied_46 (by decide) (fun h7 => ?_) (fun h7 => ?_)
        · replace hF := of_t h7 hF
          refine lv_bipush (v := (-2)) hx hb dX5_tied_58 (by decide) ?_
          exact hQ _ _ _ _ _ (ow, on, ot) ⟨inj_fst hF, inj_snd hF⟩ hP hD hS dX5_tied_60
        · replace hF := of_f h7 hF
          refine lv_iload_n hx hb dX5_tied_49 rfl (lv_at hl 2 rfl) ?_
          refine lv_iconst (v := 0) hx hb dX5_tied_50 (by decide) ?_
          refine lv_iconst (v := 1) hx hb dX5_tied_51 (by decide) ?_
          obtain ⟨q8, hGq8, hF⟩ := of_bind hF
          refine callSi (As := [.int p1, .int 0, .int 1]) (rest := []) ⟨hx, hb, hml, hown, hts⟩ hK hP hD hS hA (c_X5_isWithin l D cI cZ cO  _ p1 0 1 q8 hGq8) (va_cwS 3 hts (gS wd_240 wd_241 wd_33 wd_242) rfl rfl rfl (by decide +kernel) ⟨Nat.le_of_ble_eq_true rfl, Nat.le_of_ble_eq_true rfl⟩) rfl hl.1 rfl (Nat.le_of_ble_eq_true rfl) dX5_tied_52 ⟨Nat.zero_le _, Nat.zero_le _⟩ (fun H locs hP hS => ?_)
          refine lv_if_ne (tgt := 61) hx hb dX5_tied_55 (by decide) (fun h9 => ?_) (fun h9 => ?_)
          · replace hF := of_f h9 hF
            refine lv_aload_n hx hb dX5_tied_61 rfl (lv_at hl 0 rfl) ?_
            refine lv_iload_n hx hb dX5_tied_62 rfl (lv_at hl 1 rfl) ?_
            obtain ⟨q10, hGq10, hF⟩ := of_bind hF
            refine callVv (As := [.int p0]) (rest := []) (wr := [(n_h, .inr (2, [.ref n_0, .ref n_1, .ref n_2, .ref n_3, .int (on 4 0), .int (on 5 0)])), (n_0, .inl (cI, 4, .inl (on 0))), (n_1, .inl (cI, 8, .inl (on 1))), (n_2, .inl (cI, 8, .inl (on 2))), (n_3, .inl (cI, 8, .inl (on 3)))]) (WN := wm_X5_tied cI cZ cO x_h c_h i_h k_h f_h w_h n_h s_h t_h c_0 c_1 c_2 c_3 n_0 n_1 n_2 n_3 oc q10.1 on q10.2) ⟨hx, hb, hml, hown, hts⟩ hK hP hD hS hA [0, 1, 2, 3, 4, 5, 6, 12] [7, 8, 9, 10, 11] [5, 6, 7, 8, 9, 10, 11, 0, 1, 2, 3, 4, 12] (c_X5_timeAllPairs l D cI cZ cO x_h c_h i_h k_h f_h w_h n_h s_h t_h c_0 c_1 c_2 c_3 _ oc ow ot p0 q10 hGq10) (cwV 1 hts (gV wd_366 wd_368 wd_6 wd_33 wd_369) rfl rfl rfl (by decide +kernel) ⟨Nat.le_of_ble_eq_true rfl, Nat.le_of_ble_eq_true rfl⟩) 0 5 rfl rfl rfl rfl rfl rfl rfl (by decide) rfl rfl rfl hl.1 rfl (Nat.le_of_ble_eq_true rfl) dX5_tied_63 ⟨Nat.zero_le _, Nat.zero_le _⟩ (fun H locs hP hD hS => ?_)
            refine lv_aload_n hx hb dX5_tied_66 rfl (lv_at hl 0 rfl) ?_
            refine va_get (D := D) (ci := 5) (v := .ref n_h) (C := RX5) (T := TX5) (N := 8) hx hb hts in_X5 hown hK hP 0 rfl rfl 5 (by decide) (hts _ wd_216) (fun _ h9 => h9) rfl dX5_tied_67 ?_
            refine lv_aload_n hx hb dX5_tied_70 rfl (lv_at hl 0 rfl) ?_
            refine va_get (D := D) (ci := 5) (v := .ref c_h) (C := RX5) (T := TX5) (N := 8) hx hb hts in_X5 hown hK hP 0 rfl rfl 0 (by decide) (hts _ wd_211) (fun _ h9 => h9) rfl dX5_tied_71 ?_
            refine lv_aload_n hx hb dX5_tied_74 rfl (lv_at hl 0 rfl) ?_
            refine va_get (D := D) (ci := 5) (v := .ref t_h) (C := RX5) (T := TX5) (N := 8) hx hb hts in_X5 hown hK hP 0 rfl rfl 7 (by decide) (hts _ wd_218) (fun _ h9 => h9) rfl dX5_tied_75 ?_
            refine lv_iload_n hx hb dX5_tied_78 rfl (lv_at hl 2 rfl) ?_
            refine lv_iconst (v := 1) hx hb dX5_tied_79 (by decide) ?_
            obtain ⟨K11, eK11, hF⟩ := of_jn hF
            have hK11 : ∀ (v12 : Int32) (ls : Array Slot) (H : Heap) (locs : List Loc), lv_has ls 5 [(0, .ref x_h), (3, .int p2)] → va_P D vwCl (wm_X5_tied cI cZ cO x_h c_h i_h k_h f_h w_h n_h s_h t_h c_0 c_1 c_2 c_3 n_0 n_1 n_2 n_3 oc q10.1 on q10.2) H → va_D A (wm_X5_tied cI cZ cO x_h c_h i_h k_h f_h w_h n_h s_h t_h c_0 c_1 c_2 c_3 n_0 n_1 n_2 n_3 oc q10.1 on q10.2) → va_S A s.heap H locs → K11 v12 = some q → W p l e rm_X5_tied s m args below meth c H locs 0 0 Q (F0 m 88 ls [.int v12, .ref t_h, .ref c_h, .ref n_h]) := by
              intro v12 ls H locs hl hP hD hS hF
              subst eK11
              obtain ⟨q13, hGq13, hF⟩ := of_bind hF
              refine callVv (As := [.ref c_h, .ref t_h, .int v12]) (rest := []) (wr := [(x_h, .inr (5, [.ref c_h, .ref i_h, .ref k_h, .ref f_h, .ref w_h, .ref n_h, .ref s_h, .ref t_h])), (w_h, .inr (4, [.int (q10.1 0 0), .int (q10.1 1 0), .int (q10.1 2 0), .int (q10.1 3 0), .int (q10.1 4 0), .int (q10.1 5 0), .int (q10.1 6 0), .int (q10.1 7 0), .int (q10.1 8 0), .int (q10.1 9 0), .int (q10.1 10 0), .int (q10.1 11 0), .int (q10.1 12 0), .int (q10.1 13 0), .int (q10.1 14 0), .int (q10.1 15 0)]))]) (WN := wm_X5_tied cI cZ cO x_h c_h i_h k_h f_h w_h n_h s_h t_h c_0 c_1 c_2 c_3 n_0 n_1 n_2 n_3 oc q10.1 q13 q10.2) ⟨hx, hb, hml, hown, hts⟩ hK hP hD hS hA [7, 8, 9, 10, 11, 1, 2, 3, 4, 5, 12] [0, 6] [0, 7, 8, 9, 10, 11, 1, 2, 3, 4, 5, 6, 12] (c_X2_seek l D cI cZ cO n_h n_0 n_1 n_2 n_3 c_h c_0 c_1 c_2 c_3 t_h _ on oc q10.2 v12 q13 hGq13) (cwV 3 hts (gV wd_370 wd_371 wd_372 wd_37 wd_373) rfl rfl rfl (by decide +kernel) ⟨Nat.le_of_ble_eq_true rfl, Nat.le_of_ble_eq_true rfl⟩) 0 2 rfl rfl rfl rfl rfl rfl rfl (by decide) rfl rfl rfl hl.1 rfl (Nat.le_of_ble_eq_true rfl) dX5_tied_88 ⟨Nat.zero_le _, Nat.zero_le _⟩ (fun H locs hP hD hS => ?_)
              refine lv_iload_n hx hb dX5_tied_91 rfl (lv_at hl 1 rfl) ?_
              refine lv_iconst (v := (-1)) hx hb dX5_tied_92 (by decide) ?_
              refine lv_icmp_ne (tgt := 106) hx hb dX5_tied_93 (by decide) (fun h14 => ?_) (fun h14 => ?_)
              · replace hF := of_f h14 hF
                refine lv_aload_n hx hb dX5_tied_106 rfl (lv_at hl 0 rfl) ?_
                refine va_get (D := D) (ci := 5) (v := .ref n_h) (C := RX5) (T := TX5) (N := 8) hx hb hts in_X5 hown hK hP 0 rfl rfl 5 (by decide) (hts _ wd_216) (fun _ h9 => h9) rfl dX5_tied_107 ?_
                refine va_get (D := D) (ci := 2) (v := .ref n_3) (C := RX2) (T := TX2) (N := 6) hx hb hts in_X2 hown hK hP 7 rfl rfl 3 (by decide) (hts _ wd_180) (fun _ h9 => h9) rfl dX5_tied_110 ?_
                refine lv_iload_n hx hb dX5_tied_113 rfl (lv_at hl 1 rfl) ?_
                obtain ⟨h15, hF⟩ := of_ck hF
                refine va_iald (D := D) hx hb hK hP 11 0 rfl rfl h15 dX5_tied_114 ?_
                exact hQ _ _ _ _ _ (q10.1, q13, q10.2) ⟨inj_fst hF, inj_snd hF⟩ hP hD hS dX5_tied_115
              · replace hF := of_t h14 hF
                refine lv_aload_n hx hb dX5_tied_96 rfl (lv_at hl 0 rfl) ?_
                refine va_get (D := D) (ci := 5) (v := .ref n_h) (C := RX5) (T := TX5) (N := 8) hx hb hts in_X5 hown hK hP 0 rfl rfl 5 (by decide) (hts _ wd_216) (fun _ h9 => h9) rfl dX5_tied_97 ?_
                refine va_get (D := D) (ci := 2) (v := .int (q13 5 0)) (C := RX2) (T := TX2) (N := 6) hx hb hts in_X2 hown hK hP 7 rfl rfl 5 (by decide) (hts _ wd_183) (fun _ h9 => h9) rfl dX5_tied_100 ?_
                refine lv_goto (tgt := 115) hx hb dX5_tied_103 (by decide) ?_
                exact hQ _ _ _ _ _ (q10.1, q13, q10.2) ⟨inj_fst hF, inj_snd hF⟩ hP hD hS dX5_tied_115
            refine lv_icmp_ne (tgt := 87) hx hb dX5_tied_80 (by decide) (fun h16 => ?_) (fun h16 => ?_)
            · replace hF := of_f h16 hF
              refine lv_iconst (v := 0) hx hb dX5_tied_87 (by decide) ?_
              exact hK11 0 ls _ _ (lv_sub hl [0, 3] rfl) hP hD hS hF
            · replace hF := of_t h16 hF
              refine lv_iconst (v := 1) hx hb dX5_tied_83 (by decide) ?_
              refine lv_goto (tgt := 88) hx hb dX5_tied_84 (by decide) ?_
              exact hK11 1 ls _ _ (lv_sub hl [0, 3] rfl) hP hD hS hF
          · replace hF := of_t h9 hF
            refine lv_bipush (v := (-2)) hx hb dX5_tied_58 (by decide) ?_
            exact hQ _ _ _ _ _ (ow, on, ot) ⟨inj_fst hF, inj_snd hF⟩ hP hD hS dX5_tied_60
      refine lv_icmp_eq (tgt := 42) hx hb dX5_tied_26 (by decide) (fun h17 => ?_) (fun h17 => ?_)
      · replace hF := of_t h17 hF
        exact hK5  ls _ _ (lv_sub hl [1, 2, 3, 4] rfl) hP hD hS hF
      · replace hF := of_f h17 hF
        refine lv_aload_n hx hb dX5_tied_29 rfl (lv_at hl 1 rfl) ?_
        refine va_get (D := D) (ci := 5) (v := .ref c_h) (C := RX5) (T := TX5) (N := 8) hx hb hts in_X5 hown hK hP 0 rfl rfl 0 (by decide) (hts _ wd_211) (fun _ h9 => h9) rfl dX5_tied_30 ?_
        refine lv_iload_n hx hb dX5_tied_33 rfl (lv_at hl 4 rfl) ?_
        obtain ⟨q18, hGq18, hF⟩ := of_bind hF
        refine callVi (As := [.int p2]) (rest := []) (wr := [(x_h, .inr (5, [.ref c_h, .ref i_h, .ref k_h, .ref f_h, .ref w_h, .ref n_h, .ref s_h, .ref t_h])), (w_h, .inr (4, [.int (ow 0 0), .int (ow 1 0), .int (ow 2 0), .int (ow 3 0), .int (ow 4 0), .int (ow 5 0), .int (ow 6 0), .int (ow 7 0), .int (ow 8 0), .int (ow 9 0), .int (ow 10 0), .int (ow 11 0), .int (ow 12 0), .int (ow 13 0), .int (ow 14 0), .int (ow 15 0)])), (n_h, .inr (2, [.ref n_0, .ref n_1, .ref n_2, .ref n_3, .int (on 4 0), .int (on 5 0)])), (n_0, .inl (cI, 4, .inl (on 0))), (n_1, .inl (cI, 8, .inl (on 1))), (n_2, .inl (cI, 8, .inl (on 2))), (n_3, .inl (cI, 8, .inl (on 3))), (t_h, .inl (cI, 64, .inl ot))]) (WN := wm_X5_tied cI cZ cO x_h c_h i_h k_h f_h w_h n_h s_h t_h c_0 c_1 c_2 c_3 n_0 n_1 n_2 n_3 oc ow on ot) ⟨hx, hb, hml, hown, hts⟩ hK hP hD hS hA [1, 2, 3, 4, 5] [0, 6, 7, 8, 9, 10, 11, 12] [0, 8, 9, 10, 11, 12, 1, 2, 3, 4, 5, 6, 7] (c_X0_hasRunner l D cI cZ cO c_h c_0 c_1 c_2 c_3 _ oc p2 q18 hGq18) (cwV 1 hts (gV wd_265 wd_266 wd_267 wd_34 wd_268) rfl rfl rfl (by decide +kernel) ⟨Nat.le_of_ble_eq_true rfl, Nat.le_of_ble_eq_true rfl⟩) 0 0 rfl rfl rfl rfl rfl rfl rfl (by decide) rfl rfl rfl hl.1 rfl (Nat.le_of_ble_eq_true rfl) dX5_tied_34 ⟨Nat.zero_le _, Nat.zero_le _⟩ (fun H locs hP hD hS => ?_)
        refine lv_if_ne (tgt := 42) hx hb dX5_tied_37 (by decide) (fun h19 => ?_) (fun h19 => ?_)
        · replace hF := of_f h19 hF
          exact hK5  ls _ _ (lv_sub hl [1, 2, 3, 4] rfl) hP hD hS hF
        · replace hF := of_t h19 hF
          refine lv_iconst (v := (-1)) hx hb dX5_tied_40 (by decide) ?_
          exact hQ _ _ _ _ _ (ow, on, ot) ⟨inj_fst hF, inj_snd hF⟩ hP hD hS dX5_tied_41
    · replace hF := of_f h4 hF
      refine lv_bipush (v := (-3)) hx hb dX5_tied_21 (by decide) ?_
      exact hQ _ _ _ _ _ (ow, on, ot) ⟨inj_fst hF, inj_snd hF⟩ hP hD hS dX5_tied_23

/-! ### ThreeLegs.call(IIII)I -/
abbrev wm_X5_call (cI cZ cO : ClassId) (x_h c_h i_h k_h f_h w_h n_h s_h t_h c_0 c_1 c_2 c_3 : Nat) (oc : Ob) (ow : Ob) (os : Ob) : va_W := [(x_h, .inr (5, [.ref c_h, .ref i_h, .ref k_h, .ref f_h, .ref w_h, .ref n_h, .ref s_h, .ref t_h])), (c_h, .inr (0, [.ref c_0, .ref c_1, .ref c_2, .ref c_3, .int (oc 4 0), .int (oc 5 0), .int (oc 6 0)])), (c_0, .inl (cZ, 8, .inl (oc 0))), (c_1, .inl (cI, 8, .inl (oc 1))), (c_2, .inl (cI, 8, .inl (oc 2))), (c_3, .inl (cI, 8, .inl (oc 3))), (w_h, .inr (4, [.int (ow 0 0), .int (ow 1 0), .int (ow 2 0), .int (ow 3 0), .int (ow 4 0), .int (ow 5 0), .int (ow 6 0), .int (ow 7 0), .int (ow 8 0), .int (ow 9 0), .int (ow 10 0), .int (ow 11 0), .int (ow 12 0), .int (ow 13 0), .int (ow 14 0), .int (ow 15 0)])), (s_h, .inr (3, [.int (os 0 0), .int (os 1 0)]))]
def L_X5_call_29 : Nat → Int32 → Int32 → Int32 → Ob → Int32 → Ob → Ob → (Ob → Ob → Option (Int32 × Ob × Ob)) → Option (Int32 × Ob × Ob)
  | 0, _, _, _, _, _, _, _, _ => none
  | n12 + 1, p0, p1, p2, oc, v8, ow9, os10, K4 =>
    (if 20 < v8 then K4 ow9 os10 else (F_X4_tie ow9 oc p0 p1).bind (fun q14 => (F_X4_beatBoth q14 v8).bind (fun q15 => (F_X4_timeTo q15 p2 (-1)).bind (fun q16 => (F_X3_offer os10 v8 q16.1).bind (fun q17 => dd (v8 + 1) (fun (v18 : Int32) => L_X5_call_29 n12 p0 p1 p2 oc v18 q16.2 q17 K4))))))
def F_X5_call (oc : Ob) (ow : Ob) (os : Ob) (p0 : Int32) (p1 : Int32) (p2 : Int32) (p3 : Int32) : Option (Int32 × Ob × Ob) :=
  (F_X5_refusalOfRace oc p0 p1 p2 p3).bind (fun q1 => (if q1 = 0 then (F_X3_clear os).bind (fun q3 => jn (fun (ow5 : Ob) (os6 : Ob) => (F_X3_answer os6 p3).bind (fun q7 => some (q7, ow5, os6))) (fun (K4 : Ob → Ob → Option (Int32 × Ob × Ob)) => L_X5_call_29 2000 p0 p1 p2 oc 4 ow q3 K4)) else some (q1, ow, os)))
abbrev rm_X5_call : Room := { frames := 4, cells := 0, slots := 0, locals := 86 }
abbrev wu_X5_call : List Cond := .code yX5_call cX5_call 7 (some .int) :: lwG
set_option maxHeartbeats 20000000 in
set_option maxRecDepth 100000 in
theorem c_X5_call (l : Launch) (D : va_G) (cI cZ cO : ClassId) (x_h c_h i_h k_h f_h w_h n_h s_h t_h c_0 c_1 c_2 c_3 : Nat) (sz : Nat) (oc : Ob) (ow : Ob) (os : Ob) (p0 : Int32) (p1 : Int32) (p2 : Int32) (p3 : Int32) (q : Int32 × Ob × Ob) (hF : F_X5_call oc ow os p0 p1 p2 p3 = some q) : CtI l yX5_call wu_X5_call rm_X5_call D vwCl (tyL cI cZ cO) [.ref x_h, .int p0, .int p1, .int p2, .int p3] (wm_X5_call cI cZ cO x_h c_h i_h k_h f_h w_h n_h s_h t_h c_0 c_1 c_2 c_3 oc ow os) sz 0 0 (fun (r : Int32) (u : Ob × Ob) => r = q.1 ∧ u = q.2) (fun u => wm_X5_call cI cZ cO x_h c_h i_h k_h f_h w_h n_h s_h t_h c_0 c_1 c_2 c_3 oc u.1 u.2) := by
  refine mk_i (cc := cX5_call) (maxL := 7) (by decide) rfl (Nat.le_of_ble_eq_true rfl) ?_
  intro p e s m args below meth c A ls Q hx hb hml hown hts hin hK hP hD hS hA hl hQ
  have hl : lv_has ls 7 [(0, .ref x_h), (1, .int p0), (2, .int p1), (3, .int p2), (4, .int p3)] := hl
  unfold F_X5_call at hF
  refine lv_aload_n hx hb dX5_call_0 rfl (lv_at hl 0 rfl) ?_
  refine lv_iload_n hx hb dX5_call_1 rfl (lv_at hl 1 rfl) ?_
  refine lv_iload_n hx hb dX5_call_2 rfl (lv_at hl 2 rfl) ?_
  refine lv_iload_n hx hb dX5_call_3 rfl (lv_at hl 3 rfl) ?_
  refine lv_iload hx hb dX5_call_4 (lv_at hl 4 rfl) ?_
  obtain ⟨q1, hGq1, hF⟩ := of_bind hF
  refine callVi (As := [.int p0, .int p1, .int p2, .int p3]) (rest := []) (wr := [(w_h, .inr (4, [.int (ow 0 0), .int (ow 1 0), .int (ow 2 0), .int (ow 3 0), .int (ow 4 0), .int (ow 5 0), .int (ow 6 0), .int (ow 7 0), .int (ow 8 0), .int (ow 9 0), .int (ow 10 0), .int (ow 11 0), .int (ow 12 0), .int (ow 13 0), .int (ow 14 0), .int (ow 15 0)])), (s_h, .inr (3, [.int (os 0 0), .int (os 1 0)]))]) (WN := wm_X5_call cI cZ cO x_h c_h i_h k_h f_h w_h n_h s_h t_h c_0 c_1 c_2 c_3 oc ow os) ⟨hx, hb, hml, hown, hts⟩ hK hP hD hS hA [0, 1, 2, 3, 4, 5] [6, 7] [2, 3, 4, 5, 6, 7, 0, 1] (c_X5_refusalOfRace l D cI cZ cO x_h c_h i_h k_h f_h w_h n_h s_h t_h c_0 c_1 c_2 c_3 _ oc p0 p1 p2 p3 q1 hGq1) (cwV 4 hts (gV wd_329 wd_331 wd_3 wd_33 wd_332) rfl rfl rfl (by decide +kernel) ⟨Nat.le_of_ble_eq_true rfl, Nat.le_of_ble_eq_true rfl⟩) 0 5 rfl rfl rfl rfl rfl rfl rfl (by decide) rfl rfl rfl hl.1 rfl (Nat.le_of_ble_eq_true rfl) dX5_call_6 ⟨Nat.zero_le _, Nat.zero_le _⟩ (fun H locs hP hD hS => ?_)
  refine lv_istore (lv' := [(5, .int q1), (0, .ref x_h), (1, .int p0), (2, .int p1), (3, .int p2), (4, .int p3)]) hx hb dX5_call_9 hl (by decide) rfl (fun ls hl => ?_)
  refine lv_iload hx hb dX5_call_11 (lv_at hl 0 rfl) ?_
  refine lv_if_eq (tgt := 19) hx hb dX5_call_13 (by decide) (fun h2 => ?_) (fun h2 => ?_)
  · replace hF := of_t h2 hF
    refine lv_aload_n hx hb dX5_call_19 rfl (lv_at hl 1 rfl) ?_
    refine va_get (D := D) (ci := 5) (v := .ref s_h) (C := RX5) (T := TX5) (N := 8) hx hb hts in_X5 hown hK hP 0 rfl rfl 6 (by decide) (hts _ wd_217) (fun _ h9 => h9) rfl dX5_call_20 ?_
    obtain ⟨q3, hGq3, hF⟩ := of_bind hF
    refine callVv (As := []) (rest := []) (wr := [(x_h, .inr (5, [.ref c_h, .ref i_h, .ref k_h, .ref f_h, .ref w_h, .ref n_h, .ref s_h, .ref t_h])), (c_h, .inr (0, [.ref c_0, .ref c_1, .ref c_2, .ref c_3, .int (oc 4 0), .int (oc 5 0), .int (oc 6 0)])), (c_0, .inl (cZ, 8, .inl (oc 0))), (c_1, .inl (cI, 8, .inl (oc 1))), (c_2, .inl (cI, 8, .inl (oc 2))), (c_3, .inl (cI, 8, .inl (oc 3))), (w_h, .inr (4, [.int (ow 0 0), .int (ow 1 0), .int (ow 2 0), .int (ow 3 0), .int (ow 4 0), .int (ow 5 0), .int (ow 6 0), .int (ow 7 0), .int (ow 8 0), .int (ow 9 0), .int (ow 10 0), .int (ow 11 0), .int (ow 12 0), .int (ow 13 0), .int (ow 14 0), .int (ow 15 0)]))]) (WN := wm_X5_call cI cZ cO x_h c_h i_h k_h f_h w_h n_h s_h t_h c_0 c_1 c_2 c_3 oc ow q3) ⟨hx, hb, hml, hown, hts⟩ hK hP hD hS hA [7] [0, 1, 2, 3, 4, 5, 6] [0, 1, 2, 3, 4, 5, 6, 7] (c_X3_clear l D cI cZ cO s_h _ os q3 hGq3) (cwV 0 hts (gV wd_402 wd_403 wd_404 wd_38 wd_405) rfl rfl rfl (by decide +kernel) ⟨Nat.le_of_ble_eq_true rfl, Nat.le_of_ble_eq_true rfl⟩) 0 3 rfl rfl rfl rfl rfl rfl rfl (by decide) rfl rfl rfl hl.1 rfl (Nat.le_of_ble_eq_true rfl) dX5_call_23 ⟨Nat.zero_le _, Nat.zero_le _⟩ (fun H locs hP hD hS => ?_)
    refine lv_iconst (v := 4) hx hb dX5_call_26 (by decide) ?_
    refine lv_istore (lv' := [(6, .int 4), (5, .int q1), (0, .ref x_h), (1, .int p0), (2, .int p1), (3, .int p2), (4, .int p3)]) hx hb dX5_call_27 hl (by decide) rfl (fun ls hl => ?_)
    obtain ⟨K4, eK4, hF⟩ := of_jn hF
    have hK4 : ∀ (ow5 : Ob) (os6 : Ob) (ls : Array Slot) (H : Heap) (locs : List Loc), lv_has ls 7 [(0, .ref x_h), (4, .int p3)] → va_P D vwCl (wm_X5_call cI cZ cO x_h c_h i_h k_h f_h w_h n_h s_h t_h c_0 c_1 c_2 c_3 oc ow5 os6) H → va_D A (wm_X5_call cI cZ cO x_h c_h i_h k_h f_h w_h n_h s_h t_h c_0 c_1 c_2 c_3 oc ow5 os6) → va_S A s.heap H locs → K4 ow5 os6 = some q → W p l e rm_X5_call s m args below meth c H locs 0 0 Q (F0 m 82 ls []) := by
      intro ow5 os6 ls H locs hl hP hD hS hF
      subst eK4
      refine lv_aload_n hx hb dX5_call_82 rfl (lv_at hl 0 rfl) ?_
      refine va_get (D := D) (ci := 5) (v := .ref s_h) (C := RX5) (T := TX5) (N := 8) hx hb hts in_X5 hown hK hP 0 rfl rfl 6 (by decide) (hts _ wd_217) (fun _ h9 => h9) rfl dX5_call_83 ?_
      refine lv_iload hx hb dX5_call_86 (lv_at hl 1 rfl) ?_
      obtain ⟨q7, hGq7, hF⟩ := of_bind hF
      refine callVi (As := [.int p3]) (rest := []) (wr := [(x_h, .inr (5, [.ref c_h, .ref i_h, .ref k_h, .ref f_h, .ref w_h, .ref n_h, .ref s_h, .ref t_h])), (c_h, .inr (0, [.ref c_0, .ref c_1, .ref c_2, .ref c_3, .int (oc 4 0), .int (oc 5 0), .int (oc 6 0)])), (c_0, .inl (cZ, 8, .inl (oc 0))), (c_1, .inl (cI, 8, .inl (oc 1))), (c_2, .inl (cI, 8, .inl (oc 2))), (c_3, .inl (cI, 8, .inl (oc 3))), (w_h, .inr (4, [.int (ow5 0 0), .int (ow5 1 0), .int (ow5 2 0), .int (ow5 3 0), .int (ow5 4 0), .int (ow5 5 0), .int (ow5 6 0), .int (ow5 7 0), .int (ow5 8 0), .int (ow5 9 0), .int (ow5 10 0), .int (ow5 11 0), .int (ow5 12 0), .int (ow5 13 0), .int (ow5 14 0), .int (ow5 15 0)]))]) (WN := wm_X5_call cI cZ cO x_h c_h i_h k_h f_h w_h n_h s_h t_h c_0 c_1 c_2 c_3 oc ow5 os6) ⟨hx, hb, hml, hown, hts⟩ hK hP hD hS hA [7] [0, 1, 2, 3, 4, 5, 6] [0, 1, 2, 3, 4, 5, 6, 7] (c_X3_answer l D cI cZ cO s_h _ os6 p3 q7 hGq7) (cwV 1 hts (gV wd_414 wd_415 wd_416 wd_38 wd_417) rfl rfl rfl (by decide +kernel) ⟨Nat.le_of_ble_eq_true rfl, Nat.le_of_ble_eq_true rfl⟩) 0 3 rfl rfl rfl rfl rfl rfl rfl (by decide) rfl rfl rfl hl.1 rfl (Nat.le_of_ble_eq_true rfl) dX5_call_88 ⟨Nat.zero_le _, Nat.zero_le _⟩ (fun H locs hP hD hS => ?_)
      exact hQ _ _ _ _ _ (ow5, os6) ⟨inj_fst hF, inj_snd hF⟩ hP hD hS dX5_call_91
    have hloop19 : ∀ (n12 : Nat) (v8 : Int32) (ow9 : Ob) (os10 : Ob) (ls : Array Slot) (H : Heap) (locs : List Loc), lv_has ls 7 [(0, .ref x_h), (1, .int p0), (2, .int p1), (3, .int p2), (4, .int p3), (6, .int v8)] → va_P D vwCl (wm_X5_call cI cZ cO x_h c_h i_h k_h f_h w_h n_h s_h t_h c_0 c_1 c_2 c_3 oc ow9 os10) H → va_D A (wm_X5_call cI cZ cO x_h c_h i_h k_h f_h w_h n_h s_h t_h c_0 c_1 c_2 c_3 oc ow9 os10) → va_S A s.heap H locs → L_X5_call_29 n12 p0 p1 p2 oc v8 ow9 os10 K4 = some q → W p l e rm_X5_call s m args below meth c H locs 0 0 Q (F0 m 29 ls []) := by
      intro n12
      induction n12 with
      | zero =>
        intro v8 ow9 os10 ls H locs hl hP hD hS hF
        exact of_none hF
      | succ n12 ih11 =>
        intro v8 ow9 os10 ls H locs hl hP hD hS hF
        rw [L_X5_call_29.eq_2] at hF
        refine lv_iload hx hb dX5_call_29 (lv_at hl 5 rfl) ?_
        refine lv_bipush (v := 20) hx hb dX5_call_31 (by decide) ?_
        refine lv_icmp_gt (tgt := 82) hx hb dX5_call_33 (by decide) (fun h13 => ?_) (fun h13 => ?_)
        · replace hF := of_t h13 hF
          exact hK4 ow9 os10 ls _ _ (lv_sub hl [0, 4] rfl) hP hD hS hF
        · replace hF := of_f h13 hF
          refine lv_aload_n hx hb dX5_call_36 rfl (lv_at hl 0 rfl) ?_
          refine va_get (D := D) (ci := 5) (v := .ref w_h) (C := RX5) (T := TX5) (N := 8) hx hb hts in_X5 hown hK hP 0 rfl rfl 4 (by decide) (hts _ wd_215) (fun _ h9 => h9) rfl dX5_call_37 ?_
          refine lv_aload_n hx hb dX5_call_40 rfl (lv_at hl 0 rfl) ?_
          refine va_get (D := D) (ci := 5) (v := .ref c_h) (C := RX5) (T := TX5) (N := 8) hx hb hts in_X5 hown hK hP 0 rfl rfl 0 (by decide) (hts _ wd_211) (fun _ h9 => h9) rfl dX5_call_41 ?_
          refine lv_iload_n hx hb dX5_call_44 rfl (lv_at hl 1 rfl) ?_
          refine lv_iload_n hx hb dX5_call_45 rfl (lv_at hl 2 rfl) ?_
          obtain ⟨q14, hGq14, hF⟩ := of_bind hF
          refine callVv (As := [.ref c_h, .int p0, .int p1]) (rest := []) (wr := [(x_h, .inr (5, [.ref c_h, .ref i_h, .ref k_h, .ref f_h, .ref w_h, .ref n_h, .ref s_h, .ref t_h])), (s_h, .inr (3, [.int (os10 0 0), .int (os10 1 0)]))]) (WN := wm_X5_call cI cZ cO x_h c_h i_h k_h f_h w_h n_h s_h t_h c_0 c_1 c_2 c_3 oc q14 os10) ⟨hx, hb, hml, hown, hts⟩ hK hP hD hS hA [6, 1, 2, 3, 4, 5] [0, 7] [0, 3, 4, 5, 6, 7, 2, 1] (c_X4_tie l D cI cZ cO w_h c_h c_0 c_1 c_2 c_3 _ ow9 oc p0 p1 q14 hGq14) (cwV 3 hts (gV wd_298 wd_299 wd_300 wd_36 wd_301) rfl rfl rfl (by decide +kernel) ⟨Nat.le_of_ble_eq_true rfl, Nat.le_of_ble_eq_true rfl⟩) 0 4 rfl rfl rfl rfl rfl rfl rfl (by decide) rfl rfl rfl hl.1 rfl (Nat.le_of_ble_eq_true rfl) dX5_call_46 ⟨Nat.zero_le _, Nat.zero_le _⟩ (fun H locs hP hD hS => ?_)
          refine lv_aload_n hx hb dX5_call_49 rfl (lv_at hl 0 rfl) ?_
          refine va_get (D := D) (ci := 5) (v := .ref w_h) (C := RX5) (T := TX5) (N := 8) hx hb hts in_X5 hown hK hP 0 rfl rfl 4 (by decide) (hts _ wd_215) (fun _ h9 => h9) rfl dX5_call_50 ?_
          refine lv_iload hx hb dX5_call_53 (lv_at hl 5 rfl) ?_
          obtain ⟨q15, hGq15, hF⟩ := of_bind hF
          refine callVv (As := [.int v8]) (rest := []) (wr := [(x_h, .inr (5, [.ref c_h, .ref i_h, .ref k_h, .ref f_h, .ref w_h, .ref n_h, .ref s_h, .ref t_h])), (c_h, .inr (0, [.ref c_0, .ref c_1, .ref c_2, .ref c_3, .int (oc 4 0), .int (oc 5 0), .int (oc 6 0)])), (c_0, .inl (cZ, 8, .inl (oc 0))), (c_1, .inl (cI, 8, .inl (oc 1))), (c_2, .inl (cI, 8, .inl (oc 2))), (c_3, .inl (cI, 8, .inl (oc 3))), (s_h, .inr (3, [.int (os10 0 0), .int (os10 1 0)]))]) (WN := wm_X5_call cI cZ cO x_h c_h i_h k_h f_h w_h n_h s_h t_h c_0 c_1 c_2 c_3 oc q15 os10) ⟨hx, hb, hml, hown, hts⟩ hK hP hD hS hA [6] [0, 1, 2, 3, 4, 5, 7] [0, 1, 2, 3, 4, 5, 7, 6] (c_X4_beatBoth l D cI cZ cO w_h _ q14 v8 q15 hGq15) (cwV 1 hts (gV wd_406 wd_407 wd_408 wd_36 wd_409) rfl rfl rfl (by decide +kernel) ⟨Nat.le_of_ble_eq_true rfl, Nat.le_of_ble_eq_true rfl⟩) 0 4 rfl rfl rfl rfl rfl rfl rfl (by decide) rfl rfl rfl hl.1 rfl (Nat.le_of_ble_eq_true rfl) dX5_call_55 ⟨Nat.zero_le _, Nat.zero_le _⟩ (fun H locs hP hD hS => ?_)
          refine lv_aload_n hx hb dX5_call_58 rfl (lv_at hl 0 rfl) ?_
          refine va_get (D := D) (ci := 5) (v := .ref s_h) (C := RX5) (T := TX5) (N := 8) hx hb hts in_X5 hown hK hP 0 rfl rfl 6 (by decide) (hts _ wd_217) (fun _ h9 => h9) rfl dX5_call_59 ?_
          refine lv_iload hx hb dX5_call_62 (lv_at hl 5 rfl) ?_
          refine lv_aload_n hx hb dX5_call_64 rfl (lv_at hl 0 rfl) ?_
          refine va_get (D := D) (ci := 5) (v := .ref w_h) (C := RX5) (T := TX5) (N := 8) hx hb hts in_X5 hown hK hP 0 rfl rfl 4 (by decide) (hts _ wd_215) (fun _ h9 => h9) rfl dX5_call_65 ?_
          refine lv_iload_n hx hb dX5_call_68 rfl (lv_at hl 3 rfl) ?_
          refine lv_iconst (v := (-1)) hx hb dX5_call_69 (by decide) ?_
          obtain ⟨q16, hGq16, hF⟩ := of_bind hF
          refine callVi (As := [.int p2, .int (-1)]) (rest := [.int v8, .ref s_h]) (wr := [(x_h, .inr (5, [.ref c_h, .ref i_h, .ref k_h, .ref f_h, .ref w_h, .ref n_h, .ref s_h, .ref t_h])), (c_h, .inr (0, [.ref c_0, .ref c_1, .ref c_2, .ref c_3, .int (oc 4 0), .int (oc 5 0), .int (oc 6 0)])), (c_0, .inl (cZ, 8, .inl (oc 0))), (c_1, .inl (cI, 8, .inl (oc 1))), (c_2, .inl (cI, 8, .inl (oc 2))), (c_3, .inl (cI, 8, .inl (oc 3))), (s_h, .inr (3, [.int (os10 0 0), .int (os10 1 0)]))]) (WN := wm_X5_call cI cZ cO x_h c_h i_h k_h f_h w_h n_h s_h t_h c_0 c_1 c_2 c_3 oc q16.2 os10) ⟨hx, hb, hml, hown, hts⟩ hK hP hD hS hA [6] [0, 1, 2, 3, 4, 5, 7] [0, 1, 2, 3, 4, 5, 7, 6] (c_X4_timeTo l D cI cZ cO w_h _ q15 p2 (-1) q16 hGq16) (cwV 2 hts (gV wd_340 wd_341 wd_342 wd_36 wd_343) rfl rfl rfl (by decide +kernel) ⟨Nat.le_of_ble_eq_true rfl, Nat.le_of_ble_eq_true rfl⟩) 0 4 rfl rfl rfl rfl rfl rfl rfl (by decide) rfl rfl rfl hl.1 rfl (Nat.le_of_ble_eq_true rfl) dX5_call_70 ⟨Nat.zero_le _, Nat.zero_le _⟩ (fun H locs hP hD hS => ?_)
          obtain ⟨q17, hGq17, hF⟩ := of_bind hF
          refine callVv (As := [.int v8, .int q16.1]) (rest := []) (wr := [(x_h, .inr (5, [.ref c_h, .ref i_h, .ref k_h, .ref f_h, .ref w_h, .ref n_h, .ref s_h, .ref t_h])), (c_h, .inr (0, [.ref c_0, .ref c_1, .ref c_2, .ref c_3, .int (oc 4 0), .int (oc 5 0), .int (oc 6 0)])), (c_0, .inl (cZ, 8, .inl (oc 0))), (c_1, .inl (cI, 8, .inl (oc 1))), (c_2, .inl (cI, 8, .inl (oc 2))), (c_3, .inl (cI, 8, .inl (oc 3))), (w_h, .inr (4, [.int (q16.2 0 0), .int (q16.2 1 0), .int (q16.2 2 0), .int (q16.2 3 0), .int (q16.2 4 0), .int (q16.2 5 0), .int (q16.2 6 0), .int (q16.2 7 0), .int (q16.2 8 0), .int (q16.2 9 0), .int (q16.2 10 0), .int (q16.2 11 0), .int (q16.2 12 0), .int (q16.2 13 0), .int (q16.2 14 0), .int (q16.2 15 0)]))]) (WN := wm_X5_call cI cZ cO x_h c_h i_h k_h f_h w_h n_h s_h t_h c_0 c_1 c_2 c_3 oc q16.2 q17) ⟨hx, hb, hml, hown, hts⟩ hK hP hD hS hA [7] [0, 1, 2, 3, 4, 5, 6] [0, 1, 2, 3, 4, 5, 6, 7] (c_X3_offer l D cI cZ cO s_h _ os10 v8 q16.1 q17 hGq17) (cwV 2 hts (gV wd_410 wd_411 wd_412 wd_38 wd_413) rfl rfl rfl (by decide +kernel) ⟨Nat.le_of_ble_eq_true rfl, Nat.le_of_ble_eq_true rfl⟩) 0 3 rfl rfl rfl rfl rfl rfl rfl (by decide) rfl rfl rfl hl.1 rfl (Nat.le_of_ble_eq_true rfl) dX5_call_73 ⟨Nat.zero_le _, Nat.zero_le _⟩ (fun H locs hP hD hS => ?_)
          obtain ⟨v18, ev18⟩ : ∃ y : Int32, y = v8 + 1 := ⟨_, rfl⟩
          replace hF := of_dd hF v18 ev18
          refine lv_iinc (v := v18) (lv' := [(6, .int v18), (0, .ref x_h), (1, .int p0), (2, .int p1), (3, .int p2), (4, .int p3)]) hx hb dX5_call_76 hl (k := 5) rfl (by rw [ev18]; rfl) (by decide) rfl (fun ls hl => ?_)
          refine lv_goto (tgt := 29) hx hb dX5_call_79 (by decide) ?_
          exact ih11 v18 q16.2 q17 ls _ _ (lv_sub hl [1, 2, 3, 4, 5, 0] rfl) hP hD hS hF
    exact hloop19 2000 4 ow q3 ls _ _ (lv_sub hl [2, 3, 4, 5, 6, 0] rfl) hP hD hS hF
  · replace hF := of_f h2 hF
    refine lv_iload hx hb dX5_call_16 (lv_at hl 0 rfl) ?_
    exact hQ _ _ _ _ _ (ow, os) ⟨inj_fst hF, inj_snd hF⟩ hP hD hS dX5_call_18

/-! ### ThreeLegs.quicken(IIII)I -/
abbrev wm_X5_quicken (cI cZ cO : ClassId) (x_h c_h i_h k_h f_h w_h n_h s_h t_h c_0 c_1 c_2 c_3 : Nat) (oc : Ob) (ow : Ob) (os : Ob) : va_W := [(x_h, .inr (5, [.ref c_h, .ref i_h, .ref k_h, .ref f_h, .ref w_h, .ref n_h, .ref s_h, .ref t_h])), (c_h, .inr (0, [.ref c_0, .ref c_1, .ref c_2, .ref c_3, .int (oc 4 0), .int (oc 5 0), .int (oc 6 0)])), (c_0, .inl (cZ, 8, .inl (oc 0))), (c_1, .inl (cI, 8, .inl (oc 1))), (c_2, .inl (cI, 8, .inl (oc 2))), (c_3, .inl (cI, 8, .inl (oc 3))), (w_h, .inr (4, [.int (ow 0 0), .int (ow 1 0), .int (ow 2 0), .int (ow 3 0), .int (ow 4 0), .int (ow 5 0), .int (ow 6 0), .int (ow 7 0), .int (ow 8 0), .int (ow 9 0), .int (ow 10 0), .int (ow 11 0), .int (ow 12 0), .int (ow 13 0), .int (ow 14 0), .int (ow 15 0)])), (s_h, .inr (3, [.int (os 0 0), .int (os 1 0)]))]
def L_X5_quicken_29 : Nat → Int32 → Int32 → Int32 → Ob → Int32 → Ob → Ob → (Ob → Ob → Option (Int32 × Ob × Ob)) → Option (Int32 × Ob × Ob)
  | 0, _, _, _, _, _, _, _, _ => none
  | n14 + 1, p0, p1, p2, oc, v10, ow11, os12, K4 =>
    (if 60 < v10 then K4 ow11 os12 else (F_X4_tie ow11 oc p0 p1).bind (fun q16 => (F_X4_timeTo q16 p2 v10).bind (fun q17 => (F_X3_offer os12 v10 q17.1).bind (fun q18 => dd (v10 + 1) (fun (v19 : Int32) => L_X5_quicken_29 n14 p0 p1 p2 oc v19 q17.2 q18 K4)))))
def F_X5_quicken (oc : Ob) (ow : Ob) (os : Ob) (p0 : Int32) (p1 : Int32) (p2 : Int32) (p3 : Int32) : Option (Int32 × Ob × Ob) :=
  (F_X5_refusalOfRace oc p0 p1 p2 p3).bind (fun q1 => (if q1 = 0 then (F_X3_clear os).bind (fun q3 => jn (fun (ow5 : Ob) (os6 : Ob) => (F_X5_timeTo oc ow5 p0 p1 p2).bind (fun q7 => (F_X3_offer os6 61 q7.1).bind (fun q8 => (F_X3_answer q8 p3).bind (fun q9 => some (q9, q7.2, q8))))) (fun (K4 : Ob → Ob → Option (Int32 × Ob × Ob)) => L_X5_quicken_29 2000 p0 p1 p2 oc 0 ow q3 K4)) else some (q1, ow, os)))
abbrev rm_X5_quicken : Room := { frames := 5, cells := 0, slots := 0, locals := 109 }
abbrev wu_X5_quicken : List Cond := .code yX5_quicken cX5_quicken 7 (some .int) :: lwG
set_option maxHeartbeats 20000000 in
set_option maxRecDepth 100000 in
theorem c_X5_quicken (l : Launch) (D : va_G) (cI cZ cO : ClassId) (x_h c_h i_h k_h f_h w_h n_h s_h t_h c_0 c_1 c_2 c_3 : Nat) (sz : Nat) (oc : Ob) (ow : Ob) (os : Ob) (p0 : Int32) (p1 : Int32) (p2 : Int32) (p3 : Int32) (q : Int32 × Ob × Ob) (hF : F_X5_quicken oc ow os p0 p1 p2 p3 = some q) : CtI l yX5_quicken wu_X5_quicken rm_X5_quicken D vwCl (tyL cI cZ cO) [.ref x_h, .int p0, .int p1, .int p2, .int p3] (wm_X5_quicken cI cZ cO x_h c_h i_h k_h f_h w_h n_h s_h t_h c_0 c_1 c_2 c_3 oc ow os) sz 0 0 (fun (r : Int32) (u : Ob × Ob) => r = q.1 ∧ u = q.2) (fun u => wm_X5_quicken cI cZ cO x_h c_h i_h k_h f_h w_h n_h s_h t_h c_0 c_1 c_2 c_3 oc u.1 u.2) := by
  refine mk_i (cc := cX5_quicken) (maxL := 7) (by decide) rfl (Nat.le_of_ble_eq_true rfl) ?_
  intro p e s m args below meth c A ls Q hx hb hml hown hts hin hK hP hD hS hA hl hQ
  have hl : lv_has ls 7 [(0, .ref x_h), (1, .int p0), (2, .int p1), (3, .int p2), (4, .int p3)] := hl
  unfold F_X5_quicken at hF
  refine lv_aload_n hx hb dX5_quicken_0 rfl (lv_at hl 0 rfl) ?_
  refine lv_iload_n hx hb dX5_quicken_1 rfl (lv_at hl 1 rfl) ?_
  refine lv_iload_n hx hb dX5_quicken_2 rfl (lv_at hl 2 rfl) ?_
  refine lv_iload_n hx hb dX5_quicken_3 rfl (lv_at hl 3 rfl) ?_
  refine lv_iload hx hb dX5_quicken_4 (lv_at hl 4 rfl) ?_
  obtain ⟨q1, hGq1, hF⟩ := of_bind hF
  refine callVi (As := [.int p0, .int p1, .int p2, .int p3]) (rest := []) (wr := [(w_h, .inr (4, [.int (ow 0 0), .int (ow 1 0), .int (ow 2 0), .int (ow 3 0), .int (ow 4 0), .int (ow 5 0), .int (ow 6 0), .int (ow 7 0), .int (ow 8 0), .int (ow 9 0), .int (ow 10 0), .int (ow 11 0), .int (ow 12 0), .int (ow 13 0), .int (ow 14 0), .int (ow 15 0)])), (s_h, .inr (3, [.int (os 0 0), .int (os 1 0)]))]) (WN := wm_X5_quicken cI cZ cO x_h c_h i_h k_h f_h w_h n_h s_h t_h c_0 c_1 c_2 c_3 oc ow os) ⟨hx, hb, hml, hown, hts⟩ hK hP hD hS hA [0, 1, 2, 3, 4, 5] [6, 7] [2, 3, 4, 5, 6, 7, 0, 1] (c_X5_refusalOfRace l D cI cZ cO x_h c_h i_h k_h f_h w_h n_h s_h t_h c_0 c_1 c_2 c_3 _ oc p0 p1 p2 p3 q1 hGq1) (cwV 4 hts (gV wd_329 wd_331 wd_3 wd_33 wd_332) rfl rfl rfl (by decide +kernel) ⟨Nat.le_of_ble_eq_true rfl, Nat.le_of_ble_eq_true rfl⟩) 0 5 rfl rfl rfl rfl rfl rfl rfl (by decide) rfl rfl rfl hl.1 rfl (Nat.le_of_ble_eq_true rfl) dX5_quicken_6 ⟨Nat.zero_le _, Nat.zero_le _⟩ (fun H locs hP hD hS => ?_)
  refine lv_istore (lv' := [(5, .int q1), (0, .ref x_h), (1, .int p0), (2, .int p1), (3, .int p2), (4, .int p3)]) hx hb dX5_quicken_9 hl (by decide) rfl (fun ls hl => ?_)
  refine lv_iload hx hb dX5_quicken_11 (lv_at hl 0 rfl) ?_
  refine lv_if_eq (tgt := 19) hx hb dX5_quicken_13 (by decide) (fun h2 => ?_) (fun h2 => ?_)
  · replace hF := of_t h2 hF
    refine lv_aload_n hx hb dX5_quicken_19 rfl (lv_at hl 1 rfl) ?_
    refine va_get (D := D) (ci := 5) (v := .ref s_h) (C := RX5) (T := TX5) (N := 8) hx hb hts in_X5 hown hK hP 0 rfl rfl 6 (by decide) (hts _ wd_217) (fun _ h9 => h9) rfl dX5_quicken_20 ?_
    obtain ⟨q3, hGq3, hF⟩ := of_bind hF
    refine callVv (As := []) (rest := []) (wr := [(x_h, .inr (5, [.ref c_h, .ref i_h, .ref k_h, .ref f_h, .ref w_h, .ref n_h, .ref s_h, .ref t_h])), (c_h, .inr (0, [.ref c_0, .ref c_1, .ref c_2, .ref c_3, .int (oc 4 0), .int (oc 5 0), .int (oc 6 0)])), (c_0, .inl (cZ, 8, .inl (oc 0))), (c_1, .inl (cI, 8, .inl (oc 1))), (c_2, .inl (cI, 8, .inl (oc 2))), (c_3, .inl (cI, 8, .inl (oc 3))), (w_h, .inr (4, [.int (ow 0 0), .int (ow 1 0), .int (ow 2 0), .int (ow 3 0), .int (ow 4 0), .int (ow 5 0), .int (ow 6 0), .int (ow 7 0), .int (ow 8 0), .int (ow 9 0), .int (ow 10 0), .int (ow 11 0), .int (ow 12 0), .int (ow 13 0), .int (ow 14 0), .int (ow 15 0)]))]) (WN := wm_X5_quicken cI cZ cO x_h c_h i_h k_h f_h w_h n_h s_h t_h c_0 c_1 c_2 c_3 oc ow q3) ⟨hx, hb, hml, hown, hts⟩ hK hP hD hS hA [7] [0, 1, 2, 3, 4, 5, 6] [0, 1, 2, 3, 4, 5, 6, 7] (c_X3_clear l D cI cZ cO s_h _ os q3 hGq3) (cwV 0 hts (gV wd_402 wd_403 wd_404 wd_38 wd_405) rfl rfl rfl (by decide +kernel) ⟨Nat.le_of_ble_eq_true rfl, Nat.le_of_ble_eq_true rfl⟩) 0 3 rfl rfl rfl rfl rfl rfl rfl (by decide) rfl rfl rfl hl.1 rfl (Nat.le_of_ble_eq_true rfl) dX5_quicken_23 ⟨Nat.zero_le _, Nat.zero_le _⟩ (fun H locs hP hD hS => ?_)
    refine lv_iconst (v := 0) hx hb dX5_quicken_26 (by decide) ?_
    refine lv_istore (lv' := [(6, .int 0), (5, .int q1), (0, .ref x_h), (1, .int p0), (2, .int p1), (3, .int p2), (4, .int p3)]) hx hb dX5_quicken_27 hl (by decide) rfl (fun ls hl => ?_)
    obtain ⟨K4, eK4, hF⟩ := of_jn hF
    have hK4 : ∀ (ow5 : Ob) (os6 : Ob) (ls : Array Slot) (H : Heap) (locs : List Loc), lv_has ls 7 [(0, .ref x_h), (1, .int p0), (2, .int p1), (3, .int p2), (4, .int p3)] → va_P D vwCl (wm_X5_quicken cI cZ cO x_h c_h i_h k_h f_h w_h n_h s_h t_h c_0 c_1 c_2 c_3 oc ow5 os6) H → va_D A (wm_X5_quicken cI cZ cO x_h c_h i_h k_h f_h w_h n_h s_h t_h c_0 c_1 c_2 c_3 oc ow5 os6) → va_S A s.heap H locs → K4 ow5 os6 = some q → W p l e rm_X5_quicken s m args below meth c H locs 0 0 Q (F0 m 74 ls []) := by
      intro ow5 os6 ls H locs hl hP hD hS hF
      subst eK4
      refine lv_aload_n hx hb dX5_quicken_74 rfl (lv_at hl 0 rfl) ?_
      refine va_get (D := D) (ci := 5) (v := .ref s_h) (C := RX5) (T := TX5) (N := 8) hx hb hts in_X5 hown hK hP 0 rfl rfl 6 (by decide) (hts _ wd_217) (fun _ h9 => h9) rfl dX5_quicken_75 ?_
      refine lv_bipush (v := 61) hx hb dX5_quicken_78 (by decide) ?_
      refine lv_aload_n hx hb dX5_quicken_80 rfl (lv_at hl 0 rfl) ?_
      refine lv_iload_n hx hb dX5_quicken_81 rfl (lv_at hl 1 rfl) ?_
      refine lv_iload_n hx hb dX5_quicken_82 rfl (lv_at hl 2 rfl) ?_
      refine lv_iload_n hx hb dX5_quicken_83 rfl (lv_at hl 3 rfl) ?_
      obtain ⟨q7, hGq7, hF⟩ := of_bind hF
      refine callVi (As := [.int p0, .int p1, .int p2]) (rest := [.int 61, .ref s_h]) (wr := [(s_h, .inr (3, [.int (os6 0 0), .int (os6 1 0)]))]) (WN := wm_X5_quicken cI cZ cO x_h c_h i_h k_h f_h w_h n_h s_h t_h c_0 c_1 c_2 c_3 oc q7.2 os6) ⟨hx, hb, hml, hown, hts⟩ hK hP hD hS hA [0, 1, 2, 3, 4, 5, 6] [7] [1, 2, 3, 4, 5, 6, 7, 0] (c_X5_timeTo l D cI cZ cO x_h c_h i_h k_h f_h w_h n_h s_h t_h c_0 c_1 c_2 c_3 _ oc ow5 p0 p1 p2 q7 hGq7) (cwV 3 hts (gV wd_336 wd_338 wd_4 wd_33 wd_339) rfl rfl rfl (by decide +kernel) ⟨Nat.le_of_ble_eq_true rfl, Nat.le_of_ble_eq_true rfl⟩) 0 5 rfl rfl rfl rfl rfl rfl rfl (by decide) rfl rfl rfl hl.1 rfl (Nat.le_of_ble_eq_true rfl) dX5_quicken_84 ⟨Nat.zero_le _, Nat.zero_le _⟩ (fun H locs hP hD hS => ?_)
      obtain ⟨q8, hGq8, hF⟩ := of_bind hF
      refine callVv (As := [.int 61, .int q7.1]) (rest := []) (wr := [(x_h, .inr (5, [.ref c_h, .ref i_h, .ref k_h, .ref f_h, .ref w_h, .ref n_h, .ref s_h, .ref t_h])), (c_h, .inr (0, [.ref c_0, .ref c_1, .ref c_2, .ref c_3, .int (oc 4 0), .int (oc 5 0), .int (oc 6 0)])), (c_0, .inl (cZ, 8, .inl (oc 0))), (c_1, .inl (cI, 8, .inl (oc 1))), (c_2, .inl (cI, 8, .inl (oc 2))), (c_3, .inl (cI, 8, .inl (oc 3))), (w_h, .inr (4, [.int (q7.2 0 0), .int (q7.2 1 0), .int (q7.2 2 0), .int (q7.2 3 0), .int (q7.2 4 0), .int (q7.2 5 0), .int (q7.2 6 0), .int (q7.2 7 0), .int (q7.2 8 0), .int (q7.2 9 0), .int (q7.2 10 0), .int (q7.2 11 0), .int (q7.2 12 0), .int (q7.2 13 0), .int (q7.2 14 0), .int (q7.2 15 0)]))]) (WN := wm_X5_quicken cI cZ cO x_h c_h i_h k_h f_h w_h n_h s_h t_h c_0 c_1 c_2 c_3 oc q7.2 q8) ⟨hx, hb, hml, hown, hts⟩ hK hP hD hS hA [7] [0, 1, 2, 3, 4, 5, 6] [0, 1, 2, 3, 4, 5, 6, 7] (c_X3_offer l D cI cZ cO s_h _ os6 61 q7.1 q8 hGq8) (cwV 2 hts (gV wd_410 wd_411 wd_412 wd_38 wd_413) rfl rfl rfl (by decide +kernel) ⟨Nat.le_of_ble_eq_true rfl, Nat.le_of_ble_eq_true rfl⟩) 0 3 rfl rfl rfl rfl rfl rfl rfl (by decide) rfl rfl rfl hl.1 rfl (Nat.le_of_ble_eq_true rfl) dX5_quicken_87 ⟨Nat.zero_le _, Nat.zero_le _⟩ (fun H locs hP hD hS => ?_)
      refine lv_aload_n hx hb dX5_quicken_90 rfl (lv_at hl 0 rfl) ?_
      refine va_get (D := D) (ci := 5) (v := .ref s_h) (C := RX5) (T := TX5) (N := 8) hx hb hts in_X5 hown hK hP 0 rfl rfl 6 (by decide) (hts _ wd_217) (fun _ h9 => h9) rfl dX5_quicken_91 ?_
      refine lv_iload hx hb dX5_quicken_94 (lv_at hl 4 rfl) ?_
      obtain ⟨q9, hGq9, hF⟩ := of_bind hF
      refine callVi (As := [.int p3]) (rest := []) (wr := [(x_h, .inr (5, [.ref c_h, .ref i_h, .ref k_h, .ref f_h, .ref w_h, .ref n_h, .ref s_h, .ref t_h])), (c_h, .inr (0, [.ref c_0, .ref c_1, .ref c_2, .ref c_3, .int (oc 4 0), .int (oc 5 0), .int (oc 6 0)])), (c_0, .inl (cZ, 8, .inl (oc 0))), (c_1, .inl (cI, 8, .inl (oc 1))), (c_2, .inl (cI, 8, .inl (oc 2))), (c_3, .inl (cI, 8, .inl (oc 3))), (w_h, .inr (4, [.int (q7.2 0 0), .int (q7.2 1 0), .int (q7.2 2 0), .int (q7.2 3 0), .int (q7.2 4 0), .int (q7.2 5 0), .int (q7.2 6 0), .int (q7.2 7 0), .int (q7.2 8 0), .int (q7.2 9 0), .int (q7.2 10 0), .int (q7.2 11 0), .int (q7.2 12 0), .int (q7.2 13 0), .int (q7.2 14 0), .int (q7.2 15 0)]))]) (WN := wm_X5_quicken cI cZ cO x_h c_h i_h k_h f_h w_h n_h s_h t_h c_0 c_1 c_2 c_3 oc q7.2 q8) ⟨hx, hb, hml, hown, hts⟩ hK hP hD hS hA [7] [0, 1, 2, 3, 4, 5, 6] [0, 1, 2, 3, 4, 5, 6, 7] (c_X3_answer l D cI cZ cO s_h _ q8 p3 q9 hGq9) (cwV 1 hts (gV wd_414 wd_415 wd_416 wd_38 wd_417) rfl rfl rfl (by decide +kernel) ⟨Nat.le_of_ble_eq_true rfl, Nat.le_of_ble_eq_true rfl⟩) 0 3 rfl rfl rfl rfl rfl rfl rfl (by decide) rfl rfl rfl hl.1 rfl (Nat.le_of_ble_eq_true rfl) dX5_quicken_96 ⟨Nat.zero_le _, Nat.zero_le _⟩ (fun H locs hP hD hS => ?_)
      exact hQ _ _ _ _ _ (q7.2, q8) ⟨inj_fst hF, inj_snd hF⟩ hP hD hS dX5_quicken_99
    have hloop20 : ∀ (n14 : Nat) (v10 : Int32) (ow11 : Ob) (os12 : Ob) (ls : Array Slot) (H : Heap) (locs : List Loc), lv_has ls 7 [(0, .ref x_h), (1, .int p0), (2, .int p1), (3, .int p2), (4, .int p3), (6, .int v10)] → va_P D vwCl (wm_X5_quicken cI cZ cO x_h c_h i_h k_h f_h w_h n_h s_h t_h c_0 c_1 c_2 c_3 oc ow11 os12) H → va_D A (wm_X5_quicken cI cZ cO x_h c_h i_h k_h f_h w_h n_h s_h t_h c_0 c_1 c_2 c_3 oc ow11 os12) → va_S A s.heap H locs → L_X5_quicken_29 n14 p0 p1 p2 oc v10 ow11 os12 K4 = some q → W p l e rm_X5_quicken s m args below meth c H locs 0 0 Q (F0 m 29 ls []) := by
      intro n14
      induction n14 with
      | zero =>
        intro v10 ow11 os12 ls H locs hl hP hD hS hF
        exact of_none hF
      | succ n14 ih13 =>
        intro v10 ow11 os12 ls H locs hl hP hD hS hF
        rw [L_X5_quicken_29.eq_2] at hF
        refine lv_iload hx hb dX5_quicken_29 (lv_at hl 5 rfl) ?_
        refine lv_bipush (v := 60) hx hb dX5_quicken_31 (by decide) ?_
        refine lv_icmp_gt (tgt := 74) hx hb dX5_quicken_33 (by decide) (fun h15 => ?_) (fun h15 => ?_)
        · replace hF := of_t h15 hF
          exact hK4 ow11 os12 ls _ _ (lv_sub hl [0, 1, 2, 3, 4] rfl) hP hD hS hF
        · replace hF := of_f h15 hF
          refine lv_aload_n hx hb dX5_quicken_36 rfl (lv_at hl 0 rfl) ?_
          refine va_get (D := D) (ci := 5) (v := .ref w_h) (C := RX5) (T := TX5) (N := 8) hx hb hts in_X5 hown hK hP 0 rfl rfl 4 (by decide) (hts _ wd_215) (fun _ h9 => h9) rfl dX5_quicken_37 ?_
          refine lv_aload_n hx hb dX5_quicken_40 rfl (lv_at hl 0 rfl) ?_
          refine va_get (D := D) (ci := 5) (v := .ref c_h) (C := RX5) (T := TX5) (N := 8) hx hb hts in_X5 hown hK hP 0 rfl rfl 0 (by decide) (hts _ wd_211) (fun _ h9 => h9) rfl dX5_quicken_41 ?_
          refine lv_iload_n hx hb dX5_quicken_44 rfl (lv_at hl 1 rfl) ?_
          refine lv_iload_n hx hb dX5_quicken_45 rfl (lv_at hl 2 rfl) ?_
          obtain ⟨q16, hGq16, hF⟩ := of_bind hF
          refine callVv (As := [.ref c_h, .int p0, .int p1]) (rest := []) (wr := [(x_h, .inr (5, [.ref c_h, .ref i_h, .ref k_h, .ref f_h, .ref w_h, .ref n_h, .ref s_h, .ref t_h])), (s_h, .inr (3, [.int (os12 0 0), .int (os12 1 0)]))]) (WN := wm_X5_quicken cI cZ cO x_h c_h i_h k_h f_h w_h n_h s_h t_h c_0 c_1 c_2 c_3 oc q16 os12) ⟨hx, hb, hml, hown, hts⟩ hK hP hD hS hA [6, 1, 2, 3, 4, 5] [0, 7] [0, 3, 4, 5, 6, 7, 2, 1] (c_X4_tie l D cI cZ cO w_h c_h c_0 c_1 c_2 c_3 _ ow11 oc p0 p1 q16 hGq16) (cwV 3 hts (gV wd_298 wd_299 wd_300 wd_36 wd_301) rfl rfl rfl (by decide +kernel) ⟨Nat.le_of_ble_eq_true rfl, Nat.le_of_ble_eq_true rfl⟩) 0 4 rfl rfl rfl rfl rfl rfl rfl (by decide) rfl rfl rfl hl.1 rfl (Nat.le_of_ble_eq_true rfl) dX5_quicken_46 ⟨Nat.zero_le _, Nat.zero_le _⟩ (fun H locs hP hD hS => ?_)
          refine lv_aload_n hx hb dX5_quicken_49 rfl (lv_at hl 0 rfl) ?_
          refine va_get (D := D) (ci := 5) (v := .ref s_h) (C := RX5) (T := TX5) (N := 8) hx hb hts in_X5 hown hK hP 0 rfl rfl 6 (by decide) (hts _ wd_217) (fun _ h9 => h9) rfl dX5_quicken_50 ?_
          refine lv_iload hx hb dX5_quicken_53 (lv_at hl 5 rfl) ?_
          refine lv_aload_n hx hb dX5_quicken_55 rfl (lv_at hl 0 rfl) ?_
          refine va_get (D := D) (ci := 5) (v := .ref w_h) (C := RX5) (T := TX5) (N := 8) hx hb hts in_X5 hown hK hP 0 rfl rfl 4 (by decide) (hts _ wd_215) (fun _ h9 => h9) rfl dX5_quicken_56 ?_
          refine lv_iload_n hx hb dX5_quicken_59 rfl (lv_at hl 3 rfl) ?_
          refine lv_iload hx hb dX5_quicken_60 (lv_at hl 5 rfl) ?_
          obtain ⟨q17, hGq17, hF⟩ := of_bind hF
          refine callVi (As := [.int p2, .int v10]) (rest := [.int v10, .ref s_h]) (wr := [(x_h, .inr (5, [.ref c_h, .ref i_h, .ref k_h, .ref f_h, .ref w_h, .ref n_h, .ref s_h, .ref t_h])), (c_h, .inr (0, [.ref c_0, .ref c_1, .ref c_2, .ref c_3, .int (oc 4 0), .int (oc 5 0), .int (oc 6 0)])), (c_0, .inl (cZ, 8, .inl (oc 0))), (c_1, .inl (cI, 8, .inl (oc 1))), (c_2, .inl (cI, 8, .inl (oc 2))), (c_3, .inl (cI, 8, .inl (oc 3))), (s_h, .inr (3, [.int (os12 0 0), .int (os12 1 0)]))]) (WN := wm_X5_quicken cI cZ cO x_h c_h i_h k_h f_h w_h n_h s_h t_h c_0 c_1 c_2 c_3 oc q17.2 os12) ⟨hx, hb, hml, hown, hts⟩ hK hP hD hS hA [6] [0, 1, 2, 3, 4, 5, 7] [0, 1, 2, 3, 4, 5, 7, 6] (c_X4_timeTo l D cI cZ cO w_h _ q16 p2 v10 q17 hGq17) (cwV 2 hts (gV wd_340 wd_341 wd_342 wd_36 wd_343) rfl rfl rfl (by decide +kernel) ⟨Nat.le_of_ble_eq_true rfl, Nat.le_of_ble_eq_true rfl⟩) 0 4 rfl rfl rfl rfl rfl rfl rfl (by decide) rfl rfl rfl hl.1 rfl (Nat.le_of_ble_eq_true rfl) dX5_quicken_62 ⟨Nat.zero_le _, Nat.zero_le _⟩ (fun H locs hP hD hS => ?_)
          obtain ⟨q18, hGq18, hF⟩ := of_bind hF
          refine callVv (As := [.int v10, .int q17.1]) (rest := []) (wr := [(x_h, .inr (5, [.ref c_h, .ref i_h, .ref k_h, .ref f_h, .ref w_h, .ref n_h, .ref s_h, .ref t_h])), (c_h, .inr (0, [.ref c_0, .ref c_1, .ref c_2, .ref c_3, .int (oc 4 0), .int (oc 5 0), .int (oc 6 0)])), (c_0, .inl (cZ, 8, .inl (oc 0))), (c_1, .inl (cI, 8, .inl (oc 1))), (c_2, .inl (cI, 8, .inl (oc 2))), (c_3, .inl (cI, 8, .inl (oc 3))), (w_h, .inr (4, [.int (q17.2 0 0), .int (q17.2 1 0), .int (q17.2 2 0), .int (q17.2 3 0), .int (q17.2 4 0), .int (q17.2 5 0), .int (q17.2 6 0), .int (q17.2 7 0), .int (q17.2 8 0), .int (q17.2 9 0), .int (q17.2 10 0), .int (q17.2 11 0), .int (q17.2 12 0), .int (q17.2 13 0), .int (q17.2 14 0), .int (q17.2 15 0)]))]) (WN := wm_X5_quicken cI cZ cO x_h c_h i_h k_h f_h w_h n_h s_h t_h c_0 c_1 c_2 c_3 oc q17.2 q18) ⟨hx, hb, hml, hown, hts⟩ hK hP hD hS hA [7] [0, 1, 2, 3, 4, 5, 6] [0, 1, 2, 3, 4, 5, 6, 7] (c_X3_offer l D cI cZ cO s_h _ os12 v10 q17.1 q18 hGq18) (cwV 2 hts (gV wd_410 wd_411 wd_412 wd_38 wd_413) rfl rfl rfl (by decide +kernel) ⟨Nat.le_of_ble_eq_true rfl, Nat.le_of_ble_eq_true rfl⟩) 0 3 rfl rfl rfl rfl rfl rfl rfl (by decide) rfl rfl rfl hl.1 rfl (Nat.le_of_ble_eq_true rfl) dX5_quicken_65 ⟨Nat.zero_le _, Nat.zero_le _⟩ (fun H locs hP hD hS => ?_)
          obtain ⟨v19, ev19⟩ : ∃ y : Int32, y = v10 + 1 := ⟨_, rfl⟩
          replace hF := of_dd hF v19 ev19
          refine lv_iinc (v := v19) (lv' := [(6, .int v19), (0, .ref x_h), (1, .int p0), (2, .int p1), (3, .int p2), (4, .int p3)]) hx hb dX5_quicken_68 hl (k := 5) rfl (by rw [ev19]; rfl) (by decide) rfl (fun ls hl => ?_)
          refine lv_goto (tgt := 29) hx hb dX5_quicken_71 (by decide) ?_
          exact ih13 v19 q17.2 q18 ls _ _ (lv_sub hl [1, 2, 3, 4, 5, 0] rfl) hP hD hS hF
    exact hloop20 2000 0 ow q3 ls _ _ (lv_sub hl [2, 3, 4, 5, 6, 0] rfl) hP hD hS hF
  · replace hF := of_f h2 hF
    refine lv_iload hx hb dX5_quicken_16 (lv_at hl 0 rfl) ?_
    exact hQ _ _ _ _ _ (ow, os) ⟨inj_fst hF, inj_snd hF⟩ hP hD hS dX5_quicken_18

/-! ### ThreeLegs.yields(IIII)I -/
abbrev wm_X5_yields (cI cZ cO : ClassId) (x_h c_h i_h k_h f_h w_h n_h s_h t_h c_0 c_1 c_2 c_3 : Nat) (oc : Ob) (ow : Ob) (os : Ob) : va_W := [(x_h, .inr (5, [.ref c_h, .ref i_h, .ref k_h, .ref f_h, .ref w_h, .ref n_h, .ref s_h, .ref t_h])), (c_h, .inr (0, [.ref c_0, .ref c_1, .ref c_2, .ref c_3, .int (oc 4 0), .int (oc 5 0), .int (oc 6 0)])), (c_0, .inl (cZ, 8, .inl (oc 0))), (c_1, .inl (cI, 8, .inl (oc 1))), (c_2, .inl (cI, 8, .inl (oc 2))), (c_3, .inl (cI, 8, .inl (oc 3))), (w_h, .inr (4, [.int (ow 0 0), .int (ow 1 0), .int (ow 2 0), .int (ow 3 0), .int (ow 4 0), .int (ow 5 0), .int (ow 6 0), .int (ow 7 0), .int (ow 8 0), .int (ow 9 0), .int (ow 10 0), .int (ow 11 0), .int (ow 12 0), .int (ow 13 0), .int (ow 14 0), .int (ow 15 0)])), (s_h, .inr (3, [.int (os 0 0), .int (os 1 0)]))]
def L_X5_yields_38 : Nat → Int32 → Int32 → Int32 → Int32 → Ob → Int32 → Ob → Ob → (Ob → Ob → Option (Int32 × Ob × Ob)) → Option (Int32 × Ob × Ob)
  | 0, _, _, _, _, _, _, _, _, _ => none
  | n22 + 1, p0, p1, p2, v8, oc, v18, ow19, os20, K14 =>
    (if 4 < v18 then K14 ow19 os20 else (F_X4_tie ow19 oc p0 p1).bind (fun q24 => (F_X4_give q24 v8 v18).bind (fun q25 => dd (10 * v8) (fun (v26 : Int32) => dd (v26 + v18) (fun (v27 : Int32) => (F_X4_timeTo q25 p2 (-1)).bind (fun q28 => (F_X3_offer os20 v27 q28.1).bind (fun q29 => dd (v18 + 1) (fun (v30 : Int32) => L_X5_yields_38 n22 p0 p1 p2 v8 oc v30 q28.2 q29 K14))))))))
def L_X5_yields_29 : Nat → Int32 → Int32 → Int32 → Ob → Int32 → Ob → Ob → (Ob → Ob → Option (Int32 × Ob × Ob)) → Option (Int32 × Ob × Ob)
  | 0, _, _, _, _, _, _, _, _ => none
  | n12 + 1, p0, p1, p2, oc, v8, ow9, os10, K4 =>
    (if 4 < v8 then K4 ow9 os10 else jn (fun (ow15 : Ob) (os16 : Ob) => dd (v8 + 1) (fun (v17 : Int32) => L_X5_yields_29 n12 p0 p1 p2 oc v17 ow15 os16 K4)) (fun (K14 : Ob → Ob → Option (Int32 × Ob × Ob)) => L_X5_yields_38 2000 p0 p1 p2 v8 oc 0 ow9 os10 K14))
def F_X5_yields (oc : Ob) (ow : Ob) (os : Ob) (p0 : Int32) (p1 : Int32) (p2 : Int32) (p3 : Int32) : Option (Int32 × Ob × Ob) :=
  (F_X5_refusalOfRace oc p0 p1 p2 p3).bind (fun q1 => (if q1 = 0 then (F_X3_clear os).bind (fun q3 => jn (fun (ow5 : Ob) (os6 : Ob) => (F_X3_answer os6 p3).bind (fun q7 => some (q7, ow5, os6))) (fun (K4 : Ob → Ob → Option (Int32 × Ob × Ob)) => L_X5_yields_29 2000 p0 p1 p2 oc 0 ow q3 K4)) else some (q1, ow, os)))
abbrev rm_X5_yields : Room := { frames := 4, cells := 0, slots := 0, locals := 86 }
abbrev wu_X5_yields : List Cond := .code yX5_yields cX5_yields 8 (some .int) :: lwG
set_option maxHeartbeats 20000000 in
set_option maxRecDepth 100000 in
theorem c_X5_yields (l : Launch) (D : va_G) (cI cZ cO : ClassId) (x_h c_h i_h k_h f_h w_h n_h s_h t_h c_0 c_1 c_2 c_3 : Nat) (sz : Nat) (oc : Ob) (ow : Ob) (os : Ob) (p0 : Int32) (p1 : Int32) (p2 : Int32) (p3 : Int32) (q : Int32 × Ob × Ob) (hF : F_X5_yields oc ow os p0 p1 p2 p3 = some q) : CtI l yX5_yields wu_X5_yields rm_X5_yields D vwCl (tyL cI cZ cO) [.ref x_h, .int p0, .int p1, .int p2, .int p3] (wm_X5_yields cI cZ cO x_h c_h i_h k_h f_h w_h n_h s_h t_h c_0 c_1 c_2 c_3 oc ow os) sz 0 0 (fun (r : Int32) (u : Ob × Ob) => r = q.1 ∧ u = q.2) (fun u => wm_X5_yields cI cZ cO x_h c_h i_h k_h f_h w_h n_h s_h t_h c_0 c_1 c_2 c_3 oc u.1 u.2) := by
  refine mk_i (cc := cX5_yields) (maxL := 8) (by decide) rfl (Nat.le_of_ble_eq_true rfl) ?_
  intro p e s m args below meth c A ls Q hx hb hml hown hts hin hK hP hD hS hA hl hQ
  have hl : lv_has ls 8 [(0, .ref x_h), (1, .int p0), (2, .int p1), (3, .int p2), (4, .int p3)] := hl
  unfold F_X5_yields at hF
  refine lv_aload_n hx hb dX5_yields_0 rfl (lv_at hl 0 rfl) ?_
  refine lv_iload_n hx hb dX5_yields_1 rfl (lv_at hl 1 rfl) ?_
  refine lv_iload_n hx hb dX5_yields_2 rfl (lv_at hl 2 rfl) ?_
  refine lv_iload_n hx hb dX5_yields_3 rfl (lv_at hl 3 rfl) ?_
  refine lv_iload hx hb dX5_yields_4 (lv_at hl 4 rfl) ?_
  obtain ⟨q1, hGq1, hF⟩ := of_bind hF
  refine callVi (As := [.int p0, .int p1, .int p2, .int p3]) (rest := []) (wr := [(w_h, .inr (4, [.int (ow 0 0), .int (ow 1 0), .int (ow 2 0), .int (ow 3 0), .int (ow 4 0), .int (ow 5 0), .int (ow 6 0), .int (ow 7 0), .int (ow 8 0), .int (ow 9 0), .int (ow 10 0), .int (ow 11 0), .int (ow 12 0), .int (ow 13 0), .int (ow 14 0), .int (ow 15 0)])), (s_h, .inr (3, [.int (os 0 0), .int (os 1 0)]))]) (WN := wm_X5_yields cI cZ cO x_h c_h i_h k_h f_h w_h n_h s_h t_h c_0 c_1 c_2 c_3 oc ow os) ⟨hx, hb, hml, hown, hts⟩ hK hP hD hS hA [0, 1, 2, 3, 4, 5] [6, 7] [2, 3, 4, 5, 6, 7, 0, 1] (c_X5_refusalOfRace l D cI cZ cO x_h c_h i_h k_h f_h w_h n_h s_h t_h c_0 c_1 c_2 c_3 _ oc p0 p1 p2 p3 q1 hGq1) (cwV 4 hts (gV wd_329 wd_331 wd_3 wd_33 wd_332) rfl rfl rfl (by decide +kernel) ⟨Nat.le_of_ble_eq_true rfl, Nat.le_of_ble_eq_true rfl⟩) 0 5 rfl rfl rfl rfl rfl rfl rfl (by decide) rfl rfl rfl hl.1 rfl (Nat.le_of_ble_eq_true rfl) dX5_yields_6 ⟨Nat.zero_le _, Nat.zero_le _⟩ (fun H locs hP hD hS => ?_)
  refine lv_istore (lv' := [(5, .int q1), (0, .ref x_h), (1, .int p0), (2, .int p1), (3, .int p2), (4, .int p3)]) hx hb dX5_yields_9 hl (by decide) rfl (fun ls hl => ?_)
  refine lv_iload hx hb dX5_yields_11 (lv_at hl 0 rfl) ?_
  refine lv_if_eq (tgt := 19) hx hb dX5_yields_13 (by decide) (fun h2 => ?_) (fun h2 => ?_)
  · replace hF := of_t h2 hF
    refine lv_aload_n hx hb dX5_yields_19 rfl (lv_at hl 1 rfl) ?_
    refine va_get (D := D) (ci := 5) (v := .ref s_h) (C := RX5) (T := TX5) (N := 8) hx hb hts in_X5 hown hK hP 0 rfl rfl 6 (by decide) (hts _ wd_217) (fun _ h9 => h9) rfl dX5_yields_20 ?_
    obtain ⟨q3, hGq3, hF⟩ := of_bind hF
    refine callVv (As := []) (rest := []) (wr := [(x_h, .inr (5, [.ref c_h, .ref i_h, .ref k_h, .ref f_h, .ref w_h, .ref n_h, .ref s_h, .ref t_h])), (c_h, .inr (0, [.ref c_0, .ref c_1, .ref c_2, .ref c_3, .int (oc 4 0), .int (oc 5 0), .int (oc 6 0)])), (c_0, .inl (cZ, 8, .inl (oc 0))), (c_1, .inl (cI, 8, .inl (oc 1))), (c_2, .inl (cI, 8, .inl (oc 2))), (c_3, .inl (cI, 8, .inl (oc 3))), (w_h, .inr (4, [.int (ow 0 0), .int (ow 1 0), .int (ow 2 0), .int (ow 3 0), .int (ow 4 0), .int (ow 5 0), .int (ow 6 0), .int (ow 7 0), .int (ow 8 0), .int (ow 9 0), .int (ow 10 0), .int (ow 11 0), .int (ow 12 0), .int (ow 13 0), .int (ow 14 0), .int (ow 15 0)]))]) (WN := wm_X5_yields cI cZ cO x_h c_h i_h k_h f_h w_h n_h s_h t_h c_0 c_1 c_2 c_3 oc ow q3) ⟨hx, hb, hml, hown, hts⟩ hK hP hD hS hA [7] [0, 1, 2, 3, 4, 5, 6] [0, 1, 2, 3, 4, 5, 6, 7] (c_X3_clear l D cI cZ cO s_h _ os q3 hGq3) (cwV 0 hts (gV wd_402 wd_403 wd_404 wd_38 wd_405) rfl rfl rfl (by decide +kernel) ⟨Nat.le_of_ble_eq_true rfl, Nat.le_of_ble_eq_true rfl⟩) 0 3 rfl rfl rfl rfl rfl rfl rfl (by decide) rfl rfl rfl hl.1 rfl (Nat.le_of_ble_eq_true rfl) dX5_yields_23 ⟨Nat.zero_le _, Nat.zero_le _⟩ (fun H locs hP hD hS => ?_)
    refine lv_iconst (v := 0) hx hb dX5_yields_26 (by decide) ?_
    refine lv_istore (lv' := [(6, .int 0), (5, .int q1), (0, .ref x_h), (1, .int p0), (2, .int p1), (3, .int p2), (4, .int p3)]) hx hb dX5_yields_27 hl (by decide) rfl (fun ls hl => ?_)
    obtain ⟨K4, eK4, hF⟩ := of_jn hF
    have hK4 : ∀ (ow5 : Ob) (os6 : Ob) (ls : Array Slot) (H : Heap) (locs : List Loc), lv_has ls 8 [(0, .ref x_h), (4, .int p3)] → va_P D vwCl (wm_X5_yields cI cZ cO x_h c_h i_h k_h f_h w_h n_h s_h t_h c_0 c_1 c_2 c_3 oc ow5 os6) H → va_D A (wm_X5_yields cI cZ cO x_h c_h i_h k_h f_h w_h n_h s_h t_h c_0 c_1 c_2 c_3 oc ow5 os6) → va_S A s.heap H locs → K4 ow5 os6 = some q → W p l e rm_X5_yields s m args below meth c H locs 0 0 Q (F0 m 104 ls []) := by
      intro ow5 os6 ls H locs hl hP hD hS hF
      subst eK4
      refine lv_aload_n hx hb dX5_yields_104 rfl (lv_at hl 0 rfl) ?_
      refine va_get (D := D) (ci := 5) (v := .ref s_h) (C := RX5) (T := TX5) (N := 8) hx hb hts in_X5 hown hK hP 0 rfl rfl 6 (by decide) (hts _ wd_217) (fun _ h9 => h9) rfl dX5_yields_105 ?_
      refine lv_iload hx hb dX5_yields_108 (lv_at hl 1 rfl) ?_
      obtain ⟨q7, hGq7, hF⟩ := of_bind hF
      refine callVi (As := [.int p3]) (rest := []) (wr := [(x_h, .inr (5, [.ref c_h, .ref i_h, .ref k_h, .ref f_h, .ref w_h, .ref n_h, .ref s_h, .ref t_h])), (c_h, .inr (0, [.ref c_0, .ref c_1, .ref c_2, .ref c_3, .int (oc 4 0), .int (oc 5 0), .int (oc 6 0)])), (c_0, .inl (cZ, 8, .inl (oc 0))), (c_1, .inl (cI, 8, .inl (oc 1))), (c_2, .inl (cI, 8, .inl (oc 2))), (c_3, .inl (cI, 8, .inl (oc 3))), (w_h, .inr (4, [.int (ow5 0 0), .int (ow5 1 0), .int (ow5 2 0), .int (ow5 3 0), .int (ow5 4 0), .int (ow5 5 0), .int (ow5 6 0), .int (ow5 7 0), .int (ow5 8 0), .int (ow5 9 0), .int (ow5 10 0), .int (ow5 11 0), .int (ow5 12 0), .int (ow5 13 0), .int (ow5 14 0), .int (ow5 15 0)]))]) (WN := wm_X5_yields cI cZ cO x_h c_h i_h k_h f_h w_h n_h s_h t_h c_0 c_1 c_2 c_3 oc ow5 os6) ⟨hx, hb, hml, hown, hts⟩ hK hP hD hS hA [7] [0, 1, 2, 3, 4, 5, 6] [0, 1, 2, 3, 4, 5, 6, 7] (c_X3_answer l D cI cZ cO s_h _ os6 p3 q7 hGq7) (cwV 1 hts (gV wd_414 wd_415 wd_416 wd_38 wd_417) rfl rfl rfl (by decide +kernel) ⟨Nat.le_of_ble_eq_true rfl, Nat.le_of_ble_eq_true rfl⟩) 0 3 rfl rfl rfl rfl rfl rfl rfl (by decide) rfl rfl rfl hl.1 rfl (Nat.le_of_ble_eq_true rfl) dX5_yields_110 ⟨Nat.zero_le _, Nat.zero_le _⟩ (fun H locs hP hD hS => ?_)
      exact hQ _ _ _ _ _ (ow5, os6) ⟨inj_fst hF, inj_snd hF⟩ hP hD hS dX5_yields_113
    have hloop32 : ∀ (n12 : Nat) (v8 : Int32) (ow9 : Ob) (os10 : Ob) (ls : Array Slot) (H : Heap) (locs : List Loc), lv_has ls 8 [(0, .ref x_h), (1, .int p0), (2, .int p1), (3, .int p2), (4, .int p3), (6, .int v8)] → va_P D vwCl (wm_X5_yields cI cZ cO x_h c_h i_h k_h f_h w_h n_h s_h t_h c_0 c_1 c_2 c_3 oc ow9 os10) H → va_D A (wm_X5_yields cI cZ cO x_h c_h i_h k_h f_h w_h n_h s_h t_h c_0 c_1 c_2 c_3 oc ow9 os10) → va_S A s.heap H locs → L_X5_yields_29 n12 p0 p1 p2 oc v8 ow9 os10 K4 = some q → W p l e rm_X5_yields s m args below meth c H locs 0 0 Q (F0 m 29 ls []) := by
      intro n12
      induction n12 with
      | zero =>
        intro v8 ow9 os10 ls H locs hl hP hD hS hF
        exact of_none hF
      | succ n12 ih11 =>
        intro v8 ow9 os10 ls H locs hl hP hD hS hF
        rw [L_X5_yields_29.eq_2] at hF
        refine lv_iload hx hb dX5_yields_29 (lv_at hl 5 rfl) ?_
        refine lv_iconst (v := 4) hx hb dX5_yields_31 (by decide) ?_
        refine lv_icmp_gt (tgt := 104) hx hb dX5_yields_32 (by decide) (fun h13 => ?_) (fun h13 => ?_)
        · replace hF := of_t h13 hF
          exact hK4 ow9 os10 ls _ _ (lv_sub hl [0, 4] rfl) hP hD hS hF
        · replace hF := of_f h13 hF
          refine lv_iconst (v := 0) hx hb dX5_yields_35 (by decide) ?_
          refine lv_istore (lv' := [(7, .int 0), (0, .ref x_h), (1, .int p0), (2, .int p1), (3, .int p2), (4, .int p3), (6, .int v8)]) hx hb dX5_yields_36 hl (by decide) rfl (fun ls hl => ?_)
          obtain ⟨K14, eK14, hF⟩ := of_jn hF
          have hK14 : ∀ (ow15 : Ob) (os16 : Ob) (ls : Array Slot) (H : Heap) (locs : List Loc), lv_has ls 8 [(0, .ref x_h), (1, .int p0), (2, .int p1), (3, .int p2), (4, .int p3), (6, .int v8)] → va_P D vwCl (wm_X5_yields cI cZ cO x_h c_h i_h k_h f_h w_h n_h s_h t_h c_0 c_1 c_2 c_3 oc ow15 os16) H → va_D A (wm_X5_yields cI cZ cO x_h c_h i_h k_h f_h w_h n_h s_h t_h c_0 c_1 c_2 c_3 oc ow15 os16) → va_S A s.heap H locs → K14 ow15 os16 = some q → W p l e rm_X5_yields s m args below meth c H locs 0 0 Q (F0 m 98 ls []) := by
            intro ow15 os16 ls H locs hl hP hD hS hF
            subst eK14
            obtain ⟨v17, ev17⟩ : ∃ y : Int32, y = v8 + 1 := ⟨_, rfl⟩
            replace hF := of_dd hF v17 ev17
            refine lv_iinc (v := v17) (lv' := [(6, .int v17), (0, .ref x_h), (1, .int p0), (2, .int p1), (3, .int p2), (4, .int p3)]) hx hb dX5_yields_98 hl (k := 5) rfl (by rw [ev17]; rfl) (by decide) rfl (fun ls hl => ?_)
            refine lv_goto (tgt := 29) hx hb dX5_yields_101 (by decide) ?_
            exact ih11 v17 ow15 os16 ls _ _ (lv_sub hl [1, 2, 3, 4, 5, 0] rfl) hP hD hS hF
          have hloop31 : ∀ (n22 : Nat) (v18 : Int32) (ow19 : Ob) (os20 : Ob) (ls : Array Slot) (H : Heap) (locs : List Loc), lv_has ls 8 [(0, .ref x_h), (1, .int p0), (2, .int p1), (3, .int p2), (4, .int p3), (6, .int v8), (7, .int v18)] → va_P D vwCl (wm_X5_yields cI cZ cO x_h c_h i_h k_h f_h w_h n_h s_h t_h c_0 c_1 c_2 c_3 oc ow19 os20) H → va_D A (wm_X5_yields cI cZ cO x_h c_h i_h k_h f_h w_h n_h s_h t_h c_0 c_1 c_2 c_3 oc ow19 os20) → va_S A s.heap H locs → L_X5_yields_38 n22 p0 p1 p2 v8 oc v18 ow19 os20 K14 = some q → W p l e rm_X5_yields s m args below meth c H locs 0 0 Q (F0 m 38 ls []) := by
            intro n22
            induction n22 with
            | zero =>
              intro v18 ow19 os20 ls H locs hl hP hD hS hF
              exact of_none hF
            | succ n22 ih21 =>
              intro v18 ow19 os20 ls H locs hl hP hD hS hF
              rw [L_X5_yields_38.eq_2] at hF
              refine lv_iload hx hb dX5_yields_38 (lv_at hl 6 rfl) ?_
              refine lv_iconst (v := 4) hx hb dX5_yields_40 (by decide) ?_
              refine lv_icmp_gt (tgt := 98) hx hb dX5_yields_41 (by decide) (fun h23 => ?_) (fun h23 => ?_)
              · replace hF := of_t h23 hF
                exact hK14 ow19 os20 ls _ _ (lv_sub hl [0, 1, 2, 3, 4, 5] rfl) hP hD hS hF
              · replace hF := of_f h23 hF
                refine lv_aload_n hx hb dX5_yields_44 rfl (lv_at hl 0 rfl) ?_
                refine va_get (D := D) (ci := 5) (v := .ref w_h) (C := RX5) (T := TX5) (N := 8) hx hb hts in_X5 hown hK hP 0 rfl rfl 4 (by decide) (hts _ wd_215) (fun _ h9 => h9) rfl dX5_yields_45 ?_
                refine lv_aload_n hx hb dX5_yields_48 rfl (lv_at hl 0 rfl) ?_
                refine va_get (D := D) (ci := 5) (v := .ref c_h) (C := RX5) (T := TX5) (N := 8) hx hb hts in_X5 hown hK hP 0 rfl rfl 0 (by decide) (hts _ wd_211) (fun _ h9 => h9) rfl dX5_yields_49 ?_
                refine lv_iload_n hx hb dX5_yields_52 rfl (lv_at hl 1 rfl) ?_
                refine lv_iload_n hx hb dX5_yields_53 rfl (lv_at hl 2 rfl) ?_
                obtain ⟨q24, hGq24, hF⟩ := of_bind hF
                refine callVv (As := [.ref c_h, .int p0, .int p1]) (rest := []) (wr := [(x_h, .inr (5, [.ref c_h, .ref i_h, .ref k_h, .ref f_h, .ref w_h, .ref n_h, .ref s_h, .ref t_h])), (s_h, .inr (3, [.int (os20 0 0), .int (os20 1 0)]))]) (WN := wm_X5_yields cI cZ cO x_h c_h i_h k_h f_h w_h n_h s_h t_h c_0 c_1 c_2 c_3 oc q24 os20) ⟨hx, hb, hml, hown, hts⟩ hK hP hD hS hA [6, 1, 2, 3, 4, 5] [0, 7] [0, 3, 4, 5, 6, 7, 2, 1] (c_X4_tie l D cI cZ cO w_h c_h c_0 c_1 c_2 c_3 _ ow19 oc p0 p1 q24 hGq24) (cwV 3 hts (gV wd_298 wd_299 wd_300 wd_36 wd_301) rfl rfl rfl (by decide +kernel) ⟨Nat.le_of_ble_eq_true rfl, Nat.le_of_ble_eq_true rfl⟩) 0 4 rfl rfl rfl rfl rfl rfl rfl (by decide) rfl rfl rfl hl.1 rfl (Nat.le_of_ble_eq_true rfl) dX5_yields_54 ⟨Nat.zero_le _, Nat.zero_le _⟩ (fun H locs hP hD hS => ?_)
                refine lv_aload_n hx hb dX5_yields_57 rfl (lv_at hl 0 rfl) ?_
                refine va_get (D := D) (ci := 5) (v := .ref w_h) (C := RX5) (T := TX5) (N := 8) hx hb hts in_X5 hown hK hP 0 rfl rfl 4 (by decide) (hts _ wd_215) (fun _ h9 => h9) rfl dX5_yields_58 ?_
                refine lv_iload hx hb dX5_yields_61 (lv_at hl 5 rfl) ?_
                refine lv_iload hx hb dX5_yields_63 (lv_at hl 6 rfl) ?_
                obtain ⟨q25, hGq25, hF⟩ := of_bind hF
                refine callVv (As := [.int v8, .int v18]) (rest := []) (wr := [(x_h, .inr (5, [.ref c_h, .ref i_h, .ref k_h, .ref f_h, .ref w_h, .ref n_h, .ref s_h, .ref t_h])), (c_h, .inr (0, [.ref c_0, .ref c_1, .ref c_2, .ref c_3, .int (oc 4 0), .int (oc 5 0), .int (oc 6 0)])), (c_0, .inl (cZ, 8, .inl (oc 0))), (c_1, .inl (cI, 8, .inl (oc 1))), (c_2, .inl (cI, 8, .inl (oc 2))), (c_3, .inl (cI, 8, .inl (oc 3))), (s_h, .inr (3, [.int (os20 0 0), .int (os20 1 0)]))]) (WN := wm_X5_yields cI cZ cO x_h c_h i_h k_h f_h w_h n_h s_h t_h c_0 c_1 c_2 c_3 oc q25 os20) ⟨hx, hb, hml, hown, hts⟩ hK hP hD hS hA [6] [0, 1, 2, 3, 4, 5, 7] [0, 1, 2, 3, 4, 5, 7, 6] (c_X4_give l D cI cZ cO w_h _ q24 v8 v18 q25 hGq25) (cwV 2 hts (gV wd_426 wd_427 wd_428 wd_36 wd_429) rfl rfl rfl (by decide +kernel) ⟨Nat.le_of_ble_eq_true rfl, Nat.le_of_ble_eq_true rfl⟩) 0 4 rfl rfl rfl rfl rfl rfl rfl (by decide) rfl rfl rfl hl.1 rfl (Nat.le_of_ble_eq_true rfl) dX5_yields_65 ⟨Nat.zero_le _, Nat.zero_le _⟩ (fun H locs hP hD hS => ?_)
                refine lv_aload_n hx hb dX5_yields_68 rfl (lv_at hl 0 rfl) ?_
                refine va_get (D := D) (ci := 5) (v := .ref s_h) (C := RX5) (T := TX5) (N := 8) hx hb hts in_X5 hown hK hP 0 rfl rfl 6 (by decide) (hts _ wd_217) (fun _ h9 => h9) rfl dX5_yields_69 ?_
                refine lv_bipush (v := 10) hx hb dX5_yields_72 (by decide) ?_
                refine lv_iload hx hb dX5_yields_74 (lv_at hl 5 rfl) ?_
                refine lv_imul hx hb dX5_yields_76 ?_
                refine lv_topi (fun v26 ev26 => ?_)
                replace hF := of_dd hF v26 ev26
                refine lv_iload hx hb dX5_yields_77 (lv_at hl 6 rfl) ?_
                refine lv_iadd hx hb dX5_yields_79 ?_
                refine lv_topi (fun v27 ev27 => ?_)
                replace hF := of_dd hF v27 ev27
                refine lv_aload_n hx hb dX5_yields_80 rfl (lv_at hl 0 rfl) ?_
                refine va_get (D := D) (ci := 5) (v := .ref w_h) (C := RX5) (T := TX5) (N := 8) hx hb hts in_X5 hown hK hP 0 rfl rfl 4 (by decide) (hts _ wd_215) (fun _ h9 => h9) rfl dX5_yields_81 ?_
                refine lv_iload_n hx hb dX5_yields_84 rfl (lv_at hl 3 rfl) ?_
                refine lv_iconst (v := (-1)) hx hb dX5_yields_85 (by decide) ?_
                obtain ⟨q28, hGq28, hF⟩ := of_bind hF
                refine callVi (As := [.int p2, .int (-1)]) (rest := [.int v27, .ref s_h]) (wr := [(x_h, .inr (5, [.ref c_h, .ref i_h, .ref k_h, .ref f_h, .ref w_h, .ref n_h, .ref s_h, .ref t_h])), (c_h, .inr (0, [.ref c_0, .ref c_1, .ref c_2, .ref c_3, .int (oc 4 0), .int (oc 5 0), .int (oc 6 0)])), (c_0, .inl (cZ, 8, .inl (oc 0))), (c_1, .inl (cI, 8, .inl (oc 1))), (c_2, .inl (cI, 8, .inl (oc 2))), (c_3, .inl (cI, 8, .inl (oc 3))), (s_h, .inr (3, [.int (os20 0 0), .int (os20 1 0)]))]) (WN := wm_X5_yields cI cZ cO x_h c_h i_h k_h f_h w_h n_h s_h t_h c_0 c_1 c_2 c_3 oc q28.2 os20) ⟨hx, hb, hml, hown, hts⟩ hK hP hD hS hA [6] [0, 1, 2, 3, 4, 5, 7] [0, 1, 2, 3, 4, 5, 7, 6] (c_X4_timeTo l D cI cZ cO w_h _ q25 p2 (-1) q28 hGq28) (cwV 2 hts (gV wd_340 wd_341 wd_342 wd_36 wd_343) rfl rfl rfl (by decide +kernel) ⟨Nat.le_of_ble_eq_true rfl, Nat.le_of_ble_eq_true rfl⟩) 0 4 rfl rfl rfl rfl rfl rfl rfl (by decide) rfl rfl rfl hl.1 rfl (Nat.le_of_ble_eq_true rfl) dX5_yields_86 ⟨Nat.zero_le _, Nat.zero_le _⟩ (fun H locs hP hD hS => ?_)
                obtain ⟨q29, hGq29, hF⟩ := of_bind hF
                refine callVv (As := [.int v27, .int q28.1]) (rest := []) (wr := [(x_h, .inr (5, [.ref c_h, .ref i_h, .ref k_h, .ref f_h, .ref w_h, .ref n_h, .ref s_h, .ref t_h])), (c_h, .inr (0, [.ref c_0, .ref c_1, .ref c_2, .ref c_3, .int (oc 4 0), .int (oc 5 0), .int (oc 6 0)])), (c_0, .inl (cZ, 8, .inl (oc 0))), (c_1, .inl (cI, 8, .inl (oc 1))), (c_2, .inl (cI, 8, .inl (oc 2))), (c_3, .inl (cI, 8, .inl (oc 3))), (w_h, .inr (4, [.int (q28.2 0 0), .int (q28.2 1 0), .int (q28.2 2 0), .int (q28.2 3 0), .int (q28.2 4 0), .int (q28.2 5 0), .int (q28.2 6 0), .int (q28.2 7 0), .int (q28.2 8 0), .int (q28.2 9 0), .int (q28.2 10 0), .int (q28.2 11 0), .int (q28.2 12 0), .int (q28.2 13 0), .int (q28.2 14 0), .int (q28.2 15 0)]))]) (WN := wm_X5_yields cI cZ cO x_h c_h i_h k_h f_h w_h n_h s_h t_h c_0 c_1 c_2 c_3 oc q28.2 q29) ⟨hx, hb, hml, hown, hts⟩ hK hP hD hS hA [7] [0, 1, 2, 3, 4, 5, 6] [0, 1, 2, 3, 4, 5, 6, 7] (c_X3_offer l D cI cZ cO s_h _ os20 v27 q28.1 q29 hGq29) (cwV 2 hts (gV wd_410 wd_411 wd_412 wd_38 wd_413) rfl rfl rfl (by decide +kernel) ⟨Nat.le_of_ble_eq_true rfl, Nat.le_of_ble_eq_true rfl⟩) 0 3 rfl rfl rfl rfl rfl rfl rfl (by decide) rfl rfl rfl hl.1 rfl (Nat.le_of_ble_eq_true rfl) dX5_yields_89 ⟨Nat.zero_le _, Nat.zero_le _⟩ (fun H locs hP hD hS => ?_)
                obtain ⟨v30, ev30⟩ : ∃ y : Int32, y = v18 + 1 := ⟨_, rfl⟩
                replace hF := of_dd hF v30 ev30
                refine lv_iinc (v := v30) (lv' := [(7, .int v30), (0, .ref x_h), (1, .int p0), (2, .int p1), (3, .int p2), (4, .int p3), (6, .int v8)]) hx hb dX5_yields_92 hl (k := 6) rfl (by rw [ev30]; rfl) (by decide) rfl (fun ls hl => ?_)
                refine lv_goto (tgt := 38) hx hb dX5_yields_95 (by decide) ?_
                exact ih21 v30 q28.2 q29 ls _ _ (lv_sub hl [1, 2, 3, 4, 5, 6, 0] rfl) hP hD hS hF
          exact hloop31 2000 0 ow9 os10 ls _ _ (lv_sub hl [1, 2, 3, 4, 5, 6, 0] rfl) hP hD hS hF
    exact hloop32 2000 0 ow q3 ls _ _ (lv_sub hl [2, 3, 4, 5, 6, 0] rfl) hP hD hS hF
  · replace hF := of_f h2 hF
    refine lv_iload hx hb dX5_yields_16 (lv_at hl 0 rfl) ?_
    exact hQ _ _ _ _ _ (ow, os) ⟨inj_fst hF, inj_snd hF⟩ hP hD hS dX5_yields_18

/-! ### ThreeLegs.standsWith(IIIII)Z -/
abbrev wm_X5_standsWith (cI cZ cO : ClassId) (x_h c_h i_h k_h f_h w_h n_h s_h t_h c_0 c_1 c_2 c_3 : Nat) (oc : Ob) (ow : Ob) : va_W := [(x_h, .inr (5, [.ref c_h, .ref i_h, .ref k_h, .ref f_h, .ref w_h, .ref n_h, .ref s_h, .ref t_h])), (c_h, .inr (0, [.ref c_0, .ref c_1, .ref c_2, .ref c_3, .int (oc 4 0), .int (oc 5 0), .int (oc 6 0)])), (c_0, .inl (cZ, 8, .inl (oc 0))), (c_1, .inl (cI, 8, .inl (oc 1))), (c_2, .inl (cI, 8, .inl (oc 2))), (c_3, .inl (cI, 8, .inl (oc 3))), (w_h, .inr (4, [.int (ow 0 0), .int (ow 1 0), .int (ow 2 0), .int (ow 3 0), .int (ow 4 0), .int (ow 5 0), .int (ow 6 0), .int (ow 7 0), .int (ow 8 0), .int (ow 9 0), .int (ow 10 0), .int (ow 11 0), .int (ow 12 0), .int (ow 13 0), .int (ow 14 0), .int (ow 15 0)]))]
def F_X5_standsWith (oc : Ob) (ow : Ob) (p0 : Int32) (p1 : Int32) (p2 : Int32) (p3 : Int32) (p4 : Int32) : Option (Int32 × Ob) :=
  (F_X4_tie ow oc p0 p1).bind (fun q1 => (F_X4_give q1 p2 p3).bind (fun q2 => (F_X4_standsFor q2 p4).bind (fun q3 => gz q3.1 (some (q3.1, q3.2)))))
abbrev rm_X5_standsWith : Room := { frames := 4, cells := 0, slots := 0, locals := 85 }
abbrev wu_X5_standsWith : List Cond := .code yX5_standsWith cX5_standsWith 6 (some .boolean) :: lwG
set_option maxHeartbeats 20000000 in
set_option maxRecDepth 100000 in
theorem c_X5_standsWith (l : Launch) (D : va_G) (cI cZ cO : ClassId) (x_h c_h i_h k_h f_h w_h n_h s_h t_h c_0 c_1 c_2 c_3 : Nat) (sz : Nat) (oc : Ob) (ow : Ob) (p0 : Int32) (p1 : Int32) (p2 : Int32) (p3 : Int32) (p4 : Int32) (q : Int32 × Ob) (hF : F_X5_standsWith oc ow p0 p1 p2 p3 p4 = some q) : CtI l yX5_standsWith wu_X5_standsWith rm_X5_standsWith D vwCl (tyL cI cZ cO) [.ref x_h, .int p0, .int p1, .int p2, .int p3, .int p4] (wm_X5_standsWith cI cZ cO x_h c_h i_h k_h f_h w_h n_h s_h t_h c_0 c_1 c_2 c_3 oc ow) sz 0 0 (fun (r : Int32) (u : Ob) => r = q.1 ∧ u = q.2) (fun u => wm_X5_standsWith cI cZ cO x_h c_h i_h k_h f_h w_h n_h s_h t_h c_0 c_1 c_2 c_3 oc u) := by
  refine mk_z (cc := cX5_standsWith) (maxL := 6) (by decide) rfl (Nat.le_of_ble_eq_true rfl) ?_
  intro p e s m args below meth c A ls Q hx hb hml hown hts hin hK hP hD hS hA hl hQ
  have hl : lv_has ls 6 [(0, .ref x_h), (1, .int p0), (2, .int p1), (3, .int p2), (4, .int p3), (5, .int p4)] := hl
  unfold F_X5_standsWith at hF
  refine lv_aload_n hx hb dX5_standsWith_0 rfl (lv_at hl 0 rfl) ?_
  refine va_get (D := D) (ci := 5) (v := .ref w_h) (C := RX5) (T := TX5) (N := 8) hx hb hts in_X5 hown hK hP 0 rfl rfl 4 (by decide) (hts _ wd_215) (fun _ h9 => h9) rfl dX5_standsWith_1 ?_
  refine lv_aload_n hx hb dX5_standsWith_4 rfl (lv_at hl 0 rfl) ?_
  refine va_get (D := D) (ci := 5) (v := .ref c_h) (C := RX5) (T := TX5) (N := 8) hx hb hts in_X5 hown hK hP 0 rfl rfl 0 (by decide) (hts _ wd_211) (fun _ h9 => h9) rfl dX5_standsWith_5 ?_
  refine lv_iload_n hx hb dX5_standsWith_8 rfl (lv_at hl 1 rfl) ?_
  refine lv_iload_n hx hb dX5_standsWith_9 rfl (lv_at hl 2 rfl) ?_
  obtain ⟨q1, hGq1, hF⟩ := of_bind hF
  refine callVv (As := [.ref c_h, .int p0, .int p1]) (rest := []) (wr := [(x_h, .inr (5, [.ref c_h, .ref i_h, .ref k_h, .ref f_h, .ref w_h, .ref n_h, .ref s_h, .ref t_h]))]) (WN := wm_X5_standsWith cI cZ cO x_h c_h i_h k_h f_h w_h n_h s_h t_h c_0 c_1 c_2 c_3 oc q1) ⟨hx, hb, hml, hown, hts⟩ hK hP hD hS hA [6, 1, 2, 3, 4, 5] [0] [0, 2, 3, 4, 5, 6, 1] (c_X4_tie l D cI cZ cO w_h c_h c_0 c_1 c_2 c_3 _ ow oc p0 p1 q1 hGq1) (cwV 3 hts (gV wd_298 wd_299 wd_300 wd_36 wd_301) rfl rfl rfl (by decide +kernel) ⟨Nat.le_of_ble_eq_true rfl, Nat.le_of_ble_eq_true rfl⟩) 0 4 rfl rfl rfl rfl rfl rfl rfl (by decide) rfl rfl rfl hl.1 rfl (Nat.le_of_ble_eq_true rfl) dX5_standsWith_10 ⟨Nat.zero_le _, Nat.zero_le _⟩ (fun H locs hP hD hS => ?_)
  refine lv_aload_n hx hb dX5_standsWith_13 rfl (lv_at hl 0 rfl) ?_
  refine va_get (D := D) (ci := 5) (v := .ref w_h) (C := RX5) (T := TX5) (N := 8) hx hb hts in_X5 hown hK hP 0 rfl rfl 4 (by decide) (hts _ wd_215) (fun _ h9 => h9) rfl dX5_standsWith_14 ?_
  refine lv_iload_n hx hb dX5_standsWith_17 rfl (lv_at hl 3 rfl) ?_
  refine lv_iload hx hb dX5_standsWith_18 (lv_at hl 4 rfl) ?_
  obtain ⟨q2, hGq2, hF⟩ := of_bind hF
  refine callVv (As := [.int p2, .int p3]) (rest := []) (wr := [(x_h, .inr (5, [.ref c_h, .ref i_h, .ref k_h, .ref f_h, .ref w_h, .ref n_h, .ref s_h, .ref t_h])), (c_h, .inr (0, [.ref c_0, .ref c_1, .ref c_2, .ref c_3, .int (oc 4 0), .int (oc 5 0), .int (oc 6 0)])), (c_0, .inl (cZ, 8, .inl (oc 0))), (c_1, .inl (cI, 8, .inl (oc 1))), (c_2, .inl (cI, 8, .inl (oc 2))), (c_3, .inl (cI, 8, .inl (oc 3)))]) (WN := wm_X5_standsWith cI cZ cO x_h c_h i_h k_h f_h w_h n_h s_h t_h c_0 c_1 c_2 c_3 oc q2) ⟨hx, hb, hml, hown, hts⟩ hK hP hD hS hA [6] [0, 1, 2, 3, 4, 5] [0, 1, 2, 3, 4, 5, 6] (c_X4_give l D cI cZ cO w_h _ q1 p2 p3 q2 hGq2) (cwV 2 hts (gV wd_426 wd_427 wd_428 wd_36 wd_429) rfl rfl rfl (by decide +kernel) ⟨Nat.le_of_ble_eq_true rfl, Nat.le_of_ble_eq_true rfl⟩) 0 4 rfl rfl rfl rfl rfl rfl rfl (by decide) rfl rfl rfl hl.1 rfl (Nat.le_of_ble_eq_true rfl) dX5_standsWith_20 ⟨Nat.zero_le _, Nat.zero_le _⟩ (fun H locs hP hD hS => ?_)
  refine lv_aload_n hx hb dX5_standsWith_23 rfl (lv_at hl 0 rfl) ?_
  refine va_get (D := D) (ci := 5) (v := .ref w_h) (C := RX5) (T := TX5) (N := 8) hx hb hts in_X5 hown hK hP 0 rfl rfl 4 (by decide) (hts _ wd_215) (fun _ h9 => h9) rfl dX5_standsWith_24 ?_
  refine lv_iload hx hb dX5_standsWith_27 (lv_at hl 5 rfl) ?_
  obtain ⟨q3, hGq3, hF⟩ := of_bind hF
  refine callVi (As := [.int p4]) (rest := []) (wr := [(x_h, .inr (5, [.ref c_h, .ref i_h, .ref k_h, .ref f_h, .ref w_h, .ref n_h, .ref s_h, .ref t_h])), (c_h, .inr (0, [.ref c_0, .ref c_1, .ref c_2, .ref c_3, .int (oc 4 0), .int (oc 5 0), .int (oc 6 0)])), (c_0, .inl (cZ, 8, .inl (oc 0))), (c_1, .inl (cI, 8, .inl (oc 1))), (c_2, .inl (cI, 8, .inl (oc 2))), (c_3, .inl (cI, 8, .inl (oc 3)))]) (WN := wm_X5_standsWith cI cZ cO x_h c_h i_h k_h f_h w_h n_h s_h t_h c_0 c_1 c_2 c_3 oc q3.2) ⟨hx, hb, hml, hown, hts⟩ hK hP hD hS hA [6] [0, 1, 2, 3, 4, 5] [0, 1, 2, 3, 4, 5, 6] (c_X4_standsFor l D cI cZ cO w_h _ q2 p4 q3 hGq3) (cwV 1 hts (gV wd_354 wd_355 wd_356 wd_36 wd_357) rfl rfl rfl (by decide +kernel) ⟨Nat.le_of_ble_eq_true rfl, Nat.le_of_ble_eq_true rfl⟩) 0 4 rfl rfl rfl rfl rfl rfl rfl (by decide) rfl rfl rfl hl.1 rfl (Nat.le_of_ble_eq_true rfl) dX5_standsWith_29 ⟨Nat.zero_le _, Nat.zero_le _⟩ (fun H locs hP hD hS => ?_)
  obtain ⟨hz4, hF⟩ := of_gz hF
  exact hQ _ _ _ _ _ q3.2 hz4.1 ⟨inj_fst hF, inj_snd hF⟩ hP hD hS dX5_standsWith_32

/-! ### ThreeLegs.practice(IIII)I -/
abbrev wm_X5_practice (cI cZ cO : ClassId) (x_h c_h i_h k_h f_h w_h n_h s_h t_h c_0 c_1 c_2 c_3 : Nat) (oc : Ob) (ow : Ob) : va_W := [(x_h, .inr (5, [.ref c_h, .ref i_h, .ref k_h, .ref f_h, .ref w_h, .ref n_h, .ref s_h, .ref t_h])), (c_h, .inr (0, [.ref c_0, .ref c_1, .ref c_2, .ref c_3, .int (oc 4 0), .int (oc 5 0), .int (oc 6 0)])), (c_0, .inl (cZ, 8, .inl (oc 0))), (c_1, .inl (cI, 8, .inl (oc 1))), (c_2, .inl (cI, 8, .inl (oc 2))), (c_3, .inl (cI, 8, .inl (oc 3))), (w_h, .inr (4, [.int (ow 0 0), .int (ow 1 0), .int (ow 2 0), .int (ow 3 0), .int (ow 4 0), .int (ow 5 0), .int (ow 6 0), .int (ow 7 0), .int (ow 8 0), .int (ow 9 0), .int (ow 10 0), .int (ow 11 0), .int (ow 12 0), .int (ow 13 0), .int (ow 14 0), .int (ow 15 0)]))]
def L_X5_practice_95 : Nat → Int32 → Int32 → Int32 → Int32 → Int32 → Ob → Int32 → Int32 → Int32 → Ob → (Int32 → Int32 → Ob → Option (Int32 × Ob)) → Option (Int32 × Ob)
  | 0, _, _, _, _, _, _, _, _, _, _, _ => none
  | n34 + 1, p0, p1, p2, v9, v18, oc, v29, v30, v31, ow32, K24 =>
    (if 4 < v31 then K24 v29 v30 ow32 else dd (v18 + v31) (fun (v36 : Int32) => dd (v36 - v9) (fun (v37 : Int32) => jn ((F_X5_standsWith oc ow32 p0 p1 v18 v31 p2).bind (fun q39 => (if q39.1 = 0 then dd (v31 + 1) (fun (v41 : Int32) => L_X5_practice_95 n34 p0 p1 p2 v9 v18 oc v29 v30 v41 q39.2 K24) else dd (10 * v18) (fun (v42 : Int32) => dd (v42 + v31) (fun (v43 : Int32) => dd (v31 + 1) (fun (v44 : Int32) => L_X5_practice_95 n34 p0 p1 p2 v9 v18 oc v37 v43 v44 q39.2 K24)))))) (fun (K38 : Option (Int32 × Ob)) => (if v29 = (-6) then K38 else (if v29 ≤ v37 then dd (v31 + 1) (fun (v47 : Int32) => L_X5_practice_95 n34 p0 p1 p2 v9 v18 oc v29 v30 v47 ow32 K24) else K38))))))
def L_X5_practice_78 : Nat → Int32 → Int32 → Int32 → Int32 → Ob → Int32 → Int32 → Int32 → Ob → (Int32 → Int32 → Ob → Option (Int32 × Ob)) → Option (Int32 × Ob)
  | 0, _, _, _, _, _, _, _, _, _, _ => none
  | n21 + 1, v9, p0, p1, p2, oc, v16, v17, v18, ow19, K11 =>
    (if 4 < v18 then K11 v16 v17 ow19 else ck p1 8 (jn (fun (v25 : Int32) (v26 : Int32) (ow27 : Ob) => dd (v18 + 1) (fun (v28 : Int32) => L_X5_practice_78 n21 v9 p0 p1 p2 oc v25 v26 v28 ow27 K11)) (fun (K24 : Int32 → Int32 → Ob → Option (Int32 × Ob)) => L_X5_practice_95 2000 p0 p1 p2 v9 v18 oc v16 v17 ((oc 3) (p1).toNatClampNeg) ow19 K24)))
def F_X5_practice (oc : Ob) (ow : Ob) (p0 : Int32) (p1 : Int32) (p2 : Int32) (p3 : Int32) : Option (Int32 × Ob) :=
  (F_X0_canTie oc p0 p1).bind (fun q1 => (if q1 = 0 then some ((-1), ow) else (F_X5_isWithin p2 0 999).bind (fun q3 => (if q3 = 0 then some ((-2), ow) else (F_X5_isWithin p3 0 1).bind (fun q5 => (if q5 = 0 then some ((-2), ow) else ck p0 8 (ck p1 8 (dd (((oc 3) (p0).toNatClampNeg) + ((oc 3) (p1).toNatClampNeg)) (fun (v9 : Int32) => ck p0 8 (jn (fun (v12 : Int32) (v13 : Int32) (ow14 : Ob) => (if p3 = 0 then some (v12, ow14) else some (v13, ow14))) (fun (K11 : Int32 → Int32 → Ob → Option (Int32 × Ob)) => L_X5_practice_78 2000 v9 p0 p1 p2 oc (-6) (-6) ((oc 3) (p0).toNatClampNeg) ow K11)))))))))))
abbrev rm_X5_practice : Room := { frames := 5, cells := 0, slots := 0, locals := 110 }
abbrev wu_X5_practice : List Cond := .code yX5_practice cX5_practice 11 (some .int) :: lwG
set_option maxHeartbeats 20000000 in
set_option maxRecDepth 100000 in
theorem c_X5_practice (l : Launch) (D : va_G) (cI cZ cO : ClassId) (x_h c_h i_h k_h f_h w_h n_h s_h t_h c_0 c_1 c_2 c_3 : Nat) (sz : Nat) (oc : Ob) (ow : Ob) (p0 : Int32) (p1 : Int32) (p2 : Int32) (p3 : Int32) (q : Int32 × Ob) (hF : F_X5_practice oc ow p0 p1 p2 p3 = some q) : CtI l yX5_practice wu_X5_practice rm_X5_practice D vwCl (tyL cI cZ cO) [.ref x_h, .int p0, .int p1, .int p2, .int p3] (wm_X5_practice cI cZ cO x_h c_h i_h k_h f_h w_h n_h s_h t_h c_0 c_1 c_2 c_3 oc ow) sz 0 0 (fun (r : Int32) (u : Ob) => r = q.1 ∧ u = q.2) (fun u => wm_X5_practice cI cZ cO x_h c_h i_h k_h f_h w_h n_h s_h t_h c_0 c_1 c_2 c_3 oc u) := by
  refine mk_i (cc := cX5_practice) (maxL := 11) (by decide) rfl (Nat.le_of_ble_eq_true rfl) ?_
  intro p e s m args below meth c A ls Q hx hb hml hown hts hin hK hP hD hS hA hl hQ
  have hl : lv_has ls 11 [(0, .ref x_h), (1, .int p0), (2, .int p1), (3, .int p2), (4, .int p3)] := hl
  unfold F_X5_practice at hF
  refine lv_aload_n hx hb dX5_practice_0 rfl (lv_at hl 0 rfl) ?_
  refine va_get (D := D) (ci := 5) (v := .ref c_h) (C := RX5) (T := TX5) (N := 8) hx hb hts in_X5 hown hK hP 0 rfl rfl 0 (by decide) (hts _ wd_211) (fun _ h9 => h9) rfl dX5_practice_1 ?_
  refine lv_iload_n hx hb dX5_practice_4 rfl (lv_at hl 1 rfl) ?_
  refine lv_iload_n hx hb dX5_practice_5 rfl (lv_at hl 2 rfl) ?_
  obtain ⟨q1, hGq1, hF⟩ := of_bind hF
  refine callVi (As := [.int p0, .int p1]) (rest := []) (wr := [(x_h, .inr (5, [.ref c_h, .ref i_h, .ref k_h, .ref f_h, .ref w_h, .ref n_h, .ref s_h, .ref t_h])), (w_h, .inr (4, [.int (ow 0 0), .int (ow 1 0), .int (ow 2 0), .int (ow 3 0), .int (ow 4 0), .int (ow 5 0), .int (ow 6 0), .int (ow 7 0), .int (ow 8 0), .int (ow 9 0), .int (ow 10 0), .int (ow 11 0), .int (ow 12 0), .int (ow 13 0), .int (ow 14 0), .int (ow 15 0)]))]) (WN := wm_X5_practice cI cZ cO x_h c_h i_h k_h f_h w_h n_h s_h t_h c_0 c_1 c_2 c_3 oc ow) ⟨hx, hb, hml, hown, hts⟩ hK hP hD hS hA [1, 2, 3, 4, 5] [0, 6] [0, 2, 3, 4, 5, 6, 1] (c_X0_canTie l D cI cZ cO c_h c_0 c_1 c_2 c_3 _ oc p0 p1 q1 hGq1) (cwV 2 hts (gV wd_294 wd_295 wd_296 wd_34 wd_297) rfl rfl rfl (by decide +kernel) ⟨Nat.le_of_ble_eq_true rfl, Nat.le_of_ble_eq_true rfl⟩) 0 0 rfl rfl rfl rfl rfl rfl rfl (by decide) rfl rfl rfl hl.1 rfl (Nat.le_of_ble_eq_true rfl) dX5_practice_6 ⟨Nat.zero_le _, Nat.zero_le _⟩ (fun H locs hP hD hS => ?_)
  refine lv_if_ne (tgt := 14) hx hb dX5_practice_9 (by decide) (fun h2 => ?_) (fun h2 => ?_)
  · replace hF := of_f h2 hF
    refine lv_iload_n hx hb dX5_practice_14 rfl (lv_at hl 3 rfl) ?_
    refine lv_iconst (v := 0) hx hb dX5_practice_15 (by decide) ?_
    refine lv_sipush (v := 999) hx hb dX5_practice_16 (by decide) ?_
    obtain ⟨q3, hGq3, hF⟩ := of_bind hF
    refine callSi (As := [.int p2, .int 0, .int 999]) (rest := []) ⟨hx, hb, hml, hown, hts⟩ hK hP hD hS hA (c_X5_isWithin l D cI cZ cO  _ p2 0 999 q3 hGq3) (va_cwS 3 hts (gS wd_240 wd_241 wd_33 wd_242) rfl rfl rfl (by decide +kernel) ⟨Nat.le_of_ble_eq_true rfl, Nat.le_of_ble_eq_true rfl⟩) rfl hl.1 rfl (Nat.le_of_ble_eq_true rfl) dX5_practice_19 ⟨Nat.zero_le _, Nat.zero_le _⟩ (fun H locs hP hS => ?_)
    refine lv_if_eq (tgt := 35) hx hb dX5_practice_22 (by decide) (fun h4 => ?_) (fun h4 => ?_)
    · replace hF := of_t h4 hF
      refine lv_bipush (v := (-2)) hx hb dX5_practice_35 (by decide) ?_
      exact hQ _ _ _ _ _ ow ⟨inj_fst hF, inj_snd hF⟩ hP hD hS dX5_practice_37
    · replace hF := of_f h4 hF
      refine lv_iload hx hb dX5_practice_25 (lv_at hl 4 rfl) ?_
      refine lv_iconst (v := 0) hx hb dX5_practice_27 (by decide) ?_
      refine lv_iconst (v := 1) hx hb dX5_practice_28 (by decide) ?_
      obtain ⟨q5, hGq5, hF⟩ := of_bind hF
      refine callSi (As := [.int p3, .int 0, .int 1]) (rest := []) ⟨hx, hb, hml, hown, hts⟩ hK hP hD hS hA (c_X5_isWithin l D cI cZ cO  _ p3 0 1 q5 hGq5) (va_cwS 3 hts (gS wd_240 wd_241 wd_33 wd_242) rfl rfl rfl (by decide +kernel) ⟨Nat.le_of_ble_eq_true rfl, Nat.le_of_ble_eq_true rfl⟩) rfl hl.1 rfl (Nat.le_of_ble_eq_true rfl) dX5_practice_29 ⟨Nat.zero_le _, Nat.zero_le _⟩ (fun H locs hP hS => ?_)
      refine lv_if_ne (tgt := 38) hx hb dX5_practice_32 (by decide) (fun h6 => ?_) (fun h6 => ?_)
      · replace hF := of_f h6 hF
        refine lv_aload_n hx hb dX5_practice_38 rfl (lv_at hl 0 rfl) ?_
        refine va_get (D := D) (ci := 5) (v := .ref c_h) (C := RX5) (T := TX5) (N := 8) hx hb hts in_X5 hown hK hP 0 rfl rfl 0 (by decide) (hts _ wd_211) (fun _ h9 => h9) rfl dX5_practice_39 ?_
        refine va_get (D := D) (ci := 0) (v := .ref c_3) (C := RX0) (T := TX0) (N := 7) hx hb hts in_X0 hown hK hP 1 rfl rfl 3 (by decide) (hts _ wd_66) (fun _ h9 => h9) rfl dX5_practice_42 ?_
        refine lv_iload_n hx hb dX5_practice_45 rfl (lv_at hl 1 rfl) ?_
        obtain ⟨h7, hF⟩ := of_ck hF
        refine va_iald (D := D) hx hb hK hP 5 0 rfl rfl h7 dX5_practice_46 ?_
        refine lv_aload_n hx hb dX5_practice_47 rfl (lv_at hl 0 rfl) ?_
        refine va_get (D := D) (ci := 5) (v := .ref c_h) (C := RX5) (T := TX5) (N := 8) hx hb hts in_X5 hown hK hP 0 rfl rfl 0 (by decide) (hts _ wd_211) (fun _ h9 => h9) rfl dX5_practice_48 ?_
        refine va_get (D := D) (ci := 0) (v := .ref c_3) (C := RX0) (T := TX0) (N := 7) hx hb hts in_X0 hown hK hP 1 rfl rfl 3 (by decide) (hts _ wd_66) (fun _ h9 => h9) rfl dX5_practice_51 ?_
        refine lv_iload_n hx hb dX5_practice_54 rfl (lv_at hl 2 rfl) ?_
        obtain ⟨h8, hF⟩ := of_ck hF
        refine va_iald (D := D) hx hb hK hP 5 0 rfl rfl h8 dX5_practice_55 ?_
        refine lv_iadd hx hb dX5_practice_56 ?_
        refine lv_topi (fun v9 ev9 => ?_)
        replace hF := of_dd hF v9 ev9
        refine lv_istore (lv' := [(5, .int v9), (0, .ref x_h), (1, .int p0), (2, .int p1), (3, .int p2), (4, .int p3)]) hx hb dX5_practice_57 hl (by decide) rfl (fun ls hl => ?_)
        refine lv_bipush (v := (-6)) hx hb dX5_practice_59 (by decide) ?_
        refine lv_istore (lv' := [(6, .int (-6)), (5, .int v9), (0, .ref x_h), (1, .int p0), (2, .int p1), (3, .int p2), (4, .int p3)]) hx hb dX5_practice_61 hl (by decide) rfl (fun ls hl => ?_)
        refine lv_bipush (v := (-6)) hx hb dX5_practice_63 (by decide) ?_
        refine lv_istore (lv' := [(7, .int (-6)), (6, .int (-6)), (5, .int v9), (0, .ref x_h), (1, .int p0), (2, .int p1), (3, .int p2), (4, .int p3)]) hx hb dX5_practice_65 hl (by decide) rfl (fun ls hl => ?_)
        refine lv_aload_n hx hb dX5_practice_67 rfl (lv_at hl 3 rfl) ?_
        refine va_get (D := D) (ci := 5) (v := .ref c_h) (C := RX5) (T := TX5) (N := 8) hx hb hts in_X5 hown hK hP 0 rfl rfl 0 (by decide) (hts _ wd_211) (fun _ h9 => h9) rfl dX5_practice_68 ?_
        refine va_get (D := D) (ci := 0) (v := .ref c_3) (C := RX0) (T := TX0) (N := 7) hx hb hts in_X0 hown hK hP 1 rfl rfl 3 (by decide) (hts _ wd_66) (fun _ h9 => h9) rfl dX5_practice_71 ?_
        refine lv_iload_n hx hb dX5_practice_74 rfl (lv_at hl 4 rfl) ?_
        obtain ⟨h10, hF⟩ := of_ck hF
        refine va_iald (D := D) hx hb hK hP 5 0 rfl rfl h10 dX5_practice_75 ?_
        refine lv_istore (lv' := [(8, .int ((oc 3) (p0).toNatClampNeg)), (7, .int (-6)), (6, .int (-6)), (5, .int v9), (0, .ref x_h), (1, .int p0), (2, .int p1), (3, .int p2), (4, .int p3)]) hx hb dX5_practice_76 hl (by decide) rfl (fun ls hl => ?_)
        obtain ⟨K11, eK11, hF⟩ := of_jn hF
        have hK11 : ∀ (v12 : Int32) (v13 : Int32) (ow14 : Ob) (ls : Array Slot) (H : Heap) (locs : List Loc), lv_has ls 11 [(4, .int p3), (6, .int v12), (7, .int v13)] → va_P D vwCl (wm_X5_practice cI cZ cO x_h c_h i_h k_h f_h w_h n_h s_h t_h c_0 c_1 c_2 c_3 oc ow14) H → va_D A (wm_X5_practice cI cZ cO x_h c_h i_h k_h f_h w_h n_h s_h t_h c_0 c_1 c_2 c_3 oc ow14) → va_S A s.heap H locs → K11 v12 v13 ow14 = some q → W p l e rm_X5_practice s m args below meth c H locs 0 0 Q (F0 m 165 ls []) := by
          intro v12 v13 ow14 ls H locs hl hP hD hS hF
          subst eK11
          refine lv_iload hx hb dX5_practice_165 (lv_at hl 0 rfl) ?_
          refine lv_if_ne (tgt := 175) hx hb dX5_practice_167 (by decide) (fun h15 => ?_) (fun h15 => ?_)
          · replace hF := of_f h15 hF
            refine lv_iload hx hb dX5_practice_175 (lv_at hl 2 rfl) ?_
            exact hQ _ _ _ _ _ ow14 ⟨inj_fst hF, inj_snd hF⟩ hP hD hS dX5_practice_177
          · replace hF := of_t h15 hF
            refine lv_iload hx hb dX5_practice_170 (lv_at hl 1 rfl) ?_
            refine lv_goto (tgt := 177) hx hb dX5_practice_172 (by decide) ?_
            exact hQ _ _ _ _ _ ow14 ⟨inj_fst hF, inj_snd hF⟩ hP hD hS dX5_practice_177
        have hloop49 : ∀ (n21 : Nat) (v16 : Int32) (v17 : Int32) (v18 : Int32) (ow19 : Ob) (ls : Array Slot) (H : Heap) (locs : List Loc), lv_has ls 11 [(0, .ref x_h), (1, .int p0), (2, .int p1), (3, .int p2), (4, .int p3), (5, .int v9), (6, .int v16), (7, .int v17), (8, .int v18)] → va_P D vwCl (wm_X5_practice cI cZ cO x_h c_h i_h k_h f_h w_h n_h s_h t_h c_0 c_1 c_2 c_3 oc ow19) H → va_D A (wm_X5_practice cI cZ cO x_h c_h i_h k_h f_h w_h n_h s_h t_h c_0 c_1 c_2 c_3 oc ow19) → va_S A s.heap H locs → L_X5_practice_78 n21 v9 p0 p1 p2 oc v16 v17 v18 ow19 K11 = some q → W p l e rm_X5_practice s m args below meth c H locs 0 0 Q (F0 m 78 ls []) := by
          intro n21
          induction n21 with
          | zero =>
            intro v16 v17 v18 ow19 ls H locs hl hP hD hS hF
            exact of_none hF
          | succ n21 ih20 =>
            intro v16 v17 v18 ow19 ls H locs hl hP hD hS hF
            rw [L_X5_practice_78.eq_2] at hF
            refine lv_iload hx hb dX5_practice_78 (lv_at hl 8 rfl) ?_
            refine lv_iconst (v := 4) hx hb dX5_practice_80 (by decide) ?_
            refine lv_icmp_gt (tgt := 165) hx hb dX5_practice_81 (by decide) (fun h22 => ?_) (fun h22 => ?_)
            · replace hF := of_t h22 hF
              exact hK11 v16 v17 ow19 ls _ _ (lv_sub hl [4, 6, 7] rfl) hP hD hS hF
            · replace hF := of_f h22 hF
              refine lv_aload_n hx hb dX5_practice_84 rfl (lv_at hl 0 rfl) ?_
              refine va_get (D := D) (ci := 5) (v := .ref c_h) (C := RX5) (T := TX5) (N := 8) hx hb hts in_X5 hown hK hP 0 rfl rfl 0 (by decide) (hts _ wd_211) (fun _ h9 => h9) rfl dX5_practice_85 ?_
              refine va_get (D := D) (ci := 0) (v := .ref c_3) (C := RX0) (T := TX0) (N := 7) hx hb hts in_X0 hown hK hP 1 rfl rfl 3 (by decide) (hts _ wd_66) (fun _ h9 => h9) rfl dX5_practice_88 ?_
              refine lv_iload_n hx hb dX5_practice_91 rfl (lv_at hl 2 rfl) ?_
              obtain ⟨h23, hF⟩ := of_ck hF
              refine va_iald (D := D) hx hb hK hP 5 0 rfl rfl h23 dX5_practice_92 ?_
              refine lv_istore (lv' := [(9, .int ((oc 3) (p1).toNatClampNeg)), (0, .ref x_h), (1, .int p0), (2, .int p1), (3, .int p2), (4, .int p3), (5, .int v9), (6, .int v16), (7, .int v17), (8, .int v18)]) hx hb dX5_practice_93 hl (by decide) rfl (fun ls hl => ?_)
              obtain ⟨K24, eK24, hF⟩ := of_jn hF
              have hK24 : ∀ (v25 : Int32) (v26 : Int32) (ow27 : Ob) (ls : Array Slot) (H : Heap) (locs : List Loc), lv_has ls 11 [(0, .ref x_h), (1, .int p0), (2, .int p1), (3, .int p2), (4, .int p3), (5, .int v9), (6, .int v25), (7, .int v26), (8, .int v18)] → va_P D vwCl (wm_X5_practice cI cZ cO x_h c_h i_h k_h f_h w_h n_h s_h t_h c_0 c_1 c_2 c_3 oc ow27) H → va_D A (wm_X5_practice cI cZ cO x_h c_h i_h k_h f_h w_h n_h s_h t_h c_0 c_1 c_2 c_3 oc ow27) → va_S A s.heap H locs → K24 v25 v26 ow27 = some q → W p l e rm_X5_practice s m args below meth c H locs 0 0 Q (F0 m 159 ls []) := by
                intro v25 v26 ow27 ls H locs hl hP hD hS hF
                subst eK24
                obtain ⟨v28, ev28⟩ : ∃ y : Int32, y = v18 + 1 := ⟨_, rfl⟩
                replace hF := of_dd hF v28 ev28
                refine lv_iinc (v := v28) (lv' := [(8, .int v28), (0, .ref x_h), (1, .int p0), (2, .int p1), (3, .int p2), (4, .int p3), (5, .int v9), (6, .int v25), (7, .int v26)]) hx hb dX5_practice_159 hl (k := 8) rfl (by rw [ev28]; rfl) (by decide) rfl (fun ls hl => ?_)
                refine lv_goto (tgt := 78) hx hb dX5_practice_162 (by decide) ?_
                exact ih20 v25 v26 v28 ow27 ls _ _ (lv_sub hl [1, 2, 3, 4, 5, 6, 7, 8, 0] rfl) hP hD hS hF
              have hloop48 : ∀ (n34 : Nat) (v29 : Int32) (v30 : Int32) (v31 : Int32) (ow32 : Ob) (ls : Array Slot) (H : Heap) (locs : List Loc), lv_has ls 11 [(0, .ref x_h), (1, .int p0), (2, .int p1), (3, .int p2), (4, .int p3), (5, .int v9), (6, .int v29), (7, .int v30), (8, .int v18), (9, .int v31)] → va_P D vwCl (wm_X5_practice cI cZ cO x_h c_h i_h k_h f_h w_h n_h s_h t_h c_0 c_1 c_2 c_3 oc ow32) H → va_D A (wm_X5_practice cI cZ cO x_h c_h i_h k_h f_h w_h n_h s_h t_h c_0 c_1 c_2 c_3 oc ow32) → va_S A s.heap H locs → L_X5_practice_95 n34 p0 p1 p2 v9 v18 oc v29 v30 v31 ow32 K24 = some q → W p l e rm_X5_practice s m args below meth c H locs 0 0 Q (F0 m 95 ls []) := by
                intro n34
                induction n34 with
                | zero =>
                  intro v29 v30 v31 ow32 ls H locs hl hP hD hS hF
                  exact of_none hF
                | succ n34 ih33 =>
                  intro v29 v30 v31 ow32 ls H locs hl hP hD hS hF
                  rw [L_X5_practice_95.eq_2] at hF
                  refine lv_iload hx hb dX5_practice_95 (lv_at hl 9 rfl) ?_
                  refine lv_iconst (v := 4) hx hb dX5_practice_97 (by decide) ?_
                  refine lv_icmp_gt (tgt := 159) hx hb dX5_practice_98 (by decide) (fun h35 => ?_) (fun h35 => ?_)
                  · replace hF := of_t h35 hF
                    exact hK24 v29 v30 ow32 ls _ _ (lv_sub hl [0, 1, 2, 3, 4, 5, 6, 7, 8] rfl) hP hD hS hF
                  · replace hF := of_f h35 hF
                    refine lv_iload hx hb dX5_practice_101 (lv_at hl 8 rfl) ?_
                    refine lv_iload hx hb dX5_practice_103 (lv_at hl 9 rfl) ?_
                    refine lv_iadd hx hb dX5_practice_105 ?_
                    refine lv_topi (fun v36 ev36 => ?_)
                    replace hF := of_dd hF v36 ev36
                    refine lv_iload hx hb dX5_practice_106 (lv_at hl 5 rfl) ?_
                    refine lv_isub hx hb dX5_practice_108 ?_
                    refine lv_topi (fun v37 ev37 => ?_)
                    replace hF := of_dd hF v37 ev37
                    refine lv_istore (lv' := [(10, .int v37), (0, .ref x_h), (1, .int p0), (2, .int p1), (3, .int p2), (4, .int p3), (5, .int v9), (6, .int v29), (7, .int v30), (8, .int v18), (9, .int v31)]) hx hb dX5_practice_109 hl (by decide) rfl (fun ls hl => ?_)
                    refine lv_iload hx hb dX5_practice_111 (lv_at hl 7 rfl) ?_
                    refine lv_bipush (v := (-6)) hx hb dX5_practice_113 (by decide) ?_
                    obtain ⟨K38, eK38, hF⟩ := of_jn hF
                    have hK38 : ∀  (ls : Array Slot) (H : Heap) (locs : List Loc), lv_has ls 11 [(0, .ref x_h), (1, .int p0), (2, .int p1), (3, .int p2), (4, .int p3), (5, .int v9), (6, .int v29), (7, .int v30), (8, .int v18), (9, .int v31), (10, .int v37)] → va_P D vwCl (wm_X5_practice cI cZ cO x_h c_h i_h k_h f_h w_h n_h s_h t_h c_0 c_1 c_2 c_3 oc ow32) H → va_D A (wm_X5_practice cI cZ cO x_h c_h i_h k_h f_h w_h n_h s_h t_h c_0 c_1 c_2 c_3 oc ow32) → va_S A s.heap H locs → K38 = some q → W p l e rm_X5_practice s m args below meth c H locs 0 0 Q (F0 m 125 ls []) := by
                      intro  ls H locs hl hP hD hS hF
                      subst eK38
                      refine lv_aload_n hx hb dX5_practice_125 rfl (lv_at hl 0 rfl) ?_
                      refine lv_iload_n hx hb dX5_practice_126 rfl (lv_at hl 1 rfl) ?_
                      refine lv_iload_n hx hb dX5_practice_127 rfl (lv_at hl 2 rfl) ?_
                      refine lv_iload hx hb dX5_practice_128 (lv_at hl 8 rfl) ?_
                      refine lv_iload hx hb dX5_practice_130 (lv_at hl 9 rfl) ?_
                      refine lv_iload_n hx hb dX5_practice_132 rfl (lv_at hl 3 rfl) ?_
                      obtain ⟨q39, hGq39, hF⟩ := of_bind hF
                      refine callVi (As := [.int p0, .int p1, .int v18, .int v31, .int p2]) (rest := []) (wr := []) (WN := wm_X5_practice cI cZ cO x_h c_h i_h k_h f_h w_h n_h s_h t_h c_0 c_1 c_2 c_3 oc q39.2) ⟨hx, hb, hml, hown, hts⟩ hK hP hD hS hA [0, 1, 2, 3, 4, 5, 6] [] [0, 1, 2, 3, 4, 5, 6] (c_X5_standsWith l D cI cZ cO x_h c_h i_h k_h f_h w_h n_h s_h t_h c_0 c_1 c_2 c_3 _ oc ow32 p0 p1 v18 v31 p2 q39 hGq39) (cwV 5 hts (gV wd_434 wd_436 wd_11 wd_33 wd_437) rfl rfl rfl (by decide +kernel) ⟨Nat.le_of_ble_eq_true rfl, Nat.le_of_ble_eq_true rfl⟩) 0 5 rfl rfl rfl rfl rfl rfl rfl (by decide) rfl rfl rfl hl.1 rfl (Nat.le_of_ble_eq_true rfl) dX5_practice_133 ⟨Nat.zero_le _, Nat.zero_le _⟩ (fun H locs hP hD hS => ?_)
                      refine lv_if_eq (tgt := 153) hx hb dX5_practice_136 (by decide) (fun h40 => ?_) (fun h40 => ?_)
                      · replace hF := of_t h40 hF
                        obtain ⟨v41, ev41⟩ : ∃ y : Int32, y = v31 + 1 := ⟨_, rfl⟩
                        replace hF := of_dd hF v41 ev41
                        refine lv_iinc (v := v41) (lv' := [(9, .int v41), (0, .ref x_h), (1, .int p0), (2, .int p1), (3, .int p2), (4, .int p3), (5, .int v9), (6, .int v29), (7, .int v30), (8, .int v18), (10, .int v37)]) hx hb dX5_practice_153 hl (k := 9) rfl (by rw [ev41]; rfl) (by decide) rfl (fun ls hl => ?_)
                        refine lv_goto (tgt := 95) hx hb dX5_practice_156 (by decide) ?_
                        exact ih33 v29 v30 v41 q39.2 ls _ _ (lv_sub hl [1, 2, 3, 4, 5, 6, 7, 8, 9, 0] rfl) hP hD hS hF
                      · replace hF := of_f h40 hF
                        refine lv_iload hx hb dX5_practice_139 (lv_at hl 10 rfl) ?_
                        refine lv_istore (lv' := [(6, .int v37), (0, .ref x_h), (1, .int p0), (2, .int p1), (3, .int p2), (4, .int p3), (5, .int v9), (7, .int v30), (8, .int v18), (9, .int v31), (10, .int v37)]) hx hb dX5_practice_141 hl (by decide) rfl (fun ls hl => ?_)
                        refine lv_bipush (v := 10) hx hb dX5_practice_143 (by decide) ?_
                        refine lv_iload hx hb dX5_practice_145 (lv_at hl 8 rfl) ?_
                        refine lv_imul hx hb dX5_practice_147 ?_
                        refine lv_topi (fun v42 ev42 => ?_)
                        replace hF := of_dd hF v42 ev42
                        refine lv_iload hx hb dX5_practice_148 (lv_at hl 9 rfl) ?_
                        refine lv_iadd hx hb dX5_practice_150 ?_
                        refine lv_topi (fun v43 ev43 => ?_)
                        replace hF := of_dd hF v43 ev43
                        refine lv_istore (lv' := [(7, .int v43), (6, .int v37), (0, .ref x_h), (1, .int p0), (2, .int p1), (3, .int p2), (4, .int p3), (5, .int v9), (8, .int v18), (9, .int v31), (10, .int v37)]) hx hb dX5_practice_151 hl (by decide) rfl (fun ls hl => ?_)
                        obtain ⟨v44, ev44⟩ : ∃ y : Int32, y = v31 + 1 := ⟨_, rfl⟩
                        replace hF := of_dd hF v44 ev44
                        refine lv_iinc (v := v44) (lv' := [(9, .int v44), (7, .int v43), (6, .int v37), (0, .ref x_h), (1, .int p0), (2, .int p1), (3, .int p2), (4, .int p3), (5, .int v9), (8, .int v18), (10, .int v37)]) hx hb dX5_practice_153 hl (k := 9) rfl (by rw [ev44]; rfl) (by decide) rfl (fun ls hl => ?_)
                        refine lv_goto (tgt := 95) hx hb dX5_practice_156 (by decide) ?_
                        exact ih33 v37 v43 v44 q39.2 ls _ _ (lv_sub hl [3, 4, 5, 6, 7, 8, 2, 1, 9, 0] rfl) hP hD hS hF
                    refine lv_icmp_eq (tgt := 125) hx hb dX5_practice_115 (by decide) (fun h45 => ?_) (fun h45 => ?_)
                    · replace hF := of_t h45 hF
                      exact hK38  ls _ _ (lv_sub hl [1, 2, 3, 4, 5, 6, 7, 8, 9, 10, 0] rfl) hP hD hS hF
                    · replace hF := of_f h45 hF
                      refine lv_iload hx hb dX5_practice_118 (lv_at hl 0 rfl) ?_
                      refine lv_iload hx hb dX5_practice_120 (lv_at hl 7 rfl) ?_
                      refine lv_icmp_ge (tgt := 153) hx hb dX5_practice_122 (by decide) (fun h46 => ?_) (fun h46 => ?_)
                      · replace hF := of_t h46 hF
                        obtain ⟨v47, ev47⟩ : ∃ y : Int32, y = v31 + 1 := ⟨_, rfl⟩
                        replace hF := of_dd hF v47 ev47
                        refine lv_iinc (v := v47) (lv' := [(9, .int v47), (10, .int v37), (0, .ref x_h), (1, .int p0), (2, .int p1), (3, .int p2), (4, .int p3), (5, .int v9), (6, .int v29), (7, .int v30), (8, .int v18)]) hx hb dX5_practice_153 hl (k := 10) rfl (by rw [ev47]; rfl) (by decide) rfl (fun ls hl => ?_)
                        refine lv_goto (tgt := 95) hx hb dX5_practice_156 (by decide) ?_
                        exact ih33 v29 v30 v47 ow32 ls _ _ (lv_sub hl [2, 3, 4, 5, 6, 7, 8, 9, 10, 0] rfl) hP hD hS hF
                      · replace hF := of_f h46 hF
                        exact hK38  ls _ _ (lv_sub hl [1, 2, 3, 4, 5, 6, 7, 8, 9, 10, 0] rfl) hP hD hS hF
              exact hloop48 2000 v16 v17 ((oc 3) (p1).toNatClampNeg) ow19 ls _ _ (lv_sub hl [1, 2, 3, 4, 5, 6, 7, 8, 9, 0] rfl) hP hD hS hF
        exact hloop49 2000 (-6) (-6) ((oc 3) (p0).toNatClampNeg) ow ls _ _ (lv_sub hl [4, 5, 6, 7, 8, 3, 2, 1, 0] rfl) hP hD hS hF
      · replace hF := of_t h6 hF
        refine lv_bipush (v := (-2)) hx hb dX5_practice_35 (by decide) ?_
        exact hQ _ _ _ _ _ ow ⟨inj_fst hF, inj_snd hF⟩ hP hD hS dX5_practice_37
  · replace hF := of_t h2 hF
    refine lv_iconst (v := (-1)) hx hb dX5_practice_12 (by decide) ?_
    exact hQ _ _ _ _ _ ow ⟨inj_fst hF, inj_snd hF⟩ hP hD hS dX5_practice_13

/-! ### ThreeLegs.scarf(IIII)I -/
abbrev wm_X5_scarf (cI cZ cO : ClassId) (x_h c_h i_h k_h f_h w_h n_h s_h t_h c_0 c_1 c_2 c_3 : Nat) (oc : Ob) (ow : Ob) : va_W := [(x_h, .inr (5, [.ref c_h, .ref i_h, .ref k_h, .ref f_h, .ref w_h, .ref n_h, .ref s_h, .ref t_h])), (c_h, .inr (0, [.ref c_0, .ref c_1, .ref c_2, .ref c_3, .int (oc 4 0), .int (oc 5 0), .int (oc 6 0)])), (c_0, .inl (cZ, 8, .inl (oc 0))), (c_1, .inl (cI, 8, .inl (oc 1))), (c_2, .inl (cI, 8, .inl (oc 2))), (c_3, .inl (cI, 8, .inl (oc 3))), (w_h, .inr (4, [.int (ow 0 0), .int (ow 1 0), .int (ow 2 0), .int (ow 3 0), .int (ow 4 0), .int (ow 5 0), .int (ow 6 0), .int (ow 7 0), .int (ow 8 0), .int (ow 9 0), .int (ow 10 0), .int (ow 11 0), .int (ow 12 0), .int (ow 13 0), .int (ow 14 0), .int (ow 15 0)]))]
def L_X5_scarf_39 : Nat → Int32 → Int32 → Int32 → Int32 → Ob → Int32 → Ob → (Ob → Option (Int32 × Ob)) → Option (Int32 × Ob)
  | 0, _, _, _, _, _, _, _, _ => none
  | n12 + 1, p0, p1, p2, p3, oc, v9, ow10, K7 =>
    (if (oc 5 0) < v9 then K7 ow10 else (F_X4_tie ow10 oc p0 p1).bind (fun q14 => dd (sO q14 5 (cst v9)) (fun (ow15 : Ob) => (F_X4_timeTo ow15 p2 (-1)).bind (fun q16 => (if q16.1 = (-6) then dd (v9 + 1) (fun (v18 : Int32) => L_X5_scarf_39 n12 p0 p1 p2 p3 oc v18 q16.2 K7) else (if p3 < q16.1 then dd (v9 + 1) (fun (v20 : Int32) => L_X5_scarf_39 n12 p0 p1 p2 p3 oc v20 q16.2 K7) else some (v9, q16.2)))))))
def F_X5_scarf (oc : Ob) (ow : Ob) (p0 : Int32) (p1 : Int32) (p2 : Int32) (p3 : Int32) : Option (Int32 × Ob) :=
  (F_X0_canTie oc p0 p1).bind (fun q1 => (if q1 = 0 then some ((-1), ow) else (F_X5_isFeet p2).bind (fun q3 => (if q3 = 0 then some ((-2), ow) else (F_X5_isWithin p3 0 9999).bind (fun q5 => (if q5 = 0 then some ((-2), ow) else jn (fun (ow8 : Ob) => some ((-6), ow8)) (fun (K7 : Ob → Option (Int32 × Ob)) => L_X5_scarf_39 2000 p0 p1 p2 p3 oc 0 ow K7)))))))
abbrev rm_X5_scarf : Room := { frames := 4, cells := 0, slots := 0, locals := 86 }
abbrev wu_X5_scarf : List Cond := .code yX5_scarf cX5_scarf 7 (some .int) :: lwG
set_option maxHeartbeats 20000000 in
set_option maxRecDepth 100000 in
theorem c_X5_scarf (l : Launch) (D : va_G) (cI cZ cO : ClassId) (x_h c_h i_h k_h f_h w_h n_h s_h t_h c_0 c_1 c_2 c_3 : Nat) (sz : Nat) (oc : Ob) (ow : Ob) (p0 : Int32) (p1 : Int32) (p2 : Int32) (p3 : Int32) (q : Int32 × Ob) (hF : F_X5_scarf oc ow p0 p1 p2 p3 = some q) : CtI l yX5_scarf wu_X5_scarf rm_X5_scarf D vwCl (tyL cI cZ cO) [.ref x_h, .int p0, .int p1, .int p2, .int p3] (wm_X5_scarf cI cZ cO x_h c_h i_h k_h f_h w_h n_h s_h t_h c_0 c_1 c_2 c_3 oc ow) sz 0 0 (fun (r : Int32) (u : Ob) => r = q.1 ∧ u = q.2) (fun u => wm_X5_scarf cI cZ cO x_h c_h i_h k_h f_h w_h n_h s_h t_h c_0 c_1 c_2 c_3 oc u) := by
  refine mk_i (cc := cX5_scarf) (maxL := 7) (by decide) rfl (Nat.le_of_ble_eq_true rfl) ?_
  intro p e s m args below meth c A ls Q hx hb hml hown hts hin hK hP hD hS hA hl hQ
  have hl : lv_has ls 7 [(0, .ref x_h), (1, .int p0), (2, .int p1), (3, .int p2), (4, .int p3)] := hl
  unfold F_X5_scarf at hF
  refine lv_aload_n hx hb dX5_scarf_0 rfl (lv_at hl 0 rfl) ?_
  refine va_get (D := D) (ci := 5) (v := .ref c_h) (C := RX5) (T := TX5) (N := 8) hx hb hts in_X5 hown hK hP 0 rfl rfl 0 (by decide) (hts _ wd_211) (fun _ h9 => h9) rfl dX5_scarf_1 ?_
  refine lv_iload_n hx hb dX5_scarf_4 rfl (lv_at hl 1 rfl) ?_
  refine lv_iload_n hx hb dX5_scarf_5 rfl (lv_at hl 2 rfl) ?_
  obtain ⟨q1, hGq1, hF⟩ := of_bind hF
  refine callVi (As := [.int p0, .int p1]) (rest := []) (wr := [(x_h, .inr (5, [.ref c_h, .ref i_h, .ref k_h, .ref f_h, .ref w_h, .ref n_h, .ref s_h, .ref t_h])), (w_h, .inr (4, [.int (ow 0 0), .int (ow 1 0), .int (ow 2 0), .int (ow 3 0), .int (ow 4 0), .int (ow 5 0), .int (ow 6 0), .int (ow 7 0), .int (ow 8 0), .int (ow 9 0), .int (ow 10 0), .int (ow 11 0), .int (ow 12 0), .int (ow 13 0), .int (ow 14 0), .int (ow 15 0)]))]) (WN := wm_X5_scarf cI cZ cO x_h c_h i_h k_h f_h w_h n_h s_h t_h c_0 c_1 c_2 c_3 oc ow) ⟨hx, hb, hml, hown, hts⟩ hK hP hD hS hA [1, 2, 3, 4, 5] [0, 6] [0, 2, 3, 4, 5, 6, 1] (c_X0_canTie l D cI cZ cO c_h c_0 c_1 c_2 c_3 _ oc p0 p1 q1 hGq1) (cwV 2 hts (gV wd_294 wd_295 wd_296 wd_34 wd_297) rfl rfl rfl (by decide +kernel) ⟨Nat.le_of_ble_eq_true rfl, Nat.le_of_ble_eq_true rfl⟩) 0 0 rfl rfl rfl rfl rfl rfl rfl (by decide) rfl rfl rfl hl.1 rfl (Nat.le_of_ble_eq_true rfl) dX5_scarf_6 ⟨Nat.zero_le _, Nat.zero_le _⟩ (fun H locs hP hD hS => ?_)
  refine lv_if_ne (tgt := 14) hx hb dX5_scarf_9 (by decide) (fun h2 => ?_) (fun h2 => ?_)
  · replace hF := of_f h2 hF
    refine lv_iload_n hx hb dX5_scarf_14 rfl (lv_at hl 3 rfl) ?_
    obtain ⟨q3, hGq3, hF⟩ := of_bind hF
    refine callSi (As := [.int p2]) (rest := []) ⟨hx, hb, hml, hown, hts⟩ hK hP hD hS hA (c_X5_isFeet l D cI cZ cO  _ p2 q3 hGq3) (va_cwS 1 hts (gS wd_333 wd_334 wd_33 wd_335) rfl rfl rfl (by decide +kernel) ⟨Nat.le_of_ble_eq_true rfl, Nat.le_of_ble_eq_true rfl⟩) rfl hl.1 rfl (Nat.le_of_ble_eq_true rfl) dX5_scarf_15 ⟨Nat.zero_le _, Nat.zero_le _⟩ (fun H locs hP hS => ?_)
    refine lv_if_eq (tgt := 33) hx hb dX5_scarf_18 (by decide) (fun h4 => ?_) (fun h4 => ?_)
    · replace hF := of_t h4 hF
      refine lv_bipush (v := (-2)) hx hb dX5_scarf_33 (by decide) ?_
      exact hQ _ _ _ _ _ ow ⟨inj_fst hF, inj_snd hF⟩ hP hD hS dX5_scarf_35
    · replace hF := of_f h4 hF
      refine lv_iload hx hb dX5_scarf_21 (lv_at hl 4 rfl) ?_
      refine lv_iconst (v := 0) hx hb dX5_scarf_23 (by decide) ?_
      refine lv_sipush (v := 9999) hx hb dX5_scarf_24 (by decide) ?_
      obtain ⟨q5, hGq5, hF⟩ := of_bind hF
      refine callSi (As := [.int p3, .int 0, .int 9999]) (rest := []) ⟨hx, hb, hml, hown, hts⟩ hK hP hD hS hA (c_X5_isWithin l D cI cZ cO  _ p3 0 9999 q5 hGq5) (va_cwS 3 hts (gS wd_240 wd_241 wd_33 wd_242) rfl rfl rfl (by decide +kernel) ⟨Nat.le_of_ble_eq_true rfl, Nat.le_of_ble_eq_true rfl⟩) rfl hl.1 rfl (Nat.le_of_ble_eq_true rfl) dX5_scarf_27 ⟨Nat.zero_le _, Nat.zero_le _⟩ (fun H locs hP hS => ?_)
      refine lv_if_ne (tgt := 36) hx hb dX5_scarf_30 (by decide) (fun h6 => ?_) (fun h6 => ?_)
      · replace hF := of_f h6 hF
        refine lv_iconst (v := 0) hx hb dX5_scarf_36 (by decide) ?_
        refine lv_istore (lv' := [(5, .int 0), (0, .ref x_h), (1, .int p0), (2, .int p1), (3, .int p2), (4, .int p3)]) hx hb dX5_scarf_37 hl (by decide) rfl (fun ls hl => ?_)
        obtain ⟨K7, eK7, hF⟩ := of_jn hF
        have hK7 : ∀ (ow8 : Ob) (ls : Array Slot) (H : Heap) (locs : List Loc), lv_has ls 7 [] → va_P D vwCl (wm_X5_scarf cI cZ cO x_h c_h i_h k_h f_h w_h n_h s_h t_h c_0 c_1 c_2 c_3 oc ow8) H → va_D A (wm_X5_scarf cI cZ cO x_h c_h i_h k_h f_h w_h n_h s_h t_h c_0 c_1 c_2 c_3 oc ow8) → va_S A s.heap H locs → K7 ow8 = some q → W p l e rm_X5_scarf s m args below meth c H locs 0 0 Q (F0 m 107 ls []) := by
          intro ow8 ls H locs hl hP hD hS hF
          subst eK7
          refine lv_bipush (v := (-6)) hx hb dX5_scarf_107 (by decide) ?_
          exact hQ _ _ _ _ _ ow8 ⟨inj_fst hF, inj_snd hF⟩ hP hD hS dX5_scarf_109
        have hloop21 : ∀ (n12 : Nat) (v9 : Int32) (ow10 : Ob) (ls : Array Slot) (H : Heap) (locs : List Loc), lv_has ls 7 [(0, .ref x_h), (1, .int p0), (2, .int p1), (3, .int p2), (4, .int p3), (5, .int v9)] → va_P D vwCl (wm_X5_scarf cI cZ cO x_h c_h i_h k_h f_h w_h n_h s_h t_h c_0 c_1 c_2 c_3 oc ow10) H → va_D A (wm_X5_scarf cI cZ cO x_h c_h i_h k_h f_h w_h n_h s_h t_h c_0 c_1 c_2 c_3 oc ow10) → va_S A s.heap H locs → L_X5_scarf_39 n12 p0 p1 p2 p3 oc v9 ow10 K7 = some q → W p l e rm_X5_scarf s m args below meth c H locs 0 0 Q (F0 m 39 ls []) := by
          intro n12
          induction n12 with
          | zero =>
            intro v9 ow10 ls H locs hl hP hD hS hF
            exact of_none hF
          | succ n12 ih11 =>
            intro v9 ow10 ls H locs hl hP hD hS hF
            rw [L_X5_scarf_39.eq_2] at hF
            refine lv_iload hx hb dX5_scarf_39 (lv_at hl 5 rfl) ?_
            refine lv_aload_n hx hb dX5_scarf_41 rfl (lv_at hl 0 rfl) ?_
            refine va_get (D := D) (ci := 5) (v := .ref c_h) (C := RX5) (T := TX5) (N := 8) hx hb hts in_X5 hown hK hP 0 rfl rfl 0 (by decide) (hts _ wd_211) (fun _ h9 => h9) rfl dX5_scarf_42 ?_
            refine va_get (D := D) (ci := 0) (v := .int (oc 5 0)) (C := RX0) (T := TX0) (N := 7) hx hb hts in_X0 hown hK hP 1 rfl rfl 5 (by decide) (hts _ wd_72) (fun _ h9 => h9) rfl dX5_scarf_45 ?_
            refine lv_icmp_gt (tgt := 107) hx hb dX5_scarf_48 (by decide) (fun h13 => ?_) (fun h13 => ?_)
            · replace hF := of_t h13 hF
              exact hK7 ow10 ls _ _ (lv_sub hl [] rfl) hP hD hS hF
            · replace hF := of_f h13 hF
              refine lv_aload_n hx hb dX5_scarf_51 rfl (lv_at hl 0 rfl) ?_
              refine va_get (D := D) (ci := 5) (v := .ref w_h) (C := RX5) (T := TX5) (N := 8) hx hb hts in_X5 hown hK hP 0 rfl rfl 4 (by decide) (hts _ wd_215) (fun _ h9 => h9) rfl dX5_scarf_52 ?_
              refine lv_aload_n hx hb dX5_scarf_55 rfl (lv_at hl 0 rfl) ?_
              refine va_get (D := D) (ci := 5) (v := .ref c_h) (C := RX5) (T := TX5) (N := 8) hx hb hts in_X5 hown hK hP 0 rfl rfl 0 (by decide) (hts _ wd_211) (fun _ h9 => h9) rfl dX5_scarf_56 ?_
              refine lv_iload_n hx hb dX5_scarf_59 rfl (lv_at hl 1 rfl) ?_
              refine lv_iload_n hx hb dX5_scarf_60 rfl (lv_at hl 2 rfl) ?_
              obtain ⟨q14, hGq14, hF⟩ := of_bind hF
              refine callVv (As := [.ref c_h, .int p0, .int p1]) (rest := []) (wr := [(x_h, .inr (5, [.ref c_h, .ref i_h, .ref k_h, .ref f_h, .ref w_h, .ref n_h, .ref s_h, .ref t_h]))]) (WN := wm_X5_scarf cI cZ cO x_h c_h i_h k_h f_h w_h n_h s_h t_h c_0 c_1 c_2 c_3 oc q14) ⟨hx, hb, hml, hown, hts⟩ hK hP hD hS hA [6, 1, 2, 3, 4, 5] [0] [0, 2, 3, 4, 5, 6, 1] (c_X4_tie l D cI cZ cO w_h c_h c_0 c_1 c_2 c_3 _ ow10 oc p0 p1 q14 hGq14) (cwV 3 hts (gV wd_298 wd_299 wd_300 wd_36 wd_301) rfl rfl rfl (by decide +kernel) ⟨Nat.le_of_ble_eq_true rfl, Nat.le_of_ble_eq_true rfl⟩) 0 4 rfl rfl rfl rfl rfl rfl rfl (by decide) rfl rfl rfl hl.1 rfl (Nat.le_of_ble_eq_true rfl) dX5_scarf_61 ⟨Nat.zero_le _, Nat.zero_le _⟩ (fun H locs hP hD hS => ?_)
              refine lv_aload_n hx hb dX5_scarf_64 rfl (lv_at hl 0 rfl) ?_
              refine va_get (D := D) (ci := 5) (v := .ref w_h) (C := RX5) (T := TX5) (N := 8) hx hb hts in_X5 hown hK hP 0 rfl rfl 4 (by decide) (hts _ wd_215) (fun _ h9 => h9) rfl dX5_scarf_65 ?_
              refine lv_iload hx hb dX5_scarf_68 (lv_at hl 5 rfl) ?_
              refine va_put (D := D) (ci := 4) (v := .int v9) (ty := .int) (C := RX4) (T := TX4) (N := 16) hx hb hts in_X4 tyX4 tyX4_ok nmX4 hown hK hP hD hS 6 rfl rfl 5 (by decide) (hts _ wd_120) (fun _ h9 => h9) rfl (tyX4_ok 5 (by decide)) rfl rfl (Nat.le_of_ble_eq_true rfl) dX5_scarf_70 (fun H locs hP hD hS => ?_)
              obtain ⟨ow15, hF, hP, hD⟩ := nm_o (P := fun y => va_P D vwCl (wm_X5_scarf cI cZ cO x_h c_h i_h k_h f_h w_h n_h s_h t_h c_0 c_1 c_2 c_3 oc y) _) (B := fun y => va_D A (wm_X5_scarf cI cZ cO x_h c_h i_h k_h f_h w_h n_h s_h t_h c_0 c_1 c_2 c_3 oc y)) hF hP hD
              refine lv_aload_n hx hb dX5_scarf_73 rfl (lv_at hl 0 rfl) ?_
              refine va_get (D := D) (ci := 5) (v := .ref w_h) (C := RX5) (T := TX5) (N := 8) hx hb hts in_X5 hown hK hP 0 rfl rfl 4 (by decide) (hts _ wd_215) (fun _ h9 => h9) rfl dX5_scarf_74 ?_
              refine lv_iload_n hx hb dX5_scarf_77 rfl (lv_at hl 3 rfl) ?_
              refine lv_iconst (v := (-1)) hx hb dX5_scarf_78 (by decide) ?_
              obtain ⟨q16, hGq16, hF⟩ := of_bind hF
              refine callVi (As := [.int p2, .int (-1)]) (rest := []) (wr := [(x_h, .inr (5, [.ref c_h, .ref i_h, .ref k_h, .ref f_h, .ref w_h, .ref n_h, .ref s_h, .ref t_h])), (c_h, .inr (0, [.ref c_0, .ref c_1, .ref c_2, .ref c_3, .int (oc 4 0), .int (oc 5 0), .int (oc 6 0)])), (c_0, .inl (cZ, 8, .inl (oc 0))), (c_1, .inl (cI, 8, .inl (oc 1))), (c_2, .inl (cI, 8, .inl (oc 2))), (c_3, .inl (cI, 8, .inl (oc 3)))]) (WN := wm_X5_scarf cI cZ cO x_h c_h i_h k_h f_h w_h n_h s_h t_h c_0 c_1 c_2 c_3 oc q16.2) ⟨hx, hb, hml, hown, hts⟩ hK hP hD hS hA [6] [0, 1, 2, 3, 4, 5] [0, 1, 2, 3, 4, 5, 6] (c_X4_timeTo l D cI cZ cO w_h _ ow15 p2 (-1) q16 hGq16) (cwV 2 hts (gV wd_340 wd_341 wd_342 wd_36 wd_343) rfl rfl rfl (by decide +kernel) ⟨Nat.le_of_ble_eq_true rfl, Nat.le_of_ble_eq_true rfl⟩) 0 4 rfl rfl rfl rfl rfl rfl rfl (by decide) rfl rfl rfl hl.1 rfl (Nat.le_of_ble_eq_true rfl) dX5_scarf_79 ⟨Nat.zero_le _, Nat.zero_le _⟩ (fun H locs hP hD hS => ?_)
              refine lv_istore (lv' := [(6, .int q16.1), (0, .ref x_h), (1, .int p0), (2, .int p1), (3, .int p2), (4, .int p3), (5, .int v9)]) hx hb dX5_scarf_82 hl (by decide) rfl (fun ls hl => ?_)
              refine lv_iload hx hb dX5_scarf_84 (lv_at hl 0 rfl) ?_
              refine lv_bipush (v := (-6)) hx hb dX5_scarf_86 (by decide) ?_
              refine lv_icmp_eq (tgt := 101) hx hb dX5_scarf_88 (by decide) (fun h17 => ?_) (fun h17 => ?_)
              · replace hF := of_t h17 hF
                obtain ⟨v18, ev18⟩ : ∃ y : Int32, y = v9 + 1 := ⟨_, rfl⟩
                replace hF := of_dd hF v18 ev18
                refine lv_iinc (v := v18) (lv' := [(5, .int v18), (6, .int q16.1), (0, .ref x_h), (1, .int p0), (2, .int p1), (3, .int p2), (4, .int p3)]) hx hb dX5_scarf_101 hl (k := 6) rfl (by rw [ev18]; rfl) (by decide) rfl (fun ls hl => ?_)
                refine lv_goto (tgt := 39) hx hb dX5_scarf_104 (by decide) ?_
                exact ih11 v18 q16.2 ls _ _ (lv_sub hl [2, 3, 4, 5, 6, 0] rfl) hP hD hS hF
              · replace hF := of_f h17 hF
                refine lv_iload hx hb dX5_scarf_91 (lv_at hl 0 rfl) ?_
                refine lv_iload hx hb dX5_scarf_93 (lv_at hl 5 rfl) ?_
                refine lv_icmp_gt (tgt := 101) hx hb dX5_scarf_95 (by decide) (fun h19 => ?_) (fun h19 => ?_)
                · replace hF := of_t h19 hF
                  obtain ⟨v20, ev20⟩ : ∃ y : Int32, y = v9 + 1 := ⟨_, rfl⟩
                  replace hF := of_dd hF v20 ev20
                  refine lv_iinc (v := v20) (lv' := [(5, .int v20), (6, .int q16.1), (0, .ref x_h), (1, .int p0), (2, .int p1), (3, .int p2), (4, .int p3)]) hx hb dX5_scarf_101 hl (k := 6) rfl (by rw [ev20]; rfl) (by decide) rfl (fun ls hl => ?_)
                  refine lv_goto (tgt := 39) hx hb dX5_scarf_104 (by decide) ?_
                  exact ih11 v20 q16.2 ls _ _ (lv_sub hl [2, 3, 4, 5, 6, 0] rfl) hP hD hS hF
                · replace hF := of_f h19 hF
                  refine lv_iload hx hb dX5_scarf_98 (lv_at hl 6 rfl) ?_
                  exact hQ _ _ _ _ _ q16.2 ⟨inj_fst hF, inj_snd hF⟩ hP hD hS dX5_scarf_100
        exact hloop21 2000 0 ow ls _ _ (lv_sub hl [1, 2, 3, 4, 5, 0] rfl) hP hD hS hF
      · replace hF := of_t h6 hF
        refine lv_bipush (v := (-2)) hx hb dX5_scarf_33 (by decide) ?_
        exact hQ _ _ _ _ _ ow ⟨inj_fst hF, inj_snd hF⟩ hP hD hS dX5_scarf_35
  · replace hF := of_t h2 hF
    refine lv_iconst (v := (-1)) hx hb dX5_scarf_12 (by decide) ?_
    exact hQ _ _ _ _ _ ow ⟨inj_fst hF, inj_snd hF⟩ hP hD hS dX5_scarf_13

/-! ### ThreeLegs.even(IIIII)I -/
abbrev wm_X5_even (cI cZ cO : ClassId) (x_h c_h i_h k_h f_h w_h n_h s_h t_h c_0 c_1 c_2 c_3 : Nat) (oc : Ob) (ow : Ob) : va_W := [(x_h, .inr (5, [.ref c_h, .ref i_h, .ref k_h, .ref f_h, .ref w_h, .ref n_h, .ref s_h, .ref t_h])), (c_h, .inr (0, [.ref c_0, .ref c_1, .ref c_2, .ref c_3, .int (oc 4 0), .int (oc 5 0), .int (oc 6 0)])), (c_0, .inl (cZ, 8, .inl (oc 0))), (c_1, .inl (cI, 8, .inl (oc 1))), (c_2, .inl (cI, 8, .inl (oc 2))), (c_3, .inl (cI, 8, .inl (oc 3))), (w_h, .inr (4, [.int (ow 0 0), .int (ow 1 0), .int (ow 2 0), .int (ow 3 0), .int (ow 4 0), .int (ow 5 0), .int (ow 6 0), .int (ow 7 0), .int (ow 8 0), .int (ow 9 0), .int (ow 10 0), .int (ow 11 0), .int (ow 12 0), .int (ow 13 0), .int (ow 14 0), .int (ow 15 0)]))]
def F_X5_even (oc : Ob) (ow : Ob) (p0 : Int32) (p1 : Int32) (p2 : Int32) (p3 : Int32) (p4 : Int32) : Option (Int32 × Ob) :=
  (F_X0_canTie oc p0 p1).bind (fun q1 => (if q1 = 0 then some ((-1), ow) else (F_X0_canTie oc p2 p3).bind (fun q3 => (if q3 = 0 then some ((-1), ow) else (F_X5_isFeet p4).bind (fun q5 => (if q5 = 0 then some ((-2), ow) else (F_X5_timeTo oc ow p2 p3 p4).bind (fun q7 => (if q7.1 = (-6) then some ((-6), q7.2) else (F_X4_tie q7.2 oc p0 p1).bind (fun q9 => (F_X4_feetWithin q9 q7.1).bind (fun q10 => dd (p4 - q10.1) (fun (v11 : Int32) => dd (if (0 : Int32) < v11 then v11 else (0 : Int32)) (fun (v12 : Int32) => some (v12, q10.2)))))))))))))
abbrev rm_X5_even : Room := { frames := 5, cells := 0, slots := 0, locals := 109 }
abbrev wu_X5_even : List Cond := .code yX5_even cX5_even 7 (some .int) :: lwG
set_option maxHeartbeats 20000000 in
set_option maxRecDepth 100000 in
theorem c_X5_even (l : Launch) (D : va_G) (cI cZ cO : ClassId) (x_h c_h i_h k_h f_h w_h n_h s_h t_h c_0 c_1 c_2 c_3 : Nat) (sz : Nat) (oc : Ob) (ow : Ob) (p0 : Int32) (p1 : Int32) (p2 : Int32) (p3 : Int32) (p4 : Int32) (q : Int32 × Ob) (hF : F_X5_even oc ow p0 p1 p2 p3 p4 = some q) : CtI l yX5_even wu_X5_even rm_X5_even D vwCl (tyL cI cZ cO) [.ref x_h, .int p0, .int p1, .int p2, .int p3, .int p4] (wm_X5_even cI cZ cO x_h c_h i_h k_h f_h w_h n_h s_h t_h c_0 c_1 c_2 c_3 oc ow) sz 0 0 (fun (r : Int32) (u : Ob) => r = q.1 ∧ u = q.2) (fun u => wm_X5_even cI cZ cO x_h c_h i_h k_h f_h w_h n_h s_h t_h c_0 c_1 c_2 c_3 oc u) := by
  refine mk_i (cc := cX5_even) (maxL := 7) (by decide) rfl (Nat.le_of_ble_eq_true rfl) ?_
  intro p e s m args below meth c A ls Q hx hb hml hown hts hin hK hP hD hS hA hl hQ
  have hl : lv_has ls 7 [(0, .ref x_h), (1, .int p0), (2, .int p1), (3, .int p2), (4, .int p3), (5, .int p4)] := hl
  unfold F_X5_even at hF
  refine lv_aload_n hx hb dX5_even_0 rfl (lv_at hl 0 rfl) ?_
  refine va_get (D := D) (ci := 5) (v := .ref c_h) (C := RX5) (T := TX5) (N := 8) hx hb hts in_X5 hown hK hP 0 rfl rfl 0 (by decide) (hts _ wd_211) (fun _ h9 => h9) rfl dX5_even_1 ?_
  refine lv_iload_n hx hb dX5_even_4 rfl (lv_at hl 1 rfl) ?_
  refine lv_iload_n hx hb dX5_even_5 rfl (lv_at hl 2 rfl) ?_
  obtain ⟨q1, hGq1, hF⟩ := of_bind hF
  refine callVi (As := [.int p0, .int p1]) (rest := []) (wr := [(x_h, .inr (5, [.ref c_h, .ref i_h, .ref k_h, .ref f_h, .ref w_h, .ref n_h, .ref s_h, .ref t_h])), (w_h, .inr (4, [.int (ow 0 0), .int (ow 1 0), .int (ow 2 0), .int (ow 3 0), .int (ow 4 0), .int (ow 5 0), .int (ow 6 0), .int (ow 7 0), .int (ow 8 0), .int (ow 9 0), .int (ow 10 0), .int (ow 11 0), .int (ow 12 0), .int (ow 13 0), .int (ow 14 0), .int (ow 15 0)]))]) (WN := wm_X5_even cI cZ cO x_h c_h i_h k_h f_h w_h n_h s_h t_h c_0 c_1 c_2 c_3 oc ow) ⟨hx, hb, hml, hown, hts⟩ hK hP hD hS hA [1, 2, 3, 4, 5] [0, 6] [0, 2, 3, 4, 5, 6, 1] (c_X0_canTie l D cI cZ cO c_h c_0 c_1 c_2 c_3 _ oc p0 p1 q1 hGq1) (cwV 2 hts (gV wd_294 wd_295 wd_296 wd_34 wd_297) rfl rfl rfl (by decide +kernel) ⟨Nat.le_of_ble_eq_true rfl, Nat.le_of_ble_eq_true rfl⟩) 0 0 rfl rfl rfl rfl rfl rfl rfl (by decide) rfl rfl rfl hl.1 rfl (Nat.le_of_ble_eq_true rfl) dX5_even_6 ⟨Nat.zero_le _, Nat.zero_le _⟩ (fun H locs hP hD hS => ?_)
  refine lv_if_eq (tgt := 25) hx hb dX5_even_9 (by decide) (fun h2 => ?_) (fun h2 => ?_)
  · replace hF := of_t h2 hF
    refine lv_iconst (v := (-1)) hx hb dX5_even_25 (by decide) ?_
    exact hQ _ _ _ _ _ ow ⟨inj_fst hF, inj_snd hF⟩ hP hD hS dX5_even_26
  · replace hF := of_f h2 hF
    refine lv_aload_n hx hb dX5_even_12 rfl (lv_at hl 0 rfl) ?_
    refine va_get (D := D) (ci := 5) (v := .ref c_h) (C := RX5) (T := TX5) (N := 8) hx hb hts in_X5 hown hK hP 0 rfl rfl 0 (by decide) (hts _ wd_211) (fun _ h9 => h9) rfl dX5_even_13 ?_
    refine lv_iload_n hx hb dX5_even_16 rfl (lv_at hl 3 rfl) ?_
    refine lv_iload hx hb dX5_even_17 (lv_at hl 4 rfl) ?_
    obtain ⟨q3, hGq3, hF⟩ := of_bind hF
    refine callVi (As := [.int p2, .int p3]) (rest := []) (wr := [(x_h, .inr (5, [.ref c_h, .ref i_h, .ref k_h, .ref f_h, .ref w_h, .ref n_h, .ref s_h, .ref t_h])), (w_h, .inr (4, [.int (ow 0 0), .int (ow 1 0), .int (ow 2 0), .int (ow 3 0), .int (ow 4 0), .int (ow 5 0), .int (ow 6 0), .int (ow 7 0), .int (ow 8 0), .int (ow 9 0), .int (ow 10 0), .int (ow 11 0), .int (ow 12 0), .int (ow 13 0), .int (ow 14 0), .int (ow 15 0)]))]) (WN := wm_X5_even cI cZ cO x_h c_h i_h k_h f_h w_h n_h s_h t_h c_0 c_1 c_2 c_3 oc ow) ⟨hx, hb, hml, hown, hts⟩ hK hP hD hS hA [1, 2, 3, 4, 5] [0, 6] [0, 2, 3, 4, 5, 6, 1] (c_X0_canTie l D cI cZ cO c_h c_0 c_1 c_2 c_3 _ oc p2 p3 q3 hGq3) (cwV 2 hts (gV wd_294 wd_295 wd_296 wd_34 wd_297) rfl rfl rfl (by decide +kernel) ⟨Nat.le_of_ble_eq_true rfl, Nat.le_of_ble_eq_true rfl⟩) 0 0 rfl rfl rfl rfl rfl rfl rfl (by decide) rfl rfl rfl hl.1 rfl (Nat.le_of_ble_eq_true rfl) dX5_even_19 ⟨Nat.zero_le _, Nat.zero_le _⟩ (fun H locs hP hD hS => ?_)
    refine lv_if_ne (tgt := 27) hx hb dX5_even_22 (by decide) (fun h4 => ?_) (fun h4 => ?_)
    · replace hF := of_f h4 hF
      refine lv_iload hx hb dX5_even_27 (lv_at hl 5 rfl) ?_
      obtain ⟨q5, hGq5, hF⟩ := of_bind hF
      refine callSi (As := [.int p4]) (rest := []) ⟨hx, hb, hml, hown, hts⟩ hK hP hD hS hA (c_X5_isFeet l D cI cZ cO  _ p4 q5 hGq5) (va_cwS 1 hts (gS wd_333 wd_334 wd_33 wd_335) rfl rfl rfl (by decide +kernel) ⟨Nat.le_of_ble_eq_true rfl, Nat.le_of_ble_eq_true rfl⟩) rfl hl.1 rfl (Nat.le_of_ble_eq_true rfl) dX5_even_29 ⟨Nat.zero_le _, Nat.zero_le _⟩ (fun H locs hP hS => ?_)
      refine lv_if_ne (tgt := 38) hx hb dX5_even_32 (by decide) (fun h6 => ?_) (fun h6 => ?_)
      · replace hF := of_f h6 hF
        refine lv_aload_n hx hb dX5_even_38 rfl (lv_at hl 0 rfl) ?_
        refine lv_iload_n hx hb dX5_even_39 rfl (lv_at hl 3 rfl) ?_
        refine lv_iload hx hb dX5_even_40 (lv_at hl 4 rfl) ?_
        refine lv_iload hx hb dX5_even_42 (lv_at hl 5 rfl) ?_
        obtain ⟨q7, hGq7, hF⟩ := of_bind hF
        refine callVi (As := [.int p2, .int p3, .int p4]) (rest := []) (wr := []) (WN := wm_X5_even cI cZ cO x_h c_h i_h k_h f_h w_h n_h s_h t_h c_0 c_1 c_2 c_3 oc q7.2) ⟨hx, hb, hml, hown, hts⟩ hK hP hD hS hA [0, 1, 2, 3, 4, 5, 6] [] [0, 1, 2, 3, 4, 5, 6] (c_X5_timeTo l D cI cZ cO x_h c_h i_h k_h f_h w_h n_h s_h t_h c_0 c_1 c_2 c_3 _ oc ow p2 p3 p4 q7 hGq7) (cwV 3 hts (gV wd_336 wd_338 wd_4 wd_33 wd_339) rfl rfl rfl (by decide +kernel) ⟨Nat.le_of_ble_eq_true rfl, Nat.le_of_ble_eq_true rfl⟩) 0 5 rfl rfl rfl rfl rfl rfl rfl (by decide) rfl rfl rfl hl.1 rfl (Nat.le_of_ble_eq_true rfl) dX5_even_44 ⟨Nat.zero_le _, Nat.zero_le _⟩ (fun H locs hP hD hS => ?_)
        refine lv_istore (lv' := [(6, .int q7.1), (0, .ref x_h), (1, .int p0), (2, .int p1), (3, .int p2), (4, .int p3), (5, .int p4)]) hx hb dX5_even_47 hl (by decide) rfl (fun ls hl => ?_)
        refine lv_iload hx hb dX5_even_49 (lv_at hl 0 rfl) ?_
        refine lv_bipush (v := (-6)) hx hb dX5_even_51 (by decide) ?_
        refine lv_icmp_ne (tgt := 59) hx hb dX5_even_53 (by decide) (fun h8 => ?_) (fun h8 => ?_)
        · replace hF := of_f h8 hF
          refine lv_aload_n hx hb dX5_even_59 rfl (lv_at hl 1 rfl) ?_
          refine va_get (D := D) (ci := 5) (v := .ref w_h) (C := RX5) (T := TX5) (N := 8) hx hb hts in_X5 hown hK hP 0 rfl rfl 4 (by decide) (hts _ wd_215) (fun _ h9 => h9) rfl dX5_even_60 ?_
          refine lv_aload_n hx hb dX5_even_63 rfl (lv_at hl 1 rfl) ?_
          refine va_get (D := D) (ci := 5) (v := .ref c_h) (C := RX5) (T := TX5) (N := 8) hx hb hts in_X5 hown hK hP 0 rfl rfl 0 (by decide) (hts _ wd_211) (fun _ h9 => h9) rfl dX5_even_64 ?_
          refine lv_iload_n hx hb dX5_even_67 rfl (lv_at hl 2 rfl) ?_
          refine lv_iload_n hx hb dX5_even_68 rfl (lv_at hl 3 rfl) ?_
          obtain ⟨q9, hGq9, hF⟩ := of_bind hF
          refine callVv (As := [.ref c_h, .int p0, .int p1]) (rest := []) (wr := [(x_h, .inr (5, [.ref c_h, .ref i_h, .ref k_h, .ref f_h, .ref w_h, .ref n_h, .ref s_h, .ref t_h]))]) (WN := wm_X5_even cI cZ cO x_h c_h i_h k_h f_h w_h n_h s_h t_h c_0 c_1 c_2 c_3 oc q9) ⟨hx, hb, hml, hown, hts⟩ hK hP hD hS hA [6, 1, 2, 3, 4, 5] [0] [0, 2, 3, 4, 5, 6, 1] (c_X4_tie l D cI cZ cO w_h c_h c_0 c_1 c_2 c_3 _ q7.2 oc p0 p1 q9 hGq9) (cwV 3 hts (gV wd_298 wd_299 wd_300 wd_36 wd_301) rfl rfl rfl (by decide +kernel) ⟨Nat.le_of_ble_eq_true rfl, Nat.le_of_ble_eq_true rfl⟩) 0 4 rfl rfl rfl rfl rfl rfl rfl (by decide) rfl rfl rfl hl.1 rfl (Nat.le_of_ble_eq_true rfl) dX5_even_69 ⟨Nat.zero_le _, Nat.zero_le _⟩ (fun H locs hP hD hS => ?_)
          refine lv_iconst (v := 0) hx hb dX5_even_72 (by decide) ?_
          refine lv_iload hx hb dX5_even_73 (lv_at hl 6 rfl) ?_
          refine lv_aload_n hx hb dX5_even_75 rfl (lv_at hl 1 rfl) ?_
          refine va_get (D := D) (ci := 5) (v := .ref w_h) (C := RX5) (T := TX5) (N := 8) hx hb hts in_X5 hown hK hP 0 rfl rfl 4 (by decide) (hts _ wd_215) (fun _ h9 => h9) rfl dX5_even_76 ?_
          refine lv_iload hx hb dX5_even_79 (lv_at hl 0 rfl) ?_
          obtain ⟨q10, hGq10, hF⟩ := of_bind hF
          refine callVi (As := [.int q7.1]) (rest := [.int p4, .int 0]) (wr := [(x_h, .inr (5, [.ref c_h, .ref i_h, .ref k_h, .ref f_h, .ref w_h, .ref n_h, .ref s_h, .ref t_h])), (c_h, .inr (0, [.ref c_0, .ref c_1, .ref c_2, .ref c_3, .int (oc 4 0), .int (oc 5 0), .int (oc 6 0)])), (c_0, .inl (cZ, 8, .inl (oc 0))), (c_1, .inl (cI, 8, .inl (oc 1))), (c_2, .inl (cI, 8, .inl (oc 2))), (c_3, .inl (cI, 8, .inl (oc 3)))]) (WN := wm_X5_even cI cZ cO x_h c_h i_h k_h f_h w_h n_h s_h t_h c_0 c_1 c_2 c_3 oc q10.2) ⟨hx, hb, hml, hown, hts⟩ hK hP hD hS hA [6] [0, 1, 2, 3, 4, 5] [0, 1, 2, 3, 4, 5, 6] (c_X4_feetWithin l D cI cZ cO w_h _ q9 q7.1 q10 hGq10) (cwV 1 hts (gV wd_446 wd_447 wd_448 wd_36 wd_449) rfl rfl rfl (by decide +kernel) ⟨Nat.le_of_ble_eq_true rfl, Nat.le_of_ble_eq_true rfl⟩) 0 4 rfl rfl rfl rfl rfl rfl rfl (by decide) rfl rfl rfl hl.1 rfl (Nat.le_of_ble_eq_true rfl) dX5_even_81 ⟨Nat.zero_le _, Nat.zero_le _⟩ (fun H locs hP hD hS => ?_)
          refine lv_isub hx hb dX5_even_84 ?_
          refine lv_topi (fun v11 ev11 => ?_)
          replace hF := of_dd hF v11 ev11
          refine va_mmax hx hb (hml.trans hl.1.symm) hown (hts _ wd_450) (hts _ wd_311) (hts _ wd_41) (hts _ wd_312) (Nat.le_of_ble_eq_true rfl) (Nat.le_of_ble_eq_true rfl) (Nat.zero_le _) (Nat.zero_le _) dX5_even_85 ?_
          refine lv_topi (fun v12 ev12 => ?_)
          replace hF := of_dd hF v12 ev12
          exact hQ _ _ _ _ _ q10.2 ⟨inj_fst hF, inj_snd hF⟩ hP hD hS dX5_even_88
        · replace hF := of_t h8 hF
          refine lv_bipush (v := (-6)) hx hb dX5_even_56 (by decide) ?_
          exact hQ _ _ _ _ _ q7.2 ⟨inj_fst hF, inj_snd hF⟩ hP hD hS dX5_even_58
      · replace hF := of_t h6 hF
        refine lv_bipush (v := (-2)) hx hb dX5_even_35 (by decide) ?_
        exact hQ _ _ _ _ _ ow ⟨inj_fst hF, inj_snd hF⟩ hP hD hS dX5_even_37
    · replace hF := of_t h4 hF
      refine lv_iconst (v := (-1)) hx hb dX5_even_25 (by decide) ?_
      exact hQ _ _ _ _ _ ow ⟨inj_fst hF, inj_snd hF⟩ hP hD hS dX5_even_26

/-! ### ThreeLegs.say(I)I -/
abbrev wm_X5_say (cI cZ cO : ClassId) (x_h c_h i_h k_h f_h w_h n_h s_h t_h f_0 : Nat) (of : Ob) : va_W := [(x_h, .inr (5, [.ref c_h, .ref i_h, .ref k_h, .ref f_h, .ref w_h, .ref n_h, .ref s_h, .ref t_h])), (f_h, .inr (1, [.ref f_0, .int (of 1 0)])), (f_0, .inl (cI, 40, .inl (of 0)))]
def F_X5_say (of : Ob) (p0 : Int32) : Option (Int32 × Ob) :=
  (F_X5_isWithin p0 33 126).bind (fun q1 => (if q1 = 0 then some ((-2), of) else (if (of 1 0) < 40 then (F_X1_add of p0).bind (fun q4 => some ((q4 1 0), q4)) else some ((-4), of))))
abbrev rm_X5_say : Room := { frames := 1, cells := 0, slots := 0, locals := 22 }
abbrev wu_X5_say : List Cond := .code yX5_say cX5_say 2 (some .int) :: lwG
set_option maxHeartbeats 20000000 in
set_option maxRecDepth 100000 in
theorem c_X5_say (l : Launch) (D : va_G) (cI cZ cO : ClassId) (x_h c_h i_h k_h f_h w_h n_h s_h t_h f_0 : Nat) (sz : Nat) (of : Ob) (p0 : Int32) (q : Int32 × Ob) (hF : F_X5_say of p0 = some q) : CtI l yX5_say wu_X5_say rm_X5_say D vwCl (tyL cI cZ cO) [.ref x_h, .int p0] (wm_X5_say cI cZ cO x_h c_h i_h k_h f_h w_h n_h s_h t_h f_0 of) sz 0 0 (fun (r : Int32) (u : Ob) => r = q.1 ∧ u = q.2) (fun u => wm_X5_say cI cZ cO x_h c_h i_h k_h f_h w_h n_h s_h t_h f_0 u) := by
  refine mk_i (cc := cX5_say) (maxL := 2) (by decide) rfl (Nat.le_of_ble_eq_true rfl) ?_
  intro p e s m args below meth c A ls Q hx hb hml hown hts hin hK hP hD hS hA hl hQ
  have hl : lv_has ls 2 [(0, .ref x_h), (1, .int p0)] := hl
  unfold F_X5_say at hF
  refine lv_iload_n hx hb dX5_say_0 rfl (lv_at hl 1 rfl) ?_
  refine lv_bipush (v := 33) hx hb dX5_say_1 (by decide) ?_
  refine lv_bipush (v := 126) hx hb dX5_say_3 (by decide) ?_
  obtain ⟨q1, hGq1, hF⟩ := of_bind hF
  refine callSi (As := [.int p0, .int 33, .int 126]) (rest := []) ⟨hx, hb, hml, hown, hts⟩ hK hP hD hS hA (c_X5_isWithin l D cI cZ cO  _ p0 33 126 q1 hGq1) (va_cwS 3 hts (gS wd_240 wd_241 wd_33 wd_242) rfl rfl rfl (by decide +kernel) ⟨Nat.le_of_ble_eq_true rfl, Nat.le_of_ble_eq_true rfl⟩) rfl hl.1 rfl (Nat.le_of_ble_eq_true rfl) dX5_say_5 ⟨Nat.zero_le _, Nat.zero_le _⟩ (fun H locs hP hS => ?_)
  refine lv_if_ne (tgt := 14) hx hb dX5_say_8 (by decide) (fun h2 => ?_) (fun h2 => ?_)
  · replace hF := of_f h2 hF
    refine lv_aload_n hx hb dX5_say_14 rfl (lv_at hl 0 rfl) ?_
    refine va_get (D := D) (ci := 5) (v := .ref f_h) (C := RX5) (T := TX5) (N := 8) hx hb hts in_X5 hown hK hP 0 rfl rfl 3 (by decide) (hts _ wd_214) (fun _ h9 => h9) rfl dX5_say_15 ?_
    refine va_get (D := D) (ci := 1) (v := .int (of 1 0)) (C := RX1) (T := TX1) (N := 2) hx hb hts in_X1 hown hK hP 1 rfl rfl 1 (by decide) (hts _ wd_102) (fun _ h9 => h9) rfl dX5_say_18 ?_
    refine lv_bipush (v := 40) hx hb dX5_say_21 (by decide) ?_
    refine lv_icmp_lt (tgt := 29) hx hb dX5_say_23 (by decide) (fun h3 => ?_) (fun h3 => ?_)
    · replace hF := of_t h3 hF
      refine lv_aload_n hx hb dX5_say_29 rfl (lv_at hl 0 rfl) ?_
      refine va_get (D := D) (ci := 5) (v := .ref f_h) (C := RX5) (T := TX5) (N := 8) hx hb hts in_X5 hown hK hP 0 rfl rfl 3 (by decide) (hts _ wd_214) (fun _ h9 => h9) rfl dX5_say_30 ?_
      refine lv_iload_n hx hb dX5_say_33 rfl (lv_at hl 1 rfl) ?_
      obtain ⟨q4, hGq4, hF⟩ := of_bind hF
      refine callVv (As := [.int p0]) (rest := []) (wr := [(x_h, .inr (5, [.ref c_h, .ref i_h, .ref k_h, .ref f_h, .ref w_h, .ref n_h, .ref s_h, .ref t_h]))]) (WN := wm_X5_say cI cZ cO x_h c_h i_h k_h f_h w_h n_h s_h t_h f_0 q4) ⟨hx, hb, hml, hown, hts⟩ hK hP hD hS hA [1, 2] [0] [0, 1, 2] (c_X1_add l D cI cZ cO f_h f_0 _ of p0 q4 hGq4) (cwV 1 hts (gV wd_455 wd_456 wd_457 wd_35 wd_458) rfl rfl rfl (by decide +kernel) ⟨Nat.le_of_ble_eq_true rfl, Nat.le_of_ble_eq_true rfl⟩) 0 1 rfl rfl rfl rfl rfl rfl rfl (by decide) rfl rfl rfl hl.1 rfl (Nat.le_of_ble_eq_true rfl) dX5_say_34 ⟨Nat.zero_le _, Nat.zero_le _⟩ (fun H locs hP hD hS => ?_)
      refine lv_aload_n hx hb dX5_say_37 rfl (lv_at hl 0 rfl) ?_
      refine va_get (D := D) (ci := 5) (v := .ref f_h) (C := RX5) (T := TX5) (N := 8) hx hb hts in_X5 hown hK hP 0 rfl rfl 3 (by decide) (hts _ wd_214) (fun _ h9 => h9) rfl dX5_say_38 ?_
      refine va_get (D := D) (ci := 1) (v := .int (q4 1 0)) (C := RX1) (T := TX1) (N := 2) hx hb hts in_X1 hown hK hP 1 rfl rfl 1 (by decide) (hts _ wd_102) (fun _ h9 => h9) rfl dX5_say_41 ?_
      exact hQ _ _ _ _ _ q4 ⟨inj_fst hF, inj_snd hF⟩ hP hD hS dX5_say_44
    · replace hF := of_f h3 hF
      refine lv_bipush (v := (-4)) hx hb dX5_say_26 (by decide) ?_
      exact hQ _ _ _ _ _ of ⟨inj_fst hF, inj_snd hF⟩ hP hD hS dX5_say_28
  · replace hF := of_t h2 hF
    refine lv_bipush (v := (-2)) hx hb dX5_say_11 (by decide) ?_
    exact hQ _ _ _ _ _ of ⟨inj_fst hF, inj_snd hF⟩ hP hD hS dX5_say_13

/-! ### ThreeLegs.wipe()I -/
abbrev wm_X5_wipe (cI cZ cO : ClassId) (x_h c_h i_h k_h f_h w_h n_h s_h t_h f_0 : Nat) (of : Ob) : va_W := [(x_h, .inr (5, [.ref c_h, .ref i_h, .ref k_h, .ref f_h, .ref w_h, .ref n_h, .ref s_h, .ref t_h])), (f_h, .inr (1, [.ref f_0, .int (of 1 0)])), (f_0, .inl (cI, 40, .inl (of 0)))]
def F_X5_wipe (of : Ob)  : Option (Int32 × Ob) :=
  dd (sO of 1 (cst 0)) (fun (of1 : Ob) => some ((of 1 0), of1))
abbrev rm_X5_wipe : Room := { frames := 0, cells := 0, slots := 0, locals := 0 }
abbrev wu_X5_wipe : List Cond := .code yX5_wipe cX5_wipe 2 (some .int) :: lwG
set_option maxHeartbeats 20000000 in
set_option maxRecDepth 100000 in
theorem c_X5_wipe (l : Launch) (D : va_G) (cI cZ cO : ClassId) (x_h c_h i_h k_h f_h w_h n_h s_h t_h f_0 : Nat) (sz : Nat) (of : Ob)  (q : Int32 × Ob) (hF : F_X5_wipe of = some q) : CtI l yX5_wipe wu_X5_wipe rm_X5_wipe D vwCl (tyL cI cZ cO) [.ref x_h] (wm_X5_wipe cI cZ cO x_h c_h i_h k_h f_h w_h n_h s_h t_h f_0 of) sz 0 0 (fun (r : Int32) (u : Ob) => r = q.1 ∧ u = q.2) (fun u => wm_X5_wipe cI cZ cO x_h c_h i_h k_h f_h w_h n_h s_h t_h f_0 u) := by
  refine mk_i (cc := cX5_wipe) (maxL := 2) (by decide) rfl (Nat.le_of_ble_eq_true rfl) ?_
  intro p e s m args below meth c A ls Q hx hb hml hown hts hin hK hP hD hS hA hl hQ
  have hl : lv_has ls 2 [(0, .ref x_h)] := hl
  unfold F_X5_wipe at hF
  refine lv_aload_n hx hb dX5_wipe_0 rfl (lv_at hl 0 rfl) ?_
  refine va_get (D := D) (ci := 5) (v := .ref f_h) (C := RX5) (T := TX5) (N := 8) hx hb hts in_X5 hown hK hP 0 rfl rfl 3 (by decide) (hts _ wd_214) (fun _ h9 => h9) rfl dX5_wipe_1 ?_
  refine va_get (D := D) (ci := 1) (v := .int (of 1 0)) (C := RX1) (T := TX1) (N := 2) hx hb hts in_X1 hown hK hP 1 rfl rfl 1 (by decide) (hts _ wd_102) (fun _ h9 => h9) rfl dX5_wipe_4 ?_
  refine lv_istore_n (lv' := [(1, .int (of 1 0)), (0, .ref x_h)]) hx hb dX5_wipe_7 rfl hl (by decide) rfl (fun ls hl => ?_)
  refine lv_aload_n hx hb dX5_wipe_8 rfl (lv_at hl 1 rfl) ?_
  refine va_get (D := D) (ci := 5) (v := .ref f_h) (C := RX5) (T := TX5) (N := 8) hx hb hts in_X5 hown hK hP 0 rfl rfl 3 (by decide) (hts _ wd_214) (fun _ h9 => h9) rfl dX5_wipe_9 ?_
  refine lv_iconst (v := 0) hx hb dX5_wipe_12 (by decide) ?_
  refine va_put (D := D) (ci := 1) (v := .int 0) (ty := .int) (C := RX1) (T := TX1) (N := 2) hx hb hts in_X1 tyX1 tyX1_ok nmX1 hown hK hP hD hS 1 rfl rfl 1 (by decide) (hts _ wd_102) (fun _ h9 => h9) rfl (tyX1_ok 1 (by decide)) rfl rfl (Nat.le_of_ble_eq_true rfl) dX5_wipe_13 (fun H locs hP hD hS => ?_)
  obtain ⟨of1, hF, hP, hD⟩ := nm_o (P := fun y => va_P D vwCl (wm_X5_wipe cI cZ cO x_h c_h i_h k_h f_h w_h n_h s_h t_h f_0 y) _) (B := fun y => va_D A (wm_X5_wipe cI cZ cO x_h c_h i_h k_h f_h w_h n_h s_h t_h f_0 y)) hF hP hD
  refine lv_iload_n hx hb dX5_wipe_16 rfl (lv_at hl 0 rfl) ?_
  exact hQ _ _ _ _ _ of1 ⟨inj_fst hF, inj_snd hF⟩ hP hD hS dX5_wipe_17

/-! ### ThreeLegs.fault()I -/
abbrev wm_X5_fault (cI cZ cO : ClassId) (x_h c_h i_h k_h f_h w_h n_h s_h t_h f_0 : Nat) (of : Ob) : va_W := [(x_h, .inr (5, [.ref c_h, .ref i_h, .ref k_h, .ref f_h, .ref w_h, .ref n_h, .ref s_h, .ref t_h])), (f_h, .inr (1, [.ref f_0, .int (of 1 0)])), (f_0, .inl (cI, 40, .inl (of 0)))]
def F_X5_fault (of : Ob)  : Option (Int32) :=
  (F_X1_firstFault of).bind (fun q1 => some q1)
abbrev rm_X5_fault : Room := { frames := 1, cells := 0, slots := 0, locals := 22 }
abbrev wu_X5_fault : List Cond := .code yX5_fault cX5_fault 1 (some .int) :: lwG
set_option maxHeartbeats 20000000 in
set_option maxRecDepth 100000 in
theorem c_X5_fault (l : Launch) (D : va_G) (cI cZ cO : ClassId) (x_h c_h i_h k_h f_h w_h n_h s_h t_h f_0 : Nat) (sz : Nat) (of : Ob)  (q : Int32) (hF : F_X5_fault of = some q) : CtI l yX5_fault wu_X5_fault rm_X5_fault D vwCl (tyL cI cZ cO) [.ref x_h] (wm_X5_fault cI cZ cO x_h c_h i_h k_h f_h w_h n_h s_h t_h f_0 of) sz 0 0 (fun (r : Int32) (u : Unit) => r = q ∧ u = ()) (fun u => wm_X5_fault cI cZ cO x_h c_h i_h k_h f_h w_h n_h s_h t_h f_0 of) := by
  refine mk_i (cc := cX5_fault) (maxL := 1) (by decide) rfl (Nat.le_of_ble_eq_true rfl) ?_
  intro p e s m args below meth c A ls Q hx hb hml hown hts hin hK hP hD hS hA hl hQ
  have hl : lv_has ls 1 [(0, .ref x_h)] := hl
  unfold F_X5_fault at hF
  refine lv_aload_n hx hb dX5_fault_0 rfl (lv_at hl 0 rfl) ?_
  refine va_get (D := D) (ci := 5) (v := .ref f_h) (C := RX5) (T := TX5) (N := 8) hx hb hts in_X5 hown hK hP 0 rfl rfl 3 (by decide) (hts _ wd_214) (fun _ h9 => h9) rfl dX5_fault_1 ?_
  obtain ⟨q1, hGq1, hF⟩ := of_bind hF
  refine callVi (As := []) (rest := []) (wr := [(x_h, .inr (5, [.ref c_h, .ref i_h, .ref k_h, .ref f_h, .ref w_h, .ref n_h, .ref s_h, .ref t_h]))]) (WN := wm_X5_fault cI cZ cO x_h c_h i_h k_h f_h w_h n_h s_h t_h f_0 of) ⟨hx, hb, hml, hown, hts⟩ hK hP hD hS hA [1, 2] [0] [0, 1, 2] (c_X1_firstFault l D cI cZ cO f_h f_0 _ of q1 hGq1) (cwV 0 hts (gV wd_467 wd_468 wd_469 wd_35 wd_470) rfl rfl rfl (by decide +kernel) ⟨Nat.le_of_ble_eq_true rfl, Nat.le_of_ble_eq_true rfl⟩) 0 1 rfl rfl rfl rfl rfl rfl rfl (by decide) rfl rfl rfl hl.1 rfl (Nat.le_of_ble_eq_true rfl) dX5_fault_4 ⟨Nat.zero_le _, Nat.zero_le _⟩ (fun H locs hP hD hS => ?_)
  exact hQ _ _ _ _ _ () ⟨Option.some.inj hF, rfl⟩ hP hD hS dX5_fault_7

/-! ### ThreeLegs.firstUnlike(II)I -/
abbrev wm_X5_firstUnlike (cI cZ cO : ClassId) (x_h c_h i_h k_h f_h w_h n_h s_h t_h c_0 c_1 c_2 c_3 f_0 : Nat) (oc : Ob) (of : Ob) (ow : Ob) : va_W := [(x_h, .inr (5, [.ref c_h, .ref i_h, .ref k_h, .ref f_h, .ref w_h, .ref n_h, .ref s_h, .ref t_h])), (c_h, .inr (0, [.ref c_0, .ref c_1, .ref c_2, .ref c_3, .int (oc 4 0), .int (oc 5 0), .int (oc 6 0)])), (c_0, .inl (cZ, 8, .inl (oc 0))), (c_1, .inl (cI, 8, .inl (oc 1))), (c_2, .inl (cI, 8, .inl (oc 2))), (c_3, .inl (cI, 8, .inl (oc 3))), (f_h, .inr (1, [.ref f_0, .int (of 1 0)])), (f_0, .inl (cI, 40, .inl (of 0))), (w_h, .inr (4, [.int (ow 0 0), .int (ow 1 0), .int (ow 2 0), .int (ow 3 0), .int (ow 4 0), .int (ow 5 0), .int (ow 6 0), .int (ow 7 0), .int (ow 8 0), .int (ow 9 0), .int (ow 10 0), .int (ow 11 0), .int (ow 12 0), .int (ow 13 0), .int (ow 14 0), .int (ow 15 0)]))]
def L_X5_firstUnlike_15 : Nat → Ob → Int32 → Ob → (Ob → Option (Int32 × Ob)) → Option (Int32 × Ob)
  | 0, _, _, _, _ => none
  | n7 + 1, of, v4, ow5, K2 =>
    (if (of 1 0) ≤ v4 then K2 ow5 else (F_X4_step ow5).bind (fun q9 => (F_X1_canShow of v4 (q9 14 0)).bind (fun q10 => (if q10 = 0 then some (v4, q9) else dd (v4 + 1) (fun (v12 : Int32) => L_X5_firstUnlike_15 n7 of v12 q9 K2)))))
def F_X5_firstUnlike (oc : Ob) (of : Ob) (ow : Ob) (p0 : Int32) (p1 : Int32) : Option (Int32 × Ob) :=
  (F_X4_tie ow oc p0 p1).bind (fun q1 => jn (fun (ow3 : Ob) => some ((-6), ow3)) (fun (K2 : Ob → Option (Int32 × Ob)) => L_X5_firstUnlike_15 2000 of 0 q1 K2))
abbrev rm_X5_firstUnlike : Room := { frames := 3, cells := 0, slots := 0, locals := 66 }
abbrev wu_X5_firstUnlike : List Cond := .code yX5_firstUnlike cX5_firstUnlike 4 (some .int) :: lwG
set_option maxHeartbeats 20000000 in
set_option maxRecDepth 100000 in
theorem c_X5_firstUnlike (l : Launch) (D : va_G) (cI cZ cO : ClassId) (x_h c_h i_h k_h f_h w_h n_h s_h t_h c_0 c_1 c_2 c_3 f_0 : Nat) (sz : Nat) (oc : Ob) (of : Ob) (ow : Ob) (p0 : Int32) (p1 : Int32) (q : Int32 × Ob) (hF : F_X5_firstUnlike oc of ow p0 p1 = some q) : CtI l yX5_firstUnlike wu_X5_firstUnlike rm_X5_firstUnlike D vwCl (tyL cI cZ cO) [.ref x_h, .int p0, .int p1] (wm_X5_firstUnlike cI cZ cO x_h c_h i_h k_h f_h w_h n_h s_h t_h c_0 c_1 c_2 c_3 f_0 oc of ow) sz 0 0 (fun (r : Int32) (u : Ob) => r = q.1 ∧ u = q.2) (fun u => wm_X5_firstUnlike cI cZ cO x_h c_h i_h k_h f_h w_h n_h s_h t_h c_0 c_1 c_2 c_3 f_0 oc of u) := by
  refine mk_i (cc := cX5_firstUnlike) (maxL := 4) (by decide) rfl (Nat.le_of_ble_eq_true rfl) ?_
  intro p e s m args below meth c A ls Q hx hb hml hown hts hin hK hP hD hS hA hl hQ
  have hl : lv_has ls 4 [(0, .ref x_h), (1, .int p0), (2, .int p1)] := hl
  unfold F_X5_firstUnlike at hF
  refine lv_aload_n hx hb dX5_firstUnlike_0 rfl (lv_at hl 0 rfl) ?_
  refine va_get (D := D) (ci := 5) (v := .ref w_h) (C := RX5) (T := TX5) (N := 8) hx hb hts in_X5 hown hK hP 0 rfl rfl 4 (by decide) (hts _ wd_215) (fun _ h9 => h9) rfl dX5_firstUnlike_1 ?_
  refine lv_aload_n hx hb dX5_firstUnlike_4 rfl (lv_at hl 0 rfl) ?_
  refine va_get (D := D) (ci := 5) (v := .ref c_h) (C := RX5) (T := TX5) (N := 8) hx hb hts in_X5 hown hK hP 0 rfl rfl 0 (by decide) (hts _ wd_211) (fun _ h9 => h9) rfl dX5_firstUnlike_5 ?_
  refine lv_iload_n hx hb dX5_firstUnlike_8 rfl (lv_at hl 1 rfl) ?_
  refine lv_iload_n hx hb dX5_firstUnlike_9 rfl (lv_at hl 2 rfl) ?_
  obtain ⟨q1, hGq1, hF⟩ := of_bind hF
  refine callVv (As := [.ref c_h, .int p0, .int p1]) (rest := []) (wr := [(x_h, .inr (5, [.ref c_h, .ref i_h, .ref k_h, .ref f_h, .ref w_h, .ref n_h, .ref s_h, .ref t_h])), (f_h, .inr (1, [.ref f_0, .int (of 1 0)])), (f_0, .inl (cI, 40, .inl (of 0)))]) (WN := wm_X5_firstUnlike cI cZ cO x_h c_h i_h k_h f_h w_h n_h s_h t_h c_0 c_1 c_2 c_3 f_0 oc of q1) ⟨hx, hb, hml, hown, hts⟩ hK hP hD hS hA [8, 1, 2, 3, 4, 5] [0, 6, 7] [0, 4, 5, 6, 7, 8, 1, 2, 3] (c_X4_tie l D cI cZ cO w_h c_h c_0 c_1 c_2 c_3 _ ow oc p0 p1 q1 hGq1) (cwV 3 hts (gV wd_298 wd_299 wd_300 wd_36 wd_301) rfl rfl rfl (by decide +kernel) ⟨Nat.le_of_ble_eq_true rfl, Nat.le_of_ble_eq_true rfl⟩) 0 4 rfl rfl rfl rfl rfl rfl rfl (by decide) rfl rfl rfl hl.1 rfl (Nat.le_of_ble_eq_true rfl) dX5_firstUnlike_10 ⟨Nat.zero_le _, Nat.zero_le _⟩ (fun H locs hP hD hS => ?_)
  refine lv_iconst (v := 0) hx hb dX5_firstUnlike_13 (by decide) ?_
  refine lv_istore_n (lv' := [(3, .int 0), (0, .ref x_h), (1, .int p0), (2, .int p1)]) hx hb dX5_firstUnlike_14 rfl hl (by decide) rfl (fun ls hl => ?_)
  obtain ⟨K2, eK2, hF⟩ := of_jn hF
  have hK2 : ∀ (ow3 : Ob) (ls : Array Slot) (H : Heap) (locs : List Loc), lv_has ls 4 [] → va_P D vwCl (wm_X5_firstUnlike cI cZ cO x_h c_h i_h k_h f_h w_h n_h s_h t_h c_0 c_1 c_2 c_3 f_0 oc of ow3) H → va_D A (wm_X5_firstUnlike cI cZ cO x_h c_h i_h k_h f_h w_h n_h s_h t_h c_0 c_1 c_2 c_3 f_0 oc of ow3) → va_S A s.heap H locs → K2 ow3 = some q → W p l e rm_X5_firstUnlike s m args below meth c H locs 0 0 Q (F0 m 59 ls []) := by
    intro ow3 ls H locs hl hP hD hS hF
    subst eK2
    refine lv_bipush (v := (-6)) hx hb dX5_firstUnlike_59 (by decide) ?_
    exact hQ _ _ _ _ _ ow3 ⟨inj_fst hF, inj_snd hF⟩ hP hD hS dX5_firstUnlike_61
  have hloop13 : ∀ (n7 : Nat) (v4 : Int32) (ow5 : Ob) (ls : Array Slot) (H : Heap) (locs : List Loc), lv_has ls 4 [(0, .ref x_h), (3, .int v4)] → va_P D vwCl (wm_X5_firstUnlike cI cZ cO x_h c_h i_h k_h f_h w_h n_h s_h t_h c_0 c_1 c_2 c_3 f_0 oc of ow5) H → va_D A (wm_X5_firstUnlike cI cZ cO x_h c_h i_h k_h f_h w_h n_h s_h t_h c_0 c_1 c_2 c_3 f_0 oc of ow5) → va_S A s.heap H locs → L_X5_firstUnlike_15 n7 of v4 ow5 K2 = some q → W p l e rm_X5_firstUnlike s m args below meth c H locs 0 0 Q (F0 m 15 ls []) := by
    intro n7
    induction n7 with
    | zero =>
      intro v4 ow5 ls H locs hl hP hD hS hF
      exact of_none hF
    | succ n7 ih6 =>
      intro v4 ow5 ls H locs hl hP hD hS hF
      rw [L_X5_firstUnlike_15.eq_2] at hF
      refine lv_iload_n hx hb dX5_firstUnlike_15 rfl (lv_at hl 1 rfl) ?_
      refine lv_aload_n hx hb dX5_firstUnlike_16 rfl (lv_at hl 0 rfl) ?_
      refine va_get (D := D) (ci := 5) (v := .ref f_h) (C := RX5) (T := TX5) (N := 8) hx hb hts in_X5 hown hK hP 0 rfl rfl 3 (by decide) (hts _ wd_214) (fun _ h9 => h9) rfl dX5_firstUnlike_17 ?_
      refine va_get (D := D) (ci := 1) (v := .int (of 1 0)) (C := RX1) (T := TX1) (N := 2) hx hb hts in_X1 hown hK hP 6 rfl rfl 1 (by decide) (hts _ wd_102) (fun _ h9 => h9) rfl dX5_firstUnlike_20 ?_
      refine lv_icmp_ge (tgt := 59) hx hb dX5_firstUnlike_23 (by decide) (fun h8 => ?_) (fun h8 => ?_)
      · replace hF := of_t h8 hF
        exact hK2 ow5 ls _ _ (lv_sub hl [] rfl) hP hD hS hF
      · replace hF := of_f h8 hF
        refine lv_aload_n hx hb dX5_firstUnlike_26 rfl (lv_at hl 0 rfl) ?_
        refine va_get (D := D) (ci := 5) (v := .ref w_h) (C := RX5) (T := TX5) (N := 8) hx hb hts in_X5 hown hK hP 0 rfl rfl 4 (by decide) (hts _ wd_215) (fun _ h9 => h9) rfl dX5_firstUnlike_27 ?_
        obtain ⟨q9, hGq9, hF⟩ := of_bind hF
        refine callVv (As := []) (rest := []) (wr := [(x_h, .inr (5, [.ref c_h, .ref i_h, .ref k_h, .ref f_h, .ref w_h, .ref n_h, .ref s_h, .ref t_h])), (c_h, .inr (0, [.ref c_0, .ref c_1, .ref c_2, .ref c_3, .int (oc 4 0), .int (oc 5 0), .int (oc 6 0)])), (c_0, .inl (cZ, 8, .inl (oc 0))), (c_1, .inl (cI, 8, .inl (oc 1))), (c_2, .inl (cI, 8, .inl (oc 2))), (c_3, .inl (cI, 8, .inl (oc 3))), (f_h, .inr (1, [.ref f_0, .int (of 1 0)])), (f_0, .inl (cI, 40, .inl (of 0)))]) (WN := wm_X5_firstUnlike cI cZ cO x_h c_h i_h k_h f_h w_h n_h s_h t_h c_0 c_1 c_2 c_3 f_0 oc of q9) ⟨hx, hb, hml, hown, hts⟩ hK hP hD hS hA [8] [0, 1, 2, 3, 4, 5, 6, 7] [0, 1, 2, 3, 4, 5, 6, 7, 8] (c_X4_step l D cI cZ cO w_h _ ow5 q9 hGq9) (cwV 0 hts (gV wd_306 wd_307 wd_308 wd_36 wd_309) rfl rfl rfl (by decide +kernel) ⟨Nat.le_of_ble_eq_true rfl, Nat.le_of_ble_eq_true rfl⟩) 0 4 rfl rfl rfl rfl rfl rfl rfl (by decide) rfl rfl rfl hl.1 rfl (Nat.le_of_ble_eq_true rfl) dX5_firstUnlike_30 ⟨Nat.zero_le _, Nat.zero_le _⟩ (fun H locs hP hD hS => ?_)
        refine lv_aload_n hx hb dX5_firstUnlike_33 rfl (lv_at hl 0 rfl) ?_
        refine va_get (D := D) (ci := 5) (v := .ref f_h) (C := RX5) (T := TX5) (N := 8) hx hb hts in_X5 hown hK hP 0 rfl rfl 3 (by decide) (hts _ wd_214) (fun _ h9 => h9) rfl dX5_firstUnlike_34 ?_
        refine lv_iload_n hx hb dX5_firstUnlike_37 rfl (lv_at hl 1 rfl) ?_
        refine lv_aload_n hx hb dX5_firstUnlike_38 rfl (lv_at hl 0 rfl) ?_
        refine va_get (D := D) (ci := 5) (v := .ref w_h) (C := RX5) (T := TX5) (N := 8) hx hb hts in_X5 hown hK hP 0 rfl rfl 4 (by decide) (hts _ wd_215) (fun _ h9 => h9) rfl dX5_firstUnlike_39 ?_
        refine va_get (D := D) (ci := 4) (v := .int (q9 14 0)) (C := RX4) (T := TX4) (N := 16) hx hb hts in_X4 hown hK hP 8 rfl rfl 14 (by decide) (hts _ wd_134) (fun _ h9 => h9) rfl dX5_firstUnlike_42 ?_
        obtain ⟨q10, hGq10, hF⟩ := of_bind hF
        refine callVi (As := [.int v4, .int (q9 14 0)]) (rest := []) (wr := [(x_h, .inr (5, [.ref c_h, .ref i_h, .ref k_h, .ref f_h, .ref w_h, .ref n_h, .ref s_h, .ref t_h])), (c_h, .inr (0, [.ref c_0, .ref c_1, .ref c_2, .ref c_3, .int (oc 4 0), .int (oc 5 0), .int (oc 6 0)])), (c_0, .inl (cZ, 8, .inl (oc 0))), (c_1, .inl (cI, 8, .inl (oc 1))), (c_2, .inl (cI, 8, .inl (oc 2))), (c_3, .inl (cI, 8, .inl (oc 3))), (w_h, .inr (4, [.int (q9 0 0), .int (q9 1 0), .int (q9 2 0), .int (q9 3 0), .int (q9 4 0), .int (q9 5 0), .int (q9 6 0), .int (q9 7 0), .int (q9 8 0), .int (q9 9 0), .int (q9 10 0), .int (q9 11 0), .int (q9 12 0), .int (q9 13 0), .int (q9 14 0), .int (q9 15 0)]))]) (WN := wm_X5_firstUnlike cI cZ cO x_h c_h i_h k_h f_h w_h n_h s_h t_h c_0 c_1 c_2 c_3 f_0 oc of q9) ⟨hx, hb, hml, hown, hts⟩ hK hP hD hS hA [6, 7] [0, 1, 2, 3, 4, 5, 8] [0, 1, 2, 3, 4, 5, 7, 8, 6] (c_X1_canShow l D cI cZ cO f_h f_0 _ of v4 (q9 14 0) q10 hGq10) (cwV 2 hts (gV wd_479 wd_480 wd_481 wd_35 wd_482) rfl rfl rfl (by decide +kernel) ⟨Nat.le_of_ble_eq_true rfl, Nat.le_of_ble_eq_true rfl⟩) 0 1 rfl rfl rfl rfl rfl rfl rfl (by decide) rfl rfl rfl hl.1 rfl (Nat.le_of_ble_eq_true rfl) dX5_firstUnlike_45 ⟨Nat.zero_le _, Nat.zero_le _⟩ (fun H locs hP hD hS => ?_)
        refine lv_if_ne (tgt := 53) hx hb dX5_firstUnlike_48 (by decide) (fun h11 => ?_) (fun h11 => ?_)
        · replace hF := of_f h11 hF
          obtain ⟨v12, ev12⟩ : ∃ y : Int32, y = v4 + 1 := ⟨_, rfl⟩
          replace hF := of_dd hF v12 ev12
          refine lv_iinc (v := v12) (lv' := [(3, .int v12), (0, .ref x_h)]) hx hb dX5_firstUnlike_53 hl (k := 1) rfl (by rw [ev12]; rfl) (by decide) rfl (fun ls hl => ?_)
          refine lv_goto (tgt := 15) hx hb dX5_firstUnlike_56 (by decide) ?_
          exact ih6 v12 q9 ls _ _ (lv_sub hl [1, 0] rfl) hP hD hS hF
        · replace hF := of_t h11 hF
          refine lv_iload_n hx hb dX5_firstUnlike_51 rfl (lv_at hl 1 rfl) ?_
          exact hQ _ _ _ _ _ q9 ⟨inj_fst hF, inj_snd hF⟩ hP hD hS dX5_firstUnlike_52
  exact hloop13 2000 0 q1 ls _ _ (lv_sub hl [1, 0] rfl) hP hD hS hF

/-! ### ThreeLegs.judge(II)I -/
abbrev wm_X5_judge (cI cZ cO : ClassId) (x_h c_h i_h k_h f_h w_h n_h s_h t_h c_0 c_1 c_2 c_3 f_0 : Nat) (oc : Ob) (of : Ob) (ow : Ob) : va_W := [(x_h, .inr (5, [.ref c_h, .ref i_h, .ref k_h, .ref f_h, .ref w_h, .ref n_h, .ref s_h, .ref t_h])), (c_h, .inr (0, [.ref c_0, .ref c_1, .ref c_2, .ref c_3, .int (oc 4 0), .int (oc 5 0), .int (oc 6 0)])), (c_0, .inl (cZ, 8, .inl (oc 0))), (c_1, .inl (cI, 8, .inl (oc 1))), (c_2, .inl (cI, 8, .inl (oc 2))), (c_3, .inl (cI, 8, .inl (oc 3))), (f_h, .inr (1, [.ref f_0, .int (of 1 0)])), (f_0, .inl (cI, 40, .inl (of 0))), (w_h, .inr (4, [.int (ow 0 0), .int (ow 1 0), .int (ow 2 0), .int (ow 3 0), .int (ow 4 0), .int (ow 5 0), .int (ow 6 0), .int (ow 7 0), .int (ow 8 0), .int (ow 9 0), .int (ow 10 0), .int (ow 11 0), .int (ow 12 0), .int (ow 13 0), .int (ow 14 0), .int (ow 15 0)]))]
def F_X5_judge (oc : Ob) (of : Ob) (ow : Ob) (p0 : Int32) (p1 : Int32) : Option (Int32 × Ob) :=
  (F_X0_canTie oc p0 p1).bind (fun q1 => (if q1 = 0 then some ((-1), ow) else (F_X1_firstFault of).bind (fun q3 => (if q3 = (-6) then (F_X5_firstUnlike oc of ow p0 p1).bind (fun q5 => some (q5.1, q5.2)) else some ((-5), ow)))))
abbrev rm_X5_judge : Room := { frames := 4, cells := 0, slots := 0, locals := 89 }
abbrev wu_X5_judge : List Cond := .code yX5_judge cX5_judge 3 (some .int) :: lwG
set_option maxHeartbeats 20000000 in
set_option maxRecDepth 100000 in
theorem c_X5_judge (l : Launch) (D : va_G) (cI cZ cO : ClassId) (x_h c_h i_h k_h f_h w_h n_h s_h t_h c_0 c_1 c_2 c_3 f_0 : Nat) (sz : Nat) (oc : Ob) (of : Ob) (ow : Ob) (p0 : Int32) (p1 : Int32) (q : Int32 × Ob) (hF : F_X5_judge oc of ow p0 p1 = some q) : CtI l yX5_judge wu_X5_judge rm_X5_judge D vwCl (tyL cI cZ cO) [.ref x_h, .int p0, .int p1] (wm_X5_judge cI cZ cO x_h c_h i_h k_h f_h w_h n_h s_h t_h c_0 c_1 c_2 c_3 f_0 oc of ow) sz 0 0 (fun (r : Int32) (u : Ob) => r = q.1 ∧ u = q.2) (fun u => wm_X5_judge cI cZ cO x_h c_h i_h k_h f_h w_h n_h s_h t_h c_0 c_1 c_2 c_3 f_0 oc of u) := by
  refine mk_i (cc := cX5_judge) (maxL := 3) (by decide) rfl (Nat.le_of_ble_eq_true rfl) ?_
  intro p e s m args below meth c A ls Q hx hb hml hown hts hin hK hP hD hS hA hl hQ
  have hl : lv_has ls 3 [(0, .ref x_h), (1, .int p0), (2, .int p1)] := hl
  unfold F_X5_judge at hF
  refine lv_aload_n hx hb dX5_judge_0 rfl (lv_at hl 0 rfl) ?_
  refine va_get (D := D) (ci := 5) (v := .ref c_h) (C := RX5) (T := TX5) (N := 8) hx hb hts in_X5 hown hK hP 0 rfl rfl 0 (by decide) (hts _ wd_211) (fun _ h9 => h9) rfl dX5_judge_1 ?_
  refine lv_iload_n hx hb dX5_judge_4 rfl (lv_at hl 1 rfl) ?_
  refine lv_iload_n hx hb dX5_judge_5 rfl (lv_at hl 2 rfl) ?_
  obtain ⟨q1, hGq1, hF⟩ := of_bind hF
  refine callVi (As := [.int p0, .int p1]) (rest := []) (wr := [(x_h, .inr (5, [.ref c_h, .ref i_h, .ref k_h, .ref f_h, .ref w_h, .ref n_h, .ref s_h, .ref t_h])), (f_h, .inr (1, [.ref f_0, .int (of 1 0)])), (f_0, .inl (cI, 40, .inl (of 0))), (w_h, .inr (4, [.int (ow 0 0), .int (ow 1 0), .int (ow 2 0), .int (ow 3 0), .int (ow 4 0), .int (ow 5 0), .int (ow 6 0), .int (ow 7 0), .int (ow 8 0), .int (ow 9 0), .int (ow 10 0), .int (ow 11 0), .int (ow 12 0), .int (ow 13 0), .int (ow 14 0), .int (ow 15 0)]))]) (WN := wm_X5_judge cI cZ cO x_h c_h i_h k_h f_h w_h n_h s_h t_h c_0 c_1 c_2 c_3 f_0 oc of ow) ⟨hx, hb, hml, hown, hts⟩ hK hP hD hS hA [1, 2, 3, 4, 5] [0, 6, 7, 8] [0, 4, 5, 6, 7, 8, 1, 2, 3] (c_X0_canTie l D cI cZ cO c_h c_0 c_1 c_2 c_3 _ oc p0 p1 q1 hGq1) (cwV 2 hts (gV wd_294 wd_295 wd_296 wd_34 wd_297) rfl rfl rfl (by decide +kernel) ⟨Nat.le_of_ble_eq_true rfl, Nat.le_of_ble_eq_true rfl⟩) 0 0 rfl rfl rfl rfl rfl rfl rfl (by decide) rfl rfl rfl hl.1 rfl (Nat.le_of_ble_eq_true rfl) dX5_judge_6 ⟨Nat.zero_le _, Nat.zero_le _⟩ (fun H locs hP hD hS => ?_)
  refine lv_if_ne (tgt := 14) hx hb dX5_judge_9 (by decide) (fun h2 => ?_) (fun h2 => ?_)
  · replace hF := of_f h2 hF
    refine lv_aload_n hx hb dX5_judge_14 rfl (lv_at hl 0 rfl) ?_
    refine va_get (D := D) (ci := 5) (v := .ref f_h) (C := RX5) (T := TX5) (N := 8) hx hb hts in_X5 hown hK hP 0 rfl rfl 3 (by decide) (hts _ wd_214) (fun _ h9 => h9) rfl dX5_judge_15 ?_
    obtain ⟨q3, hGq3, hF⟩ := of_bind hF
    refine callVi (As := []) (rest := []) (wr := [(x_h, .inr (5, [.ref c_h, .ref i_h, .ref k_h, .ref f_h, .ref w_h, .ref n_h, .ref s_h, .ref t_h])), (c_h, .inr (0, [.ref c_0, .ref c_1, .ref c_2, .ref c_3, .int (oc 4 0), .int (oc 5 0), .int (oc 6 0)])), (c_0, .inl (cZ, 8, .inl (oc 0))), (c_1, .inl (cI, 8, .inl (oc 1))), (c_2, .inl (cI, 8, .inl (oc 2))), (c_3, .inl (cI, 8, .inl (oc 3))), (w_h, .inr (4, [.int (ow 0 0), .int (ow 1 0), .int (ow 2 0), .int (ow 3 0), .int (ow 4 0), .int (ow 5 0), .int (ow 6 0), .int (ow 7 0), .int (ow 8 0), .int (ow 9 0), .int (ow 10 0), .int (ow 11 0), .int (ow 12 0), .int (ow 13 0), .int (ow 14 0), .int (ow 15 0)]))]) (WN := wm_X5_judge cI cZ cO x_h c_h i_h k_h f_h w_h n_h s_h t_h c_0 c_1 c_2 c_3 f_0 oc of ow) ⟨hx, hb, hml, hown, hts⟩ hK hP hD hS hA [6, 7] [0, 1, 2, 3, 4, 5, 8] [0, 1, 2, 3, 4, 5, 7, 8, 6] (c_X1_firstFault l D cI cZ cO f_h f_0 _ of q3 hGq3) (cwV 0 hts (gV wd_467 wd_468 wd_469 wd_35 wd_470) rfl rfl rfl (by decide +kernel) ⟨Nat.le_of_ble_eq_true rfl, Nat.le_of_ble_eq_true rfl⟩) 0 1 rfl rfl rfl rfl rfl rfl rfl (by decide) rfl rfl rfl hl.1 rfl (Nat.le_of_ble_eq_true rfl) dX5_judge_18 ⟨Nat.zero_le _, Nat.zero_le _⟩ (fun H locs hP hD hS => ?_)
    refine lv_bipush (v := (-6)) hx hb dX5_judge_21 (by decide) ?_
    refine lv_icmp_eq (tgt := 29) hx hb dX5_judge_23 (by decide) (fun h4 => ?_) (fun h4 => ?_)
    · replace hF := of_t h4 hF
      refine lv_aload_n hx hb dX5_judge_29 rfl (lv_at hl 0 rfl) ?_
      refine lv_iload_n hx hb dX5_judge_30 rfl (lv_at hl 1 rfl) ?_
      refine lv_iload_n hx hb dX5_judge_31 rfl (lv_at hl 2 rfl) ?_
      obtain ⟨q5, hGq5, hF⟩ := of_bind hF
      refine callVi (As := [.int p0, .int p1]) (rest := []) (wr := []) (WN := wm_X5_judge cI cZ cO x_h c_h i_h k_h f_h w_h n_h s_h t_h c_0 c_1 c_2 c_3 f_0 oc of q5.2) ⟨hx, hb, hml, hown, hts⟩ hK hP hD hS hA [0, 1, 2, 3, 4, 5, 6, 7, 8] [] [0, 1, 2, 3, 4, 5, 6, 7, 8] (c_X5_firstUnlike l D cI cZ cO x_h c_h i_h k_h f_h w_h n_h s_h t_h c_0 c_1 c_2 c_3 f_0 _ oc of ow p0 p1 q5 hGq5) (cwV 2 hts (gV wd_475 wd_477 wd_12 wd_33 wd_478) rfl rfl rfl (by decide +kernel) ⟨Nat.le_of_ble_eq_true rfl, Nat.le_of_ble_eq_true rfl⟩) 0 5 rfl rfl rfl rfl rfl rfl rfl (by decide) rfl rfl rfl hl.1 rfl (Nat.le_of_ble_eq_true rfl) dX5_judge_32 ⟨Nat.zero_le _, Nat.zero_le _⟩ (fun H locs hP hD hS => ?_)
      exact hQ _ _ _ _ _ q5.2 ⟨inj_fst hF, inj_snd hF⟩ hP hD hS dX5_judge_35
    · replace hF := of_f h4 hF
      refine lv_bipush (v := (-5)) hx hb dX5_judge_26 (by decide) ?_
      exact hQ _ _ _ _ _ ow ⟨inj_fst hF, inj_snd hF⟩ hP hD hS dX5_judge_28
  · replace hF := of_t h2 hF
    refine lv_iconst (v := (-1)) hx hb dX5_judge_12 (by decide) ?_
    exact hQ _ _ _ _ _ ow ⟨inj_fst hF, inj_snd hF⟩ hP hD hS dX5_judge_13

/-! ### ThreeLegs.fits(I)I -/
abbrev wm_X5_fits (cI cZ cO : ClassId) (x_h c_h i_h k_h f_h w_h n_h s_h t_h c_0 c_1 c_2 c_3 f_0 : Nat) (oc : Ob) (of : Ob) (ow : Ob) : va_W := [(x_h, .inr (5, [.ref c_h, .ref i_h, .ref k_h, .ref f_h, .ref w_h, .ref n_h, .ref s_h, .ref t_h])), (c_h, .inr (0, [.ref c_0, .ref c_1, .ref c_2, .ref c_3, .int (oc 4 0), .int (oc 5 0), .int (oc 6 0)])), (c_0, .inl (cZ, 8, .inl (oc 0))), (c_1, .inl (cI, 8, .inl (oc 1))), (c_2, .inl (cI, 8, .inl (oc 2))), (c_3, .inl (cI, 8, .inl (oc 3))), (f_h, .inr (1, [.ref f_0, .int (of 1 0)])), (f_0, .inl (cI, 40, .inl (of 0))), (w_h, .inr (4, [.int (ow 0 0), .int (ow 1 0), .int (ow 2 0), .int (ow 3 0), .int (ow 4 0), .int (ow 5 0), .int (ow 6 0), .int (ow 7 0), .int (ow 8 0), .int (ow 9 0), .int (ow 10 0), .int (ow 11 0), .int (ow 12 0), .int (ow 13 0), .int (ow 14 0), .int (ow 15 0)]))]
def L_X5_fits_30 : Nat → Int32 → Int32 → Ob → Ob → Int32 → Int32 → Ob → (Int32 → Ob → Option (Int32 × Ob)) → Option (Int32 × Ob)
  | 0, _, _, _, _, _, _, _, _ => none
  | n22 + 1, p0, v8, oc, of, v18, v19, ow20, K14 =>
    (if 8 ≤ v19 then K14 v18 ow20 else (F_X0_canTie oc v8 v19).bind (fun q24 => (if q24 = 0 then dd (v19 + 1) (fun (v26 : Int32) => L_X5_fits_30 n22 p0 v8 oc of v18 v26 ow20 K14) else (F_X5_firstUnlike oc of ow20 v8 v19).bind (fun q27 => (if q27.1 = (-6) then (if v18 = p0 then dd (10 * v8) (fun (v33 : Int32) => dd (v33 + v19) (fun (v34 : Int32) => some (v34, q27.2))) else dd (v18 + 1) (fun (v31 : Int32) => dd (v19 + 1) (fun (v32 : Int32) => L_X5_fits_30 n22 p0 v8 oc of v31 v32 q27.2 K14))) else dd (v19 + 1) (fun (v29 : Int32) => L_X5_fits_30 n22 p0 v8 oc of v18 v29 q27.2 K14))))))
def L_X5_fits_19 : Nat → Int32 → Ob → Ob → Int32 → Int32 → Ob → (Int32 → Ob → Option (Int32 × Ob)) → Option (Int32 × Ob)
  | 0, _, _, _, _, _, _, _ => none
  | n11 + 1, p0, oc, of, v7, v8, ow9, K3 =>
    (if 8 ≤ v8 then K3 v7 ow9 else dd (v8 + 1) (fun (v13 : Int32) => jn (fun (v15 : Int32) (ow16 : Ob) => dd (v8 + 1) (fun (v17 : Int32) => L_X5_fits_19 n11 p0 oc of v15 v17 ow16 K3)) (fun (K14 : Int32 → Ob → Option (Int32 × Ob)) => L_X5_fits_30 2000 p0 v8 oc of v7 v13 ow9 K14)))
def F_X5_fits (oc : Ob) (of : Ob) (ow : Ob) (p0 : Int32) : Option (Int32 × Ob) :=
  (F_X1_firstFault of).bind (fun q1 => (if q1 = (-6) then jn (fun (v4 : Int32) (ow5 : Ob) => (if p0 = (-1) then some (v4, ow5) else some ((-6), ow5))) (fun (K3 : Int32 → Ob → Option (Int32 × Ob)) => L_X5_fits_19 2000 p0 oc of 0 0 ow K3) else some ((-5), ow)))
abbrev rm_X5_fits : Room := { frames := 4, cells := 0, slots := 0, locals := 89 }
abbrev wu_X5_fits : List Cond := .code yX5_fits cX5_fits 5 (some .int) :: lwG
set_option maxHeartbeats 20000000 in
set_option maxRecDepth 100000 in
theorem c_X5_fits (l : Launch) (D : va_G) (cI cZ cO : ClassId) (x_h c_h i_h k_h f_h w_h n_h s_h t_h c_0 c_1 c_2 c_3 f_0 : Nat) (sz : Nat) (oc : Ob) (of : Ob) (ow : Ob) (p0 : Int32) (q : Int32 × Ob) (hF : F_X5_fits oc of ow p0 = some q) : CtI l yX5_fits wu_X5_fits rm_X5_fits D vwCl (tyL cI cZ cO) [.ref x_h, .int p0] (wm_X5_fits cI cZ cO x_h c_h i_h k_h f_h w_h n_h s_h t_h c_0 c_1 c_2 c_3 f_0 oc of ow) sz 0 0 (fun (r : Int32) (u : Ob) => r = q.1 ∧ u = q.2) (fun u => wm_X5_fits cI cZ cO x_h c_h i_h k_h f_h w_h n_h s_h t_h c_0 c_1 c_2 c_3 f_0 oc of u) := by
  refine mk_i (cc := cX5_fits) (maxL := 5) (by decide) rfl (Nat.le_of_ble_eq_true rfl) ?_
  intro p e s m args below meth c A ls Q hx hb hml hown hts hin hK hP hD hS hA hl hQ
  have hl : lv_has ls 5 [(0, .ref x_h), (1, .int p0)] := hl
  unfold F_X5_fits at hF
  refine lv_aload_n hx hb dX5_fits_0 rfl (lv_at hl 0 rfl) ?_
  refine va_get (D := D) (ci := 5) (v := .ref f_h) (C := RX5) (T := TX5) (N := 8) hx hb hts in_X5 hown hK hP 0 rfl rfl 3 (by decide) (hts _ wd_214) (fun _ h9 => h9) rfl dX5_fits_1 ?_
  obtain ⟨q1, hGq1, hF⟩ := of_bind hF
  refine callVi (As := []) (rest := []) (wr := [(x_h, .inr (5, [.ref c_h, .ref i_h, .ref k_h, .ref f_h, .ref w_h, .ref n_h, .ref s_h, .ref t_h])), (c_h, .inr (0, [.ref c_0, .ref c_1, .ref c_2, .ref c_3, .int (oc 4 0), .int (oc 5 0), .int (oc 6 0)])), (c_0, .inl (cZ, 8, .inl (oc 0))), (c_1, .inl (cI, 8, .inl (oc 1))), (c_2, .inl (cI, 8, .inl (oc 2))), (c_3, .inl (cI, 8, .inl (oc 3))), (w_h, .inr (4, [.int (ow 0 0), .int (ow 1 0), .int (ow 2 0), .int (ow 3 0), .int (ow 4 0), .int (ow 5 0), .int (ow 6 0), .int (ow 7 0), .int (ow 8 0), .int (ow 9 0), .int (ow 10 0), .int (ow 11 0), .int (ow 12 0), .int (ow 13 0), .int (ow 14 0), .int (ow 15 0)]))]) (WN := wm_X5_fits cI cZ cO x_h c_h i_h k_h f_h w_h n_h s_h t_h c_0 c_1 c_2 c_3 f_0 oc of ow) ⟨hx, hb, hml, hown, hts⟩ hK hP hD hS hA [6, 7] [0, 1, 2, 3, 4, 5, 8] [0, 1, 2, 3, 4, 5, 7, 8, 6] (c_X1_firstFault l D cI cZ cO f_h f_0 _ of q1 hGq1) (cwV 0 hts (gV wd_467 wd_468 wd_469 wd_35 wd_470) rfl rfl rfl (by decide +kernel) ⟨Nat.le_of_ble_eq_true rfl, Nat.le_of_ble_eq_true rfl⟩) 0 1 rfl rfl rfl rfl rfl rfl rfl (by decide) rfl rfl rfl hl.1 rfl (Nat.le_of_ble_eq_true rfl) dX5_fits_4 ⟨Nat.zero_le _, Nat.zero_le _⟩ (fun H locs hP hD hS => ?_)
  refine lv_bipush (v := (-6)) hx hb dX5_fits_7 (by decide) ?_
  refine lv_icmp_eq (tgt := 15) hx hb dX5_fits_9 (by decide) (fun h2 => ?_) (fun h2 => ?_)
  · replace hF := of_t h2 hF
    refine lv_iconst (v := 0) hx hb dX5_fits_15 (by decide) ?_
    refine lv_istore_n (lv' := [(2, .int 0), (0, .ref x_h), (1, .int p0)]) hx hb dX5_fits_16 rfl hl (by decide) rfl (fun ls hl => ?_)
    refine lv_iconst (v := 0) hx hb dX5_fits_17 (by decide) ?_
    refine lv_istore_n (lv' := [(3, .int 0), (2, .int 0), (0, .ref x_h), (1, .int p0)]) hx hb dX5_fits_18 rfl hl (by decide) rfl (fun ls hl => ?_)
    obtain ⟨K3, eK3, hF⟩ := of_jn hF
    have hK3 : ∀ (v4 : Int32) (ow5 : Ob) (ls : Array Slot) (H : Heap) (locs : List Loc), lv_has ls 5 [(1, .int p0), (2, .int v4)] → va_P D vwCl (wm_X5_fits cI cZ cO x_h c_h i_h k_h f_h w_h n_h s_h t_h c_0 c_1 c_2 c_3 f_0 oc of ow5) H → va_D A (wm_X5_fits cI cZ cO x_h c_h i_h k_h f_h w_h n_h s_h t_h c_0 c_1 c_2 c_3 f_0 oc of ow5) → va_S A s.heap H locs → K3 v4 ow5 = some q → W p l e rm_X5_fits s m args below meth c H locs 0 0 Q (F0 m 90 ls []) := by
      intro v4 ow5 ls H locs hl hP hD hS hF
      subst eK3
      refine lv_iload_n hx hb dX5_fits_90 rfl (lv_at hl 0 rfl) ?_
      refine lv_iconst (v := (-1)) hx hb dX5_fits_91 (by decide) ?_
      refine lv_icmp_ne (tgt := 99) hx hb dX5_fits_92 (by decide) (fun h6 => ?_) (fun h6 => ?_)
      · replace hF := of_f h6 hF
        refine lv_bipush (v := (-6)) hx hb dX5_fits_99 (by decide) ?_
        exact hQ _ _ _ _ _ ow5 ⟨inj_fst hF, inj_snd hF⟩ hP hD hS dX5_fits_101
      · replace hF := of_t h6 hF
        refine lv_iload_n hx hb dX5_fits_95 rfl (lv_at hl 1 rfl) ?_
        refine lv_goto (tgt := 101) hx hb dX5_fits_96 (by decide) ?_
        exact hQ _ _ _ _ _ ow5 ⟨inj_fst hF, inj_snd hF⟩ hP hD hS dX5_fits_101
    have hloop36 : ∀ (n11 : Nat) (v7 : Int32) (v8 : Int32) (ow9 : Ob) (ls : Array Slot) (H : Heap) (locs : List Loc), lv_has ls 5 [(0, .ref x_h), (1, .int p0), (2, .int v7), (3, .int v8)] → va_P D vwCl (wm_X5_fits cI cZ cO x_h c_h i_h k_h f_h w_h n_h s_h t_h c_0 c_1 c_2 c_3 f_0 oc of ow9) H → va_D A (wm_X5_fits cI cZ cO x_h c_h i_h k_h f_h w_h n_h s_h t_h c_0 c_1 c_2 c_3 f_0 oc of ow9) → va_S A s.heap H locs → L_X5_fits_19 n11 p0 oc of v7 v8 ow9 K3 = some q → W p l e rm_X5_fits s m args below meth c H locs 0 0 Q (F0 m 19 ls []) := by
      intro n11
      induction n11 with
      | zero =>
        intro v7 v8 ow9 ls H locs hl hP hD hS hF
        exact of_none hF
      | succ n11 ih10 =>
        intro v7 v8 ow9 ls H locs hl hP hD hS hF
        rw [L_X5_fits_19.eq_2] at hF
        refine lv_iload_n hx hb dX5_fits_19 rfl (lv_at hl 3 rfl) ?_
        refine lv_bipush (v := 8) hx hb dX5_fits_20 (by decide) ?_
        refine lv_icmp_ge (tgt := 90) hx hb dX5_fits_22 (by decide) (fun h12 => ?_) (fun h12 => ?_)
        · replace hF := of_t h12 hF
          exact hK3 v7 ow9 ls _ _ (lv_sub hl [1, 2] rfl) hP hD hS hF
        · replace hF := of_f h12 hF
          refine lv_iload_n hx hb dX5_fits_25 rfl (lv_at hl 3 rfl) ?_
          refine lv_iconst (v := 1) hx hb dX5_fits_26 (by decide) ?_
          refine lv_iadd hx hb dX5_fits_27 ?_
          refine lv_topi (fun v13 ev13 => ?_)
          replace hF := of_dd hF v13 ev13
          refine lv_istore (lv' := [(4, .int v13), (0, .ref x_h), (1, .int p0), (2, .int v7), (3, .int v8)]) hx hb dX5_fits_28 hl (by decide) rfl (fun ls hl => ?_)
          obtain ⟨K14, eK14, hF⟩ := of_jn hF
          have hK14 : ∀ (v15 : Int32) (ow16 : Ob) (ls : Array Slot) (H : Heap) (locs : List Loc), lv_has ls 5 [(0, .ref x_h), (1, .int p0), (2, .int v15), (3, .int v8)] → va_P D vwCl (wm_X5_fits cI cZ cO x_h c_h i_h k_h f_h w_h n_h s_h t_h c_0 c_1 c_2 c_3 f_0 oc of ow16) H → va_D A (wm_X5_fits cI cZ cO x_h c_h i_h k_h f_h w_h n_h s_h t_h c_0 c_1 c_2 c_3 f_0 oc of ow16) → va_S A s.heap H locs → K14 v15 ow16 = some q → W p l e rm_X5_fits s m args below meth c H locs 0 0 Q (F0 m 84 ls []) := by
            intro v15 ow16 ls H locs hl hP hD hS hF
            subst eK14
            obtain ⟨v17, ev17⟩ : ∃ y : Int32, y = v8 + 1 := ⟨_, rfl⟩
            replace hF := of_dd hF v17 ev17
            refine lv_iinc (v := v17) (lv' := [(3, .int v17), (0, .ref x_h), (1, .int p0), (2, .int v15)]) hx hb dX5_fits_84 hl (k := 3) rfl (by rw [ev17]; rfl) (by decide) rfl (fun ls hl => ?_)
            refine lv_goto (tgt := 19) hx hb dX5_fits_87 (by decide) ?_
            exact ih10 v15 v17 ow16 ls _ _ (lv_sub hl [1, 2, 3, 0] rfl) hP hD hS hF
          have hloop35 : ∀ (n22 : Nat) (v18 : Int32) (v19 : Int32) (ow20 : Ob) (ls : Array Slot) (H : Heap) (locs : List Loc), lv_has ls 5 [(0, .ref x_h), (1, .int p0), (2, .int v18), (3, .int v8), (4, .int v19)] → va_P D vwCl (wm_X5_fits cI cZ cO x_h c_h i_h k_h f_h w_h n_h s_h t_h c_0 c_1 c_2 c_3 f_0 oc of ow20) H → va_D A (wm_X5_fits cI cZ cO x_h c_h i_h k_h f_h w_h n_h s_h t_h c_0 c_1 c_2 c_3 f_0 oc of ow20) → va_S A s.heap H locs → L_X5_fits_30 n22 p0 v8 oc of v18 v19 ow20 K14 = some q → W p l e rm_X5_fits s m args below meth c H locs 0 0 Q (F0 m 30 ls []) := by
            intro n22
            induction n22 with
            | zero =>
              intro v18 v19 ow20 ls H locs hl hP hD hS hF
              exact of_none hF
            | succ n22 ih21 =>
              intro v18 v19 ow20 ls H locs hl hP hD hS hF
              rw [L_X5_fits_30.eq_2] at hF
              refine lv_iload hx hb dX5_fits_30 (lv_at hl 4 rfl) ?_
              refine lv_bipush (v := 8) hx hb dX5_fits_32 (by decide) ?_
              refine lv_icmp_ge (tgt := 84) hx hb dX5_fits_34 (by decide) (fun h23 => ?_) (fun h23 => ?_)
              · replace hF := of_t h23 hF
                exact hK14 v18 ow20 ls _ _ (lv_sub hl [0, 1, 2, 3] rfl) hP hD hS hF
              · replace hF := of_f h23 hF
                refine lv_aload_n hx hb dX5_fits_37 rfl (lv_at hl 0 rfl) ?_
                refine va_get (D := D) (ci := 5) (v := .ref c_h) (C := RX5) (T := TX5) (N := 8) hx hb hts in_X5 hown hK hP 0 rfl rfl 0 (by decide) (hts _ wd_211) (fun _ h9 => h9) rfl dX5_fits_38 ?_
                refine lv_iload_n hx hb dX5_fits_41 rfl (lv_at hl 3 rfl) ?_
                refine lv_iload hx hb dX5_fits_42 (lv_at hl 4 rfl) ?_
                obtain ⟨q24, hGq24, hF⟩ := of_bind hF
                refine callVi (As := [.int v8, .int v19]) (rest := []) (wr := [(x_h, .inr (5, [.ref c_h, .ref i_h, .ref k_h, .ref f_h, .ref w_h, .ref n_h, .ref s_h, .ref t_h])), (f_h, .inr (1, [.ref f_0, .int (of 1 0)])), (f_0, .inl (cI, 40, .inl (of 0))), (w_h, .inr (4, [.int (ow20 0 0), .int (ow20 1 0), .int (ow20 2 0), .int (ow20 3 0), .int (ow20 4 0), .int (ow20 5 0), .int (ow20 6 0), .int (ow20 7 0), .int (ow20 8 0), .int (ow20 9 0), .int (ow20 10 0), .int (ow20 11 0), .int (ow20 12 0), .int (ow20 13 0), .int (ow20 14 0), .int (ow20 15 0)]))]) (WN := wm_X5_fits cI cZ cO x_h c_h i_h k_h f_h w_h n_h s_h t_h c_0 c_1 c_2 c_3 f_0 oc of ow20) ⟨hx, hb, hml, hown, hts⟩ hK hP hD hS hA [1, 2, 3, 4, 5] [0, 6, 7, 8] [0, 4, 5, 6, 7, 8, 1, 2, 3] (c_X0_canTie l D cI cZ cO c_h c_0 c_1 c_2 c_3 _ oc v8 v19 q24 hGq24) (cwV 2 hts (gV wd_294 wd_295 wd_296 wd_34 wd_297) rfl rfl rfl (by decide +kernel) ⟨Nat.le_of_ble_eq_true rfl, Nat.le_of_ble_eq_true rfl⟩) 0 0 rfl rfl rfl rfl rfl rfl rfl (by decide) rfl rfl rfl hl.1 rfl (Nat.le_of_ble_eq_true rfl) dX5_fits_44 ⟨Nat.zero_le _, Nat.zero_le _⟩ (fun H locs hP hD hS => ?_)
                refine lv_if_eq (tgt := 78) hx hb dX5_fits_47 (by decide) (fun h25 => ?_) (fun h25 => ?_)
                · replace hF := of_t h25 hF
                  obtain ⟨v26, ev26⟩ : ∃ y : Int32, y = v19 + 1 := ⟨_, rfl⟩
                  replace hF := of_dd hF v26 ev26
                  refine lv_iinc (v := v26) (lv' := [(4, .int v26), (0, .ref x_h), (1, .int p0), (2, .int v18), (3, .int v8)]) hx hb dX5_fits_78 hl (k := 4) rfl (by rw [ev26]; rfl) (by decide) rfl (fun ls hl => ?_)
                  refine lv_goto (tgt := 30) hx hb dX5_fits_81 (by decide) ?_
                  exact ih21 v18 v26 ow20 ls _ _ (lv_sub hl [1, 2, 3, 4, 0] rfl) hP hD hS hF
                · replace hF := of_f h25 hF
                  refine lv_aload_n hx hb dX5_fits_50 rfl (lv_at hl 0 rfl) ?_
                  refine lv_iload_n hx hb dX5_fits_51 rfl (lv_at hl 3 rfl) ?_
                  refine lv_iload hx hb dX5_fits_52 (lv_at hl 4 rfl) ?_
                  obtain ⟨q27, hGq27, hF⟩ := of_bind hF
                  refine callVi (As := [.int v8, .int v19]) (rest := []) (wr := []) (WN := wm_X5_fits cI cZ cO x_h c_h i_h k_h f_h w_h n_h s_h t_h c_0 c_1 c_2 c_3 f_0 oc of q27.2) ⟨hx, hb, hml, hown, hts⟩ hK hP hD hS hA [0, 1, 2, 3, 4, 5, 6, 7, 8] [] [0, 1, 2, 3, 4, 5, 6, 7, 8] (c_X5_firstUnlike l D cI cZ cO x_h c_h i_h k_h f_h w_h n_h s_h t_h c_0 c_1 c_2 c_3 f_0 _ oc of ow20 v8 v19 q27 hGq27) (cwV 2 hts (gV wd_475 wd_477 wd_12 wd_33 wd_478) rfl rfl rfl (by decide +kernel) ⟨Nat.le_of_ble_eq_true rfl, Nat.le_of_ble_eq_true rfl⟩) 0 5 rfl rfl rfl rfl rfl rfl rfl (by decide) rfl rfl rfl hl.1 rfl (Nat.le_of_ble_eq_true rfl) dX5_fits_54 ⟨Nat.zero_le _, Nat.zero_le _⟩ (fun H locs hP hD hS => ?_)
                  refine lv_bipush (v := (-6)) hx hb dX5_fits_57 (by decide) ?_
                  refine lv_icmp_ne (tgt := 78) hx hb dX5_fits_59 (by decide) (fun h28 => ?_) (fun h28 => ?_)
                  · replace hF := of_f h28 hF
                    obtain ⟨v29, ev29⟩ : ∃ y : Int32, y = v19 + 1 := ⟨_, rfl⟩
                    replace hF := of_dd hF v29 ev29
                    refine lv_iinc (v := v29) (lv' := [(4, .int v29), (0, .ref x_h), (1, .int p0), (2, .int v18), (3, .int v8)]) hx hb dX5_fits_78 hl (k := 4) rfl (by rw [ev29]; rfl) (by decide) rfl (fun ls hl => ?_)
                    refine lv_goto (tgt := 30) hx hb dX5_fits_81 (by decide) ?_
                    exact ih21 v18 v29 q27.2 ls _ _ (lv_sub hl [1, 2, 3, 4, 0] rfl) hP hD hS hF
                  · replace hF := of_t h28 hF
                    refine lv_iload_n hx hb dX5_fits_62 rfl (lv_at hl 2 rfl) ?_
                    refine lv_iload_n hx hb dX5_fits_63 rfl (lv_at hl 1 rfl) ?_
                    refine lv_icmp_ne (tgt := 75) hx hb dX5_fits_64 (by decide) (fun h30 => ?_) (fun h30 => ?_)
                    · replace hF := of_f h30 hF
                      obtain ⟨v31, ev31⟩ : ∃ y : Int32, y = v18 + 1 := ⟨_, rfl⟩
                      replace hF := of_dd hF v31 ev31
                      refine lv_iinc (v := v31) (lv' := [(2, .int v31), (0, .ref x_h), (1, .int p0), (3, .int v8), (4, .int v19)]) hx hb dX5_fits_75 hl (k := 2) rfl (by rw [ev31]; rfl) (by decide) rfl (fun ls hl => ?_)
                      obtain ⟨v32, ev32⟩ : ∃ y : Int32, y = v19 + 1 := ⟨_, rfl⟩
                      replace hF := of_dd hF v32 ev32
                      refine lv_iinc (v := v32) (lv' := [(4, .int v32), (2, .int v31), (0, .ref x_h), (1, .int p0), (3, .int v8)]) hx hb dX5_fits_78 hl (k := 4) rfl (by rw [ev32]; rfl) (by decide) rfl (fun ls hl => ?_)
                      refine lv_goto (tgt := 30) hx hb dX5_fits_81 (by decide) ?_
                      exact ih21 v31 v32 q27.2 ls _ _ (lv_sub hl [2, 3, 1, 4, 0] rfl) hP hD hS hF
                    · replace hF := of_t h30 hF
                      refine lv_bipush (v := 10) hx hb dX5_fits_67 (by decide) ?_
                      refine lv_iload_n hx hb dX5_fits_69 rfl (lv_at hl 3 rfl) ?_
                      refine lv_imul hx hb dX5_fits_70 ?_
                      refine lv_topi (fun v33 ev33 => ?_)
                      replace hF := of_dd hF v33 ev33
                      refine lv_iload hx hb dX5_fits_71 (lv_at hl 4 rfl) ?_
                      refine lv_iadd hx hb dX5_fits_73 ?_
                      refine lv_topi (fun v34 ev34 => ?_)
                      replace hF := of_dd hF v34 ev34
                      exact hQ _ _ _ _ _ q27.2 ⟨inj_fst hF, inj_snd hF⟩ hP hD hS dX5_fits_74
          exact hloop35 2000 v7 v13 ow9 ls _ _ (lv_sub hl [1, 2, 3, 4, 0] rfl) hP hD hS hF
    exact hloop36 2000 0 0 ow ls _ _ (lv_sub hl [2, 3, 1, 0] rfl) hP hD hS hF
  · replace hF := of_f h2 hF
    refine lv_bipush (v := (-5)) hx hb dX5_fits_12 (by decide) ?_
    exact hQ _ _ _ _ _ ow ⟨inj_fst hF, inj_snd hF⟩ hP hD hS dX5_fits_14

/-! ### ThreeLegs.year(IIII)I -/
abbrev wm_X5_year (cI cZ cO : ClassId) (x_h c_h i_h k_h f_h w_h n_h s_h t_h c_0 c_1 c_2 c_3 : Nat) (oc : Ob) (ow : Ob) (os : Ob) (ot : (Nat → Int32)) : va_W := [(x_h, .inr (5, [.ref c_h, .ref i_h, .ref k_h, .ref f_h, .ref w_h, .ref n_h, .ref s_h, .ref t_h])), (c_h, .inr (0, [.ref c_0, .ref c_1, .ref c_2, .ref c_3, .int (oc 4 0), .int (oc 5 0), .int (oc 6 0)])), (c_0, .inl (cZ, 8, .inl (oc 0))), (c_1, .inl (cI, 8, .inl (oc 1))), (c_2, .inl (cI, 8, .inl (oc 2))), (c_3, .inl (cI, 8, .inl (oc 3))), (w_h, .inr (4, [.int (ow 0 0), .int (ow 1 0), .int (ow 2 0), .int (ow 3 0), .int (ow 4 0), .int (ow 5 0), .int (ow 6 0), .int (ow 7 0), .int (ow 8 0), .int (ow 9 0), .int (ow 10 0), .int (ow 11 0), .int (ow 12 0), .int (ow 13 0), .int (ow 14 0), .int (ow 15 0)])), (s_h, .inr (3, [.int (os 0 0), .int (os 1 0)])), (t_h, .inl (cI, 64, .inl ot))]
def L_X5_year_66 : Nat → Int32 → Int32 → Ob → (Nat → Int32) → Int32 → Int32 → Int32 → Int32 → Ob → (Int32 → Int32 → Ob → Option (Int32 × Ob × Ob × (Nat → Int32))) → Option (Int32 × Ob × Ob × (Nat → Int32))
  | 0, _, _, _, _, _, _, _, _, _, _ => none
  | n61 + 1, p1, p3, oc, ot48, v55, v56, v57, v58, os59, K49 =>
    (if p1 ≤ v58 then K49 v55 v56 os59 else dd (75 * v57) (fun (v63 : Int32) => dd (v63 + 74) (fun (v64 : Int32) => dd (v64 - v64 / 65537 * 65537) (fun (v65 : Int32) => dd (v65 - v65 / 8 * 8) (fun (v66 : Int32) => dd (v65 / 8) (fun (v67 : Int32) => dd (v67 - v67 / 8 * 8) (fun (v68 : Int32) => (F_X0_canTie oc v66 v68).bind (fun q69 => (if q69 = 0 then dd (v58 + 1) (fun (v71 : Int32) => L_X5_year_66 n61 p1 p3 oc ot48 v55 v56 v65 v71 os59 K49) else dd (8 * v66) (fun (v72 : Int32) => dd (v72 + v68) (fun (v73 : Int32) => ck v73 64 (dd (v55 + 1) (fun (v75 : Int32) => jn (fun (v77 : Int32) => dd (v56 + v77) (fun (v78 : Int32) => (F_X3_offer os59 v58 (ot48 (v73).toNatClampNeg)).bind (fun q79 => dd (v58 + 1) (fun (v80 : Int32) => L_X5_year_66 n61 p1 p3 oc ot48 v75 v78 v65 v80 q79 K49)))) (fun (K76 : Int32 → Option (Int32 × Ob × Ob × (Nat → Int32))) => jn (K76 0) (fun (K81 : Option (Int32 × Ob × Ob × (Nat → Int32))) => (if (ot48 (v73).toNatClampNeg) = (-6) then K81 else jn (K76 1) (fun (K83 : Option (Int32 × Ob × Ob × (Nat → Int32))) => (if v66 = p3 then K83 else (if v68 = p3 then K83 else K81)))))))))))))))))))
def F_X5_year (oc : Ob) (ow : Ob) (os : Ob) (ot : (Nat → Int32)) (p0 : Int32) (p1 : Int32) (p2 : Int32) (p3 : Int32) : Option (Int32 × Ob × Ob × (Nat → Int32)) :=
  (F_X5_isWithin p0 0 9999).bind (fun q1 => (if q1 = 0 then some ((-2), ow, os, ot) else (F_X5_isWithin p1 1 99).bind (fun q3 => (if q3 = 0 then some ((-2), ow, os, ot) else (F_X5_isFeet p2).bind (fun q5 => (if q5 = 0 then some ((-2), ow, os, ot) else (F_X5_isWithin p3 (-1) 8).bind (fun q7 => (if q7 = 0 then some ((-2), ow, os, ot) else (F_X5_timeAllPairs oc ow ot p2).bind (fun q9 => (F_X3_clear os).bind (fun q10 => dd q9.2 (fun (ot48 : (Nat → Int32)) => jn (fun (v50 : Int32) (v51 : Int32) (os52 : Ob) => (if p3 = (-1) then some (v50, q9.1, os52, ot48) else (if p3 = 8 then some ((os52 0 0), q9.1, os52, ot48) else some (v51, q9.1, os52, ot48)))) (fun (K49 : Int32 → Int32 → Ob → Option (Int32 × Ob × Ob × (Nat → Int32))) => L_X5_year_66 2000 p1 p3 oc ot48 0 0 p0 0 q10 K49))))))))))))
abbrev rm_X5_year : Room := { frames := 6, cells := 0, slots := 0, locals := 133 }
abbrev wu_X5_year : List Cond := .code yX5_year cX5_year 12 (some .int) :: lwG
set_option maxHeartbeats 20000000 in
set_option maxRecDepth 100000 in
theorem c_X5_year (l : Launch) (D : va_G) (cI cZ cO : ClassId) (x_h c_h i_h k_h f_h w_h n_h s_h t_h c_0 c_1 c_2 c_3 : Nat) (sz : Nat) (oc : Ob) (ow : Ob) (os : Ob) (ot : (Nat → Int32)) (p0 : Int32) (p1 : Int32) (p2 : Int32) (p3 : Int32) (q : Int32 × Ob × Ob × (Nat → Int32)) (hF : F_X5_year oc ow os ot p0 p1 p2 p3 = some q) : CtI l yX5_year wu_X5_year rm_X5_year D vwCl (tyL cI cZ cO) [.ref x_h, .int p0, .int p1, .int p2, .int p3] (wm_X5_year cI cZ cO x_h c_h i_h k_h f_h w_h n_h s_h t_h c_0 c_1 c_2 c_3 oc ow os ot) sz 0 0 (fun (r : Int32) (u : Ob × Ob × (Nat → Int32)) => r = q.1 ∧ u = q.2) (fun u => wm_X5_year cI cZ cO x_h c_h i_h k_h f_h w_h n_h s_h t_h c_0 c_1 c_2 c_3 oc u.1 u.2.1 u.2.2) := by
  refine mk_i (cc := cX5_year) (maxL := 12) (by decide) rfl (Nat.le_of_ble_eq_true rfl) ?_
  intro p e s m args below meth c A ls Q hx hb hml hown hts hin hK hP hD hS hA hl hQ
  have hl : lv_has ls 12 [(0, .ref x_h), (1, .int p0), (2, .int p1), (3, .int p2), (4, .int p3)] := hl
  unfold F_X5_year at hF
  refine lv_iload_n hx hb dX5_year_0 rfl (lv_at hl 1 rfl) ?_
  refine lv_iconst (v := 0) hx hb dX5_year_1 (by decide) ?_
  refine lv_sipush (v := 9999) hx hb dX5_year_2 (by decide) ?_
  obtain ⟨q1, hGq1, hF⟩ := of_bind hF
  refine callSi (As := [.int p0, .int 0, .int 9999]) (rest := []) ⟨hx, hb, hml, hown, hts⟩ hK hP hD hS hA (c_X5_isWithin l D cI cZ cO  _ p0 0 9999 q1 hGq1) (va_cwS 3 hts (gS wd_240 wd_241 wd_33 wd_242) rfl rfl rfl (by decide +kernel) ⟨Nat.le_of_ble_eq_true rfl, Nat.le_of_ble_eq_true rfl⟩) rfl hl.1 rfl (Nat.le_of_ble_eq_true rfl) dX5_year_5 ⟨Nat.zero_le _, Nat.zero_le _⟩ (fun H locs hP hS => ?_)
  refine lv_if_eq (tgt := 39) hx hb dX5_year_8 (by decide) (fun h2 => ?_) (fun h2 => ?_)
  · replace hF := of_t h2 hF
    refine lv_bipush (v := (-2)) hx hb dX5_year_39 (by decide) ?_
    exact hQ _ _ _ _ _ (ow, os, ot) ⟨inj_fst hF, inj_snd hF⟩ hP hD hS dX5_year_41
  · replace hF := of_f h2 hF
    refine lv_iload_n hx hb dX5_year_11 rfl (lv_at hl 2 rfl) ?_
    refine lv_iconst (v := 1) hx hb dX5_year_12 (by decide) ?_
    refine lv_bipush (v := 99) hx hb dX5_year_13 (by decide) ?_
    obtain ⟨q3, hGq3, hF⟩ := of_bind hF
    refine callSi (As := [.int p1, .int 1, .int 99]) (rest := []) ⟨hx, hb, hml, hown, hts⟩ hK hP hD hS hA (c_X5_isWithin l D cI cZ cO  _ p1 1 99 q3 hGq3) (va_cwS 3 hts (gS wd_240 wd_241 wd_33 wd_242) rfl rfl rfl (by decide +kernel) ⟨Nat.le_of_ble_eq_true rfl, Nat.le_of_ble_eq_true rfl⟩) rfl hl.1 rfl (Nat.le_of_ble_eq_true rfl) dX5_year_15 ⟨Nat.zero_le _, Nat.zero_le _⟩ (fun H locs hP hS => ?_)
    refine lv_if_eq (tgt := 39) hx hb dX5_year_18 (by decide) (fun h4 => ?_) (fun h4 => ?_)
    · replace hF := of_t h4 hF
      refine lv_bipush (v := (-2)) hx hb dX5_year_39 (by decide) ?_
      exact hQ _ _ _ _ _ (ow, os, ot) ⟨inj_fst hF, inj_snd hF⟩ hP hD hS dX5_year_41
    · replace hF := of_f h4 hF
      refine lv_iload_n hx hb dX5_year_21 rfl (lv_at hl 3 rfl) ?_
      obtain ⟨q5, hGq5, hF⟩ := of_bind hF
      refine callSi (As := [.int p2]) (rest := []) ⟨hx, hb, hml, hown, hts⟩ hK hP hD hS hA (c_X5_isFeet l D cI cZ cO  _ p2 q5 hGq5) (va_cwS 1 hts (gS wd_333 wd_334 wd_33 wd_335) rfl rfl rfl (by decide +kernel) ⟨Nat.le_of_ble_eq_true rfl, Nat.le_of_ble_eq_true rfl⟩) rfl hl.1 rfl (Nat.le_of_ble_eq_true rfl) dX5_year_22 ⟨Nat.zero_le _, Nat.zero_le _⟩ (fun H locs hP hS => ?_)
      refine lv_if_eq (tgt := 39) hx hb dX5_year_25 (by decide) (fun h6 => ?_) (fun h6 => ?_)
      · replace hF := of_t h6 hF
        refine lv_bipush (v := (-2)) hx hb dX5_year_39 (by decide) ?_
        exact hQ _ _ _ _ _ (ow, os, ot) ⟨inj_fst hF, inj_snd hF⟩ hP hD hS dX5_year_41
      · replace hF := of_f h6 hF
        refine lv_iload hx hb dX5_year_28 (lv_at hl 4 rfl) ?_
        refine lv_iconst (v := (-1)) hx hb dX5_year_30 (by decide) ?_
        refine lv_bipush (v := 8) hx hb dX5_year_31 (by decide) ?_
        obtain ⟨q7, hGq7, hF⟩ := of_bind hF
        refine callSi (As := [.int p3, .int (-1), .int 8]) (rest := []) ⟨hx, hb, hml, hown, hts⟩ hK hP hD hS hA (c_X5_isWithin l D cI cZ cO  _ p3 (-1) 8 q7 hGq7) (va_cwS 3 hts (gS wd_240 wd_241 wd_33 wd_242) rfl rfl rfl (by decide +kernel) ⟨Nat.le_of_ble_eq_true rfl, Nat.le_of_ble_eq_true rfl⟩) rfl hl.1 rfl (Nat.le_of_ble_eq_true rfl) dX5_year_33 ⟨Nat.zero_le _, Nat.zero_le _⟩ (fun H locs hP hS => ?_)
        refine lv_if_ne (tgt := 42) hx hb dX5_year_36 (by decide) (fun h8 => ?_) (fun h8 => ?_)
        · replace hF := of_f h8 hF
          refine lv_aload_n hx hb dX5_year_42 rfl (lv_at hl 0 rfl) ?_
          refine lv_iload_n hx hb dX5_year_43 rfl (lv_at hl 3 rfl) ?_
          obtain ⟨q9, hGq9, hF⟩ := of_bind hF
          refine callVv (As := [.int p2]) (rest := []) (wr := [(s_h, .inr (3, [.int (os 0 0), .int (os 1 0)]))]) (WN := wm_X5_year cI cZ cO x_h c_h i_h k_h f_h w_h n_h s_h t_h c_0 c_1 c_2 c_3 oc q9.1 os q9.2) ⟨hx, hb, hml, hown, hts⟩ hK hP hD hS hA [0, 1, 2, 3, 4, 5, 6, 8] [7] [1, 2, 3, 4, 5, 6, 7, 0, 8] (c_X5_timeAllPairs l D cI cZ cO x_h c_h i_h k_h f_h w_h n_h s_h t_h c_0 c_1 c_2 c_3 _ oc ow ot p2 q9 hGq9) (cwV 1 hts (gV wd_366 wd_368 wd_6 wd_33 wd_369) rfl rfl rfl (by decide +kernel) ⟨Nat.le_of_ble_eq_true rfl, Nat.le_of_ble_eq_true rfl⟩) 0 5 rfl rfl rfl rfl rfl rfl rfl (by decide) rfl rfl rfl hl.1 rfl (Nat.le_of_ble_eq_true rfl) dX5_year_44 ⟨Nat.zero_le _, Nat.zero_le _⟩ (fun H locs hP hD hS => ?_)
          refine lv_aload_n hx hb dX5_year_47 rfl (lv_at hl 0 rfl) ?_
          refine va_get (D := D) (ci := 5) (v := .ref s_h) (C := RX5) (T := TX5) (N := 8) hx hb hts in_X5 hown hK hP 0 rfl rfl 6 (by decide) (hts _ wd_217) (fun _ h9 => h9) rfl dX5_year_48 ?_
          obtain ⟨q10, hGq10, hF⟩ := of_bind hF
          refine callVv (As := []) (rest := []) (wr := [(x_h, .inr (5, [.ref c_h, .ref i_h, .ref k_h, .ref f_h, .ref w_h, .ref n_h, .ref s_h, .ref t_h])), (c_h, .inr (0, [.ref c_0, .ref c_1, .ref c_2, .ref c_3, .int (oc 4 0), .int (oc 5 0), .int (oc 6 0)])), (c_0, .inl (cZ, 8, .inl (oc 0))), (c_1, .inl (cI, 8, .inl (oc 1))), (c_2, .inl (cI, 8, .inl (oc 2))), (c_3, .inl (cI, 8, .inl (oc 3))), (w_h, .inr (4, [.int (q9.1 0 0), .int (q9.1 1 0), .int (q9.1 2 0), .int (q9.1 3 0), .int (q9.1 4 0), .int (q9.1 5 0), .int (q9.1 6 0), .int (q9.1 7 0), .int (q9.1 8 0), .int (q9.1 9 0), .int (q9.1 10 0), .int (q9.1 11 0), .int (q9.1 12 0), .int (q9.1 13 0), .int (q9.1 14 0), .int (q9.1 15 0)])), (t_h, .inl (cI, 64, .inl q9.2))]) (WN := wm_X5_year cI cZ cO x_h c_h i_h k_h f_h w_h n_h s_h t_h c_0 c_1 c_2 c_3 oc q9.1 q10 q9.2) ⟨hx, hb, hml, hown, hts⟩ hK hP hD hS hA [7] [0, 1, 2, 3, 4, 5, 6, 8] [0, 1, 2, 3, 4, 5, 6, 8, 7] (c_X3_clear l D cI cZ cO s_h _ os q10 hGq10) (cwV 0 hts (gV wd_402 wd_403 wd_404 wd_38 wd_405) rfl rfl rfl (by decide +kernel) ⟨Nat.le_of_ble_eq_true rfl, Nat.le_of_ble_eq_true rfl⟩) 0 3 rfl rfl rfl rfl rfl rfl rfl (by decide) rfl rfl rfl hl.1 rfl (Nat.le_of_ble_eq_true rfl) dX5_year_51 ⟨Nat.zero_le _, Nat.zero_le _⟩ (fun H locs hP hD hS => ?_)
          refine lv_iconst (v := 0) hx hb dX5_year_54 (by decide) ?_
          refine lv_istore (lv' := [(5, .int 0), (0, .ref x_h), (1, .int p0), (2, .int p1), (3, .int p2), (4, .int p3)]) hx hb dX5_year_55 hl (by decide) rfl (fun ls hl => ?_)
          refine lv_iconst (v := 0) hx hb dX5_year_57 (by decide) ?_
          refine lv_istore (lv' := [(6, .int 0), (5, .int 0), (0, .ref x_h), (1, .int p0), (2, .int p1), (3, .int p2), (4, .int p3)]) hx hb dX5_year_58 hl (by decide) rfl (fun ls hl => ?_)
          refine lv_iload_n hx hb dX5_year_60 rfl (lv_at hl 3 rfl) ?_
          refine lv_istore (lv' := [(7, .int p0), (6, .int 0), (5, .int 0), (0, .ref x_h), (1, .int p0), (2, .int p1), (3, .int p2), (4, .int p3)]) hx hb dX5_year_61 hl (by decide) rfl (fun ls hl => ?_)
          refine lv_iconst (v := 0) hx hb dX5_year_63 (by decide) ?_
          refine lv_istore (lv' := [(8, .int 0), (7, .int p0), (6, .int 0), (5, .int 0), (0, .ref x_h), (1, .int p0), (2, .int p1), (3, .int p2), (4, .int p3)]) hx hb dX5_year_64 hl (by decide) rfl (fun ls hl => ?_)
          obtain ⟨ot48, hF, hP, hD⟩ := nm_o (P := fun y => va_P D vwCl (wm_X5_year cI cZ cO x_h c_h i_h k_h f_h w_h n_h s_h t_h c_0 c_1 c_2 c_3 oc q9.1 q10 y) _) (B := fun y => va_D A (wm_X5_year cI cZ cO x_h c_h i_h k_h f_h w_h n_h s_h t_h c_0 c_1 c_2 c_3 oc q9.1 q10 y)) hF hP hD
          obtain ⟨K49, eK49, hF⟩ := of_jn hF
          have hK49 : ∀ (v50 : Int32) (v51 : Int32) (os52 : Ob) (ls : Array Slot) (H : Heap) (locs : List Loc), lv_has ls 12 [(0, .ref x_h), (4, .int p3), (5, .int v50), (6, .int v51)] → va_P D vwCl (wm_X5_year cI cZ cO x_h c_h i_h k_h f_h w_h n_h s_h t_h c_0 c_1 c_2 c_3 oc q9.1 os52 ot48) H → va_D A (wm_X5_year cI cZ cO x_h c_h i_h k_h f_h w_h n_h s_h t_h c_0 c_1 c_2 c_3 oc q9.1 os52 ot48) → va_S A s.heap H locs → K49 v50 v51 os52 = some q → W p l e rm_X5_year s m args below meth c H locs 0 0 Q (F0 m 182 ls []) := by
            intro v50 v51 os52 ls H locs hl hP hD hS hF
            subst eK49
            refine lv_iload hx hb dX5_year_182 (lv_at hl 1 rfl) ?_
            refine lv_iconst (v := (-1)) hx hb dX5_year_184 (by decide) ?_
            refine lv_icmp_ne (tgt := 191) hx hb dX5_year_185 (by decide) (fun h53 => ?_) (fun h53 => ?_)
            · replace hF := of_f h53 hF
              refine lv_iload hx hb dX5_year_191 (lv_at hl 1 rfl) ?_
              refine lv_bipush (v := 8) hx hb dX5_year_193 (by decide) ?_
              refine lv_icmp_ne (tgt := 208) hx hb dX5_year_195 (by decide) (fun h54 => ?_) (fun h54 => ?_)
              · replace hF := of_f h54 hF
                refine lv_iload hx hb dX5_year_208 (lv_at hl 3 rfl) ?_
                exact hQ _ _ _ _ _ (q9.1, os52, ot48) ⟨inj_fst hF, inj_snd hF⟩ hP hD hS dX5_year_210
              · replace hF := of_t h54 hF
                refine lv_aload_n hx hb dX5_year_198 rfl (lv_at hl 0 rfl) ?_
                refine va_get (D := D) (ci := 5) (v := .ref s_h) (C := RX5) (T := TX5) (N := 8) hx hb hts in_X5 hown hK hP 0 rfl rfl 6 (by decide) (hts _ wd_217) (fun _ h9 => h9) rfl dX5_year_199 ?_
                refine va_get (D := D) (ci := 3) (v := .int (os52 0 0)) (C := RX3) (T := TX3) (N := 2) hx hb hts in_X3 hown hK hP 7 rfl rfl 0 (by decide) (hts _ wd_204) (fun _ h9 => h9) rfl dX5_year_202 ?_
                refine lv_goto (tgt := 210) hx hb dX5_year_205 (by decide) ?_
                exact hQ _ _ _ _ _ (q9.1, os52, ot48) ⟨inj_fst hF, inj_snd hF⟩ hP hD hS dX5_year_210
            · replace hF := of_t h53 hF
              refine lv_iload hx hb dX5_year_188 (lv_at hl 2 rfl) ?_
              exact hQ _ _ _ _ _ (q9.1, os52, ot48) ⟨inj_fst hF, inj_snd hF⟩ hP hD hS dX5_year_190
          have hloop86 : ∀ (n61 : Nat) (v55 : Int32) (v56 : Int32) (v57 : Int32) (v58 : Int32) (os59 : Ob) (ls : Array Slot) (H : Heap) (locs : List Loc), lv_has ls 12 [(0, .ref x_h), (2, .int p1), (4, .int p3), (5, .int v55), (6, .int v56), (7, .int v57), (8, .int v58)] → va_P D vwCl (wm_X5_year cI cZ cO x_h c_h i_h k_h f_h w_h n_h s_h t_h c_0 c_1 c_2 c_3 oc q9.1 os59 ot48) H → va_D A (wm_X5_year cI cZ cO x_h c_h i_h k_h f_h w_h n_h s_h t_h c_0 c_1 c_2 c_3 oc q9.1 os59 ot48) → va_S A s.heap H locs → L_X5_year_66 n61 p1 p3 oc ot48 v55 v56 v57 v58 os59 K49 = some q → W p l e rm_X5_year s m args below meth c H locs 0 0 Q (F0 m 66 ls []) := by
            intro n61
            induction n61 with
            | zero =>
              intro v55 v56 v57 v58 os59 ls H locs hl hP hD hS hF
              exact of_none hF
            | succ n61 ih60 =>
              intro v55 v56 v57 v58 os59 ls H locs hl hP hD hS hF
              rw [L_X5_year_66.eq_2] at hF
              refine lv_iload hx hb dX5_year_66 (lv_at hl 6 rfl) ?_
              refine lv_iload_n hx hb dX5_year_68 rfl (lv_at hl 1 rfl) ?_
              refine lv_icmp_ge (tgt := 182) hx hb dX5_year_69 (by decide) (fun h62 => ?_) (fun h62 => ?_)
              · replace hF := of_t h62 hF
                exact hK49 v55 v56 os59 ls _ _ (lv_sub hl [0, 2, 3, 4] rfl) hP hD hS hF
              · replace hF := of_f h62 hF
                refine lv_bipush (v := 75) hx hb dX5_year_72 (by decide) ?_
                refine lv_iload hx hb dX5_year_74 (lv_at hl 5 rfl) ?_
                refine lv_imul hx hb dX5_year_76 ?_
                refine lv_topi (fun v63 ev63 => ?_)
                replace hF := of_dd hF v63 ev63
                refine lv_bipush (v := 74) hx hb dX5_year_77 (by decide) ?_
                refine lv_iadd hx hb dX5_year_79 ?_
                refine lv_topi (fun v64 ev64 => ?_)
                replace hF := of_dd hF v64 ev64
                refine lv_ldc hx hb hown (hts _ wd_491) dX5_year_80 ?_
                refine lv_irem hx hb dX5_year_82 (by decide) ?_
                refine lv_topi (fun v65 ev65 => ?_)
                replace hF := of_dd hF v65 ev65
                refine lv_istore (lv' := [(7, .int v65), (0, .ref x_h), (2, .int p1), (4, .int p3), (5, .int v55), (6, .int v56), (8, .int v58)]) hx hb dX5_year_83 hl (by decide) rfl (fun ls hl => ?_)
                refine lv_iload hx hb dX5_year_85 (lv_at hl 0 rfl) ?_
                refine lv_bipush (v := 8) hx hb dX5_year_87 (by decide) ?_
                refine lv_irem hx hb dX5_year_89 (by decide) ?_
                refine lv_topi (fun v66 ev66 => ?_)
                replace hF := of_dd hF v66 ev66
                refine lv_istore (lv' := [(9, .int v66), (7, .int v65), (0, .ref x_h), (2, .int p1), (4, .int p3), (5, .int v55), (6, .int v56), (8, .int v58)]) hx hb dX5_year_90 hl (by decide) rfl (fun ls hl => ?_)
                refine lv_iload hx hb dX5_year_92 (lv_at hl 1 rfl) ?_
                refine lv_bipush (v := 8) hx hb dX5_year_94 (by decide) ?_
                refine lv_idiv hx hb dX5_year_96 (by decide) ?_
                refine lv_topi (fun v67 ev67 => ?_)
                replace hF := of_dd hF v67 ev67
                refine lv_bipush (v := 8) hx hb dX5_year_97 (by decide) ?_
                refine lv_irem hx hb dX5_year_99 (by decide) ?_
                refine lv_topi (fun v68 ev68 => ?_)
                replace hF := of_dd hF v68 ev68
                refine lv_istore (lv' := [(10, .int v68), (9, .int v66), (7, .int v65), (0, .ref x_h), (2, .int p1), (4, .int p3), (5, .int v55), (6, .int v56), (8, .int v58)]) hx hb dX5_year_100 hl (by decide) rfl (fun ls hl => ?_)
                refine lv_aload_n hx hb dX5_year_102 rfl (lv_at hl 3 rfl) ?_
                refine va_get (D := D) (ci := 5) (v := .ref c_h) (C := RX5) (T := TX5) (N := 8) hx hb hts in_X5 hown hK hP 0 rfl rfl 0 (by decide) (hts _ wd_211) (fun _ h9 => h9) rfl dX5_year_103 ?_
                refine lv_iload hx hb dX5_year_106 (lv_at hl 1 rfl) ?_
                refine lv_iload hx hb dX5_year_108 (lv_at hl 0 rfl) ?_
                obtain ⟨q69, hGq69, hF⟩ := of_bind hF
                refine callVi (As := [.int v66, .int v68]) (rest := []) (wr := [(x_h, .inr (5, [.ref c_h, .ref i_h, .ref k_h, .ref f_h, .ref w_h, .ref n_h, .ref s_h, .ref t_h])), (w_h, .inr (4, [.int (q9.1 0 0), .int (q9.1 1 0), .int (q9.1 2 0), .int (q9.1 3 0), .int (q9.1 4 0), .int (q9.1 5 0), .int (q9.1 6 0), .int (q9.1 7 0), .int (q9.1 8 0), .int (q9.1 9 0), .int (q9.1 10 0), .int (q9.1 11 0), .int (q9.1 12 0), .int (q9.1 13 0), .int (q9.1 14 0), .int (q9.1 15 0)])), (s_h, .inr (3, [.int (os59 0 0), .int (os59 1 0)])), (t_h, .inl (cI, 64, .inl ot48))]) (WN := wm_X5_year cI cZ cO x_h c_h i_h k_h f_h w_h n_h s_h t_h c_0 c_1 c_2 c_3 oc q9.1 os59 ot48) ⟨hx, hb, hml, hown, hts⟩ hK hP hD hS hA [1, 2, 3, 4, 5] [0, 6, 7, 8] [0, 4, 5, 6, 7, 8, 1, 2, 3] (c_X0_canTie l D cI cZ cO c_h c_0 c_1 c_2 c_3 _ oc v66 v68 q69 hGq69) (cwV 2 hts (gV wd_294 wd_295 wd_296 wd_34 wd_297) rfl rfl rfl (by decide +kernel) ⟨Nat.le_of_ble_eq_true rfl, Nat.le_of_ble_eq_true rfl⟩) 0 0 rfl rfl rfl rfl rfl rfl rfl (by decide) rfl rfl rfl hl.1 rfl (Nat.le_of_ble_eq_true rfl) dX5_year_110 ⟨Nat.zero_le _, Nat.zero_le _⟩ (fun H locs hP hD hS => ?_)
                refine lv_if_eq (tgt := 176) hx hb dX5_year_113 (by decide) (fun h70 => ?_) (fun h70 => ?_)
                · replace hF := of_t h70 hF
                  obtain ⟨v71, ev71⟩ : ∃ y : Int32, y = v58 + 1 := ⟨_, rfl⟩
                  replace hF := of_dd hF v71 ev71
                  refine lv_iinc (v := v71) (lv' := [(8, .int v71), (10, .int v68), (9, .int v66), (7, .int v65), (0, .ref x_h), (2, .int p1), (4, .int p3), (5, .int v55), (6, .int v56)]) hx hb dX5_year_176 hl (k := 8) rfl (by rw [ev71]; rfl) (by decide) rfl (fun ls hl => ?_)
                  refine lv_goto (tgt := 66) hx hb dX5_year_179 (by decide) ?_
                  exact ih60 v55 v56 v65 v71 os59 ls _ _ (lv_sub hl [4, 5, 6, 7, 8, 3, 0] rfl) hP hD hS hF
                · replace hF := of_f h70 hF
                  refine lv_aload_n hx hb dX5_year_116 rfl (lv_at hl 3 rfl) ?_
                  refine va_get (D := D) (ci := 5) (v := .ref t_h) (C := RX5) (T := TX5) (N := 8) hx hb hts in_X5 hown hK hP 0 rfl rfl 7 (by decide) (hts _ wd_218) (fun _ h9 => h9) rfl dX5_year_117 ?_
                  refine lv_bipush (v := 8) hx hb dX5_year_120 (by decide) ?_
                  refine lv_iload hx hb dX5_year_122 (lv_at hl 1 rfl) ?_
                  refine lv_imul hx hb dX5_year_124 ?_
                  refine lv_topi (fun v72 ev72 => ?_)
                  replace hF := of_dd hF v72 ev72
                  refine lv_iload hx hb dX5_year_125 (lv_at hl 0 rfl) ?_
                  refine lv_iadd hx hb dX5_year_127 ?_
                  refine lv_topi (fun v73 ev73 => ?_)
                  replace hF := of_dd hF v73 ev73
                  obtain ⟨h74, hF⟩ := of_ck hF
                  refine va_iald (D := D) hx hb hK hP 8 0 rfl rfl h74 dX5_year_128 ?_
                  refine lv_istore (lv' := [(11, .int (ot48 (v73).toNatClampNeg)), (10, .int v68), (9, .int v66), (7, .int v65), (0, .ref x_h), (2, .int p1), (4, .int p3), (5, .int v55), (6, .int v56), (8, .int v58)]) hx hb dX5_year_129 hl (by decide) rfl (fun ls hl => ?_)
                  obtain ⟨v75, ev75⟩ : ∃ y : Int32, y = v55 + 1 := ⟨_, rfl⟩
                  replace hF := of_dd hF v75 ev75
                  refine lv_iinc (v := v75) (lv' := [(5, .int v75), (11, .int (ot48 (v73).toNatClampNeg)), (10, .int v68), (9, .int v66), (7, .int v65), (0, .ref x_h), (2, .int p1), (4, .int p3), (6, .int v56), (8, .int v58)]) hx hb dX5_year_131 hl (k := 7) rfl (by rw [ev75]; rfl) (by decide) rfl (fun ls hl => ?_)
                  refine lv_iload hx hb dX5_year_134 (lv_at hl 8 rfl) ?_
                  refine lv_iload hx hb dX5_year_136 (lv_at hl 1 rfl) ?_
                  refine lv_bipush (v := (-6)) hx hb dX5_year_138 (by decide) ?_
                  obtain ⟨K76, eK76, hF⟩ := of_jn hF
                  have hK76 : ∀ (v77 : Int32) (ls : Array Slot) (H : Heap) (locs : List Loc), lv_has ls 12 [(0, .ref x_h), (2, .int p1), (4, .int p3), (5, .int v75), (7, .int v65), (8, .int v58), (11, .int (ot48 (v73).toNatClampNeg))] → va_P D vwCl (wm_X5_year cI cZ cO x_h c_h i_h k_h f_h w_h n_h s_h t_h c_0 c_1 c_2 c_3 oc q9.1 os59 ot48) H → va_D A (wm_X5_year cI cZ cO x_h c_h i_h k_h f_h w_h n_h s_h t_h c_0 c_1 c_2 c_3 oc q9.1 os59 ot48) → va_S A s.heap H locs → K76 v77 = some q → W p l e rm_X5_year s m args below meth c H locs 0 0 Q (F0 m 162 ls [.int v77, .int v56]) := by
                    intro v77 ls H locs hl hP hD hS hF
                    subst eK76
                    refine lv_iadd hx hb dX5_year_162 ?_
                    refine lv_topi (fun v78 ev78 => ?_)
                    replace hF := of_dd hF v78 ev78
                    refine lv_istore (lv' := [(6, .int v78), (0, .ref x_h), (2, .int p1), (4, .int p3), (5, .int v75), (7, .int v65), (8, .int v58), (11, .int (ot48 (v73).toNatClampNeg))]) hx hb dX5_year_163 hl (by decide) rfl (fun ls hl => ?_)
                    refine lv_aload_n hx hb dX5_year_165 rfl (lv_at hl 1 rfl) ?_
                    refine va_get (D := D) (ci := 5) (v := .ref s_h) (C := RX5) (T := TX5) (N := 8) hx hb hts in_X5 hown hK hP 0 rfl rfl 6 (by decide) (hts _ wd_217) (fun _ h9 => h9) rfl dX5_year_166 ?_
                    refine lv_iload hx hb dX5_year_169 (lv_at hl 6 rfl) ?_
                    refine lv_iload hx hb dX5_year_171 (lv_at hl 7 rfl) ?_
                    obtain ⟨q79, hGq79, hF⟩ := of_bind hF
                    refine callVv (As := [.int v58, .int (ot48 (v73).toNatClampNeg)]) (rest := []) (wr := [(x_h, .inr (5, [.ref c_h, .ref i_h, .ref k_h, .ref f_h, .ref w_h, .ref n_h, .ref s_h, .ref t_h])), (c_h, .inr (0, [.ref c_0, .ref c_1, .ref c_2, .ref c_3, .int (oc 4 0), .int (oc 5 0), .int (oc 6 0)])), (c_0, .inl (cZ, 8, .inl (oc 0))), (c_1, .inl (cI, 8, .inl (oc 1))), (c_2, .inl (cI, 8, .inl (oc 2))), (c_3, .inl (cI, 8, .inl (oc 3))), (w_h, .inr (4, [.int (q9.1 0 0), .int (q9.1 1 0), .int (q9.1 2 0), .int (q9.1 3 0), .int (q9.1 4 0), .int (q9.1 5 0), .int (q9.1 6 0), .int (q9.1 7 0), .int (q9.1 8 0), .int (q9.1 9 0), .int (q9.1 10 0), .int (q9.1 11 0), .int (q9.1 12 0), .int (q9.1 13 0), .int (q9.1 14 0), .int (q9.1 15 0)])), (t_h, .inl (cI, 64, .inl ot48))]) (WN := wm_X5_year cI cZ cO x_h c_h i_h k_h f_h w_h n_h s_h t_h c_0 c_1 c_2 c_3 oc q9.1 q79 ot48) ⟨hx, hb, hml, hown, hts⟩ hK hP hD hS hA [7] [0, 1, 2, 3, 4, 5, 6, 8] [0, 1, 2, 3, 4, 5, 6, 8, 7] (c_X3_offer l D cI cZ cO s_h _ os59 v58 (ot48 (v73).toNatClampNeg) q79 hGq79) (cwV 2 hts (gV wd_410 wd_411 wd_412 wd_38 wd_413) rfl rfl rfl (by decide +kernel) ⟨Nat.le_of_ble_eq_true rfl, Nat.le_of_ble_eq_true rfl⟩) 0 3 rfl rfl rfl rfl rfl rfl rfl (by decide) rfl rfl rfl hl.1 rfl (Nat.le_of_ble_eq_true rfl) dX5_year_173 ⟨Nat.zero_le _, Nat.zero_le _⟩ (fun H locs hP hD hS => ?_)
                    obtain ⟨v80, ev80⟩ : ∃ y : Int32, y = v58 + 1 := ⟨_, rfl⟩
                    replace hF := of_dd hF v80 ev80
                    refine lv_iinc (v := v80) (lv' := [(8, .int v80), (6, .int v78), (0, .ref x_h), (2, .int p1), (4, .int p3), (5, .int v75), (7, .int v65), (11, .int (ot48 (v73).toNatClampNeg))]) hx hb dX5_year_176 hl (k := 6) rfl (by rw [ev80]; rfl) (by decide) rfl (fun ls hl => ?_)
                    refine lv_goto (tgt := 66) hx hb dX5_year_179 (by decide) ?_
                    exact ih60 v75 v78 v65 v80 q79 ls _ _ (lv_sub hl [2, 3, 4, 5, 1, 6, 0] rfl) hP hD hS hF
                  obtain ⟨K81, eK81, hF⟩ := of_jn hF
                  have hK81 : ∀  (ls : Array Slot) (H : Heap) (locs : List Loc), lv_has ls 12 [(0, .ref x_h), (2, .int p1), (4, .int p3), (5, .int v75), (7, .int v65), (8, .int v58), (11, .int (ot48 (v73).toNatClampNeg))] → va_P D vwCl (wm_X5_year cI cZ cO x_h c_h i_h k_h f_h w_h n_h s_h t_h c_0 c_1 c_2 c_3 oc q9.1 os59 ot48) H → va_D A (wm_X5_year cI cZ cO x_h c_h i_h k_h f_h w_h n_h s_h t_h c_0 c_1 c_2 c_3 oc q9.1 os59 ot48) → va_S A s.heap H locs → K81 = some q → W p l e rm_X5_year s m args below meth c H locs 0 0 Q (F0 m 161 ls [.int v56]) := by
                    intro  ls H locs hl hP hD hS hF
                    subst eK81
                    refine lv_iconst (v := 0) hx hb dX5_year_161 (by decide) ?_
                    exact hK76 0 ls _ _ (lv_sub hl [0, 1, 2, 3, 4, 5, 6] rfl) hP hD hS hF
                  refine lv_icmp_eq (tgt := 161) hx hb dX5_year_140 (by decide) (fun h82 => ?_) (fun h82 => ?_)
                  · replace hF := of_t h82 hF
                    exact hK81  ls _ _ (lv_sub hl [5, 6, 7, 0, 4, 9, 1] rfl) hP hD hS hF
                  · replace hF := of_f h82 hF
                    refine lv_iload hx hb dX5_year_143 (lv_at hl 3 rfl) ?_
                    refine lv_iload hx hb dX5_year_145 (lv_at hl 7 rfl) ?_
                    obtain ⟨K83, eK83, hF⟩ := of_jn hF
                    have hK83 : ∀  (ls : Array Slot) (H : Heap) (locs : List Loc), lv_has ls 12 [(0, .ref x_h), (2, .int p1), (4, .int p3), (5, .int v75), (7, .int v65), (8, .int v58), (11, .int (ot48 (v73).toNatClampNeg))] → va_P D vwCl (wm_X5_year cI cZ cO x_h c_h i_h k_h f_h w_h n_h s_h t_h c_0 c_1 c_2 c_3 oc q9.1 os59 ot48) H → va_D A (wm_X5_year cI cZ cO x_h c_h i_h k_h f_h w_h n_h s_h t_h c_0 c_1 c_2 c_3 oc q9.1 os59 ot48) → va_S A s.heap H locs → K83 = some q → W p l e rm_X5_year s m args below meth c H locs 0 0 Q (F0 m 157 ls [.int v56]) := by
                      intro  ls H locs hl hP hD hS hF
                      subst eK83
                      refine lv_iconst (v := 1) hx hb dX5_year_157 (by decide) ?_
                      refine lv_goto (tgt := 162) hx hb dX5_year_158 (by decide) ?_
                      exact hK76 1 ls _ _ (lv_sub hl [0, 1, 2, 3, 4, 5, 6] rfl) hP hD hS hF
                    refine lv_icmp_eq (tgt := 157) hx hb dX5_year_147 (by decide) (fun h84 => ?_) (fun h84 => ?_)
                    · replace hF := of_t h84 hF
                      exact hK83  ls _ _ (lv_sub hl [5, 6, 7, 0, 4, 9, 1] rfl) hP hD hS hF
                    · replace hF := of_f h84 hF
                      refine lv_iload hx hb dX5_year_150 (lv_at hl 2 rfl) ?_
                      refine lv_iload hx hb dX5_year_152 (lv_at hl 7 rfl) ?_
                      refine lv_icmp_ne (tgt := 161) hx hb dX5_year_154 (by decide) (fun h85 => ?_) (fun h85 => ?_)
                      · replace hF := of_f h85 hF
                        exact hK81  ls _ _ (lv_sub hl [5, 6, 7, 0, 4, 9, 1] rfl) hP hD hS hF
                      · replace hF := of_t h85 hF
                        exact hK83  ls _ _ (lv_sub hl [5, 6, 7, 0, 4, 9, 1] rfl) hP hD hS hF
          exact hloop86 2000 0 0 p0 0 q10 ls _ _ (lv_sub hl [4, 6, 8, 3, 2, 1, 0] rfl) hP hD hS hF
        · replace hF := of_t h8 hF
          refine lv_bipush (v := (-2)) hx hb dX5_year_39 (by decide) ?_
          exact hQ _ _ _ _ _ (ow, os, ot) ⟨inj_fst hF, inj_snd hF⟩ hP hD hS dX5_year_41

/-! ### ThreeLegs.image(I)I -/
abbrev wm_X5_image (cI cZ cO : ClassId) (x_h c_h i_h k_h f_h w_h n_h s_h t_h c_0 c_1 c_2 c_3 y_h y_0 y_1 y_2 y_3 z_h z_0 z_1 z_2 z_3 : Nat) (oc : Ob) (oy : Ob) (oz : Ob) (ok : (Nat → Int32)) : va_W := [(x_h, .inr (5, [.ref c_h, .ref i_h, .ref k_h, .ref f_h, .ref w_h, .ref n_h, .ref s_h, .ref t_h])), (c_h, .inr (0, [.ref c_0, .ref c_1, .ref c_2, .ref c_3, .int (oc 4 0), .int (oc 5 0), .int (oc 6 0)])), (c_0, .inl (cZ, 8, .inl (oc 0))), (c_1, .inl (cI, 8, .inl (oc 1))), (c_2, .inl (cI, 8, .inl (oc 2))), (c_3, .inl (cI, 8, .inl (oc 3))), (y_h, .inr (0, [.ref y_0, .ref y_1, .ref y_2, .ref y_3, .int (oy 4 0), .int (oy 5 0), .int (oy 6 0)])), (y_0, .inl (cZ, 8, .inl (oy 0))), (y_1, .inl (cI, 8, .inl (oy 1))), (y_2, .inl (cI, 8, .inl (oy 2))), (y_3, .inl (cI, 8, .inl (oy 3))), (z_h, .inr (0, [.ref z_0, .ref z_1, .ref z_2, .ref z_3, .int (oz 4 0), .int (oz 5 0), .int (oz 6 0)])), (z_0, .inl (cZ, 8, .inl (oz 0))), (z_1, .inl (cI, 8, .inl (oz 1))), (z_2, .inl (cI, 8, .inl (oz 2))), (z_3, .inl (cI, 8, .inl (oz 3))), (i_h, .inl (cO, 2, .inr (.inr (.inr (.inr (imgF y_h z_h)))))), (k_h, .inl (cZ, 2, .inl ok))]
def F_X5_image (oc : Ob) (oy : Ob) (oz : Ob) (ok : (Nat → Int32)) (p0 : Int32) : Option (Int32 × Ob × Ob × (Nat → Int32)) :=
  (F_X5_isWithin p0 0 1).bind (fun q1 => (if q1 = 0 then some ((-2), oy, oz, ok) else ck p0 2 (if p0 = 0 then (F_X0_copyFrom oy oc).bind (fun q5 => ck p0 2 (dd (upd ok (p0).toNatClampNeg (vp_nar .boolean 1)) (fun (ok7 : (Nat → Int32)) => some (1, q5, oz, ok7)))) else (F_X0_copyFrom oz oc).bind (fun q8 => ck p0 2 (dd (upd ok (p0).toNatClampNeg (vp_nar .boolean 1)) (fun (ok10 : (Nat → Int32)) => some (1, oy, q8, ok10)))))))
abbrev rm_X5_image : Room := { frames := 1, cells := 0, slots := 0, locals := 22 }
abbrev wu_X5_image : List Cond := .code yX5_image cX5_image 2 (some .int) :: lwG
set_option maxHeartbeats 20000000 in
set_option maxRecDepth 100000 in
theorem c_X5_image (l : Launch) (D : va_G) (cI cZ cO : ClassId) (x_h c_h i_h k_h f_h w_h n_h s_h t_h c_0 c_1 c_2 c_3 y_h y_0 y_1 y_2 y_3 z_h z_0 z_1 z_2 z_3 : Nat) (sz : Nat) (oc : Ob) (oy : Ob) (oz : Ob) (ok : (Nat → Int32)) (p0 : Int32) (q : Int32 × Ob × Ob × (Nat → Int32)) (hF : F_X5_image oc oy oz ok p0 = some q) : CtI l yX5_image wu_X5_image rm_X5_image D vwCl (tyL cI cZ cO) [.ref x_h, .int p0] (wm_X5_image cI cZ cO x_h c_h i_h k_h f_h w_h n_h s_h t_h c_0 c_1 c_2 c_3 y_h y_0 y_1 y_2 y_3 z_h z_0 z_1 z_2 z_3 oc oy oz ok) sz 0 0 (fun (r : Int32) (u : Ob × Ob × (Nat → Int32)) => r = q.1 ∧ u = q.2) (fun u => wm_X5_image cI cZ cO x_h c_h i_h k_h f_h w_h n_h s_h t_h c_0 c_1 c_2 c_3 y_h y_0 y_1 y_2 y_3 z_h z_0 z_1 z_2 z_3 oc u.1 u.2.1 u.2.2) := by
  refine mk_i (cc := cX5_image) (maxL := 2) (by decide) rfl (Nat.le_of_ble_eq_true rfl) ?_
  intro p e s m args below meth c A ls Q hx hb hml hown hts hin hK hP hD hS hA hl hQ
  have hl : lv_has ls 2 [(0, .ref x_h), (1, .int p0)] := hl
  unfold F_X5_image at hF
  refine lv_iload_n hx hb dX5_image_0 rfl (lv_at hl 1 rfl) ?_
  refine lv_iconst (v := 0) hx hb dX5_image_1 (by decide) ?_
  refine lv_iconst (v := 1) hx hb dX5_image_2 (by decide) ?_
  obtain ⟨q1, hGq1, hF⟩ := of_bind hF
  refine callSi (As := [.int p0, .int 0, .int 1]) (rest := []) ⟨hx, hb, hml, hown, hts⟩ hK hP hD hS hA (c_X5_isWithin l D cI cZ cO  _ p0 0 1 q1 hGq1) (va_cwS 3 hts (gS wd_240 wd_241 wd_33 wd_242) rfl rfl rfl (by decide +kernel) ⟨Nat.le_of_ble_eq_true rfl, Nat.le_of_ble_eq_true rfl⟩) rfl hl.1 rfl (Nat.le_of_ble_eq_true rfl) dX5_image_3 ⟨Nat.zero_le _, Nat.zero_le _⟩ (fun H locs hP hS => ?_)
  refine lv_if_ne (tgt := 12) hx hb dX5_image_6 (by decide) (fun h2 => ?_) (fun h2 => ?_)
  · replace hF := of_f h2 hF
    refine lv_aload_n hx hb dX5_image_12 rfl (lv_at hl 0 rfl) ?_
    refine va_get (D := D) (ci := 5) (v := .ref i_h) (C := RX5) (T := TX5) (N := 8) hx hb hts in_X5 hown hK hP 0 rfl rfl 1 (by decide) (hts _ wd_212) (fun _ h9 => h9) rfl dX5_image_13 ?_
    refine lv_iload_n hx hb dX5_image_16 rfl (lv_at hl 1 rfl) ?_
    obtain ⟨h3, hF⟩ := of_ck hF
    refine va_aldq (D := D) hx hb hK hP 16 2 rfl rfl h3 dX5_image_17 ?_
    rcases img2 (y := y_h) (z := z_h) h3 with ⟨h4, eh4⟩ | ⟨h4, eh4⟩
    · rw [eh4]
      replace hF := of_t h4 hF
      refine lv_aload_n hx hb dX5_image_18 rfl (lv_at hl 0 rfl) ?_
      refine va_get (D := D) (ci := 5) (v := .ref c_h) (C := RX5) (T := TX5) (N := 8) hx hb hts in_X5 hown hK hP 0 rfl rfl 0 (by decide) (hts _ wd_211) (fun _ h9 => h9) rfl dX5_image_19 ?_
      obtain ⟨q5, hGq5, hF⟩ := of_bind hF
      refine callVv (As := [.ref c_h]) (rest := []) (wr := [(x_h, .inr (5, [.ref c_h, .ref i_h, .ref k_h, .ref f_h, .ref w_h, .ref n_h, .ref s_h, .ref t_h])), (z_h, .inr (0, [.ref z_0, .ref z_1, .ref z_2, .ref z_3, .int (oz 4 0), .int (oz 5 0), .int (oz 6 0)])), (z_0, .inl (cZ, 8, .inl (oz 0))), (z_1, .inl (cI, 8, .inl (oz 1))), (z_2, .inl (cI, 8, .inl (oz 2))), (z_3, .inl (cI, 8, .inl (oz 3))), (i_h, .inl (cO, 2, .inr (.inr (.inr (.inr (imgF y_h z_h)))))), (k_h, .inl (cZ, 2, .inl ok))]) (WN := wm_X5_image cI cZ cO x_h c_h i_h k_h f_h w_h n_h s_h t_h c_0 c_1 c_2 c_3 y_h y_0 y_1 y_2 y_3 z_h z_0 z_1 z_2 z_3 oc q5 oz ok) ⟨hx, hb, hml, hown, hts⟩ hK hP hD hS hA [6, 7, 8, 9, 10, 1, 2, 3, 4, 5] [0, 11, 12, 13, 14, 15, 16, 17] [0, 13, 14, 15, 16, 17, 8, 9, 10, 11, 12, 1, 2, 3, 4, 5, 6, 7] (c_X0_copyFrom l D cI cZ cO y_h y_0 y_1 y_2 y_3 c_h c_0 c_1 c_2 c_3 _ oy oc q5 hGq5) (cwV 1 hts (gV wd_496 wd_497 wd_498 wd_34 wd_499) rfl rfl rfl (by decide +kernel) ⟨Nat.le_of_ble_eq_true rfl, Nat.le_of_ble_eq_true rfl⟩) 0 0 rfl rfl rfl rfl rfl rfl rfl (by decide) rfl rfl rfl hl.1 rfl (Nat.le_of_ble_eq_true rfl) dX5_image_22 ⟨Nat.zero_le _, Nat.zero_le _⟩ (fun H locs hP hD hS => ?_)
      refine lv_aload_n hx hb dX5_image_25 rfl (lv_at hl 0 rfl) ?_
      refine va_get (D := D) (ci := 5) (v := .ref k_h) (C := RX5) (T := TX5) (N := 8) hx hb hts in_X5 hown hK hP 0 rfl rfl 2 (by decide) (hts _ wd_213) (fun _ h9 => h9) rfl dX5_image_26 ?_
      refine lv_iload_n hx hb dX5_image_29 rfl (lv_at hl 1 rfl) ?_
      refine lv_iconst (v := 1) hx hb dX5_image_30 (by decide) ?_
      obtain ⟨h6, hF⟩ := of_ck hF
      refine va_zast (D := D) hx hb hK hP hD hS 17 1 rfl rfl h6 dX5_image_31 (fun H locs hP hD hS => ?_)
      obtain ⟨ok7, hF, hP, hD⟩ := nm_o (P := fun y => va_P D vwCl (wm_X5_image cI cZ cO x_h c_h i_h k_h f_h w_h n_h s_h t_h c_0 c_1 c_2 c_3 y_h y_0 y_1 y_2 y_3 z_h z_0 z_1 z_2 z_3 oc q5 oz y) _) (B := fun y => va_D A (wm_X5_image cI cZ cO x_h c_h i_h k_h f_h w_h n_h s_h t_h c_0 c_1 c_2 c_3 y_h y_0 y_1 y_2 y_3 z_h z_0 z_1 z_2 z_3 oc q5 oz y)) hF hP hD
      refine lv_iconst (v := 1) hx hb dX5_image_32 (by decide) ?_
      exact hQ _ _ _ _ _ (q5, oz, ok7) ⟨inj_fst hF, inj_snd hF⟩ hP hD hS dX5_image_33
    · rw [eh4]
      replace hF := of_f h4 hF
      refine lv_aload_n hx hb dX5_image_18 rfl (lv_at hl 0 rfl) ?_
      refine va_get (D := D) (ci := 5) (v := .ref c_h) (C := RX5) (T := TX5) (N := 8) hx hb hts in_X5 hown hK hP 0 rfl rfl 0 (by decide) (hts _ wd_211) (fun _ h9 => h9) rfl dX5_image_19 ?_
      obtain ⟨q8, hGq8, hF⟩ := of_bind hF
      refine callVv (As := [.ref c_h]) (rest := []) (wr := [(x_h, .inr (5, [.ref c_h, .ref i_h, .ref k_h, .ref f_h, .ref w_h, .ref n_h, .ref s_h, .ref t_h])), (y_h, .inr (0, [.ref y_0, .ref y_1, .ref y_2, .ref y_3, .int (oy 4 0), .int (oy 5 0), .int (oy 6 0)])), (y_0, .inl (cZ, 8, .inl (oy 0))), (y_1, .inl (cI, 8, .inl (oy 1))), (y_2, .inl (cI, 8, .inl (oy 2))), (y_3, .inl (cI, 8, .inl (oy 3))), (i_h, .inl (cO, 2, .inr (.inr (.inr (.inr (imgF y_h z_h)))))), (k_h, .inl (cZ, 2, .inl ok))]) (WN := wm_X5_image cI cZ cO x_h c_h i_h k_h f_h w_h n_h s_h t_h c_0 c_1 c_2 c_3 y_h y_0 y_1 y_2 y_3 z_h z_0 z_1 z_2 z_3 oc oy q8 ok) ⟨hx, hb, hml, hown, hts⟩ hK hP hD hS hA [11, 12, 13, 14, 15, 1, 2, 3, 4, 5] [0, 6, 7, 8, 9, 10, 16, 17] [0, 13, 14, 15, 16, 17, 1, 2, 3, 4, 5, 8, 9, 10, 11, 12, 6, 7] (c_X0_copyFrom l D cI cZ cO z_h z_0 z_1 z_2 z_3 c_h c_0 c_1 c_2 c_3 _ oz oc q8 hGq8) (cwV 1 hts (gV wd_496 wd_497 wd_498 wd_34 wd_499) rfl rfl rfl (by decide +kernel) ⟨Nat.le_of_ble_eq_true rfl, Nat.le_of_ble_eq_true rfl⟩) 0 0 rfl rfl rfl rfl rfl rfl rfl (by decide) rfl rfl rfl hl.1 rfl (Nat.le_of_ble_eq_true rfl) dX5_image_22 ⟨Nat.zero_le _, Nat.zero_le _⟩ (fun H locs hP hD hS => ?_)
      refine lv_aload_n hx hb dX5_image_25 rfl (lv_at hl 0 rfl) ?_
      refine va_get (D := D) (ci := 5) (v := .ref k_h) (C := RX5) (T := TX5) (N := 8) hx hb hts in_X5 hown hK hP 0 rfl rfl 2 (by decide) (hts _ wd_213) (fun _ h9 => h9) rfl dX5_image_26 ?_
      refine lv_iload_n hx hb dX5_image_29 rfl (lv_at hl 1 rfl) ?_
      refine lv_iconst (v := 1) hx hb dX5_image_30 (by decide) ?_
      obtain ⟨h9, hF⟩ := of_ck hF
      refine va_zast (D := D) hx hb hK hP hD hS 17 1 rfl rfl h9 dX5_image_31 (fun H locs hP hD hS => ?_)
      obtain ⟨ok10, hF, hP, hD⟩ := nm_o (P := fun y => va_P D vwCl (wm_X5_image cI cZ cO x_h c_h i_h k_h f_h w_h n_h s_h t_h c_0 c_1 c_2 c_3 y_h y_0 y_1 y_2 y_3 z_h z_0 z_1 z_2 z_3 oc oy q8 y) _) (B := fun y => va_D A (wm_X5_image cI cZ cO x_h c_h i_h k_h f_h w_h n_h s_h t_h c_0 c_1 c_2 c_3 y_h y_0 y_1 y_2 y_3 z_h z_0 z_1 z_2 z_3 oc oy q8 y)) hF hP hD
      refine lv_iconst (v := 1) hx hb dX5_image_32 (by decide) ?_
      exact hQ _ _ _ _ _ (oy, q8, ok10) ⟨inj_fst hF, inj_snd hF⟩ hP hD hS dX5_image_33
  · replace hF := of_t h2 hF
    refine lv_bipush (v := (-2)) hx hb dX5_image_9 (by decide) ?_
    exact hQ _ _ _ _ _ (oy, oz, ok) ⟨inj_fst hF, inj_snd hF⟩ hP hD hS dX5_image_11

/-! ### ThreeLegs.restore(I)I -/
abbrev wm_X5_restore (cI cZ cO : ClassId) (x_h c_h i_h k_h f_h w_h n_h s_h t_h c_0 c_1 c_2 c_3 y_h y_0 y_1 y_2 y_3 z_h z_0 z_1 z_2 z_3 : Nat) (oc : Ob) (oy : Ob) (oz : Ob) (ok : (Nat → Int32)) : va_W := [(x_h, .inr (5, [.ref c_h, .ref i_h, .ref k_h, .ref f_h, .ref w_h, .ref n_h, .ref s_h, .ref t_h])), (c_h, .inr (0, [.ref c_0, .ref c_1, .ref c_2, .ref c_3, .int (oc 4 0), .int (oc 5 0), .int (oc 6 0)])), (c_0, .inl (cZ, 8, .inl (oc 0))), (c_1, .inl (cI, 8, .inl (oc 1))), (c_2, .inl (cI, 8, .inl (oc 2))), (c_3, .inl (cI, 8, .inl (oc 3))), (y_h, .inr (0, [.ref y_0, .ref y_1, .ref y_2, .ref y_3, .int (oy 4 0), .int (oy 5 0), .int (oy 6 0)])), (y_0, .inl (cZ, 8, .inl (oy 0))), (y_1, .inl (cI, 8, .inl (oy 1))), (y_2, .inl (cI, 8, .inl (oy 2))), (y_3, .inl (cI, 8, .inl (oy 3))), (z_h, .inr (0, [.ref z_0, .ref z_1, .ref z_2, .ref z_3, .int (oz 4 0), .int (oz 5 0), .int (oz 6 0)])), (z_0, .inl (cZ, 8, .inl (oz 0))), (z_1, .inl (cI, 8, .inl (oz 1))), (z_2, .inl (cI, 8, .inl (oz 2))), (z_3, .inl (cI, 8, .inl (oz 3))), (i_h, .inl (cO, 2, .inr (.inr (.inr (.inr (imgF y_h z_h)))))), (k_h, .inl (cZ, 2, .inl ok))]
def F_X5_restore (oc : Ob) (oy : Ob) (oz : Ob) (ok : (Nat → Int32)) (p0 : Int32) : Option (Int32 × Ob) :=
  (F_X5_isWithin p0 0 1).bind (fun q1 => (if q1 = 0 then some ((-2), oc) else ck p0 2 ((if (ok (p0).toNatClampNeg) = 0 then some ((-3), oc) else ck p0 2 (if p0 = 0 then (F_X0_copyFrom oc oy).bind (fun q7 => some (1, q7)) else (F_X0_copyFrom oc oz).bind (fun q8 => some (1, q8)))))))
abbrev rm_X5_restore : Room := { frames := 1, cells := 0, slots := 0, locals := 22 }
abbrev wu_X5_restore : List Cond := .code yX5_restore cX5_restore 2 (some .int) :: lwG
set_option maxHeartbeats 20000000 in
set_option maxRecDepth 100000 in
theorem c_X5_restore (l : Launch) (D : va_G) (cI cZ cO : ClassId) (x_h c_h i_h k_h f_h w_h n_h s_h t_h c_0 c_1 c_2 c_3 y_h y_0 y_1 y_2 y_3 z_h z_0 z_1 z_2 z_3 : Nat) (sz : Nat) (oc : Ob) (oy : Ob) (oz : Ob) (ok : (Nat → Int32)) (p0 : Int32) (q : Int32 × Ob) (hF : F_X5_restore oc oy oz ok p0 = some q) : CtI l yX5_restore wu_X5_restore rm_X5_restore D vwCl (tyL cI cZ cO) [.ref x_h, .int p0] (wm_X5_restore cI cZ cO x_h c_h i_h k_h f_h w_h n_h s_h t_h c_0 c_1 c_2 c_3 y_h y_0 y_1 y_2 y_3 z_h z_0 z_1 z_2 z_3 oc oy oz ok) sz 0 0 (fun (r : Int32) (u : Ob) => r = q.1 ∧ u = q.2) (fun u => wm_X5_restore cI cZ cO x_h c_h i_h k_h f_h w_h n_h s_h t_h c_0 c_1 c_2 c_3 y_h y_0 y_1 y_2 y_3 z_h z_0 z_1 z_2 z_3 u oy oz ok) := by
  refine mk_i (cc := cX5_restore) (maxL := 2) (by decide) rfl (Nat.le_of_ble_eq_true rfl) ?_
  intro p e s m args below meth c A ls Q hx hb hml hown hts hin hK hP hD hS hA hl hQ
  have hl : lv_has ls 2 [(0, .ref x_h), (1, .int p0)] := hl
  unfold F_X5_restore at hF
  refine lv_iload_n hx hb dX5_restore_0 rfl (lv_at hl 1 rfl) ?_
  refine lv_iconst (v := 0) hx hb dX5_restore_1 (by decide) ?_
  refine lv_iconst (v := 1) hx hb dX5_restore_2 (by decide) ?_
  obtain ⟨q1, hGq1, hF⟩ := of_bind hF
  refine callSi (As := [.int p0, .int 0, .int 1]) (rest := []) ⟨hx, hb, hml, hown, hts⟩ hK hP hD hS hA (c_X5_isWithin l D cI cZ cO  _ p0 0 1 q1 hGq1) (va_cwS 3 hts (gS wd_240 wd_241 wd_33 wd_242) rfl rfl rfl (by decide +kernel) ⟨Nat.le_of_ble_eq_true rfl, Nat.le_of_ble_eq_true rfl⟩) rfl hl.1 rfl (Nat.le_of_ble_eq_true rfl) dX5_restore_3 ⟨Nat.zero_le _, Nat.zero_le _⟩ (fun H locs hP hS => ?_)
  refine lv_if_ne (tgt := 12) hx hb dX5_restore_6 (by decide) (fun h2 => ?_) (fun h2 => ?_)
  · replace hF := of_f h2 hF
    refine lv_aload_n hx hb dX5_restore_12 rfl (lv_at hl 0 rfl) ?_
    refine va_get (D := D) (ci := 5) (v := .ref k_h) (C := RX5) (T := TX5) (N := 8) hx hb hts in_X5 hown hK hP 0 rfl rfl 2 (by decide) (hts _ wd_213) (fun _ h9 => h9) rfl dX5_restore_13 ?_
    refine lv_iload_n hx hb dX5_restore_16 rfl (lv_at hl 1 rfl) ?_
    obtain ⟨h3, hF⟩ := of_ck hF
    refine va_zald (D := D) hx hb hK hP 17 1 rfl rfl h3 dX5_restore_17 ?_
    refine lv_if_ne (tgt := 24) hx hb dX5_restore_18 (by decide) (fun h4 => ?_) (fun h4 => ?_)
    · replace hF := of_f h4 hF
      refine lv_aload_n hx hb dX5_restore_24 rfl (lv_at hl 0 rfl) ?_
      refine va_get (D := D) (ci := 5) (v := .ref c_h) (C := RX5) (T := TX5) (N := 8) hx hb hts in_X5 hown hK hP 0 rfl rfl 0 (by decide) (hts _ wd_211) (fun _ h9 => h9) rfl dX5_restore_25 ?_
      refine lv_aload_n hx hb dX5_restore_28 rfl (lv_at hl 0 rfl) ?_
      refine va_get (D := D) (ci := 5) (v := .ref i_h) (C := RX5) (T := TX5) (N := 8) hx hb hts in_X5 hown hK hP 0 rfl rfl 1 (by decide) (hts _ wd_212) (fun _ h9 => h9) rfl dX5_restore_29 ?_
      refine lv_iload_n hx hb dX5_restore_32 rfl (lv_at hl 1 rfl) ?_
      obtain ⟨h5, hF⟩ := of_ck hF
      refine va_aldq (D := D) hx hb hK hP 16 2 rfl rfl h5 dX5_restore_33 ?_
      rcases img2 (y := y_h) (z := z_h) h5 with ⟨h6, eh6⟩ | ⟨h6, eh6⟩
      · rw [eh6]
        replace hF := of_t h6 hF
        obtain ⟨q7, hGq7, hF⟩ := of_bind hF
        refine callVv (As := [.ref y_h]) (rest := []) (wr := [(x_h, .inr (5, [.ref c_h, .ref i_h, .ref k_h, .ref f_h, .ref w_h, .ref n_h, .ref s_h, .ref t_h])), (z_h, .inr (0, [.ref z_0, .ref z_1, .ref z_2, .ref z_3, .int (oz 4 0), .int (oz 5 0), .int (oz 6 0)])), (z_0, .inl (cZ, 8, .inl (oz 0))), (z_1, .inl (cI, 8, .inl (oz 1))), (z_2, .inl (cI, 8, .inl (oz 2))), (z_3, .inl (cI, 8, .inl (oz 3))), (i_h, .inl (cO, 2, .inr (.inr (.inr (.inr (imgF y_h z_h)))))), (k_h, .inl (cZ, 2, .inl ok))]) (WN := wm_X5_restore cI cZ cO x_h c_h i_h k_h f_h w_h n_h s_h t_h c_0 c_1 c_2 c_3 y_h y_0 y_1 y_2 y_3 z_h z_0 z_1 z_2 z_3 q7 oy oz ok) ⟨hx, hb, hml, hown, hts⟩ hK hP hD hS hA [1, 2, 3, 4, 5, 6, 7, 8, 9, 10] [0, 11, 12, 13, 14, 15, 16, 17] [0, 8, 9, 10, 11, 12, 13, 14, 15, 16, 17, 1, 2, 3, 4, 5, 6, 7] (c_X0_copyFrom l D cI cZ cO c_h c_0 c_1 c_2 c_3 y_h y_0 y_1 y_2 y_3 _ oc oy q7 hGq7) (cwV 1 hts (gV wd_496 wd_497 wd_498 wd_34 wd_499) rfl rfl rfl (by decide +kernel) ⟨Nat.le_of_ble_eq_true rfl, Nat.le_of_ble_eq_true rfl⟩) 0 0 rfl rfl rfl rfl rfl rfl rfl (by decide) rfl rfl rfl hl.1 rfl (Nat.le_of_ble_eq_true rfl) dX5_restore_34 ⟨Nat.zero_le _, Nat.zero_le _⟩ (fun H locs hP hD hS => ?_)
        refine lv_iconst (v := 1) hx hb dX5_restore_37 (by decide) ?_
        exact hQ _ _ _ _ _ q7 ⟨inj_fst hF, inj_snd hF⟩ hP hD hS dX5_restore_38
      · rw [eh6]
        replace hF := of_f h6 hF
        obtain ⟨q8, hGq8, hF⟩ := of_bind hF
        refine callVv (As := [.ref z_h]) (rest := []) (wr := [(x_h, .inr (5, [.ref c_h, .ref i_h, .ref k_h, .ref f_h, .ref w_h, .ref n_h, .ref s_h, .ref t_h])), (y_h, .inr (0, [.ref y_0, .ref y_1, .ref y_2, .ref y_3, .int (oy 4 0), .int (oy 5 0), .int (oy 6 0)])), (y_0, .inl (cZ, 8, .inl (oy 0))), (y_1, .inl (cI, 8, .inl (oy 1))), (y_2, .inl (cI, 8, .inl (oy 2))), (y_3, .inl (cI, 8, .inl (oy 3))), (i_h, .inl (cO, 2, .inr (.inr (.inr (.inr (imgF y_h z_h)))))), (k_h, .inl (cZ, 2, .inl ok))]) (WN := wm_X5_restore cI cZ cO x_h c_h i_h k_h f_h w_h n_h s_h t_h c_0 c_1 c_2 c_3 y_h y_0 y_1 y_2 y_3 z_h z_0 z_1 z_2 z_3 q8 oy oz ok) ⟨hx, hb, hml, hown, hts⟩ hK hP hD hS hA [1, 2, 3, 4, 5, 11, 12, 13, 14, 15] [0, 6, 7, 8, 9, 10, 16, 17] [0, 8, 9, 10, 11, 12, 1, 2, 3, 4, 5, 13, 14, 15, 16, 17, 6, 7] (c_X0_copyFrom l D cI cZ cO c_h c_0 c_1 c_2 c_3 z_h z_0 z_1 z_2 z_3 _ oc oz q8 hGq8) (cwV 1 hts (gV wd_496 wd_497 wd_498 wd_34 wd_499) rfl rfl rfl (by decide +kernel) ⟨Nat.le_of_ble_eq_true rfl, Nat.le_of_ble_eq_true rfl⟩) 0 0 rfl rfl rfl rfl rfl rfl rfl (by decide) rfl rfl rfl hl.1 rfl (Nat.le_of_ble_eq_true rfl) dX5_restore_34 ⟨Nat.zero_le _, Nat.zero_le _⟩ (fun H locs hP hD hS => ?_)
        refine lv_iconst (v := 1) hx hb dX5_restore_37 (by decide) ?_
        exact hQ _ _ _ _ _ q8 ⟨inj_fst hF, inj_snd hF⟩ hP hD hS dX5_restore_38
    · replace hF := of_t h4 hF
      refine lv_bipush (v := (-3)) hx hb dX5_restore_21 (by decide) ?_
      exact hQ _ _ _ _ _ oc ⟨inj_fst hF, inj_snd hF⟩ hP hD hS dX5_restore_23
  · replace hF := of_t h2 hF
    refine lv_bipush (v := (-2)) hx hb dX5_restore_9 (by decide) ?_
    exact hQ _ _ _ _ _ oc ⟨inj_fst hF, inj_snd hF⟩ hP hD hS dX5_restore_11

/-! ### ThreeLegs.toldOfPerson(II)I -/
abbrev wm_X5_toldOfPerson (cI cZ cO : ClassId) (x_h c_h i_h k_h f_h w_h n_h s_h t_h c_0 c_1 c_2 c_3 : Nat) (oc : Ob) : va_W := [(x_h, .inr (5, [.ref c_h, .ref i_h, .ref k_h, .ref f_h, .ref w_h, .ref n_h, .ref s_h, .ref t_h])), (c_h, .inr (0, [.ref c_0, .ref c_1, .ref c_2, .ref c_3, .int (oc 4 0), .int (oc 5 0), .int (oc 6 0)])), (c_0, .inl (cZ, 8, .inl (oc 0))), (c_1, .inl (cI, 8, .inl (oc 1))), (c_2, .inl (cI, 8, .inl (oc 2))), (c_3, .inl (cI, 8, .inl (oc 3)))]
def F_X5_toldOfPerson (oc : Ob) (p0 : Int32) (p1 : Int32) : Option (Int32) :=
  (F_X0_hasRunner oc p0).bind (fun q1 => (if q1 = 0 then some (-2) else (if p1 = 0 then ck p0 8 (some ((oc 1) (p0).toNatClampNeg)) else (if p1 = 1 then ck p0 8 (some ((oc 2) (p0).toNatClampNeg)) else (if p1 = 2 then ck p0 8 (some ((oc 3) (p0).toNatClampNeg)) else some (-2))))))
abbrev rm_X5_toldOfPerson : Room := { frames := 1, cells := 0, slots := 0, locals := 21 }
abbrev wu_X5_toldOfPerson : List Cond := .code yX5_toldOfPerson cX5_toldOfPerson 3 (some .int) :: lwG
set_option maxHeartbeats 20000000 in
set_option maxRecDepth 100000 in
theorem c_X5_toldOfPerson (l : Launch) (D : va_G) (cI cZ cO : ClassId) (x_h c_h i_h k_h f_h w_h n_h s_h t_h c_0 c_1 c_2 c_3 : Nat) (sz : Nat) (oc : Ob) (p0 : Int32) (p1 : Int32) (q : Int32) (hF : F_X5_toldOfPerson oc p0 p1 = some q) : CtI l yX5_toldOfPerson wu_X5_toldOfPerson rm_X5_toldOfPerson D vwCl (tyL cI cZ cO) [.ref x_h, .int p0, .int p1] (wm_X5_toldOfPerson cI cZ cO x_h c_h i_h k_h f_h w_h n_h s_h t_h c_0 c_1 c_2 c_3 oc) sz 0 0 (fun (r : Int32) (u : Unit) => r = q ∧ u = ()) (fun u => wm_X5_toldOfPerson cI cZ cO x_h c_h i_h k_h f_h w_h n_h s_h t_h c_0 c_1 c_2 c_3 oc) := by
  refine mk_i (cc := cX5_toldOfPerson) (maxL := 3) (by decide) rfl (Nat.le_of_ble_eq_true rfl) ?_
  intro p e s m args below meth c A ls Q hx hb hml hown hts hin hK hP hD hS hA hl hQ
  have hl : lv_has ls 3 [(0, .ref x_h), (1, .int p0), (2, .int p1)] := hl
  unfold F_X5_toldOfPerson at hF
  refine lv_aload_n hx hb dX5_toldOfPerson_0 rfl (lv_at hl 0 rfl) ?_
  refine va_get (D := D) (ci := 5) (v := .ref c_h) (C := RX5) (T := TX5) (N := 8) hx hb hts in_X5 hown hK hP 0 rfl rfl 0 (by decide) (hts _ wd_211) (fun _ h9 => h9) rfl dX5_toldOfPerson_1 ?_
  refine lv_iload_n hx hb dX5_toldOfPerson_4 rfl (lv_at hl 1 rfl) ?_
  obtain ⟨q1, hGq1, hF⟩ := of_bind hF
  refine callVi (As := [.int p0]) (rest := []) (wr := [(x_h, .inr (5, [.ref c_h, .ref i_h, .ref k_h, .ref f_h, .ref w_h, .ref n_h, .ref s_h, .ref t_h]))]) (WN := wm_X5_toldOfPerson cI cZ cO x_h c_h i_h k_h f_h w_h n_h s_h t_h c_0 c_1 c_2 c_3 oc) ⟨hx, hb, hml, hown, hts⟩ hK hP hD hS hA [1, 2, 3, 4, 5] [0] [0, 1, 2, 3, 4, 5] (c_X0_hasRunner l D cI cZ cO c_h c_0 c_1 c_2 c_3 _ oc p0 q1 hGq1) (cwV 1 hts (gV wd_265 wd_266 wd_267 wd_34 wd_268) rfl rfl rfl (by decide +kernel) ⟨Nat.le_of_ble_eq_true rfl, Nat.le_of_ble_eq_true rfl⟩) 0 0 rfl rfl rfl rfl rfl rfl rfl (by decide) rfl rfl rfl hl.1 rfl (Nat.le_of_ble_eq_true rfl) dX5_toldOfPerson_5 ⟨Nat.zero_le _, Nat.zero_le _⟩ (fun H locs hP hD hS => ?_)
  refine lv_if_ne (tgt := 14) hx hb dX5_toldOfPerson_8 (by decide) (fun h2 => ?_) (fun h2 => ?_)
  · replace hF := of_f h2 hF
    refine lv_iload_n hx hb dX5_toldOfPerson_14 rfl (lv_at hl 2 rfl) ?_
    by_cases h3 : p1 = 0
    · replace hF := of_t h3 hF
      refine lv_tableIn (off := 25) (tgt := 40) hx hb dX5_toldOfPerson_15 (by rw [h3]; decide) (by rw [h3]; decide) (by rw [h3]; decide +kernel) (by decide) ?_
      refine lv_aload_n hx hb dX5_toldOfPerson_40 rfl (lv_at hl 0 rfl) ?_
      refine va_get (D := D) (ci := 5) (v := .ref c_h) (C := RX5) (T := TX5) (N := 8) hx hb hts in_X5 hown hK hP 0 rfl rfl 0 (by decide) (hts _ wd_211) (fun _ h9 => h9) rfl dX5_toldOfPerson_41 ?_
      refine va_get (D := D) (ci := 0) (v := .ref c_1) (C := RX0) (T := TX0) (N := 7) hx hb hts in_X0 hown hK hP 1 rfl rfl 1 (by decide) (hts _ wd_60) (fun _ h9 => h9) rfl dX5_toldOfPerson_44 ?_
      refine lv_iload_n hx hb dX5_toldOfPerson_47 rfl (lv_at hl 1 rfl) ?_
      obtain ⟨h4, hF⟩ := of_ck hF
      refine va_iald (D := D) hx hb hK hP 3 0 rfl rfl h4 dX5_toldOfPerson_48 ?_
      exact hQ _ _ _ _ _ () ⟨Option.some.inj hF, rfl⟩ hP hD hS dX5_toldOfPerson_49
    · replace hF := of_f h3 hF
      by_cases h5 : p1 = 1
      · replace hF := of_t h5 hF
        refine lv_tableIn (off := 35) (tgt := 50) hx hb dX5_toldOfPerson_15 (by rw [h5]; decide) (by rw [h5]; decide) (by rw [h5]; decide +kernel) (by decide) ?_
        refine lv_aload_n hx hb dX5_toldOfPerson_50 rfl (lv_at hl 0 rfl) ?_
        refine va_get (D := D) (ci := 5) (v := .ref c_h) (C := RX5) (T := TX5) (N := 8) hx hb hts in_X5 hown hK hP 0 rfl rfl 0 (by decide) (hts _ wd_211) (fun _ h9 => h9) rfl dX5_toldOfPerson_51 ?_
        refine va_get (D := D) (ci := 0) (v := .ref c_2) (C := RX0) (T := TX0) (N := 7) hx hb hts in_X0 hown hK hP 1 rfl rfl 2 (by decide) (hts _ wd_63) (fun _ h9 => h9) rfl dX5_toldOfPerson_54 ?_
        refine lv_iload_n hx hb dX5_toldOfPerson_57 rfl (lv_at hl 1 rfl) ?_
        obtain ⟨h6, hF⟩ := of_ck hF
        refine va_iald (D := D) hx hb hK hP 4 0 rfl rfl h6 dX5_toldOfPerson_58 ?_
        exact hQ _ _ _ _ _ () ⟨Option.some.inj hF, rfl⟩ hP hD hS dX5_toldOfPerson_59
      · replace hF := of_f h5 hF
        by_cases h7 : p1 = 2
        · replace hF := of_t h7 hF
          refine lv_tableIn (off := 45) (tgt := 60) hx hb dX5_toldOfPerson_15 (by rw [h7]; decide) (by rw [h7]; decide) (by rw [h7]; decide +kernel) (by decide) ?_
          refine lv_aload_n hx hb dX5_toldOfPerson_60 rfl (lv_at hl 0 rfl) ?_
          refine va_get (D := D) (ci := 5) (v := .ref c_h) (C := RX5) (T := TX5) (N := 8) hx hb hts in_X5 hown hK hP 0 rfl rfl 0 (by decide) (hts _ wd_211) (fun _ h9 => h9) rfl dX5_toldOfPerson_61 ?_
          refine va_get (D := D) (ci := 0) (v := .ref c_3) (C := RX0) (T := TX0) (N := 7) hx hb hts in_X0 hown hK hP 1 rfl rfl 3 (by decide) (hts _ wd_66) (fun _ h9 => h9) rfl dX5_toldOfPerson_64 ?_
          refine lv_iload_n hx hb dX5_toldOfPerson_67 rfl (lv_at hl 1 rfl) ?_
          obtain ⟨h8, hF⟩ := of_ck hF
          refine va_iald (D := D) hx hb hK hP 5 0 rfl rfl h8 dX5_toldOfPerson_68 ?_
          exact hQ _ _ _ _ _ () ⟨Option.some.inj hF, rfl⟩ hP hD hS dX5_toldOfPerson_69
        · replace hF := of_f h7 hF
          refine lv_tableOut (tgt := 70) hx hb dX5_toldOfPerson_15 (tab_out (fun k g1 g2 => by
                have g3 : k = 0 ∨ k = 1 ∨ k = 2 := by omega
                rcases g3 with rfl | rfl | rfl
                · exact h3
                · exact h5
                · exact h7)) (by decide) ?_
          refine lv_bipush (v := (-2)) hx hb dX5_toldOfPerson_70 (by decide) ?_
          exact hQ _ _ _ _ _ () ⟨Option.some.inj hF, rfl⟩ hP hD hS dX5_toldOfPerson_72
  · replace hF := of_t h2 hF
    refine lv_bipush (v := (-2)) hx hb dX5_toldOfPerson_11 (by decide) ?_
    exact hQ _ _ _ _ _ () ⟨Option.some.inj hF, rfl⟩ hP hD hS dX5_toldOfPerson_13

/-! ### ThreeLegs.told(I)I -/
abbrev wm_X5_told (cI cZ cO : ClassId) (x_h c_h i_h k_h f_h w_h n_h s_h t_h c_0 c_1 c_2 c_3 f_0 : Nat) (oc : Ob) (of : Ob) : va_W := [(x_h, .inr (5, [.ref c_h, .ref i_h, .ref k_h, .ref f_h, .ref w_h, .ref n_h, .ref s_h, .ref t_h])), (c_h, .inr (0, [.ref c_0, .ref c_1, .ref c_2, .ref c_3, .int (oc 4 0), .int (oc 5 0), .int (oc 6 0)])), (c_0, .inl (cZ, 8, .inl (oc 0))), (c_1, .inl (cI, 8, .inl (oc 1))), (c_2, .inl (cI, 8, .inl (oc 2))), (c_3, .inl (cI, 8, .inl (oc 3))), (f_h, .inr (1, [.ref f_0, .int (of 1 0)])), (f_0, .inl (cI, 40, .inl (of 0)))]
def F_X5_told (oc : Ob) (of : Ob) (p0 : Int32) : Option (Int32) :=
  (if p0 = 0 then some (of 1 0) else (if p0 = 1 then (F_X0_bits oc).bind (fun q3 => some q3) else (if p0 = 2 then some (oc 4 0) else (if p0 = 3 then some (oc 5 0) else (if p0 = 4 then some (oc 6 0) else dd (p0 / 10) (fun (v7 : Int32) => dd (v7 - 1) (fun (v8 : Int32) => dd (p0 - p0 / 10 * 10) (fun (v9 : Int32) => (F_X5_toldOfPerson oc v8 v9).bind (fun q10 => some q10)))))))))
abbrev rm_X5_told : Room := { frames := 2, cells := 0, slots := 0, locals := 43 }
abbrev wu_X5_told : List Cond := .code yX5_told cX5_told 2 (some .int) :: lwG
set_option maxHeartbeats 20000000 in
set_option maxRecDepth 100000 in
theorem c_X5_told (l : Launch) (D : va_G) (cI cZ cO : ClassId) (x_h c_h i_h k_h f_h w_h n_h s_h t_h c_0 c_1 c_2 c_3 f_0 : Nat) (sz : Nat) (oc : Ob) (of : Ob) (p0 : Int32) (q : Int32) (hF : F_X5_told oc of p0 = some q) : CtI l yX5_told wu_X5_told rm_X5_told D vwCl (tyL cI cZ cO) [.ref x_h, .int p0] (wm_X5_told cI cZ cO x_h c_h i_h k_h f_h w_h n_h s_h t_h c_0 c_1 c_2 c_3 f_0 oc of) sz 0 0 (fun (r : Int32) (u : Unit) => r = q ∧ u = ()) (fun u => wm_X5_told cI cZ cO x_h c_h i_h k_h f_h w_h n_h s_h t_h c_0 c_1 c_2 c_3 f_0 oc of) := by
  refine mk_i (cc := cX5_told) (maxL := 2) (by decide) rfl (Nat.le_of_ble_eq_true rfl) ?_
  intro p e s m args below meth c A ls Q hx hb hml hown hts hin hK hP hD hS hA hl hQ
  have hl : lv_has ls 2 [(0, .ref x_h), (1, .int p0)] := hl
  unfold F_X5_told at hF
  refine lv_iload_n hx hb dX5_told_0 rfl (lv_at hl 1 rfl) ?_
  by_cases h1 : p0 = 0
  · replace hF := of_t h1 hF
    refine lv_tableIn (off := 35) (tgt := 36) hx hb dX5_told_1 (by rw [h1]; decide) (by rw [h1]; decide) (by rw [h1]; decide +kernel) (by decide) ?_
    refine lv_aload_n hx hb dX5_told_36 rfl (lv_at hl 0 rfl) ?_
    refine va_get (D := D) (ci := 5) (v := .ref f_h) (C := RX5) (T := TX5) (N := 8) hx hb hts in_X5 hown hK hP 0 rfl rfl 3 (by decide) (hts _ wd_214) (fun _ h9 => h9) rfl dX5_told_37 ?_
    refine va_get (D := D) (ci := 1) (v := .int (of 1 0)) (C := RX1) (T := TX1) (N := 2) hx hb hts in_X1 hown hK hP 6 rfl rfl 1 (by decide) (hts _ wd_102) (fun _ h9 => h9) rfl dX5_told_40 ?_
    exact hQ _ _ _ _ _ () ⟨Option.some.inj hF, rfl⟩ hP hD hS dX5_told_43
  · replace hF := of_f h1 hF
    by_cases h2 : p0 = 1
    · replace hF := of_t h2 hF
      refine lv_tableIn (off := 43) (tgt := 44) hx hb dX5_told_1 (by rw [h2]; decide) (by rw [h2]; decide) (by rw [h2]; decide +kernel) (by decide) ?_
      refine lv_aload_n hx hb dX5_told_44 rfl (lv_at hl 0 rfl) ?_
      refine va_get (D := D) (ci := 5) (v := .ref c_h) (C := RX5) (T := TX5) (N := 8) hx hb hts in_X5 hown hK hP 0 rfl rfl 0 (by decide) (hts _ wd_211) (fun _ h9 => h9) rfl dX5_told_45 ?_
      obtain ⟨q3, hGq3, hF⟩ := of_bind hF
      refine callVi (As := []) (rest := []) (wr := [(x_h, .inr (5, [.ref c_h, .ref i_h, .ref k_h, .ref f_h, .ref w_h, .ref n_h, .ref s_h, .ref t_h])), (f_h, .inr (1, [.ref f_0, .int (of 1 0)])), (f_0, .inl (cI, 40, .inl (of 0)))]) (WN := wm_X5_told cI cZ cO x_h c_h i_h k_h f_h w_h n_h s_h t_h c_0 c_1 c_2 c_3 f_0 oc of) ⟨hx, hb, hml, hown, hts⟩ hK hP hD hS hA [1, 2, 3, 4, 5] [0, 6, 7] [0, 3, 4, 5, 6, 7, 1, 2] (c_X0_bits l D cI cZ cO c_h c_0 c_1 c_2 c_3 _ oc q3 hGq3) (cwV 0 hts (gV wd_508 wd_252 wd_253 wd_34 wd_254) rfl rfl rfl (by decide +kernel) ⟨Nat.le_of_ble_eq_true rfl, Nat.le_of_ble_eq_true rfl⟩) 0 0 rfl rfl rfl rfl rfl rfl rfl (by decide) rfl rfl rfl hl.1 rfl (Nat.le_of_ble_eq_true rfl) dX5_told_48 ⟨Nat.zero_le _, Nat.zero_le _⟩ (fun H locs hP hD hS => ?_)
      exact hQ _ _ _ _ _ () ⟨Option.some.inj hF, rfl⟩ hP hD hS dX5_told_51
    · replace hF := of_f h2 hF
      by_cases h4 : p0 = 2
      · replace hF := of_t h4 hF
        refine lv_tableIn (off := 51) (tgt := 52) hx hb dX5_told_1 (by rw [h4]; decide) (by rw [h4]; decide) (by rw [h4]; decide +kernel) (by decide) ?_
        refine lv_aload_n hx hb dX5_told_52 rfl (lv_at hl 0 rfl) ?_
        refine va_get (D := D) (ci := 5) (v := .ref c_h) (C := RX5) (T := TX5) (N := 8) hx hb hts in_X5 hown hK hP 0 rfl rfl 0 (by decide) (hts _ wd_211) (fun _ h9 => h9) rfl dX5_told_53 ?_
        refine va_get (D := D) (ci := 0) (v := .int (oc 4 0)) (C := RX0) (T := TX0) (N := 7) hx hb hts in_X0 hown hK hP 1 rfl rfl 4 (by decide) (hts _ wd_69) (fun _ h9 => h9) rfl dX5_told_56 ?_
        exact hQ _ _ _ _ _ () ⟨Option.some.inj hF, rfl⟩ hP hD hS dX5_told_59
      · replace hF := of_f h4 hF
        by_cases h5 : p0 = 3
        · replace hF := of_t h5 hF
          refine lv_tableIn (off := 59) (tgt := 60) hx hb dX5_told_1 (by rw [h5]; decide) (by rw [h5]; decide) (by rw [h5]; decide +kernel) (by decide) ?_
          refine lv_aload_n hx hb dX5_told_60 rfl (lv_at hl 0 rfl) ?_
          refine va_get (D := D) (ci := 5) (v := .ref c_h) (C := RX5) (T := TX5) (N := 8) hx hb hts in_X5 hown hK hP 0 rfl rfl 0 (by decide) (hts _ wd_211) (fun _ h9 => h9) rfl dX5_told_61 ?_
          refine va_get (D := D) (ci := 0) (v := .int (oc 5 0)) (C := RX0) (T := TX0) (N := 7) hx hb hts in_X0 hown hK hP 1 rfl rfl 5 (by decide) (hts _ wd_72) (fun _ h9 => h9) rfl dX5_told_64 ?_
          exact hQ _ _ _ _ _ () ⟨Option.some.inj hF, rfl⟩ hP hD hS dX5_told_67
        · replace hF := of_f h5 hF
          by_cases h6 : p0 = 4
          · replace hF := of_t h6 hF
            refine lv_tableIn (off := 67) (tgt := 68) hx hb dX5_told_1 (by rw [h6]; decide) (by rw [h6]; decide) (by rw [h6]; decide +kernel) (by decide) ?_
            refine lv_aload_n hx hb dX5_told_68 rfl (lv_at hl 0 rfl) ?_
            refine va_get (D := D) (ci := 5) (v := .ref c_h) (C := RX5) (T := TX5) (N := 8) hx hb hts in_X5 hown hK hP 0 rfl rfl 0 (by decide) (hts _ wd_211) (fun _ h9 => h9) rfl dX5_told_69 ?_
            refine va_get (D := D) (ci := 0) (v := .int (oc 6 0)) (C := RX0) (T := TX0) (N := 7) hx hb hts in_X0 hown hK hP 1 rfl rfl 6 (by decide) (hts _ wd_75) (fun _ h9 => h9) rfl dX5_told_72 ?_
            exact hQ _ _ _ _ _ () ⟨Option.some.inj hF, rfl⟩ hP hD hS dX5_told_75
          · replace hF := of_f h6 hF
            refine lv_tableOut (tgt := 76) hx hb dX5_told_1 (tab_out (fun k g1 g2 => by
                  have g3 : k = 0 ∨ k = 1 ∨ k = 2 ∨ k = 3 ∨ k = 4 := by omega
                  rcases g3 with rfl | rfl | rfl | rfl | rfl
                  · exact h1
                  · exact h2
                  · exact h4
                  · exact h5
                  · exact h6)) (by decide) ?_
            refine lv_aload_n hx hb dX5_told_76 rfl (lv_at hl 0 rfl) ?_
            refine lv_iload_n hx hb dX5_told_77 rfl (lv_at hl 1 rfl) ?_
            refine lv_bipush (v := 10) hx hb dX5_told_78 (by decide) ?_
            refine lv_idiv hx hb dX5_told_80 (by decide) ?_
            refine lv_topi (fun v7 ev7 => ?_)
            replace hF := of_dd hF v7 ev7
            refine lv_iconst (v := 1) hx hb dX5_told_81 (by decide) ?_
            refine lv_isub hx hb dX5_told_82 ?_
            refine lv_topi (fun v8 ev8 => ?_)
            replace hF := of_dd hF v8 ev8
            refine lv_iload_n hx hb dX5_told_83 rfl (lv_at hl 1 rfl) ?_
            refine lv_bipush (v := 10) hx hb dX5_told_84 (by decide) ?_
            refine lv_irem hx hb dX5_told_86 (by decide) ?_
            refine lv_topi (fun v9 ev9 => ?_)
            replace hF := of_dd hF v9 ev9
            obtain ⟨q10, hGq10, hF⟩ := of_bind hF
            refine callVi (As := [.int v8, .int v9]) (rest := []) (wr := [(f_h, .inr (1, [.ref f_0, .int (of 1 0)])), (f_0, .inl (cI, 40, .inl (of 0)))]) (WN := wm_X5_told cI cZ cO x_h c_h i_h k_h f_h w_h n_h s_h t_h c_0 c_1 c_2 c_3 f_0 oc of) ⟨hx, hb, hml, hown, hts⟩ hK hP hD hS hA [0, 1, 2, 3, 4, 5] [6, 7] [2, 3, 4, 5, 6, 7, 0, 1] (c_X5_toldOfPerson l D cI cZ cO x_h c_h i_h k_h f_h w_h n_h s_h t_h c_0 c_1 c_2 c_3 _ oc v8 v9 q10 hGq10) (cwV 2 hts (gV wd_509 wd_511 wd_13 wd_33 wd_512) rfl rfl rfl (by decide +kernel) ⟨Nat.le_of_ble_eq_true rfl, Nat.le_of_ble_eq_true rfl⟩) 0 5 rfl rfl rfl rfl rfl rfl rfl (by decide) rfl rfl rfl hl.1 rfl (Nat.le_of_ble_eq_true rfl) dX5_told_87 ⟨Nat.zero_le _, Nat.zero_le _⟩ (fun H locs hP hD hS => ?_)
            exact hQ _ _ _ _ _ () ⟨Option.some.inj hF, rfl⟩ hP hD hS dX5_told_90
