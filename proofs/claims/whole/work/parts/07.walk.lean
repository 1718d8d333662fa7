/-! ### ThreeLegs$Knots.lineUp(LThreeLegs$Crowd;)I -/
abbrev wm_X2_lineUp (cI cZ cO : ClassId) (n_h n_0 n_1 n_2 n_3 c_h c_0 c_1 c_2 c_3 : Nat) (on : Ob) (oc : Ob) : va_W := [(n_h, .inr (2, [.ref n_0, .ref n_1, .ref n_2, .ref n_3, .int (on 4 0), .int (on 5 0)])), (n_0, .inl (cI, 4, .inl (on 0))), (n_1, .inl (cI, 8, .inl (on 1))), (n_2, .inl (cI, 8, .inl (on 2))), (n_3, .inl (cI, 8, .inl (on 3))), (c_h, .inr (0, [.ref c_0, .ref c_1, .ref c_2, .ref c_3, .int (oc 4 0), .int (oc 5 0), .int (oc 6 0)])), (c_0, .inl (cZ, 8, .inl (oc 0))), (c_1, .inl (cI, 8, .inl (oc 1))), (c_2, .inl (cI, 8, .inl (oc 2))), (c_3, .inl (cI, 8, .inl (oc 3)))]
def L_X2_lineUp_4 : Nat → Ob → Int32 → Int32 → Ob → (Int32 → Ob → Option (Int32 × Ob)) → Option (Int32 × Ob)
  | 0, _, _, _, _, _ => none
  | n8 + 1, oc, v4, v5, on6, K1 =>
    (if 8 ≤ v5 then K1 v4 on6 else (F_X0_hasRunner oc v5).bind (fun q10 => (if q10 = 0 then dd (v5 + 1) (fun (v12 : Int32) => L_X2_lineUp_4 n8 oc v4 v12 on6 K1) else ck v4 8 (dd (sO on6 1 (upd (on6 1) (v4).toNatClampNeg v5)) (fun (on14 : Ob) => dd (v4 + 1) (fun (v15 : Int32) => dd (v5 + 1) (fun (v16 : Int32) => L_X2_lineUp_4 n8 oc v15 v16 on14 K1)))))))
def F_X2_lineUp (on : Ob) (oc : Ob)  : Option (Int32 × Ob) :=
  jn (fun (v2 : Int32) (on3 : Ob) => some (v2, on3)) (fun (K1 : Int32 → Ob → Option (Int32 × Ob)) => L_X2_lineUp_4 2000 oc 0 0 on K1)
abbrev rm_X2_lineUp : Room := { frames := 1, cells := 0, slots := 0, locals := 21 }
abbrev wu_X2_lineUp : List Cond := .code yX2_lineUp cX2_lineUp 4 (some .int) :: lwG
set_option maxHeartbeats 20000000 in
set_option maxRecDepth 100000 in
theorem c_X2_lineUp (l : Launch) (D : va_G) (cI cZ cO : ClassId) (n_h n_0 n_1 n_2 n_3 c_h c_0 c_1 c_2 c_3 : Nat) (sz : Nat) (on : Ob) (oc : Ob)  (q : Int32 × Ob) (hF : F_X2_lineUp on oc = some q) : CtI l yX2_lineUp wu_X2_lineUp rm_X2_lineUp D vwCl (tyL cI cZ cO) [.ref n_h, .ref c_h] (wm_X2_lineUp cI cZ cO n_h n_0 n_1 n_2 n_3 c_h c_0 c_1 c_2 c_3 on oc) sz 0 0 (fun (r : Int32) (u : Ob) => r = q.1 ∧ u = q.2) (fun u => wm_X2_lineUp cI cZ cO n_h n_0 n_1 n_2 n_3 c_h c_0 c_1 c_2 c_3 u oc) := by
  refine mk_i (cc := cX2_lineUp) (maxL := 4) (by decide) rfl (Nat.le_of_ble_eq_true rfl) ?_
  intro p e s m args below meth c A ls Q hx hb hml hown hts hin hK hP hD hS hA hl hQ
  have hl : lv_has ls 4 [(0, .ref n_h), (1, .ref c_h)] := hl
  unfold F_X2_lineUp at hF
  refine lv_iconst (v := 0) hx hb dX2_lineUp_0 (by decide) ?_
  refine lv_istore_n (lv' := [(2, .int 0), (0, .ref n_h), (1, .ref c_h)]) hx hb dX2_lineUp_1 rfl hl (by decide) rfl (fun ls hl => ?_)
  refine lv_iconst (v := 0) hx hb dX2_lineUp_2 (by decide) ?_
  refine lv_istore_n (lv' := [(3, .int 0), (2, .int 0), (0, .ref n_h), (1, .ref c_h)]) hx hb dX2_lineUp_3 rfl hl (by decide) rfl (fun ls hl => ?_)
  obtain ⟨K1, eK1, hF⟩ := of_jn hF
  have hK1 : ∀ (v2 : Int32) (on3 : Ob) (ls : Array Slot) (H : Heap) (locs : List Loc), lv_has ls 4 [(2, .int v2)] → va_P D vwCl (wm_X2_lineUp cI cZ cO n_h n_0 n_1 n_2 n_3 c_h c_0 c_1 c_2 c_3 on3 oc) H → va_D A (wm_X2_lineUp cI cZ cO n_h n_0 n_1 n_2 n_3 c_h c_0 c_1 c_2 c_3 on3 oc) → va_S A s.heap H locs → K1 v2 on3 = some q → W p l e rm_X2_lineUp s m args below meth c H locs 0 0 Q (F0 m 34 ls []) := by
    intro v2 on3 ls H locs hl hP hD hS hF
    subst eK1
    refine lv_iload_n hx hb dX2_lineUp_34 rfl (lv_at hl 0 rfl) ?_
    exact hQ _ _ _ _ _ on3 ⟨inj_fst hF, inj_snd hF⟩ hP hD hS dX2_lineUp_35
  have hloop17 : ∀ (n8 : Nat) (v4 : Int32) (v5 : Int32) (on6 : Ob) (ls : Array Slot) (H : Heap) (locs : List Loc), lv_has ls 4 [(0, .ref n_h), (1, .ref c_h), (2, .int v4), (3, .int v5)] → va_P D vwCl (wm_X2_lineUp cI cZ cO n_h n_0 n_1 n_2 n_3 c_h c_0 c_1 c_2 c_3 on6 oc) H → va_D A (wm_X2_lineUp cI cZ cO n_h n_0 n_1 n_2 n_3 c_h c_0 c_1 c_2 c_3 on6 oc) → va_S A s.heap H locs → L_X2_lineUp_4 n8 oc v4 v5 on6 K1 = some q → W p l e rm_X2_lineUp s m args below meth c H locs 0 0 Q (F0 m 4 ls []) := by
    intro n8
    induction n8 with
    | zero =>
      intro v4 v5 on6 ls H locs hl hP hD hS hF
      exact of_none hF
    | succ n8 ih7 =>
      intro v4 v5 on6 ls H locs hl hP hD hS hF
      rw [L_X2_lineUp_4.eq_2] at hF
      refine lv_iload_n hx hb dX2_lineUp_4 rfl (lv_at hl 3 rfl) ?_
      refine lv_bipush (v := 8) hx hb dX2_lineUp_5 (by decide) ?_
      refine lv_icmp_ge (tgt := 34) hx hb dX2_lineUp_7 (by decide) (fun h9 => ?_) (fun h9 => ?_)
      · replace hF := of_t h9 hF
        exact hK1 v4 on6 ls _ _ (lv_sub hl [2] rfl) hP hD hS hF
      · replace hF := of_f h9 hF
        refine lv_aload_n hx hb dX2_lineUp_10 rfl (lv_at hl 1 rfl) ?_
        refine lv_iload_n hx hb dX2_lineUp_11 rfl (lv_at hl 3 rfl) ?_
        obtain ⟨q10, hGq10, hF⟩ := of_bind hF
        refine callVi (As := [.int v5]) (rest := []) (wr := [(n_h, .inr (2, [.ref n_0, .ref n_1, .ref n_2, .ref n_3, .int (on6 4 0), .int (on6 5 0)])), (n_0, .inl (cI, 4, .inl (on6 0))), (n_1, .inl (cI, 8, .inl (on6 1))), (n_2, .inl (cI, 8, .inl (on6 2))), (n_3, .inl (cI, 8, .inl (on6 3)))]) (WN := wm_X2_lineUp cI cZ cO n_h n_0 n_1 n_2 n_3 c_h c_0 c_1 c_2 c_3 on6 oc) ⟨hx, hb, hml, hown, hts⟩ hK hP hD hS hA [5, 6, 7, 8, 9] [0, 1, 2, 3, 4] [0, 1, 2, 3, 4, 5, 6, 7, 8, 9] (c_X0_hasRunner l D cI cZ cO c_h c_0 c_1 c_2 c_3 _ oc v5 q10 hGq10) (cwV 1 hts (gV wd_384 wd_266 wd_267 wd_34 wd_268) rfl rfl rfl (by decide +kernel) ⟨Nat.le_of_ble_eq_true rfl, Nat.le_of_ble_eq_true rfl⟩) 0 0 rfl rfl rfl rfl rfl rfl rfl (by decide) rfl rfl rfl hl.1 rfl (Nat.le_of_ble_eq_true rfl) dX2_lineUp_12 ⟨Nat.zero_le _, Nat.zero_le _⟩ (fun H locs hP hD hS => ?_)
        refine lv_if_eq (tgt := 28) hx hb dX2_lineUp_15 (by decide) (fun h11 => ?_) (fun h11 => ?_)
        · replace hF := of_t h11 hF
          obtain ⟨v12, ev12⟩ : ∃ y : Int32, y = v5 + 1 := ⟨_, rfl⟩
          replace hF := of_dd hF v12 ev12
          refine lv_iinc (v := v12) (lv' := [(3, .int v12), (0, .ref n_h), (1, .ref c_h), (2, .int v4)]) hx hb dX2_lineUp_28 hl (k := 3) rfl (by rw [ev12]; rfl) (by decide) rfl (fun ls hl => ?_)
          refine lv_goto (tgt := 4) hx hb dX2_lineUp_31 (by decide) ?_
          exact ih7 v4 v12 on6 ls _ _ (lv_sub hl [1, 2, 3, 0] rfl) hP hD hS hF
        · replace hF := of_f h11 hF
          refine lv_aload_n hx hb dX2_lineUp_18 rfl (lv_at hl 0 rfl) ?_
          refine va_get (D := D) (ci := 2) (v := .ref n_1) (C := RX2) (T := TX2) (N := 6) hx hb hts in_X2 hown hK hP 0 rfl rfl 1 (by decide) (hts _ wd_177) (fun _ h9 => h9) rfl dX2_lineUp_19 ?_
          refine lv_iload_n hx hb dX2_lineUp_22 rfl (lv_at hl 2 rfl) ?_
          refine lv_iload_n hx hb dX2_lineUp_23 rfl (lv_at hl 3 rfl) ?_
          obtain ⟨h13, hF⟩ := of_ck hF
          refine va_iast (D := D) hx hb hK hP hD hS 2 0 rfl rfl h13 dX2_lineUp_24 (fun H locs hP hD hS => ?_)
          obtain ⟨on14, hF, hP, hD⟩ := nm_o (P := fun y => va_P D vwCl (wm_X2_lineUp cI cZ cO n_h n_0 n_1 n_2 n_3 c_h c_0 c_1 c_2 c_3 y oc) _) (B := fun y => va_D A (wm_X2_lineUp cI cZ cO n_h n_0 n_1 n_2 n_3 c_h c_0 c_1 c_2 c_3 y oc)) hF hP hD
          obtain ⟨v15, ev15⟩ : ∃ y : Int32, y = v4 + 1 := ⟨_, rfl⟩
          replace hF := of_dd hF v15 ev15
          refine lv_iinc (v := v15) (lv' := [(2, .int v15), (0, .ref n_h), (1, .ref c_h), (3, .int v5)]) hx hb dX2_lineUp_25 hl (k := 2) rfl (by rw [ev15]; rfl) (by decide) rfl (fun ls hl => ?_)
          obtain ⟨v16, ev16⟩ : ∃ y : Int32, y = v5 + 1 := ⟨_, rfl⟩
          replace hF := of_dd hF v16 ev16
          refine lv_iinc (v := v16) (lv' := [(3, .int v16), (2, .int v15), (0, .ref n_h), (1, .ref c_h)]) hx hb dX2_lineUp_28 hl (k := 3) rfl (by rw [ev16]; rfl) (by decide) rfl (fun ls hl => ?_)
          refine lv_goto (tgt := 4) hx hb dX2_lineUp_31 (by decide) ?_
          exact ih7 v15 v16 on14 ls _ _ (lv_sub hl [2, 3, 1, 0] rfl) hP hD hS hF
  exact hloop17 2000 0 0 on ls _ _ (lv_sub hl [2, 3, 1, 0] rfl) hP hD hS hF

/-! ### ThreeLegs$Knots.takeOut(II)V -/
abbrev wm_X2_takeOut (cI cZ cO : ClassId) (n_h n_0 n_1 n_2 n_3 : Nat) (on : Ob) : va_W := [(n_h, .inr (2, [.ref n_0, .ref n_1, .ref n_2, .ref n_3, .int (on 4 0), .int (on 5 0)])), (n_0, .inl (cI, 4, .inl (on 0))), (n_1, .inl (cI, 8, .inl (on 1))), (n_2, .inl (cI, 8, .inl (on 2))), (n_3, .inl (cI, 8, .inl (on 3)))]
def L_X2_takeOut_2 : Nat → Int32 → Int32 → Ob → (Ob → Option (Ob)) → Option (Ob)
  | 0, _, _, _, _ => none
  | n6 + 1, p1, v3, on4, K1 =>
    dd (p1 - 1) (fun (v7 : Int32) => (if v7 ≤ v3 then K1 on4 else dd (v3 + 1) (fun (v9 : Int32) => ck v9 8 (ck v3 8 (dd (sO on4 1 (upd (on4 1) (v3).toNatClampNeg ((on4 1) (v9).toNatClampNeg))) (fun (on12 : Ob) => dd (v3 + 1) (fun (v13 : Int32) => L_X2_takeOut_2 n6 p1 v13 on12 K1)))))))
def F_X2_takeOut (on : Ob) (p0 : Int32) (p1 : Int32) : Option (Ob) :=
  jn (fun (on2 : Ob) => some on2) (fun (K1 : Ob → Option (Ob)) => L_X2_takeOut_2 2000 p1 p0 on K1)
abbrev rm_X2_takeOut : Room := { frames := 0, cells := 0, slots := 0, locals := 0 }
abbrev wu_X2_takeOut : List Cond := .code yX2_takeOut cX2_takeOut 4 none :: lwG
set_option maxHeartbeats 20000000 in
set_option maxRecDepth 100000 in
theorem c_X2_takeOut (l : Launch) (D : va_G) (cI cZ cO : ClassId) (n_h n_0 n_1 n_2 n_3 : Nat) (sz : Nat) (on : Ob) (p0 : Int32) (p1 : Int32) (q : Ob) (hF : F_X2_takeOut on p0 p1 = some q) : CtV l yX2_takeOut wu_X2_takeOut rm_X2_takeOut D vwCl (tyL cI cZ cO) [.ref n_h, .int p0, .int p1] (wm_X2_takeOut cI cZ cO n_h n_0 n_1 n_2 n_3 on) sz 0 0 (fun u : Ob => u = q) (fun u => wm_X2_takeOut cI cZ cO n_h n_0 n_1 n_2 n_3 u) := by
  refine mk_v (cc := cX2_takeOut) (maxL := 4) (by decide) rfl (Nat.le_of_ble_eq_true rfl) ?_
  intro p e s m args below meth c A ls Q hx hb hml hown hts hin hK hP hD hS hA hl hQ
  have hl : lv_has ls 4 [(0, .ref n_h), (1, .int p0), (2, .int p1)] := hl
  unfold F_X2_takeOut at hF
  refine lv_iload_n hx hb dX2_takeOut_0 rfl (lv_at hl 1 rfl) ?_
  refine lv_istore_n (lv' := [(3, .int p0), (0, .ref n_h), (1, .int p0), (2, .int p1)]) hx hb dX2_takeOut_1 rfl hl (by decide) rfl (fun ls hl => ?_)
  obtain ⟨K1, eK1, hF⟩ := of_jn hF
  have hK1 : ∀ (on2 : Ob) (ls : Array Slot) (H : Heap) (locs : List Loc), lv_has ls 4 [] → va_P D vwCl (wm_X2_takeOut cI cZ cO n_h n_0 n_1 n_2 n_3 on2) H → va_D A (wm_X2_takeOut cI cZ cO n_h n_0 n_1 n_2 n_3 on2) → va_S A s.heap H locs → K1 on2 = some q → W p l e rm_X2_takeOut s m args below meth c H locs 0 0 Q (F0 m 29 ls []) := by
    intro on2 ls H locs hl hP hD hS hF
    subst eK1
    exact hQ _ _ _ _ on2 (Option.some.inj hF) hP hD hS dX2_takeOut_29
  have hloop14 : ∀ (n6 : Nat) (v3 : Int32) (on4 : Ob) (ls : Array Slot) (H : Heap) (locs : List Loc), lv_has ls 4 [(0, .ref n_h), (2, .int p1), (3, .int v3)] → va_P D vwCl (wm_X2_takeOut cI cZ cO n_h n_0 n_1 n_2 n_3 on4) H → va_D A (wm_X2_takeOut cI cZ cO n_h n_0 n_1 n_2 n_3 on4) → va_S A s.heap H locs → L_X2_takeOut_2 n6 p1 v3 on4 K1 = some q → W p l e rm_X2_takeOut s m args below meth c H locs 0 0 Q (F0 m 2 ls []) := by
    intro n6
    induction n6 with
    | zero =>
      intro v3 on4 ls H locs hl hP hD hS hF
      exact of_none hF
    | succ n6 ih5 =>
      intro v3 on4 ls H locs hl hP hD hS hF
      rw [L_X2_takeOut_2.eq_2] at hF
      refine lv_iload_n hx hb dX2_takeOut_2 rfl (lv_at hl 2 rfl) ?_
      refine lv_iload_n hx hb dX2_takeOut_3 rfl (lv_at hl 1 rfl) ?_
      refine lv_iconst (v := 1) hx hb dX2_takeOut_4 (by decide) ?_
      refine lv_isub hx hb dX2_takeOut_5 ?_
      refine lv_topi (fun v7 ev7 => ?_)
      replace hF := of_dd hF v7 ev7
      refine lv_icmp_ge (tgt := 29) hx hb dX2_takeOut_6 (by decide) (fun h8 => ?_) (fun h8 => ?_)
      · replace hF := of_t h8 hF
        exact hK1 on4 ls _ _ (lv_sub hl [] rfl) hP hD hS hF
      · replace hF := of_f h8 hF
        refine lv_aload_n hx hb dX2_takeOut_9 rfl (lv_at hl 0 rfl) ?_
        refine va_get (D := D) (ci := 2) (v := .ref n_1) (C := RX2) (T := TX2) (N := 6) hx hb hts in_X2 hown hK hP 0 rfl rfl 1 (by decide) (hts _ wd_177) (fun _ h9 => h9) rfl dX2_takeOut_10 ?_
        refine lv_iload_n hx hb dX2_takeOut_13 rfl (lv_at hl 2 rfl) ?_
        refine lv_aload_n hx hb dX2_takeOut_14 rfl (lv_at hl 0 rfl) ?_
        refine va_get (D := D) (ci := 2) (v := .ref n_1) (C := RX2) (T := TX2) (N := 6) hx hb hts in_X2 hown hK hP 0 rfl rfl 1 (by decide) (hts _ wd_177) (fun _ h9 => h9) rfl dX2_takeOut_15 ?_
        refine lv_iload_n hx hb dX2_takeOut_18 rfl (lv_at hl 2 rfl) ?_
        refine lv_iconst (v := 1) hx hb dX2_takeOut_19 (by decide) ?_
        refine lv_iadd hx hb dX2_takeOut_20 ?_
        refine lv_topi (fun v9 ev9 => ?_)
        replace hF := of_dd hF v9 ev9
        obtain ⟨h10, hF⟩ := of_ck hF
        refine va_iald (D := D) hx hb hK hP 2 0 rfl rfl h10 dX2_takeOut_21 ?_
        obtain ⟨h11, hF⟩ := of_ck hF
        refine va_iast (D := D) hx hb hK hP hD hS 2 0 rfl rfl h11 dX2_takeOut_22 (fun H locs hP hD hS => ?_)
        obtain ⟨on12, hF, hP, hD⟩ := nm_o (P := fun y => va_P D vwCl (wm_X2_takeOut cI cZ cO n_h n_0 n_1 n_2 n_3 y) _) (B := fun y => va_D A (wm_X2_takeOut cI cZ cO n_h n_0 n_1 n_2 n_3 y)) hF hP hD
        obtain ⟨v13, ev13⟩ : ∃ y : Int32, y = v3 + 1 := ⟨_, rfl⟩
        replace hF := of_dd hF v13 ev13
        refine lv_iinc (v := v13) (lv' := [(3, .int v13), (0, .ref n_h), (2, .int p1)]) hx hb dX2_takeOut_23 hl (k := 2) rfl (by rw [ev13]; rfl) (by decide) rfl (fun ls hl => ?_)
        refine lv_goto (tgt := 2) hx hb dX2_takeOut_26 (by decide) ?_
        exact ih5 v13 on12 ls _ _ (lv_sub hl [1, 2, 0] rfl) hP hD hS hF
  exact hloop14 2000 p0 on ls _ _ (lv_sub hl [1, 3, 0] rfl) hP hD hS hF

/-! ### ThreeLegs$Knots.costOfPicks(LThreeLegs$Crowd;[IZ)I -/
abbrev wm_X2_costOfPicks (cI cZ cO : ClassId) (n_h n_0 n_1 n_2 n_3 c_h c_0 c_1 c_2 c_3 t_h : Nat) (on : Ob) (oc : Ob) (ot : (Nat → Int32)) : va_W := [(n_h, .inr (2, [.ref n_0, .ref n_1, .ref n_2, .ref n_3, .int (on 4 0), .int (on 5 0)])), (n_0, .inl (cI, 4, .inl (on 0))), (n_1, .inl (cI, 8, .inl (on 1))), (n_2, .inl (cI, 8, .inl (on 2))), (n_3, .inl (cI, 8, .inl (on 3))), (c_h, .inr (0, [.ref c_0, .ref c_1, .ref c_2, .ref c_3, .int (oc 4 0), .int (oc 5 0), .int (oc 6 0)])), (c_0, .inl (cZ, 8, .inl (oc 0))), (c_1, .inl (cI, 8, .inl (oc 1))), (c_2, .inl (cI, 8, .inl (oc 2))), (c_3, .inl (cI, 8, .inl (oc 3))), (t_h, .inl (cI, 64, .inl ot))]
def L_X2_costOfPicks_13 : Nat → Int32 → (Nat → Int32) → Int32 → Int32 → Int32 → Ob → (Int32 → Ob → Option (Int32 × Ob)) → Option (Int32 × Ob)
  | 0, _, _, _, _, _, _, _ => none
  | n10 + 1, p2, ot, v5, v6, v7, on8, K2 =>
    (if 4 ≤ v7 then K2 v6 on8 else ck v7 4 ((if v5 ≤ ((on8 0) (v7).toNatClampNeg) then K2 v6 on8 else ck 0 8 (ck v7 4 (ck ((on8 0) (v7).toNatClampNeg) 8 (ck ((on8 1) (0 : Int32).toNatClampNeg) 8 (dd (sO on8 2 (upd (on8 2) (((on8 1) (0 : Int32).toNatClampNeg)).toNatClampNeg ((on8 1) (((on8 0) (v7).toNatClampNeg)).toNatClampNeg))) (fun (on18 : Ob) => ck ((on8 1) (((on8 0) (v7).toNatClampNeg)).toNatClampNeg) 8 (dd (sO on18 2 (upd (on18 2) (((on8 1) (((on8 0) (v7).toNatClampNeg)).toNatClampNeg)).toNatClampNeg ((on8 1) (0 : Int32).toNatClampNeg))) (fun (on20 : Ob) => dd (8 * ((on8 1) (0 : Int32).toNatClampNeg)) (fun (v21 : Int32) => dd (v21 + ((on8 1) (((on8 0) (v7).toNatClampNeg)).toNatClampNeg)) (fun (v22 : Int32) => ck v22 64 (jn (fun (v25 : Int32) => jn (fun (v27 : Int32) => ck v7 4 ((F_X2_takeOut on20 ((on20 0) (v7).toNatClampNeg) v5).bind (fun q29 => dd (v5 - 1) (fun (v30 : Int32) => (F_X2_takeOut q29 0 v30).bind (fun q31 => dd (v5 + (-2)) (fun (v32 : Int32) => dd (v7 + 1) (fun (v33 : Int32) => L_X2_costOfPicks_13 n10 p2 ot v32 v27 v33 q31 K2))))))) (fun (K26 : Int32 → Option (Int32 × Ob)) => (if p2 = 0 then dd (v6 + v25) (fun (v35 : Int32) => K26 v35) else dd (if v6 < v25 then v25 else v6) (fun (v36 : Int32) => K26 v36)))) (fun (K24 : Int32 → Option (Int32 × Ob)) => (if (ot (v22).toNatClampNeg) = (-6) then K24 100000 else K24 (ot (v22).toNatClampNeg))))))))))))))))
def F_X2_costOfPicks (on : Ob) (oc : Ob) (ot : (Nat → Int32)) (p2 : Int32) : Option (Int32 × Ob) :=
  (F_X2_lineUp on oc).bind (fun q1 => jn (fun (v3 : Int32) (on4 : Ob) => some (v3, on4)) (fun (K2 : Int32 → Ob → Option (Int32 × Ob)) => L_X2_costOfPicks_13 2000 p2 ot q1.1 0 0 q1.2 K2))
abbrev rm_X2_costOfPicks : Room := { frames := 2, cells := 0, slots := 0, locals := 44 }
abbrev wu_X2_costOfPicks : List Cond := .code yX2_costOfPicks cX2_costOfPicks 11 (some .int) :: lwG
set_option maxHeartbeats 20000000 in
set_option maxRecDepth 100000 in
theorem c_X2_costOfPicks (l : Launch) (D : va_G) (cI cZ cO : ClassId) (n_h n_0 n_1 n_2 n_3 c_h c_0 c_1 c_2 c_3 t_h : Nat) (sz : Nat) (on : Ob) (oc : Ob) (ot : (Nat → Int32)) (p2 : Int32) (q : Int32 × Ob) (hF : F_X2_costOfPicks on oc ot p2 = some q) : CtI l yX2_costOfPicks wu_X2_costOfPicks rm_X2_costOfPicks D vwCl (tyL cI cZ cO) [.ref n_h, .ref c_h, .ref t_h, .int p2] (wm_X2_costOfPicks cI cZ cO n_h n_0 n_1 n_2 n_3 c_h c_0 c_1 c_2 c_3 t_h on oc ot) sz 0 0 (fun (r : Int32) (u : Ob) => r = q.1 ∧ u = q.2) (fun u => wm_X2_costOfPicks cI cZ cO n_h n_0 n_1 n_2 n_3 c_h c_0 c_1 c_2 c_3 t_h u oc ot) := by
  refine mk_i (cc := cX2_costOfPicks) (maxL := 11) (by decide) rfl (Nat.le_of_ble_eq_true rfl) ?_
  intro p e s m args below meth c A ls Q hx hb hml hown hts hin hK hP hD hS hA hl hQ
  have hl : lv_has ls 11 [(0, .ref n_h), (1, .ref c_h), (2, .ref t_h), (3, .int p2)] := hl
  unfold F_X2_costOfPicks at hF
  refine lv_aload_n hx hb dX2_costOfPicks_0 rfl (lv_at hl 0 rfl) ?_
  refine lv_aload_n hx hb dX2_costOfPicks_1 rfl (lv_at hl 1 rfl) ?_
  obtain ⟨q1, hGq1, hF⟩ := of_bind hF
  refine callVi (As := [.ref c_h]) (rest := []) (wr := [(t_h, .inl (cI, 64, .inl ot))]) (WN := wm_X2_costOfPicks cI cZ cO n_h n_0 n_1 n_2 n_3 c_h c_0 c_1 c_2 c_3 t_h q1.2 oc ot) ⟨hx, hb, hml, hown, hts⟩ hK hP hD hS hA [0, 1, 2, 3, 4, 5, 6, 7, 8, 9] [10] [1, 2, 3, 4, 5, 6, 7, 8, 9, 10, 0] (c_X2_lineUp l D cI cZ cO n_h n_0 n_1 n_2 n_3 c_h c_0 c_1 c_2 c_3 _ on oc q1 hGq1) (cwV 1 hts (gV wd_380 wd_382 wd_8 wd_37 wd_383) rfl rfl rfl (by decide +kernel) ⟨Nat.le_of_ble_eq_true rfl, Nat.le_of_ble_eq_true rfl⟩) 0 2 rfl rfl rfl rfl rfl rfl rfl (by decide) rfl rfl rfl hl.1 rfl (Nat.le_of_ble_eq_true rfl) dX2_costOfPicks_2 ⟨Nat.zero_le _, Nat.zero_le _⟩ (fun H locs hP hD hS => ?_)
  refine lv_istore (lv' := [(4, .int q1.1), (0, .ref n_h), (1, .ref c_h), (2, .ref t_h), (3, .int p2)]) hx hb dX2_costOfPicks_5 hl (by decide) rfl (fun ls hl => ?_)
  refine lv_iconst (v := 0) hx hb dX2_costOfPicks_7 (by decide) ?_
  refine lv_istore (lv' := [(5, .int 0), (4, .int q1.1), (0, .ref n_h), (1, .ref c_h), (2, .ref t_h), (3, .int p2)]) hx hb dX2_costOfPicks_8 hl (by decide) rfl (fun ls hl => ?_)
  refine lv_iconst (v := 0) hx hb dX2_costOfPicks_10 (by decide) ?_
  refine lv_istore (lv' := [(6, .int 0), (5, .int 0), (4, .int q1.1), (0, .ref n_h), (1, .ref c_h), (2, .ref t_h), (3, .int p2)]) hx hb dX2_costOfPicks_11 hl (by decide) rfl (fun ls hl => ?_)
  obtain ⟨K2, eK2, hF⟩ := of_jn hF
  have hK2 : ∀ (v3 : Int32) (on4 : Ob) (ls : Array Slot) (H : Heap) (locs : List Loc), lv_has ls 11 [(5, .int v3)] → va_P D vwCl (wm_X2_costOfPicks cI cZ cO n_h n_0 n_1 n_2 n_3 c_h c_0 c_1 c_2 c_3 t_h on4 oc ot) H → va_D A (wm_X2_costOfPicks cI cZ cO n_h n_0 n_1 n_2 n_3 c_h c_0 c_1 c_2 c_3 t_h on4 oc ot) → va_S A s.heap H locs → K2 v3 on4 = some q → W p l e rm_X2_costOfPicks s m args below meth c H locs 0 0 Q (F0 m 151 ls []) := by
    intro v3 on4 ls H locs hl hP hD hS hF
    subst eK2
    refine lv_iload hx hb dX2_costOfPicks_151 (lv_at hl 0 rfl) ?_
    exact hQ _ _ _ _ _ on4 ⟨inj_fst hF, inj_snd hF⟩ hP hD hS dX2_costOfPicks_153
  have hloop38 : ∀ (n10 : Nat) (v5 : Int32) (v6 : Int32) (v7 : Int32) (on8 : Ob) (ls : Array Slot) (H : Heap) (locs : List Loc), lv_has ls 11 [(0, .ref n_h), (2, .ref t_h), (3, .int p2), (4, .int v5), (5, .int v6), (6, .int v7)] → va_P D vwCl (wm_X2_costOfPicks cI cZ cO n_h n_0 n_1 n_2 n_3 c_h c_0 c_1 c_2 c_3 t_h on8 oc ot) H → va_D A (wm_X2_costOfPicks cI cZ cO n_h n_0 n_1 n_2 n_3 c_h c_0 c_1 c_2 c_3 t_h on8 oc ot) → va_S A s.heap H locs → L_X2_costOfPicks_13 n10 p2 ot v5 v6 v7 on8 K2 = some q → W p l e rm_X2_costOfPicks s m args below meth c H locs 0 0 Q (F0 m 13 ls []) := by
    intro n10
    induction n10 with
    | zero =>
      intro v5 v6 v7 on8 ls H locs hl hP hD hS hF
      exact of_none hF
    | succ n10 ih9 =>
      intro v5 v6 v7 on8 ls H locs hl hP hD hS hF
      rw [L_X2_costOfPicks_13.eq_2] at hF
      refine lv_iload hx hb dX2_costOfPicks_13 (lv_at hl 5 rfl) ?_
      refine lv_iconst (v := 4) hx hb dX2_costOfPicks_15 (by decide) ?_
      refine lv_icmp_ge (tgt := 151) hx hb dX2_costOfPicks_16 (by decide) (fun h11 => ?_) (fun h11 => ?_)
      · replace hF := of_t h11 hF
        exact hK2 v6 on8 ls _ _ (lv_sub hl [4] rfl) hP hD hS hF
      · replace hF := of_f h11 hF
        refine lv_aload_n hx hb dX2_costOfPicks_19 rfl (lv_at hl 0 rfl) ?_
        refine va_get (D := D) (ci := 2) (v := .ref n_0) (C := RX2) (T := TX2) (N := 6) hx hb hts in_X2 hown hK hP 0 rfl rfl 0 (by decide) (hts _ wd_176) (fun _ h9 => h9) rfl dX2_costOfPicks_20 ?_
        refine lv_iload hx hb dX2_costOfPicks_23 (lv_at hl 5 rfl) ?_
        obtain ⟨h12, hF⟩ := of_ck hF
        refine va_iald (D := D) hx hb hK hP 1 0 rfl rfl h12 dX2_costOfPicks_25 ?_
        refine lv_iload hx hb dX2_costOfPicks_26 (lv_at hl 3 rfl) ?_
        refine lv_icmp_ge (tgt := 151) hx hb dX2_costOfPicks_28 (by decide) (fun h13 => ?_) (fun h13 => ?_)
        · replace hF := of_t h13 hF
          exact hK2 v6 on8 ls _ _ (lv_sub hl [4] rfl) hP hD hS hF
        · replace hF := of_f h13 hF
          refine lv_aload_n hx hb dX2_costOfPicks_31 rfl (lv_at hl 0 rfl) ?_
          refine va_get (D := D) (ci := 2) (v := .ref n_1) (C := RX2) (T := TX2) (N := 6) hx hb hts in_X2 hown hK hP 0 rfl rfl 1 (by decide) (hts _ wd_177) (fun _ h9 => h9) rfl dX2_costOfPicks_32 ?_
          refine lv_iconst (v := 0) hx hb dX2_costOfPicks_35 (by decide) ?_
          obtain ⟨h14, hF⟩ := of_ck hF
          refine va_iald (D := D) hx hb hK hP 2 0 rfl rfl h14 dX2_costOfPicks_36 ?_
          refine lv_istore (lv' := [(7, .int ((on8 1) (0 : Int32).toNatClampNeg)), (0, .ref n_h), (2, .ref t_h), (3, .int p2), (4, .int v5), (5, .int v6), (6, .int v7)]) hx hb dX2_costOfPicks_37 hl (by decide) rfl (fun ls hl => ?_)
          refine lv_aload_n hx hb dX2_costOfPicks_39 rfl (lv_at hl 1 rfl) ?_
          refine va_get (D := D) (ci := 2) (v := .ref n_1) (C := RX2) (T := TX2) (N := 6) hx hb hts in_X2 hown hK hP 0 rfl rfl 1 (by decide) (hts _ wd_177) (fun _ h9 => h9) rfl dX2_costOfPicks_40 ?_
          refine lv_aload_n hx hb dX2_costOfPicks_43 rfl (lv_at hl 1 rfl) ?_
          refine va_get (D := D) (ci := 2) (v := .ref n_0) (C := RX2) (T := TX2) (N := 6) hx hb hts in_X2 hown hK hP 0 rfl rfl 0 (by decide) (hts _ wd_176) (fun _ h9 => h9) rfl dX2_costOfPicks_44 ?_
          refine lv_iload hx hb dX2_costOfPicks_47 (lv_at hl 6 rfl) ?_
          obtain ⟨h15, hF⟩ := of_ck hF
          refine va_iald (D := D) hx hb hK hP 1 0 rfl rfl h15 dX2_costOfPicks_49 ?_
          obtain ⟨h16, hF⟩ := of_ck hF
          refine va_iald (D := D) hx hb hK hP 2 0 rfl rfl h16 dX2_costOfPicks_50 ?_
          refine lv_istore (lv' := [(8, .int ((on8 1) (((on8 0) (v7).toNatClampNeg)).toNatClampNeg)), (7, .int ((on8 1) (0 : Int32).toNatClampNeg)), (0, .ref n_h), (2, .ref t_h), (3, .int p2), (4, .int v5), (5, .int v6), (6, .int v7)]) hx hb dX2_costOfPicks_51 hl (by decide) rfl (fun ls hl => ?_)
          refine lv_aload_n hx hb dX2_costOfPicks_53 rfl (lv_at hl 2 rfl) ?_
          refine va_get (D := D) (ci := 2) (v := .ref n_2) (C := RX2) (T := TX2) (N := 6) hx hb hts in_X2 hown hK hP 0 rfl rfl 2 (by decide) (hts _ wd_178) (fun _ h9 => h9) rfl dX2_costOfPicks_54 ?_
          refine lv_iload hx hb dX2_costOfPicks_57 (lv_at hl 1 rfl) ?_
          refine lv_iload hx hb dX2_costOfPicks_59 (lv_at hl 0 rfl) ?_
          obtain ⟨h17, hF⟩ := of_ck hF
          refine va_iast (D := D) hx hb hK hP hD hS 3 0 rfl rfl h17 dX2_costOfPicks_61 (fun H locs hP hD hS => ?_)
          obtain ⟨on18, hF, hP, hD⟩ := nm_o (P := fun y => va_P D vwCl (wm_X2_costOfPicks cI cZ cO n_h n_0 n_1 n_2 n_3 c_h c_0 c_1 c_2 c_3 t_h y oc ot) _) (B := fun y => va_D A (wm_X2_costOfPicks cI cZ cO n_h n_0 n_1 n_2 n_3 c_h c_0 c_1 c_2 c_3 t_h y oc ot)) hF hP hD
          refine lv_aload_n hx hb dX2_costOfPicks_62 rfl (lv_at hl 2 rfl) ?_
          refine va_get (D := D) (ci := 2) (v := .ref n_2) (C := RX2) (T := TX2) (N := 6) hx hb hts in_X2 hown hK hP 0 rfl rfl 2 (by decide) (hts _ wd_178) (fun _ h9 => h9) rfl dX2_costOfPicks_63 ?_
          refine lv_iload hx hb dX2_costOfPicks_66 (lv_at hl 0 rfl) ?_
          refine lv_iload hx hb dX2_costOfPicks_68 (lv_at hl 1 rfl) ?_
          obtain ⟨h19, hF⟩ := of_ck hF
          refine va_iast (D := D) hx hb hK hP hD hS 3 0 rfl rfl h19 dX2_costOfPicks_70 (fun H locs hP hD hS => ?_)
          obtain ⟨on20, hF, hP, hD⟩ := nm_o (P := fun y => va_P D vwCl (wm_X2_costOfPicks cI cZ cO n_h n_0 n_1 n_2 n_3 c_h c_0 c_1 c_2 c_3 t_h y oc ot) _) (B := fun y => va_D A (wm_X2_costOfPicks cI cZ cO n_h n_0 n_1 n_2 n_3 c_h c_0 c_1 c_2 c_3 t_h y oc ot)) hF hP hD
          refine lv_aload_n hx hb dX2_costOfPicks_71 rfl (lv_at hl 3 rfl) ?_
          refine lv_bipush (v := 8) hx hb dX2_costOfPicks_72 (by decide) ?_
          refine lv_iload hx hb dX2_costOfPicks_74 (lv_at hl 1 rfl) ?_
          refine lv_imul hx hb dX2_costOfPicks_76 ?_
          refine lv_topi (fun v21 ev21 => ?_)
          replace hF := of_dd hF v21 ev21
          refine lv_iload hx hb dX2_costOfPicks_77 (lv_at hl 0 rfl) ?_
          refine lv_iadd hx hb dX2_costOfPicks_79 ?_
          refine lv_topi (fun v22 ev22 => ?_)
          replace hF := of_dd hF v22 ev22
          obtain ⟨h23, hF⟩ := of_ck hF
          refine va_iald (D := D) hx hb hK hP 10 0 rfl rfl h23 dX2_costOfPicks_80 ?_
          refine lv_istore (lv' := [(9, .int (ot (v22).toNatClampNeg)), (8, .int ((on8 1) (((on8 0) (v7).toNatClampNeg)).toNatClampNeg)), (7, .int ((on8 1) (0 : Int32).toNatClampNeg)), (0, .ref n_h), (2, .ref t_h), (3, .int p2), (4, .int v5), (5, .int v6), (6, .int v7)]) hx hb dX2_costOfPicks_81 hl (by decide) rfl (fun ls hl => ?_)
          refine lv_iload hx hb dX2_costOfPicks_83 (lv_at hl 0 rfl) ?_
          refine lv_bipush (v := (-6)) hx hb dX2_costOfPicks_85 (by decide) ?_
          obtain ⟨K24, eK24, hF⟩ := of_jn hF
          have hK24 : ∀ (v25 : Int32) (ls : Array Slot) (H : Heap) (locs : List Loc), lv_has ls 11 [(0, .ref n_h), (2, .ref t_h), (3, .int p2), (4, .int v5), (5, .int v6), (6, .int v7)] → va_P D vwCl (wm_X2_costOfPicks cI cZ cO n_h n_0 n_1 n_2 n_3 c_h c_0 c_1 c_2 c_3 t_h on20 oc ot) H → va_D A (wm_X2_costOfPicks cI cZ cO n_h n_0 n_1 n_2 n_3 c_h c_0 c_1 c_2 c_3 t_h on20 oc ot) → va_S A s.heap H locs → K24 v25 = some q → W p l e rm_X2_costOfPicks s m args below meth c H locs 0 0 Q (F0 m 97 ls [.int v25]) := by
            intro v25 ls H locs hl hP hD hS hF
            subst eK24
            refine lv_istore (lv' := [(10, .int v25), (0, .ref n_h), (2, .ref t_h), (3, .int p2), (4, .int v5), (5, .int v6), (6, .int v7)]) hx hb dX2_costOfPicks_97 hl (by decide) rfl (fun ls hl => ?_)
            refine lv_iload_n hx hb dX2_costOfPicks_99 rfl (lv_at hl 3 rfl) ?_
            obtain ⟨K26, eK26, hF⟩ := of_jn hF
            have hK26 : ∀ (v27 : Int32) (ls : Array Slot) (H : Heap) (locs : List Loc), lv_has ls 11 [(0, .ref n_h), (2, .ref t_h), (3, .int p2), (4, .int v5), (6, .int v7)] → va_P D vwCl (wm_X2_costOfPicks cI cZ cO n_h n_0 n_1 n_2 n_3 c_h c_0 c_1 c_2 c_3 t_h on20 oc ot) H → va_D A (wm_X2_costOfPicks cI cZ cO n_h n_0 n_1 n_2 n_3 c_h c_0 c_1 c_2 c_3 t_h on20 oc ot) → va_S A s.heap H locs → K26 v27 = some q → W p l e rm_X2_costOfPicks s m args below meth c H locs 0 0 Q (F0 m 118 ls [.int v27]) := by
              intro v27 ls H locs hl hP hD hS hF
              subst eK26
              refine lv_istore (lv' := [(5, .int v27), (0, .ref n_h), (2, .ref t_h), (3, .int p2), (4, .int v5), (6, .int v7)]) hx hb dX2_costOfPicks_118 hl (by decide) rfl (fun ls hl => ?_)
              refine lv_aload_n hx hb dX2_costOfPicks_120 rfl (lv_at hl 1 rfl) ?_
              refine lv_aload_n hx hb dX2_costOfPicks_121 rfl (lv_at hl 1 rfl) ?_
              refine va_get (D := D) (ci := 2) (v := .ref n_0) (C := RX2) (T := TX2) (N := 6) hx hb hts in_X2 hown hK hP 0 rfl rfl 0 (by decide) (hts _ wd_176) (fun _ h9 => h9) rfl dX2_costOfPicks_122 ?_
              refine lv_iload hx hb dX2_costOfPicks_125 (lv_at hl 5 rfl) ?_
              obtain ⟨h28, hF⟩ := of_ck hF
              refine va_iald (D := D) hx hb hK hP 1 0 rfl rfl h28 dX2_costOfPicks_127 ?_
              refine lv_iload hx hb dX2_costOfPicks_128 (lv_at hl 4 rfl) ?_
              obtain ⟨q29, hGq29, hF⟩ := of_bind hF
              refine callVv (As := [.int ((on20 0) (v7).toNatClampNeg), .int v5]) (rest := []) (wr := [(c_h, .inr (0, [.ref c_0, .ref c_1, .ref c_2, .ref c_3, .int (oc 4 0), .int (oc 5 0), .int (oc 6 0)])), (c_0, .inl (cZ, 8, .inl (oc 0))), (c_1, .inl (cI, 8, .inl (oc 1))), (c_2, .inl (cI, 8, .inl (oc 2))), (c_3, .inl (cI, 8, .inl (oc 3))), (t_h, .inl (cI, 64, .inl ot))]) (WN := wm_X2_costOfPicks cI cZ cO n_h n_0 n_1 n_2 n_3 c_h c_0 c_1 c_2 c_3 t_h q29 oc ot) ⟨hx, hb, hml, hown, hts⟩ hK hP hD hS hA [0, 1, 2, 3, 4] [5, 6, 7, 8, 9, 10] [6, 7, 8, 9, 10, 0, 1, 2, 3, 4, 5] (c_X2_takeOut l D cI cZ cO n_h n_0 n_1 n_2 n_3 _ on20 ((on20 0) (v7).toNatClampNeg) v5 q29 hGq29) (cwV 2 hts (gV wd_387 wd_389 wd_9 wd_37 wd_390) rfl rfl rfl (by decide +kernel) ⟨Nat.le_of_ble_eq_true rfl, Nat.le_of_ble_eq_true rfl⟩) 0 2 rfl rfl rfl rfl rfl rfl rfl (by decide) rfl rfl rfl hl.1 rfl (Nat.le_of_ble_eq_true rfl) dX2_costOfPicks_130 ⟨Nat.zero_le _, Nat.zero_le _⟩ (fun H locs hP hD hS => ?_)
              refine lv_aload_n hx hb dX2_costOfPicks_133 rfl (lv_at hl 1 rfl) ?_
              refine lv_iconst (v := 0) hx hb dX2_costOfPicks_134 (by decide) ?_
              refine lv_iload hx hb dX2_costOfPicks_135 (lv_at hl 4 rfl) ?_
              refine lv_iconst (v := 1) hx hb dX2_costOfPicks_137 (by decide) ?_
              refine lv_isub hx hb dX2_costOfPicks_138 ?_
              refine lv_topi (fun v30 ev30 => ?_)
              replace hF := of_dd hF v30 ev30
              obtain ⟨q31, hGq31, hF⟩ := of_bind hF
              refine callVv (As := [.int 0, .int v30]) (rest := []) (wr := [(c_h, .inr (0, [.ref c_0, .ref c_1, .ref c_2, .ref c_3, .int (oc 4 0), .int (oc 5 0), .int (oc 6 0)])), (c_0, .inl (cZ, 8, .inl (oc 0))), (c_1, .inl (cI, 8, .inl (oc 1))), (c_2, .inl (cI, 8, .inl (oc 2))), (c_3, .inl (cI, 8, .inl (oc 3))), (t_h, .inl (cI, 64, .inl ot))]) (WN := wm_X2_costOfPicks cI cZ cO n_h n_0 n_1 n_2 n_3 c_h c_0 c_1 c_2 c_3 t_h q31 oc ot) ⟨hx, hb, hml, hown, hts⟩ hK hP hD hS hA [0, 1, 2, 3, 4] [5, 6, 7, 8, 9, 10] [6, 7, 8, 9, 10, 0, 1, 2, 3, 4, 5] (c_X2_takeOut l D cI cZ cO n_h n_0 n_1 n_2 n_3 _ q29 0 v30 q31 hGq31) (cwV 2 hts (gV wd_387 wd_389 wd_9 wd_37 wd_390) rfl rfl rfl (by decide +kernel) ⟨Nat.le_of_ble_eq_true rfl, Nat.le_of_ble_eq_true rfl⟩) 0 2 rfl rfl rfl rfl rfl rfl rfl (by decide) rfl rfl rfl hl.1 rfl (Nat.le_of_ble_eq_true rfl) dX2_costOfPicks_139 ⟨Nat.zero_le _, Nat.zero_le _⟩ (fun H locs hP hD hS => ?_)
              obtain ⟨v32, ev32⟩ : ∃ y : Int32, y = v5 + (-2) := ⟨_, rfl⟩
              replace hF := of_dd hF v32 ev32
              refine lv_iinc (v := v32) (lv' := [(4, .int v32), (5, .int v27), (0, .ref n_h), (2, .ref t_h), (3, .int p2), (6, .int v7)]) hx hb dX2_costOfPicks_142 hl (k := 4) rfl (by rw [ev32]; rfl) (by decide) rfl (fun ls hl => ?_)
              obtain ⟨v33, ev33⟩ : ∃ y : Int32, y = v7 + 1 := ⟨_, rfl⟩
              replace hF := of_dd hF v33 ev33
              refine lv_iinc (v := v33) (lv' := [(6, .int v33), (4, .int v32), (5, .int v27), (0, .ref n_h), (2, .ref t_h), (3, .int p2)]) hx hb dX2_costOfPicks_145 hl (k := 5) rfl (by rw [ev33]; rfl) (by decide) rfl (fun ls hl => ?_)
              refine lv_goto (tgt := 13) hx hb dX2_costOfPicks_148 (by decide) ?_
              exact ih9 v32 v27 v33 q31 ls _ _ (lv_sub hl [3, 4, 5, 1, 2, 0] rfl) hP hD hS hF
            refine lv_if_eq (tgt := 113) hx hb dX2_costOfPicks_100 (by decide) (fun h34 => ?_) (fun h34 => ?_)
            · replace hF := of_t h34 hF
              refine lv_iload hx hb dX2_costOfPicks_113 (lv_at hl 5 rfl) ?_
              refine lv_iload hx hb dX2_costOfPicks_115 (lv_at hl 0 rfl) ?_
              refine lv_iadd hx hb dX2_costOfPicks_117 ?_
              refine lv_topi (fun v35 ev35 => ?_)
              replace hF := of_dd hF v35 ev35
              exact hK26 v35 ls _ _ (lv_sub hl [1, 2, 3, 4, 6] rfl) hP hD hS hF
            · replace hF := of_f h34 hF
              refine lv_iload hx hb dX2_costOfPicks_103 (lv_at hl 5 rfl) ?_
              refine lv_iload hx hb dX2_costOfPicks_105 (lv_at hl 0 rfl) ?_
              refine va_mmax hx hb (hml.trans hl.1.symm) hown (hts _ wd_386) (hts _ wd_311) (hts _ wd_41) (hts _ wd_312) (Nat.le_of_ble_eq_true rfl) (Nat.le_of_ble_eq_true rfl) (Nat.zero_le _) (Nat.zero_le _) dX2_costOfPicks_107 ?_
              refine lv_topi (fun v36 ev36 => ?_)
              replace hF := of_dd hF v36 ev36
              refine lv_goto (tgt := 118) hx hb dX2_costOfPicks_110 (by decide) ?_
              exact hK26 v36 ls _ _ (lv_sub hl [1, 2, 3, 4, 6] rfl) hP hD hS hF
          refine lv_icmp_ne (tgt := 95) hx hb dX2_costOfPicks_87 (by decide) (fun h37 => ?_) (fun h37 => ?_)
          · replace hF := of_f h37 hF
            refine lv_iload hx hb dX2_costOfPicks_95 (lv_at hl 0 rfl) ?_
            exact hK24 (ot (v22).toNatClampNeg) ls _ _ (lv_sub hl [3, 4, 5, 6, 7, 8] rfl) hP hD hS hF
          · replace hF := of_t h37 hF
            refine lv_ldc hx hb hown (hts _ wd_385) dX2_costOfPicks_90 ?_
            refine lv_goto (tgt := 97) hx hb dX2_costOfPicks_92 (by decide) ?_
            exact hK24 100000 ls _ _ (lv_sub hl [3, 4, 5, 6, 7, 8] rfl) hP hD hS hF
  exact hloop38 2000 q1.1 0 0 q1.2 ls _ _ (lv_sub hl [3, 5, 6, 2, 1, 0] rfl) hP hD hS hF

/-! ### ThreeLegs$Knots.goToNextPicks()Z -/
abbrev wm_X2_goToNextPicks (cI cZ cO : ClassId) (n_h n_0 n_1 n_2 n_3 : Nat) (on : Ob) : va_W := [(n_h, .inr (2, [.ref n_0, .ref n_1, .ref n_2, .ref n_3, .int (on 4 0), .int (on 5 0)])), (n_0, .inl (cI, 4, .inl (on 0))), (n_1, .inl (cI, 8, .inl (on 1))), (n_2, .inl (cI, 8, .inl (on 2))), (n_3, .inl (cI, 8, .inl (on 3)))]
def L_X2_goToNextPicks_9 : Nat → Int32 → Ob → (Int32 → Ob → Option (Int32 × Ob)) → Option (Int32 × Ob)
  | 0, _, _, _ => none
  | n13 + 1, v10, on11, K3 =>
    (if v10 < 0 then some (0, on11) else ck v10 4 (dd (2 * v10) (fun (v16 : Int32) => dd ((on11 4 0) - v16) (fun (v17 : Int32) => dd (v17 - 1) (fun (v18 : Int32) => (if v18 ≤ ((on11 0) (v10).toNatClampNeg) then ck v10 4 (dd (sO on11 0 (upd (on11 0) (v10).toNatClampNeg 1)) (fun (on21 : Ob) => dd (v10 + (-1)) (fun (v22 : Int32) => L_X2_goToNextPicks_9 n13 v22 on21 K3))) else K3 v10 on11))))))
def F_X2_goToNextPicks (on : Ob)  : Option (Int32 × Ob) :=
  dd ((on 4 0) / 2) (fun (v1 : Int32) => dd (v1 - 1) (fun (v2 : Int32) => jn (fun (v4 : Int32) (on5 : Ob) => ck v4 4 (dd (((on5 0) (v4).toNatClampNeg) + 1) (fun (v7 : Int32) => ck v4 4 (dd (sO on5 0 (upd (on5 0) (v4).toNatClampNeg v7)) (fun (on9 : Ob) => some (1, on9)))))) (fun (K3 : Int32 → Ob → Option (Int32 × Ob)) => L_X2_goToNextPicks_9 2000 v2 on K3)))
abbrev rm_X2_goToNextPicks : Room := { frames := 0, cells := 0, slots := 0, locals := 0 }
abbrev wu_X2_goToNextPicks : List Cond := .code yX2_goToNextPicks cX2_goToNextPicks 2 (some .boolean) :: lwG
set_option maxHeartbeats 20000000 in
set_option maxRecDepth 100000 in
theorem c_X2_goToNextPicks (l : Launch) (D : va_G) (cI cZ cO : ClassId) (n_h n_0 n_1 n_2 n_3 : Nat) (sz : Nat) (on : Ob)  (q : Int32 × Ob) (hF : F_X2_goToNextPicks on = some q) : CtI l yX2_goToNextPicks wu_X2_goToNextPicks rm_X2_goToNextPicks D vwCl (tyL cI cZ cO) [.ref n_h] (wm_X2_goToNextPicks cI cZ cO n_h n_0 n_1 n_2 n_3 on) sz 0 0 (fun (r : Int32) (u : Ob) => r = q.1 ∧ u = q.2) (fun u => wm_X2_goToNextPicks cI cZ cO n_h n_0 n_1 n_2 n_3 u) := by
  refine mk_z (cc := cX2_goToNextPicks) (maxL := 2) (by decide) rfl (Nat.le_of_ble_eq_true rfl) ?_
  intro p e s m args below meth c A ls Q hx hb hml hown hts hin hK hP hD hS hA hl hQ
  have hl : lv_has ls 2 [(0, .ref n_h)] := hl
  unfold F_X2_goToNextPicks at hF
  refine lv_aload_n hx hb dX2_goToNextPicks_0 rfl (lv_at hl 0 rfl) ?_
  refine va_get (D := D) (ci := 2) (v := .int (on 4 0)) (C := RX2) (T := TX2) (N := 6) hx hb hts in_X2 hown hK hP 0 rfl rfl 4 (by decide) (hts _ wd_181) (fun _ h9 => h9) rfl dX2_goToNextPicks_1 ?_
  refine lv_iconst (v := 2) hx hb dX2_goToNextPicks_4 (by decide) ?_
  refine lv_idiv hx hb dX2_goToNextPicks_5 (by decide) ?_
  refine lv_topi (fun v1 ev1 => ?_)
  replace hF := of_dd hF v1 ev1
  refine lv_iconst (v := 1) hx hb dX2_goToNextPicks_6 (by decide) ?_
  refine lv_isub hx hb dX2_goToNextPicks_7 ?_
  refine lv_topi (fun v2 ev2 => ?_)
  replace hF := of_dd hF v2 ev2
  refine lv_istore_n (lv' := [(1, .int v2), (0, .ref n_h)]) hx hb dX2_goToNextPicks_8 rfl hl (by decide) rfl (fun ls hl => ?_)
  obtain ⟨K3, eK3, hF⟩ := of_jn hF
  have hK3 : ∀ (v4 : Int32) (on5 : Ob) (ls : Array Slot) (H : Heap) (locs : List Loc), lv_has ls 2 [(0, .ref n_h), (1, .int v4)] → va_P D vwCl (wm_X2_goToNextPicks cI cZ cO n_h n_0 n_1 n_2 n_3 on5) H → va_D A (wm_X2_goToNextPicks cI cZ cO n_h n_0 n_1 n_2 n_3 on5) → va_S A s.heap H locs → K3 v4 on5 = some q → W p l e rm_X2_goToNextPicks s m args below meth c H locs 0 0 Q (F0 m 32 ls []) := by
    intro v4 on5 ls H locs hl hP hD hS hF
    subst eK3
    refine lv_aload_n hx hb dX2_goToNextPicks_32 rfl (lv_at hl 0 rfl) ?_
    refine va_get (D := D) (ci := 2) (v := .ref n_0) (C := RX2) (T := TX2) (N := 6) hx hb hts in_X2 hown hK hP 0 rfl rfl 0 (by decide) (hts _ wd_176) (fun _ h9 => h9) rfl dX2_goToNextPicks_33 ?_
    refine lv_iload_n hx hb dX2_goToNextPicks_36 rfl (lv_at hl 1 rfl) ?_
    refine lv_dup2_11 hx hb dX2_goToNextPicks_37 rfl rfl ?_
    obtain ⟨h6, hF⟩ := of_ck hF
    refine va_iald (D := D) hx hb hK hP 1 0 rfl rfl h6 dX2_goToNextPicks_38 ?_
    refine lv_iconst (v := 1) hx hb dX2_goToNextPicks_39 (by decide) ?_
    refine lv_iadd hx hb dX2_goToNextPicks_40 ?_
    refine lv_topi (fun v7 ev7 => ?_)
    replace hF := of_dd hF v7 ev7
    obtain ⟨h8, hF⟩ := of_ck hF
    refine va_iast (D := D) hx hb hK hP hD hS 1 0 rfl rfl h8 dX2_goToNextPicks_41 (fun H locs hP hD hS => ?_)
    obtain ⟨on9, hF, hP, hD⟩ := nm_o (P := fun y => va_P D vwCl (wm_X2_goToNextPicks cI cZ cO n_h n_0 n_1 n_2 n_3 y) _) (B := fun y => va_D A (wm_X2_goToNextPicks cI cZ cO n_h n_0 n_1 n_2 n_3 y)) hF hP hD
    refine lv_iconst (v := 1) hx hb dX2_goToNextPicks_42 (by decide) ?_
    exact hQ _ _ _ _ _ on9 rfl ⟨inj_fst hF, inj_snd hF⟩ hP hD hS dX2_goToNextPicks_43
  have hloop23 : ∀ (n13 : Nat) (v10 : Int32) (on11 : Ob) (ls : Array Slot) (H : Heap) (locs : List Loc), lv_has ls 2 [(0, .ref n_h), (1, .int v10)] → va_P D vwCl (wm_X2_goToNextPicks cI cZ cO n_h n_0 n_1 n_2 n_3 on11) H → va_D A (wm_X2_goToNextPicks cI cZ cO n_h n_0 n_1 n_2 n_3 on11) → va_S A s.heap H locs → L_X2_goToNextPicks_9 n13 v10 on11 K3 = some q → W p l e rm_X2_goToNextPicks s m args below meth c H locs 0 0 Q (F0 m 9 ls []) := by
    intro n13
    induction n13 with
    | zero =>
      intro v10 on11 ls H locs hl hP hD hS hF
      exact of_none hF
    | succ n13 ih12 =>
      intro v10 on11 ls H locs hl hP hD hS hF
      rw [L_X2_goToNextPicks_9.eq_2] at hF
      refine lv_iload_n hx hb dX2_goToNextPicks_9 rfl (lv_at hl 1 rfl) ?_
      refine lv_if_lt (tgt := 57) hx hb dX2_goToNextPicks_10 (by decide) (fun h14 => ?_) (fun h14 => ?_)
      · replace hF := of_t h14 hF
        refine lv_iconst (v := 0) hx hb dX2_goToNextPicks_57 (by decide) ?_
        exact hQ _ _ _ _ _ on11 rfl ⟨inj_fst hF, inj_snd hF⟩ hP hD hS dX2_goToNextPicks_58
      · replace hF := of_f h14 hF
        refine lv_aload_n hx hb dX2_goToNextPicks_13 rfl (lv_at hl 0 rfl) ?_
        refine va_get (D := D) (ci := 2) (v := .ref n_0) (C := RX2) (T := TX2) (N := 6) hx hb hts in_X2 hown hK hP 0 rfl rfl 0 (by decide) (hts _ wd_176) (fun _ h9 => h9) rfl dX2_goToNextPicks_14 ?_
        refine lv_iload_n hx hb dX2_goToNextPicks_17 rfl (lv_at hl 1 rfl) ?_
        obtain ⟨h15, hF⟩ := of_ck hF
        refine va_iald (D := D) hx hb hK hP 1 0 rfl rfl h15 dX2_goToNextPicks_18 ?_
        refine lv_aload_n hx hb dX2_goToNextPicks_19 rfl (lv_at hl 0 rfl) ?_
        refine va_get (D := D) (ci := 2) (v := .int (on11 4 0)) (C := RX2) (T := TX2) (N := 6) hx hb hts in_X2 hown hK hP 0 rfl rfl 4 (by decide) (hts _ wd_181) (fun _ h9 => h9) rfl dX2_goToNextPicks_20 ?_
        refine lv_iconst (v := 2) hx hb dX2_goToNextPicks_23 (by decide) ?_
        refine lv_iload_n hx hb dX2_goToNextPicks_24 rfl (lv_at hl 1 rfl) ?_
        refine lv_imul hx hb dX2_goToNextPicks_25 ?_
        refine lv_topi (fun v16 ev16 => ?_)
        replace hF := of_dd hF v16 ev16
        refine lv_isub hx hb dX2_goToNextPicks_26 ?_
        refine lv_topi (fun v17 ev17 => ?_)
        replace hF := of_dd hF v17 ev17
        refine lv_iconst (v := 1) hx hb dX2_goToNextPicks_27 (by decide) ?_
        refine lv_isub hx hb dX2_goToNextPicks_28 ?_
        refine lv_topi (fun v18 ev18 => ?_)
        replace hF := of_dd hF v18 ev18
        refine lv_icmp_ge (tgt := 44) hx hb dX2_goToNextPicks_29 (by decide) (fun h19 => ?_) (fun h19 => ?_)
        · replace hF := of_t h19 hF
          refine lv_aload_n hx hb dX2_goToNextPicks_44 rfl (lv_at hl 0 rfl) ?_
          refine va_get (D := D) (ci := 2) (v := .ref n_0) (C := RX2) (T := TX2) (N := 6) hx hb hts in_X2 hown hK hP 0 rfl rfl 0 (by decide) (hts _ wd_176) (fun _ h9 => h9) rfl dX2_goToNextPicks_45 ?_
          refine lv_iload_n hx hb dX2_goToNextPicks_48 rfl (lv_at hl 1 rfl) ?_
          refine lv_iconst (v := 1) hx hb dX2_goToNextPicks_49 (by decide) ?_
          obtain ⟨h20, hF⟩ := of_ck hF
          refine va_iast (D := D) hx hb hK hP hD hS 1 0 rfl rfl h20 dX2_goToNextPicks_50 (fun H locs hP hD hS => ?_)
          obtain ⟨on21, hF, hP, hD⟩ := nm_o (P := fun y => va_P D vwCl (wm_X2_goToNextPicks cI cZ cO n_h n_0 n_1 n_2 n_3 y) _) (B := fun y => va_D A (wm_X2_goToNextPicks cI cZ cO n_h n_0 n_1 n_2 n_3 y)) hF hP hD
          obtain ⟨v22, ev22⟩ : ∃ y : Int32, y = v10 + (-1) := ⟨_, rfl⟩
          replace hF := of_dd hF v22 ev22
          refine lv_iinc (v := v22) (lv' := [(1, .int v22), (0, .ref n_h)]) hx hb dX2_goToNextPicks_51 hl (k := 1) rfl (by rw [ev22]; rfl) (by decide) rfl (fun ls hl => ?_)
          refine lv_goto (tgt := 9) hx hb dX2_goToNextPicks_54 (by decide) ?_
          exact ih12 v22 on21 ls _ _ (lv_sub hl [1, 0] rfl) hP hD hS hF
        · replace hF := of_f h19 hF
          exact hK3 v10 on11 ls _ _ (lv_sub hl [0, 1] rfl) hP hD hS hF
  exact hloop23 2000 v2 on ls _ _ (lv_sub hl [1, 0] rfl) hP hD hS hF

/-! ### ThreeLegs$Knots.seek(LThreeLegs$Crowd;[IZ)V -/
abbrev wm_X2_seek (cI cZ cO : ClassId) (n_h n_0 n_1 n_2 n_3 c_h c_0 c_1 c_2 c_3 t_h : Nat) (on : Ob) (oc : Ob) (ot : (Nat → Int32)) : va_W := [(n_h, .inr (2, [.ref n_0, .ref n_1, .ref n_2, .ref n_3, .int (on 4 0), .int (on 5 0)])), (n_0, .inl (cI, 4, .inl (on 0))), (n_1, .inl (cI, 8, .inl (on 1))), (n_2, .inl (cI, 8, .inl (on 2))), (n_3, .inl (cI, 8, .inl (on 3))), (c_h, .inr (0, [.ref c_0, .ref c_1, .ref c_2, .ref c_3, .int (oc 4 0), .int (oc 5 0), .int (oc 6 0)])), (c_0, .inl (cZ, 8, .inl (oc 0))), (c_1, .inl (cI, 8, .inl (oc 1))), (c_2, .inl (cI, 8, .inl (oc 2))), (c_3, .inl (cI, 8, .inl (oc 3))), (t_h, .inl (cI, 64, .inl ot))]
def L_X2_seek_43 : Nat → Int32 → Ob → (Nat → Int32) → Int32 → Int32 → Ob → (Ob → Option (Ob)) → Option (Ob)
  | 0, _, _, _, _, _, _, _ => none
  | n12 + 1, p2, oc, ot, v8, v9, on10, K6 =>
    (if 105 ≤ v9 then K6 on10 else (if v8 = 0 then K6 on10 else (F_X2_costOfPicks on10 oc ot p2).bind (fun q15 => jn (fun (on17 : Ob) => (F_X2_goToNextPicks on17).bind (fun q18 => dd (v9 + 1) (fun (v19 : Int32) => L_X2_seek_43 n12 p2 oc ot q18.1 v19 q18.2 K6))) (fun (K16 : Ob → Option (Ob)) => (if (q15.2 5 0) ≤ q15.1 then K16 q15.2 else dd (sO q15.2 5 (cst q15.1)) (fun (on21 : Ob) => dd (sO on21 3 (va_cpy (on21 2) (on21 3) (0 : Int32).toNatClampNeg (0 : Int32).toNatClampNeg (8 : Int32).toNatClampNeg)) (fun (on22 : Ob) => K16 on22)))))))
def L_X2_seek_11 : Nat → Int32 → Ob → (Ob → Option (Ob)) → Option (Ob)
  | 0, _, _, _ => none
  | n27 + 1, v24, on25, K3 =>
    (if 4 ≤ v24 then K3 on25 else ck v24 4 (dd (sO on25 0 (upd (on25 0) (v24).toNatClampNeg 1)) (fun (on30 : Ob) => dd (v24 + 1) (fun (v31 : Int32) => L_X2_seek_11 n27 v31 on30 K3))))
def F_X2_seek (on : Ob) (oc : Ob) (ot : (Nat → Int32)) (p2 : Int32) : Option (Ob) :=
  (F_X0_count oc).bind (fun q1 => dd (sO on 4 (cst q1)) (fun (on2 : Ob) => jn (fun (on4 : Ob) => dd (sO on4 5 (cst 400001)) (fun (on5 : Ob) => jn (fun (on7 : Ob) => some on7) (fun (K6 : Ob → Option (Ob)) => L_X2_seek_43 2000 p2 oc ot 1 0 on5 K6))) (fun (K3 : Ob → Option (Ob)) => L_X2_seek_11 2000 0 on2 K3)))
abbrev rm_X2_seek : Room := { frames := 3, cells := 0, slots := 0, locals := 74 }
abbrev wu_X2_seek : List Cond := .code yX2_seek cX2_seek 7 none :: lwG
set_option maxHeartbeats 20000000 in
set_option maxRecDepth 100000 in
theorem c_X2_seek (l : Launch) (D : va_G) (cI cZ cO : ClassId) (n_h n_0 n_1 n_2 n_3 c_h c_0 c_1 c_2 c_3 t_h : Nat) (sz : Nat) (on : Ob) (oc : Ob) (ot : (Nat → Int32)) (p2 : Int32) (q : Ob) (hF : F_X2_seek on oc ot p2 = some q) : CtV l yX2_seek wu_X2_seek rm_X2_seek D vwCl (tyL cI cZ cO) [.ref n_h, .ref c_h, .ref t_h, .int p2] (wm_X2_seek cI cZ cO n_h n_0 n_1 n_2 n_3 c_h c_0 c_1 c_2 c_3 t_h on oc ot) sz 0 0 (fun u : Ob => u = q) (fun u => wm_X2_seek cI cZ cO n_h n_0 n_1 n_2 n_3 c_h c_0 c_1 c_2 c_3 t_h u oc ot) := by
  refine mk_v (cc := cX2_seek) (maxL := 7) (by decide) rfl (Nat.le_of_ble_eq_true rfl) ?_
  intro p e s m args below meth c A ls Q hx hb hml hown hts hin hK hP hD hS hA hl hQ
  have hl : lv_has ls 7 [(0, .ref n_h), (1, .ref c_h), (2, .ref t_h), (3, .int p2)] := hl
  unfold F_X2_seek at hF
  refine lv_aload_n hx hb dX2_seek_0 rfl (lv_at hl 0 rfl) ?_
  refine lv_aload_n hx hb dX2_seek_1 rfl (lv_at hl 1 rfl) ?_
  obtain ⟨q1, hGq1, hF⟩ := of_bind hF
  refine callVi (As := []) (rest := [.ref n_h]) (wr := [(n_h, .inr (2, [.ref n_0, .ref n_1, .ref n_2, .ref n_3, .int (on 4 0), .int (on 5 0)])), (n_0, .inl (cI, 4, .inl (on 0))), (n_1, .inl (cI, 8, .inl (on 1))), (n_2, .inl (cI, 8, .inl (on 2))), (n_3, .inl (cI, 8, .inl (on 3))), (t_h, .inl (cI, 64, .inl ot))]) (WN := wm_X2_seek cI cZ cO n_h n_0 n_1 n_2 n_3 c_h c_0 c_1 c_2 c_3 t_h on oc ot) ⟨hx, hb, hml, hown, hts⟩ hK hP hD hS hA [5, 6, 7, 8, 9] [0, 1, 2, 3, 4, 10] [0, 1, 2, 3, 4, 6, 7, 8, 9, 10, 5] (c_X0_count l D cI cZ cO c_h c_0 c_1 c_2 c_3 _ oc q1 hGq1) (cwV 0 hts (gV wd_374 wd_248 wd_249 wd_34 wd_250) rfl rfl rfl (by decide +kernel) ⟨Nat.le_of_ble_eq_true rfl, Nat.le_of_ble_eq_true rfl⟩) 0 0 rfl rfl rfl rfl rfl rfl rfl (by decide) rfl rfl rfl hl.1 rfl (Nat.le_of_ble_eq_true rfl) dX2_seek_2 ⟨Nat.zero_le _, Nat.zero_le _⟩ (fun H locs hP hD hS => ?_)
  refine va_put (D := D) (ci := 2) (v := .int q1) (ty := .int) (C := RX2) (T := TX2) (N := 6) hx hb hts in_X2 tyX2 tyX2_ok nmX2 hown hK hP hD hS 0 rfl rfl 4 (by decide) (hts _ wd_181) (fun _ h9 => h9) rfl (tyX2_ok 4 (by decide)) rfl rfl (Nat.le_of_ble_eq_true rfl) dX2_seek_5 (fun H locs hP hD hS => ?_)
  obtain ⟨on2, hF, hP, hD⟩ := nm_o (P := fun y => va_P D vwCl (wm_X2_seek cI cZ cO n_h n_0 n_1 n_2 n_3 c_h c_0 c_1 c_2 c_3 t_h y oc ot) _) (B := fun y => va_D A (wm_X2_seek cI cZ cO n_h n_0 n_1 n_2 n_3 c_h c_0 c_1 c_2 c_3 t_h y oc ot)) hF hP hD
  refine lv_iconst (v := 0) hx hb dX2_seek_8 (by decide) ?_
  refine lv_istore (lv' := [(4, .int 0), (0, .ref n_h), (1, .ref c_h), (2, .ref t_h), (3, .int p2)]) hx hb dX2_seek_9 hl (by decide) rfl (fun ls hl => ?_)
  obtain ⟨K3, eK3, hF⟩ := of_jn hF
  have hK3 : ∀ (on4 : Ob) (ls : Array Slot) (H : Heap) (locs : List Loc), lv_has ls 7 [(0, .ref n_h), (1, .ref c_h), (2, .ref t_h), (3, .int p2)] → va_P D vwCl (wm_X2_seek cI cZ cO n_h n_0 n_1 n_2 n_3 c_h c_0 c_1 c_2 c_3 t_h on4 oc ot) H → va_D A (wm_X2_seek cI cZ cO n_h n_0 n_1 n_2 n_3 c_h c_0 c_1 c_2 c_3 t_h on4 oc ot) → va_S A s.heap H locs → K3 on4 = some q → W p l e rm_X2_seek s m args below meth c H locs 0 0 Q (F0 m 31 ls []) := by
    intro on4 ls H locs hl hP hD hS hF
    subst eK3
    refine lv_aload_n hx hb dX2_seek_31 rfl (lv_at hl 0 rfl) ?_
    refine lv_ldc hx hb hown (hts _ wd_375) dX2_seek_32 ?_
    refine va_put (D := D) (ci := 2) (v := .int 400001) (ty := .int) (C := RX2) (T := TX2) (N := 6) hx hb hts in_X2 tyX2 tyX2_ok nmX2 hown hK hP hD hS 0 rfl rfl 5 (by decide) (hts _ wd_182) (fun _ h9 => h9) rfl (tyX2_ok 5 (by decide)) rfl rfl (Nat.le_of_ble_eq_true rfl) dX2_seek_34 (fun H locs hP hD hS => ?_)
    obtain ⟨on5, hF, hP, hD⟩ := nm_o (P := fun y => va_P D vwCl (wm_X2_seek cI cZ cO n_h n_0 n_1 n_2 n_3 c_h c_0 c_1 c_2 c_3 t_h y oc ot) _) (B := fun y => va_D A (wm_X2_seek cI cZ cO n_h n_0 n_1 n_2 n_3 c_h c_0 c_1 c_2 c_3 t_h y oc ot)) hF hP hD
    refine lv_iconst (v := 1) hx hb dX2_seek_37 (by decide) ?_
    refine lv_istore (lv' := [(4, .int 1), (0, .ref n_h), (1, .ref c_h), (2, .ref t_h), (3, .int p2)]) hx hb dX2_seek_38 hl (by decide) rfl (fun ls hl => ?_)
    refine lv_iconst (v := 0) hx hb dX2_seek_40 (by decide) ?_
    refine lv_istore (lv' := [(5, .int 0), (4, .int 1), (0, .ref n_h), (1, .ref c_h), (2, .ref t_h), (3, .int p2)]) hx hb dX2_seek_41 hl (by decide) rfl (fun ls hl => ?_)
    obtain ⟨K6, eK6, hF⟩ := of_jn hF
    have hK6 : ∀ (on7 : Ob) (ls : Array Slot) (H : Heap) (locs : List Loc), lv_has ls 7 [] → va_P D vwCl (wm_X2_seek cI cZ cO n_h n_0 n_1 n_2 n_3 c_h c_0 c_1 c_2 c_3 t_h on7 oc ot) H → va_D A (wm_X2_seek cI cZ cO n_h n_0 n_1 n_2 n_3 c_h c_0 c_1 c_2 c_3 t_h on7 oc ot) → va_S A s.heap H locs → K6 on7 = some q → W p l e rm_X2_seek s m args below meth c H locs 0 0 Q (F0 m 106 ls []) := by
      intro on7 ls H locs hl hP hD hS hF
      subst eK6
      exact hQ _ _ _ _ on7 (Option.some.inj hF) hP hD hS dX2_seek_106
    have hloop23 : ∀ (n12 : Nat) (v8 : Int32) (v9 : Int32) (on10 : Ob) (ls : Array Slot) (H : Heap) (locs : List Loc), lv_has ls 7 [(0, .ref n_h), (1, .ref c_h), (2, .ref t_h), (3, .int p2), (4, .int v8), (5, .int v9)] → va_P D vwCl (wm_X2_seek cI cZ cO n_h n_0 n_1 n_2 n_3 c_h c_0 c_1 c_2 c_3 t_h on10 oc ot) H → va_D A (wm_X2_seek cI cZ cO n_h n_0 n_1 n_2 n_3 c_h c_0 c_1 c_2 c_3 t_h on10 oc ot) → va_S A s.heap H locs → L_X2_seek_43 n12 p2 oc ot v8 v9 on10 K6 = some q → W p l e rm_X2_seek s m args below meth c H locs 0 0 Q (F0 m 43 ls []) := by
      intro n12
      induction n12 with
      | zero =>
        intro v8 v9 on10 ls H locs hl hP hD hS hF
        exact of_none hF
      | succ n12 ih11 =>
        intro v8 v9 on10 ls H locs hl hP hD hS hF
        rw [L_X2_seek_43.eq_2] at hF
        refine lv_iload hx hb dX2_seek_43 (lv_at hl 5 rfl) ?_
        refine lv_bipush (v := 105) hx hb dX2_seek_45 (by decide) ?_
        refine lv_icmp_ge (tgt := 106) hx hb dX2_seek_47 (by decide) (fun h13 => ?_) (fun h13 => ?_)
        · replace hF := of_t h13 hF
          exact hK6 on10 ls _ _ (lv_sub hl [] rfl) hP hD hS hF
        · replace hF := of_f h13 hF
          refine lv_iload hx hb dX2_seek_50 (lv_at hl 4 rfl) ?_
          refine lv_if_eq (tgt := 106) hx hb dX2_seek_52 (by decide) (fun h14 => ?_) (fun h14 => ?_)
          · replace hF := of_t h14 hF
            exact hK6 on10 ls _ _ (lv_sub hl [] rfl) hP hD hS hF
          · replace hF := of_f h14 hF
            refine lv_aload_n hx hb dX2_seek_55 rfl (lv_at hl 0 rfl) ?_
            refine lv_aload_n hx hb dX2_seek_56 rfl (lv_at hl 1 rfl) ?_
            refine lv_aload_n hx hb dX2_seek_57 rfl (lv_at hl 2 rfl) ?_
            refine lv_iload_n hx hb dX2_seek_58 rfl (lv_at hl 3 rfl) ?_
            obtain ⟨q15, hGq15, hF⟩ := of_bind hF
            refine callVi (As := [.ref c_h, .ref t_h, .int p2]) (rest := []) (wr := []) (WN := wm_X2_seek cI cZ cO n_h n_0 n_1 n_2 n_3 c_h c_0 c_1 c_2 c_3 t_h q15.2 oc ot) ⟨hx, hb, hml, hown, hts⟩ hK hP hD hS hA [0, 1, 2, 3, 4, 5, 6, 7, 8, 9, 10] [] [0, 1, 2, 3, 4, 5, 6, 7, 8, 9, 10] (c_X2_costOfPicks l D cI cZ cO n_h n_0 n_1 n_2 n_3 c_h c_0 c_1 c_2 c_3 t_h _ on10 oc ot p2 q15 hGq15) (cwV 3 hts (gV wd_376 wd_378 wd_7 wd_37 wd_379) rfl rfl rfl (by decide +kernel) ⟨Nat.le_of_ble_eq_true rfl, Nat.le_of_ble_eq_true rfl⟩) 0 2 rfl rfl rfl rfl rfl rfl rfl (by decide) rfl rfl rfl hl.1 rfl (Nat.le_of_ble_eq_true rfl) dX2_seek_59 ⟨Nat.zero_le _, Nat.zero_le _⟩ (fun H locs hP hD hS => ?_)
            refine lv_istore (lv' := [(6, .int q15.1), (0, .ref n_h), (1, .ref c_h), (2, .ref t_h), (3, .int p2), (4, .int v8), (5, .int v9)]) hx hb dX2_seek_62 hl (by decide) rfl (fun ls hl => ?_)
            refine lv_iload hx hb dX2_seek_64 (lv_at hl 0 rfl) ?_
            refine lv_aload_n hx hb dX2_seek_66 rfl (lv_at hl 1 rfl) ?_
            refine va_get (D := D) (ci := 2) (v := .int (q15.2 5 0)) (C := RX2) (T := TX2) (N := 6) hx hb hts in_X2 hown hK hP 0 rfl rfl 5 (by decide) (hts _ wd_182) (fun _ h9 => h9) rfl dX2_seek_67 ?_
            obtain ⟨K16, eK16, hF⟩ := of_jn hF
            have hK16 : ∀ (on17 : Ob) (ls : Array Slot) (H : Heap) (locs : List Loc), lv_has ls 7 [(0, .ref n_h), (1, .ref c_h), (2, .ref t_h), (3, .int p2), (5, .int v9)] → va_P D vwCl (wm_X2_seek cI cZ cO n_h n_0 n_1 n_2 n_3 c_h c_0 c_1 c_2 c_3 t_h on17 oc ot) H → va_D A (wm_X2_seek cI cZ cO n_h n_0 n_1 n_2 n_3 c_h c_0 c_1 c_2 c_3 t_h on17 oc ot) → va_S A s.heap H locs → K16 on17 = some q → W p l e rm_X2_seek s m args below meth c H locs 0 0 Q (F0 m 94 ls []) := by
              intro on17 ls H locs hl hP hD hS hF
              subst eK16
              refine lv_aload_n hx hb dX2_seek_94 rfl (lv_at hl 0 rfl) ?_
              obtain ⟨q18, hGq18, hF⟩ := of_bind hF
              refine callVi (As := []) (rest := []) (wr := [(c_h, .inr (0, [.ref c_0, .ref c_1, .ref c_2, .ref c_3, .int (oc 4 0), .int (oc 5 0), .int (oc 6 0)])), (c_0, .inl (cZ, 8, .inl (oc 0))), (c_1, .inl (cI, 8, .inl (oc 1))), (c_2, .inl (cI, 8, .inl (oc 2))), (c_3, .inl (cI, 8, .inl (oc 3))), (t_h, .inl (cI, 64, .inl ot))]) (WN := wm_X2_seek cI cZ cO n_h n_0 n_1 n_2 n_3 c_h c_0 c_1 c_2 c_3 t_h q18.2 oc ot) ⟨hx, hb, hml, hown, hts⟩ hK hP hD hS hA [0, 1, 2, 3, 4] [5, 6, 7, 8, 9, 10] [6, 7, 8, 9, 10, 0, 1, 2, 3, 4, 5] (c_X2_goToNextPicks l D cI cZ cO n_h n_0 n_1 n_2 n_3 _ on17 q18 hGq18) (cwV 0 hts (gV wd_394 wd_396 wd_10 wd_37 wd_397) rfl rfl rfl (by decide +kernel) ⟨Nat.le_of_ble_eq_true rfl, Nat.le_of_ble_eq_true rfl⟩) 0 2 rfl rfl rfl rfl rfl rfl rfl (by decide) rfl rfl rfl hl.1 rfl (Nat.le_of_ble_eq_true rfl) dX2_seek_95 ⟨Nat.zero_le _, Nat.zero_le _⟩ (fun H locs hP hD hS => ?_)
              refine lv_istore (lv' := [(4, .int q18.1), (0, .ref n_h), (1, .ref c_h), (2, .ref t_h), (3, .int p2), (5, .int v9)]) hx hb dX2_seek_98 hl (by decide) rfl (fun ls hl => ?_)
              obtain ⟨v19, ev19⟩ : ∃ y : Int32, y = v9 + 1 := ⟨_, rfl⟩
              replace hF := of_dd hF v19 ev19
              refine lv_iinc (v := v19) (lv' := [(5, .int v19), (4, .int q18.1), (0, .ref n_h), (1, .ref c_h), (2, .ref t_h), (3, .int p2)]) hx hb dX2_seek_100 hl (k := 5) rfl (by rw [ev19]; rfl) (by decide) rfl (fun ls hl => ?_)
              refine lv_goto (tgt := 43) hx hb dX2_seek_103 (by decide) ?_
              exact ih11 q18.1 v19 q18.2 ls _ _ (lv_sub hl [2, 3, 4, 5, 1, 0] rfl) hP hD hS hF
            refine lv_icmp_ge (tgt := 94) hx hb dX2_seek_70 (by decide) (fun h20 => ?_) (fun h20 => ?_)
            · replace hF := of_t h20 hF
              exact hK16 q15.2 ls _ _ (lv_sub hl [1, 2, 3, 4, 6] rfl) hP hD hS hF
            · replace hF := of_f h20 hF
              refine lv_aload_n hx hb dX2_seek_73 rfl (lv_at hl 1 rfl) ?_
              refine lv_iload hx hb dX2_seek_74 (lv_at hl 0 rfl) ?_
              refine va_put (D := D) (ci := 2) (v := .int q15.1) (ty := .int) (C := RX2) (T := TX2) (N := 6) hx hb hts in_X2 tyX2 tyX2_ok nmX2 hown hK hP hD hS 0 rfl rfl 5 (by decide) (hts _ wd_182) (fun _ h9 => h9) rfl (tyX2_ok 5 (by decide)) rfl rfl (Nat.le_of_ble_eq_true rfl) dX2_seek_76 (fun H locs hP hD hS => ?_)
              obtain ⟨on21, hF, hP, hD⟩ := nm_o (P := fun y => va_P D vwCl (wm_X2_seek cI cZ cO n_h n_0 n_1 n_2 n_3 c_h c_0 c_1 c_2 c_3 t_h y oc ot) _) (B := fun y => va_D A (wm_X2_seek cI cZ cO n_h n_0 n_1 n_2 n_3 c_h c_0 c_1 c_2 c_3 t_h y oc ot)) hF hP hD
              refine lv_aload_n hx hb dX2_seek_79 rfl (lv_at hl 1 rfl) ?_
              refine va_get (D := D) (ci := 2) (v := .ref n_2) (C := RX2) (T := TX2) (N := 6) hx hb hts in_X2 hown hK hP 0 rfl rfl 2 (by decide) (hts _ wd_178) (fun _ h9 => h9) rfl dX2_seek_80 ?_
              refine lv_iconst (v := 0) hx hb dX2_seek_83 (by decide) ?_
              refine lv_aload_n hx hb dX2_seek_84 rfl (lv_at hl 1 rfl) ?_
              refine va_get (D := D) (ci := 2) (v := .ref n_3) (C := RX2) (T := TX2) (N := 6) hx hb hts in_X2 hown hK hP 0 rfl rfl 3 (by decide) (hts _ wd_179) (fun _ h9 => h9) rfl dX2_seek_85 ?_
              refine lv_iconst (v := 0) hx hb dX2_seek_88 (by decide) ?_
              refine lv_bipush (v := 8) hx hb dX2_seek_89 (by decide) ?_
              refine va_copyi (D := D) (ty := .int) hx hb (hml.trans hl.1.symm) hown (hts _ wd_391) (hts _ wd_393) (hts _ wd_392) (hts _ wd_42) hK hP hD hS 3 4 0 0 rfl rfl rfl rfl rfl (by decide) (by decide) (by decide) (by decide) (by decide) (fun _ _ => rfl) (Nat.le_of_ble_eq_true rfl) (by decide +kernel) dX2_seek_91 (fun H locs hP hD hS => ?_)
              obtain ⟨on22, hF, hP, hD⟩ := nm_o (P := fun y => va_P D vwCl (wm_X2_seek cI cZ cO n_h n_0 n_1 n_2 n_3 c_h c_0 c_1 c_2 c_3 t_h y oc ot) _) (B := fun y => va_D A (wm_X2_seek cI cZ cO n_h n_0 n_1 n_2 n_3 c_h c_0 c_1 c_2 c_3 t_h y oc ot)) hF hP hD
              exact hK16 on22 ls _ _ (lv_sub hl [1, 2, 3, 4, 6] rfl) hP hD hS hF
    exact hloop23 2000 1 0 on5 ls _ _ (lv_sub hl [2, 3, 4, 5, 1, 0] rfl) hP hD hS hF
  have hloop32 : ∀ (n27 : Nat) (v24 : Int32) (on25 : Ob) (ls : Array Slot) (H : Heap) (locs : List Loc), lv_has ls 7 [(0, .ref n_h), (1, .ref c_h), (2, .ref t_h), (3, .int p2), (4, .int v24)] → va_P D vwCl (wm_X2_seek cI cZ cO n_h n_0 n_1 n_2 n_3 c_h c_0 c_1 c_2 c_3 t_h on25 oc ot) H → va_D A (wm_X2_seek cI cZ cO n_h n_0 n_1 n_2 n_3 c_h c_0 c_1 c_2 c_3 t_h on25 oc ot) → va_S A s.heap H locs → L_X2_seek_11 n27 v24 on25 K3 = some q → W p l e rm_X2_seek s m args below meth c H locs 0 0 Q (F0 m 11 ls []) := by
    intro n27
    induction n27 with
    | zero =>
      intro v24 on25 ls H locs hl hP hD hS hF
      exact of_none hF
    | succ n27 ih26 =>
      intro v24 on25 ls H locs hl hP hD hS hF
      rw [L_X2_seek_11.eq_2] at hF
      refine lv_iload hx hb dX2_seek_11 (lv_at hl 4 rfl) ?_
      refine lv_iconst (v := 4) hx hb dX2_seek_13 (by decide) ?_
      refine lv_icmp_ge (tgt := 31) hx hb dX2_seek_14 (by decide) (fun h28 => ?_) (fun h28 => ?_)
      · replace hF := of_t h28 hF
        exact hK3 on25 ls _ _ (lv_sub hl [0, 1, 2, 3] rfl) hP hD hS hF
      · replace hF := of_f h28 hF
        refine lv_aload_n hx hb dX2_seek_17 rfl (lv_at hl 0 rfl) ?_
        refine va_get (D := D) (ci := 2) (v := .ref n_0) (C := RX2) (T := TX2) (N := 6) hx hb hts in_X2 hown hK hP 0 rfl rfl 0 (by decide) (hts _ wd_176) (fun _ h9 => h9) rfl dX2_seek_18 ?_
        refine lv_iload hx hb dX2_seek_21 (lv_at hl 4 rfl) ?_
        refine lv_iconst (v := 1) hx hb dX2_seek_23 (by decide) ?_
        obtain ⟨h29, hF⟩ := of_ck hF
        refine va_iast (D := D) hx hb hK hP hD hS 1 0 rfl rfl h29 dX2_seek_24 (fun H locs hP hD hS => ?_)
        obtain ⟨on30, hF, hP, hD⟩ := nm_o (P := fun y => va_P D vwCl (wm_X2_seek cI cZ cO n_h n_0 n_1 n_2 n_3 c_h c_0 c_1 c_2 c_3 t_h y oc ot) _) (B := fun y => va_D A (wm_X2_seek cI cZ cO n_h n_0 n_1 n_2 n_3 c_h c_0 c_1 c_2 c_3 t_h y oc ot)) hF hP hD
        obtain ⟨v31, ev31⟩ : ∃ y : Int32, y = v24 + 1 := ⟨_, rfl⟩
        replace hF := of_dd hF v31 ev31
        refine lv_iinc (v := v31) (lv' := [(4, .int v31), (0, .ref n_h), (1, .ref c_h), (2, .ref t_h), (3, .int p2)]) hx hb dX2_seek_25 hl (k := 4) rfl (by rw [ev31]; rfl) (by decide) rfl (fun ls hl => ?_)
        refine lv_goto (tgt := 11) hx hb dX2_seek_28 (by decide) ?_
        exact ih26 v31 on30 ls _ _ (lv_sub hl [1, 2, 3, 4, 0] rfl) hP hD hS hF
  exact hloop32 2000 0 on2 ls _ _ (lv_sub hl [1, 2, 3, 4, 0] rfl) hP hD hS hF

/-! ### ThreeLegs$Walk.tie(LThreeLegs$Crowd;II)V -/
abbrev wm_X4_tie (cI cZ cO : ClassId) (w_h c_h c_0 c_1 c_2 c_3 : Nat) (ow : Ob) (oc : Ob) : va_W := [(w_h, .inr (4, [.int (ow 0 0), .int (ow 1 0), .int (ow 2 0), .int (ow 3 0), .int (ow 4 0), .int (ow 5 0), .int (ow 6 0), .int (ow 7 0), .int (ow 8 0), .int (ow 9 0), .int (ow 10 0), .int (ow 11 0), .int (ow 12 0), .int (ow 13 0), .int (ow 14 0), .int (ow 15 0)])), (c_h, .inr (0, [.ref c_0, .ref c_1, .ref c_2, .ref c_3, .int (oc 4 0), .int (oc 5 0), .int (oc 6 0)])), (c_0, .inl (cZ, 8, .inl (oc 0))), (c_1, .inl (cI, 8, .inl (oc 1))), (c_2, .inl (cI, 8, .inl (oc 2))), (c_3, .inl (cI, 8, .inl (oc 3)))]
def F_X4_tie (ow : Ob) (oc : Ob) (p1 : Int32) (p2 : Int32) : Option (Ob) :=
  (F_X0_canTie oc p1 p2).bind (fun q1 => (if q1 = 0 then some ow else ck p1 8 (dd (sO ow 0 (cst ((oc 1) (p1).toNatClampNeg))) (fun (ow4 : Ob) => ck p2 8 (dd (sO ow4 1 (cst ((oc 1) (p2).toNatClampNeg))) (fun (ow6 : Ob) => ck p1 8 (dd (sO ow6 2 (cst ((oc 3) (p1).toNatClampNeg))) (fun (ow8 : Ob) => ck p2 8 (dd (sO ow8 3 (cst ((oc 3) (p2).toNatClampNeg))) (fun (ow10 : Ob) => ck p1 8 (ck p2 8 (dd (if ((oc 2) (p2).toNatClampNeg) < ((oc 2) (p1).toNatClampNeg) then ((oc 2) (p2).toNatClampNeg) else ((oc 2) (p1).toNatClampNeg)) (fun (v13 : Int32) => dd (sO ow10 4 (cst v13)) (fun (ow14 : Ob) => dd (sO ow14 5 (cst (oc 4 0))) (fun (ow15 : Ob) => dd (sO ow15 6 (cst (oc 5 0))) (fun (ow16 : Ob) => dd (sO ow16 7 (cst (oc 6 0))) (fun (ow17 : Ob) => dd (sO ow17 8 (cst 0)) (fun (ow18 : Ob) => dd (sO ow18 9 (cst 0)) (fun (ow19 : Ob) => dd (sO ow19 10 (cst 0)) (fun (ow20 : Ob) => dd (sO ow20 11 (cst 0)) (fun (ow21 : Ob) => dd (sO ow21 12 (cst 0)) (fun (ow22 : Ob) => dd (sO ow22 13 (cst 0)) (fun (ow23 : Ob) => some ow23)))))))))))))))))))))))
abbrev rm_X4_tie : Room := { frames := 2, cells := 0, slots := 0, locals := 43 }
abbrev wu_X4_tie : List Cond := .code yX4_tie cX4_tie 4 none :: lwG
set_option maxHeartbeats 20000000 in
set_option maxRecDepth 100000 in
theorem c_X4_tie (l : Launch) (D : va_G) (cI cZ cO : ClassId) (w_h c_h c_0 c_1 c_2 c_3 : Nat) (sz : Nat) (ow : Ob) (oc : Ob) (p1 : Int32) (p2 : Int32) (q : Ob) (hF : F_X4_tie ow oc p1 p2 = some q) : CtV l yX4_tie wu_X4_tie rm_X4_tie D vwCl (tyL cI cZ cO) [.ref w_h, .ref c_h, .int p1, .int p2] (wm_X4_tie cI cZ cO w_h c_h c_0 c_1 c_2 c_3 ow oc) sz 0 0 (fun u : Ob => u = q) (fun u => wm_X4_tie cI cZ cO w_h c_h c_0 c_1 c_2 c_3 u oc) := by
  refine mk_v (cc := cX4_tie) (maxL := 4) (by decide) rfl (Nat.le_of_ble_eq_true rfl) ?_
  intro p e s m args below meth c A ls Q hx hb hml hown hts hin hK hP hD hS hA hl hQ
  have hl : lv_has ls 4 [(0, .ref w_h), (1, .ref c_h), (2, .int p1), (3, .int p2)] := hl
  unfold F_X4_tie at hF
  refine lv_aload_n hx hb dX4_tie_0 rfl (lv_at hl 1 rfl) ?_
  refine lv_iload_n hx hb dX4_tie_1 rfl (lv_at hl 2 rfl) ?_
  refine lv_iload_n hx hb dX4_tie_2 rfl (lv_at hl 3 rfl) ?_
  obtain ⟨q1, hGq1, hF⟩ := of_bind hF
  refine callVi (As := [.int p1, .int p2]) (rest := []) (wr := [(w_h, .inr (4, [.int (ow 0 0), .int (ow 1 0), .int (ow 2 0), .int (ow 3 0), .int (ow 4 0), .int (ow 5 0), .int (ow 6 0), .int (ow 7 0), .int (ow 8 0), .int (ow 9 0), .int (ow 10 0), .int (ow 11 0), .int (ow 12 0), .int (ow 13 0), .int (ow 14 0), .int (ow 15 0)]))]) (WN := wm_X4_tie cI cZ cO w_h c_h c_0 c_1 c_2 c_3 ow oc) ⟨hx, hb, hml, hown, hts⟩ hK hP hD hS hA [1, 2, 3, 4, 5] [0] [0, 1, 2, 3, 4, 5] (c_X0_canTie l D cI cZ cO c_h c_0 c_1 c_2 c_3 _ oc p1 p2 q1 hGq1) (cwV 2 hts (gV wd_302 wd_295 wd_296 wd_34 wd_297) rfl rfl rfl (by decide +kernel) ⟨Nat.le_of_ble_eq_true rfl, Nat.le_of_ble_eq_true rfl⟩) 0 0 rfl rfl rfl rfl rfl rfl rfl (by decide) rfl rfl rfl hl.1 rfl (Nat.le_of_ble_eq_true rfl) dX4_tie_3 ⟨Nat.zero_le _, Nat.zero_le _⟩ (fun H locs hP hD hS => ?_)
  refine lv_if_ne (tgt := 10) hx hb dX4_tie_6 (by decide) (fun h2 => ?_) (fun h2 => ?_)
  · replace hF := of_f h2 hF
    refine lv_aload_n hx hb dX4_tie_10 rfl (lv_at hl 0 rfl) ?_
    refine lv_aload_n hx hb dX4_tie_11 rfl (lv_at hl 1 rfl) ?_
    refine va_get (D := D) (ci := 0) (v := .ref c_1) (C := RX0) (T := TX0) (N := 7) hx hb hts in_X0 hown hK hP 1 rfl rfl 1 (by decide) (hts _ wd_59) (fun _ h9 => h9) rfl dX4_tie_12 ?_
    refine lv_iload_n hx hb dX4_tie_15 rfl (lv_at hl 2 rfl) ?_
    obtain ⟨h3, hF⟩ := of_ck hF
    refine va_iald (D := D) hx hb hK hP 3 0 rfl rfl h3 dX4_tie_16 ?_
    refine va_put (D := D) (ci := 4) (v := .int ((oc 1) (p1).toNatClampNeg)) (ty := .int) (C := RX4) (T := TX4) (N := 16) hx hb hts in_X4 tyX4 tyX4_ok nmX4 hown hK hP hD hS 0 rfl rfl 0 (by decide) (hts _ wd_114) (fun _ h9 => h9) rfl (tyX4_ok 0 (by decide)) rfl rfl (Nat.le_of_ble_eq_true rfl) dX4_tie_17 (fun H locs hP hD hS => ?_)
    obtain ⟨ow4, hF, hP, hD⟩ := nm_o (P := fun y => va_P D vwCl (wm_X4_tie cI cZ cO w_h c_h c_0 c_1 c_2 c_3 y oc) _) (B := fun y => va_D A (wm_X4_tie cI cZ cO w_h c_h c_0 c_1 c_2 c_3 y oc)) hF hP hD
    refine lv_aload_n hx hb dX4_tie_20 rfl (lv_at hl 0 rfl) ?_
    refine lv_aload_n hx hb dX4_tie_21 rfl (lv_at hl 1 rfl) ?_
    refine va_get (D := D) (ci := 0) (v := .ref c_1) (C := RX0) (T := TX0) (N := 7) hx hb hts in_X0 hown hK hP 1 rfl rfl 1 (by decide) (hts _ wd_59) (fun _ h9 => h9) rfl dX4_tie_22 ?_
    refine lv_iload_n hx hb dX4_tie_25 rfl (lv_at hl 3 rfl) ?_
    obtain ⟨h5, hF⟩ := of_ck hF
    refine va_iald (D := D) hx hb hK hP 3 0 rfl rfl h5 dX4_tie_26 ?_
    refine va_put (D := D) (ci := 4) (v := .int ((oc 1) (p2).toNatClampNeg)) (ty := .int) (C := RX4) (T := TX4) (N := 16) hx hb hts in_X4 tyX4 tyX4_ok nmX4 hown hK hP hD hS 0 rfl rfl 1 (by decide) (hts _ wd_115) (fun _ h9 => h9) rfl (tyX4_ok 1 (by decide)) rfl rfl (Nat.le_of_ble_eq_true rfl) dX4_tie_27 (fun H locs hP hD hS => ?_)
    obtain ⟨ow6, hF, hP, hD⟩ := nm_o (P := fun y => va_P D vwCl (wm_X4_tie cI cZ cO w_h c_h c_0 c_1 c_2 c_3 y oc) _) (B := fun y => va_D A (wm_X4_tie cI cZ cO w_h c_h c_0 c_1 c_2 c_3 y oc)) hF hP hD
    refine lv_aload_n hx hb dX4_tie_30 rfl (lv_at hl 0 rfl) ?_
    refine lv_aload_n hx hb dX4_tie_31 rfl (lv_at hl 1 rfl) ?_
    refine va_get (D := D) (ci := 0) (v := .ref c_3) (C := RX0) (T := TX0) (N := 7) hx hb hts in_X0 hown hK hP 1 rfl rfl 3 (by decide) (hts _ wd_65) (fun _ h9 => h9) rfl dX4_tie_32 ?_
    refine lv_iload_n hx hb dX4_tie_35 rfl (lv_at hl 2 rfl) ?_
    obtain ⟨h7, hF⟩ := of_ck hF
    refine va_iald (D := D) hx hb hK hP 5 0 rfl rfl h7 dX4_tie_36 ?_
    refine va_put (D := D) (ci := 4) (v := .int ((oc 3) (p1).toNatClampNeg)) (ty := .int) (C := RX4) (T := TX4) (N := 16) hx hb hts in_X4 tyX4 tyX4_ok nmX4 hown hK hP hD hS 0 rfl rfl 2 (by decide) (hts _ wd_116) (fun _ h9 => h9) rfl (tyX4_ok 2 (by decide)) rfl rfl (Nat.le_of_ble_eq_true rfl) dX4_tie_37 (fun H locs hP hD hS => ?_)
    obtain ⟨ow8, hF, hP, hD⟩ := nm_o (P := fun y => va_P D vwCl (wm_X4_tie cI cZ cO w_h c_h c_0 c_1 c_2 c_3 y oc) _) (B := fun y => va_D A (wm_X4_tie cI cZ cO w_h c_h c_0 c_1 c_2 c_3 y oc)) hF hP hD
    refine lv_aload_n hx hb dX4_tie_40 rfl (lv_at hl 0 rfl) ?_
    refine lv_aload_n hx hb dX4_tie_41 rfl (lv_at hl 1 rfl) ?_
    refine va_get (D := D) (ci := 0) (v := .ref c_3) (C := RX0) (T := TX0) (N := 7) hx hb hts in_X0 hown hK hP 1 rfl rfl 3 (by decide) (hts _ wd_65) (fun _ h9 => h9) rfl dX4_tie_42 ?_
    refine lv_iload_n hx hb dX4_tie_45 rfl (lv_at hl 3 rfl) ?_
    obtain ⟨h9, hF⟩ := of_ck hF
    refine va_iald (D := D) hx hb hK hP 5 0 rfl rfl h9 dX4_tie_46 ?_
    refine va_put (D := D) (ci := 4) (v := .int ((oc 3) (p2).toNatClampNeg)) (ty := .int) (C := RX4) (T := TX4) (N := 16) hx hb hts in_X4 tyX4 tyX4_ok nmX4 hown hK hP hD hS 0 rfl rfl 3 (by decide) (hts _ wd_117) (fun _ h9 => h9) rfl (tyX4_ok 3 (by decide)) rfl rfl (Nat.le_of_ble_eq_true rfl) dX4_tie_47 (fun H locs hP hD hS => ?_)
    obtain ⟨ow10, hF, hP, hD⟩ := nm_o (P := fun y => va_P D vwCl (wm_X4_tie cI cZ cO w_h c_h c_0 c_1 c_2 c_3 y oc) _) (B := fun y => va_D A (wm_X4_tie cI cZ cO w_h c_h c_0 c_1 c_2 c_3 y oc)) hF hP hD
    refine lv_aload_n hx hb dX4_tie_50 rfl (lv_at hl 0 rfl) ?_
    refine lv_aload_n hx hb dX4_tie_51 rfl (lv_at hl 1 rfl) ?_
    refine va_get (D := D) (ci := 0) (v := .ref c_2) (C := RX0) (T := TX0) (N := 7) hx hb hts in_X0 hown hK hP 1 rfl rfl 2 (by decide) (hts _ wd_62) (fun _ h9 => h9) rfl dX4_tie_52 ?_
    refine lv_iload_n hx hb dX4_tie_55 rfl (lv_at hl 2 rfl) ?_
    obtain ⟨h11, hF⟩ := of_ck hF
    refine va_iald (D := D) hx hb hK hP 4 0 rfl rfl h11 dX4_tie_56 ?_
    refine lv_aload_n hx hb dX4_tie_57 rfl (lv_at hl 1 rfl) ?_
    refine va_get (D := D) (ci := 0) (v := .ref c_2) (C := RX0) (T := TX0) (N := 7) hx hb hts in_X0 hown hK hP 1 rfl rfl 2 (by decide) (hts _ wd_62) (fun _ h9 => h9) rfl dX4_tie_58 ?_
    refine lv_iload_n hx hb dX4_tie_61 rfl (lv_at hl 3 rfl) ?_
    obtain ⟨h12, hF⟩ := of_ck hF
    refine va_iald (D := D) hx hb hK hP 4 0 rfl rfl h12 dX4_tie_62 ?_
    refine va_mmin hx hb (hml.trans hl.1.symm) hown (hts _ wd_303) (hts _ wd_304) (hts _ wd_41) (hts _ wd_305) (Nat.le_of_ble_eq_true rfl) (Nat.le_of_ble_eq_true rfl) (Nat.zero_le _) (Nat.zero_le _) dX4_tie_63 ?_
    refine lv_topi (fun v13 ev13 => ?_)
    replace hF := of_dd hF v13 ev13
    refine va_put (D := D) (ci := 4) (v := .int v13) (ty := .int) (C := RX4) (T := TX4) (N := 16) hx hb hts in_X4 tyX4 tyX4_ok nmX4 hown hK hP hD hS 0 rfl rfl 4 (by decide) (hts _ wd_118) (fun _ h9 => h9) rfl (tyX4_ok 4 (by decide)) rfl rfl (Nat.le_of_ble_eq_true rfl) dX4_tie_66 (fun H locs hP hD hS => ?_)
    obtain ⟨ow14, hF, hP, hD⟩ := nm_o (P := fun y => va_P D vwCl (wm_X4_tie cI cZ cO w_h c_h c_0 c_1 c_2 c_3 y oc) _) (B := fun y => va_D A (wm_X4_tie cI cZ cO w_h c_h c_0 c_1 c_2 c_3 y oc)) hF hP hD
    refine lv_aload_n hx hb dX4_tie_69 rfl (lv_at hl 0 rfl) ?_
    refine lv_aload_n hx hb dX4_tie_70 rfl (lv_at hl 1 rfl) ?_
    refine va_get (D := D) (ci := 0) (v := .int (oc 4 0)) (C := RX0) (T := TX0) (N := 7) hx hb hts in_X0 hown hK hP 1 rfl rfl 4 (by decide) (hts _ wd_68) (fun _ h9 => h9) rfl dX4_tie_71 ?_
    refine va_put (D := D) (ci := 4) (v := .int (oc 4 0)) (ty := .int) (C := RX4) (T := TX4) (N := 16) hx hb hts in_X4 tyX4 tyX4_ok nmX4 hown hK hP hD hS 0 rfl rfl 5 (by decide) (hts _ wd_119) (fun _ h9 => h9) rfl (tyX4_ok 5 (by decide)) rfl rfl (Nat.le_of_ble_eq_true rfl) dX4_tie_74 (fun H locs hP hD hS => ?_)
    obtain ⟨ow15, hF, hP, hD⟩ := nm_o (P := fun y => va_P D vwCl (wm_X4_tie cI cZ cO w_h c_h c_0 c_1 c_2 c_3 y oc) _) (B := fun y => va_D A (wm_X4_tie cI cZ cO w_h c_h c_0 c_1 c_2 c_3 y oc)) hF hP hD
    refine lv_aload_n hx hb dX4_tie_77 rfl (lv_at hl 0 rfl) ?_
    refine lv_aload_n hx hb dX4_tie_78 rfl (lv_at hl 1 rfl) ?_
    refine va_get (D := D) (ci := 0) (v := .int (oc 5 0)) (C := RX0) (T := TX0) (N := 7) hx hb hts in_X0 hown hK hP 1 rfl rfl 5 (by decide) (hts _ wd_71) (fun _ h9 => h9) rfl dX4_tie_79 ?_
    refine va_put (D := D) (ci := 4) (v := .int (oc 5 0)) (ty := .int) (C := RX4) (T := TX4) (N := 16) hx hb hts in_X4 tyX4 tyX4_ok nmX4 hown hK hP hD hS 0 rfl rfl 6 (by decide) (hts _ wd_121) (fun _ h9 => h9) rfl (tyX4_ok 6 (by decide)) rfl rfl (Nat.le_of_ble_eq_true rfl) dX4_tie_82 (fun H locs hP hD hS => ?_)
    obtain ⟨ow16, hF, hP, hD⟩ := nm_o (P := fun y => va_P D vwCl (wm_X4_tie cI cZ cO w_h c_h c_0 c_1 c_2 c_3 y oc) _) (B := fun y => va_D A (wm_X4_tie cI cZ cO w_h c_h c_0 c_1 c_2 c_3 y oc)) hF hP hD
    refine lv_aload_n hx hb dX4_tie_85 rfl (lv_at hl 0 rfl) ?_
    refine lv_aload_n hx hb dX4_tie_86 rfl (lv_at hl 1 rfl) ?_
    refine va_get (D := D) (ci := 0) (v := .int (oc 6 0)) (C := RX0) (T := TX0) (N := 7) hx hb hts in_X0 hown hK hP 1 rfl rfl 6 (by decide) (hts _ wd_74) (fun _ h9 => h9) rfl dX4_tie_87 ?_
    refine va_put (D := D) (ci := 4) (v := .int (oc 6 0)) (ty := .int) (C := RX4) (T := TX4) (N := 16) hx hb hts in_X4 tyX4 tyX4_ok nmX4 hown hK hP hD hS 0 rfl rfl 7 (by decide) (hts _ wd_122) (fun _ h9 => h9) rfl (tyX4_ok 7 (by decide)) rfl rfl (Nat.le_of_ble_eq_true rfl) dX4_tie_90 (fun H locs hP hD hS => ?_)
    obtain ⟨ow17, hF, hP, hD⟩ := nm_o (P := fun y => va_P D vwCl (wm_X4_tie cI cZ cO w_h c_h c_0 c_1 c_2 c_3 y oc) _) (B := fun y => va_D A (wm_X4_tie cI cZ cO w_h c_h c_0 c_1 c_2 c_3 y oc)) hF hP hD
    refine lv_aload_n hx hb dX4_tie_93 rfl (lv_at hl 0 rfl) ?_
    refine lv_iconst (v := 0) hx hb dX4_tie_94 (by decide) ?_
    refine va_put (D := D) (ci := 4) (v := .int 0) (ty := .int) (C := RX4) (T := TX4) (N := 16) hx hb hts in_X4 tyX4 tyX4_ok nmX4 hown hK hP hD hS 0 rfl rfl 8 (by decide) (hts _ wd_123) (fun _ h9 => h9) rfl (tyX4_ok 8 (by decide)) rfl rfl (Nat.le_of_ble_eq_true rfl) dX4_tie_95 (fun H locs hP hD hS => ?_)
    obtain ⟨ow18, hF, hP, hD⟩ := nm_o (P := fun y => va_P D vwCl (wm_X4_tie cI cZ cO w_h c_h c_0 c_1 c_2 c_3 y oc) _) (B := fun y => va_D A (wm_X4_tie cI cZ cO w_h c_h c_0 c_1 c_2 c_3 y oc)) hF hP hD
    refine lv_aload_n hx hb dX4_tie_98 rfl (lv_at hl 0 rfl) ?_
    refine lv_iconst (v := 0) hx hb dX4_tie_99 (by decide) ?_
    refine va_put (D := D) (ci := 4) (v := .int 0) (ty := .int) (C := RX4) (T := TX4) (N := 16) hx hb hts in_X4 tyX4 tyX4_ok nmX4 hown hK hP hD hS 0 rfl rfl 9 (by decide) (hts _ wd_124) (fun _ h9 => h9) rfl (tyX4_ok 9 (by decide)) rfl rfl (Nat.le_of_ble_eq_true rfl) dX4_tie_100 (fun H locs hP hD hS => ?_)
    obtain ⟨ow19, hF, hP, hD⟩ := nm_o (P := fun y => va_P D vwCl (wm_X4_tie cI cZ cO w_h c_h c_0 c_1 c_2 c_3 y oc) _) (B := fun y => va_D A (wm_X4_tie cI cZ cO w_h c_h c_0 c_1 c_2 c_3 y oc)) hF hP hD
    refine lv_aload_n hx hb dX4_tie_103 rfl (lv_at hl 0 rfl) ?_
    refine lv_iconst (v := 0) hx hb dX4_tie_104 (by decide) ?_
    refine va_put (D := D) (ci := 4) (v := .int 0) (ty := .int) (C := RX4) (T := TX4) (N := 16) hx hb hts in_X4 tyX4 tyX4_ok nmX4 hown hK hP hD hS 0 rfl rfl 10 (by decide) (hts _ wd_125) (fun _ h9 => h9) rfl (tyX4_ok 10 (by decide)) rfl rfl (Nat.le_of_ble_eq_true rfl) dX4_tie_105 (fun H locs hP hD hS => ?_)
    obtain ⟨ow20, hF, hP, hD⟩ := nm_o (P := fun y => va_P D vwCl (wm_X4_tie cI cZ cO w_h c_h c_0 c_1 c_2 c_3 y oc) _) (B := fun y => va_D A (wm_X4_tie cI cZ cO w_h c_h c_0 c_1 c_2 c_3 y oc)) hF hP hD
    refine lv_aload_n hx hb dX4_tie_108 rfl (lv_at hl 0 rfl) ?_
    refine lv_iconst (v := 0) hx hb dX4_tie_109 (by decide) ?_
    refine va_put (D := D) (ci := 4) (v := .int 0) (ty := .int) (C := RX4) (T := TX4) (N := 16) hx hb hts in_X4 tyX4 tyX4_ok nmX4 hown hK hP hD hS 0 rfl rfl 11 (by decide) (hts _ wd_127) (fun _ h9 => h9) rfl (tyX4_ok 11 (by decide)) rfl rfl (Nat.le_of_ble_eq_true rfl) dX4_tie_110 (fun H locs hP hD hS => ?_)
    obtain ⟨ow21, hF, hP, hD⟩ := nm_o (P := fun y => va_P D vwCl (wm_X4_tie cI cZ cO w_h c_h c_0 c_1 c_2 c_3 y oc) _) (B := fun y => va_D A (wm_X4_tie cI cZ cO w_h c_h c_0 c_1 c_2 c_3 y oc)) hF hP hD
    refine lv_aload_n hx hb dX4_tie_113 rfl (lv_at hl 0 rfl) ?_
    refine lv_iconst (v := 0) hx hb dX4_tie_114 (by decide) ?_
    refine va_put (D := D) (ci := 4) (v := .int 0) (ty := .int) (C := RX4) (T := TX4) (N := 16) hx hb hts in_X4 tyX4 tyX4_ok nmX4 hown hK hP hD hS 0 rfl rfl 12 (by decide) (hts _ wd_129) (fun _ h9 => h9) rfl (tyX4_ok 12 (by decide)) rfl rfl (Nat.le_of_ble_eq_true rfl) dX4_tie_115 (fun H locs hP hD hS => ?_)
    obtain ⟨ow22, hF, hP, hD⟩ := nm_o (P := fun y => va_P D vwCl (wm_X4_tie cI cZ cO w_h c_h c_0 c_1 c_2 c_3 y oc) _) (B := fun y => va_D A (wm_X4_tie cI cZ cO w_h c_h c_0 c_1 c_2 c_3 y oc)) hF hP hD
    refine lv_aload_n hx hb dX4_tie_118 rfl (lv_at hl 0 rfl) ?_
    refine lv_iconst (v := 0) hx hb dX4_tie_119 (by decide) ?_
    refine va_put (D := D) (ci := 4) (v := .int 0) (ty := .int) (C := RX4) (T := TX4) (N := 16) hx hb hts in_X4 tyX4 tyX4_ok nmX4 hown hK hP hD hS 0 rfl rfl 13 (by decide) (hts _ wd_131) (fun _ h9 => h9) rfl (tyX4_ok 13 (by decide)) rfl rfl (Nat.le_of_ble_eq_true rfl) dX4_tie_120 (fun H locs hP hD hS => ?_)
    obtain ⟨ow23, hF, hP, hD⟩ := nm_o (P := fun y => va_P D vwCl (wm_X4_tie cI cZ cO w_h c_h c_0 c_1 c_2 c_3 y oc) _) (B := fun y => va_D A (wm_X4_tie cI cZ cO w_h c_h c_0 c_1 c_2 c_3 y oc)) hF hP hD
    exact hQ _ _ _ _ ow23 (Option.some.inj hF) hP hD hS dX4_tie_123
  · replace hF := of_t h2 hF
    exact hQ _ _ _ _ ow (Option.some.inj hF) hP hD hS dX4_tie_9

/-! ### ThreeLegs$Walk.beatBoth(I)V -/
abbrev wm_X4_beatBoth (cI cZ cO : ClassId) (w_h : Nat) (ow : Ob) : va_W := [(w_h, .inr (4, [.int (ow 0 0), .int (ow 1 0), .int (ow 2 0), .int (ow 3 0), .int (ow 4 0), .int (ow 5 0), .int (ow 6 0), .int (ow 7 0), .int (ow 8 0), .int (ow 9 0), .int (ow 10 0), .int (ow 11 0), .int (ow 12 0), .int (ow 13 0), .int (ow 14 0), .int (ow 15 0)]))]
def F_X4_beatBoth (ow : Ob) (p0 : Int32) : Option (Ob) :=
  dd (sO ow 0 (cst p0)) (fun (ow1 : Ob) => dd (sO ow1 1 (cst p0)) (fun (ow2 : Ob) => some ow2))
abbrev rm_X4_beatBoth : Room := { frames := 0, cells := 0, slots := 0, locals := 0 }
abbrev wu_X4_beatBoth : List Cond := .code yX4_beatBoth cX4_beatBoth 2 none :: lwG
set_option maxHeartbeats 20000000 in
set_option maxRecDepth 100000 in
theorem c_X4_beatBoth (l : Launch) (D : va_G) (cI cZ cO : ClassId) (w_h : Nat) (sz : Nat) (ow : Ob) (p0 : Int32) (q : Ob) (hF : F_X4_beatBoth ow p0 = some q) : CtV l yX4_beatBoth wu_X4_beatBoth rm_X4_beatBoth D vwCl (tyL cI cZ cO) [.ref w_h, .int p0] (wm_X4_beatBoth cI cZ cO w_h ow) sz 0 0 (fun u : Ob => u = q) (fun u => wm_X4_beatBoth cI cZ cO w_h u) := by
  refine mk_v (cc := cX4_beatBoth) (maxL := 2) (by decide) rfl (Nat.le_of_ble_eq_true rfl) ?_
  intro p e s m args below meth c A ls Q hx hb hml hown hts hin hK hP hD hS hA hl hQ
  have hl : lv_has ls 2 [(0, .ref w_h), (1, .int p0)] := hl
  unfold F_X4_beatBoth at hF
  refine lv_aload_n hx hb dX4_beatBoth_0 rfl (lv_at hl 0 rfl) ?_
  refine lv_iload_n hx hb dX4_beatBoth_1 rfl (lv_at hl 1 rfl) ?_
  refine va_put (D := D) (ci := 4) (v := .int p0) (ty := .int) (C := RX4) (T := TX4) (N := 16) hx hb hts in_X4 tyX4 tyX4_ok nmX4 hown hK hP hD hS 0 rfl rfl 0 (by decide) (hts _ wd_114) (fun _ h9 => h9) rfl (tyX4_ok 0 (by decide)) rfl rfl (Nat.le_of_ble_eq_true rfl) dX4_beatBoth_2 (fun H locs hP hD hS => ?_)
  obtain ⟨ow1, hF, hP, hD⟩ := nm_o (P := fun y => va_P D vwCl (wm_X4_beatBoth cI cZ cO w_h y) _) (B := fun y => va_D A (wm_X4_beatBoth cI cZ cO w_h y)) hF hP hD
  refine lv_aload_n hx hb dX4_beatBoth_5 rfl (lv_at hl 0 rfl) ?_
  refine lv_iload_n hx hb dX4_beatBoth_6 rfl (lv_at hl 1 rfl) ?_
  refine va_put (D := D) (ci := 4) (v := .int p0) (ty := .int) (C := RX4) (T := TX4) (N := 16) hx hb hts in_X4 tyX4 tyX4_ok nmX4 hown hK hP hD hS 0 rfl rfl 1 (by decide) (hts _ wd_115) (fun _ h9 => h9) rfl (tyX4_ok 1 (by decide)) rfl rfl (Nat.le_of_ble_eq_true rfl) dX4_beatBoth_7 (fun H locs hP hD hS => ?_)
  obtain ⟨ow2, hF, hP, hD⟩ := nm_o (P := fun y => va_P D vwCl (wm_X4_beatBoth cI cZ cO w_h y) _) (B := fun y => va_D A (wm_X4_beatBoth cI cZ cO w_h y)) hF hP hD
  exact hQ _ _ _ _ ow2 (Option.some.inj hF) hP hD hS dX4_beatBoth_10

/-! ### ThreeLegs$Walk.give(II)V -/
abbrev wm_X4_give (cI cZ cO : ClassId) (w_h : Nat) (ow : Ob) : va_W := [(w_h, .inr (4, [.int (ow 0 0), .int (ow 1 0), .int (ow 2 0), .int (ow 3 0), .int (ow 4 0), .int (ow 5 0), .int (ow 6 0), .int (ow 7 0), .int (ow 8 0), .int (ow 9 0), .int (ow 10 0), .int (ow 11 0), .int (ow 12 0), .int (ow 13 0), .int (ow 14 0), .int (ow 15 0)]))]
def F_X4_give (ow : Ob) (p0 : Int32) (p1 : Int32) : Option (Ob) :=
  dd (sO ow 2 (cst p0)) (fun (ow1 : Ob) => dd (sO ow1 3 (cst p1)) (fun (ow2 : Ob) => some ow2))
abbrev rm_X4_give : Room := { frames := 0, cells := 0, slots := 0, locals := 0 }
abbrev wu_X4_give : List Cond := .code yX4_give cX4_give 3 none :: lwG
set_option maxHeartbeats 20000000 in
set_option maxRecDepth 100000 in
theorem c_X4_give (l : Launch) (D : va_G) (cI cZ cO : ClassId) (w_h : Nat) (sz : Nat) (ow : Ob) (p0 : Int32) (p1 : Int32) (q : Ob) (hF : F_X4_give ow p0 p1 = some q) : CtV l yX4_give wu_X4_give rm_X4_give D vwCl (tyL cI cZ cO) [.ref w_h, .int p0, .int p1] (wm_X4_give cI cZ cO w_h ow) sz 0 0 (fun u : Ob => u = q) (fun u => wm_X4_give cI cZ cO w_h u) := by
  refine mk_v (cc := cX4_give) (maxL := 3) (by decide) rfl (Nat.le_of_ble_eq_true rfl) ?_
  intro p e s m args below meth c A ls Q hx hb hml hown hts hin hK hP hD hS hA hl hQ
  have hl : lv_has ls 3 [(0, .ref w_h), (1, .int p0), (2, .int p1)] := hl
  unfold F_X4_give at hF
  refine lv_aload_n hx hb dX4_give_0 rfl (lv_at hl 0 rfl) ?_
  refine lv_iload_n hx hb dX4_give_1 rfl (lv_at hl 1 rfl) ?_
  refine va_put (D := D) (ci := 4) (v := .int p0) (ty := .int) (C := RX4) (T := TX4) (N := 16) hx hb hts in_X4 tyX4 tyX4_ok nmX4 hown hK hP hD hS 0 rfl rfl 2 (by decide) (hts _ wd_116) (fun _ h9 => h9) rfl (tyX4_ok 2 (by decide)) rfl rfl (Nat.le_of_ble_eq_true rfl) dX4_give_2 (fun H locs hP hD hS => ?_)
  obtain ⟨ow1, hF, hP, hD⟩ := nm_o (P := fun y => va_P D vwCl (wm_X4_give cI cZ cO w_h y) _) (B := fun y => va_D A (wm_X4_give cI cZ cO w_h y)) hF hP hD
  refine lv_aload_n hx hb dX4_give_5 rfl (lv_at hl 0 rfl) ?_
  refine lv_iload_n hx hb dX4_give_6 rfl (lv_at hl 2 rfl) ?_
  refine va_put (D := D) (ci := 4) (v := .int p1) (ty := .int) (C := RX4) (T := TX4) (N := 16) hx hb hts in_X4 tyX4 tyX4_ok nmX4 hown hK hP hD hS 0 rfl rfl 3 (by decide) (hts _ wd_117) (fun _ h9 => h9) rfl (tyX4_ok 3 (by decide)) rfl rfl (Nat.le_of_ble_eq_true rfl) dX4_give_7 (fun H locs hP hD hS => ?_)
  obtain ⟨ow2, hF, hP, hD⟩ := nm_o (P := fun y => va_P D vwCl (wm_X4_give cI cZ cO w_h y) _) (B := fun y => va_D A (wm_X4_give cI cZ cO w_h y)) hF hP hD
  exact hQ _ _ _ _ ow2 (Option.some.inj hF) hP hD hS dX4_give_10

/-! ### ThreeLegs$Walk.speedUp()V -/
abbrev wm_X4_speedUp (cI cZ cO : ClassId) (w_h : Nat) (ow : Ob) : va_W := [(w_h, .inr (4, [.int (ow 0 0), .int (ow 1 0), .int (ow 2 0), .int (ow 3 0), .int (ow 4 0), .int (ow 5 0), .int (ow 6 0), .int (ow 7 0), .int (ow 8 0), .int (ow 9 0), .int (ow 10 0), .int (ow 11 0), .int (ow 12 0), .int (ow 13 0), .int (ow 14 0), .int (ow 15 0)]))]
def F_X4_speedUp (ow : Ob)  : Option (Ob) :=
  dd ((ow 0 0) - 1) (fun (v1 : Int32) => dd (if (4 : Int32) < v1 then v1 else (4 : Int32)) (fun (v2 : Int32) => dd (sO ow 0 (cst v2)) (fun (ow3 : Ob) => dd ((ow3 1 0) - 1) (fun (v4 : Int32) => dd (if (4 : Int32) < v4 then v4 else (4 : Int32)) (fun (v5 : Int32) => dd (sO ow3 1 (cst v5)) (fun (ow6 : Ob) => some ow6))))))
abbrev rm_X4_speedUp : Room := { frames := 1, cells := 0, slots := 0, locals := 21 }
abbrev wu_X4_speedUp : List Cond := .code yX4_speedUp cX4_speedUp 1 none :: lwG
set_option maxHeartbeats 20000000 in
set_option maxRecDepth 100000 in
theorem c_X4_speedUp (l : Launch) (D : va_G) (cI cZ cO : ClassId) (w_h : Nat) (sz : Nat) (ow : Ob)  (q : Ob) (hF : F_X4_speedUp ow = some q) : CtV l yX4_speedUp wu_X4_speedUp rm_X4_speedUp D vwCl (tyL cI cZ cO) [.ref w_h] (wm_X4_speedUp cI cZ cO w_h ow) sz 0 0 (fun u : Ob => u = q) (fun u => wm_X4_speedUp cI cZ cO w_h u) := by
  refine mk_v (cc := cX4_speedUp) (maxL := 1) (by decide) rfl (Nat.le_of_ble_eq_true rfl) ?_
  intro p e s m args below meth c A ls Q hx hb hml hown hts hin hK hP hD hS hA hl hQ
  have hl : lv_has ls 1 [(0, .ref w_h)] := hl
  unfold F_X4_speedUp at hF
  refine lv_aload_n hx hb dX4_speedUp_0 rfl (lv_at hl 0 rfl) ?_
  refine lv_iconst (v := 4) hx hb dX4_speedUp_1 (by decide) ?_
  refine lv_aload_n hx hb dX4_speedUp_2 rfl (lv_at hl 0 rfl) ?_
  refine va_get (D := D) (ci := 4) (v := .int (ow 0 0)) (C := RX4) (T := TX4) (N := 16) hx hb hts in_X4 hown hK hP 0 rfl rfl 0 (by decide) (hts _ wd_114) (fun _ h9 => h9) rfl dX4_speedUp_3 ?_
  refine lv_iconst (v := 1) hx hb dX4_speedUp_6 (by decide) ?_
  refine lv_isub hx hb dX4_speedUp_7 ?_
  refine lv_topi (fun v1 ev1 => ?_)
  replace hF := of_dd hF v1 ev1
  refine va_mmax hx hb (hml.trans hl.1.symm) hown (hts _ wd_310) (hts _ wd_311) (hts _ wd_41) (hts _ wd_312) (Nat.le_of_ble_eq_true rfl) (Nat.le_of_ble_eq_true rfl) (Nat.zero_le _) (Nat.zero_le _) dX4_speedUp_8 ?_
  refine lv_topi (fun v2 ev2 => ?_)
  replace hF := of_dd hF v2 ev2
  refine va_put (D := D) (ci := 4) (v := .int v2) (ty := .int) (C := RX4) (T := TX4) (N := 16) hx hb hts in_X4 tyX4 tyX4_ok nmX4 hown hK hP hD hS 0 rfl rfl 0 (by decide) (hts _ wd_114) (fun _ h9 => h9) rfl (tyX4_ok 0 (by decide)) rfl rfl (Nat.le_of_ble_eq_true rfl) dX4_speedUp_11 (fun H locs hP hD hS => ?_)
  obtain ⟨ow3, hF, hP, hD⟩ := nm_o (P := fun y => va_P D vwCl (wm_X4_speedUp cI cZ cO w_h y) _) (B := fun y => va_D A (wm_X4_speedUp cI cZ cO w_h y)) hF hP hD
  refine lv_aload_n hx hb dX4_speedUp_14 rfl (lv_at hl 0 rfl) ?_
  refine lv_iconst (v := 4) hx hb dX4_speedUp_15 (by decide) ?_
  refine lv_aload_n hx hb dX4_speedUp_16 rfl (lv_at hl 0 rfl) ?_
  refine va_get (D := D) (ci := 4) (v := .int (ow3 1 0)) (C := RX4) (T := TX4) (N := 16) hx hb hts in_X4 hown hK hP 0 rfl rfl 1 (by decide) (hts _ wd_115) (fun _ h9 => h9) rfl dX4_speedUp_17 ?_
  refine lv_iconst (v := 1) hx hb dX4_speedUp_20 (by decide) ?_
  refine lv_isub hx hb dX4_speedUp_21 ?_
  refine lv_topi (fun v4 ev4 => ?_)
  replace hF := of_dd hF v4 ev4
  refine va_mmax hx hb (hml.trans hl.1.symm) hown (hts _ wd_310) (hts _ wd_311) (hts _ wd_41) (hts _ wd_312) (Nat.le_of_ble_eq_true rfl) (Nat.le_of_ble_eq_true rfl) (Nat.zero_le _) (Nat.zero_le _) dX4_speedUp_22 ?_
  refine lv_topi (fun v5 ev5 => ?_)
  replace hF := of_dd hF v5 ev5
  refine va_put (D := D) (ci := 4) (v := .int v5) (ty := .int) (C := RX4) (T := TX4) (N := 16) hx hb hts in_X4 tyX4 tyX4_ok nmX4 hown hK hP hD hS 0 rfl rfl 1 (by decide) (hts _ wd_115) (fun _ h9 => h9) rfl (tyX4_ok 1 (by decide)) rfl rfl (Nat.le_of_ble_eq_true rfl) dX4_speedUp_25 (fun H locs hP hD hS => ?_)
  obtain ⟨ow6, hF, hP, hD⟩ := nm_o (P := fun y => va_P D vwCl (wm_X4_speedUp cI cZ cO w_h y) _) (B := fun y => va_D A (wm_X4_speedUp cI cZ cO w_h y)) hF hP hD
  exact hQ _ _ _ _ ow6 (Option.some.inj hF) hP hD hS dX4_speedUp_28

/-! ### ThreeLegs$Walk.time()I -/
abbrev wm_X4_time (cI cZ cO : ClassId) (w_h : Nat) (ow : Ob) : va_W := [(w_h, .inr (4, [.int (ow 0 0), .int (ow 1 0), .int (ow 2 0), .int (ow 3 0), .int (ow 4 0), .int (ow 5 0), .int (ow 6 0), .int (ow 7 0), .int (ow 8 0), .int (ow 9 0), .int (ow 10 0), .int (ow 11 0), .int (ow 12 0), .int (ow 13 0), .int (ow 14 0), .int (ow 15 0)]))]
def F_X4_time (ow : Ob)  : Option (Int32) :=
  dd (if (ow 8 0) < (ow 9 0) then (ow 9 0) else (ow 8 0)) (fun (v1 : Int32) => some v1)
abbrev rm_X4_time : Room := { frames := 1, cells := 0, slots := 0, locals := 21 }
abbrev wu_X4_time : List Cond := .code yX4_time cX4_time 1 (some .int) :: lwG
set_option maxHeartbeats 20000000 in
set_option maxRecDepth 100000 in
theorem c_X4_time (l : Launch) (D : va_G) (cI cZ cO : ClassId) (w_h : Nat) (sz : Nat) (ow : Ob)  (q : Int32) (hF : F_X4_time ow = some q) : CtI l yX4_time wu_X4_time rm_X4_time D vwCl (tyL cI cZ cO) [.ref w_h] (wm_X4_time cI cZ cO w_h ow) sz 0 0 (fun (r : Int32) (u : Unit) => r = q ∧ u = ()) (fun u => wm_X4_time cI cZ cO w_h ow) := by
  refine mk_i (cc := cX4_time) (maxL := 1) (by decide) rfl (Nat.le_of_ble_eq_true rfl) ?_
  intro p e s m args below meth c A ls Q hx hb hml hown hts hin hK hP hD hS hA hl hQ
  have hl : lv_has ls 1 [(0, .ref w_h)] := hl
  unfold F_X4_time at hF
  refine lv_aload_n hx hb dX4_time_0 rfl (lv_at hl 0 rfl) ?_
  refine va_get (D := D) (ci := 4) (v := .int (ow 8 0)) (C := RX4) (T := TX4) (N := 16) hx hb hts in_X4 hown hK hP 0 rfl rfl 8 (by decide) (hts _ wd_123) (fun _ h9 => h9) rfl dX4_time_1 ?_
  refine lv_aload_n hx hb dX4_time_4 rfl (lv_at hl 0 rfl) ?_
  refine va_get (D := D) (ci := 4) (v := .int (ow 9 0)) (C := RX4) (T := TX4) (N := 16) hx hb hts in_X4 hown hK hP 0 rfl rfl 9 (by decide) (hts _ wd_124) (fun _ h9 => h9) rfl dX4_time_5 ?_
  refine va_mmax hx hb (hml.trans hl.1.symm) hown (hts _ wd_310) (hts _ wd_311) (hts _ wd_41) (hts _ wd_312) (Nat.le_of_ble_eq_true rfl) (Nat.le_of_ble_eq_true rfl) (Nat.zero_le _) (Nat.zero_le _) dX4_time_8 ?_
  refine lv_topi (fun v1 ev1 => ?_)
  replace hF := of_dd hF v1 ev1
  exact hQ _ _ _ _ _ () ⟨Option.some.inj hF, rfl⟩ hP hD hS dX4_time_11

/-! ### ThreeLegs$Walk.apart()I -/
abbrev wm_X4_apart (cI cZ cO : ClassId) (w_h : Nat) (ow : Ob) : va_W := [(w_h, .inr (4, [.int (ow 0 0), .int (ow 1 0), .int (ow 2 0), .int (ow 3 0), .int (ow 4 0), .int (ow 5 0), .int (ow 6 0), .int (ow 7 0), .int (ow 8 0), .int (ow 9 0), .int (ow 10 0), .int (ow 11 0), .int (ow 12 0), .int (ow 13 0), .int (ow 14 0), .int (ow 15 0)]))]
def F_X4_apart (ow : Ob)  : Option (Int32) :=
  dd ((ow 8 0) - (ow 9 0)) (fun (v1 : Int32) => dd (if 0 ≤ v1 then v1 else 0 - v1) (fun (v2 : Int32) => some v2))
abbrev rm_X4_apart : Room := { frames := 1, cells := 0, slots := 0, locals := 21 }
abbrev wu_X4_apart : List Cond := .code yX4_apart cX4_apart 1 (some .int) :: lwG
set_option maxHeartbeats 20000000 in
set_option maxRecDepth 100000 in
theorem c_X4_apart (l : Launch) (D : va_G) (cI cZ cO : ClassId) (w_h : Nat) (sz : Nat) (ow : Ob)  (q : Int32) (hF : F_X4_apart ow = some q) : CtI l yX4_apart wu_X4_apart rm_X4_apart D vwCl (tyL cI cZ cO) [.ref w_h] (wm_X4_apart cI cZ cO w_h ow) sz 0 0 (fun (r : Int32) (u : Unit) => r = q ∧ u = ()) (fun u => wm_X4_apart cI cZ cO w_h ow) := by
  refine mk_i (cc := cX4_apart) (maxL := 1) (by decide) rfl (Nat.le_of_ble_eq_true rfl) ?_
  intro p e s m args below meth c A ls Q hx hb hml hown hts hin hK hP hD hS hA hl hQ
  have hl : lv_has ls 1 [(0, .ref w_h)] := hl
  unfold F_X4_apart at hF
  refine lv_aload_n hx hb dX4_apart_0 rfl (lv_at hl 0 rfl) ?_
  refine va_get (D := D) (ci := 4) (v := .int (ow 8 0)) (C := RX4) (T := TX4) (N := 16) hx hb hts in_X4 hown hK hP 0 rfl rfl 8 (by decide) (hts _ wd_123) (fun _ h9 => h9) rfl dX4_apart_1 ?_
  refine lv_aload_n hx hb dX4_apart_4 rfl (lv_at hl 0 rfl) ?_
  refine va_get (D := D) (ci := 4) (v := .int (ow 9 0)) (C := RX4) (T := TX4) (N := 16) hx hb hts in_X4 hown hK hP 0 rfl rfl 9 (by decide) (hts _ wd_124) (fun _ h9 => h9) rfl dX4_apart_5 ?_
  refine lv_isub hx hb dX4_apart_8 ?_
  refine lv_topi (fun v1 ev1 => ?_)
  replace hF := of_dd hF v1 ev1
  refine va_mabs hx hb (hml.trans hl.1.symm) hown (hts _ wd_317) (hts _ wd_318) (hts _ wd_41) (hts _ wd_319) (Nat.le_of_ble_eq_true rfl) (Nat.le_of_ble_eq_true rfl) (Nat.zero_le _) (Nat.zero_le _) dX4_apart_9 ?_
  refine lv_topi (fun v2 ev2 => ?_)
  replace hF := of_dd hF v2 ev2
  exact hQ _ _ _ _ _ () ⟨Option.some.inj hF, rfl⟩ hP hD hS dX4_apart_12

/-! ### ThreeLegs$Walk.step()V -/
abbrev wm_X4_step (cI cZ cO : ClassId) (w_h : Nat) (ow : Ob) : va_W := [(w_h, .inr (4, [.int (ow 0 0), .int (ow 1 0), .int (ow 2 0), .int (ow 3 0), .int (ow 4 0), .int (ow 5 0), .int (ow 6 0), .int (ow 7 0), .int (ow 8 0), .int (ow 9 0), .int (ow 10 0), .int (ow 11 0), .int (ow 12 0), .int (ow 13 0), .int (ow 14 0), .int (ow 15 0)]))]
def F_X4_step (ow : Ob)  : Option (Ob) :=
  dd ((ow 9 0) - (ow 8 0)) (fun (v1 : Int32) => dd ((ow 2 0) * v1) (fun (v2 : Int32) => dd (v2 / 4) (fun (v3 : Int32) => dd ((ow 0 0) + v3) (fun (v4 : Int32) => dd (if (1 : Int32) < v4 then v4 else (1 : Int32)) (fun (v5 : Int32) => dd ((ow 8 0) + v5) (fun (v6 : Int32) => dd ((ow 8 0) - (ow 9 0)) (fun (v7 : Int32) => dd ((ow 3 0) * v7) (fun (v8 : Int32) => dd (v8 / 4) (fun (v9 : Int32) => dd ((ow 1 0) + v9) (fun (v10 : Int32) => dd (if (1 : Int32) < v10 then v10 else (1 : Int32)) (fun (v11 : Int32) => dd ((ow 9 0) + v11) (fun (v12 : Int32) => dd (sO ow 8 (cst v6)) (fun (ow13 : Ob) => dd (sO ow13 9 (cst v12)) (fun (ow14 : Ob) => jn (fun (v16 : Int32) => gz v16 (dd (sO ow14 15 (cst v16)) (fun (ow18 : Ob) => dd ((ow18 10 0) + 1) (fun (v19 : Int32) => dd (sO ow18 10 (cst v19)) (fun (ow20 : Ob) => (F_X4_apart ow20).bind (fun q21 => (if q21 ≤ (ow20 6 0) then (F_X4_apart ow20).bind (fun q23 => (if q23 ≤ (ow20 5 0) then dd ((ow20 11 0) + (ow20 4 0)) (fun (v25 : Int32) => dd (sO ow20 11 (cst v25)) (fun (ow26 : Ob) => dd (sO ow26 14 (cst 115)) (fun (ow27 : Ob) => some ow27))) else dd ((ow20 12 0) + 1) (fun (v28 : Int32) => dd (sO ow20 12 (cst v28)) (fun (ow29 : Ob) => dd (sO ow29 14 (cst 108)) (fun (ow30 : Ob) => some ow30))))) else dd ((ow20 13 0) + 1) (fun (v31 : Int32) => dd (sO ow20 13 (cst v31)) (fun (ow32 : Ob) => dd (sO ow32 14 (cst 102)) (fun (ow33 : Ob) => dd (if v6 < v12 then v12 else v6) (fun (v34 : Int32) => dd (v34 + (ow33 7 0)) (fun (v35 : Int32) => dd (sO ow33 8 (cst v35)) (fun (ow36 : Ob) => dd (sO ow36 9 (cst (ow36 8 0))) (fun (ow37 : Ob) => some ow37)))))))))))))) (fun (K15 : Int32 → Option (Ob)) => (if v12 ≤ v6 then K15 0 else K15 1))))))))))))))))
abbrev rm_X4_step : Room := { frames := 2, cells := 0, slots := 0, locals := 41 }
abbrev wu_X4_step : List Cond := .code yX4_step cX4_step 3 none :: lwG
set_option maxHeartbeats 20000000 in
set_option maxRecDepth 100000 in
theorem c_X4_step (l : Launch) (D : va_G) (cI cZ cO : ClassId) (w_h : Nat) (sz : Nat) (ow : Ob)  (q : Ob) (hF : F_X4_step ow = some q) : CtV l yX4_step wu_X4_step rm_X4_step D vwCl (tyL cI cZ cO) [.ref w_h] (wm_X4_step cI cZ cO w_h ow) sz 0 0 (fun u : Ob => u = q) (fun u => wm_X4_step cI cZ cO w_h u) := by
  refine mk_v (cc := cX4_step) (maxL := 3) (by decide) rfl (Nat.le_of_ble_eq_true rfl) ?_
  intro p e s m args below meth c A ls Q hx hb hml hown hts hin hK hP hD hS hA hl hQ
  have hl : lv_has ls 3 [(0, .ref w_h)] := hl
  unfold F_X4_step at hF
  refine lv_aload_n hx hb dX4_step_0 rfl (lv_at hl 0 rfl) ?_
  refine va_get (D := D) (ci := 4) (v := .int (ow 8 0)) (C := RX4) (T := TX4) (N := 16) hx hb hts in_X4 hown hK hP 0 rfl rfl 8 (by decide) (hts _ wd_123) (fun _ h9 => h9) rfl dX4_step_1 ?_
  refine lv_iconst (v := 1) hx hb dX4_step_4 (by decide) ?_
  refine lv_aload_n hx hb dX4_step_5 rfl (lv_at hl 0 rfl) ?_
  refine va_get (D := D) (ci := 4) (v := .int (ow 0 0)) (C := RX4) (T := TX4) (N := 16) hx hb hts in_X4 hown hK hP 0 rfl rfl 0 (by decide) (hts _ wd_114) (fun _ h9 => h9) rfl dX4_step_6 ?_
  refine lv_aload_n hx hb dX4_step_9 rfl (lv_at hl 0 rfl) ?_
  refine va_get (D := D) (ci := 4) (v := .int (ow 2 0)) (C := RX4) (T := TX4) (N := 16) hx hb hts in_X4 hown hK hP 0 rfl rfl 2 (by decide) (hts _ wd_116) (fun _ h9 => h9) rfl dX4_step_10 ?_
  refine lv_aload_n hx hb dX4_step_13 rfl (lv_at hl 0 rfl) ?_
  refine va_get (D := D) (ci := 4) (v := .int (ow 9 0)) (C := RX4) (T := TX4) (N := 16) hx hb hts in_X4 hown hK hP 0 rfl rfl 9 (by decide) (hts _ wd_124) (fun _ h9 => h9) rfl dX4_step_14 ?_
  refine lv_aload_n hx hb dX4_step_17 rfl (lv_at hl 0 rfl) ?_
  refine va_get (D := D) (ci := 4) (v := .int (ow 8 0)) (C := RX4) (T := TX4) (N := 16) hx hb hts in_X4 hown hK hP 0 rfl rfl 8 (by decide) (hts _ wd_123) (fun _ h9 => h9) rfl dX4_step_18 ?_
  refine lv_isub hx hb dX4_step_21 ?_
  refine lv_topi (fun v1 ev1 => ?_)
  replace hF := of_dd hF v1 ev1
  refine lv_imul hx hb dX4_step_22 ?_
  refine lv_topi (fun v2 ev2 => ?_)
  replace hF := of_dd hF v2 ev2
  refine lv_iconst (v := 4) hx hb dX4_step_23 (by decide) ?_
  refine lv_idiv hx hb dX4_step_24 (by decide) ?_
  refine lv_topi (fun v3 ev3 => ?_)
  replace hF := of_dd hF v3 ev3
  refine lv_iadd hx hb dX4_step_25 ?_
  refine lv_topi (fun v4 ev4 => ?_)
  replace hF := of_dd hF v4 ev4
  refine va_mmax hx hb (hml.trans hl.1.symm) hown (hts _ wd_310) (hts _ wd_311) (hts _ wd_41) (hts _ wd_312) (Nat.le_of_ble_eq_true rfl) (Nat.le_of_ble_eq_true rfl) (Nat.zero_le _) (Nat.zero_le _) dX4_step_26 ?_
  refine lv_topi (fun v5 ev5 => ?_)
  replace hF := of_dd hF v5 ev5
  refine lv_iadd hx hb dX4_step_29 ?_
  refine lv_topi (fun v6 ev6 => ?_)
  replace hF := of_dd hF v6 ev6
  refine lv_istore_n (lv' := [(1, .int v6), (0, .ref w_h)]) hx hb dX4_step_30 rfl hl (by decide) rfl (fun ls hl => ?_)
  refine lv_aload_n hx hb dX4_step_31 rfl (lv_at hl 1 rfl) ?_
  refine va_get (D := D) (ci := 4) (v := .int (ow 9 0)) (C := RX4) (T := TX4) (N := 16) hx hb hts in_X4 hown hK hP 0 rfl rfl 9 (by decide) (hts _ wd_124) (fun _ h9 => h9) rfl dX4_step_32 ?_
  refine lv_iconst (v := 1) hx hb dX4_step_35 (by decide) ?_
  refine lv_aload_n hx hb dX4_step_36 rfl (lv_at hl 1 rfl) ?_
  refine va_get (D := D) (ci := 4) (v := .int (ow 1 0)) (C := RX4) (T := TX4) (N := 16) hx hb hts in_X4 hown hK hP 0 rfl rfl 1 (by decide) (hts _ wd_115) (fun _ h9 => h9) rfl dX4_step_37 ?_
  refine lv_aload_n hx hb dX4_step_40 rfl (lv_at hl 1 rfl) ?_
  refine va_get (D := D) (ci := 4) (v := .int (ow 3 0)) (C := RX4) (T := TX4) (N := 16) hx hb hts in_X4 hown hK hP 0 rfl rfl 3 (by decide) (hts _ wd_117) (fun _ h9 => h9) rfl dX4_step_41 ?_
  refine lv_aload_n hx hb dX4_step_44 rfl (lv_at hl 1 rfl) ?_
  refine va_get (D := D) (ci := 4) (v := .int (ow 8 0)) (C := RX4) (T := TX4) (N := 16) hx hb hts in_X4 hown hK hP 0 rfl rfl 8 (by decide) (hts _ wd_123) (fun _ h9 => h9) rfl dX4_step_45 ?_
  refine lv_aload_n hx hb dX4_step_48 rfl (lv_at hl 1 rfl) ?_
  refine va_get (D := D) (ci := 4) (v := .int (ow 9 0)) (C := RX4) (T := TX4) (N := 16) hx hb hts in_X4 hown hK hP 0 rfl rfl 9 (by decide) (hts _ wd_124) (fun _ h9 => h9) rfl dX4_step_49 ?_
  refine lv_isub hx hb dX4_step_52 ?_
  refine lv_topi (fun v7 ev7 => ?_)
  replace hF := of_dd hF v7 ev7
  refine lv_imul hx hb dX4_step_53 ?_
  refine lv_topi (fun v8 ev8 => ?_)
  replace hF := of_dd hF v8 ev8
  refine lv_iconst (v := 4) hx hb dX4_step_54 (by decide) ?_
  refine lv_idiv hx hb dX4_step_55 (by decide) ?_
  refine lv_topi (fun v9 ev9 => ?_)
  replace hF := of_dd hF v9 ev9
  refine lv_iadd hx hb dX4_step_56 ?_
  refine lv_topi (fun v10 ev10 => ?_)
  replace hF := of_dd hF v10 ev10
  refine va_mmax hx hb (hml.trans hl.1.symm) hown (hts _ wd_310) (hts _ wd_311) (hts _ wd_41) (hts _ wd_312) (Nat.le_of_ble_eq_true rfl) (Nat.le_of_ble_eq_true rfl) (Nat.zero_le _) (Nat.zero_le _) dX4_step_57 ?_
  refine lv_topi (fun v11 ev11 => ?_)
  replace hF := of_dd hF v11 ev11
  refine lv_iadd hx hb dX4_step_60 ?_
  refine lv_topi (fun v12 ev12 => ?_)
  replace hF := of_dd hF v12 ev12
  refine lv_istore_n (lv' := [(2, .int v12), (1, .int v6), (0, .ref w_h)]) hx hb dX4_step_61 rfl hl (by decide) rfl (fun ls hl => ?_)
  refine lv_aload_n hx hb dX4_step_62 rfl (lv_at hl 2 rfl) ?_
  refine lv_iload_n hx hb dX4_step_63 rfl (lv_at hl 1 rfl) ?_
  refine va_put (D := D) (ci := 4) (v := .int v6) (ty := .int) (C := RX4) (T := TX4) (N := 16) hx hb hts in_X4 tyX4 tyX4_ok nmX4 hown hK hP hD hS 0 rfl rfl 8 (by decide) (hts _ wd_123) (fun _ h9 => h9) rfl (tyX4_ok 8 (by decide)) rfl rfl (Nat.le_of_ble_eq_true rfl) dX4_step_64 (fun H locs hP hD hS => ?_)
  obtain ⟨ow13, hF, hP, hD⟩ := nm_o (P := fun y => va_P D vwCl (wm_X4_step cI cZ cO w_h y) _) (B := fun y => va_D A (wm_X4_step cI cZ cO w_h y)) hF hP hD
  refine lv_aload_n hx hb dX4_step_67 rfl (lv_at hl 2 rfl) ?_
  refine lv_iload_n hx hb dX4_step_68 rfl (lv_at hl 0 rfl) ?_
  refine va_put (D := D) (ci := 4) (v := .int v12) (ty := .int) (C := RX4) (T := TX4) (N := 16) hx hb hts in_X4 tyX4 tyX4_ok nmX4 hown hK hP hD hS 0 rfl rfl 9 (by decide) (hts _ wd_124) (fun _ h9 => h9) rfl (tyX4_ok 9 (by decide)) rfl rfl (Nat.le_of_ble_eq_true rfl) dX4_step_69 (fun H locs hP hD hS => ?_)
  obtain ⟨ow14, hF, hP, hD⟩ := nm_o (P := fun y => va_P D vwCl (wm_X4_step cI cZ cO w_h y) _) (B := fun y => va_D A (wm_X4_step cI cZ cO w_h y)) hF hP hD
  refine lv_aload_n hx hb dX4_step_72 rfl (lv_at hl 2 rfl) ?_
  refine lv_iload_n hx hb dX4_step_73 rfl (lv_at hl 1 rfl) ?_
  refine lv_iload_n hx hb dX4_step_74 rfl (lv_at hl 0 rfl) ?_
  obtain ⟨K15, eK15, hF⟩ := of_jn hF
  have hK15 : ∀ (v16 : Int32) (ls : Array Slot) (H : Heap) (locs : List Loc), lv_has ls 3 [(0, .ref w_h), (1, .int v6), (2, .int v12)] → va_P D vwCl (wm_X4_step cI cZ cO w_h ow14) H → va_D A (wm_X4_step cI cZ cO w_h ow14) → va_S A s.heap H locs → K15 v16 = some q → W p l e rm_X4_step s m args below meth c H locs 0 0 Q (F0 m 83 ls [.int v16, .ref w_h]) := by
    intro v16 ls H locs hl hP hD hS hF
    subst eK15
    obtain ⟨hz17, hF⟩ := of_gz hF
    refine va_put (D := D) (ci := 4) (v := .int v16) (ty := .boolean) (C := RX4) (T := TX4) (N := 16) hx hb hts in_X4 tyX4 tyX4_ok nmX4 hown hK hP hD hS 0 rfl rfl 15 (by decide) (hts _ wd_135) (fun _ h9 => h9) rfl (tyX4_ok 15 (by decide)) hz17.1 hz17.2 (Nat.le_of_ble_eq_true rfl) dX4_step_83 (fun H locs hP hD hS => ?_)
    obtain ⟨ow18, hF, hP, hD⟩ := nm_o (P := fun y => va_P D vwCl (wm_X4_step cI cZ cO w_h y) _) (B := fun y => va_D A (wm_X4_step cI cZ cO w_h y)) hF hP hD
    refine lv_aload_n hx hb dX4_step_86 rfl (lv_at hl 0 rfl) ?_
    refine lv_dup hx hb dX4_step_87 rfl ?_
    refine va_get (D := D) (ci := 4) (v := .int (ow18 10 0)) (C := RX4) (T := TX4) (N := 16) hx hb hts in_X4 hown hK hP 0 rfl rfl 10 (by decide) (hts _ wd_125) (fun _ h9 => h9) rfl dX4_step_88 ?_
    refine lv_iconst (v := 1) hx hb dX4_step_91 (by decide) ?_
    refine lv_iadd hx hb dX4_step_92 ?_
    refine lv_topi (fun v19 ev19 => ?_)
    replace hF := of_dd hF v19 ev19
    refine va_put (D := D) (ci := 4) (v := .int v19) (ty := .int) (C := RX4) (T := TX4) (N := 16) hx hb hts in_X4 tyX4 tyX4_ok nmX4 hown hK hP hD hS 0 rfl rfl 10 (by decide) (hts _ wd_125) (fun _ h9 => h9) rfl (tyX4_ok 10 (by decide)) rfl rfl (Nat.le_of_ble_eq_true rfl) dX4_step_93 (fun H locs hP hD hS => ?_)
    obtain ⟨ow20, hF, hP, hD⟩ := nm_o (P := fun y => va_P D vwCl (wm_X4_step cI cZ cO w_h y) _) (B := fun y => va_D A (wm_X4_step cI cZ cO w_h y)) hF hP hD
    refine lv_aload_n hx hb dX4_step_96 rfl (lv_at hl 0 rfl) ?_
    obtain ⟨q21, hGq21, hF⟩ := of_bind hF
    refine callVi (As := []) (rest := []) (wr := []) (WN := wm_X4_step cI cZ cO w_h ow20) ⟨hx, hb, hml, hown, hts⟩ hK hP hD hS hA [0] [] [0] (c_X4_apart l D cI cZ cO w_h _ ow20 q21 hGq21) (cwV 0 hts (gV wd_313 wd_314 wd_315 wd_36 wd_316) rfl rfl rfl (by decide +kernel) ⟨Nat.le_of_ble_eq_true rfl, Nat.le_of_ble_eq_true rfl⟩) 0 4 rfl rfl rfl rfl rfl rfl rfl (by decide) rfl rfl rfl hl.1 rfl (Nat.le_of_ble_eq_true rfl) dX4_step_97 ⟨Nat.zero_le _, Nat.zero_le _⟩ (fun H locs hP hD hS => ?_)
    refine lv_aload_n hx hb dX4_step_100 rfl (lv_at hl 0 rfl) ?_
    refine va_get (D := D) (ci := 4) (v := .int (ow20 6 0)) (C := RX4) (T := TX4) (N := 16) hx hb hts in_X4 hown hK hP 0 rfl rfl 6 (by decide) (hts _ wd_121) (fun _ h9 => h9) rfl dX4_step_101 ?_
    refine lv_icmp_le (tgt := 148) hx hb dX4_step_104 (by decide) (fun h22 => ?_) (fun h22 => ?_)
    · replace hF := of_t h22 hF
      refine lv_aload_n hx hb dX4_step_148 rfl (lv_at hl 0 rfl) ?_
      obtain ⟨q23, hGq23, hF⟩ := of_bind hF
      refine callVi (As := []) (rest := []) (wr := []) (WN := wm_X4_step cI cZ cO w_h ow20) ⟨hx, hb, hml, hown, hts⟩ hK hP hD hS hA [0] [] [0] (c_X4_apart l D cI cZ cO w_h _ ow20 q23 hGq23) (cwV 0 hts (gV wd_313 wd_314 wd_315 wd_36 wd_316) rfl rfl rfl (by decide +kernel) ⟨Nat.le_of_ble_eq_true rfl, Nat.le_of_ble_eq_true rfl⟩) 0 4 rfl rfl rfl rfl rfl rfl rfl (by decide) rfl rfl rfl hl.1 rfl (Nat.le_of_ble_eq_true rfl) dX4_step_149 ⟨Nat.zero_le _, Nat.zero_le _⟩ (fun H locs hP hD hS => ?_)
      refine lv_aload_n hx hb dX4_step_152 rfl (lv_at hl 0 rfl) ?_
      refine va_get (D := D) (ci := 4) (v := .int (ow20 5 0)) (C := RX4) (T := TX4) (N := 16) hx hb hts in_X4 hown hK hP 0 rfl rfl 5 (by decide) (hts _ wd_119) (fun _ h9 => h9) rfl dX4_step_153 ?_
      refine lv_icmp_le (tgt := 178) hx hb dX4_step_156 (by decide) (fun h24 => ?_) (fun h24 => ?_)
      · replace hF := of_t h24 hF
        refine lv_aload_n hx hb dX4_step_178 rfl (lv_at hl 0 rfl) ?_
        refine lv_dup hx hb dX4_step_179 rfl ?_
        refine va_get (D := D) (ci := 4) (v := .int (ow20 11 0)) (C := RX4) (T := TX4) (N := 16) hx hb hts in_X4 hown hK hP 0 rfl rfl 11 (by decide) (hts _ wd_127) (fun _ h9 => h9) rfl dX4_step_180 ?_
        refine lv_aload_n hx hb dX4_step_183 rfl (lv_at hl 0 rfl) ?_
        refine va_get (D := D) (ci := 4) (v := .int (ow20 4 0)) (C := RX4) (T := TX4) (N := 16) hx hb hts in_X4 hown hK hP 0 rfl rfl 4 (by decide) (hts _ wd_118) (fun _ h9 => h9) rfl dX4_step_184 ?_
        refine lv_iadd hx hb dX4_step_187 ?_
        refine lv_topi (fun v25 ev25 => ?_)
        replace hF := of_dd hF v25 ev25
        refine va_put (D := D) (ci := 4) (v := .int v25) (ty := .int) (C := RX4) (T := TX4) (N := 16) hx hb hts in_X4 tyX4 tyX4_ok nmX4 hown hK hP hD hS 0 rfl rfl 11 (by decide) (hts _ wd_127) (fun _ h9 => h9) rfl (tyX4_ok 11 (by decide)) rfl rfl (Nat.le_of_ble_eq_true rfl) dX4_step_188 (fun H locs hP hD hS => ?_)
        obtain ⟨ow26, hF, hP, hD⟩ := nm_o (P := fun y => va_P D vwCl (wm_X4_step cI cZ cO w_h y) _) (B := fun y => va_D A (wm_X4_step cI cZ cO w_h y)) hF hP hD
        refine lv_aload_n hx hb dX4_step_191 rfl (lv_at hl 0 rfl) ?_
        refine lv_bipush (v := 115) hx hb dX4_step_192 (by decide) ?_
        refine va_put (D := D) (ci := 4) (v := .int 115) (ty := .char) (C := RX4) (T := TX4) (N := 16) hx hb hts in_X4 tyX4 tyX4_ok nmX4 hown hK hP hD hS 0 rfl rfl 14 (by decide) (hts _ wd_133) (fun _ h9 => h9) rfl (tyX4_ok 14 (by decide)) rfl rfl (Nat.le_of_ble_eq_true rfl) dX4_step_194 (fun H locs hP hD hS => ?_)
        obtain ⟨ow27, hF, hP, hD⟩ := nm_o (P := fun y => va_P D vwCl (wm_X4_step cI cZ cO w_h y) _) (B := fun y => va_D A (wm_X4_step cI cZ cO w_h y)) hF hP hD
        exact hQ _ _ _ _ ow27 (Option.some.inj hF) hP hD hS dX4_step_197
      · replace hF := of_f h24 hF
        refine lv_aload_n hx hb dX4_step_159 rfl (lv_at hl 0 rfl) ?_
        refine lv_dup hx hb dX4_step_160 rfl ?_
        refine va_get (D := D) (ci := 4) (v := .int (ow20 12 0)) (C := RX4) (T := TX4) (N := 16) hx hb hts in_X4 hown hK hP 0 rfl rfl 12 (by decide) (hts _ wd_129) (fun _ h9 => h9) rfl dX4_step_161 ?_
        refine lv_iconst (v := 1) hx hb dX4_step_164 (by decide) ?_
        refine lv_iadd hx hb dX4_step_165 ?_
        refine lv_topi (fun v28 ev28 => ?_)
        replace hF := of_dd hF v28 ev28
        refine va_put (D := D) (ci := 4) (v := .int v28) (ty := .int) (C := RX4) (T := TX4) (N := 16) hx hb hts in_X4 tyX4 tyX4_ok nmX4 hown hK hP hD hS 0 rfl rfl 12 (by decide) (hts _ wd_129) (fun _ h9 => h9) rfl (tyX4_ok 12 (by decide)) rfl rfl (Nat.le_of_ble_eq_true rfl) dX4_step_166 (fun H locs hP hD hS => ?_)
        obtain ⟨ow29, hF, hP, hD⟩ := nm_o (P := fun y => va_P D vwCl (wm_X4_step cI cZ cO w_h y) _) (B := fun y => va_D A (wm_X4_step cI cZ cO w_h y)) hF hP hD
        refine lv_aload_n hx hb dX4_step_169 rfl (lv_at hl 0 rfl) ?_
        refine lv_bipush (v := 108) hx hb dX4_step_170 (by decide) ?_
        refine va_put (D := D) (ci := 4) (v := .int 108) (ty := .char) (C := RX4) (T := TX4) (N := 16) hx hb hts in_X4 tyX4 tyX4_ok nmX4 hown hK hP hD hS 0 rfl rfl 14 (by decide) (hts _ wd_133) (fun _ h9 => h9) rfl (tyX4_ok 14 (by decide)) rfl rfl (Nat.le_of_ble_eq_true rfl) dX4_step_172 (fun H locs hP hD hS => ?_)
        obtain ⟨ow30, hF, hP, hD⟩ := nm_o (P := fun y => va_P D vwCl (wm_X4_step cI cZ cO w_h y) _) (B := fun y => va_D A (wm_X4_step cI cZ cO w_h y)) hF hP hD
        refine lv_goto (tgt := 197) hx hb dX4_step_175 (by decide) ?_
        exact hQ _ _ _ _ ow30 (Option.some.inj hF) hP hD hS dX4_step_197
    · replace hF := of_f h22 hF
      refine lv_aload_n hx hb dX4_step_107 rfl (lv_at hl 0 rfl) ?_
      refine lv_dup hx hb dX4_step_108 rfl ?_
      refine va_get (D := D) (ci := 4) (v := .int (ow20 13 0)) (C := RX4) (T := TX4) (N := 16) hx hb hts in_X4 hown hK hP 0 rfl rfl 13 (by decide) (hts _ wd_131) (fun _ h9 => h9) rfl dX4_step_109 ?_
      refine lv_iconst (v := 1) hx hb dX4_step_112 (by decide) ?_
      refine lv_iadd hx hb dX4_step_113 ?_
      refine lv_topi (fun v31 ev31 => ?_)
      replace hF := of_dd hF v31 ev31
      refine va_put (D := D) (ci := 4) (v := .int v31) (ty := .int) (C := RX4) (T := TX4) (N := 16) hx hb hts in_X4 tyX4 tyX4_ok nmX4 hown hK hP hD hS 0 rfl rfl 13 (by decide) (hts _ wd_131) (fun _ h9 => h9) rfl (tyX4_ok 13 (by decide)) rfl rfl (Nat.le_of_ble_eq_true rfl) dX4_step_114 (fun H locs hP hD hS => ?_)
      obtain ⟨ow32, hF, hP, hD⟩ := nm_o (P := fun y => va_P D vwCl (wm_X4_step cI cZ cO w_h y) _) (B := fun y => va_D A (wm_X4_step cI cZ cO w_h y)) hF hP hD
      refine lv_aload_n hx hb dX4_step_117 rfl (lv_at hl 0 rfl) ?_
      refine lv_bipush (v := 102) hx hb dX4_step_118 (by decide) ?_
      refine va_put (D := D) (ci := 4) (v := .int 102) (ty := .char) (C := RX4) (T := TX4) (N := 16) hx hb hts in_X4 tyX4 tyX4_ok nmX4 hown hK hP hD hS 0 rfl rfl 14 (by decide) (hts _ wd_133) (fun _ h9 => h9) rfl (tyX4_ok 14 (by decide)) rfl rfl (Nat.le_of_ble_eq_true rfl) dX4_step_120 (fun H locs hP hD hS => ?_)
      obtain ⟨ow33, hF, hP, hD⟩ := nm_o (P := fun y => va_P D vwCl (wm_X4_step cI cZ cO w_h y) _) (B := fun y => va_D A (wm_X4_step cI cZ cO w_h y)) hF hP hD
      refine lv_aload_n hx hb dX4_step_123 rfl (lv_at hl 0 rfl) ?_
      refine lv_iload_n hx hb dX4_step_124 rfl (lv_at hl 1 rfl) ?_
      refine lv_iload_n hx hb dX4_step_125 rfl (lv_at hl 2 rfl) ?_
      refine va_mmax hx hb (hml.trans hl.1.symm) hown (hts _ wd_310) (hts _ wd_311) (hts _ wd_41) (hts _ wd_312) (Nat.le_of_ble_eq_true rfl) (Nat.le_of_ble_eq_true rfl) (Nat.zero_le _) (Nat.zero_le _) dX4_step_126 ?_
      refine lv_topi (fun v34 ev34 => ?_)
      replace hF := of_dd hF v34 ev34
      refine lv_aload_n hx hb dX4_step_129 rfl (lv_at hl 0 rfl) ?_
      refine va_get (D := D) (ci := 4) (v := .int (ow33 7 0)) (C := RX4) (T := TX4) (N := 16) hx hb hts in_X4 hown hK hP 0 rfl rfl 7 (by decide) (hts _ wd_122) (fun _ h9 => h9) rfl dX4_step_130 ?_
      refine lv_iadd hx hb dX4_step_133 ?_
      refine lv_topi (fun v35 ev35 => ?_)
      replace hF := of_dd hF v35 ev35
      refine va_put (D := D) (ci := 4) (v := .int v35) (ty := .int) (C := RX4) (T := TX4) (N := 16) hx hb hts in_X4 tyX4 tyX4_ok nmX4 hown hK hP hD hS 0 rfl rfl 8 (by decide) (hts _ wd_123) (fun _ h9 => h9) rfl (tyX4_ok 8 (by decide)) rfl rfl (Nat.le_of_ble_eq_true rfl) dX4_step_134 (fun H locs hP hD hS => ?_)
      obtain ⟨ow36, hF, hP, hD⟩ := nm_o (P := fun y => va_P D vwCl (wm_X4_step cI cZ cO w_h y) _) (B := fun y => va_D A (wm_X4_step cI cZ cO w_h y)) hF hP hD
      refine lv_aload_n hx hb dX4_step_137 rfl (lv_at hl 0 rfl) ?_
      refine lv_aload_n hx hb dX4_step_138 rfl (lv_at hl 0 rfl) ?_
      refine va_get (D := D) (ci := 4) (v := .int (ow36 8 0)) (C := RX4) (T := TX4) (N := 16) hx hb hts in_X4 hown hK hP 0 rfl rfl 8 (by decide) (hts _ wd_123) (fun _ h9 => h9) rfl dX4_step_139 ?_
      refine va_put (D := D) (ci := 4) (v := .int (ow36 8 0)) (ty := .int) (C := RX4) (T := TX4) (N := 16) hx hb hts in_X4 tyX4 tyX4_ok nmX4 hown hK hP hD hS 0 rfl rfl 9 (by decide) (hts _ wd_124) (fun _ h9 => h9) rfl (tyX4_ok 9 (by decide)) rfl rfl (Nat.le_of_ble_eq_true rfl) dX4_step_142 (fun H locs hP hD hS => ?_)
      obtain ⟨ow37, hF, hP, hD⟩ := nm_o (P := fun y => va_P D vwCl (wm_X4_step cI cZ cO w_h y) _) (B := fun y => va_D A (wm_X4_step cI cZ cO w_h y)) hF hP hD
      refine lv_goto (tgt := 197) hx hb dX4_step_145 (by decide) ?_
      exact hQ _ _ _ _ ow37 (Option.some.inj hF) hP hD hS dX4_step_197
  refine lv_icmp_ge (tgt := 82) hx hb dX4_step_75 (by decide) (fun h38 => ?_) (fun h38 => ?_)
  · replace hF := of_t h38 hF
    refine lv_iconst (v := 0) hx hb dX4_step_82 (by decide) ?_
    exact hK15 0 ls _ _ (lv_sub hl [2, 1, 0] rfl) hP hD hS hF
  · replace hF := of_f h38 hF
    refine lv_iconst (v := 1) hx hb dX4_step_78 (by decide) ?_
    refine lv_goto (tgt := 83) hx hb dX4_step_79 (by decide) ?_
    exact hK15 1 ls _ _ (lv_sub hl [2, 1, 0] rfl) hP hD hS hF

/-! ### ThreeLegs$Walk.timeTo(II)I -/
abbrev wm_X4_timeTo (cI cZ cO : ClassId) (w_h : Nat) (ow : Ob) : va_W := [(w_h, .inr (4, [.int (ow 0 0), .int (ow 1 0), .int (ow 2 0), .int (ow 3 0), .int (ow 4 0), .int (ow 5 0), .int (ow 6 0), .int (ow 7 0), .int (ow 8 0), .int (ow 9 0), .int (ow 10 0), .int (ow 11 0), .int (ow 12 0), .int (ow 13 0), .int (ow 14 0), .int (ow 15 0)]))]
def L_X4_timeTo_2 : Nat → Int32 → Int32 → Int32 → Ob → (Ob → Option (Int32 × Ob)) → Option (Int32 × Ob)
  | 0, _, _, _, _, _ => none
  | n7 + 1, p0, p1, v4, ow5, K1 =>
    (if 999 ≤ v4 then some ((-6), ow5) else jn (fun (ow10 : Ob) => (F_X4_step ow10).bind (fun q11 => (if (q11 11 0) < p0 then dd (v4 + 1) (fun (v13 : Int32) => L_X4_timeTo_2 n7 p0 p1 v13 q11 K1) else K1 q11))) (fun (K9 : Ob → Option (Int32 × Ob)) => (if v4 = p1 then (F_X4_speedUp ow5).bind (fun q15 => K9 q15) else K9 ow5)))
def F_X4_timeTo (ow : Ob) (p0 : Int32) (p1 : Int32) : Option (Int32 × Ob) :=
  jn (fun (ow2 : Ob) => (F_X4_time ow2).bind (fun q3 => some (q3, ow2))) (fun (K1 : Ob → Option (Int32 × Ob)) => L_X4_timeTo_2 2000 p0 p1 0 ow K1)
abbrev rm_X4_timeTo : Room := { frames := 3, cells := 0, slots := 0, locals := 63 }
abbrev wu_X4_timeTo : List Cond := .code yX4_timeTo cX4_timeTo 4 (some .int) :: lwG
set_option maxHeartbeats 20000000 in
set_option maxRecDepth 100000 in
theorem c_X4_timeTo (l : Launch) (D : va_G) (cI cZ cO : ClassId) (w_h : Nat) (sz : Nat) (ow : Ob) (p0 : Int32) (p1 : Int32) (q : Int32 × Ob) (hF : F_X4_timeTo ow p0 p1 = some q) : CtI l yX4_timeTo wu_X4_timeTo rm_X4_timeTo D vwCl (tyL cI cZ cO) [.ref w_h, .int p0, .int p1] (wm_X4_timeTo cI cZ cO w_h ow) sz 0 0 (fun (r : Int32) (u : Ob) => r = q.1 ∧ u = q.2) (fun u => wm_X4_timeTo cI cZ cO w_h u) := by
  refine mk_i (cc := cX4_timeTo) (maxL := 4) (by decide) rfl (Nat.le_of_ble_eq_true rfl) ?_
  intro p e s m args below meth c A ls Q hx hb hml hown hts hin hK hP hD hS hA hl hQ
  have hl : lv_has ls 4 [(0, .ref w_h), (1, .int p0), (2, .int p1)] := hl
  unfold F_X4_timeTo at hF
  refine lv_iconst (v := 0) hx hb dX4_timeTo_0 (by decide) ?_
  refine lv_istore_n (lv' := [(3, .int 0), (0, .ref w_h), (1, .int p0), (2, .int p1)]) hx hb dX4_timeTo_1 rfl hl (by decide) rfl (fun ls hl => ?_)
  obtain ⟨K1, eK1, hF⟩ := of_jn hF
  have hK1 : ∀ (ow2 : Ob) (ls : Array Slot) (H : Heap) (locs : List Loc), lv_has ls 4 [(0, .ref w_h)] → va_P D vwCl (wm_X4_timeTo cI cZ cO w_h ow2) H → va_D A (wm_X4_timeTo cI cZ cO w_h ow2) → va_S A s.heap H locs → K1 ow2 = some q → W p l e rm_X4_timeTo s m args below meth c H locs 0 0 Q (F0 m 30 ls []) := by
    intro ow2 ls H locs hl hP hD hS hF
    subst eK1
    refine lv_aload_n hx hb dX4_timeTo_30 rfl (lv_at hl 0 rfl) ?_
    obtain ⟨q3, hGq3, hF⟩ := of_bind hF
    refine callVi (As := []) (rest := []) (wr := []) (WN := wm_X4_timeTo cI cZ cO w_h ow2) ⟨hx, hb, hml, hown, hts⟩ hK hP hD hS hA [0] [] [0] (c_X4_time l D cI cZ cO w_h _ ow2 q3 hGq3) (cwV 0 hts (gV wd_349 wd_321 wd_322 wd_36 wd_323) rfl rfl rfl (by decide +kernel) ⟨Nat.le_of_ble_eq_true rfl, Nat.le_of_ble_eq_true rfl⟩) 0 4 rfl rfl rfl rfl rfl rfl rfl (by decide) rfl rfl rfl hl.1 rfl (Nat.le_of_ble_eq_true rfl) dX4_timeTo_31 ⟨Nat.zero_le _, Nat.zero_le _⟩ (fun H locs hP hD hS => ?_)
    exact hQ _ _ _ _ _ ow2 ⟨inj_fst hF, inj_snd hF⟩ hP hD hS dX4_timeTo_34
  have hloop16 : ∀ (n7 : Nat) (v4 : Int32) (ow5 : Ob) (ls : Array Slot) (H : Heap) (locs : List Loc), lv_has ls 4 [(0, .ref w_h), (1, .int p0), (2, .int p1), (3, .int v4)] → va_P D vwCl (wm_X4_timeTo cI cZ cO w_h ow5) H → va_D A (wm_X4_timeTo cI cZ cO w_h ow5) → va_S A s.heap H locs → L_X4_timeTo_2 n7 p0 p1 v4 ow5 K1 = some q → W p l e rm_X4_timeTo s m args below meth c H locs 0 0 Q (F0 m 2 ls []) := by
    intro n7
    induction n7 with
    | zero =>
      intro v4 ow5 ls H locs hl hP hD hS hF
      exact of_none hF
    | succ n7 ih6 =>
      intro v4 ow5 ls H locs hl hP hD hS hF
      rw [L_X4_timeTo_2.eq_2] at hF
      refine lv_iload_n hx hb dX4_timeTo_2 rfl (lv_at hl 3 rfl) ?_
      refine lv_sipush (v := 999) hx hb dX4_timeTo_3 (by decide) ?_
      refine lv_icmp_ge (tgt := 41) hx hb dX4_timeTo_6 (by decide) (fun h8 => ?_) (fun h8 => ?_)
      · replace hF := of_t h8 hF
        refine lv_bipush (v := (-6)) hx hb dX4_timeTo_41 (by decide) ?_
        exact hQ _ _ _ _ _ ow5 ⟨inj_fst hF, inj_snd hF⟩ hP hD hS dX4_timeTo_43
      · replace hF := of_f h8 hF
        refine lv_iload_n hx hb dX4_timeTo_9 rfl (lv_at hl 3 rfl) ?_
        refine lv_iload_n hx hb dX4_timeTo_10 rfl (lv_at hl 2 rfl) ?_
        obtain ⟨K9, eK9, hF⟩ := of_jn hF
        have hK9 : ∀ (ow10 : Ob) (ls : Array Slot) (H : Heap) (locs : List Loc), lv_has ls 4 [(0, .ref w_h), (1, .int p0), (2, .int p1), (3, .int v4)] → va_P D vwCl (wm_X4_timeTo cI cZ cO w_h ow10) H → va_D A (wm_X4_timeTo cI cZ cO w_h ow10) → va_S A s.heap H locs → K9 ow10 = some q → W p l e rm_X4_timeTo s m args below meth c H locs 0 0 Q (F0 m 18 ls []) := by
          intro ow10 ls H locs hl hP hD hS hF
          subst eK9
          refine lv_aload_n hx hb dX4_timeTo_18 rfl (lv_at hl 0 rfl) ?_
          obtain ⟨q11, hGq11, hF⟩ := of_bind hF
          refine callVv (As := []) (rest := []) (wr := []) (WN := wm_X4_timeTo cI cZ cO w_h q11) ⟨hx, hb, hml, hown, hts⟩ hK hP hD hS hA [0] [] [0] (c_X4_step l D cI cZ cO w_h _ ow10 q11 hGq11) (cwV 0 hts (gV wd_348 wd_307 wd_308 wd_36 wd_309) rfl rfl rfl (by decide +kernel) ⟨Nat.le_of_ble_eq_true rfl, Nat.le_of_ble_eq_true rfl⟩) 0 4 rfl rfl rfl rfl rfl rfl rfl (by decide) rfl rfl rfl hl.1 rfl (Nat.le_of_ble_eq_true rfl) dX4_timeTo_19 ⟨Nat.zero_le _, Nat.zero_le _⟩ (fun H locs hP hD hS => ?_)
          refine lv_aload_n hx hb dX4_timeTo_22 rfl (lv_at hl 0 rfl) ?_
          refine va_get (D := D) (ci := 4) (v := .int (q11 11 0)) (C := RX4) (T := TX4) (N := 16) hx hb hts in_X4 hown hK hP 0 rfl rfl 11 (by decide) (hts _ wd_127) (fun _ h9 => h9) rfl dX4_timeTo_23 ?_
          refine lv_iload_n hx hb dX4_timeTo_26 rfl (lv_at hl 1 rfl) ?_
          refine lv_icmp_lt (tgt := 35) hx hb dX4_timeTo_27 (by decide) (fun h12 => ?_) (fun h12 => ?_)
          · replace hF := of_t h12 hF
            obtain ⟨v13, ev13⟩ : ∃ y : Int32, y = v4 + 1 := ⟨_, rfl⟩
            replace hF := of_dd hF v13 ev13
            refine lv_iinc (v := v13) (lv' := [(3, .int v13), (0, .ref w_h), (1, .int p0), (2, .int p1)]) hx hb dX4_timeTo_35 hl (k := 3) rfl (by rw [ev13]; rfl) (by decide) rfl (fun ls hl => ?_)
            refine lv_goto (tgt := 2) hx hb dX4_timeTo_38 (by decide) ?_
            exact ih6 v13 q11 ls _ _ (lv_sub hl [1, 2, 3, 0] rfl) hP hD hS hF
          · replace hF := of_f h12 hF
            exact hK1 q11 ls _ _ (lv_sub hl [0] rfl) hP hD hS hF
        refine lv_icmp_ne (tgt := 18) hx hb dX4_timeTo_11 (by decide) (fun h14 => ?_) (fun h14 => ?_)
        · replace hF := of_f h14 hF
          exact hK9 ow5 ls _ _ (lv_sub hl [0, 1, 2, 3] rfl) hP hD hS hF
        · replace hF := of_t h14 hF
          refine lv_aload_n hx hb dX4_timeTo_14 rfl (lv_at hl 0 rfl) ?_
          obtain ⟨q15, hGq15, hF⟩ := of_bind hF
          refine callVv (As := []) (rest := []) (wr := []) (WN := wm_X4_timeTo cI cZ cO w_h q15) ⟨hx, hb, hml, hown, hts⟩ hK hP hD hS hA [0] [] [0] (c_X4_speedUp l D cI cZ cO w_h _ ow5 q15 hGq15) (cwV 0 hts (gV wd_344 wd_346 wd_5 wd_36 wd_347) rfl rfl rfl (by decide +kernel) ⟨Nat.le_of_ble_eq_true rfl, Nat.le_of_ble_eq_true rfl⟩) 0 4 rfl rfl rfl rfl rfl rfl rfl (by decide) rfl rfl rfl hl.1 rfl (Nat.le_of_ble_eq_true rfl) dX4_timeTo_15 ⟨Nat.zero_le _, Nat.zero_le _⟩ (fun H locs hP hD hS => ?_)
          exact hK9 q15 ls _ _ (lv_sub hl [0, 1, 2, 3] rfl) hP hD hS hF
  exact hloop16 2000 0 ow ls _ _ (lv_sub hl [1, 2, 3, 0] rfl) hP hD hS hF

/-! ### ThreeLegs$Walk.standsFor(I)Z -/
abbrev wm_X4_standsFor (cI cZ cO : ClassId) (w_h : Nat) (ow : Ob) : va_W := [(w_h, .inr (4, [.int (ow 0 0), .int (ow 1 0), .int (ow 2 0), .int (ow 3 0), .int (ow 4 0), .int (ow 5 0), .int (ow 6 0), .int (ow 7 0), .int (ow 8 0), .int (ow 9 0), .int (ow 10 0), .int (ow 11 0), .int (ow 12 0), .int (ow 13 0), .int (ow 14 0), .int (ow 15 0)]))]
def L_X4_standsFor_2 : Nat → Int32 → Int32 → Ob → (Ob → Option (Int32 × Ob)) → Option (Int32 × Ob)
  | 0, _, _, _, _ => none
  | n6 + 1, p0, v3, ow4, K1 =>
    (if p0 ≤ v3 then K1 ow4 else (F_X4_step ow4).bind (fun q8 => (if (q8 13 0) ≤ 0 then dd (v3 + 1) (fun (v10 : Int32) => L_X4_standsFor_2 n6 p0 v10 q8 K1) else some (0, q8))))
def F_X4_standsFor (ow : Ob) (p0 : Int32) : Option (Int32 × Ob) :=
  jn (fun (ow2 : Ob) => some (1, ow2)) (fun (K1 : Ob → Option (Int32 × Ob)) => L_X4_standsFor_2 2000 p0 0 ow K1)
abbrev rm_X4_standsFor : Room := { frames := 3, cells := 0, slots := 0, locals := 63 }
abbrev wu_X4_standsFor : List Cond := .code yX4_standsFor cX4_standsFor 3 (some .boolean) :: lwG
set_option maxHeartbeats 20000000 in
set_option maxRecDepth 100000 in
theorem c_X4_standsFor (l : Launch) (D : va_G) (cI cZ cO : ClassId) (w_h : Nat) (sz : Nat) (ow : Ob) (p0 : Int32) (q : Int32 × Ob) (hF : F_X4_standsFor ow p0 = some q) : CtI l yX4_standsFor wu_X4_standsFor rm_X4_standsFor D vwCl (tyL cI cZ cO) [.ref w_h, .int p0] (wm_X4_standsFor cI cZ cO w_h ow) sz 0 0 (fun (r : Int32) (u : Ob) => r = q.1 ∧ u = q.2) (fun u => wm_X4_standsFor cI cZ cO w_h u) := by
  refine mk_z (cc := cX4_standsFor) (maxL := 3) (by decide) rfl (Nat.le_of_ble_eq_true rfl) ?_
  intro p e s m args below meth c A ls Q hx hb hml hown hts hin hK hP hD hS hA hl hQ
  have hl : lv_has ls 3 [(0, .ref w_h), (1, .int p0)] := hl
  unfold F_X4_standsFor at hF
  refine lv_iconst (v := 0) hx hb dX4_standsFor_0 (by decide) ?_
  refine lv_istore_n (lv' := [(2, .int 0), (0, .ref w_h), (1, .int p0)]) hx hb dX4_standsFor_1 rfl hl (by decide) rfl (fun ls hl => ?_)
  obtain ⟨K1, eK1, hF⟩ := of_jn hF
  have hK1 : ∀ (ow2 : Ob) (ls : Array Slot) (H : Heap) (locs : List Loc), lv_has ls 3 [] → va_P D vwCl (wm_X4_standsFor cI cZ cO w_h ow2) H → va_D A (wm_X4_standsFor cI cZ cO w_h ow2) → va_S A s.heap H locs → K1 ow2 = some q → W p l e rm_X4_standsFor s m args below meth c H locs 0 0 Q (F0 m 26 ls []) := by
    intro ow2 ls H locs hl hP hD hS hF
    subst eK1
    refine lv_iconst (v := 1) hx hb dX4_standsFor_26 (by decide) ?_
    exact hQ _ _ _ _ _ ow2 rfl ⟨inj_fst hF, inj_snd hF⟩ hP hD hS dX4_standsFor_27
  have hloop11 : ∀ (n6 : Nat) (v3 : Int32) (ow4 : Ob) (ls : Array Slot) (H : Heap) (locs : List Loc), lv_has ls 3 [(0, .ref w_h), (1, .int p0), (2, .int v3)] → va_P D vwCl (wm_X4_standsFor cI cZ cO w_h ow4) H → va_D A (wm_X4_standsFor cI cZ cO w_h ow4) → va_S A s.heap H locs → L_X4_standsFor_2 n6 p0 v3 ow4 K1 = some q → W p l e rm_X4_standsFor s m args below meth c H locs 0 0 Q (F0 m 2 ls []) := by
    intro n6
    induction n6 with
    | zero =>
      intro v3 ow4 ls H locs hl hP hD hS hF
      exact of_none hF
    | succ n6 ih5 =>
      intro v3 ow4 ls H locs hl hP hD hS hF
      rw [L_X4_standsFor_2.eq_2] at hF
      refine lv_iload_n hx hb dX4_standsFor_2 rfl (lv_at hl 2 rfl) ?_
      refine lv_iload_n hx hb dX4_standsFor_3 rfl (lv_at hl 1 rfl) ?_
      refine lv_icmp_ge (tgt := 26) hx hb dX4_standsFor_4 (by decide) (fun h7 => ?_) (fun h7 => ?_)
      · replace hF := of_t h7 hF
        exact hK1 ow4 ls _ _ (lv_sub hl [] rfl) hP hD hS hF
      · replace hF := of_f h7 hF
        refine lv_aload_n hx hb dX4_standsFor_7 rfl (lv_at hl 0 rfl) ?_
        obtain ⟨q8, hGq8, hF⟩ := of_bind hF
        refine callVv (As := []) (rest := []) (wr := []) (WN := wm_X4_standsFor cI cZ cO w_h q8) ⟨hx, hb, hml, hown, hts⟩ hK hP hD hS hA [0] [] [0] (c_X4_step l D cI cZ cO w_h _ ow4 q8 hGq8) (cwV 0 hts (gV wd_348 wd_307 wd_308 wd_36 wd_309) rfl rfl rfl (by decide +kernel) ⟨Nat.le_of_ble_eq_true rfl, Nat.le_of_ble_eq_true rfl⟩) 0 4 rfl rfl rfl rfl rfl rfl rfl (by decide) rfl rfl rfl hl.1 rfl (Nat.le_of_ble_eq_true rfl) dX4_standsFor_8 ⟨Nat.zero_le _, Nat.zero_le _⟩ (fun H locs hP hD hS => ?_)
        refine lv_aload_n hx hb dX4_standsFor_11 rfl (lv_at hl 0 rfl) ?_
        refine va_get (D := D) (ci := 4) (v := .int (q8 13 0)) (C := RX4) (T := TX4) (N := 16) hx hb hts in_X4 hown hK hP 0 rfl rfl 13 (by decide) (hts _ wd_131) (fun _ h9 => h9) rfl dX4_standsFor_12 ?_
        refine lv_if_le (tgt := 20) hx hb dX4_standsFor_15 (by decide) (fun h9 => ?_) (fun h9 => ?_)
        · replace hF := of_t h9 hF
          obtain ⟨v10, ev10⟩ : ∃ y : Int32, y = v3 + 1 := ⟨_, rfl⟩
          replace hF := of_dd hF v10 ev10
          refine lv_iinc (v := v10) (lv' := [(2, .int v10), (0, .ref w_h), (1, .int p0)]) hx hb dX4_standsFor_20 hl (k := 2) rfl (by rw [ev10]; rfl) (by decide) rfl (fun ls hl => ?_)
          refine lv_goto (tgt := 2) hx hb dX4_standsFor_23 (by decide) ?_
          exact ih5 v10 q8 ls _ _ (lv_sub hl [1, 2, 0] rfl) hP hD hS hF
        · replace hF := of_f h9 hF
          refine lv_iconst (v := 0) hx hb dX4_standsFor_18 (by decide) ?_
          exact hQ _ _ _ _ _ q8 rfl ⟨inj_fst hF, inj_snd hF⟩ hP hD hS dX4_standsFor_19
  exact hloop11 2000 0 ow ls _ _ (lv_sub hl [1, 2, 0] rfl) hP hD hS hF

/-! ### ThreeLegs$Walk.feetWithin(I)I -/
abbrev wm_X4_feetWithin (cI cZ cO : ClassId) (w_h : Nat) (ow : Ob) : va_W := [(w_h, .inr (4, [.int (ow 0 0), .int (ow 1 0), .int (ow 2 0), .int (ow 3 0), .int (ow 4 0), .int (ow 5 0), .int (ow 6 0), .int (ow 7 0), .int (ow 8 0), .int (ow 9 0), .int (ow 10 0), .int (ow 11 0), .int (ow 12 0), .int (ow 13 0), .int (ow 14 0), .int (ow 15 0)]))]
def L_X4_feetWithin_2 : Nat → Int32 → Int32 → Ob → (Ob → Option (Int32 × Ob)) → Option (Int32 × Ob)
  | 0, _, _, _, _ => none
  | n6 + 1, p0, v3, ow4, K1 =>
    (if 999 ≤ v3 then K1 ow4 else (F_X4_step ow4).bind (fun q8 => (F_X4_time q8).bind (fun q9 => (if q9 ≤ p0 then dd (v3 + 1) (fun (v11 : Int32) => L_X4_feetWithin_2 n6 p0 v11 q8 K1) else some ((ow4 11 0), q8)))))
def F_X4_feetWithin (ow : Ob) (p0 : Int32) : Option (Int32 × Ob) :=
  jn (fun (ow2 : Ob) => some ((ow2 11 0), ow2)) (fun (K1 : Ob → Option (Int32 × Ob)) => L_X4_feetWithin_2 2000 p0 0 ow K1)
abbrev rm_X4_feetWithin : Room := { frames := 3, cells := 0, slots := 0, locals := 63 }
abbrev wu_X4_feetWithin : List Cond := .code yX4_feetWithin cX4_feetWithin 4 (some .int) :: lwG
set_option maxHeartbeats 20000000 in
set_option maxRecDepth 100000 in
theorem c_X4_feetWithin (l : Launch) (D : va_G) (cI cZ cO : ClassId) (w_h : Nat) (sz : Nat) (ow : Ob) (p0 : Int32) (q : Int32 × Ob) (hF : F_X4_feetWithin ow p0 = some q) : CtI l yX4_feetWithin wu_X4_feetWithin rm_X4_feetWithin D vwCl (tyL cI cZ cO) [.ref w_h, .int p0] (wm_X4_feetWithin cI cZ cO w_h ow) sz 0 0 (fun (r : Int32) (u : Ob) => r = q.1 ∧ u = q.2) (fun u => wm_X4_feetWithin cI cZ cO w_h u) := by
  refine mk_i (cc := cX4_feetWithin) (maxL := 4) (by decide) rfl (Nat.le_of_ble_eq_true rfl) ?_
  intro p e s m args below meth c A ls Q hx hb hml hown hts hin hK hP hD hS hA hl hQ
  have hl : lv_has ls 4 [(0, .ref w_h), (1, .int p0)] := hl
  unfold F_X4_feetWithin at hF
  refine lv_iconst (v := 0) hx hb dX4_feetWithin_0 (by decide) ?_
  refine lv_istore_n (lv' := [(2, .int 0), (0, .ref w_h), (1, .int p0)]) hx hb dX4_feetWithin_1 rfl hl (by decide) rfl (fun ls hl => ?_)
  obtain ⟨K1, eK1, hF⟩ := of_jn hF
  have hK1 : ∀ (ow2 : Ob) (ls : Array Slot) (H : Heap) (locs : List Loc), lv_has ls 4 [(0, .ref w_h)] → va_P D vwCl (wm_X4_feetWithin cI cZ cO w_h ow2) H → va_D A (wm_X4_feetWithin cI cZ cO w_h ow2) → va_S A s.heap H locs → K1 ow2 = some q → W p l e rm_X4_feetWithin s m args below meth c H locs 0 0 Q (F0 m 34 ls []) := by
    intro ow2 ls H locs hl hP hD hS hF
    subst eK1
    refine lv_aload_n hx hb dX4_feetWithin_34 rfl (lv_at hl 0 rfl) ?_
    refine va_get (D := D) (ci := 4) (v := .int (ow2 11 0)) (C := RX4) (T := TX4) (N := 16) hx hb hts in_X4 hown hK hP 0 rfl rfl 11 (by decide) (hts _ wd_127) (fun _ h9 => h9) rfl dX4_feetWithin_35 ?_
    exact hQ _ _ _ _ _ ow2 ⟨inj_fst hF, inj_snd hF⟩ hP hD hS dX4_feetWithin_38
  have hloop12 : ∀ (n6 : Nat) (v3 : Int32) (ow4 : Ob) (ls : Array Slot) (H : Heap) (locs : List Loc), lv_has ls 4 [(0, .ref w_h), (1, .int p0), (2, .int v3)] → va_P D vwCl (wm_X4_feetWithin cI cZ cO w_h ow4) H → va_D A (wm_X4_feetWithin cI cZ cO w_h ow4) → va_S A s.heap H locs → L_X4_feetWithin_2 n6 p0 v3 ow4 K1 = some q → W p l e rm_X4_feetWithin s m args below meth c H locs 0 0 Q (F0 m 2 ls []) := by
    intro n6
    induction n6 with
    | zero =>
      intro v3 ow4 ls H locs hl hP hD hS hF
      exact of_none hF
    | succ n6 ih5 =>
      intro v3 ow4 ls H locs hl hP hD hS hF
      rw [L_X4_feetWithin_2.eq_2] at hF
      refine lv_iload_n hx hb dX4_feetWithin_2 rfl (lv_at hl 2 rfl) ?_
      refine lv_sipush (v := 999) hx hb dX4_feetWithin_3 (by decide) ?_
      refine lv_icmp_ge (tgt := 34) hx hb dX4_feetWithin_6 (by decide) (fun h7 => ?_) (fun h7 => ?_)
      · replace hF := of_t h7 hF
        exact hK1 ow4 ls _ _ (lv_sub hl [0] rfl) hP hD hS hF
      · replace hF := of_f h7 hF
        refine lv_aload_n hx hb dX4_feetWithin_9 rfl (lv_at hl 0 rfl) ?_
        refine va_get (D := D) (ci := 4) (v := .int (ow4 11 0)) (C := RX4) (T := TX4) (N := 16) hx hb hts in_X4 hown hK hP 0 rfl rfl 11 (by decide) (hts _ wd_127) (fun _ h9 => h9) rfl dX4_feetWithin_10 ?_
        refine lv_istore_n (lv' := [(3, .int (ow4 11 0)), (0, .ref w_h), (1, .int p0), (2, .int v3)]) hx hb dX4_feetWithin_13 rfl hl (by decide) rfl (fun ls hl => ?_)
        refine lv_aload_n hx hb dX4_feetWithin_14 rfl (lv_at hl 1 rfl) ?_
        obtain ⟨q8, hGq8, hF⟩ := of_bind hF
        refine callVv (As := []) (rest := []) (wr := []) (WN := wm_X4_feetWithin cI cZ cO w_h q8) ⟨hx, hb, hml, hown, hts⟩ hK hP hD hS hA [0] [] [0] (c_X4_step l D cI cZ cO w_h _ ow4 q8 hGq8) (cwV 0 hts (gV wd_348 wd_307 wd_308 wd_36 wd_309) rfl rfl rfl (by decide +kernel) ⟨Nat.le_of_ble_eq_true rfl, Nat.le_of_ble_eq_true rfl⟩) 0 4 rfl rfl rfl rfl rfl rfl rfl (by decide) rfl rfl rfl hl.1 rfl (Nat.le_of_ble_eq_true rfl) dX4_feetWithin_15 ⟨Nat.zero_le _, Nat.zero_le _⟩ (fun H locs hP hD hS => ?_)
        refine lv_aload_n hx hb dX4_feetWithin_18 rfl (lv_at hl 1 rfl) ?_
        obtain ⟨q9, hGq9, hF⟩ := of_bind hF
        refine callVi (As := []) (rest := []) (wr := []) (WN := wm_X4_feetWithin cI cZ cO w_h q8) ⟨hx, hb, hml, hown, hts⟩ hK hP hD hS hA [0] [] [0] (c_X4_time l D cI cZ cO w_h _ q8 q9 hGq9) (cwV 0 hts (gV wd_349 wd_321 wd_322 wd_36 wd_323) rfl rfl rfl (by decide +kernel) ⟨Nat.le_of_ble_eq_true rfl, Nat.le_of_ble_eq_true rfl⟩) 0 4 rfl rfl rfl rfl rfl rfl rfl (by decide) rfl rfl rfl hl.1 rfl (Nat.le_of_ble_eq_true rfl) dX4_feetWithin_19 ⟨Nat.zero_le _, Nat.zero_le _⟩ (fun H locs hP hD hS => ?_)
        refine lv_iload_n hx hb dX4_feetWithin_22 rfl (lv_at hl 2 rfl) ?_
        refine lv_icmp_le (tgt := 28) hx hb dX4_feetWithin_23 (by decide) (fun h10 => ?_) (fun h10 => ?_)
        · replace hF := of_t h10 hF
          obtain ⟨v11, ev11⟩ : ∃ y : Int32, y = v3 + 1 := ⟨_, rfl⟩
          replace hF := of_dd hF v11 ev11
          refine lv_iinc (v := v11) (lv' := [(2, .int v11), (3, .int (ow4 11 0)), (0, .ref w_h), (1, .int p0)]) hx hb dX4_feetWithin_28 hl (k := 3) rfl (by rw [ev11]; rfl) (by decide) rfl (fun ls hl => ?_)
          refine lv_goto (tgt := 2) hx hb dX4_feetWithin_31 (by decide) ?_
          exact ih5 v11 q8 ls _ _ (lv_sub hl [2, 3, 0] rfl) hP hD hS hF
        · replace hF := of_f h10 hF
          refine lv_iload_n hx hb dX4_feetWithin_26 rfl (lv_at hl 0 rfl) ?_
          exact hQ _ _ _ _ _ q8 ⟨inj_fst hF, inj_snd hF⟩ hP hD hS dX4_feetWithin_27
  exact hloop12 2000 0 ow ls _ _ (lv_sub hl [1, 2, 0] rfl) hP hD hS hF
