def ob0 : Ob := sO (sO (sO (fun _ _ => 0) 4 (cst 2)) 5 (cst 5)) 6 (cst 90)
def obS : Ob := sO (sO (fun _ _ => 0) 0 (cst (-6))) 1 (cst (-6))
theorem Inv_0 : Inv ob0 ob0 ob0 (fun _ => 0) (fun _ _ => 0) ob0 := by
  refine ⟨⟨0, by decide, rfl, ?_, fun i _ => ⟨rfl, rfl, rfl⟩, ?_, rfl, rfl, rfl, 2, 5, 90, rfl, rfl, rfl, by decide, by decide, by decide, by decide⟩, ⟨0, by decide, rfl, rfl, fun i h => absurd h (Nat.not_lt_zero i)⟩, fun i _ => rfl, Or.inl rfl, Or.inl rfl⟩
  · intro i _
    rw [Nat.zero_testBit]
    rfl
  · intro i _ h
    simp at h
theorem lw_over : Cond.arrayOver (.object "ThreeLegs$Crowd") ∈ lw_tbl := List.mem_append_right _ (List.mem_append_left _ (List.mem_of_getElem? (i := 61) rfl))
theorem lw_nest0 : Cond.methodLinkNest RX5 9 yX0_init "ThreeLegs" ∈ lw_tbl := List.mem_append_right _ (List.mem_append_left _ (List.mem_of_getElem? (i := 21) rfl))
theorem lw_nest1 : Cond.methodLinkNest RX5 26 yX1_init "ThreeLegs" ∈ lw_tbl := List.mem_append_right _ (List.mem_append_left _ (List.mem_of_getElem? (i := 64) rfl))
theorem lw_nest2 : Cond.methodLinkNest RX5 33 yX4_init "ThreeLegs" ∈ lw_tbl := List.mem_append_right _ (List.mem_append_left _ (List.mem_of_getElem? (i := 78) rfl))
theorem lw_nest3 : Cond.methodLinkNest RX5 40 yX2_init "ThreeLegs" ∈ lw_tbl := List.mem_append_right _ (List.mem_append_left _ (List.mem_of_getElem? (i := 140) rfl))
theorem lw_nest4 : Cond.methodLinkNest RX5 47 yX3_init "ThreeLegs" ∈ lw_tbl := List.mem_append_right _ (List.mem_append_left _ (List.mem_of_getElem? (i := 167) rfl))
set_option maxHeartbeats 20000000 in
set_option maxRecDepth 100000 in
theorem whole_start {p : Program} {e : Env} {s : State} {m : MethodId} {below : List Frame} {meth : Method} {c : Code} (l : Launch) (hflags : l.flags = flags0) {b L : Nat} {xs : Nat → Int32} (hL : L ≤ 3072) (C0 : lw_At p s m meth c b L xs) : W p l e room_1 s m #[Value.ref b] below meth c s.heap [] 0 0 (lw_Z below #[Value.ref b] s) (entryFrame m ([Value.ref b] : List Value).toArray 4) := by
  obtain ⟨hx, hb, hr, hml, hown, hts0, hX, hbl, hlocks, hgv⟩ := id C0
  have hts : ∀ w ∈ lwG, w.before #[Value.ref b] s = true := fun w h => hts0 w (lwG_in w h)
  have hA : ∀ q : Nat, s.heap.size ≤ q → (fun q : Nat => s.heap.size ≤ q) q := fun _ h => h
  obtain ⟨c0, iS0, hKn0⟩ := u_known (C := RX0) (T := TX0) (N := 7) (n := 7) hts in_X0 (hts (.instantiable RX0 7) wd_52)
  obtain ⟨c1, iS1, hKn1⟩ := u_known (C := RX1) (T := TX1) (N := 2) (n := 2) hts in_X1 (hts (.instantiable RX1 2) wd_95)
  obtain ⟨c2, iS2, hKn2⟩ := u_known (C := RX2) (T := TX2) (N := 6) (n := 6) hts in_X2 (hts (.instantiable RX2 6) wd_171)
  obtain ⟨c3, iS3, hKn3⟩ := u_known (C := RX3) (T := TX3) (N := 2) (n := 2) hts in_X3 (hts (.instantiable RX3 2) wd_198)
  obtain ⟨c4, iS4, hKn4⟩ := u_known (C := RX4) (T := TX4) (N := 16) (n := 16) hts in_X4 (hts (.instantiable RX4 16) wd_109)
  obtain ⟨c5, iS5, hKn5⟩ := u_known (C := RX5) (T := TX5) (N := 8) (n := 8) hts in_X5 (hts (.instantiable RX5 8) wd_44)
  obtain ⟨c6, iS6, hKn6⟩ := u_known (C := RX6) (T := TX6) (N := 33) (n := 33) hts in_X6 (hts (.instantiable RX6 33) wd_514)
  obtain ⟨D, hKc⟩ : ∃ D : va_G, ∀ (k : Nat) (q : vw_C), vwCl[k]? = some q → u_Kn s q.1 q.2.1 q.2.2 (D.1 k) (D.2 k) := by
    refine ⟨(fun k => match k with | 0 => c0 | 1 => c1 | 2 => c2 | 3 => c3 | 4 => c4 | 5 => c5 | _ => c6, fun k => match k with | 0 => iS0 | 1 => iS1 | 2 => iS2 | 3 => iS3 | 4 => iS4 | 5 => iS5 | _ => iS6), ?_⟩
    intro k q hq
    match k, hq with
    | 0, hq => cases hq; exact hKn0
    | 1, hq => cases hq; exact hKn1
    | 2, hq => cases hq; exact hKn2
    | 3, hq => cases hq; exact hKn3
    | 4, hq => cases hq; exact hKn4
    | 5, hq => cases hq; exact hKn5
    | 6, hq => cases hq; exact hKn6
    | k + 7, hq => simp [vwCl] at hq
  obtain ⟨cI, kI, mI, i1, i2, i3⟩ := Cond.arrayClass_spec (hts _ wd_92)
  obtain ⟨cZ, kZ, mZ, z1, z2, z3⟩ := Cond.arrayClass_spec (hts _ wd_91)
  have hAO : va_AO "ThreeLegs$Crowd" s := va_AO.of (hts0 _ lw_over)
  obtain ⟨mO, cO, kO, o1, o2, o3, o4, o5⟩ := Cond.arrayOver_spec hAO
  have hK : va_K D vwCl (tyL cI cZ cO) s := by
    refine ⟨hKc, fun k q h => ?_⟩
    match k, h with
    | 0, h => cases h; exact ⟨fun n z => ⟨fun k h => (by cases h), kI, i2, mI, i3⟩, i1⟩
    | 1, h => cases h; exact ⟨fun n z => ⟨fun k h => (by cases h), kZ, z2, mZ, z3⟩, z1⟩
    | 2, h => cases h; exact ⟨fun n z => ⟨fun k h => (by cases h), kO, o3, mO, o4⟩, kO, mO, o3, o4, o1, o5⟩
    | k + 3, h => simp at h
  have hNX : NX s := ⟨va_Nw.of rfl (hts0 _ lw_nest0), va_Nw.of rfl (hts0 _ lw_nest1), va_Nw.of rfl (hts0 _ lw_nest2), va_Nw.of rfl (hts0 _ lw_nest3), va_Nw.of rfl (hts0 _ lw_nest4), hAO⟩
  have hS : va_S (fun q : Nat => s.heap.size ≤ q) s.heap s.heap [] := va_S.rf
  have hP : va_P D vwCl [] s.heap := fun k q h => by simp at h
  have hD : va_D (fun q : Nat => s.heap.size ≤ q) [] := ⟨fun i j p q h => by simp at h, fun k q h => by simp at h⟩
  have hl := lv_entry ([.ref b]) (n := 4) (Nat.le_of_ble_eq_true rfl)
  rw [lg_entry_eq]
  generalize (lg_sl ([.ref b]) ++ List.replicate (4 - (lg_sl ([.ref b])).length) Slot.unset).toArray = ls at hl ⊢
  have hl : lv_has ls 4 [(0, .ref b)] := hl
  refine va_new (ci := 5) (fs := [.null, .null, .null, .null, .null, .null, .null, .null]) (C := RX5) (T := TX5) (N := 8) hx hb hts in_X5 tyX5 tyX5_ok hown (hts _ wd_43) (hts _ wd_44) (hts _ wd_33) hK hP hD hS hA rfl (fun j hj => by rcases (show j = 0 ∨ j = 1 ∨ j = 2 ∨ j = 3 ∨ j = 4 ∨ j = 5 ∨ j = 6 ∨ j = 7 by omega) with rfl | rfl | rfl | rfl | rfl | rfl | rfl | rfl <;> rfl) (Nat.le_of_ble_eq_true rfl) (Nat.le_of_ble_eq_true rfl) dL_law_0 (fun q0 H hP hD hS => ?_)
  have hP : va_P D vwCl [(q0, .inr (5, [.null, .null, .null, .null, .null, .null, .null, .null]))] H := hP
  have hD : va_D (fun q : Nat => s.heap.size ≤ q) [(q0, .inr (5, [.null, .null, .null, .null, .null, .null, .null, .null]))] := hD
  refine lv_dup hx hb dL_law_3 rfl ?_
  refine callIx (rest := [.ref q0]) (wr := []) hNX (fun u U h => NX_same u U h) (fun U h => NX_warm hNX U h) ⟨hx, hb, hml, hown, hts⟩ hK hP hD hS hA [0] [] (c_X5_init l D cI cZ cO q0 _) (cwI 0 hts (gI wd_47) rfl rfl rfl (hts _ wd_33) (hts _ wd_45) (hts _ wd_46) rfl (by decide +kernel) ⟨(Nat.le_of_ble_eq_true rfl), (Nat.le_of_ble_eq_true rfl)⟩) rfl rfl rfl rfl (by decide) hl.1 rfl (Nat.le_of_ble_eq_true rfl) dL_law_4 ⟨(Nat.le_of_ble_eq_true rfl), (Nat.le_of_ble_eq_true rfl)⟩ (fun u H locs hu hP hD hS => ?_)
  have hP : va_P D vwCl (wf_X5_init cI cZ cO q0 u) H := hP
  have hD : va_D (fun q : Nat => s.heap.size ≤ q) (wf_X5_init cI cZ cO q0 u) := hD
  refine lv_astore_n (lv' := [(1, .ref q0), (0, .ref b)]) hx hb dL_law_7 rfl hl (by decide) rfl (fun ls hl => ?_)
  refine va_new (ci := 6) (fs := [.int 0, .null, .null, .null, .int 0, .int 0, .int 0, .int 0, .int 0, .int 0, .int 0, .int 0, .int 0, .int 0, .int 0, .int 0, .int 0, .int 0, .int 0, .int 0, .int 0, .int 0, .null, .null, .null, .int 0, .int 0, .null, .int 0, .null, .null, .int 0, .int 0]) (C := RX6) (T := TX6) (N := 33) hx hb hts in_X6 tyX6 tyX6_ok hown (hts _ wd_513) (hts _ wd_514) (hts _ wd_39) hK hP hD hS hA rfl (fun j hj => by rcases (show j = 0 ∨ j = 1 ∨ j = 2 ∨ j = 3 ∨ j = 4 ∨ j = 5 ∨ j = 6 ∨ j = 7 ∨ j = 8 ∨ j = 9 ∨ j = 10 ∨ j = 11 ∨ j = 12 ∨ j = 13 ∨ j = 14 ∨ j = 15 ∨ j = 16 ∨ j = 17 ∨ j = 18 ∨ j = 19 ∨ j = 20 ∨ j = 21 ∨ j = 22 ∨ j = 23 ∨ j = 24 ∨ j = 25 ∨ j = 26 ∨ j = 27 ∨ j = 28 ∨ j = 29 ∨ j = 30 ∨ j = 31 ∨ j = 32 by omega) with rfl | rfl | rfl | rfl | rfl | rfl | rfl | rfl | rfl | rfl | rfl | rfl | rfl | rfl | rfl | rfl | rfl | rfl | rfl | rfl | rfl | rfl | rfl | rfl | rfl | rfl | rfl | rfl | rfl | rfl | rfl | rfl | rfl <;> rfl) (Nat.le_of_ble_eq_true rfl) (Nat.le_of_ble_eq_true rfl) dL_law_8 (fun q1 H hP hD hS => ?_)
  have hP : va_P D vwCl (wf_X5_init cI cZ cO q0 u ++ [(q1, .inr (6, [.int 0, .null, .null, .null, .int 0, .int 0, .int 0, .int 0, .int 0, .int 0, .int 0, .int 0, .int 0, .int 0, .int 0, .int 0, .int 0, .int 0, .int 0, .int 0, .int 0, .int 0, .null, .null, .null, .int 0, .int 0, .null, .int 0, .null, .null, .int 0, .int 0]))]) H := hP
  have hD : va_D (fun q : Nat => s.heap.size ≤ q) (wf_X5_init cI cZ cO q0 u ++ [(q1, .inr (6, [.int 0, .null, .null, .null, .int 0, .int 0, .int 0, .int 0, .int 0, .int 0, .int 0, .int 0, .int 0, .int 0, .int 0, .int 0, .int 0, .int 0, .int 0, .int 0, .int 0, .int 0, .null, .null, .null, .int 0, .int 0, .null, .int 0, .null, .null, .int 0, .int 0]))]) := hD
  refine lv_dup hx hb dL_law_11 rfl ?_
  refine callIx (rest := [.ref q1]) (wr := wf_X5_init cI cZ cO q0 u) (X := fun _ => True) trivial (fun _ _ _ h => h) (fun _ _ => trivial) ⟨hx, hb, hml, hown, hts⟩ hK hP hD hS hA [28] [0, 1, 2, 3, 4, 5, 6, 7, 8, 9, 10, 11, 12, 13, 14, 15, 16, 17, 18, 19, 20, 21, 22, 23, 24, 25, 26, 27] (c_X6_init l D cI cZ cO q1 _) (cwI 0 hts (gI wd_517) rfl rfl rfl (hts _ wd_39) (hts _ wd_515) (hts _ wd_516) rfl (by decide +kernel) ⟨(Nat.le_of_ble_eq_true rfl), (Nat.le_of_ble_eq_true rfl)⟩) rfl rfl rfl rfl (by decide) hl.1 rfl (Nat.le_of_ble_eq_true rfl) dL_law_12 ⟨(Nat.le_of_ble_eq_true rfl), (Nat.le_of_ble_eq_true rfl)⟩ (fun v H locs hu hP hD hS => ?_)
  refine lv_astore_n (lv' := [(2, .ref q1), (1, .ref q0), (0, .ref b)]) hx hb dL_law_15 rfl hl (by decide) rfl (fun ls hl => ?_)
  refine lv_iconst (v := 0) hx hb dL_law_16 (by decide) ?_
  refine lv_istore_n (lv' := [(3, .int 0), (2, .ref q1), (1, .ref q0), (0, .ref b)]) hx hb dL_law_17 rfl hl (by decide) rfl (fun ls hl => ?_)
  obtain ⟨u0, u1, u2, u3, u4, u5, u6, u7, u8, u9, u10, u11, u12, u13, u14, u15, u16, u17, u18, u19, u20, u21, u22, u23, u24, u25, u26⟩ := u
  obtain ⟨v0, v1, v2, v3, v4, v5, v6, v7, v8⟩ := v
  have hP9 := pick_P (w := wlaw cI cZ cO q0 u0 u5 u16 u17 u19 u20 u25 u26 u1 u2 u3 u4 u6 u7 u8 u9 u10 u11 u12 u13 u14 u15 u18 u21 u22 u23 u24 q1 v0 v1 v2 v3 v4 v5 v6 v7 v8 ob0 ob0 ob0 (fun _ => 0) (fun _ _ => 0) (fun _ _ => 0) (fun _ _ => 0) obS (fun _ => 0) ob0) hP [0, 1, 2, 3, 4, 5, 7, 8, 9, 10, 11, 12, 13, 14, 15, 16, 6, 17, 18, 19, 20, 21, 22, 23, 24, 25, 26, 27, 28, 29, 30, 31, 32, 33, 34, 35, 36, 37] rfl
  have hD9 := hD.sub (ws' := wlaw cI cZ cO q0 u0 u5 u16 u17 u19 u20 u25 u26 u1 u2 u3 u4 u6 u7 u8 u9 u10 u11 u12 u13 u14 u15 u18 u21 u22 u23 u24 q1 v0 v1 v2 v3 v4 v5 v6 v7 v8 ob0 ob0 ob0 (fun _ => 0) (fun _ _ => 0) (fun _ _ => 0) (fun _ _ => 0) obS (fun _ => 0) ob0) [0, 1, 2, 3, 4, 5, 7, 8, 9, 10, 11, 12, 13, 14, 15, 16, 6, 17, 18, 19, 20, 21, 22, 23, 24, 25, 26, 27, 28, 29, 30, 31, 32, 33, 34, 35, 36, 37] rfl rfl
  exact law_loop C0 hK hL (L + 1) 0 0 (Nat.zero_le L) (by omega) nI_0.symm ob0 ob0 ob0 (fun _ => 0) (fun _ _ => 0) (fun _ _ => 0) (fun _ _ => 0) obS (fun _ => 0) ob0 H locs ls Inv_0 hP9 hD9 hS (lv_sub hl [3, 2, 1, 0] rfl)
