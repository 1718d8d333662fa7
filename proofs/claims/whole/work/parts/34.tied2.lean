/-! tied: both in step. -/
theorem dig0 : ∀ (j n ways : Nat), dig j n 0 ways = 1 := by
  intro j
  induction j with
  | zero => intro n ways; show 0 / _ + 1 = 1; rw [Nat.zero_div]
  | succ j ih => intro n ways; show dig j (n - 2) (0 % _) _ = 1; rw [Nat.zero_mod]; exact ih _ _
theorem ones_ok (K : Ob → Option Ob) : ∀ (f i : Nat) (v : Int32) (on : Ob), v = nI i → i ≤ 4 → 4 - i < f → ∃ on', L_X2_seek_11 f v on K = K on' ∧ (∀ q, q ≠ 0 → on' q = on q) ∧ (∀ j, i ≤ j → j < 4 → on' 0 j = 1) ∧ (∀ j, j < i → on' 0 j = on 0 j) := by
  intro f
  induction f with
  | zero => intro i v on _ _ h; exact absurd h (by omega)
  | succ f ih =>
    intro i v on hv hi hf
    subst hv
    rw [L_X2_seek_11.eq_2]
    by_cases h8 : i = 4
    · subst h8
      rw [if_pos (show (4 : Int32) ≤ nI 4 by decide)]
      exact ⟨on, rfl, fun _ _ => rfl, fun j h1 h2 => absurd h2 (by omega), fun _ _ => rfl⟩
    · have h : ¬ (4 : Int32) ≤ nI i := fun q => absurd ((nI_leI (a := 4) (by omega) (by omega)).mp q) (by omega)
      rw [if_neg h, ck_ok (by omega) (by omega), nI_cl (by omega)]
      simp only [dd, nI_1]
      obtain ⟨on', e1, e2, e3, e4⟩ := ih (i + 1) _ (sO on 0 (upd (on 0) i 1)) rfl (by omega) (by omega)
      rw [e1]
      refine ⟨on', rfl, fun q hq => by rw [e2 q hq, sO_ne _ _ _ _ hq], fun j h1 h2 => ?_, fun j hj => ?_⟩
      · by_cases e : j = i
        · rw [e4 j (by omega), sO_eq, upd_at, if_pos e]
        · exact e3 j (by omega) h2
      · rw [e4 j (by omega), sO_eq, upd_at, if_neg (by omega)]
def Lst (mask k : Nat) (on om : Ob) (x : Int32) : Prop := (k = 0 ∧ on 5 0 = 400001 ∧ x = 1000000000) ∨ (∃ c : Int, 0 ≤ c ∧ c ≤ 1000000 ∧ on 5 0 = iI c ∧ x = iI c ∧ ∀ i, i < 8 → mask.testBit i = true → on 3 i = om 24 i)
def FrK (m m' : Ob) : Prop := ∀ q, q ≠ 23 → q ≠ 24 → m' q = m q
theorem seek_loop {oc om0 : Ob} {mask : Nat} (hm : mask < 256) (hr : om0 0 0 = nI mask) (hc : ∀ i, i < 8 → oc 0 i = if mask.testBit i then 1 else 0) (he : (bl mask).length % 2 = 0) (h0 : (bl mask).length ≠ 0) (w : Int32) (T : Nat → Int32)
    (hT : ∀ x y, x < 8 → y < 8 → x ≠ y → mask.testBit x = true → mask.testBit y = true → ∃ t : Int, 0 ≤ t ∧ t ≤ 100000 ∧ (if T (8 * x + y) = -6 then 100000 else T (8 * x + y)) = iI t ∧ om0 22 (8 * x + y) = iI t)
    (K6 : Ob → Option Ob) (K13 : Int32 → Ob → Option (Int32 × Ob)) :
    ∀ (f k : Nat) (u v x : Int32) (on om : Ob), v = nI k → k ≤ wy (bl mask).length → wy (bl mask).length - k < f → FrK om0 om → on 4 0 = nI (bl mask).length → Lst mask k on om x → (k = wy (bl mask).length → u = 0) → (k < wy (bl mask).length → u = 1 ∧ ∀ j, j < 4 → on 0 j = nI (dig j (bl mask).length k (wy (bl mask).length))) →
      ∃ on' om' x', L_X2_seek_43 f w oc T u v on K6 = K6 on' ∧ L_X6_tied_108 f (nI (wy (bl mask).length)) w x v om K13 = K13 x' om' ∧ Lst mask (wy (bl mask).length) on' om' x' ∧ FrK om0 om' := by
  obtain ⟨b1, -⟩ := bl_dec mask hm
  have hwy : 1 ≤ wy (bl mask).length ∧ wy (bl mask).length ≤ 105 := by
    unfold wy
    split
    · omega
    · split
      · omega
      · split <;> omega
  intro f
  induction f with
  | zero => intro k u v x on om _ _ h; exact absurd h (by omega)
  | succ f ih =>
    intro k u v x on om hv hk hf hF h4 hL hu0 hu1
    subst hv
    rw [L_X2_seek_43.eq_2, L_X6_tied_108.eq_2]
    by_cases h8 : k = wy (bl mask).length
    · rw [hu0 h8, ← h8, if_pos (Int32.le_refl _)]
      refine ⟨on, om, x, ?_, rfl, hL, hF⟩
      split
      · rfl
      · rw [if_pos rfl]
    · have hkl : k < wy (bl mask).length := by omega
      obtain ⟨hu, hp⟩ := hu1 hkl
      have n1 : ¬ (105 : Int32) ≤ nI k := fun q => absurd ((nI_leI (a := 105) (by omega) (by omega)).mp q) (by omega)
      have n2 : ¬ nI (wy (bl mask).length) ≤ nI k := fun q => absurd ((nI_leI (by omega) (by omega)).mp q) (by omega)
      rw [hu, if_neg n1, if_neg i10, if_neg n2]
      obtain ⟨on1, a1, a2, a3⟩ := cost_ok hm hr hc he hkl w T hp
      have hom : om 0 0 = nI mask := by rw [hF 0 (by omega) (by omega)]; exact hr
      unfold F_X6_tie
      rw [jn_eq, hom]
      obtain ⟨om1, c1, c2, c3, -⟩ := mtie_ok (fun (om2 : Ob) => some om2) 4 2000 mask k (wy (bl mask).length) om hm he hkl rfl (by omega) (by omega)
      obtain ⟨hs1, hs2⟩ := pr_dec hm he hkl
      obtain ⟨hs3, hs4⟩ := pr2_ok hm he hkl
      have c4 := mtied_ok hm (show om1 0 0 = nI mask by rw [c2 0 (by omega)]; exact hom) hc c3 hs2 w (fun (v2 : Int32) => some v2) 2000 0 0 0 rfl (by omega) (by omega)
      have hs1' : scan mask (pr 4 mask k (wy (bl mask).length)) (8 - 0) 0 = pr 4 mask k (wy (bl mask).length) := hs1
      rw [hs1'] at c4
      obtain ⟨c, d0, d1, d2, d3⟩ := fold_eq w (fun a b => if T (8 * a + b) = -6 then 100000 else T (8 * a + b)) (fun a b => om1 22 (8 * a + b)) (pr 4 mask k (wy (bl mask).length)) 0 (fun p hp => by
        obtain ⟨p1, p2, p3, p4, p5⟩ := hs3 p hp
        obtain ⟨t, t0, t1, t2, t3⟩ := hT p.1 p.2 p1 p2 p3 p4 p5
        exact ⟨t, t0, t1, t2, by
          show om1 22 (8 * p.1 + p.2) = iI t
          rw [c2 22 (by omega), hF 22 (by omega) (by omega)]; exact t3⟩) (by omega) (by omega)
      have d2' : List.foldl (csC w (fun a b => if T (8 * a + b) = -6 then 100000 else T (8 * a + b))) 0 (pr 4 mask k (wy (bl mask).length)) = iI c := d2
      have d3' : List.foldl (cs w (fun a b => om1 22 (8 * a + b))) 0 (pr 4 mask k (wy (bl mask).length)) = iI c := d3
      rw [d2'] at a1
      rw [d3'] at c4
      have hc6 : c ≤ 400000 := by omega
      rw [c1, bsome]
      unfold F_X6_tiedBy
      rw [jn_eq, c4, bsome, a1, bsome, jn_eq]
      dsimp only
      have F1 : FrK om0 om1 := fun q h1 h2 => (c2 q h1).trans (hF q h1 h2)
      have h41 : on1 4 0 = nI (bl mask).length := by rw [a2 4 (by omega) (by omega)]; exact h4
      have p1 : ∀ j, j < 4 → on1 0 j = nI (dig j (bl mask).length k (wy (bl mask).length)) := fun j hj => by rw [a2 0 (by omega) (by omega)]; exact hp j hj
      have go : ∀ (onA omA : Ob) (xA : Int32), FrK om0 omA → onA 4 0 = nI (bl mask).length → (∀ j, j < 4 → onA 0 j = nI (dig j (bl mask).length k (wy (bl mask).length))) → (∀ onB, (∀ q, q ≠ 0 → onB q = onA q) → Lst mask (k + 1) onB omA xA) →
          ∃ on' om' x', (F_X2_goToNextPicks onA).bind (fun q18 => dd (nI (k + 1)) (fun (v19 : Int32) => L_X2_seek_43 f w oc T q18.1 v19 q18.2 K6)) = K6 on' ∧ L_X6_tied_108 f (nI (wy (bl mask).length)) w xA (nI (k + 1)) omA K13 = K13 x' om' ∧ Lst mask (wy (bl mask).length) on' om' x' ∧ FrK om0 om' := by
        intro onA omA xA gF g4 gp gL
        obtain ⟨r, onB, n1, n2, n3⟩ := next_picks b1 he h0 hkl g4 gp
        rw [n1, bsome, dd_eq]
        refine ih (k + 1) r (nI (k + 1)) xA onB omA rfl (by omega) (by omega) gF (by rw [n2 4 (by omega)]; exact g4) (gL onB n2) (fun h => ?_) (fun h => ?_)
        · rcases n3 with ⟨-, h1⟩ | ⟨h1, -⟩
          · exact h1
          · omega
        · rcases n3 with ⟨h1, -⟩ | ⟨-, h1, h2⟩
          · omega
          · exact ⟨h1, h2⟩
      have o5 : on1 5 0 = on 5 0 := by rw [a2 5 (by omega) (by omega)]
      have keep : on1 5 0 ≤ iI c ↔ x ≤ iI c := by
        rw [o5]
        rcases hL with ⟨-, l1, l2⟩ | ⟨c', l0, l1, l2, l3, -⟩
        · rw [l1, l2]
          have y1 : ¬ (400001 : Int32) ≤ iI c := fun q => by
            rw [Int32.le_iff_toInt_le, iI_toInt (by omega) (by omega)] at q
            have : (400001 : Int32).toInt = 400001 := by decide
            omega
          have y2 : ¬ (1000000000 : Int32) ≤ iI c := fun q => absurd ((iI_le (a := 1000000000) (by omega)).mp q) (by omega)
          exact ⟨fun q => absurd q y1, fun q => absurd q y2⟩
        · rw [l2, l3]
      by_cases cc : x ≤ iI c
      · rw [if_pos (keep.mpr cc), if_pos cc]
        rw [dd_eq, nI_1]
        refine go on1 om1 x F1 h41 p1 (fun onB hB => ?_)
        rcases hL with ⟨-, l1, l2⟩ | ⟨c', l0, l1, l2, l3, l4⟩
        · rw [l2] at cc
          exact absurd ((iI_le (a := 1000000000) (by omega)).mp cc) (by omega)
        · exact Or.inr ⟨c', l0, l1, by rw [hB 5 (by omega), o5]; exact l2, l3, fun i hi ht => by rw [hB 3 (by omega), a2 3 (by omega) (by omega), c2 24 (by omega)]; exact l4 i hi ht⟩
      · rw [if_neg (fun q => cc (keep.mp q)), if_neg cc, jn_eq]
        obtain ⟨om2, g1, g2, g3, -⟩ := copy24 (fun (om29 : Ob) => dd (nI k + 1) (fun (v30 : Int32) => L_X6_tied_108 f (nI (wy (bl mask).length)) w (iI c) v30 om29 K13)) 2000 0 0 om1 rfl (by omega) (by omega)
        rw [g1, dd_eq, dd_eq, dd_eq, nI_1]
        refine go (sO (sO on1 5 (cst (iI c))) 3 (va_cpy (sO on1 5 (cst (iI c)) 2) (sO on1 5 (cst (iI c)) 3) (0 : Int32).toNatClampNeg (0 : Int32).toNatClampNeg (8 : Int32).toNatClampNeg)) om2 (iI c) (fun q h1 h2 => (g2 q h2).trans (F1 q h1 h2)) (by rw [sO_ne _ _ _ _ (by decide), sO_ne _ _ _ _ (by decide)]; exact h41) (fun j hj => by rw [sO_ne _ _ _ _ (by decide), sO_ne _ _ _ _ (by decide)]; exact p1 j hj) (fun onB hB => ?_)
        refine Or.inr ⟨c, d0, by omega, by rw [hB 5 (by omega), sO_ne _ _ _ _ (by decide), sO_eq]; rfl, rfl, fun i hi ht => ?_⟩
        have z0 : (0 : Int32).toNatClampNeg = 0 := by decide
        have z8 : (8 : Int32).toNatClampNeg = 8 := by decide
        rw [hB 3 (by omega), sO_eq, z0, z8, pk_cpy_in (by omega) (by omega), sO_ne _ _ _ _ (by decide), g3 i (by omega) hi, c3 i hi ht]
        have := a3 i hi ht
        rw [show 0 + (i - 0) = i by omega]
        exact this
theorem eq_tied (oc : Ob) (oy : Ob) (oz : Ob) (ok : (Nat → Int32)) (of : Ob) (ow : Ob) (on : Ob) (ot : (Nat → Int32)) (om : Ob) (p0 p1 p2 : Int32) (hI : Inv oc oy oz ok of om) : ∃ (r : Int32) (ow' : Ob) (on' : Ob) (ot' : (Nat → Int32)) (om' : Ob), F_X5_tied oc ow on ot p0 p1 p2 = some (r, ow', on', ot') ∧ F_X6_tied om p0 p1 p2 = some (r, om') ∧ Inv oc oy oz ok of om' := by
  have hC := hI.1
  obtain ⟨mask, hm, hr, hb, ha, hg, -⟩ := id hC
  obtain ⟨n, hn, k1, k2⟩ := count_eq hm hb
  obtain ⟨b1, b2, -⟩ := bl_dec mask hm
  rw [k2] at b2
  have hnl := nI_inj (by omega) (by omega) (Option.some.inj b2)
  unfold F_X5_tied F_X6_tied
  rw [in_if p1 0 1 (A := 0) (B := 1) rfl rfl, k1, hr, k2, bsome, bsome]
  by_cases hz : n = 0
  · subst hz
    rw [if_pos (show nI 0 = (0 : Int32) from rfl), if_pos (show nI 0 = (0 : Int32) from rfl)]
    exact ⟨-3, ow, on, ot, om, rfl, rfl, hI⟩
  · have nz : ¬ nI n = (0 : Int32) := fun q => hz ((nI_eq (b := 0) (by omega) (by omega)).mp q)
    have em : nI n - nI n / 2 * 2 = nI (n % 2) := by rw [show (2 : Int32) = nI 2 from rfl, pk_rem (by omega) (by omega) (by omega)]
    rw [if_neg nz, if_neg nz, dd_eq, dd_eq, em]
    rcases (show n % 2 = 0 ∨ n % 2 = 1 by omega) with he | he
    · rw [he, if_pos (show nI 0 = (0 : Int32) from rfl), if_neg (show ¬ nI 0 = (1 : Int32) by decide), jn_eq, jn_eq]
      have core : (p2 = -1 ∨ ∃ i, i < 8 ∧ p2 = nI i ∧ mask.testBit i = true) → ∃ (r : Int32) (ow' : Ob) (on' : Ob) (ot' : (Nat → Int32)) (om' : Ob), (F_X5_isFeet p0).bind (fun q6 => (if q6 = 0 then some ((-2), ow, on, ot) else (F_X5_isWithin p1 0 1).bind (fun q8 => (if q8 = 0 then some ((-2), ow, on, ot) else (F_X5_timeAllPairs oc ow ot p0).bind (fun q10 => jn (fun (v12 : Int32) => (F_X2_seek on oc q10.2 v12).bind (fun q13 => (if p2 = (-1) then some ((q13 5 0), q10.1, q13, q10.2) else ck p2 8 (some (((q13 3) (p2).toNatClampNeg), q10.1, q13, q10.2))))) (fun (K11 : Int32 → Option (Int32 × Ob × Ob × (Nat → Int32))) => (if p1 = 1 then K11 1 else K11 0))))))) = some (r, ow', on', ot') ∧
          (F_X6_isFar p0).bind (fun q6 => (if q6 = 0 then some ((-2), om) else (F_X5_isWithin p1 0 1).bind (fun q8 => (if q8 = 0 then some ((-2), om) else (F_X6_findTimes om p0).bind (fun q10 => jn (fun (v12 : Int32) => jn (fun (v14 : Int32) (om15 : Ob) => (if p2 = (-1) then some (v14, om15) else ck p2 8 (some (((om15 24) (p2).toNatClampNeg), om15)))) (fun (K13 : Int32 → Ob → Option (Int32 × Ob)) => L_X6_tied_108 2000 v12 p1 1000000000 0 q10 K13)) (fun (K11 : Int32 → Option (Int32 × Ob)) => (if nI n = 2 then K11 1 else (if nI n = 4 then K11 3 else (if nI n = 6 then K11 15 else K11 105))))))))) = some (r, om') ∧ Inv oc oy oz ok of om' := by
        intro hp2
        rcases feet_or p0 with ⟨g, g1, g2, rfl, e3, e4⟩ | ⟨e3, e4⟩
        · rw [e3, e4, bsome, bsome, if_neg i10, if_neg i10]
          rcases rng p1 0 1 0 1 rfl rfl (by omega) (by omega) with ⟨w, -, hw, rfl, e5⟩ | e5
          · rw [e5, bsome, bsome, if_neg i10, if_neg i10]
            obtain ⟨w', T, t1, t2⟩ := table_ok hC g1 g2 ow ot
            obtain ⟨m1, u1, u2, u3⟩ := mtable_ok hC g2
            rw [t1, u1, bsome, bsome, jn_eq, jn_eq]
            have hww : (if nI w = 1 then (F_X2_seek on oc T 1).bind (fun q13 => (if p2 = (-1) then some ((q13 5 0), w', q13, T) else ck p2 8 (some (((q13 3) (p2).toNatClampNeg), w', q13, T)))) else (F_X2_seek on oc T 0).bind (fun q13 => (if p2 = (-1) then some ((q13 5 0), w', q13, T) else ck p2 8 (some (((q13 3) (p2).toNatClampNeg), w', q13, T))))) = (F_X2_seek on oc T (nI w)).bind (fun q13 => (if p2 = (-1) then some ((q13 5 0), w', q13, T) else ck p2 8 (some (((q13 3) (p2).toNatClampNeg), w', q13, T)))) := by
              rcases (show w = 0 ∨ w = 1 by omega) with rfl | rfl
              · rw [if_neg (show ¬ nI 0 = (1 : Int32) by decide), show nI 0 = (0 : Int32) from rfl]
              · rw [if_pos (show nI 1 = (1 : Int32) by decide), show nI 1 = (1 : Int32) from rfl]
            dsimp only
            rw [hww]
            have hway : ∀ (K11 : Int32 → Option (Int32 × Ob)), (if nI n = 2 then K11 1 else (if nI n = 4 then K11 3 else (if nI n = 6 then K11 15 else K11 105))) = K11 (nI (wy n)) := by
              intro K11
              rcases (show n = 2 ∨ n = 4 ∨ n = 6 ∨ n = 8 by omega) with h | h | h | h
              · rw [h, if_pos (show nI 2 = (2 : Int32) from rfl)]; rfl
              · rw [h, if_neg (show ¬ nI 4 = (2 : Int32) by decide), if_pos (show nI 4 = (4 : Int32) from rfl)]; rfl
              · rw [h, if_neg (show ¬ nI 6 = (2 : Int32) by decide), if_neg (show ¬ nI 6 = (4 : Int32) by decide), if_pos (show nI 6 = (6 : Int32) from rfl)]; rfl
              · rw [h, if_neg (show ¬ nI 8 = (2 : Int32) by decide), if_neg (show ¬ nI 8 = (4 : Int32) by decide), if_neg (show ¬ nI 8 = (6 : Int32) by decide)]; rfl
            rw [hway (fun (v12 : Int32) => jn (fun (v14 : Int32) (om15 : Ob) => (if p2 = (-1) then some (v14, om15) else ck p2 8 (some (((om15 24) (p2).toNatClampNeg), om15)))) (fun (K13 : Int32 → Ob → Option (Int32 × Ob)) => L_X6_tied_108 2000 v12 (nI w) 1000000000 0 m1 K13)), jn_eq]
            unfold F_X2_seek
            rw [k1, bsome, dd_eq, jn_eq]
            obtain ⟨on1, s1, s2, s3, -⟩ := ones_ok (fun (on4 : Ob) => dd (sO on4 5 (cst 400001)) (fun (on5 : Ob) => jn (fun (on7 : Ob) => some on7) (fun (K6 : Ob → Option (Ob)) => L_X2_seek_43 2000 (nI w) oc T 1 0 on5 K6))) 2000 0 0 (sO on 4 (cst (nI n))) rfl (by omega) (by omega)
            rw [s1, dd_eq, jn_eq, hnl]
            have hT : ∀ x y, x < 8 → y < 8 → x ≠ y → mask.testBit x = true → mask.testBit y = true → ∃ t : Int, 0 ≤ t ∧ t ≤ 100000 ∧ (if T (8 * x + y) = -6 then 100000 else T (8 * x + y)) = iI t ∧ m1 22 (8 * x + y) = iI t := by
              intro x y hx hy hne hbx hby
              have r1 := bit_run hb hx hbx
              have r2 := bit_run hb hy hby
              have hG := pij_G hC hx hy r1 r2
              rw [Tb_end t2 hx hy hne r1 r2, u2 x y hx hy hne r1 r2]
              cases hTT : TT (pij oc x y) 1000 g with
              | none => exact ⟨100000, by omega, by omega, by rw [if_pos (show cT none = (-6 : Int32) from rfl)]; rfl, rfl⟩
              | some t =>
                have hbt := TT_bd hG hTT
                exact ⟨t, hbt.1, TT_100 hG g1 hTT, by rw [if_neg (show ¬ cT (some t) = (-6 : Int32) from cT_ne hbt)]; rfl, rfl⟩
            have hr1 : m1 0 0 = nI mask := by rw [u3 0 (by omega)]; exact hr
            obtain ⟨on', om', x', f1, f2, f3, f4⟩ := seek_loop hm hr1 hb (by rw [← hnl]; exact he) (by rw [← hnl]; exact hz) (nI w) T hT (fun (on7 : Ob) => some on7) (fun (v14 : Int32) (om15 : Ob) => (if p2 = (-1) then some (v14, om15) else ck p2 8 (some (((om15 24) (p2).toNatClampNeg), om15)))) 2000 0 1 0 1000000000 (sO on1 5 (cst 400001)) m1 rfl (by omega) (by
              have : wy (bl mask).length ≤ 105 := by
                unfold wy
                split
                · omega
                · split
                  · omega
                  · split <;> omega
              omega) (fun _ _ _ => rfl) (by rw [sO_ne _ _ _ _ (by decide), s2 4 (by omega), sO_eq, ← hnl]; rfl) (Or.inl ⟨rfl, by rw [sO_eq]; rfl, rfl⟩) (fun h => absurd h (by
              unfold wy
              split
              · omega
              · split
                · omega
                · split <;> omega)) (fun _ => ⟨rfl, fun j hj => by rw [sO_ne _ _ _ _ (by decide), s3 j (by omega) hj, dig0]; rfl⟩)
            rw [f1, f2, bsome]
            have hI' : Inv oc oy oz ok of om' := Inv_fr (fun k hk => (f4 k (by omega) (by omega)).trans (u3 k (by omega))) hI
            rcases f3 with ⟨z, -⟩ | ⟨c, l0, l1, l2, l3, l4⟩
            · exact absurd z (by
                unfold wy
                split
                · omega
                · split
                  · omega
                  · split <;> omega)
            · rcases hp2 with rfl | ⟨i, hi, rfl, hbi⟩
              · rw [if_pos rfl, if_pos rfl, l2, l3]
                exact ⟨_, w', on', T, om', rfl, rfl, hI'⟩
              · rw [if_neg (show ¬ nI i = (-1 : Int32) by rw [nI_iI]; exact fun q => absurd ((iI_eq (b := -1) (by omega)).mp q) (by omega)), if_neg (show ¬ nI i = (-1 : Int32) by rw [nI_iI]; exact fun q => absurd ((iI_eq (b := -1) (by omega)).mp q) (by omega)), ck_ok (by omega) (by omega), ck_ok (by omega) (by omega), nI_cl (by omega), l4 i hi hbi]
                exact ⟨_, w', on', T, om', rfl, rfl, hI'⟩
          · rw [e5, bsome, bsome, if_pos rfl, if_pos rfl]
            exact ⟨-2, ow, on, ot, om, rfl, rfl, hI⟩
        · rw [e3, e4, bsome, bsome, if_pos rfl, if_pos rfl]
          exact ⟨-2, ow, on, ot, om, rfl, rfl, hI⟩
      by_cases z1 : p2 = (-1)
      · rw [if_pos z1, if_pos z1]
        exact core (Or.inl z1)
      · rw [if_neg z1, if_neg z1]
        rcases runs_or hm hr hb p2 with ⟨i, hi, e, hbi, h1, h2⟩ | ⟨h1, h2⟩
        · rw [h1, h2, bsome, bsome, if_neg i10, if_neg i10]
          exact core (Or.inr ⟨i, hi, e, hbi⟩)
        · rw [h1, h2, bsome, bsome, if_pos rfl, if_pos rfl]
          exact ⟨-1, ow, on, ot, om, rfl, rfl, hI⟩
    · rw [he, if_neg (show ¬ nI 1 = (0 : Int32) by decide), if_pos (show nI 1 = (1 : Int32) from rfl)]
      exact ⟨-3, ow, on, ot, om, rfl, rfl, hI⟩
