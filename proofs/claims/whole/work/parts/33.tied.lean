/-! tied. -/
theorem down_ok {n : Nat} (hn : n ≤ 8) : ∀ (c fuel : Nat) (on : Ob) (p : Nat → Nat) (v : Int32), v = iI ((c : Int) - 1) → 2 * c ≤ n → c < fuel → on 4 0 = nI n → (∀ j, j < 4 → on 0 j = nI (p j)) → (∀ j, j < 4 → p j < 1000) →
    (nxp c n p = none → ∃ on', L_X2_goToNextPicks_9 fuel v on (fun (v4 : Int32) (on5 : Ob) => ck v4 4 (dd (((on5 0) (v4).toNatClampNeg) + 1) (fun (v7 : Int32) => ck v4 4 (dd (sO on5 0 (upd (on5 0) (v4).toNatClampNeg v7)) (fun (on9 : Ob) => some (1, on9)))))) = some (0, on') ∧ ∀ q, q ≠ 0 → on' q = on q) ∧
    (∀ q, nxp c n p = some q → ∃ on', L_X2_goToNextPicks_9 fuel v on (fun (v4 : Int32) (on5 : Ob) => ck v4 4 (dd (((on5 0) (v4).toNatClampNeg) + 1) (fun (v7 : Int32) => ck v4 4 (dd (sO on5 0 (upd (on5 0) (v4).toNatClampNeg v7)) (fun (on9 : Ob) => some (1, on9)))))) = some (1, on') ∧ (∀ q, q ≠ 0 → on' q = on q) ∧ ∀ j, j < 4 → on' 0 j = nI (q j)) := by
  intro c
  induction c with
  | zero =>
    intro fuel on p v hv hc hf h4 hp hpb
    cases fuel with
    | zero => omega
    | succ fuel =>
      rw [L_X2_goToNextPicks_9.eq_2, hv, if_pos (show iI (((0 : Nat) : Int) - 1) < (0 : Int32) by decide)]
      exact ⟨fun _ => ⟨on, rfl, fun _ _ => rfl⟩, fun q h => by cases h⟩
  | succ c ih =>
    intro fuel on p v hv hc hf h4 hp hpb
    have hv' : v = nI c := by
      rw [hv, nI_iI, show (((c + 1 : Nat) : Int) - 1) = (c : Int) by omega]
    subst hv'
    cases fuel with
    | zero => omega
    | succ fuel =>
      have h0 : ¬ nI c < (0 : Int32) := fun q => absurd ((nI_ltI (b := 0) (by omega) (by omega)).mp q) (by omega)
      have es : nI n - (2 : Int32) * nI c - 1 = nI (n - 2 * c - 1) := by
        rw [show (2 : Int32) = nI 2 from rfl, pk_mul, pk_sub (by omega), nI_1s (by omega)]
      have em : nI c + (-1) = iI ((c : Int) - 1) := by
        rw [nI_iI, show (-1 : Int32) = iI (-1) from rfl, iI_add, show (c : Int) + -1 = (c : Int) - 1 by omega]
      have hpc := hpb c (by omega)
      rw [L_X2_goToNextPicks_9.eq_2, if_neg h0]
      simp only [dd]
      rw [ck_ok (by omega) (by omega), h4, es, nI_cl (by omega), hp c (by omega), em]
      show ((if n - 2 * c - 1 ≤ p c then nxp c n (fun i => if i = c then 1 else p i) else some (fun i => if i = c then p c + 1 else p i)) = none → _) ∧ (∀ q, (if n - 2 * c - 1 ≤ p c then nxp c n (fun i => if i = c then 1 else p i) else some (fun i => if i = c then p c + 1 else p i)) = some q → _)
      by_cases cc : n - 2 * c - 1 ≤ p c
      · rw [if_pos cc, if_pos ((nI_leI (by omega) (by omega)).mpr cc), ck_ok (by omega) (by omega)]
        obtain ⟨i1, i2⟩ := ih fuel (sO on 0 (upd (on 0) c 1)) (fun i => if i = c then 1 else p i) (iI ((c : Int) - 1)) rfl (by omega) (by omega) (by rw [sO_ne _ _ _ _ (by decide)]; exact h4) (fun j hj => by
          rw [sO_eq, upd_at]
          by_cases e : j = c
          · rw [if_pos e]; show (1 : Int32) = nI (if j = c then 1 else p j); rw [if_pos e]; rfl
          · rw [if_neg e]; show on 0 j = nI (if j = c then 1 else p j); rw [if_neg e]; exact hp j hj) (fun j hj => by
          show (if j = c then 1 else p j) < 1000
          split
          · omega
          · exact hpb j hj)
        refine ⟨fun h => ?_, fun q h => ?_⟩
        · obtain ⟨on', a1, a2⟩ := i1 h
          exact ⟨on', a1, fun q hq => by rw [a2 q hq, sO_ne _ _ _ _ hq]⟩
        · obtain ⟨on', a1, a2, a3⟩ := i2 q h
          exact ⟨on', a1, fun q hq => by rw [a2 q hq, sO_ne _ _ _ _ hq], a3⟩
      · rw [if_neg cc, if_neg (fun q => cc ((nI_leI (by omega) (by omega)).mp q))]
        refine ⟨fun h => (by cases h), fun q h => ?_⟩
        have hq : q = fun i => if i = c then p c + 1 else p i := (Option.some.inj h).symm
        rw [ck_ok (by omega) (by omega), ck_ok (by omega) (by omega), nI_1]
        refine ⟨_, rfl, fun r hr => sO_ne _ _ _ _ hr, fun j hj => ?_⟩
        rw [sO_eq, upd_at, hq]
        show _ = nI (if j = c then p c + 1 else p j)
        by_cases e : j = c
        · rw [if_pos e, if_pos e]
        · rw [if_neg e, if_neg e]
          exact hp j hj
theorem nx_at {n k : Nat} (h8 : n ≤ 8) (h2 : n % 2 = 0) (h0 : n ≠ 0) (hk : k < wy n) :
    ((nxp (n / 2) n (fun j => dig j n k (wy n)) = none ∧ k + 1 = wy n) ∨ (∃ q, nxp (n / 2) n (fun j => dig j n k (wy n)) = some q ∧ k + 1 < wy n ∧ ∀ j, j < 4 → q j = dig j n (k + 1) (wy n))) ∧ ∀ j, j < 4 → dig j n k (wy n) < 1000 := by
  have ha : nxall n = true := by
    obtain ⟨q1, q2, q3, q4⟩ := nx_dec
    rcases (show n = 2 ∨ n = 4 ∨ n = 6 ∨ n = 8 by omega) with rfl | rfl | rfl | rfl
    · exact q1
    · exact q2
    · exact q3
    · exact q4
  unfold nxall at ha
  rw [List.all_eq_true] at ha
  have h := ha k (List.mem_range.mpr hk)
  unfold nxo at h
  rw [Bool.and_eq_true, List.all_eq_true] at h
  refine ⟨?_, fun j hj => ?_⟩
  · have h1 := h.1
    cases hN : nxp (n / 2) n (fun j => dig j n k (wy n)) with
    | none =>
      rw [hN] at h1
      exact Or.inl ⟨rfl, Nat.eq_of_beq_eq_true h1⟩
    | some q =>
      rw [hN] at h1
      have h1' : (Nat.blt (k + 1) (wy n) && (List.range 4).all (fun j => Nat.beq (q j) (dig j n (k + 1) (wy n)))) = true := h1
      rw [Bool.and_eq_true, List.all_eq_true] at h1'
      exact Or.inr ⟨q, rfl, Nat.le_of_ble_eq_true h1'.1, fun j hj => Nat.eq_of_beq_eq_true (h1'.2 j (List.mem_range.mpr hj))⟩
  · have h3 := h.2 j (List.mem_range.mpr hj)
    rw [Bool.and_eq_true] at h3
    have := Nat.le_of_ble_eq_true h3.2
    omega
theorem next_picks {n k : Nat} (h8 : n ≤ 8) (h2 : n % 2 = 0) (h0 : n ≠ 0) (hk : k < wy n) {on : Ob} (h4 : on 4 0 = nI n) (hp : ∀ j, j < 4 → on 0 j = nI (dig j n k (wy n))) :
    ∃ (r : Int32) (on' : Ob), F_X2_goToNextPicks on = some (r, on') ∧ (∀ q, q ≠ 0 → on' q = on q) ∧ ((k + 1 = wy n ∧ r = 0) ∨ (k + 1 < wy n ∧ r = 1 ∧ ∀ j, j < 4 → on' 0 j = nI (dig j n (k + 1) (wy n)))) := by
  obtain ⟨h, hb⟩ := nx_at h8 h2 h0 hk
  unfold F_X2_goToNextPicks
  have e1 : nI n / 2 - 1 = iI (((n / 2 : Nat) : Int) - 1) := by
    rw [show (2 : Int32) = nI 2 from rfl, pk_div (by omega) (by omega) (by omega), nI_iI, show (1 : Int32) = iI 1 from rfl, iI_sub]
  rw [dd_eq, dd_eq, jn_eq, h4, e1]
  obtain ⟨a1, a2⟩ := down_ok h8 (n / 2) 2000 on (fun j => dig j n k (wy n)) _ rfl (by omega) (by omega) h4 hp hb
  rcases h with ⟨b1, b2⟩ | ⟨q, b1, b2, b3⟩
  · obtain ⟨on', c1, c2⟩ := a1 b1
    exact ⟨0, on', c1, c2, Or.inl ⟨b2, rfl⟩⟩
  · obtain ⟨on', c1, c2, c3⟩ := a2 q b1
    exact ⟨1, on', c1, c2, Or.inr ⟨b2, rfl, fun j hj => by rw [c3 j hj, b3 j hj]⟩⟩
theorem cost_ok {c om : Ob} {mask : Nat} (hm : mask < 256) (hr : om 0 0 = nI mask) (hc : ∀ i, i < 8 → c 0 i = if mask.testBit i then 1 else 0) (he : (bl mask).length % 2 = 0) {k : Nat} (hk : k < wy (bl mask).length) (w : Int32) (ot : Nat → Int32) {on : Ob} (hp : ∀ j, j < 4 → on 0 j = nI (dig j (bl mask).length k (wy (bl mask).length))) :
    ∃ on', F_X2_costOfPicks on c ot w = some ((pr 4 mask k (wy (bl mask).length)).foldl (csC w (fun a b => if ot (8 * a + b) = -6 then 100000 else ot (8 * a + b))) 0, on') ∧ (∀ q, q ≠ 1 → q ≠ 2 → on' q = on q) ∧ (∀ i, i < 8 → mask.testBit i = true → on' 2 i = nI (mt (pr 4 mask k (wy (bl mask).length)) i)) := by
  obtain ⟨b1, -⟩ := bl_dec mask hm
  unfold F_X2_costOfPicks F_X2_lineUp
  rw [jn_eq]
  obtain ⟨on1, a1, a2, a3⟩ := line_ok hm hr hc (fun (v2 : Int32) (on3 : Ob) => some (v2, on3)) 2000 0 0 0 on rfl rfl (by omega) (by omega) (fun j hj => absurd hj (by show ¬ j < 0; omega))
  rw [a1, bsome, jn_eq]
  obtain ⟨on2, c1, c2, c3, -⟩ := picks_ok w ot (fun (v3 : Int32) (on4 : Ob) => some (v3, on4)) 4 2000 0 mask k (wy (bl mask).length) _ 0 0 on1 rfl rfl hm he hk rfl (by omega) (by omega) (by omega) a3 (fun i hi => by rw [a2 0 (by omega), Nat.zero_add]; exact hp i (by omega))
  have c1' : L_X2_costOfPicks_13 2000 w ot (nI (bl mask).length) 0 0 on1 (fun (v3 : Int32) (on4 : Ob) => some (v3, on4)) = _ := c1
  dsimp only
  rw [c1']
  exact ⟨on2, rfl, fun q h1 h2 => (c2 q h1 h2).trans (a2 q h1), c3⟩
theorem fold_eq (w : Int32) (tc tm : Nat → Nat → Int32) : ∀ (P : List (Nat × Nat)) (x : Int), (∀ p, p ∈ P → ∃ t : Int, 0 ≤ t ∧ t ≤ 100000 ∧ tc p.1 p.2 = iI t ∧ tm p.1 p.2 = iI t) → 0 ≤ x → x + 100000 * P.length ≤ 1000000 →
    ∃ c : Int, 0 ≤ c ∧ c ≤ x + 100000 * P.length ∧ P.foldl (csC w tc) (iI x) = iI c ∧ P.foldl (cs w tm) (iI x) = iI c := by
  intro P
  induction P with
  | nil => intro x _ h0 _; exact ⟨x, h0, by show x ≤ x + 100000 * ((0 : Nat) : Int); omega, rfl, rfl⟩
  | cons p P ih =>
    intro x hP h0 hb
    obtain ⟨t, t0, t1, t2, t3⟩ := hP p (List.mem_cons_self ..)
    have hlen : ((p :: P).length : Int) = P.length + 1 := by rw [List.length_cons]; omega
    rw [hlen] at hb ⊢
    rw [List.foldl_cons, List.foldl_cons]
    have hc : csC w tc (iI x) p = iI (if w = 0 then x + t else if x < t then t else x) := by
      show (if w = 0 then iI x + tc p.1 p.2 else if iI x < tc p.1 p.2 then tc p.1 p.2 else iI x) = _
      rw [t2]
      by_cases e : w = 0
      · rw [if_pos e, if_pos e, iI_add]
      · rw [if_neg e, if_neg e]
        by_cases d : x < t
        · rw [if_pos d, if_pos ((iI_lt (by omega)).mpr d)]
        · rw [if_neg d, if_neg (fun q => d ((iI_lt (by omega)).mp q))]
    have hm : cs w tm (iI x) p = iI (if w = 0 then x + t else if x < t then t else x) := by
      show (if w = 0 then iI x + tm p.1 p.2 else if tm p.1 p.2 ≤ iI x then iI x else tm p.1 p.2) = _
      rw [t3]
      by_cases e : w = 0
      · rw [if_pos e, if_pos e, iI_add]
      · rw [if_neg e, if_neg e]
        by_cases d : x < t
        · rw [if_pos d, if_neg (fun q => absurd ((iI_le (by omega)).mp q) (by omega))]
        · rw [if_neg d, if_pos ((iI_le (by omega)).mpr (by omega))]
    have hx : 0 ≤ (if w = 0 then x + t else if x < t then t else x) ∧ (if w = 0 then x + t else if x < t then t else x) ≤ x + 100000 := by
      split
      · omega
      · split <;> omega
    rw [hc, hm]
    generalize (if w = 0 then x + t else if x < t then t else x) = y at hx ⊢
    obtain ⟨c, c0, c1, c2, c3⟩ := ih y (fun p hp => hP p (List.mem_cons_of_mem _ hp)) hx.1 (by omega)
    exact ⟨c, c0, by omega, c2, c3⟩
def pr2o (mask k : Nat) : Bool := (pr 4 mask k (wy (bl mask).length)).all (fun p => Nat.blt p.1 8 && (Nat.blt p.2 8 && (!(Nat.beq p.1 p.2) && (mask.testBit p.1 && mask.testBit p.2)))) && Nat.ble (pr 4 mask k (wy (bl mask).length)).length 4
def pr2all (mask : Nat) : Bool := if (bl mask).length % 2 = 0 then (List.range (wy (bl mask).length)).all (fun k => pr2o mask k) else true
theorem pr2_dec : ∀ mask, mask < 256 → pr2all mask = true := by decide +kernel
theorem pr2_ok {mask : Nat} (hm : mask < 256) (he : (bl mask).length % 2 = 0) {k : Nat} (hk : k < wy (bl mask).length) : (∀ p, p ∈ pr 4 mask k (wy (bl mask).length) → p.1 < 8 ∧ p.2 < 8 ∧ p.1 ≠ p.2 ∧ mask.testBit p.1 = true ∧ mask.testBit p.2 = true) ∧ (pr 4 mask k (wy (bl mask).length)).length ≤ 4 := by
  have h := pr2_dec mask hm
  unfold pr2all at h
  rw [if_pos he, List.all_eq_true] at h
  have h2 := h k (List.mem_range.mpr hk)
  unfold pr2o at h2
  rw [Bool.and_eq_true, List.all_eq_true] at h2
  refine ⟨fun p hp => ?_, Nat.le_of_ble_eq_true h2.2⟩
  have h3 := h2.1 p hp
  simp only [Bool.and_eq_true] at h3
  obtain ⟨q1, q2, q3, q4, q5⟩ := h3
  refine ⟨Nat.le_of_ble_eq_true q1, Nat.le_of_ble_eq_true q2, ?_, q4, q5⟩
  intro e
  rw [e, Nat.beq_refl] at q3
  exact absurd q3 (by decide)
theorem copy24 (K : Ob → Option (Int32 × Ob)) : ∀ (f i : Nat) (v : Int32) (m : Ob), v = nI i → i ≤ 8 → 8 - i < f → ∃ m', L_X6_tied_144 f v m K = K m' ∧ (∀ q, q ≠ 24 → m' q = m q) ∧ (∀ j, i ≤ j → j < 8 → m' 24 j = m 23 j) ∧ (∀ j, j < i → m' 24 j = m 24 j) := by
  intro f
  induction f with
  | zero => intro i v m _ _ h; exact absurd h (by omega)
  | succ f ih =>
    intro i v m hv hi hf
    subst hv
    rw [L_X6_tied_144.eq_2]
    by_cases h8 : i = 8
    · subst h8
      rw [if_pos (show (8 : Int32) ≤ nI 8 by decide)]
      exact ⟨m, rfl, fun _ _ => rfl, fun j h1 h2 => absurd h2 (by omega), fun _ _ => rfl⟩
    · have h : ¬ (8 : Int32) ≤ nI i := fun q => absurd ((nI_leI (a := 8) (by omega) (by omega)).mp q) (by omega)
      rw [if_neg h, ck_ok (by omega) (by omega), ck_ok (by omega) (by omega), nI_cl (by omega)]
      simp only [dd, nI_1]
      obtain ⟨m', e1, e2, e3, e4⟩ := ih (i + 1) _ (sO m 24 (upd (m 24) i (m 23 i))) rfl (by omega) (by omega)
      rw [e1]
      refine ⟨m', rfl, fun q hq => by rw [e2 q hq, sO_ne _ _ _ _ hq], fun j h1 h2 => ?_, fun j hj => ?_⟩
      · by_cases e : j = i
        · rw [e4 j (by omega), sO_eq, upd_at, if_pos e, e]
        · rw [e3 j (by omega) h2, sO_ne _ _ _ _ (by decide)]
      · rw [e4 j (by omega), sO_eq, upd_at, if_neg (by omega)]
