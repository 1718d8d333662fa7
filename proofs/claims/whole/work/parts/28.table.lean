/-! The times of all pairs, in both; year. -/
theorem ab_c (x y : Int) : ab (y - x) = ab (x - y) := by
  have h1 := ab_s (y - x)
  have h2 := ab_s (x - y)
  omega
theorem mx_c (x y : Int) : mx y x = mx x y := by
  have h1 := mx_s y x
  have h2 := mx_s x y
  omega
theorem sq_swap {p q : Nat → Int} (h0 : q 0 = p 1) (h1 : q 1 = p 0) (h2 : q 2 = p 3) (h3 : q 3 = p 2) (h4 : q 4 = p 4) (h5 : q 5 = p 5) (h6 : q 6 = p 6) (h7 : q 7 = p 7) (qf n : Nat) : sq q qf n = ((sq p qf n).2.1, (sq p qf n).1, (sq p qf n).2.2) := by
  induction n with
  | zero => rfl
  | succ n ih =>
    show stp q (bqv (q 0) (decide (qf ≤ n))) (bqv (q 1) (decide (qf ≤ n))) (sq q qf n) = ((stp p (bqv (p 0) (decide (qf ≤ n))) (bqv (p 1) (decide (qf ≤ n))) (sq p qf n)).2.1, (stp p (bqv (p 0) (decide (qf ≤ n))) (bqv (p 1) (decide (qf ≤ n))) (sq p qf n)).1, (stp p (bqv (p 0) (decide (qf ≤ n))) (bqv (p 1) (decide (qf ≤ n))) (sq p qf n)).2.2)
    rw [ih, h0, h1]
    generalize bqv (p 0) (decide (qf ≤ n)) = B1
    generalize bqv (p 1) (decide (qf ≤ n)) = B2
    generalize sq p qf n = s
    unfold stp
    dsimp only
    rw [h2, h3, h4, h5, h6, h7]
    generalize nx s.1 s.2.1 B1 (p 2) = xa
    generalize nx s.2.1 s.1 B2 (p 3) = xb
    rw [ab_c xa xb, mx_c xa xb]
    by_cases c : p 6 < ab (xa - xb)
    · simp only [if_pos c]
    · simp only [if_neg c]
      by_cases d : p 5 < ab (xa - xb)
      · simp only [if_pos d]
      · simp only [if_neg d]
theorem pij4 (c : Ob) (i j : Nat) : pij c j i 4 = pij c i j 4 := by
  show (if (c 2 i).toInt < (c 2 j).toInt then (c 2 i).toInt else (c 2 j).toInt) = (if (c 2 j).toInt < (c 2 i).toInt then (c 2 j).toInt else (c 2 i).toInt)
  split
  · rw [if_neg (by omega)]
  · split
    · rfl
    · omega
theorem pa5 (c : Ob) (i j : Nat) : pij c i j 5 = (c 4 0).toInt := rfl
theorem pa6 (c : Ob) (i j : Nat) : pij c i j 6 = (c 5 0).toInt := rfl
theorem pa7 (c : Ob) (i j : Nat) : pij c i j 7 = (c 6 0).toInt := rfl
theorem pa0 (c : Ob) (i j : Nat) : pij c i j 0 = (c 1 i).toInt := rfl
theorem pa1 (c : Ob) (i j : Nat) : pij c i j 1 = (c 1 j).toInt := rfl
theorem pa2 (c : Ob) (i j : Nat) : pij c i j 2 = (c 3 i).toInt := rfl
theorem pa3 (c : Ob) (i j : Nat) : pij c i j 3 = (c 3 j).toInt := rfl
theorem sq_pij (c : Ob) (i j qf n : Nat) : sq (pij c j i) qf n = ((sq (pij c i j) qf n).2.1, (sq (pij c i j) qf n).1, (sq (pij c i j) qf n).2.2) :=
  sq_swap ((pa0 c j i).trans (pa1 c i j).symm) ((pa1 c j i).trans (pa0 c i j).symm) ((pa2 c j i).trans (pa3 c i j).symm) ((pa3 c j i).trans (pa2 c i j).symm) (pij4 c i j) ((pa5 c j i).trans (pa5 c i j).symm) ((pa6 c j i).trans (pa6 c i j).symm) ((pa7 c j i).trans (pa7 c i j).symm) qf n
theorem far_g {p q : Nat → Int} {qf n : Nat} (g : Nat) (h : sq q qf n = ((sq p qf n).2.1, (sq p qf n).1, (sq p qf n).2.2)) : far q qf g n = far p qf g n := by
  unfold far
  rw [h]
theorem tm_g {p q : Nat → Int} {qf n : Nat} (h : sq q qf n = ((sq p qf n).2.1, (sq p qf n).1, (sq p qf n).2.2)) : tm (sq q qf n) = tm (sq p qf n) := by
  rw [h]
  exact mx_c _ _
theorem fnd_g {P Q : Nat → Bool} (h : ∀ n, Q n = P n) : ∀ f n, fnd Q f n = fnd P f n := by
  intro f
  induction f with
  | zero => intro n; rfl
  | succ f ih =>
    intro n
    unfold fnd
    rw [h n, ih (n + 1)]
theorem TT_g {p q : Nat → Int} {qf : Nat} (g : Nat) (h : ∀ n, sq q qf n = ((sq p qf n).2.1, (sq p qf n).1, (sq p qf n).2.2)) : TT q qf g = TT p qf g := by
  have hR : RT q qf g = RT p qf g := by
    unfold RT
    exact fnd_g (fun n => far_g g (h n)) 1000 0
  have hf : (fun n => tm (sq q qf n)) = (fun n => tm (sq p qf n)) := funext (fun n => tm_g (h n))
  unfold TT
  rw [hR, hf]
theorem TT_swap (c : Ob) (i j qf g : Nat) : TT (pij c j i) qf g = TT (pij c i j) qf g := TT_g g (sq_pij c i j qf)
/-- the class's table of times -/
def Tb (oc : Ob) (g a b : Nat) (T : Nat → Int32) : Prop := ∀ x y, x < y → y < 8 → (x < a ∨ (x = a ∧ y < b)) → oc 0 x = 1 → oc 0 y = 1 → T (8 * x + y) = cT (TT (pij oc x y) 1000 g) ∧ T (8 * y + x) = cT (TT (pij oc x y) 1000 g)
theorem nI_inj {a b : Nat} (ha : a < 2000000000) (hb : b < 2000000000) (h : nI a = nI b) : a = b := (nI_eq (by omega) (by omega)).mp h
theorem two_at {c om : Ob} (hC : Cr c om) {a b : Nat} (ha : a < 8) (hb : b < 8) : (a ≠ b ∧ c 0 a = 1 ∧ c 0 b = 1 ∧ F_X0_canTie c (nI a) (nI b) = some 1 ∧ F_X6_isPair om (nI a) (nI b) = some 1) ∨ ((a ≠ b → c 0 a = 1 → c 0 b = 1 → False) ∧ F_X0_canTie c (nI a) (nI b) = some 0 ∧ F_X6_isPair om (nI a) (nI b) = some 0) := by
  rcases two_or hC (nI a) (nI b) with ⟨i, j, hi, hj, hij, e1, e2, r1, r2, e3, e4⟩ | ⟨e3, e4⟩
  · have := nI_inj (by omega) (by omega) e1
    subst this
    have := nI_inj (by omega) (by omega) e2
    subst this
    exact Or.inl ⟨hij, r1, r2, e3, e4⟩
  · refine Or.inr ⟨fun h1 h2 h3 => ?_, e3, e4⟩
    rw [can_ok ha hb h1 h2 h3] at e3
    exact absurd e3 (by decide)
theorem Tb_step {oc : Ob} {g a b : Nat} {T : Nat → Int32} (hab : a < b) (hb : b < 8) (hT : Tb oc g a b T) (x : Int32) (hx : oc 0 a = 1 → oc 0 b = 1 → x = cT (TT (pij oc a b) 1000 g)) : Tb oc g a (b + 1) (upd (upd T (8 * a + b) x) (8 * b + a) x) := by
  intro p q hpq hq8 hor rp rq
  rw [upd_at, upd_at, upd_at, upd_at]
  by_cases e : p = a ∧ q = b
  · obtain ⟨e1, e2⟩ := e
    subst e1
    subst e2
    have h := hx rp rq
    rw [if_neg (by omega), if_pos rfl, if_pos rfl]
    exact ⟨h, h⟩
  · rw [if_neg (by omega), if_neg (by omega), if_neg (by omega), if_neg (by omega)]
    exact hT p q hpq hq8 (by omega) rp rq
theorem table_in {oc om : Ob} (hC : Cr oc om) {g : Nat} (g1 : 1 ≤ g) (g2 : g ≤ 999) : ∀ (a : Nat), a < 8 → ∀ (f b : Nat) (u v : Int32) (w : Ob) (T : Nat → Int32) (K : Ob → (Nat → Int32) → Option (Ob × (Nat → Int32))), u = nI a → v = nI b → a < b → b ≤ 8 → 8 - b < f → Tb oc g a b T →
      ∃ w' T', L_X5_timeAllPairs_12 f (nI g) u oc v w T K = K w' T' ∧ Tb oc g a 8 T' := by
    intro a ha f
    induction f with
    | zero => intro b u v w T K _ _ _ _ h; exact absurd h (by omega)
    | succ f ih =>
      intro b u v w T K hu hv hab hb hf hT
      subst hu
      subst hv
      rw [L_X5_timeAllPairs_12.eq_2]
      by_cases h8 : b = 8
      · subst h8
        rw [if_pos (show (8 : Int32) ≤ nI 8 by decide)]
        exact ⟨w, T, rfl, hT⟩
      · have h : ¬ (8 : Int32) ≤ nI b := fun q => absurd ((nI_leI (a := 8) (by omega) (by omega)).mp q) (by omega)
        have ea : (8 : Int32) * nI a + nI b = nI (8 * a + b) := by rw [show (8 : Int32) = nI 8 from rfl, pk_mul, nI_add]
        have eb : (8 : Int32) * nI b + nI a = nI (8 * b + a) := by rw [show (8 : Int32) = nI 8 from rfl, pk_mul, nI_add]
        rw [if_neg h]
        simp only [dd]
        rw [ea, eb, nI_1]
        rcases two_at hC ha (show b < 8 by omega) with ⟨hne, r1, r2, e1, -⟩ | ⟨hno, e1, -⟩
        · rw [e1, bsome, jn_eq, if_neg i10]
          unfold F_X5_timeTo
          obtain ⟨w1, t1, t2⟩ := tie_ok ha (show b < 8 by omega) hne r1 r2 w
          obtain ⟨w2, t3, -⟩ := timeTo_ok (pij_G hC ha (by omega) r1 r2) (qf := 1000) (q := -1) (Or.inl ⟨rfl, rfl⟩) g1 g2 t2
          generalize hx : cT (TT (pij oc a b) 1000 g) = x at t3
          rw [t1, bsome, t3, bsome, bsome]
          dsimp only
          rw [ck_ok (by omega) (by omega), ck_ok (by omega) (by omega), nI_cl (by omega), nI_cl (by omega)]
          exact ih (b + 1) _ _ w2 _ K rfl rfl (by omega) (by omega) (by omega) (Tb_step hab (by omega) hT _ (fun _ _ => hx.symm))
        · rw [e1, bsome, jn_eq, if_pos rfl]
          dsimp only
          rw [ck_ok (by omega) (by omega), ck_ok (by omega) (by omega), nI_cl (by omega), nI_cl (by omega)]
          exact ih (b + 1) _ _ w _ K rfl rfl (by omega) (by omega) (by omega) (Tb_step hab (by omega) hT _ (fun h1 h2 => (hno (by omega) h1 h2).elim))
theorem dd_eq {α β : Type} (e : α) (k : α → β) : dd e k = k e := (Eq.refl (k e)).trans (Eq.refl _)
theorem table_out {oc om : Ob} (hC : Cr oc om) {g : Nat} (g1 : 1 ≤ g) (g2 : g ≤ 999) : ∀ (f a : Nat) (v : Int32) (w : Ob) (T : Nat → Int32) (K : Ob → (Nat → Int32) → Option (Ob × (Nat → Int32))), v = nI a → a ≤ 8 → 8 - a < f → Tb oc g a 0 T →
      ∃ w' T', L_X5_timeAllPairs_2 f (nI g) oc v w T K = K w' T' ∧ Tb oc g 8 0 T' := by
  intro f
  induction f with
  | zero => intro a v w T K _ _ h; exact absurd h (by omega)
  | succ f ih =>
    intro a v w T K hv ha hf hT
    subst hv
    rw [L_X5_timeAllPairs_2.eq_2]
    by_cases h8 : a = 8
    · subst h8
      rw [if_pos (show (8 : Int32) ≤ nI 8 by decide)]
      exact ⟨w, T, rfl, hT⟩
    · have h : ¬ (8 : Int32) ≤ nI a := fun q => absurd ((nI_leI (a := 8) (by omega) (by omega)).mp q) (by omega)
      rw [if_neg h, dd_eq, jn_eq]
      have hT1 : Tb oc g a (a + 1) T := fun x y h1 h2 h3 => hT x y h1 h2 (by omega)
      obtain ⟨w', T', a1, a2⟩ := table_in hC g1 g2 a (by omega) 2000 (a + 1) _ _ w T (fun (ow12 : Ob) (ot13 : (Nat → Int32)) => dd (nI a + 1) (fun (v14 : Int32) => L_X5_timeAllPairs_2 f (nI g) oc v14 ow12 ot13 K)) rfl (nI_1 a) (by omega) (by omega) (by omega) hT1
      have hT2 : Tb oc g (a + 1) 0 T' := fun x y h1 h2 h3 => a2 x y h1 h2 (by omega)
      rw [a1, dd_eq, nI_1]
      exact ih (a + 1) _ w' T' K rfl (by omega) (by omega) hT2
theorem Tb_end {oc : Ob} {g : Nat} {T : Nat → Int32} (h : Tb oc g 8 0 T) {x y : Nat} (hx : x < 8) (hy : y < 8) (hne : x ≠ y) (rx : oc 0 x = 1) (ry : oc 0 y = 1) : T (8 * x + y) = cT (TT (pij oc x y) 1000 g) := by
  rcases Nat.lt_or_gt_of_ne hne with c | c
  · exact (h x y c hy (by omega) rx ry).1
  · exact ((h y x c hx (by omega) ry rx).2).trans (congrArg cT (TT_swap oc x y 1000 g))
theorem table_ok {oc om : Ob} (hC : Cr oc om) {g : Nat} (g1 : 1 ≤ g) (g2 : g ≤ 999) (ow : Ob) (ot : Nat → Int32) :
    ∃ (w' : Ob) (T : Nat → Int32), F_X5_timeAllPairs oc ow ot (nI g) = some (w', T) ∧ Tb oc g 8 0 T := by
  unfold F_X5_timeAllPairs
  rw [jn_eq]
  have h0 : Tb oc g 0 0 ot := fun x y _ _ h => absurd h (by omega)
  obtain ⟨w', T', a1, a2⟩ := table_out hC g1 g2 2000 0 0 ow ot (fun (ow2 : Ob) (ot3 : (Nat → Int32)) => some (ow2, ot3)) rfl (by omega) (by omega) h0
  rw [a1]
  exact ⟨w', T', rfl, a2⟩
def mC (o : Option Int) : Int32 := match o with
  | none => 100000
  | some t => iI t
def FrT (m m' : Ob) : Prop := ∀ i, i < 7 ∨ 23 ≤ i → m' i = m i
theorem FrT_t {a b c : Ob} (h : FrT a b) (h' : FrT b c) : FrT a c := fun i hi => (h' i hi).trans (h i hi)
def Mb (oc : Ob) (g a b : Nat) (m : Ob) : Prop := ∀ x y, y < x → x < 8 → (x < a ∨ (x = a ∧ y < b)) → oc 0 x = 1 → oc 0 y = 1 → m 22 (8 * x + y) = mC (TT (pij oc x y) 1000 g) ∧ m 22 (8 * y + x) = mC (TT (pij oc x y) 1000 g)
theorem mtable_ok {oc om : Ob} (hC : Cr oc om) {g : Nat} (g2 : g ≤ 999) :
    ∃ m' : Ob, F_X6_findTimes om (nI g) = some m' ∧ (∀ x y, x < 8 → y < 8 → x ≠ y → oc 0 x = 1 → oc 0 y = 1 → m' 22 (8 * x + y) = mC (TT (pij oc x y) 1000 g)) ∧ FrT om m' := by
  have inner : ∀ (a : Nat), a < 8 → ∀ (f b : Nat) (u v : Int32) (m : Ob) (K : Ob → Option Ob), u = nI a → v = nI b → b ≤ a → a - b < f → Mb oc g a b m → FrT om m →
      ∃ m', L_X6_findTimes_10 f (nI g) u v m K = K m' ∧ Mb oc g a a m' ∧ FrT om m' := by
    intro a ha f
    induction f with
    | zero => intro b u v m K _ _ _ h; exact absurd h (by omega)
    | succ f ih =>
      intro b u v m K hu hv hb hf hT hF
      subst hu
      subst hv
      rw [L_X6_findTimes_10.eq_2]
      by_cases h8 : b = a
      · subst h8
        rw [if_pos (Int32.le_refl _)]
        exact ⟨m, rfl, hT, hF⟩
      · have h : ¬ nI a ≤ nI b := fun q => absurd ((nI_leI (by omega) (by omega)).mp q) (by omega)
        have ea : (8 : Int32) * nI a + nI b = nI (8 * a + b) := by rw [show (8 : Int32) = nI 8 from rfl, pk_mul, nI_add]
        have eb : (8 : Int32) * nI b + nI a = nI (8 * b + a) := by rw [show (8 : Int32) = nI 8 from rfl, pk_mul, nI_add]
        rw [if_neg h]
        simp only [dd]
        rw [ea, eb, nI_1]
        have hCm : Cr oc m := Cr_fr (fun q hq => hF q (by omega)) hC
        rcases two_at hCm ha (show b < 8 by omega) with ⟨hne, r1, r2, -, e1⟩ | ⟨hno, -, e1⟩
        · rw [e1, bsome, if_neg i10]
          obtain ⟨m1, l1, l2, l3⟩ := lay_ok hCm ha (show b < 8 by omega)
          have hG := pij_G hCm ha (show b < 8 by omega) r1 r2
          obtain ⟨m2, u1, -, u3⟩ := timeOf_ok hG (qf := 1000) (by omega) g2 l2
          have f2 : ∀ q, q < 7 ∨ 22 ≤ q → m2 q = m q := fun q hq => (u3 q (by omega)).trans (l3 q (by omega))
          rw [l1, bsome, u1, bsome]
          dsimp only
          rw [jn_eq]
          have fin : ∀ x : Int32, x = mC (TT (pij oc a b) 1000 g) → ∃ m', (ck (nI (8 * a + b)) 64 (ck (nI (8 * a + b)) 64 (ck (nI (8 * b + a)) 64 (L_X6_findTimes_10 f (nI g) (nI a) (nI (b + 1)) (sO (sO m2 22 (upd (m2 22) (nI (8 * a + b)).toNatClampNeg x)) 22 (upd (sO m2 22 (upd (m2 22) (nI (8 * a + b)).toNatClampNeg x) 22) (nI (8 * b + a)).toNatClampNeg (sO m2 22 (upd (m2 22) (nI (8 * a + b)).toNatClampNeg x) 22 (nI (8 * a + b)).toNatClampNeg))) K)))) = K m' ∧ Mb oc g a a m' ∧ FrT om m' := by
            intro x hx
            rw [ck_ok (by omega) (by omega), ck_ok (by omega) (by omega), ck_ok (by omega) (by omega), nI_cl (by omega), nI_cl (by omega), sO_eq, upd_at, if_pos rfl]
            refine ih (b + 1) _ _ _ K rfl rfl (by omega) (by omega) (fun p q hpq hp8 hor rp rq => ?_) (fun q hq => ?_)
            · rw [sO_eq, upd_at, upd_at, upd_at, upd_at]
              by_cases e : p = a ∧ q = b
              · obtain ⟨rfl, rfl⟩ := e
                rw [if_neg (by omega), if_pos rfl, if_pos rfl]
                exact ⟨hx, hx⟩
              · rw [if_neg (by omega), if_neg (by omega), if_neg (by omega), if_neg (by omega), f2 22 (by omega)]
                exact hT p q hpq hp8 (by omega) rp rq
            · rw [sO_ne _ _ _ _ (by omega), sO_ne _ _ _ _ (by omega), f2 q (by omega)]
              exact hF q hq
          cases hTT : TT (pij oc a b) 1000 g with
          | none =>
            rw [if_pos (show mT none = (1000000000 : Int32) from rfl)]
            exact fin _ (by rw [hTT]; rfl)
          | some t =>
            rw [if_neg (show ¬ mT (some t) = (1000000000 : Int32) from mT_ne (TT_bd hG hTT))]
            exact fin _ (by rw [hTT]; rfl)
        · rw [e1, bsome, if_pos rfl]
          refine ih (b + 1) _ _ m K rfl rfl (by omega) (by omega) (fun p q hpq hp8 hor rp rq => ?_) hF
          by_cases e : p = a ∧ q = b
          · obtain ⟨rfl, rfl⟩ := e
            exact (hno (by omega) rp rq).elim
          · exact hT p q hpq hp8 (by omega) rp rq
  have outer : ∀ (f a : Nat) (v : Int32) (m : Ob) (K : Ob → Option Ob), v = nI a → a ≤ 8 → 8 - a < f → Mb oc g a 0 m → FrT om m →
      ∃ m', L_X6_findTimes_2 f (nI g) v m K = K m' ∧ Mb oc g 8 0 m' ∧ FrT om m' := by
    intro f
    induction f with
    | zero => intro a v m K _ _ h; exact absurd h (by omega)
    | succ f ih =>
      intro a v m K hv ha hf hT hF
      subst hv
      rw [L_X6_findTimes_2.eq_2]
      by_cases h8 : a = 8
      · subst h8
        rw [if_pos (show (8 : Int32) ≤ nI 8 by decide)]
        exact ⟨m, rfl, hT, hF⟩
      · have h : ¬ (8 : Int32) ≤ nI a := fun q => absurd ((nI_leI (a := 8) (by omega) (by omega)).mp q) (by omega)
        rw [if_neg h]
        simp only [dd]
        rw [nI_1, jn_eq]
        obtain ⟨m', a1, a2, a3⟩ := inner a (by omega) 2000 0 _ 0 m (fun (om9 : Ob) => L_X6_findTimes_2 f (nI g) (nI (a + 1)) om9 K) rfl rfl (by omega) (by omega) hT hF
        rw [a1]
        exact ih (a + 1) _ m' K rfl (by omega) (by omega) (fun x y h1 h2 h3 => a2 x y h1 h2 (by omega)) a3
  unfold F_X6_findTimes
  rw [jn_eq]
  obtain ⟨m', a1, a2, a3⟩ := outer 2000 0 0 om (fun (om2 : Ob) => some om2) rfl (by omega) (by omega) (fun x y _ _ h => absurd h (by omega)) (fun _ _ => rfl)
  refine ⟨m', a1, fun x y hx hy hne rx ry => ?_, a3⟩
  rcases Nat.lt_or_gt_of_ne hne with h | h
  · rw [TT_swap oc y x]
    exact (a2 y x h hy (by omega) ry rx).2
  · exact (a2 x y h hx (by omega) rx ry).1
