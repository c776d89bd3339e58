/-! THE CLASS'S STEMMA: the first of the best -/
theorem c_grow {h : pg_H} {A : Nat → Int32} {w : Nat → Nat → Nat} (L : Lay h) (C : CNum h 2 A) (K : ShOK A) (hw : wOK w) (rd : Rd h A w) : ∃ h', F_X6_grow 59 2 50 h = some h' ∧ Ch [60, 61, 62, 63, 64, 65, 66] [(59, 7), (59, 8)] h h' ∧ Stm h' A w := by
  have kC : nC A < 13 := K.1.1.2
  obtain ⟨a, a1, a2, a3, a4⟩ := c_findCosts L C K rd
  have La := a2.lay L (by decide)
  obtain ⟨x, x1, x2, x3⟩ := c_edges La K hw a3 a4
  have Lx := x1.lay La (by decide)
  have B : EB (nC A + 1) (edge A w) := fun f t v hf h1 h2 q => by
    unfold edge at q
    split at q
    · injection q with q
      rw [← q]
      exact wRow_lt K hw (by omega) (by omega)
    · cases q
  have x7 : pg_i x 59 7 = nI (nC A + 1) := by
    rw [x1.row (by decide)]
    exact a3
  obtain ⟨r, y, y1, y2, y3⟩ := c_leastSum Lx (show nC A + 1 ≤ 13 by omega) (by omega) x7 x2 B
  have Ly := y2.lay Lx (by decide)
  obtain ⟨m1, m2⟩ := arb_tree (n := nC A) (al := alw A) (cs := wRow (cst A w)) (fun f c _ _ => rfl) y3
  obtain ⟨v, rfl, hv⟩ := m1 _ (alone_tree (alw_0 A))
  obtain ⟨T, t1, t2⟩ := m2 v rfl
  have tl : ∀ c, c < nC A → T c ≤ 12 := fun c hc => Nat.le_trans (t1.1 c hc).1 (by omega)
  have first : isFirst (nC A) (alw A) (cst A w) T := first_row (by omega) t1 (fun T' h' => by
    obtain ⟨s, s1, s2⟩ := m1 T' h'
    injection s1 with s1
    omega)
  have rl : rk13 (nC A) T < 13 ^ 12 := by
    have := rk13_lt (show nC A ≤ 12 by omega) tl
    have := Nat.pow_pos (n := 12 - nC A) (show 0 < 13 by decide)
    omega
  have ev : v = tCost (nC A) (cst A w) T * 13 ^ 12 + rk13 (nC A) T := by rw [← t2, tCost_row]
  have al := alone_le K hw
  have tc : tCost (nC A) (cst A w) T ≤ 180000 := Nat.le_trans (first.2 _ (alone_tree (alw_0 A))).1 al
  have vb : v < 2 ^ 63 := by
    have := Nat.mul_le_mul_right (13 ^ 12) tc
    omega
  have vd : v / 13 ^ 12 = tCost (nC A) (cst A w) T := by omega
  have vm : v % 13 ^ 12 = rk13 (nC A) T := by omega
  have ho : rk13 (nC A) T = hor (fun c => if c < nC A then T c else 0) 12 := by
    rw [rk13_ext (show nC A ≤ 12 by omega), hor_rk 12 (Nat.le_refl _)]
    exact Nat.mul_one _
  have s1 : Ch [] [(59, 8)] y (pg_si y 59 8 (nI (tCost (nC A) (cst A w) T))) := (Ch.refl _ _ _).asi (Or.inr (by decide))
  have L1 := s1.lay Ly (by decide)
  obtain ⟨z, z1, z2, z3⟩ := c_decode (T := fun c => if c < nC A then T c else 0) L1 (fun c _ => by
    by_cases q : c < nC A
    · rw [if_pos q]
      exact tl c q
    · rw [if_neg q]
      omega)
  have tail : Ch [61, 62, 63, 64, 65, 66] [(59, 8)] a z := ((x1.mono (by decide)).trans (y2.mono (by decide))).trans ((s1.mono (by decide)).trans (z2.mono (by decide)))
  refine ⟨z, ?_, (a2.mono (by decide)).trans (tail.mono (by decide)), T, first, fun c hc => ?_, ?_, ?_, fun f c hf hc => ?_⟩
  · unfold F_X6_grow
    rw [nc_59 L.kd, a1, Option.bind_some, x3]
    show F_X6_grow_13 (0 + 1) 59 (lN (rkL (nC A))) (nI (nC A + 1)) x = _
    rw [F_X6_grow_13]
    unfold pg_let
    dsimp only
    rw [ng_59 Lx.kd, x7, Option.bind_some, if_neg Int32.lt_irrefl, nc_59 Lx.kd, y1, Option.bind_some, if_neg (by decide)]
    dsimp only
    rw [show farL (some v) 0 = lN v by show lN (0 + v) = lN v; rw [Nat.zero_add], show (23298085122481 : Int64) = lN (13 ^ 12) from by decide, pk_lRem vb (by decide) (by decide), pk_lDiv vb (by decide) (by decide), vd, vm, ho, lN_i, np_59 Ly.kd, Option.bind_some, if_neg (by decide)]
    exact z1
  · rw [z3 c hc]
    by_cases q : c < nC A
    · rw [if_pos q]
      by_cases t0 : T c = 0
      · rw [if_neg (fun y => y.2 t0), t0]
        rfl
      · rw [if_pos ⟨q, t0⟩]
        have := nI_less (T c - 1) (by have := tl c q; omega)
        rw [show T c - 1 + 1 = T c by omega] at this
        exact this
    · rw [if_neg q, if_neg (fun y => q y.1)]
      rfl
  · rw [tail.atM (R := []) (F := [(59, 7)]) (by decide) (by decide)]
    exact a3
  · rw [z2.row (by decide), si_row, up1_eq]
  · rw [tail.row (by decide), Nat.mul_comm f 13]
    exact a4 f c hf hc
