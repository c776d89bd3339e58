/-! sure: both sides -/
theorem m_sureCheapest {h : pg_H} {A : Nat → Int32} {w : Nat → Nat → Nat} (L : Lay h) (M : pg_i h 83 = A) (K : ShOK A) (hw : wOK w) (G : LG h (nC A) (alw A) (cst A w)) {k c : Nat} (hc : c < nC A) (hk : k ≤ nC A) :
    ∃ m h', F_X12_cheapest 81 (pg_si h 95 c (nI (mk 13 (lbit (nC A) (alw A) c)) &&& (nI (2 ^ kE k) ^^^ (-1 : Int32)))) = some (nI m, h') ∧ Ch [95, 96] [] h h' ∧ m ≤ 1000000000 ∧ (∀ T', isTree (nC A) (alB A k c) T' → m ≠ 1000000000 ∧ m ≤ tCost (nC A) (cst A w) T') ∧ (m ≠ 1000000000 → ∃ T', isTree (nC A) (alB A k c) T' ∧ tCost (nC A) (cst A w) T' = m) := by
  have kC : nC A < 13 := K.1.1.2
  have kb : kE k < 13 := by
    unfold kE
    split <;> omega
  have e : nI (mk 13 (lbit (nC A) (alw A) c)) &&& (nI (2 ^ kE k) ^^^ (-1 : Int32)) = nI (mk 13 (lbit (nC A) (alB A k c) c)) := by
    rw [mk_pow kb, ix_not 13 _ _ (by decide)]
    refine congrArg nI (mk_cong (fun i hi => ?_))
    unfold lbit alB kE
    by_cases z : i = 12
    · rw [if_pos z, if_pos z, decide_eq_true (show c = c from rfl), Bool.and_true]
      by_cases k0 : k = 0
      · rw [if_pos k0, decide_eq_true z, decide_eq_true k0.symm]
      · rw [if_neg k0, decide_eq_false (show ¬ i = k - 1 by omega), decide_eq_false (show ¬ 0 = k by omega)]
    · rw [if_neg z, if_neg z, decide_eq_true (show c = c from rfl), Bool.and_true]
      have : decide (i = if k = 0 then 12 else k - 1) = decide (i + 1 = k) := decide_eq_decide.mpr (by split <;> omega)
      rw [this, Bool.and_assoc]
  rw [e]
  have s1 : Ch [95] [] h (pg_si h 95 c (nI (mk 13 (lbit (nC A) (alB A k c) c)))) := (Ch.refl _ _ _).asi (Or.inl (by decide))
  have L1 := s1.lay L (by decide)
  have R1 : LR (pg_si h 95 c (nI (mk 13 (lbit (nC A) (alB A k c) c)))) (nC A) (alB A k c) := fun d hd => by
    rw [si_row]
    by_cases q : d = c
    · rw [q, up1_eq]
    · rw [up1_ne q, (G d hd).1]
      refine congrArg nI (mk_cong (fun i hi => ?_))
      unfold lbit alB
      rw [decide_eq_false q, Bool.and_false, Bool.and_false]
      simp only [Bool.not_false, Bool.and_true]
  have G1 := R1.lg G (s1.row (by decide)) (fun f d _ _ z => by
    unfold alB at z
    rw [Bool.and_eq_true] at z
    exact z.1)
  obtain ⟨m, g, g1, g2, g3, g4⟩ := m_cheapest L1 ((s1.row (by decide)).trans M) K G1 (fun f c hf hc => cst_le K hw hf hc)
  have tt : ∀ T', TreeOn (upTo (nC A)) (alB A k c) T' ↔ isTree (nC A) (alB A k c) T' := fun T' => treeOn_iff (by omega)
  have oo : ∀ T', onC (upTo (nC A)) (cst A w) T' = tCost (nC A) (cst A w) T' := fun T' => onC_upTo (by omega)
  refine ⟨m, g, g1, (s1.mono (by decide)).trans (g2.mono (by decide)), g4, fun T' t => ?_, fun ne => ?_⟩
  · obtain ⟨v, v1, v2⟩ := g3.1 T' ((tt T').mpr t)
    unfold decN at v1
    split at v1
    · cases v1
    · rename_i ne
      injection v1 with v1
      rw [oo] at v2
      exact ⟨ne, by omega⟩
  · obtain ⟨T', u1, u2⟩ := g3.2 m (if_neg ne)
    exact ⟨T', (tt T').mp u1, by rw [← oo]; exact u2⟩
theorem sim_sure : Sim_sure Inv := by
  intro x1 q h hq I
  show SimB q h (F_X11_sure 1 x1) (F_X12_sure 81 x1)
  have L := I.1
  have D := L.kd
  have R := L.rd
  obtain ⟨C, K⟩ := I.sh
  have kC : nC (pg_i h 83) < 13 := K.1.1.2
  obtain ⟨v, ev, hv⟩ := I.2.2.2.2.1
  by_cases c1 : 0 ≤ x1 ∧ x1 < nI (nC (pg_i h 83))
  · obtain ⟨c, hc, rfl⟩ := in_nI c1 (by omega)
    obtain ⟨g, f1, f2, f3, X, Y0, Y1, S, i0, i1, rd, st, gr⟩ := c_freshS I
    have hw : wOK (wg (pg_i h 83) (uX (pg_i h 83) X)) := fun p v => wg_le S p v
    have Lg := f2.lay L (by decide)
    obtain ⟨T, t1, t2, t3, t4, t5⟩ := id st
    obtain ⟨r, y, y1, y2, y3, y4⟩ := c_isSure Lg K hw t1 t2 t3 t4 t5 hc
    have Ly := y2.lay Lg (by decide)
    have hy : Ch (wS ++ [60, 61, 62, 63, 64, 65, 66]) [(47, 2), (50, 8), (1, 14), (1, 15), (59, 7), (59, 8)] h y := f2.trans (y2.mono (by decide))
    have My : pg_i y 83 = pg_i h 83 := hy.row (by decide)
    obtain ⟨b, b1, b2, b3, b4⟩ := m_grows Ly My S (gr.ch hy (by decide) (by decide)) (v := v) (by
      rw [hy.atM (R := []) (F := [(81, 1)]) (by decide) (by decide)]
      exact ev) (by omega)
    have Lb := b2.lay Ly (by decide)
    have Mb : pg_i b 83 = pg_i h 83 := (b2.row (by decide)).trans My
    obtain ⟨a, a1, a2, a3, a4⟩ := m_laysCosts Lb Mb S
    have La := a2.lay Lb (by decide)
    have Ma : pg_i a 83 = pg_i h 83 := (a2.row (by decide)).trans Mb
    obtain ⟨T', u1, u2, u3⟩ := b3
    have eT : T' c = T c := ((first_one t1 u1).1 c hc).symm
    have eC := (first_one t1 u1).2
    have tl : T c ≤ nC (pg_i h 83) := (t1.1.1 c hc).1
    have tk : kE (T c) < 13 := by
      unfold kE
      split <;> omega
    have r97 : pg_i a 97 c = nI (kE (T c)) := by
      rw [a2.row (by decide), u2 c hc, eT]
      unfold kE
      split <;> rfl
    obtain ⟨m, d, d1, d2, d3, d4, d5⟩ := m_sureCheapest La Ma K hw a4 hc tl
    have Ld := d2.lay La (by decide)
    have e30 : pg_i d 81 30 = nI (tCost (nC (pg_i h 83)) (cst (pg_i h 83) (wg (pg_i h 83) (uX (pg_i h 83) X))) T) := by
      rw [d2.atM (R := []) (F := [(81, 30)]) (by decide) (by decide), a2.atM (R := []) (F := [(81, 30)]) (by decide) (by decide), u3, eC]
    have yd : Ch [92, 93, 94, 95, 96, 97] (mT ++ [(81, 30), (81, 31)]) y d := (b2.trans (a2.mono (by decide))).trans (d2.mono (by decide))
    have gd : Ch [61, 62, 63, 64, 65, 92, 93, 94, 95, 96, 97] (mT ++ [(81, 30), (81, 31)]) g d := (y2.mono (by decide)).trans (yd.mono (by decide))
    have bd : Ch [92, 93, 94, 95, 96] mT b d := (a2.mono (by decide)).trans (d2.mono (by decide))
    have all : Ch tS tT h d := (f2.mono (by decide)).trans (gd.mono (by decide))
    have tb := tree_le K hw t1.1
    have key : (m ≠ tCost (nC (pg_i h 83)) (cst (pg_i h 83) (wg (pg_i h 83) (uX (pg_i h 83) X))) T) ↔ ∀ v, r = some v → tCost (nC (pg_i h 83)) (cst (pg_i h 83) (wg (pg_i h 83) (uX (pg_i h 83) X))) T < v := by
      cases r with
      | none =>
        refine ⟨(fun _ v z => by cases z), fun _ z => ?_⟩
        obtain ⟨T2, w1, _⟩ := d5 (by omega)
        obtain ⟨s, s1, _⟩ := y3 T2 w1
        cases s1
      | some v =>
        obtain ⟨T2, w1, w2⟩ := y4 v rfl
        obtain ⟨z1, z2⟩ := d4 T2 w1
        obtain ⟨T3, w3, w4⟩ := d5 z1
        obtain ⟨s, s1, s2⟩ := y3 T3 w3
        injection s1 with s1
        have le : tCost (nC (pg_i h 83)) (cst (pg_i h 83) (wg (pg_i h 83) (uX (pg_i h 83) X))) T ≤ v := by
          rw [← w2]
          refine (t1.2 T2 ⟨fun d hd => ⟨(w1.1 d hd).1, ?_⟩, w1.2⟩).1
          have z := (w1.1 d hd).2
          unfold alB at z
          rw [Bool.and_eq_true] at z
          exact z.1
        constructor
        · intro ne v' z
          injection z with z
          omega
        · intro z
          have := z v rfl
          omega
    refine ⟨b01 (decide (∀ v, r = some v → tCost (nC (pg_i h 83)) (cst (pg_i h 83) (wg (pg_i h 83) (uX (pg_i h 83) X))) T < v)), y, d, ?_, Ly, ?_, I.stem all ?_ S i0 i1 (rd.ch gd (by decide) (by decide)) (st.ch gd (by decide)) (b4.ch bd (by decide) (by decide)), all.few⟩
    · unfold F_X11_sure
      rw [nR_1_0 D R, Option.bind_some, nR_2_0 D R, Option.bind_some, nc_3 D, c_holds_3 C, Option.bind_some, if_bb, if_pos (decide_eq_true c1), nc_1 D, f1, Option.bind_some, nc_59 Lg.kd, y1, Option.bind_some]
      dsimp only
      rw [if_bb]
      by_cases z : (∀ v, r = some v → tCost (nC (pg_i h 83)) (cst (pg_i h 83) (wg (pg_i h 83) (uX (pg_i h 83) X))) T < v)
      · rw [if_pos (decide_eq_true z), decide_eq_true z]
        rfl
      · rw [if_neg (by rw [decide_eq_false z]; decide), decide_eq_false z]
        rfl
    · unfold F_X12_sure
      rw [nc_81 Ly.kd, m_isCopy Ly My K, Option.bind_some, if_bb, if_pos (decide_eq_true c1), nc_81 Ly.kd, b1, Option.bind_some, nc_81 Lb.kd, a1, Option.bind_some, nR_81_27 La.kd La.rd, Option.bind_some, na_95 La.kd (by omega), Option.bind_some, nR_81_29 La.kd La.rd, Option.bind_some, na_97 La.kd (by omega), Option.bind_some, r97, (a4 c hc).1, ix_shl _ (show kE (T c) < 32 by omega), ns_95 La.kd (by omega), Option.bind_some, nc_81 ((Ch.refl [95] [] a).asi (Or.inl (by decide)) |>.lay La (by decide)).kd, d1, Option.bind_some, ng_81 Ld.kd, e30, Option.bind_some]
      by_cases z : m = tCost (nC (pg_i h 83)) (cst (pg_i h 83) (wg (pg_i h 83) (uX (pg_i h 83) X))) T
      · rw [if_pos (show nI m = nI _ by rw [z]), decide_eq_false (fun y => key.mpr y z)]
        rfl
      · rw [if_neg (show ¬ nI m = nI (tCost (nC (pg_i h 83)) (cst (pg_i h 83) (wg (pg_i h 83) (uX (pg_i h 83) X))) T) from fun y => z ((nI_eq (by omega) (by omega)).mp y)), decide_eq_true (key.mp z)]
        rfl
    · rw [gd.atM (R := []) (F := [(1, 15)]) (by decide) (by decide), f3]
  · refine SimB.none I (-1) ?_ ?_
    · unfold F_X11_sure
      rw [nR_1_0 D R, Option.bind_some, nR_2_0 D R, Option.bind_some, nc_3 D, c_holds_3 C, Option.bind_some, if_bb, if_neg (by rw [decide_eq_false c1]; decide)]
    · unfold F_X12_sure
      rw [nc_81 D, m_isCopy L rfl K, Option.bind_some, if_bb, if_neg (by rw [decide_eq_false c1]; decide)]
