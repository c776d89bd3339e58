/-! CALLS that ask trees: tree, whose -/
def tS : List Nat := wS ++ [58, 60, 61, 62, 63, 64, 65, 66, 92, 93, 94, 95, 96, 97, 98, 99, 106]
def tT : List (Nat × Nat) := [(47, 2), (50, 8), (1, 14), (1, 15), (59, 7), (59, 8), (81, 30), (81, 31)] ++ mT
theorem Inv.stem {q : Nat} {h g : pg_H} {X Y0 Y1 : Nat → tX} (I : Inv q h) (a : Ch tS tT h g) (fl : pg_i g 1 15 = 1) (S : ShX h 2 (pg_i h 83) X) (i0 : ImOK h 0 Y0) (i1 : ImOK h 1 Y1) (rd : ReadOK g (pg_i h 83) (wg (pg_i h 83) (uX (pg_i h 83) X))) (st : Stm g (pg_i h 83) (wg (pg_i h 83) (uX (pg_i h 83) X))) (gr : GrowOK g (pg_i h 83) (wg (pg_i h 83) (uX (pg_i h 83) X))) : Inv (q + 1) g := by
  obtain ⟨L, sc, tp, wo, ⟨v, ev, hv⟩, _⟩ := I
  have e83 : pg_i g 83 = pg_i h 83 := a.row (by decide)
  refine ⟨a.lay L (by decide), sc.ch a (by decide), tp.ch a (by decide), wo.ch a (by decide), ⟨v, ?_, by omega⟩, X, Y0, Y1, ?_⟩
  · rw [a.atM (R := []) (F := [(81, 1)]) (by decide) (by decide)]
    exact ev
  · rw [e83]
    exact ⟨S.ch a (by decide) (by decide), i0.ch a (by decide) (by decide), i1.ch a (by decide) (by decide), rd, Or.inr ⟨fl, st⟩, gr⟩
theorem c_freshS {q : Nat} {h : pg_H} (I : Inv q h) : ∃ h', F_X11_freshStemma 1 h = some (59, h') ∧ Ch (wS ++ [60, 61, 62, 63, 64, 65, 66]) [(47, 2), (50, 8), (1, 14), (1, 15), (59, 7), (59, 8)] h h' ∧ pg_i h' 1 15 = 1 ∧ ∃ X Y0 Y1, ShX h 2 (pg_i h 83) X ∧ ImOK h 0 Y0 ∧ ImOK h 1 Y1 ∧ ReadOK h' (pg_i h 83) (wg (pg_i h 83) (uX (pg_i h 83) X)) ∧ Stm h' (pg_i h 83) (wg (pg_i h 83) (uX (pg_i h 83) X)) ∧ GrowOK h (pg_i h 83) (wg (pg_i h 83) (uX (pg_i h 83) X)) := by
  have L := I.1
  have D := L.kd
  have R := L.rd
  obtain ⟨g, f1, f2, f3, X, Y0, Y1, S, i0, i1, rd, st, gr⟩ := c_freshR I
  have Lg := f2.lay L (by decide)
  have C := S.1
  have K := S.2.1
  by_cases z : pg_i h 1 15 = 0
  · obtain ⟨y, y1, y2, y3⟩ := c_grow Lg (C.ch f2 (by decide)) K (fun p v => wg_le S p v) rd
    have Ly := y2.lay Lg (by decide)
    have s1 : Ch [] [(1, 15)] y (pg_si y 1 15 1) := (Ch.refl _ _ _).asi (Or.inr (by decide))
    refine ⟨pg_si y 1 15 1, ?_, ((f2.mono (by decide)).trans (y2.mono (by decide))).trans (s1.mono (by decide)), by rw [si_row, up1_eq], X, Y0, Y1, S, i0, i1, Or.inr ⟨?_, (rd.ch y2 (by decide)).ch s1 (by decide)⟩, y3.ch s1 (by decide), gr⟩
    · unfold F_X11_freshStemma
      have L1 := s1.lay Ly (by decide)
      rw [ng_1 D, z, Option.bind_some, if_pos rfl, nR_1_7 D R, Option.bind_some, nR_1_0 D R, Option.bind_some, nc_1 D, f1, Option.bind_some, nc_59 Lg.kd, y1, Option.bind_some, nz1_1 Ly.kd, Option.bind_some, nR_1_7 L1.kd L1.rd, Option.bind_some]
    · rw [s1.atM (R := []) (F := [(1, 14)]) (by decide) (by decide), y2.atM (R := []) (F := [(1, 14)]) (by decide) (by decide), f3]
  · obtain ⟨_, _, _, _, _, X, Y0, Y1, S, i0, i1, r1, r2, r3⟩ := I
    rcases r2 with q | ⟨q, q2⟩
    · exact absurd q z
    · refine ⟨h, ?_, Ch.refl _ _ _, q, X, Y0, Y1, S, i0, i1, r1, q2, r3⟩
      unfold F_X11_freshStemma
      rw [ng_1 D, Option.bind_some, if_neg z, nR_1_7 D R, Option.bind_some]
theorem sim_tree : Sim_tree Inv := by
  intro q h hq I
  show SimB q h (F_X11_tree 1) (F_X12_tree 81)
  have L := I.1
  have D := L.kd
  obtain ⟨g, f1, f2, f3, X, Y0, Y1, S, i0, i1, rd, st, gr⟩ := c_freshS I
  have K := S.2.1
  have Lg := f2.lay L (by decide)
  have Mg : pg_i g 83 = pg_i h 83 := f2.row (by decide)
  obtain ⟨a, a1, a2, a3, a4⟩ := m_laysCosts Lg Mg S
  have La := a2.lay Lg (by decide)
  have Ma : pg_i a 83 = pg_i h 83 := (a2.row (by decide)).trans Mg
  obtain ⟨V, b, b1, b2, b3, b4, b5⟩ := m_least La Ma K a4 (fun f c hf hc => cst_le K (fun p v => wg_le S p v) hf hc) (alw_0 _)
  have Lb := b2.lay La (by decide)
  have all : Ch tS tT h b := ((f2.mono (by decide)).trans (a2.mono (by decide))).trans (b2.mono (by decide))
  have gb : Ch [92, 93, 94, 95, 96] mT g b := (a2.mono (by decide)).trans (b2.mono (by decide))
  obtain ⟨T, t1, t2, t3, t4, t5⟩ := id st
  have eV : tCost (nC (pg_i h 83)) (cst (pg_i h 83) (wg (pg_i h 83) (uX (pg_i h 83) X))) T = V := by
    obtain ⟨T', u1, u2⟩ := b5
    have := (t1.2 T' u1).1
    have := b4 T t1.1
    omega
  refine ⟨nI V, g, b, ?_, Lg, ?_, I.stem all ?_ S i0 i1 (rd.ch gb (by decide) (by decide)) (st.ch gb (by decide)) ((gr.ch f2 (by decide) (by decide)).ch gb (by decide) (by decide)), all.few⟩
  · unfold F_X11_tree
    rw [nc_1 D, f1, Option.bind_some, nc_59 Lg.kd]
    unfold F_X6_leastCost
    rw [ng_59 Lg.kd, Option.bind_some, t4, eV, Option.bind_some]
  · unfold F_X12_tree
    rw [nc_81 Lg.kd, a1, Option.bind_some, nc_81 La.kd, b1, Option.bind_some]
  · rw [gb.atM (R := []) (F := [(1, 15)]) (by decide) (by decide), f3]
theorem sim_whose : Sim_whose Inv := by
  intro x1 q h hq I
  show SimB q h (F_X11_whose 1 x1) (F_X12_whose 81 x1)
  have L := I.1
  have D := L.kd
  have R := L.rd
  obtain ⟨C, K⟩ := I.sh
  have kC : nC (pg_i h 83) < 13 := K.1.1.2
  obtain ⟨v, ev, hv⟩ := I.2.2.2.2.1
  by_cases c1 : 0 ≤ x1 ∧ x1 < nI (nC (pg_i h 83))
  · obtain ⟨c, hc, rfl⟩ := in_nI c1 (by omega)
    obtain ⟨g, f1, f2, f3, X, Y0, Y1, S, i0, i1, rd, st, gr⟩ := c_freshS I
    have Lg := f2.lay L (by decide)
    have Mg : pg_i g 83 = pg_i h 83 := f2.row (by decide)
    obtain ⟨b, b1, b2, b3, b4⟩ := m_grows Lg Mg S (gr.ch f2 (by decide) (by decide)) (v := v) (by
      rw [f2.atM (R := []) (F := [(81, 1)]) (by decide) (by decide)]
      exact ev) (by omega)
    have Lb := b2.lay Lg (by decide)
    have all : Ch tS tT h b := (f2.mono (by decide)).trans (b2.mono (by decide))
    obtain ⟨T, t1, t2, t3, t4, t5⟩ := id st
    obtain ⟨T', u1, u2, u3⟩ := b3
    have eT : T' c = T c := ((first_one t1 u1).1 c hc).symm
    have tl : T c ≤ nC (pg_i h 83) := (t1.1.1 c hc).1
    have r97 := u2 c hc
    rw [eT] at r97
    refine ⟨if T c = 0 then 100 else nI (T c - 1), g, b, ?_, Lg, ?_, I.stem all ?_ S i0 i1 (rd.ch b2 (by decide) (by decide)) (st.ch b2 (by decide)) b4, all.few⟩
    · unfold F_X11_whose
      rw [nR_1_0 D R, Option.bind_some, nR_2_0 D R, Option.bind_some, nc_3 D, c_holds_3 C, Option.bind_some, if_bb, if_pos (decide_eq_true c1), nc_1 D, f1, Option.bind_some, nc_59 Lg.kd]
      unfold F_X6_exemplarOf
      rw [if_neg (show ¬ nI c < (0 : Int32) from nI_nlt (b := 0) (Nat.zero_le _) (by omega)), if_pos (show nI c < (12 : Int32) from nI_lt (b := 12) (by omega) (by decide)), nR_59_6 Lg.kd Lg.rd, Option.bind_some, na_66 Lg.kd (by omega), Option.bind_some, t2 c (by omega), Option.bind_some]
      by_cases t0 : T c = 0
      · rw [if_neg (show ¬ (c < nC (pg_i h 83) ∧ T c ≠ 0) from fun y => y.2 t0), if_pos rfl, if_pos t0]
      · rw [if_pos (show c < nC (pg_i h 83) ∧ T c ≠ 0 from ⟨hc, t0⟩), if_neg (show ¬ nI (T c - 1) = -1 from nI_no (by omega)), if_neg t0]
    · unfold F_X12_whose
      rw [nc_81 Lg.kd, m_isCopy Lg Mg K, Option.bind_some, if_bb, if_pos (decide_eq_true c1), nc_81 Lg.kd, b1, Option.bind_some, nR_81_29 Lb.kd Lb.rd, Option.bind_some, na_97 Lb.kd (by omega), Option.bind_some, r97]
      by_cases t0 : T c = 0
      · rw [if_pos t0, if_pos t0, if_pos (show nI 12 = (12 : Int32) from rfl)]
      · rw [if_neg t0, if_neg t0, if_neg (show ¬ nI (T c - 1) = (12 : Int32) from fun z => by
          have := (nI_eq (b := 12) (by omega) (by decide)).mp z
          omega), Option.bind_some, na_97 Lb.kd (by omega), Option.bind_some, r97, if_neg t0]
    · rw [b2.atM (R := []) (F := [(1, 15)]) (by decide) (by decide), f3]
  · refine SimB.none I (-1) ?_ ?_
    · unfold F_X11_whose
      rw [nR_1_0 D R, Option.bind_some, nR_2_0 D R, Option.bind_some, nc_3 D, c_holds_3 C, Option.bind_some, if_bb, if_neg (by rw [decide_eq_false c1]; decide)]
    · unfold F_X12_whose
      rw [nc_81 D, m_isCopy L rfl K, Option.bind_some, if_bb, if_neg (by rw [decide_eq_false c1]; decide)]
