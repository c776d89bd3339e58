/-! CALLS that ask readings: of, weight, cost, agree -/
def rS : List Nat := wS ++ [58, 92, 93, 94, 95, 96, 98, 99, 106]
def rT : List (Nat × Nat) := [(47, 2), (50, 8), (1, 14)] ++ mT
theorem Inv.read {q : Nat} {h g : pg_H} {X Y0 Y1 : Nat → tX} (I : Inv q h) (a : Ch rS rT h g) (fl : pg_i g 1 14 = 1) (S : ShX h 2 (pg_i h 83) X) (i0 : ImOK h 0 Y0) (i1 : ImOK h 1 Y1) (rd : Rd g (pg_i h 83) (wg (pg_i h 83) (uX (pg_i h 83) X))) (st : StemOK h (pg_i h 83) (wg (pg_i h 83) (uX (pg_i h 83) X))) (gr : GrowOK h (pg_i h 83) (wg (pg_i h 83) (uX (pg_i h 83) X))) : Inv (q + 1) g := by
  obtain ⟨L, sc, tp, wo, ⟨v, ev, hv⟩, _⟩ := I
  have e83 : pg_i g 83 = pg_i h 83 := a.row (by decide)
  refine ⟨a.lay L (by decide), sc.ch a (by decide), tp.ch a (by decide), wo.ch a (by decide), ⟨v, ?_, by omega⟩, X, Y0, Y1, ?_⟩
  · rw [a.atM (R := []) (F := [(81, 1)]) (by decide) (by decide)]
    exact ev
  · rw [e83]
    exact ⟨S.ch a (by decide) (by decide), i0.ch a (by decide) (by decide), i1.ch a (by decide) (by decide), Or.inr ⟨fl, rd⟩, st.ch a (by decide) (by decide), gr.ch a (by decide) (by decide)⟩
/-- scratch alone changes -/
theorem Inv.same {q : Nat} {h g : pg_H} {S : List Nat} {T : List (Nat × Nat)} (I : Inv q h) (a : Ch S T h g) (d : dis S T [80, 82, 44, 87, 86, 77, 78, 79, 107, 108, 109, 42, 85, 84, 83, 3, 4, 5, 6, 7, 8, 9, 10, 11, 12, 13, 17, 18, 19, 20, 21, 22, 23, 24, 25, 26, 27, 30, 31, 32, 33, 34, 35, 36, 37, 38, 39, 40, 51, 52, 53, 54, 55, 56, 57, 60, 66, 97] [(1, 11), (1, 12), (1, 13), (1, 14), (1, 15), (81, 0), (81, 1), (81, 6), (81, 10), (81, 11), (81, 30), (81, 31), (81, 44), (43, 1), (76, 3), (2, 7), (2, 8), (16, 7), (16, 8), (29, 7), (29, 8), (50, 8), (59, 7), (59, 8)] = true) (d2 : lowST S T = true) : Inv (q + 1) g := by
  have d1 := d
  unfold dis at d1
  rw [Bool.and_eq_true, List.all_eq_true, List.all_eq_true] at d1
  have sub : ∀ {R F}, ((R.all fun r => [80, 82, 44, 87, 86, 77, 78, 79, 107, 108, 109, 42, 85, 84, 83, 3, 4, 5, 6, 7, 8, 9, 10, 11, 12, 13, 17, 18, 19, 20, 21, 22, 23, 24, 25, 26, 27, 30, 31, 32, 33, 34, 35, 36, 37, 38, 39, 40, 51, 52, 53, 54, 55, 56, 57, 60, 66, 97].contains r) && (F.all fun z => [(1, 11), (1, 12), (1, 13), (1, 14), (1, 15), (81, 0), (81, 1), (81, 6), (81, 10), (81, 11), (81, 30), (81, 31), (81, 44), (43, 1), (76, 3), (2, 7), (2, 8), (16, 7), (16, 8), (29, 7), (29, 8), (50, 8), (59, 7), (59, 8)].contains z)) = true → dis S T R F = true := fun {R F} q => by
    rw [Bool.and_eq_true, List.all_eq_true, List.all_eq_true] at q
    unfold dis
    rw [Bool.and_eq_true, List.all_eq_true, List.all_eq_true]
    exact ⟨fun r hr => d1.1 r (List.contains_iff_mem.mp (q.1 r hr)), fun z hz => d1.2 z (List.contains_iff_mem.mp (q.2 z hz))⟩
  obtain ⟨L, sc, tp, wo, ⟨v, ev, hv⟩, X, Y0, Y1, SX, i0, i1, r1, r2, r3⟩ := I
  have e83 : pg_i g 83 = pg_i h 83 := (a.rowM (R := [83]) (F := []) (sub (by decide)) (by decide)).1
  have LG : Lay g := by
    refine Mod.lay a L (fun z hz w => ?_) (fun j w => ?_)
    rotate_left
    · have q := d1.1 86 (List.contains_iff_mem.mp (by decide))
      rw [Bool.and_eq_true, Bool.not_eq_true', List.all_eq_true] at q
      rcases w with w | w
      · rw [List.contains_iff_mem.mpr w] at q
        exact absurd q.1 (by decide)
      · have := q.2 _ w
        simp at this
    have zz := (show ∀ z ∈ layI, [80, 82, 44, 87, 86, 77, 78, 79, 107, 108, 109, 42, 85, 84, 83, 3, 4, 5, 6, 7, 8, 9, 10, 11, 12, 13, 17, 18, 19, 20, 21, 22, 23, 24, 25, 26, 27, 30, 31, 32, 33, 34, 35, 36, 37, 38, 39, 40, 51, 52, 53, 54, 55, 56, 57, 60, 66, 97].contains z.1 = true by decide) z hz
    have q := d1.1 z.1 (List.contains_iff_mem.mp zz)
    rw [Bool.and_eq_true, Bool.not_eq_true', List.all_eq_true] at q
    rcases w with w | w
    · rw [List.contains_iff_mem.mpr w] at q
      exact absurd q.1 (by decide)
    · have := q.2 _ w
      simp at this
  refine ⟨LG, sc.ch a (sub (by decide)), tp.ch a (sub (by decide)), wo.ch a (sub (by decide)), ⟨v, ?_, by omega⟩, X, Y0, Y1, ?_⟩
  · rw [a.atM (R := []) (F := [(81, 1)]) (sub (by decide)) (by decide)]
    exact ev
  · rw [e83]
    exact ⟨SX.ch a (sub (by decide)) d2, i0.ch a (sub (by decide)) d2, i1.ch a (sub (by decide)) d2, r1.ch a (sub (by decide)) (sub (by decide)), r2.ch a (sub (by decide)) (sub (by decide)), r3.ch a (sub (by decide)) (sub (by decide))⟩
theorem sim_of : Sim_of Inv := by
  intro x1 x2 q h hq I
  have L := I.1
  have D := L.kd
  have R := L.rd
  obtain ⟨C, K⟩ := I.sh
  have kN : nN (pg_i h 83) < 201 := K.1.2.2.2.1.2
  have kE : pg_i h 83 1347 = nI (nN (pg_i h 83)) := K.1.2.2.2.1.1
  have bad : ∀ (e1 : F_X11_of 1 x1 x2 h = some (-2, h)) (e2 : F_X12_of h 81 x1 x2 = some (-2)), ∃ v h1, F_X11_of 1 x1 x2 h = some (v, h1) ∧ Lay h1 ∧ F_X12_of h1 81 x1 x2 = some v ∧ Inv (q + 1) h1 ∧ Few h h1 := fun e1 e2 => ⟨-2, h, e1, L, e2, I.up, Few.rfl' h⟩
  by_cases c1 : 0 ≤ x1 ∧ x1 < nI (nN (pg_i h 83))
  · by_cases c2 : 0 ≤ x2 ∧ x2 ≤ 5
    · obtain ⟨n, hn, rfl⟩ := in_nI c1 (by omega)
      obtain ⟨w, hw, rfl⟩ := nI_of2 (x := x2) (M := 5) (n := 5) (by decide) (Int32.not_lt.mpr c2.1) c2.2
      have h2 : n < 200 := by omega
      have mo : ∀ g, Lay g → pg_i g 83 = pg_i h 83 → F_X12_of g 81 (nI n) (nI w) = (if nI w < (5 : Int32) then Option.bind (F_X12_noteOf g 81 (nI n) (nI w)) fun v9 => some v9 else if pg_i h 83 (340 + 5 * n + 4) = 0 then some (nI (shQ (pg_i h 83) (pg_i h 83 (340 + 5 * n + 1)) (pg_i h 83 (340 + 5 * n + 2)))) else some 0) := fun g Lg Mg => by
        unfold F_X12_of
        simp only [k_si, k_sl, k_sr, r_si, r_sl, i_sl, i_sr, l_si, l_sr, Option.bind_some, if_true, if_false, bind_eta2, if_bb, decide_eq_true_eq, pg_let, nR_81_3, nc_81, Lg.kd, Lg.rd, m_k_1347 Lg Mg, kE, lies_n (nI n) (show nN (pg_i h 83) < 2 ^ 31 by omega), if_pos c1, lies_le (nI w), if_pos c2, m_note_4 Lg Mg h2, m_note_1 Lg Mg h2, m_note_2 Lg Mg h2, m_sharedBy Lg Mg K]
      by_cases w5 : w = 5
      · subst w5
        obtain ⟨g, f1, f2, f3, X, Y0, Y1, S, i0, i1, rd, st, gr⟩ := c_freshR I
        have Lg : Lay g := f2.lay L (by decide)
        have Mg : pg_i g 83 = pg_i h 83 := f2.row (by decide)
        have Cg : CNum g 2 (pg_i h 83) := C.ch f2 (by decide)
        refine ⟨nI (if wrQ (pg_i h 83) n then shQ (pg_i h 83) (pg_i h 83 (340 + 5 * n + 1)) (pg_i h 83 (340 + 5 * n + 2)) else 0), g, ?_, Lg, ?_, I.read (f2.mono (by decide)) f3 S i0 i1 rd st gr, f2.few⟩
        · unfold F_X11_of
          simp only [k_si, k_sl, k_sr, r_si, r_sl, i_sl, i_sr, l_si, l_sr, Option.bind_some, if_true, if_false, bind_eta2, if_bb, decide_eq_true_eq, pg_let, nR_1_0, nR_2_4, nc_1, nc_11, nc_50, D, R, Lg.kd, Lg.rd, c_holds_11 C, if_pos c1, within_le, if_pos c2, if_pos (show nI 5 = (5 : Int32) from rfl), f1, c_sharedOf Lg Cg K rd hn]
        · rw [mo g Lg Mg, if_neg (show ¬ nI 5 < (5 : Int32) by decide)]
          unfold wrQ
          by_cases z : pg_i h 83 (340 + 5 * n + 4) = 0
          · rw [if_pos z, if_pos (decide_eq_true z)]
          · rw [if_neg z, if_neg (by rw [decide_eq_false z]; decide)]
            rfl
      · have lw : nI w < (5 : Int32) := nI_lt (b := 5) (by omega) (by decide)
        have ne : ¬ nI w = (5 : Int32) := fun z => w5 ((nI_eq (b := 5) (by omega) (by decide)).mp z)
        have cl' : F_X7_at h 11 (nI n) (nI w) = some (pg_i h 83 (340 + 5 * n + w)) := C.2.2.2.2.1.at hn (by omega)
        have ml : F_X12_noteOf h 81 (nI n) (nI w) = some (pg_i h 83 (340 + 5 * n + w)) := m_noteOf L n w (by omega)
        refine ⟨pg_i h 83 (340 + 5 * n + w), h, ?_, L, ?_, I.up, Few.rfl' h⟩
        · unfold F_X11_of
          simp only [k_si, k_sl, k_sr, r_si, r_sl, i_sl, i_sr, l_si, l_sr, Option.bind_some, if_true, if_false, bind_eta2, if_bb, decide_eq_true_eq, pg_let, nR_1_0, nR_2_4, nc_11, D, R, c_holds_11 C, if_pos c1, within_le, if_pos c2, if_neg ne, cl']
        · rw [mo h L rfl, if_pos lw, ml]
          rfl
    · refine bad ?_ ?_
      · unfold F_X11_of
        simp only [k_si, k_sl, k_sr, r_si, r_sl, i_sl, i_sr, l_si, l_sr, Option.bind_some, if_true, if_false, bind_eta2, if_bb, decide_eq_true_eq, pg_let, nR_1_0, nR_2_4, nc_11, D, R, c_holds_11 C, if_pos c1, within_le, if_neg c2]
      · unfold F_X12_of
        simp only [k_si, k_sl, k_sr, r_si, r_sl, i_sl, i_sr, l_si, l_sr, Option.bind_some, if_true, if_false, bind_eta2, if_bb, decide_eq_true_eq, pg_let, nR_81_3, D, R, m_k_1347 L rfl, kE, lies_n x1 (show nN (pg_i h 83) < 2 ^ 31 by omega), if_pos c1, lies_le x2, if_neg c2]
  · refine bad ?_ ?_
    · unfold F_X11_of
      simp only [k_si, k_sl, k_sr, r_si, r_sl, i_sl, i_sr, l_si, l_sr, Option.bind_some, if_true, if_false, bind_eta2, if_bb, decide_eq_true_eq, pg_let, nR_1_0, nR_2_4, nc_11, D, R, c_holds_11 C, if_neg c1]
    · unfold F_X12_of
      simp only [k_si, k_sl, k_sr, r_si, r_sl, i_sl, i_sr, l_si, l_sr, Option.bind_some, if_true, if_false, bind_eta2, if_bb, decide_eq_true_eq, pg_let, nR_81_3, D, R, m_k_1347 L rfl, kE, lies_n x1 (show nN (pg_i h 83) < 2 ^ 31 by omega), if_neg c1]
/-- nothing changes, one answer -/
theorem SimB.none {q : Nat} {h : pg_H} {F G : pg_H → Option (Int32 × pg_H)} (I : Inv q h) (v : Int32) (e1 : F h = some (v, h)) (e2 : G h = some (v, h)) : SimB q h F G := ⟨v, h, h, e1, I.1, e2, I.up, Few.rfl' h⟩
theorem sim_weight : Sim_weight Inv := by
  intro x1 x2 q h hq I
  show SimB q h (F_X11_weight 1 x1 x2) (F_X12_weight 81 x1 x2)
  have L := I.1
  have D := L.kd
  have R := L.rd
  obtain ⟨C, K⟩ := I.sh
  by_cases c1 : 0 ≤ x1 ∧ x1 ≤ 59
  · by_cases c2 : 0 ≤ x2 ∧ x2 ≤ 99
    · obtain ⟨p, hp, rfl⟩ := nI_of2 (x := x1) (M := 59) (n := 59) (by decide) (Int32.not_lt.mpr c1.1) c1.2
      obtain ⟨v, hv, rfl⟩ := nI_of2 (x := x2) (M := 99) (n := 99) (by decide) (Int32.not_lt.mpr c2.1) c2.2
      obtain ⟨g, f1, f2, f3, X, Y0, Y1, S, i0, i1, rd, st, gr⟩ := c_freshR I
      have Lg : Lay g := f2.lay L (by decide)
      have Sg : ShX g 2 (pg_i h 83) X := S.ch f2 (by decide) (by decide)
      have ho := c_holdersOf Lg K rd (p := p) (v := v) (by omega) (by omega)
      obtain ⟨u, u1, u2, u3⟩ := c_askWording Lg.kd Lg.rd (p := p) (by omega) v (shQ (pg_i h 83) (nI p) (nI v))
      have Lu := u2.lay Lg (by decide)
      have Su : ShX u 2 (pg_i h 83) X := Sg.ch u2 (by decide) (by decide)
      obtain ⟨tx, y, y1, y2, y3⟩ := c_told (hd := 0) Lu Su (by decide) 10
      have val : (uX (pg_i h 83) X 0 (pg_i u 48)).elim (10 : Int32) nI = nI (wg (pg_i h 83) (uX (pg_i h 83) X) p v) := by
        rw [uX_env Su u3]
        unfold wg
        cases uX (pg_i h 83) X 0 (envW p v (shQ (pg_i h 83) (nI p) (nI v))) <;> rfl
      rw [val] at y2
      have Ly := y3.lay Lu (by decide)
      have My : pg_i y 83 = pg_i h 83 := (y3.row (by decide)).trans ((u2.row (by decide)).trans (f2.row (by decide)))
      obtain ⟨z, z1, z2⟩ := m_weightOf Ly My S (p := p) (w := v) (by omega)
      have gz : Ch [48, 49, 92] ((47, 2) :: mT) g z := ((u2.mono (by decide)).trans (y3.mono (by decide))).trans (z2.mono (by decide))
      have all : Ch rS rT h z := (f2.mono (by decide)).trans (gz.mono (by decide))
      refine ⟨nI (wg (pg_i h 83) (uX (pg_i h 83) X) p v), y, z, ?_, Ly, ?_, I.read all ?_ S i0 i1 (rd.ch gz (by decide)) st gr, all.few⟩
      · have y2' : F_X0_told 47 tx (0 : Int32) 10 u = some (nI (wg (pg_i h 83) (uX (pg_i h 83) X) p v), y) := y2
        unfold F_X11_weight
        simp only [k_si, k_sl, k_sr, r_si, r_sl, i_sl, i_sr, l_si, l_sr, Option.bind_some, if_true, if_false, bind_eta2, if_bb, decide_eq_true_eq, pg_let, within_le, if_pos c1, if_pos c2, nR_1_5, nR_1_0, nc_1, nc_50, nc_47, nc_2, D, R, Lg.kd, Lg.rd, Lu.kd, Lu.rd, f1, ho, bc_mk, shQ_12 K, u1, y1, y2']
      · unfold F_X12_weight
        simp only [k_si, k_sl, k_sr, r_si, r_sl, i_sl, i_sr, l_si, l_sr, Option.bind_some, if_true, if_false, bind_eta2, if_bb, decide_eq_true_eq, pg_let, lies_le, if_pos c1, if_pos c2, nc_81, Ly.kd, z1]
      · rw [gz.atM (R := []) (F := [(1, 14)]) (by decide) (by decide), f3]
    · refine SimB.none I (-1) ?_ ?_
      · unfold F_X11_weight
        simp only [k_si, k_sl, k_sr, r_si, r_sl, i_sl, i_sr, l_si, l_sr, Option.bind_some, if_true, if_false, bind_eta2, if_bb, decide_eq_true_eq, pg_let, within_le, if_pos c1, if_neg c2]
      · unfold F_X12_weight
        simp only [k_si, k_sl, k_sr, r_si, r_sl, i_sl, i_sr, l_si, l_sr, Option.bind_some, if_true, if_false, bind_eta2, if_bb, decide_eq_true_eq, pg_let, lies_le, if_pos c1, if_neg c2]
  · refine SimB.none I (-1) ?_ ?_
    · unfold F_X11_weight
      simp only [k_si, k_sl, k_sr, r_si, r_sl, i_sl, i_sr, l_si, l_sr, Option.bind_some, if_true, if_false, bind_eta2, if_bb, decide_eq_true_eq, pg_let, within_le, if_neg c1]
    · unfold F_X12_weight
      simp only [k_si, k_sl, k_sr, r_si, r_sl, i_sl, i_sr, l_si, l_sr, Option.bind_some, if_true, if_false, bind_eta2, if_bb, decide_eq_true_eq, pg_let, lies_le, if_neg c1]
theorem pow_pair {a : Nat} (ha : a < 12) : nI (2 ^ a) = nI (mk 12 (pairE a a)) := by
  rw [mk_pow ha]
  refine congrArg nI (mk_cong (fun i _ => ?_))
  unfold pairE
  rw [Bool.or_self]
theorem sim_cost : Sim_cost Inv := by
  intro x1 x2 q h hq I
  show SimB q h (F_X11_cost 1 x1 x2) (F_X12_cost 81 x1 x2)
  have L := I.1
  have D := L.kd
  have R := L.rd
  obtain ⟨C, K⟩ := I.sh
  have kC : nC (pg_i h 83) < 13 := K.1.1.2
  by_cases c2 : 0 ≤ x2 ∧ x2 < nI (nC (pg_i h 83))
  · obtain ⟨c, hc, rfl⟩ := in_nI c2 (by omega)
    by_cases e1 : x1 = -1
    · subst e1
      obtain ⟨g, f1, f2, f3, X, Y0, Y1, S, i0, i1, rd, st, gr⟩ := c_freshR I
      have Lg : Lay g := f2.lay L (by decide)
      have Cg : CNum g 2 (pg_i h 83) := C.ch f2 (by decide)
      obtain ⟨RN, key, rs⟩ := rd.short K
      obtain ⟨z, z1, z2, z3⟩ := m_weighs Lg (f2.row (by decide)) S
      have Lz := z2.lay Lg (by decide)
      have Mz : pg_i z 83 = pg_i h 83 := (z2.row (by decide)).trans (f2.row (by decide))
      have all : Ch rS rT h z := (f2.mono (by decide)).trans (z2.mono (by decide))
      refine ⟨nI (tm (pg_i h 83) 2 * ownS (pg_i h 83) (wg (pg_i h 83) (uX (pg_i h 83) X)) c), g, z, ?_, Lg, ?_, I.read all ?_ S i0 i1 (rd.ch z2 (by decide)) st gr, all.few⟩
      · unfold F_X11_cost
        simp only [k_si, k_sl, k_sr, r_si, r_sl, i_sl, i_sr, l_si, l_sr, Option.bind_some, if_true, if_false, bind_eta2, if_bb, decide_eq_true_eq, pg_let, nR_1_0, nR_2_0, nc_1, nc_3, nc_50, D, R, Lg.kd, Lg.rd, c_holds_3 C, if_pos c2, f1, c_ownCost Lg Cg K rs (show c < 12 by omega)]
      · unfold F_X12_cost F_X12_cost_21
        simp only [k_si, k_sl, k_sr, r_si, r_sl, i_sl, i_sr, l_si, l_sr, Option.bind_some, if_true, if_false, bind_eta2, if_bb, decide_eq_true_eq, pg_let, nc_81, Lg.kd, Lz.kd, m_isCopy Lg (f2.row (by decide)) K, if_pos c2, if_neg (show ¬ ((-1 : Int32) = nI c) from fun w => neg1_ne (by omega) w.symm), z1, m_costAlone Lz Mz K z3 (show c < 12 by omega)]
      · rw [z2.atM (R := []) (F := [(1, 14)]) (by decide) (by decide), f3]
    · by_cases c1 : 0 ≤ x1 ∧ x1 < nI (nC (pg_i h 83))
      · obtain ⟨a, ha, rfl⟩ := in_nI c1 (by omega)
        by_cases e : nI a = nI c
        · refine SimB.none I (-1) ?_ ?_
          · unfold F_X11_cost
            simp only [k_si, k_sl, k_sr, r_si, r_sl, i_sl, i_sr, l_si, l_sr, Option.bind_some, if_true, if_false, bind_eta2, if_bb, decide_eq_true_eq, pg_let, if_neg e1, nc_1, D, c_areTwo L C, if_neg (show ¬ (nI a ≠ nI c ∧ (0 ≤ nI a ∧ nI a < nI (nC (pg_i h 83))) ∧ (0 ≤ nI c ∧ nI c < nI (nC (pg_i h 83)))) from fun z => z.1 e)]
          · unfold F_X12_cost F_X12_cost_21
            simp only [k_si, k_sl, k_sr, r_si, r_sl, i_sl, i_sr, l_si, l_sr, Option.bind_some, if_true, if_false, bind_eta2, if_bb, decide_eq_true_eq, pg_let, nc_81, D, m_isCopy L rfl K, if_pos c2, if_pos c1, if_neg e1, if_pos e]
        · obtain ⟨g, f1, f2, f3, X, Y0, Y1, S, i0, i1, rd, st, gr⟩ := c_freshR I
          have Lg : Lay g := f2.lay L (by decide)
          have Cg : CNum g 2 (pg_i h 83) := C.ch f2 (by decide)
          obtain ⟨RN, key, rs⟩ := rd.short K
          obtain ⟨z, z1, z2, z3⟩ := m_weighs Lg (f2.row (by decide)) S
          have Lz := z2.lay Lg (by decide)
          have Mz : pg_i z 83 = pg_i h 83 := (z2.row (by decide)).trans (f2.row (by decide))
          have all : Ch rS rT h z := (f2.mono (by decide)).trans (z2.mono (by decide))
          have cc := c_costFrom Lg Cg K rs (a := a) (b := a) (c := c) (by omega) (by omega) (by omega)
          rw [← pow_pair (by omega)] at cc
          refine ⟨nI (frC (pg_i h 83) (wg (pg_i h 83) (uX (pg_i h 83) X)) a a c), g, z, ?_, Lg, ?_, I.read all ?_ S i0 i1 (rd.ch z2 (by decide)) st gr, all.few⟩
          · unfold F_X11_cost
            simp only [k_si, k_sl, k_sr, r_si, r_sl, i_sl, i_sr, l_si, l_sr, Option.bind_some, if_true, if_false, bind_eta2, if_bb, decide_eq_true_eq, pg_let, if_neg e1, nR_1_0, nc_1, nc_50, D, R, Lg.kd, Lg.rd, c_areTwo L C, if_pos (show nI a ≠ nI c ∧ (0 ≤ nI a ∧ nI a < nI (nC (pg_i h 83))) ∧ (0 ≤ nI c ∧ nI c < nI (nC (pg_i h 83))) from ⟨e, c1, c2⟩), f1, ix_shl a (show a < 32 by omega), cc]
          · unfold F_X12_cost F_X12_cost_21
            simp only [k_si, k_sl, k_sr, r_si, r_sl, i_sl, i_sr, l_si, l_sr, Option.bind_some, if_true, if_false, bind_eta2, if_bb, decide_eq_true_eq, pg_let, nc_81, Lg.kd, Lz.kd, m_isCopy Lg (f2.row (by decide)) K, if_pos c2, if_pos c1, if_neg e1, if_neg e, z1, m_costFrom Lz Mz K z3 (show a < 12 by omega) (show a < 12 by omega) (show c < 12 by omega)]
          · rw [z2.atM (R := []) (F := [(1, 14)]) (by decide) (by decide), f3]
      · refine SimB.none I (-1) ?_ ?_
        · unfold F_X11_cost
          simp only [k_si, k_sl, k_sr, r_si, r_sl, i_sl, i_sr, l_si, l_sr, Option.bind_some, if_true, if_false, bind_eta2, if_bb, decide_eq_true_eq, pg_let, if_neg e1, nc_1, D, c_areTwo L C, if_neg (show ¬ (x1 ≠ nI c ∧ (0 ≤ x1 ∧ x1 < nI (nC (pg_i h 83))) ∧ (0 ≤ nI c ∧ nI c < nI (nC (pg_i h 83)))) from fun z => c1 z.2.1)]
        · unfold F_X12_cost
          simp only [k_si, k_sl, k_sr, r_si, r_sl, i_sl, i_sr, l_si, l_sr, Option.bind_some, if_true, if_false, bind_eta2, if_bb, decide_eq_true_eq, pg_let, nc_81, D, m_isCopy L rfl K, if_pos c2, if_neg c1, if_neg e1]
  · refine SimB.none I (-1) ?_ ?_
    · unfold F_X11_cost
      by_cases e1 : x1 = -1
      · simp only [k_si, k_sl, k_sr, r_si, r_sl, i_sl, i_sr, l_si, l_sr, Option.bind_some, if_true, if_false, bind_eta2, if_bb, decide_eq_true_eq, pg_let, if_pos e1, nR_1_0, nR_2_0, nc_3, D, R, c_holds_3 C, if_neg c2]
      · simp only [k_si, k_sl, k_sr, r_si, r_sl, i_sl, i_sr, l_si, l_sr, Option.bind_some, if_true, if_false, bind_eta2, if_bb, decide_eq_true_eq, pg_let, if_neg e1, nc_1, D, c_areTwo L C, if_neg (show ¬ (x1 ≠ x2 ∧ (0 ≤ x1 ∧ x1 < nI (nC (pg_i h 83))) ∧ (0 ≤ x2 ∧ x2 < nI (nC (pg_i h 83)))) from fun z => c2 z.2.2)]
    · unfold F_X12_cost
      simp only [k_si, k_sl, k_sr, r_si, r_sl, i_sl, i_sr, l_si, l_sr, Option.bind_some, if_true, if_false, bind_eta2, if_bb, decide_eq_true_eq, pg_let, nc_81, D, m_isCopy L rfl K, if_neg c2]
theorem sim_agree : Sim_agree Inv := by
  intro x1 x2 q h hq I
  show SimB q h (F_X11_agree 1 x1 x2) (F_X12_agree 81 x1 x2)
  have L := I.1
  have D := L.kd
  have R := L.rd
  obtain ⟨C, K⟩ := I.sh
  have kC : nC (pg_i h 83) < 13 := K.1.1.2
  by_cases ok : x1 ≠ x2 ∧ (0 ≤ x1 ∧ x1 < nI (nC (pg_i h 83))) ∧ (0 ≤ x2 ∧ x2 < nI (nC (pg_i h 83)))
  · obtain ⟨e, c1, c2⟩ := id ok
    obtain ⟨a, ha, rfl⟩ := in_nI c1 (by omega)
    obtain ⟨c, hc, rfl⟩ := in_nI c2 (by omega)
    obtain ⟨g, f1, f2, f3, X, Y0, Y1, S, i0, i1, rd, st, gr⟩ := c_freshR I
    have Lg : Lay g := f2.lay L (by decide)
    obtain ⟨RN, key, rs⟩ := rd.short K
    obtain ⟨z, z1, z2, z3⟩ := m_weighs Lg (f2.row (by decide)) S
    have Lz := z2.lay Lg (by decide)
    have Mz : pg_i z 83 = pg_i h 83 := (z2.row (by decide)).trans (f2.row (by decide))
    have all : Ch rS rT h z := (f2.mono (by decide)).trans (z2.mono (by decide))
    refine ⟨nI (agS (pg_i h 83) (wg (pg_i h 83) (uX (pg_i h 83) X)) a c), g, z, ?_, Lg, ?_, I.read all ?_ S i0 i1 (rd.ch z2 (by decide)) st gr, all.few⟩
    · unfold F_X11_agree
      simp only [k_si, k_sl, k_sr, r_si, r_sl, i_sl, i_sr, l_si, l_sr, Option.bind_some, if_true, if_false, bind_eta2, if_bb, decide_eq_true_eq, pg_let, nc_1, nc_50, D, Lg.kd, c_areTwo L C, if_pos ok, f1, c_agreement Lg rs (show a < 12 by omega) (show c < 12 by omega)]
    · unfold F_X12_agree
      simp only [k_si, k_sl, k_sr, r_si, r_sl, i_sl, i_sr, l_si, l_sr, Option.bind_some, if_true, if_false, bind_eta2, if_bb, decide_eq_true_eq, pg_let, nc_81, Lg.kd, Lz.kd, m_isCopy Lg (f2.row (by decide)) K, if_pos c2, if_pos c1, if_neg e, z1, m_agreeOf Lz Mz K z3 (show a < 12 by omega) (show c < 12 by omega)]
    · rw [z2.atM (R := []) (F := [(1, 14)]) (by decide) (by decide), f3]
  · refine SimB.none I (-1) ?_ ?_
    · unfold F_X11_agree
      simp only [k_si, k_sl, k_sr, r_si, r_sl, i_sl, i_sr, l_si, l_sr, Option.bind_some, if_true, if_false, bind_eta2, if_bb, decide_eq_true_eq, pg_let, nc_1, D, c_areTwo L C, if_neg ok]
    · unfold F_X12_agree
      simp only [k_si, k_sl, k_sr, r_si, r_sl, i_sl, i_sr, l_si, l_sr, Option.bind_some, if_true, if_false, bind_eta2, if_bb, decide_eq_true_eq, pg_let, nc_81, D, m_isCopy L rfl K]
      by_cases c1 : 0 ≤ x1 ∧ x1 < nI (nC (pg_i h 83))
      · rw [if_pos c1]
        by_cases c2 : 0 ≤ x2 ∧ x2 < nI (nC (pg_i h 83))
        · rw [if_pos c2]
          by_cases e : x1 = x2
          · rw [if_pos e]
          · exact absurd ⟨e, c1, c2⟩ ok
        · rw [if_neg c2]
      · rw [if_neg c1]
