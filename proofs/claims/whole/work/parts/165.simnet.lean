/-! net: both sides -/
theorem pair_tz : ∀ a, a < 12 → ∀ b, b < 12 → a < b → F_J6_numberOfTrailingZeros_0f7a4 (nI (mk 12 (pairE a b))) = some (nI a) := by decide +kernel
theorem pair_lz : ∀ a, a < 12 → ∀ b, b < 12 → a < b → F_J6_numberOfLeadingZeros_0f7a4 (nI (mk 12 (pairE a b))) = some ((31 : Int32) - nI b) := by decide +kernel
theorem back31 : ∀ b, b < 12 → (31 : Int32) - ((31 : Int32) - nI b) = nI b := by decide +kernel
theorem sim_net : Sim_net Inv := by
  intro x1 x2 q h hq I
  show SimB q h (F_X11_net 1 x1 x2) (F_X12_net 81 x1 x2)
  have L := I.1
  have D := L.kd
  have R := L.rd
  obtain ⟨C, K⟩ := I.sh
  have kn : nC (pg_i h 83) < 13 := K.1.1.2
  by_cases c1 : 0 ≤ x1 ∧ x1 < nI (nC (pg_i h 83))
  · by_cases c2 : 0 ≤ x2 ∧ x2 ≤ 3
    · obtain ⟨c, hc, rfl⟩ := in_nI c1 (by omega)
      obtain ⟨g, f1, f2, f3, X, Y0, Y1, S, i0, i1, rd, st, gr⟩ := c_freshR I
      have hw : wOK (wg (pg_i h 83) (uX (pg_i h 83) X)) := fun p v => wg_le S p v
      have Lg : Lay g := f2.lay L (by decide)
      have Mg : pg_i g 83 = pg_i h 83 := f2.row (by decide)
      have Cg : CNum g 2 (pg_i h 83) := C.ch f2 (by decide)
      obtain ⟨RN, key, rs⟩ := rd.short K
      obtain ⟨a, a1, a2, a3, a4⟩ := m_laysCosts Lg Mg S
      have La := a2.lay Lg (by decide)
      have Ma : pg_i a 83 = pg_i h 83 := (a2.row (by decide)).trans Mg
      have all : Ch rS rT h a := (f2.mono (by decide)).trans (a2.mono (by decide))
      have fin : Inv (q + 1) a := I.read all (by rw [a2.atM (R := []) (F := [(1, 14)]) (by decide) (by decide), f3]) S i0 i1 (rd.ch a2 (by decide)) st gr
      have c12 : c < 12 := by omega
      have bP := c_bestPair Lg Cg K hw rs hc
      have mP := m_bestPair La Ma K hw a3 a4 hc x2
      rw [aB_end K] at bP
      have ok : okB (pg_i h 83) (aB (pg_i h 83) (wg (pg_i h 83) (uX (pg_i h 83) X)) c (nC (pg_i h 83)) (nC (pg_i h 83))) := aB_ok
      have em : F_X12_net 81 (nI c) x2 g = F_X12_net_38 (0 + 1) 81 (nI c) x2 (nP (aB (pg_i h 83) (wg (pg_i h 83) (uX (pg_i h 83) X)) c (nC (pg_i h 83)) (nC (pg_i h 83)))) (nQ (aB (pg_i h 83) (wg (pg_i h 83) (uX (pg_i h 83) X)) c (nC (pg_i h 83)) (nC (pg_i h 83)))) (nK (pg_i h 83) (wg (pg_i h 83) (uX (pg_i h 83) X)) c (aB (pg_i h 83) (wg (pg_i h 83) (uX (pg_i h 83) X)) c (nC (pg_i h 83)) (nC (pg_i h 83)))) (nI (nC (pg_i h 83))) a := by
        unfold F_X12_net
        rw [nc_81 Lg.kd, m_isCopy Lg Mg K, Option.bind_some, if_bb, if_pos (decide_eq_true c1), lies_le, Option.bind_some, if_bb, if_pos (decide_eq_true c2), nc_81 Lg.kd, a1, Option.bind_some]
        exact mP
      rw [F_X12_net_38] at em
      dsimp only at em
      rw [nc_81 La.kd, m_copiesA La Ma, show pg_i h 83 1344 = nI (nC (pg_i h 83)) from K.1.1.1, Option.bind_some, if_neg Int32.lt_irrefl] at em
      have ec : ∀ o, F_X4_bestPair g 50 2 (nI c) = some (kP o) → F_X11_net 1 (nI c) x2 h = (if kP o = 0 then (some ((-1000000 : Int32), g)) else (if x2 = 0 then Option.bind (F_J6_numberOfTrailingZeros_0f7a4 (kP o)) fun v13 => (some (v13, g)) else (if x2 = (1 : Int32) then Option.bind (F_J6_numberOfLeadingZeros_0f7a4 (kP o)) fun v12 => (some (((31 : Int32) - v12), g)) else Option.bind (F_X4_costFrom g 50 2 (kP o) (nI c)) fun v9 => (if x2 = (2 : Int32) then (some (v9, g)) else Option.bind (F_X4_bestSingleCost g 50 2 (nI c)) fun v11 => (some ((v11 - v9), g)))))) := fun o e => by
        unfold F_X11_net
        simp only [k_si, k_sl, k_sr, r_si, r_sl, i_sl, i_sr, l_si, l_sr, Option.bind_some, if_true, if_false, bind_eta2, if_bb, decide_eq_true_eq, pg_let, nR_1_0, nR_2_0, nc_1, nc_3, nc_50, D, R, Lg.kd, Lg.rd, c_holds_3 C, if_pos c1, within_le, if_pos c2, f1, e]
      have ec := ec _ bP
      generalize aB (pg_i h 83) (wg (pg_i h 83) (uX (pg_i h 83) X)) c (nC (pg_i h 83)) (nC (pg_i h 83)) = o at *
      cases o with
      | none =>
        refine ⟨-1000000, g, a, ?_, Lg, ?_, fin, all.few⟩
        · rw [ec, if_pos (show kP none = 0 from rfl)]
        · rw [em, if_pos (show nP none = -1 from rfl)]
      | some z =>
        obtain ⟨z1, z2⟩ := ok z rfl
        rw [if_neg (show ¬ kP (some z) = 0 from pair_no0 (show z.1 < 12 by omega))] at ec
        rw [if_neg (show ¬ nP (some z) = -1 from nI_no (show z.1 < 2 ^ 31 by omega))] at em
        by_cases w0 : x2 = 0
        · refine ⟨nI z.1, g, a, ?_, Lg, ?_, fin, all.few⟩
          · rw [ec, if_pos w0, show kP (some z) = nI (mk 12 (pairE z.1 z.2)) from rfl, pair_tz z.1 (by omega) z.2 (by omega) z1, Option.bind_some]
          · rw [em, if_pos w0]
            rfl
        · rw [if_neg w0] at ec em
          by_cases w1 : x2 = 1
          · refine ⟨nI z.2, g, a, ?_, Lg, ?_, fin, all.few⟩
            · rw [ec, if_pos w1, show kP (some z) = nI (mk 12 (pairE z.1 z.2)) from rfl, pair_lz z.1 (by omega) z.2 (by omega) z1, Option.bind_some, back31 z.2 (by omega)]
            · rw [em, if_pos w1]
              rfl
          · rw [if_neg w1] at ec em
            rw [show kP (some z) = nI (mk 12 (pairE z.1 z.2)) from rfl, c_costFrom Lg Cg K rs (show z.1 < 12 by omega) (show z.2 < 12 by omega) c12, Option.bind_some] at ec
            by_cases w2 : x2 = 2
            · refine ⟨nI (frC (pg_i h 83) (wg (pg_i h 83) (uX (pg_i h 83) X)) z.1 z.2 c), g, a, ?_, Lg, ?_, fin, all.few⟩
              · rw [ec, if_pos w2]
              · rw [em, if_pos w2]
                rfl
            · rw [if_neg w2] at ec em
              obtain ⟨v, v1, v2⟩ := c_bestSingle Lg Cg K hw rs hc
              obtain ⟨u, u1, u2⟩ := m_bestSingle La K hw a4 hc
              refine ⟨nI v - nI (frC (pg_i h 83) (wg (pg_i h 83) (uX (pg_i h 83) X)) z.1 z.2 c), g, a, ?_, Lg, ?_, fin, all.few⟩
              · rw [ec, v1, Option.bind_some]
              · rw [em, nc_81 La.kd, u1, Option.bind_some, v2.one u2]
                rfl
    · refine SimB.none I (-1000000) ?_ ?_
      · unfold F_X11_net
        rw [nR_1_0 D R, Option.bind_some, nR_2_0 D R, Option.bind_some, nc_3 D, c_holds_3 C, Option.bind_some, if_bb, if_pos (decide_eq_true c1), within_le, Option.bind_some, if_bb, if_neg (by rw [decide_eq_false c2]; decide)]
      · unfold F_X12_net
        rw [nc_81 D, m_isCopy L rfl K, Option.bind_some, if_bb, if_pos (decide_eq_true c1), lies_le, Option.bind_some, if_bb, if_neg (by rw [decide_eq_false c2]; decide)]
  · refine SimB.none I (-1000000) ?_ ?_
    · unfold F_X11_net
      rw [nR_1_0 D R, Option.bind_some, nR_2_0 D R, Option.bind_some, nc_3 D, c_holds_3 C, Option.bind_some, if_bb, if_neg (by rw [decide_eq_false c1]; decide)]
    · unfold F_X12_net
      rw [nc_81 D, m_isCopy L rfl K, Option.bind_some, if_bb, if_neg (by rw [decide_eq_false c1]; decide)]
