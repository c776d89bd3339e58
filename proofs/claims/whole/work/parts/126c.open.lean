/-! CALLS that open a row: stay, hand -/
theorem years_same (a b : Int32) : F_X12_areYears a b = F_X11_areYears a b := rfl
theorem years_le (a b : Int32) : F_X11_areYears a b = some (b01 (decide ((0 ≤ a ∧ a ≤ 400) ∧ (a ≤ b ∧ b ≤ 400)))) := by
  unfold F_X11_areYears
  simp only [within_le, Option.bind_some, if_bb, decide_eq_true_eq]
  by_cases h1 : 0 ≤ a ∧ a ≤ 400
  · by_cases h2 : a ≤ b ∧ b ≤ 400
    · rw [if_pos h1, if_pos h2, decide_eq_true (show (0 ≤ a ∧ a ≤ 400) ∧ a ≤ b ∧ b ≤ 400 from ⟨h1, h2⟩)]
      rfl
    · rw [if_pos h1, if_neg h2, decide_eq_false (fun z => h2 z.2)]
      rfl
  · rw [if_neg h1, decide_eq_false (fun z => h1 z.1)]
    rfl
theorem sim_stay : Sim_stay Inv := by
  intro x1 x2 x3 x4 q h hq I
  show SimB q h (F_X11_stay 1 x1 x2 x3 x4) (F_X12_stay 81 x1 x2 x3 x4)
  obtain ⟨L, _, _, _, _, X, Y0, Y1, ⟨C, K, TX⟩, _⟩ := id I
  have D := L.kd
  have R := L.rd
  have kc : pg_i h 83 1345 = nI (nS (pg_i h 83)) := K.1.2.1.1
  have kn : nS (pg_i h 83) < 41 := K.1.2.1.2
  have kC : nC (pg_i h 83) < 13 := K.1.1.2
  by_cases c1 : 0 ≤ x2 ∧ x2 ≤ 31
  · by_cases c3 : (0 ≤ x3 ∧ x3 ≤ 400) ∧ (x3 ≤ x4 ∧ x4 ≤ 400)
    · by_cases c2 : 0 ≤ x1 ∧ x1 < nI (nC (pg_i h 83))
      · obtain ⟨tw, htw, rfl⟩ := nI_of2 (x := x2) (M := 31) (n := 31) (by decide) (Int32.not_lt.mpr c1.1) c1.2
        obtain ⟨y1, hy1, rfl⟩ := nI_of2 (x := x3) (M := 400) (n := 400) (by decide) (Int32.not_lt.mpr c3.1.1) c3.1.2
        obtain ⟨y2, hy2, rfl⟩ := nI_of2 (x := x4) (M := 400) (n := 400) (by decide) (Int32.not_lt.mpr (Int32.le_trans c3.1.1 c3.2.1)) c3.2.2
        have hyy : y1 ≤ y2 := (nI_leI (by omega) (by omega)).mp c3.2.1
        obtain ⟨i, hi, rfl⟩ := in_nI c2 (by omega)
        by_cases full : nS (pg_i h 83) = 40
        · refine refuse_sim I (x := -5) (k := 5) (by decide) (by decide) ?_ (fun h1 L1 e83 e81 _ => ?_)
          · unfold F_X11_stay
            simp only [k_si, k_sl, k_sr, r_si, r_sl, i_sl, i_sr, l_si, l_sr, Option.bind_some, if_true, if_false, bind_eta2, if_bb, decide_eq_true_eq, pg_let, within_le, years_le, nR_1_0, nR_2_0, nR_2_1, nc_1, nc_3, nc_5, D, R, if_pos c1, if_pos c3, c_holds_3 C, if_pos c2, C.2.1.1.full full]
          · have e40 : pg_aI 21 h1 83 (1345 : Int32) = some (40 : Int32) := by
              rw [m_k_1345 L1 e83, kc, full]
              rfl
            unfold F_X12_stay
            simp only [k_si, k_sl, k_sr, r_si, r_sl, i_sl, i_sr, l_si, l_sr, Option.bind_some, if_true, if_false, bind_eta2, if_bb, decide_eq_true_eq, pg_let, lies_le, years_same, years_le, nc_81, nR_81_3, L1.kd, L1.rd, if_pos c1, if_pos c3, m_isCopy L1 e83 K, if_pos c2, e40]
        · obtain ⟨n, hn⟩ : ∃ n, n = nS (pg_i h 83) := ⟨_, rfl⟩
          obtain ⟨ha, e1, Ca, aa⟩ := C.open1 (by omega)
          rw [← hn] at e1 Ca kc kn full
          generalize hA : pg_i h 83 = A at *
          have nSa : nS (up1 (fun k => if 36 + 4 * n ≤ k ∧ k < 36 + 4 * n + 4 then 0 else A k) 1345 (nI (n + 1))) = n + 1 := cl_of up1_eq (by omega)
          have C1 := Ca.put1 (i := n) (j := 0) (x := nI i) (by omega) (by decide)
          have C2 := C1.put1 (i := n) (j := 1) (x := nI tw) (by rw [nS_ne (by omega)]; omega) (by decide)
          have C3 := C2.put1 (i := n) (j := 2) (x := nI y1) (by rw [nS_ne (by omega), nS_ne (by omega)]; omega) (by decide)
          have C4 := C3.put1 (i := n) (j := 3) (x := nI y2) (by rw [nS_ne (by omega), nS_ne (by omega), nS_ne (by omega)]; omega) (by decide)
          have p1 := c_put Ca.2.1 (i := n) (j := 0) (by omega) (by decide) (nI i)
          have p2 := c_put C1.2.1 (i := n) (j := 1) (by rw [nS_ne (by omega)]; omega) (by decide) (nI tw)
          have p3 := c_put C2.2.1 (i := n) (j := 2) (by rw [nS_ne (by omega), nS_ne (by omega)]; omega) (by decide) (nI y1)
          have p4 := c_put C3.2.1 (i := n) (j := 3) (by rw [nS_ne (by omega), nS_ne (by omega), nS_ne (by omega)]; omega) (by decide) (nI y2)
          have eA : ∀ k, (up1 (up1 (up1 (up1 (up1 A (36 + 4 * n) (nI i)) (36 + 4 * n + 1) (nI tw)) (36 + 4 * n + 2) (nI y1)) (36 + 4 * n + 3) (nI y2)) 1345 (nI n + 1)) k = (up1 (up1 (up1 (up1 (up1 (fun k => if 36 + 4 * n ≤ k ∧ k < 36 + 4 * n + 4 then 0 else A k) 1345 (nI (n + 1))) (36 + 4 * n + 0) (nI i)) (36 + 4 * n + 1) (nI tw)) (36 + 4 * n + 2) (nI y1)) (36 + 4 * n + 3) (nI y2)) k := fun k => by
            dsimp only [up1]
            rw [nI_1]
            repeat' split
            all_goals (first | rfl | omega)
          refine acc_sim I hq (hc := pg_si (pg_si (pg_si (pg_si ha (2 + 4) (n * 4 + 0) (nI i)) (2 + 4) (n * 4 + 1) (nI tw)) (2 + 4) (n * 4 + 2) (nI y1)) (2 + 4) (n * 4 + 3) (nI y2)) (v := nI (n + 1)) (A' := up1 (up1 (up1 (up1 (up1 A (36 + 4 * n) (nI i)) (36 + 4 * n + 1) (nI tw)) (36 + 4 * n + 2) (nI y1)) (36 + 4 * n + 3) (nI y2)) 1345 (nI n + 1)) ?_ ?_ (Or.inl ?_) (fun h1 L1 e83 e81 => ?_) ?_ ?_
          · exact ((((aa.mono (by decide)).asi (Or.inl (by decide))).asi (Or.inl (by decide))).asi (Or.inl (by decide))).asi (Or.inl (by decide))
          · exact C4.num (fun j _ => eA j)
          · have D1 : KD (pg_k ha) := by
              rw [aa.kk]
              exact D
            have R1 : RD (pg_r ha) := by
              rw [aa.rr]
              exact R
            have sz : F_X7_size (pg_si (pg_si (pg_si (pg_si ha (2 + 4) (n * 4 + 0) (nI i)) (2 + 4) (n * 4 + 1) (nI tw)) (2 + 4) (n * 4 + 2) (nI y1)) (2 + 4) (n * 4 + 3) (nI y2)) 5 = some (nI (n + 1)) := by
              have z := C4.2.1.1.size
              rw [nS_ne (by omega), nS_ne (by omega), nS_ne (by omega), nS_ne (by omega), nSa] at z
              exact z
            unfold F_X11_stay
            simp only [k_si, k_sl, k_sr, r_si, r_sl, i_sl, i_sr, l_si, l_sr, Option.bind_some, if_true, if_false, bind_eta2, if_bb, decide_eq_true_eq, pg_let, within_le, years_le, nR_1_0, nR_2_0, nR_2_1, nc_1, nc_3, nc_5, D, R, D1, R1, if_pos c1, if_pos c3, c_holds_3 C, if_pos c2, e1, neg1_iff (show n < 2 ^ 31 by omega), c_changed, show F_X7_put 5 (nI n) (0 : Int32) (nI i) ha = _ from p1, show F_X7_put 5 (nI n) (1 : Int32) (nI tw) (pg_si ha (2 + 3 + 1) (n * 4 + 0) (nI i)) = _ from p2, show F_X7_put 5 (nI n) (2 : Int32) (nI y1) (pg_si (pg_si ha (2 + 3 + 1) (n * 4 + 0) (nI i)) (2 + 3 + 1) (n * 4 + 1) (nI tw)) = _ from p3, show F_X7_put 5 (nI n) (3 : Int32) (nI y2) (pg_si (pg_si (pg_si ha (2 + 3 + 1) (n * 4 + 0) (nI i)) (2 + 3 + 1) (n * 4 + 1) (nI tw)) (2 + 3 + 1) (n * 4 + 2) (nI y1)) = _ from p4, sz]
          · replace e83 := e83.trans hA
            have b0 : 36 + 4 * n < 7758 := by omega
            have b1 : 36 + 4 * n + 1 < 7758 := by omega
            have b2 : 36 + 4 * n + 2 < 7758 := by omega
            have b3 : 36 + 4 * n + 3 < 7758 := by omega
            refine ⟨pg_si (pg_si (pg_si (pg_si (pg_si h1 83 (36 + 4 * n) (nI i)) 83 (36 + 4 * n + 1) (nI tw)) 83 (36 + 4 * n + 2) (nI y1)) 83 (36 + 4 * n + 3) (nI y2)) 83 1345 (nI n + 1), (((((Ch.refl _ _ h1).asi (Or.inl (by decide))).asi (Or.inl (by decide))).asi (Or.inl (by decide))).asi (Or.inl (by decide))).asi (Or.inl (by decide)), ?_, ?_⟩
            · rw [si_row, si_row, si_row, si_row, si_row, e83]
            · have n40 : (nI n = (40 : Int32)) = False := eq_false (fun z => full ((nI_eq (b := 40) (by omega) (by decide)).mp z))
              have ek : pg_aI 21 h1 83 (1345 : Int32) = some (nI n) := by rw [m_k_1345 L1 e83, kc]
              have e1345 : pg_i (pg_si (pg_si (pg_si (pg_si h1 83 (36 + 4 * n) (nI i)) 83 (36 + 4 * n + 1) (nI tw)) 83 (36 + 4 * n + 2) (nI y1)) 83 (36 + 4 * n + 3) (nI y2)) 83 1345 = nI n := by
                rw [si_row, si_row, si_row, si_row, up1_ne (by omega), up1_ne (by omega), up1_ne (by omega), up1_ne (by omega), e83, kc]
              have j0 : (36 : Int32) + (4 : Int32) * nI n = nI (36 + 4 * n) := by rw [show (4 : Int32) = nI 4 from rfl, nI_mul, show (36 : Int32) = nI 36 from rfl, nI_add]
              unfold F_X12_stay
              simp only [k_si, k_sl, k_sr, r_si, r_sl, i_sl, i_sr, l_si, l_sr, Option.bind_some, if_true, if_false, bind_eta2, if_bb, decide_eq_true_eq, pg_let, lies_le, years_same, years_le, nc_81, nR_81_3, L1.kd, L1.rd, if_pos c1, if_pos c3, m_isCopy L1 e83 K, if_pos c2, ek, n40, j0, nI_1 (36 + 4 * n), nI_2, nI_3, ns_83, b0, b1, b2, b3, na_83_1345, ns_83_1345, e1345, m_good, ← nI_1 n]
          · have out : ∀ j, j ≠ 1345 → (j < 36 + 4 * n ∨ 36 + 4 * n + 4 ≤ j) → (up1 (up1 (up1 (up1 (up1 A (36 + 4 * n) (nI i)) (36 + 4 * n + 1) (nI tw)) (36 + 4 * n + 2) (nI y1)) (36 + 4 * n + 3) (nI y2)) 1345 (nI n + 1)) j = A j := fun j h1 h2 => by
              rw [up1_ne (by omega), up1_ne (by omega), up1_ne (by omega), up1_ne (by omega), up1_ne (by omega)]
            have v0 : (up1 (up1 (up1 (up1 (up1 A (36 + 4 * n) (nI i)) (36 + 4 * n + 1) (nI tw)) (36 + 4 * n + 2) (nI y1)) (36 + 4 * n + 3) (nI y2)) 1345 (nI n + 1)) (36 + 4 * n) = nI i := by
              rw [up1_ne (by omega), up1_ne (by omega), up1_ne (by omega), up1_ne (by omega), up1_eq]
            have v1 : (up1 (up1 (up1 (up1 (up1 A (36 + 4 * n) (nI i)) (36 + 4 * n + 1) (nI tw)) (36 + 4 * n + 2) (nI y1)) (36 + 4 * n + 3) (nI y2)) 1345 (nI n + 1)) (36 + 4 * n + 1) = nI tw := by
              rw [up1_ne (by omega), up1_ne (by omega), up1_ne (by omega), up1_eq]
            have v2 : (up1 (up1 (up1 (up1 (up1 A (36 + 4 * n) (nI i)) (36 + 4 * n + 1) (nI tw)) (36 + 4 * n + 2) (nI y1)) (36 + 4 * n + 3) (nI y2)) 1345 (nI n + 1)) (36 + 4 * n + 2) = nI y1 := by
              rw [up1_ne (by omega), up1_ne (by omega), up1_eq]
            have v4 : (up1 (up1 (up1 (up1 (up1 A (36 + 4 * n) (nI i)) (36 + 4 * n + 1) (nI tw)) (36 + 4 * n + 2) (nI y1)) (36 + 4 * n + 3) (nI y2)) 1345 (nI n + 1)) (36 + 4 * n + 3) = nI y2 := by
              rw [up1_ne (by omega), up1_eq]
            have v3 : (up1 (up1 (up1 (up1 (up1 A (36 + 4 * n) (nI i)) (36 + 4 * n + 1) (nI tw)) (36 + 4 * n + 2) (nI y1)) (36 + 4 * n + 3) (nI y2)) 1345 (nI n + 1)) 1345 = nI (n + 1) := by
              rw [up1_eq, nI_1]
            generalize up1 (up1 (up1 (up1 (up1 A (36 + 4 * n) (nI i)) (36 + 4 * n + 1) (nI tw)) (36 + 4 * n + 2) (nI y1)) (36 + 4 * n + 3) (nI y2)) 1345 (nI n + 1) = B at *
            have c0 : nS B = n + 1 := cl_of v3 (by omega)
            have outc : ∀ j, j ≠ 1345 → (j < 36 + 4 * n ∨ 36 + 4 * n + 4 ≤ j) → cl B j = cl A j := fun j h1 h2 => by
              unfold cl
              rw [out j h1 h2]
            refine K.of (Or.inl ⟨fun j _ => out j (by omega) (by omega), outc _ (by decide) (by omega)⟩) (Or.inr fun c hc => ?_) (Or.inl ⟨fun j _ _ => out j (by omega) (by omega), outc _ (by decide) (by omega)⟩) (Or.inl fun j _ _ => out j (by omega) (by omega)) (Or.inl ⟨fun j _ _ => out j (by omega) (by omega), outc _ (by decide) (by omega)⟩) (Or.inl fun j _ _ => out j (by omega) (by omega)) (Or.inl ⟨out _ (by decide) (by omega), Nat.le_of_eq (outc _ (by decide) (by omega)).symm⟩) (Or.inl ⟨fun j _ _ => out j (by omega) (by omega), outc _ (by decide) (by omega)⟩) ⟨⟨K.1.1.cong (out _ (by decide) (by omega)), Nat.le_of_eq (outc _ (by decide) (by omega)).symm⟩, Rg.of v3 (by omega) (by decide), ⟨K.1.2.2.1.cong (out _ (by decide) (by omega)), Nat.le_of_eq (outc _ (by decide) (by omega)).symm⟩, K.1.2.2.2.1.cong (out _ (by decide) (by omega)), K.1.2.2.2.2.cong (out _ (by decide) (by omega))⟩
            rw [show nC B = nC A from outc _ (by decide) (by omega)]
            by_cases e : c = n
            · subst e
              exact ⟨Rg.of v0 hi (by omega), Rg.of v1 (by omega) (by decide), Rg.of v2 (by omega) (by decide), Rg.of v4 (by omega) (by decide), by rw [cl_of v2 (by omega), cl_of v4 (by omega)]; exact hyy⟩
            · rw [c0] at hc
              obtain ⟨z1, z2, z3, z4, z5⟩ := K.2.2.1 c (by omega)
              exact ⟨z1.cong (out _ (by omega) (by omega)), z2.cong (out _ (by omega) (by omega)), z3.cong (out _ (by omega) (by omega)), z4.cong (out _ (by omega) (by omega)), by rw [outc _ (by omega) (by omega), outc _ (by omega) (by omega)]; exact z5⟩
          · intro j hj
            rw [hA, up1_ne (by omega), up1_ne (by omega), up1_ne (by omega), up1_ne (by omega), up1_ne (by omega)]
      · refine refuse_sim I (x := -2) (k := 2) (by decide) (by decide) ?_ (fun h1 L1 e83 e81 _ => ?_)
        · unfold F_X11_stay
          simp only [k_si, k_sl, k_sr, r_si, r_sl, i_sl, i_sr, l_si, l_sr, Option.bind_some, if_true, if_false, bind_eta2, if_bb, decide_eq_true_eq, pg_let, within_le, years_le, nR_1_0, nR_2_0, nc_1, nc_3, D, R, if_pos c1, if_pos c3, c_holds_3 C, if_neg c2]
        · unfold F_X12_stay
          simp only [k_si, k_sl, k_sr, r_si, r_sl, i_sl, i_sr, l_si, l_sr, Option.bind_some, if_true, if_false, bind_eta2, if_bb, decide_eq_true_eq, pg_let, lies_le, years_same, years_le, nc_81, L1.kd, if_pos c1, if_pos c3, m_isCopy L1 e83 K, if_neg c2]
    · refine refuse_sim I (x := -1) (k := 1) (by decide) (by decide) ?_ (fun h1 L1 e83 e81 _ => ?_)
      · unfold F_X11_stay F_X11_stay_19
        simp only [k_si, k_sl, k_sr, r_si, r_sl, i_sl, i_sr, l_si, l_sr, Option.bind_some, if_true, if_false, bind_eta2, if_bb, decide_eq_true_eq, pg_let, within_le, years_le, nc_1, D, if_pos c1, if_neg c3]
      · unfold F_X12_stay F_X12_stay_19
        simp only [k_si, k_sl, k_sr, r_si, r_sl, i_sl, i_sr, l_si, l_sr, Option.bind_some, if_true, if_false, bind_eta2, if_bb, decide_eq_true_eq, pg_let, lies_le, years_same, years_le, nc_81, L1.kd, if_pos c1, if_neg c3]
  · refine refuse_sim I (x := -1) (k := 1) (by decide) (by decide) ?_ (fun h1 L1 e83 e81 _ => ?_)
    · unfold F_X11_stay F_X11_stay_19
      simp only [k_si, k_sl, k_sr, r_si, r_sl, i_sl, i_sr, l_si, l_sr, Option.bind_some, if_true, if_false, bind_eta2, if_bb, decide_eq_true_eq, pg_let, within_le, nc_1, D, if_neg c1]
    · unfold F_X12_stay F_X12_stay_19
      simp only [k_si, k_sl, k_sr, r_si, r_sl, i_sl, i_sr, l_si, l_sr, Option.bind_some, if_true, if_false, bind_eta2, if_bb, decide_eq_true_eq, pg_let, lies_le, nc_81, L1.kd, if_neg c1]
