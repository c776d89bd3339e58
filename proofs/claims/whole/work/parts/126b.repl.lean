/-! CALLS that put one number: look, form, sample, terms, use -/
theorem m_repl {h : pg_H} {A : Nat → Int32} (L : Lay h) (e83 : pg_i h 83 = A) {a : Nat} (ha : a < 7758) (x : Int32) : F_X12_replaces 81 (nI a) x h = some (A a, pg_si (pg_si (pg_si h 83 a x) 81 0 0) 81 1 (pg_i (pg_si h 83 a x) 81 1 + 1)) := by
  rw [m_replaces L.kd L.rd ha, e83, si_ne (by decide)]
theorem CNum.term {h : pg_H} {s j : Nat} {A : Nat → Int32} {x : Int32} (C : CNum h s A) (hj : j < 4) : CNum (pg_si h (s + 11) j x) s (up1 A (1340 + j) x) := by
  obtain ⟨a1, a2, a3, a4, a5, a6, a7, a8⟩ := C
  unfold CNum
  rw [nC_ne (by omega), nS_ne (by omega), nH_ne (by omega), nN_ne (by omega), up1_ne (show 1348 ≠ 1340 + j by omega), up1_ne (show 1349 ≠ 1340 + j by omega)]
  refine ⟨a1.off (by omega) (by omega) (by omega), a2.off (by omega) (by omega) (by omega), a3.off (by omega) (by omega) (by omega), a4.off (by omega) (by omega) (by omega), a5.off (by omega) (by omega) (by omega), fun k hk => ?_, ?_, ?_⟩
  · rw [si_row]
    unfold up1
    by_cases e : k = j
    · rw [if_pos e, if_pos (by omega)]
    · rw [if_neg e, if_neg (by omega)]
      exact a6 k hk
  · rw [si_ne (by omega)]
    exact a7
  · rw [si_ne (by omega)]
    exact a8
theorem CNum.use {h : pg_H} {s : Nat} {A : Nat → Int32} {x : Int32} (C : CNum h s A) : CNum (pg_si h s 8 x) s (up1 A 1349 x) := by
  obtain ⟨a1, a2, a3, a4, a5, a6, a7, a8⟩ := C
  unfold CNum
  rw [nC_ne (by omega), nS_ne (by omega), nH_ne (by omega), nN_ne (by omega), up1_ne (show 1348 ≠ 1349 by omega), up1_eq]
  refine ⟨a1.off (by omega) (by omega) (by omega), a2.off (by omega) (by omega) (by omega), a3.off (by omega) (by omega) (by omega), a4.off (by omega) (by omega) (by omega), a5.off (by omega) (by omega) (by omega), fun k hk => ?_, ?_, ?_⟩
  · rw [si_ne (by omega), up1_ne (by omega)]
    exact a6 k hk
  · rw [si_row, up1_ne (by omega)]
    exact a7
  · rw [si_row, up1_eq]
theorem sim_look : Sim_look Inv := by
  intro x1 x2 q h hq I
  show SimB q h (F_X11_look 1 x1 x2) (F_X12_look 81 x1 x2)
  obtain ⟨L, _, _, _, _, X, Y0, Y1, ⟨C, K, TX⟩, _⟩ := id I
  have D := L.kd
  have R := L.rd
  have kn : nC (pg_i h 83) < 13 := K.1.1.2
  by_cases c1 : 0 ≤ x2 ∧ x2 ≤ 1
  · by_cases c2 : 0 ≤ x1 ∧ x1 < nI (nC (pg_i h 83))
    · obtain ⟨v, hv, rfl⟩ := nI_of2 (x := x2) (M := 1) (n := 1) (by decide) (Int32.not_lt.mpr c1.1) c1.2
      obtain ⟨i, hi, rfl⟩ := in_nI c2 (by omega)
      generalize hA : pg_i h 83 = A at *
      have p := c_put C.1 (i := i) (j := 2) hi (by decide) (nI v)
      have out : ∀ j, j ≠ 0 + 3 * i + 2 → up1 A (0 + 3 * i + 2) (nI v) j = A j := fun j hj => up1_ne hj
      have outc : ∀ j, j ≠ 0 + 3 * i + 2 → cl (up1 A (0 + 3 * i + 2) (nI v)) j = cl A j := fun j hj => cl_ne hj
      refine acc_sim I hq (hc := pg_si h (2 + 2) (i * 3 + 2) (nI v)) (v := A (0 + 3 * i + 2)) (A' := up1 A (0 + 3 * i + 2) (nI v)) ((Ch.refl _ _ h).asi (Or.inl (by decide))) (C.put0 hi (by decide)) (Or.inr ⟨?_, fun j hj => ?_⟩) (fun h1 L1 e83 e81 => ?_) ?_ (fun j hj => ?_)
      · unfold F_X11_look
        simp only [k_si, k_sl, k_sr, r_si, r_sl, i_sl, i_sr, l_si, l_sr, Option.bind_some, if_true, if_false, bind_eta2, if_bb, decide_eq_true_eq, pg_let, within_le, nR_1_0, nR_2_0, nc_1, nc_3, D, R, if_pos c1, c_holds_3 C, if_pos c2, c_accept, show F_X7_put 3 (nI i) (2 : Int32) (nI v) h = _ from p]
      · rw [hA]
        exact out j (by omega)
      · replace e83 := e83.trans hA
        refine ⟨pg_si h1 83 (0 + 3 * i + 2) (nI v), (Ch.refl _ _ h1).asi (Or.inl (by decide)), by rw [si_row, e83], ?_⟩
        have ji : ((0 : Int32) + (3 : Int32) * nI i) + 2 = nI (0 + 3 * i + 2) := by rw [show (3 : Int32) = nI 3 from rfl, nI_j0, nI_2, Nat.zero_add]
        unfold F_X12_look
        simp only [k_si, k_sl, k_sr, r_si, r_sl, i_sl, i_sr, l_si, l_sr, Option.bind_some, if_true, if_false, bind_eta2, if_bb, decide_eq_true_eq, pg_let, lies_le, nc_81, L1.kd, if_pos c1, m_isCopy L1 e83 K, if_pos c2, ji, m_repl L1 e83 (show 0 + 3 * i + 2 < 7758 by omega)]
      · refine K.of (Or.inr fun c hc => ?_) (Or.inl ⟨fun j _ _ => out j (by omega), outc _ (by omega)⟩) (Or.inl ⟨fun j _ _ => out j (by omega), outc _ (by omega)⟩) (Or.inl fun j _ _ => out j (by omega)) (Or.inl ⟨fun j _ _ => out j (by omega), outc _ (by omega)⟩) (Or.inl fun j _ _ => out j (by omega)) (Or.inl ⟨out _ (by omega), Nat.le_of_eq (outc _ (by omega)).symm⟩) (Or.inl ⟨fun j _ _ => out j (by omega), outc _ (by omega)⟩) ⟨⟨K.1.1.cong (out _ (by omega)), Nat.le_of_eq (outc _ (by omega)).symm⟩, K.1.2.1.cong (out _ (by omega)), ⟨K.1.2.2.1.cong (out _ (by omega)), Nat.le_of_eq (outc _ (by omega)).symm⟩, K.1.2.2.2.1.cong (out _ (by omega)), K.1.2.2.2.2.cong (out _ (by omega))⟩
        rw [show nC (up1 A (0 + 3 * i + 2) (nI v)) = nC A from outc _ (by omega)] at hc
        obtain ⟨z1, z2, z3⟩ := K.2.1 c hc
        refine ⟨z1.cong (out _ (by omega)), z2.cong (out _ (by omega)), ?_⟩
        by_cases e : c = i
        · subst e
          rw [show 3 * c + 2 = 0 + 3 * c + 2 by omega]
          exact Rg.of up1_eq (by omega) (by decide)
        · exact z3.cong (out _ (by omega))
      · rw [hA]
        exact out j (by omega)
    · refine refuse_sim I (x := -2) (k := 2) (by decide) (by decide) ?_ (fun h1 L1 e83 e81 _ => ?_)
      · unfold F_X11_look
        simp only [k_si, k_sl, k_sr, r_si, r_sl, i_sl, i_sr, l_si, l_sr, Option.bind_some, if_true, if_false, bind_eta2, if_bb, decide_eq_true_eq, pg_let, within_le, nR_1_0, nR_2_0, nc_1, nc_3, D, R, if_pos c1, c_holds_3 C, if_neg c2]
      · unfold F_X12_look
        simp only [k_si, k_sl, k_sr, r_si, r_sl, i_sl, i_sr, l_si, l_sr, Option.bind_some, if_true, if_false, bind_eta2, if_bb, decide_eq_true_eq, pg_let, lies_le, nc_81, L1.kd, if_pos c1, m_isCopy L1 e83 K, if_neg c2]
  · refine refuse_sim I (x := -1) (k := 1) (by decide) (by decide) ?_ (fun h1 L1 e83 e81 _ => ?_)
    · unfold F_X11_look
      simp only [k_si, k_sl, k_sr, r_si, r_sl, i_sl, i_sr, l_si, l_sr, Option.bind_some, if_true, if_false, bind_eta2, if_bb, decide_eq_true_eq, pg_let, within_le, nc_1, D, if_neg c1]
    · unfold F_X12_look
      simp only [k_si, k_sl, k_sr, r_si, r_sl, i_sl, i_sr, l_si, l_sr, Option.bind_some, if_true, if_false, bind_eta2, if_bb, decide_eq_true_eq, pg_let, lies_le, nc_81, L1.kd, if_neg c1]
theorem sim_form : Sim_form Inv := by
  intro x1 x2 x3 q h hq I
  show SimB q h (F_X11_form 1 x1 x2 x3) (F_X12_form 81 x1 x2 x3)
  obtain ⟨L, _, _, _, _, X, Y0, Y1, ⟨C, K, TX⟩, _⟩ := id I
  have D := L.kd
  have R := L.rd
  have kn : nH (pg_i h 83) < 13 := K.1.2.2.1.2
  by_cases c1 : 0 ≤ x2 ∧ x2 ≤ 5
  · by_cases c3 : 0 ≤ x3 ∧ x3 ≤ 99
    · by_cases c2 : 0 ≤ x1 ∧ x1 < nI (nH (pg_i h 83))
      · obtain ⟨f, hf, rfl⟩ := nI_of2 (x := x2) (M := 5) (n := 5) (by decide) (Int32.not_lt.mpr c1.1) c1.2
        obtain ⟨v, hv, rfl⟩ := nI_of2 (x := x3) (M := 99) (n := 99) (by decide) (Int32.not_lt.mpr c3.1) c3.2
        obtain ⟨i, hi, rfl⟩ := in_nI c2 (by omega)
        generalize hA : pg_i h 83 = A at *
        have p := c_put C.2.2.1 (i := i) (j := 2 + f) hi (by omega) (nI v)
        have out : ∀ j, j ≠ 196 + 8 * i + (2 + f) → up1 A (196 + 8 * i + (2 + f)) (nI v) j = A j := fun j hj => up1_ne hj
        have outc : ∀ j, j ≠ 196 + 8 * i + (2 + f) → cl (up1 A (196 + 8 * i + (2 + f)) (nI v)) j = cl A j := fun j hj => cl_ne hj
        refine acc_sim I hq (hc := pg_si h (2 + 6) (i * 8 + (2 + f)) (nI v)) (v := A (196 + 8 * i + (2 + f))) (A' := up1 A (196 + 8 * i + (2 + f)) (nI v)) ((Ch.refl _ _ h).asi (Or.inl (by decide))) (C.put2 hi (by omega)) (Or.inr ⟨?_, fun j hj => ?_⟩) (fun h1 L1 e83 e81 => ?_) ?_ (fun j hj => ?_)
        · have jj : (2 : Int32) + nI f = nI (2 + f) := nI_add 2 f
          unfold F_X11_form
          simp only [k_si, k_sl, k_sr, r_si, r_sl, i_sl, i_sr, l_si, l_sr, Option.bind_some, if_true, if_false, bind_eta2, if_bb, decide_eq_true_eq, pg_let, within_le, nR_1_0, nR_2_2, nc_1, nc_7, D, R, if_pos c1, if_pos c3, c_holds_7 C, if_pos c2, c_accept, jj, show F_X7_put 7 (nI i) (nI (2 + f)) (nI v) h = _ from p]
        · rw [hA]
          exact out j (by omega)
        · replace e83 := e83.trans hA
          refine ⟨pg_si h1 83 (196 + 8 * i + (2 + f)) (nI v), (Ch.refl _ _ h1).asi (Or.inl (by decide)), by rw [si_row, e83], ?_⟩
          have ji : (((196 : Int32) + (8 : Int32) * nI i) + 2) + nI f = nI (196 + 8 * i + (2 + f)) := by
            rw [show (8 : Int32) = nI 8 from rfl, nI_mul, show (196 : Int32) = nI 196 from rfl, nI_add, nI_2, nI_add, Nat.add_assoc (196 + 8 * i) 2 f]
          unfold F_X12_form
          simp only [k_si, k_sl, k_sr, r_si, r_sl, i_sl, i_sr, l_si, l_sr, Option.bind_some, if_true, if_false, bind_eta2, if_bb, decide_eq_true_eq, pg_let, lies_le, nc_81, L1.kd, if_pos c1, if_pos c3, m_isHand L1 e83 K, if_pos c2, ji, m_repl L1 e83 (show 196 + 8 * i + (2 + f) < 7758 by omega)]
        · refine K.of (Or.inl ⟨fun j _ => out j (by omega), outc _ (by omega)⟩) (Or.inl ⟨fun j _ _ => out j (by omega), outc _ (by omega)⟩) (Or.inr fun c hc => ?_) (Or.inl fun j _ _ => out j (by omega)) (Or.inl ⟨fun j _ _ => out j (by omega), outc _ (by omega)⟩) (Or.inl fun j _ _ => out j (by omega)) (Or.inl ⟨out _ (by omega), Nat.le_of_eq (outc _ (by omega)).symm⟩) (Or.inl ⟨fun j _ _ => out j (by omega), outc _ (by omega)⟩) ⟨⟨K.1.1.cong (out _ (by omega)), Nat.le_of_eq (outc _ (by omega)).symm⟩, K.1.2.1.cong (out _ (by omega)), ⟨K.1.2.2.1.cong (out _ (by omega)), Nat.le_of_eq (outc _ (by omega)).symm⟩, K.1.2.2.2.1.cong (out _ (by omega)), K.1.2.2.2.2.cong (out _ (by omega))⟩
          rw [show nH (up1 A (196 + 8 * i + (2 + f)) (nI v)) = nH A from outc _ (by omega)] at hc
          obtain ⟨z1, z2, z3, z4⟩ := K.2.2.2.1 c hc
          refine ⟨z1.cong (out _ (by omega)), z2.cong (out _ (by omega)), by rw [outc _ (by omega), outc _ (by omega)]; exact z3, fun g hg => ?_⟩
          by_cases e : c = i ∧ g = f
          · obtain ⟨e1, e2⟩ := e
            subst e1 e2
            rw [show 196 + 8 * c + 2 + g = 196 + 8 * c + (2 + g) by omega]
            exact Rg.of up1_eq (by omega) (by decide)
          · exact (z4 g hg).cong (out _ (by omega))
        · rw [hA]
          exact out j (by omega)
      · refine refuse_sim I (x := -2) (k := 2) (by decide) (by decide) ?_ (fun h1 L1 e83 e81 _ => ?_)
        · unfold F_X11_form
          simp only [k_si, k_sl, k_sr, r_si, r_sl, i_sl, i_sr, l_si, l_sr, Option.bind_some, if_true, if_false, bind_eta2, if_bb, decide_eq_true_eq, pg_let, within_le, nR_1_0, nR_2_2, nc_1, nc_7, D, R, if_pos c1, if_pos c3, c_holds_7 C, if_neg c2]
        · unfold F_X12_form
          simp only [k_si, k_sl, k_sr, r_si, r_sl, i_sl, i_sr, l_si, l_sr, Option.bind_some, if_true, if_false, bind_eta2, if_bb, decide_eq_true_eq, pg_let, lies_le, nc_81, L1.kd, if_pos c1, if_pos c3, m_isHand L1 e83 K, if_neg c2]
    · refine refuse_sim I (x := -1) (k := 1) (by decide) (by decide) ?_ (fun h1 L1 e83 e81 _ => ?_)
      · unfold F_X11_form F_X11_form_19
        simp only [k_si, k_sl, k_sr, r_si, r_sl, i_sl, i_sr, l_si, l_sr, Option.bind_some, if_true, if_false, bind_eta2, if_bb, decide_eq_true_eq, pg_let, within_le, nc_1, D, if_pos c1, if_neg c3]
      · unfold F_X12_form F_X12_form_19
        simp only [k_si, k_sl, k_sr, r_si, r_sl, i_sl, i_sr, l_si, l_sr, Option.bind_some, if_true, if_false, bind_eta2, if_bb, decide_eq_true_eq, pg_let, lies_le, nc_81, L1.kd, if_pos c1, if_neg c3]
  · refine refuse_sim I (x := -1) (k := 1) (by decide) (by decide) ?_ (fun h1 L1 e83 e81 _ => ?_)
    · unfold F_X11_form F_X11_form_19
      simp only [k_si, k_sl, k_sr, r_si, r_sl, i_sl, i_sr, l_si, l_sr, Option.bind_some, if_true, if_false, bind_eta2, if_bb, decide_eq_true_eq, pg_let, within_le, nc_1, D, if_neg c1]
    · unfold F_X12_form F_X12_form_19
      simp only [k_si, k_sl, k_sr, r_si, r_sl, i_sl, i_sr, l_si, l_sr, Option.bind_some, if_true, if_false, bind_eta2, if_bb, decide_eq_true_eq, pg_let, lies_le, nc_81, L1.kd, if_neg c1]
theorem sim_sample : Sim_sample Inv := by
  intro x1 x2 x3 q h hq I
  show SimB q h (F_X11_sample 1 x1 x2 x3) (F_X12_sample 81 x1 x2 x3)
  obtain ⟨L, _, _, _, _, X, Y0, Y1, ⟨C, K, TX⟩, _⟩ := id I
  have D := L.kd
  have R := L.rd
  by_cases c2 : 0 ≤ x1 ∧ x1 ≤ 7
  · by_cases c1 : 0 ≤ x2 ∧ x2 ≤ 5
    · by_cases c3 : 0 ≤ x3 ∧ x3 ≤ 99
      · obtain ⟨f, hf, rfl⟩ := nI_of2 (x := x2) (M := 5) (n := 5) (by decide) (Int32.not_lt.mpr c1.1) c1.2
        obtain ⟨v, hv, rfl⟩ := nI_of2 (x := x3) (M := 99) (n := 99) (by decide) (Int32.not_lt.mpr c3.1) c3.2
        obtain ⟨i, hi, rfl⟩ := nI_of2 (x := x1) (M := 7) (n := 7) (by decide) (Int32.not_lt.mpr c2.1) c2.2
        generalize hA : pg_i h 83 = A at *
        have p := c_put C.2.2.2.1 (i := i) (j := f) (by omega) (by omega) (nI v)
        have out : ∀ j, j ≠ 292 + 6 * i + f → up1 A (292 + 6 * i + f) (nI v) j = A j := fun j hj => up1_ne hj
        have outc : ∀ j, j ≠ 292 + 6 * i + f → cl (up1 A (292 + 6 * i + f) (nI v)) j = cl A j := fun j hj => cl_ne hj
        refine acc_sim I hq (hc := pg_si h (2 + 8) (i * 6 + f) (nI v)) (v := A (292 + 6 * i + f)) (A' := up1 A (292 + 6 * i + f) (nI v)) ((Ch.refl _ _ h).asi (Or.inl (by decide))) (C.put3 (by omega) (by omega)) (Or.inr ⟨?_, fun j hj => ?_⟩) (fun h1 L1 e83 e81 => ?_) ?_ (fun j hj => ?_)
        · unfold F_X11_sample
          simp only [k_si, k_sl, k_sr, r_si, r_sl, i_sl, i_sr, l_si, l_sr, Option.bind_some, if_true, if_false, bind_eta2, if_bb, decide_eq_true_eq, pg_let, within_le, nR_1_0, nR_2_3, nc_1, nc_9, D, R, if_pos c1, if_pos c3, if_pos c2, c_accept, show F_X7_put 9 (nI i) (nI f) (nI v) h = _ from p]
        · rw [hA]
          exact out j (by omega)
        · replace e83 := e83.trans hA
          refine ⟨pg_si h1 83 (292 + 6 * i + f) (nI v), (Ch.refl _ _ h1).asi (Or.inl (by decide)), by rw [si_row, e83], ?_⟩
          have ji : ((292 : Int32) + (6 : Int32) * nI i) + nI f = nI (292 + 6 * i + f) := by
            rw [show (6 : Int32) = nI 6 from rfl, nI_mul, show (292 : Int32) = nI 292 from rfl, nI_add, nI_add]
          unfold F_X12_sample
          simp only [k_si, k_sl, k_sr, r_si, r_sl, i_sl, i_sr, l_si, l_sr, Option.bind_some, if_true, if_false, bind_eta2, if_bb, decide_eq_true_eq, pg_let, lies_le, nc_81, L1.kd, if_pos c1, if_pos c3, if_pos c2, ji, m_repl L1 e83 (show 292 + 6 * i + f < 7758 by omega)]
        · refine K.of (Or.inl ⟨fun j _ => out j (by omega), outc _ (by omega)⟩) (Or.inl ⟨fun j _ _ => out j (by omega), outc _ (by omega)⟩) (Or.inl ⟨fun j _ _ => out j (by omega), outc _ (by omega)⟩) (Or.inr fun c hc g hg => ?_) (Or.inl ⟨fun j _ _ => out j (by omega), outc _ (by omega)⟩) (Or.inl fun j _ _ => out j (by omega)) (Or.inl ⟨out _ (by omega), Nat.le_of_eq (outc _ (by omega)).symm⟩) (Or.inl ⟨fun j _ _ => out j (by omega), outc _ (by omega)⟩) ⟨⟨K.1.1.cong (out _ (by omega)), Nat.le_of_eq (outc _ (by omega)).symm⟩, K.1.2.1.cong (out _ (by omega)), ⟨K.1.2.2.1.cong (out _ (by omega)), Nat.le_of_eq (outc _ (by omega)).symm⟩, K.1.2.2.2.1.cong (out _ (by omega)), K.1.2.2.2.2.cong (out _ (by omega))⟩
          by_cases e : c = i ∧ g = f
          · obtain ⟨e1, e2⟩ := e
            subst e1 e2
            exact Rg.of up1_eq (by omega) (by decide)
          · exact (K.2.2.2.2.1 c hc g hg).cong (out _ (by omega))
        · rw [hA]
          exact out j (by omega)
      · refine refuse_sim I (x := -1) (k := 1) (by decide) (by decide) ?_ (fun h1 L1 e83 e81 _ => ?_)
        · unfold F_X11_sample F_X11_sample_29
          simp only [k_si, k_sl, k_sr, r_si, r_sl, i_sl, i_sr, l_si, l_sr, Option.bind_some, if_true, if_false, bind_eta2, if_bb, decide_eq_true_eq, pg_let, within_le, nc_1, D, if_pos c1, if_pos c2, if_neg c3]
        · unfold F_X12_sample F_X12_sample_47
          simp only [k_si, k_sl, k_sr, r_si, r_sl, i_sl, i_sr, l_si, l_sr, Option.bind_some, if_true, if_false, bind_eta2, if_bb, decide_eq_true_eq, pg_let, lies_le, nc_81, L1.kd, if_pos c1, if_pos c2, if_neg c3]
    · refine refuse_sim I (x := -1) (k := 1) (by decide) (by decide) ?_ (fun h1 L1 e83 e81 _ => ?_)
      · unfold F_X11_sample F_X11_sample_29
        simp only [k_si, k_sl, k_sr, r_si, r_sl, i_sl, i_sr, l_si, l_sr, Option.bind_some, if_true, if_false, bind_eta2, if_bb, decide_eq_true_eq, pg_let, within_le, nc_1, D, if_pos c2, if_neg c1]
      · unfold F_X12_sample F_X12_sample_47
        simp only [k_si, k_sl, k_sr, r_si, r_sl, i_sl, i_sr, l_si, l_sr, Option.bind_some, if_true, if_false, bind_eta2, if_bb, decide_eq_true_eq, pg_let, lies_le, nc_81, L1.kd, if_pos c2, if_neg c1]
  · refine refuse_sim I (x := -1) (k := 1) (by decide) (by decide) ?_ (fun h1 L1 e83 e81 _ => ?_)
    · unfold F_X11_sample F_X11_sample_29
      simp only [k_si, k_sl, k_sr, r_si, r_sl, i_sl, i_sr, l_si, l_sr, Option.bind_some, if_true, if_false, bind_eta2, if_bb, decide_eq_true_eq, pg_let, within_le, nc_1, D, if_neg c2]
    · unfold F_X12_sample F_X12_sample_47
      simp only [k_si, k_sl, k_sr, r_si, r_sl, i_sl, i_sr, l_si, l_sr, Option.bind_some, if_true, if_false, bind_eta2, if_bb, decide_eq_true_eq, pg_let, lies_le, nc_81, L1.kd, if_neg c2]
def tLo (t : Nat) : Nat := if t = 0 ∨ t = 2 then 1 else 0
def tHi (t : Nat) : Nat := if t = 3 then 1000 else 9
theorem xI_lo : ∀ t, t < 4 → pg_xI 1 pg_least (pg_lim + 1) (nI t) = some (nI (tLo t)) := by decide
theorem xI_hi : ∀ t, t < 4 → pg_xI 2 pg_most (pg_lim + 2) (nI t) = some (nI (tHi t)) := by decide
theorem sim_terms : Sim_terms Inv := by
  intro x1 x2 q h hq I
  show SimB q h (F_X11_terms 1 x1 x2) (F_X12_terms 81 x1 x2)
  obtain ⟨L, _, _, _, _, X, Y0, Y1, ⟨C, K, TX⟩, _⟩ := id I
  have D := L.kd
  have R := L.rd
  by_cases c1 : 0 ≤ x1 ∧ x1 ≤ 3
  · obtain ⟨t, ht, rfl⟩ := nI_of2 (x := x1) (M := 3) (n := 3) (by decide) (Int32.not_lt.mpr c1.1) c1.2
    have mm : ∀ h1, F_X12_terms 81 (nI t) x2 h1 = Option.bind (F_X12_lies x2 (nI (tLo t)) (nI (tHi t))) fun v1 => if v1 = 0 then F_X12_terms_43 81 h1 else Option.bind (pg_rcv 12 h1 81 (F_X12_replaces 81 ((1340 : Int32) + nI t) x2 h1)) fun v2 => some (v2.1, v2.2) := fun h1 => by
      unfold F_X12_terms
      rw [lies_le, Option.bind_some, if_bb, if_pos (decide_eq_true c1)]
      rcases t with _ | _ | _ | _ | t
      · rfl
      · rfl
      · rfl
      · rfl
      · omega
    have hh : tHi t ≤ 1000 := by
      unfold tHi
      split <;> omega
    by_cases c2 : nI (tLo t) ≤ x2 ∧ x2 ≤ nI (tHi t)
    · have x20 : ¬ x2 < 0 := fun z => by
        have := Int32.lt_of_le_of_lt c2.1 z
        exact nI_pos (n := tLo t) (by unfold tLo; split <;> omega) this
      obtain ⟨v, _, rfl⟩ := nI_of x20
      have v1 : tLo t ≤ v := (nI_leI (by unfold tLo; split <;> omega) (by assumption)).mp c2.1
      have v2 : v ≤ tHi t := (nI_leI (by assumption) (by omega)).mp c2.2
      generalize hA : pg_i h 83 = A at *
      have out : ∀ j, j ≠ 1340 + t → up1 A (1340 + t) (nI v) j = A j := fun j hj => up1_ne hj
      have outc : ∀ j, j ≠ 1340 + t → cl (up1 A (1340 + t) (nI v)) j = cl A j := fun j hj => cl_ne hj
      refine acc_sim I hq (hc := pg_si h (2 + 11) t (nI v)) (v := A (1340 + t)) (A' := up1 A (1340 + t) (nI v)) ((Ch.refl _ _ h).asi (Or.inl (by decide))) (C.term (by omega)) (Or.inl ?_) (fun h1 L1 e83 e81 => ?_) ?_ (fun j hj => ?_)
      · have e := C.2.2.2.2.2.1 t (by omega)
        have t4 : t < 4 := by omega
        unfold F_X11_terms
        simp only [k_si, k_sl, k_sr, r_si, r_sl, i_sl, i_sr, l_si, l_sr, Option.bind_some, if_true, if_false, bind_eta2, if_bb, decide_eq_true_eq, pg_let, within_le, nR_1_0, nR_2_5, nc_1, na_13, ns_13, D, R, if_pos c1, xI_lo t t4, xI_hi t t4, if_pos c2, t4, c_changed, show pg_i h 13 t = A (1340 + t) from e]
      · replace e83 := e83.trans hA
        refine ⟨pg_si h1 83 (1340 + t) (nI v), (Ch.refl _ _ h1).asi (Or.inl (by decide)), by rw [si_row, e83], ?_⟩
        have ji : (1340 : Int32) + nI t = nI (1340 + t) := nI_add 1340 t
        rw [mm]
        simp only [k_si, k_sl, k_sr, r_si, r_sl, i_sl, i_sr, l_si, l_sr, Option.bind_some, if_true, if_false, bind_eta2, if_bb, decide_eq_true_eq, pg_let, lies_le, nc_81, L1.kd, if_pos c2, ji, m_repl L1 e83 (show 1340 + t < 7758 by omega)]
      · refine K.of (Or.inl ⟨fun j _ => out j (by omega), outc _ (by omega)⟩) (Or.inl ⟨fun j _ _ => out j (by omega), outc _ (by omega)⟩) (Or.inl ⟨fun j _ _ => out j (by omega), outc _ (by omega)⟩) (Or.inl fun j _ _ => out j (by omega)) (Or.inl ⟨fun j _ _ => out j (by omega), outc _ (by omega)⟩) (Or.inr ?_) (Or.inl ⟨out _ (by omega), Nat.le_of_eq (outc _ (by omega)).symm⟩) (Or.inl ⟨fun j _ _ => out j (by omega), outc _ (by omega)⟩) ⟨⟨K.1.1.cong (out _ (by omega)), Nat.le_of_eq (outc _ (by omega)).symm⟩, K.1.2.1.cong (out _ (by omega)), ⟨K.1.2.2.1.cong (out _ (by omega)), Nat.le_of_eq (outc _ (by omega)).symm⟩, K.1.2.2.2.1.cong (out _ (by omega)), K.1.2.2.2.2.cong (out _ (by omega))⟩
        obtain ⟨⟨z1, z2⟩, z3, ⟨z4, z5⟩, z6⟩ := K.2.2.2.2.2.2.2.2.1
        rcases t with _ | _ | _ | _ | t
        · have l1 : 1 ≤ v := v1
          have l2 : v ≤ 9 := v2
          exact ⟨⟨Rg.of up1_eq (by omega) (by decide), by rw [cl_of up1_eq (by omega)]; exact l1⟩, z3.cong (out _ (by omega)), ⟨z4.cong (out _ (by omega)), by rw [outc _ (by omega)]; exact z5⟩, z6.cong (out _ (by omega))⟩
        · have l2 : v ≤ 9 := v2
          exact ⟨⟨z1.cong (out _ (by omega)), by rw [outc _ (by omega)]; exact z2⟩, Rg.of up1_eq (by omega) (by decide), ⟨z4.cong (out _ (by omega)), by rw [outc _ (by omega)]; exact z5⟩, z6.cong (out _ (by omega))⟩
        · have l1 : 1 ≤ v := v1
          have l2 : v ≤ 9 := v2
          exact ⟨⟨z1.cong (out _ (by omega)), by rw [outc _ (by omega)]; exact z2⟩, z3.cong (out _ (by omega)), ⟨Rg.of up1_eq (by omega) (by decide), by rw [cl_of up1_eq (by omega)]; exact l1⟩, z6.cong (out _ (by omega))⟩
        · have l2 : v ≤ 1000 := v2
          exact ⟨⟨z1.cong (out _ (by omega)), by rw [outc _ (by omega)]; exact z2⟩, z3.cong (out _ (by omega)), ⟨z4.cong (out _ (by omega)), by rw [outc _ (by omega)]; exact z5⟩, Rg.of up1_eq (by omega) (by decide)⟩
        · omega
      · rw [hA]
        exact out j (by omega)
    · refine refuse_sim I (x := -1) (k := 1) (by decide) (by decide) ?_ (fun h1 L1 e83 e81 _ => ?_)
      · have t4 : t < 4 := by omega
        unfold F_X11_terms F_X11_terms_26
        simp only [k_si, k_sl, k_sr, r_si, r_sl, i_sl, i_sr, l_si, l_sr, Option.bind_some, if_true, if_false, bind_eta2, if_bb, decide_eq_true_eq, pg_let, within_le, nc_1, D, if_pos c1, xI_lo t t4, xI_hi t t4, if_neg c2]
      · rw [mm]
        unfold F_X12_terms_43
        simp only [k_si, k_sl, k_sr, r_si, r_sl, i_sl, i_sr, l_si, l_sr, Option.bind_some, if_true, if_false, bind_eta2, if_bb, decide_eq_true_eq, pg_let, lies_le, nc_81, L1.kd, if_neg c2]
  · refine refuse_sim I (x := -1) (k := 1) (by decide) (by decide) ?_ (fun h1 L1 e83 e81 _ => ?_)
    · unfold F_X11_terms F_X11_terms_26
      simp only [k_si, k_sl, k_sr, r_si, r_sl, i_sl, i_sr, l_si, l_sr, Option.bind_some, if_true, if_false, bind_eta2, if_bb, decide_eq_true_eq, pg_let, within_le, nc_1, D, if_neg c1]
    · unfold F_X12_terms F_X12_terms_43
      simp only [k_si, k_sl, k_sr, r_si, r_sl, i_sl, i_sr, l_si, l_sr, Option.bind_some, if_true, if_false, bind_eta2, if_bb, decide_eq_true_eq, pg_let, lies_le, nc_81, L1.kd, if_neg c1]
