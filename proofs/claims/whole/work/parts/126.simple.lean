/-! SIMPLE CALLS that change the shelf -/
theorem eq_12 : (12 : Int32) = nI 12 := rfl
theorem neg1_iff {n : Nat} (h : n < 2 ^ 31) : (nI n = -1) = False := eq_false (neg1_ne h)
theorem c_put {h : pg_H} {t w m n base i j : Nat} {A : Nat → Int32} (T : TR h t w m n base A) (hi : i < n) (hj : j < w) (x : Int32) : F_X7_put t (nI i) (nI j) x h = some (A (base + w * i + j), pg_si h (t + 1) (i * w + j) x) := by
  rw [T.1.put hi hj, T.2 i j hi hj]
theorem sim_copy : Sim_copy Inv := by
  intro x1 x2 q h hq I
  show SimB q h (F_X11_copy 1 x1 x2) (F_X12_copy 81 x1 x2)
  obtain ⟨L, _, _, _, _, X, Y0, Y1, ⟨C, K, TX⟩, _⟩ := id I
  have D := L.kd
  have R := L.rd
  have kc : pg_i h 83 1344 = nI (nC (pg_i h 83)) := K.1.1.1
  have kn : nC (pg_i h 83) < 13 := K.1.1.2
  have bad : ¬ (0 ≤ x1 ∧ x1 ≤ 7 ∧ 0 ≤ x2 ∧ x2 ≤ 63) → SimB q h (F_X11_copy 1 x1 x2) (F_X12_copy 81 x1 x2) := fun c => by
    refine refuse_sim I (x := -1) (k := 1) (by decide) (by decide) ?_ (fun h1 L1 e83 e81 _ => ?_)
    · unfold F_X11_copy F_X11_copy_20
      by_cases c1 : 0 ≤ x1 ∧ x1 ≤ 7
      · have c2 : ¬ (0 ≤ x2 ∧ x2 ≤ 63) := fun c2 => c ⟨c1.1, c1.2, c2⟩
        simp only [k_si, k_sl, k_sr, r_si, r_sl, i_sl, i_sr, l_si, l_sr, Option.bind_some, if_true, if_false, bind_eta2, if_bb, decide_eq_true_eq, pg_let, within_le, nc_1, D, if_pos c1, if_neg c2]
      · simp only [k_si, k_sl, k_sr, r_si, r_sl, i_sl, i_sr, l_si, l_sr, Option.bind_some, if_true, if_false, bind_eta2, if_bb, decide_eq_true_eq, pg_let, within_le, nc_1, D, if_neg c1]
    · unfold F_X12_copy F_X12_copy_20
      by_cases c1 : 0 ≤ x1 ∧ x1 ≤ 7
      · have c2 : ¬ (0 ≤ x2 ∧ x2 ≤ 63) := fun c2 => c ⟨c1.1, c1.2, c2⟩
        simp only [k_si, k_sl, k_sr, r_si, r_sl, i_sl, i_sr, l_si, l_sr, Option.bind_some, if_true, if_false, bind_eta2, if_bb, decide_eq_true_eq, pg_let, lies_le, nc_81, L1.kd, if_pos c1, if_neg c2]
      · simp only [k_si, k_sl, k_sr, r_si, r_sl, i_sl, i_sr, l_si, l_sr, Option.bind_some, if_true, if_false, bind_eta2, if_bb, decide_eq_true_eq, pg_let, lies_le, nc_81, L1.kd, if_neg c1]
  by_cases c : 0 ≤ x1 ∧ x1 ≤ 7 ∧ 0 ≤ x2 ∧ x2 ≤ 63
  · have c1 : 0 ≤ x1 ∧ x1 ≤ 7 := ⟨c.1, c.2.1⟩
    have c2 : 0 ≤ x2 ∧ x2 ≤ 63 := c.2.2
    obtain ⟨land, hl, rfl⟩ := nI_of2 (x := x1) (M := 7) (n := 7) (by decide) (Int32.not_lt.mpr c.1) c.2.1
    obtain ⟨ls, hls, rfl⟩ := nI_of2 (x := x2) (M := 63) (n := 63) (by decide) (Int32.not_lt.mpr c2.1) c2.2
    by_cases full : nC (pg_i h 83) = 12
    · refine refuse_sim I (x := -5) (k := 5) (by decide) (by decide) ?_ (fun h1 L1 e83 e81 _ => ?_)
      · unfold F_X11_copy
        simp only [k_si, k_sl, k_sr, r_si, r_sl, i_sl, i_sr, l_si, l_sr, Option.bind_some, if_true, if_false, bind_eta2, if_bb, decide_eq_true_eq, pg_let, within_le, nR_1_0, nR_2_0, nc_1, nc_3, D, R, if_pos c1, if_pos c2, C.1.1.full full]
      · unfold F_X12_copy
        simp only [k_si, k_sl, k_sr, r_si, r_sl, i_sl, i_sr, l_si, l_sr, Option.bind_some, if_true, if_false, bind_eta2, if_bb, decide_eq_true_eq, pg_let, lies_le, nc_81, L1.kd, if_pos c1, if_pos c2, m_copiesA L1 e83, kc, full, ← eq_12]
    · obtain ⟨n, hn⟩ : ∃ n, n = nC (pg_i h 83) := ⟨_, rfl⟩
      obtain ⟨ha, e1, Ca, aa⟩ := C.open0 (by omega)
      rw [← hn] at e1 Ca kc kn full
      generalize hA : pg_i h 83 = A at *
      have nCa : nC (up1 (fun k => if 0 + 3 * n ≤ k ∧ k < 0 + 3 * n + 3 then 0 else A k) 1344 (nI (n + 1))) = n + 1 := cl_of up1_eq (by omega)
      have C1 := Ca.put0 (i := n) (j := 0) (x := nI land) (by omega) (by decide)
      have C2 := C1.put0 (i := n) (j := 1) (x := nI ls) (by rw [nC_ne (by omega)]; omega) (by decide)
      have p1 := c_put Ca.1 (i := n) (j := 0) (by omega) (by decide) (nI land)
      have p2 := c_put C1.1 (i := n) (j := 1) (by rw [nC_ne (by omega)]; omega) (by decide) (nI ls)
      have eA : ∀ k, (up1 (up1 (up1 (up1 A (3 * n) (nI land)) (3 * n + 1) (nI ls)) (3 * n + 2) 0) 1344 (nI n + 1)) k = (up1 (up1 (up1 (fun k => if 0 + 3 * n ≤ k ∧ k < 0 + 3 * n + 3 then 0 else A k) 1344 (nI (n + 1))) (0 + 3 * n + 0) (nI land)) (0 + 3 * n + 1) (nI ls)) k := fun k => by
        dsimp only [up1]
        rw [nI_1]
        repeat' split
        all_goals (first | rfl | omega)
      refine acc_sim I hq (hc := pg_si (pg_si ha (2 + 2) (n * 3 + 0) (nI land)) (2 + 2) (n * 3 + 1) (nI ls)) (v := nI n) (A' := up1 (up1 (up1 (up1 A (3 * n) (nI land)) (3 * n + 1) (nI ls)) (3 * n + 2) 0) 1344 (nI n + 1)) ?_ ?_ (Or.inl ?_) (fun h1 L1 e83 e81 => ?_) ?_ ?_
      · exact ((aa.mono (by decide)).asi (Or.inl (by decide))).asi (Or.inl (by decide))
      · exact C2.num (fun j _ => eA j)
      · have D1 : KD (pg_k ha) := by
          rw [aa.kk]
          exact D
        have R1 : RD (pg_r ha) := by
          rw [aa.rr]
          exact R
        unfold F_X11_copy
        simp only [k_si, k_sl, k_sr, r_si, r_sl, i_sl, i_sr, l_si, l_sr, Option.bind_some, if_true, if_false, bind_eta2, if_bb, decide_eq_true_eq, pg_let, within_le, nR_1_0, nR_2_0, nc_1, nc_3, D, R, D1, R1, if_pos c1, if_pos c2, e1, neg1_iff (show n < 2 ^ 31 by omega), c_changed, show F_X7_put 3 (nI n) (0 : Int32) (nI land) ha = _ from p1, show F_X7_put 3 (nI n) (1 : Int32) (nI ls) (pg_si ha (2 + 1 + 1) (n * 3 + 0) (nI land)) = _ from p2]
      · replace e83 := e83.trans hA
        have b0 : 3 * n < 7758 := by omega
        have b1 : 3 * n + 1 < 7758 := by omega
        have b2 : 3 * n + 2 < 7758 := by omega
        refine ⟨pg_si (pg_si (pg_si (pg_si h1 83 (3 * n) (nI land)) 83 (3 * n + 1) (nI ls)) 83 (3 * n + 2) 0) 83 1344 (nI n + 1), ((((Ch.refl _ _ h1).asi (Or.inl (by decide))).asi (Or.inl (by decide))).asi (Or.inl (by decide))).asi (Or.inl (by decide)), ?_, ?_⟩
        · rw [si_row, si_row, si_row, si_row, e83]
        · have n12 : (nI n = (12 : Int32)) = False := eq_false (fun z => full ((nI_eq (by omega) (by decide)).mp z))
          have e1344 : pg_i (pg_si (pg_si (pg_si h1 83 (3 * n) (nI land)) 83 (3 * n + 1) (nI ls)) 83 (3 * n + 2) 0) 83 1344 = nI n := by
            rw [si_row, si_row, si_row, up1_ne (by omega), up1_ne (by omega), up1_ne (by omega), e83, kc]
          have j0 : (0 : Int32) + (3 : Int32) * nI n = nI (3 * n) := nI_j0 3 n
          unfold F_X12_copy
          simp only [k_si, k_sl, k_sr, r_si, r_sl, i_sl, i_sr, l_si, l_sr, Option.bind_some, if_true, if_false, bind_eta2, if_bb, decide_eq_true_eq, pg_let, lies_le, nc_81, nR_81_3, L1.kd, L1.rd, if_pos c1, if_pos c2, m_copiesA L1 e83, kc, n12, j0, nI_1 (3 * n), nI_2, ns_83, b0, b1, b2, na_83_1344, ns_83_1344, e1344, m_good]
      · have out : ∀ j, j ≠ 1344 → (j < 3 * n ∨ 3 * n + 3 ≤ j) → (up1 (up1 (up1 (up1 A (3 * n) (nI land)) (3 * n + 1) (nI ls)) (3 * n + 2) 0) 1344 (nI n + 1)) j = A j := fun j h1 h2 => by
          rw [up1_ne (by omega), up1_ne (by omega), up1_ne (by omega), up1_ne (by omega)]
        have v0 : (up1 (up1 (up1 (up1 A (3 * n) (nI land)) (3 * n + 1) (nI ls)) (3 * n + 2) 0) 1344 (nI n + 1)) (3 * n) = nI land := by
          rw [up1_ne (by omega), up1_ne (by omega), up1_ne (by omega), up1_eq]
        have v1 : (up1 (up1 (up1 (up1 A (3 * n) (nI land)) (3 * n + 1) (nI ls)) (3 * n + 2) 0) 1344 (nI n + 1)) (3 * n + 1) = nI ls := by
          rw [up1_ne (by omega), up1_ne (by omega), up1_eq]
        have v2 : (up1 (up1 (up1 (up1 A (3 * n) (nI land)) (3 * n + 1) (nI ls)) (3 * n + 2) 0) 1344 (nI n + 1)) (3 * n + 2) = nI 0 := by
          rw [up1_ne (by omega), up1_eq]
          rfl
        have v3 : (up1 (up1 (up1 (up1 A (3 * n) (nI land)) (3 * n + 1) (nI ls)) (3 * n + 2) 0) 1344 (nI n + 1)) 1344 = nI (n + 1) := by
          rw [up1_eq, nI_1]
        generalize up1 (up1 (up1 (up1 A (3 * n) (nI land)) (3 * n + 1) (nI ls)) (3 * n + 2) 0) 1344 (nI n + 1) = B at *
        have c0 : nC B = n + 1 := cl_of v3 (by omega)
        have outc : ∀ j, j ≠ 1344 → (j < 3 * n ∨ 3 * n + 3 ≤ j) → cl B j = cl A j := fun j h1 h2 => by
          unfold cl
          rw [out j h1 h2]
        refine K.of (Or.inr fun c hc => ?_) (Or.inl ⟨fun j _ _ => out j (by omega) (by omega), outc _ (by decide) (by omega)⟩) (Or.inl ⟨fun j _ _ => out j (by omega) (by omega), outc _ (by decide) (by omega)⟩) (Or.inl fun j _ _ => out j (by omega) (by omega)) (Or.inl ⟨fun j _ _ => out j (by omega) (by omega), outc _ (by decide) (by omega)⟩) (Or.inl fun j _ _ => out j (by omega) (by omega)) (Or.inl ⟨out _ (by decide) (by omega), Nat.le_of_eq (outc _ (by decide) (by omega)).symm⟩) (Or.inl ⟨fun j _ _ => out j (by omega) (by omega), outc _ (by decide) (by omega)⟩) ⟨⟨Rg.of v3 (by omega) (by decide), by rw [c0]; omega⟩, K.1.2.1.cong (out _ (by decide) (by omega)), ⟨K.1.2.2.1.cong (out _ (by decide) (by omega)), Nat.le_of_eq (outc _ (by decide) (by omega)).symm⟩, K.1.2.2.2.1.cong (out _ (by decide) (by omega)), K.1.2.2.2.2.cong (out _ (by decide) (by omega))⟩
        by_cases e : c = n
        · subst e
          exact ⟨Rg.of v0 (by omega) (by decide), Rg.of v1 (by omega) (by decide), Rg.of v2 (by omega) (by decide)⟩
        · rw [c0] at hc
          obtain ⟨z1, z2, z3⟩ := K.2.1 c (by omega)
          exact ⟨z1.cong (out _ (by omega) (by omega)), z2.cong (out _ (by omega) (by omega)), z3.cong (out _ (by omega) (by omega))⟩
      · intro j hj
        rw [hA, up1_ne (by omega), up1_ne (by omega), up1_ne (by omega), up1_ne (by omega)]
  · exact bad c
