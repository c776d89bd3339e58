/-! CALLS that open a row: hand, note -/
theorem sim_hand : Sim_hand Inv := by
  intro x3 x4 q h hq I
  show SimB q h (F_X11_hand 1 x3 x4) (F_X12_hand 81 x3 x4)
  obtain ⟨L, _, _, _, _, X, Y0, Y1, ⟨C, K, TX⟩, _⟩ := id I
  have D := L.kd
  have R := L.rd
  have kc : pg_i h 83 1346 = nI (nH (pg_i h 83)) := K.1.2.2.1.1
  have kn : nH (pg_i h 83) < 13 := K.1.2.2.1.2
  by_cases c3 : (0 ≤ x3 ∧ x3 ≤ 400) ∧ (x3 ≤ x4 ∧ x4 ≤ 400)
  · obtain ⟨y1, hy1, rfl⟩ := nI_of2 (x := x3) (M := 400) (n := 400) (by decide) (Int32.not_lt.mpr c3.1.1) c3.1.2
    obtain ⟨y2, hy2, rfl⟩ := nI_of2 (x := x4) (M := 400) (n := 400) (by decide) (Int32.not_lt.mpr (Int32.le_trans c3.1.1 c3.2.1)) c3.2.2
    have hyy : y1 ≤ y2 := (nI_leI (by omega) (by omega)).mp c3.2.1
    by_cases full : nH (pg_i h 83) = 12
    · refine refuse_sim I (x := -5) (k := 5) (by decide) (by decide) ?_ (fun h1 L1 e83 e81 _ => ?_)
      · unfold F_X11_hand
        simp only [k_si, k_sl, k_sr, r_si, r_sl, i_sl, i_sr, l_si, l_sr, Option.bind_some, if_true, if_false, bind_eta2, if_bb, decide_eq_true_eq, pg_let, years_le, nR_1_0, nR_2_2, nc_1, nc_7, D, R, if_pos c3, C.2.2.1.1.full full]
      · have e12 : pg_aI 21 h1 83 (1346 : Int32) = some (12 : Int32) := by
          rw [m_k_1346 L1 e83, kc, full]
          rfl
        unfold F_X12_hand
        simp only [k_si, k_sl, k_sr, r_si, r_sl, i_sl, i_sr, l_si, l_sr, Option.bind_some, if_true, if_false, bind_eta2, if_bb, decide_eq_true_eq, pg_let, years_same, years_le, nc_81, nR_81_3, L1.kd, L1.rd, if_pos c3, e12]
    · obtain ⟨n, hn⟩ : ∃ n, n = nH (pg_i h 83) := ⟨_, rfl⟩
      obtain ⟨ha, e1, Ca, aa⟩ := C.open2 (by omega)
      rw [← hn] at e1 Ca kc kn full
      generalize hA : pg_i h 83 = A at *
      have nHa : nH (up1 (fun k => if 196 + 8 * n ≤ k ∧ k < 196 + 8 * n + 8 then 0 else A k) 1346 (nI (n + 1))) = n + 1 := cl_of up1_eq (by omega)
      have C1 := Ca.put2 (i := n) (j := 0) (x := nI y1) (by omega) (by decide)
      have C2 := C1.put2 (i := n) (j := 1) (x := nI y2) (by rw [nH_ne (by omega)]; omega) (by decide)
      have p1 := c_put Ca.2.2.1 (i := n) (j := 0) (by omega) (by decide) (nI y1)
      have p2 := c_put C1.2.2.1 (i := n) (j := 1) (by rw [nH_ne (by omega)]; omega) (by decide) (nI y2)
      have eA : ∀ k, (up1 (up1 (up1 (fun k => if 196 + 8 * n ≤ k ∧ k < 196 + 8 * n + 8 then 0 else A k) (196 + 8 * n) (nI y1)) (196 + 8 * n + 1) (nI y2)) 1346 (nI n + 1)) k = (up1 (up1 (up1 (fun k => if 196 + 8 * n ≤ k ∧ k < 196 + 8 * n + 8 then 0 else A k) 1346 (nI (n + 1))) (196 + 8 * n + 0) (nI y1)) (196 + 8 * n + 1) (nI y2)) k := fun k => by
        dsimp only [up1]
        rw [nI_1]
        repeat' split
        all_goals (first | rfl | omega)
      refine acc_sim I hq (hc := pg_si (pg_si ha (2 + 6) (n * 8 + 0) (nI y1)) (2 + 6) (n * 8 + 1) (nI y2)) (v := nI n) (A' := up1 (up1 (up1 (fun k => if 196 + 8 * n ≤ k ∧ k < 196 + 8 * n + 8 then 0 else A k) (196 + 8 * n) (nI y1)) (196 + 8 * n + 1) (nI y2)) 1346 (nI n + 1)) ?_ ?_ (Or.inr ⟨?_, ?_⟩) (fun h1 L1 e83 e81 => ?_) ?_ ?_
      · exact ((aa.mono (by decide)).asi (Or.inl (by decide))).asi (Or.inl (by decide))
      · exact C2.num (fun j _ => eA j)
      · have D1 : KD (pg_k ha) := by
          rw [aa.kk]
          exact D
        have R1 : RD (pg_r ha) := by
          rw [aa.rr]
          exact R
        unfold F_X11_hand
        simp only [k_si, k_sl, k_sr, r_si, r_sl, i_sl, i_sr, l_si, l_sr, Option.bind_some, if_true, if_false, bind_eta2, if_bb, decide_eq_true_eq, pg_let, years_le, nR_1_0, nR_2_2, nc_1, nc_7, D, R, D1, R1, if_pos c3, e1, neg1_iff (show n < 2 ^ 31 by omega), c_accept, show F_X7_put 7 (nI n) (0 : Int32) (nI y1) ha = _ from p1, show F_X7_put 7 (nI n) (1 : Int32) (nI y2) (pg_si ha (2 + 5 + 1) (n * 8 + 0) (nI y1)) = _ from p2]
      · intro j hj
        rw [hA, up1_ne (by omega), up1_ne (by omega), up1_ne (by omega), if_neg (by omega)]
      · replace e83 := e83.trans hA
        have n12 : (nI n = (12 : Int32)) = False := eq_false (fun z => full ((nI_eq (b := 12) (by omega) (by decide)).mp z))
        have ek : pg_aI 21 h1 83 (1346 : Int32) = some (nI n) := by rw [m_k_1346 L1 e83, kc]
        have j0 : (196 : Int32) + (8 : Int32) * nI n = nI (196 + 8 * n) := by rw [show (8 : Int32) = nI 8 from rfl, nI_mul, show (196 : Int32) = nI 196 from rfl, nI_add]
        have ent : F_X12_hand 81 (nI y1) (nI y2) h1 = F_X12_hand_39 pg_fuel 81 (nI y1) (nI y2) (nI n) 0 h1 := by
          unfold F_X12_hand
          simp only [k_si, k_sl, k_sr, r_si, r_sl, i_sl, i_sr, l_si, l_sr, Option.bind_some, if_true, if_false, bind_eta2, if_bb, decide_eq_true_eq, pg_let, years_same, years_le, nc_81, nR_81_3, L1.kd, L1.rd, if_pos c3, ek, n12]
        rw [ent]
        refine loopI (fun f i x => F_X12_hand_39 f 81 (nI y1) (nI y2) (nI n) (nI i) x) 8 (fun i x => Ch [83] [] h1 x ∧ pg_i x 83 = fun k => if 196 + 8 * n ≤ k ∧ k < 196 + 8 * n + i then 0 else A k) (fun r => ∃ hm, Ch [83] [] h1 hm ∧ pg_i hm 83 = up1 (up1 (up1 (fun k => if 196 + 8 * n ≤ k ∧ k < 196 + 8 * n + 8 then 0 else A k) (196 + 8 * n) (nI y1)) (196 + 8 * n + 1) (nI y2)) 1346 (nI n + 1) ∧ r = some (nI n, pg_si (pg_si hm 81 0 0) 81 1 (pg_i hm 81 1 + 1))) ?_ ?_ 0 h1 (by decide) ⟨Ch.refl _ _ _, ?_⟩ pg_fuel (by unfold pg_fuel; omega)
        · intro f i x hi hx
          obtain ⟨cx, ex⟩ := hx
          have Dx : KD (pg_k x) := by
            rw [cx.kk]
            exact L1.kd
          have Rx : RD (pg_r x) := by
            rw [cx.rr]
            exact L1.rd
          refine ⟨pg_si x 83 (196 + 8 * n + i) 0, ?_, cx.asi (Or.inl (by decide)), ?_⟩
          · show F_X12_hand_39 (f + 1) 81 (nI y1) (nI y2) (nI n) (nI i) x = F_X12_hand_39 f 81 (nI y1) (nI y2) (nI n) (nI (i + 1)) (pg_si x 83 (196 + 8 * n + i) 0)
            rw [F_X12_hand_39]
            dsimp only
            rw [if_pos (show nI i < (8 : Int32) from nI_lt (b := 8) hi (by decide)), nR_81_3 Dx Rx, Option.bind_some, j0, nI_add, ns_83 Dx (by omega), Option.bind_some, nI_1]
          · rw [si_row, ex]
            funext k
            dsimp only [up1]
            by_cases e : k = 196 + 8 * n + i
            · rw [if_pos e, if_pos (by omega)]
            · rw [if_neg e]
              by_cases z : 196 + 8 * n ≤ k ∧ k < 196 + 8 * n + i
              · rw [if_pos z, if_pos (by omega)]
              · rw [if_neg z, if_neg (by omega)]
        · intro f x hx
          obtain ⟨cx, ex⟩ := hx
          have Dx : KD (pg_k x) := by
            rw [cx.kk]
            exact L1.kd
          have Rx : RD (pg_r x) := by
            rw [cx.rr]
            exact L1.rd
          have b0 : 196 + 8 * n < 7758 := by omega
          have b1 : 196 + 8 * n + 1 < 7758 := by omega
          have e1346 : pg_i (pg_si (pg_si x 83 (196 + 8 * n) (nI y1)) 83 (196 + 8 * n + 1) (nI y2)) 83 1346 = nI n := by
            rw [si_row, si_row, up1_ne (by omega), up1_ne (by omega), ex]
            dsimp only
            rw [if_neg (by omega), kc]
          refine ⟨pg_si (pg_si (pg_si x 83 (196 + 8 * n) (nI y1)) 83 (196 + 8 * n + 1) (nI y2)) 83 1346 (nI n + 1), ((cx.asi (Or.inl (by decide))).asi (Or.inl (by decide))).asi (Or.inl (by decide)), ?_, ?_⟩
          · rw [si_row, si_row, si_row, ex]
          · show F_X12_hand_39 (f + 1) 81 (nI y1) (nI y2) (nI n) (nI 8) x = _
            rw [F_X12_hand_39]
            dsimp only
            rw [if_neg (show ¬ nI 8 < (8 : Int32) by decide)]
            simp only [k_si, k_sl, k_sr, r_si, r_sl, i_sl, i_sr, l_si, l_sr, Option.bind_some, if_true, if_false, bind_eta2, if_bb, decide_eq_true_eq, pg_let, nc_81, nR_81_3, Dx, Rx, j0, nI_1 (196 + 8 * n), ns_83, b0, b1, na_83_1346, ns_83_1346, e1346, m_good]
        · rw [e83]
          funext k
          rw [if_neg (by omega)]
      · have out : ∀ j, j ≠ 1346 → (j < 196 + 8 * n ∨ 196 + 8 * n + 8 ≤ j) → (up1 (up1 (up1 (fun k => if 196 + 8 * n ≤ k ∧ k < 196 + 8 * n + 8 then 0 else A k) (196 + 8 * n) (nI y1)) (196 + 8 * n + 1) (nI y2)) 1346 (nI n + 1)) j = A j := fun j h1 h2 => by
          rw [up1_ne (by omega), up1_ne (by omega), up1_ne (by omega), if_neg (by omega)]
        have v0 : (up1 (up1 (up1 (fun k => if 196 + 8 * n ≤ k ∧ k < 196 + 8 * n + 8 then 0 else A k) (196 + 8 * n) (nI y1)) (196 + 8 * n + 1) (nI y2)) 1346 (nI n + 1)) (196 + 8 * n) = nI y1 := by
          rw [up1_ne (by omega), up1_ne (by omega), up1_eq]
        have v1 : (up1 (up1 (up1 (fun k => if 196 + 8 * n ≤ k ∧ k < 196 + 8 * n + 8 then 0 else A k) (196 + 8 * n) (nI y1)) (196 + 8 * n + 1) (nI y2)) 1346 (nI n + 1)) (196 + 8 * n + 1) = nI y2 := by
          rw [up1_ne (by omega), up1_eq]
        have v2 : ∀ f, f < 6 → (up1 (up1 (up1 (fun k => if 196 + 8 * n ≤ k ∧ k < 196 + 8 * n + 8 then 0 else A k) (196 + 8 * n) (nI y1)) (196 + 8 * n + 1) (nI y2)) 1346 (nI n + 1)) (196 + 8 * n + 2 + f) = nI 0 := fun f hf => by
          rw [up1_ne (by omega), up1_ne (by omega), up1_ne (by omega), if_pos (by omega)]
          rfl
        have v3 : (up1 (up1 (up1 (fun k => if 196 + 8 * n ≤ k ∧ k < 196 + 8 * n + 8 then 0 else A k) (196 + 8 * n) (nI y1)) (196 + 8 * n + 1) (nI y2)) 1346 (nI n + 1)) 1346 = nI (n + 1) := by
          rw [up1_eq, nI_1]
        generalize up1 (up1 (up1 (fun k => if 196 + 8 * n ≤ k ∧ k < 196 + 8 * n + 8 then 0 else A k) (196 + 8 * n) (nI y1)) (196 + 8 * n + 1) (nI y2)) 1346 (nI n + 1) = B at *
        have c0 : nH B = n + 1 := cl_of v3 (by omega)
        have outc : ∀ j, j ≠ 1346 → (j < 196 + 8 * n ∨ 196 + 8 * n + 8 ≤ j) → cl B j = cl A j := fun j h1 h2 => by
          unfold cl
          rw [out j h1 h2]
        refine K.of (Or.inl ⟨fun j _ => out j (by omega) (by omega), outc _ (by decide) (by omega)⟩) (Or.inl ⟨fun j _ _ => out j (by omega) (by omega), outc _ (by decide) (by omega)⟩) (Or.inr fun c hc => ?_) (Or.inl fun j _ _ => out j (by omega) (by omega)) (Or.inl ⟨fun j _ _ => out j (by omega) (by omega), outc _ (by decide) (by omega)⟩) (Or.inl fun j _ _ => out j (by omega) (by omega)) (Or.inl ⟨out _ (by decide) (by omega), Nat.le_of_eq (outc _ (by decide) (by omega)).symm⟩) (Or.inl ⟨fun j _ _ => out j (by omega) (by omega), outc _ (by decide) (by omega)⟩) ⟨⟨K.1.1.cong (out _ (by decide) (by omega)), Nat.le_of_eq (outc _ (by decide) (by omega)).symm⟩, K.1.2.1.cong (out _ (by decide) (by omega)), ⟨Rg.of v3 (by omega) (by decide), by rw [c0]; omega⟩, K.1.2.2.2.1.cong (out _ (by decide) (by omega)), K.1.2.2.2.2.cong (out _ (by decide) (by omega))⟩
        by_cases e : c = n
        · subst e
          exact ⟨Rg.of v0 (by omega) (by decide), Rg.of v1 (by omega) (by decide), by rw [cl_of v0 (by omega), cl_of v1 (by omega)]; exact hyy, fun f hf => Rg.of (v2 f hf) (by omega) (by decide)⟩
        · rw [c0] at hc
          obtain ⟨z1, z2, z3, z4⟩ := K.2.2.2.1 c (by omega)
          exact ⟨z1.cong (out _ (by omega) (by omega)), z2.cong (out _ (by omega) (by omega)), by rw [outc _ (by omega) (by omega), outc _ (by omega) (by omega)]; exact z3, fun f hf => (z4 f hf).cong (out _ (by omega) (by omega))⟩
      · intro j hj
        rw [hA, up1_ne (by omega), up1_ne (by omega), up1_ne (by omega), if_neg (by omega)]
  · refine refuse_sim I (x := -1) (k := 1) (by decide) (by decide) ?_ (fun h1 L1 e83 e81 _ => ?_)
    · unfold F_X11_hand
      simp only [k_si, k_sl, k_sr, r_si, r_sl, i_sl, i_sr, l_si, l_sr, Option.bind_some, if_true, if_false, bind_eta2, if_bb, decide_eq_true_eq, pg_let, years_le, nc_1, D, if_neg c3]
    · unfold F_X12_hand
      simp only [k_si, k_sl, k_sr, r_si, r_sl, i_sl, i_sr, l_si, l_sr, Option.bind_some, if_true, if_false, bind_eta2, if_bb, decide_eq_true_eq, pg_let, years_same, years_le, nc_81, L1.kd, if_neg c3]
/-! NOTES -/
def addA (A : Nat → Int32) (n : Nat) (c p w k kd : Int32) : Nat → Int32 := up1 (up1 (up1 (up1 (up1 (up1 A (340 + 5 * n) c) (340 + 5 * n + 1) p) (340 + 5 * n + 2) w) (340 + 5 * n + 3) k) (340 + 5 * n + 4) kd) 1347 (nI (n + 1))
theorem c_addNote {h : pg_H} {A : Nat → Int32} (L : Lay h) (C : CNum h 2 A) (hn : nN A < 200) (c p w k kd : Int32) : ∃ hc, F_X5_addNote 2 c p w k kd h = some (nI (nN A), hc) ∧ Ch [12] [(11, 3)] h hc ∧ CNum hc 2 (addA A (nN A) c p w k kd) := by
  have D := L.kd
  have R := L.rd
  obtain ⟨n, en⟩ : ∃ n, n = nN A := ⟨_, rfl⟩
  obtain ⟨ha, e1, Ca, aa⟩ := C.open4 hn
  rw [← en] at e1 Ca hn ⊢
  have nNa : nN (up1 (fun k => if 340 + 5 * n ≤ k ∧ k < 340 + 5 * n + 5 then 0 else A k) 1347 (nI (n + 1))) = n + 1 := cl_of up1_eq (by omega)
  have C1 := Ca.put4 (i := n) (j := 0) (x := c) (by omega) (by decide)
  have C2 := C1.put4 (i := n) (j := 1) (x := p) (by rw [nN_ne (by omega)]; omega) (by decide)
  have C3 := C2.put4 (i := n) (j := 2) (x := w) (by rw [nN_ne (by omega), nN_ne (by omega)]; omega) (by decide)
  have C4 := C3.put4 (i := n) (j := 3) (x := k) (by rw [nN_ne (by omega), nN_ne (by omega), nN_ne (by omega)]; omega) (by decide)
  have C5 := C4.put4 (i := n) (j := 4) (x := kd) (by rw [nN_ne (by omega), nN_ne (by omega), nN_ne (by omega), nN_ne (by omega)]; omega) (by decide)
  have p1 := c_put Ca.2.2.2.2.1 (i := n) (j := 0) (by omega) (by decide) c
  have p2 := c_put C1.2.2.2.2.1 (i := n) (j := 1) (by rw [nN_ne (by omega)]; omega) (by decide) p
  have p3 := c_put C2.2.2.2.2.1 (i := n) (j := 2) (by rw [nN_ne (by omega), nN_ne (by omega)]; omega) (by decide) w
  have p4 := c_put C3.2.2.2.2.1 (i := n) (j := 3) (by rw [nN_ne (by omega), nN_ne (by omega), nN_ne (by omega)]; omega) (by decide) k
  have p5 := c_put C4.2.2.2.2.1 (i := n) (j := 4) (by rw [nN_ne (by omega), nN_ne (by omega), nN_ne (by omega), nN_ne (by omega)]; omega) (by decide) kd
  have D1 : KD (pg_k ha) := by
    rw [aa.kk]
    exact D
  have R1 : RD (pg_r ha) := by
    rw [aa.rr]
    exact R
  refine ⟨pg_si (pg_si (pg_si (pg_si (pg_si ha (2 + 10) (n * 5 + 0) c) (2 + 10) (n * 5 + 1) p) (2 + 10) (n * 5 + 2) w) (2 + 10) (n * 5 + 3) k) (2 + 10) (n * 5 + 4) kd, ?_, ?_, ?_⟩
  · unfold F_X5_addNote
    simp only [k_si, k_sl, k_sr, r_si, r_sl, i_sl, i_sr, l_si, l_sr, Option.bind_some, if_true, if_false, bind_eta2, if_bb, decide_eq_true_eq, pg_let, nR_2_4, nc_11, D, R, D1, R1, e1, show F_X7_put 11 (nI n) (0 : Int32) c ha = _ from p1, show F_X7_put 11 (nI n) (1 : Int32) p (pg_si ha (2 + 9 + 1) (n * 5 + 0) c) = _ from p2, show F_X7_put 11 (nI n) (2 : Int32) w (pg_si (pg_si ha (2 + 9 + 1) (n * 5 + 0) c) (2 + 9 + 1) (n * 5 + 1) p) = _ from p3, show F_X7_put 11 (nI n) (3 : Int32) k (pg_si (pg_si (pg_si ha (2 + 9 + 1) (n * 5 + 0) c) (2 + 9 + 1) (n * 5 + 1) p) (2 + 9 + 1) (n * 5 + 2) w) = _ from p4, show F_X7_put 11 (nI n) (4 : Int32) kd (pg_si (pg_si (pg_si (pg_si ha (2 + 9 + 1) (n * 5 + 0) c) (2 + 9 + 1) (n * 5 + 1) p) (2 + 9 + 1) (n * 5 + 2) w) (2 + 9 + 1) (n * 5 + 3) k) = _ from p5]
  · exact (((((aa.mono (by decide)).asi (Or.inl (by decide))).asi (Or.inl (by decide))).asi (Or.inl (by decide))).asi (Or.inl (by decide))).asi (Or.inl (by decide))
  · refine C5.num (fun j _ => ?_)
    dsimp only [addA, up1]
    repeat' split
    all_goals (first | rfl | omega)
theorem put_neg {h : pg_H} {t w m n : Nat} (T : Tab h t w m n) (j x : Int32) : F_X7_put t (-1) j x h = some (0, h) := by
  unfold F_X7_put
  rw [T.rcv, T.holds, Option.bind_some, if_neg (show ¬ ((0 : Int32) ≤ -1 ∧ (-1 : Int32) < nI n) from fun z => absurd z.1 (by decide)), if_pos rfl]
theorem c_addNote_full {h : pg_H} {A : Nat → Int32} (L : Lay h) (C : CNum h 2 A) (hn : nN A = 200) (c p w k kd : Int32) : F_X5_addNote 2 c p w k kd h = some (-1, h) := by
  have D := L.kd
  have R := L.rd
  unfold F_X5_addNote
  simp only [k_si, k_sl, k_sr, r_si, r_sl, i_sl, i_sr, l_si, l_sr, Option.bind_some, if_true, if_false, bind_eta2, if_bb, decide_eq_true_eq, pg_let, nR_2_4, nc_11, D, R, C.2.2.2.2.1.1.full hn, put_neg C.2.2.2.2.1.1]
theorem m_notes {h : pg_H} {A : Nat → Int32} (L : Lay h) (M : pg_i h 83 = A) (K : ShOK A) (hn : nN A < 200) (c p w k kd : Int32) : ∃ hm, F_X12_notes 81 c p w k kd h = some hm ∧ Ch [83] [] h hm ∧ pg_i hm 83 = addA A (nN A) c p w k kd := by
  have D := L.kd
  have R := L.rd
  have kc : A 1347 = nI (nN A) := K.1.2.2.2.1.1
  generalize nN A = n at *
  have j0 : (340 : Int32) + (5 : Int32) * nI n = nI (340 + 5 * n) := by rw [show (5 : Int32) = nI 5 from rfl, nI_mul, show (340 : Int32) = nI 340 from rfl, nI_add]
  have b0 : 340 + 5 * n < 7758 := by omega
  have b1 : 340 + 5 * n + 1 < 7758 := by omega
  have b2 : 340 + 5 * n + 2 < 7758 := by omega
  have b3 : 340 + 5 * n + 3 < 7758 := by omega
  have b4 : 340 + 5 * n + 4 < 7758 := by omega
  have ek : pg_i h 83 1347 = nI n := by rw [M, kc]
  have e : pg_i (pg_si (pg_si (pg_si (pg_si (pg_si h 83 (340 + 5 * n) c) 83 (340 + 5 * n + 1) p) 83 (340 + 5 * n + 2) w) 83 (340 + 5 * n + 3) k) 83 (340 + 5 * n + 4) kd) 83 1347 = nI n := by
    rw [si_row, si_row, si_row, si_row, si_row, up1_ne (by omega), up1_ne (by omega), up1_ne (by omega), up1_ne (by omega), up1_ne (by omega), ek]
  refine ⟨pg_si (pg_si (pg_si (pg_si (pg_si (pg_si h 83 (340 + 5 * n) c) 83 (340 + 5 * n + 1) p) 83 (340 + 5 * n + 2) w) 83 (340 + 5 * n + 3) k) 83 (340 + 5 * n + 4) kd) 83 1347 (nI n + 1), ?_, ?_, ?_⟩
  · unfold F_X12_notes
    simp only [k_si, k_sl, k_sr, r_si, r_sl, i_sl, i_sr, l_si, l_sr, Option.bind_some, if_true, if_false, bind_eta2, if_bb, decide_eq_true_eq, pg_let, nR_81_3, D, R, na_83_1347, ns_83_1347, ek, j0, nI_1 (340 + 5 * n), nI_2, nI_3, nI_4, ns_83, b0, b1, b2, b3, b4, e]
  · exact ((((((Ch.refl _ _ h).asi (Or.inl (by decide))).asi (Or.inl (by decide))).asi (Or.inl (by decide))).asi (Or.inl (by decide))).asi (Or.inl (by decide))).asi (Or.inl (by decide))
  · rw [si_row, si_row, si_row, si_row, si_row, si_row, M, nI_1]
    rfl
theorem addA_out {A : Nat → Int32} {n : Nat} {c p w k kd : Int32} {j : Nat} (h1 : j ≠ 1347) (h2 : j < 340 + 5 * n ∨ 340 + 5 * n + 5 ≤ j) : addA A n c p w k kd j = A j := by
  unfold addA
  rw [up1_ne (by omega), up1_ne (by omega), up1_ne (by omega), up1_ne (by omega), up1_ne (by omega), up1_ne (by omega)]
theorem addA_at {A : Nat → Int32} {n : Nat} {c p w k kd : Int32} (hn : n < 200) : addA A n c p w k kd (340 + 5 * n) = c ∧ addA A n c p w k kd (340 + 5 * n + 1) = p ∧ addA A n c p w k kd (340 + 5 * n + 2) = w ∧ addA A n c p w k kd (340 + 5 * n + 3) = k ∧ addA A n c p w k kd (340 + 5 * n + 4) = kd ∧ addA A n c p w k kd 1347 = nI (n + 1) := by
  unfold addA
  refine ⟨?_, ?_, ?_, ?_, ?_, up1_eq⟩
  · rw [up1_ne (by omega), up1_ne (by omega), up1_ne (by omega), up1_ne (by omega), up1_ne (by omega), up1_eq]
  · rw [up1_ne (by omega), up1_ne (by omega), up1_ne (by omega), up1_ne (by omega), up1_eq]
  · rw [up1_ne (by omega), up1_ne (by omega), up1_ne (by omega), up1_eq]
  · rw [up1_ne (by omega), up1_ne (by omega), up1_eq]
  · rw [up1_ne (by omega), up1_eq]
theorem addA_ok {A : Nat → Int32} (K : ShOK A) {c p w kd : Nat} {k : Int32} (hn : nN A < 200) (hc : c < nC A) (hp : p < 60) (hw : w < 100) (hk : k = -1 ∨ ∃ i, i < nH A ∧ k = nI i) (hd : kd < 4) (h0 : kd ≠ 0 → w = 0) (no : hasQ A (nI c) (nI p) (nI w) (nI kd) = false) : ShOK (addA A (nN A) (nI c) (nI p) (nI w) k (nI kd)) := by
  obtain ⟨v0, v1, v2, v3, v4, v5⟩ := addA_at (A := A) (c := nI c) (p := nI p) (w := nI w) (k := k) (kd := nI kd) hn
  have out : ∀ j, j ≠ 1347 → (j < 340 + 5 * nN A ∨ 340 + 5 * nN A + 5 ≤ j) → addA A (nN A) (nI c) (nI p) (nI w) k (nI kd) j = A j := fun j h1 h2 => addA_out h1 h2
  generalize addA A (nN A) (nI c) (nI p) (nI w) k (nI kd) = B at *
  have kC : nC A < 13 := K.1.1.2
  have kH : nH A < 13 := K.1.2.2.1.2
  have outc : ∀ j, j ≠ 1347 → (j < 340 + 5 * nN A ∨ 340 + 5 * nN A + 5 ≤ j) → cl B j = cl A j := fun j h1 h2 => by
    unfold cl
    rw [out j h1 h2]
  have c0 : nN B = nN A + 1 := cl_of v5 (by omega)
  have eC : nC B = nC A := outc _ (by decide) (by omega)
  have eH : nH B = nH A := outc _ (by decide) (by omega)
  have old : ∀ n, n < nN A → ∀ i, i < 5 → B (340 + 5 * n + i) = A (340 + 5 * n + i) := fun n hn' i hi => out _ (by omega) (by omega)
  refine K.of (Or.inl ⟨fun j _ => out j (by omega) (by omega), eC⟩) (Or.inl ⟨fun j _ _ => out j (by omega) (by omega), outc _ (by decide) (by omega)⟩) (Or.inl ⟨fun j _ _ => out j (by omega) (by omega), eH⟩) (Or.inl fun j _ _ => out j (by omega) (by omega)) (Or.inr ⟨fun n hb => ?_, fun n m hnm hm => ?_, fun n hb => ?_⟩) (Or.inl fun j _ _ => out j (by omega) (by omega)) (Or.inl ⟨out _ (by decide) (by omega), Nat.le_of_eq (outc _ (by decide) (by omega)).symm⟩) (Or.inl ⟨fun j _ _ => out j (by omega) (by omega), outc _ (by decide) (by omega)⟩) ⟨⟨K.1.1.cong (out _ (by decide) (by omega)), Nat.le_of_eq eC.symm⟩, K.1.2.1.cong (out _ (by decide) (by omega)), ⟨K.1.2.2.1.cong (out _ (by decide) (by omega)), Nat.le_of_eq eH.symm⟩, Rg.of v5 (by omega) (by decide), K.1.2.2.2.2.cong (out _ (by decide) (by omega))⟩
  · rw [c0] at hb
    by_cases e : n = nN A
    · subst e
      refine ⟨Rg.of v0 (by rw [eC]; exact hc) (by rw [eC]; omega), Rg.of v1 hp (by decide), Rg.of v2 hw (by decide), ?_, Rg.of v4 hd (by decide)⟩
      rcases hk with z | ⟨i, z1, z2⟩
      · exact Or.inl (v3.trans z)
      · exact Or.inr (Rg.of (v3.trans z2) (by rw [eH]; exact z1) (by rw [eH]; omega))
    · obtain ⟨z1, z2, z3, z4, z5⟩ := K.2.2.2.2.2.1 n (by omega)
      refine ⟨?_, z2.cong (old n (by omega) 1 (by decide)), z3.cong (old n (by omega) 2 (by decide)), ?_, z5.cong (old n (by omega) 4 (by decide))⟩
      · rw [eC]
        exact z1.cong (old n (by omega) 0 (by decide))
      · rw [old n (by omega) 3 (by decide), eH]
        exact z4.imp id (fun z => z.cong (old n (by omega) 3 (by decide)))
  · rw [c0] at hm
    by_cases e : m = nN A
    · subst e
      rw [v0, v1, v2, v4, show B (340 + 5 * n) = _ from old n hnm 0 (by decide), old n hnm 1 (by decide), old n hnm 2 (by decide), old n hnm 4 (by decide)]
      rintro ⟨z1, z2, z3, z4⟩
      have := (anyN_false.mp no) n hnm
      unfold noteQ at this
      rw [decide_eq_true (show A (340 + 5 * n) = nI c from z1), decide_eq_true z2, decide_eq_true z3, decide_eq_true z4] at this
      cases this
    · rw [show B (340 + 5 * n) = _ from old n (by omega) 0 (by decide), old n (by omega) 1 (by decide), old n (by omega) 2 (by decide), old n (by omega) 4 (by decide), show B (340 + 5 * m) = _ from old m (by omega) 0 (by decide), old m (by omega) 1 (by decide), old m (by omega) 2 (by decide), old m (by omega) 4 (by decide)]
      exact K.2.2.2.2.2.2.1 n m hnm (by omega)
  · rw [c0] at hb
    by_cases e : n = nN A
    · subst e
      rw [v4, v2]
      intro z
      rw [h0 (fun z' => z (by rw [z']; rfl))]
      rfl
    · rw [old n (by omega) 4 (by decide), old n (by omega) 2 (by decide)]
      exact K.2.2.2.2.2.2.2.1 n (by omega)
theorem c_isHandOr {h : pg_H} {A : Nat → Int32} (L : Lay h) (C : CNum h 2 A) (x : Int32) : F_X5_isHandOrUnknown h 2 x = some (b01 (decide (x = -1 ∨ (0 ≤ x ∧ x < nI (nH A))))) := by
  unfold F_X5_isHandOrUnknown
  by_cases e : x = -1
  · rw [if_pos e, decide_eq_true (Or.inl e)]
    rfl
  · rw [if_neg e, nR_2_2 L.kd L.rd, Option.bind_some, nc_7 L.kd, c_holds_7 C, Option.bind_some, if_bb]
    simp only [decide_eq_true_eq]
    by_cases e2 : 0 ≤ x ∧ x < nI (nH A)
    · rw [if_pos e2, decide_eq_true (Or.inr e2)]
      rfl
    · rw [if_neg e2, decide_eq_false (fun z => z.elim e e2)]
      rfl
def noteP (p w k : Int32) : Prop := (0 ≤ p ∧ p ≤ 59) ∧ (0 ≤ w ∧ w ≤ 99) ∧ (0 ≤ k ∧ k ≤ 3) ∧ (k ≠ 0 → w = 0)
theorem c_isNote (p w k : Int32) : (noteP p w k → F_X11_isNote p w k = some 1) ∧ (¬ noteP p w k → F_X11_isNote p w k = some 0) := by
  unfold F_X11_isNote F_X11_isNote_31
  simp only [within_le, Option.bind_some, if_bb, decide_eq_true_eq]
  refine ⟨fun ⟨c1, c4, c2, c5⟩ => ?_, fun no => ?_⟩
  · rw [if_pos c1, if_pos c2]
    by_cases c3 : k = 0
    · rw [if_pos c3, if_pos c4]
    · rw [if_neg c3, if_pos (by rw [c5 c3]; decide)]
  · by_cases c1 : 0 ≤ p ∧ p ≤ 59
    · rw [if_pos c1]
      by_cases c2 : 0 ≤ k ∧ k ≤ 3
      · rw [if_pos c2]
        by_cases c3 : k = 0
        · rw [if_pos c3]
          by_cases c4 : 0 ≤ w ∧ w ≤ 99
          · exact absurd ⟨c1, c4, c2, fun z => absurd c3 z⟩ no
          · rw [if_neg c4]
        · rw [if_neg c3]
          by_cases c4 : 0 ≤ w ∧ w ≤ 0
          · have w0 : w = 0 := Int32.le_antisymm c4.2 c4.1
            exact absurd ⟨c1, by rw [w0]; decide, c2, fun _ => w0⟩ no
          · rw [if_neg c4]
      · rw [if_neg c2]
    · rw [if_neg c1]
