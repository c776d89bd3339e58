theorem mod3_eq (n : Nat) (hn : n ≤ 400) : ((nI n - nI n / (3 : Int32) * (3 : Int32)) = 0) ↔ n % 3 = 0 := by
  have e : nI n - nI n / (3 : Int32) * (3 : Int32) = nI (n % 3) := by
    have d : nI n / (3 : Int32) = nI (n / 3) := nI_div (b := 3) (by omega) (by decide)
    rw [d, show nI (n / 3) * (3 : Int32) = nI (n / 3 * 3) from nI_mul _ 3]
    have h : nI n = nI (n % 3) + nI (n / 3 * 3) := by
      rw [nI_add]
      congr 1
      omega
    rw [h, Int32.add_sub_cancel]
  rw [e]
  exact nI_eq (b := 0) (by omega) (by decide)
theorem m_rowRun {h : pg_H} {A : Nat → Int32} (L : Lay h) (M : pg_i h 83 = A) (K : ShOK A) {c n tr : Nat} (hc : c < nC A) (hn : n ≤ 400) (B : Nat → Nat) (hB : ∀ i, i < n → B i < 256 ∧ pg_i h 87 i = (nI (B i)).toInt8.toInt32) (ht : pg_i h 81 6 = nI tr) :
    ∃ hm, F_X12_row_56 pg_fuel 81 (nI c) (nI n) 0 0 h = some (nI (rowR c B A (n / 3)).2, pg_si (pg_si hm 81 0 0) 81 1 (pg_i hm 81 1 + 1)) ∧ Ch [83] [(81, 6)] h hm ∧ pg_i hm 83 = (rowR c B A (n / 3)).1 ∧ pg_i hm 81 6 = nI (tr + (n / 3 - (rowR c B A (n / 3)).2)) := by
  refine loopI (fun f i x => F_X12_row_56 f 81 (nI c) (nI n) (nI (rowR c B A i).2) (nI (3 * i)) x) (n / 3) (fun i x => Ch [83] [(81, 6)] h x ∧ pg_i x 83 = (rowR c B A i).1 ∧ pg_i x 81 6 = nI (tr + (i - (rowR c B A i).2))) (fun r => ∃ hm, r = some (nI (rowR c B A (n / 3)).2, pg_si (pg_si hm 81 0 0) 81 1 (pg_i hm 81 1 + 1)) ∧ Ch [83] [(81, 6)] h hm ∧ pg_i hm 83 = (rowR c B A (n / 3)).1 ∧ pg_i hm 81 6 = nI (tr + (n / 3 - (rowR c B A (n / 3)).2))) ?_ ?_ 0 h (Nat.zero_le _) ⟨Ch.refl _ _ _, M, ht⟩ pg_fuel (by unfold pg_fuel; omega)
  · intro f i x hi ⟨cx, x1, x2⟩
    obtain ⟨k1, k2, k3, k4⟩ := rowR_ok K hc B i
    have Lx := cx.lay L (by decide)
    have r87 : pg_i x 87 = pg_i h 87 := cx.row (by decide)
    obtain ⟨l0, e0⟩ := hB (3 * i) (by omega)
    obtain ⟨l1, e1⟩ := hB (3 * i + 1) (by omega)
    obtain ⟨l2, e2⟩ := hB (3 * i + 2) (by omega)
    obtain ⟨hm, a1, a2, a3, a4⟩ := m_rowTurn (c := c) (came := (rowR c B A i).2) Lx x1 k1 hn (show 3 * i + 3 ≤ n by omega) (by rw [r87]; exact e0) (by rw [r87]; exact e1) (by rw [r87]; exact e2) l0 l1 l2 x2 f
    have step : rowR c B A (i + 1) = rowS c B i (rowR c B A i) := rfl
    refine ⟨hm, ?_, cx.trans a2, ?_, ?_⟩
    · show F_X12_row_56 (f + 1) 81 (nI c) (nI n) (nI (rowR c B A i).2) (nI (3 * i)) x = F_X12_row_56 f 81 (nI c) (nI n) (nI (rowR c B A (i + 1)).2) (nI (3 * (i + 1))) hm
      rw [a1, step]
      unfold rowS
      rw [show 3 * (i + 1) = 3 * i + 3 by omega]
      split <;> rfl
    · rw [a3, step]
      unfold rowS
      split <;> rfl
    · rw [a4, step]
      unfold rowS
      split
      · congr 1
        show _ = tr + (i + 1 - ((rowR c B A i).2 + 1))
        omega
      · congr 1
        omega
  · intro f x ⟨cx, x1, x2⟩
    have Lx := cx.lay L (by decide)
    refine ⟨x, ?_, cx, x1, x2⟩
    show F_X12_row_56 (f + 1) 81 (nI c) (nI n) (nI (rowR c B A (n / 3)).2) (nI (3 * (n / 3))) x = _
    rw [F_X12_row_56]
    dsimp only
    rw [nI_3, if_pos (nI_lt (show n < 3 * (n / 3) + 3 by omega) (by omega))]
    simp only [k_si, k_sl, k_sr, r_si, r_sl, i_sl, i_sr, l_si, l_sr, Option.bind_some, if_true, if_false, bind_eta2, if_bb, decide_eq_true_eq, pg_let, nc_81, Lx.kd, m_good]
theorem c_rowRun {h : pg_H} {A : Nat → Int32} (L : Lay h) (C : CNum h 2 A) (K : ShOK A) {c n : Nat} (hc : c < nC A) (hn : n ≤ 400) (B : Nat → Nat) (hs : pg_i h 43 1 = nI n) (hB : ∀ i, i < n → B i < 256 ∧ pg_i h 44 i = nI (B i)) :
    ∃ hx, F_X11_row_48 pg_fuel 1 (nI c) (nI n) 0 0 0 h = some (nI (rowR c B A (n / 3)).2, pg_si (pg_si (pg_si (pg_si (pg_si hx 43 1 0) 1 12 (nI ((n + 2) / 3 - (rowR c B A (n / 3)).2))) 1 14 0) 1 15 0) 1 11 0) ∧ Ch [12] [(11, 3)] h hx ∧ CNum hx 2 (rowR c B A (n / 3)).1 := by
  refine loopI (fun f i (x : pg_H) => F_X11_row_48 f 1 (nI c) (nI n) (nI (rowR c B A (min i (n / 3))).2) (nI (i - (rowR c B A (min i (n / 3))).2)) (nI (3 * i)) x) ((n + 2) / 3) (fun i x => Ch [12] [(11, 3)] h x ∧ CNum x 2 (rowR c B A (min i (n / 3))).1) (fun r => ∃ hx, r = some (nI (rowR c B A (n / 3)).2, pg_si (pg_si (pg_si (pg_si (pg_si hx 43 1 0) 1 12 (nI ((n + 2) / 3 - (rowR c B A (n / 3)).2))) 1 14 0) 1 15 0) 1 11 0) ∧ Ch [12] [(11, 3)] h hx ∧ CNum hx 2 (rowR c B A (n / 3)).1) ?_ ?_ 0 h (Nat.zero_le _) ⟨Ch.refl _ _ _, by rw [Nat.zero_min]; exact C⟩ pg_fuel (by unfold pg_fuel; omega)
  · intro f i x hi ⟨cx, Cx⟩
    obtain ⟨k1, k2, k3, k4⟩ := rowR_ok K hc B (min i (n / 3))
    have Lx := cx.lay L (by decide)
    have Dx := Lx.kd
    have r44 : pg_i x 44 = pg_i h 44 := cx.row (by decide)
    have s1 : pg_i x 43 1 = nI n := by rw [cx.row (by decide), hs]
    by_cases full : i < n / 3
    · have mi : min i (n / 3) = i := Nat.min_eq_left (by omega)
      have mi1 : min (i + 1) (n / 3) = i + 1 := Nat.min_eq_left (by omega)
      rw [mi] at Cx k1 k2 k3 k4
      obtain ⟨l0, e0⟩ := hB (3 * i) (by omega)
      obtain ⟨l1, e1⟩ := hB (3 * i + 1) (by omega)
      obtain ⟨l2, e2⟩ := hB (3 * i + 2) (by omega)
      obtain ⟨hx, a1, a2, a3⟩ := c_takeRow (c := c) Lx Cx k1 s1 hn (show 3 * i + 3 ≤ n by omega) (by rw [r44]; exact e0) (by rw [r44]; exact e1) (by rw [r44]; exact e2) l0 l1 l2
      have step : rowR c B A (i + 1) = rowS c B i (rowR c B A i) := rfl
      refine ⟨hx, ?_, cx.trans a2, ?_⟩
      · show F_X11_row_48 (f + 1) 1 (nI c) (nI n) (nI (rowR c B A (min i (n / 3))).2) (nI (i - (rowR c B A (min i (n / 3))).2)) (nI (3 * i)) x = F_X11_row_48 f 1 (nI c) (nI n) (nI (rowR c B A (min (i + 1) (n / 3))).2) (nI (i + 1 - (rowR c B A (min (i + 1) (n / 3))).2)) (nI (3 * (i + 1))) hx
        rw [mi, mi1, step, F_X11_row_48]
        dsimp only
        rw [if_pos (nI_lt (show 3 * i < n by omega) (by omega)), nI_3, if_neg (nI_nlt (show 3 * i + 3 ≤ n by omega) (by omega)), nc_1 Dx, a1, Option.bind_some]
        unfold F_X11_row_78 F_X11_row_81 rowS
        dsimp only
        rw [if_bb, nI_3, show 3 * (i + 1) = 3 * i + 3 by omega]
        by_cases z : rowOk (rowR c B A i).1 c (B (3 * i)) (B (3 * i + 1)) (B (3 * i + 2)) = true
        · rw [if_pos z, if_pos z, nI_1, show i + 1 - ((rowR c B A i).2 + 1) = i - (rowR c B A i).2 by omega]
        · rw [if_neg z, if_neg z, nI_1, show i - (rowR c B A i).2 + 1 = i + 1 - (rowR c B A i).2 by omega]
      · rw [mi1, step]
        unfold rowS
        by_cases z : rowOk (rowR c B A i).1 c (B (3 * i)) (B (3 * i + 1)) (B (3 * i + 2)) = true
        · rw [if_pos z] at a3 ⊢
          exact a3
        · rw [if_neg z] at a3 ⊢
          exact a3
    · have mi : min i (n / 3) = n / 3 := Nat.min_eq_right (by omega)
      have mi1 : min (i + 1) (n / 3) = n / 3 := Nat.min_eq_right (by omega)
      rw [mi] at Cx k1 k2 k3 k4
      refine ⟨x, ?_, cx, by rw [mi1]; exact Cx⟩
      show F_X11_row_48 (f + 1) 1 (nI c) (nI n) (nI (rowR c B A (min i (n / 3))).2) (nI (i - (rowR c B A (min i (n / 3))).2)) (nI (3 * i)) x = F_X11_row_48 f 1 (nI c) (nI n) (nI (rowR c B A (min (i + 1) (n / 3))).2) (nI (i + 1 - (rowR c B A (min (i + 1) (n / 3))).2)) (nI (3 * (i + 1))) x
      rw [mi, mi1, F_X11_row_48]
      dsimp only
      rw [if_pos (nI_lt (show 3 * i < n by omega) (by omega)), nI_3, if_pos (nI_lt (show n < 3 * i + 3 by omega) (by omega))]
      unfold F_X11_row_78 F_X11_row_81
      rw [nI_1, nI_3, show i - (rowR c B A (n / 3)).2 + 1 = i + 1 - (rowR c B A (n / 3)).2 by omega, show 3 * (i + 1) = 3 * i + 3 by omega]
  · intro f x ⟨cx, Cx⟩
    have Lx := cx.lay L (by decide)
    have Dx := Lx.kd
    have Rx := Lx.rd
    have mi : min ((n + 2) / 3) (n / 3) = n / 3 := Nat.min_eq_right (by omega)
    rw [mi] at Cx
    have s1 : pg_i x 43 1 = nI n := by rw [cx.row (by decide), hs]
    refine ⟨x, ?_, cx, Cx⟩
    show F_X11_row_48 (f + 1) 1 (nI c) (nI n) (nI (rowR c B A (min ((n + 2) / 3) (n / 3))).2) (nI ((n + 2) / 3 - (rowR c B A (min ((n + 2) / 3) (n / 3))).2)) (nI (3 * ((n + 2) / 3))) x = _
    rw [mi, F_X11_row_48]
    dsimp only
    rw [if_neg (nI_nlt (show n ≤ 3 * ((n + 2) / 3) by omega) (by omega))]
    simp only [k_si, k_sl, k_sr, r_si, r_sl, i_sl, i_sr, l_si, l_sr, Option.bind_some, if_true, if_false, bind_eta2, if_bb, decide_eq_true_eq, pg_let, nR_1_3, nc_43, nc_1, np_1, Dx, Rx, show F_X8_shorten 43 (0 : Int32) x = some (pg_si x 43 1 (nI 0)) from c_shorten (m := 0) Dx s1 hn (Nat.zero_le _), c_changed]
    rfl
theorem sim_row : Sim_row Inv := by
  intro x1 q h hq I
  show SimB q h (F_X11_row 1 x1) (F_X12_row 81 x1)
  obtain ⟨L, sc, ⟨n, hn, t1, t2, t3⟩, wo, ⟨v, ev, hv⟩, X, Y0, Y1, ⟨C, K, TX⟩, _⟩ := id I
  have D := L.kd
  have R := L.rd
  have kC : nC (pg_i h 83) < 13 := K.1.1.2
  by_cases c1 : 0 ≤ x1 ∧ x1 < nI (nC (pg_i h 83))
  · by_cases n0 : n = 0
    · subst n0
      refine refuse_sim I (x := -6) (k := 6) (by decide) (by decide) ?_ (fun h1 L1 e83 e81 _ => ?_)
      · unfold F_X11_row F_X8_size
        simp only [k_si, k_sl, k_sr, r_si, r_sl, i_sl, i_sr, l_si, l_sr, Option.bind_some, if_true, if_false, bind_eta2, if_bb, decide_eq_true_eq, pg_let, nR_1_0, nR_1_3, nR_2_0, nc_1, nc_3, nc_43, ng_43, D, R, c_holds_3 C, if_pos c1, t1, show nI 0 = (0 : Int32) from rfl]
      · have e10 : pg_i h1 81 10 = 0 := by
          rw [e81, t2]
          rfl
        have s10 : pg_si h1 81 10 0 = h1 := si_same e10
        unfold F_X12_row
        simp only [k_si, k_sl, k_sr, r_si, r_sl, i_sl, i_sr, l_si, l_sr, Option.bind_some, if_true, if_false, bind_eta2, if_bb, decide_eq_true_eq, pg_let, nc_81, ng_81, np_81, L1.kd, m_isCopy L1 e83 K, if_pos c1, e10, s10]
    · obtain ⟨c, hc, rfl⟩ := in_nI c1 (by omega)
      obtain ⟨B, hB⟩ : ∃ B : Nat → Nat, ∀ i, i < n → B i < 256 ∧ pg_i h 44 i = nI (B i) ∧ pg_i h 87 i = (nI (B i)).toInt8.toInt32 := by
        have ex : ∀ i, ∃ b, i < n → b < 256 ∧ pg_i h 44 i = nI b ∧ pg_i h 87 i = (nI b).toInt8.toInt32 := fun i => by
          by_cases z : i < n
          · obtain ⟨b, q⟩ := t3 i z
            exact ⟨b, fun _ => q⟩
          · exact ⟨0, fun w => absurd w z⟩
        exact ⟨fun i => Classical.choose (ex i), fun i => Classical.choose_spec (ex i)⟩
      obtain ⟨k1, k2, k3, k4⟩ := rowR_ok K hc B (n / 3)
      obtain ⟨hx, a1, a2, a3⟩ := c_rowRun L C K hc hn B t1 (fun i hi => ⟨(hB i hi).1, (hB i hi).2.1⟩)
      generalize hR : rowR c B (pg_i h 83) (n / 3) = rr at *
      have fF : F_X11_row 1 (nI c) h = some (nI rr.2, pg_si (pg_si (pg_si (pg_si (pg_si hx 43 1 0) 1 12 (nI ((n + 2) / 3 - rr.2))) 1 14 0) 1 15 0) 1 11 0) := by
        rw [← a1]
        unfold F_X11_row F_X8_size
        simp only [k_si, k_sl, k_sr, r_si, r_sl, i_sl, i_sr, l_si, l_sr, Option.bind_some, if_true, if_false, bind_eta2, if_bb, decide_eq_true_eq, pg_let, nR_1_0, nR_1_3, nR_2_0, nc_1, nc_3, nc_43, ng_43, D, R, c_holds_3 C, if_pos c1, t1, if_neg (show ¬ nI n = (0 : Int32) from fun z => n0 ((nI_eq (b := 0) (by omega) (by decide)).mp z))]
      have b1 : Ch [12] [(11, 3), (43, 1), (1, 12), (1, 14), (1, 15), (1, 11)] h (pg_si (pg_si (pg_si (pg_si (pg_si hx 43 1 0) 1 12 (nI ((n + 2) / 3 - rr.2))) 1 14 0) 1 15 0) 1 11 0) := (((((a2.mono (by decide)).asi (Or.inr (by decide))).asi (Or.inr (by decide))).asi (Or.inr (by decide))).asi (Or.inr (by decide))).asi (Or.inr (by decide))
      have b2 : Ch [] [(43, 1), (1, 12), (1, 14), (1, 15), (1, 11)] hx (pg_si (pg_si (pg_si (pg_si (pg_si hx 43 1 0) 1 12 (nI ((n + 2) / 3 - rr.2))) 1 14 0) 1 15 0) 1 11 0) := (((((Ch.refl _ _ hx).asi (Or.inr (by decide))).asi (Or.inr (by decide))).asi (Or.inr (by decide))).asi (Or.inr (by decide))).asi (Or.inr (by decide))
      have g11 : pg_i (pg_si (pg_si (pg_si (pg_si (pg_si hx 43 1 0) 1 12 (nI ((n + 2) / 3 - rr.2))) 1 14 0) 1 15 0) 1 11 0) 1 11 = 0 := by rw [si_row, up1_eq]
      have g12 : pg_i (pg_si (pg_si (pg_si (pg_si (pg_si hx 43 1 0) 1 12 (nI ((n + 2) / 3 - rr.2))) 1 14 0) 1 15 0) 1 11 0) 1 12 = nI ((n + 2) / 3 - rr.2) := by
        rw [si_row, up1_ne (by decide), si_row, up1_ne (by decide), si_row, up1_ne (by decide), si_row, up1_eq]
      have g14 : pg_i (pg_si (pg_si (pg_si (pg_si (pg_si hx 43 1 0) 1 12 (nI ((n + 2) / 3 - rr.2))) 1 14 0) 1 15 0) 1 11 0) 1 14 = 0 := by
        rw [si_row, up1_ne (by decide), si_row, up1_ne (by decide), si_row, up1_eq]
      have g15 : pg_i (pg_si (pg_si (pg_si (pg_si (pg_si hx 43 1 0) 1 12 (nI ((n + 2) / 3 - rr.2))) 1 14 0) 1 15 0) 1 11 0) 1 15 = 0 := by
        rw [si_row, up1_ne (by decide), si_row, up1_eq]
      have g43 : pg_i (pg_si (pg_si (pg_si (pg_si (pg_si hx 43 1 0) 1 12 (nI ((n + 2) / 3 - rr.2))) 1 14 0) 1 15 0) 1 11 0) 43 1 = 0 := by
        rw [si_ne (by decide), si_ne (by decide), si_ne (by decide), si_ne (by decide), si_row, up1_eq]
      generalize pg_si (pg_si (pg_si (pg_si (pg_si hx 43 1 0) 1 12 (nI ((n + 2) / 3 - rr.2))) 1 14 0) 1 15 0) 1 11 0 = h1 at *
      have L1 : Lay h1 := b1.lay L (by decide)
      have D1 := L1.kd
      have R1 := L1.rd
      have C1 : CNum h1 2 rr.1 := a3.ch b2 (by decide)
      have e83 : pg_i h1 83 = pg_i h 83 := b1.row (by decide)
      have e87 : pg_i h1 87 = pg_i h 87 := b1.row (by decide)
      have e81 : pg_i h1 81 = pg_i h 81 := b1.row (by decide)
      have t0 : ∀ tr : Nat, Ch [] [(81, 10), (81, 6)] h1 (pg_si (pg_si h1 81 10 0) 81 6 (nI tr)) := fun tr => ((Ch.refl _ _ h1).asi (Or.inr (by decide))).asi (Or.inr (by decide))
      obtain ⟨tr, htr⟩ : ∃ tr, tr = if n % 3 = 0 then 0 else 1 := ⟨_, rfl⟩
      obtain ⟨hm, m1, m2, m3, m4⟩ := m_rowRun ((t0 tr).lay L1 (by decide)) (A := pg_i h 83) (by rw [(t0 tr).row (by decide), e83]) K hc hn B (fun i hi => ⟨(hB i hi).1, by rw [(t0 tr).row (by decide), e87]; exact (hB i hi).2.2⟩) (tr := tr) (by rw [si_row, up1_eq])
      rw [hR] at m1 m3 m4
      have gG : F_X12_row 81 (nI c) h1 = some (nI rr.2, pg_si (pg_si hm 81 0 0) 81 1 (pg_i hm 81 1 + 1)) := by
        rw [← m1]
        have e10 : pg_i h1 81 10 = nI n := by rw [e81, t2]
        unfold F_X12_row F_X12_row_50
        simp only [k_si, k_sl, k_sr, r_si, r_sl, i_sl, i_sr, l_si, l_sr, Option.bind_some, if_true, if_false, bind_eta2, if_bb, decide_eq_true_eq, pg_let, nc_81, ng_81, np_81, D1, m_isCopy L1 e83 K, if_pos c1, e10, if_neg (show ¬ nI n = (0 : Int32) from fun z => n0 ((nI_eq (b := 0) (by omega) (by decide)).mp z)), if_neg (show ¬ ((3 : Int32) = 0) by decide), mod3_eq n hn]
        rw [htr]
        by_cases z : n % 3 = 0
        · rw [if_pos z, if_pos z]
          rfl
        · rw [if_neg z, if_neg z]
          rfl
      have mm : Ch [83] [(81, 10), (81, 6), (81, 0), (81, 1)] h1 (pg_si (pg_si hm 81 0 0) 81 1 (pg_i hm 81 1 + 1)) := ((((t0 tr).mono (by decide)).trans (m2.mono (by decide))).asi (Or.inr (by decide))).asi (Or.inr (by decide))
      have f10 : pg_i (pg_si (pg_si hm 81 0 0) 81 1 (pg_i hm 81 1 + 1)) 81 10 = 0 := by
        rw [si_row, up1_ne (by decide), si_row, up1_ne (by decide), m2.atM (R := []) (F := [(81, 10)]) (by decide) (by decide), si_row, up1_ne (by decide), si_row, up1_eq]
      have f0 : pg_i (pg_si (pg_si hm 81 0 0) 81 1 (pg_i hm 81 1 + 1)) 81 0 = 0 := by rw [si_row, up1_ne (by decide), si_row, up1_eq]
      have f1 : pg_i (pg_si (pg_si hm 81 0 0) 81 1 (pg_i hm 81 1 + 1)) 81 1 = pg_i h 81 1 + 1 := by
        rw [si_row, up1_eq, m2.atM (R := []) (F := [(81, 1)]) (by decide) (by decide), (t0 tr).atM (R := []) (F := [(81, 1)]) (by decide) (by decide), e81]
      have f6 : pg_i (pg_si (pg_si hm 81 0 0) 81 1 (pg_i hm 81 1 + 1)) 81 6 = nI ((n + 2) / 3 - rr.2) := by
        rw [si_row, up1_ne (by decide), si_row, up1_ne (by decide), m4]
        congr 1
        rw [htr]
        split <;> omega
      have f83 : pg_i (pg_si (pg_si hm 81 0 0) 81 1 (pg_i hm 81 1 + 1)) 83 = rr.1 := by rw [si_ne (by decide), si_ne (by decide), m3]
      generalize pg_si (pg_si hm 81 0 0) 81 1 (pg_i hm 81 1 + 1) = h2 at *
      have ff : Ch sS sT h h2 := (b1.mono (by decide)).trans (mm.mono (by decide))
      refine ⟨nI rr.2, h1, h2, fF, L1, gG, I.acc hq ff ⟨?_, ?_, ?_, ?_⟩ ⟨0, by decide, ?_, ?_, fun i hi => absurd hi (Nat.not_lt_zero i)⟩ f1 ?_ ?_ ?_ (Or.inl ⟨?_, ?_⟩), ff.few⟩
      · rw [f0, mm.atM (R := []) (F := [(1, 11)]) (by decide) (by decide), g11]
      · rw [f6, mm.atM (R := []) (F := [(1, 12)]) (by decide) (by decide), g12]
      · rw [ff.atM (R := []) (F := [(1, 13)]) (by decide) (by decide), ff.atM (R := []) (F := [(81, 11)]) (by decide) (by decide)]
        exact sc.2.2.1
      · rw [ff.row (r := 80) (by decide), ff.row (r := 82) (by decide)]
        exact sc.2.2.2
      · rw [mm.atM (R := []) (F := [(43, 1)]) (by decide) (by decide), g43]
        rfl
      · rw [f10]
        rfl
      · rw [f83]
        exact C1.ch mm (by decide)
      · rw [f83]
        exact k1
      · intro j hj
        rw [f83]
        exact k4 j (by omega) (by omega)
      · rw [mm.atM (R := []) (F := [(1, 14)]) (by decide) (by decide), g14]
      · rw [mm.atM (R := []) (F := [(1, 15)]) (by decide) (by decide), g15]
  · refine refuse_sim I (x := -2) (k := 2) (by decide) (by decide) ?_ (fun h1 L1 e83 e81 _ => ?_)
    · unfold F_X11_row
      simp only [k_si, k_sl, k_sr, r_si, r_sl, i_sl, i_sr, l_si, l_sr, Option.bind_some, if_true, if_false, bind_eta2, if_bb, decide_eq_true_eq, pg_let, nR_1_0, nR_2_0, nc_1, nc_3, D, R, c_holds_3 C, if_neg c1]
    · unfold F_X12_row
      simp only [k_si, k_sl, k_sr, r_si, r_sl, i_sl, i_sr, l_si, l_sr, Option.bind_some, if_true, if_false, bind_eta2, if_bb, decide_eq_true_eq, pg_let, nc_81, L1.kd, m_isCopy L1 e83 K, if_neg c1]
