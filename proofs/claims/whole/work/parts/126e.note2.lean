/-! note; use -/
theorem m_note_bad {h : pg_H} (L : Lay h) {c p w k kd : Int32} (no : ¬ noteP p w kd) : F_X12_note 81 c p w k kd h = F_X12_refuses 81 (-1) h := by
  unfold F_X12_note F_X12_note_39
  simp only [k_si, k_sl, k_sr, r_si, r_sl, i_sl, i_sr, l_si, l_sr, Option.bind_some, if_true, if_false, bind_eta2, if_bb, decide_eq_true_eq, pg_let, lies_le, nc_81, L.kd]
  by_cases c1 : 0 ≤ p ∧ p ≤ 59
  · rw [if_pos c1]
    by_cases c4 : 0 ≤ w ∧ w ≤ 99
    · rw [if_pos c4]
      by_cases c2 : 0 ≤ kd ∧ kd ≤ 3
      · rw [if_pos c2]
        by_cases c3 : kd = 0
        · exact absurd ⟨c1, c4, c2, fun z => absurd c3 z⟩ no
        · rw [if_neg c3]
          by_cases c5 : w = 0
          · exact absurd ⟨c1, c4, c2, fun _ => c5⟩ no
          · rw [if_neg c5]
      · rw [if_neg c2]
    · rw [if_neg c4]
  · rw [if_neg c1]
theorem m_note_ok {h : pg_H} {c p w k kd : Int32} (ok : noteP p w kd) : F_X12_note 81 c p w k kd h = F_X12_note_45 81 c p w k kd h := by
  obtain ⟨c1, c4, c2, c5⟩ := ok
  unfold F_X12_note
  simp only [k_si, k_sl, k_sr, r_si, r_sl, i_sl, i_sr, l_si, l_sr, Option.bind_some, if_true, if_false, bind_eta2, if_bb, decide_eq_true_eq, pg_let, lies_le, if_pos c1, if_pos c4, if_pos c2]
  by_cases c3 : kd = 0
  · rw [if_pos c3]
  · rw [if_neg c3, if_pos (c5 c3)]
theorem m_note_hand {h : pg_H} {A : Nat → Int32} (L : Lay h) (M : pg_i h 83 = A) (K : ShOK A) {c p w k kd : Int32} : F_X12_note_45 81 c p w k kd h = if (0 ≤ c ∧ c < nI (nC A)) ∧ (k = -1 ∨ (0 ≤ k ∧ k < nI (nH A))) then F_X12_note_75 81 c p w k kd h else F_X12_refuses 81 (-2) h := by
  unfold F_X12_note_45 F_X12_note_68
  simp only [k_si, k_sl, k_sr, r_si, r_sl, i_sl, i_sr, l_si, l_sr, Option.bind_some, if_true, if_false, bind_eta2, if_bb, decide_eq_true_eq, pg_let, nc_81, L.kd, m_isCopy L M K, m_isHand L M K]
  by_cases c1 : 0 ≤ c ∧ c < nI (nC A)
  · rw [if_pos c1]
    by_cases c2 : k = -1
    · rw [if_pos c2, if_pos (⟨c1, Or.inl c2⟩ : (0 ≤ c ∧ c < nI (nC A)) ∧ (k = -1 ∨ (0 ≤ k ∧ k < nI (nH A))))]
    · rw [if_neg c2]
      by_cases c3 : 0 ≤ k ∧ k < nI (nH A)
      · rw [if_pos c3, if_pos (⟨c1, Or.inr c3⟩ : (0 ≤ c ∧ c < nI (nC A)) ∧ (k = -1 ∨ (0 ≤ k ∧ k < nI (nH A))))]
      · rw [if_neg c3, if_neg (fun z : (0 ≤ c ∧ c < nI (nC A)) ∧ (k = -1 ∨ (0 ≤ k ∧ k < nI (nH A))) => z.2.elim c2 c3)]
  · rw [if_neg c1, if_neg (fun z : (0 ≤ c ∧ c < nI (nC A)) ∧ (k = -1 ∨ (0 ≤ k ∧ k < nI (nH A))) => c1 z.1)]
/-- the refused by -5 of the class: nothing is added -/
theorem sim_note : Sim_note Inv := by
  intro x1 x2 x3 x4 x5 q h hq I
  show SimB q h (F_X11_note 1 x1 x2 x3 x4 x5) (F_X12_note 81 x1 x2 x3 x4 x5)
  obtain ⟨L, _, _, _, _, X, Y0, Y1, ⟨C, K, TX⟩, _⟩ := id I
  have D := L.kd
  have R := L.rd
  have kn : nN (pg_i h 83) < 201 := K.1.2.2.2.1.2
  have kC : nC (pg_i h 83) < 13 := K.1.1.2
  have kH : nH (pg_i h 83) < 13 := K.1.2.2.1.2
  by_cases ok : noteP x2 x3 x5
  · have e1 := (c_isNote x2 x3 x5).1 ok
    by_cases c1 : 0 ≤ x1 ∧ x1 < nI (nC (pg_i h 83))
    · by_cases c2 : x4 = -1 ∨ (0 ≤ x4 ∧ x4 < nI (nH (pg_i h 83)))
      · cases has : hasQ (pg_i h 83) x1 x2 x3 x5 with
        | true =>
          refine refuse_sim I (x := -3) (k := 3) (by decide) (by decide) ?_ (fun h1 L1 e83 e81 _ => ?_)
          · unfold F_X11_note
            simp only [k_si, k_sl, k_sr, r_si, r_sl, i_sl, i_sr, l_si, l_sr, Option.bind_some, if_true, if_false, bind_eta2, if_bb, decide_eq_true_eq, pg_let, e1, nR_1_0, nR_2_0, nc_1, nc_2, nc_3, D, R, c_holds_3 C, if_pos c1, c_isHandOr L C, if_pos c2, c_hasNote L C K, has, show ¬ ((1 : Int32) = 0) from by decide]
          · rw [m_note_ok ok, m_note_hand L1 e83 K, if_pos ⟨c1, c2⟩]
            unfold F_X12_note_75
            simp only [k_si, k_sl, k_sr, r_si, r_sl, i_sl, i_sr, l_si, l_sr, Option.bind_some, if_true, if_false, bind_eta2, if_bb, decide_eq_true_eq, pg_let, nc_81, L1.kd, m_hasIt L1 e83 K _ _ _ _ ok.2.2.2, has]
        | false =>
          by_cases full : nN (pg_i h 83) = 200
          · refine refuse_sim I (x := -5) (k := 5) (by decide) (by decide) ?_ (fun h1 L1 e83 e81 _ => ?_)
            · unfold F_X11_note
              simp only [k_si, k_sl, k_sr, r_si, r_sl, i_sl, i_sr, l_si, l_sr, Option.bind_some, if_true, if_false, bind_eta2, if_bb, decide_eq_true_eq, pg_let, e1, nR_1_0, nR_2_0, nc_1, nc_2, nc_3, D, R, c_holds_3 C, if_pos c1, c_isHandOr L C, if_pos c2, c_hasNote L C K, has, show ¬ ((1 : Int32) = 0) from by decide, Bool.false_eq_true, c_addNote_full L C full]
            · have e200 : pg_aI 21 h1 83 (1347 : Int32) = some (200 : Int32) := by
                rw [m_k_1347 L1 e83, show pg_i h 83 1347 = nI (nN (pg_i h 83)) from K.1.2.2.2.1.1, full]
                rfl
              rw [m_note_ok ok, m_note_hand L1 e83 K, if_pos ⟨c1, c2⟩]
              unfold F_X12_note_75
              simp only [k_si, k_sl, k_sr, r_si, r_sl, i_sl, i_sr, l_si, l_sr, Option.bind_some, if_true, if_false, bind_eta2, if_bb, decide_eq_true_eq, pg_let, nc_81, nR_81_3, L1.kd, L1.rd, m_hasIt L1 e83 K _ _ _ _ ok.2.2.2, has, Bool.false_eq_true, e200]
          · obtain ⟨o1, o2, o3, o4⟩ := id ok
            obtain ⟨p, hp, rfl⟩ := nI_of2 (x := x2) (M := 59) (n := 59) (by decide) (Int32.not_lt.mpr o1.1) o1.2
            obtain ⟨w, hw, rfl⟩ := nI_of2 (x := x3) (M := 99) (n := 99) (by decide) (Int32.not_lt.mpr o2.1) o2.2
            obtain ⟨kd, hd, rfl⟩ := nI_of2 (x := x5) (M := 3) (n := 3) (by decide) (Int32.not_lt.mpr o3.1) o3.2
            obtain ⟨i, hi, rfl⟩ := in_nI c1 (by omega)
            obtain ⟨hc, a1, a2, a3⟩ := c_addNote L C (by omega) (nI i) (nI p) (nI w) x4 (nI kd)
            refine acc_sim I hq (hc := hc) (v := nI (nN (pg_i h 83))) (A' := addA (pg_i h 83) (nN (pg_i h 83)) (nI i) (nI p) (nI w) x4 (nI kd)) (a2.mono (by decide)) a3 (Or.inl ?_) (fun h1 L1 e83 e81 => ?_) ?_ (fun j hj => addA_out (by omega) (by omega))
            · have D1 : KD (pg_k hc) := by
                rw [a2.kk]
                exact D
              unfold F_X11_note
              simp only [k_si, k_sl, k_sr, r_si, r_sl, i_sl, i_sr, l_si, l_sr, Option.bind_some, if_true, if_false, bind_eta2, if_bb, decide_eq_true_eq, pg_let, e1, nR_1_0, nR_2_0, nc_1, nc_2, nc_3, D, R, D1, c_holds_3 C, if_pos c1, c_isHandOr L C, if_pos c2, c_hasNote L C K, has, show ¬ ((1 : Int32) = 0) from by decide, Bool.false_eq_true, a1, neg1_iff (show nN (pg_i h 83) < 2 ^ 31 by omega), c_changed]
            · obtain ⟨hm, b1, b2, b3⟩ := m_notes L1 e83 K (by omega) (nI i) (nI p) (nI w) x4 (nI kd)
              have Dm : KD (pg_k hm) := by
                rw [b2.kk]
                exact L1.kd
              have Rm : RD (pg_r hm) := by
                rw [b2.rr]
                exact L1.rd
              refine ⟨hm, b2, b3, ?_⟩
              have e200 : (nI (nN (pg_i h 83)) = (200 : Int32)) = False := eq_false (fun z => full ((nI_eq (b := 200) (by omega) (by decide)).mp z))
              have ek : pg_aI 21 h1 83 (1347 : Int32) = some (nI (nN (pg_i h 83))) := by
                rw [m_k_1347 L1 e83, show pg_i h 83 1347 = nI (nN (pg_i h 83)) from K.1.2.2.2.1.1]
              have em : pg_i hm 83 1347 = nI (nN (pg_i h 83) + 1) := by
                rw [b3]
                exact (addA_at (by omega)).2.2.2.2.2
              rw [m_note_ok ok, m_note_hand L1 e83 K, if_pos ⟨c1, c2⟩]
              unfold F_X12_note_75
              simp only [k_si, k_sl, k_sr, r_si, r_sl, i_sl, i_sr, l_si, l_sr, Option.bind_some, if_true, if_false, bind_eta2, if_bb, decide_eq_true_eq, pg_let, nc_81, nR_81_3, L1.kd, L1.rd, Dm, Rm, m_hasIt L1 e83 K _ _ _ _ ok.2.2.2, has, Bool.false_eq_true, ek, e200, b1, na_83_1347, em, nI_pred, m_good]
            · refine addA_ok K (by omega) hi (by omega) (by omega) ?_ (by omega) (fun z => ?_) has
              · rcases c2 with z | z
                · exact Or.inl z
                · obtain ⟨k, k1, k2⟩ := in_nI z (by omega)
                  exact Or.inr ⟨k, k1, k2⟩
              · have := o4 (fun y => z ((nI_eq (b := 0) (by omega) (by decide)).mp y))
                exact (nI_eq (b := 0) (by omega) (by decide)).mp this
      · refine refuse_sim I (x := -2) (k := 2) (by decide) (by decide) ?_ (fun h1 L1 e83 e81 _ => ?_)
        · unfold F_X11_note F_X11_note_42
          simp only [k_si, k_sl, k_sr, r_si, r_sl, i_sl, i_sr, l_si, l_sr, Option.bind_some, if_true, if_false, bind_eta2, if_bb, decide_eq_true_eq, pg_let, e1, nR_1_0, nR_2_0, nc_1, nc_2, nc_3, D, R, c_holds_3 C, if_pos c1, c_isHandOr L C, if_neg c2, show ¬ ((1 : Int32) = 0) from by decide]
        · rw [m_note_ok ok, m_note_hand L1 e83 K, if_neg (fun z => c2 z.2)]
    · refine refuse_sim I (x := -2) (k := 2) (by decide) (by decide) ?_ (fun h1 L1 e83 e81 _ => ?_)
      · unfold F_X11_note F_X11_note_42
        simp only [k_si, k_sl, k_sr, r_si, r_sl, i_sl, i_sr, l_si, l_sr, Option.bind_some, if_true, if_false, bind_eta2, if_bb, decide_eq_true_eq, pg_let, e1, nR_1_0, nR_2_0, nc_1, nc_3, D, R, c_holds_3 C, if_neg c1, show ¬ ((1 : Int32) = 0) from by decide]
      · rw [m_note_ok ok, m_note_hand L1 e83 K, if_neg (fun z => c1 z.1)]
  · refine refuse_sim I (x := -1) (k := 1) (by decide) (by decide) ?_ (fun h1 L1 e83 e81 _ => ?_)
    · unfold F_X11_note
      simp only [k_si, k_sl, k_sr, r_si, r_sl, i_sl, i_sr, l_si, l_sr, Option.bind_some, if_true, if_false, bind_eta2, if_bb, decide_eq_true_eq, pg_let, (c_isNote x2 x3 x5).2 ok, nc_1, D]
    · exact m_note_bad L1 ok
/-- the class's text of a number: none is 0 -/
theorem c_textOf {h : pg_H} {A : Nat → Int32} (L : Lay h) (C : CNum h 2 A) (K : ShOK A) (x : Int32) : F_X5_textOf h 2 x = some (if 0 ≤ x ∧ x < nI (nT A) then pg_r h 14 x.toNatClampNeg else 0) := by
  have D := L.kd
  have R := L.rd
  have kT := K.1.2.2.2.2
  have k2 : nT A < 9 := kT.2
  have e7 : pg_i h 2 7 = nI (nT A) := C.2.2.2.2.2.2.1.trans kT.1
  unfold F_X5_textOf
  by_cases h0 : x < 0
  · rw [if_pos h0, if_neg (fun z => absurd z.1 (Int32.not_le.mpr h0))]
  · rw [if_neg h0]
    simp only [k_si, k_sl, k_sr, r_si, r_sl, i_sl, i_sr, l_si, l_sr, Option.bind_some, if_true, if_false, bind_eta2, if_bb, decide_eq_true_eq, pg_let, ng_2, nR_2_6, D, R, e7]
    by_cases h1 : x < nI (nT A)
    · obtain ⟨t, ht, rfl⟩ := in_nI ⟨Int32.not_lt.mp h0, h1⟩ (by omega)
      rw [if_pos h1, if_pos (show nI t < (8 : Int32) from nI_lt (b := 8) (by omega) (by decide)), if_pos (⟨Int32.not_lt.mp h0, h1⟩ : (0 : Int32) ≤ nI t ∧ nI t < nI (nT A))]
      unfold pg_aR
      rw [lay_k L (by decide), if_pos ⟨rfl, nI_in (N := 8) (by omega) (by decide)⟩]
      rfl
    · rw [if_neg h1, if_neg (fun z => h1 z.2)]
theorem sim_use : Sim_use Inv := by
  intro x1 q h hq I
  show SimB q h (F_X11_use 1 x1) (F_X12_use 81 x1)
  obtain ⟨L, _, _, _, _, X, Y0, Y1, ⟨C, K, TX⟩, _⟩ := id I
  have D := L.kd
  have R := L.rd
  have kT : nT (pg_i h 83) < 9 := K.1.2.2.2.2.2
  by_cases ok : x1 = -1 ∨ (0 ≤ x1 ∧ x1 < nI (nT (pg_i h 83)))
  · generalize hA : pg_i h 83 = A at *
    have out : ∀ j, j ≠ 1349 → up1 A 1349 x1 j = A j := fun j hj => up1_ne hj
    have outc : ∀ j, j ≠ 1349 → cl (up1 A 1349 x1) j = cl A j := fun j hj => cl_ne hj
    have e8 : pg_i h 2 8 = A 1349 := C.2.2.2.2.2.2.2
    have f1 : F_X11_use 1 x1 h = F_X11_use_23 1 x1 h := by
      unfold F_X11_use
      rcases ok with z | z
      · rw [if_pos z]
      · obtain ⟨t, ht, rfl⟩ := in_nI z (by omega)
        have r0 : ¬ pg_r h 14 t = 0 := by
          have := (TX t ht).2.1.1.1
          show ¬ pg_r h (2 + 12) t = 0
          omega
        rw [if_neg (neg1_ne (by omega)), nR_1_0 D R, Option.bind_some, nc_2 D, c_textOf L C K, if_pos z, Option.bind_some, nI_clamp (by omega), if_neg r0]
    refine acc_sim I hq (hc := pg_si h 2 8 x1) (v := A 1349) (A' := up1 A 1349 x1) ((Ch.refl _ _ h).asi (Or.inr (by decide))) C.use (Or.inl ?_) (fun h1 L1 e83 e81 => ?_) ?_ (fun j hj => ?_)
    · rw [f1]
      unfold F_X11_use_23
      simp only [k_si, k_sl, k_sr, r_si, r_sl, i_sl, i_sr, l_si, l_sr, Option.bind_some, if_true, if_false, bind_eta2, if_bb, decide_eq_true_eq, pg_let, nR_1_0, ng_2, np_2, nc_1, D, R, c_changed, e8]
    · replace e83 := e83.trans hA
      refine ⟨pg_si h1 83 1349 x1, (Ch.refl _ _ h1).asi (Or.inl (by decide)), by rw [si_row, e83], ?_⟩
      have e := m_repl L1 e83 (a := 1349) (by decide) x1
      unfold F_X12_use F_X12_use_20
      rcases ok with z | z
      · rw [if_pos z, nc_81 L1.kd, show (1349 : Int32) = nI 1349 from rfl, e]
        rfl
      · obtain ⟨t, ht, rfl⟩ := in_nI z (by omega)
        rw [if_neg (neg1_ne (by omega)), nc_81 L1.kd, nc_81 L1.kd, m_isText L1 e83 K, Option.bind_some, if_bb, if_pos (decide_eq_true z), show (1349 : Int32) = nI 1349 from rfl, e, nc_81 L1.kd]
        rfl
    · refine K.of (Or.inl ⟨fun j _ => out j (by omega), outc _ (by omega)⟩) (Or.inl ⟨fun j _ _ => out j (by omega), outc _ (by omega)⟩) (Or.inl ⟨fun j _ _ => out j (by omega), outc _ (by omega)⟩) (Or.inl fun j _ _ => out j (by omega)) (Or.inl ⟨fun j _ _ => out j (by omega), outc _ (by omega)⟩) (Or.inl fun j _ _ => out j (by omega)) (Or.inr ?_) (Or.inl ⟨fun j _ _ => out j (by omega), outc _ (by omega)⟩) ⟨⟨K.1.1.cong (out _ (by omega)), Nat.le_of_eq (outc _ (by omega)).symm⟩, K.1.2.1.cong (out _ (by omega)), ⟨K.1.2.2.1.cong (out _ (by omega)), Nat.le_of_eq (outc _ (by omega)).symm⟩, K.1.2.2.2.1.cong (out _ (by omega)), K.1.2.2.2.2.cong (out _ (by omega))⟩
      rcases ok with z | z
      · exact Or.inl (up1_eq.trans z)
      · obtain ⟨t, ht, rfl⟩ := in_nI z (by omega)
        exact Or.inr (Rg.of up1_eq (by rw [show nT (up1 A 1349 (nI t)) = nT A from outc _ (by omega)]; exact ht) (by rw [show nT (up1 A 1349 (nI t)) = nT A from outc _ (by omega)]; omega))
    · rw [hA]
      exact out j (by omega)
  · have no1 : ¬ x1 = -1 := fun z => ok (Or.inl z)
    have no2 : ¬ (0 ≤ x1 ∧ x1 < nI (nT (pg_i h 83))) := fun z => ok (Or.inr z)
    refine refuse_sim I (x := -3) (k := 3) (by decide) (by decide) ?_ (fun h1 L1 e83 e81 _ => ?_)
    · unfold F_X11_use
      simp only [k_si, k_sl, k_sr, r_si, r_sl, i_sl, i_sr, l_si, l_sr, Option.bind_some, if_true, if_false, bind_eta2, if_bb, decide_eq_true_eq, pg_let, if_neg no1, nR_1_0, nc_1, nc_2, D, R, c_textOf L C K, if_neg no2]
    · unfold F_X12_use
      simp only [k_si, k_sl, k_sr, r_si, r_sl, i_sl, i_sr, l_si, l_sr, Option.bind_some, if_true, if_false, bind_eta2, if_bb, decide_eq_true_eq, pg_let, if_neg no1, nc_81, L1.kd, m_isText L1 e83 K, if_neg no2]
