/-! CALLS that change nothing -/
theorem Inv.up {q : Nat} {h : pg_H} (I : Inv q h) : Inv (q + 1) h := by
  obtain ⟨L, sc, tp, wo, ⟨v, ev, hv⟩, r⟩ := I
  exact ⟨L, sc, tp, wo, ⟨v, ev, by omega⟩, r⟩
theorem Few.rfl' (h : pg_H) : Few h h := ⟨Nat.le_refl _, Nat.le_add_right _ _, Nat.le_add_right _ _⟩
theorem rd_sim {q : Nat} {h : pg_H} {a b : Option Int32} (I : Inv q h) (v : Int32) (e1 : a = some v) (e2 : b = some v) : ∃ v, a = some v ∧ Lay h ∧ b = some v ∧ Inv (q + 1) h ∧ Few h h := ⟨v, e1, I.1, e2, I.up, Few.rfl' h⟩
theorem sim_trimmed : Sim_trimmed Inv := fun q h hq I => rd_sim I (pg_i h 1 12) (by
  unfold F_X11_trimmed
  rw [ng_1 I.1.kd]
  rfl) (by
  unfold F_X12_trimmed
  rw [ng_81 I.1.kd, I.2.1.2.1]
  rfl)
theorem sim_fault : Sim_fault Inv := fun q h hq I => rd_sim I (pg_i h 1 13) (by
  unfold F_X11_fault
  rw [ng_1 I.1.kd]
  rfl) (by
  unfold F_X12_fault
  rw [ng_81 I.1.kd, I.2.1.2.2.1]
  rfl)
theorem sim_status : Sim_status Inv := fun q h hq I => rd_sim I (pg_i h 1 11) (by
  unfold F_X11_status
  rw [ng_1 I.1.kd]
  rfl) (by
  unfold F_X12_status
  rw [ng_81 I.1.kd, I.2.1.1]
  rfl)
theorem Inv.sh {q : Nat} {h : pg_H} (I : Inv q h) : CNum h 2 (pg_i h 83) ∧ ShOK (pg_i h 83) := by
  obtain ⟨_, _, _, _, _, X, Y0, Y1, ⟨C, K, _⟩, _⟩ := I
  exact ⟨C, K⟩
theorem c_areTwo {h : pg_H} {A : Nat → Int32} (L : Lay h) (C : CNum h 2 A) (a b : Int32) : F_X11_areTwoCopies h 1 a b = some (b01 (decide (a ≠ b ∧ (0 ≤ a ∧ a < nI (nC A)) ∧ (0 ≤ b ∧ b < nI (nC A))))) := by
  unfold F_X11_areTwoCopies
  by_cases e : a = b
  · rw [if_pos e, decide_eq_false (fun z => z.1 e)]
    rfl
  · rw [if_neg e]
    simp only [k_si, k_sl, k_sr, r_si, r_sl, i_sl, i_sr, l_si, l_sr, Option.bind_some, if_true, if_false, bind_eta2, if_bb, decide_eq_true_eq, pg_let, nR_1_0, nR_2_0, nc_3, L.kd, L.rd, c_holds_3 C]
    by_cases c1 : 0 ≤ a ∧ a < nI (nC A)
    · rw [if_pos c1]
      by_cases c2 : 0 ≤ b ∧ b < nI (nC A)
      · rw [if_pos c2, decide_eq_true (⟨e, c1, c2⟩ : a ≠ b ∧ (0 ≤ a ∧ a < nI (nC A)) ∧ (0 ≤ b ∧ b < nI (nC A)))]
        rfl
      · rw [if_neg c2, decide_eq_false (fun z => c2 z.2.2)]
        rfl
    · rw [if_neg c1, decide_eq_false (fun z => c1 z.2.1)]
      rfl
theorem sim_may : Sim_may Inv := by
  intro x1 x2 q h hq I
  obtain ⟨C, K⟩ := I.sh
  have L := I.1
  have kC : nC (pg_i h 83) < 13 := K.1.1.2
  by_cases ok : x1 ≠ x2 ∧ (0 ≤ x1 ∧ x1 < nI (nC (pg_i h 83))) ∧ (0 ≤ x2 ∧ x2 < nI (nC (pg_i h 83)))
  · obtain ⟨ne, c1, c2⟩ := id ok
    obtain ⟨a, ha, rfl⟩ := in_nI c1 (by omega)
    obtain ⟨b, hb, rfl⟩ := in_nI c2 (by omega)
    refine rd_sim I (b01 (meetQ (pg_i h 83) (nI a) (nI b))) ?_ ?_
    · unfold F_X11_may
      simp only [k_si, k_sl, k_sr, r_si, r_sl, i_sl, i_sr, l_si, l_sr, Option.bind_some, if_true, if_false, bind_eta2, if_bb, decide_eq_true_eq, pg_let, nR_1_0, nc_1, nc_2, L.kd, L.rd, c_areTwo L C, if_pos ok, c_companions L C K hb]
      have nab : a ≠ b := fun z => ne (by rw [z])
      rw [ix_bit (Nat.lt_of_lt_of_le (mk_lt 12 _) (by decide)) (by omega), mk_bit]
      unfold compQ
      rw [decide_eq_true (show a < 12 by omega), decide_eq_true ha, decide_eq_true nab]
      rfl
    · unfold F_X12_may
      simp only [k_si, k_sl, k_sr, r_si, r_sl, i_sl, i_sr, l_si, l_sr, Option.bind_some, if_true, if_false, bind_eta2, if_bb, decide_eq_true_eq, pg_let, nc_81, L.kd, m_isCopy L rfl K, if_pos c1, if_pos c2, if_neg ne, m_canMeet L rfl K]
      cases meetQ (pg_i h 83) (nI a) (nI b) <;> rfl
  · refine rd_sim I (-1) ?_ ?_
    · unfold F_X11_may
      simp only [k_si, k_sl, k_sr, r_si, r_sl, i_sl, i_sr, l_si, l_sr, Option.bind_some, if_true, if_false, bind_eta2, if_bb, decide_eq_true_eq, pg_let, nc_1, L.kd, c_areTwo L C, if_neg ok]
    · unfold F_X12_may
      simp only [k_si, k_sl, k_sr, r_si, r_sl, i_sl, i_sr, l_si, l_sr, Option.bind_some, if_true, if_false, bind_eta2, if_bb, decide_eq_true_eq, pg_let, nc_81, L.kd, m_isCopy L rfl K]
      by_cases c1 : 0 ≤ x1 ∧ x1 < nI (nC (pg_i h 83))
      · rw [if_pos c1]
        by_cases c2 : 0 ≤ x2 ∧ x2 < nI (nC (pg_i h 83))
        · rw [if_pos c2]
          by_cases e : x1 = x2
          · rw [if_pos e]
          · exact absurd ⟨e, c1, c2⟩ ok
        · rw [if_neg c2]
      · rw [if_neg c1]
theorem manyR_ok {A : Nat → Int32} (K : ShOK A) (l o : Nat) : ∃ v, manyV A l o = some v := by
  unfold manyV
  by_cases e : nI (manyR A l o).2.2 = 0
  · exact ⟨_, if_pos e⟩
  · exact ⟨_, by rw [if_neg e, if_neg e]⟩
theorem sim_many : Sim_many Inv := by
  intro x1 x2 q h hq I
  obtain ⟨C, K⟩ := I.sh
  have L := I.1
  by_cases c1 : 0 ≤ x1 ∧ x1 ≤ 5
  · by_cases c2 : 0 ≤ x2 ∧ x2 ≤ 5
    · obtain ⟨a, ha, rfl⟩ := nI_of2 (x := x1) (M := 5) (n := 5) (by decide) (Int32.not_lt.mpr c1.1) c1.2
      obtain ⟨b, hb, rfl⟩ := nI_of2 (x := x2) (M := 5) (n := 5) (by decide) (Int32.not_lt.mpr c2.1) c2.2
      by_cases e : nI a = nI b
      · refine rd_sim I (-1) ?_ ?_
        · unfold F_X11_many
          simp only [k_si, k_sl, k_sr, r_si, r_sl, i_sl, i_sr, l_si, l_sr, Option.bind_some, if_true, if_false, bind_eta2, if_bb, decide_eq_true_eq, pg_let, within_le, if_pos c1, if_pos c2, if_pos e]
        · unfold F_X12_many
          simp only [k_si, k_sl, k_sr, r_si, r_sl, i_sl, i_sr, l_si, l_sr, Option.bind_some, if_true, if_false, bind_eta2, if_bb, decide_eq_true_eq, pg_let, lies_le, if_pos c1, if_pos c2, if_pos e]
      · obtain ⟨v, hv⟩ := manyR_ok K a b
        refine rd_sim I v ?_ ?_
        · unfold F_X11_many
          simp only [k_si, k_sl, k_sr, r_si, r_sl, i_sl, i_sr, l_si, l_sr, Option.bind_some, if_true, if_false, bind_eta2, if_bb, decide_eq_true_eq, pg_let, within_le, if_pos c1, if_pos c2, if_neg e]
          exact (c_many L C K (by omega) (by omega)).trans hv
        · unfold F_X12_many
          simp only [k_si, k_sl, k_sr, r_si, r_sl, i_sl, i_sr, l_si, l_sr, Option.bind_some, if_true, if_false, bind_eta2, if_bb, decide_eq_true_eq, pg_let, lies_le, if_pos c1, if_pos c2, if_neg e]
          exact (m_many L rfl K (by omega) (by omega)).trans hv
    · refine rd_sim I (-1) ?_ ?_
      · unfold F_X11_many
        simp only [k_si, k_sl, k_sr, r_si, r_sl, i_sl, i_sr, l_si, l_sr, Option.bind_some, if_true, if_false, bind_eta2, if_bb, decide_eq_true_eq, pg_let, within_le, if_pos c1, if_neg c2]
      · unfold F_X12_many
        simp only [k_si, k_sl, k_sr, r_si, r_sl, i_sl, i_sr, l_si, l_sr, Option.bind_some, if_true, if_false, bind_eta2, if_bb, decide_eq_true_eq, pg_let, lies_le, if_pos c1, if_neg c2]
  · refine rd_sim I (-1) ?_ ?_
    · unfold F_X11_many
      simp only [k_si, k_sl, k_sr, r_si, r_sl, i_sl, i_sr, l_si, l_sr, Option.bind_some, if_true, if_false, bind_eta2, if_bb, decide_eq_true_eq, pg_let, within_le, if_neg c1]
    · unfold F_X12_many
      simp only [k_si, k_sl, k_sr, r_si, r_sl, i_sl, i_sr, l_si, l_sr, Option.bind_some, if_true, if_false, bind_eta2, if_bb, decide_eq_true_eq, pg_let, lies_le, if_neg c1]
theorem chaoR_le {A : Nat → Int32} {n : Nat} : (foldN n (chaoS A) (0, 0, 0)).2.2 ≤ n := by
  induction n with
  | zero => exact Nat.le_refl _
  | succ n ih =>
    show (foldN n (chaoS A) (0, 0, 0)).2.2 + (if onN A n = 2 then 1 else 0) ≤ n + 1
    split <;> omega
theorem sim_chao : Sim_chao Inv := by
  intro q h hq I
  obtain ⟨C, K⟩ := I.sh
  have L := I.1
  have kC : nC (pg_i h 83) < 13 := K.1.1.2
  have ok : ∃ v, chaoV (chaoR (pg_i h 83)) = some v := by
    have le := chaoR_le (A := pg_i h 83) (n := nC (pg_i h 83))
    unfold chaoV
    by_cases e : 0 < nI (chaoR (pg_i h 83)).2.2
    · rw [if_pos e]
      have e2 : 0 < (chaoR (pg_i h 83)).2.2 := (nI_ltI (a := 0) (by decide) (by unfold chaoR; omega)).mp e
      rw [if_neg (show ¬ ((2 : Int32) * nI (chaoR (pg_i h 83)).2.2 = 0) from fun z => by
        rw [show (2 : Int32) = nI 2 from rfl, nI_mul] at z
        have := (nI_eq (b := 0) (by unfold chaoR; omega) (by decide)).mp z
        omega)]
      exact ⟨_, rfl⟩
    · rw [if_neg e, if_neg (by decide)]
      exact ⟨_, rfl⟩
  obtain ⟨v, hv⟩ := ok
  exact rd_sim I v ((c_chao L C K).trans hv) ((m_chao L rfl K).trans hv)
theorem sim_next : Sim_next Inv := by
  intro x1 q h hq I
  obtain ⟨C, K⟩ := I.sh
  have L := I.1
  by_cases c1 : 0 ≤ x1 ∧ x1 ≤ 1
  · refine rd_sim I (nextV (pg_i h 83) x1) ?_ ?_
    · unfold F_X11_next
      simp only [k_si, k_sl, k_sr, r_si, r_sl, i_sl, i_sr, l_si, l_sr, Option.bind_some, if_true, if_false, bind_eta2, if_bb, decide_eq_true_eq, pg_let, within_le, if_pos c1, nR_1_0, nc_2, L.kd, L.rd, c_copiesLookedAt L C K]
      exact c_next L C K x1
    · unfold F_X12_next
      simp only [k_si, k_sl, k_sr, r_si, r_sl, i_sl, i_sr, l_si, l_sr, Option.bind_some, if_true, if_false, bind_eta2, if_bb, decide_eq_true_eq, pg_let, lies_le, if_pos c1]
      exact m_next L rfl K x1
  · refine rd_sim I (-1) ?_ ?_
    · unfold F_X11_next
      simp only [k_si, k_sl, k_sr, r_si, r_sl, i_sl, i_sr, l_si, l_sr, Option.bind_some, if_true, if_false, bind_eta2, if_bb, decide_eq_true_eq, pg_let, within_le, if_neg c1]
    · unfold F_X12_next
      simp only [k_si, k_sl, k_sr, r_si, r_sl, i_sl, i_sr, l_si, l_sr, Option.bind_some, if_true, if_false, bind_eta2, if_bb, decide_eq_true_eq, pg_let, lies_le, if_neg c1]
theorem sim_stops : Sim_stops Inv := by
  intro x1 x2 q h hq I
  obtain ⟨C, K⟩ := I.sh
  have L := I.1
  by_cases c1 : 0 ≤ x1 ∧ x1 < nI (nC (pg_i h 83))
  · by_cases c2 : 0 ≤ x2 ∧ x2 ≤ 1
    · refine rd_sim I (if x2 = 0 then nI (stopN (pg_i h 83) x1) else nI (stopL (pg_i h 83) x1) - 1) ?_ ?_
      · unfold F_X11_stops
        simp only [within_le, if_pos c1, if_pos c2, nR_1_0, nR_2_0, nc_2, nc_3, L.kd, L.rd, c_holds_3 C, Option.bind_some, if_bb, decide_eq_true_eq]
        exact c_stops L C K x1 x2
      · unfold F_X12_stops
        simp only [k_si, k_sl, k_sr, r_si, r_sl, i_sl, i_sr, l_si, l_sr, Option.bind_some, if_true, if_false, bind_eta2, if_bb, decide_eq_true_eq, pg_let, lies_le, nc_81, L.kd, m_isCopy L rfl K, if_pos c1, if_pos c2]
        exact m_stops L rfl K x1 x2
    · refine rd_sim I (-1) ?_ ?_
      · unfold F_X11_stops
        simp only [k_si, k_sl, k_sr, r_si, r_sl, i_sl, i_sr, l_si, l_sr, Option.bind_some, if_true, if_false, bind_eta2, if_bb, decide_eq_true_eq, pg_let, within_le, if_pos c1, if_neg c2, nR_1_0, nR_2_0, nc_3, L.kd, L.rd, c_holds_3 C]
      · unfold F_X12_stops
        simp only [k_si, k_sl, k_sr, r_si, r_sl, i_sl, i_sr, l_si, l_sr, Option.bind_some, if_true, if_false, bind_eta2, if_bb, decide_eq_true_eq, pg_let, lies_le, nc_81, L.kd, m_isCopy L rfl K, if_pos c1, if_neg c2]
  · refine rd_sim I (-1) ?_ ?_
    · unfold F_X11_stops
      simp only [k_si, k_sl, k_sr, r_si, r_sl, i_sl, i_sr, l_si, l_sr, Option.bind_some, if_true, if_false, bind_eta2, if_bb, decide_eq_true_eq, pg_let, within_le, if_neg c1, nR_1_0, nR_2_0, nc_3, L.kd, L.rd, c_holds_3 C]
    · unfold F_X12_stops
      simp only [k_si, k_sl, k_sr, r_si, r_sl, i_sl, i_sr, l_si, l_sr, Option.bind_some, if_true, if_false, bind_eta2, if_bb, decide_eq_true_eq, pg_let, lies_le, nc_81, L.kd, m_isCopy L rfl K, if_neg c1]
