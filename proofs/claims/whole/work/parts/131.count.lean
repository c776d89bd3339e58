/-! count -/
def wrN (A : Nat → Int32) : Nat := sumN (nN A) fun n => if A (340 + 5 * n + 4) = 0 then 1 else 0
def lkN (A : Nat → Int32) : Nat := sumN (nC A) fun c => cp A c 2
theorem wrN_le {A : Nat → Int32} : wrN A ≤ nN A * 1 := sumN_le (fun i _ => by split <;> decide)
theorem c_notesWritten {h : pg_H} {A : Nat → Int32} (L : Lay h) (C : CNum h 2 A) (K : ShOK A) : F_X5_notesWritten h 2 = some (nI (wrN A)) := by
  have kN : nN A < 201 := K.1.2.2.2.1.2
  unfold F_X5_notesWritten
  have z := loopF (fun f i x => F_X5_notesWritten_4 h f 2 (nI x) (nI i)) (nN A) (fun i x => x + (if A (340 + 5 * i + 4) = 0 then 1 else 0)) (some (nI (foldN (nN A) (fun i x => x + (if A (340 + 5 * i + 4) = 0 then 1 else 0)) 0))) (fun _ _ => True) 0 ?_ (fun _ _ _ _ _ => trivial) ?_ trivial pg_fuel (by unfold pg_fuel; omega)
  · rw [foldN_sum] at z
    exact z
  · intro f i x hi _ _
    show F_X5_notesWritten_4 h (f + 1) 2 (nI x) (nI i) = F_X5_notesWritten_4 h f 2 (nI (x + (if A (340 + 5 * i + 4) = 0 then 1 else 0))) (nI (i + 1))
    rw [F_X5_notesWritten_4]
    dsimp only
    rw [gR_2_4 L, Option.bind_some, c_rcv_11 C, c_size_11 C, Option.bind_some, if_pos (nI_lt hi (by omega)), Option.bind_some, c_rcv_11 C, c_at_11_4 C hi, Option.bind_some]
    unfold F_X5_notesWritten_33 pg_let
    by_cases e : A (340 + 5 * i + 4) = 0
    · rw [if_pos e, if_pos e, nI_1, nI_1]
    · rw [if_neg e, if_neg e, nI_1]
      rw [show nI x + (0 : Int32) = nI (x + 0) from nI_add x 0]
  · intro f _
    show F_X5_notesWritten_4 h (f + 1) 2 (nI (foldN (nN A) (fun i x => x + (if A (340 + 5 * i + 4) = 0 then 1 else 0)) 0)) (nI (nN A)) = _
    rw [F_X5_notesWritten_4]
    dsimp only
    rw [gR_2_4 L, Option.bind_some, c_rcv_11 C, c_size_11 C, Option.bind_some, if_neg Int32.lt_irrefl]
theorem lk_bits {A : Nat → Int32} (K : ShOK A) : (sumN 12 fun i => if lookQ A i then 1 else 0) = lkN A := by
  have kC : nC A < 13 := K.1.1.2
  rw [sumN_ext (n := nC A) (m := 12) (by omega) (fun i h1 _ => by
    unfold lookQ
    rw [decide_eq_false (by omega)]
    rfl)]
  refine sumN_cong (fun i hi => ?_)
  have q : Rg A (3 * i + 2) 2 := (K.2.1 i hi).2.2
  have q2 : cp A i 2 < 2 := q.2
  unfold lookQ
  rw [decide_eq_true hi, Bool.true_and]
  by_cases e : cp A i 2 = 1
  · rw [e]
    rfl
  · rw [decide_eq_false e, if_neg (by decide)]
    omega
theorem m_cnt1 {h : pg_H} {A : Nat → Int32} (L : Lay h) (M : pg_i h 83 = A) (K : ShOK A) (w : Int32) : F_X12_count h 81 w = F_X12_count_32 h pg_fuel 81 w (nI (lkN A)) 0 0 := by
  have kC : nC A < 13 := K.1.1.2
  have kE : A 1344 = nI (nC A) := K.1.1.1
  unfold F_X12_count lkN
  have z := loopF (fun f i x => F_X12_count_4 h f 81 w (nI x) (nI i)) (nC A) (fun i x => x + cp A i 2) (F_X12_count_32 h pg_fuel 81 w (nI (sumN (nC A) fun c => cp A c 2)) 0 0) (fun _ _ => True) 0 ?_ (fun _ _ _ _ _ => trivial) ?_ trivial pg_fuel (by unfold pg_fuel; omega)
  · exact z
  · intro f i x hi _ _
    have q : Rg A (3 * i + 2) 2 := (K.2.1 i hi).2.2
    have h2 : i < 12 := by omega
    show F_X12_count_4 h (f + 1) 81 w (nI x) (nI i) = F_X12_count_4 h f 81 w (nI (x + cp A i 2)) (nI (i + 1))
    rw [F_X12_count_4]
    dsimp only
    rw [rc_81 L, m_copiesA L M, kE, Option.bind_some, if_pos (nI_lt hi (by omega)), rc_81 L, m_copy_2 L M h2, Option.bind_some]
    unfold pg_let
    rw [q.1, nI_add, nI_1]
    rfl
  · intro f _
    rw [show (foldN (nC A) (fun i x => x + cp A i 2) 0) = (sumN (nC A) fun c => cp A c 2) from foldN_sum]
    show F_X12_count_4 h (f + 1) 81 w (nI ((sumN (nC A) fun c => cp A c 2))) (nI (nC A)) = _
    rw [F_X12_count_4]
    dsimp only
    rw [rc_81 L, m_copiesA L M, kE, Option.bind_some, if_neg Int32.lt_irrefl]
def cntV (h : pg_H) (A : Nat → Int32) (w : Int32) : Int32 := if w = 0 then A 1344 else if w = 1 then A 1345 else if w = 2 then A 1346 else if w = 3 then A 1347 else if w = 4 then A 1348 else if w = 5 then nI (lkN A) else if w = 6 then nI (wrN A) else if w = 7 then pg_i h 81 10 else if w = 8 then pg_i h 82 1 else if w = 9 then pg_i h 82 2 else if w = 10 then pg_i h 82 3 else if w = 11 then pg_i h 82 5 else if w = 12 then pg_i h 82 6 else if w = 13 then A 1349 else -1
theorem m_count {h : pg_H} {A : Nat → Int32} (L : Lay h) (M : pg_i h 83 = A) (K : ShOK A) (w : Int32) : F_X12_count h 81 w = some (cntV h A w) := by
  have kN : nN A < 201 := K.1.2.2.2.1.2
  have kE : A 1347 = nI (nN A) := K.1.2.2.2.1.1
  rw [m_cnt1 L M K]
  have z := loopF (fun f i x => F_X12_count_32 h f 81 w (nI (lkN A)) (nI x) (nI i)) (nN A) (fun i x => x + (if A (340 + 5 * i + 4) = 0 then 1 else 0)) (some (cntV h A w)) (fun _ _ => True) 0 ?_ (fun _ _ _ _ _ => trivial) ?_ trivial pg_fuel (by unfold pg_fuel; omega)
  · exact z
  · intro f i x hi _ _
    have h2 : i < 200 := by omega
    show F_X12_count_32 h (f + 1) 81 w (nI (lkN A)) (nI x) (nI i) = F_X12_count_32 h f 81 w (nI (lkN A)) (nI (x + (if A (340 + 5 * i + 4) = 0 then 1 else 0))) (nI (i + 1))
    rw [F_X12_count_32]
    dsimp only
    rw [gR_81_3 L, Option.bind_some, m_k_1347 L M, kE, Option.bind_some, if_pos (nI_lt hi (by omega)), rc_81 L, m_note_4 L M h2, Option.bind_some]
    unfold F_X12_count_61 pg_let
    by_cases e : A (340 + 5 * i + 4) = 0
    · rw [if_pos e, if_pos e, nI_1, nI_1]
    · rw [if_neg e, if_neg e, nI_1]
      rw [show nI x + (0 : Int32) = nI (x + 0) from nI_add x 0]
  · intro f _
    rw [show (foldN (nN A) (fun i x => x + (if A (340 + 5 * i + 4) = 0 then 1 else 0)) 0) = wrN A from foldN_sum]
    show F_X12_count_32 h (f + 1) 81 w (nI (lkN A)) (nI (wrN A)) (nI (nN A)) = _
    rw [F_X12_count_32]
    dsimp only
    rw [gR_81_3 L, Option.bind_some, m_k_1347 L M, kE, Option.bind_some, if_neg Int32.lt_irrefl]
    have D := L.kd
    have R := L.rd
    unfold cntV
    by_cases c0 : w = 0
    · rw [if_pos c0, if_pos c0, rc_81 L, m_copiesA L M]
      rfl
    rw [if_neg c0, if_neg c0]
    by_cases c1 : w = 1
    · rw [if_pos c1, if_pos c1, Option.bind_some, m_k_1345 L M]
      rfl
    rw [if_neg c1, if_neg c1]
    by_cases c2 : w = 2
    · rw [if_pos c2, if_pos c2, Option.bind_some, m_k_1346 L M]
      rfl
    rw [if_neg c2, if_neg c2]
    by_cases c3 : w = 3
    · rw [if_pos c3, if_pos c3, Option.bind_some, m_k_1347 L M]
      rfl
    rw [if_neg c3, if_neg c3]
    by_cases c4 : w = 4
    · rw [if_pos c4, if_pos c4, Option.bind_some, m_k_1348 L M]
      rfl
    rw [if_neg c4, if_neg c4]
    by_cases c5 : w = 5
    · rw [if_pos c5, if_pos c5]
    rw [if_neg c5, if_neg c5]
    by_cases c6 : w = 6
    · rw [if_pos c6, if_pos c6]
    rw [if_neg c6, if_neg c6]
    by_cases c7 : w = 7
    · rw [if_pos c7, if_pos c7, ng_81 D]
      rfl
    rw [if_neg c7, if_neg c7]
    by_cases c8 : w = 8
    · rw [if_pos c8, if_pos c8, nR_81_2 D R, Option.bind_some, c8, show (8 : Int32) - 7 = 1 from by decide, na_82_1 D]
      rfl
    rw [if_neg c8, if_neg c8]
    by_cases c9 : w = 9
    · rw [if_pos c9, if_pos c9, nR_81_2 D R, Option.bind_some, c9, show (9 : Int32) - 7 = 2 from by decide, na_82_2 D]
      rfl
    rw [if_neg c9, if_neg c9]
    by_cases ca : w = 10
    · rw [if_pos ca, if_pos ca, nR_81_2 D R, Option.bind_some, ca, show (10 : Int32) - 7 = 3 from by decide, na_82_3 D]
      rfl
    rw [if_neg ca, if_neg ca]
    by_cases cb : w = 11
    · rw [if_pos cb, if_pos cb, nR_81_2 D R, Option.bind_some, na_82_5 D]
      rfl
    rw [if_neg cb, if_neg cb]
    by_cases cc : w = 12
    · rw [if_pos cc, if_pos cc, nR_81_2 D R, Option.bind_some, na_82_6 D]
      rfl
    rw [if_neg cc, if_neg cc]
    by_cases cd : w = 13
    · rw [if_pos cd, if_pos cd, Option.bind_some, m_k_1349 L M]
      rfl
    rw [if_neg cd, if_neg cd]
theorem sim_count : Sim_count Inv := by
  intro w q h hq I
  have L := I.1
  have D := L.kd
  have R := L.rd
  obtain ⟨C, K⟩ := I.sh
  obtain ⟨_, sc, ⟨n, hn, t1, t2, _⟩, _⟩ := id I
  refine rd_sim I (cntV h (pg_i h 83) w) ?_ (m_count L rfl K w)
  have r8 : ∀ k, k < 7 → pg_i h 80 k = pg_i h 82 k := sc.2.2.2
  unfold F_X11_count cntV
  by_cases c0 : w = 0
  · rw [if_pos c0, if_pos c0, nR_1_0 D R, Option.bind_some, nR_2_0 D R, Option.bind_some, c_rcv_3 C, c_size_3 C, K.1.1.1]
    rfl
  rw [if_neg c0, if_neg c0]
  by_cases c1 : w = 1
  · rw [if_pos c1, if_pos c1, nR_1_0 D R, Option.bind_some, nR_2_1 D R, Option.bind_some, c_rcv_5 C, c_size_5 C, K.1.2.1.1]
    rfl
  rw [if_neg c1, if_neg c1]
  by_cases c2 : w = 2
  · rw [if_pos c2, if_pos c2, nR_1_0 D R, Option.bind_some, nR_2_2 D R, Option.bind_some, c_rcv_7 C, c_size_7 C, K.1.2.2.1.1]
    rfl
  rw [if_neg c2, if_neg c2]
  by_cases c3 : w = 3
  · rw [if_pos c3, if_pos c3, nR_1_0 D R, Option.bind_some, nR_2_4 D R, Option.bind_some, c_rcv_11 C, c_size_11 C, K.1.2.2.2.1.1]
    rfl
  rw [if_neg c3, if_neg c3]
  by_cases c4 : w = 4
  · rw [if_pos c4, if_pos c4, nR_1_0 D R, Option.bind_some, ng_2 D, C.2.2.2.2.2.2.1]
    rfl
  rw [if_neg c4, if_neg c4]
  by_cases c5 : w = 5
  · rw [if_pos c5, if_pos c5, nR_1_0 D R, Option.bind_some, nc_2 D, c_copiesLookedAt L C K, Option.bind_some, bc_mk, Option.bind_some, lk_bits K]
  rw [if_neg c5, if_neg c5]
  by_cases c6 : w = 6
  · rw [if_pos c6, if_pos c6, nR_1_0 D R, Option.bind_some, nc_2 D, c_notesWritten L C K]
    rfl
  rw [if_neg c6, if_neg c6]
  by_cases c7 : w = 7
  · unfold F_X8_size
    rw [if_pos c7, if_pos c7, nR_1_3 D R, Option.bind_some, nc_43 D, ng_43 D, t1, t2]
    rfl
  rw [if_neg c7, if_neg c7]
  by_cases c8 : w = 8
  · rw [if_pos c8, if_pos c8, nR_1_10 D R, Option.bind_some, na_80_1 D, r8 1 (by decide)]
    rfl
  rw [if_neg c8, if_neg c8]
  by_cases c9 : w = 9
  · rw [if_pos c9, if_pos c9, nR_1_10 D R, Option.bind_some, na_80_2 D, r8 2 (by decide)]
    rfl
  rw [if_neg c9, if_neg c9]
  by_cases ca : w = 10
  · rw [if_pos ca, if_pos ca, nR_1_10 D R, Option.bind_some, na_80_3 D, r8 3 (by decide)]
    rfl
  rw [if_neg ca, if_neg ca]
  by_cases cb : w = 11
  · rw [if_pos cb, if_pos cb, nR_1_10 D R, Option.bind_some, na_80_5 D, r8 5 (by decide)]
    rfl
  rw [if_neg cb, if_neg cb]
  by_cases cc : w = 12
  · rw [if_pos cc, if_pos cc, nR_1_10 D R, Option.bind_some, na_80_6 D, r8 6 (by decide)]
    rfl
  rw [if_neg cc, if_neg cc]
  by_cases cd : w = 13
  · rw [if_pos cd, if_pos cd, nR_1_0 D R, Option.bind_some, ng_2 D, C.2.2.2.2.2.2.2]
    rfl
  rw [if_neg cd, if_neg cd]
