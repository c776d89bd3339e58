/-! row -/
theorem si_same {h : pg_H} {r k : Nat} {x : Int32} (e : pg_i h r k = x) : pg_si h r k x = h := by
  have z : pg_up2 (pg_i h) r k x = pg_i h := by
    funext r' k'
    by_cases c : r' = r
    · subst c
      rw [pg_up2_at]
      by_cases c2 : k' = k
      · rw [if_pos c2, c2, e]
      · rw [if_neg c2]
    · exact pg_up2_ne c k'
  unfold pg_si
  rw [z]
  rfl
def hOf (b : Nat) : Int32 := if b = 255 then -1 else nI b
def rowOk (A : Nat → Int32) (c b0 b1 b2 : Nat) : Bool := decide (b0 < 60) && (decide (b1 < 100) && (decide (b2 = 255 ∨ b2 < nH A) && (!hasQ A (nI c) (nI b0) (nI b1) 0 && decide (nN A < 200))))
def rowS (c : Nat) (B : Nat → Nat) (i : Nat) (x : (Nat → Int32) × Nat) : (Nat → Int32) × Nat := if rowOk x.1 c (B (3 * i)) (B (3 * i + 1)) (B (3 * i + 2)) then (addA x.1 (nN x.1) (nI c) (nI (B (3 * i))) (nI (B (3 * i + 1))) (hOf (B (3 * i + 2))) 0, x.2 + 1) else x
def rowR (c : Nat) (B : Nat → Nat) (A : Nat → Int32) (i : Nat) : (Nat → Int32) × Nat := foldN i (rowS c B) (A, 0)
theorem rowOk_iff {A : Nat → Int32} {c b0 b1 b2 : Nat} : rowOk A c b0 b1 b2 = true ↔ b0 < 60 ∧ b1 < 100 ∧ (b2 = 255 ∨ b2 < nH A) ∧ hasQ A (nI c) (nI b0) (nI b1) 0 = false ∧ nN A < 200 := by
  unfold rowOk
  simp only [Bool.and_eq_true, decide_eq_true_eq, Bool.not_eq_true']
theorem addA_counts {A : Nat → Int32} {n : Nat} {c p w k kd : Int32} (hn : n < 200) : nC (addA A n c p w k kd) = nC A ∧ nH (addA A n c p w k kd) = nH A := by
  unfold nC nH cl
  rw [addA_out (by omega) (by omega), addA_out (by omega) (by omega)]
  exact ⟨rfl, rfl⟩
theorem rowR_ok {A : Nat → Int32} (K : ShOK A) {c : Nat} (hc : c < nC A) (B : Nat → Nat) (i : Nat) : ShOK (rowR c B A i).1 ∧ nC (rowR c B A i).1 = nC A ∧ (rowR c B A i).2 ≤ i ∧ ∀ j, (j < 340 ∨ 1340 ≤ j) → j ≠ 1347 → (rowR c B A i).1 j = A j := by
  induction i with
  | zero => exact ⟨K, rfl, Nat.le_refl _, fun _ _ _ => rfl⟩
  | succ i ih =>
    obtain ⟨i1, i2, i3, i4⟩ := ih
    show ShOK (rowS c B i (rowR c B A i)).1 ∧ nC (rowS c B i (rowR c B A i)).1 = nC A ∧ (rowS c B i (rowR c B A i)).2 ≤ i + 1 ∧ ∀ j, (j < 340 ∨ 1340 ≤ j) → j ≠ 1347 → (rowS c B i (rowR c B A i)).1 j = A j
    unfold rowS
    cases e : rowOk (rowR c B A i).1 c (B (3 * i)) (B (3 * i + 1)) (B (3 * i + 2)) with
    | false =>
      rw [if_neg (by decide)]
      exact ⟨i1, i2, by omega, i4⟩
    | true =>
      obtain ⟨o1, o2, o3, o4, o5⟩ := rowOk_iff.mp e
      rw [if_pos rfl]
      refine ⟨addA_ok (kd := 0) i1 o5 (by omega) o1 o2 ?_ (by decide) (fun z => absurd rfl z) o4, ?_, by omega, fun j h1 h2 => ?_⟩
      · unfold hOf
        by_cases z : B (3 * i + 2) = 255
        · rw [if_pos z]
          exact Or.inl rfl
        · rw [if_neg z]
          exact Or.inr ⟨_, o3.resolve_left z, rfl⟩
      · rw [(addA_counts o5).1, i2]
      · exact (addA_out h2 (by omega)).trans (i4 j h1 h2)
theorem c_byteAt {h : pg_H} (D : KD (pg_k h)) (R : RD (pg_r h)) {n i b : Nat} (hs : pg_i h 43 1 = nI n) (hn : n ≤ 400) (hi : i < n) (hb : pg_i h 44 i = nI b) : F_X8_byteAt h 43 (nI i) = some (nI b) := by
  have b4 : i < 400 := by omega
  unfold F_X8_byteAt
  rw [if_neg (nI_pos (by omega))]
  simp only [k_si, k_sl, k_sr, r_si, r_sl, i_sl, i_sr, l_si, l_sr, Option.bind_some, if_true, if_false, bind_eta2, if_bb, decide_eq_true_eq, pg_let, ng_43, nR_43_0, na_44, D, R, hs, b4, hb, if_pos (nI_lt hi (show n < 2 ^ 31 by omega)), if_pos (show nI i < (400 : Int32) from nI_lt (b := 400) b4 (by decide))]
theorem hOf_hand {A : Nat → Int32} {b : Nat} (hb : b < 256) (hH : nH A < 13) : (hOf b = -1 ∨ (0 ≤ hOf b ∧ hOf b < nI (nH A))) ↔ (b = 255 ∨ b < nH A) := by
  unfold hOf
  by_cases z : b = 255
  · rw [if_pos z]
    exact ⟨fun _ => Or.inl z, fun _ => Or.inl rfl⟩
  · rw [if_neg z]
    constructor
    · rintro (q | q)
      · exact absurd q (neg1_ne (by omega))
      · exact Or.inr ((nI_in_iff (by omega) (by omega)).mp q)
    · rintro (q | q)
      · exact absurd q z
      · exact Or.inr ((nI_in_iff (by omega) (by omega)).mpr q)
theorem c_takeRow {h : pg_H} {A : Nat → Int32} (L : Lay h) (C : CNum h 2 A) (K : ShOK A) {n i c b0 b1 b2 : Nat} (hs : pg_i h 43 1 = nI n) (hn : n ≤ 400) (hi : i + 3 ≤ n) (e0 : pg_i h 44 i = nI b0) (e1 : pg_i h 44 (i + 1) = nI b1) (e2 : pg_i h 44 (i + 2) = nI b2) (l0 : b0 < 256) (l1 : b1 < 256) (l2 : b2 < 256) :
    ∃ hc, F_X11_takeFromRow 1 (nI c) (nI i) h = some (b01 (rowOk A c b0 b1 b2), hc) ∧ Ch [12] [(11, 3)] h hc ∧ CNum hc 2 (if rowOk A c b0 b1 b2 then addA A (nN A) (nI c) (nI b0) (nI b1) (hOf b2) 0 else A) := by
  have D := L.kd
  have R := L.rd
  have kH : nH A < 13 := K.1.2.2.1.2
  have kN : nN A < 201 := K.1.2.2.2.1.2
  have ent : F_X11_takeFromRow 1 (nI c) (nI i) h = F_X11_takeFromRow_47 1 (nI c) (nI b0) (nI b1) (hOf b2) h := by
    unfold F_X11_takeFromRow
    simp only [k_si, k_sl, k_sr, r_si, r_sl, i_sl, i_sr, l_si, l_sr, Option.bind_some, if_true, if_false, bind_eta2, if_bb, decide_eq_true_eq, pg_let, nR_1_3, nc_43, D, R, nI_1, nI_2, c_byteAt D R hs hn (show i < n by omega) e0, c_byteAt D R hs hn (show i + 1 < n by omega) e1, c_byteAt D R hs hn (show i + 2 < n by omega) e2]
    unfold hOf
    by_cases z : b2 = 255
    · rw [if_pos z, if_pos (by rw [z]; rfl)]
    · rw [if_neg z, if_neg (show ¬ nI b2 = (255 : Int32) from fun q => z ((nI_eq (b := 255) (by omega) (by decide)).mp q))]
  rw [ent]
  have isN : noteP (nI b0) (nI b1) 0 ↔ b0 < 60 ∧ b1 < 100 := by
    constructor
    · rintro ⟨⟨_, q1⟩, ⟨_, q2⟩, _⟩
      have := (nI_leI (b := 59) (by omega) (by decide)).mp q1
      have := (nI_leI (b := 99) (by omega) (by decide)).mp q2
      omega
    · rintro ⟨q1, q2⟩
      exact ⟨⟨nI_pos' (by omega), nI_le (b := 59) (by omega) (by decide)⟩, ⟨nI_pos' (by omega), nI_le (b := 99) (by omega) (by decide)⟩, by decide, fun z => absurd rfl z⟩
  cases e : rowOk A c b0 b1 b2 with
  | true =>
    obtain ⟨o1, o2, o3, o4, o5⟩ := rowOk_iff.mp e
    obtain ⟨hc, a1, a2, a3⟩ := c_addNote L C o5 (nI c) (nI b0) (nI b1) (hOf b2) 0
    refine ⟨hc, ?_, a2, by rw [if_pos rfl]; exact a3⟩
    unfold F_X11_takeFromRow_47
    simp only [k_si, k_sl, k_sr, r_si, r_sl, i_sl, i_sr, l_si, l_sr, Option.bind_some, if_true, if_false, bind_eta2, if_bb, decide_eq_true_eq, pg_let, (c_isNote (nI b0) (nI b1) 0).1 (isN.mpr ⟨o1, o2⟩), nR_1_0, nc_2, D, R, c_isHandOr L C, if_pos ((hOf_hand l2 kH).mpr o3), c_hasNote L C K, o4, a1, neg1_iff (show nN A < 2 ^ 31 by omega), if_neg (show ¬ ((1 : Int32) = 0) by decide), Bool.false_eq_true]
    rfl
  | false =>
    refine ⟨h, ?_, Ch.refl _ _ _, by rw [if_neg (by decide)]; exact C⟩
    unfold F_X11_takeFromRow_47
    by_cases o12 : b0 < 60 ∧ b1 < 100
    · by_cases o3 : b2 = 255 ∨ b2 < nH A
      · cases o4 : hasQ A (nI c) (nI b0) (nI b1) 0 with
        | true =>
          simp only [k_si, k_sl, k_sr, r_si, r_sl, i_sl, i_sr, l_si, l_sr, Option.bind_some, if_true, if_false, bind_eta2, if_bb, decide_eq_true_eq, pg_let, (c_isNote (nI b0) (nI b1) 0).1 (isN.mpr o12), nR_1_0, nc_2, D, R, c_isHandOr L C, if_pos ((hOf_hand l2 kH).mpr o3), c_hasNote L C K, o4, if_neg (show ¬ ((1 : Int32) = 0) by decide)]
          rfl
        | false =>
          have full : nN A = 200 := by
            by_cases z : nN A < 200
            · have := rowOk_iff.mpr ⟨o12.1, o12.2, o3, o4, z⟩
              rw [e] at this
              cases this
            · omega
          simp only [k_si, k_sl, k_sr, r_si, r_sl, i_sl, i_sr, l_si, l_sr, Option.bind_some, if_true, if_false, bind_eta2, if_bb, decide_eq_true_eq, pg_let, (c_isNote (nI b0) (nI b1) 0).1 (isN.mpr o12), nR_1_0, nc_2, D, R, c_isHandOr L C, if_pos ((hOf_hand l2 kH).mpr o3), c_hasNote L C K, o4, c_addNote_full L C full, if_neg (show ¬ ((1 : Int32) = 0) by decide), Bool.false_eq_true]
          rfl
      · simp only [k_si, k_sl, k_sr, r_si, r_sl, i_sl, i_sr, l_si, l_sr, Option.bind_some, if_true, if_false, bind_eta2, if_bb, decide_eq_true_eq, pg_let, (c_isNote (nI b0) (nI b1) 0).1 (isN.mpr o12), nR_1_0, nc_2, D, R, c_isHandOr L C, if_neg (fun z => o3 ((hOf_hand l2 kH).mp z)), if_neg (show ¬ ((1 : Int32) = 0) by decide)]
        rfl
    · simp only [k_si, k_sl, k_sr, r_si, r_sl, i_sl, i_sr, l_si, l_sr, Option.bind_some, if_true, if_false, bind_eta2, if_bb, decide_eq_true_eq, pg_let, (c_isNote (nI b0) (nI b1) 0).2 (fun z => o12 (isN.mp z))]
      rfl
theorem sx_small : ∀ b, b < 256 → (nI b).toInt8.toInt32 &&& 255 = nI b ∧ (b < 128 → (nI b).toInt8.toInt32 = nI b) ∧ (128 ≤ b → (nI b).toInt8.toInt32 < 0) := by decide +kernel
theorem sx_lies {b m : Nat} (hb : b < 256) (hm : m < 128) : (0 ≤ (nI b).toInt8.toInt32 ∧ (nI b).toInt8.toInt32 ≤ nI m) ↔ b < m + 1 := by
  obtain ⟨_, q1, q2⟩ := sx_small b hb
  by_cases c : b < 128
  · rw [q1 c]
    constructor
    · rintro ⟨_, z⟩
      have := (nI_leI (by omega) (by omega)).mp z
      omega
    · intro z
      exact ⟨nI_pos' (by omega), nI_le (by omega) (by omega)⟩
  · constructor
    · rintro ⟨z, _⟩
      exact absurd (q2 (by omega)) (Int32.not_lt.mpr z)
    · intro z
      omega
/-- a turn of the reference's -/
theorem m_rowTurn {h : pg_H} {A : Nat → Int32} (L : Lay h) (M : pg_i h 83 = A) (K : ShOK A) {n i c b0 b1 b2 came tr : Nat} (hn : n ≤ 400) (hi : i + 3 ≤ n) (e0 : pg_i h 87 i = (nI b0).toInt8.toInt32) (e1 : pg_i h 87 (i + 1) = (nI b1).toInt8.toInt32) (e2 : pg_i h 87 (i + 2) = (nI b2).toInt8.toInt32) (l0 : b0 < 256) (l1 : b1 < 256) (l2 : b2 < 256) (ht : pg_i h 81 6 = nI tr) (f : Nat) :
    ∃ hm, F_X12_row_56 (f + 1) 81 (nI c) (nI n) (nI came) (nI i) h = F_X12_row_56 f 81 (nI c) (nI n) (nI (if rowOk A c b0 b1 b2 then came + 1 else came)) (nI (i + 3)) hm ∧ Ch [83] [(81, 6)] h hm ∧ pg_i hm 83 = (if rowOk A c b0 b1 b2 then addA A (nN A) (nI c) (nI b0) (nI b1) (hOf b2) 0 else A) ∧ pg_i hm 81 6 = nI (if rowOk A c b0 b1 b2 then tr else tr + 1) := by
  have D := L.kd
  have R := L.rd
  have kH : nH A < 13 := K.1.2.2.1.2
  have kN : nN A < 201 := K.1.2.2.2.1.2
  have i0 : i < 400 := by omega
  have i1 : i + 1 < 400 := by omega
  have i2 : i + 2 < 400 := by omega
  have ent : F_X12_row_56 (f + 1) 81 (nI c) (nI n) (nI came) (nI i) h = F_X12_row_100 (F_X12_row_56 f) 81 (nI c) (nI n) (nI came) (nI i) (hOf b2) h := by
    rw [F_X12_row_56]
    dsimp only
    rw [nI_3, if_neg (nI_nlt hi (by omega))]
    simp only [k_si, k_sl, k_sr, r_si, r_sl, i_sl, i_sr, l_si, l_sr, Option.bind_some, if_true, if_false, bind_eta2, if_bb, decide_eq_true_eq, pg_let, nR_81_8, na_87, D, R, nI_2, i2, e2, (sx_small b2 l2).1]
    unfold hOf
    by_cases z : b2 = 255
    · rw [if_pos z, if_pos (by rw [z]; rfl)]
    · rw [if_neg z, if_neg (show ¬ nI b2 = (255 : Int32) from fun q => z ((nI_eq (b := 255) (by omega) (by decide)).mp q))]
  rw [ent]
  have end0 : F_X12_row_193 (F_X12_row_56 f) 81 (nI c) (nI n) (nI came) (nI i) (hOf b2) h = F_X12_row_56 f 81 (nI c) (nI n) (nI came) (nI (i + 3)) (pg_si h 81 6 (nI (tr + 1))) := by
    unfold F_X12_row_193 F_X12_row_194 F_X12_row_225 F_X12_row_236 F_X12_row_253
    simp only [k_si, k_sl, k_sr, r_si, r_sl, i_sl, i_sr, l_si, l_sr, Option.bind_some, if_true, if_false, bind_eta2, if_bb, decide_eq_true_eq, pg_let, ng_81, np_81, D, ht, nI_1, nI_3, show nI came + (0 : Int32) = nI came from nI_add came 0]
  have fin0 : rowOk A c b0 b1 b2 = false → ∀ X : Option (Int32 × pg_H), X = F_X12_row_193 (F_X12_row_56 f) 81 (nI c) (nI n) (nI came) (nI i) (hOf b2) h → ∃ hm, X = F_X12_row_56 f 81 (nI c) (nI n) (nI (if rowOk A c b0 b1 b2 then came + 1 else came)) (nI (i + 3)) hm ∧ Ch [83] [(81, 6)] h hm ∧ pg_i hm 83 = (if rowOk A c b0 b1 b2 then addA A (nN A) (nI c) (nI b0) (nI b1) (hOf b2) 0 else A) ∧ pg_i hm 81 6 = nI (if rowOk A c b0 b1 b2 then tr else tr + 1) := fun e X hX => by
    refine ⟨pg_si h 81 6 (nI (tr + 1)), ?_, (Ch.refl _ _ _).asi (Or.inr (by decide)), ?_, ?_⟩
    · rw [hX, end0, e]
      rfl
    · rw [si_ne (by decide), e, M]
      rfl
    · rw [si_row, up1_eq, e]
      rfl
  unfold F_X12_row_100
  simp only [k_si, k_sl, k_sr, r_si, r_sl, i_sl, i_sr, l_si, l_sr, Option.bind_some, if_true, if_false, bind_eta2, if_bb, decide_eq_true_eq, pg_let, nR_81_8, na_87, D, R, i0, e0, lies_le]
  by_cases c0 : 0 ≤ (nI b0).toInt8.toInt32 ∧ (nI b0).toInt8.toInt32 ≤ (59 : Int32)
  · have o1 : b0 < 60 := (sx_lies (m := 59) l0 (by decide)).mp c0
    rw [if_pos c0, nI_1, na_87 D i1, Option.bind_some, e1]
    by_cases c1 : 0 ≤ (nI b1).toInt8.toInt32 ∧ (nI b1).toInt8.toInt32 ≤ (99 : Int32)
    · have o2 : b1 < 100 := (sx_lies (m := 99) l1 (by decide)).mp c1
      rw [if_pos c1]
      have hand : (if hOf b2 = -1 then F_X12_row_151 (F_X12_row_56 f) 81 (nI c) (nI n) (nI came) (nI i) (hOf b2) h else Option.bind (pg_rcv 12 h 81 (F_X12_isHand h 81 (hOf b2))) fun v7 => if v7 = 0 then F_X12_row_193 (F_X12_row_56 f) 81 (nI c) (nI n) (nI came) (nI i) (hOf b2) h else F_X12_row_151 (F_X12_row_56 f) 81 (nI c) (nI n) (nI came) (nI i) (hOf b2) h) = if b2 = 255 ∨ b2 < nH A then F_X12_row_151 (F_X12_row_56 f) 81 (nI c) (nI n) (nI came) (nI i) (hOf b2) h else F_X12_row_193 (F_X12_row_56 f) 81 (nI c) (nI n) (nI came) (nI i) (hOf b2) h := by
        by_cases z : hOf b2 = -1
        · rw [if_pos z, if_pos ((hOf_hand l2 kH).mp (Or.inl z))]
        · rw [if_neg z, nc_81 D, m_isHand L M K, Option.bind_some, if_bb]
          by_cases z2 : 0 ≤ hOf b2 ∧ hOf b2 < nI (nH A)
          · rw [if_pos (decide_eq_true z2), if_pos ((hOf_hand l2 kH).mp (Or.inr z2))]
          · rw [if_neg (by rw [decide_eq_false z2]; decide), if_neg (fun q => ((hOf_hand l2 kH).mpr q).elim z z2)]
      rw [hand]
      by_cases o3 : b2 = 255 ∨ b2 < nH A
      · rw [if_pos o3]
        unfold F_X12_row_151
        have ek : pg_aI 21 h 83 (1347 : Int32) = some (nI (nN A)) := by rw [m_k_1347 L M, show A 1347 = nI (nN A) from K.1.2.2.2.1.1]
        have hb0 : (nI b0).toInt8.toInt32 = nI b0 := (sx_small b0 l0).2.1 (by omega)
        have hb1 : (nI b1).toInt8.toInt32 = nI b1 := (sx_small b1 l1).2.1 (by omega)
        by_cases o5 : nN A < 200
        · simp only [k_si, k_sl, k_sr, r_si, r_sl, i_sl, i_sr, l_si, l_sr, Option.bind_some, if_true, if_false, bind_eta2, if_bb, decide_eq_true_eq, pg_let, nR_81_3, nR_81_8, nc_81, D, R, ek, if_pos (show nI (nN A) < (200 : Int32) from nI_lt (b := 200) o5 (by decide)), na_87, i0, i1, e0, e1, hb0, hb1, nI_1, m_has L M K]
          cases o4 : hasQ A (nI c) (nI b0) (nI b1) 0 with
          | true =>
            have e : rowOk A c b0 b1 b2 = false := by
              cases q : rowOk A c b0 b1 b2 with
              | false => rfl
              | true =>
                have := (rowOk_iff.mp q).2.2.2.1
                rw [o4] at this
                cases this
            exact fin0 e _ (by simp only [if_true])
          | false =>
            have e : rowOk A c b0 b1 b2 = true := rowOk_iff.mpr ⟨o1, o2, o3, o4, o5⟩
            obtain ⟨hm, a1, a2, a3⟩ := m_notes L M K o5 (nI c) (nI b0) (nI b1) (hOf b2) 0
            have Dm : KD (pg_k hm) := by
              rw [a2.kk]
              exact D
            have t6 : pg_i hm 81 6 = nI tr := by rw [a2.row (by decide), ht]
            have s6 : pg_si hm 81 6 (nI tr) = hm := si_same t6
            refine ⟨hm, ?_, a2.mono (by decide), by rw [e]; exact a3, by rw [e]; exact t6⟩
            rw [e, if_neg (by decide)]
            unfold F_X12_row_194 F_X12_row_225 F_X12_row_236 F_X12_row_253
            simp only [k_si, k_sl, k_sr, r_si, r_sl, i_sl, i_sr, l_si, l_sr, Option.bind_some, if_true, if_false, bind_eta2, if_bb, decide_eq_true_eq, pg_let, nR_81_8, nc_81, na_87, ng_81, np_81, D, R, Dm, i0, i1, e0, e1, hb0, hb1, nI_1, nI_3, a1, if_neg (show ¬ ((1 : Int32) = 0) by decide), t6, show nI tr + (0 : Int32) = nI tr from nI_add tr 0, s6]
        · have e : rowOk A c b0 b1 b2 = false := by
            cases q : rowOk A c b0 b1 b2 with
            | false => rfl
            | true => exact absurd (rowOk_iff.mp q).2.2.2.2 o5
          refine fin0 e _ ?_
          simp only [k_si, k_sl, k_sr, r_si, r_sl, i_sl, i_sr, l_si, l_sr, Option.bind_some, if_true, if_false, bind_eta2, if_bb, decide_eq_true_eq, pg_let, nR_81_3, D, R, ek, if_neg (show ¬ nI (nN A) < (200 : Int32) from nI_nlt (b := 200) (by omega) (by omega))]
      · rw [if_neg o3]
        refine fin0 ?_ _ rfl
        cases q : rowOk A c b0 b1 b2 with
        | false => rfl
        | true => exact absurd (rowOk_iff.mp q).2.2.1 o3
    · rw [if_neg c1]
      refine fin0 ?_ _ rfl
      cases q : rowOk A c b0 b1 b2 with
      | false => rfl
      | true => exact absurd ((sx_lies (m := 99) l1 (by decide)).mpr (rowOk_iff.mp q).2.1) c1
  · rw [if_neg c0]
    refine fin0 ?_ _ rfl
    cases q : rowOk A c b0 b1 b2 with
    | false => rfl
    | true => exact absurd ((sx_lies (m := 59) l0 (by decide)).mpr (rowOk_iff.mp q).1) c0
