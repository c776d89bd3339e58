/-! NOTES BY KIND, chapters, holders -/
theorem m_hasKind {h : pg_H} {A : Nat → Int32} (L : Lay h) (M : pg_i h 83 = A) (K : ShOK A) (c p k : Int32) : F_X12_hasKind h 81 c p k = some (b01 (kindQ A c p k)) := by
  have kN : nN A < 201 := K.1.2.2.2.1.2
  have kE : A 1347 = nI (nN A) := K.1.2.2.2.1.1
  unfold F_X12_hasKind
  have z := loopA (fun f i => F_X12_hasKind_3 h f 81 c p k (nI i)) (nN A) (fun i => decide (A (340 + 5 * i) = c) && decide (A (340 + 5 * i + 1) = p) && decide (A (340 + 5 * i + 4) = k)) (some 1) (some 0) ?_ ?_ ?_ pg_fuel (by unfold pg_fuel; omega)
  · rw [some_b01] at z
    exact z
  · intro f i hi hp
    have h2 : i < 200 := by omega
    show F_X12_hasKind_3 h (f + 1) 81 c p k (nI i) = F_X12_hasKind_3 h f 81 c p k (nI (i + 1))
    rw [F_X12_hasKind_3]
    dsimp only
    simp only [Option.bind_some, if_true, if_false, Int32.lt_irrefl, rc_81 L, gR_81_2 L, gR_81_3 L, gR_81_4 L, gR_81_5 L, gR_81_7 L, gR_81_8 L, gR_81_9 L, gR_81_12 L, gR_81_13 L, gR_81_14 L, gR_81_22 L, gR_81_25 L, gR_81_26 L, gR_81_27 L, gR_81_28 L, gR_81_29 L, gR_81_32 L, gR_81_33 L, gR_81_34 L, gR_81_35 L, gR_81_36 L, gR_81_37 L, gR_81_38 L, gR_81_39 L, gR_81_40 L, gR_81_41 L, gR_81_42 L, gR_81_43 L, m_k_1344 L M, m_k_1345 L M, m_k_1346 L M, m_k_1347 L M, m_k_1348 L M, m_k_1349 L M, m_note_0 L M h2, m_note_1 L M h2, m_note_2 L M h2, m_note_3 L M h2, m_note_4 L M h2, kE, F_X12_hasKind_51, nI_1, nI_ltI (show i < 2 ^ 31 by omega) (show nN A < 2 ^ 31 by omega), hi]
    by_cases e1 : A (340 + 5 * i) = c
    · by_cases e2 : A (340 + 5 * i + 1) = p
      · by_cases e3 : A (340 + 5 * i + 4) = k
        · rw [decide_eq_true e1, decide_eq_true e2, decide_eq_true e3] at hp
          cases hp
        · simp only [e1, e2, e3, if_true, if_false]
      · simp only [e1, e2, if_true, if_false]
    · simp only [e1, if_false]
  · intro f i hi hp
    have h2 : i < 200 := by omega
    rw [Bool.and_eq_true, Bool.and_eq_true, decide_eq_true_eq, decide_eq_true_eq, decide_eq_true_eq] at hp
    obtain ⟨⟨e1, e2⟩, e3⟩ := hp
    show F_X12_hasKind_3 h (f + 1) 81 c p k (nI i) = _
    rw [F_X12_hasKind_3]
    dsimp only
    simp only [Option.bind_some, if_true, if_false, Int32.lt_irrefl, rc_81 L, gR_81_2 L, gR_81_3 L, gR_81_4 L, gR_81_5 L, gR_81_7 L, gR_81_8 L, gR_81_9 L, gR_81_12 L, gR_81_13 L, gR_81_14 L, gR_81_22 L, gR_81_25 L, gR_81_26 L, gR_81_27 L, gR_81_28 L, gR_81_29 L, gR_81_32 L, gR_81_33 L, gR_81_34 L, gR_81_35 L, gR_81_36 L, gR_81_37 L, gR_81_38 L, gR_81_39 L, gR_81_40 L, gR_81_41 L, gR_81_42 L, gR_81_43 L, m_k_1344 L M, m_k_1345 L M, m_k_1346 L M, m_k_1347 L M, m_k_1348 L M, m_k_1349 L M, m_note_0 L M h2, m_note_1 L M h2, m_note_2 L M h2, m_note_3 L M h2, m_note_4 L M h2, kE, nI_ltI (show i < 2 ^ 31 by omega) (show nN A < 2 ^ 31 by omega), hi, e1, e2, e3]
  · intro f
    show F_X12_hasKind_3 h (f + 1) 81 c p k (nI (nN A)) = _
    rw [F_X12_hasKind_3]
    dsimp only
    simp only [Option.bind_some, if_true, if_false, Int32.lt_irrefl, rc_81 L, gR_81_2 L, gR_81_3 L, gR_81_4 L, gR_81_5 L, gR_81_7 L, gR_81_8 L, gR_81_9 L, gR_81_12 L, gR_81_13 L, gR_81_14 L, gR_81_22 L, gR_81_25 L, gR_81_26 L, gR_81_27 L, gR_81_28 L, gR_81_29 L, gR_81_32 L, gR_81_33 L, gR_81_34 L, gR_81_35 L, gR_81_36 L, gR_81_37 L, gR_81_38 L, gR_81_39 L, gR_81_40 L, gR_81_41 L, gR_81_42 L, gR_81_43 L, m_k_1344 L M, m_k_1345 L M, m_k_1346 L M, m_k_1347 L M, m_k_1348 L M, m_k_1349 L M, kE]
/-- what is no writing has wording 0: one look is the other -/
theorem kind_has {A : Nat → Int32} (K : ShOK A) (c p k : Int32) (hk : k ≠ 0) : kindQ A c p k = hasQ A c p 0 k := by
  unfold kindQ hasQ
  refine anyN_cong (fun n hn => ?_)
  unfold noteQ
  by_cases e : A (340 + 5 * n + 4) = k
  · rw [decide_eq_true (K.2.2.2.2.2.2.2.1 n hn (by rw [e]; exact hk)), Bool.and_true]
  · rw [decide_eq_false e, Bool.and_false, Bool.and_false]
theorem m_hasIt {h : pg_H} {A : Nat → Int32} (L : Lay h) (M : pg_i h 83 = A) (K : ShOK A) (c p w k : Int32) (hw : k ≠ 0 → w = 0) : F_X12_hasIt h 81 c p w k = some (b01 (hasQ A c p w k)) := by
  unfold F_X12_hasIt
  by_cases e : k = 0
  · rw [if_pos e, rc_81 L, m_has L M K, Option.bind_some, e]
    exact b01_z _
  · rw [if_neg e, rc_81 L, m_hasKind L M K, Option.bind_some, hw e, ← kind_has K c p k e]
    exact b01_z _
/-- how many copies have a wording at a place -/
def shQ (A : Nat → Int32) (p w : Int32) : Nat := sumN (nC A) fun c => if hasQ A (nI c) p w 0 then 1 else 0
theorem shQ_le {A : Nat → Int32} (K : ShOK A) (p w : Int32) : shQ A p w ≤ 12 := by
  have kC : nC A < 13 := K.1.1.2
  refine Nat.le_trans (sumN_le (b := 1) (fun i _ => ?_)) (by omega)
  cases hasQ A (nI i) p w 0 <;> decide
theorem m_sharedBy {h : pg_H} {A : Nat → Int32} (L : Lay h) (M : pg_i h 83 = A) (K : ShOK A) (p w : Int32) : F_X12_sharedBy h 81 p w = some (nI (shQ A p w)) := by
  have kC : nC A < 13 := K.1.1.2
  have kE : A 1344 = nI (nC A) := K.1.1.1
  unfold F_X12_sharedBy
  have z := loopF (fun f i x => F_X12_sharedBy_5 h f 81 p w (nI x) (nI i)) (nC A) (fun i x => x + (if hasQ A (nI i) p w 0 then 1 else 0)) (some (nI (foldN (nC A) (fun i x => x + (if hasQ A (nI i) p w 0 then 1 else 0)) 0))) (fun _ _ => True) 0 ?_ (fun _ _ _ _ _ => trivial) ?_ trivial pg_fuel (by unfold pg_fuel; omega)
  · refine z.trans (congrArg (fun x => some (nI x)) ?_)
    exact foldN_sum
  · intro f i x hi _ _
    show F_X12_sharedBy_5 h (f + 1) 81 p w (nI x) (nI i) = F_X12_sharedBy_5 h f 81 p w (nI (x + (if hasQ A (nI i) p w 0 then 1 else 0))) (nI (i + 1))
    rw [F_X12_sharedBy_5]
    dsimp only
    simp only [Option.bind_some, if_true, if_false, Int32.lt_irrefl, rc_81 L, gR_81_2 L, gR_81_3 L, gR_81_4 L, gR_81_5 L, gR_81_7 L, gR_81_8 L, gR_81_9 L, gR_81_12 L, gR_81_13 L, gR_81_14 L, gR_81_22 L, gR_81_25 L, gR_81_26 L, gR_81_27 L, gR_81_28 L, gR_81_29 L, gR_81_32 L, gR_81_33 L, gR_81_34 L, gR_81_35 L, gR_81_36 L, gR_81_37 L, gR_81_38 L, gR_81_39 L, gR_81_40 L, gR_81_41 L, gR_81_42 L, gR_81_43 L, m_k_1344 L M, m_k_1345 L M, m_k_1346 L M, m_k_1347 L M, m_k_1348 L M, m_k_1349 L M, m_copiesA L M, kE, F_X12_sharedBy_31, pg_let, nI_1, nI_ltI (show i < 2 ^ 31 by omega) (show nC A < 2 ^ 31 by omega), hi, m_has L M K]
    cases hasQ A (nI i) p w 0 with
    | false =>
      simp only [b01, Bool.false_eq_true, if_false, if_true]
      rw [show (0 : Int32) = nI 0 from rfl, nI_add]
    | true =>
      simp only [b01, if_true, show ¬ ((1 : Int32) = 0) from by decide, if_false, nI_1]
  · intro f _
    show F_X12_sharedBy_5 h (f + 1) 81 p w (nI (foldN (nC A) (fun i x => x + (if hasQ A (nI i) p w 0 then 1 else 0)) 0)) (nI (nC A)) = _
    rw [F_X12_sharedBy_5]
    dsimp only
    simp only [Option.bind_some, if_true, if_false, Int32.lt_irrefl, rc_81 L, gR_81_2 L, gR_81_3 L, gR_81_4 L, gR_81_5 L, gR_81_7 L, gR_81_8 L, gR_81_9 L, gR_81_12 L, gR_81_13 L, gR_81_14 L, gR_81_22 L, gR_81_25 L, gR_81_26 L, gR_81_27 L, gR_81_28 L, gR_81_29 L, gR_81_32 L, gR_81_33 L, gR_81_34 L, gR_81_35 L, gR_81_36 L, gR_81_37 L, gR_81_38 L, gR_81_39 L, gR_81_40 L, gR_81_41 L, gR_81_42 L, gR_81_43 L, m_k_1344 L M, m_k_1345 L M, m_k_1346 L M, m_k_1347 L M, m_k_1348 L M, m_k_1349 L M, m_copiesA L M, kE]
/-- something is written in a chapter of a copy -/
def notedQ (A : Nat → Int32) (c : Int32) (ch : Nat) : Bool := anyN (nN A) fun n => decide (A (340 + 5 * n) = c) && decide (A (340 + 5 * n + 4) = 0) && decide (nt A n 1 / 5 = ch)
theorem nI_div {a b : Nat} (ha : a < 2 ^ 31) (hb : b < 2 ^ 31) : nI a / nI b = nI (a / b) := by
  apply Int32.toInt_inj.mp
  rw [Int32.toInt_div, nI_toInt ha, nI_toInt hb, nI_toInt (Nat.lt_of_le_of_lt (Nat.div_le_self a b) ha), ← Int.ofNat_tdiv]
  have e := Nat.div_le_self a b
  revert e
  generalize a / b = q
  intro e
  exact Int.bmod_eq_of_le (by omega) (by omega)
theorem m_isNoted {h : pg_H} {A : Nat → Int32} (L : Lay h) (M : pg_i h 83 = A) (K : ShOK A) (c : Int32) {ch : Nat} (hch : ch < 12) : F_X12_isNoted h 81 c (nI ch) = some (b01 (notedQ A c ch)) := by
  have kN : nN A < 201 := K.1.2.2.2.1.2
  have kE : A 1347 = nI (nN A) := K.1.2.2.2.1.1
  unfold F_X12_isNoted
  have z := loopF (fun f i x => F_X12_isNoted_5 h f 81 c (nI ch) (b01 x) (nI i)) (nN A) (fun i x => x || (decide (A (340 + 5 * i) = c) && decide (A (340 + 5 * i + 4) = 0) && decide (nt A i 1 / 5 = ch))) (some (b01 (foldN (nN A) (fun i x => x || (decide (A (340 + 5 * i) = c) && decide (A (340 + 5 * i + 4) = 0) && decide (nt A i 1 / 5 = ch))) false))) (fun _ _ => True) false ?_ (fun _ _ _ _ _ => trivial) ?_ trivial pg_fuel (by unfold pg_fuel; omega)
  · refine z.trans (congrArg (fun x => some (b01 x)) ?_)
    unfold notedQ
    generalize nN A = m
    induction m with
    | zero => rfl
    | succ m ih => exact congrArg (· || _) ih
  · intro f i x hi _ _
    have h2 : i < 200 := by omega
    have q : Rg A (340 + 5 * i + 1) 60 := (K.2.2.2.2.2.1 i hi).2.1
    have q2 : nt A i 1 < 60 := q.2
    have q3 : A (340 + 5 * i + 1) / 5 = nI (nt A i 1 / 5) := by
      rw [q.1]
      exact nI_div (b := 5) (show cl A (340 + 5 * i + 1) < 2 ^ 31 from Nat.lt_trans q.2 (by decide)) (by decide)
    have q4 : (A (340 + 5 * i + 1) / 5 = nI ch) = (nt A i 1 / 5 = ch) := by
      rw [q3]
      exact propext (nI_eq (by omega) (by omega))
    show F_X12_isNoted_5 h (f + 1) 81 c (nI ch) (b01 x) (nI i) = F_X12_isNoted_5 h f 81 c (nI ch) (b01 (x || (decide (A (340 + 5 * i) = c) && decide (A (340 + 5 * i + 4) = 0) && decide (nt A i 1 / 5 = ch)))) (nI (i + 1))
    rw [F_X12_isNoted_5]
    dsimp only
    simp only [Option.bind_some, if_true, if_false, Int32.lt_irrefl, rc_81 L, gR_81_2 L, gR_81_3 L, gR_81_4 L, gR_81_5 L, gR_81_7 L, gR_81_8 L, gR_81_9 L, gR_81_12 L, gR_81_13 L, gR_81_14 L, gR_81_22 L, gR_81_25 L, gR_81_26 L, gR_81_27 L, gR_81_28 L, gR_81_29 L, gR_81_32 L, gR_81_33 L, gR_81_34 L, gR_81_35 L, gR_81_36 L, gR_81_37 L, gR_81_38 L, gR_81_39 L, gR_81_40 L, gR_81_41 L, gR_81_42 L, gR_81_43 L, m_k_1344 L M, m_k_1345 L M, m_k_1346 L M, m_k_1347 L M, m_k_1348 L M, m_k_1349 L M, m_note_0 L M h2, m_note_1 L M h2, m_note_2 L M h2, m_note_3 L M h2, m_note_4 L M h2, kE, F_X12_isNoted_56, F_X12_isNoted_60, F_X12_isNoted_61, nI_1, nI_ltI (show i < 2 ^ 31 by omega) (show nN A < 2 ^ 31 by omega), hi, show ¬ ((5 : Int32) = 0) from by decide, q4]
    cases x with
    | true => rfl
    | false =>
      by_cases e : A (340 + 5 * i) = c
      · by_cases e2 : A (340 + 5 * i + 4) = 0
        · by_cases e3 : nt A i 1 / 5 = ch
          · simp only [e, e2, e3, b01, Bool.false_eq_true, if_false, if_true, decide_true, Bool.and_self, Bool.or_true]
          · simp only [e, e2, e3, b01, Bool.false_eq_true, if_false, if_true, decide_true, decide_false, Bool.and_false, Bool.or_false]
        · simp only [e, e2, b01, Bool.false_eq_true, if_false, if_true, decide_true, decide_false, Bool.and_false, Bool.false_and, Bool.or_false]
      · simp only [e, b01, Bool.false_eq_true, if_false, if_true, decide_false, Bool.false_and, Bool.or_false]
  · intro f _
    show F_X12_isNoted_5 h (f + 1) 81 c (nI ch) (b01 (foldN (nN A) (fun i x => x || (decide (A (340 + 5 * i) = c) && decide (A (340 + 5 * i + 4) = 0) && decide (nt A i 1 / 5 = ch))) false)) (nI (nN A)) = _
    rw [F_X12_isNoted_5]
    dsimp only
    simp only [Option.bind_some, if_true, if_false, Int32.lt_irrefl, rc_81 L, gR_81_2 L, gR_81_3 L, gR_81_4 L, gR_81_5 L, gR_81_7 L, gR_81_8 L, gR_81_9 L, gR_81_12 L, gR_81_13 L, gR_81_14 L, gR_81_22 L, gR_81_25 L, gR_81_26 L, gR_81_27 L, gR_81_28 L, gR_81_29 L, gR_81_32 L, gR_81_33 L, gR_81_34 L, gR_81_35 L, gR_81_36 L, gR_81_37 L, gR_81_38 L, gR_81_39 L, gR_81_40 L, gR_81_41 L, gR_81_42 L, gR_81_43 L, m_k_1344 L M, m_k_1345 L M, m_k_1346 L M, m_k_1347 L M, m_k_1348 L M, m_k_1349 L M, kE]
    exact b01_z _
