/-! WHO CAN HAVE MET WHOM, by both sides -/
theorem m_canMeet {h : pg_H} {A : Nat → Int32} (L : Lay h) (M : pg_i h 83 = A) (K : ShOK A) (a b : Int32) : F_X12_canMeet h 81 a b = some (b01 (meetQ A a b)) := by
  have kS : nS A < 41 := K.1.2.1.2
  have kE : A 1345 = nI (nS A) := K.1.2.1.1
  unfold F_X12_canMeet
  rw [rc_81 L, m_hasStays L M K, Option.bind_some]
  unfold meetQ
  cases ea : staysQ A a with
  | false => exact if_pos rfl
  | true =>
    rw [if_neg (by decide), rc_81 L, m_hasStays L M K, Option.bind_some]
    cases eb : staysQ A b with
    | false => exact if_pos rfl
    | true =>
      rw [if_neg (by decide)]
      have inner : ∀ (k : Nat → Int32 → Int32 → Int32 → Option Int32) (s : Nat), s < nS A → F_X12_canMeet_48 h k pg_fuel 81 a b (nI s) 0 = if duringQ A b s then some 1 else k 81 a b (nI (s + 1)) := by
        intro k s hs
        have h3 : s < 40 := by omega
        have z := loopA (fun f i => F_X12_canMeet_48 h k f 81 a b (nI s) (nI i)) (nS A) (fun i => decide (A (36 + 4 * i) = b) && metQ A s i) (some 1) (k 81 a b (nI (s + 1))) ?_ ?_ ?_ pg_fuel (by unfold pg_fuel; omega)
        · exact z
        · intro f i hi hp
          have h2 : i < 40 := by omega
          show F_X12_canMeet_48 h k (f + 1) 81 a b (nI s) (nI i) = F_X12_canMeet_48 h k f 81 a b (nI s) (nI (i + 1))
          rw [F_X12_canMeet_48]
          dsimp only
          simp only [Option.bind_some, if_true, if_false, Int32.lt_irrefl, rc_81 L, gR_81_2 L, gR_81_3 L, gR_81_4 L, gR_81_5 L, gR_81_7 L, gR_81_8 L, gR_81_9 L, gR_81_12 L, gR_81_13 L, gR_81_14 L, gR_81_22 L, gR_81_25 L, gR_81_26 L, gR_81_27 L, gR_81_28 L, gR_81_29 L, gR_81_32 L, gR_81_33 L, gR_81_34 L, gR_81_35 L, gR_81_36 L, gR_81_37 L, gR_81_38 L, gR_81_39 L, gR_81_40 L, gR_81_41 L, gR_81_42 L, gR_81_43 L, m_k_1344 L M, m_k_1345 L M, m_k_1346 L M, m_k_1347 L M, m_k_1348 L M, m_k_1349 L M, m_stay_0 L M h2, m_stay_1 L M h2, m_stay_2 L M h2, m_stay_3 L M h2, m_stay_1 L M h3, m_stay_2 L M h3, m_stay_3 L M h3, kE, F_X12_canMeet_122, nI_1, nI_ltI (show i < 2 ^ 31 by omega) (show nS A < 2 ^ 31 by omega), hi, if_not_lt (A (36 + 4 * s + 3)), if_not_lt (A (36 + 4 * i + 3))]
          by_cases e1 : A (36 + 4 * i) = b
          · by_cases e2 : A (36 + 4 * s + 1) = A (36 + 4 * i + 1)
            · by_cases e3 : A (36 + 4 * s + 2) ≤ A (36 + 4 * i + 3)
              · by_cases e4 : A (36 + 4 * i + 2) ≤ A (36 + 4 * s + 3)
                · exfalso
                  unfold metQ at hp
                  rw [decide_eq_true e1, decide_eq_true e2, decide_eq_true e3, decide_eq_true e4] at hp
                  cases hp
                · simp only [e1, e2, e3, e4, if_true, if_false]
              · simp only [e1, e2, e3, if_true, if_false]
            · simp only [e1, e2, if_true, if_false]
          · simp only [e1, if_false]
        · intro f i hi hp
          have h2 : i < 40 := by omega
          rw [Bool.and_eq_true, decide_eq_true_eq] at hp
          obtain ⟨e1, hp⟩ := hp
          unfold metQ at hp
          rw [Bool.and_eq_true, Bool.and_eq_true, decide_eq_true_eq, decide_eq_true_eq, decide_eq_true_eq] at hp
          obtain ⟨e2, e3, e4⟩ := hp
          show F_X12_canMeet_48 h k (f + 1) 81 a b (nI s) (nI i) = _
          rw [F_X12_canMeet_48]
          dsimp only
          simp only [Option.bind_some, if_true, if_false, Int32.lt_irrefl, rc_81 L, gR_81_2 L, gR_81_3 L, gR_81_4 L, gR_81_5 L, gR_81_7 L, gR_81_8 L, gR_81_9 L, gR_81_12 L, gR_81_13 L, gR_81_14 L, gR_81_22 L, gR_81_25 L, gR_81_26 L, gR_81_27 L, gR_81_28 L, gR_81_29 L, gR_81_32 L, gR_81_33 L, gR_81_34 L, gR_81_35 L, gR_81_36 L, gR_81_37 L, gR_81_38 L, gR_81_39 L, gR_81_40 L, gR_81_41 L, gR_81_42 L, gR_81_43 L, m_k_1344 L M, m_k_1345 L M, m_k_1346 L M, m_k_1347 L M, m_k_1348 L M, m_k_1349 L M, m_stay_0 L M h2, m_stay_1 L M h2, m_stay_2 L M h2, m_stay_3 L M h2, m_stay_1 L M h3, m_stay_2 L M h3, m_stay_3 L M h3, kE, nI_ltI (show i < 2 ^ 31 by omega) (show nS A < 2 ^ 31 by omega), hi, if_not_lt (A (36 + 4 * s + 3)), if_not_lt (A (36 + 4 * i + 3)), e1, e2, e3, e4]
        · intro f
          show F_X12_canMeet_48 h k (f + 1) 81 a b (nI s) (nI (nS A)) = _
          rw [F_X12_canMeet_48]
          dsimp only
          simp only [Option.bind_some, if_true, if_false, Int32.lt_irrefl, rc_81 L, gR_81_2 L, gR_81_3 L, gR_81_4 L, gR_81_5 L, gR_81_7 L, gR_81_8 L, gR_81_9 L, gR_81_12 L, gR_81_13 L, gR_81_14 L, gR_81_22 L, gR_81_25 L, gR_81_26 L, gR_81_27 L, gR_81_28 L, gR_81_29 L, gR_81_32 L, gR_81_33 L, gR_81_34 L, gR_81_35 L, gR_81_36 L, gR_81_37 L, gR_81_38 L, gR_81_39 L, gR_81_40 L, gR_81_41 L, gR_81_42 L, gR_81_43 L, m_k_1344 L M, m_k_1345 L M, m_k_1346 L M, m_k_1347 L M, m_k_1348 L M, m_k_1349 L M, kE, F_X12_canMeet_128, nI_1]
      have z := loopA (fun f i => F_X12_canMeet_20 h f 81 a b (nI i)) (nS A) (fun i => decide (A (36 + 4 * i) = a) && duringQ A b i) (some 1) (some 0) ?_ ?_ ?_ pg_fuel (by unfold pg_fuel; omega)
      · rw [some_b01] at z
        exact z
      · intro f i hi hp
        have h2 : i < 40 := by omega
        show F_X12_canMeet_20 h (f + 1) 81 a b (nI i) = F_X12_canMeet_20 h f 81 a b (nI (i + 1))
        rw [F_X12_canMeet_20]
        dsimp only
        simp only [Option.bind_some, if_true, if_false, Int32.lt_irrefl, rc_81 L, gR_81_2 L, gR_81_3 L, gR_81_4 L, gR_81_5 L, gR_81_7 L, gR_81_8 L, gR_81_9 L, gR_81_12 L, gR_81_13 L, gR_81_14 L, gR_81_22 L, gR_81_25 L, gR_81_26 L, gR_81_27 L, gR_81_28 L, gR_81_29 L, gR_81_32 L, gR_81_33 L, gR_81_34 L, gR_81_35 L, gR_81_36 L, gR_81_37 L, gR_81_38 L, gR_81_39 L, gR_81_40 L, gR_81_41 L, gR_81_42 L, gR_81_43 L, m_k_1344 L M, m_k_1345 L M, m_k_1346 L M, m_k_1347 L M, m_k_1348 L M, m_k_1349 L M, m_stay_0 L M h2, m_stay_1 L M h2, m_stay_2 L M h2, m_stay_3 L M h2, kE, F_X12_canMeet_128, nI_1, nI_ltI (show i < 2 ^ 31 by omega) (show nS A < 2 ^ 31 by omega), hi, inner (F_X12_canMeet_20 h f) i hi]
        by_cases e1 : A (36 + 4 * i) = a
        · rw [decide_eq_true e1, Bool.true_and] at hp
          simp only [e1, hp, if_true, if_false, Bool.false_eq_true]
        · simp only [e1, if_false]
      · intro f i hi hp
        have h2 : i < 40 := by omega
        rw [Bool.and_eq_true, decide_eq_true_eq] at hp
        show F_X12_canMeet_20 h (f + 1) 81 a b (nI i) = _
        rw [F_X12_canMeet_20]
        dsimp only
        simp only [Option.bind_some, if_true, if_false, Int32.lt_irrefl, rc_81 L, gR_81_2 L, gR_81_3 L, gR_81_4 L, gR_81_5 L, gR_81_7 L, gR_81_8 L, gR_81_9 L, gR_81_12 L, gR_81_13 L, gR_81_14 L, gR_81_22 L, gR_81_25 L, gR_81_26 L, gR_81_27 L, gR_81_28 L, gR_81_29 L, gR_81_32 L, gR_81_33 L, gR_81_34 L, gR_81_35 L, gR_81_36 L, gR_81_37 L, gR_81_38 L, gR_81_39 L, gR_81_40 L, gR_81_41 L, gR_81_42 L, gR_81_43 L, m_k_1344 L M, m_k_1345 L M, m_k_1346 L M, m_k_1347 L M, m_k_1348 L M, m_k_1349 L M, m_stay_0 L M h2, m_stay_1 L M h2, m_stay_2 L M h2, m_stay_3 L M h2, kE, nI_ltI (show i < 2 ^ 31 by omega) (show nS A < 2 ^ 31 by omega), hi, inner (F_X12_canMeet_20 h f) i hi, hp.1, hp.2]
      · intro f
        show F_X12_canMeet_20 h (f + 1) 81 a b (nI (nS A)) = _
        rw [F_X12_canMeet_20]
        dsimp only
        simp only [Option.bind_some, if_true, if_false, Int32.lt_irrefl, rc_81 L, gR_81_2 L, gR_81_3 L, gR_81_4 L, gR_81_5 L, gR_81_7 L, gR_81_8 L, gR_81_9 L, gR_81_12 L, gR_81_13 L, gR_81_14 L, gR_81_22 L, gR_81_25 L, gR_81_26 L, gR_81_27 L, gR_81_28 L, gR_81_29 L, gR_81_32 L, gR_81_33 L, gR_81_34 L, gR_81_35 L, gR_81_36 L, gR_81_37 L, gR_81_38 L, gR_81_39 L, gR_81_40 L, gR_81_41 L, gR_81_42 L, gR_81_43 L, m_k_1344 L M, m_k_1345 L M, m_k_1346 L M, m_k_1347 L M, m_k_1348 L M, m_k_1349 L M, kE]
theorem c_allCopies {h : pg_H} {A : Nat → Int32} (L : Lay h) (C : CNum h 2 A) (K : ShOK A) : F_X5_allCopies h 2 = some (nI (mk 12 fun i => decide (i < nC A))) := by
  have kC : nC A < 13 := K.1.1.2
  unfold F_X5_allCopies
  simp only [Option.bind_some, if_true, if_false, Int32.lt_irrefl, rc_2 L, gR_2_0 L, gR_2_1 L, gR_2_2 L, gR_2_3 L, gR_2_4 L, gR_2_5 L, gR_2_6 L, c_rcv_3 C, c_rcv_5 C, c_rcv_7 C, c_rcv_9 C, c_rcv_11 C, c_size_3 C, c_size_5 C, c_size_7 C, c_size_9 C, c_size_11 C]
  rw [ix_shl _ (by omega), show (1 : Int32) = nI 1 from rfl]
  have e : nI (2 ^ nC A) - nI 1 = nI (2 ^ nC A - 1) := by
    have : 2 ^ nC A = (2 ^ nC A - 1) + 1 := by have := Nat.two_pow_pos (nC A); omega
    rw [this]
    exact nI_pred _
  rw [e, mk_all]
  exact congrArg (fun x => some (nI x)) ((mk_cong (fun i hi => (decide_eq_true hi).symm)).trans (mk_ext (f := fun i => decide (i < nC A)) (by omega) (fun i h1 _ => decide_eq_false (by omega))))
/-- who may be an exemplar of a copy, and it of them -/
def compQ (A : Nat → Int32) (c o : Nat) : Bool := decide (o < nC A) && (decide (o ≠ c) && meetQ A (nI o) (nI c))
theorem foldN_pair {α β : Type} {N : Nat} {f : Nat → α → α} {g : Nat → β → β} {a : α} {b : β} : foldN N (fun i (x : α × β) => (f i x.1, g i x.2)) (a, b) = (foldN N f a, foldN N g b) := by
  induction N with
  | zero => rfl
  | succ N ih =>
    show (f N (foldN N (fun i (x : α × β) => (f i x.1, g i x.2)) (a, b)).1, g N (foldN N (fun i (x : α × β) => (f i x.1, g i x.2)) (a, b)).2) = _
    rw [ih]
    rfl
theorem c_companions {h : pg_H} {A : Nat → Int32} (L : Lay h) (C : CNum h 2 A) (K : ShOK A) {c : Nat} (hc : c < nC A) : F_X5_companions h 2 (nI c) = some (nI (mk 12 (compQ A c))) := by
  have kS : nS A < 41 := K.1.2.1.2
  have kC : nC A < 13 := K.1.1.2
  have hst : ∀ i, i < nS A → st A i 0 < 12 ∧ A (36 + 4 * i) = nI (st A i 0) := fun i hi => ⟨Nat.lt_of_lt_of_le (K.2.2.1 i hi).1.2 (by omega), (K.2.2.1 i hi).1.1⟩
  unfold F_X5_companions
  have z := loopF (fun f i x => F_X5_companions_7 h f 2 (nI c) (nI (x).1) (nI (x).2) (nI i)) (nS A) (fun i x => ((x).1 ||| (if (fun _ => true) i then 2 ^ st A i 0 else 0), (x).2 ||| (if !decide (A (36 + 4 * i) = nI c) && duringQ A (nI c) i then 2 ^ st A i 0 else 0))) (some (nI (mk 12 (compQ A c)))) (fun _ _ => True) ((0 : Nat), (0 : Nat)) ?_ (fun _ _ _ _ _ => trivial) ?_ trivial pg_fuel (by unfold pg_fuel; omega)
  · exact z
  · intro f i x hi _ _
    obtain ⟨q1, q2⟩ := hst i hi
    show F_X5_companions_7 h (f + 1) 2 (nI c) (nI (x).1) (nI (x).2) (nI i) = F_X5_companions_7 h f 2 (nI c) (nI ((((x).1 ||| (if (fun _ => true) i then 2 ^ st A i 0 else 0), (x).2 ||| (if !decide (A (36 + 4 * i) = nI c) && duringQ A (nI c) i then 2 ^ st A i 0 else 0)))).1) (nI ((((x).1 ||| (if (fun _ => true) i then 2 ^ st A i 0 else 0), (x).2 ||| (if !decide (A (36 + 4 * i) = nI c) && duringQ A (nI c) i then 2 ^ st A i 0 else 0)))).2) (nI (i + 1))
    rw [F_X5_companions_7]
    dsimp only
    simp only [Option.bind_some, if_true, if_false, Int32.lt_irrefl, rc_2 L, gR_2_0 L, gR_2_1 L, gR_2_2 L, gR_2_3 L, gR_2_4 L, gR_2_5 L, gR_2_6 L, c_rcv_3 C, c_rcv_5 C, c_rcv_7 C, c_rcv_9 C, c_rcv_11 C, c_size_3 C, c_size_5 C, c_size_7 C, c_size_9 C, c_size_11 C, c_at_5_0 C hi, c_at_5_1 C hi, c_at_5_2 C hi, c_at_5_3 C hi, F_X5_companions_62, F_X5_companions_63, pg_let, nI_1, nI_ltI (show i < 2 ^ 31 by omega) (show nS A < 2 ^ 31 by omega), hi, c_metDuring L C K (nI c) hi]
    rw [q2, ix_shl _ (show st A i 0 < 32 by omega), ix_or]
    by_cases e : nI (st A i 0) = nI c
    · simp only [e, if_true, decide_true, Bool.not_true, Bool.false_and, Bool.false_eq_true, if_false]
      rw [show (0 : Int32) = nI 0 from rfl, ix_or]
    · simp only [e, if_false, decide_false, Bool.not_false, Bool.true_and]
      cases ed : duringQ A (nI c) i with
      | false =>
        simp only [b01, Bool.false_eq_true, if_false, if_true]
        rw [show (0 : Int32) = nI 0 from rfl, ix_or]
      | true =>
        simp only [b01, if_true, show ¬ ((1 : Int32) = 0) from by decide, if_false]
        rw [ix_or]
  · intro f _
    have hp : (foldN (nS A) (fun i x => ((x).1 ||| (if (fun _ => true) i then 2 ^ st A i 0 else 0), (x).2 ||| (if !decide (A (36 + 4 * i) = nI c) && duringQ A (nI c) i then 2 ^ st A i 0 else 0))) ((0 : Nat), (0 : Nat))) = (mk 12 fun o => anyN (nS A) fun i => true && decide (st A i 0 = o), mk 12 fun o => anyN (nS A) fun i => !decide (A (36 + 4 * i) = nI c) && duringQ A (nI c) i && decide (st A i 0 = o)) :=
      (foldN_pair (f := fun i x => x ||| (if (fun _ => true) i then 2 ^ st A i 0 else 0)) (g := fun i x => x ||| (if !decide (A (36 + 4 * i) = nI c) && duringQ A (nI c) i then 2 ^ st A i 0 else 0))).trans (by rw [foldN_or (n := 12) (p := fun _ => true) (g := fun i => st A i 0) (fun i hi _ => (hst i hi).1), foldN_or (n := 12) (p := fun i => !decide (A (36 + 4 * i) = nI c) && duringQ A (nI c) i) (g := fun i => st A i 0) (fun i hi _ => (hst i hi).1)])
    rw [hp]
    show F_X5_companions_7 h (f + 1) 2 (nI c) (nI (((mk 12 fun o => anyN (nS A) fun i => true && decide (st A i 0 = o), mk 12 fun o => anyN (nS A) fun i => !decide (A (36 + 4 * i) = nI c) && duringQ A (nI c) i && decide (st A i 0 = o)))).1) (nI (((mk 12 fun o => anyN (nS A) fun i => true && decide (st A i 0 = o), mk 12 fun o => anyN (nS A) fun i => !decide (A (36 + 4 * i) = nI c) && duringQ A (nI c) i && decide (st A i 0 = o)))).2) (nI (nS A)) = _
    rw [F_X5_companions_7]
    dsimp only
    simp only [Option.bind_some, if_true, if_false, Int32.lt_irrefl, rc_2 L, gR_2_0 L, gR_2_1 L, gR_2_2 L, gR_2_3 L, gR_2_4 L, gR_2_5 L, gR_2_6 L, c_rcv_3 C, c_rcv_5 C, c_rcv_7 C, c_rcv_9 C, c_rcv_11 C, c_size_3 C, c_size_5 C, c_size_7 C, c_size_9 C, c_size_11 C, c_allCopies L C K, F_X5_companions_84, pg_let]
    rw [ix_bit (Nat.lt_of_lt_of_le (mk_lt _ _) (by decide)) (show c < 32 by omega), mk_bit, decide_eq_true (show c < 12 by omega), Bool.true_and]
    rw [ix_shl _ (show c < 32 by omega), mk_pow (show c < 12 by omega)]
    have hst0 : (anyN (nS A) fun i => true && decide (st A i 0 = c)) = staysQ A (nI c) := anyN_cong (fun i hi => by
      rw [Bool.true_and, (hst i hi).2]
      exact decide_eq_decide.mpr (nI_eq (by have := (hst i hi).1; omega) (by omega)).symm)
    rw [hst0]
    cases es : staysQ A (nI c) with
    | false =>
      simp only [b01, Bool.false_eq_true, if_false, if_true, show ¬ ((1 : Int32) = 0) from by decide]
      rw [ix_not 12 _ _ (by decide)]
      refine congrArg (fun x => some (nI x)) (mk_cong (fun o ho => ?_))
      unfold compQ meetQ
      rw [es]
      cases decide (o < nC A) with
      | false => rfl
      | true =>
        simp
    | true =>
      simp only [b01, show ¬ ((1 : Int32) = 0) from by decide, if_false, if_true]
      rw [ix_not 12 _ _ (by decide), ix_or, mk_or, ix_not 12 _ _ (by decide)]
      refine congrArg (fun x => some (nI x)) (mk_cong (fun o ho => ?_))
      unfold compQ
      have e1 : (anyN (nS A) fun i => true && decide (st A i 0 = o)) = staysQ A (nI o) := anyN_cong (fun i hi => by
        rw [Bool.true_and, (hst i hi).2]
        exact decide_eq_decide.mpr (nI_eq (by have := (hst i hi).1; omega) (by omega)).symm)
      have e2 : decide (o ≠ c) = !decide (o = c) := by
        by_cases q : o = c
        · rw [decide_eq_true q, decide_eq_false (fun z => z q)]
          rfl
        · rw [decide_eq_false q, decide_eq_true q]
          rfl
      rw [e1, e2]
      by_cases q : o = c
      · rw [decide_eq_true q]
        simp
      · rw [decide_eq_false q]
        unfold meetQ
        rw [es]
        have e3 : (anyN (nS A) fun i => !decide (A (36 + 4 * i) = nI c) && duringQ A (nI c) i && decide (st A i 0 = o)) = anyN (nS A) fun s => decide (A (36 + 4 * s) = nI o) && duringQ A (nI c) s := anyN_cong (fun i hi => by
          rw [(hst i hi).2, decide_eq_decide.mpr (nI_eq (show st A i 0 < 2 ^ 31 by have := (hst i hi).1; omega) (show c < 2 ^ 31 by omega)), decide_eq_decide.mpr (nI_eq (show st A i 0 < 2 ^ 31 by have := (hst i hi).1; omega) (show o < 2 ^ 31 by omega))]
          by_cases q2 : st A i 0 = o
          · rw [decide_eq_true q2, decide_eq_false (show ¬ st A i 0 = c by omega)]
            simp
          · rw [decide_eq_false q2]
            simp)
        rw [e3]
        cases es2 : staysQ A (nI o) with
        | false =>
          have e4 : (anyN (nS A) fun s => decide (A (36 + 4 * s) = nI o) && duringQ A (nI c) s) = false := anyN_false.mpr (fun s hs => by
            rw [(anyN_false.mp es2) s hs]
            rfl)
          rw [e4]
          simp
        | true =>
          have e5 : decide (o < nC A) = true := by
            obtain ⟨s, hs, q3⟩ := anyN_true.mp es2
            rw [decide_eq_true_eq, (hst s hs).2, nI_eq (show st A s 0 < 2 ^ 31 by have := (hst s hs).1; omega) (by omega)] at q3
            rw [← q3]
            exact decide_eq_true (K.2.2.1 s hs).1.2
          rw [e5]
          simp
