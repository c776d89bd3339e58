/-! WHERE COPIES WERE: stays, and who can have met whom -/
def staysQ (A : Nat → Int32) (c : Int32) : Bool := anyN (nS A) fun s => decide (A (36 + 4 * s) = c)
def metQ (A : Nat → Int32) (s t : Nat) : Bool := decide (A (36 + 4 * s + 1) = A (36 + 4 * t + 1)) && (decide (A (36 + 4 * s + 2) ≤ A (36 + 4 * t + 3)) && decide (A (36 + 4 * t + 2) ≤ A (36 + 4 * s + 3)))
/-- a copy was where a stay was, within its years -/
def duringQ (A : Nat → Int32) (c : Int32) (s : Nat) : Bool := anyN (nS A) fun t => decide (A (36 + 4 * t) = c) && metQ A s t
def meetQ (A : Nat → Int32) (a b : Int32) : Bool := !staysQ A a || !staysQ A b || anyN (nS A) fun s => decide (A (36 + 4 * s) = a) && duringQ A b s
theorem metQ_symm (A : Nat → Int32) (s t : Nat) : metQ A s t = metQ A t s := by
  unfold metQ
  rw [Bool.and_comm (decide (A (36 + 4 * s + 2) ≤ A (36 + 4 * t + 3)))]
  congr 1
  exact decide_eq_decide.mpr eq_comm
theorem meetQ_symm (A : Nat → Int32) (a b : Int32) : meetQ A a b = meetQ A b a := by
  unfold meetQ
  rw [Bool.or_comm (!staysQ A a)]
  congr 1
  have : ∀ x y : Int32, (anyN (nS A) fun s => decide (A (36 + 4 * s) = x) && duringQ A y s) = true → (anyN (nS A) fun s => decide (A (36 + 4 * s) = y) && duringQ A x s) = true := fun x y q => by
    obtain ⟨s, hs, q⟩ := anyN_true.mp q
    rw [Bool.and_eq_true] at q
    obtain ⟨t, ht, q2⟩ := anyN_true.mp q.2
    rw [Bool.and_eq_true] at q2
    refine anyN_true.mpr ⟨t, ht, ?_⟩
    rw [Bool.and_eq_true]
    refine ⟨q2.1, anyN_true.mpr ⟨s, hs, ?_⟩⟩
    rw [Bool.and_eq_true, metQ_symm]
    exact ⟨q.1, q2.2⟩
  exact Bool.eq_iff_iff.mpr ⟨this a b, this b a⟩
theorem if_not_lt {α : Type} (x y : Int32) (a b : α) : (if x < y then a else b) = if y ≤ x then b else a := by
  by_cases h : x < y
  · rw [if_pos h, if_neg (fun q => Int32.not_lt.mpr q h)]
  · rw [if_neg h, if_pos (Int32.not_lt.mp h)]
theorem c_metDuring {h : pg_H} {A : Nat → Int32} (L : Lay h) (C : CNum h 2 A) (K : ShOK A) (c : Int32) {s : Nat} (hs : s < nS A) : F_X5_metDuring h 2 c (nI s) = some (b01 (duringQ A c s)) := by
  have kS : nS A < 41 := K.1.2.1.2
  unfold F_X5_metDuring
  have hi := hs
  simp only [Option.bind_some, if_true, if_false, Int32.lt_irrefl, rc_2 L, gR_2_0 L, gR_2_1 L, gR_2_2 L, gR_2_3 L, gR_2_4 L, gR_2_5 L, gR_2_6 L, c_rcv_3 C, c_rcv_5 C, c_rcv_7 C, c_rcv_9 C, c_rcv_11 C, c_size_3 C, c_size_5 C, c_size_7 C, c_size_9 C, c_size_11 C, c_at_5_0 C hi, c_at_5_1 C hi, c_at_5_2 C hi, c_at_5_3 C hi]
  have z := loopA (fun f i => F_X5_metDuring_35 h f 2 c (A (36 + 4 * s + 1)) (A (36 + 4 * s + 2)) (A (36 + 4 * s + 3)) (nI i)) (nS A) (fun i => decide (A (36 + 4 * i) = c) && metQ A s i) (some 1) (some 0) ?_ ?_ ?_ pg_fuel (by unfold pg_fuel; omega)
  · rw [some_b01] at z
    exact z
  · clear hi
    intro f i hi hp
    show F_X5_metDuring_35 h (f + 1) 2 c (A (36 + 4 * s + 1)) (A (36 + 4 * s + 2)) (A (36 + 4 * s + 3)) (nI i) = F_X5_metDuring_35 h f 2 c (A (36 + 4 * s + 1)) (A (36 + 4 * s + 2)) (A (36 + 4 * s + 3)) (nI (i + 1))
    rw [F_X5_metDuring_35]
    dsimp only
    simp only [Option.bind_some, if_true, if_false, Int32.lt_irrefl, rc_2 L, gR_2_0 L, gR_2_1 L, gR_2_2 L, gR_2_3 L, gR_2_4 L, gR_2_5 L, gR_2_6 L, c_rcv_3 C, c_rcv_5 C, c_rcv_7 C, c_rcv_9 C, c_rcv_11 C, c_size_3 C, c_size_5 C, c_size_7 C, c_size_9 C, c_size_11 C, c_at_5_0 C hi, c_at_5_1 C hi, c_at_5_2 C hi, c_at_5_3 C hi, F_X5_metDuring_107, nI_1, nI_ltI (show i < 2 ^ 31 by omega) (show nS A < 2 ^ 31 by omega), hi, if_not_lt (A (36 + 4 * s + 3)), if_not_lt (A (36 + 4 * i + 3))]
    by_cases e1 : A (36 + 4 * i) = c
    · by_cases e2 : A (36 + 4 * i + 1) = A (36 + 4 * s + 1)
      · by_cases e3 : A (36 + 4 * i + 2) ≤ A (36 + 4 * s + 3)
        · by_cases e4 : A (36 + 4 * s + 2) ≤ A (36 + 4 * i + 3)
          · exfalso
            unfold metQ at hp
            rw [decide_eq_true e1, decide_eq_true e2.symm, decide_eq_true e3, decide_eq_true e4] at hp
            cases hp
          · simp only [e1, e2, e3, e4, if_true, if_false]
        · simp only [e1, e2, e3, if_true, if_false]
      · simp only [e1, e2, if_true, if_false]
    · simp only [e1, if_false]
  · clear hi
    intro f i hi hp
    rw [Bool.and_eq_true, decide_eq_true_eq] at hp
    obtain ⟨e1, hp⟩ := hp
    unfold metQ at hp
    rw [Bool.and_eq_true, Bool.and_eq_true, decide_eq_true_eq, decide_eq_true_eq, decide_eq_true_eq] at hp
    obtain ⟨e2, e4, e3⟩ := hp
    show F_X5_metDuring_35 h (f + 1) 2 c (A (36 + 4 * s + 1)) (A (36 + 4 * s + 2)) (A (36 + 4 * s + 3)) (nI i) = _
    rw [F_X5_metDuring_35]
    dsimp only
    simp only [Option.bind_some, if_true, if_false, Int32.lt_irrefl, rc_2 L, gR_2_0 L, gR_2_1 L, gR_2_2 L, gR_2_3 L, gR_2_4 L, gR_2_5 L, gR_2_6 L, c_rcv_3 C, c_rcv_5 C, c_rcv_7 C, c_rcv_9 C, c_rcv_11 C, c_size_3 C, c_size_5 C, c_size_7 C, c_size_9 C, c_size_11 C, c_at_5_0 C hi, c_at_5_1 C hi, c_at_5_2 C hi, c_at_5_3 C hi, nI_ltI (show i < 2 ^ 31 by omega) (show nS A < 2 ^ 31 by omega), hi, if_not_lt (A (36 + 4 * s + 3)), if_not_lt (A (36 + 4 * i + 3)), e1, e2.symm, e3, e4]
  · intro f
    show F_X5_metDuring_35 h (f + 1) 2 c (A (36 + 4 * s + 1)) (A (36 + 4 * s + 2)) (A (36 + 4 * s + 3)) (nI (nS A)) = _
    rw [F_X5_metDuring_35]
    dsimp only
    simp only [Option.bind_some, if_true, if_false, Int32.lt_irrefl, rc_2 L, gR_2_0 L, gR_2_1 L, gR_2_2 L, gR_2_3 L, gR_2_4 L, gR_2_5 L, gR_2_6 L, c_rcv_3 C, c_rcv_5 C, c_rcv_7 C, c_rcv_9 C, c_rcv_11 C, c_size_3 C, c_size_5 C, c_size_7 C, c_size_9 C, c_size_11 C]
theorem m_hasStays {h : pg_H} {A : Nat → Int32} (L : Lay h) (M : pg_i h 83 = A) (K : ShOK A) (c : Int32) : F_X12_hasStays h 81 c = some (b01 (staysQ A c)) := by
  have kS : nS A < 41 := K.1.2.1.2
  have kE : A 1345 = nI (nS A) := K.1.2.1.1
  unfold F_X12_hasStays
  have z := loopA (fun f i => F_X12_hasStays_2 h f 81 c (nI i)) (nS A) (fun i => decide (A (36 + 4 * i) = c)) (some 1) (some 0) ?_ ?_ ?_ pg_fuel (by unfold pg_fuel; omega)
  · rw [some_b01] at z
    exact z
  · intro f i hi hp
    have h2 : i < 40 := by omega
    show F_X12_hasStays_2 h (f + 1) 81 c (nI i) = F_X12_hasStays_2 h f 81 c (nI (i + 1))
    rw [F_X12_hasStays_2]
    dsimp only
    simp only [Option.bind_some, if_true, if_false, Int32.lt_irrefl, rc_81 L, gR_81_2 L, gR_81_3 L, gR_81_4 L, gR_81_5 L, gR_81_7 L, gR_81_8 L, gR_81_9 L, gR_81_12 L, gR_81_13 L, gR_81_14 L, gR_81_22 L, gR_81_25 L, gR_81_26 L, gR_81_27 L, gR_81_28 L, gR_81_29 L, gR_81_32 L, gR_81_33 L, gR_81_34 L, gR_81_35 L, gR_81_36 L, gR_81_37 L, gR_81_38 L, gR_81_39 L, gR_81_40 L, gR_81_41 L, gR_81_42 L, gR_81_43 L, m_k_1344 L M, m_k_1345 L M, m_k_1346 L M, m_k_1347 L M, m_k_1348 L M, m_k_1349 L M, m_stay_0 L M h2, m_stay_1 L M h2, m_stay_2 L M h2, m_stay_3 L M h2, kE, nI_1, nI_ltI (show i < 2 ^ 31 by omega) (show nS A < 2 ^ 31 by omega), hi, of_decide_eq_false hp]
  · intro f i hi hp
    have h2 : i < 40 := by omega
    show F_X12_hasStays_2 h (f + 1) 81 c (nI i) = _
    rw [F_X12_hasStays_2]
    dsimp only
    simp only [Option.bind_some, if_true, if_false, Int32.lt_irrefl, rc_81 L, gR_81_2 L, gR_81_3 L, gR_81_4 L, gR_81_5 L, gR_81_7 L, gR_81_8 L, gR_81_9 L, gR_81_12 L, gR_81_13 L, gR_81_14 L, gR_81_22 L, gR_81_25 L, gR_81_26 L, gR_81_27 L, gR_81_28 L, gR_81_29 L, gR_81_32 L, gR_81_33 L, gR_81_34 L, gR_81_35 L, gR_81_36 L, gR_81_37 L, gR_81_38 L, gR_81_39 L, gR_81_40 L, gR_81_41 L, gR_81_42 L, gR_81_43 L, m_k_1344 L M, m_k_1345 L M, m_k_1346 L M, m_k_1347 L M, m_k_1348 L M, m_k_1349 L M, m_stay_0 L M h2, m_stay_1 L M h2, m_stay_2 L M h2, m_stay_3 L M h2, kE, nI_1, nI_ltI (show i < 2 ^ 31 by omega) (show nS A < 2 ^ 31 by omega), hi, of_decide_eq_true hp]
  · intro f
    show F_X12_hasStays_2 h (f + 1) 81 c (nI (nS A)) = _
    rw [F_X12_hasStays_2]
    dsimp only
    simp only [Option.bind_some, if_true, if_false, Int32.lt_irrefl, rc_81 L, gR_81_2 L, gR_81_3 L, gR_81_4 L, gR_81_5 L, gR_81_7 L, gR_81_8 L, gR_81_9 L, gR_81_12 L, gR_81_13 L, gR_81_14 L, gR_81_22 L, gR_81_25 L, gR_81_26 L, gR_81_27 L, gR_81_28 L, gR_81_29 L, gR_81_32 L, gR_81_33 L, gR_81_34 L, gR_81_35 L, gR_81_36 L, gR_81_37 L, gR_81_38 L, gR_81_39 L, gR_81_40 L, gR_81_41 L, gR_81_42 L, gR_81_43 L, m_k_1344 L M, m_k_1345 L M, m_k_1346 L M, m_k_1347 L M, m_k_1348 L M, m_k_1349 L M, kE]
