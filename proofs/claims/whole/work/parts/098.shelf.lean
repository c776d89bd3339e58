/-! THE SHELF'S READERS, class and reference (wip/src, wip/gen/pp.py) -/
def isInQ (A : Nat → Int32) (c k : Int32) : Bool := anyN (nN A) fun n => decide (A (340 + 5 * n) = c) && decide (A (340 + 5 * n + 3) = k)
theorem foldN_or {N n : Nat} {p : Nat → Bool} {g : Nat → Nat} (hg : ∀ i, i < N → p i = true → g i < n) : foldN N (fun i x => x ||| (if p i then 2 ^ g i else 0)) 0 = mk n (fun c => anyN N fun i => p i && decide (g i = c)) := by
  induction N with
  | zero => exact mk_zero n
  | succ N ih =>
    show foldN N (fun i x => x ||| (if p i then 2 ^ g i else 0)) 0 ||| (if p N then 2 ^ g N else 0) = _
    rw [ih (fun i hi => hg i (by omega))]
    by_cases h : p N = true
    · rw [if_pos h, mk_pow (hg N (by omega) h), mk_or]
      refine mk_cong (fun c _ => ?_)
      show _ = (anyN N (fun i => p i && decide (g i = c)) || (p N && decide (g N = c)))
      rw [h, Bool.true_and]
      congr 1
      exact decide_eq_decide.mpr eq_comm
    · rw [if_neg h, Nat.or_zero]
      refine mk_cong (fun c _ => ?_)
      show _ = (anyN N (fun i => p i && decide (g i = c)) || (p N && decide (g N = c)))
      have h' : p N = false := by
        cases q : p N with
        | false => rfl
        | true => exact absurd q h
      rw [h', Bool.false_and, Bool.or_false]
/-- copies with a hand -/
theorem c_copiesWithHand {h : pg_H} {A : Nat → Int32} (L : Lay h) (C : CNum h 2 A) (K : ShOK A) (k : Int32) : F_X5_copiesWithHand h 2 k = some (nI (mk 12 fun c => isInQ A (nI c) k)) := by
  have kN : nN A < 201 := K.1.2.2.2.1.2
  have kC : nC A < 13 := K.1.1.2
  unfold F_X5_copiesWithHand
  have z := loopF (fun f i x => F_X5_copiesWithHand_4 h f 2 k (nI x) (nI i)) (nN A) (fun i x => x ||| (if decide (A (340 + 5 * i + 3) = k) then 2 ^ nt A i 0 else 0)) (some (nI (foldN (nN A) (fun i x => x ||| (if decide (A (340 + 5 * i + 3) = k) then 2 ^ nt A i 0 else 0)) 0))) (fun _ _ => True) 0 ?_ (fun _ _ _ _ _ => trivial) ?_ trivial pg_fuel (by unfold pg_fuel; omega)
  · refine z.trans (congrArg (fun x => some (nI x)) ?_)
    refine (foldN_or (n := 12) (g := fun i => nt A i 0) (fun i hi _ => Nat.lt_of_lt_of_le (K.2.2.2.2.2.1 i hi).1.2 (by omega))).trans ?_
    refine mk_cong (fun c hc => anyN_cong (fun i hi => ?_))
    rw [Bool.and_comm]
    congr 1
    have q := (K.2.2.2.2.2.1 i hi).1
    rw [q.1]
    exact decide_eq_decide.mpr (nI_eq (Nat.lt_trans q.2 (by omega)) (by omega)).symm
  · intro f i x hi _ _
    have q := (K.2.2.2.2.2.1 i hi).1
    have q2 : nt A i 0 < 13 := Nat.lt_trans q.2 (by omega)
    show F_X5_copiesWithHand_4 h (f + 1) 2 k (nI x) (nI i) = F_X5_copiesWithHand_4 h f 2 k (nI (x ||| (if decide (A (340 + 5 * i + 3) = k) then 2 ^ nt A i 0 else 0))) (nI (i + 1))
    rw [F_X5_copiesWithHand_4]
    dsimp only
    simp only [Option.bind_some, if_true, if_false, Int32.lt_irrefl, rc_2 L, gR_2_0 L, gR_2_1 L, gR_2_2 L, gR_2_3 L, gR_2_4 L, gR_2_5 L, gR_2_6 L, c_rcv_3 C, c_rcv_5 C, c_rcv_7 C, c_rcv_9 C, c_rcv_11 C, c_size_3 C, c_size_5 C, c_size_7 C, c_size_9 C, c_size_11 C, c_at_11_0 C hi, c_at_11_1 C hi, c_at_11_2 C hi, c_at_11_3 C hi, c_at_11_4 C hi, F_X5_copiesWithHand_44, pg_let, nI_1, nI_ltI (show i < 2 ^ 31 by omega) (show nN A < 2 ^ 31 by omega), hi]
    by_cases e : A (340 + 5 * i + 3) = k
    · simp only [e, if_true, decide_true]
      rw [q.1, ix_shl _ (show cl A (340 + 5 * i) < 32 from Nat.lt_trans q2 (by decide)), ix_or]
      rfl
    · simp only [e, if_false, decide_false, Bool.false_eq_true]
      rw [show (0 : Int32) = nI 0 from rfl, ix_or]
  · intro f _
    show F_X5_copiesWithHand_4 h (f + 1) 2 k (nI (foldN _ _ 0)) (nI (nN A)) = _
    rw [F_X5_copiesWithHand_4]
    dsimp only
    simp only [Option.bind_some, if_true, if_false, Int32.lt_irrefl, rc_2 L, gR_2_0 L, gR_2_1 L, gR_2_2 L, gR_2_3 L, gR_2_4 L, gR_2_5 L, gR_2_6 L, c_rcv_3 C, c_rcv_5 C, c_rcv_7 C, c_rcv_9 C, c_rcv_11 C, c_size_3 C, c_size_5 C, c_size_7 C, c_size_9 C, c_size_11 C]
/-- the hands in a copy -/
theorem c_handsIn {h : pg_H} {A : Nat → Int32} (L : Lay h) (C : CNum h 2 A) (K : ShOK A) (c : Int32) : F_X5_handsIn h 2 c = some (nI (mk 12 fun k => isInQ A c (nI k))) := by
  have kN : nN A < 201 := K.1.2.2.2.1.2
  have kH : nH A < 13 := K.1.2.2.1.2
  unfold F_X5_handsIn
  have z := loopF (fun f i x => F_X5_handsIn_4 h f 2 c (nI x) (nI i)) (nN A) (fun i x => x ||| (if decide (A (340 + 5 * i) = c) && decide (A (340 + 5 * i + 3) ≠ -1) then 2 ^ nt A i 3 else 0)) (some (nI (foldN (nN A) (fun i x => x ||| (if decide (A (340 + 5 * i) = c) && decide (A (340 + 5 * i + 3) ≠ -1) then 2 ^ nt A i 3 else 0)) 0))) (fun _ _ => True) 0 ?_ (fun _ _ _ _ _ => trivial) ?_ trivial pg_fuel (by unfold pg_fuel; omega)
  · refine z.trans (congrArg (fun x => some (nI x)) ?_)
    refine (foldN_or (n := 12) (g := fun i => nt A i 3) (fun i hi q => by
      rw [Bool.and_eq_true, decide_eq_true_eq, decide_eq_true_eq] at q
      rcases (K.2.2.2.2.2.1 i hi).2.2.2.1 with e | e
      · exact absurd e q.2
      · exact Nat.lt_of_lt_of_le e.2 (by omega))).trans ?_
    refine mk_cong (fun k hk => anyN_cong (fun i hi => ?_))
    rw [Bool.and_assoc]
    congr 1
    rcases (K.2.2.2.2.2.1 i hi).2.2.2.1 with e | e
    · rw [e, decide_eq_false (fun q => q rfl), Bool.false_and]
      refine (decide_eq_false (fun q => ?_)).symm
      have := congrArg Int32.toInt q
      rw [nI_toInt (by omega)] at this
      have t : (-1 : Int32).toInt = -1 := by decide
      omega
    · have e2 : cl A (340 + 5 * i + 3) < 2 ^ 31 := Nat.lt_trans e.2 (by omega)
      have n1 : A (340 + 5 * i + 3) ≠ -1 := fun q => by
        have := congrArg Int32.toInt q
        rw [e.1, nI_toInt e2] at this
        have t : (-1 : Int32).toInt = -1 := by decide
        omega
      rw [decide_eq_true n1, Bool.true_and]
      exact decide_eq_decide.mpr (by rw [e.1, nI_eq e2 (by omega)]; rfl)
  · intro f i x hi _ _
    show F_X5_handsIn_4 h (f + 1) 2 c (nI x) (nI i) = F_X5_handsIn_4 h f 2 c (nI (x ||| (if decide (A (340 + 5 * i) = c) && decide (A (340 + 5 * i + 3) ≠ -1) then 2 ^ nt A i 3 else 0))) (nI (i + 1))
    rw [F_X5_handsIn_4]
    dsimp only
    simp only [Option.bind_some, if_true, if_false, Int32.lt_irrefl, rc_2 L, gR_2_0 L, gR_2_1 L, gR_2_2 L, gR_2_3 L, gR_2_4 L, gR_2_5 L, gR_2_6 L, c_rcv_3 C, c_rcv_5 C, c_rcv_7 C, c_rcv_9 C, c_rcv_11 C, c_size_3 C, c_size_5 C, c_size_7 C, c_size_9 C, c_size_11 C, c_at_11_0 C hi, c_at_11_1 C hi, c_at_11_2 C hi, c_at_11_3 C hi, c_at_11_4 C hi, F_X5_handsIn_49, F_X5_handsIn_50, F_X5_handsIn_66, pg_let, nI_1, nI_ltI (show i < 2 ^ 31 by omega) (show nN A < 2 ^ 31 by omega), hi]
    by_cases e : A (340 + 5 * i) = c
    · rcases (K.2.2.2.2.2.1 i hi).2.2.2.1 with e3 | e3
      · simp only [e, e3, if_true, decide_true, ne_eq, not_true_eq_false, decide_false, Bool.and_false, Bool.false_eq_true, if_false]
        rw [show (0 : Int32) = nI 0 from rfl, ix_or]
      · have e2 : cl A (340 + 5 * i + 3) < 13 := Nat.lt_trans e3.2 (by omega)
        have n1 : ¬ A (340 + 5 * i + 3) = -1 := fun q => by
          have := congrArg Int32.toInt q
          rw [e3.1, nI_toInt (by omega)] at this
          have t : (-1 : Int32).toInt = -1 := by decide
          omega
        simp only [e, n1, if_true, if_false, decide_true, ne_eq, not_false_eq_true, Bool.and_self, show ¬ ((1 : Int32) = 0) from by decide]
        rw [e3.1, ix_shl _ (show cl A (340 + 5 * i + 3) < 32 by omega), ix_or]
        rfl
    · simp only [e, if_true, if_false, decide_false, Bool.false_and, Bool.false_eq_true]
      rw [show (0 : Int32) = nI 0 from rfl, ix_or]
  · intro f _
    show F_X5_handsIn_4 h (f + 1) 2 c (nI (foldN _ _ 0)) (nI (nN A)) = _
    rw [F_X5_handsIn_4]
    dsimp only
    simp only [Option.bind_some, if_true, if_false, Int32.lt_irrefl, rc_2 L, gR_2_0 L, gR_2_1 L, gR_2_2 L, gR_2_3 L, gR_2_4 L, gR_2_5 L, gR_2_6 L, c_rcv_3 C, c_rcv_5 C, c_rcv_7 C, c_rcv_9 C, c_rcv_11 C, c_size_3 C, c_size_5 C, c_size_7 C, c_size_9 C, c_size_11 C]
