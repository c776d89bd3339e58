/-! LONG MASKS: places of a kind, chapters written -/
theorem lx_or (a b : Nat) : lN a ||| lN b = lN (a ||| b) := by
  apply Int64.toBitVec_inj.mp
  rw [Int64.toBitVec_or]
  exact (BitVec.ofNat_or (w := 64)).symm
theorem lx_and (a b : Nat) : lN a &&& lN b = lN (a &&& b) := by
  apply Int64.toBitVec_inj.mp
  rw [Int64.toBitVec_and]
  exact (BitVec.ofNat_and (w := 64)).symm
theorem lx_shl : ∀ c, c < 64 → (1 : Int64) <<< ((nI c).toInt64 &&& 63) = lN (2 ^ c) := by decide +kernel
theorem lx_shr {m : Nat} (hm : m < 2 ^ 63) : ∀ c, c < 64 → lN m >>> ((nI c).toInt64 &&& 63) = lN (m >>> c) := by
  intro c hc
  have e : (((nI c).toInt64 &&& 63).toBitVec.smod 64).toNat = c := by
    revert c
    decide +kernel
  apply Int64.toBitVec_inj.mp
  rw [Int64.toBitVec_shiftRight]
  apply BitVec.eq_of_getLsbD_eq
  intro i hi
  rw [BitVec.sshiftRight_eq', e, BitVec.getLsbD_sshiftRight]
  have t : ∀ j, (lN m).toBitVec.getLsbD j = m.testBit j := fun j => by
    show (BitVec.ofNat 64 m).getLsbD j = _
    rw [BitVec.getLsbD_ofNat]
    by_cases l : j < 64
    · rw [decide_eq_true l, Bool.true_and]
    · rw [decide_eq_false l, Bool.false_and]
      exact (Nat.testBit_lt_two_pow (Nat.lt_of_lt_of_le hm (Nat.pow_le_pow_right (by decide) (by omega)))).symm
  have t2 : (lN (m >>> c)).toBitVec.getLsbD i = (m >>> c).testBit i := by
    show (BitVec.ofNat 64 (m >>> c)).getLsbD i = _
    rw [BitVec.getLsbD_ofNat, decide_eq_true hi, Bool.true_and]
  have t3 : (lN m).toBitVec.msb = false := by
    rw [BitVec.msb_eq_getLsbD_last, t]
    exact Nat.testBit_lt_two_pow hm
  rw [t2, Nat.testBit_shiftRight, t, t3]
  by_cases l : c + i < 64
  · rw [if_pos l, decide_eq_false (by omega)]
    rfl
  · rw [if_neg l, Nat.testBit_lt_two_pow (Nat.lt_of_lt_of_le hm (Nat.pow_le_pow_right (by decide) (by omega)))]
    simp
theorem lx_bit {m c : Nat} (hm : m < 2 ^ 63) (hc : c < 64) : (lN m >>> ((nI c).toInt64 &&& 63)) &&& (1 : Int64) = lN (if m.testBit c then 1 else 0) := by
  rw [lx_shr hm c hc, show (1 : Int64) = lN 1 from rfl, lx_and, Nat.and_one_is_mod, Nat.shiftRight_eq_div_pow, ← Nat.toNat_testBit]
  cases m.testBit c <;> rfl
theorem kindQ_nI {A : Nat → Int32} (K : ShOK A) (c k : Int32) {p : Nat} (hp : p < 60) : (anyN (nN A) fun i => (decide (A (340 + 5 * i) = c) && decide (A (340 + 5 * i + 4) = k)) && decide (nt A i 1 = p)) = kindQ A c (nI p) k := by
  unfold kindQ
  refine anyN_cong (fun i hi => ?_)
  have q : Rg A (340 + 5 * i + 1) 60 := (K.2.2.2.2.2.1 i hi).2.1
  have q2 : nt A i 1 < 60 := q.2
  have e : decide (nt A i 1 = p) = decide (A (340 + 5 * i + 1) = nI p) := by
    rw [q.1]
    exact decide_eq_decide.mpr (nI_eq (show nt A i 1 < 2 ^ 31 by omega) (by omega)).symm
  rw [e]
  cases decide (A (340 + 5 * i) = c) <;> cases decide (A (340 + 5 * i + 1) = nI p) <;> cases decide (A (340 + 5 * i + 4) = k) <;> rfl
theorem c_placesOfKind {h : pg_H} {A : Nat → Int32} (L : Lay h) (C : CNum h 2 A) (K : ShOK A) (c k : Int32) : F_X5_placesOfKind h 2 c k = some (lN (mk 60 fun p => kindQ A c (nI p) k)) := by
  have kN : nN A < 201 := K.1.2.2.2.1.2
  unfold F_X5_placesOfKind
  have z := loopF (fun f i x => F_X5_placesOfKind_5 h f 2 c k (lN x) (nI i)) (nN A) (fun i x => x ||| (if decide (A (340 + 5 * i) = c) && decide (A (340 + 5 * i + 4) = k) then 2 ^ nt A i 1 else 0)) (some (lN (foldN (nN A) (fun i x => x ||| (if decide (A (340 + 5 * i) = c) && decide (A (340 + 5 * i + 4) = k) then 2 ^ nt A i 1 else 0)) 0))) (fun _ _ => True) 0 ?_ (fun _ _ _ _ _ => trivial) ?_ trivial pg_fuel (by unfold pg_fuel; omega)
  · refine z.trans (congrArg (fun x => some (lN x)) ?_)
    refine (foldN_or (n := 60) (g := fun i => nt A i 1) (fun i hi _ => (K.2.2.2.2.2.1 i hi).2.1.2)).trans ?_
    exact mk_cong (fun p hp => kindQ_nI K c k hp)
  · intro f i x hi _ _
    have q : Rg A (340 + 5 * i + 1) 60 := (K.2.2.2.2.2.1 i hi).2.1
    show F_X5_placesOfKind_5 h (f + 1) 2 c k (lN x) (nI i) = F_X5_placesOfKind_5 h f 2 c k (lN (x ||| (if decide (A (340 + 5 * i) = c) && decide (A (340 + 5 * i + 4) = k) then 2 ^ nt A i 1 else 0))) (nI (i + 1))
    rw [F_X5_placesOfKind_5]
    dsimp only
    simp only [Option.bind_some, if_true, if_false, Int32.lt_irrefl, rc_2 L, gR_2_0 L, gR_2_1 L, gR_2_2 L, gR_2_3 L, gR_2_4 L, gR_2_5 L, gR_2_6 L, c_rcv_3 C, c_rcv_5 C, c_rcv_7 C, c_rcv_9 C, c_rcv_11 C, c_size_3 C, c_size_5 C, c_size_7 C, c_size_9 C, c_size_11 C, c_at_11_0 C hi, c_at_11_1 C hi, c_at_11_2 C hi, c_at_11_3 C hi, c_at_11_4 C hi, F_X5_placesOfKind_49, F_X5_placesOfKind_50, F_X5_placesOfKind_74, pg_let, nI_1, nI_ltI (show i < 2 ^ 31 by omega) (show nN A < 2 ^ 31 by omega), hi]
    by_cases e : A (340 + 5 * i) = c
    · by_cases e2 : A (340 + 5 * i + 4) = k
      · simp only [e, e2, if_true, decide_true, Bool.and_self, show ¬ ((1 : Int32) = 0) from by decide, if_false]
        rw [q.1, lx_shl _ (show cl A (340 + 5 * i + 1) < 64 from Nat.lt_trans q.2 (by decide)), lx_or]
        rfl
      · simp only [e, e2, if_true, if_false, decide_true, decide_false, Bool.and_false, Bool.false_eq_true]
        rw [show (0 : Int64) = lN 0 from rfl, lx_or]
    · simp only [e, if_true, if_false, decide_false, Bool.false_and, Bool.false_eq_true]
      rw [show (0 : Int64) = lN 0 from rfl, lx_or]
  · intro f _
    show F_X5_placesOfKind_5 h (f + 1) 2 c k (lN (foldN (nN A) (fun i x => x ||| (if decide (A (340 + 5 * i) = c) && decide (A (340 + 5 * i + 4) = k) then 2 ^ nt A i 1 else 0)) 0)) (nI (nN A)) = _
    rw [F_X5_placesOfKind_5]
    dsimp only
    simp only [Option.bind_some, if_true, if_false, Int32.lt_irrefl, rc_2 L, gR_2_0 L, gR_2_1 L, gR_2_2 L, gR_2_3 L, gR_2_4 L, gR_2_5 L, gR_2_6 L, c_rcv_3 C, c_rcv_5 C, c_rcv_7 C, c_rcv_9 C, c_rcv_11 C, c_size_3 C, c_size_5 C, c_size_7 C, c_size_9 C, c_size_11 C]
theorem c_chaptersWritten {h : pg_H} {A : Nat → Int32} (L : Lay h) (C : CNum h 2 A) (K : ShOK A) (c : Int32) : F_X5_chaptersWritten h 2 c = some (nI (mk 12 (notedQ A c))) := by
  have kN : nN A < 201 := K.1.2.2.2.1.2
  unfold F_X5_chaptersWritten
  rw [rc_2 L, c_placesOfKind L C K, Option.bind_some]
  obtain ⟨N, hN⟩ : ∃ N, N = 60 := ⟨60, rfl⟩
  have hlt := mk_lt 60 fun p => kindQ A c (nI p) 0
  have hbit : ∀ p, p < 60 → (mk 60 fun p => kindQ A c (nI p) 0).testBit p = kindQ A c (nI p) 0 := fun p hp => by rw [mk_bit, decide_eq_true hp, Bool.true_and]
  revert hlt hbit
  generalize (mk 60 fun p => kindQ A c (nI p) 0) = m
  intro hlt hbit
  have z := loopF (fun f i x => F_X5_chaptersWritten_13 h f (lN m) (nI x) (nI i)) (N) (fun i x => x ||| (if kindQ A c (nI i) 0 then 2 ^ (i / 5) else 0)) (some (nI (foldN (N) (fun i x => x ||| (if kindQ A c (nI i) 0 then 2 ^ (i / 5) else 0)) 0))) (fun _ _ => True) 0 ?_ (fun _ _ _ _ _ => trivial) ?_ trivial pg_fuel (by unfold pg_fuel; omega)
  · refine z.trans (congrArg (fun x => some (nI x)) ?_)
    refine (foldN_or (n := 12) (g := fun i => i / 5) (fun i hi _ => by omega)).trans ?_
    refine mk_cong (fun ch hch => Bool.eq_iff_iff.mpr ?_)
    unfold notedQ
    rw [anyN_true, anyN_true]
    constructor
    · rintro ⟨p, hp, q⟩
      have hp : p < 60 := by omega
      rw [Bool.and_eq_true, decide_eq_true_eq] at q
      obtain ⟨n, hn, q3⟩ := anyN_true.mp q.1
      rw [Bool.and_eq_true, Bool.and_eq_true, decide_eq_true_eq, decide_eq_true_eq, decide_eq_true_eq] at q3
      refine ⟨n, hn, ?_⟩
      rw [Bool.and_eq_true, Bool.and_eq_true, decide_eq_true_eq, decide_eq_true_eq, decide_eq_true_eq]
      refine ⟨⟨q3.1.1, q3.2⟩, ?_⟩
      have e : nt A n 1 = p := cl_of q3.1.2 (by omega)
      rw [e]
      exact q.2
    · rintro ⟨n, hn, q⟩
      rw [Bool.and_eq_true, Bool.and_eq_true, decide_eq_true_eq, decide_eq_true_eq, decide_eq_true_eq] at q
      have r : Rg A (340 + 5 * n + 1) 60 := (K.2.2.2.2.2.1 n hn).2.1
      have r2 : nt A n 1 < 60 := r.2
      refine ⟨nt A n 1, by omega, ?_⟩
      rw [Bool.and_eq_true, decide_eq_true_eq]
      refine ⟨anyN_true.mpr ⟨n, hn, ?_⟩, q.2⟩
      rw [Bool.and_eq_true, Bool.and_eq_true, decide_eq_true_eq, decide_eq_true_eq, decide_eq_true_eq]
      exact ⟨⟨q.1.1, r.1⟩, q.1.2⟩
  · intro f i x hi _ _
    show F_X5_chaptersWritten_13 h (f + 1) (lN m) (nI x) (nI i) = F_X5_chaptersWritten_13 h f (lN m) (nI (x ||| (if kindQ A c (nI i) 0 then 2 ^ (i / 5) else 0))) (nI (i + 1))
    rw [F_X5_chaptersWritten_13]
    dsimp only
    rw [lx_bit (Nat.lt_of_lt_of_le hlt (Nat.pow_le_pow_right (by decide) (by decide))) (show i < 64 by omega), hbit i (by omega)]
    simp only [Option.bind_some, if_true, if_false, Int32.lt_irrefl, pg_let, nI_1, if_pos (show nI i < (60 : Int32) from nI_lt (b := 60) (by omega) (by decide)), show ¬ ((5 : Int32) = 0) from by decide, show nI i / (5 : Int32) = nI (i / 5) from nI_div (b := 5) (by omega) (by decide)]
    cases kindQ A c (nI i) 0 with
    | false =>
      have e : ∀ d, d < 32 → (lN 0).toInt32 <<< (nI d &&& 31) = nI 0 := by decide +kernel
      simp only [Bool.false_eq_true, if_false]
      rw [e (i / 5) (by omega), ix_or]
    | true =>
      have e : ∀ d, d < 32 → (lN 1).toInt32 <<< (nI d &&& 31) = nI (2 ^ d) := by decide +kernel
      simp only [if_true]
      rw [e (i / 5) (by omega), ix_or]
  · intro f _
    show F_X5_chaptersWritten_13 h (f + 1) (lN m) (nI (foldN (N) (fun i x => x ||| (if kindQ A c (nI i) 0 then 2 ^ (i / 5) else 0)) 0)) (nI (N)) = _
    rw [F_X5_chaptersWritten_13]
    dsimp only
    exact if_neg (nI_nlt (b := 60) (by omega) (by omega))
