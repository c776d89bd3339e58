/-! BITS: masks as naturals -/
def b01 (b : Bool) : Int32 := if b then 1 else 0
def mk : Nat → (Nat → Bool) → Nat
  | 0, _ => 0
  | n + 1, f => mk n f + (if f n then 2 ^ n else 0)
theorem mk_lt (n : Nat) (f : Nat → Bool) : mk n f < 2 ^ n := by
  induction n with
  | zero => exact Nat.zero_lt_one
  | succ n ih =>
    show mk n f + (if f n then 2 ^ n else 0) < 2 ^ (n + 1)
    rw [Nat.pow_succ]
    by_cases h : f n = true
    · rw [if_pos h]
      omega
    · rw [if_neg h]
      omega
theorem mk_bit (n : Nat) (f : Nat → Bool) (i : Nat) : (mk n f).testBit i = (decide (i < n) && f i) := by
  induction n with
  | zero => 
    show (0 : Nat).testBit i = _
    rw [Nat.zero_testBit, decide_eq_false (Nat.not_lt_zero i)]
    rfl
  | succ n ih =>
    show (mk n f + (if f n then 2 ^ n else 0)).testBit i = _
    have h1 := mk_lt n f
    by_cases h : f n = true
    · rw [if_pos h, Nat.add_comm]
      by_cases e : i = n
      · subst e
        rw [Nat.testBit_two_pow_add_eq, ih, h, decide_eq_false (Nat.lt_irrefl i), decide_eq_true (Nat.lt_succ_self i)]
        rfl
      · by_cases l : i < n
        · rw [Nat.testBit_two_pow_add_gt l, ih, decide_eq_true l, decide_eq_true (Nat.lt_succ_of_lt l)]
        · rw [decide_eq_false (by omega), Bool.false_and]
          refine Nat.testBit_lt_two_pow ?_
          refine Nat.lt_of_lt_of_le (show 2 ^ n + mk n f < 2 ^ (n + 1) by rw [Nat.pow_succ]; omega) (Nat.pow_le_pow_right (by decide) (by omega))
    · rw [if_neg h, Nat.add_zero, ih]
      by_cases e : i = n
      · subst e
        rw [decide_eq_false (Nat.lt_irrefl i), decide_eq_true (Nat.lt_succ_self i)]
        cases q : f i with
        | false => rfl
        | true => exact absurd q h
      · have : decide (i < n) = decide (i < n + 1) := decide_eq_decide.mpr (by omega)
        rw [this]
theorem mk_cong {n : Nat} {f g : Nat → Bool} (h : ∀ i, i < n → f i = g i) : mk n f = mk n g := by
  induction n with
  | zero => rfl
  | succ n ih =>
    show mk n f + _ = mk n g + _
    rw [ih (fun i hi => h i (by omega)), h n (by omega)]
/-- a natural is its bits -/
theorem mk_of {n m : Nat} {f : Nat → Bool} (h1 : m < 2 ^ n) (h2 : ∀ i, i < n → m.testBit i = f i) : m = mk n f := by
  apply Nat.eq_of_testBit_eq
  intro i
  rw [mk_bit]
  by_cases l : i < n
  · rw [h2 i l, decide_eq_true l, Bool.true_and]
  · rw [decide_eq_false l, Bool.false_and]
    exact Nat.testBit_lt_two_pow (Nat.lt_of_lt_of_le h1 (Nat.pow_le_pow_right (by decide) (by omega)))
theorem mk_or (n : Nat) (f g : Nat → Bool) : mk n f ||| mk n g = mk n (fun i => f i || g i) := by
  refine mk_of (Nat.or_lt_two_pow (mk_lt n f) (mk_lt n g)) (fun i hi => ?_)
  rw [Nat.testBit_or, mk_bit, mk_bit, decide_eq_true hi, Bool.true_and, Bool.true_and]
theorem mk_and (n : Nat) (f g : Nat → Bool) : mk n f &&& mk n g = mk n (fun i => f i && g i) := by
  refine mk_of (Nat.and_lt_two_pow _ (mk_lt n g)) (fun i hi => ?_)
  rw [Nat.testBit_and, mk_bit, mk_bit, decide_eq_true hi, Bool.true_and, Bool.true_and]
theorem mk_pow {n c : Nat} (h : c < n) : 2 ^ c = mk n (fun i => decide (i = c)) := by
  refine mk_of (Nat.pow_lt_pow_right (by decide) h) (fun i hi => ?_)
  rw [Nat.testBit_two_pow]
  exact decide_eq_decide.mpr eq_comm
theorem mk_zero (n : Nat) : 0 = mk n (fun _ => false) := by
  refine mk_of (Nat.two_pow_pos n) (fun i hi => ?_)
  exact Nat.zero_testBit i
theorem mk_all (n : Nat) : 2 ^ n - 1 = mk n (fun _ => true) := by
  refine mk_of (Nat.sub_lt (Nat.two_pow_pos n) (by decide)) (fun i hi => ?_)
  rw [Nat.testBit_two_pow_sub_one]
  exact decide_eq_true hi
theorem mk_ext {n m : Nat} {f : Nat → Bool} (h : n ≤ m) (hf : ∀ i, n ≤ i → i < m → f i = false) : mk n f = mk m f := by
  refine mk_of (Nat.lt_of_lt_of_le (mk_lt n f) (Nat.pow_le_pow_right (by decide) h)) (fun i hi => ?_)
  rw [mk_bit]
  by_cases l : i < n
  · rw [decide_eq_true l, Bool.true_and]
  · rw [decide_eq_false l, Bool.false_and, hf i (by omega) hi]
theorem ix_or (a b : Nat) : nI a ||| nI b = nI (a ||| b) := by
  apply Int32.toBitVec_inj.mp
  rw [Int32.toBitVec_or]
  exact (BitVec.ofNat_or (w := 32)).symm
theorem ix_and (a b : Nat) : nI a &&& nI b = nI (a &&& b) := by
  apply Int32.toBitVec_inj.mp
  rw [Int32.toBitVec_and]
  exact (BitVec.ofNat_and (w := 32)).symm
theorem ix_xor (a b : Nat) : nI a ^^^ nI b = nI (a ^^^ b) := by
  apply Int32.toBitVec_inj.mp
  rw [Int32.toBitVec_xor]
  exact (BitVec.ofNat_xor (w := 32)).symm
theorem ix_shl : ∀ c, c < 32 → (1 : Int32) <<< (nI c &&& 31) = nI (2 ^ c) := by decide +kernel
theorem ix_not (n : Nat) (f g : Nat → Bool) (hn : n ≤ 31) : nI (mk n f) &&& (nI (mk n g) ^^^ (-1 : Int32)) = nI (mk n (fun i => f i && !g i)) := by
  rw [show (-1 : Int32) = nI (2 ^ 32 - 1) from by decide, ix_xor, ix_and]
  refine congrArg nI (mk_of (Nat.lt_of_le_of_lt Nat.and_le_left (mk_lt n f)) (fun i hi => ?_))
  rw [Nat.testBit_and, Nat.testBit_xor, mk_bit, mk_bit, decide_eq_true hi, Nat.testBit_two_pow_sub_one, decide_eq_true (show i < 32 by omega), Bool.true_and, Bool.true_and]
  cases g i <;> rfl
theorem ix_shr {m : Nat} (hm : m < 2 ^ 31) : ∀ c, c < 32 → nI m >>> (nI c &&& 31) = nI (m >>> c) := by
  intro c hc
  have e : ((nI c &&& 31).toBitVec.smod 32).toNat = c := by
    revert c
    decide +kernel
  apply Int32.toBitVec_inj.mp
  rw [Int32.toBitVec_shiftRight]
  apply BitVec.eq_of_getLsbD_eq
  intro i hi
  rw [BitVec.sshiftRight_eq', e, BitVec.getLsbD_sshiftRight]
  have t : ∀ j, (nI m).toBitVec.getLsbD j = m.testBit j := fun j => by
    show (BitVec.ofNat 32 m).getLsbD j = _
    rw [BitVec.getLsbD_ofNat]
    by_cases l : j < 32
    · rw [decide_eq_true l, Bool.true_and]
    · rw [decide_eq_false l, Bool.false_and]
      exact (Nat.testBit_lt_two_pow (Nat.lt_of_lt_of_le hm (Nat.pow_le_pow_right (by decide) (by omega)))).symm
  have t2 : (nI (m >>> c)).toBitVec.getLsbD i = (m >>> c).testBit i := by
    show (BitVec.ofNat 32 (m >>> c)).getLsbD i = _
    rw [BitVec.getLsbD_ofNat, decide_eq_true hi, Bool.true_and]
  have t3 : (nI m).toBitVec.msb = false := by
    rw [BitVec.msb_eq_getLsbD_last, t]
    exact Nat.testBit_lt_two_pow hm
  rw [t2, Nat.testBit_shiftRight, t, t3]
  by_cases l : c + i < 32
  · rw [if_pos l, decide_eq_false (by omega)]
    rfl
  · rw [if_neg l, Nat.testBit_lt_two_pow (Nat.lt_of_lt_of_le hm (Nat.pow_le_pow_right (by decide) (by omega)))]
    simp
theorem ix_bit {m c : Nat} (hm : m < 2 ^ 31) (hc : c < 32) : (nI m >>> (nI c &&& 31)) &&& (1 : Int32) = b01 (m.testBit c) := by
  rw [ix_shr hm c hc, show (1 : Int32) = nI 1 from rfl, ix_and, Nat.and_one_is_mod, Nat.shiftRight_eq_div_pow, ← Nat.toNat_testBit]
  cases m.testBit c <;> rfl
