/-! COUNTING BITS of 32 and 64, by bytes -/
def rep (m : Nat) : Nat → Nat
  | 0 => 0
  | n + 1 => 256 * rep m n + m
theorem and_byte {a b c d : Nat} (hb : b < 256) (hd : d < 256) : (256 * a + b) &&& (256 * c + d) = 256 * (a &&& c) + (b &&& d) := by
  apply Nat.eq_of_testBit_eq
  intro i
  have e : (b &&& d) < 2 ^ 8 := Nat.lt_of_le_of_lt Nat.and_le_left hb
  have eb : b < 2 ^ 8 := hb
  have ed : d < 2 ^ 8 := hd
  show ((2 ^ 8 * a + b) &&& (2 ^ 8 * c + d)).testBit i = (2 ^ 8 * (a &&& c) + (b &&& d)).testBit i
  rw [Nat.testBit_and, Nat.testBit_two_pow_mul_add a eb, Nat.testBit_two_pow_mul_add c ed, Nat.testBit_two_pow_mul_add _ e]
  by_cases l : i < 8
  · rw [if_pos l, if_pos l, if_pos l, Nat.testBit_and]
  · rw [if_neg l, if_neg l, if_neg l, Nat.testBit_and]
def s1 (b : Nat) : Nat := b - ((b / 2) &&& 85)
def s2 (b : Nat) : Nat := (b &&& 51) + ((b / 4) &&& 51)
def s3 (b : Nat) : Nat := (b + b / 16) &&& 15
def S1 (n x : Nat) : Nat := x - ((x >>> 1) &&& rep 85 n)
def S2 (n x : Nat) : Nat := (x &&& rep 51 n) + ((x >>> 2) &&& rep 51 n)
def S3 (n x : Nat) : Nat := (x + (x >>> 4)) &&& rep 15 n
set_option maxRecDepth 100000 in
theorem t1_tab : ∀ b, b < 256 → ∀ t, t < 2 → (128 * t + b / 2) &&& 85 = (b / 2) &&& 85 := by decide +kernel
set_option maxRecDepth 100000 in
theorem t2_tab : ∀ b, b < 256 → ∀ t, t < 4 → (64 * t + b / 4) &&& 51 = (b / 4) &&& 51 := by decide +kernel
set_option maxRecDepth 100000 in
theorem t3_tab : ∀ b, b < 69 → ∀ t, t < 5 → (16 * t + (b + b / 16)) &&& 15 = (b + b / 16) &&& 15 := by decide +kernel
set_option maxRecDepth 100000 in
theorem t4_tab : ∀ b, b < 256 → s3 (s2 (s1 b)) = pc 8 b ∧ s2 (s1 b) < 69 ∧ s2 (s1 b) % 16 < 5 ∧ s1 b < 256 ∧ pc 8 b < 9 := by decide +kernel
theorem S1_step {n a b : Nat} (hb : b < 256) : S1 (n + 1) (256 * a + b) = 256 * S1 n a + s1 b := by
  unfold S1 s1
  rw [Nat.shiftRight_eq_div_pow, Nat.shiftRight_eq_div_pow, show (256 * a + b) / 2 ^ 1 = 256 * (a / 2) + (128 * (a % 2) + b / 2) by omega, show a / 2 ^ 1 = a / 2 from rfl, show rep 85 (n + 1) = 256 * rep 85 n + 85 from rfl, and_byte (by omega) (by decide), t1_tab b hb (a % 2) (by omega)]
  have q1 : (a / 2 &&& rep 85 n) ≤ a / 2 := Nat.and_le_left
  have q2 : (b / 2 &&& 85) ≤ b / 2 := Nat.and_le_left
  omega
theorem S2_step {n a b : Nat} (hb : b < 256) : S2 (n + 1) (256 * a + b) = 256 * S2 n a + s2 b := by
  unfold S2 s2
  rw [Nat.shiftRight_eq_div_pow, Nat.shiftRight_eq_div_pow, show (256 * a + b) / 2 ^ 2 = 256 * (a / 4) + (64 * (a % 4) + b / 4) by omega, show a / 2 ^ 2 = a / 4 from rfl, show rep 51 (n + 1) = 256 * rep 51 n + 51 from rfl, and_byte hb (by decide), and_byte (by omega) (by decide), t2_tab b hb (a % 4) (by omega)]
  omega
theorem S3_step {n a b : Nat} (hb : b < 69) (ha : a % 16 < 5) : S3 (n + 1) (256 * a + b) = 256 * S3 n a + s3 b := by
  unfold S3 s3
  rw [Nat.shiftRight_eq_div_pow, Nat.shiftRight_eq_div_pow, show 256 * a + b + (256 * a + b) / 2 ^ 4 = 256 * (a + a / 16) + (16 * (a % 16) + (b + b / 16)) by omega, show a / 2 ^ 4 = a / 16 from rfl, show rep 15 (n + 1) = 256 * rep 15 n + 15 from rfl, and_byte (by omega) (by decide), t3_tab b hb (a % 16) ha]
def TB : Nat → Nat → Nat
  | 0, _ => 0
  | n + 1, x => 256 * TB n (x / 256) + pc 8 (x % 256)
theorem bytes_TB : ∀ (n x : Nat), x < 256 ^ n → S3 n (S2 n (S1 n x)) = TB n x ∧ S2 n (S1 n x) % 16 < 5 := by
  intro n
  induction n with
  | zero =>
    intro x hx
    have : x = 0 := by
      rw [Nat.pow_zero] at hx
      omega
    subst this
    decide
  | succ n ih =>
    intro x hx
    have hx' : x / 256 < 256 ^ n := by
      rw [Nat.pow_succ] at hx
      exact Nat.div_lt_of_lt_mul (by rw [Nat.mul_comm]; exact hx)
    obtain ⟨i1, i2⟩ := ih _ hx'
    obtain ⟨q1, q2, q3, q4, q5⟩ := t4_tab (x % 256) (Nat.mod_lt _ (by decide))
    have e : S2 (n + 1) (S1 (n + 1) x) = 256 * S2 n (S1 n (x / 256)) + s2 (s1 (x % 256)) := by
      have d : x = 256 * (x / 256) + x % 256 := (Nat.div_add_mod x 256).symm
      rw [show S1 (n + 1) x = S1 (n + 1) (256 * (x / 256) + x % 256) by rw [← d], S1_step (Nat.mod_lt _ (by decide)), S2_step q4]
    rw [e]
    refine ⟨?_, by omega⟩
    rw [S3_step q2 i2, i1, q1]
    rfl
theorem ix_ushr {x : Nat} (hx : x < 2 ^ 32) : ∀ k, k < 32 → ((nI x).toUInt32 >>> ((nI k).toUInt32 &&& Int32.toUInt32 31)).toInt32 = nI (x >>> k) := by
  intro k hk
  have e : (((nI k).toUInt32 &&& Int32.toUInt32 31).toBitVec % 32).toNat = k := by
    revert k
    decide +kernel
  apply Int32.toBitVec_inj.mp
  show ((nI x).toUInt32 >>> ((nI k).toUInt32 &&& Int32.toUInt32 31)).toBitVec = BitVec.ofNat 32 (x >>> k)
  rw [UInt32.toBitVec_shiftRight]
  apply BitVec.eq_of_toNat_eq
  rw [BitVec.ushiftRight_eq', e, BitVec.toNat_ushiftRight, show (nI x).toUInt32.toBitVec = BitVec.ofNat 32 x from rfl, BitVec.toNat_ofNat, BitVec.toNat_ofNat, Nat.mod_eq_of_lt hx, Nat.mod_eq_of_lt]
  rw [Nat.shiftRight_eq_div_pow]
  exact Nat.lt_of_le_of_lt (Nat.div_le_self _ _) hx
theorem lx_ushr {x : Nat} (hx : x < 2 ^ 64) : ∀ k, k < 64 → ((lN x).toUInt64 >>> ((nI k).toInt64.toUInt64 &&& Int64.toUInt64 63)).toInt64 = lN (x >>> k) := by
  intro k hk
  have e : (((nI k).toInt64.toUInt64 &&& Int64.toUInt64 63).toBitVec % 64).toNat = k := by
    revert k
    decide +kernel
  apply Int64.toBitVec_inj.mp
  show ((lN x).toUInt64 >>> ((nI k).toInt64.toUInt64 &&& Int64.toUInt64 63)).toBitVec = BitVec.ofNat 64 (x >>> k)
  rw [UInt64.toBitVec_shiftRight]
  apply BitVec.eq_of_toNat_eq
  rw [BitVec.ushiftRight_eq', e, BitVec.toNat_ushiftRight, show (lN x).toUInt64.toBitVec = BitVec.ofNat 64 x from rfl, BitVec.toNat_ofNat, BitVec.toNat_ofNat, Nat.mod_eq_of_lt hx, Nat.mod_eq_of_lt]
  rw [Nat.shiftRight_eq_div_pow]
  exact Nat.lt_of_le_of_lt (Nat.div_le_self _ _) hx
theorem ix_sub {a b : Nat} (h : b ≤ a) : nI a - nI b = nI (a - b) := by
  rw [show nI a = nI (a - b) + nI b by rw [nI_add, Nat.sub_add_cancel h], Int32.add_sub_cancel]
theorem lx_sub {a b : Nat} (h : b ≤ a) : lN a - lN b = lN (a - b) := by
  rw [show lN a = lN (a - b) + lN b by rw [lN_add, Nat.sub_add_cancel h], Int64.add_sub_cancel]
theorem pc_split (n x : Nat) : pc (8 + n) x = pc 8 (x % 256) + pc n (x / 256) := by
  unfold pc
  induction n with
  | zero =>
    show sumN 8 _ = sumN 8 _ + 0
    rw [Nat.add_zero]
    refine sumN_cong (fun i hi => ?_)
    rw [show x % 256 = x % 2 ^ 8 from rfl, Nat.testBit_mod_two_pow, decide_eq_true hi, Bool.true_and]
  | succ n ih =>
    show sumN (8 + n) _ + (if x.testBit (8 + n) then 1 else 0) = _ + (sumN n _ + if (x / 256).testBit n then 1 else 0)
    rw [ih, show x / 256 = x / 2 ^ 8 from rfl, Nat.testBit_div_two_pow, Nat.add_comm 8 n, Nat.add_assoc]
theorem by256 {x y e : Nat} (h : x = 256 * y + e) (he : e < 256) : x / 256 = y := by omega
theorem fin32 {a0 a1 a2 a3 u0 u1 u2 u3 : Nat} (h0 : a0 = 256 * a1 + u0) (h1 : a1 = 256 * a2 + u1) (h2 : a2 = 256 * a3 + u2) (h3 : a3 = 256 * 0 + u3) (b0 : u0 < 9) (b1 : u1 < 9) (b2 : u2 < 9) (b3 : u3 < 9) :
    (a0 + a0 / 2 ^ 8 + (a0 + a0 / 2 ^ 8) / 2 ^ 16) % 2 ^ 6 = u0 + (u1 + (u2 + (u3 + 0))) := by
  have e1 : a0 / 2 ^ 8 = a1 := by256 h0 (by omega)
  have q0 : a0 + a1 = 256 * (a1 + a2) + (u0 + u1) := by rw [Nat.mul_add]; omega
  have q1 : a1 + a2 = 256 * (a2 + a3) + (u1 + u2) := by rw [Nat.mul_add]; omega
  have e2 : (a0 + a1) / 2 ^ 16 = a2 + a3 := by
    rw [show (2 : Nat) ^ 16 = 256 * 256 from rfl, ← Nat.div_div_eq_div_mul, by256 q0 (by omega), by256 q1 (by omega)]
  rw [e1, e2]
  have e3 : a0 + a1 + (a2 + a3) = 256 * (a1 + a2 + a3) + (u0 + (u1 + (u2 + (u3 + 0)))) := by omega
  rw [e3]
  generalize a1 + a2 + a3 = S
  omega
theorem fin64 {a0 a1 a2 a3 a4 a5 a6 a7 u0 u1 u2 u3 u4 u5 u6 u7 : Nat} (h0 : a0 = 256 * a1 + u0) (h1 : a1 = 256 * a2 + u1) (h2 : a2 = 256 * a3 + u2) (h3 : a3 = 256 * a4 + u3) (h4 : a4 = 256 * a5 + u4) (h5 : a5 = 256 * a6 + u5) (h6 : a6 = 256 * a7 + u6) (h7 : a7 = 256 * 0 + u7) (b0 : u0 < 9) (b1 : u1 < 9) (b2 : u2 < 9) (b3 : u3 < 9) (b4 : u4 < 9) (b5 : u5 < 9) (b6 : u6 < 9) (b7 : u7 < 9) :
    (a0 + a0 / 2 ^ 8 + (a0 + a0 / 2 ^ 8) / 2 ^ 16 + (a0 + a0 / 2 ^ 8 + (a0 + a0 / 2 ^ 8) / 2 ^ 16) / 2 ^ 32) % 128 = u0 + (u1 + (u2 + (u3 + (u4 + (u5 + (u6 + (u7 + 0))))))) := by
  have e1 : a0 / 2 ^ 8 = a1 := by256 h0 (by omega)
  have q0 : a0 + a1 = 256 * (a1 + a2) + (u0 + u1) := by rw [Nat.mul_add]; omega
  have q1 : a1 + a2 = 256 * (a2 + a3) + (u1 + u2) := by rw [Nat.mul_add]; omega
  have e2 : (a0 + a1) / 2 ^ 16 = a2 + a3 := by
    rw [show (2 : Nat) ^ 16 = 256 * 256 from rfl, ← Nat.div_div_eq_div_mul, by256 q0 (by omega), by256 q1 (by omega)]
  rw [e1, e2]
  have z0 : a0 + a1 + (a2 + a3) = 256 * (a1 + a2 + (a3 + a4)) + (u0 + u1 + (u2 + u3)) := by simp only [Nat.mul_add]; omega
  have z1 : a1 + a2 + (a3 + a4) = 256 * (a2 + a3 + (a4 + a5)) + (u1 + u2 + (u3 + u4)) := by simp only [Nat.mul_add]; omega
  have z2 : a2 + a3 + (a4 + a5) = 256 * (a3 + a4 + (a5 + a6)) + (u2 + u3 + (u4 + u5)) := by simp only [Nat.mul_add]; omega
  have z3 : a3 + a4 + (a5 + a6) = 256 * (a4 + a5 + (a6 + a7)) + (u3 + u4 + (u5 + u6)) := by simp only [Nat.mul_add]; omega
  have e3 : (a0 + a1 + (a2 + a3)) / 2 ^ 32 = a4 + a5 + (a6 + a7) := by
    rw [show (2 : Nat) ^ 32 = 256 * 256 * 256 * 256 from rfl, ← Nat.div_div_eq_div_mul, ← Nat.div_div_eq_div_mul, ← Nat.div_div_eq_div_mul, by256 z0 (by omega), by256 z1 (by omega), by256 z2 (by omega), by256 z3 (by omega)]
  rw [e3]
  have e4 : a0 + a1 + (a2 + a3) + (a4 + a5 + (a6 + a7)) = 256 * (a1 + a2 + a3 + a4 + a5 + a6 + a7) + (u0 + (u1 + (u2 + (u3 + (u4 + (u5 + (u6 + (u7 + 0)))))))) := by simp only [Nat.mul_add]; omega
  rw [e4]
  clear q0 q1 z0 z1 z2 z3 e1 e2 e3 e4 h0 h1 h2 h3 h4 h5 h6 h7
  generalize a1 + a2 + a3 + a4 + a5 + a6 + a7 = S
  omega
theorem bc32 {x : Nat} (hx : x < 2 ^ 32) : F_J6_bitCount_0f7a4 (nI x) = some (nI (pc 32 x)) := by
  obtain ⟨e, _⟩ := bytes_TB 4 x hx
  have p0 := pc_split 24 x
  have p1 := pc_split 16 (x / 256)
  have p2 := pc_split 8 (x / 256 / 256)
  have p3 := pc_split 0 (x / 256 / 256 / 256)
  have q0 := (t4_tab (x % 256) (Nat.mod_lt _ (by decide))).2.2.2.2
  have q1 := (t4_tab (x / 256 % 256) (Nat.mod_lt _ (by decide))).2.2.2.2
  have q2 := (t4_tab (x / 256 / 256 % 256) (Nat.mod_lt _ (by decide))).2.2.2.2
  have q3 := (t4_tab (x / 256 / 256 / 256 % 256) (Nat.mod_lt _ (by decide))).2.2.2.2
  have z : pc 0 (x / 256 / 256 / 256 / 256) = 0 := rfl
  have b1 : S1 4 x < 2 ^ 32 := Nat.lt_of_le_of_lt (Nat.sub_le _ _) hx
  have l1 : ∀ y n, (y &&& rep 51 n) ≤ rep 51 n := fun _ _ => Nat.and_le_right
  have b2 : S2 4 (S1 4 x) < 2 ^ 32 := by
    have a1 := l1 (S1 4 x) 4
    have a2 := l1 (S1 4 x >>> 2) 4
    unfold S2
    rw [show rep 51 4 = 858993459 from rfl] at *
    omega
  have tb : TB 4 x = 256 * (256 * (256 * (256 * 0 + pc 8 (x / 256 / 256 / 256 % 256)) + pc 8 (x / 256 / 256 % 256)) + pc 8 (x / 256 % 256)) + pc 8 (x % 256) := rfl
  unfold F_J6_bitCount_0f7a4 pg_let
  dsimp only
  rw [show (1431655765 : Int32) = nI (rep 85 4) from rfl, show (858993459 : Int32) = nI (rep 51 4) from rfl, show (252645135 : Int32) = nI (rep 15 4) from rfl]
  have k1 : nI x - (((nI x).toUInt32 >>> ((1 : Int32).toUInt32 &&& Int32.toUInt32 31)).toInt32 &&& nI (rep 85 4)) = nI (S1 4 x) := by
    rw [show (1 : Int32) = nI 1 from rfl, ix_ushr hx 1 (by decide), ix_and, ix_sub]
    · rfl
    · refine Nat.le_trans Nat.and_le_left ?_
      rw [Nat.shiftRight_eq_div_pow]
      exact Nat.div_le_self _ _
  rw [k1]
  have k2 : (nI (S1 4 x) &&& nI (rep 51 4)) + (((nI (S1 4 x)).toUInt32 >>> ((2 : Int32).toUInt32 &&& Int32.toUInt32 31)).toInt32 &&& nI (rep 51 4)) = nI (S2 4 (S1 4 x)) := by
    rw [show (2 : Int32) = nI 2 from rfl, ix_ushr b1 2 (by decide), ix_and, ix_and, nI_add]
    rfl
  rw [k2]
  have k3 : (nI (S2 4 (S1 4 x)) + ((nI (S2 4 (S1 4 x))).toUInt32 >>> ((4 : Int32).toUInt32 &&& Int32.toUInt32 31)).toInt32) &&& nI (rep 15 4) = nI (TB 4 x) := by
    rw [show (4 : Int32) = nI 4 from rfl, ix_ushr b2 4 (by decide), nI_add, ix_and, ← e]
    rfl
  rw [k3, tb, p0, p1, p2, p3, z]
  generalize pc 8 (x % 256) = u0 at *
  generalize pc 8 (x / 256 % 256) = u1 at *
  generalize pc 8 (x / 256 / 256 % 256) = u2 at *
  generalize pc 8 (x / 256 / 256 / 256 % 256) = u3 at *
  rw [show (8 : Int32) = nI 8 from rfl, ix_ushr (by omega) 8 (by decide), nI_add, show (16 : Int32) = nI 16 from rfl, ix_ushr (by rw [Nat.shiftRight_eq_div_pow]; omega) 16 (by decide), nI_add, show (63 : Int32) = nI (2 ^ 6 - 1) from rfl, ix_and, Nat.and_two_pow_sub_one_eq_mod]
  refine congrArg (fun v => some (nI v)) ?_
  simp only [Nat.shiftRight_eq_div_pow]
  exact fin32 rfl rfl rfl rfl q0 q1 q2 q3
theorem lN_toInt32 {a : Nat} (h : a < 2 ^ 31) : (lN a).toInt32 = nI a := by
  apply Int32.toBitVec_inj.mp
  show (BitVec.ofNat 64 a).signExtend 32 = BitVec.ofNat 32 a
  apply BitVec.eq_of_toNat_eq
  rw [BitVec.signExtend_eq_setWidth_of_le _ (by decide), BitVec.toNat_setWidth, BitVec.toNat_ofNat, BitVec.toNat_ofNat, Nat.mod_eq_of_lt (show a < 2 ^ 64 by omega)]
theorem bc64 {x : Nat} (hx : x < 2 ^ 64) : F_J13_bitCount_95d88 (lN x) = some (nI (pc 64 x)) := by
  obtain ⟨e, _⟩ := bytes_TB 8 x hx
  have p0 := pc_split 56 x
  have p1 := pc_split 48 (x / 256)
  have p2 := pc_split 40 (x / 256 / 256)
  have p3 := pc_split 32 (x / 256 / 256 / 256)
  have p4 := pc_split 24 (x / 256 / 256 / 256 / 256)
  have p5 := pc_split 16 (x / 256 / 256 / 256 / 256 / 256)
  have p6 := pc_split 8 (x / 256 / 256 / 256 / 256 / 256 / 256)
  have p7 := pc_split 0 (x / 256 / 256 / 256 / 256 / 256 / 256 / 256)
  have q : ∀ y, pc 8 (y % 256) < 9 := fun y => (t4_tab (y % 256) (Nat.mod_lt _ (by decide))).2.2.2.2
  have q0 := q x
  have q1 := q (x / 256)
  have q2 := q (x / 256 / 256)
  have q3 := q (x / 256 / 256 / 256)
  have q4 := q (x / 256 / 256 / 256 / 256)
  have q5 := q (x / 256 / 256 / 256 / 256 / 256)
  have q6 := q (x / 256 / 256 / 256 / 256 / 256 / 256)
  have q7 := q (x / 256 / 256 / 256 / 256 / 256 / 256 / 256)
  have z : pc 0 (x / 256 / 256 / 256 / 256 / 256 / 256 / 256 / 256) = 0 := rfl
  have b1 : S1 8 x < 2 ^ 64 := Nat.lt_of_le_of_lt (Nat.sub_le _ _) hx
  have l1 : ∀ y n, (y &&& rep 51 n) ≤ rep 51 n := fun _ _ => Nat.and_le_right
  have b2 : S2 8 (S1 8 x) < 2 ^ 64 := by
    have a1 := l1 (S1 8 x) 8
    have a2 := l1 (S1 8 x >>> 2) 8
    unfold S2
    rw [show rep 51 8 = 3689348814741910323 from rfl] at *
    omega
  have tb : TB 8 x = 256 * (256 * (256 * (256 * (256 * (256 * (256 * (256 * 0 + pc 8 (x / 256 / 256 / 256 / 256 / 256 / 256 / 256 % 256)) + pc 8 (x / 256 / 256 / 256 / 256 / 256 / 256 % 256)) + pc 8 (x / 256 / 256 / 256 / 256 / 256 % 256)) + pc 8 (x / 256 / 256 / 256 / 256 % 256)) + pc 8 (x / 256 / 256 / 256 % 256)) + pc 8 (x / 256 / 256 % 256)) + pc 8 (x / 256 % 256)) + pc 8 (x % 256) := rfl
  unfold F_J13_bitCount_95d88 pg_let
  dsimp only
  rw [show (6148914691236517205 : Int64) = lN (rep 85 8) from rfl, show (3689348814741910323 : Int64) = lN (rep 51 8) from rfl, show (1085102592571150095 : Int64) = lN (rep 15 8) from rfl]
  have k1 : lN x - (((lN x).toUInt64 >>> ((1 : Int32).toInt64.toUInt64 &&& Int64.toUInt64 63)).toInt64 &&& lN (rep 85 8)) = lN (S1 8 x) := by
    rw [show (1 : Int32) = nI 1 from rfl, lx_ushr hx 1 (by decide), lx_and, lx_sub]
    · rfl
    · refine Nat.le_trans Nat.and_le_left ?_
      rw [Nat.shiftRight_eq_div_pow]
      exact Nat.div_le_self _ _
  rw [k1]
  have k2 : (lN (S1 8 x) &&& lN (rep 51 8)) + (((lN (S1 8 x)).toUInt64 >>> ((2 : Int32).toInt64.toUInt64 &&& Int64.toUInt64 63)).toInt64 &&& lN (rep 51 8)) = lN (S2 8 (S1 8 x)) := by
    rw [show (2 : Int32) = nI 2 from rfl, lx_ushr b1 2 (by decide), lx_and, lx_and, lN_add]
    rfl
  rw [k2]
  have k3 : (lN (S2 8 (S1 8 x)) + ((lN (S2 8 (S1 8 x))).toUInt64 >>> ((4 : Int32).toInt64.toUInt64 &&& Int64.toUInt64 63)).toInt64) &&& lN (rep 15 8) = lN (TB 8 x) := by
    rw [show (4 : Int32) = nI 4 from rfl, lx_ushr b2 4 (by decide), lN_add, lx_and, ← e]
    rfl
  rw [k3, tb, p0, p1, p2, p3, p4, p5, p6, p7, z]
  generalize pc 8 (x % 256) = u0 at *
  generalize pc 8 (x / 256 % 256) = u1 at *
  generalize pc 8 (x / 256 / 256 % 256) = u2 at *
  generalize pc 8 (x / 256 / 256 / 256 % 256) = u3 at *
  generalize pc 8 (x / 256 / 256 / 256 / 256 % 256) = u4 at *
  generalize pc 8 (x / 256 / 256 / 256 / 256 / 256 % 256) = u5 at *
  generalize pc 8 (x / 256 / 256 / 256 / 256 / 256 / 256 % 256) = u6 at *
  generalize pc 8 (x / 256 / 256 / 256 / 256 / 256 / 256 / 256 % 256) = u7 at *
  clear e tb p0 p1 p2 p3 p4 p5 p6 p7 q z b1 b2 k1 k2 k3 hx l1
  rw [show (8 : Int32) = nI 8 from rfl, lx_ushr (by omega) 8 (by decide), lN_add, show (16 : Int32) = nI 16 from rfl, lx_ushr (by rw [Nat.shiftRight_eq_div_pow]; omega) 16 (by decide), lN_add, show (32 : Int32) = nI 32 from rfl, lx_ushr (by simp only [Nat.shiftRight_eq_div_pow]; omega) 32 (by decide), lN_add]
  simp only [Nat.shiftRight_eq_div_pow]
  have fin : ∀ v s, v % 128 = s → (lN v).toInt32 &&& (127 : Int32) = nI s := fun v s hs => by
    rw [show (127 : Int32) = nI (2 ^ 7 - 1) from rfl]
    have : (lN v).toInt32 = nI v := by
      apply Int32.toBitVec_inj.mp
      show (BitVec.ofNat 64 v).signExtend 32 = BitVec.ofNat 32 v
      apply BitVec.eq_of_toNat_eq
      rw [BitVec.signExtend_eq_setWidth_of_le _ (by decide), BitVec.toNat_setWidth, BitVec.toNat_ofNat, BitVec.toNat_ofNat]
      exact Nat.mod_mod_of_dvd _ (by decide)
    rw [this, ix_and, Nat.and_two_pow_sub_one_eq_mod]
    exact congrArg nI hs
  rw [fin _ (u0 + (u1 + (u2 + (u3 + (u4 + (u5 + (u6 + (u7 + 0)))))))) (fin64 rfl rfl rfl rfl rfl rfl rfl rfl q0 q1 q2 q3 q4 q5 q6 q7)]
