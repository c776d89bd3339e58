/-! NUMBERS by digits to a base -/
def dg (B v j : Nat) : Nat := v / B ^ j % B
section DG
variable {B : Nat}
theorem dg_lt (hB : 0 < B) (v j : Nat) : dg B v j < B := Nat.mod_lt _ hB
theorem mod_succ (v i : Nat) : v % B ^ (i + 1) = v % B ^ i + B ^ i * dg B v i := Nat.mod_pow_succ
theorem dg_over (hB : 0 < B) {v s j : Nat} (h : v < B ^ s) (hj : s ≤ j) : dg B v j = 0 := by
  unfold dg
  rw [Nat.div_eq_of_lt (Nat.lt_of_lt_of_le h (Nat.pow_le_pow_right hB hj)), Nat.zero_mod]
def mc (B v f i : Nat) : Nat := v % B ^ i * f / B ^ i
theorem mc_0 (v f : Nat) : mc B v f 0 = 0 := by
  unfold mc
  rw [Nat.pow_zero, Nat.mod_one, Nat.zero_mul, Nat.zero_div]
theorem mc_mid (hB : 0 < B) (v f i : Nat) : dg B v i * f + mc B v f i = v % B ^ (i + 1) * f / B ^ i := by
  unfold mc
  rw [mod_succ, Nat.add_mul, Nat.mul_assoc, Nat.add_mul_div_left _ _ (Nat.pow_pos hB), Nat.add_comm]
theorem mc_next (hB : 0 < B) (v f i : Nat) : (dg B v i * f + mc B v f i) / B = mc B v f (i + 1) := by
  rw [mc_mid hB, Nat.div_div_eq_div_mul, ← Nat.pow_succ]
  rfl
theorem mc_dg (hB : 0 < B) (v f i : Nat) : (dg B v i * f + mc B v f i) % B = dg B (v * f) i := by
  rw [mc_mid hB]
  have e : v * f = B ^ i * (B * (v / B ^ (i + 1) * f)) + v % B ^ (i + 1) * f := by
    rw [← Nat.mul_assoc, ← Nat.pow_succ, ← Nat.mul_assoc, ← Nat.add_mul, Nat.div_add_mod]
  have e2 : v * f / B ^ i = B * (v / B ^ (i + 1) * f) + v % B ^ (i + 1) * f / B ^ i := by
    rw [e, Nat.mul_add_div (Nat.pow_pos hB)]
  show _ = v * f / B ^ i % B
  rw [e2, Nat.mul_add_mod]
theorem mc_le (hB : 0 < B) (v f i : Nat) : mc B v f i ≤ f :=
  Nat.div_le_of_le_mul (Nat.mul_le_mul_right f (Nat.le_of_lt (Nat.mod_lt _ (Nat.pow_pos hB))))
def ac (B v w i : Nat) : Nat := (v % B ^ i + w % B ^ i) / B ^ i
theorem ac_0 (v w : Nat) : ac B v w 0 = 0 := by
  unfold ac
  rw [Nat.pow_zero, Nat.mod_one, Nat.mod_one, Nat.zero_div]
theorem ac_mid (hB : 0 < B) (v w i : Nat) : dg B v i + dg B w i + ac B v w i = (v % B ^ (i + 1) + w % B ^ (i + 1)) / B ^ i := by
  unfold ac
  rw [mod_succ, mod_succ, show v % B ^ i + B ^ i * dg B v i + (w % B ^ i + B ^ i * dg B w i) = v % B ^ i + w % B ^ i + B ^ i * (dg B v i + dg B w i) by rw [Nat.mul_add]; omega, Nat.add_mul_div_left _ _ (Nat.pow_pos hB), Nat.add_comm]
theorem ac_next (hB : 0 < B) (v w i : Nat) : (dg B v i + dg B w i + ac B v w i) / B = ac B v w (i + 1) := by
  rw [ac_mid hB, Nat.div_div_eq_div_mul, ← Nat.pow_succ]
  rfl
theorem ac_dg (hB : 0 < B) (v w i : Nat) : (dg B v i + dg B w i + ac B v w i) % B = dg B (v + w) i := by
  rw [ac_mid hB]
  have e1 : v = B ^ i * (B * (v / B ^ (i + 1))) + v % B ^ (i + 1) := by
    rw [← Nat.mul_assoc, ← Nat.pow_succ, Nat.div_add_mod]
  have e2 : w = B ^ i * (B * (w / B ^ (i + 1))) + w % B ^ (i + 1) := by
    rw [← Nat.mul_assoc, ← Nat.pow_succ, Nat.div_add_mod]
  have e : v + w = B ^ i * (B * (v / B ^ (i + 1) + w / B ^ (i + 1))) + (v % B ^ (i + 1) + w % B ^ (i + 1)) := by
    rw [Nat.mul_add B, Nat.mul_add (B ^ i)]
    omega
  have e3 : (v + w) / B ^ i = B * (v / B ^ (i + 1) + w / B ^ (i + 1)) + (v % B ^ (i + 1) + w % B ^ (i + 1)) / B ^ i := by
    rw [e, Nat.mul_add_div (Nat.pow_pos hB)]
  show _ = (v + w) / B ^ i % B
  rw [e3, Nat.mul_add_mod]
theorem ac_le (hB : 0 < B) (v w i : Nat) : ac B v w i ≤ 1 := by
  have p := Nat.pow_pos (n := i) hB
  have a := Nat.mod_lt v p
  have b := Nat.mod_lt w p
  have : ac B v w i < 2 := Nat.div_lt_of_lt_mul (by omega)
  omega
theorem dg_split (v i : Nat) : v / B ^ i = B * (v / B ^ (i + 1)) + dg B v i := by
  unfold dg
  rw [Nat.pow_succ, ← Nat.div_div_eq_div_mul, Nat.div_add_mod]
theorem dg_less {v w i : Nat} (e : v / B ^ (i + 1) = w / B ^ (i + 1)) (l : dg B v i < dg B w i) : v < w := by
  refine Nat.lt_of_not_le (fun q => ?_)
  have z := Nat.div_le_div_right (c := B ^ i) q
  rw [dg_split v, dg_split w, e] at z
  omega
theorem dg_same {v w i : Nat} (e : v / B ^ (i + 1) = w / B ^ (i + 1)) (l : dg B v i = dg B w i) : v / B ^ i = w / B ^ i := by
  rw [dg_split v, dg_split w, e, l]
end DG
theorem lx_mask (a : Nat) : lN a &&& (1073741823 : Int64) = lN (a % 1073741824) := by
  rw [show (1073741823 : Int64) = lN (2 ^ 30 - 1) from rfl, lx_and, Nat.and_two_pow_sub_one_eq_mod]
theorem lx_shr30 {a : Nat} (h : a < 2 ^ 63) : lN a >>> ((30 : Int32).toInt64 &&& 63) = lN (a / 1073741824) := by
  rw [show (30 : Int32) = nI 30 from rfl, lx_shr h 30 (by decide), Nat.shiftRight_eq_div_pow]
