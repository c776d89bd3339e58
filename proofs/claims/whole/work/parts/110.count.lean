/-! COUNTING BITS of 12: all 4096 masks -/
def pc (n m : Nat) : Nat := sumN n fun i => if m.testBit i then 1 else 0
set_option maxRecDepth 100000 in
theorem bc12 : ∀ m, m < 4096 → F_J6_bitCount_0f7a4 (nI m) = some (nI (pc 12 m)) := by decide +kernel
theorem pc_mk {n : Nat} (f : Nat → Bool) : pc n (mk n f) = sumN n fun i => if f i then 1 else 0 := by
  unfold pc
  refine sumN_cong (fun i hi => ?_)
  rw [mk_bit, decide_eq_true hi, Bool.true_and]
theorem bc_mk (f : Nat → Bool) : F_J6_bitCount_0f7a4 (nI (mk 12 f)) = some (nI (sumN 12 fun i => if f i then 1 else 0)) := by
  rw [bc12 _ (mk_lt 12 f), pc_mk]
theorem sumN_ext {n m : Nat} {f : Nat → Nat} (h : n ≤ m) (hf : ∀ i, n ≤ i → i < m → f i = 0) : sumN m f = sumN n f := by
  induction m with
  | zero =>
    have e : n = 0 := by omega
    rw [e]
  | succ m ih =>
    by_cases e : n = m + 1
    · rw [e]
    · show sumN m f + f m = _
      rw [hf m (by omega) (by omega), Nat.add_zero]
      exact ih (by omega) (fun i h1 h2 => hf i h1 (by omega))
/-- the number of the highest bit and one, 0 without -/
def topB (m : Nat) : Nat := foldN 12 (fun k x => if m.testBit k then k + 1 else x) 0
set_option maxRecDepth 100000 in
theorem nlz12 : ∀ m, m < 4096 → F_J6_numberOfLeadingZeros_0f7a4 (nI m) = some (32 - nI (topB m)) := by decide +kernel
def lowB (m : Nat) : Nat := (List.range 12).find? (fun i => m.testBit i) |>.getD 32
set_option maxRecDepth 100000 in
theorem ntz12 : ∀ m, m < 4096 → F_J6_numberOfTrailingZeros_0f7a4 (nI m) = some (nI (lowB m)) := by decide +kernel
