/-! TREES: up from a copy (knots: 0 nobody, c + 1 the copy c) -/
def up (T : Nat → Nat) : Nat → Nat → Nat
  | 0, k => k
  | i + 1, k => if up T i k = 0 then 0 else T (up T i k - 1)
theorem chain_end {n : Nat} {al : Nat → Nat → Bool} {T : Nat → Nat} (h : isTree n al T) {c : Nat} (hc : c < n) : ∃ d, 1 ≤ d ∧ d ≤ n ∧ up T d (c + 1) = 0 ∧ ∀ i, i < d → 1 ≤ up T i (c + 1) ∧ up T i (c + 1) ≤ n := by
  obtain ⟨h1, rk, h2⟩ := h
  have rng : ∀ i, up T i (c + 1) ≤ n := by
    intro i
    induction i with
    | zero => exact hc
    | succ i ih =>
      show (if up T i (c + 1) = 0 then 0 else T (up T i (c + 1) - 1)) ≤ n
      by_cases z : up T i (c + 1) = 0
      · rw [if_pos z]
        omega
      · rw [if_neg z]
        exact (h1 _ (by omega)).1
  have stp : ∀ i, up T i (c + 1) ≠ 0 → up T (i + 1) (c + 1) = T (up T i (c + 1) - 1) := fun i z => if_neg z
  have ex : ∃ i, i ≤ n ∧ up T i (c + 1) = 0 := by
    by_cases q : ∃ i, i ≤ n ∧ up T i (c + 1) = 0
    · exact q
    · exfalso
      have nz : ∀ i, i ≤ n → up T i (c + 1) ≠ 0 := fun i hi z => q ⟨i, hi, z⟩
      have dec : ∀ d i, i + (d + 1) ≤ n → rk (up T (i + (d + 1)) (c + 1) - 1) < rk (up T i (c + 1) - 1) := by
        have one : ∀ i, i + 1 ≤ n → rk (up T (i + 1) (c + 1) - 1) < rk (up T i (c + 1) - 1) := fun i hi => by
          have := nz (i + 1) hi
          rw [stp i (nz i (by omega))] at this ⊢
          exact h2 _ (by have := rng i; have := nz i (by omega); omega) this
        intro d
        induction d with
        | zero => exact one
        | succ d ih =>
          intro i hi
          have a := ih i (by omega)
          have b := one (i + (d + 1)) (by omega)
          rw [show i + (d + 1 + 1) = i + (d + 1) + 1 by omega]
          omega
      have inj : ∀ i j, i < n + 1 → j < n + 1 → up T i (c + 1) - 1 = up T j (c + 1) - 1 → i = j := fun i j hi hj e => by
        by_cases l : i < j
        · have := dec (j - i - 1) i (by omega)
          rw [show i + (j - i - 1 + 1) = j by omega, e] at this
          omega
        · by_cases g : j < i
          · have := dec (i - j - 1) j (by omega)
            rw [show j + (i - j - 1 + 1) = i by omega, e] at this
            omega
          · omega
      have z := sumN_inj_le (n := n + 1) (m := n) (v := fun i => up T i (c + 1) - 1) (f := fun _ => 1) (fun i hi => by
        have := rng i
        have := nz i (by omega)
        show up T i (c + 1) - 1 < n
        omega) inj
      rw [sumN_ones, sumN_ones] at z
      omega
  have least : ∀ k, (∃ i, i ≤ k ∧ up T i (c + 1) = 0) → ∃ d, d ≤ k ∧ up T d (c + 1) = 0 ∧ ∀ i, i < d → up T i (c + 1) ≠ 0 := by
    intro k
    induction k with
    | zero =>
      rintro ⟨i, hi, z⟩
      have : i = 0 := by omega
      subst this
      exact ⟨0, Nat.le_refl _, z, fun i hi => absurd hi (Nat.not_lt_zero i)⟩
    | succ k ih =>
      rintro ⟨i, hi, z⟩
      by_cases q : ∃ i, i ≤ k ∧ up T i (c + 1) = 0
      · obtain ⟨d, d1, d2, d3⟩ := ih q
        exact ⟨d, by omega, d2, d3⟩
      · refine ⟨i, hi, z, fun j hj y => q ⟨j, by omega, y⟩⟩
  obtain ⟨d, d1, d2, d3⟩ := least n ex
  refine ⟨d, ?_, d1, d2, fun i hi => ⟨by have := d3 i hi; omega, rng i⟩⟩
  by_cases d0 : d = 0
  · subst d0
    have : c + 1 = 0 := d2
    omega
  · omega
def kI (k : Nat) : Int32 := if k = 0 then -1 else nI (k - 1)
theorem kI_no {k : Nat} (h1 : 1 ≤ k) (h2 : k ≤ 13) : kI k ≠ -1 := by
  unfold kI
  rw [if_neg (by omega)]
  exact nI_no (by omega)
theorem c_exemplarOf {h : pg_H} {n : Nat} {T : Nat → Nat} (L : Lay h) (hn : n ≤ 12) (t2 : ∀ c, c < 12 → pg_i h 66 c = if c < n ∧ T c ≠ 0 then nI (T c - 1) else -1) {c : Nat} (hc : c < n) : F_X6_exemplarOf h 59 (nI c) = some (kI (T c)) := by
  unfold F_X6_exemplarOf
  rw [if_neg (show ¬ nI c < (0 : Int32) from nI_nlt (b := 0) (Nat.zero_le _) (by omega)), if_pos (show nI c < (12 : Int32) from nI_lt (b := 12) (by omega) (by decide)), nR_59_6 L.kd L.rd, Option.bind_some, na_66 L.kd (by omega), Option.bind_some, t2 c (by omega)]
  unfold kI
  by_cases t0 : T c = 0
  · rw [if_neg (show ¬ (c < n ∧ T c ≠ 0) from fun y => y.2 t0), if_pos t0]
  · rw [if_pos (show c < n ∧ T c ≠ 0 from ⟨hc, t0⟩), if_neg t0]
theorem c_steps {h : pg_H} {n d : Nat} {T : Nat → Nat} (L : Lay h) (hn : n ≤ 12) (t2 : ∀ c, c < 12 → pg_i h 66 c = if c < n ∧ T c ≠ 0 then nI (T c - 1) else -1) {c : Nat} (d2 : d ≤ n) (d3 : up T d (c + 1) = 0) (d4 : ∀ i, i < d → 1 ≤ up T i (c + 1) ∧ up T i (c + 1) ≤ n) : F_X6_stepsFromNobody h 59 (nI c) = some (nI d) := by
  unfold F_X6_stepsFromNobody
  refine loopI (fun f i (_ : Unit) => F_X6_stepsFromNobody_7 h f 59 (nI i) (kI (up T i (c + 1))) (nI i)) d (fun _ _ => True) (fun o => o = some (nI d)) ?_ ?_ 0 () (Nat.zero_le _) trivial pg_fuel (by unfold pg_fuel; omega)
  · intro f i _ hi _
    obtain ⟨r1, r2⟩ := d4 i hi
    refine ⟨(), ?_, trivial⟩
    show F_X6_stepsFromNobody_7 h (f + 1) 59 (nI i) (kI (up T i (c + 1))) (nI i) = _
    rw [F_X6_stepsFromNobody_7]
    dsimp only
    rw [if_pos (show nI i < (12 : Int32) from nI_lt (b := 12) (by omega) (by decide)), if_neg (kI_no r1 (by omega)), nc_59 L.kd, show kI (up T i (c + 1)) = nI (up T i (c + 1) - 1) from if_neg (by omega), c_exemplarOf L hn t2 (show up T i (c + 1) - 1 < n by omega), Option.bind_some, nI_1, show T (up T i (c + 1) - 1) = up T (i + 1) (c + 1) from (if_neg (show ¬ up T i (c + 1) = 0 by omega)).symm]
  · intro f _ _
    show F_X6_stepsFromNobody_7 h (f + 1) 59 (nI d) (kI (up T d (c + 1))) (nI d) = _
    rw [F_X6_stepsFromNobody_7, d3]
    dsimp only
    by_cases q : d < 12
    · rw [if_pos (show nI d < (12 : Int32) from nI_lt (b := 12) q (by decide)), if_pos (show kI 0 = -1 from rfl)]
    · rw [if_neg (show ¬ nI d < (12 : Int32) from nI_nlt (b := 12) (by omega) (by omega))]
