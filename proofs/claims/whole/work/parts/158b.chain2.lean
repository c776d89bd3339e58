/-! TREES: up from a copy, both sides -/
def ancQ (T : Nat → Nat) (c x i : Nat) : Bool := anyN i fun j => decide (1 ≤ j) && decide (up T j (c + 1) = x + 1)
theorem ancQ_1 (T : Nat → Nat) (c x : Nat) : ancQ T c x 1 = false := rfl
theorem ancQ_succ (T : Nat → Nat) (c x i : Nat) (h : 1 ≤ i) : ancQ T c x (i + 1) = (ancQ T c x i || decide (up T i (c + 1) = x + 1)) := by
  show (anyN i _ || (decide (1 ≤ i) && _)) = _
  rw [decide_eq_true h, Bool.true_and]
  rfl
theorem ancQ_in {T : Nat → Nat} {c x i d : Nat} (h : 1 ≤ i) (h2 : i < d) (e : up T i (c + 1) = x + 1) : ancQ T c x d = true := by
  unfold ancQ
  rw [anyN_true]
  exact ⟨i, h2, by rw [decide_eq_true h, decide_eq_true e]; rfl⟩
theorem kI_eq {k x : Nat} (h1 : 1 ≤ k) (h2 : k ≤ 13) (hx : x < 13) : kI k = nI x ↔ k = x + 1 := by
  unfold kI
  rw [if_neg (show ¬ k = 0 by omega), nI_eq (by omega) (by omega)]
  omega
theorem c_comesOf {h : pg_H} {n d : Nat} {T : Nat → Nat} (L : Lay h) (hn : n ≤ 12) (t2 : ∀ c, c < 12 → pg_i h 66 c = if c < n ∧ T c ≠ 0 then nI (T c - 1) else -1) {c x : Nat} (hc : c < n) (hx : x < n) (d1 : 1 ≤ d) (d2 : d ≤ n) (d3 : up T d (c + 1) = 0) (d4 : ∀ i, i < d → 1 ≤ up T i (c + 1) ∧ up T i (c + 1) ≤ n) : F_X6_comesOf h 59 (nI c) (nI x) = some (b01 (ancQ T c x d)) := by
  unfold F_X6_comesOf
  rw [nc_59 L.kd, c_exemplarOf L hn t2 hc, Option.bind_some, show T c = up T (0 + 1) (c + 1) from (if_neg (show ¬ c + 1 = 0 by omega)).symm]
  refine loopE (fun f i (_ : Unit) => F_X6_comesOf_9 h f 59 (nI x) (kI (up T (i + 1) (c + 1))) (nI i)) (d - 1) (fun i _ => ancQ T c x (i + 1) = false) (fun o => o = some (b01 (ancQ T c x d))) ?_ ?_ 0 () (Nat.zero_le _) (ancQ_1 T c x) pg_fuel (by unfold pg_fuel; omega)
  · intro f i _ hi no
    obtain ⟨r1, r2⟩ := d4 (i + 1) (by omega)
    show (∃ x', F_X6_comesOf_9 h (f + 1) 59 (nI x) (kI (up T (i + 1) (c + 1))) (nI i) = _ ∧ _) ∨ F_X6_comesOf_9 h (f + 1) 59 (nI x) (kI (up T (i + 1) (c + 1))) (nI i) = _
    rw [F_X6_comesOf_9]
    dsimp only
    rw [if_pos (show nI i < (12 : Int32) from nI_lt (b := 12) (by omega) (by decide)), if_neg (kI_no r1 (by omega))]
    by_cases e : up T (i + 1) (c + 1) = x + 1
    · right
      rw [if_pos ((kI_eq r1 (by omega) (by omega)).mpr e), ancQ_in (by omega) (show i + 1 < d by omega) e]
      rfl
    · left
      refine ⟨(), ?_, ?_⟩
      · rw [if_neg (fun z => e ((kI_eq r1 (by omega) (by omega)).mp z)), nc_59 L.kd, show kI (up T (i + 1) (c + 1)) = nI (up T (i + 1) (c + 1) - 1) from if_neg (by omega), c_exemplarOf L hn t2 (show up T (i + 1) (c + 1) - 1 < n by omega), Option.bind_some, nI_1, show T (up T (i + 1) (c + 1) - 1) = up T (i + 1 + 1) (c + 1) from (if_neg (show ¬ up T (i + 1) (c + 1) = 0 by omega)).symm]
      · rw [ancQ_succ T c x (i + 1) (by omega), no, decide_eq_false e]
        rfl
  · intro f _ no
    rw [show d - 1 + 1 = d by omega] at no
    show F_X6_comesOf_9 h (f + 1) 59 (nI x) (kI (up T (d - 1 + 1) (c + 1))) (nI (d - 1)) = _
    rw [show d - 1 + 1 = d by omega, d3, F_X6_comesOf_9, no]
    dsimp only
    rw [if_pos (show nI (d - 1) < (12 : Int32) from nI_lt (b := 12) (by omega) (by decide)), if_pos (show kI 0 = -1 from rfl)]
    rfl
theorem kE_12 {k : Nat} (h1 : 1 ≤ k) (h2 : k ≤ 12) : ¬ nI (kE k) = (12 : Int32) := fun z => by
  unfold kE at z
  rw [if_neg (show ¬ k = 0 by omega)] at z
  have := (nI_eq (b := 12) (by omega) (by decide)).mp z
  omega
theorem m_stepsOf {h : pg_H} {n d : Nat} {T : Nat → Nat} (L : Lay h) (hn : n ≤ 12) (t2 : ∀ c, c < n → pg_i h 97 c = nI (kE (T c))) {c : Nat} (hc : c < n) (d1 : 1 ≤ d) (d2 : d ≤ n) (d3 : up T d (c + 1) = 0) (d4 : ∀ i, i < d → 1 ≤ up T i (c + 1) ∧ up T i (c + 1) ≤ n) : F_X12_stepsOf h 81 (nI c) = some (nI d) := by
  unfold F_X12_stepsOf
  rw [nR_81_29 L.kd L.rd, Option.bind_some, na_97 L.kd (by omega), t2 c hc, Option.bind_some, show T c = up T 1 (c + 1) from (if_neg (show ¬ c + 1 = 0 by omega)).symm]
  refine loopI (fun f i (_ : Unit) => F_X12_stepsOf_9 h f 81 (nI i) (nI (kE (up T i (c + 1))))) d (fun i _ => 1 ≤ i) (fun o => o = some (nI d)) ?_ ?_ 1 () d1 (Nat.le_refl _) pg_fuel (by unfold pg_fuel; omega)
  · intro f i _ hi _
    obtain ⟨r1, r2⟩ := d4 i hi
    refine ⟨(), ?_, by omega⟩
    show F_X12_stepsOf_9 h (f + 1) 81 (nI i) (nI (kE (up T i (c + 1)))) = _
    rw [F_X12_stepsOf_9]
    dsimp only
    rw [if_neg (kE_12 r1 (by omega)), nR_81_29 L.kd L.rd, Option.bind_some, show kE (up T i (c + 1)) = up T i (c + 1) - 1 from if_neg (by omega), na_97 L.kd (by omega), t2 _ (by omega), Option.bind_some, nI_1, show T (up T i (c + 1) - 1) = up T (i + 1) (c + 1) from (if_neg (show ¬ up T i (c + 1) = 0 by omega)).symm]
  · intro f _ _
    show F_X12_stepsOf_9 h (f + 1) 81 (nI d) (nI (kE (up T d (c + 1)))) = _
    rw [F_X12_stepsOf_9, d3]
    dsimp only
    rw [if_pos (show nI (kE 0) = (12 : Int32) from rfl)]
theorem m_comesOf {h : pg_H} {n d : Nat} {T : Nat → Nat} (L : Lay h) (hn : n ≤ 12) (t2 : ∀ c, c < n → pg_i h 97 c = nI (kE (T c))) {c x : Nat} (hc : c < n) (hx : x < n) (d1 : 1 ≤ d) (d2 : d ≤ n) (d3 : up T d (c + 1) = 0) (d4 : ∀ i, i < d → 1 ≤ up T i (c + 1) ∧ up T i (c + 1) ≤ n) : F_X12_comesOf h 81 (nI c) (nI x) = some (b01 (ancQ T c x d)) := by
  unfold F_X12_comesOf
  rw [nR_81_29 L.kd L.rd, Option.bind_some, na_97 L.kd (by omega), t2 c hc, Option.bind_some, show T c = up T 1 (c + 1) from (if_neg (show ¬ c + 1 = 0 by omega)).symm]
  refine loopI (fun f i (_ : Unit) => F_X12_comesOf_10 h f 81 (nI x) (b01 (ancQ T c x i)) (nI (kE (up T i (c + 1))))) d (fun i _ => 1 ≤ i) (fun o => o = some (b01 (ancQ T c x d))) ?_ ?_ 1 () d1 (Nat.le_refl _) pg_fuel (by unfold pg_fuel; omega)
  · intro f i _ hi i1
    obtain ⟨r1, r2⟩ := d4 i hi
    refine ⟨(), ?_, by omega⟩
    show F_X12_comesOf_10 h (f + 1) 81 (nI x) (b01 (ancQ T c x i)) (nI (kE (up T i (c + 1)))) = _
    have go : ∀ s, F_X12_comesOf_32 h (F_X12_comesOf_10 h f) 81 (nI x) (nI (kE (up T i (c + 1)))) s = F_X12_comesOf_10 h f 81 (nI x) s (nI (kE (up T (i + 1) (c + 1)))) := fun s => by
      unfold F_X12_comesOf_32
      rw [nR_81_29 L.kd L.rd, Option.bind_some, show kE (up T i (c + 1)) = up T i (c + 1) - 1 from if_neg (by omega), na_97 L.kd (by omega), t2 _ (by omega), Option.bind_some, show T (up T i (c + 1) - 1) = up T (i + 1) (c + 1) from (if_neg (show ¬ up T i (c + 1) = 0 by omega)).symm]
    rw [F_X12_comesOf_10, ancQ_succ T c x i i1]
    dsimp only
    unfold F_X12_comesOf_27
    rw [if_neg (kE_12 r1 (by omega)), if_bb, go, go]
    have ke : (nI (kE (up T i (c + 1))) = nI x) ↔ up T i (c + 1) = x + 1 := by
      rw [show kE (up T i (c + 1)) = up T i (c + 1) - 1 from if_neg (by omega), nI_eq (by omega) (by omega)]
      omega
    cases ancQ T c x i with
    | true => rfl
    | false =>
      rw [if_neg (by decide), Bool.false_or]
      by_cases e : up T i (c + 1) = x + 1
      · rw [if_pos (ke.mpr e), decide_eq_true e]
        rfl
      · rw [if_neg (fun z => e (ke.mp z)), decide_eq_false e]
        rfl
  · intro f _ _
    show F_X12_comesOf_10 h (f + 1) 81 (nI x) (b01 (ancQ T c x d)) (nI (kE (up T d (c + 1)))) = _
    rw [F_X12_comesOf_10, d3]
    dsimp only
    rw [if_pos (show nI (kE 0) = (12 : Int32) from rfl)]
    cases ancQ T c x d <;> rfl
