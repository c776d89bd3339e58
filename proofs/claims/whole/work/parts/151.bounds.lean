/-! COSTS: how great they can be together -/
theorem add_lea_le {A : Nat → Int32} (K : ShOK A) {w : Nat → Nat → Nat} (hw : wOK w) {a c : Nat} (ha : a < 2 ^ 31) (hc : c < 2 ^ 31) : addS A w a a c + leaS A w a a c ≤ 20000 := by
  refine Nat.le_trans ?_ (note_sum_le K hw ha hc (fun _ => true))
  unfold addS leaS
  rw [← sumN_add]
  refine sumN_mono (fun m _ => ?_)
  cases hasM A a m <;> cases hasM A c m <;> cases cutM A a m <;> cases cutM A c m <;> simp
theorem cst_le2 {A : Nat → Int32} (K : ShOK A) {w : Nat → Nat → Nat} (hw : wOK w) {f c : Nat} (hf : f ≤ 12) (hc : c < 12) : cst A w f c ≤ 180000 := by
  obtain ⟨t0, t1, t2, _⟩ := terms_le K
  have c31 : c < 2 ^ 31 := by omega
  unfold cst
  by_cases z : f = 0
  · rw [if_pos z]
    have := ownS_le K hw c31
    have := Nat.mul_le_mul (show tm A 2 ≤ 9 by omega) this
    omega
  · rw [if_neg z]
    unfold frC
    have s := add_lea_le K hw (a := f - 1) (show f - 1 < 2 ^ 31 by omega) c31
    have := Nat.mul_le_mul_right (addS A w (f - 1) (f - 1) c) (show tm A 0 ≤ 9 by omega)
    have := Nat.mul_le_mul_right (leaS A w (f - 1) (f - 1) c) (show tm A 1 ≤ 9 by omega)
    omega
theorem own_notes {A : Nat → Int32} (K : ShOK A) (w : Nat → Nat → Nat) {c : Nat} (hc : c < 2 ^ 31) : ownS A w c = sumN (nN A) fun n => if wrQ A n && decide (nt A n 0 = c) then wM w (nKey A n) else 0 := by
  rw [ownS_G]
  have z := note_sum K w hc hc (fun _ => true)
  rw [← z]
  refine sumN_cong (fun n _ => ?_)
  cases decide (nt A n 0 = c) <;> simp
theorem own_all {A : Nat → Int32} (K : ShOK A) {w : Nat → Nat → Nat} (hw : wOK w) {n : Nat} (hn : n ≤ 12) : sumN n (fun c => ownS A w c) ≤ 20000 := by
  have key : ∀ k, k ≤ 12 → sumN k (fun c => ownS A w c) = sumN (nN A) fun n => if wrQ A n && decide (nt A n 0 < k) then wM w (nKey A n) else 0 := by
    intro k
    induction k with
    | zero =>
      intro _
      refine (sumN_zero (n := nN A)).symm.trans (sumN_cong (fun n _ => ?_))
      rw [decide_eq_false (Nat.not_lt_zero _), Bool.and_false]
      rfl
    | succ k ih =>
      intro hk
      show sumN k _ + ownS A w k = _
      rw [ih (by omega), own_notes K w (show k < 2 ^ 31 by omega), ← sumN_add]
      refine sumN_cong (fun n _ => ?_)
      cases wrQ A n with
      | false => rfl
      | true =>
        by_cases a : nt A n 0 < k
        · rw [decide_eq_true a, decide_eq_false (show ¬ nt A n 0 = k by omega), decide_eq_true (show nt A n 0 < k + 1 by omega)]
          rfl
        · by_cases b : nt A n 0 = k
          · rw [decide_eq_false a, decide_eq_true b, decide_eq_true (show nt A n 0 < k + 1 by omega)]
            exact Nat.zero_add _
          · rw [decide_eq_false a, decide_eq_false b, decide_eq_false (show ¬ nt A n 0 < k + 1 by omega)]
            rfl
  have kN : nN A < 201 := K.1.2.2.2.1.2
  rw [key n hn]
  refine Nat.le_trans (sumN_le (b := 100) (fun n _ => ?_)) (by omega)
  split
  · exact hw _ _
  · exact Nat.zero_le _
theorem alone_le {A : Nat → Int32} (K : ShOK A) {w : Nat → Nat → Nat} (hw : wOK w) : tCost (nC A) (cst A w) (fun _ => 0) ≤ 180000 := by
  have kC : nC A < 13 := K.1.1.2
  obtain ⟨_, _, t2, _⟩ := terms_le K
  have e : tCost (nC A) (cst A w) (fun _ => 0) = tm A 2 * sumN (nC A) fun c => ownS A w c := by
    rw [← sumN_mul]
    exact sumN_cong (fun c _ => if_pos rfl)
  rw [e]
  have := own_all K hw (show nC A ≤ 12 by omega)
  have := Nat.mul_le_mul (show tm A 2 ≤ 9 by omega) this
  omega
