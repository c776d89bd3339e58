/-! SUMS: plain facts -/
theorem sumN_add {n : Nat} {f g : Nat → Nat} : sumN n (fun i => f i + g i) = sumN n f + sumN n g := by
  induction n with
  | zero => rfl
  | succ n ih =>
    show sumN n (fun i => f i + g i) + (f n + g n) = (sumN n f + f n) + (sumN n g + g n)
    rw [ih]
    omega
theorem sumN_zero {n : Nat} : sumN n (fun _ => 0) = 0 := by
  induction n with
  | zero => rfl
  | succ n ih =>
    show sumN n (fun _ => 0) + 0 = 0
    rw [ih]
theorem sumN_one {n k x : Nat} (hk : k < n) : sumN n (fun i => if i = k then x else 0) = x := by
  induction n with
  | zero => omega
  | succ n ih =>
    show sumN n (fun i => if i = k then x else 0) + (if n = k then x else 0) = x
    by_cases e : n = k
    · subst e
      have z : sumN n (fun i => if i = n then x else 0) = sumN n (fun _ => 0) := sumN_cong (fun i hi => if_neg (by omega))
      rw [z, sumN_zero, if_pos rfl, Nat.zero_add]
    · rw [ih (by omega), if_neg e, Nat.add_zero]
theorem sumN_mono {n : Nat} {f g : Nat → Nat} (h : ∀ i, i < n → f i ≤ g i) : sumN n f ≤ sumN n g := by
  induction n with
  | zero => exact Nat.le_refl _
  | succ n ih => exact Nat.add_le_add (ih (fun i hi => h i (by omega))) (h n (by omega))
/-- summed over what an injection hits -/
theorem sumN_inj {n m : Nat} {v : Nat → Nat} {p : Nat → Bool} {f : Nat → Nat} (hv : ∀ i, i < n → p i = true → v i < m) (inj : ∀ i j, i < n → j < n → p i = true → p j = true → v i = v j → i = j) :
    sumN n (fun i => if p i then f (v i) else 0) = sumN m (fun k => if anyN n (fun i => p i && decide (v i = k)) then f k else 0) := by
  induction n with
  | zero => exact sumN_zero.symm
  | succ n ih =>
    have ih' := ih (fun i hi => hv i (by omega)) (fun i j hi hj => inj i j (by omega) (by omega))
    show sumN n (fun i => if p i then f (v i) else 0) + (if p n then f (v n) else 0) = _
    rw [ih']
    cases e : p n with
    | false =>
      rw [if_neg (by decide), Nat.add_zero]
      refine sumN_cong (fun k hk => ?_)
      show _ = if (anyN n (fun i => p i && decide (v i = k)) || (p n && decide (v n = k))) = true then f k else 0
      rw [e, Bool.false_and, Bool.or_false]
    | true =>
      rw [if_pos rfl]
      have hn := hv n (by omega) e
      rw [← sumN_one (x := f (v n)) hn, ← sumN_add]
      refine sumN_cong (fun k hk => ?_)
      show _ = if (anyN n (fun i => p i && decide (v i = k)) || (p n && decide (v n = k))) = true then f k else 0
      rw [e, Bool.true_and]
      by_cases c : k = v n
      · have no : anyN n (fun i => p i && decide (v i = k)) = false := anyN_false.mpr (fun i hi => by
          cases q : p i with
          | false => rfl
          | true =>
            have : v i ≠ k := fun z => by
              have := inj i n (by omega) (by omega) q e (z.trans c)
              omega
            rw [decide_eq_false this]
            rfl)
        rw [no, if_neg (by decide), if_pos c, decide_eq_true c.symm, if_pos (by rfl), Nat.zero_add, c]
      · rw [if_neg c, decide_eq_false (fun z => c z.symm), Bool.or_false, Nat.add_zero]
theorem sumN_inj_le {n m : Nat} {v : Nat → Nat} {f : Nat → Nat} (hv : ∀ i, i < n → v i < m) (inj : ∀ i j, i < n → j < n → v i = v j → i = j) : sumN n (fun i => f (v i)) ≤ sumN m f := by
  have z := sumN_inj (n := n) (m := m) (v := v) (p := fun _ => true) (f := f) (fun i hi _ => hv i hi) (fun i j hi hj _ _ => inj i j hi hj)
  rw [show sumN n (fun i => f (v i)) = sumN n (fun i => if (fun _ => true) i = true then f (v i) else 0) from rfl, z]
  refine sumN_mono (fun k _ => ?_)
  by_cases c : anyN n (fun i => (fun _ => true) i && decide (v i = k)) = true
  · rw [if_pos c]
    exact Nat.le_refl _
  · rw [if_neg c]
    exact Nat.zero_le _
theorem sumN_mul {n a : Nat} {f : Nat → Nat} : sumN n (fun i => a * f i) = a * sumN n f := by
  induction n with
  | zero => rfl
  | succ n ih =>
    show sumN n (fun i => a * f i) + a * f n = a * (sumN n f + f n)
    rw [ih, Nat.mul_add]
/-- the first of n that is so; n if none -/
def lst (p : Nat → Bool) : Nat → Nat
  | 0 => 0
  | n + 1 => if lst p n < n then lst p n else if p n then n else n + 1
theorem lst_le {p : Nat → Bool} {n : Nat} : lst p n ≤ n := by
  induction n with
  | zero => exact Nat.le_refl _
  | succ n ih =>
    show (if lst p n < n then lst p n else if p n then n else n + 1) ≤ n + 1
    by_cases h : lst p n < n
    · rw [if_pos h]
      omega
    · rw [if_neg h]
      by_cases q : p n = true
      · rw [if_pos q]
        omega
      · rw [if_neg q]
        exact Nat.le_refl _
theorem lst_min {p : Nat → Bool} {n k : Nat} (hk : k < lst p n) : p k = false := by
  induction n with
  | zero => exact absurd hk (Nat.not_lt_zero k)
  | succ n ih =>
    have le := lst_le (p := p) (n := n)
    have hk' : k < (if lst p n < n then lst p n else if p n then n else n + 1) := hk
    by_cases h : lst p n < n
    · rw [if_pos h] at hk'
      exact ih hk'
    · rw [if_neg h] at hk'
      by_cases q : p n = true
      · rw [if_pos q] at hk'
        exact ih (by omega)
      · rw [if_neg q] at hk'
        by_cases e : k = n
        · subst e
          cases c : p k with
          | false => rfl
          | true => exact absurd c q
        · exact ih (by omega)
theorem lst_is {p : Nat → Bool} {n : Nat} (h : lst p n < n) : p (lst p n) = true := by
  induction n with
  | zero => exact absurd h (Nat.not_lt_zero _)
  | succ n ih =>
    have le := lst_le (p := p) (n := n)
    have e : lst p (n + 1) = if lst p n < n then lst p n else if p n then n else n + 1 := rfl
    rw [e] at h ⊢
    by_cases c : lst p n < n
    · rw [if_pos c]
      exact ih c
    · rw [if_neg c] at h ⊢
      by_cases q : p n = true
      · rw [if_pos q]
        exact q
      · rw [if_neg q] at h
        omega
theorem lst_lt {p : Nat → Bool} {n k : Nat} (hk : k < n) (h : p k = true) : lst p n ≤ k := by
  by_cases c : lst p n ≤ k
  · exact c
  · have := lst_min (p := p) (n := n) (k := k) (by omega)
    rw [h] at this
    cases this
