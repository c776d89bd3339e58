/-! LOOPS: what a loop of the code comes to -/
def foldN {σ : Type} : Nat → (Nat → σ → σ) → σ → σ
  | 0, _, s => s
  | n + 1, f, s => f n (foldN n f s)
def anyN : Nat → (Nat → Bool) → Bool
  | 0, _ => false
  | n + 1, p => anyN n p || p n
def sumN : Nat → (Nat → Nat) → Nat
  | 0, _ => 0
  | n + 1, f => sumN n f + f n
theorem b01_ok (b : Bool) : b01 b = 0 ∨ b01 b = 1 := by cases b <;> decide
theorem b01_0 {b : Bool} : b01 b = 0 ↔ b = false := by cases b <;> decide
theorem b01_1 {b : Bool} : b01 b = 1 ↔ b = true := by cases b <;> decide
theorem b01_if {P : Prop} [Decidable P] : (if P then (1 : Int32) else 0) = b01 (decide P) := by
  unfold b01
  by_cases h : P
  · rw [if_pos h, decide_eq_true h, if_pos rfl]
  · rw [if_neg h, decide_eq_false h, if_neg (by decide)]
theorem b01_z (b : Bool) : (if b01 b = 0 ∨ b01 b = 1 then some (b01 b) else none) = some (b01 b) := if_pos (b01_ok b)
theorem anyN_true {n : Nat} {p : Nat → Bool} : anyN n p = true ↔ ∃ i, i < n ∧ p i = true := by
  induction n with
  | zero => exact ⟨fun h => Bool.noConfusion (h : false = true), fun ⟨i, h, _⟩ => absurd h (Nat.not_lt_zero i)⟩
  | succ n ih =>
    show (anyN n p || p n) = true ↔ _
    rw [Bool.or_eq_true, ih]
    constructor
    · rintro (⟨i, h1, h2⟩ | h)
      · exact ⟨i, by omega, h2⟩
      · exact ⟨n, by omega, h⟩
    · rintro ⟨i, h1, h2⟩
      by_cases e : i = n
      · subst e
        exact Or.inr h2
      · exact Or.inl ⟨i, by omega, h2⟩
theorem anyN_false {n : Nat} {p : Nat → Bool} : anyN n p = false ↔ ∀ i, i < n → p i = false := by
  rw [← Bool.not_eq_true, anyN_true]
  constructor
  · intro h i hi
    cases e : p i with
    | false => rfl
    | true => exact absurd ⟨i, hi, e⟩ h
  · rintro h ⟨i, hi, e⟩
    rw [h i hi] at e
    cases e
theorem anyN_cong {n : Nat} {p q : Nat → Bool} (h : ∀ i, i < n → p i = q i) : anyN n p = anyN n q := by
  induction n with
  | zero => rfl
  | succ n ih =>
    show (anyN n p || p n) = (anyN n q || q n)
    rw [ih (fun i hi => h i (by omega)), h n (by omega)]
theorem sumN_cong {n : Nat} {p q : Nat → Nat} (h : ∀ i, i < n → p i = q i) : sumN n p = sumN n q := by
  induction n with
  | zero => rfl
  | succ n ih =>
    show sumN n p + p n = sumN n q + q n
    rw [ih (fun i hi => h i (by omega)), h n (by omega)]
theorem sumN_le {n b : Nat} {p : Nat → Nat} (h : ∀ i, i < n → p i ≤ b) : sumN n p ≤ n * b := by
  induction n with
  | zero => exact Nat.zero_le _
  | succ n ih =>
    show sumN n p + p n ≤ _
    have h1 := ih (fun i hi => h i (by omega))
    have h2 := h n (by omega)
    rw [Nat.add_mul, Nat.one_mul]
    omega
/-- a loop to its end: every turn a step -/
theorem loopF {ρ σ : Type} (F : Nat → Nat → σ → Option ρ) (N : Nat) (step : Nat → σ → σ) (out : Option ρ) (P : Nat → σ → Prop) (s : σ)
    (h1 : ∀ f i x, i < N → P i x → x = foldN i step s → F (f + 1) i x = F f (i + 1) (step i x))
    (hP : ∀ i x, i < N → P i x → x = foldN i step s → P (i + 1) (step i x))
    (h2 : ∀ f, P N (foldN N step s) → F (f + 1) N (foldN N step s) = out)
    (h0 : P 0 s) (f : Nat) (hf : N < f) : F f 0 s = out := by
  have key : ∀ d i f, i + d = N → d < f → P i (foldN i step s) → F f i (foldN i step s) = out := by
    intro d
    induction d with
    | zero =>
      intro i f hi hf hp
      obtain ⟨g, rfl⟩ : ∃ g, f = g + 1 := ⟨f - 1, by omega⟩
      have e : i = N := by omega
      subst e
      exact h2 g hp
    | succ d ih =>
      intro i f hi hf hp
      obtain ⟨g, rfl⟩ : ∃ g, f = g + 1 := ⟨f - 1, by omega⟩
      rw [h1 g i _ (by omega) hp rfl]
      exact ih (i + 1) g (by omega) (by omega) (hP i _ (by omega) hp rfl)
  exact key N 0 f (by omega) hf h0
/-- a loop that ends at the first find -/
theorem loopA {ρ : Type} (F : Nat → Nat → Option ρ) (N : Nat) (p : Nat → Bool) (yes no : Option ρ)
    (h1 : ∀ f i, i < N → p i = false → F (f + 1) i = F f (i + 1))
    (h2 : ∀ f i, i < N → p i = true → F (f + 1) i = yes)
    (h3 : ∀ f, F (f + 1) N = no) (f : Nat) (hf : N < f) : F f 0 = if anyN N p then yes else no := by
  have key : ∀ d i f, i + d = N → d < f → (∀ j, j < i → p j = false) → F f i = if anyN N p then yes else no := by
    intro d
    induction d with
    | zero =>
      intro i f hi hf hp
      obtain ⟨g, rfl⟩ : ∃ g, f = g + 1 := ⟨f - 1, by omega⟩
      have e : i = N := by omega
      subst e
      rw [h3 g, if_neg (by rw [anyN_false.mpr hp]; decide)]
    | succ d ih =>
      intro i f hi hf hp
      obtain ⟨g, rfl⟩ : ∃ g, f = g + 1 := ⟨f - 1, by omega⟩
      cases e : p i with
      | true => rw [h2 g i (by omega) e, if_pos (anyN_true.mpr ⟨i, by omega, e⟩)]
      | false =>
        rw [h1 g i (by omega) e]
        refine ih (i + 1) g (by omega) (by omega) (fun j hj => ?_)
        by_cases ej : j = i
        · rw [ej]
          exact e
        · exact hp j (by omega)
  exact key N 0 f (by omega) hf (fun j hj => absurd hj (Nat.not_lt_zero j))
theorem some_b01 {b : Bool} : (if b then some (1 : Int32) else some 0) = some (b01 b) := by cases b <;> rfl
theorem foldN_sum {f : Nat → Nat} {n : Nat} : foldN n (fun i x => x + f i) 0 = sumN n f := by
  induction n with
  | zero => rfl
  | succ n ih =>
    show foldN n _ 0 + f n = sumN n f + f n
    rw [ih]
