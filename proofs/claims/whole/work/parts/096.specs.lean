/-! WHAT THE NUMBERS TELL: plain functions of A; both sides' readers of notes come to them -/
def noteQ (A : Nat → Int32) (n : Nat) (c p w k : Int32) : Bool := decide (A (340 + 5 * n) = c) && decide (A (340 + 5 * n + 1) = p) && decide (A (340 + 5 * n + 2) = w) && decide (A (340 + 5 * n + 4) = k)
def hasQ (A : Nat → Int32) (c p w k : Int32) : Bool := anyN (nN A) fun n => noteQ A n c p w k
def kindQ (A : Nat → Int32) (c p k : Int32) : Bool := anyN (nN A) fun n => decide (A (340 + 5 * n) = c) && decide (A (340 + 5 * n + 1) = p) && decide (A (340 + 5 * n + 4) = k)
theorem and4 {a b c d : Prop} [Decidable a] [Decidable b] [Decidable c] [Decidable d] : (decide a && decide b && decide c && decide d) = true ↔ a ∧ b ∧ c ∧ d := by
  simp only [Bool.and_eq_true, decide_eq_true_eq, and_assoc]
/-- the class looks for a note -/
theorem c_hasNote {h : pg_H} {A : Nat → Int32} (L : Lay h) (C : CNum h 2 A) (K : ShOK A) (c p w k : Int32) : F_X5_hasNote h 2 c p w k = some (b01 (hasQ A c p w k)) := by
  have kN : nN A < 201 := K.1.2.2.2.1.2
  unfold F_X5_hasNote
  have z := loopA (fun f i => F_X5_hasNote_3 h f 2 c p w k (nI i)) (nN A) (fun n => noteQ A n c p w k) (some 1) (some 0) ?_ ?_ ?_ pg_fuel (by unfold pg_fuel; omega)
  · rw [some_b01] at z
    exact z
  · intro f i hi hp
    have hp' : ¬ (A (340 + 5 * i) = c ∧ A (340 + 5 * i + 1) = p ∧ A (340 + 5 * i + 2) = w ∧ A (340 + 5 * i + 4) = k) := fun q => by
      have := and4.mpr q
      unfold noteQ at hp
      rw [this] at hp
      cases hp
    show F_X5_hasNote_3 h (f + 1) 2 c p w k (nI i) = F_X5_hasNote_3 h f 2 c p w k (nI (i + 1))
    rw [F_X5_hasNote_3]
    dsimp only
    simp only [gR_2_4 L, Option.bind_some, c_rcv_11 C, c_size_11 C, c_at_11_0 C hi, c_at_11_1 C hi, c_at_11_2 C hi, c_at_11_4 C hi, nI_ltI (show i < 2 ^ 31 by omega) (show nN A < 2 ^ 31 by omega), hi, if_true, F_X5_hasNote_74, nI_1]
    by_cases e1 : A (340 + 5 * i + 1) = p
    · by_cases e2 : A (340 + 5 * i) = c
      · by_cases e3 : A (340 + 5 * i + 2) = w
        · by_cases e4 : A (340 + 5 * i + 4) = k
          · exact absurd ⟨e2, e1, e3, e4⟩ hp'
          · simp only [e1, e2, e3, e4, if_true, if_false]
        · simp only [e1, e2, e3, if_true, if_false]
      · simp only [e1, e2, if_true, if_false]
    · simp only [e1, if_false]
  · intro f i hi hp
    obtain ⟨e1, e2, e3, e4⟩ := and4.mp hp
    show F_X5_hasNote_3 h (f + 1) 2 c p w k (nI i) = _
    rw [F_X5_hasNote_3]
    dsimp only
    simp only [gR_2_4 L, Option.bind_some, c_rcv_11 C, c_size_11 C, c_at_11_0 C hi, c_at_11_1 C hi, c_at_11_2 C hi, c_at_11_4 C hi, nI_ltI (show i < 2 ^ 31 by omega) (show nN A < 2 ^ 31 by omega), hi, if_true, e1, e2, e3, e4]
  · intro f
    show F_X5_hasNote_3 h (f + 1) 2 c p w k (nI (nN A)) = _
    rw [F_X5_hasNote_3]
    dsimp only
    simp only [gR_2_4 L, Option.bind_some, c_rcv_11 C, c_size_11 C, Int32.lt_irrefl, if_false]
/-- the reference looks for a written note -/
theorem m_has {h : pg_H} {A : Nat → Int32} (L : Lay h) (M : pg_i h 83 = A) (K : ShOK A) (c p w : Int32) : F_X12_has h 81 c p w = some (b01 (hasQ A c p w 0)) := by
  have kN : nN A < 201 := K.1.2.2.2.1.2
  have kE : A 1347 = nI (nN A) := K.1.2.2.2.1.1
  unfold F_X12_has
  have z := loopA (fun f i => F_X12_has_3 h f 81 c p w (nI i)) (nN A) (fun n => noteQ A n c p w 0) (some 1) (some 0) ?_ ?_ ?_ pg_fuel (by unfold pg_fuel; omega)
  · rw [some_b01] at z
    exact z
  · intro f i hi hp
    have h2 : i < 200 := by omega
    have hp' : ¬ (A (340 + 5 * i) = c ∧ A (340 + 5 * i + 1) = p ∧ A (340 + 5 * i + 2) = w ∧ A (340 + 5 * i + 4) = 0) := fun q => by
      have := and4.mpr q
      unfold noteQ at hp
      rw [this] at hp
      cases hp
    show F_X12_has_3 h (f + 1) 81 c p w (nI i) = F_X12_has_3 h f 81 c p w (nI (i + 1))
    rw [F_X12_has_3]
    dsimp only
    simp only [gR_81_3 L, rc_81 L, Option.bind_some, m_k_1347 L M, kE, m_note_0 L M h2, m_note_1 L M h2, m_note_2 L M h2, m_note_4 L M h2, nI_ltI (show i < 2 ^ 31 by omega) (show nN A < 2 ^ 31 by omega), hi, if_true, F_X12_has_61, nI_1]
    by_cases e1 : A (340 + 5 * i + 1) = p
    · by_cases e2 : A (340 + 5 * i) = c
      · by_cases e3 : A (340 + 5 * i + 2) = w
        · by_cases e4 : A (340 + 5 * i + 4) = 0
          · exact absurd ⟨e2, e1, e3, e4⟩ hp'
          · simp only [e1, e2, e3, e4, if_true, if_false]
        · simp only [e1, e2, e3, if_true, if_false]
      · simp only [e1, e2, if_true, if_false]
    · simp only [e1, if_false, ite_self]
  · intro f i hi hp
    have h2 : i < 200 := by omega
    obtain ⟨e1, e2, e3, e4⟩ := and4.mp hp
    show F_X12_has_3 h (f + 1) 81 c p w (nI i) = _
    rw [F_X12_has_3]
    dsimp only
    simp only [gR_81_3 L, rc_81 L, Option.bind_some, m_k_1347 L M, kE, m_note_0 L M h2, m_note_1 L M h2, m_note_2 L M h2, m_note_4 L M h2, nI_ltI (show i < 2 ^ 31 by omega) (show nN A < 2 ^ 31 by omega), hi, if_true, e1, e2, e3, e4]
  · intro f
    show F_X12_has_3 h (f + 1) 81 c p w (nI (nN A)) = _
    rw [F_X12_has_3]
    dsimp only
    simp only [gR_81_3 L, Option.bind_some, m_k_1347 L M, kE, Int32.lt_irrefl, if_false]
