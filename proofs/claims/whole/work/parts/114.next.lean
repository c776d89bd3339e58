/-! NEXT: which copy to look at -/
def nextN (A : Nat → Int32) (e : Nat) : Nat := sumN (nC A) fun c => if lookQ A c && meetQ A (nI e) (nI c) then 1 else 0
def nextS (A : Nat → Int32) (e : Nat) (x : Nat × Nat) : Nat × Nat := if lookQ A e then x else if x.1 = 0 ∨ x.2 < nextN A e then (e + 1, nextN A e) else x
def nextR (A : Nat → Int32) : Nat × Nat := foldN (nC A) (nextS A) (0, 0)
/-- what is answered: none, the copy, or how many -/
def nextV (A : Nat → Int32) (what : Int32) : Int32 := if (nextR A).1 = 0 then -1 else if what = 0 then nI ((nextR A).1 - 1) else nI (nextR A).2
theorem nextN_le {A : Nat → Int32} (K : ShOK A) (e : Nat) : nextN A e ≤ 12 := by
  have kC : nC A < 13 := K.1.1.2
  refine Nat.le_trans (sumN_le (b := 1) (fun i _ => ?_)) (by omega)
  cases lookQ A i && meetQ A (nI e) (nI i) <;> decide
theorem c_nextN {h : pg_H} {A : Nat → Int32} (L : Lay h) (C : CNum h 2 A) (K : ShOK A) {e : Nat} (he : e < nC A) (hl : lookQ A e = false) : (Option.bind (F_X5_companions h 2 (nI e)) fun v5 => F_J6_bitCount_0f7a4 (v5 &&& nI (mk 12 (lookQ A)))) = some (nI (nextN A e)) := by
  have kC : nC A < 13 := K.1.1.2
  rw [c_companions L C K he, Option.bind_some, ix_and, mk_and, bc_mk]
  refine congrArg (fun x => some (nI x)) ?_
  rw [sumN_ext (n := nC A) (by omega) (fun i h1 _ => by
    have : compQ A e i = false := by
      unfold compQ
      rw [decide_eq_false (by omega), Bool.false_and]
    rw [this]
    rfl)]
  refine sumN_cong (fun c hc => ?_)
  unfold compQ
  rw [decide_eq_true hc, Bool.true_and, meetQ_symm A (nI c)]
  by_cases q : c = e
  · rw [q, hl, Bool.and_false, Bool.false_and]
  · rw [decide_eq_true (show c ≠ e from q), Bool.true_and, Bool.and_comm]
theorem c_next {h : pg_H} {A : Nat → Int32} (L : Lay h) (C : CNum h 2 A) (K : ShOK A) (what : Int32) : F_X11_next_27 h pg_fuel 1 what (nI (mk 12 (lookQ A))) (-1) (-1) 0 = some (nextV A what) := by
  have kC : nC A < 13 := K.1.1.2
  have z := loopF (fun f i x => F_X11_next_27 h f 1 what (nI (mk 12 (lookQ A))) (nI (x).1 - 1) (if (x).1 = 0 then -1 else nI (x).2) (nI i)) (nC A) (fun i x => nextS A i (x)) (some (nextV A what)) (fun i x => (x).1 ≤ 12 ∧ (x).2 ≤ 12) ((0 : Nat), (0 : Nat)) ?_ ?_ ?_ ?_ pg_fuel (by unfold pg_fuel; omega)
  · exact z
  · intro f i x hi hx _
    show F_X11_next_27 h (f + 1) 1 what (nI (mk 12 (lookQ A))) (nI (x).1 - 1) (if (x).1 = 0 then -1 else nI (x).2) (nI i) = F_X11_next_27 h f 1 what (nI (mk 12 (lookQ A))) (nI ((nextS A i (x))).1 - 1) (if ((nextS A i (x))).1 = 0 then -1 else nI ((nextS A i (x))).2) (nI (i + 1))
    rw [F_X11_next_27]
    dsimp only
    have hN := nextN_le K i
    rw [gR_1_0 L, Option.bind_some, gR_2_0 L, Option.bind_some, c_rcv_3 C, c_size_3 C, Option.bind_some, if_pos (nI_lt hi (by omega)), ix_bit (Nat.lt_of_lt_of_le (mk_lt _ _) (by decide)) (show i < 32 by omega), mk_bit, decide_eq_true (show i < 12 by omega), Bool.true_and]
    unfold F_X11_next_81 nextS
    rw [nI_1]
    cases hl : lookQ A i with
    | true => rfl
    | false =>
      rw [if_pos (show b01 false = 0 from rfl), Option.bind_some, rc_2 L]
      have e := c_nextN L C K hi hl
      rw [c_companions L C K hi, Option.bind_some] at e ⊢
      rw [e, Option.bind_some]
      simp only [Bool.false_eq_true, if_false]
      by_cases q : x.1 = 0
      · rw [if_pos q, if_pos (neg1_lt (by omega)), if_pos (Or.inl q)]
        show F_X11_next_27 h f 1 what (nI (mk 12 (lookQ A))) (nI i) (nI (nextN A i)) (nI (i + 1)) = F_X11_next_27 h f 1 what (nI (mk 12 (lookQ A))) (nI (i + 1) - 1) (if i + 1 = 0 then -1 else nI (nextN A i)) (nI (i + 1))
        rw [nI_pred, if_neg (by omega)]
      · rw [if_neg q]
        by_cases q2 : x.2 < nextN A i
        · rw [if_pos (nI_lt q2 (by omega)), if_pos (Or.inr q2)]
          show F_X11_next_27 h f 1 what (nI (mk 12 (lookQ A))) (nI i) (nI (nextN A i)) (nI (i + 1)) = F_X11_next_27 h f 1 what (nI (mk 12 (lookQ A))) (nI (i + 1) - 1) (if i + 1 = 0 then -1 else nI (nextN A i)) (nI (i + 1))
          rw [nI_pred, if_neg (by omega)]
        · rw [if_neg (nI_nlt (by omega) (by omega)), if_neg (by omega), if_neg q]
  · intro i x hi hx _
    have hN := nextN_le K i
    unfold nextS
    cases lookQ A i with
    | true => exact hx
    | false =>
      simp only [Bool.false_eq_true, if_false]
      by_cases q : x.1 = 0 ∨ x.2 < nextN A i
      · rw [if_pos q]
        exact ⟨by show i + 1 ≤ 12; omega, hN⟩
      · rw [if_neg q]
        exact hx
  · intro f _
    show F_X11_next_27 h (f + 1) 1 what (nI (mk 12 (lookQ A))) (nI ((foldN (nC A) (fun i x => nextS A i (x)) ((0 : Nat), (0 : Nat)))).1 - 1) (if ((foldN (nC A) (fun i x => nextS A i (x)) ((0 : Nat), (0 : Nat)))).1 = 0 then -1 else nI ((foldN (nC A) (fun i x => nextS A i (x)) ((0 : Nat), (0 : Nat)))).2) (nI (nC A)) = _
    rw [F_X11_next_27]
    dsimp only
    have hs : (foldN (nC A) (fun i x => nextS A i (x)) ((0 : Nat), (0 : Nat))) = nextR A := rfl
    rw [hs]
    rw [gR_1_0 L, Option.bind_some, gR_2_0 L, Option.bind_some, c_rcv_3 C, c_size_3 C, Option.bind_some, if_neg Int32.lt_irrefl]
    unfold nextV
    by_cases q : (nextR A).1 = 0
    · rw [if_pos q, if_pos q, q]
      by_cases e : what = 0
      · rw [if_pos e]
        rfl
      · rw [if_neg e]
    · rw [if_neg q, if_neg q]
      by_cases e : what = 0
      · rw [if_pos e, if_pos e]
        have : (nextR A).1 = ((nextR A).1 - 1) + 1 := by omega
        rw [this, nI_pred]
        rfl
      · rw [if_neg e, if_neg e]
  · exact ⟨Nat.zero_le _, Nat.zero_le _⟩
theorem m_next {h : pg_H} {A : Nat → Int32} (L : Lay h) (M : pg_i h 83 = A) (K : ShOK A) (what : Int32) : F_X12_next_18 h pg_fuel 81 what (-1) 0 0 = some (nextV A what) := by
  have kC : nC A < 13 := K.1.1.2
  have kE : A 1344 = nI (nC A) := K.1.1.1
  have look : ∀ e, e < nC A → (A (3 * e + 2) = 1) = (lookQ A e = true) := fun e he => by
    have q : Rg A (3 * e + 2) 2 := (K.2.1 e he).2.2
    have q2 : cp A e 2 < 2 := q.2
    unfold lookQ
    rw [decide_eq_true he, Bool.true_and, decide_eq_true_eq, q.1]
    exact propext (nI_eq (b := 1) (show cp A e 2 < 2 ^ 31 by omega) (by decide))
  have inner : ∀ (k : Nat → Int32 → Int32 → Int32 → Int32 → Option Int32) (b m : Int32) (e : Nat), e < nC A → F_X12_next_47 h k pg_fuel 81 what b m (nI e) 0 0 = if b = -1 ∨ m < nI (nextN A e) then k 81 what (nI e) (nI (nextN A e)) (nI (e + 1)) else k 81 what b m (nI (e + 1)) := by
    intro k b m e he
    have z := loopF (fun f i x => F_X12_next_47 h k f 81 what b m (nI e) (nI x) (nI i)) (nC A) (fun i x => x + (if lookQ A i && meetQ A (nI e) (nI i) then 1 else 0)) (if b = -1 ∨ m < nI (nextN A e) then k 81 what (nI e) (nI (nextN A e)) (nI (e + 1)) else k 81 what b m (nI (e + 1))) (fun _ _ => True) 0 ?_ (fun _ _ _ _ _ => trivial) ?_ trivial pg_fuel (by unfold pg_fuel; omega)
    · exact z
    · intro f i x hi _ _
      show F_X12_next_47 h k (f + 1) 81 what b m (nI e) (nI x) (nI i) = F_X12_next_47 h k f 81 what b m (nI e) (nI (x + (if lookQ A i && meetQ A (nI e) (nI i) then 1 else 0))) (nI (i + 1))
      rw [F_X12_next_47]
      dsimp only
      rw [rc_81 L, m_copiesA L M, kE, Option.bind_some, if_pos (nI_lt hi (by omega)), rc_81 L, m_copy_2 L M (show i < 12 by omega), Option.bind_some]
      unfold F_X12_next_84 F_X12_next_85 pg_let
      rw [nI_1]
      dsimp only
      cases hl : lookQ A i with
      | false =>
        rw [if_neg (fun q => by rw [look i hi, hl] at q; cases q)]
        simp only [Bool.false_and, Bool.false_eq_true, if_false]
        rw [show (0 : Int32) = nI 0 from rfl, nI_add]
      | true =>
        rw [if_pos ((look i hi).mpr hl), rc_81 L, m_canMeet L M K, Option.bind_some]
        simp only [Bool.true_and]
        cases meetQ A (nI e) (nI i) with
        | false =>
          rw [if_pos (show b01 false = 0 from rfl)]
          simp only [Bool.false_eq_true, if_false]
          rw [show (0 : Int32) = nI 0 from rfl, nI_add]
        | true =>
          rw [if_neg (show ¬ b01 true = 0 by decide)]
          simp only [if_true]
          rw [nI_1]
    · intro f _
      have hp : (foldN (nC A) (fun i x => x + (if lookQ A i && meetQ A (nI e) (nI i) then 1 else 0)) 0) = nextN A e := foldN_sum (f := fun i => if lookQ A i && meetQ A (nI e) (nI i) then 1 else 0)
      rw [hp]
      show F_X12_next_47 h k (f + 1) 81 what b m (nI e) (nI (nextN A e)) (nI (nC A)) = _
      rw [F_X12_next_47]
      dsimp only
      rw [rc_81 L, m_copiesA L M, kE, Option.bind_some, if_neg Int32.lt_irrefl]
      unfold F_X12_next_108 F_X12_next_114
      rw [nI_1]
      by_cases q : b = -1
      · rw [if_pos q, if_pos (Or.inl q)]
      · rw [if_neg q]
        by_cases q2 : m < nI (nextN A e)
        · rw [if_pos q2, if_pos (Or.inr q2)]
        · rw [if_neg q2, if_neg (fun z => z.elim q q2)]
  have z := loopF (fun f i x => F_X12_next_18 h f 81 what (nI (x).1 - 1) (nI (x).2) (nI i)) (nC A) (fun i x => nextS A i (x)) (some (nextV A what)) (fun i x => (x).1 ≤ 12 ∧ (x).2 ≤ 12) ((0 : Nat), (0 : Nat)) ?_ ?_ ?_ ?_ pg_fuel (by unfold pg_fuel; omega)
  · exact z
  · intro f i x hi hx _
    show F_X12_next_18 h (f + 1) 81 what (nI (x).1 - 1) (nI (x).2) (nI i) = F_X12_next_18 h f 81 what (nI ((nextS A i (x))).1 - 1) (nI ((nextS A i (x))).2) (nI (i + 1))
    rw [F_X12_next_18]
    dsimp only
    have hN := nextN_le K i
    rw [rc_81 L, m_copiesA L M, kE, Option.bind_some, if_pos (nI_lt hi (by omega)), rc_81 L, m_copy_2 L M (show i < 12 by omega), Option.bind_some, inner _ _ _ i hi]
    unfold F_X12_next_114 nextS
    rw [nI_1]
    cases hl : lookQ A i with
    | true =>
      rw [if_pos ((look i hi).mpr hl)]
      rfl
    | false =>
      rw [if_neg (fun q => by rw [look i hi, hl] at q; cases q)]
      simp only [Bool.false_eq_true, if_false]
      have e1 : (nI x.1 - 1 = -1) = (x.1 = 0) := by
        cases e : x.1 with
        | zero => exact propext ⟨fun _ => rfl, fun _ => by decide⟩
        | succ y =>
          rw [nI_pred]
          exact propext ⟨fun q => absurd q (neg1_ne (by omega)), fun q => absurd q (by omega)⟩
      have e2 : (nI x.2 < nI (nextN A i)) = (x.2 < nextN A i) := propext (nI_ltI (by omega) (by omega))
      by_cases q : x.1 = 0 ∨ x.2 < nextN A i
      · rw [if_pos (show nI x.1 - 1 = -1 ∨ nI x.2 < nI (nextN A i) by rw [e1, e2]; exact q), if_pos q]
        show F_X12_next_18 h f 81 what (nI i) (nI (nextN A i)) (nI (i + 1)) = F_X12_next_18 h f 81 what (nI (i + 1) - 1) (nI (nextN A i)) (nI (i + 1))
        rw [nI_pred]
      · rw [if_neg (show ¬ (nI x.1 - 1 = -1 ∨ nI x.2 < nI (nextN A i)) by rw [e1, e2]; exact q), if_neg q]
  · intro i x hi hx _
    have hN := nextN_le K i
    unfold nextS
    cases lookQ A i with
    | true => exact hx
    | false =>
      simp only [Bool.false_eq_true, if_false]
      by_cases q : x.1 = 0 ∨ x.2 < nextN A i
      · rw [if_pos q]
        exact ⟨by show i + 1 ≤ 12; omega, hN⟩
      · rw [if_neg q]
        exact hx
  · intro f hx
    have hs : (foldN (nC A) (fun i x => nextS A i (x)) ((0 : Nat), (0 : Nat))) = nextR A := rfl
    rw [hs] at hx ⊢
    show F_X12_next_18 h (f + 1) 81 what (nI ((nextR A)).1 - 1) (nI ((nextR A)).2) (nI (nC A)) = _
    rw [F_X12_next_18]
    dsimp only
    rw [rc_81 L, m_copiesA L M, kE, Option.bind_some, if_neg Int32.lt_irrefl]
    unfold nextV
    cases q : (nextR A).1 with
    | zero =>
      rw [if_pos rfl]
      exact if_pos (by decide)
    | succ y =>
      rw [q] at hx
      rw [nI_pred, if_neg (show ¬ nI y = -1 from neg1_ne (by omega)), if_neg (show ¬ y + 1 = 0 by omega)]
      by_cases e : what = 0
      · rw [if_pos e, if_pos e]
        rfl
      · rw [if_neg e, if_neg e]
  · exact ⟨Nat.zero_le _, Nat.zero_le _⟩
