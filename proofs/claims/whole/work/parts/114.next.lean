/-! NEXT: which copy to look at -/
def nextN (A : Nat → Int32) (e : Nat) : Nat := sumN (nC A) fun c => if lookQ A c && meetQ A (nI e) (nI c) then 1 else 0
def nextS (A : Nat → Int32) (e : Nat) (x : Nat × Nat) : Nat × Nat := if lookQ A e then x else if x.1 = 0 ∨ x.2 < nextN A e then (e + 1, nextN A e) else x
def nextR (A : Nat → Int32) : Nat × Nat := foldN (nC A) (nextS A) (0, 0)
/-- what is answered: none, the copy, or how many -/
def nextV (A : Nat → Int32) (what : Int32) : Int32 := if (nextR A).1 = 0 then -1 else if what = 0 then nI ((nextR A).1 - 1) else nI (nextR A).2
theorem nextN_le {A : Nat → Int32} (K : ShOK A) (e : Nat) : nextN A e ≤ 12 := by
  have kC : nC A < 13 := K.1.1.2
  refine Nat.le_trans (sumN_le (b := 1) (fun i _ => ?_)) (by omega)
  cases lookQ A i && meetQ A (nI e) (nI i) <;> decide
theorem c_nextN {h : pg_H} {A : Nat → Int32} (L : Lay h) (C : CNum h 2 A) (K : ShOK A) {e : Nat} (he : e < nC A) (hl : lookQ A e = false) : (Option.bind (F_X5_companions h 2 (nI e)) fun v5 => F_J6_bitCount_0f7a4 (v5 &&& nI (mk 12 (lookQ A)))) = some (nI (nextN A e)) := by
  have kC : nC A < 13 := K.1.1.2
  rw [c_companions L C K he, Option.bind_some, ix_and, mk_and, bc_mk]
  refine congrArg (fun x => some (nI x)) ?_
  rw [sumN_ext (n := nC A) (by omega) (fun i h1 _ => by
    have : compQ A e i = false := by
      unfold compQ
      rw [decide_eq_false (by omega), Bool.false_and]
    rw [this]
    rfl)]
  refine sumN_cong (fun c hc => ?_)
  unfold compQ
  rw [decide_eq_true hc, Bool.true_and, meetQ_symm A (nI c)]
  by_cases q : c = e
  · rw [q, hl, Bool.and_false, Bool.false_and]
  · rw [decide_eq_true (show c ≠ e from q), Bool.true_and, Bool.and_comm]
theorem c_next {h : pg_H} {A : Nat → Int32} (L : Lay h) (C : CNum h 2 A) (K : ShOK A) (what : Int32) : F_X11_next_27 h pg_fuel 1 what (nI (mk 12 (lookQ A))) (-1) (-1) 0 = some (nextV A what) := by
  have kC : nC A < 13 := K.1.1.2
  have z := loopF (fun f i x => F_X11_next_27 h f 1 what (nI (mk 12 (lookQ A))) (nI (x).1 - 1) (if (x).1 = 0 then -1 else nI (x).2) (nI i)) (nC A) (fun i x => nextS A i (x)) (some (nextV A what)) (fun i x => (x).1 ≤ 12 ∧ (x).2 ≤ 12) ((0 : Nat), (0 : Nat)) ?_ ?_ ?_ ?_ pg_fuel (by unfold pg_fuel; omega)
  · exact z
  · intro f i x hi hx _
    show F_X11_next_27 h (f + 1) 1 what (nI (mk 12 (lookQ A))) (nI (x).1 - 1) (if (x).1 = 0 then -1 else nI (x).2) (nI i) = F_X11_next_27 h f 1 what (nI (mk 12 (lookQ A))) (nI ((nextS A i (x))).1 - 1) (if ((nextS A i (x))).1 = 0 then -1 else nI ((nextS A i (x))).2) (nI (i + 1))
    rw [F_X11_next_27]
    dsimp only
    have hN := nextN_le K i
    rw [gR_1_0 L, Option.bind_some, gR_2_0 L, Option.bind_some, c_rcv_3 C, c_size_3 C, Option.bind_some, if_pos (nI_lt hi (by omega)), ix_bit (Nat.lt_of_lt_of_le (mk_lt _ _) (by decide)) (show i < 32 by omega), mk_bit, decide_eq_true (show i < 12 by omega), Bool.true_and]
    unfold F_X11_next_81 nextS
    rw [nI_1]
    cases hl : lookQ A i with
    | true => rfl
    | false =>
      rw [if_pos (show b01 false = 0 from rfl), Option.bind_some, rc_2 L]
      have e := c_nextN L C K hi hl
      rw [c_companions L C K hi, Option.bind_some] at e ⊢
      rw [e, Option.bind_some]
      simp only [Bool.false_eq_true, if_false]
      by_cases q : x.1 = 0
      · rw [if_pos q, if_pos (neg1_lt (by omega)), if_pos (Or.inl q)]
        show F_X11_next_27 h f 1 what (nI (mk 12 (lookQ A))) (nI i) (nI (nextN A i)) (nI (i + 1)) = F_X11_next_27 h f 1 what (nI (mk 12 (lookQ A))) (nI (i + 1) - 1) (if i + 1 = 0 then -1 else nI (nextN A i)) (nI (i + 1))
        rw [nI_pred, if_neg (by omega)]
      · rw [if_neg q]
        by_cases q2 : x.2 < nextN A i
        · rw [if_pos (nI_lt q2 (by omega)), if_pos (Or.inr q2)]
          show F_X11_next_27 h f 1 what (nI (mk 12 (lookQ A))) (nI i) (nI (nextN A i)) (nI (i + 1)) = F_X11_next_27 h f 1 what (nI (mk 12 (lookQ A))) (nI (i + 1) - 1) (if i + 1 = 0 then -1 else nI (nextN A i)) (nI (i + 1))
          rw [nI_pred, if_neg (by omega)]
        · rw [if_neg (nI_nlt (by omega) (by omega)), if_neg (by omega), if_neg q]
  · intro i x hi hx _
    have hN := nextN_le K i
    unfold nextS
    cases lookQ A i with
    | true => exact hx
    | false =>
      simp only [Bool.false_eq_true, if_false]
      by_cases q : x.1 = 0 ∨ x.2 < nextN A i
      · rw [if_pos q]
        exact ⟨by show i + 1 ≤ 12; omega, hN⟩
      · rw [if_neg q]
        exact hx
  · intro f _
    show F_X11_next_27 h (f + 1) 1 what (nI (mk 12 (lookQ A))) (nI ((foldN (nC A) (fun i x => nextS A i (x)) ((0 : Nat), (0 : Nat)))).1 - 1) (if ((foldN (nC A) (fun i x => nextS A i (x)) ((0 : Nat), (0 : Nat)))).1 = 0 then -1 else nI ((foldN (nC A) (fun i x => nextS A i (x)) ((0 : Nat), (0 : Nat)))).2) (nI (nC A)) = _
    rw [F_X11_next_27]
    dsimp only
    have hs : (foldN (nC A) (fun i x => nextS A i (x)) ((0 : Nat), (0 : Nat))) = nextR A := rfl
    rw [hs]
    rw [gR_1_0 L, Option.bind_some, gR_2_0 L, Option.bind_some, c_rcv_3 C, c_size_3 C, Option.bind_some, if_neg Int32.lt_irrefl]
    unfold nextV
    by_cases q : (nextR A).1 = 0
    · rw [if_pos q, if_pos q, q]
      by_cases e : what = 0
      · rw [if_pos e]
        rfl
      · rw [if_neg e]
    · rw [if_neg q, if_neg q]
      by_cases e : what = 0
      · rw [if_pos e, if_pos e]
        have : (nextR A).1 = ((nextR A).1 - 1) + 1 := by omega
        rw [this, nI_pred]
        rfl
      · rw [if_neg e, if_neg e]
  · exact ⟨Nat.zero_le _, Nat.zero_le _⟩
