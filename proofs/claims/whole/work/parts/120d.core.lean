/-- numbers that the caches look at -/
def Core (A A' : Nat → Int32) : Prop := ∀ j, (36 ≤ j ∧ j < 196) ∨ (340 ≤ j ∧ j < 1346) ∨ j = 1347 ∨ j = 1349 → A' j = A j
section CORE
variable {A A' : Nat → Int32}
theorem core_cl (c : Core A A') {j : Nat} (hj : (36 ≤ j ∧ j < 196) ∨ (340 ≤ j ∧ j < 1346) ∨ j = 1347 ∨ j = 1349) : cl A' j = cl A j := by
  unfold cl
  rw [c j hj]
theorem core_nC (c : Core A A') : nC A' = nC A := core_cl c (by omega)
theorem core_nS (c : Core A A') : nS A' = nS A := core_cl c (by omega)
theorem core_nN (c : Core A A') : nN A' = nN A := core_cl c (by omega)
theorem core_hasQ (c : Core A A') (K : ShOK A) (x p w k : Int32) : hasQ A' x p w k = hasQ A x p w k := by
  unfold hasQ
  rw [core_nN c]
  refine anyN_cong (fun i hi => ?_)
  have h1 : nN A < 201 := K.1.2.2.2.1.2
  unfold noteQ
  rw [c (340 + 5 * i) (by omega), c (340 + 5 * i + 1) (by omega), c (340 + 5 * i + 2) (by omega), c (340 + 5 * i + 4) (by omega)]
theorem core_kindQ (c : Core A A') (K : ShOK A) (x p k : Int32) : kindQ A' x p k = kindQ A x p k := by
  unfold kindQ
  rw [core_nN c]
  refine anyN_cong (fun i hi => ?_)
  have h1 : nN A < 201 := K.1.2.2.2.1.2
  rw [c (340 + 5 * i) (by omega), c (340 + 5 * i + 1) (by omega), c (340 + 5 * i + 4) (by omega)]
theorem core_shQ (c : Core A A') (K : ShOK A) (p w : Int32) : shQ A' p w = shQ A p w := by
  unfold shQ
  rw [core_nC c]
  exact sumN_cong (fun i _ => by rw [core_hasQ c K])
theorem core_hasM (c : Core A A') (K : ShOK A) (x m : Nat) : hasM A' x m = hasM A x m := core_hasQ c K _ _ _ _
theorem core_cutM (c : Core A A') (K : ShOK A) (x m : Nat) : cutM A' x m = cutM A x m := core_kindQ c K _ _ _
theorem core_meetQ (c : Core A A') (K : ShOK A) (a b : Int32) : meetQ A' a b = meetQ A a b := by
  have h1 : nS A < 41 := K.1.2.1.2
  have z : ∀ x, staysQ A' x = staysQ A x := fun x => by
    unfold staysQ
    rw [core_nS c]
    refine anyN_cong (fun i hi => ?_)
    rw [c (36 + 4 * i) (by omega)]
  unfold meetQ
  rw [z, z, core_nS c]
  congr 1
  refine anyN_cong (fun i hi => ?_)
  rw [c (36 + 4 * i) (by omega)]
  unfold duringQ
  rw [core_nS c]
  congr 1
  refine anyN_cong (fun t ht => ?_)
  unfold metQ
  rw [c (36 + 4 * t) (by omega), c (36 + 4 * i + 1) (by omega), c (36 + 4 * t + 1) (by omega), c (36 + 4 * i + 2) (by omega), c (36 + 4 * t + 3) (by omega), c (36 + 4 * t + 2) (by omega), c (36 + 4 * i + 3) (by omega)]
theorem core_compQ (c : Core A A') (K : ShOK A) (x o : Nat) : compQ A' x o = compQ A x o := by
  unfold compQ
  rw [core_nC c, core_meetQ c K]
theorem core_alw (c : Core A A') (K : ShOK A) : alw A' = alw A := by
  funext f x
  unfold alw
  rw [core_compQ c K]
theorem core_cst (c : Core A A') (K : ShOK A) (w : Nat → Nat → Nat) : cst A' w = cst A w := by
  funext f x
  unfold cst frC ownS addS leaS tm
  rw [core_cl c (j := 1340 + 0) (by omega), core_cl c (j := 1340 + 1) (by omega), core_cl c (j := 1340 + 2) (by omega)]
  simp only [core_hasM c K, core_cutM c K]
theorem core_Rd (c : Core A A') (K : ShOK A) {h : pg_H} {w : Nat → Nat → Nat} (p : Rd h A w) : Rd h A' w := by
  obtain ⟨R, pl, wd, p1, p2, p3, p4, p5, p6⟩ := p
  have h1 : nN A < 201 := K.1.2.2.2.1.2
  refine ⟨R, pl, wd, p1, ?_, p3, ?_, ?_, ?_⟩
  · simp only [core_hasQ c K]
    exact p2
  · intro n hn hk
    rw [core_nN c] at hn
    rw [c _ (by omega)] at hk
    unfold nt
    rw [core_cl c (j := 340 + 5 * n + 1) (by omega), core_cl c (j := 340 + 5 * n + 2) (by omega)]
    exact p4 n hn hk
  · intro r hr
    obtain ⟨n, q1, q2, q3, q4⟩ := p5 r hr
    refine ⟨n, by rw [core_nN c]; exact q1, by rw [c _ (by omega)]; exact q2, ?_, ?_⟩
    · unfold nt
      rw [core_cl c (j := 340 + 5 * n + 1) (by omega)]
      exact q3
    · unfold nt
      rw [core_cl c (j := 340 + 5 * n + 2) (by omega)]
      exact q4
  · simp only [core_kindQ c K]
    exact p6
theorem core_Stm (c : Core A A') (K : ShOK A) {h : pg_H} {w : Nat → Nat → Nat} (p : Stm h A w) : Stm h A' w := by
  unfold Stm
  rw [core_nC c, core_alw c K, core_cst c K]
  exact p
theorem core_wg (c : Core A A') (K : ShOK A) {X X' : Nat → tX} (hX : A 1349 ≠ -1 → X' (cl A 1349) = X (cl A 1349)) : wg A' (uX A' X') = wg A (uX A X) := by
  funext p w
  unfold wg
  rw [core_shQ c K]
  have e : uX A' X' = uX A X := by
    unfold uX
    rw [c 1349 (by omega), core_cl c (j := 1349) (by omega)]
    by_cases z : A 1349 = -1
    · rw [if_pos z, if_pos z]
    · rw [if_neg z, if_neg z, hX z]
  rw [e]
end CORE
