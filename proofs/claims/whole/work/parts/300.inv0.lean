/-! THE START keeps the invariant -/
set_option maxRecDepth 100000 in
theorem z_tabs : Tab s0 3 3 12 0 ∧ Tab s0 5 4 40 0 ∧ Tab s0 7 8 12 0 ∧ Tab s0 9 6 8 8 ∧ Tab s0 11 5 200 0 := by
  unfold Tab
  decide +kernel
set_option maxRecDepth 100000 in
theorem z_ones : pg_i s0 83 1344 = 0 ∧ pg_i s0 83 1345 = 0 ∧ pg_i s0 83 1346 = 0 ∧ pg_i s0 83 1347 = 0 ∧ pg_i s0 83 1348 = 0 ∧ pg_i s0 83 1349 = -1 ∧ pg_i s0 83 1340 = 3 ∧ pg_i s0 83 1341 = 1 ∧ pg_i s0 83 1342 = 2 ∧ pg_i s0 83 1343 = 20 := by decide +kernel
set_option maxRecDepth 100000 in
theorem z_samples : ∀ s, s < 8 → ∀ f, f < 6 → pg_i s0 83 (292 + 6 * s + f) = 0 ∧ pg_i s0 10 (s * 6 + f) = 0 := by decide +kernel
set_option maxRecDepth 100000 in
theorem z_shelf : pg_i s0 13 0 = 3 ∧ pg_i s0 13 1 = 1 ∧ pg_i s0 13 2 = 2 ∧ pg_i s0 13 3 = 20 ∧ pg_i s0 2 7 = 0 ∧ pg_i s0 2 8 = -1 := by decide +kernel
set_option maxRecDepth 100000 in
theorem z_scal : pg_i s0 1 11 = pg_i s0 81 0 ∧ pg_i s0 1 12 = pg_i s0 81 6 ∧ pg_i s0 1 13 = pg_i s0 81 11 ∧ (∀ k, k < 7 → pg_i s0 80 k = pg_i s0 82 k) ∧ pg_i s0 43 1 = 0 ∧ pg_i s0 81 10 = 0 ∧ pg_i s0 76 3 = 0 ∧ pg_i s0 81 44 = -1 ∧ pg_i s0 81 1 = 0 ∧ pg_i s0 1 14 = 0 ∧ pg_i s0 1 15 = 0 ∧ pg_i s0 81 31 = -1 ∧ (∀ k, k < 2 → pg_i s0 42 k = 0 ∧ pg_i s0 85 k = 0) := by decide +kernel
set_option maxRecDepth 100000 in
theorem z_refs : ∀ t, t < 8 → pg_r s0 14 t = 0 ∧ pg_r s0 28 t = 0 ∧ pg_r s0 41 t = 0 := by decide +kernel
theorem z_rg {A : Nat → Int32} {j b : Nat} (e : A j = 0) (hb : 0 < b) (h2 : b ≤ 2 ^ 31) : Rg A j b := Rg.of (v := 0) e hb h2
theorem z_cl {A : Nat → Int32} {j : Nat} (e : A j = 0) : cl A j = 0 := cl_of (v := 0) e (by decide)
theorem inv0 : Inv 0 s0 := by
  obtain ⟨t1, t2, t3, t4, t5⟩ := z_tabs
  obtain ⟨o1, o2, o3, o4, o5, o6, o7, o8, o9, o10⟩ := z_ones
  obtain ⟨h1, h2, h3, h4, h5, h6⟩ := z_shelf
  obtain ⟨c1, c2, c3, c4, c5, c6, c7, c8, c9, c10, c11, c12, c13⟩ := z_scal
  have L := s0_Lay
  have sm := z_samples
  have rf := z_refs
  generalize s0 = h at *
  have nC0 : nC (pg_i h 83) = 0 := z_cl o1
  have nS0 : nS (pg_i h 83) = 0 := z_cl o2
  have nH0 : nH (pg_i h 83) = 0 := z_cl o3
  have nN0 : nN (pg_i h 83) = 0 := z_cl o4
  have nT0 : nT (pg_i h 83) = 0 := z_cl o5
  refine ⟨L, ⟨c1, c2, c3, c4⟩, ⟨0, Nat.zero_le _, c5, c6, fun i hi => absurd hi (Nat.not_lt_zero i)⟩, ⟨?_, 0, fun _ => 0, fun _ => 0, Nat.zero_le _, c7, Or.inr ⟨rfl, c8⟩, fun c hc => absurd hc (Nat.not_lt_zero c), fun c i c' i' hc => absurd hc (Nat.not_lt_zero c)⟩, ⟨0, c9, Nat.le_refl _⟩, (fun _ _ _ => none), (fun _ _ _ => none), (fun _ _ _ => none), ⟨⟨⟨?_, ?_⟩, ⟨?_, ?_⟩, ⟨?_, ?_⟩, ⟨t4, ?_⟩, ⟨?_, ?_⟩, ?_, ?_, ?_⟩, ?_, ?_⟩, ⟨?_, Or.inl ?_⟩, ⟨?_, Or.inl ?_⟩, Or.inl c10, Or.inl c11, Or.inl c12⟩
  · intro a ha t ht
    obtain ⟨r1, r2, r3⟩ := rf t ht
    rcases ha with e | e | e
    · rw [e]
      exact Or.inl r1
    · rw [e]
      exact Or.inl r2
    · rw [e]
      exact Or.inl r3
  · rw [nC0]
    exact t1
  · intro i j hi
    rw [nC0] at hi
    exact absurd hi (Nat.not_lt_zero i)
  · rw [nS0]
    exact t2
  · intro i j hi
    rw [nS0] at hi
    exact absurd hi (Nat.not_lt_zero i)
  · rw [nH0]
    exact t3
  · intro i j hi
    rw [nH0] at hi
    exact absurd hi (Nat.not_lt_zero i)
  · intro i j hi hj
    rw [(sm i hi j hj).1, (sm i hi j hj).2]
  · rw [nN0]
    exact t5
  · intro i j hi
    rw [nN0] at hi
    exact absurd hi (Nat.not_lt_zero i)
  · intro j hj
    have e : j = 0 ∨ j = 1 ∨ j = 2 ∨ j = 3 := by omega
    rcases e with rfl | rfl | rfl | rfl
    · exact h1.trans o7.symm
    · exact h2.trans o8.symm
    · exact h3.trans o9.symm
    · exact h4.trans o10.symm
  · exact h5.trans o5.symm
  · exact h6.trans o6.symm
  · refine ⟨⟨z_rg o1 (by decide) (by decide), z_rg o2 (by decide) (by decide), z_rg o3 (by decide) (by decide), z_rg o4 (by decide) (by decide), z_rg o5 (by decide) (by decide)⟩, fun c hc => ?_, fun c hc => ?_, fun c hc => ?_, fun s hs f hf => ?_, fun c hc => ?_, fun n m _ hm => ?_, fun c hc => ?_, ⟨⟨?_, ?_⟩, ?_, ⟨?_, ?_⟩, ?_⟩, Or.inl o6, fun c hc => ?_⟩
    · rw [nC0] at hc
      exact absurd hc (Nat.not_lt_zero c)
    · rw [nS0] at hc
      exact absurd hc (Nat.not_lt_zero c)
    · rw [nH0] at hc
      exact absurd hc (Nat.not_lt_zero c)
    · exact z_rg (sm s hs f hf).1 (by decide) (by decide)
    · rw [nN0] at hc
      exact absurd hc (Nat.not_lt_zero c)
    · rw [nN0] at hm
      exact absurd hm (Nat.not_lt_zero m)
    · rw [nN0] at hc
      exact absurd hc (Nat.not_lt_zero c)
    · exact Rg.of (v := 3) o7 (by decide) (by decide)
    · rw [cl_of (v := 3) o7 (by decide)]
      decide
    · exact Rg.of (v := 1) o8 (by decide) (by decide)
    · exact Rg.of (v := 2) o9 (by decide) (by decide)
    · rw [cl_of (v := 2) o9 (by decide)]
      decide
    · exact Rg.of (v := 20) o10 (by decide) (by decide)
    · rw [nT0] at hc
      exact absurd hc (Nat.not_lt_zero c)
  · intro t ht
    rw [nT0] at ht
    exact absurd ht (Nat.not_lt_zero t)
  · rw [(c13 0 (by decide)).1, (c13 0 (by decide)).2]
  · exact (c13 0 (by decide)).1
  · rw [(c13 1 (by decide)).1, (c13 1 (by decide)).2]
  · exact (c13 1 (by decide)).1
