/-! A SHELF CHANGES (wip/gen/upd.py) -/
theorem cl_ne {A : Nat → Int32} {k j : Nat} {x : Int32} (h : j ≠ k) : cl (up1 A k x) j = cl A j := by
  unfold cl
  rw [up1_ne h]
theorem Rg.ne {A : Nat → Int32} {k j b : Nat} {x : Int32} (q : Rg A j b) (h : j ≠ k) : Rg (up1 A k x) j b := q.cong (up1_ne h)
theorem TR.put {h : pg_H} {t w m n base i j : Nat} {A : Nat → Int32} {x : Int32} (T : TR h t w m n base A) (hi : i < n) (hj : j < w) : TR (pg_si h (t + 1) (i * w + j) x) t w m n base (up1 A (base + w * i + j) x) := by
  refine ⟨T.1.si (by omega), fun a b ha hb => ?_⟩
  rw [si_row]
  unfold up1
  by_cases e : a = i ∧ b = j
  · rw [e.1, e.2, if_pos rfl, if_pos rfl]
  · have k1 : a * w + b ≠ i * w + j := fun z => e (by
      have e1 : (a * w + b) / w = a := by rw [Nat.mul_comm, Nat.mul_add_div (by omega), Nat.div_eq_of_lt hb, Nat.add_zero]
      have e2 : (i * w + j) / w = i := by rw [Nat.mul_comm, Nat.mul_add_div (by omega), Nat.div_eq_of_lt hj, Nat.add_zero]
      rw [z, e2] at e1
      subst e1
      exact ⟨rfl, by omega⟩)
    rw [if_neg k1, if_neg (by rw [Nat.mul_comm w a, Nat.mul_comm w i]; omega)]
    exact T.2 a b ha hb
/-- another table's cells, other numbers -/
theorem TR.off {h : pg_H} {t w m n base r k u : Nat} {A : Nat → Int32} {x y : Int32} (T : TR h t w m n base A) (h1 : r ≠ t) (h2 : r ≠ t + 1) (h3 : u < base ∨ base + w * m ≤ u) : TR (pg_si h r k x) t w m n base (up1 A u y) := by
  refine T.cong (T.1.si (by omega)) (fun i j _ _ => by rw [si_ne (by omega)]) (fun j j1 j2 => up1_ne (by omega))
theorem TR.A {h : pg_H} {t w m n base : Nat} {A A' : Nat → Int32} (T : TR h t w m n base A) (hA : ∀ j, base ≤ j → j < base + w * m → A' j = A j) : TR h t w m n base A' := T.cong T.1 (fun _ _ _ _ => rfl) hA
/-- the table grows by a row of zeros -/
theorem TR.open_ {h : pg_H} {t w m n base : Nat} {A : Nat → Int32} (T : TR h t w m n base A) (hn : n < m) (hw : 0 < w) : ∃ h', F_X7_open t h = some (nI n, h') ∧ TR h' t w m (n + 1) base (fun k => if base + w * n ≤ k ∧ k < base + w * n + w then 0 else A k) ∧ Ch [t + 1] [(t, 3)] h h' := by
  obtain ⟨h', e1, e2, e3, e4, e5, e6, e7, e8, e9, e10⟩ := T.1.open_ hn hw
  refine ⟨h', e1, ⟨e2, fun i j hi hj => ?_⟩, ⟨e6, e7, e8, e10, fun r k hr => ?_⟩⟩
  · rw [e5]
    dsimp only
    by_cases c : i = n
    · subst c
      rw [if_pos (by omega), if_pos (by omega)]
    · have h1 : (i + 1) * w ≤ n * w := Nat.mul_le_mul_right w (by omega)
      rw [Nat.add_mul, Nat.one_mul] at h1
      have h2 := Nat.mul_comm w i
      have h3 := Nat.mul_comm w n
      rw [if_neg (by omega), if_neg (by omega)]
      exact T.2 i j (by omega) hj
  · constructor
    · by_cases c : r = t
      · subst c
        refine e4 k (fun z => hr (Or.inr ?_))
        rw [z]
        exact List.mem_singleton.mpr rfl
      · exact congrFun (e3 r c (fun z => hr (Or.inl (by rw [z]; exact List.mem_singleton.mpr rfl)))) k
    · rw [e9]
theorem nC_ne {A : Nat → Int32} {k : Nat} {x : Int32} (h : k ≠ 1344) : nC (up1 A k x) = nC A := cl_ne (fun z => h z.symm)
theorem nS_ne {A : Nat → Int32} {k : Nat} {x : Int32} (h : k ≠ 1345) : nS (up1 A k x) = nS A := cl_ne (fun z => h z.symm)
theorem nH_ne {A : Nat → Int32} {k : Nat} {x : Int32} (h : k ≠ 1346) : nH (up1 A k x) = nH A := cl_ne (fun z => h z.symm)
theorem nN_ne {A : Nat → Int32} {k : Nat} {x : Int32} (h : k ≠ 1347) : nN (up1 A k x) = nN A := cl_ne (fun z => h z.symm)
theorem nT_ne {A : Nat → Int32} {k : Nat} {x : Int32} (h : k ≠ 1348) : nT (up1 A k x) = nT A := cl_ne (fun z => h z.symm)
theorem CNum.num {h : pg_H} {s : Nat} {A A' : Nat → Int32} (C : CNum h s A) (hA : ∀ j, j < 1350 → A' j = A j) : CNum h s A' := by
  obtain ⟨a1, a2, a3, a4, a5, a6, a7, a8⟩ := C
  have c : ∀ j, j < 1350 → cl A' j = cl A j := fun j hj => by
    unfold cl
    rw [hA j hj]
  unfold CNum nC nS nH nN
  rw [c 1344 (by omega), c 1345 (by omega), c 1346 (by omega), c 1347 (by omega), hA 1348 (by omega), hA 1349 (by omega)]
  refine ⟨a1.A (fun j _ _ => hA j (by omega)), a2.A (fun j _ _ => hA j (by omega)), a3.A (fun j _ _ => hA j (by omega)), a4.A (fun j _ _ => hA j (by omega)), a5.A (fun j _ _ => hA j (by omega)), fun j hj => ?_, a7, a8⟩
  rw [hA _ (by omega)]
  exact a6 j hj
theorem CNum.put0 {h : pg_H} {s i j : Nat} {A : Nat → Int32} {x : Int32} (C : CNum h s A) (hi : i < nC A) (hj : j < 3) : CNum (pg_si h (s + 2) (i * 3 + j) x) s (up1 A (0 + 3 * i + j) x) := by
  obtain ⟨a1, a2, a3, a4, a5, a6, a7, a8⟩ := C
  have hm : nC A ≤ 12 := a1.1.2.2.2.2.2.2.1
  unfold CNum
  rw [nC_ne (by omega), nS_ne (by omega), nH_ne (by omega), nN_ne (by omega), up1_ne (show 1348 ≠ 0 + 3 * i + j by omega), up1_ne (show 1349 ≠ 0 + 3 * i + j by omega)]
  refine ⟨a1.put hi hj, a2.off (by omega) (by omega) (by omega), a3.off (by omega) (by omega) (by omega), a4.off (by omega) (by omega) (by omega), a5.off (by omega) (by omega) (by omega), fun k hk => ?_, ?_, ?_⟩
  · rw [si_ne (by omega), up1_ne (by omega)]
    exact a6 k hk
  · rw [si_ne (by omega)]
    exact a7
  · rw [si_ne (by omega)]
    exact a8
theorem CNum.open0 {h : pg_H} {s : Nat} {A : Nat → Int32} (C : CNum h s A) (hn : nC A < 12) : ∃ h', F_X7_open (s + 1) h = some (nI (nC A), h') ∧ CNum h' s (up1 (fun k => if 0 + 3 * nC A ≤ k ∧ k < 0 + 3 * nC A + 3 then 0 else A k) 1344 (nI (nC A + 1))) ∧ Ch [s + 2] [(s + 1, 3)] h h' := by
  obtain ⟨a1, a2, a3, a4, a5, a6, a7, a8⟩ := C
  obtain ⟨h', e1, t, c⟩ := a1.open_ hn (by decide)
  refine ⟨h', e1, ?_, c⟩
  have no : ∀ r k, ¬ (r = s + 2 ∨ r = s + 1 ∧ k = 3) → ¬ (r ∈ [s + 2] ∨ (r, k) ∈ [(s + 1, 3)]) := fun r k q w => by
    rcases w with w | w
    · exact q (Or.inl (List.mem_singleton.mp w))
    · have z := List.mem_singleton.mp w
      injection z with z1 z2
      exact q (Or.inr ⟨z1, z2⟩)
  have rr : ∀ r k, ¬ (r = s + 2 ∨ r = s + 1 ∧ k = 3) → pg_i h' r k = pg_i h r k := fun r k q => (c.2.2.2.2 r k (no r k q)).1
  have b : ∀ j, j ≠ 1344 → ¬ (0 + 3 * nC A ≤ j ∧ j < 0 + 3 * nC A + 3) → up1 (fun k => if 0 + 3 * nC A ≤ k ∧ k < 0 + 3 * nC A + 3 then 0 else A k) 1344 (nI (nC A + 1)) j = A j := fun j h1 h2 => by rw [up1_ne h1, if_neg h2]
  have bc : ∀ j, 1344 ≤ j → j ≠ 1344 → cl (up1 (fun k => if 0 + 3 * nC A ≤ k ∧ k < 0 + 3 * nC A + 3 then 0 else A k) 1344 (nI (nC A + 1))) j = cl A j := fun j h1 h2 => by
    unfold cl
    rw [b j h2 (by omega)]
  have bo : cl (up1 (fun k => if 0 + 3 * nC A ≤ k ∧ k < 0 + 3 * nC A + 3 then 0 else A k) 1344 (nI (nC A + 1))) 1344 = nC A + 1 := cl_of up1_eq (by omega)
  unfold CNum
  rw [show nC _ = nC A + 1 from bo, show nS _ = nS A from bc 1345 (by omega) (by omega), show nH _ = nH A from bc 1346 (by omega) (by omega), show nN _ = nN A from bc 1347 (by omega) (by omega), b 1348 (by omega) (by omega), b 1349 (by omega) (by omega)]
  refine ⟨?_, ?_, ?_, ?_, ?_, fun k hk => ?_, ?_, ?_⟩
  · exact t.A (fun j h1 h2 => up1_ne (by omega))
  · refine (a2.mod c ⟨no _ _ (by omega), no _ _ (by omega), no _ _ (by omega)⟩ (fun k => no _ _ (by omega))).A (fun j h1 h2 => b j (by omega) (by omega))
  · refine (a3.mod c ⟨no _ _ (by omega), no _ _ (by omega), no _ _ (by omega)⟩ (fun k => no _ _ (by omega))).A (fun j h1 h2 => b j (by omega) (by omega))
  · refine (a4.mod c ⟨no _ _ (by omega), no _ _ (by omega), no _ _ (by omega)⟩ (fun k => no _ _ (by omega))).A (fun j h1 h2 => b j (by omega) (by omega))
  · refine (a5.mod c ⟨no _ _ (by omega), no _ _ (by omega), no _ _ (by omega)⟩ (fun k => no _ _ (by omega))).A (fun j h1 h2 => b j (by omega) (by omega))
  · rw [rr _ _ (by omega), b _ (by omega) (by omega)]
    exact a6 k hk
  · rw [rr _ _ (by omega)]
    exact a7
  · rw [rr _ _ (by omega)]
    exact a8
theorem CNum.put1 {h : pg_H} {s i j : Nat} {A : Nat → Int32} {x : Int32} (C : CNum h s A) (hi : i < nS A) (hj : j < 4) : CNum (pg_si h (s + 4) (i * 4 + j) x) s (up1 A (36 + 4 * i + j) x) := by
  obtain ⟨a1, a2, a3, a4, a5, a6, a7, a8⟩ := C
  have hm : nS A ≤ 40 := a2.1.2.2.2.2.2.2.1
  unfold CNum
  rw [nC_ne (by omega), nS_ne (by omega), nH_ne (by omega), nN_ne (by omega), up1_ne (show 1348 ≠ 36 + 4 * i + j by omega), up1_ne (show 1349 ≠ 36 + 4 * i + j by omega)]
  refine ⟨a1.off (by omega) (by omega) (by omega), a2.put hi hj, a3.off (by omega) (by omega) (by omega), a4.off (by omega) (by omega) (by omega), a5.off (by omega) (by omega) (by omega), fun k hk => ?_, ?_, ?_⟩
  · rw [si_ne (by omega), up1_ne (by omega)]
    exact a6 k hk
  · rw [si_ne (by omega)]
    exact a7
  · rw [si_ne (by omega)]
    exact a8
theorem CNum.open1 {h : pg_H} {s : Nat} {A : Nat → Int32} (C : CNum h s A) (hn : nS A < 40) : ∃ h', F_X7_open (s + 3) h = some (nI (nS A), h') ∧ CNum h' s (up1 (fun k => if 36 + 4 * nS A ≤ k ∧ k < 36 + 4 * nS A + 4 then 0 else A k) 1345 (nI (nS A + 1))) ∧ Ch [s + 4] [(s + 3, 3)] h h' := by
  obtain ⟨a1, a2, a3, a4, a5, a6, a7, a8⟩ := C
  obtain ⟨h', e1, t, c⟩ := a2.open_ hn (by decide)
  refine ⟨h', e1, ?_, c⟩
  have no : ∀ r k, ¬ (r = s + 4 ∨ r = s + 3 ∧ k = 3) → ¬ (r ∈ [s + 4] ∨ (r, k) ∈ [(s + 3, 3)]) := fun r k q w => by
    rcases w with w | w
    · exact q (Or.inl (List.mem_singleton.mp w))
    · have z := List.mem_singleton.mp w
      injection z with z1 z2
      exact q (Or.inr ⟨z1, z2⟩)
  have rr : ∀ r k, ¬ (r = s + 4 ∨ r = s + 3 ∧ k = 3) → pg_i h' r k = pg_i h r k := fun r k q => (c.2.2.2.2 r k (no r k q)).1
  have b : ∀ j, j ≠ 1345 → ¬ (36 + 4 * nS A ≤ j ∧ j < 36 + 4 * nS A + 4) → up1 (fun k => if 36 + 4 * nS A ≤ k ∧ k < 36 + 4 * nS A + 4 then 0 else A k) 1345 (nI (nS A + 1)) j = A j := fun j h1 h2 => by rw [up1_ne h1, if_neg h2]
  have bc : ∀ j, 1344 ≤ j → j ≠ 1345 → cl (up1 (fun k => if 36 + 4 * nS A ≤ k ∧ k < 36 + 4 * nS A + 4 then 0 else A k) 1345 (nI (nS A + 1))) j = cl A j := fun j h1 h2 => by
    unfold cl
    rw [b j h2 (by omega)]
  have bo : cl (up1 (fun k => if 36 + 4 * nS A ≤ k ∧ k < 36 + 4 * nS A + 4 then 0 else A k) 1345 (nI (nS A + 1))) 1345 = nS A + 1 := cl_of up1_eq (by omega)
  unfold CNum
  rw [show nC _ = nC A from bc 1344 (by omega) (by omega), show nS _ = nS A + 1 from bo, show nH _ = nH A from bc 1346 (by omega) (by omega), show nN _ = nN A from bc 1347 (by omega) (by omega), b 1348 (by omega) (by omega), b 1349 (by omega) (by omega)]
  refine ⟨?_, ?_, ?_, ?_, ?_, fun k hk => ?_, ?_, ?_⟩
  · refine (a1.mod c ⟨no _ _ (by omega), no _ _ (by omega), no _ _ (by omega)⟩ (fun k => no _ _ (by omega))).A (fun j h1 h2 => b j (by omega) (by omega))
  · exact t.A (fun j h1 h2 => up1_ne (by omega))
  · refine (a3.mod c ⟨no _ _ (by omega), no _ _ (by omega), no _ _ (by omega)⟩ (fun k => no _ _ (by omega))).A (fun j h1 h2 => b j (by omega) (by omega))
  · refine (a4.mod c ⟨no _ _ (by omega), no _ _ (by omega), no _ _ (by omega)⟩ (fun k => no _ _ (by omega))).A (fun j h1 h2 => b j (by omega) (by omega))
  · refine (a5.mod c ⟨no _ _ (by omega), no _ _ (by omega), no _ _ (by omega)⟩ (fun k => no _ _ (by omega))).A (fun j h1 h2 => b j (by omega) (by omega))
  · rw [rr _ _ (by omega), b _ (by omega) (by omega)]
    exact a6 k hk
  · rw [rr _ _ (by omega)]
    exact a7
  · rw [rr _ _ (by omega)]
    exact a8
theorem CNum.put2 {h : pg_H} {s i j : Nat} {A : Nat → Int32} {x : Int32} (C : CNum h s A) (hi : i < nH A) (hj : j < 8) : CNum (pg_si h (s + 6) (i * 8 + j) x) s (up1 A (196 + 8 * i + j) x) := by
  obtain ⟨a1, a2, a3, a4, a5, a6, a7, a8⟩ := C
  have hm : nH A ≤ 12 := a3.1.2.2.2.2.2.2.1
  unfold CNum
  rw [nC_ne (by omega), nS_ne (by omega), nH_ne (by omega), nN_ne (by omega), up1_ne (show 1348 ≠ 196 + 8 * i + j by omega), up1_ne (show 1349 ≠ 196 + 8 * i + j by omega)]
  refine ⟨a1.off (by omega) (by omega) (by omega), a2.off (by omega) (by omega) (by omega), a3.put hi hj, a4.off (by omega) (by omega) (by omega), a5.off (by omega) (by omega) (by omega), fun k hk => ?_, ?_, ?_⟩
  · rw [si_ne (by omega), up1_ne (by omega)]
    exact a6 k hk
  · rw [si_ne (by omega)]
    exact a7
  · rw [si_ne (by omega)]
    exact a8
theorem CNum.open2 {h : pg_H} {s : Nat} {A : Nat → Int32} (C : CNum h s A) (hn : nH A < 12) : ∃ h', F_X7_open (s + 5) h = some (nI (nH A), h') ∧ CNum h' s (up1 (fun k => if 196 + 8 * nH A ≤ k ∧ k < 196 + 8 * nH A + 8 then 0 else A k) 1346 (nI (nH A + 1))) ∧ Ch [s + 6] [(s + 5, 3)] h h' := by
  obtain ⟨a1, a2, a3, a4, a5, a6, a7, a8⟩ := C
  obtain ⟨h', e1, t, c⟩ := a3.open_ hn (by decide)
  refine ⟨h', e1, ?_, c⟩
  have no : ∀ r k, ¬ (r = s + 6 ∨ r = s + 5 ∧ k = 3) → ¬ (r ∈ [s + 6] ∨ (r, k) ∈ [(s + 5, 3)]) := fun r k q w => by
    rcases w with w | w
    · exact q (Or.inl (List.mem_singleton.mp w))
    · have z := List.mem_singleton.mp w
      injection z with z1 z2
      exact q (Or.inr ⟨z1, z2⟩)
  have rr : ∀ r k, ¬ (r = s + 6 ∨ r = s + 5 ∧ k = 3) → pg_i h' r k = pg_i h r k := fun r k q => (c.2.2.2.2 r k (no r k q)).1
  have b : ∀ j, j ≠ 1346 → ¬ (196 + 8 * nH A ≤ j ∧ j < 196 + 8 * nH A + 8) → up1 (fun k => if 196 + 8 * nH A ≤ k ∧ k < 196 + 8 * nH A + 8 then 0 else A k) 1346 (nI (nH A + 1)) j = A j := fun j h1 h2 => by rw [up1_ne h1, if_neg h2]
  have bc : ∀ j, 1344 ≤ j → j ≠ 1346 → cl (up1 (fun k => if 196 + 8 * nH A ≤ k ∧ k < 196 + 8 * nH A + 8 then 0 else A k) 1346 (nI (nH A + 1))) j = cl A j := fun j h1 h2 => by
    unfold cl
    rw [b j h2 (by omega)]
  have bo : cl (up1 (fun k => if 196 + 8 * nH A ≤ k ∧ k < 196 + 8 * nH A + 8 then 0 else A k) 1346 (nI (nH A + 1))) 1346 = nH A + 1 := cl_of up1_eq (by omega)
  unfold CNum
  rw [show nC _ = nC A from bc 1344 (by omega) (by omega), show nS _ = nS A from bc 1345 (by omega) (by omega), show nH _ = nH A + 1 from bo, show nN _ = nN A from bc 1347 (by omega) (by omega), b 1348 (by omega) (by omega), b 1349 (by omega) (by omega)]
  refine ⟨?_, ?_, ?_, ?_, ?_, fun k hk => ?_, ?_, ?_⟩
  · refine (a1.mod c ⟨no _ _ (by omega), no _ _ (by omega), no _ _ (by omega)⟩ (fun k => no _ _ (by omega))).A (fun j h1 h2 => b j (by omega) (by omega))
  · refine (a2.mod c ⟨no _ _ (by omega), no _ _ (by omega), no _ _ (by omega)⟩ (fun k => no _ _ (by omega))).A (fun j h1 h2 => b j (by omega) (by omega))
  · exact t.A (fun j h1 h2 => up1_ne (by omega))
  · refine (a4.mod c ⟨no _ _ (by omega), no _ _ (by omega), no _ _ (by omega)⟩ (fun k => no _ _ (by omega))).A (fun j h1 h2 => b j (by omega) (by omega))
  · refine (a5.mod c ⟨no _ _ (by omega), no _ _ (by omega), no _ _ (by omega)⟩ (fun k => no _ _ (by omega))).A (fun j h1 h2 => b j (by omega) (by omega))
  · rw [rr _ _ (by omega), b _ (by omega) (by omega)]
    exact a6 k hk
  · rw [rr _ _ (by omega)]
    exact a7
  · rw [rr _ _ (by omega)]
    exact a8
theorem CNum.put3 {h : pg_H} {s i j : Nat} {A : Nat → Int32} {x : Int32} (C : CNum h s A) (hi : i < 8) (hj : j < 6) : CNum (pg_si h (s + 8) (i * 6 + j) x) s (up1 A (292 + 6 * i + j) x) := by
  obtain ⟨a1, a2, a3, a4, a5, a6, a7, a8⟩ := C
  unfold CNum
  rw [nC_ne (by omega), nS_ne (by omega), nH_ne (by omega), nN_ne (by omega), up1_ne (show 1348 ≠ 292 + 6 * i + j by omega), up1_ne (show 1349 ≠ 292 + 6 * i + j by omega)]
  refine ⟨a1.off (by omega) (by omega) (by omega), a2.off (by omega) (by omega) (by omega), a3.off (by omega) (by omega) (by omega), a4.put hi hj, a5.off (by omega) (by omega) (by omega), fun k hk => ?_, ?_, ?_⟩
  · rw [si_ne (by omega), up1_ne (by omega)]
    exact a6 k hk
  · rw [si_ne (by omega)]
    exact a7
  · rw [si_ne (by omega)]
    exact a8
theorem CNum.put4 {h : pg_H} {s i j : Nat} {A : Nat → Int32} {x : Int32} (C : CNum h s A) (hi : i < nN A) (hj : j < 5) : CNum (pg_si h (s + 10) (i * 5 + j) x) s (up1 A (340 + 5 * i + j) x) := by
  obtain ⟨a1, a2, a3, a4, a5, a6, a7, a8⟩ := C
  have hm : nN A ≤ 200 := a5.1.2.2.2.2.2.2.1
  unfold CNum
  rw [nC_ne (by omega), nS_ne (by omega), nH_ne (by omega), nN_ne (by omega), up1_ne (show 1348 ≠ 340 + 5 * i + j by omega), up1_ne (show 1349 ≠ 340 + 5 * i + j by omega)]
  refine ⟨a1.off (by omega) (by omega) (by omega), a2.off (by omega) (by omega) (by omega), a3.off (by omega) (by omega) (by omega), a4.off (by omega) (by omega) (by omega), a5.put hi hj, fun k hk => ?_, ?_, ?_⟩
  · rw [si_ne (by omega), up1_ne (by omega)]
    exact a6 k hk
  · rw [si_ne (by omega)]
    exact a7
  · rw [si_ne (by omega)]
    exact a8
theorem CNum.open4 {h : pg_H} {s : Nat} {A : Nat → Int32} (C : CNum h s A) (hn : nN A < 200) : ∃ h', F_X7_open (s + 9) h = some (nI (nN A), h') ∧ CNum h' s (up1 (fun k => if 340 + 5 * nN A ≤ k ∧ k < 340 + 5 * nN A + 5 then 0 else A k) 1347 (nI (nN A + 1))) ∧ Ch [s + 10] [(s + 9, 3)] h h' := by
  obtain ⟨a1, a2, a3, a4, a5, a6, a7, a8⟩ := C
  obtain ⟨h', e1, t, c⟩ := a5.open_ hn (by decide)
  refine ⟨h', e1, ?_, c⟩
  have no : ∀ r k, ¬ (r = s + 10 ∨ r = s + 9 ∧ k = 3) → ¬ (r ∈ [s + 10] ∨ (r, k) ∈ [(s + 9, 3)]) := fun r k q w => by
    rcases w with w | w
    · exact q (Or.inl (List.mem_singleton.mp w))
    · have z := List.mem_singleton.mp w
      injection z with z1 z2
      exact q (Or.inr ⟨z1, z2⟩)
  have rr : ∀ r k, ¬ (r = s + 10 ∨ r = s + 9 ∧ k = 3) → pg_i h' r k = pg_i h r k := fun r k q => (c.2.2.2.2 r k (no r k q)).1
  have b : ∀ j, j ≠ 1347 → ¬ (340 + 5 * nN A ≤ j ∧ j < 340 + 5 * nN A + 5) → up1 (fun k => if 340 + 5 * nN A ≤ k ∧ k < 340 + 5 * nN A + 5 then 0 else A k) 1347 (nI (nN A + 1)) j = A j := fun j h1 h2 => by rw [up1_ne h1, if_neg h2]
  have bc : ∀ j, 1344 ≤ j → j ≠ 1347 → cl (up1 (fun k => if 340 + 5 * nN A ≤ k ∧ k < 340 + 5 * nN A + 5 then 0 else A k) 1347 (nI (nN A + 1))) j = cl A j := fun j h1 h2 => by
    unfold cl
    rw [b j h2 (by omega)]
  have bo : cl (up1 (fun k => if 340 + 5 * nN A ≤ k ∧ k < 340 + 5 * nN A + 5 then 0 else A k) 1347 (nI (nN A + 1))) 1347 = nN A + 1 := cl_of up1_eq (by omega)
  unfold CNum
  rw [show nC _ = nC A from bc 1344 (by omega) (by omega), show nS _ = nS A from bc 1345 (by omega) (by omega), show nH _ = nH A from bc 1346 (by omega) (by omega), show nN _ = nN A + 1 from bo, b 1348 (by omega) (by omega), b 1349 (by omega) (by omega)]
  refine ⟨?_, ?_, ?_, ?_, ?_, fun k hk => ?_, ?_, ?_⟩
  · refine (a1.mod c ⟨no _ _ (by omega), no _ _ (by omega), no _ _ (by omega)⟩ (fun k => no _ _ (by omega))).A (fun j h1 h2 => b j (by omega) (by omega))
  · refine (a2.mod c ⟨no _ _ (by omega), no _ _ (by omega), no _ _ (by omega)⟩ (fun k => no _ _ (by omega))).A (fun j h1 h2 => b j (by omega) (by omega))
  · refine (a3.mod c ⟨no _ _ (by omega), no _ _ (by omega), no _ _ (by omega)⟩ (fun k => no _ _ (by omega))).A (fun j h1 h2 => b j (by omega) (by omega))
  · refine (a4.mod c ⟨no _ _ (by omega), no _ _ (by omega), no _ _ (by omega)⟩ (fun k => no _ _ (by omega))).A (fun j h1 h2 => b j (by omega) (by omega))
  · exact t.A (fun j h1 h2 => up1_ne (by omega))
  · rw [rr _ _ (by omega), b _ (by omega) (by omega)]
    exact a6 k hk
  · rw [rr _ _ (by omega)]
    exact a7
  · rw [rr _ _ (by omega)]
    exact a8
/-- what the numbers' bounds are made of -/
theorem ShOK.of {A A' : Nat → Int32} (K : ShOK A)
    (h1 : (∀ j, j < 36 → A' j = A j) ∧ nC A' = nC A ∨ ∀ c, c < nC A' → Rg A' (3 * c) 8 ∧ Rg A' (3 * c + 1) 64 ∧ Rg A' (3 * c + 2) 2)
    (h2 : ((∀ j, 36 ≤ j → j < 196 → A' j = A j) ∧ nS A' = nS A) ∨ ∀ s, s < nS A' → Rg A' (36 + 4 * s) (nC A') ∧ Rg A' (36 + 4 * s + 1) 32 ∧ Rg A' (36 + 4 * s + 2) 401 ∧ Rg A' (36 + 4 * s + 3) 401 ∧ cl A' (36 + 4 * s + 2) ≤ cl A' (36 + 4 * s + 3))
    (h3 : ((∀ j, 196 ≤ j → j < 292 → A' j = A j) ∧ nH A' = nH A) ∨ ∀ k, k < nH A' → Rg A' (196 + 8 * k) 401 ∧ Rg A' (196 + 8 * k + 1) 401 ∧ cl A' (196 + 8 * k) ≤ cl A' (196 + 8 * k + 1) ∧ ∀ f, f < 6 → Rg A' (196 + 8 * k + 2 + f) 100)
    (h4 : (∀ j, 292 ≤ j → j < 340 → A' j = A j) ∨ ∀ s, s < 8 → ∀ f, f < 6 → Rg A' (292 + 6 * s + f) 100)
    (h5 : ((∀ j, 340 ≤ j → j < 1340 → A' j = A j) ∧ nN A' = nN A) ∨ (∀ n, n < nN A' → Rg A' (340 + 5 * n) (nC A') ∧ Rg A' (340 + 5 * n + 1) 60 ∧ Rg A' (340 + 5 * n + 2) 100 ∧ (A' (340 + 5 * n + 3) = -1 ∨ Rg A' (340 + 5 * n + 3) (nH A')) ∧ Rg A' (340 + 5 * n + 4) 4) ∧
      (∀ n m, n < m → m < nN A' → ¬ (A' (340 + 5 * n) = A' (340 + 5 * m) ∧ A' (340 + 5 * n + 1) = A' (340 + 5 * m + 1) ∧ A' (340 + 5 * n + 2) = A' (340 + 5 * m + 2) ∧ A' (340 + 5 * n + 4) = A' (340 + 5 * m + 4))) ∧
      (∀ n, n < nN A' → A' (340 + 5 * n + 4) ≠ 0 → A' (340 + 5 * n + 2) = 0))
    (h6 : (∀ j, 1340 ≤ j → j < 1344 → A' j = A j) ∨ ((Rg A' 1340 10 ∧ 1 ≤ cl A' 1340) ∧ Rg A' 1341 10 ∧ (Rg A' 1342 10 ∧ 1 ≤ cl A' 1342) ∧ Rg A' 1343 1001))
    (h7 : A' 1349 = A 1349 ∧ nT A ≤ nT A' ∨ (A' 1349 = -1 ∨ Rg A' 1349 (nT A')))
    (h8 : ((∀ j, 1350 ≤ j → j < 1358 → A' j = A j) ∧ nT A' = nT A) ∨ ∀ t, t < nT A' → Rg A' (1350 + t) 401)
    (h9 : (Rg A' 1344 13 ∧ nC A ≤ nC A') ∧ Rg A' 1345 41 ∧ (Rg A' 1346 13 ∧ nH A ≤ nH A') ∧ Rg A' 1347 201 ∧ Rg A' 1348 9) : ShOK A' := by
  have k2 : nS A < 41 := K.1.2.1.2
  have k3 : nH A < 13 := K.1.2.2.1.2
  have k4 : nN A < 201 := K.1.2.2.2.1.2
  have k1 : nC A < 13 := K.1.1.2
  have k5 : nT A < 9 := K.1.2.2.2.2.2
  have clc : ∀ {j}, A' j = A j → cl A' j = cl A j := fun e => by
    unfold cl
    rw [e]
  refine ⟨⟨h9.1.1, h9.2.1, h9.2.2.1.1, h9.2.2.2⟩, ?_, ?_, ?_, ?_, ?_, ?_, ?_, ?_, ?_, ?_⟩
  · rcases h1 with ⟨e, n⟩ | z
    · rw [n]
      intro c hc
      obtain ⟨q1, q2, q3⟩ := K.2.1 c hc
      exact ⟨q1.cong (e _ (by omega)), q2.cong (e _ (by omega)), q3.cong (e _ (by omega))⟩
    · exact z
  · rcases h2 with ⟨e, n⟩ | z
    · rw [n]
      intro c hc
      obtain ⟨q1, q2, q3, q4, q5⟩ := K.2.2.1 c hc
      exact ⟨(q1.cong (e _ (by omega) (by omega))).mono h9.1.2, q2.cong (e _ (by omega) (by omega)), q3.cong (e _ (by omega) (by omega)), q4.cong (e _ (by omega) (by omega)), by rw [clc (e _ (by omega) (by omega)), clc (e _ (by omega) (by omega))]; exact q5⟩
    · exact z
  · rcases h3 with ⟨e, n⟩ | z
    · rw [n]
      intro c hc
      obtain ⟨q1, q2, q3, q4⟩ := K.2.2.2.1 c hc
      exact ⟨q1.cong (e _ (by omega) (by omega)), q2.cong (e _ (by omega) (by omega)), by rw [clc (e _ (by omega) (by omega)), clc (e _ (by omega) (by omega))]; exact q3, fun f hf => (q4 f hf).cong (e _ (by omega) (by omega))⟩
    · exact z
  · rcases h4 with e | z
    · exact fun s hs f hf => (K.2.2.2.2.1 s hs f hf).cong (e _ (by omega) (by omega))
    · exact z
  · rcases h5 with ⟨e, n⟩ | z
    · rw [n]
      intro c hc
      obtain ⟨q1, q2, q3, q4, q5⟩ := K.2.2.2.2.2.1 c hc
      refine ⟨(q1.cong (e _ (by omega) (by omega))).mono h9.1.2, q2.cong (e _ (by omega) (by omega)), q3.cong (e _ (by omega) (by omega)), ?_, q5.cong (e _ (by omega) (by omega))⟩
      rw [e _ (by omega) (by omega)]
      exact q4.imp id (fun z => (z.cong (e _ (by omega) (by omega))).mono h9.2.2.1.2)
    · exact z.1
  · rcases h5 with ⟨e, n⟩ | z
    · rw [n]
      intro a b hab hb
      rw [e (340 + 5 * a) (by omega) (by omega), e (340 + 5 * a + 1) (by omega) (by omega), e (340 + 5 * a + 2) (by omega) (by omega), e (340 + 5 * a + 4) (by omega) (by omega), e (340 + 5 * b) (by omega) (by omega), e (340 + 5 * b + 1) (by omega) (by omega), e (340 + 5 * b + 2) (by omega) (by omega), e (340 + 5 * b + 4) (by omega) (by omega)]
      exact K.2.2.2.2.2.2.1 a b hab hb
    · exact z.2.1
  · rcases h5 with ⟨e, n⟩ | z
    · rw [n]
      intro a ha
      rw [e _ (by omega) (by omega), e _ (by omega) (by omega)]
      exact K.2.2.2.2.2.2.2.1 a ha
    · exact z.2.2
  · rcases h6 with e | z
    · obtain ⟨⟨q1, q2⟩, q3, ⟨q4, q5⟩, q6⟩ := K.2.2.2.2.2.2.2.2.1
      exact ⟨⟨q1.cong (e _ (by omega) (by omega)), by rw [clc (e _ (by omega) (by omega))]; exact q2⟩, q3.cong (e _ (by omega) (by omega)), ⟨q4.cong (e _ (by omega) (by omega)), by rw [clc (e _ (by omega) (by omega))]; exact q5⟩, q6.cong (e _ (by omega) (by omega))⟩
    · exact z
  · rcases h7 with ⟨e, n⟩ | z
    · rw [e]
      exact K.2.2.2.2.2.2.2.2.2.1.imp id (fun z => (z.cong e).mono n)
    · exact z
  · rcases h8 with ⟨e, n⟩ | z
    · rw [n]
      exact fun t ht => (K.2.2.2.2.2.2.2.2.2.2 t ht).cong (e _ (by omega) (by omega))
    · exact z
