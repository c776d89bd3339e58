/-! TEXTS: what the plain parser writes means what it says -/
theorem encI_map (x : Option Int64) : x.map encI = x := by cases x <;> rfl
theorem opR_V {o : Nat} (h : o ≤ 7) (u z : Int64) : opR o u z = (opV o u z).map encI := by
  unfold opR
  rw [if_pos h, encI_map]
theorem opR_C {o : Nat} (h : ¬ o ≤ 7) (u z : Int64) : opR o u z = (some (if o = 8 then decide (u < z) else if o = 9 then decide (z < u) else decide (u = z))).map encB := by
  unfold opR
  rw [if_neg h, Option.map_some]
  by_cases q1 : o = 8
  · rw [if_pos q1, if_pos q1]
  · rw [if_neg q1, if_neg q1]
    by_cases q2 : o = 9
    · rw [if_pos q2, if_pos q2]
    · rw [if_neg q2, if_neg q2]
theorem p_close {α : Type} {K : Tk} {c : Nat} {r : Rs α} (h : (closeP K c r).1 ≠ 0) : r.1 ≠ 0 ∧ (closeP K c r).2.2.2 = r.2.2.2 := by
  unfold closeP at h ⊢
  by_cases e : r.1 = 0
  · rw [thn_0 e] at h
    exact absurd rfl h
  · rw [thn_1 e] at h ⊢
    by_cases q : trc K r.2.1 = c
    · rw [if_pos q]
      exact ⟨e, rfl⟩
    · rw [if_neg q] at h
      exact absurd rfl h
theorem p_part {K : Tk} {br : Bool} {S : Ps Int64} {nd : Nat} (hn : 1 ≤ nd) (hS : br = true → PEv encI nd S) : PEv encI nd (partP K br S) := fun i l a h => by
  unfold partP at h ⊢
  by_cases c1 : trc K i = 191
  · rw [if_pos c1] at h ⊢
    by_cases c2 : br = true
    · rw [if_pos c2] at h ⊢
      obtain ⟨h1, h2⟩ := p_close h
      rw [h2]
      exact hS c2 (i + 1) l a h1
    · rw [if_neg c2] at h
      exact absurd rfl h
  · rw [if_neg c1] at h ⊢
    by_cases c2 : trc K i = 50 ∧ trv K i ≤ 1000
    · rw [if_pos c2] at h ⊢
      by_cases c3 : l < 50
      · rw [if_pos c3]
        exact (e_push a 0 (trv K i) (fun _ => (nI (trv K i)).toInt64) (Or.inl ⟨rfl, fun _ => rfl⟩)).mono hn
      · rw [if_neg c3] at h
        exact absurd rfl h
    · rw [if_neg c2] at h ⊢
      by_cases c4 : 12 ≤ trc K i ∧ trc K i ≤ 20
      · rw [if_pos c4] at h ⊢
        by_cases c3 : l < 50
        · rw [if_pos c3]
          exact (e_push a 1 (trc K i - 12) (fun e => (e (trc K i - 12)).toInt64) (Or.inr ⟨rfl, by omega, fun _ => rfl⟩)).mono hn
        · rw [if_neg c3] at h
          exact absurd rfl h
      · rw [if_neg c4] at h
        exact absurd rfl h
theorem p_binL {K : Tk} {c1 o1 c2 o2 : Nat} {P : Ps Int64} {nd : Nat} (hn : 1 ≤ nd) (h1 : 4 ≤ o1 ∧ o1 ≤ 7) (h2 : 4 ≤ o2 ∧ o2 ≤ 7) (hP : PEv encI nd P) (a f : Nat) : ∀ i l cs v, EvC encI (nd + 1) a cs v → (binL K c1 o1 c2 o2 P a f i l cs v).1 ≠ 0 → EvC encI (nd + 1) a (binL K c1 o1 c2 o2 P a f i l cs v).2.2.2.1 (binL K c1 o1 c2 o2 P a f i l cs v).2.2.2.2 := by
  induction f with
  | zero => exact fun i l cs v h _ => h
  | succ f ih =>
    intro i l cs v h hz
    unfold binL at hz ⊢
    by_cases q : trc K i = c1 ∨ trc K i = c2
    · rw [if_pos q] at hz ⊢
      by_cases e : (P (i + 1) l (a + cs.length)).1 = 0
      · rw [thn_0 e] at hz
        exact absurd rfl hz
      · rw [thn_1 e] at hz ⊢
        have ho : 4 ≤ (if trc K i = c1 then o1 else o2) ∧ (if trc K i = c1 then o1 else o2) ≤ 7 := by
          by_cases q1 : trc K i = c1
          · rw [if_pos q1]; exact h1
          · rw [if_neg q1]; exact h2
        exact ih _ _ _ _ (EvC.bin _ (opR_V ho.2) ⟨ho.1, by omega⟩ h (hP _ _ _ e) hn) hz
    · rw [if_neg q]
      exact h
theorem p_bin {K : Tk} {c1 o1 c2 o2 : Nat} {P : Ps Int64} {nd : Nat} (hn : 1 ≤ nd) (h1 : 4 ≤ o1 ∧ o1 ≤ 7) (h2 : 4 ≤ o2 ∧ o2 ≤ 7) (hP : PEv encI nd P) : PEv encI (nd + 1) (binP K c1 o1 c2 o2 P) := fun i l a hz => by
  unfold binP at hz ⊢
  by_cases e : (P i l a).1 = 0
  · rw [thn_0 e] at hz
    exact absurd rfl hz
  · rw [thn_1 e] at hz ⊢
    exact p_binL hn h1 h2 hP a 401 _ _ _ _ ((hP i l a e).mono (by omega)) hz
theorem p_jmpL {K : Tk} {c o : Nat} {P : Ps Bool} {nd : Nat} (hn : 1 ≤ nd) (ho : o = 2 ∨ o = 3) (hP : PEv encB nd P) (a f : Nat) : ∀ i l cs v, EvC encB nd a cs v → (jmpL K c o P a f i l cs v).1 ≠ 0 → EvC encB nd a (jmpL K c o P a f i l cs v).2.2.2.1 (jmpL K c o P a f i l cs v).2.2.2.2 := by
  induction f with
  | zero => exact fun i l cs v h _ => h
  | succ f ih =>
    intro i l cs v h hz
    unfold jmpL at hz ⊢
    by_cases q : trc K i = c
    · rw [if_pos q] at hz ⊢
      by_cases e : (P (i + 1) l (a + cs.length + 2)).1 = 0
      · rw [thn_0 e] at hz
        exact absurd rfl hz
      · rw [thn_1 e] at hz ⊢
        exact ih _ _ _ _ (EvC.jmp ho h (hP _ _ _ e) hn) hz
    · rw [if_neg q]
      exact h
theorem p_jmp {K : Tk} {c o : Nat} {P : Ps Bool} {nd : Nat} (hn : 1 ≤ nd) (ho : o = 2 ∨ o = 3) (hP : PEv encB nd P) : PEv encB nd (jmpP K c o P) := fun i l a hz => by
  unfold jmpP at hz ⊢
  by_cases e : (P i l a).1 = 0
  · rw [thn_0 e] at hz
    exact absurd rfl hz
  · rw [thn_1 e] at hz ⊢
    exact p_jmpL hn ho hP a 401 _ _ _ _ (hP i l a e) hz
theorem p_cmp {K : Tk} {S : Ps Int64} {nd : Nat} (hn : 1 ≤ nd) (hS : PEv encI nd S) (i l a : Nat) (hz : (cmpP K S i l a).1 ≠ 0) : EvC encB (nd + 1) a (cmpP K S i l a).2.2.2.1 (cmpP K S i l a).2.2.2.2 := by
  unfold cmpP at hz ⊢
  by_cases e : (S i l a).1 = 0
  · rw [thn_0 e] at hz
    exact absurd rfl hz
  rw [thn_1 e] at hz ⊢
  by_cases q : trc K (S i l a).2.1 = 160 ∨ trc K (S i l a).2.1 = 162 ∨ trc K (S i l a).2.1 = 161
  · rw [if_pos q] at hz ⊢
    by_cases e2 : (S ((S i l a).2.1 + 1) (S i l a).2.2.1 (a + (S i l a).2.2.2.1.length)).1 = 0
    · rw [thn_0 e2] at hz
      exact absurd rfl hz
    · rw [thn_1 e2]
      have ho : 8 ≤ (if trc K (S i l a).2.1 = 160 then 8 else if trc K (S i l a).2.1 = 162 then 9 else 10) ∧ (if trc K (S i l a).2.1 = 160 then 8 else if trc K (S i l a).2.1 = 162 then 9 else 10) ≤ 10 := by
        by_cases q1 : trc K (S i l a).2.1 = 160
        · rw [if_pos q1]; omega
        · rw [if_neg q1]
          by_cases q2 : trc K (S i l a).2.1 = 162
          · rw [if_pos q2]; omega
          · rw [if_neg q2]; omega
      exact EvC.bin _ (opR_C (by omega)) ⟨by omega, ho.2⟩ ((hS i l a e).mono (by omega)) (hS _ _ _ e2) hn
  · rw [if_neg q] at hz
    exact absurd rfl hz
theorem p_pos {K : Tk} {br : Bool} {T : Ps Bool} {S : Ps Int64} {nd : Nat} (hn : 1 ≤ nd) (hT : br = true → PEv encB (nd + 1) T) (hS : PEv encI nd S) : PEv encB (nd + 1) (posP K br T S) := fun i l a h => by
  unfold posP at h ⊢
  by_cases c1 : trc K i = 140
  · rw [if_pos c1] at h ⊢
    by_cases c2 : br = true
    · rw [if_pos c2] at h ⊢
      obtain ⟨h1, h2⟩ := p_close h
      rw [h2]
      exact hT c2 (i + 1) l a h1
    · rw [if_neg c2] at h
      exact absurd rfl h
  · rw [if_neg c1] at h ⊢
    exact p_cmp hn hS i l a h
theorem p_plain {K : Tk} {br : Bool} {T : Ps Bool} {S : Ps Int64} {nd : Nat} (hn : 1 ≤ nd) (hT : br = true → PEv encB (nd + 1) T) (hS : PEv encI nd S) : PEv encB (nd + 1) (plainP K br T S) := fun i l a h => by
  unfold plainP at h ⊢
  by_cases e : (posP K br T S (nots K 401 i false).1 l a).1 = 0
  · rw [thn_0 e] at h
    exact absurd rfl h
  · rw [thn_1 e] at h ⊢
    have z := p_pos hn hT hS (nots K 401 i false).1 l a e
    by_cases t : (nots K 401 i false).2 = true
    · rw [if_pos t]
      exact EvC.turn z (by omega)
    · rw [if_neg t]
      exact z
theorem p_sum {K : Tk} (k : Nat) : PEv encI (2 * k + 3) (sumP K k) := by
  induction k with
  | zero => exact p_bin (by omega) (by omega) (by omega) (p_bin (by omega) (by omega) (by omega) (p_part (by omega) (fun z => absurd z (by decide))))
  | succ k ih => exact p_bin (by omega) (by omega) (by omega) (p_bin (by omega) (by omega) (by omega) (p_part (by omega) (fun _ => ih)))
theorem PEv.mono {α : Type} {enc : α → Int64} {nd nd' : Nat} {P : Ps α} (h : PEv enc nd P) (q : nd ≤ nd') : PEv enc nd' P := fun i l a z => (h i l a z).mono q
theorem p_test {K : Tk} (k : Nat) : PEv encB (2 * k + 4) (testP K k) := by
  induction k with
  | zero => exact p_jmp (by omega) (Or.inl rfl) (p_jmp (by omega) (Or.inr rfl) (p_plain (by omega) (fun z => absurd z (by decide)) (p_sum 0)))
  | succ k ih => exact p_jmp (by omega) (Or.inl rfl) (p_jmp (by omega) (Or.inr rfl) (p_plain (by omega) (fun _ => ih.mono (by omega)) (p_sum (k + 1))))
