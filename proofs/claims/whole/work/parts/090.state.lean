/-! THE STATE (wip/gen/acc.py): the reference's numbers as a function A; the class's shelf beside it; frames -/
def up1 {α : Type} (f : Nat → α) (k : Nat) (x : α) : Nat → α := fun j => if j = k then x else f j
theorem up1_eq {α : Type} {f : Nat → α} {k : Nat} {x : α} : up1 f k x k = x := if_pos rfl
theorem up1_ne {α : Type} {f : Nat → α} {k j : Nat} {x : α} (h : j ≠ k) : up1 f k x j = f j := if_neg h
theorem si_row (h : pg_H) (r k : Nat) (x : Int32) : pg_i (pg_si h r k x) r = up1 (pg_i h r) k x := by
  funext j
  exact pg_up2_at j
theorem sl_row (h : pg_H) (r k : Nat) (x : Int64) : pg_l (pg_sl h r k x) r = up1 (pg_l h r) k x := by
  funext j
  exact pg_up2_at j
theorem sl_ne {h : pg_H} {r k r' : Nat} {x : Int64} (hr : r' ≠ r) : pg_l (pg_sl h r k x) r' = pg_l h r' := by
  funext j
  exact pg_up2_ne hr j
/-- what a step may change: places of ints and longs alone, where W says so -/
def Mod (W : Nat → Nat → Prop) (h h' : pg_H) : Prop := h'.1 = h.1 ∧ h'.2.1 = h.2.1 ∧ pg_k h' = pg_k h ∧ pg_r h' = pg_r h ∧ ∀ r k, ¬ W r k → pg_i h' r k = pg_i h r k ∧ pg_l h' r k = pg_l h r k
theorem Mod.refl (W : Nat → Nat → Prop) (h : pg_H) : Mod W h h := ⟨rfl, rfl, rfl, rfl, fun _ _ _ => ⟨rfl, rfl⟩⟩
theorem Mod.trans {W : Nat → Nat → Prop} {h h1 h2 : pg_H} (a : Mod W h h1) (b : Mod W h1 h2) : Mod W h h2 :=
  ⟨b.1.trans a.1, b.2.1.trans a.2.1, b.2.2.1.trans a.2.2.1, b.2.2.2.1.trans a.2.2.2.1, fun r k q => ⟨(b.2.2.2.2 r k q).1.trans (a.2.2.2.2 r k q).1, (b.2.2.2.2 r k q).2.trans (a.2.2.2.2 r k q).2⟩⟩
theorem Mod.mono {W V : Nat → Nat → Prop} {h h1 : pg_H} (a : Mod W h h1) (q : ∀ r k, W r k → V r k) : Mod V h h1 :=
  ⟨a.1, a.2.1, a.2.2.1, a.2.2.2.1, fun r k z => a.2.2.2.2 r k (fun y => z (q r k y))⟩
theorem Mod.si {W : Nat → Nat → Prop} {h : pg_H} {r k : Nat} (x : Int32) (q : W r k) : Mod W h (pg_si h r k x) :=
  ⟨rfl, rfl, rfl, rfl, fun r' k' z => ⟨by
    show pg_up2 (pg_i h) r k x r' k' = _
    by_cases e : r' = r
    · subst e
      rw [pg_up2_at, if_neg (fun e2 => z (by rw [e2]; exact q))]
    · exact pg_up2_ne e k', rfl⟩⟩
theorem Mod.sl {W : Nat → Nat → Prop} {h : pg_H} {r k : Nat} (x : Int64) (q : W r k) : Mod W h (pg_sl h r k x) :=
  ⟨rfl, rfl, rfl, rfl, fun r' k' z => ⟨rfl, by
    show pg_up2 (pg_l h) r k x r' k' = _
    by_cases e : r' = r
    · subst e
      rw [pg_up2_at, if_neg (fun e2 => z (by rw [e2]; exact q))]
    · exact pg_up2_ne e k'⟩⟩
theorem Mod.row {W : Nat → Nat → Prop} {h h1 : pg_H} (a : Mod W h h1) (r : Nat) (q : ∀ k, ¬ W r k) : pg_i h1 r = pg_i h r := by
  funext k
  exact (a.2.2.2.2 r k (q k)).1
theorem Mod.rowl {W : Nat → Nat → Prop} {h h1 : pg_H} (a : Mod W h h1) (r : Nat) (q : ∀ k, ¬ W r k) : pg_l h1 r = pg_l h r := by
  funext k
  exact (a.2.2.2.2 r k (q k)).2
theorem Mod.lay {W : Nat → Nat → Prop} {h h1 : pg_H} (a : Mod W h h1) (L : Lay h) (q : ∀ z ∈ layI, ¬ W z.1 z.2.1) (q86 : ∀ j, ¬ W 86 j) : Lay h1 :=
  L.of (Nat.le_of_eq a.1.symm) (fun r _ => by rw [a.2.2.1]) (fun z _ => by rw [a.2.2.2.1]) (fun z hz => (a.2.2.2.2 _ _ (q z hz)).1) (fun j => (a.2.2.2.2 _ _ (q86 j)).1)
theorem Mod.few {W : Nat → Nat → Prop} {h h1 : pg_H} (a : Mod W h h1) : Few h h1 := ⟨Nat.le_of_eq a.1.symm, by rw [a.1]; exact Nat.le_add_right _ _, by rw [a.2.1]; exact Nat.le_add_right _ _⟩
/-- numbers as naturals -/
def cl (A : Nat → Int32) (j : Nat) : Nat := (A j).toNatClampNeg
def Rg (A : Nat → Int32) (j b : Nat) : Prop := A j = nI (cl A j) ∧ cl A j < b
theorem Rg.of {A : Nat → Int32} {j b v : Nat} (e : A j = nI v) (hv : v < b) (hb : b ≤ 2 ^ 31) : Rg A j b := by
  have : cl A j = v := by
    unfold cl
    rw [e, nI_clamp (by omega)]
  exact ⟨by rw [this]; exact e, by rw [this]; exact hv⟩
theorem cl_of {A : Nat → Int32} {j v : Nat} (e : A j = nI v) (hv : v < 2 ^ 31) : cl A j = v := by
  unfold cl
  rw [e, nI_clamp hv]
theorem Rg.cong {A A' : Nat → Int32} {j j' b : Nat} (q : Rg A j b) (e : A' j' = A j) : Rg A' j' b := by
  have : cl A' j' = cl A j := by
    unfold cl
    rw [e]
  exact ⟨by rw [this, e]; exact q.1, by rw [this]; exact q.2⟩
theorem Rg.mono {A : Nat → Int32} {j b c : Nat} (q : Rg A j b) (h : b ≤ c) : Rg A j c := ⟨q.1, Nat.lt_of_lt_of_le q.2 h⟩
def nC (A : Nat → Int32) : Nat := cl A 1344
def nS (A : Nat → Int32) : Nat := cl A 1345
def nH (A : Nat → Int32) : Nat := cl A 1346
def nN (A : Nat → Int32) : Nat := cl A 1347
def nT (A : Nat → Int32) : Nat := cl A 1348
def cp (A : Nat → Int32) (c j : Nat) : Nat := cl A (3 * c + j)
def st (A : Nat → Int32) (s j : Nat) : Nat := cl A (36 + 4 * s + j)
def hd (A : Nat → Int32) (k j : Nat) : Nat := cl A (196 + 8 * k + j)
def sm (A : Nat → Int32) (s j : Nat) : Nat := cl A (292 + 6 * s + j)
def nt (A : Nat → Int32) (n j : Nat) : Nat := cl A (340 + 5 * n + j)
def tm (A : Nat → Int32) (j : Nat) : Nat := cl A (1340 + j)
/-- the numbers keep their bounds -/
def ShOK (A : Nat → Int32) : Prop :=
  (Rg A 1344 13 ∧ Rg A 1345 41 ∧ Rg A 1346 13 ∧ Rg A 1347 201 ∧ Rg A 1348 9) ∧
  (∀ c, c < nC A → Rg A (3 * c) 8 ∧ Rg A (3 * c + 1) 64 ∧ Rg A (3 * c + 2) 2) ∧
  (∀ s, s < nS A → Rg A (36 + 4 * s) (nC A) ∧ Rg A (36 + 4 * s + 1) 32 ∧ Rg A (36 + 4 * s + 2) 401 ∧ Rg A (36 + 4 * s + 3) 401 ∧ cl A (36 + 4 * s + 2) ≤ cl A (36 + 4 * s + 3)) ∧
  (∀ k, k < nH A → Rg A (196 + 8 * k) 401 ∧ Rg A (196 + 8 * k + 1) 401 ∧ cl A (196 + 8 * k) ≤ cl A (196 + 8 * k + 1) ∧ ∀ f, f < 6 → Rg A (196 + 8 * k + 2 + f) 100) ∧
  (∀ s, s < 8 → ∀ f, f < 6 → Rg A (292 + 6 * s + f) 100) ∧
  (∀ n, n < nN A → Rg A (340 + 5 * n) (nC A) ∧ Rg A (340 + 5 * n + 1) 60 ∧ Rg A (340 + 5 * n + 2) 100 ∧ (A (340 + 5 * n + 3) = -1 ∨ Rg A (340 + 5 * n + 3) (nH A)) ∧ Rg A (340 + 5 * n + 4) 4) ∧
  (∀ n m, n < m → m < nN A → ¬ (A (340 + 5 * n) = A (340 + 5 * m) ∧ A (340 + 5 * n + 1) = A (340 + 5 * m + 1) ∧ A (340 + 5 * n + 2) = A (340 + 5 * m + 2) ∧ A (340 + 5 * n + 4) = A (340 + 5 * m + 4))) ∧
  (∀ n, n < nN A → A (340 + 5 * n + 4) ≠ 0 → A (340 + 5 * n + 2) = 0) ∧
  ((Rg A 1340 10 ∧ 1 ≤ cl A 1340) ∧ Rg A 1341 10 ∧ (Rg A 1342 10 ∧ 1 ≤ cl A 1342) ∧ Rg A 1343 1001) ∧
  (A 1349 = -1 ∨ Rg A 1349 (nT A)) ∧
  (∀ t, t < nT A → Rg A (1350 + t) 401)
/-- a table of the class beside its part of the reference's numbers -/
def TR (h : pg_H) (t w m n base : Nat) (A : Nat → Int32) : Prop := Tab h t w m n ∧ ∀ i j, i < n → j < w → pg_i h (t + 1) (i * w + j) = A (base + w * i + j)
theorem TR.at {h : pg_H} {t w m n base i j : Nat} {A : Nat → Int32} (T : TR h t w m n base A) (hi : i < n) (hj : j < w) : F_X7_at h t (nI i) (nI j) = some (A (base + w * i + j)) := by
  rw [T.1.at hi hj, T.2 i j hi hj]
theorem TR.cong {h h' : pg_H} {t w m n base : Nat} {A A' : Nat → Int32} (T : TR h t w m n base A) (hT : Tab h' t w m n) (hc : ∀ i j, i < n → j < w → pg_i h' (t + 1) (i * w + j) = pg_i h (t + 1) (i * w + j)) (hA : ∀ j, base ≤ j → j < base + w * m → A' j = A j) : TR h' t w m n base A' := by
  refine ⟨hT, fun i j hi hj => ?_⟩
  rw [hc i j hi hj, T.2 i j hi hj, hA _ (by omega)]
  have h1 : i + 1 ≤ m := Nat.le_trans hi T.1.2.2.2.2.2.2.1
  have h2 := Nat.mul_le_mul_left w h1
  rw [Nat.mul_add, Nat.mul_one] at h2
  omega
theorem Tab.mod {W : Nat → Nat → Prop} {h h' : pg_H} {t w m n : Nat} (T : Tab h t w m n) (M : Mod W h h') (q : ¬ W t 1 ∧ ¬ W t 2 ∧ ¬ W t 3) : Tab h' t w m n := by
  obtain ⟨a1, a2, a3, a4, a5, a6, a7⟩ := T
  exact ⟨by rw [M.2.2.1]; exact a1, by rw [M.2.2.1]; exact a2, by rw [M.2.2.2.1]; exact a3, by rw [(M.2.2.2.2 t 1 q.1).1]; exact a4, by rw [(M.2.2.2.2 t 2 q.2.1).1]; exact a5, by rw [(M.2.2.2.2 t 3 q.2.2).1]; exact a6, a7⟩
theorem TR.mod {W : Nat → Nat → Prop} {h h' : pg_H} {t w m n base : Nat} {A : Nat → Int32} (T : TR h t w m n base A) (M : Mod W h h') (q : ¬ W t 1 ∧ ¬ W t 2 ∧ ¬ W t 3) (q' : ∀ k, ¬ W (t + 1) k) : TR h' t w m n base A :=
  T.cong (T.1.mod M q) (fun i j _ _ => by rw [M.row (t + 1) q']) (fun _ _ _ => rfl)
/-- the numbers of a shelf of the class at s -/
def CNum (h : pg_H) (s : Nat) (A : Nat → Int32) : Prop :=
  TR h (s + 1) 3 12 (nC A) 0 A ∧ TR h (s + 3) 4 40 (nS A) 36 A ∧ TR h (s + 5) 8 12 (nH A) 196 A ∧ TR h (s + 7) 6 8 8 292 A ∧ TR h (s + 9) 5 200 (nN A) 340 A ∧ (∀ j, j < 4 → pg_i h (s + 11) j = A (1340 + j)) ∧ pg_i h s 7 = A 1348 ∧ pg_i h s 8 = A 1349
theorem CNum.mod {W : Nat → Nat → Prop} {h h' : pg_H} {s : Nat} {A : Nat → Int32} (T : CNum h s A) (M : Mod W h h') (q : ∀ r k, s ≤ r → r ≤ s + 11 → ¬ W r k) : CNum h' s A := by
  obtain ⟨a1, a2, a3, a4, a5, a6, a7, a8⟩ := T
  have z : ∀ i k, i ≤ 11 → ¬ W (s + i) k := fun i k hi => q (s + i) k (by omega) (by omega)
  refine ⟨a1.mod M ⟨z 1 1 (by decide), z 1 2 (by decide), z 1 3 (by decide)⟩ (fun k => z 2 k (by decide)), a2.mod M ⟨z 3 1 (by decide), z 3 2 (by decide), z 3 3 (by decide)⟩ (fun k => z 4 k (by decide)), a3.mod M ⟨z 5 1 (by decide), z 5 2 (by decide), z 5 3 (by decide)⟩ (fun k => z 6 k (by decide)), a4.mod M ⟨z 7 1 (by decide), z 7 2 (by decide), z 7 3 (by decide)⟩ (fun k => z 8 k (by decide)), a5.mod M ⟨z 9 1 (by decide), z 9 2 (by decide), z 9 3 (by decide)⟩ (fun k => z 10 k (by decide)), fun j hj => ?_, ?_, ?_⟩
  · rw [M.row (s + 11) (fun k => z 11 k (by decide))]
    exact a6 j hj
  · rw [(M.2.2.2.2 s 7 (z 0 7 (by decide))).1]
    exact a7
  · rw [(M.2.2.2.2 s 8 (z 0 8 (by decide))).1]
    exact a8
theorem m_copyOf {h : pg_H} (L : Lay h) (i j : Nat) (hi : 0 + 3 * i + j < 7758) : F_X12_copyOf h 81 (nI i) (nI j) = some (pg_i h 83 (0 + 3 * i + j)) := by
  unfold F_X12_copyOf
  rw [gR_81_3 L, Option.bind_some, show (((0 : Int32) + (3 : Int32) * nI i) + nI j) = nI (0 + 3 * i + j) from by rw [show ((0 : Int32)) = nI 0 from rfl, show ((3 : Int32)) = nI 3 from rfl, nI_mul, nI_add, nI_add], lay_aI L (by decide) (show _ = (21, 7758) from by decide) hi (by decide)]
  rfl
theorem m_stayOf {h : pg_H} (L : Lay h) (i j : Nat) (hi : 36 + 4 * i + j < 7758) : F_X12_stayOf h 81 (nI i) (nI j) = some (pg_i h 83 (36 + 4 * i + j)) := by
  unfold F_X12_stayOf
  rw [gR_81_3 L, Option.bind_some, show (((36 : Int32) + (4 : Int32) * nI i) + nI j) = nI (36 + 4 * i + j) from by rw [show ((36 : Int32)) = nI 36 from rfl, show ((4 : Int32)) = nI 4 from rfl, nI_mul, nI_add, nI_add], lay_aI L (by decide) (show _ = (21, 7758) from by decide) hi (by decide)]
  rfl
theorem m_handOf {h : pg_H} (L : Lay h) (i j : Nat) (hi : 196 + 8 * i + j < 7758) : F_X12_handOf h 81 (nI i) (nI j) = some (pg_i h 83 (196 + 8 * i + j)) := by
  unfold F_X12_handOf
  rw [gR_81_3 L, Option.bind_some, show (((196 : Int32) + (8 : Int32) * nI i) + nI j) = nI (196 + 8 * i + j) from by rw [show ((196 : Int32)) = nI 196 from rfl, show ((8 : Int32)) = nI 8 from rfl, nI_mul, nI_add, nI_add], lay_aI L (by decide) (show _ = (21, 7758) from by decide) hi (by decide)]
  rfl
theorem m_noteOf {h : pg_H} (L : Lay h) (i j : Nat) (hi : 340 + 5 * i + j < 7758) : F_X12_noteOf h 81 (nI i) (nI j) = some (pg_i h 83 (340 + 5 * i + j)) := by
  unfold F_X12_noteOf
  rw [gR_81_3 L, Option.bind_some, show (((340 : Int32) + (5 : Int32) * nI i) + nI j) = nI (340 + 5 * i + j) from by rw [show ((340 : Int32)) = nI 340 from rfl, show ((5 : Int32)) = nI 5 from rfl, nI_mul, nI_add, nI_add], lay_aI L (by decide) (show _ = (21, 7758) from by decide) hi (by decide)]
  rfl
theorem m_kept {h : pg_H} (L : Lay h) (j : Nat) (hj : j < 7758) : pg_aI 21 h 83 (nI j) = some (pg_i h 83 j) := lay_aI L (by decide) (show _ = (21, 7758) from by decide) hj (by decide)
theorem m_term {h : pg_H} (L : Lay h) (j : Nat) (hj : j < 4) : F_X12_term h 81 (nI j) = some (pg_i h 83 (1340 + j)) := by
  unfold F_X12_term
  rw [gR_81_3 L, Option.bind_some, show ((1340 : Int32) + nI j) = nI (1340 + j) from nI_add 1340 j, m_kept L _ (by omega)]
  rfl
theorem m_copies {h : pg_H} (L : Lay h) : F_X12_copies h 81 = some (pg_i h 83 1344) := by
  unfold F_X12_copies
  rw [gR_81_3 L, Option.bind_some, show (1344 : Int32) = nI 1344 from rfl, m_kept L _ (by omega)]
  rfl
theorem lies_nI {b : Nat} (x : Int32) (hb : b + 1 < 2 ^ 31) : F_X12_lies x (nI 0) (nI b) = some (if 0 ≤ x ∧ x < nI (b + 1) then 1 else 0) := by
  unfold F_X12_lies
  by_cases h0 : x < nI 0
  · rw [if_pos h0, if_neg (fun q => Int32.not_lt.mpr q.1 h0)]
  · rw [if_neg h0]
    obtain ⟨j, hj, rfl⟩ := nI_of h0
    by_cases h1 : b < j
    · rw [if_pos (nI_lt h1 hj), if_neg (fun q => by have := (nI_ltI hj (by omega)).mp q.2; omega)]
    · rw [if_neg (nI_nlt (by omega) (by omega)), if_pos ⟨Int32.not_lt.mp h0, nI_lt (by omega) (by omega)⟩]
