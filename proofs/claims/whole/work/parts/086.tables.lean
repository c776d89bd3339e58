/-! TABLES: the class's rows of numbers, as functions of row and column -/
theorem nI_mul (a b : Nat) : nI a * nI b = nI (a * b) := (Int32.ofNat_mul a b).symm
theorem Option.bind_pair {α β γ : Type} (a : α) (b : β) (f : α × β → Option γ) : Option.bind (some (a, b)) f = f (a, b) := rfl
/-- a table of n rows at t, w wide, m rows at most, its cells at t + 1 -/
def Tab (h : pg_H) (t w m n : Nat) : Prop := pg_k h t = (8, 4) ∧ pg_k h (t + 1) = (21, w * m) ∧ pg_r h t 0 = t + 1 ∧ pg_i h t 1 = nI w ∧ pg_i h t 2 = nI m ∧ pg_i h t 3 = nI n ∧ n ≤ m ∧ m ≤ 200 ∧ w ≤ 8 ∧ m * w ≤ 1000
section TAB
variable {h : pg_H} {t w m n : Nat}
theorem Tab.gR (T : Tab h t w m n) : pg_gR 7 0 h t = some (t + 1) := by
  unfold pg_gR
  rw [T.1, if_pos rfl, T.2.2.1]
theorem Tab.gw (T : Tab h t w m n) : pg_gI 7 1 h t = some (nI w) := by
  unfold pg_gI
  rw [T.1, if_pos rfl, T.2.2.2.1]
theorem Tab.gm (T : Tab h t w m n) : pg_gI 7 2 h t = some (nI m) := by
  unfold pg_gI
  rw [T.1, if_pos rfl, T.2.2.2.2.1]
theorem Tab.gn (T : Tab h t w m n) : pg_gI 7 3 h t = some (nI n) := by
  unfold pg_gI
  rw [T.1, if_pos rfl, T.2.2.2.2.2.1]
theorem Tab.rcv {τ : Type} (T : Tab h t w m n) (G : Option τ) : pg_rcv 7 h t G = G := by
  unfold pg_rcv
  rw [T.1]
  rfl
theorem Tab.size (T : Tab h t w m n) : F_X7_size h t = some (nI n) := by
  unfold F_X7_size
  rw [T.gn]
  rfl
theorem Tab.lt {i j : Nat} (T : Tab h t w m n) (hi : i < n) (hj : j < w) : i * w + j < w * m := by
  have h1 : i + 1 ≤ m := Nat.le_trans hi T.2.2.2.2.2.2.1
  have h2 : (i + 1) * w ≤ m * w := Nat.mul_le_mul_right w h1
  rw [Nat.add_mul, Nat.one_mul] at h2
  rw [Nat.mul_comm w m]
  omega
theorem Tab.cell {i j : Nat} (T : Tab h t w m n) (hi : i < n) (hj : j < w) : nI i * nI w + nI j = nI (i * w + j) ∧ ¬ (nI (i * w + j) < 0 ∨ w * m ≤ (nI (i * w + j)).toNatClampNeg) ∧ (nI (i * w + j)).toNatClampNeg = i * w + j := by
  have h1 := T.lt hi hj
  have h2 := T.2.2.2.2.2.2.2.2.2
  rw [Nat.mul_comm] at h2
  exact ⟨by rw [nI_mul, nI_add], nI_in h1 (by omega), nI_clamp (by omega)⟩
theorem Tab.at {i j : Nat} (T : Tab h t w m n) (hi : i < n) (hj : j < w) : F_X7_at h t (nI i) (nI j) = some (pg_i h (t + 1) (i * w + j)) := by
  obtain ⟨c1, c2, c3⟩ := T.cell hi hj
  have b1 := T.2.2.2.2.2.2.1
  have b2 := T.2.2.2.2.2.2.2.1
  have b3 := T.2.2.2.2.2.2.2.2.1
  unfold F_X7_at
  rw [if_neg (nI_pos (by omega)), T.gn, Option.bind_some, if_pos (nI_lt hi (by omega)), if_neg (nI_pos (by omega)), T.gw, Option.bind_some, if_pos (nI_lt hj (by omega)), T.gR, Option.bind_some, Option.bind_some, c1]
  unfold pg_aI
  rw [T.2.1, if_pos ⟨rfl, c2⟩, c3]
  rfl
/-- a row that is none -/
theorem Tab.at_out {x : Int32} {y : Int32} (T : Tab h t w m n) (hx : x < 0) : F_X7_at h t x y = some 0 := by
  unfold F_X7_at
  rw [if_pos hx]
theorem Tab.holds (T : Tab h t w m n) (x : Int32) : F_X7_holds h t x = some (if 0 ≤ x ∧ x < nI n then 1 else 0) := by
  unfold F_X7_holds
  by_cases h0 : x < 0
  · rw [if_pos h0, if_neg (fun q => Int32.not_lt.mpr q.1 h0)]
  · rw [if_neg h0, T.gn, Option.bind_some]
    by_cases h1 : x < nI n
    · rw [if_pos h1, if_pos ⟨Int32.not_lt.mp h0, h1⟩]
    · rw [if_neg h1, if_neg (fun q => h1 q.2)]
theorem Tab.holds_nI {i : Nat} (T : Tab h t w m n) (hi : i < n) : F_X7_holds h t (nI i) = some 1 := by
  have b1 := T.2.2.2.2.2.2.1
  have b2 := T.2.2.2.2.2.2.2.1
  rw [T.holds, if_pos ⟨nI_pos' (by omega), nI_lt hi (by omega)⟩]
theorem Tab.put {i j : Nat} {x : Int32} (T : Tab h t w m n) (hi : i < n) (hj : j < w) : F_X7_put t (nI i) (nI j) x h = some (pg_i h (t + 1) (i * w + j), pg_si h (t + 1) (i * w + j) x) := by
  obtain ⟨c1, c2, c3⟩ := T.cell hi hj
  have b1 := T.2.2.2.2.2.2.1
  have b2 := T.2.2.2.2.2.2.2.1
  have b3 := T.2.2.2.2.2.2.2.2.1
  unfold F_X7_put
  rw [T.rcv, T.holds_nI hi, Option.bind_some, if_neg (by decide), if_neg (nI_pos (by omega)), T.gw, Option.bind_some, if_pos (nI_lt hj (by omega)), Option.bind_some]
  unfold pg_let
  dsimp only
  have e1 : pg_aI 21 h (t + 1) (nI (i * w + j)) = some (pg_i h (t + 1) (i * w + j)) := by
    unfold pg_aI
    rw [T.2.1, if_pos ⟨rfl, c2⟩, c3]
  have e2 : pg_sI 21 h (t + 1) (nI (i * w + j)) x = some (pg_si h (t + 1) (i * w + j) x) := by
    unfold pg_sI
    rw [T.2.1, if_pos ⟨rfl, c2⟩, c3]
    rfl
  rw [c1, T.gR, Option.bind_some, e1, Option.bind_some, Option.bind_some, e2, Option.bind_some]
end TAB
/-- cells of another address, or other fields of the table's, change: the table stays -/
theorem Tab.si {h : pg_H} {t w m n r k : Nat} {x : Int32} (T : Tab h t w m n) (hr : ¬ (r = t ∧ (k = 1 ∨ k = 2 ∨ k = 3))) : Tab (pg_si h r k x) t w m n := by
  obtain ⟨a1, a2, a3, a4, a5, a6, a7⟩ := T
  have e : ∀ j, (j = 1 ∨ j = 2 ∨ j = 3) → pg_i (pg_si h r k x) t j = pg_i h t j := fun j hj => by
    show pg_up2 (pg_i h) r k x t j = pg_i h t j
    by_cases e : t = r
    · subst e
      rw [pg_up2_at, if_neg (fun q => hr ⟨rfl, by rw [← q]; exact hj⟩)]
    · exact pg_up2_ne e j
  exact ⟨a1, a2, a3, by rw [e 1 (by simp)]; exact a4, by rw [e 2 (by simp)]; exact a5, by rw [e 3 (by simp)]; exact a6, a7⟩
theorem Tab.grow {h : pg_H} {t w m n n' : Nat} (T : Tab h t w m n) (hn : n' ≤ m) : Tab (pg_si h t 3 (nI n')) t w m n' := by
  obtain ⟨a1, a2, a3, a4, a5, a6, a7, a8⟩ := T
  refine ⟨a1, a2, a3, ?_, ?_, ?_, hn, a8⟩
  · show pg_up2 (pg_i h) t 3 (nI n') t 1 = _
    rw [pg_up2_at, if_neg (by decide)]
    exact a4
  · show pg_up2 (pg_i h) t 3 (nI n') t 2 = _
    rw [pg_up2_at, if_neg (by decide)]
    exact a5
  · show pg_up2 (pg_i h) t 3 (nI n') t 3 = _
    rw [pg_up2_at, if_pos rfl]
theorem si_at {h : pg_H} {r k : Nat} {x : Int32} (j : Nat) : pg_i (pg_si h r k x) r j = if j = k then x else pg_i h r j := pg_up2_at j
theorem si_ne {h : pg_H} {r k r' : Nat} {x : Int32} (hr : r' ≠ r) : pg_i (pg_si h r k x) r' = pg_i h r' := by
  funext j
  exact pg_up2_ne hr j
/-- a row of zeros, from column j on -/
theorem open_run {t w m n : Nat} : ∀ (d f j : Nat) (h : pg_H), Tab h t w m (n + 1) → w - j = d → d < f → j ≤ w → ∃ h', F_X7_open_30 f t (nI n) (nI j) h = some (nI n, h') ∧ Tab h' t w m (n + 1) ∧ (∀ r, r ≠ t + 1 → pg_i h' r = pg_i h r) ∧ (∀ c, pg_i h' (t + 1) c = if n * w + j ≤ c ∧ c < n * w + w then 0 else pg_i h (t + 1) c) ∧ h'.1 = h.1 ∧ h'.2.1 = h.2.1 ∧ pg_k h' = pg_k h ∧ pg_l h' = pg_l h ∧ pg_r h' = pg_r h := by
  intro d
  induction d with
  | zero =>
    intro f j h T hd hf hj
    obtain ⟨f, rfl⟩ : ∃ g, f = g + 1 := ⟨f - 1, by omega⟩
    have b3 := T.2.2.2.2.2.2.2.2.1
    have e : j = w := by omega
    subst e
    rw [F_X7_open_30]
    dsimp only
    rw [T.gw, Option.bind_some, if_neg (nI_nlt (Nat.le_refl _) (by omega))]
    exact ⟨h, rfl, T, fun _ _ => rfl, fun c => by rw [if_neg (by omega)], rfl, rfl, rfl, rfl, rfl⟩
  | succ d ih =>
    intro f j h T hd hf hj
    obtain ⟨f, rfl⟩ : ∃ g, f = g + 1 := ⟨f - 1, by omega⟩
    have b3 := T.2.2.2.2.2.2.2.2.1
    rw [F_X7_open_30]
    dsimp only
    rw [T.gw, Option.bind_some, if_pos (nI_lt (by omega) (by omega)), T.rcv, T.put (Nat.lt_succ_self n) (by omega), Option.bind_some]
    dsimp only
    rw [show nI j + (1 : Int32) = nI (j + 1) from nI_1 j]
    obtain ⟨h', q1, q2, q3, q4, q5, q6, q7, q8, q9⟩ := ih f (j + 1) (pg_si h (t + 1) (n * w + j) 0) (T.si (by omega)) (by omega) (by omega) (by omega)
    refine ⟨h', q1, q2, fun r hr => ?_, fun c => ?_, q5, q6, q7, q8, q9⟩
    · rw [q3 r hr, si_ne hr]
    · rw [q4 c, si_at]
      by_cases c1 : n * w + (j + 1) ≤ c ∧ c < n * w + w
      · rw [if_pos c1, if_pos (by omega)]
      · rw [if_neg c1]
        by_cases c2 : c = n * w + j
        · rw [if_pos c2, if_pos (by omega)]
        · rw [if_neg c2, if_neg (by omega)]
/-- a new row -/
theorem Tab.open_ {h : pg_H} {t w m n : Nat} (T : Tab h t w m n) (hn : n < m) (hw : 0 < w) : ∃ h', F_X7_open t h = some (nI n, h') ∧ Tab h' t w m (n + 1) ∧ (∀ r, r ≠ t → r ≠ t + 1 → pg_i h' r = pg_i h r) ∧ (∀ k, k ≠ 3 → pg_i h' t k = pg_i h t k) ∧ (∀ c, pg_i h' (t + 1) c = if n * w ≤ c ∧ c < n * w + w then 0 else pg_i h (t + 1) c) ∧ h'.1 = h.1 ∧ h'.2.1 = h.2.1 ∧ pg_k h' = pg_k h ∧ pg_l h' = pg_l h ∧ pg_r h' = pg_r h := by
  have b2 := T.2.2.2.2.2.2.2.1
  have T1 : Tab (pg_si h t 3 (nI (n + 1))) t w m (n + 1) := T.grow hn
  obtain ⟨h', q1, q2, q3, q4, q5, q6, q7, q8, q9⟩ := open_run w pg_fuel 0 _ T1 (by omega) (by have := T.2.2.2.2.2.2.2.2.1; unfold pg_fuel; omega) (Nat.zero_le _)
  refine ⟨h', ?_, q2, fun r h1 h2 => ?_, fun k hk => ?_, fun c => ?_, q5, q6, q7, q8, q9⟩
  · unfold F_X7_open
    rw [T.gn, Option.bind_some, T.gm, Option.bind_some, if_pos (nI_lt hn (by omega)), Option.bind_some, Option.bind_some]
    unfold pg_pI
    rw [T.1, if_pos rfl, Option.bind_some, show nI n + (1 : Int32) = nI (n + 1) from nI_1 n]
    exact q1
  · rw [q3 r h2, si_ne h1]
  · rw [q3 t (by omega), si_at, if_neg hk]
  · rw [q4 c, Nat.add_zero, si_ne (by omega)]
theorem Tab.full {h : pg_H} {t w m n : Nat} (T : Tab h t w m n) (hn : n = m) : F_X7_open t h = some (-1, h) := by
  have b2 := T.2.2.2.2.2.2.2.1
  unfold F_X7_open
  rw [T.gn, Option.bind_some, T.gm, Option.bind_some, if_neg (nI_nlt (by omega) (by omega))]
