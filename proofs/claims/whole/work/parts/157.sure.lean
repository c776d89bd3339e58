/-! CALLS that ask trees: sure -/
def alB (A : Nat → Int32) (k c : Nat) : Nat → Nat → Bool := fun f d => alw A f d && !(decide (f = k) && decide (d = c))
def edgB (A : Nat → Int32) (w : Nat → Nat → Nat) (k c : Nat) (f t : Nat) : Option Nat := if alB A k c f (t - 1) = true then some (cst A w f (t - 1)) else none
theorem tree_le {A : Nat → Int32} (K : ShOK A) {w : Nat → Nat → Nat} (hw : wOK w) {al : Nat → Nat → Bool} {T : Nat → Nat} (h : isTree (nC A) al T) : tCost (nC A) (cst A w) T ≤ 2160000 := by
  have kC : nC A < 13 := K.1.1.2
  have := sumN_le (n := nC A) (b := 180000) (p := fun c => cst A w (T c) c) (fun c hc => cst_le2 K hw (Nat.le_trans (h.1 c hc).1 (by omega)) (by omega))
  unfold tCost
  omega
theorem c_isSure {h : pg_H} {A : Nat → Int32} {w : Nat → Nat → Nat} (L : Lay h) (K : ShOK A) (hw : wOK w) {T : Nat → Nat} (t1 : isFirst (nC A) (alw A) (cst A w) T) (t2 : ∀ c, c < 12 → pg_i h 66 c = if c < nC A ∧ T c ≠ 0 then nI (T c - 1) else -1) (t3 : pg_i h 59 7 = nI (nC A + 1)) (t4 : pg_i h 59 8 = nI (tCost (nC A) (cst A w) T)) (t5 : ∀ f c, f ≤ nC A → c < nC A → pg_i h 60 (f * 13 + (c + 1)) = if alw A f c = true then nI (cst A w f c) else -1) {c : Nat} (hc : c < nC A) :
    ∃ (r : Option Nat) (y : pg_H), F_X6_isSure 59 (nI c) h = some (b01 (decide (∀ v, r = some v → tCost (nC A) (cst A w) T < v)), y) ∧ Ch [61, 62, 63, 64, 65] [] h y ∧ (∀ T', isTree (nC A) (alB A (T c) c) T' → ∃ s, r = some s ∧ s ≤ tCost (nC A) (cst A w) T') ∧ ∀ s, r = some s → ∃ T', isTree (nC A) (alB A (T c) c) T' ∧ tCost (nC A) (cst A w) T' = s := by
  have kC : nC A < 13 := K.1.1.2
  have tl : T c ≤ nC A := (t1.1.1 c hc).1
  have cp : ∃ x, Ch [61] [] h x ∧ (∀ j, j < 169 → pg_l x 61 j = (pg_i h 60 j).toInt64) ∧ F_X6_isSure 59 (nI c) h = F_X6_isSure_2 1 59 (nI c) (nI 169) x := by
    have z := loopI (fun f i (x : pg_H) => F_X6_isSure_2 f 59 (nI c) (nI i) x) 169 (fun i x => Ch [61] [] h x ∧ ∀ j, j < i → pg_l x 61 j = (pg_i h 60 j).toInt64) (fun o => ∃ x, Ch [61] [] h x ∧ (∀ j, j < 169 → pg_l x 61 j = (pg_i h 60 j).toInt64) ∧ o = F_X6_isSure_2 1 59 (nI c) (nI 169) x) ?_ ?_ 0 h (Nat.zero_le _) ⟨Ch.refl _ _ _, fun j hj => absurd hj (Nat.not_lt_zero j)⟩ pg_fuel (by unfold pg_fuel; omega)
    · exact z
    · intro f i x hi ⟨cx, rx⟩
      have Lx := cx.lay L (by decide)
      refine ⟨pg_sl x 61 i (pg_i h 60 i).toInt64, ?_, cx.asl (Or.inl (by decide)), fun j hj => ?_⟩
      · show F_X6_isSure_2 (f + 1) 59 (nI c) (nI i) x = _
        rw [F_X6_isSure_2]
        dsimp only
        rw [nR_59_0 Lx.kd Lx.rd, Option.bind_some, nl_60 Lx.kd, Option.bind_some, if_pos (nI_lt hi (by decide)), nR_59_1 Lx.kd Lx.rd, Option.bind_some, Option.bind_some, na_60 Lx.kd hi, Option.bind_some, cx.row (by decide), ns_61 Lx.kd hi, Option.bind_some, nI_1]
      · rw [sl_row]
        by_cases q : j = i
        · rw [q, up1_eq]
        · rw [up1_ne q]
          exact rx j (by omega)
    · intro f x ⟨cx, rx⟩
      have Lx := cx.lay L (by decide)
      refine ⟨x, cx, rx, ?_⟩
      show F_X6_isSure_2 (f + 1) 59 (nI c) (nI 169) x = F_X6_isSure_2 (0 + 1) 59 (nI c) (nI 169) x
      rw [F_X6_isSure_2, F_X6_isSure_2]
      dsimp only
      rw [nR_59_0 Lx.kd Lx.rd, Option.bind_some, nl_60 Lx.kd, Option.bind_some, if_neg Int32.lt_irrefl, Option.bind_some, nl_60 Lx.kd, Option.bind_some, if_neg Int32.lt_irrefl]
  obtain ⟨x, cx, rx, ex⟩ := cp
  have Lx := cx.lay L (by decide)
  have s1 : Ch [61] [] x (pg_sl x 61 (13 * T c + (c + 1)) (-1)) := (Ch.refl _ _ _).asl (Or.inl (by decide))
  have c1 := cx.trans s1
  have L1 := s1.lay Lx (by decide)
  have el : EL (pg_sl x 61 (13 * T c + (c + 1)) (-1)) 61 (nC A + 1) (edgB A w (T c) c) := fun f t hf h1 h2 => by
    rw [sl_row]
    unfold edgB
    by_cases q : f = T c ∧ t = c + 1
    · have no : ¬ alB A (T c) c f (t - 1) = true := by
        unfold alB
        rw [decide_eq_true q.1, decide_eq_true (show t - 1 = c by omega)]
        cases alw A f (t - 1) <;> decide
      rw [if_neg no, q.1, q.2, up1_eq]
      rfl
    · rw [up1_ne (by omega), rx _ (by omega)]
      have z := t5 f (t - 1) (by omega) (by omega)
      rw [show f * 13 + (t - 1 + 1) = 13 * f + t by omega] at z
      rw [z]
      have e : alB A (T c) c f (t - 1) = alw A f (t - 1) := by
        unfold alB
        by_cases p : f = T c
        · rw [decide_eq_false (show ¬ t - 1 = c by omega), Bool.and_false]
          cases alw A f (t - 1) <;> rfl
        · rw [decide_eq_false p, Bool.false_and]
          cases alw A f (t - 1) <;> rfl
      rw [e]
      by_cases p : alw A f (t - 1) = true
      · have := cst_le2 K hw (show f ≤ 12 by omega) (show t - 1 < 12 by omega)
        rw [if_pos p, if_pos p, nI_l (by omega)]
        rfl
      · rw [if_neg p, if_neg p]
        rfl
  have B : EB (nC A + 1) (edgB A w (T c) c) := fun f t v hf h1 h2 q => by
    unfold edgB at q
    split at q
    · injection q with q
      have := cst_le2 K hw (show f ≤ 12 by omega) (show t - 1 < 12 by omega)
      omega
    · cases q
  obtain ⟨r, y, y1, y2, y3⟩ := c_leastSum L1 (show nC A + 1 ≤ 13 by omega) (by omega) (by
    rw [c1.row (by decide)]
    exact t3) el B
  have Ly := y2.lay L1 (by decide)
  obtain ⟨m1, m2⟩ := arb_tree (n := nC A) (al := alB A (T c) c) (cs := cst A w) (fun f d _ _ => rfl) y3
  refine ⟨r, y, ?_, (c1.mono (by decide)).trans y2, m1, m2⟩
  have f67 : F_X6_isSure_67 59 (pg_sl x 61 (13 * T c + (c + 1)) (-1)) = some (b01 (decide (∀ v, r = some v → tCost (nC A) (cst A w) T < v)), y) := by
    unfold F_X6_isSure_67
    have tb := tree_le K hw t1.1
    rw [nc_59 L1.kd, y1, Option.bind_some, ng_59 Ly.kd, y2.row (by decide), c1.row (by decide), t4, Option.bind_some, nI_l (by omega)]
    cases r with
    | none =>
      rw [if_pos (show lN (tCost (nC A) (cst A w) T) < farL none 0 from by
        rw [show farL none 0 = lN (2 ^ 62) from by decide]
        exact (lW_lt (by omega) (by decide)).mpr (by omega)), decide_eq_true (show ∀ v, (none : Option Nat) = some v → tCost (nC A) (cst A w) T < v from fun v z => by cases z)]
      rfl
    | some v =>
      obtain ⟨T2, u1, u2⟩ := m2 v rfl
      have vb := tree_le K hw u1
      rw [show farL (some v) 0 = lN v by show lN (0 + v) = lN v; rw [Nat.zero_add]]
      by_cases lt : tCost (nC A) (cst A w) T < v
      · rw [if_pos ((lW_lt (by omega) (by omega)).mpr lt), decide_eq_true (show ∀ v', some v = some v' → tCost (nC A) (cst A w) T < v' from fun v' z => by
          injection z with z
          omega)]
        rfl
      · rw [if_neg (fun z => lt ((lW_lt (by omega) (by omega)).mp z)), decide_eq_false (show ¬ ∀ v', some v = some v' → tCost (nC A) (cst A w) T < v' from fun z => lt (z v rfl))]
        rfl
  rw [ex]
  show F_X6_isSure_2 (0 + 1) 59 (nI c) (nI 169) x = _
  have x66 : pg_i x 66 c + 1 = nI (T c) := by
    rw [cx.row (by decide), t2 c (by omega)]
    by_cases t0 : T c = 0
    · rw [if_neg (show ¬ (c < nC A ∧ T c ≠ 0) from fun z => z.2 t0), t0]
      rfl
    · rw [if_pos (show c < nC A ∧ T c ≠ 0 from ⟨hc, t0⟩), nI_1, show T c - 1 + 1 = T c by omega]
  rw [F_X6_isSure_2]
  unfold pg_let F_X6_exemplarOf
  dsimp only
  rw [nR_59_0 Lx.kd Lx.rd, Option.bind_some, nl_60 Lx.kd, Option.bind_some, if_neg Int32.lt_irrefl, nc_59 Lx.kd, if_neg (show ¬ nI c < (0 : Int32) from nI_nlt (b := 0) (Nat.zero_le _) (by omega)), if_pos (show nI c < (12 : Int32) from nI_lt (b := 12) (by omega) (by decide)), nR_59_6 Lx.kd Lx.rd, Option.bind_some, na_66 Lx.kd (by omega), Option.bind_some, Option.bind_some, x66, show nI (T c) * (13 : Int32) + nI c + 1 = nI (13 * T c + (c + 1)) by rw [show (13 : Int32) = nI 13 from rfl, nI_mul, nI_add, nI_1, Nat.mul_comm, Nat.add_assoc], if_neg (show ¬ nI (13 * T c + (c + 1)) < (0 : Int32) from nI_nlt (b := 0) (Nat.zero_le _) (by omega)), nR_59_1 Lx.kd Lx.rd, Option.bind_some, nl_61 Lx.kd, Option.bind_some, if_pos (nI_lt (show 13 * T c + (c + 1) < 169 by omega) (by decide)), Option.bind_some, ns_61 Lx.kd (by omega), Option.bind_some]
  exact f67
