/-! TEXTS: the class works codes off -/
/-- the heap while codes are worked off: text r with N codes M, what is asked e, the stack st, nothing broken -/
def Wk (y : pg_H) (r N : Nat) (M e : Nat → Int32) (st : Nat → Int64) : Prop :=
  Lay y ∧ ((pg_k y r).1 = 10 ∧ 110 ≤ pg_r y r 0 ∧ pg_k y (pg_r y r 0) = (21, N) ∧ pg_i y (pg_r y r 0) = M ∧ N < 400) ∧ (∀ j, j < 9 → pg_i y 48 j = e j) ∧ pg_l y 49 = st ∧ pg_i y 47 2 = 0
def encI (u : Int64) : Int64 := u
def encB (b : Bool) : Int64 := if b = true then 1 else 0
def EvC {α : Type} (enc : α → Int64) (nd a : Nat) (cs : List Nat) (v : (Nat → Int32) → Option α) : Prop :=
  ∀ r N M e to y st hg, At M a cs → a + cs.length ≤ to → to ≤ N → Wk y r N M e st → hg + nd ≤ 64 →
    (∀ u, v e = some u → ∃ k y' st', k ≤ cs.length ∧ (∀ f, F_X0_work_11 (f + k) 47 r (nI to) (nI hg) (nI a) y = F_X0_work_11 f 47 r (nI to) (nI (hg + 1)) (nI (a + cs.length)) y') ∧ Wk y' r N M e st' ∧ st' hg = enc u ∧ (∀ q, q < hg → st' q = st q) ∧ Ch [49] [(47, 2)] y y') ∧
    (v e = none → ∃ k y' w, k ≤ cs.length ∧ (∀ f, F_X0_work_11 (f + 1 + k) 47 r (nI to) (nI hg) (nI a) y = some (w, y')) ∧ pg_i y' 47 2 = 1 ∧ Ch [49] [(47, 2)] y y')
def PEv {α : Type} (enc : α → Int64) (nd : Nat) (P : Ps α) : Prop := ∀ i l a, (P i l a).1 ≠ 0 → EvC enc nd a (P i l a).2.2.2.1 (P i l a).2.2.2.2
section EVC
variable {y : pg_H} {r N : Nat} {M e : Nat → Int32} {st : Nat → Int64}
theorem high_row {S : List Nat} {T : List (Nat × Nat)} {h h' : pg_H} (a : Ch S T h h') (q : lowST S T) {c : Nat} (hc : 110 ≤ c) : pg_i h' c = pg_i h c := a.high q hc
theorem Wk.ch {y' : pg_H} {st' : Nat → Int64} (h : Wk y r N M e st) (c : Ch [49] [(47, 2)] y y') (h1 : pg_l y' 49 = st') (h2 : pg_i y' 47 2 = 0) : Wk y' r N M e st' := by
  obtain ⟨L, ⟨a1, a2, a3, a4, a5⟩, b, _, _⟩ := h
  refine ⟨c.lay L (by decide), ⟨by rw [c.kk]; exact a1, by rw [c.rr]; exact a2, by rw [c.rr, c.kk]; exact a3, ?_, a5⟩, fun j hj => ?_, h1, h2⟩
  · rw [c.rr, c.high (by decide) a2]
    exact a4
  · rw [c.row (r := 48) (by decide)]
    exact b j hj
theorem Wk.code (h : Wk y r N M e st) (j : Nat) (hj : j < 1000) : F_X9_codeAt y r (nI j) = some (if j < N then M j else 0) := by
  obtain ⟨L, ⟨a1, a2, a3, a4, a5⟩, _⟩ := h
  unfold F_X9_codeAt
  have g : pg_gR 9 0 y r = some (pg_r y r 0) := by
    unfold pg_gR
    rw [if_pos a1]
  have ln : pg_len y (pg_r y r 0) = some (nI N) := by
    unfold pg_len
    rw [a3, if_pos ⟨show 20 ≤ 21 by decide, show 21 < 26 by decide⟩]
    rfl
  rw [if_neg (show ¬ nI j < (0 : Int32) from nI_nlt (b := 0) (Nat.zero_le _) (by omega)), g, Option.bind_some, ln, Option.bind_some, Option.bind_some]
  by_cases q : j < N
  · rw [if_pos (show nI j < nI N from nI_lt q (by omega)), if_pos q]
    unfold pg_aI
    rw [a3]
    have t : (nI j).toNatClampNeg = j := nI_clamp (by omega)
    rw [t, if_pos ⟨rfl, fun z => z.elim (fun z => absurd z (nI_nlt (b := 0) (Nat.zero_le _) (by omega))) (fun z => absurd z (Nat.not_le.mpr q))⟩, a4]
    rfl
  · rw [if_neg (show ¬ nI j < nI N from nI_nlt (by omega) (by omega)), if_neg q]
def topS (hg : Nat) (st : Nat → Int64) : Int64 := if 0 < hg then st (hg - 1) else 0
theorem w_head (h : Wk y r N M e st) {to hg a c : Nat} {op : Int32} (ha : a < to) (ht : to ≤ N) (hh : hg ≤ 64) (hc : M a = nI c) (ho : a + 1 < N → M (a + 1) = op) (ho2 : ¬ a + 1 < N → op = 0) (n : Nat) :
    F_X0_work_11 (n + 1) 47 r (nI to) (nI hg) (nI a) y = F_X0_work_67 (F_X0_work_11 n) 47 r (nI to) (nI hg) (nI a) (nI c) op (topS hg st) y := by
  obtain ⟨L, hK, hE, hS, hb⟩ := h
  have h : Wk y r N M e st := ⟨L, hK, hE, hS, hb⟩
  have hN := hK.2.2.2.2
  rw [F_X0_work_11]
  dsimp only
  have rc : ∀ {τ : Type} (G : Option τ), pg_rcv 9 y r G = G := fun G => by
    unfold pg_rcv
    rw [if_pos hK.1]
  have e1 : (if a + 1 < N then M (a + 1) else 0) = op := by
    by_cases q : a + 1 < N
    · rw [if_pos q]; exact ho q
    · rw [if_neg q]; exact (ho2 q).symm
  rw [if_pos (show nI a < nI to from nI_lt ha (by omega)), ng_47 L.kd, hb, Option.bind_some, if_pos rfl, rc, h.code a (by omega), if_pos (show a < N by omega), Option.bind_some, nI_1, rc, h.code (a + 1) (by omega), e1, Option.bind_some, hc]
  unfold topS
  by_cases q : 0 < hg
  · obtain ⟨g, rfl⟩ : ∃ g, hg = g + 1 := ⟨hg - 1, by omega⟩
    rw [if_pos (show (0 : Int32) < nI (g + 1) from nI_lt (a := 0) q (by omega)), if_neg (show ¬ (64 : Int32) < nI (g + 1) from nI_nlt (a := 64) (by omega) (by decide)), nR_47_1 L.kd L.rd, Option.bind_some, nI_down, na_49 L.kd (by omega), Option.bind_some, if_pos q, hS]
    rfl
  · rw [if_neg (show ¬ (0 : Int32) < nI hg from nI_nlt (a := 0) (by omega) (by decide)), if_neg q]
    rfl
/-- a broken run ends at once -/
theorem w_stop {to hg a : Nat} (L : Lay y) (hb : pg_i y 47 2 = 1) (h1 : 0 < hg) (h2 : hg ≤ 64) (n : Nat) : F_X0_work_11 (n + 1) 47 r (nI to) (nI hg) (nI a) y = some (pg_l y 49 (hg - 1), y) := by
  rw [F_X0_work_11]
  dsimp only
  obtain ⟨g, rfl⟩ : ∃ g, hg = g + 1 := ⟨hg - 1, by omega⟩
  have z : F_X0_work_279 47 (nI (g + 1)) y = some (pg_l y 49 (g + 1 - 1), y) := by
    unfold F_X0_work_279
    rw [if_pos (show (0 : Int32) < nI (g + 1) from nI_lt (a := 0) h1 (by omega)), nR_47_1 L.kd L.rd, Option.bind_some, nI_down, na_49 L.kd (by omega), Option.bind_some]
    rfl
  rw [ng_47 L.kd, hb, Option.bind_some, if_neg (show ¬ (1 : Int32) = 0 by decide), z, ite_self]
/-- the end -/
theorem w_end {to hg : Nat} (L : Lay y) (h1 : 0 < hg) (h2 : hg ≤ 64) (n : Nat) : F_X0_work_11 (n + 1) 47 r (nI to) (nI hg) (nI to) y = some (pg_l y 49 (hg - 1), y) := by
  rw [F_X0_work_11]
  dsimp only
  obtain ⟨g, rfl⟩ : ∃ g, hg = g + 1 := ⟨hg - 1, by omega⟩
  rw [if_neg (show ¬ nI to < nI to from Int32.lt_irrefl)]
  unfold F_X0_work_279
  rw [if_pos (show (0 : Int32) < nI (g + 1) from nI_lt (a := 0) h1 (by omega)), nR_47_1 L.kd L.rd, Option.bind_some, nI_down, na_49 L.kd (by omega), Option.bind_some]
  rfl
theorem slS {k : Nat} {x : Int64} (h : Wk y r N M e st) : Wk (pg_sl y 49 k x) r N M e (up1 st k x) ∧ Ch [49] [(47, 2)] y (pg_sl y 49 k x) := by
  have c : Ch [49] [(47, 2)] y (pg_sl y 49 k x) := (Ch.refl _ _ _).asl (Or.inl (by decide))
  refine ⟨h.ch c ?_ ?_, c⟩
  · funext j
    have z : pg_l (pg_sl y 49 k x) 49 j = pg_up2 (pg_l y) 49 k x 49 j := rfl
    rw [z, ← h.2.2.2.1]
    unfold pg_up2 up1
    rw [if_pos rfl]
  · exact h.2.2.2.2
/-- a number or a word -/
theorem e_push (a c v : Nat) (val : (Nat → Int32) → Int64) (hv : (c = 0 ∧ ∀ e, val e = (nI v).toInt64) ∨ (c = 1 ∧ v < 9 ∧ ∀ e, val e = (e v).toInt64)) : EvC encI 1 a [c, v] (fun e => some (val e)) := fun r N M e to y st hg hA h1 h2 h hh => by
  refine ⟨fun u hu => ?_, fun hu => (by cases hu)⟩
  cases hu
  obtain ⟨m1, m2⟩ := at_two.mp hA
  have hl : a + [c, v].length = a + 2 := rfl
  rw [hl] at h1 ⊢
  have hS := slS (k := hg) (x := val e) h
  have hN := h.2.1.2.2.2.2
  refine ⟨1, pg_sl y 49 hg (val e), _, by simp, fun f => ?_, hS.1, by rw [up1_eq]; rfl, fun q hq => up1_ne (by omega), hS.2⟩
  have L := h.1
  rw [w_head h (by omega) h2 (by omega) m1 (fun _ => m2) (fun z => absurd h1 (by omega))]
  unfold F_X0_work_67 F_X0_work_82 F_X0_work_96 F_X0_work_127 F_X0_work_276
  have e2 : nI a + (2 : Int32) = nI (a + 2) := by rw [← nI_add]; rfl
  have c64 : nI hg < (64 : Int32) := nI_lt (b := 64) (by omega) (by decide)
  rcases hv with ⟨rfl, hv⟩ | ⟨rfl, hv, hw⟩
  · rw [if_pos (show nI 0 < (4 : Int32) by decide), e2]
    dsimp only [pg_let]
    rw [if_pos (show nI 0 = (0 : Int32) from rfl), if_pos c64, nR_47_1 L.kd L.rd, Option.bind_some, if_pos (show nI 0 = (0 : Int32) from rfl), ns_49 L.kd (by omega), Option.bind_some, nI_1, hv]
  · rw [if_pos (show nI 1 < (4 : Int32) by decide), e2]
    dsimp only [pg_let]
    have ask : F_X0_askedOf y 47 (nI v) = some (e v) := by
      unfold F_X0_askedOf
      rw [if_neg (show ¬ nI v < (0 : Int32) from nI_nlt (b := 0) (Nat.zero_le _) (by omega)), if_pos (show nI v < (9 : Int32) from nI_lt (b := 9) hv (by decide)), nR_47_0 L.kd L.rd, Option.bind_some, na_48 L.kd hv, h.2.2.1 v hv, Option.bind_some]
    rw [if_neg (show ¬ nI 1 = (0 : Int32) by decide), if_pos (show nI 1 = (1 : Int32) from rfl), if_pos c64, nR_47_1 L.kd L.rd, Option.bind_some, if_neg (show ¬ nI 1 = (0 : Int32) by decide), nc_47 L.kd, ask, Option.bind_some, ns_49 L.kd (by omega), Option.bind_some, nI_1, hw]
/-- one operation on the two topmost -/
def opR (o : Nat) (u w : Int64) : Option Int64 := if o ≤ 7 then opV o u w else some (if o = 8 then encB (decide (u < w)) else if o = 9 then encB (decide (w < u)) else encB (decide (u = w)))
theorem c_comb {o : Nat} (ho : 4 ≤ o ∧ o ≤ 10) (L : Lay y) (u w : Int64) : (∀ x, opR o u w = some x → F_X0_combined 47 (nI o) u w y = some (x, pg_si y 47 2 0)) ∧ (opR o u w = none → ∃ x, F_X0_combined 47 (nI o) u w y = some (x, pg_si y 47 2 1)) := by
  have P0 : pg_pZ 0 2 y 47 (0 : Int32) = some (pg_si y 47 2 0) := N_pZ L.kd (by decide) (by decide) (by decide)
  have P1 : pg_pZ 0 2 y 47 (1 : Int32) = some (pg_si y 47 2 1) := N_pZ L.kd (by decide) (by decide) (by decide)
  have A : ∀ z : Int64, (∀ x, (if (1000000000 : Int64) < z then none else if z < (-1000000000 : Int64) then none else some z) = some x → F_X0_combined_155 47 z y = some (x, pg_si y 47 2 0)) ∧ ((if (1000000000 : Int64) < z then none else if z < (-1000000000 : Int64) then none else some z) = none → ∃ x, F_X0_combined_155 47 z y = some (x, pg_si y 47 2 1)) := fun z => by
    unfold F_X0_combined_155 F_X0_combined_174 F_X0_combined_179
    by_cases q1 : (1000000000 : Int64) < z
    · rw [if_pos q1, if_pos q1, P1, Option.bind_some]
      exact ⟨fun x hx => (by cases hx), fun _ => ⟨_, rfl⟩⟩
    · rw [if_neg q1, if_neg q1]
      by_cases q2 : z < (-1000000000 : Int64)
      · rw [if_pos q2, if_pos q2, P1, Option.bind_some]
        exact ⟨fun x hx => (by cases hx), fun _ => ⟨_, rfl⟩⟩
      · rw [if_neg q2, if_neg q2, P0, Option.bind_some]
        exact ⟨fun x hx => (by cases hx; rfl), fun hx => (by cases hx)⟩
  have B : ∀ b : Bool, F_X0_combined_155 47 (encB b) y = some (encB b, pg_si y 47 2 0) := fun b => (A (encB b)).1 _ (by rw [if_neg (show ¬ (1000000000 : Int64) < encB b by cases b <;> decide), if_neg (show ¬ encB b < (-1000000000 : Int64) by cases b <;> decide)])
  unfold opR opV F_X0_combined F_X0_combined_20 F_X0_combined_102 F_X0_combined_119 F_X0_combined_136 F_X0_combined_153
  dsimp only [pg_let]
  have cs : o = 4 ∨ o = 5 ∨ o = 6 ∨ o = 7 ∨ o = 8 ∨ o = 9 ∨ o = 10 := by omega
  rcases cs with rfl | rfl | rfl | rfl | rfl | rfl | rfl
  · rw [if_pos (show (4 : Nat) ≤ 7 by decide), if_neg (show ¬ ((4 : Nat) = 7 ∧ w = 0) from fun z => absurd z.1 (by decide)), if_neg (show ¬ nI 4 = (7 : Int32) by decide), if_pos (show nI 4 = (4 : Int32) from rfl), if_pos (show (4 : Nat) = 4 from rfl)]
    exact A (u + w)
  · rw [if_pos (show (5 : Nat) ≤ 7 by decide), if_neg (show ¬ ((5 : Nat) = 7 ∧ w = 0) from fun z => absurd z.1 (by decide)), if_neg (show ¬ nI 5 = (7 : Int32) by decide), if_neg (show ¬ nI 5 = (4 : Int32) by decide), if_pos (show nI 5 = (5 : Int32) from rfl), if_neg (show ¬ (5 : Nat) = 4 by decide), if_pos (show (5 : Nat) = 5 from rfl)]
    exact A (u - w)
  · rw [if_pos (show (6 : Nat) ≤ 7 by decide), if_neg (show ¬ ((6 : Nat) = 7 ∧ w = 0) from fun z => absurd z.1 (by decide)), if_neg (show ¬ nI 6 = (7 : Int32) by decide), if_neg (show ¬ nI 6 = (4 : Int32) by decide), if_neg (show ¬ nI 6 = (5 : Int32) by decide), if_pos (show nI 6 = (6 : Int32) from rfl), if_neg (show ¬ (6 : Nat) = 4 by decide), if_neg (show ¬ (6 : Nat) = 5 by decide), if_pos (show (6 : Nat) = 6 from rfl)]
    exact A (u * w)
  · rw [if_pos (show (7 : Nat) ≤ 7 by decide), if_pos (show nI 7 = (7 : Int32) from rfl)]
    by_cases q : w = 0
    · rw [if_pos ⟨rfl, q⟩, if_pos q, P1, Option.bind_some]
      exact ⟨fun x hx => (by cases hx), fun _ => ⟨_, rfl⟩⟩
    · rw [if_neg (fun z => q z.2), if_neg q, if_neg (show ¬ nI 7 = (4 : Int32) by decide), if_neg (show ¬ nI 7 = (5 : Int32) by decide), if_neg (show ¬ nI 7 = (6 : Int32) by decide), if_pos (show nI 7 = (7 : Int32) from rfl), if_neg q, if_neg q, if_neg (show ¬ (7 : Nat) = 4 by decide), if_neg (show ¬ (7 : Nat) = 5 by decide), if_neg (show ¬ (7 : Nat) = 6 by decide)]
      exact A (u / w)
  · refine ⟨fun x hx => ?_, fun hx => absurd hx (by rw [if_neg (show ¬ (8 : Nat) ≤ 7 by decide)]; exact Option.some_ne_none _)⟩
    rw [if_neg (show ¬ (8 : Nat) ≤ 7 by decide), if_pos (show (8 : Nat) = 8 from rfl)] at hx
    cases hx
    rw [if_neg (show ¬ nI 8 = (7 : Int32) by decide), if_neg (show ¬ nI 8 = (4 : Int32) by decide), if_neg (show ¬ nI 8 = (5 : Int32) by decide), if_neg (show ¬ nI 8 = (6 : Int32) by decide), if_neg (show ¬ nI 8 = (7 : Int32) by decide), if_pos (show nI 8 = (8 : Int32) from rfl)]
    by_cases q : u < w
    · rw [if_pos q, decide_eq_true q]; exact B true
    · rw [if_neg q, decide_eq_false q]; exact B false
  · refine ⟨fun x hx => ?_, fun hx => absurd hx (by rw [if_neg (show ¬ (9 : Nat) ≤ 7 by decide)]; exact Option.some_ne_none _)⟩
    rw [if_neg (show ¬ (9 : Nat) ≤ 7 by decide), if_neg (show ¬ (9 : Nat) = 8 by decide), if_pos (show (9 : Nat) = 9 from rfl)] at hx
    cases hx
    rw [if_neg (show ¬ nI 9 = (7 : Int32) by decide), if_neg (show ¬ nI 9 = (4 : Int32) by decide), if_neg (show ¬ nI 9 = (5 : Int32) by decide), if_neg (show ¬ nI 9 = (6 : Int32) by decide), if_neg (show ¬ nI 9 = (7 : Int32) by decide), if_neg (show ¬ nI 9 = (8 : Int32) by decide), if_pos (show nI 9 = (9 : Int32) from rfl)]
    by_cases q : w < u
    · rw [if_pos q, decide_eq_true q]; exact B true
    · rw [if_neg q, decide_eq_false q]; exact B false
  · refine ⟨fun x hx => ?_, fun hx => absurd hx (by rw [if_neg (show ¬ (10 : Nat) ≤ 7 by decide)]; exact Option.some_ne_none _)⟩
    rw [if_neg (show ¬ (10 : Nat) ≤ 7 by decide), if_neg (show ¬ (10 : Nat) = 8 by decide), if_neg (show ¬ (10 : Nat) = 9 by decide)] at hx
    cases hx
    rw [if_neg (show ¬ nI 10 = (7 : Int32) by decide), if_neg (show ¬ nI 10 = (4 : Int32) by decide), if_neg (show ¬ nI 10 = (5 : Int32) by decide), if_neg (show ¬ nI 10 = (6 : Int32) by decide), if_neg (show ¬ nI 10 = (7 : Int32) by decide), if_neg (show ¬ nI 10 = (8 : Int32) by decide), if_neg (show ¬ nI 10 = (9 : Int32) by decide)]
    by_cases q : u = w
    · rw [if_pos q, decide_eq_true q]; exact B true
    · rw [if_neg q, decide_eq_false q]; exact B false
end EVC
