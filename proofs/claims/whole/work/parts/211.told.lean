/-! TEXTS: what the class is told by a text -/
def stepX (hd : Nat) (o : Option Nat) (c : ClV) : Option Nat := if c.1 = hd + 1 ∧ c.2.2 = some true then c.2.1.elim o (fun u => some (clampL u)) else o
def foldX (hd : Nat) (ls : List ClV) : Option Nat := ls.foldl (stepX hd) none
theorem foldX_app (hd : Nat) (ls : List ClV) (c : ClV) : foldX hd (ls ++ [c]) = stepX hd (foldX hd ls) c := by
  unfold foldX
  rw [List.foldl_append]
  rfl
def cut9 (e : Nat → Int32) : Nat → Int32 := fun j => if j < 9 then e j else 0
def textX (p : Rs (List ClV)) : tX := fun hd e => foldX hd ((p.2.2.2.2 (cut9 e)).getD [])
/-- codes are never none -/
def PNe {α : Type} (P : Ps α) : Prop := ∀ i l a, (P i l a).1 ≠ 0 → 1 ≤ (P i l a).2.2.2.1.length
theorem n_jmp {K : Tk} {c o : Nat} {P : Ps Bool} (hP : PNe P) : PNe (jmpP K c o P) := fun i l a hz => by
  have Z : ∀ f i l cs v, 1 ≤ cs.length → (jmpL K c o P a f i l cs v).1 ≠ 0 → 1 ≤ (jmpL K c o P a f i l cs v).2.2.2.1.length := fun f => by
    induction f with
    | zero => exact fun i l cs v h _ => h
    | succ f ih =>
      intro i l cs v h hz
      unfold jmpL at hz ⊢
      by_cases q : trc K i = c
      · rw [if_pos q] at hz ⊢
        by_cases e : (P (i + 1) l (a + cs.length + 2)).1 = 0
        · rw [thn_0 e] at hz
          exact absurd rfl hz
        · rw [thn_1 e] at hz ⊢
          exact ih _ _ _ _ (by rw [List.length_append]; omega) hz
      · rw [if_neg q]
        exact h
  unfold jmpP at hz ⊢
  by_cases e : (P i l a).1 = 0
  · rw [thn_0 e] at hz
    exact absurd rfl hz
  · rw [thn_1 e] at hz ⊢
    exact Z 401 _ _ _ _ (hP i l a e) hz
theorem n_plain {K : Tk} {br : Bool} {T : Ps Bool} {S : Ps Int64} (hT : br = true → PNe T) : PNe (plainP K br T S) := fun i l a h => by
  unfold plainP at h ⊢
  by_cases e : (posP K br T S (nots K 401 i false).1 l a).1 = 0
  · rw [thn_0 e] at h
    exact absurd rfl h
  · rw [thn_1 e] at h ⊢
    have z : 1 ≤ (posP K br T S (nots K 401 i false).1 l a).2.2.2.1.length := by
      unfold posP at e ⊢
      by_cases c1 : trc K (nots K 401 i false).1 = 140
      · rw [if_pos c1] at e ⊢
        by_cases c2 : br = true
        · rw [if_pos c2] at e ⊢
          obtain ⟨h1, h2⟩ := p_close e
          rw [h2]
          exact hT c2 _ _ _ h1
        · rw [if_neg c2] at e
          exact absurd rfl e
      · rw [if_neg c1] at e ⊢
        unfold cmpP at e ⊢
        by_cases e1 : (S (nots K 401 i false).1 l a).1 = 0
        · rw [thn_0 e1] at e
          exact absurd rfl e
        rw [thn_1 e1] at e ⊢
        by_cases q : trc K (S (nots K 401 i false).1 l a).2.1 = 160 ∨ trc K (S (nots K 401 i false).1 l a).2.1 = 162 ∨ trc K (S (nots K 401 i false).1 l a).2.1 = 161
        · rw [if_pos q] at e ⊢
          by_cases e2 : (S ((S (nots K 401 i false).1 l a).2.1 + 1) (S (nots K 401 i false).1 l a).2.2.1 (a + (S (nots K 401 i false).1 l a).2.2.2.1.length)).1 = 0
          · rw [thn_0 e2] at e
            exact absurd rfl e
          · rw [thn_1 e2]
            simp only [List.length_append, List.length_cons, List.length_nil]
            omega
        · rw [if_neg q] at e
          exact absurd rfl e
    by_cases t : (nots K 401 i false).2 = true
    · rw [if_pos t]
      rw [List.length_append]
      omega
    · rw [if_neg t]
      exact z
theorem n_test {K : Tk} (k : Nat) : PNe (testP K k) := by
  induction k with
  | zero => exact n_jmp (n_jmp (n_plain (fun z => absurd z (by decide))))
  | succ k ih => exact n_jmp (n_jmp (n_plain (fun _ => ih)))
/-- the heap between two runs -/
def Wq (y : pg_H) (r N : Nat) (M e : Nat → Int32) : Prop := Lay y ∧ ((pg_k y r).1 = 10 ∧ 110 ≤ pg_r y r 0 ∧ pg_k y (pg_r y r 0) = (21, N) ∧ pg_i y (pg_r y r 0) = M ∧ N < 400) ∧ ∀ j, j < 9 → pg_i y 48 j = e j
section TOLD
variable {y : pg_H} {r N : Nat} {M e : Nat → Int32}
theorem Wq.ch {y' : pg_H} (h : Wq y r N M e) (c : Ch [49] [(47, 2)] y y') : Wq y' r N M e := by
  obtain ⟨L, ⟨a1, a2, a3, a4, a5⟩, b⟩ := h
  refine ⟨c.lay L (by decide), ⟨by rw [c.kk]; exact a1, by rw [c.rr]; exact a2, by rw [c.rr, c.kk]; exact a3, ?_, a5⟩, fun j hj => ?_⟩
  · rw [c.rr, c.high (by decide) a2]
    exact a4
  · rw [c.row (r := 48) (by decide)]
    exact b j hj
theorem Wq.code (h : Wq y r N M e) (j : Nat) (hj : j < 1000) : F_X9_codeAt y r (nI j) = some (if j < N then M j else 0) := by
  obtain ⟨L, ⟨a1, a2, a3, a4, a5⟩, _⟩ := h
  unfold F_X9_codeAt
  have g : pg_gR 9 0 y r = some (pg_r y r 0) := by
    unfold pg_gR
    rw [if_pos a1]
  have ln : pg_len y (pg_r y r 0) = some (nI N) := by
    unfold pg_len
    rw [a3, if_pos ⟨show 20 ≤ 21 by decide, show 21 < 26 by decide⟩]
    rfl
  rw [if_neg (show ¬ nI j < (0 : Int32) from nI_nlt (b := 0) (Nat.zero_le _) (by omega)), g, Option.bind_some, ln, Option.bind_some, Option.bind_some]
  by_cases q : j < N
  · rw [if_pos (show nI j < nI N from nI_lt q (by omega)), if_pos q]
    unfold pg_aI
    rw [a3]
    have t : (nI j).toNatClampNeg = j := nI_clamp (by omega)
    rw [t, if_pos ⟨rfl, fun z => z.elim (fun z => absurd z (nI_nlt (b := 0) (Nat.zero_le _) (by omega))) (fun z => absurd z (Nat.not_le.mpr q))⟩, a4]
    rfl
  · rw [if_neg (show ¬ nI j < nI N from nI_nlt (by omega) (by omega)), if_neg q]
theorem Wq.rc (h : Wq y r N M e) {τ : Type} (G : Option τ) : pg_rcv 9 y r G = G := by
  unfold pg_rcv
  rw [if_pos h.2.1.1]
/-- one run -/
theorem c_work {α : Type} {enc : α → Int64} {nd a : Nat} {cs : List Nat} {v : (Nat → Int32) → Option α} (E : EvC enc nd a cs v) (hn : nd ≤ 64) (h : Wq y r N M e) (hA : At M a cs) (hN : a + cs.length ≤ N) :
    (∀ u, v e = some u → ∃ y', F_X0_work 47 r (nI a) (nI (a + cs.length)) y = some (enc u, y') ∧ Wq y' r N M e ∧ pg_i y' 47 2 = 0 ∧ Ch [49] [(47, 2)] y y') ∧
    (v e = none → ∃ y' w, F_X0_work 47 r (nI a) (nI (a + cs.length)) y = some (w, y') ∧ Wq y' r N M e ∧ pg_i y' 47 2 = 1 ∧ Ch [49] [(47, 2)] y y') := by
  have c : Ch [49] [(47, 2)] y (pg_si y 47 2 0) := (Ch.refl _ _ _).asi (Or.inr (by decide))
  have w : Wk (pg_si y 47 2 0) r N M e (pg_l y 49) := ⟨(h.ch c).1, (h.ch c).2.1, (h.ch c).2.2, rfl, by rw [si_row, up1_eq]⟩
  have Z := E r N M e (a + cs.length) _ _ 0 hA (Nat.le_refl _) hN w (by omega)
  have N4 := h.2.1.2.2.2.2
  unfold F_X0_work
  rw [N_pZ h.1.kd (by decide) (by decide) (by decide), Option.bind_some]
  refine ⟨fun u hu => ?_, fun hu => ?_⟩
  · obtain ⟨k, y', st', hk, B, W, s, _, C⟩ := Z.1 u hu
    refine ⟨y', ?_, (h.ch c).ch C, W.2.2.2.2, c.trans C⟩
    have z := B (pg_fuel - k)
    have z2 := w_end (r := r) (to := a + cs.length) (hg := 1) W.1 (by omega) (by omega) (pg_fuel - k - 1)
    have fu : 1000 ≤ pg_fuel := by unfold pg_fuel; omega
    rw [show pg_fuel - k + k = pg_fuel by omega] at z
    rw [show pg_fuel - k - 1 + 1 = pg_fuel - k by omega] at z2
    refine Eq.trans z (Eq.trans z2 ?_)
    rw [show 1 - 1 = 0 from rfl, W.2.2.2.1, s]
  · obtain ⟨k, y', x, hk, B, b, C⟩ := Z.2 hu
    refine ⟨y', x, ?_, (h.ch c).ch C, b, c.trans C⟩
    have z := B (pg_fuel - k - 1)
    have fu : 1000 ≤ pg_fuel := by unfold pg_fuel; omega
    rw [show pg_fuel - k - 1 + 1 + k = pg_fuel by omega] at z
    exact z
/-- a clause's codes at a -/
def ClC (a : Nat) (cs : List Nat) (v : (Nat → Int32) → Option ClV) : Prop := ∃ hd c1 c2 vs ws, 1 ≤ hd ∧ hd ≤ 7 ∧ cs = [hd - 1, a + 3 + c1.length, a + 3 + c1.length + c2.length] ++ c1 ++ c2 ∧ (hd ≤ 5 → EvC encI 19 (a + 3) c1 vs) ∧ (5 < hd → vs = fun _ => some 0) ∧
  ((c2 = [] ∧ ws = fun _ => some true) ∨ (1 ≤ c2.length ∧ EvC encB 20 (a + 3 + c1.length) c2 ws)) ∧ v = fun e => some (hd, vs e, ws e)
theorem clc_of {K : Tk} {i l a : Nat} (hz : (clauseP K i l a).1 ≠ 0) : ClC a (clauseP K i l a).2.2.2.1 (clauseP K i l a).2.2.2.2 := by
  unfold clauseP at hz ⊢
  by_cases q : 1 ≤ trc K i ∧ trc K i ≤ 7
  · rw [if_pos q] at hz ⊢
    by_cases e : (headPart K i l (a + 3)).1 = 0
    · rw [thn_0 e] at hz
      exact absurd rfl hz
    rw [thn_1 e] at hz ⊢
    by_cases e2 : (testPart K (headPart K i l (a + 3)).2.1 (headPart K i l (a + 3)).2.2.1 (a + 3 + (headPart K i l (a + 3)).2.2.2.1.length)).1 = 0
    · rw [thn_0 e2] at hz
      exact absurd rfl hz
    rw [thn_1 e2]
    refine ⟨trc K i, _, _, _, _, q.1, q.2, rfl, fun h5 => ?_, fun h5 => ?_, ?_, rfl⟩
    · unfold headPart at e ⊢
      rw [if_pos h5] at e ⊢
      exact p_sum 8 _ _ _ e
    · unfold headPart
      rw [if_neg (by omega)]
    · unfold testPart at e2 ⊢
      by_cases t : trc K (headPart K i l (a + 3)).2.1 = 8
      · rw [if_pos t] at e2 ⊢
        exact Or.inr ⟨n_test 8 _ _ _ e2, p_test 8 _ _ _ e2⟩
      · rw [if_neg t]
        exact Or.inl ⟨rfl, rfl⟩
  · rw [if_neg q] at hz
    exact absurd rfl hz
theorem c_passes {a : Nat} {c2 : List Nat} {ws : (Nat → Int32) → Option Bool} (h : Wq y r N M e) (H : (c2 = [] ∧ ws = fun _ => some true) ∨ (1 ≤ c2.length ∧ EvC encB 20 a c2 ws)) (hA : At M a c2) (hN : a + c2.length ≤ N) :
    ∃ y', F_X0_passes 47 r (nI a) (nI (a + c2.length)) y = some (if ws e = some true then 1 else 0, y') ∧ Wq y' r N M e ∧ Ch [49] [(47, 2)] y y' := by
  have N4 := h.2.1.2.2.2.2
  unfold F_X0_passes
  rcases H with ⟨rfl, rfl⟩ | ⟨h1, E⟩
  · rw [if_neg (show ¬ nI a < nI (a + ([] : List Nat).length) from Int32.lt_irrefl), if_pos rfl]
    exact ⟨y, rfl, h, Ch.refl _ _ _⟩
  · rw [if_pos (show nI a < nI (a + c2.length) from nI_lt (by omega) (by omega)), nc_47 h.1.kd]
    have Z := c_work E (by omega) h hA hN
    cases hv : ws e with
    | none =>
      obtain ⟨y', w, e1, W, b, C⟩ := Z.2 hv
      rw [e1, Option.bind_some, if_neg (show ¬ (none : Option Bool) = some true by decide)]
      refine ⟨y', ?_, W, C⟩
      dsimp only
      rw [ng_47 W.1.kd, b, Option.bind_some, if_neg (show ¬ (1 : Int32) = 0 by decide), ite_self]
    | some u =>
      obtain ⟨y', e1, W, b, C⟩ := Z.1 u hv
      rw [e1, Option.bind_some]
      dsimp only
      rw [ng_47 W.1.kd, b, Option.bind_some, if_pos rfl]
      refine ⟨y', ?_, W, C⟩
      cases u with
      | true => rw [if_pos (show encB true = 1 from rfl), if_pos rfl]
      | false => rw [if_neg (show ¬ encB false = 1 by decide), if_neg (by decide)]
theorem clampC (v : Int64) : (if (if v < (100 : Int64) then v else (100 : Int64)) < (0 : Int64) then (0 : Int64) else (if v < (100 : Int64) then v else (100 : Int64))).toInt32 = nI (clampL v) := by
  have t0 : (0 : Int64).toInt = 0 := by decide
  have t1 : (100 : Int64).toInt = 100 := by decide
  by_cases c1 : v < (100 : Int64)
  · rw [if_pos c1]
    have d1 := c1
    rw [Int64.lt_iff_toInt_lt, t1] at d1
    by_cases c0 : v < (0 : Int64)
    · rw [if_pos c0]
      rw [Int64.lt_iff_toInt_lt, t0] at c0
      unfold clampL
      rw [show v.toInt.toNat = 0 by omega]
      rfl
    · rw [if_neg c0, ← clamp_if, if_neg c0, if_neg]
      rw [Int64.lt_iff_toInt_lt, t1]
      omega
  · rw [if_neg c1, if_neg (show ¬ (100 : Int64) < 0 by decide)]
    rw [Int64.lt_iff_toInt_lt, t1] at c1
    unfold clampL
    rw [show min 100 v.toInt.toNat = 100 by omega]
    rfl
/-- a clause for told -/
theorem c_clauseT {a : Nat} {cs : List Nat} {v : (Nat → Int32) → Option ClV} (h : Wq y r N M e) (hC : ClC a cs v) (hA : At M a cs) (hN : a + cs.length ≤ N) (hd : Nat) (hh : hd < 5) (w : Int32) (o : Option Nat) :
    ∃ c y', v e = some c ∧ (∀ n, F_X0_told_20 (n + 1) 47 r (nI hd) (o.elim w nI) (nI N) (nI a) y = F_X0_told_20 n 47 r (nI hd) ((stepX hd o c).elim w nI) (nI N) (nI (a + cs.length)) y') ∧ Wq y' r N M e ∧ Ch [49] [(47, 2)] y y' := by
  have N4 := h.2.1.2.2.2.2
  obtain ⟨hc, c1, c2, vs, ws, q1, q7, rfl, H1, H2, H3, rfl⟩ := hC
  have ln : ([hc - 1, a + 3 + c1.length, a + 3 + c1.length + c2.length] ++ c1 ++ c2).length = 3 + c1.length + c2.length := by
    simp only [List.length_append, List.length_cons, List.length_nil]
  rw [ln] at hN ⊢
  obtain ⟨hA1, hA3⟩ := at_app.mp hA
  obtain ⟨hA1, hA2⟩ := at_app.mp hA1
  have l3 : ([hc - 1, a + 3 + c1.length, a + 3 + c1.length + c2.length] : List Nat).length = 3 := rfl
  have l4 : ([hc - 1, a + 3 + c1.length, a + 3 + c1.length + c2.length] ++ c1 : List Nat).length = 3 + c1.length := by
    simp only [List.length_append, List.length_cons, List.length_nil]
  rw [l3] at hA2
  rw [l4, ← Nat.add_assoc] at hA3
  have m0 : M a = nI (hc - 1) := hA1 0 (by simp)
  have m1 : M (a + 1) = nI (a + 3 + c1.length) := hA1 1 (by simp)
  have m2 : M (a + 2) = nI (a + 3 + c1.length + c2.length) := hA1 2 (by simp)
  refine ⟨(hc, vs e, ws e), ?_⟩
  have R : ∀ n, F_X0_told_20 (n + 1) 47 r (nI hd) (o.elim w nI) (nI N) (nI a) y = (if hc = hd + 1 then Option.bind (F_X0_passes 47 r (nI (a + 3 + c1.length)) (nI (a + 3 + c1.length + c2.length)) y) fun v4 => (if v4.1 = 0 then (F_X0_told_20 n 47 r (nI hd) (o.elim w nI) (nI N) (nI (a + (3 + c1.length + c2.length))) v4.2) else Option.bind (pg_rcv 0 v4.2 47 (F_X0_work 47 r (nI (a + 3)) (nI (a + 3 + c1.length)) v4.2)) fun v5 => Option.bind (pg_gI 0 2 v5.2 47) fun v6 => (if v6 = 0 then (F_X0_told_20 n 47 r (nI hd) (nI (clampL v5.1)) (nI N) (nI (a + (3 + c1.length + c2.length))) v5.2) else (F_X0_told_20 n 47 r (nI hd) (o.elim w nI) (nI N) (nI (a + (3 + c1.length + c2.length))) v5.2))) else F_X0_told_20 n 47 r (nI hd) (o.elim w nI) (nI N) (nI (a + (3 + c1.length + c2.length))) y) := fun n => by
    rw [F_X0_told_20]
    dsimp only
    unfold F_X0_told_107 F_X0_told_109
    have e2 : nI a + (2 : Int32) = nI (a + 2) := by rw [← nI_add]; rfl
    have e3 : nI a + (3 : Int32) = nI (a + 3) := by rw [← nI_add]; rfl
    rw [if_pos (show nI a < nI N from nI_lt (by omega) (by omega)), nI_1, h.rc, h.code (a + 1) (by omega), if_pos (show a + 1 < N by omega), Option.bind_some, e2, h.rc, h.code (a + 2) (by omega), if_pos (show a + 2 < N by omega), Option.bind_some, h.rc, h.code a (by omega), if_pos (show a < N by omega), Option.bind_some, m0, m1, m2, e3]
    have mx : (if nI (a + 3) < nI (a + 3 + c1.length + c2.length) then nI (a + 3 + c1.length + c2.length) else nI (a + 3)) = nI (a + (3 + c1.length + c2.length)) := by
      by_cases q : a + 3 = a + 3 + c1.length + c2.length
      · rw [← q, ite_self, show a + 3 = a + (3 + c1.length + c2.length) by omega]
      · rw [if_pos (nI_lt (by omega) (by omega)), show a + 3 + c1.length + c2.length = a + (3 + c1.length + c2.length) by omega]
    dsimp only [pg_let]
    simp only [mx, clampC]
    by_cases q : hc = hd + 1
    · rw [if_pos (show nI (hc - 1) = nI hd by rw [q]; rfl), if_pos q, nc_47 h.1.kd]
    · rw [if_neg (fun z => q (by have := (nI_eq (by omega) (by omega)).mp z; omega)), if_neg q]
  by_cases q : hc = hd + 1
  · have E1 := H1 (by omega)
    obtain ⟨y1, p1, W1, C1⟩ := c_passes h H3 hA3 (by omega)
    have Z := c_work E1 (by omega) W1 hA2 (by omega)
    by_cases t : ws e = some true
    · rw [if_pos t] at p1
      cases hv : vs e with
      | none =>
        obtain ⟨y2, x, e2, W2, b2, C2⟩ := Z.2 hv
        refine ⟨y2, by show some (hc, vs e, ws e) = _; rw [hv], fun n => ?_, W2, C1.trans C2⟩
        rw [R n, if_pos q, p1, Option.bind_some, if_neg (show ¬ (1 : Int32) = 0 by decide), nc_47 W1.1.kd, e2, Option.bind_some, ng_47 W2.1.kd, b2, Option.bind_some, if_neg (show ¬ (1 : Int32) = 0 by decide)]
        unfold stepX
        rw [if_pos ⟨q, t⟩]
        rfl
      | some u =>
        obtain ⟨y2, e2, W2, b2, C2⟩ := Z.1 u hv
        refine ⟨y2, by show some (hc, vs e, ws e) = _; rw [hv], fun n => ?_, W2, C1.trans C2⟩
        rw [R n, if_pos q, p1, Option.bind_some, if_neg (show ¬ (1 : Int32) = 0 by decide), nc_47 W1.1.kd, e2, Option.bind_some, ng_47 W2.1.kd, b2, Option.bind_some, if_pos rfl]
        unfold stepX
        rw [if_pos ⟨q, t⟩]
        rfl
    · rw [if_neg t] at p1
      refine ⟨y1, rfl, fun n => ?_, W1, C1⟩
      rw [R n, if_pos q, p1, Option.bind_some, if_pos rfl]
      unfold stepX
      rw [if_neg (fun z => t z.2)]
  · refine ⟨y, rfl, fun n => ?_, h, Ch.refl _ _ _⟩
    rw [R n, if_neg q]
    unfold stepX
    rw [if_neg (fun z => q z.1)]
/-- a clause for holdsIn -/
theorem c_clauseH {a : Nat} {cs : List Nat} {v : (Nat → Int32) → Option ClV} (h : Wq y r N M e) (hC : ClC a cs v) (hA : At M a cs) (hN : a + cs.length ≤ N) (hd : Nat) (hh : hd = 5 ∨ hd = 6) :
    ∃ c y', v e = some c ∧ Wq y' r N M e ∧ Ch [49] [(47, 2)] y y' ∧ ((stepX hd none c = none ∧ ∀ n, F_X0_holdsIn_16 (n + 1) 47 r (nI hd) (nI N) (nI a) y = F_X0_holdsIn_16 n 47 r (nI hd) (nI N) (nI (a + cs.length)) y') ∨
      ((∀ o, stepX hd o c ≠ none) ∧ ∀ n, F_X0_holdsIn_16 (n + 1) 47 r (nI hd) (nI N) (nI a) y = some (1, y'))) := by
  have N4 := h.2.1.2.2.2.2
  obtain ⟨hc, c1, c2, vs, ws, q1, q7, rfl, H1, H2, H3, rfl⟩ := hC
  have ln : ([hc - 1, a + 3 + c1.length, a + 3 + c1.length + c2.length] ++ c1 ++ c2).length = 3 + c1.length + c2.length := by
    simp only [List.length_append, List.length_cons, List.length_nil]
  rw [ln] at hN ⊢
  obtain ⟨hA1, hA3⟩ := at_app.mp hA
  obtain ⟨hA1, hA2⟩ := at_app.mp hA1
  have l4 : ([hc - 1, a + 3 + c1.length, a + 3 + c1.length + c2.length] ++ c1 : List Nat).length = 3 + c1.length := by
    simp only [List.length_append, List.length_cons, List.length_nil]
  rw [l4, ← Nat.add_assoc] at hA3
  have m0 : M a = nI (hc - 1) := hA1 0 (by simp)
  have m1 : M (a + 1) = nI (a + 3 + c1.length) := hA1 1 (by simp)
  have m2 : M (a + 2) = nI (a + 3 + c1.length + c2.length) := hA1 2 (by simp)
  refine ⟨(hc, vs e, ws e), ?_⟩
  have R : ∀ n, F_X0_holdsIn_16 (n + 1) 47 r (nI hd) (nI N) (nI a) y = (if hc = hd + 1 then Option.bind (F_X0_passes 47 r (nI (a + 3 + c1.length)) (nI (a + 3 + c1.length + c2.length)) y) fun v4 => (if v4.1 = 0 then (F_X0_holdsIn_16 n 47 r (nI hd) (nI N) (nI (a + (3 + c1.length + c2.length))) v4.2) else some ((1 : Int32), v4.2)) else F_X0_holdsIn_16 n 47 r (nI hd) (nI N) (nI (a + (3 + c1.length + c2.length))) y) := fun n => by
    rw [F_X0_holdsIn_16]
    dsimp only
    unfold F_X0_holdsIn_62
    have e2 : nI a + (2 : Int32) = nI (a + 2) := by rw [← nI_add]; rfl
    have e3 : nI a + (3 : Int32) = nI (a + 3) := by rw [← nI_add]; rfl
    rw [if_pos (show nI a < nI N from nI_lt (by omega) (by omega)), e2, h.rc, h.code (a + 2) (by omega), if_pos (show a + 2 < N by omega), Option.bind_some, h.rc, h.code a (by omega), if_pos (show a < N by omega), Option.bind_some, nI_1, h.rc, h.code (a + 1) (by omega), if_pos (show a + 1 < N by omega), Option.bind_some, m0, m1, m2, e3]
    have mx : (if nI (a + 3) < nI (a + 3 + c1.length + c2.length) then nI (a + 3 + c1.length + c2.length) else nI (a + 3)) = nI (a + (3 + c1.length + c2.length)) := by
      by_cases q : a + 3 = a + 3 + c1.length + c2.length
      · rw [← q, ite_self, show a + 3 = a + (3 + c1.length + c2.length) by omega]
      · rw [if_pos (nI_lt (by omega) (by omega)), show a + 3 + c1.length + c2.length = a + (3 + c1.length + c2.length) by omega]
    dsimp only [pg_let]
    simp only [mx]
    by_cases q : hc = hd + 1
    · rw [if_pos (show nI (hc - 1) = nI hd by rw [q]; rfl), if_pos q, nc_47 h.1.kd]
    · rw [if_neg (fun z => q (by have := (nI_eq (by omega) (by omega)).mp z; omega)), if_neg q]
  by_cases q : hc = hd + 1
  · obtain ⟨y1, p1, W1, C1⟩ := c_passes h H3 hA3 (by omega)
    by_cases t : ws e = some true
    · rw [if_pos t] at p1
      refine ⟨y1, rfl, W1, C1, Or.inr ⟨fun o => ?_, fun n => ?_⟩⟩
      · unfold stepX
        rw [if_pos ⟨q, t⟩, H2 (by omega)]
        exact Option.some_ne_none _
      · rw [R n, if_pos q, p1, Option.bind_some, if_neg (show ¬ (1 : Int32) = 0 by decide)]
    · rw [if_neg t] at p1
      refine ⟨y1, rfl, W1, C1, Or.inl ⟨?_, fun n => ?_⟩⟩
      · unfold stepX
        rw [if_neg (fun z => t z.2)]
      · rw [R n, if_pos q, p1, Option.bind_some, if_pos rfl]
  · refine ⟨y, rfl, h, Ch.refl _ _ _, Or.inl ⟨?_, fun n => ?_⟩⟩
    · unfold stepX
      rw [if_neg (fun z => q z.1)]
    · rw [R n, if_neg q]
/-- all clauses of a text, for told -/
def ToC (hd : Nat) (cs : List Nat) (v : (Nat → Int32) → Option (List ClV)) : Prop := ∀ (y : pg_H) (r N : Nat) (M e : Nat → Int32) (w : Int32), Wq y r N M e → At M 0 cs → cs.length ≤ N →
  ∃ ls k y', v e = some ls ∧ k ≤ cs.length ∧ Wq y' r N M e ∧ Ch [49] [(47, 2)] y y' ∧ ∀ n, F_X0_told_20 (n + k) 47 r (nI hd) w (nI N) (nI 0) y = F_X0_told_20 n 47 r (nI hd) ((foldX hd ls).elim w nI) (nI N) (nI cs.length) y'
def HoC (hd : Nat) (cs : List Nat) (v : (Nat → Int32) → Option (List ClV)) : Prop := ∀ (y : pg_H) (r N : Nat) (M e : Nat → Int32), Wq y r N M e → At M 0 cs → cs.length ≤ N →
  ∃ ls k y', v e = some ls ∧ k ≤ cs.length ∧ Wq y' r N M e ∧ Ch [49] [(47, 2)] y y' ∧ ((foldX hd ls = none ∧ ∀ n, F_X0_holdsIn_16 (n + k) 47 r (nI hd) (nI N) (nI 0) y = F_X0_holdsIn_16 n 47 r (nI hd) (nI N) (nI cs.length) y') ∨
    (foldX hd ls ≠ none ∧ ∀ n, F_X0_holdsIn_16 (n + 1 + k) 47 r (nI hd) (nI N) (nI 0) y = some (1, y')))
theorem clc_len {a : Nat} {cs : List Nat} {v : (Nat → Int32) → Option ClV} (h : ClC a cs v) : 1 ≤ cs.length := by
  obtain ⟨hc, c1, c2, vs, ws, _, _, rfl, _⟩ := h
  simp only [List.length_append, List.length_cons, List.length_nil]
  omega
theorem ToC.add {hd : Nat} (hh : hd < 5) {cs ds : List Nat} {v : (Nat → Int32) → Option (List ClV)} {w : (Nat → Int32) → Option ClV} (h1 : ToC hd cs v) (h2 : ClC cs.length ds w) : ToC hd (cs ++ ds) (addV v w) := fun y r N M e x h hA hN => by
  rw [List.length_append] at hN ⊢
  obtain ⟨a1, a2⟩ := at_app.mp hA
  rw [Nat.zero_add] at a2
  obtain ⟨ls, k, y1, e1, hk, W1, C1, F1⟩ := h1 y r N M e x h a1 (by omega)
  obtain ⟨c, y2, e2, F2, W2, C2⟩ := c_clauseT W1 h2 a2 (by omega) hd hh x (foldX hd ls)
  have ld := clc_len h2
  refine ⟨ls ++ [c], k + 1, y2, ?_, by omega, W2, C1.trans C2, fun n => ?_⟩
  · unfold addV
    rw [e1, Option.bind_some, e2]
    rfl
  · rw [show n + (k + 1) = n + 1 + k by omega, F1, F2, foldX_app]
theorem HoC.add {hd : Nat} (hh : hd = 5 ∨ hd = 6) {cs ds : List Nat} {v : (Nat → Int32) → Option (List ClV)} {w : (Nat → Int32) → Option ClV} (h1 : HoC hd cs v) (h2 : ClC cs.length ds w) : HoC hd (cs ++ ds) (addV v w) := fun y r N M e h hA hN => by
  rw [List.length_append] at hN ⊢
  obtain ⟨a1, a2⟩ := at_app.mp hA
  rw [Nat.zero_add] at a2
  have ld := clc_len h2
  obtain ⟨ls, k, y1, e1, hk, W1, C1, F1⟩ := h1 y r N M e h a1 (by omega)
  obtain ⟨c, y2, e2, W2, C2, F2⟩ := c_clauseH W1 h2 a2 (by omega) hd hh
  have ev : addV v w e = some (ls ++ [c]) := by
    unfold addV
    rw [e1, Option.bind_some, e2]
    rfl
  rcases F1 with ⟨f0, F1⟩ | ⟨f0, F1⟩
  · rcases F2 with ⟨g0, F2⟩ | ⟨g0, F2⟩
    · refine ⟨ls ++ [c], k + 1, y2, ev, by omega, W2, C1.trans C2, Or.inl ⟨by rw [foldX_app, f0, g0], fun n => ?_⟩⟩
      rw [show n + (k + 1) = n + 1 + k by omega, F1, F2]
    · refine ⟨ls ++ [c], k, y2, ev, by omega, W2, C1.trans C2, Or.inr ⟨by rw [foldX_app]; exact g0 _, fun n => ?_⟩⟩
      rw [F1, F2]
  · refine ⟨ls ++ [c], k, y1, ev, by omega, W1, C1, Or.inr ⟨?_, F1⟩⟩
    rw [foldX_app]
    unfold stepX
    by_cases q : c.1 = hd + 1 ∧ c.2.2 = some true
    · rw [if_pos q]
      cases c.2.1 with
      | none => exact f0
      | some u => exact Option.some_ne_none _
    · rw [if_neg q]
      exact f0
theorem text_codes {K : Tk} {Q : List Nat → ((Nat → Int32) → Option (List ClV)) → Prop} (add : ∀ cs ds v w, Q cs v → ClC cs.length ds w → Q (cs ++ ds) (addV v w)) (f : Nat) : ∀ i l cs v, Q cs v → (textL K f i l cs v).1 ≠ 0 → Q (textL K f i l cs v).2.2.2.1 (textL K f i l cs v).2.2.2.2 := by
  induction f with
  | zero => exact fun i l cs v _ h => absurd rfl h
  | succ f ih =>
    intro i l cs v h hz
    rw [textL_S] at hz ⊢
    by_cases e : (clauseP K i l cs.length).1 = 0
    · rw [thn_0 e] at hz
      exact absurd rfl hz
    rw [thn_1 e] at hz ⊢
    have c := add _ _ _ _ h (clc_of e)
    unfold aftL at hz ⊢
    by_cases q : trc K (clauseP K i l cs.length).2.1 = 159
    · rw [if_pos q] at hz ⊢
      exact ih _ _ _ _ c hz
    · rw [if_neg q] at hz ⊢
      by_cases q2 : (clauseP K i l cs.length).2.1 = tm_ K
      · rw [if_pos q2]
        exact c
      · rw [if_neg q2] at hz
        exact absurd rfl hz
theorem text_told {K : Tk} (hz : (textP K).1 ≠ 0) {hd : Nat} (hh : hd < 5) : ToC hd (textP K).2.2.2.1 (textP K).2.2.2.2 :=
  text_codes (Q := ToC hd) (fun _ _ _ _ h1 h2 => h1.add hh h2) 12 0 0 [] _ (fun y r N M e w h hA hN => ⟨[], 0, y, rfl, Nat.le_refl _, h, Ch.refl _ _ _, fun n => rfl⟩) hz
theorem text_holds {K : Tk} (hz : (textP K).1 ≠ 0) {hd : Nat} (hh : hd = 5 ∨ hd = 6) : HoC hd (textP K).2.2.2.1 (textP K).2.2.2.2 :=
  text_codes (Q := HoC hd) (fun _ _ _ _ h1 h2 => h1.add hh h2) 12 0 0 [] _ (fun y r N M e h hA hN => ⟨[], 0, y, rfl, Nat.le_refl _, h, Ch.refl _ _ _, Or.inl ⟨rfl, fun n => rfl⟩⟩) hz
/-- the class's text tells textX -/
theorem ctext_of {K : Tk} {h : pg_H} {r : Nat} (hz : (textP K).1 ≠ 0) (hr : 110 ≤ r ∧ r ≤ h.1 ∧ 110 ≤ pg_r h r 0 ∧ pg_r h r 0 ≤ h.1 ∧ (pg_k h r).1 = 10) (hk : pg_k h (pg_r h r 0) = (21, (textP K).2.2.2.1.length)) (hl : (textP K).2.2.2.1.length < 400) (hA : At (pg_i h (pg_r h r 0)) 0 (textP K).2.2.2.1) : CText h r (textX (textP K)) := by
  refine ⟨hr, fun h' L s => ?_⟩
  obtain ⟨s1, s2, s3, s4⟩ := s
  have W : Wq h' r (textP K).2.2.2.1.length (pg_i h (pg_r h r 0)) (cut9 (pg_i h' 48)) := ⟨L, ⟨by rw [s1]; exact hr.2.2.2.2, by rw [s2]; exact hr.2.2.1, by rw [s2, s3]; exact hk, by rw [s2]; exact s4, hl⟩, fun j hj => (if_pos hj).symm⟩
  have r0 : r ≠ 0 := by omega
  have ln : F_X9_length h' r = some (nI (textP K).2.2.2.1.length) := by
    unfold F_X9_length pg_gR pg_len
    rw [s1, if_pos hr.2.2.2.2, Option.bind_some, s2, s3, hk, if_pos ⟨show 20 ≤ 21 by decide, show 21 < 26 by decide⟩, Option.bind_some]
    rfl
  have fu : 1000 ≤ pg_fuel := by unfold pg_fuel; omega
  refine ⟨fun hd hh w => ?_, fun hd hh => ?_⟩
  · obtain ⟨ls, k, y', e1, hk1, W1, C1, F1⟩ := text_told hz hh h' r _ _ _ w W hA (Nat.le_refl _)
    refine ⟨y', ?_, C1⟩
    unfold F_X0_told F_X0_told_15
    rw [if_neg r0, W.rc, ln, Option.bind_some]
    have z := F1 (pg_fuel - k - 1 + 1)
    rw [show pg_fuel - k - 1 + 1 + k = pg_fuel by omega] at z
    refine Eq.trans z ?_
    rw [F_X0_told_20]
    dsimp only
    rw [if_neg Int32.lt_irrefl]
    unfold textX
    rw [e1]
    rfl
  · obtain ⟨ls, k, y', e1, hk1, W1, C1, F1⟩ := text_holds hz hh h' r _ _ _ W hA (Nat.le_refl _)
    refine ⟨y', ?_, C1⟩
    unfold F_X0_holdsIn F_X0_holdsIn_12
    rw [if_neg r0, W.rc, ln, Option.bind_some]
    unfold textX
    rw [e1]
    rcases F1 with ⟨f0, F1⟩ | ⟨f0, F1⟩
    · have z := F1 (pg_fuel - k - 1 + 1)
      rw [show pg_fuel - k - 1 + 1 + k = pg_fuel by omega] at z
      refine Eq.trans z ?_
      rw [F_X0_holdsIn_16]
      dsimp only
      rw [if_neg Int32.lt_irrefl, Option.getD_some, f0]
      rfl
    · have z := F1 (pg_fuel - k - 1)
      rw [show pg_fuel - k - 1 + 1 + k = pg_fuel by omega] at z
      refine Eq.trans z ?_
      rw [Option.getD_some]
      cases hf : foldX hd ls with
      | none => exact absurd hf f0
      | some u => rfl
theorem textX_ok (K : Tk) : XOK (textX (textP K)) := by
  refine ⟨fun hd e v hv => ?_, fun hd e e' q => ?_⟩
  · have Z : ∀ (ls : List ClV) (o : Option Nat), (∀ u, o = some u → u ≤ 100) → ∀ u, ls.foldl (stepX hd) o = some u → u ≤ 100 := fun ls => by
      induction ls with
      | nil => exact fun o h u hu => h u hu
      | cons c ls ih =>
        intro o h u hu
        refine ih (stepX hd o c) (fun x hx => ?_) u hu
        unfold stepX at hx
        by_cases q : c.1 = hd + 1 ∧ c.2.2 = some true
        · rw [if_pos q] at hx
          cases hv : c.2.1 with
          | none => rw [hv] at hx; exact h x hx
          | some z =>
            rw [hv] at hx
            cases hx
            unfold clampL
            omega
        · rw [if_neg q] at hx
          exact h x hx
    exact Z _ none (fun u hu => by cases hu) v hv
  · unfold textX
    have c : cut9 e = cut9 e' := by
      funext j
      unfold cut9
      by_cases z : j < 9
      · rw [if_pos z, if_pos z, q j z]
      · rw [if_neg z, if_neg z]
    rw [c]
end TOLD
