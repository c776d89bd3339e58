/-! TEXTS: what the reference is told by a text -/
section ASKS
variable {K : Tk} {n : Nat} {by_ : Nat → Nat} {t i j : Nat} {e : Nat → Int32} {y : pg_H}
def Td (o : Option Nat) (y : pg_H) : Prop := pg_i y 81 24 = b01 o.isSome ∧ ∀ v, o = some v → clampL (pg_l y 81 23) = v
abbrev TA : List (Nat × Nat) := [(81, 19), (81, 21), (81, 23), (81, 24)]
theorem Rr.chA {y' : pg_H} (h : Rr K t e y i) (c : Ch [] TA y y') (hj : pg_i y' 81 19 = nI (400 * t + j)) : Rr K t e y' j := by
  obtain ⟨L, h1, h2, h3, h4, h5⟩ := h
  refine ⟨c.lay L (by decide), h1, ?_, fun k hk => ?_, fun k hk => ?_, hj⟩
  · rw [c.atM (R := []) (F := [(81, 20)]) (by decide) (by decide)]; exact h2
  · rw [c.row (r := 83) (by decide)]; exact h3 k hk
  · rw [c.row (r := 92) (by decide)]; exact h4 k hk
theorem atL {S : List Nat} {T : List (Nat × Nat)} {h h' : pg_H} (c : Ch S T h h') {r k : Nat} (q : (r, k) ∉ T ∧ r ∉ S) : pg_l h' r k = pg_l h r k := (c.2.2.2.2 r k (fun z => z.elim q.2 q.1)).2
theorem Td.ch {o : Option Nat} {y' : pg_H} (h : Td o y) (c : Ch [] TR2 y y') : Td o y' := by
  refine ⟨?_, fun v hv => ?_⟩
  · rw [c.atM (R := []) (F := [(81, 24)]) (by decide) (by decide)]; exact h.1
  · rw [atL c (by decide)]; exact h.2 v hv
/-- the end of a clause -/
theorem r_158 {o : Option Nat} (h : Rr K t e y i) (hT : Td o y) (a2 : Int32) (s : Int64) (b : Bool) : ∃ y', (∀ k, F_X12_asks_158 k 81 a2 s (b01 b) y = k 81 a2 y') ∧ Rr K t e y' (i + 1) ∧ Td (if b = true then some (clampL s) else o) y' ∧ Ch [] TA y y' := by
  obtain ⟨g1, g2, g3, g4⟩ := r_go h
  have L := h.1
  cases b with
  | false =>
    refine ⟨_, fun k => ?_, g1, hT.ch g2, g2.mono (by decide)⟩
    unfold F_X12_asks_158
    rw [ng_81 L.kd, h.2.2.2.2.2, Option.bind_some, g4, Option.bind_some, if_pos (show b01 false = 0 by decide)]
  | true =>
    have c1 : Ch [] TA (pg_si y 81 19 (nI (400 * t + (i + 1)))) (pg_sl (pg_si y 81 19 (nI (400 * t + (i + 1)))) 81 23 s) := (Ch.refl _ _ _).asl (Or.inr (by decide))
    have c2 : Ch [] TA (pg_si y 81 19 (nI (400 * t + (i + 1)))) (pg_si (pg_sl (pg_si y 81 19 (nI (400 * t + (i + 1)))) 81 23 s) 81 24 1) := c1.asi (Or.inr (by decide))
    have e19 : pg_i (pg_si (pg_sl (pg_si y 81 19 (nI (400 * t + (i + 1)))) 81 23 s) 81 24 1) 81 19 = nI (400 * t + (i + 1)) := by
      rw [si_row, up1_ne (by decide), i_sl, si_row, up1_eq]
    refine ⟨_, fun k => ?_, g1.chA c2 e19, ⟨by rw [si_row, up1_eq]; rfl, fun v hv => ?_⟩, (g2.mono (by decide)).trans c2⟩
    · unfold F_X12_asks_158
      rw [ng_81 L.kd, h.2.2.2.2.2, Option.bind_some, g4, Option.bind_some, if_neg (show ¬ b01 true = 0 by decide), npl_81 g1.1.kd, Option.bind_some, nz1_81 (c1.lay g1.1 (by decide)).kd, Option.bind_some]
    · rw [if_pos rfl] at hv
      cases hv
      rw [l_si, sl_row, up1_eq]
theorem r_129 {o : Option Nat} (h : Rr K t e y i) (hT : Td o y) (hd hc : Nat) (h1 : hd < 7) (h2 : hc ≤ 7) (s : Int64) (bs bt : Bool) (ht : pg_i y 81 21 = b01 bt) (w : Bool) : ∃ y', (∀ k, F_X12_asks_129 k 81 (nI (hd + 1)) (nI hc) s (b01 bs) (b01 w) y = k 81 (nI (hd + 1)) y') ∧ Rr K t e y' (i + 1) ∧ Td (if hc = hd + 1 ∧ w = true ∧ bt = false ∧ bs = false then some (clampL s) else o) y' ∧ Ch [] TA y y' := by
  have e1 : nI hc = nI (hd + 1) ↔ hc = hd + 1 := nI_eq (by omega) (by omega)
  have F := r_158 h hT (nI (hd + 1)) s false
  have G := r_158 h hT (nI (hd + 1)) s true
  obtain ⟨y1, f1, f2, f3, f4⟩ := F
  have N : ¬ (hc = hd + 1 ∧ w = true ∧ bt = false ∧ bs = false) → (∀ k, F_X12_asks_129 k 81 (nI (hd + 1)) (nI hc) s (b01 bs) (b01 w) y = F_X12_asks_158 k 81 (nI (hd + 1)) s (b01 false) y) → ∃ y', (∀ k, F_X12_asks_129 k 81 (nI (hd + 1)) (nI hc) s (b01 bs) (b01 w) y = k 81 (nI (hd + 1)) y') ∧ Rr K t e y' (i + 1) ∧ Td (if hc = hd + 1 ∧ w = true ∧ bt = false ∧ bs = false then some (clampL s) else o) y' ∧ Ch [] TA y y' := fun q z => ⟨y1, fun k => (z k).trans (f1 k), f2, by rw [if_neg q]; exact f3, f4⟩
  have U : ∀ k, F_X12_asks_129 k 81 (nI (hd + 1)) (nI hc) s (b01 bs) (b01 w) y = (if b01 w = 0 then F_X12_asks_158 k 81 (nI (hd + 1)) s (b01 false) y else (if b01 bt = 0 then (if b01 bs = 0 then (if nI hc = nI (hd + 1) then F_X12_asks_158 k 81 (nI (hd + 1)) s (b01 true) y else F_X12_asks_158 k 81 (nI (hd + 1)) s (b01 false) y) else F_X12_asks_158 k 81 (nI (hd + 1)) s (b01 false) y) else F_X12_asks_158 k 81 (nI (hd + 1)) s (b01 false) y)) := fun k => by
    unfold F_X12_asks_129 F_X12_asks_157
    rw [ng_81 h.1.kd, ht, Option.bind_some]
    rfl
  cases w with
  | false => exact N (fun z => absurd z.2.1 (by decide)) (fun k => by rw [U k, if_pos (show b01 false = 0 by decide)])
  | true =>
    cases bt with
    | true => exact N (fun z => absurd z.2.2.1 (by decide)) (fun k => by rw [U k, if_neg (show ¬ b01 true = 0 by decide), if_neg (show ¬ b01 true = 0 by decide)])
    | false =>
      cases bs with
      | true => exact N (fun z => absurd z.2.2.2 (by decide)) (fun k => by rw [U k, if_neg (show ¬ b01 true = 0 by decide), if_pos (show b01 false = 0 by decide), if_neg (show ¬ b01 true = 0 by decide)])
      | false =>
        by_cases q : hc = hd + 1
        · obtain ⟨y2, k1, k2, k3, k4⟩ := G
          refine ⟨y2, fun k => ?_, k2, by rw [if_pos ⟨q, rfl, rfl, rfl⟩]; exact k3, k4⟩
          rw [U k, if_neg (show ¬ b01 true = 0 by decide), if_pos (show b01 false = 0 by decide), if_pos (show b01 false = 0 by decide), if_pos (e1.mpr q)]
          exact k1 k
        · exact N (fun z => q z.1) (fun k => by rw [U k, if_neg (show ¬ b01 true = 0 by decide), if_pos (show b01 false = 0 by decide), if_pos (show b01 false = 0 by decide), if_neg (fun z => q (e1.mp z))])
theorem r_94 (O : TkOK K n by_) {o : Option Nat} (h : Rr K t e y i) (hi : i ≤ tm_ K) (l a : Nat) (hl : l ≤ 50) (hz : (testPart K i l a).1 ≠ 0) (hT : Td o y) (hd hc : Nat) (h1 : hd < 7) (h2 : hc ≤ 7) (s : Int64) (vs : Option Int64) (hb : pg_i y 81 21 = b01 vs.isNone) (hs : ∀ u, vs = some u → s = u) :
    ∃ y', (∀ k, F_X12_asks_94 k 81 (nI (hd + 1)) (nI hc) s y = k 81 (nI (hd + 1)) y') ∧ Rr K t e y' ((testPart K i l a).2.1 + 1) ∧ Td (stepX hd o (hc, vs, (testPart K i l a).2.2.2.2 e)) y' ∧ Ch [] TA y y' := by
  have L := h.1
  have B := brk h false
  have e2 : ∀ (ws : Option Bool) (bt w : Bool), bt = ws.isNone → (∀ u, ws = some u → w = u) → (if hc = hd + 1 ∧ w = true ∧ bt = false ∧ vs.isNone = false then some (clampL s) else o) = stepX hd o (hc, vs, ws) := fun ws bt w q1 q2 => by
    unfold stepX
    cases ws with
    | none => rw [q1, if_neg (fun z => absurd z.2.2.1 (by decide)), if_neg (fun z => absurd z.2 (by simp))]
    | some u =>
      rw [q1, q2 u rfl]
      cases vs with
      | none => 
        rw [if_neg (fun z => absurd z.2.2.2 (by decide))]
        split <;> rfl
      | some x =>
        rw [hs x rfl]
        by_cases q : hc = hd + 1 ∧ u = true
        · rw [if_pos ⟨q.1, q.2, rfl, rfl⟩, if_pos ⟨q.1, by rw [q.2]⟩]
          rfl
        · rw [if_neg (fun z => q ⟨z.1, z.2.1⟩), if_neg (fun z => q ⟨z.1, Option.some.inj z.2⟩)]
  unfold F_X12_asks_94
  have U : ∀ k, (Option.bind (pg_gI 12 21 y 81) fun v1 => Option.bind (pg_pZ 12 21 y 81 (0 : Int32)) fun v2 => Option.bind (pg_rcv 12 v2 81 (F_X12_passes 81 (8 : Int32) v2)) fun v3 => (if v3.1 = 0 then (F_X12_asks_124 k 81 (nI (hd + 1)) (nI hc) s v1 v3.2) else Option.bind (pg_rcv 12 v3.2 81 (F_X12_testOf 81 (1 : Int32) v3.2)) fun v4 => (if v4.1 = 0 then (F_X12_asks_129 k 81 (nI (hd + 1)) (nI hc) s v1 (0 : Int32) v4.2) else (F_X12_asks_124 k 81 (nI (hd + 1)) (nI hc) s v1 v4.2)))) = (Option.bind (some (if trc K i = 8 then ((1 : Int32), pg_si (pg_si y 81 21 (b01 false)) 81 19 (nI (400 * t + (i + 1)))) else (0, pg_si y 81 21 (b01 false)))) fun v3 => (if v3.1 = 0 then (F_X12_asks_124 k 81 (nI (hd + 1)) (nI hc) s (b01 vs.isNone) v3.2) else Option.bind (pg_rcv 12 v3.2 81 (F_X12_testOf 81 (1 : Int32) v3.2)) fun v4 => (if v4.1 = 0 then (F_X12_asks_129 k 81 (nI (hd + 1)) (nI hc) s (b01 vs.isNone) (0 : Int32) v4.2) else (F_X12_asks_124 k 81 (nI (hd + 1)) (nI hc) s (b01 vs.isNone) v4.2)))) := fun k => by
    rw [ng_81 L.kd, hb, Option.bind_some, show pg_pZ 12 21 y 81 (0 : Int32) = some (pg_si y 81 21 (b01 false)) from B.1, Option.bind_some, nc_81 B.2.1.1.kd, show F_X12_passes 81 (8 : Int32) (pg_si y 81 21 (b01 false)) = _ from r_passes O B.2.1 hi 8 (by omega)]
  simp only [U]
  unfold F_X12_asks_124
  unfold testPart at hz ⊢
  by_cases q : trc K i = 8
  · rw [if_pos q] at hz ⊢
    rw [if_pos q]
    have il := O.lt hi (by omega)
    obtain ⟨g1, g2, g3, g4⟩ := r_go B.2.1
    obtain ⟨w, y2, t2, R2, C2, ok2, A2⟩ := r_test0 O (i + 1) l a il hl hz t e _ true false g1 (by rw [g3]; exact B.2.2.2)
    have c02 := (B.2.2.1.trans g2).trans C2
    have bt : pg_i y2 81 21 = b01 ((testP K 8 (i + 1) l a).2.2.2.2 e).isNone := by
      have := A2.1
      rw [this]
      rfl
    have wb : ∃ wb : Bool, w = b01 wb := by
      rcases ok2 with rfl | rfl
      · exact ⟨false, rfl⟩
      · exact ⟨true, rfl⟩
    obtain ⟨wb, rfl⟩ := wb
    obtain ⟨y3, f1, f2, f3, f4⟩ := r_129 R2 (hT.ch c02) hd hc h1 h2 s vs.isNone _ bt wb
    refine ⟨y3, fun k => ?_, f2, ?_, (c02.mono (by decide)).trans f4⟩
    · rw [Option.bind_some]
      dsimp only
      rw [if_neg (show ¬ (1 : Int32) = 0 by decide), nc_81 g1.1.kd, show F_X12_testOf 81 (1 : Int32) _ = _ from t2, Option.bind_some]
      dsimp only
      rw [← f1 k]
      cases wb with
      | true => rw [if_neg (show ¬ b01 true = 0 by decide)]; rfl
      | false => rw [if_pos (show b01 false = 0 by decide)]; rfl
    · rw [← e2 _ _ wb rfl (fun u hu => by
        have := A2.2 rfl rfl u hu
        cases wb <;> cases u <;> first | rfl | exact absurd this (by decide))]
      exact f3
  · rw [if_neg q]
    rw [if_neg q]
    obtain ⟨y3, f1, f2, f3, f4⟩ := r_129 B.2.1 (hT.ch B.2.2.1) hd hc h1 h2 s vs.isNone false B.2.2.2 true
    refine ⟨y3, fun k => ?_, f2, ?_, (B.2.2.1.mono (by decide)).trans f4⟩
    · rw [Option.bind_some]
      dsimp only
      rw [if_pos rfl]
      exact f1 k
    · rw [← e2 (some true) _ true rfl (fun u hu => Option.some.inj hu)]
      exact f3
theorem r_clause (O : TkOK K n by_) {o : Option Nat} (h : Rr K t e y i) (hi : i ≤ tm_ K) (l a : Nat) (hl : l ≤ 50) (hz : (clauseP K i l a).1 ≠ 0) (hT : Td o y) (hd : Nat) (h1 : hd < 7) :
    ∃ c y', (clauseP K i l a).2.2.2.2 e = some c ∧ (∀ f, F_X12_asks_44 (f + 1) 81 (nI (hd + 1)) y = F_X12_asks_44 f 81 (nI (hd + 1)) y') ∧ Rr K t e y' ((clauseP K i l a).2.1 + 1) ∧ Td (stepX hd o c) y' ∧ Ch [] TA y y' := by
  have L := h.1
  have m4 := O.1
  have t8 := h.2.1
  have B := brk h false
  unfold clauseP at hz ⊢
  by_cases q : 1 ≤ trc K i ∧ trc K i ≤ 7
  · rw [if_pos q] at hz ⊢
    have il := O.lt hi (by omega)
    have H := b_head O (i := i) (l := l) (a := a + 3) hi hl (by omega)
    by_cases e1 : (headPart K i l (a + 3)).1 = 0
    · rw [thn_0 e1] at hz
      exact absurd rfl hz
    rw [thn_1 e1] at hz ⊢
    have b := H.2 e1
    by_cases e2 : (testPart K (headPart K i l (a + 3)).2.1 (headPart K i l (a + 3)).2.2.1 (a + 3 + (headPart K i l (a + 3)).2.2.2.1.length)).1 = 0
    · rw [thn_0 e2] at hz
      exact absurd rfl hz
    rw [thn_1 e2]
    obtain ⟨g1, g2, g3, g4⟩ := r_go B.2.1
    have b2 := b.2.1
    have b3 := b.2.2.1
    have START : ∀ f, F_X12_asks_44 (f + 1) 81 (nI (hd + 1)) y = (if nI (trc K i) < (6 : Int32) then Option.bind (pg_rcv 12 (pg_si (pg_si y 81 21 (b01 false)) 81 19 (nI (400 * t + (i + 1)))) 81 (F_X12_sumOf 81 (1 : Int32) (pg_si (pg_si y 81 21 (b01 false)) 81 19 (nI (400 * t + (i + 1)))))) fun v8 => (F_X12_asks_94 (F_X12_asks_44 f) 81 (nI (hd + 1)) (nI (trc K i)) v8.1 v8.2) else (F_X12_asks_94 (F_X12_asks_44 f) 81 (nI (hd + 1)) (nI (trc K i)) (0 : Int64) (pg_si (pg_si y 81 21 (b01 false)) 81 19 (nI (400 * t + (i + 1)))))) := fun f => by
      rw [F_X12_asks_44]
      dsimp only
      rw [ng_81 L.kd, h.2.2.2.2.2, Option.bind_some, ng_81 L.kd, h.2.2.1, Option.bind_some, if_pos (show nI (400 * t + i) < nI (400 * t + tm_ K) from nI_lt (by omega) (by omega)), show pg_pZ 12 21 y 81 (0 : Int32) = some (pg_si y 81 21 (b01 false)) from B.1, Option.bind_some, ng_81 B.2.1.1.kd, B.2.1.2.2.2.2.2, Option.bind_some, nc_81 B.2.1.1.kd, r_code O B.2.1 hi, Option.bind_some, Option.bind_some, g4, Option.bind_some]
    have D : ∃ s y3, (∀ f, F_X12_asks_44 (f + 1) 81 (nI (hd + 1)) y = F_X12_asks_94 (F_X12_asks_44 f) 81 (nI (hd + 1)) (nI (trc K i)) s y3) ∧ Rr K t e y3 (headPart K i l (a + 3)).2.1 ∧ Ch [] TR2 y y3 ∧ pg_i y3 81 21 = b01 ((headPart K i l (a + 3)).2.2.2.2 e).isNone ∧ ∀ u, (headPart K i l (a + 3)).2.2.2.2 e = some u → s = u := by
      unfold headPart at e1 ⊢
      by_cases c5 : trc K i ≤ 5
      · rw [if_pos c5] at e1 ⊢
        obtain ⟨w, y3, s2, R2, C2, _, A2⟩ := r_sum0 O (i + 1) l (a + 3) il hl e1 t e _ true false g1 (by rw [g3]; exact B.2.2.2)
        refine ⟨w, y3, fun f => ?_, R2, (B.2.2.1.trans g2).trans C2, A2.1, fun u hu => A2.2 rfl rfl u hu⟩
        rw [START f, if_pos (show nI (trc K i) < (6 : Int32) from nI_lt (b := 6) (by omega) (by decide)), nc_81 g1.1.kd, show F_X12_sumOf 81 (1 : Int32) _ = _ from s2, Option.bind_some]
      · rw [if_neg c5]
        refine ⟨0, _, fun f => ?_, g1, B.2.2.1.trans g2, by rw [g3]; exact B.2.2.2, fun u hu => (by cases hu; rfl)⟩
        rw [START f, if_neg (show ¬ nI (trc K i) < (6 : Int32) from nI_nlt (b := 6) (by omega) (by omega))]
    obtain ⟨s, y3, d1, d2, d3, d4, d5⟩ := D
    obtain ⟨y4, f1, f2, f3, f4⟩ := r_94 O d2 b2 _ _ b3 e2 (hT.ch d3) hd (trc K i) h1 q.2 s _ d4 d5
    refine ⟨_, y4, rfl, fun f => ?_, f2, f3, (d3.mono (by decide)).trans f4⟩
    rw [d1 f, f1]
  · rw [if_neg q] at hz
    exact absurd rfl hz
theorem r_text (O : TkOK K n by_) (hd : Nat) (h1 : hd < 7) (f : Nat) : ∀ N i l cs v y ls, f + 1 ≤ N → Rr K t e y i → i ≤ tm_ K → l ≤ 50 → v e = some ls → Td (foldX hd ls) y → (textL K f i l cs v).1 ≠ 0 →
    ∃ ls' y', (textL K f i l cs v).2.2.2.2 e = some ls' ∧ F_X12_asks_44 N 81 (nI (hd + 1)) y = some y' ∧ Td (foldX hd ls') y' ∧ Ch [] TA y y' := by
  induction f with
  | zero => exact fun N i l cs v y ls _ _ _ _ _ _ hz => absurd rfl hz
  | succ f ih =>
    intro N i l cs v y ls hN h hi hl hv hT hz
    obtain ⟨N', rfl⟩ : ∃ N', N = N' + 1 := ⟨N - 1, by omega⟩
    rw [textL_S] at hz ⊢
    by_cases e1 : (clauseP K i l cs.length).1 = 0
    · rw [thn_0 e1] at hz
      exact absurd rfl hz
    rw [thn_1 e1] at hz ⊢
    have b := (b_clause O i l cs.length hi hl).2 e1
    obtain ⟨c, y1, k1, k2, k3, k4, k5⟩ := r_clause O h hi l cs.length hl e1 hT hd h1
    have ev : addV v (clauseP K i l cs.length).2.2.2.2 e = some (ls ++ [c]) := by
      unfold addV
      rw [hv, Option.bind_some, k1]
      rfl
    rw [k2]
    unfold aftL at hz ⊢
    by_cases q : trc K (clauseP K i l cs.length).2.1 = 159
    · rw [if_pos q] at hz ⊢
      obtain ⟨ls', y', p1, p2, p3, p4⟩ := ih N' _ _ _ _ y1 (ls ++ [c]) (by omega) k3 (O.lt b.2.1 (by omega)) b.2.2.1 ev (by rw [foldX_app]; exact k4) hz
      exact ⟨ls', y', p1, p2, p3, k5.trans p4⟩
    · rw [if_neg q] at hz ⊢
      by_cases q2 : (clauseP K i l cs.length).2.1 = tm_ K
      · rw [if_pos q2]
        refine ⟨_, y1, ev, ?_, by rw [foldX_app]; exact k4, k5⟩
        obtain ⟨N'', rfl⟩ : ∃ N'', N' = N'' + 1 := ⟨N' - 1, by omega⟩
        have m4 := O.1
        have t8 := h.2.1
        rw [F_X12_asks_44]
        dsimp only
        rw [ng_81 k3.1.kd, k3.2.2.2.2.2, Option.bind_some, ng_81 k3.1.kd, k3.2.2.1, Option.bind_some, q2, if_neg (show ¬ nI (400 * t + (tm_ K + 1)) < nI (400 * t + tm_ K) from nI_nlt (by omega) (by omega))]
      · rw [if_neg q2] at hz
        exact absurd rfl hz
theorem mtext_of (O : TkOK K n by_) (hz : (textP K).1 ≠ 0) {A : Nat → Int32} (ht : t < 8) (hA : A (1350 + t) = nI (tm_ K)) (hB : ∀ k, k < tm_ K → A (1358 + 400 * t + k) = nI (trc K k) ∧ A (4558 + 400 * t + k) = nI (trv K k)) : MText A t (textX (textP K)) := fun h' L a1 a2 hd hh => by
  have m4 := O.1
  have c1 : Ch [] mT h' (pg_sl h' 81 23 0) := (Ch.refl _ _ _).asl (Or.inr (by decide))
  have c2 : Ch [] mT h' (pg_si (pg_sl h' 81 23 0) 81 24 0) := c1.asi (Or.inr (by decide))
  have c3 : Ch [] mT h' (pg_si (pg_si (pg_sl h' 81 23 0) 81 24 0) 81 19 (nI (400 * t))) := c2.asi (Or.inr (by decide))
  have c4 : Ch [] mT h' (pg_si (pg_si (pg_si (pg_sl h' 81 23 0) 81 24 0) 81 19 (nI (400 * t))) 81 20 (nI (400 * t + tm_ K))) := c3.asi (Or.inr (by decide))
  have L1 := c1.lay L (by decide)
  have L2 := c2.lay L (by decide)
  have L3 := c3.lay L (by decide)
  have L4 := c4.lay L (by decide)
  have R : Rr K t (cut9 (pg_i h' 92)) (pg_si (pg_si (pg_si (pg_sl h' 81 23 0) 81 24 0) 81 19 (nI (400 * t))) 81 20 (nI (400 * t + tm_ K))) 0 := by
    refine ⟨L4, ht, by rw [si_row, up1_eq], fun k hk => ?_, fun j hj => ?_, ?_⟩
    · rw [c4.row (r := 83) (by decide), (a2 k (by omega)).1, (a2 k (by omega)).2]
      exact hB k hk
    · rw [c4.row (r := 92) (by decide)]
      exact (if_pos hj).symm
    · rw [si_row, up1_ne (by decide), si_row, up1_eq]
      rfl
  have T : Td (foldX hd []) (pg_si (pg_si (pg_si (pg_sl h' 81 23 0) 81 24 0) 81 19 (nI (400 * t))) 81 20 (nI (400 * t + tm_ K))) := by
    refine ⟨?_, fun v hv => (by cases hv)⟩
    rw [si_row, up1_ne (by decide), si_row, up1_ne (by decide), si_row, up1_eq]
    rfl
  obtain ⟨ls, y', p1, p2, p3, p4⟩ := r_text O hd hh 12 pg_fuel 0 0 [] (fun _ => some []) _ [] (by unfold pg_fuel; omega) R (Nat.zero_le _) (by omega) rfl T hz
  have x1 : textX (textP K) hd (pg_i h' 92) = foldX hd ls := by
    unfold textX textP
    rw [p1]
    rfl
  refine ⟨y', ?_, c4.trans (p4.mono (by decide)), by rw [x1]; exact p3.1, fun v hv => p3.2 v (by rw [← x1]; exact hv)⟩
  unfold F_X12_asks
  have e4 : (400 : Int32) * nI t = nI (400 * t) := nI_mul 400 t
  have e5 : (1350 : Int32) + nI t = nI (1350 + t) := nI_add 1350 t
  rw [npl_81 L.kd, Option.bind_some, nz0_81 L1.kd, Option.bind_some, if_neg (show ¬ nI t = (-1 : Int32) from nI_no (by omega)), e4, np_81 L2.kd, Option.bind_some, ng_81 L3.kd, si_row, up1_eq, Option.bind_some, nR_81_3 L3.kd L3.rd, Option.bind_some, e5, na_83 L3.kd (by omega), c3.row (r := 83) (by decide), a1, hA, Option.bind_some, nI_add, np_81 L3.kd, Option.bind_some]
  exact p2
end ASKS
