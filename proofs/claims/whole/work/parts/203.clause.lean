/-! TEXTS: clauses and whole texts, plain; the reference reads them -/
def headPart (K : Tk) (i l a : Nat) : Rs Int64 := if trc K i ≤ 5 then sumP K 8 (i + 1) l a else (1, i + 1, l, [], fun _ => some 0)
def testPart (K : Tk) (i l a : Nat) : Rs Bool := if trc K i = 8 then testP K 8 (i + 1) l a else (1, i, l, [], fun _ => some true)
abbrev ClV : Type := Nat × Option Int64 × Option Bool
def clauseP (K : Tk) : Ps ClV := fun i l a => if 1 ≤ trc K i ∧ trc K i ≤ 7 then
    thn (headPart K i l (a + 3)) fun j l' cs v => thn (testPart K j l' (a + 3 + cs.length)) fun j2 l2 ds w =>
      (1, j2, l2, [trc K i - 1, a + 3 + cs.length, a + 3 + cs.length + ds.length] ++ cs ++ ds, fun e => some (trc K i, v e, w e))
  else bad_ i
def addV (v : (Nat → Int32) → Option (List ClV)) (w : (Nat → Int32) → Option ClV) : (Nat → Int32) → Option (List ClV) := fun e => (v e).bind fun a => (w e).map fun b => a ++ [b]
def textL (K : Tk) : Nat → Nat → Nat → List Nat → ((Nat → Int32) → Option (List ClV)) → Rs (List ClV)
  | 0 => fun i _ _ _ => bad_ i
  | f + 1 => fun i l cs v => thn (clauseP K i l cs.length) fun j l' ds w =>
      if trc K j = 159 then textL K f (j + 1) l' (cs ++ ds) (addV v w) else if j = tm_ K then (1, j, l', cs ++ ds, addV v w) else bad_ j
def aftL (K : Tk) (f j l : Nat) (cs : List Nat) (v : (Nat → Int32) → Option (List ClV)) : Rs (List ClV) :=
  if trc K j = 159 then textL K f (j + 1) l cs v else if j = tm_ K then (1, j, l, cs, v) else bad_ j
theorem textL_S (K : Tk) (f i l : Nat) (cs : List Nat) (v : (Nat → Int32) → Option (List ClV)) : textL K (f + 1) i l cs v = thn (clauseP K i l cs.length) fun j l' ds w => aftL K f j l' (cs ++ ds) (addV v w) := rfl
def textP (K : Tk) : Rs (List ClV) := textL K 12 0 0 [] fun _ => some []
/-- the bounds of a clause -/
def CBd (K : Tk) (i l j l' : Nat) (cs : List Nat) : Prop := i < j ∧ j ≤ tm_ K ∧ l' ≤ 50 ∧ l ≤ l' ∧ 3 * cs.length + 12 * l + tpos K i ≤ 12 * l' + tpos K j + 9
section CLAUSE
variable {K : Tk} {n : Nat} {by_ : Nat → Nat}
theorem b_head (O : TkOK K n by_) {i l a : Nat} (hi : i ≤ tm_ K) (hl : l ≤ 50) (hz : trc K i ≠ 0) : ((headPart K i l a).1 = 0 → (headPart K i l a).2.1 ≤ tm_ K) ∧ ((headPart K i l a).1 ≠ 0 → i < (headPart K i l a).2.1 ∧ (headPart K i l a).2.1 ≤ tm_ K ∧ (headPart K i l a).2.2.1 ≤ 50 ∧ l ≤ (headPart K i l a).2.2.1 ∧ (headPart K i l a).2.2.2.1.length + 3 * l ≤ 3 * (headPart K i l a).2.2.1) := by
  have il := O.lt hi hz
  unfold headPart
  by_cases q : trc K i ≤ 5
  · rw [if_pos q]
    have B := b_sum O 8 (i + 1) l a il hl
    refine ⟨B.1, fun e => ?_⟩
    have b := B.2 e
    unfold SBd at b
    omega
  · rw [if_neg q]
    refine ⟨fun z => absurd z (by simp), fun _ => ?_⟩
    simp only [List.length_nil]
    omega
theorem b_tpart (O : TkOK K n by_) {i l a : Nat} (hi : i ≤ tm_ K) (hl : l ≤ 50) : ((testPart K i l a).1 = 0 → (testPart K i l a).2.1 ≤ tm_ K) ∧ ((testPart K i l a).1 ≠ 0 → i ≤ (testPart K i l a).2.1 ∧ (testPart K i l a).2.1 ≤ tm_ K ∧ (testPart K i l a).2.2.1 ≤ 50 ∧ l ≤ (testPart K i l a).2.2.1 ∧ 3 * (testPart K i l a).2.2.2.1.length + 12 * l + tpos K i ≤ 12 * (testPart K i l a).2.2.1 + tpos K (testPart K i l a).2.1) := by
  unfold testPart
  by_cases q : trc K i = 8
  · rw [if_pos q]
    have il := O.lt hi (by omega)
    have B := b_test O 8 (i + 1) l a il hl
    have p := O.2.2.2.1 i il
    refine ⟨B.1, fun e => ?_⟩
    have b := B.2 e
    unfold TBd at b
    omega
  · rw [if_neg q]
    refine ⟨fun z => absurd z (by simp), fun _ => ?_⟩
    simp only [List.length_nil]
    omega
theorem b_clause (O : TkOK K n by_) : PBd K (CBd K) (clauseP K) := fun i l a hi hl => by
  unfold clauseP
  by_cases q : 1 ≤ trc K i ∧ trc K i ≤ 7
  · rw [if_pos q]
    have H := b_head O (i := i) (l := l) (a := a + 3) hi hl (by omega)
    by_cases e : (headPart K i l (a + 3)).1 = 0
    · rw [thn_0 e]
      exact ⟨fun _ => H.1 e, fun z => absurd rfl z⟩
    · rw [thn_1 e]
      have h := H.2 e
      have T := b_tpart O (a := a + 3 + (headPart K i l (a + 3)).2.2.2.1.length) h.2.1 h.2.2.1
      by_cases e2 : (testPart K (headPart K i l (a + 3)).2.1 (headPart K i l (a + 3)).2.2.1 (a + 3 + (headPart K i l (a + 3)).2.2.2.1.length)).1 = 0
      · rw [thn_0 e2]
        exact ⟨fun _ => T.1 e2, fun z => absurd rfl z⟩
      · rw [thn_1 e2]
        refine ⟨fun z => absurd z (by simp), fun _ => ?_⟩
        have t := T.2 e2
        have p := O.pos (i := i) (Nat.le_of_lt h.1) h.2.1
        unfold CBd
        simp only [List.length_append, List.length_cons, List.length_nil]
        omega
  · rw [if_neg q]
    exact ⟨fun _ => hi, fun z => absurd rfl z⟩
/-! the reference -/
theorem m_63 (O : TkOK K n by_) {y : pg_H} {i l : Nat} (a : Nat) (h : RP K y i l) (hi : i ≤ tm_ K) (hl : l ≤ 50) : RO K y (F_X12_readClause_63 81 y) (testPart K i l a) := by
  unfold F_X12_readClause_63 testPart
  rw [show (8 : Int32) = nI 8 from rfl, nc_81 h.1.kd, m_takes h hi O.1 8 (by omega) (O.rc hi)]
  by_cases q : trc K i = 8
  · rw [if_pos q, Option.bind_some, if_neg (show ¬ (1 : Int32) = 0 by decide), if_pos q]
    have r1 := h.go.1
    obtain ⟨y2, e2, w⟩ := m_test0 O _ (i + 1) l a r1 (O.lt hi (by omega)) hl
    rw [nc_81 r1.1.kd, show (0 : Int32) = nI 0 from rfl, e2, Option.bind_some]
    exact RO.trans (m_go h) ⟨y2, rfl, w⟩
  · rw [if_neg q, Option.bind_some, if_pos rfl, if_neg q]
    exact ro_good (Ch.refl _ _ _) h (by simp)
theorem d_63 {y : pg_H} (h : Dd y) : F_X12_readClause_63 81 y = some y := by
  unfold F_X12_readClause_63
  rw [nc_81 h.1.kd, d_takes h, Option.bind_some, if_pos rfl]
theorem m_clause (O : TkOK K n by_) {y : pg_H} {i l : Nat} (a : Nat) (h : RP K y i l) (hi : i ≤ tm_ K) (hl : l ≤ 50) : RO K y (F_X12_readClause 81 y) (clauseP K i l a) := by
  have L := h.1
  have rc := O.rc hi
  have r1 := h.go.1
  have Z : ∀ {j l' : Nat} {cs : List Nat} {v : (Nat → Int32) → Option Int64} {y1 : pg_H}, Ch [] [(81, 16), (81, 17), (81, 18)] y y1 → RP K y1 j l' → j ≤ tm_ K → l' ≤ 50 → RO K y (F_X12_readClause_63 81 y1) (thn (testPart K j l' (a + 3 + cs.length)) fun j2 l2 ds w => (1, j2, l2, [trc K i - 1, a + 3 + cs.length, a + 3 + cs.length + ds.length] ++ cs ++ ds, fun e => some (trc K i, v e, w e))) := fun {j l' cs v y1} c1 r1 hj hl' => by
    obtain ⟨y2, e2, c2, L2, z⟩ := m_63 O (a + 3 + cs.length) r1 hj hl'
    rw [e2]
    rcases z with ⟨z1, z2⟩ | ⟨z1, z2⟩
    · rw [thn_0 z1]
      exact ro_dead (c1.trans c2) L2 z2
    · rw [thn_1 z1]
      exact ro_good (c1.trans c2) z2 (by simp)
  have W : (1 ≤ trc K i ∧ trc K i ≤ 5) → RO K y (F_X12_readClause_40 81 (pg_si y 81 16 (nI (i + 1)))) (clauseP K i l a) := fun q => by
    have il := O.lt hi (by omega)
    have H := b_head O (i := i) (l := l) (a := a + 3) hi hl (by omega)
    unfold clauseP
    rw [if_pos ⟨q.1, by omega⟩]
    unfold headPart at H ⊢
    rw [if_pos q.2] at H ⊢
    unfold F_X12_readClause_40
    obtain ⟨y2, e2, c2, L2, z⟩ := m_sum0 O _ (i + 1) l (a + 3) r1 il hl
    rw [nc_81 r1.1.kd, show (0 : Int32) = nI 0 from rfl, e2, Option.bind_some]
    rcases z with ⟨z1, z2⟩ | ⟨z1, z2⟩
    · rw [thn_0 z1, d_63 (dd_of O L2 z2 (H.1 z1))]
      exact ro_dead ((m_go h).trans c2) L2 z2
    · rw [thn_1 z1]
      have b := H.2 z1
      exact Z ((m_go h).trans c2) z2 b.2.1 b.2.2.1
  have W6 : (6 ≤ trc K i ∧ trc K i ≤ 7) → RO K y (F_X12_readClause_63 81 (pg_si y 81 16 (nI (i + 1)))) (clauseP K i l a) := fun q => by
    have il := O.lt hi (by omega)
    unfold clauseP
    rw [if_pos ⟨by omega, q.2⟩]
    unfold headPart
    rw [if_neg (by omega), thn_1 (by simp)]
    exact Z (m_go h) r1 il hl
  have T : ∀ c, c < 1000 → F_X12_takes 81 (nI c) y = some (if trc K i = c then ((1 : Int32), pg_si y 81 16 (nI (i + 1))) else (0, y)) := fun c hc => m_takes h hi O.1 c hc rc
  unfold F_X12_readClause
  rw [show (1 : Int32) = nI 1 from rfl, show (2 : Int32) = nI 2 from rfl, show (3 : Int32) = nI 3 from rfl, show (4 : Int32) = nI 4 from rfl, show (5 : Int32) = nI 5 from rfl, show (6 : Int32) = nI 6 from rfl, show (7 : Int32) = nI 7 from rfl, nc_81 L.kd, T 1 (by omega)]
  by_cases q1 : trc K i = 1
  · rw [if_pos q1, Option.bind_some, if_neg (show ¬ (1 : Int32) = 0 by decide)]
    exact W (by omega)
  rw [if_neg q1, Option.bind_some, if_pos rfl]
  dsimp only
  rw [nc_81 L.kd, T 2 (by omega)]
  by_cases q2 : trc K i = 2
  · rw [if_pos q2, Option.bind_some, if_neg (show ¬ (1 : Int32) = 0 by decide)]
    exact W (by omega)
  rw [if_neg q2, Option.bind_some, if_pos rfl]
  dsimp only
  rw [nc_81 L.kd, T 3 (by omega)]
  by_cases q3 : trc K i = 3
  · rw [if_pos q3, Option.bind_some, if_neg (show ¬ (1 : Int32) = 0 by decide)]
    exact W (by omega)
  rw [if_neg q3, Option.bind_some, if_pos rfl]
  dsimp only
  rw [nc_81 L.kd, T 4 (by omega)]
  by_cases q4 : trc K i = 4
  · rw [if_pos q4, Option.bind_some, if_neg (show ¬ (1 : Int32) = 0 by decide)]
    exact W (by omega)
  rw [if_neg q4, Option.bind_some, if_pos rfl]
  dsimp only
  rw [nc_81 L.kd, T 5 (by omega)]
  by_cases q5 : trc K i = 5
  · rw [if_pos q5, Option.bind_some, if_neg (show ¬ (1 : Int32) = 0 by decide)]
    exact W (by omega)
  rw [if_neg q5, Option.bind_some, if_pos rfl]
  dsimp only
  rw [nc_81 L.kd, T 6 (by omega)]
  by_cases q6 : trc K i = 6
  · rw [if_pos q6, Option.bind_some, if_neg (show ¬ (1 : Int32) = 0 by decide)]
    exact W6 (by omega)
  rw [if_neg q6, Option.bind_some, if_pos rfl]
  dsimp only
  rw [nc_81 L.kd, m_must O h hi 7 (by omega), Option.bind_some]
  by_cases q7 : trc K i = 7
  · rw [if_pos q7]
    exact W6 (by omega)
  · rw [if_neg q7, d_63 (dd_of O h.bad.2.1 h.bad.2.2 hi)]
    unfold clauseP
    rw [if_neg (by omega)]
    exact ro_bad h
/-- the whole text -/
def RO2 (K : Tk) (y : pg_H) (r : Option (Int32 × pg_H)) (p : Rs (List ClV)) : Prop := ∃ y' b, r = some (b, y') ∧ Ch [] [(81, 11), (81, 16), (81, 17), (81, 18)] y y' ∧ Lay y' ∧ ((p.1 = 0 ∧ b = 0 ∧ pg_i y' 81 11 = nI (tpos K p.2.1)) ∨ (p.1 ≠ 0 ∧ b = 1 ∧ pg_i y' 81 11 = -1))
theorem d_95 (O : TkOK K n by_) {y y1 : pg_H} {f : Nat} (c : Ch [] [(81, 16), (81, 17), (81, 18)] y y1) (L : Lay y1) (e : pg_i y1 81 18 = nI (tpos K f)) (hf : f ≤ tm_ K) : RO2 K y (F_X12_reads_95 81 y1) (bad_ f) := by
  have D := dd_of O L e hf
  have c2 : Ch [] [(81, 11)] y1 (pg_si y1 81 11 (nI (tpos K f))) := (Ch.refl _ _ _).asi (Or.inr (by decide))
  have L2 := c2.lay L (by decide)
  have D2 : Dd (pg_si y1 81 11 (nI (tpos K f))) := ⟨L2, by rw [c2.atM (R := []) (F := [(81, 18)]) (by decide) (by decide)]; exact D.2⟩
  unfold F_X12_reads_95
  rw [ng_81 L.kd, e, Option.bind_some, np_81 L.kd, Option.bind_some, nc_81 L2.kd, d_fine D2, Option.bind_some, if_pos (Or.inl rfl)]
  exact ⟨_, _, rfl, (c.mono (by decide)).trans (c2.mono (by decide)), L2, Or.inl ⟨rfl, rfl, by rw [si_row, up1_eq]; rfl⟩⟩
theorem d_34 (O : TkOK K n by_) {y y1 : pg_H} {f : Nat} (cc : Int32) (N : Nat) (c : Ch [] [(81, 16), (81, 17), (81, 18)] y y1) (L : Lay y1) (e : pg_i y1 81 18 = nI (tpos K f)) (hf : f ≤ tm_ K) : RO2 K y (F_X12_reads_34 (N + 1) 81 cc y1) (bad_ f) := by
  have D := dd_of O L e hf
  rw [F_X12_reads_34]
  dsimp only
  rw [show F_X12_sign (59 : Int32) = some (nI 159) from rfl, Option.bind_some, nc_81 L.kd, d_takes D, Option.bind_some, if_pos rfl, nc_81 L.kd, d_fine D, Option.bind_some, if_pos rfl]
  exact d_95 O c L e hf
theorem RO2.trans {y y1 : pg_H} {r : Option (Int32 × pg_H)} {p : Rs (List ClV)} (c : Ch [] [(81, 16), (81, 17), (81, 18)] y y1) (h : RO2 K y1 r p) : RO2 K y r p := by
  obtain ⟨y', b, e, c2, z⟩ := h
  exact ⟨y', b, e, (c.mono (by decide)).trans c2, z⟩
theorem m_95 {y : pg_H} {j l : Nat} (h : RP K y j l) (p : Rs (List ClV)) (hp : p.1 ≠ 0) : RO2 K y (F_X12_reads_95 81 y) p := by
  have c2 : Ch [] [(81, 11)] y (pg_si y 81 11 (-1)) := (Ch.refl _ _ _).asi (Or.inr (by decide))
  have L2 := c2.lay h.1 (by decide)
  unfold F_X12_reads_95
  rw [ng_81 h.1.kd, h.2.2.2.1, Option.bind_some, np_81 h.1.kd, Option.bind_some, nc_81 L2.kd]
  unfold F_X12_fine
  rw [ng_81 L2.kd, c2.atM (R := []) (F := [(81, 18)]) (by decide) (r := 81) (k := 18) (by decide), h.2.2.2.1, Option.bind_some, if_pos rfl, Option.bind_some, if_pos (Or.inr rfl)]
  exact ⟨_, _, rfl, c2.mono (by decide), L2, Or.inr ⟨hp, rfl, by rw [si_row, up1_eq]⟩⟩
theorem m_loop (O : TkOK K n by_) (f : Nat) : ∀ N c j l cs v y, f + c = 12 → f + 2 ≤ N → pg_i y 81 15 = nI (tm_ K) → RP K y j l → j ≤ tm_ K → l ≤ 50 → RO2 K y (F_X12_reads_34 N 81 (nI c) y) (aftL K f j l cs v) := by
  induction f with
  | zero =>
    intro N c j l cs v y h1 h2 ht h hj hl
    obtain ⟨N', rfl⟩ : ∃ N', N = N' + 2 := ⟨N - 2, by omega⟩
    have L := h.1
    rw [F_X12_reads_34]
    dsimp only
    unfold aftL
    rw [show F_X12_sign (59 : Int32) = some (nI 159) from rfl, Option.bind_some, nc_81 L.kd, m_takes h hj O.1 159 (by omega) (O.rc hj)]
    by_cases q : trc K j = 159
    · have jl := O.lt hj (by omega)
      have r1 := h.go.1
      rw [if_pos q, Option.bind_some, if_neg (show ¬ (1 : Int32) = 0 by decide), if_pos q, if_pos (show nI c = (12 : Int32) by rw [show c = 12 by omega]; rfl), nc_81 r1.1.kd, m_faults r1 jl O.1, Option.bind_some]
      unfold F_X12_reads_56 F_X12_reads_67 textL
      have B := r1.bad
      rw [nc_81 B.2.1.kd, d_fine (dd_of O B.2.1 B.2.2 jl), Option.bind_some, if_pos rfl]
      exact d_34 O _ _ ((m_go h).trans B.1) B.2.1 B.2.2 jl
    · rw [if_neg q, Option.bind_some, if_pos rfl, if_neg q, nc_81 L.kd, m_fine h, Option.bind_some, if_neg (show ¬ (1 : Int32) = 0 by decide), ng_81 L.kd, h.2.1, Option.bind_some, ng_81 L.kd, ht, Option.bind_some]
      have m4 := O.1
      by_cases q2 : j = tm_ K
      · rw [if_pos q2, if_neg (show ¬ nI j < nI (tm_ K) from nI_nlt (by omega) (by omega))]
        exact m_95 h _ (by simp)
      · rw [if_neg q2, if_pos (show nI j < nI (tm_ K) from nI_lt (by omega) (by omega)), nc_81 L.kd, m_faults h hj O.1, Option.bind_some]
        exact d_95 O h.bad.1 h.bad.2.1 h.bad.2.2 hj
  | succ f ih =>
    intro N c j l cs v y h1 h2 ht h hj hl
    obtain ⟨N', rfl⟩ : ∃ N', N = N' + 2 := ⟨N - 2, by omega⟩
    have L := h.1
    rw [F_X12_reads_34]
    dsimp only
    unfold aftL
    rw [show F_X12_sign (59 : Int32) = some (nI 159) from rfl, Option.bind_some, nc_81 L.kd, m_takes h hj O.1 159 (by omega) (O.rc hj)]
    by_cases q : trc K j = 159
    · have jl := O.lt hj (by omega)
      have r1 := h.go.1
      rw [if_pos q, Option.bind_some, if_neg (show ¬ (1 : Int32) = 0 by decide), if_pos q, if_neg (show ¬ nI c = (12 : Int32) from fun z => by have := (nI_eq (b := 12) (by omega) (by decide)).mp z; omega)]
      unfold F_X12_reads_56 F_X12_reads_67
      rw [nc_81 r1.1.kd, m_fine r1, Option.bind_some, if_neg (show ¬ (1 : Int32) = 0 by decide), nc_81 r1.1.kd, textL_S]
      obtain ⟨y2, e2, c2, L2, z⟩ := m_clause O cs.length r1 jl hl
      have B := b_clause O (j + 1) l cs.length jl hl
      rw [e2, Option.bind_some]
      rcases z with ⟨z1, z2⟩ | ⟨z1, z2⟩
      · rw [thn_0 z1]
        exact d_34 O _ _ ((m_go h).trans c2) L2 z2 (B.1 z1)
      · rw [thn_1 z1, nI_1]
        have b := B.2 z1
        have c3 := (m_go h).trans c2
        exact RO2.trans c3 (ih _ (c + 1) _ _ _ _ _ (by omega) (by omega) (by rw [c3.atM (R := []) (F := [(81, 15)]) (by decide) (by decide)]; exact ht) z2 b.2.1 b.2.2.1)
    · rw [if_neg q, Option.bind_some, if_pos rfl, if_neg q, nc_81 L.kd, m_fine h, Option.bind_some, if_neg (show ¬ (1 : Int32) = 0 by decide), ng_81 L.kd, h.2.1, Option.bind_some, ng_81 L.kd, ht, Option.bind_some]
      have m4 := O.1
      by_cases q2 : j = tm_ K
      · rw [if_pos q2, if_neg (show ¬ nI j < nI (tm_ K) from nI_nlt (by omega) (by omega))]
        exact m_95 h _ (by simp)
      · rw [if_neg q2, if_pos (show nI j < nI (tm_ K) from nI_lt (by omega) (by omega)), nc_81 L.kd, m_faults h hj O.1, Option.bind_some]
        exact d_95 O h.bad.1 h.bad.2.1 h.bad.2.2 hj
/-- what reads does behind splits -/
theorem m_text (O : TkOK K n by_) {y : pg_H} (ht : pg_i y 81 15 = nI (tm_ K)) (h : RP K y 0 0) : RO2 K y (Option.bind (pg_rcv 12 y 81 (F_X12_readClause 81 y)) fun v7 => F_X12_reads_34 pg_fuel 81 (1 : Int32) v7) (textP K) := by
  unfold textP
  rw [textL_S, show ([] : List Nat).length = 0 from rfl]
  obtain ⟨y2, e2, c2, L2, z⟩ := m_clause O 0 h (Nat.zero_le _) (by omega)
  have B := b_clause O 0 0 0 (Nat.zero_le _) (by omega)
  obtain ⟨F, hF⟩ := fuel_S
  rw [nc_81 h.1.kd, e2, Option.bind_some]
  rcases z with ⟨z1, z2⟩ | ⟨z1, z2⟩
  · rw [thn_0 z1, hF]
    exact d_34 O _ _ c2 L2 z2 (B.1 z1)
  · rw [thn_1 z1]
    have b := B.2 z1
    exact RO2.trans c2 (m_loop O 11 _ 1 _ _ _ _ _ (by omega) (by unfold pg_fuel; omega) (by rw [c2.atM (R := []) (F := [(81, 15)]) (by decide) (by decide)]; exact ht) z2 b.2.1 b.2.2.1)
end CLAUSE
