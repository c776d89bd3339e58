/-! TEXTS: the reference's parser is the plain one -/
def RO {α : Type} (K : Tk) (y : pg_H) (r : Option pg_H) (p : Rs α) : Prop := ∃ y', r = some y' ∧ Ch [] [(81, 16), (81, 17), (81, 18)] y y' ∧ Lay y' ∧ ((p.1 = 0 ∧ pg_i y' 81 18 = nI (tpos K p.2.1)) ∨ (p.1 ≠ 0 ∧ RP K y' p.2.1 p.2.2.1))
def RSm {α : Type} (K : Tk) (g : Nat → Int32 → pg_H → Option pg_H) (d : Nat) (P : Ps α) : Prop := ∀ y i l a, RP K y i l → i ≤ tm_ K → l ≤ 50 → RO K y (g 81 (nI d) y) (P i l a)
section PARSEM
variable {K : Tk} {n : Nat} {by_ : Nat → Nat} {α : Type}
theorem TkOK.rc (O : TkOK K n by_) {i : Nat} (hi : i ≤ tm_ K) : trc K i < 1000 := by
  have z := (O.2.2.1 i hi).2.1
  unfold codeR at z
  omega
theorem dd_of (O : TkOK K n by_) {y : pg_H} {f : Nat} (L : Lay y) (e : pg_i y 81 18 = nI (tpos K f)) (hf : f ≤ tm_ K) : Dd y := by
  have z := (O.2.2.1 f hf).1
  refine ⟨L, ?_⟩
  rw [e]
  exact nI_no (by omega)
theorem RO.trans {y y1 : pg_H} {r : Option pg_H} {p : Rs α} (c : Ch [] [(81, 16), (81, 17), (81, 18)] y y1) (h : RO K y1 r p) : RO K y r p := by
  obtain ⟨y', e, c2, z⟩ := h
  exact ⟨y', e, c.trans c2, z⟩
theorem ro_dead {y y' : pg_H} {f : Nat} (c : Ch [] [(81, 16), (81, 17), (81, 18)] y y') (L : Lay y') (e : pg_i y' 81 18 = nI (tpos K f)) : RO K y (some y') (bad_ f : Rs α) := ⟨y', rfl, c, L, Or.inl ⟨rfl, e⟩⟩
theorem ro_good {y y' : pg_H} {p : Rs α} (c : Ch [] [(81, 16), (81, 17), (81, 18)] y y') (h : RP K y' p.2.1 p.2.2.1) (e : p.1 ≠ 0) : RO K y (some y') p := ⟨y', rfl, c, h.1, Or.inr ⟨e, h⟩⟩
theorem RP.bad {y : pg_H} {i l : Nat} (h : RP K y i l) : Ch [] [(81, 16), (81, 17), (81, 18)] y (pg_si y 81 18 (nI (tpos K i))) ∧ Lay (pg_si y 81 18 (nI (tpos K i))) ∧ pg_i (pg_si y 81 18 (nI (tpos K i))) 81 18 = nI (tpos K i) := by
  have c1 : Ch [] [(81, 16), (81, 17), (81, 18)] y (pg_si y 81 18 (nI (tpos K i))) := (Ch.refl _ _ _).asi (Or.inr (by decide))
  exact ⟨c1, c1.lay h.1 (by decide), by rw [si_row, up1_eq]⟩
theorem ro_bad {y : pg_H} {i l : Nat} (h : RP K y i l) : RO K y (some (pg_si y 81 18 (nI (tpos K i)))) (bad_ i : Rs α) := ro_dead h.bad.1 h.bad.2.1 h.bad.2.2
theorem m_go {y : pg_H} {i l : Nat} (h : RP K y i l) : Ch [] [(81, 16), (81, 17), (81, 18)] y (pg_si y 81 16 (nI (i + 1))) := h.go.2.mono (by decide)
theorem m_must (O : TkOK K n by_) {y : pg_H} {i l : Nat} (h : RP K y i l) (hi : i ≤ tm_ K) (c : Nat) (hc : c < 1000) : F_X12_must 81 (nI c) y = some (if trc K i = c then pg_si y 81 16 (nI (i + 1)) else pg_si y 81 18 (nI (tpos K i))) := by
  unfold F_X12_must
  rw [nc_81 h.1.kd, m_takes h hi O.1 c hc (O.rc hi)]
  by_cases q : trc K i = c
  · rw [if_pos q, if_pos q, Option.bind_some, if_neg (show ¬ (1 : Int32) = 0 by decide)]
  · rw [if_neg q, if_neg q, Option.bind_some, if_pos rfl, nc_81 h.1.kd, m_faults h hi O.1, Option.bind_some]
theorem m_close (O : TkOK K n by_) {y y1 : pg_H} {r : Rs α} (c : Nat) (hc : c < 1000) (h : RO K y (some y1) r) (h0 : r.1 = 0 → r.2.1 ≤ tm_ K) (h1 : r.1 ≠ 0 → r.2.1 ≤ tm_ K) : Lay y1 ∧ RO K y (F_X12_must 81 (nI c) y1) (closeP K c r) := by
  obtain ⟨y', e, c1, L, z⟩ := h
  cases Option.some.inj e
  refine ⟨L, ?_⟩
  unfold closeP
  rcases z with ⟨z1, z2⟩ | ⟨z1, z2⟩
  · rw [thn_0 z1, d_must (dd_of O L z2 (h0 z1))]
    exact ro_dead c1 L z2
  · rw [thn_1 z1, m_must O z2 (h1 z1) c hc]
    by_cases q : trc K r.2.1 = c
    · rw [if_pos q, if_pos q]
      exact ro_good (c1.trans (m_go z2)) z2.go.1 (by simp)
    · rw [if_neg q, if_neg q]
      exact (ro_bad z2).trans c1
theorem m_leaf (O : TkOK K n by_) {y : pg_H} {i l : Nat} (h : RP K y i l) (hi : i ≤ tm_ K) (hl : l ≤ 50) (cs : List Nat) (v : (Nat → Int32) → Option α) : RO K y (F_X12_leaf 81 y) (if l < 50 then (1, i + 1, l + 1, cs, v) else bad_ i) := by
  have L := h.1
  unfold F_X12_leaf
  rw [ng_81 L.kd, h.2.2.1, Option.bind_some]
  by_cases q : l < 50
  · rw [if_neg (show ¬ nI l = (50 : Int32) from fun z => by have := (nI_eq (b := 50) (by omega) (by decide)).mp z; omega), if_pos q]
    unfold F_X12_leaf_13
    have c1 : Ch [] [(81, 16), (81, 17), (81, 18)] y (pg_si y 81 17 (nI (l + 1))) := (Ch.refl _ _ _).asi (Or.inr (by decide))
    have L1 := c1.lay L (by decide)
    have r1 : RP K (pg_si y 81 17 (nI (l + 1))) i (l + 1) := by
      have c2 : Ch [] [(81, 17)] y (pg_si y 81 17 (nI (l + 1))) := (Ch.refl _ _ _).asi (Or.inr (by decide))
      obtain ⟨_, h2, h3, h4, h5⟩ := h
      refine ⟨L1, ?_, by rw [si_row, up1_eq], ?_, fun k hk => ?_⟩
      · rw [c2.atM (R := []) (F := [(81, 16)]) (by decide) (by decide)]; exact h2
      · rw [c2.atM (R := []) (F := [(81, 18)]) (by decide) (by decide)]; exact h4
      · rw [c2.row (r := 89) (by decide), c2.row (r := 91) (by decide), c2.row (r := 90) (by decide)]
        exact h5 k hk
    rw [ng_81 L.kd, h.2.2.1, Option.bind_some, nI_1, np_81 L.kd, Option.bind_some, nc_81 L1.kd, m_fine r1, Option.bind_some, if_neg (show ¬ (1 : Int32) = 0 by decide), ng_81 L1.kd, r1.2.1, Option.bind_some, nI_1, np_81 L1.kd, Option.bind_some]
    exact ro_good (c1.trans (m_go r1)) r1.go.1 (by simp)
  · rw [show l = 50 by omega, if_pos (show nI 50 = (50 : Int32) from rfl), if_neg (by omega), nc_81 L.kd, m_faults h hi O.1, Option.bind_some]
    have B := h.bad
    have D := dd_of O B.2.1 B.2.2 hi
    unfold F_X12_leaf_13
    have L1 := B.2.1
    have c2 : Ch [] [(81, 17)] (pg_si y 81 18 (nI (tpos K i))) (pg_si (pg_si y 81 18 (nI (tpos K i))) 81 17 (nI (l + 1))) := (Ch.refl _ _ _).asi (Or.inr (by decide))
    have c3 := c2.lay L1 (by decide)
    have e3 : pg_i (pg_si (pg_si y 81 18 (nI (tpos K i))) 81 17 (nI (l + 1))) 81 18 = nI (tpos K i) := by
      rw [c2.atM (R := []) (F := [(81, 18)]) (by decide) (by decide)]; exact B.2.2
    have e4 : pg_i (pg_si y 81 18 (nI (tpos K i))) 81 17 = nI l := by
      have c5 : Ch [] [(81, 18)] y (pg_si y 81 18 (nI (tpos K i))) := (Ch.refl _ _ _).asi (Or.inr (by decide))
      rw [c5.atM (R := []) (F := [(81, 17)]) (by decide) (by decide)]; exact h.2.2.1
    rw [ng_81 L1.kd, e4, Option.bind_some, nI_1, np_81 L1.kd, Option.bind_some, nc_81 c3.kd, d_fine (dd_of O c3 e3 hi), Option.bind_some, if_pos rfl]
    exact ro_dead (B.1.trans (c2.mono (by decide))) c3 e3
theorem dd_37 {gS : Nat → Int32 → pg_H → Option pg_H} {y : pg_H} (h : Dd y) (d : Int32) : F_X12_readPart_37 gS 81 d y = some y := by
  unfold F_X12_readPart_37
  rw [nc_81 h.1.kd, d_fine h, Option.bind_some, if_pos rfl]
theorem dd_53 {gT gS : Nat → Int32 → pg_H → Option pg_H} {y : pg_H} (h : Dd y) (d : Int32) : F_X12_readPlain_53 gT gS 81 d y = some y := by
  unfold F_X12_readPlain_53
  rw [nc_81 h.1.kd, d_fine h, Option.bind_some, if_pos rfl]
theorem m_part (O : TkOK K n by_) {gS : Nat → Int32 → pg_H → Option pg_H} {d : Nat} {br : Bool} {S : Ps Int64} (hd : d ≤ 8 ∧ (br = true ↔ d < 8)) (hB : br = true → PBd K (SBd K) S) (hS : br = true → RSm K gS (d + 1) S) : RSm K (B_X12_readPart gS) d (partP K br S) := fun y i l a h hi hl => by
  have L := h.1
  have rc := O.rc hi
  unfold B_X12_readPart partP
  rw [nc_81 L.kd, m_fine h, Option.bind_some, if_neg (show ¬ (1 : Int32) = 0 by decide), nR_81_12 L.kd L.rd, Option.bind_some, ng_81 L.kd, h.2.1, Option.bind_some, m_code h hi O.1, Option.bind_some, show F_X12_sign (91 : Int32) = some (nI 191) from rfl, Option.bind_some]
  by_cases c1 : trc K i = 191
  · rw [if_pos (congrArg nI c1), if_pos c1]
    have e8 : nI d = (8 : Int32) ↔ d = 8 := nI_eq (b := 8) (by omega) (by decide)
    by_cases c2 : br = true
    · rw [if_pos c2, if_neg (fun z => by have := e8.mp z; have := hd.2.mp c2; omega)]
      unfold F_X12_readPart_37
      have r1 := h.go.1
      obtain ⟨y2, e2, w⟩ := hS c2 _ (i + 1) l a r1 (O.lt hi (by omega)) hl
      have B := hB c2 (i + 1) l a (O.lt hi (by omega)) hl
      have q := m_close O 193 (by omega) (show RO K _ (some y2) (S (i + 1) l a) from ⟨y2, rfl, w⟩) B.1 (fun e => (B.2 e).2.1)
      rw [nc_81 L.kd, m_fine h, Option.bind_some, if_neg (show ¬ (1 : Int32) = 0 by decide), ng_81 L.kd, h.2.1, Option.bind_some, nI_1, np_81 L.kd, Option.bind_some, nc_81 r1.1.kd, nI_1, e2, Option.bind_some, show F_X12_sign (93 : Int32) = some (nI 193) from rfl, Option.bind_some, nc_81 q.1.kd]
      obtain ⟨y3, e3, w3⟩ := q.2
      rw [e3]
      exact RO.trans (m_go h) ⟨y3, rfl, w3⟩
    · rw [if_neg c2, if_pos (e8.mpr (by have : ¬ d < 8 := fun z => c2 (hd.2.mpr z); omega)), nc_81 L.kd, m_faults h hi O.1, Option.bind_some, dd_37 (dd_of O h.bad.2.1 h.bad.2.2 hi)]
      exact ro_bad h
  · rw [if_neg (fun z => c1 ((nI_eq (by omega) (by omega)).mp z)), if_neg c1]
    have e50 : nI (trc K i) = (50 : Int32) ↔ trc K i = 50 := nI_eq (b := 50) (by omega) (by decide)
    have N : ¬ (trc K i = 50 ∧ trv K i ≤ 1000) → RO K y (F_X12_readPart_95 gS 81 (nI (trc K i)) y) (if 12 ≤ trc K i ∧ trc K i ≤ 20 then (if l < 50 then (1, i + 1, l + 1, [1, trc K i - 12], fun e => some (e (trc K i - 12)).toInt64) else bad_ i) else bad_ i) := fun _ => by
      unfold F_X12_readPart_95 F_X12_readPart_114 F_X12_readPart_107
      by_cases c4 : 12 ≤ trc K i ∧ trc K i ≤ 20
      · rw [if_neg (show ¬ nI (trc K i) < (12 : Int32) from nI_nlt (b := 12) (by omega) (by omega)), if_neg (show ¬ (20 : Int32) < nI (trc K i) from nI_nlt (a := 20) (by omega) (by decide)), if_pos c4, nc_81 L.kd]
        obtain ⟨y3, e3, w3⟩ := m_leaf O h hi hl [1, trc K i - 12] (fun e => some (e (trc K i - 12)).toInt64)
        rw [e3]
        exact ⟨y3, rfl, w3⟩
      · rw [if_neg c4, nc_81 L.kd, m_faults h hi O.1]
        by_cases c5 : trc K i < 12
        · rw [if_pos (show nI (trc K i) < (12 : Int32) from nI_lt (b := 12) c5 (by decide))]
          exact ro_bad h
        · rw [if_neg (show ¬ nI (trc K i) < (12 : Int32) from nI_nlt (b := 12) (by omega) (by omega)), if_pos (show (20 : Int32) < nI (trc K i) from nI_lt (a := 20) (by omega) (by omega))]
          exact ro_bad h
    by_cases c2 : trc K i = 50
    · rw [if_pos (e50.mpr c2), nR_81_13 L.kd L.rd, Option.bind_some, Option.bind_some, na_90 L.kd (Nat.lt_of_le_of_lt hi (by have := O.1; omega)), (h.2.2.2.2 i hi).2.2, Option.bind_some]
      have tv : trv K i < 100000000 := by
        have z := O.2.2.2.2.2.1 i hi
        have u := (O.2.2.1 i hi).2.1
        unfold codeR at u
        exact (z (by omega)).2.2
      by_cases c3 : trv K i ≤ 1000
      · rw [if_neg (show ¬ (1000 : Int32) < nI (trv K i) from nI_nlt (a := 1000) (by omega) (by decide)), if_pos ⟨c2, c3⟩]
        unfold F_X12_readPart_107
        rw [nc_81 L.kd]
        obtain ⟨y3, e3, w3⟩ := m_leaf O h hi hl [0, trv K i] (fun _ => some (nI (trv K i)).toInt64)
        rw [e3]
        exact ⟨y3, rfl, w3⟩
      · rw [if_pos (show (1000 : Int32) < nI (trv K i) from nI_lt (a := 1000) (by omega) (by omega)), if_neg (fun z => c3 z.2)]
        exact N (fun z => c3 z.2)
    · rw [if_neg (fun z => c2 (e50.mp z)), if_neg (fun z => c2 z.1)]
      exact N (fun z => c2 z.1)
theorem d_TermL {gP : Nat → Int32 → pg_H → Option pg_H} {y : pg_H} (h : Dd y) (d : Int32) (N : Nat) : F_X12_readTerm_5 gP (N + 1) 81 d y = some y := by
  rw [F_X12_readTerm_5]
  unfold F_X12_sign
  dsimp only
  rw [Option.bind_some, nc_81 h.1.kd, d_takes h, Option.bind_some, if_pos rfl, Option.bind_some, nc_81 h.1.kd, d_takes h, Option.bind_some, if_pos rfl]
theorem m_TermL (O : TkOK K n by_) {gP : Nat → Int32 → pg_H → Option pg_H} {d : Nat} {P : Ps Int64} (hB : PBd K (SBd K) P) (hP : RSm K gP d P) (o1 o2 a : Nat) (f : Nat) : ∀ N i l cs v y, tm_ K < i + f → f ≤ N → RP K y i l → i ≤ tm_ K → l ≤ 50 → RO K y (F_X12_readTerm_5 gP N 81 (nI d) y) (binL K 142 o1 147 o2 P a f i l cs v) := by
  induction f with
  | zero => exact fun N i l cs v y h1 h2 h hi hl => absurd h1 (by omega)
  | succ f ih =>
    intro N i l cs v y h1 h2 h hi hl
    obtain ⟨N', rfl⟩ : ∃ N', N = N' + 1 := ⟨N - 1, by omega⟩
    have L := h.1
    rw [F_X12_readTerm_5]
    dsimp only
    unfold binL
    have S : ∀ (ds : List Nat) (w : ((Nat → Int32) → Option Int64) → (Nat → Int32) → Option Int64), trc K i ≠ 0 → RO K y (F_X12_readTerm_29 gP (F_X12_readTerm_5 gP N') 81 (nI d) (pg_si y 81 16 (nI (i + 1)))) (thn (P (i + 1) l (a + cs.length)) fun j l' es u => binL K 142 o1 147 o2 P a f j l' (cs ++ es ++ ds) (w u)) := fun ds w hz => by
      have r1 := h.go.1
      have il := O.lt hi hz
      obtain ⟨y2, e2, c2, L2, z⟩ := hP _ (i + 1) l (a + cs.length) r1 il hl
      have B := hB (i + 1) l (a + cs.length) il hl
      unfold F_X12_readTerm_29
      rw [nc_81 r1.1.kd, e2, Option.bind_some]
      obtain ⟨N'', rfl⟩ : ∃ N'', N' = N'' + 1 := ⟨N' - 1, by omega⟩
      rcases z with ⟨z1, z2⟩ | ⟨z1, z2⟩
      · rw [thn_0 z1, d_TermL (dd_of O L2 z2 (B.1 z1))]
        exact ro_dead ((m_go h).trans c2) L2 z2
      · rw [thn_1 z1]
        have b := B.2 z1
        exact RO.trans ((m_go h).trans c2) (ih _ _ _ _ _ _ (by have := b.1; omega) (by omega) z2 b.2.1 b.2.2.1)
    rw [show F_X12_sign (42 : Int32) = some (nI 142) from rfl, Option.bind_some, nc_81 L.kd, m_takes h hi O.1 142 (by omega) (O.rc hi)]
    by_cases q1 : trc K i = 142
    · rw [if_pos q1, Option.bind_some, if_neg (show ¬ (1 : Int32) = 0 by decide), if_pos (Or.inl q1)]
      exact S _ _ (by omega)
    · rw [if_neg q1, Option.bind_some, if_pos rfl, show F_X12_sign (47 : Int32) = some (nI 147) from rfl, Option.bind_some, nc_81 L.kd, m_takes h hi O.1 147 (by omega) (O.rc hi)]
      by_cases q2 : trc K i = 147
      · rw [if_pos q2, Option.bind_some, if_neg (show ¬ (1 : Int32) = 0 by decide), if_pos (Or.inr q2)]
        exact S _ _ (by omega)
      · rw [if_neg q2, Option.bind_some, if_pos rfl, if_neg (fun z => z.elim q1 q2)]
        exact ro_good (Ch.refl _ _ _) h (by simp)
theorem m_Term (O : TkOK K n by_) {gP : Nat → Int32 → pg_H → Option pg_H} {d : Nat} {P : Ps Int64} (hB : PBd K (SBd K) P) (hP : RSm K gP d P) (o1 o2 : Nat) : RSm K (B_X12_readTerm gP) d (binP K 142 o1 147 o2 P) := fun y i l a h hi hl => by
  obtain ⟨y2, e2, c2, L2, z⟩ := hP y i l a h hi hl
  have B := hB i l a hi hl
  unfold B_X12_readTerm binP
  rw [nc_81 h.1.kd, e2, Option.bind_some]
  rcases z with ⟨z1, z2⟩ | ⟨z1, z2⟩
  · obtain ⟨f, hf⟩ := fuel_S
    rw [thn_0 z1, hf, d_TermL (dd_of O L2 z2 (B.1 z1))]
    exact ro_dead c2 L2 z2
  · rw [thn_1 z1]
    have b := B.2 z1
    exact RO.trans c2 (m_TermL O hB hP o1 o2 a 401 _ _ _ _ _ _ (by have := O.1; omega) (by unfold pg_fuel; omega) z2 b.2.1 b.2.2.1)
theorem d_SumL {gP : Nat → Int32 → pg_H → Option pg_H} {y : pg_H} (h : Dd y) (d : Int32) (N : Nat) : F_X12_readSum_5 gP (N + 1) 81 d y = some y := by
  rw [F_X12_readSum_5]
  unfold F_X12_sign
  dsimp only
  rw [Option.bind_some, nc_81 h.1.kd, d_takes h, Option.bind_some, if_pos rfl, Option.bind_some, nc_81 h.1.kd, d_takes h, Option.bind_some, if_pos rfl]
theorem m_SumL (O : TkOK K n by_) {gP : Nat → Int32 → pg_H → Option pg_H} {d : Nat} {P : Ps Int64} (hB : PBd K (SBd K) P) (hP : RSm K gP d P) (o1 o2 a : Nat) (f : Nat) : ∀ N i l cs v y, tm_ K < i + f → f ≤ N → RP K y i l → i ≤ tm_ K → l ≤ 50 → RO K y (F_X12_readSum_5 gP N 81 (nI d) y) (binL K 143 o1 145 o2 P a f i l cs v) := by
  induction f with
  | zero => exact fun N i l cs v y h1 h2 h hi hl => absurd h1 (by omega)
  | succ f ih =>
    intro N i l cs v y h1 h2 h hi hl
    obtain ⟨N', rfl⟩ : ∃ N', N = N' + 1 := ⟨N - 1, by omega⟩
    have L := h.1
    rw [F_X12_readSum_5]
    dsimp only
    unfold binL
    have S : ∀ (ds : List Nat) (w : ((Nat → Int32) → Option Int64) → (Nat → Int32) → Option Int64), trc K i ≠ 0 → RO K y (F_X12_readSum_29 gP (F_X12_readSum_5 gP N') 81 (nI d) (pg_si y 81 16 (nI (i + 1)))) (thn (P (i + 1) l (a + cs.length)) fun j l' es u => binL K 143 o1 145 o2 P a f j l' (cs ++ es ++ ds) (w u)) := fun ds w hz => by
      have r1 := h.go.1
      have il := O.lt hi hz
      obtain ⟨y2, e2, c2, L2, z⟩ := hP _ (i + 1) l (a + cs.length) r1 il hl
      have B := hB (i + 1) l (a + cs.length) il hl
      unfold F_X12_readSum_29
      rw [nc_81 r1.1.kd, e2, Option.bind_some]
      obtain ⟨N'', rfl⟩ : ∃ N'', N' = N'' + 1 := ⟨N' - 1, by omega⟩
      rcases z with ⟨z1, z2⟩ | ⟨z1, z2⟩
      · rw [thn_0 z1, d_SumL (dd_of O L2 z2 (B.1 z1))]
        exact ro_dead ((m_go h).trans c2) L2 z2
      · rw [thn_1 z1]
        have b := B.2 z1
        exact RO.trans ((m_go h).trans c2) (ih _ _ _ _ _ _ (by have := b.1; omega) (by omega) z2 b.2.1 b.2.2.1)
    rw [show F_X12_sign (43 : Int32) = some (nI 143) from rfl, Option.bind_some, nc_81 L.kd, m_takes h hi O.1 143 (by omega) (O.rc hi)]
    by_cases q1 : trc K i = 143
    · rw [if_pos q1, Option.bind_some, if_neg (show ¬ (1 : Int32) = 0 by decide), if_pos (Or.inl q1)]
      exact S _ _ (by omega)
    · rw [if_neg q1, Option.bind_some, if_pos rfl, show F_X12_sign (45 : Int32) = some (nI 145) from rfl, Option.bind_some, nc_81 L.kd, m_takes h hi O.1 145 (by omega) (O.rc hi)]
      by_cases q2 : trc K i = 145
      · rw [if_pos q2, Option.bind_some, if_neg (show ¬ (1 : Int32) = 0 by decide), if_pos (Or.inr q2)]
        exact S _ _ (by omega)
      · rw [if_neg q2, Option.bind_some, if_pos rfl, if_neg (fun z => z.elim q1 q2)]
        exact ro_good (Ch.refl _ _ _) h (by simp)
theorem m_Sum (O : TkOK K n by_) {gP : Nat → Int32 → pg_H → Option pg_H} {d : Nat} {P : Ps Int64} (hB : PBd K (SBd K) P) (hP : RSm K gP d P) (o1 o2 : Nat) : RSm K (B_X12_readSum gP) d (binP K 143 o1 145 o2 P) := fun y i l a h hi hl => by
  obtain ⟨y2, e2, c2, L2, z⟩ := hP y i l a h hi hl
  have B := hB i l a hi hl
  unfold B_X12_readSum binP
  rw [nc_81 h.1.kd, e2, Option.bind_some]
  rcases z with ⟨z1, z2⟩ | ⟨z1, z2⟩
  · obtain ⟨f, hf⟩ := fuel_S
    rw [thn_0 z1, hf, d_SumL (dd_of O L2 z2 (B.1 z1))]
    exact ro_dead c2 L2 z2
  · rw [thn_1 z1]
    have b := B.2 z1
    exact RO.trans c2 (m_SumL O hB hP o1 o2 a 401 _ _ _ _ _ _ (by have := O.1; omega) (by unfold pg_fuel; omega) z2 b.2.1 b.2.2.1)
theorem d_BothL {gP : Nat → Int32 → pg_H → Option pg_H} {y : pg_H} (h : Dd y) (d : Int32) (N : Nat) : F_X12_readBoth_5 gP (N + 1) 81 d y = some y := by
  rw [F_X12_readBoth_5]
  dsimp only
  rw [nc_81 h.1.kd, d_takes h, Option.bind_some, if_pos rfl]
theorem m_BothL (O : TkOK K n by_) {gP : Nat → Int32 → pg_H → Option pg_H} {d : Nat} {P : Ps Bool} (hB : PBd K (TBd K) P) (hP : RSm K gP d P) (o a : Nat) (f : Nat) : ∀ N i l cs v y, tm_ K < i + f → f ≤ N → RP K y i l → i ≤ tm_ K → l ≤ 50 → RO K y (F_X12_readBoth_5 gP N 81 (nI d) y) (jmpL K 10 o P a f i l cs v) := by
  induction f with
  | zero => exact fun N i l cs v y h1 h2 h hi hl => absurd h1 (by omega)
  | succ f ih =>
    intro N i l cs v y h1 h2 h hi hl
    obtain ⟨N', rfl⟩ : ∃ N', N = N' + 1 := ⟨N - 1, by omega⟩
    have L := h.1
    rw [F_X12_readBoth_5]
    dsimp only
    unfold jmpL
    rw [show (10 : Int32) = nI 10 from rfl, nc_81 L.kd, m_takes h hi O.1 10 (by omega) (O.rc hi)]
    by_cases q1 : trc K i = 10
    · rw [if_pos q1, Option.bind_some, if_neg (show ¬ (1 : Int32) = 0 by decide), if_pos q1]
      have r1 := h.go.1
      have il := O.lt hi (by omega)
      obtain ⟨y2, e2, c2, L2, z⟩ := hP _ (i + 1) l (a + cs.length + 2) r1 il hl
      have B := hB (i + 1) l (a + cs.length + 2) il hl
      rw [nc_81 r1.1.kd, e2, Option.bind_some]
      obtain ⟨N'', rfl⟩ : ∃ N'', N' = N'' + 1 := ⟨N' - 1, by omega⟩
      rcases z with ⟨z1, z2⟩ | ⟨z1, z2⟩
      · rw [thn_0 z1, d_BothL (dd_of O L2 z2 (B.1 z1))]
        exact ro_dead ((m_go h).trans c2) L2 z2
      · rw [thn_1 z1]
        have b := B.2 z1
        exact RO.trans ((m_go h).trans c2) (ih _ _ _ _ _ _ (by have := b.1; omega) (by omega) z2 b.2.1 b.2.2.1)
    · rw [if_neg q1, Option.bind_some, if_pos rfl, if_neg q1]
      exact ro_good (Ch.refl _ _ _) h (by simp)
theorem m_Both (O : TkOK K n by_) {gP : Nat → Int32 → pg_H → Option pg_H} {d : Nat} {P : Ps Bool} (hB : PBd K (TBd K) P) (hP : RSm K gP d P) (o : Nat) : RSm K (B_X12_readBoth gP) d (jmpP K 10 o P) := fun y i l a h hi hl => by
  obtain ⟨y2, e2, c2, L2, z⟩ := hP y i l a h hi hl
  have B := hB i l a hi hl
  unfold B_X12_readBoth jmpP
  rw [nc_81 h.1.kd, e2, Option.bind_some]
  rcases z with ⟨z1, z2⟩ | ⟨z1, z2⟩
  · obtain ⟨f, hf⟩ := fuel_S
    rw [thn_0 z1, hf, d_BothL (dd_of O L2 z2 (B.1 z1))]
    exact ro_dead c2 L2 z2
  · rw [thn_1 z1]
    have b := B.2 z1
    exact RO.trans c2 (m_BothL O hB hP o a 401 _ _ _ _ _ _ (by have := O.1; omega) (by unfold pg_fuel; omega) z2 b.2.1 b.2.2.1)
theorem d_TestL {gP : Nat → Int32 → pg_H → Option pg_H} {y : pg_H} (h : Dd y) (d : Int32) (N : Nat) : F_X12_readTest_5 gP (N + 1) 81 d y = some y := by
  rw [F_X12_readTest_5]
  dsimp only
  rw [nc_81 h.1.kd, d_takes h, Option.bind_some, if_pos rfl]
theorem m_TestL (O : TkOK K n by_) {gP : Nat → Int32 → pg_H → Option pg_H} {d : Nat} {P : Ps Bool} (hB : PBd K (TBd K) P) (hP : RSm K gP d P) (o a : Nat) (f : Nat) : ∀ N i l cs v y, tm_ K < i + f → f ≤ N → RP K y i l → i ≤ tm_ K → l ≤ 50 → RO K y (F_X12_readTest_5 gP N 81 (nI d) y) (jmpL K 9 o P a f i l cs v) := by
  induction f with
  | zero => exact fun N i l cs v y h1 h2 h hi hl => absurd h1 (by omega)
  | succ f ih =>
    intro N i l cs v y h1 h2 h hi hl
    obtain ⟨N', rfl⟩ : ∃ N', N = N' + 1 := ⟨N - 1, by omega⟩
    have L := h.1
    rw [F_X12_readTest_5]
    dsimp only
    unfold jmpL
    rw [show (9 : Int32) = nI 9 from rfl, nc_81 L.kd, m_takes h hi O.1 9 (by omega) (O.rc hi)]
    by_cases q1 : trc K i = 9
    · rw [if_pos q1, Option.bind_some, if_neg (show ¬ (1 : Int32) = 0 by decide), if_pos q1]
      have r1 := h.go.1
      have il := O.lt hi (by omega)
      obtain ⟨y2, e2, c2, L2, z⟩ := hP _ (i + 1) l (a + cs.length + 2) r1 il hl
      have B := hB (i + 1) l (a + cs.length + 2) il hl
      rw [nc_81 r1.1.kd, e2, Option.bind_some]
      obtain ⟨N'', rfl⟩ : ∃ N'', N' = N'' + 1 := ⟨N' - 1, by omega⟩
      rcases z with ⟨z1, z2⟩ | ⟨z1, z2⟩
      · rw [thn_0 z1, d_TestL (dd_of O L2 z2 (B.1 z1))]
        exact ro_dead ((m_go h).trans c2) L2 z2
      · rw [thn_1 z1]
        have b := B.2 z1
        exact RO.trans ((m_go h).trans c2) (ih _ _ _ _ _ _ (by have := b.1; omega) (by omega) z2 b.2.1 b.2.2.1)
    · rw [if_neg q1, Option.bind_some, if_pos rfl, if_neg q1]
      exact ro_good (Ch.refl _ _ _) h (by simp)
theorem m_Test (O : TkOK K n by_) {gP : Nat → Int32 → pg_H → Option pg_H} {d : Nat} {P : Ps Bool} (hB : PBd K (TBd K) P) (hP : RSm K gP d P) (o : Nat) : RSm K (B_X12_readTest gP) d (jmpP K 9 o P) := fun y i l a h hi hl => by
  obtain ⟨y2, e2, c2, L2, z⟩ := hP y i l a h hi hl
  have B := hB i l a hi hl
  unfold B_X12_readTest jmpP
  rw [nc_81 h.1.kd, e2, Option.bind_some]
  rcases z with ⟨z1, z2⟩ | ⟨z1, z2⟩
  · obtain ⟨f, hf⟩ := fuel_S
    rw [thn_0 z1, hf, d_TestL (dd_of O L2 z2 (B.1 z1))]
    exact ro_dead c2 L2 z2
  · rw [thn_1 z1]
    have b := B.2 z1
    exact RO.trans c2 (m_TestL O hB hP o a 401 _ _ _ _ _ _ (by have := O.1; omega) (by unfold pg_fuel; omega) z2 b.2.1 b.2.2.1)
theorem m_nots (O : TkOK K n by_) {gT gS : Nat → Int32 → pg_H → Option pg_H} {d : Int32} {l : Nat} (f : Nat) : ∀ N i b y, tm_ K < i + f → f ≤ N → RP K y i l → i ≤ tm_ K →
    ∃ N' y', F_X12_readPlain_2 gT gS (N + 1) 81 d 1 y = F_X12_readPlain_2 gT gS (N' + 1) 81 d 0 y' ∧ Ch [] [(81, 16), (81, 17), (81, 18)] y y' ∧ RP K y' (nots K f i b).1 l := by
  induction f with
  | zero => exact fun N i b y h1 h2 h hi => absurd h1 (by omega)
  | succ f ih =>
    intro N i b y h1 h2 h hi
    obtain ⟨N1, rfl⟩ : ∃ N1, N = N1 + 1 := ⟨N - 1, by omega⟩
    unfold nots
    rw [F_X12_readPlain_2]
    dsimp only
    rw [if_neg (show ¬ (1 : Int32) = 0 by decide), show (11 : Int32) = nI 11 from rfl, nc_81 h.1.kd, m_takes h hi O.1 11 (by omega) (O.rc hi)]
    by_cases q : trc K i = 11
    · rw [if_pos q, Option.bind_some, if_pos q]
      have il := O.lt hi (by omega)
      obtain ⟨N', y', e, c, r⟩ := ih N1 (i + 1) (!b) _ (by omega) (by omega) h.go.1 il
      exact ⟨N', y', e, (m_go h).trans c, r⟩
    · rw [if_neg q, Option.bind_some, if_neg q]
      exact ⟨N1, y, rfl, Ch.refl _ _ _, h⟩
theorem dd_128 {gT gS : Nat → Int32 → pg_H → Option pg_H} (hD : DeadR gS) {y : pg_H} (h : Dd y) (d : Int32) : F_X12_readPlain_128 gT gS 81 d y = some y := by
  unfold F_X12_readPlain_128
  rw [nc_81 h.1.kd, hD d y h, Option.bind_some]
theorem m_pos (O : TkOK K n by_) {gT gS : Nat → Int32 → pg_H → Option pg_H} {d : Nat} {br : Bool} {T : Ps Bool} {S : Ps Int64} (hd : d ≤ 8 ∧ (br = true ↔ d < 8)) (hBT : br = true → PBd K (TBd K) T) (hT : br = true → RSm K gT (d + 1) T)
    (hB : PBd K (SBd K) S) (hS : RSm K gS d S) (hD : DeadR gS) (N i l a : Nat) (y : pg_H) (h : RP K y i l) (hi : i ≤ tm_ K) (hl : l ≤ 50) : RO K y (F_X12_readPlain_2 gT gS (N + 1) 81 (nI d) 0 y) (posP K br T S i l a) := by
  have L := h.1
  have rc := O.rc hi
  rw [F_X12_readPlain_2]
  dsimp only
  unfold posP
  rw [if_pos rfl, nc_81 L.kd, m_fine h, Option.bind_some, if_neg (show ¬ (1 : Int32) = 0 by decide), nR_81_12 L.kd L.rd, Option.bind_some, ng_81 L.kd, h.2.1, Option.bind_some, m_code h hi O.1, Option.bind_some, show F_X12_sign (40 : Int32) = some (nI 140) from rfl, Option.bind_some]
  by_cases c1 : trc K i = 140
  · rw [if_pos (congrArg nI c1), if_pos c1]
    have e8 : nI d = (8 : Int32) ↔ d = 8 := nI_eq (b := 8) (by omega) (by decide)
    by_cases c2 : br = true
    · rw [if_pos c2, if_neg (fun z => by have := e8.mp z; have := hd.2.mp c2; omega)]
      unfold F_X12_readPlain_53
      have r1 := h.go.1
      obtain ⟨y2, e2, w⟩ := hT c2 _ (i + 1) l a r1 (O.lt hi (by omega)) hl
      have B := hBT c2 (i + 1) l a (O.lt hi (by omega)) hl
      have q := m_close O 141 (by omega) (show RO K _ (some y2) (T (i + 1) l a) from ⟨y2, rfl, w⟩) B.1 (fun e => (B.2 e).2.1)
      rw [nc_81 L.kd, m_fine h, Option.bind_some, if_neg (show ¬ (1 : Int32) = 0 by decide), ng_81 L.kd, h.2.1, Option.bind_some, nI_1, np_81 L.kd, Option.bind_some, nc_81 r1.1.kd, nI_1, e2, Option.bind_some, show F_X12_sign (41 : Int32) = some (nI 141) from rfl, Option.bind_some, nc_81 q.1.kd]
      obtain ⟨y3, e3, w3⟩ := q.2
      rw [e3]
      exact RO.trans (m_go h) ⟨y3, rfl, w3⟩
    · rw [if_neg c2, if_pos (e8.mpr (by have : ¬ d < 8 := fun z => c2 (hd.2.mpr z); omega)), nc_81 L.kd, m_faults h hi O.1, Option.bind_some, dd_53 (dd_of O h.bad.2.1 h.bad.2.2 hi)]
      exact ro_bad h
  · rw [if_neg (fun z => c1 ((nI_eq (by omega) (by omega)).mp z)), if_neg c1]
    unfold cmpP
    obtain ⟨y2, e2, c2, L2, z⟩ := hS y i l a h hi hl
    have B := hB i l a hi hl
    rw [nc_81 L.kd, e2, Option.bind_some, show F_X12_sign (60 : Int32) = some (nI 160) from rfl, Option.bind_some, nc_81 L2.kd, show F_X12_sign (62 : Int32) = some (nI 162) from rfl, show F_X12_sign (61 : Int32) = some (nI 161) from rfl]
    rcases z with ⟨z1, z2⟩ | ⟨z1, z2⟩
    · have D := dd_of O L2 z2 (B.1 z1)
      rw [thn_0 z1, d_takes D, Option.bind_some, if_pos rfl, Option.bind_some, nc_81 L2.kd, d_takes D, Option.bind_some, if_pos rfl, Option.bind_some, nc_81 L2.kd, d_must D, Option.bind_some, dd_128 hD D]
      exact ro_dead c2 L2 z2
    · rw [thn_1 z1]
      have b := B.2 z1
      have S2 : trc K (S i l a).2.1 ≠ 0 → ∀ (ds : List Nat) (u : ((Nat → Int32) → Option Int64) → (Nat → Int32) → Option Bool), RO K y (F_X12_readPlain_128 gT gS 81 (nI d) (pg_si y2 81 16 (nI ((S i l a).2.1 + 1)))) (thn (S ((S i l a).2.1 + 1) (S i l a).2.2.1 (a + (S i l a).2.2.2.1.length)) fun j2 l2 es w => (1, j2, l2, (S i l a).2.2.2.1 ++ es ++ ds, u w)) := fun hz ds u => by
        have r2 := z2.go.1
        have jl := O.lt b.2.1 hz
        obtain ⟨y3, e3, c3, L3, w⟩ := hS _ ((S i l a).2.1 + 1) (S i l a).2.2.1 (a + (S i l a).2.2.2.1.length) r2 jl b.2.2.1
        unfold F_X12_readPlain_128
        rw [nc_81 r2.1.kd, e3, Option.bind_some]
        rcases w with ⟨w1, w2⟩ | ⟨w1, w2⟩
        · rw [thn_0 w1]
          exact ro_dead (c2.trans ((m_go z2).trans c3)) L3 w2
        · rw [thn_1 w1]
          exact ro_good (c2.trans ((m_go z2).trans c3)) w2 (by simp)
      rw [m_takes z2 b.2.1 O.1 160 (by omega) (O.rc b.2.1)]
      by_cases q1 : trc K (S i l a).2.1 = 160
      · rw [if_pos q1, Option.bind_some, if_neg (show ¬ (1 : Int32) = 0 by decide), if_pos (Or.inl q1)]
        exact S2 (by omega) _ _
      · rw [if_neg q1, Option.bind_some, if_pos rfl, Option.bind_some, nc_81 L2.kd, m_takes z2 b.2.1 O.1 162 (by omega) (O.rc b.2.1)]
        by_cases q2 : trc K (S i l a).2.1 = 162
        · rw [if_pos q2, Option.bind_some, if_neg (show ¬ (1 : Int32) = 0 by decide), if_pos (Or.inr (Or.inl q2))]
          exact S2 (by omega) _ _
        · rw [if_neg q2, Option.bind_some, if_pos rfl, Option.bind_some, nc_81 L2.kd, m_must O z2 b.2.1 161 (by omega), Option.bind_some]
          by_cases q3 : trc K (S i l a).2.1 = 161
          · rw [if_pos q3, if_pos (Or.inr (Or.inr q3))]
            exact S2 (by omega) _ _
          · rw [if_neg q3, if_neg (fun z => z.elim q1 fun z => z.elim q2 q3), dd_128 hD (dd_of O z2.bad.2.1 z2.bad.2.2 b.2.1)]
            exact (ro_bad z2).trans c2
theorem m_plain (O : TkOK K n by_) {gT gS : Nat → Int32 → pg_H → Option pg_H} {d : Nat} {br : Bool} {T : Ps Bool} {S : Ps Int64} (hd : d ≤ 8 ∧ (br = true ↔ d < 8)) (hBT : br = true → PBd K (TBd K) T) (hT : br = true → RSm K gT (d + 1) T)
    (hB : PBd K (SBd K) S) (hS : RSm K gS d S) (hD : DeadR gS) : RSm K (B_X12_readPlain gT gS) d (plainP K br T S) := fun y i l a h hi hl => by
  unfold B_X12_readPlain plainP
  obtain ⟨F, hF⟩ := fuel_S
  have hF2 : 401 ≤ F := by unfold pg_fuel at hF; omega
  rw [hF]
  obtain ⟨N', y1, e1, c1, r1⟩ := m_nots O (gT := gT) (gS := gS) (d := nI d) 401 F i false y (by have := O.1; omega) hF2 h hi
  rw [e1]
  have bn := b_nots O 401 i false hi
  obtain ⟨y2, e2, c2, L2, z⟩ := m_pos O hd hBT hT hB hS hD N' _ l a y1 r1 bn.2.1 hl
  rw [e2]
  rcases z with ⟨z1, z2⟩ | ⟨z1, z2⟩
  · rw [thn_0 z1]
    exact ro_dead (c1.trans c2) L2 z2
  · rw [thn_1 z1]
    by_cases t : (nots K 401 i false).2 = true
    · rw [if_pos t]
      exact ro_good (c1.trans c2) z2 (by simp)
    · rw [if_neg t]
      exact ro_good (c1.trans c2) z2 (by simp)
/-! all depths -/
theorem dS (N : Nat) : DeadR (FG_X12_readTest (N + 3)).2.2.2.1 := d_sum (d_term d_part)
theorem m_sums (O : TkOK K n by_) (k : Nat) : ∀ N, k ≤ 8 → RSm K (FG_X12_readTest (N + 3 * k + 3)).2.2.2.1 (8 - k) (sumP K k) := by
  induction k with
  | zero => exact fun N _ => m_Sum O (b_bin O (by decide) (by decide) (b_part O (fun z => absurd z (by decide)))) (m_Term O (b_part O (fun z => absurd z (by decide))) (m_part O ⟨by omega, by simp⟩ (fun z => absurd z (by decide)) (fun z => absurd z (by decide))) 6 7) 4 5
  | succ k ih =>
    intro N hk
    have z := ih N (by omega)
    have e : 8 - k = 8 - (k + 1) + 1 := by omega
    rw [e] at z
    exact m_Sum O (b_bin O (by decide) (by decide) (b_part O (fun _ => b_sum O k))) (m_Term O (b_part O (fun _ => b_sum O k)) (m_part O ⟨by omega, ⟨fun _ => by omega, fun _ => rfl⟩⟩ (fun _ => b_sum O k) (fun _ => z)) 6 7) 4 5
theorem m_tests (O : TkOK K n by_) (k : Nat) : ∀ N, k ≤ 8 → RSm K (FG_X12_readTest (N + 3 * k + 6)).1 (8 - k) (testP K k) := by
  induction k with
  | zero => exact fun N _ => m_Test O (b_jmp O (by decide) (b_plain O (fun z => absurd z (by decide)) (b_sum O 0))) (m_Both O (b_plain O (fun z => absurd z (by decide)) (b_sum O 0)) (m_plain O ⟨by omega, by simp⟩ (fun z => absurd z (by decide)) (fun z => absurd z (by decide)) (b_sum O 0) (m_sums O 0 N (by omega)) (dS N)) 3) 2
  | succ k ih =>
    intro N hk
    have z := ih N (by omega)
    have e : 8 - k = 8 - (k + 1) + 1 := by omega
    rw [e] at z
    exact m_Test O (b_jmp O (by decide) (b_plain O (fun _ => b_test O k) (b_sum O (k + 1)))) (m_Both O (b_plain O (fun _ => b_test O k) (b_sum O (k + 1))) (m_plain O ⟨by omega, ⟨fun _ => by omega, fun _ => rfl⟩⟩ (fun _ => b_test O k) (fun _ => z) (b_sum O (k + 1)) (m_sums O (k + 1) N hk) (dS (N + 3 * (k + 1)))) 3) 2
theorem m_sum0 (O : TkOK K n by_) : RSm K F_X12_readSum 0 (sumP K 8) := m_sums O 8 1273 (by omega)
theorem m_test0 (O : TkOK K n by_) : RSm K F_X12_readTest 0 (testP K 8) := m_tests O 8 1270 (by omega)
end PARSEM
