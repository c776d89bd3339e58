/-! TEXTS: the two parsers' states and small steps. Tokens: m, places pos, ends stp, codes of the class cd, of the reference rc, numbers cv, rv -/
abbrev Tk : Type := Nat × (Nat → Nat) × (Nat → Nat) × (Nat → Nat) × (Nat → Nat) × (Nat → Nat) × (Nat → Nat)
def tm_ (K : Tk) : Nat := K.1
def tpos (K : Tk) : Nat → Nat := K.2.1
def tstp (K : Tk) : Nat → Nat := K.2.2.1
def tcd (K : Tk) : Nat → Nat := K.2.2.2.1
def trc (K : Tk) : Nat → Nat := K.2.2.2.2.1
def tcv (K : Tk) : Nat → Nat := K.2.2.2.2.2.1
def trv (K : Tk) : Nat → Nat := K.2.2.2.2.2.2
/-- the tape that both read, as it lies -/
def TapeAt (x : pg_H) (n : Nat) (by_ : Nat → Nat) : Prop := pg_i x 43 1 = nI n ∧ ∀ k, k < n → pg_i x 44 k = nI (by_ k)
/-- the class's parser before token i, with l parts and a codes -/
def CP (K : Tk) (n : Nat) (by_ : Nat → Nat) (x : pg_H) (i l a : Nat) : Prop :=
  Lay x ∧ TapeAt x n by_ ∧ pg_i x 45 5 = nI (tcd K i) ∧ pg_i x 45 3 = nI (tpos K i) ∧ pg_i x 45 4 = nI (tstp K i) ∧ pg_i x 45 7 = nI l ∧ pg_i x 45 2 = nI a ∧ pg_i x 45 8 = -1 ∧ (tcd K i = 21 → pg_i x 45 6 = nI (tcv K i))
/-- the reference's parser before token i -/
def RP (K : Tk) (y : pg_H) (i l : Nat) : Prop :=
  Lay y ∧ pg_i y 81 16 = nI i ∧ pg_i y 81 17 = nI l ∧ pg_i y 81 18 = -1 ∧ ∀ k, k ≤ tm_ K → pg_i y 89 k = nI (trc K k) ∧ pg_i y 91 k = nI (tpos K k) ∧ pg_i y 90 k = nI (trv K k)
/-- codes of the two sides for one token -/
def codeR (c r : Nat) : Prop := (c ≤ 19 ∧ r = c + 1) ∨ ((c = 20 ∨ c = 22) ∧ r = 0) ∨ (c = 21 ∧ r = 50) ∨ (100 ≤ c ∧ c < 356 ∧ r = c)
/-- the tokens are as they should be; the class goes on from each to the next -/
def TkOK (K : Tk) (n : Nat) (by_ : Nat → Nat) : Prop :=
  tm_ K ≤ 400 ∧ n ≤ 400 ∧ (∀ k, k ≤ tm_ K → tpos K k ≤ 400 ∧ codeR (tcd K k) (trc K k) ∧ (tcd K k = 22 ↔ k = tm_ K)) ∧ (∀ k, k < tm_ K → tpos K k < tpos K (k + 1)) ∧
  (∀ k, k < tm_ K → tcd K k = 10 → tpos K k + 3 ≤ tpos K (k + 1)) ∧ (∀ k, k ≤ tm_ K → tcd K k = 21 → ((tcv K k ≤ 1000 ↔ trv K k ≤ 1000) ∧ (tcv K k ≤ 1000 → tcv K k = trv K k)) ∧ tcv K k ≤ 1001 ∧ trv K k < 100000000) ∧
  ∀ x i l a, i < tm_ K → CP K n by_ x i l a → ∃ x', F_X3_advance 45 x = some x' ∧ CP K n by_ x' (i + 1) l a ∧ Ch [] [(45, 3), (45, 4), (45, 5), (45, 6)] x x'
section PARSE
variable {K : Tk} {n : Nat} {by_ : Nat → Nat} {x y : pg_H} {i l a : Nat}
theorem CP.cong {S : List Nat} {T : List (Nat × Nat)} {x' : pg_H} (h : CP K n by_ x i l a) (c : Ch S T x x') (L : Lay x') (d : dis S T [44] [(43, 1), (45, 3), (45, 4), (45, 5), (45, 6), (45, 7), (45, 2), (45, 8)] = true) : CP K n by_ x' i l a := by
  obtain ⟨_, h2, h3, h4, h5, h6, h7, h8, h9⟩ := h
  refine ⟨L, ?_, ?_, ?_, ?_, ?_, ?_, ?_, fun e => ?_⟩
  · unfold TapeAt
    rw [c.atM d (r := 43) (k := 1) (by simp), (c.rowM d (r := 44) (by simp)).1]
    exact h2
  · rw [c.atM d (r := 45) (k := 5) (by simp)]; exact h3
  · rw [c.atM d (r := 45) (k := 3) (by simp)]; exact h4
  · rw [c.atM d (r := 45) (k := 4) (by simp)]; exact h5
  · rw [c.atM d (r := 45) (k := 7) (by simp)]; exact h6
  · rw [c.atM d (r := 45) (k := 2) (by simp)]; exact h7
  · rw [c.atM d (r := 45) (k := 8) (by simp)]; exact h8
  · rw [c.atM d (r := 45) (k := 6) (by simp)]; exact h9 e
theorem c_fail (h : CP K n by_ x i l a) : F_X3_fail 45 x = some (0, pg_si x 45 8 (nI (tpos K i))) := by
  obtain ⟨L, _, _, h4, _⟩ := h
  unfold F_X3_fail
  rw [ng_45 L.kd, h4, Option.bind_some, np_45 L.kd]
  rfl
theorem c_emit (h : CP K n by_ x i l a) (ha : a < 400) (v : Int32) : ∃ x', F_X3_emit 45 v x = some x' ∧ CP K n by_ x' i l (a + 1) ∧ Ch [46] [(45, 2)] x x' ∧ pg_i x' 46 = up1 (pg_i x 46) a v := by
  obtain ⟨L, h2, h3, h4, h5, h6, h7, h8, h9⟩ := h
  have c1 : Ch [46] [(45, 2)] x (pg_si x 46 a v) := (Ch.refl _ _ _).asi (Or.inl (by decide))
  have c2 : Ch [46] [(45, 2)] x (pg_si (pg_si x 46 a v) 45 2 (nI (a + 1))) := c1.asi (Or.inr (by decide))
  have L1 := c1.lay L (by decide)
  have e2 : pg_i (pg_si x 46 a v) 45 2 = nI a := by rw [si_ne (by decide)]; exact h7
  refine ⟨_, ?_, ⟨c2.lay L (by decide), ?_, ?_, ?_, ?_, ?_, ?_, ?_, fun e => ?_⟩, c2, ?_⟩
  · unfold F_X3_emit
    rw [ng_45 L.kd, h7, Option.bind_some, if_neg (show ¬ nI a < (0 : Int32) from nI_nlt (b := 0) (Nat.zero_le _) (by omega)), Option.bind_some, if_pos (show nI a < (400 : Int32) from nI_lt (b := 400) ha (by decide)), nR_45_0 L.kd L.rd, Option.bind_some, Option.bind_some, ns_46 L.kd ha, Option.bind_some, ng_45 L1.kd, e2, Option.bind_some, nI_1, np_45 L1.kd, Option.bind_some]
  · unfold TapeAt
    rw [c2.atM (R := [44]) (F := [(43, 1)]) (by decide) (r := 43) (k := 1) (by decide), c2.row (r := 44) (by decide)]
    exact h2
  · rw [c2.atM (R := []) (F := [(45, 5)]) (by decide) (by decide)]; exact h3
  · rw [c2.atM (R := []) (F := [(45, 3)]) (by decide) (by decide)]; exact h4
  · rw [c2.atM (R := []) (F := [(45, 4)]) (by decide) (by decide)]; exact h5
  · rw [c2.atM (R := []) (F := [(45, 7)]) (by decide) (by decide)]; exact h6
  · rw [si_row, up1_eq]
  · rw [c2.atM (R := []) (F := [(45, 8)]) (by decide) (by decide)]; exact h8
  · rw [c2.atM (R := []) (F := [(45, 6)]) (by decide) (by decide)]; exact h9 e
  · rw [si_ne (by decide), si_row]
theorem c_patch (h : CP K n by_ x i l a) {c : Nat} (hc : c < 400) : F_X3_patch 45 (nI c) x = some (pg_si x 46 c (nI a)) ∧ CP K n by_ (pg_si x 46 c (nI a)) i l a ∧ Ch [46] [] x (pg_si x 46 c (nI a)) := by
  have L := h.1
  have c1 : Ch [46] [] x (pg_si x 46 c (nI a)) := (Ch.refl _ _ _).asi (Or.inl (by decide))
  refine ⟨?_, h.cong c1 (c1.lay L (by decide)) (by decide), c1⟩
  unfold F_X3_patch
  rw [if_neg (show ¬ nI c < (0 : Int32) from nI_nlt (b := 0) (Nat.zero_le _) (by omega)), if_pos (show nI c < (400 : Int32) from nI_lt (b := 400) hc (by decide)), nR_45_0 L.kd L.rd, Option.bind_some, ng_45 L.kd, h.2.2.2.2.2.2.1, Option.bind_some, ns_46 L.kd hc]
  rfl
theorem c_tok (h : CP K n by_ x i l a) : pg_gI 3 5 x 45 = some (nI (tcd K i)) := by
  rw [ng_45 h.1.kd, h.2.2.1]
theorem cd_eq (O : TkOK K n by_) (hi : i ≤ tm_ K) {c : Nat} (hc : c < 1000) : (nI (tcd K i) = nI c) ↔ tcd K i = c := by
  have z := (O.2.2.1 i hi).2.1
  unfold codeR at z
  exact nI_eq (by omega) (by omega)
/-! the reference -/
theorem m_fine (h : RP K y i l) : F_X12_fine y 81 = some 1 := by
  unfold F_X12_fine
  rw [ng_81 h.1.kd, h.2.2.2.1, Option.bind_some, if_pos rfl]
theorem m_faults (h : RP K y i l) (hi : i ≤ tm_ K) (hm : tm_ K ≤ 400) : F_X12_faults 81 y = some (pg_si y 81 18 (nI (tpos K i))) := by
  have L := h.1
  unfold F_X12_faults
  rw [nc_81 L.kd, m_fine h, Option.bind_some, if_neg (by decide), nR_81_14 L.kd L.rd, Option.bind_some, ng_81 L.kd, h.2.1, Option.bind_some, na_91 L.kd (by omega), Option.bind_some, (h.2.2.2.2 i hi).2.1, np_81 L.kd]
  rfl
theorem RP.go (h : RP K y i l) : RP K (pg_si y 81 16 (nI (i + 1))) (i + 1) l ∧ Ch [] [(81, 16)] y (pg_si y 81 16 (nI (i + 1))) := by
  obtain ⟨L, h2, h3, h4, h5⟩ := h
  have c1 : Ch [] [(81, 16)] y (pg_si y 81 16 (nI (i + 1))) := (Ch.refl _ _ _).asi (Or.inr (by decide))
  refine ⟨⟨c1.lay L (by decide), by rw [si_row, up1_eq], ?_, ?_, fun k hk => ?_⟩, c1⟩
  · rw [c1.atM (R := []) (F := [(81, 17)]) (by decide) (by decide)]; exact h3
  · rw [c1.atM (R := []) (F := [(81, 18)]) (by decide) (by decide)]; exact h4
  · rw [c1.row (r := 89) (by decide), c1.row (r := 91) (by decide), c1.row (r := 90) (by decide)]
    exact h5 k hk
theorem m_code (h : RP K y i l) (hi : i ≤ tm_ K) (hm : tm_ K ≤ 400) : pg_aI 21 y 89 (nI i) = some (nI (trc K i)) := by
  rw [na_89 h.1.kd (by omega), (h.2.2.2.2 i hi).1]
theorem m_takes (h : RP K y i l) (hi : i ≤ tm_ K) (hm : tm_ K ≤ 400) (c : Nat) (hc : c < 1000) (hr : trc K i < 1000) : F_X12_takes 81 (nI c) y = some (if trc K i = c then ((1 : Int32), pg_si y 81 16 (nI (i + 1))) else (0, y)) := by
  have L := h.1
  unfold F_X12_takes
  rw [nc_81 L.kd, m_fine h, Option.bind_some, if_neg (by decide), nR_81_12 L.kd L.rd, Option.bind_some, ng_81 L.kd, h.2.1, Option.bind_some, m_code h hi hm, Option.bind_some]
  by_cases e : trc K i = c
  · rw [if_pos (congrArg nI e), if_pos e]
    unfold F_X12_takes_25
    rw [if_neg (by decide), ng_81 L.kd, h.2.1, Option.bind_some, nI_1, np_81 L.kd, Option.bind_some, if_pos (Or.inr rfl)]
  · rw [if_neg (fun z => e ((nI_eq (by omega) (by omega)).mp z)), if_neg e]
    rfl
/-- once at fault, the reference does nothing more -/
def Dd (y : pg_H) : Prop := Lay y ∧ pg_i y 81 18 ≠ -1
theorem d_fine (h : Dd y) : F_X12_fine y 81 = some 0 := by
  unfold F_X12_fine
  rw [ng_81 h.1.kd, Option.bind_some, if_neg h.2]
theorem d_faults (h : Dd y) : F_X12_faults 81 y = some y := by
  unfold F_X12_faults
  rw [nc_81 h.1.kd, d_fine h, Option.bind_some, if_pos rfl]
theorem d_takes (h : Dd y) (c : Int32) : F_X12_takes 81 c y = some (0, y) := by
  unfold F_X12_takes
  rw [nc_81 h.1.kd, d_fine h, Option.bind_some, if_pos rfl]
  rfl
theorem d_must (h : Dd y) (c : Int32) : F_X12_must 81 c y = some y := by
  unfold F_X12_must
  rw [nc_81 h.1.kd, d_takes h, Option.bind_some, if_pos rfl, nc_81 h.1.kd, d_faults h]
  rfl
def DeadR (g : Nat → Int32 → pg_H → Option pg_H) : Prop := ∀ d y, Dd y → g 81 d y = some y
theorem d_part {gS : Nat → Int32 → pg_H → Option pg_H} : DeadR (B_X12_readPart gS) := fun d y h => by
  unfold B_X12_readPart
  rw [nc_81 h.1.kd, d_fine h, Option.bind_some, if_pos rfl]
theorem d_term {gP : Nat → Int32 → pg_H → Option pg_H} (hp : DeadR gP) : DeadR (B_X12_readTerm gP) := fun d y h => by
  obtain ⟨f, hf⟩ := fuel_S
  unfold B_X12_readTerm
  rw [nc_81 h.1.kd, hp d y h, Option.bind_some, hf, F_X12_readTerm_5]
  unfold F_X12_sign
  dsimp only
  rw [Option.bind_some, nc_81 h.1.kd, d_takes h, Option.bind_some, if_pos rfl, Option.bind_some, nc_81 h.1.kd, d_takes h, Option.bind_some, if_pos rfl]
theorem d_sum {gT : Nat → Int32 → pg_H → Option pg_H} (hp : DeadR gT) : DeadR (B_X12_readSum gT) := fun d y h => by
  obtain ⟨f, hf⟩ := fuel_S
  unfold B_X12_readSum
  rw [nc_81 h.1.kd, hp d y h, Option.bind_some, hf, F_X12_readSum_5]
  unfold F_X12_sign
  dsimp only
  rw [Option.bind_some, nc_81 h.1.kd, d_takes h, Option.bind_some, if_pos rfl, Option.bind_some, nc_81 h.1.kd, d_takes h, Option.bind_some, if_pos rfl]
theorem d_plain {gT gS : Nat → Int32 → pg_H → Option pg_H} : DeadR (B_X12_readPlain gT gS) := fun d y h => by
  obtain ⟨f, hf⟩ : ∃ f, pg_fuel = f + 2 := ⟨pg_fuel - 2, by unfold pg_fuel; omega⟩
  unfold B_X12_readPlain
  rw [hf, F_X12_readPlain_2]
  dsimp only
  rw [if_neg (show ¬ (1 : Int32) = 0 by decide), nc_81 h.1.kd, d_takes h, Option.bind_some]
  dsimp only
  rw [F_X12_readPlain_2]
  dsimp only
  rw [if_pos rfl, nc_81 h.1.kd, d_fine h, Option.bind_some, if_pos rfl]
theorem d_both {gP : Nat → Int32 → pg_H → Option pg_H} (hp : DeadR gP) : DeadR (B_X12_readBoth gP) := fun d y h => by
  obtain ⟨f, hf⟩ := fuel_S
  unfold B_X12_readBoth
  rw [nc_81 h.1.kd, hp d y h, Option.bind_some, hf, F_X12_readBoth_5]
  dsimp only
  rw [nc_81 h.1.kd, d_takes h, Option.bind_some, if_pos rfl]
theorem d_test {gB : Nat → Int32 → pg_H → Option pg_H} (hp : DeadR gB) : DeadR (B_X12_readTest gB) := fun d y h => by
  obtain ⟨f, hf⟩ := fuel_S
  unfold B_X12_readTest
  rw [nc_81 h.1.kd, hp d y h, Option.bind_some, hf, F_X12_readTest_5]
  dsimp only
  rw [nc_81 h.1.kd, d_takes h, Option.bind_some, if_pos rfl]
end PARSE
