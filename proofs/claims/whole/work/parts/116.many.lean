/-! MANY: copies on two lists -/
def onQ (A : Nat → Int32) (c l : Nat) : Bool := (cp A c 1).testBit l
theorem on_bit {A : Nat → Int32} (K : ShOK A) {c l : Nat} (hc : c < nC A) (hl : l < 6) : (A (3 * c + 1) >>> (nI l &&& 31)) &&& (1 : Int32) = b01 (onQ A c l) := by
  have q : Rg A (3 * c + 1) 64 := (K.2.1 c hc).2.1
  rw [q.1]
  exact ix_bit (Nat.lt_of_lt_of_le q.2 (by decide)) (by omega)
theorem m_isOn {h : pg_H} {A : Nat → Int32} (L : Lay h) (M : pg_i h 83 = A) (K : ShOK A) {c l : Nat} (hc : c < nC A) (hl : l < 6) : F_X12_isOn h 81 (nI c) (nI l) = some (b01 (onQ A c l)) := by
  have kC : nC A < 13 := K.1.1.2
  unfold F_X12_isOn
  rw [rc_81 L, m_copy_1 L M (show c < 12 by omega), Option.bind_some, on_bit K hc hl]
  cases onQ A c l <;> rfl
theorem b01_nI (b : Bool) : b01 b = nI (if b then 1 else 0) := by cases b <;> rfl
def manyS (A : Nat → Int32) (l o c : Nat) (x : Nat × Nat × Nat) : Nat × Nat × Nat := (x.1 + (if onQ A c l then 1 else 0), x.2.1 + (if onQ A c o then 1 else 0), x.2.2 + (if onQ A c l && onQ A c o then 1 else 0))
def manyR (A : Nat → Int32) (l o : Nat) : Nat × Nat × Nat := foldN (nC A) (manyS A l o) (0, 0, 0)
def manyV (A : Nat → Int32) (l o : Nat) : Option Int32 := if nI (manyR A l o).2.2 = 0 then some (-1) else if nI (manyR A l o).2.2 = 0 then none else some (nI (manyR A l o).1 * nI (manyR A l o).2.1 / nI (manyR A l o).2.2)
theorem c_many {h : pg_H} {A : Nat → Int32} (L : Lay h) (C : CNum h 2 A) (K : ShOK A) {l o : Nat} (hl : l < 6) (ho : o < 6) : F_X11_many_36 h pg_fuel 1 (nI l) (nI o) 0 0 0 0 = manyV A l o := by
  have kC : nC A < 13 := K.1.1.2
  have z := loopF (fun f i x => F_X11_many_36 h f 1 (nI l) (nI o) (nI (x).1) (nI (x).2.1) (nI (x).2.2) (nI i)) (nC A) (fun i x => manyS A l o i (x)) (manyV A l o) (fun _ _ => True) ((0 : Nat), (0 : Nat), (0 : Nat)) ?_ (fun _ _ _ _ _ => trivial) ?_ trivial pg_fuel (by unfold pg_fuel; omega)
  · exact z
  · intro f i x hi _ _
    show F_X11_many_36 h (f + 1) 1 (nI l) (nI o) (nI (x).1) (nI (x).2.1) (nI (x).2.2) (nI i) = F_X11_many_36 h f 1 (nI l) (nI o) (nI ((manyS A l o i (x))).1) (nI ((manyS A l o i (x))).2.1) (nI ((manyS A l o i (x))).2.2) (nI (i + 1))
    rw [F_X11_many_36]
    dsimp only
    rw [gR_1_0 L, Option.bind_some, gR_2_0 L, Option.bind_some, c_rcv_3 C, c_size_3 C, Option.bind_some, if_pos (nI_lt hi (by omega)), Option.bind_some, gR_2_0 L, Option.bind_some, c_rcv_3 C, c_at_3_1 C hi, Option.bind_some, on_bit K hi hl, on_bit K hi ho]
    unfold pg_let manyS
    dsimp only
    rw [b01_nI, b01_nI, ix_and, nI_add, nI_add, nI_add, nI_1]
    cases onQ A i l <;> cases onQ A i o <;> rfl
  · intro f _
    have hs : (foldN (nC A) (fun i x => manyS A l o i (x)) ((0 : Nat), (0 : Nat), (0 : Nat))) = manyR A l o := rfl
    rw [hs]
    show F_X11_many_36 h (f + 1) 1 (nI l) (nI o) (nI ((manyR A l o)).1) (nI ((manyR A l o)).2.1) (nI ((manyR A l o)).2.2) (nI (nC A)) = _
    rw [F_X11_many_36]
    dsimp only
    rw [gR_1_0 L, Option.bind_some, gR_2_0 L, Option.bind_some, c_rcv_3 C, c_size_3 C, Option.bind_some, if_neg Int32.lt_irrefl]
    rfl
theorem m_many {h : pg_H} {A : Nat → Int32} (L : Lay h) (M : pg_i h 83 = A) (K : ShOK A) {l o : Nat} (hl : l < 6) (ho : o < 6) : F_X12_many_36 h pg_fuel 81 (nI l) (nI o) 0 0 0 0 = manyV A l o := by
  have kC : nC A < 13 := K.1.1.2
  have kE : A 1344 = nI (nC A) := K.1.1.1
  have z := loopF (fun f i x => F_X12_many_36 h f 81 (nI l) (nI o) (nI (x).1) (nI (x).2.1) (nI (x).2.2) (nI i)) (nC A) (fun i x => manyS A l o i (x)) (manyV A l o) (fun _ _ => True) ((0 : Nat), (0 : Nat), (0 : Nat)) ?_ (fun _ _ _ _ _ => trivial) ?_ trivial pg_fuel (by unfold pg_fuel; omega)
  · exact z
  · intro f i x hi _ _
    show F_X12_many_36 h (f + 1) 81 (nI l) (nI o) (nI (x).1) (nI (x).2.1) (nI (x).2.2) (nI i) = F_X12_many_36 h f 81 (nI l) (nI o) (nI ((manyS A l o i (x))).1) (nI ((manyS A l o i (x))).2.1) (nI ((manyS A l o i (x))).2.2) (nI (i + 1))
    rw [F_X12_many_36]
    dsimp only
    rw [rc_81 L, m_copiesA L M, kE, Option.bind_some, if_pos (nI_lt hi (by omega)), rc_81 L, m_isOn L M K hi hl, Option.bind_some]
    unfold manyS F_X12_many_61 F_X12_many_80 F_X12_many_109 F_X12_many_110 pg_let
    simp only [rc_81 L, m_isOn L M K hi hl, m_isOn L M K hi ho, Option.bind_some, nI_1]
    cases onQ A i l <;> cases onQ A i o <;> simp [b01, nI_1]
  · intro f _
    have hs : (foldN (nC A) (fun i x => manyS A l o i (x)) ((0 : Nat), (0 : Nat), (0 : Nat))) = manyR A l o := rfl
    rw [hs]
    show F_X12_many_36 h (f + 1) 81 (nI l) (nI o) (nI ((manyR A l o)).1) (nI ((manyR A l o)).2.1) (nI ((manyR A l o)).2.2) (nI (nC A)) = _
    rw [F_X12_many_36]
    dsimp only
    rw [rc_81 L, m_copiesA L M, kE, Option.bind_some, if_neg Int32.lt_irrefl]
    rfl
