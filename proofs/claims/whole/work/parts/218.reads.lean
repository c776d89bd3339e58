/-! TEXTS: the two sides' readings whole; what the numbers become -/
abbrev mR : List (Nat × Nat) := [(81, 10), (81, 11), (81, 15), (81, 16), (81, 17), (81, 18)]
section READS
variable {K : Tk} {n : Nat} {b : Nat → Nat}
def AdvOK (K : Tk) (n : Nat) (b : Nat → Nat) : Prop := ∀ x, Lay x → TapeAt x n b → pg_i x 45 4 = 0 → pg_i x 45 7 = 0 → pg_i x 45 2 = 0 → pg_i x 45 8 = -1 → ∃ x', F_X3_advance 45 x = some x' ∧ CP K n b x' 0 0 0 ∧ Ch [] [(45, 3), (45, 4), (45, 5), (45, 6)] x x'
def SplOK (K : Tk) (n : Nat) (b : Nat → Nat) : Prop := ∀ y, Lay y → TapeM y n b → ∃ y', F_X12_splits 81 (nI n) y = some y' ∧ Ch [89, 90, 91] [(81, 15)] y y' ∧ pg_i y' 81 15 = nI (tm_ K) ∧ ∀ k, k ≤ tm_ K → pg_i y' 89 k = nI (trc K k) ∧ pg_i y' 91 k = nI (tpos K k) ∧ pg_i y' 90 k = nI (trv K k)
theorem c_compile (O : TkOK K n b) (hA : AdvOK K n b) {x : pg_H} (L : Lay x) (hT : TapeAt x n b) : CO2 K n b x (F_X3_compile 45 x) (textP K) := by
  have c1 : Ch [46] T45 x (pg_si x 45 2 0) := (Ch.refl _ _ _).asi (Or.inr (by decide))
  have c2 : Ch [46] T45 x (pg_si (pg_si x 45 2 0) 45 4 0) := c1.asi (Or.inr (by decide))
  have c3 : Ch [46] T45 x (pg_si (pg_si (pg_si x 45 2 0) 45 4 0) 45 7 0) := c2.asi (Or.inr (by decide))
  have c4 : Ch [46] T45 x (pg_si (pg_si (pg_si (pg_si x 45 2 0) 45 4 0) 45 7 0) 45 8 (-1)) := c3.asi (Or.inr (by decide))
  have L1 := c1.lay L (by decide)
  have L2 := c2.lay L (by decide)
  have L3 := c3.lay L (by decide)
  have L4 := c4.lay L (by decide)
  obtain ⟨x5, e5, h5, c5⟩ := hA _ L4 (hT.ch c4 (by decide)) (by rw [si_row, up1_ne (by decide), si_row, up1_ne (by decide), si_row, up1_eq]) (by rw [si_row, up1_ne (by decide), si_row, up1_eq]) (by rw [si_row, up1_ne (by decide), si_row, up1_ne (by decide), si_row, up1_ne (by decide), si_row, up1_eq]) (by rw [si_row, up1_eq])
  unfold F_X3_compile
  rw [np_45 L.kd, Option.bind_some, np_45 L1.kd, Option.bind_some, np_45 L2.kd, Option.bind_some, np_45 L3.kd, Option.bind_some, nc_45 L4.kd, e5, Option.bind_some]
  exact CO2.trans (c4.trans (c5.mono (by decide))) (c_text O h5)
theorem m_reads (O : TkOK K n b) (hS : SplOK K n b) {y : pg_H} (L : Lay y) (hT : TapeM y n b) (h10 : pg_i y 81 10 = nI n) :
    ∃ y' c, F_X12_reads 81 y = some (c, y') ∧ Ch [89, 90, 91] mR y y' ∧ Lay y' ∧ pg_i y' 81 10 = 0 ∧ pg_i y' 81 15 = nI (tm_ K) ∧ (∀ k, k ≤ tm_ K → pg_i y' 89 k = nI (trc K k) ∧ pg_i y' 90 k = nI (trv K k)) ∧
      (((textP K).1 = 0 ∧ c = 0 ∧ pg_i y' 81 11 = nI (tpos K (textP K).2.1)) ∨ ((textP K).1 ≠ 0 ∧ c = 1 ∧ pg_i y' 81 11 = -1)) := by
  obtain ⟨y1, e1, c1, f15, f⟩ := hS y L hT
  have L1 := c1.lay L (by decide)
  have c2 : Ch [89, 90, 91] mR y1 (pg_si y1 81 10 0) := (Ch.refl _ _ _).asi (Or.inr (by decide))
  have c3 : Ch [89, 90, 91] mR y1 (pg_si (pg_si y1 81 10 0) 81 16 0) := c2.asi (Or.inr (by decide))
  have c4 : Ch [89, 90, 91] mR y1 (pg_si (pg_si (pg_si y1 81 10 0) 81 16 0) 81 17 0) := c3.asi (Or.inr (by decide))
  have c5 : Ch [89, 90, 91] mR y1 (pg_si (pg_si (pg_si (pg_si y1 81 10 0) 81 16 0) 81 17 0) 81 18 (-1)) := c4.asi (Or.inr (by decide))
  have d5 : Ch [] mR y1 (pg_si (pg_si (pg_si (pg_si y1 81 10 0) 81 16 0) 81 17 0) 81 18 (-1)) := ((((Ch.refl _ _ _).asi (Or.inr (by decide))).asi (Or.inr (by decide))).asi (Or.inr (by decide))).asi (Or.inr (by decide))
  have L2 := c2.lay L1 (by decide)
  have L3 := c3.lay L1 (by decide)
  have L4 := c4.lay L1 (by decide)
  have L5 := c5.lay L1 (by decide)
  have g10 : pg_i (pg_si (pg_si (pg_si (pg_si y1 81 10 0) 81 16 0) 81 17 0) 81 18 (-1)) 81 10 = 0 := by rw [si_row, up1_ne (by decide), si_row, up1_ne (by decide), si_row, up1_ne (by decide), si_row, up1_eq]
  have g15 : pg_i (pg_si (pg_si (pg_si (pg_si y1 81 10 0) 81 16 0) 81 17 0) 81 18 (-1)) 81 15 = nI (tm_ K) := by rw [si_row, up1_ne (by decide), si_row, up1_ne (by decide), si_row, up1_ne (by decide), si_row, up1_ne (by decide)]; exact f15
  have g89 : ∀ r, r = 89 ∨ r = 90 ∨ r = 91 → pg_i (pg_si (pg_si (pg_si (pg_si y1 81 10 0) 81 16 0) 81 17 0) 81 18 (-1)) r = pg_i y1 r := fun r hr => by
    rw [si_ne (by omega), si_ne (by omega), si_ne (by omega), si_ne (by omega)]
  have R : RP K (pg_si (pg_si (pg_si (pg_si y1 81 10 0) 81 16 0) 81 17 0) 81 18 (-1)) 0 0 := by
    refine ⟨L5, ?_, ?_, ?_, fun k hk => ?_⟩
    · rw [si_row, up1_ne (by decide), si_row, up1_ne (by decide), si_row, up1_eq]
      rfl
    · rw [si_row, up1_ne (by decide), si_row, up1_eq]
      rfl
    · rw [si_row, up1_eq]
    · rw [g89 89 (by decide), g89 91 (by decide), g89 90 (by decide)]
      exact f k hk
  obtain ⟨y6, c, e6, c6, L6, z⟩ := m_text O g15 R
  refine ⟨y6, c, ?_, ((c1.mono (by decide)).trans c5).trans (c6.mono (by decide)), L6, ?_, ?_, fun k hk => ?_, z⟩
  · unfold F_X12_reads
    rw [ng_81 L.kd, h10, Option.bind_some, nc_81 L.kd, e1, Option.bind_some, np_81 L1.kd, Option.bind_some, np_81 L2.kd, Option.bind_some, np_81 L3.kd, Option.bind_some, np_81 L4.kd, Option.bind_some]
    exact e6
  · rw [c6.atM (R := []) (F := [(81, 10)]) (by decide) (by decide)]
    exact g10
  · rw [c6.atM (R := []) (F := [(81, 15)]) (by decide) (by decide)]
    exact g15
  · rw [c6.row (r := 89) (by decide), c6.row (r := 90) (by decide), g89 89 (by decide), g89 90 (by decide)]
    exact ⟨(f k hk).1, (f k hk).2.2⟩
/-- the reference keeps the tokens -/
theorem m_store (O : TkOK K n b) {t : Nat} (ht : t < 8) {y : pg_H} (L : Lay y) (h15 : pg_i y 81 15 = nI (tm_ K)) (hR : ∀ k, k ≤ tm_ K → pg_i y 89 k = nI (trc K k) ∧ pg_i y 90 k = nI (trv K k)) (hA : pg_i y 83 1348 = nI t) :
    ∃ g, F_X12_text_64 pg_fuel 81 (nI t) (nI 0) y = some (nI t, pg_si (pg_si g 81 0 0) 81 1 (pg_i g 81 1 + 1)) ∧ Ch [83] [] y g ∧ pg_i g 83 1348 = nI (t + 1) ∧ (∀ k, k < tm_ K → pg_i g 83 (1358 + 400 * t + k) = nI (trc K k) ∧ pg_i g 83 (4558 + 400 * t + k) = nI (trv K k)) ∧
      ∀ j, j ≠ 1348 → (j < 1358 + 400 * t ∨ 1758 + 400 * t ≤ j) → (j < 4558 + 400 * t ∨ 4958 + 400 * t ≤ j) → pg_i g 83 j = pg_i y 83 j := by
  have m4 := O.1
  refine loopI (fun f i x => F_X12_text_64 f 81 (nI t) (nI i) x) (tm_ K) (fun i x => Ch [83] [] y x ∧ (∀ k, k < i → pg_i x 83 (1358 + 400 * t + k) = nI (trc K k) ∧ pg_i x 83 (4558 + 400 * t + k) = nI (trv K k)) ∧ ∀ j, (j < 1358 + 400 * t ∨ 1758 + 400 * t ≤ j) → (j < 4558 + 400 * t ∨ 4958 + 400 * t ≤ j) → pg_i x 83 j = pg_i y 83 j)
    (fun r => ∃ g, r = some (nI t, pg_si (pg_si g 81 0 0) 81 1 (pg_i g 81 1 + 1)) ∧ Ch [83] [] y g ∧ pg_i g 83 1348 = nI (t + 1) ∧ (∀ k, k < tm_ K → pg_i g 83 (1358 + 400 * t + k) = nI (trc K k) ∧ pg_i g 83 (4558 + 400 * t + k) = nI (trv K k)) ∧ ∀ j, j ≠ 1348 → (j < 1358 + 400 * t ∨ 1758 + 400 * t ≤ j) → (j < 4558 + 400 * t ∨ 4958 + 400 * t ≤ j) → pg_i g 83 j = pg_i y 83 j)
    ?_ ?_ 0 y (Nat.zero_le _) ⟨Ch.refl _ _ _, fun k hk => absurd hk (Nat.not_lt_zero k), fun _ _ _ => rfl⟩ pg_fuel (by unfold pg_fuel; omega)
  · intro f i x hi ⟨c, x1, x2⟩
    have Lx := c.lay L (by decide)
    have q15 : pg_i x 81 15 = nI (tm_ K) := by rw [c.row (r := 81) (by decide)]; exact h15
    have q89 : pg_i x 89 i = nI (trc K i) := by rw [c.row (r := 89) (by decide)]; exact (hR i (by omega)).1
    have q90 : pg_i x 90 i = nI (trv K i) := by rw [c.row (r := 90) (by decide)]; exact (hR i (by omega)).2
    have c1 : Ch [83] [] y (pg_si x 83 (1358 + 400 * t + i) (nI (trc K i))) := c.asi (Or.inl (by decide))
    have L1 := c1.lay L (by decide)
    have q90' : pg_i (pg_si x 83 (1358 + 400 * t + i) (nI (trc K i))) 90 i = nI (trv K i) := by rw [si_ne (by decide)]; exact q90
    have a1 : ((1358 : Int32) + (400 : Int32) * nI t) + nI i = nI (1358 + 400 * t + i) := by rw [show (400 : Int32) = nI 400 from rfl, show (1358 : Int32) = nI 1358 from rfl, nI_mul, nI_add, nI_add]
    have a2 : ((4558 : Int32) + (400 : Int32) * nI t) + nI i = nI (4558 + 400 * t + i) := by rw [show (400 : Int32) = nI 400 from rfl, show (4558 : Int32) = nI 4558 from rfl, nI_mul, nI_add, nI_add]
    refine ⟨pg_si (pg_si x 83 (1358 + 400 * t + i) (nI (trc K i))) 83 (4558 + 400 * t + i) (nI (trv K i)), ?_, c1.asi (Or.inl (by decide)), fun k hk => ?_, fun j h1 h2 => ?_⟩
    · show F_X12_text_64 (f + 1) 81 (nI t) (nI i) x = F_X12_text_64 f 81 (nI t) (nI (i + 1)) _
      rw [F_X12_text_64]
      dsimp only
      rw [ng_81 Lx.kd, q15, Option.bind_some, if_pos (nI_lt hi (by omega)), nR_81_3 Lx.kd Lx.rd, Option.bind_some, nR_81_12 Lx.kd Lx.rd, Option.bind_some, na_89 Lx.kd (by omega), Option.bind_some, a1, ns_83 Lx.kd (by omega), Option.bind_some, q89, nR_81_3 L1.kd L1.rd, Option.bind_some, nR_81_13 L1.kd L1.rd, Option.bind_some, na_90 L1.kd (by omega), Option.bind_some, a2, ns_83 L1.kd (by omega), Option.bind_some, q90', nI_1]
    · rw [si_row, si_row]
      by_cases e : k = i
      · subst e
        rw [up1_ne (show 1358 + 400 * t + k ≠ 4558 + 400 * t + k by omega), up1_eq, up1_eq]
        exact ⟨rfl, rfl⟩
      · rw [up1_ne (by omega), up1_ne (by omega), up1_ne (by omega), up1_ne (by omega)]
        exact x1 k (by omega)
    · rw [si_row, si_row, up1_ne (by omega), up1_ne (by omega)]
      exact x2 j h1 h2
  · intro f x ⟨c, x1, x2⟩
    have Lx := c.lay L (by decide)
    have q15 : pg_i x 81 15 = nI (tm_ K) := by rw [c.row (r := 81) (by decide)]; exact h15
    have q13 : pg_i x 83 1348 = nI t := by rw [x2 1348 (by omega) (by omega)]; exact hA
    have c1 : Ch [83] [] y (pg_si x 83 1348 (nI (t + 1))) := c.asi (Or.inl (by decide))
    have L1 := c1.lay L (by decide)
    refine ⟨pg_si x 83 1348 (nI (t + 1)), ?_, c1, by rw [si_row, up1_eq], fun k hk => ?_, fun j h0 h1 h2 => ?_⟩
    · show F_X12_text_64 (f + 1) 81 (nI t) (nI (tm_ K)) x = _
      rw [F_X12_text_64]
      dsimp only
      rw [ng_81 Lx.kd, q15, Option.bind_some, if_neg Int32.lt_irrefl, nR_81_3 Lx.kd Lx.rd, Option.bind_some, na_83_1348 Lx.kd, q13, Option.bind_some, nI_1, ns_83_1348 Lx.kd, Option.bind_some, nc_81 L1.kd, m_good L1.kd, Option.bind_some]
    · rw [si_row, up1_ne (by omega), up1_ne (by omega)]
      exact x1 k hk
    · rw [si_row, up1_ne h0]
      exact x2 j h1 h2
theorem m_textG (O : TkOK K n b) (hS : SplOK K n b) {y : pg_H} (L : Lay y) (hT : TapeM y n b) (h10 : pg_i y 81 10 = nI n) {t : Nat} (ht : t < 8) (hA : pg_i y 83 1348 = nI t) (hz : (textP K).1 ≠ 0) :
    ∃ g, F_X12_text 81 y = some (nI t, pg_si (pg_si g 81 0 0) 81 1 (pg_i g 81 1 + 1)) ∧ Ch [83, 89, 90, 91] mR y g ∧ pg_i g 81 10 = 0 ∧ pg_i g 81 11 = -1 ∧ pg_i g 83 1348 = nI (t + 1) ∧ pg_i g 83 (1350 + t) = nI (tm_ K) ∧
      (∀ k, k < tm_ K → pg_i g 83 (1358 + 400 * t + k) = nI (trc K k) ∧ pg_i g 83 (4558 + 400 * t + k) = nI (trv K k)) ∧
      ∀ j, j ≠ 1348 → j ≠ 1350 + t → (j < 1358 + 400 * t ∨ 1758 + 400 * t ≤ j) → (j < 4558 + 400 * t ∨ 4958 + 400 * t ≤ j) → pg_i g 83 j = pg_i y 83 j := by
  obtain ⟨y1, c, e1, c1, L1, f10, f15, fR, z⟩ := m_reads O hS L hT h10
  rcases z with ⟨z1, _, _⟩ | ⟨_, rfl, f11⟩
  · exact absurd z1 hz
  have m4 := O.1
  have g83 : pg_i y1 83 = pg_i y 83 := c1.row (r := 83) (by decide)
  have c2 : Ch [83, 89, 90, 91] mR y1 (pg_si y1 83 (1350 + t) (nI (tm_ K))) := (Ch.refl _ _ _).asi (Or.inl (by decide))
  have d2 : Ch [83] [] y1 (pg_si y1 83 (1350 + t) (nI (tm_ K))) := (Ch.refl _ _ _).asi (Or.inl (by decide))
  have L2 := c2.lay L1 (by decide)
  obtain ⟨g, e3, c3, s1, s2, s3⟩ := m_store O ht (y := pg_si y1 83 (1350 + t) (nI (tm_ K))) L2 (by rw [si_ne (by decide)]; exact f15) (fun k hk => by rw [si_ne (by decide), si_ne (by decide)]; exact fR k hk) (by rw [si_row, up1_ne (by omega), g83]; exact hA)
  refine ⟨g, ?_, ((c1.mono (by decide)).trans c2).trans (c3.mono (by decide)), ?_, ?_, s1, ?_, s2, fun j h0 h1 h2 h3 => ?_⟩
  · have a1 : (1350 : Int32) + nI t = nI (1350 + t) := by rw [show (1350 : Int32) = nI 1350 from rfl, nI_add]
    unfold F_X12_text
    rw [nR_81_3 L.kd L.rd, Option.bind_some, na_83_1348 L.kd, hA, Option.bind_some, if_neg (show ¬ nI t = (8 : Int32) from fun z => by have := (nI_eq (b := 8) (by omega) (by decide)).mp z; omega), nc_81 L.kd, e1, Option.bind_some]
    dsimp only
    rw [if_neg (show ¬ (1 : Int32) = 0 by decide), nR_81_3 L1.kd L1.rd, Option.bind_some, na_83_1348 L1.kd, g83, hA, Option.bind_some, Option.bind_some, ng_81 L1.kd, f15, Option.bind_some, a1, ns_83 L1.kd (by omega), Option.bind_some]
    exact e3
  · rw [c3.row (r := 81) (by decide), d2.row (r := 81) (by decide)]
    exact f10
  · rw [c3.row (r := 81) (by decide), d2.row (r := 81) (by decide)]
    exact f11
  · rw [s3 _ (by omega) (by omega) (by omega), si_row, up1_eq]
  · rw [s3 j h0 h2 h3, si_row, up1_ne h1, g83]
end READS
/-- the numbers with one text more -/
def MoreT (A A' : Nat → Int32) (t m : Nat) : Prop := A' 1348 = nI (t + 1) ∧ A' (1350 + t) = nI m ∧ ∀ j, j ≠ 1348 → j ≠ 1350 + t → (j < 1358 + 400 * t ∨ 1758 + 400 * t ≤ j) → (j < 4558 + 400 * t ∨ 4958 + 400 * t ≤ j) → A' j = A j
section MORET
variable {A A' : Nat → Int32} {t m : Nat}
theorem MoreT.cnt (M : MoreT A A' t m) (ht : t < 8) : nT A' = t + 1 := cl_of M.1 (by omega)
theorem MoreT.low (M : MoreT A A' t m) {j : Nat} (hj : j < 1350) (h8 : j ≠ 1348) : A' j = A j := M.2.2 j h8 (by omega) (by omega) (by omega)
theorem MoreT.core (M : MoreT A A' t m) : Core A A' := fun j hj => M.low (by omega) (by omega)
theorem MoreT.sh (M : MoreT A A' t m) (K : ShOK A) (hn : nT A = t) (ht : t < 8) (hm : m ≤ 400) : ShOK A' := by
  have c : ∀ j, j < 1350 → j ≠ 1348 → cl A' j = cl A j := fun j h1 h2 => by
    unfold cl
    rw [M.low h1 h2]
  have nt := M.cnt ht
  refine K.of (Or.inl ⟨fun j _ => M.low (by omega) (by omega), c _ (by omega) (by omega)⟩) (Or.inl ⟨fun j _ _ => M.low (by omega) (by omega), c _ (by omega) (by omega)⟩) (Or.inl ⟨fun j _ _ => M.low (by omega) (by omega), c _ (by omega) (by omega)⟩) (Or.inl fun j _ _ => M.low (by omega) (by omega)) (Or.inl ⟨fun j _ _ => M.low (by omega) (by omega), c _ (by omega) (by omega)⟩) (Or.inl fun j _ _ => M.low (by omega) (by omega)) (Or.inl ⟨M.low (by omega) (by omega), by omega⟩) (Or.inr fun t' ht' => ?_) ?_
  · by_cases e : t' = t
    · rw [e]
      exact Rg.of M.2.1 (by omega) (by decide)
    · exact (K.2.2.2.2.2.2.2.2.2.2 t' (by omega)).cong (M.2.2 _ (by omega) (by omega) (by omega) (by omega))
  · obtain ⟨k1, k2, k3, k4, k5⟩ := K.1
    exact ⟨⟨k1.cong (M.low (by omega) (by omega)), Nat.le_of_eq (c _ (by omega) (by omega)).symm⟩, k2.cong (M.low (by omega) (by omega)), ⟨k3.cong (M.low (by omega) (by omega)), Nat.le_of_eq (c _ (by omega) (by omega)).symm⟩, k4.cong (M.low (by omega) (by omega)), Rg.of M.1 (by omega) (by decide)⟩
end MORET
