/-! ASKING TEXTS: rows of nine numbers, both sides -/
theorem c_fill {h : pg_H} {r n : Nat} (x : Int32) (hk : pg_k h r = (21, n)) (hn : n ≤ 100000) : ∃ h', F_J7_fill_53178 r x h = some h' ∧ Ch [r] [] h h' ∧ ∀ j, j < n → pg_i h' r j = x := by
  have len : pg_len h r = some (nI n) := by
    unfold pg_len
    rw [hk]
    rfl
  unfold F_J7_fill_53178
  rw [len, Option.bind_some]
  refine loopI (fun f i g => F_J7_fill_53178_5 f r x (nI i) (nI n) g) n (fun i g => Ch [r] [] h g ∧ ∀ j, j < i → pg_i g r j = x) (fun o => ∃ h', o = some h' ∧ Ch [r] [] h h' ∧ ∀ j, j < n → pg_i h' r j = x) ?_ ?_ 0 h (Nat.zero_le _) ⟨Ch.refl _ _ _, fun j hj => absurd hj (Nat.not_lt_zero j)⟩ pg_fuel (by unfold pg_fuel; omega)
  · intro f i g hi ⟨cg, g1⟩
    have s : pg_sI 21 g r (nI i) x = some (pg_si g r i x) := by
      unfold pg_sI
      rw [cg.kk, hk, if_pos ⟨rfl, nI_in hi (by omega)⟩, nI_clamp (by omega)]
      rfl
    refine ⟨pg_si g r i x, ?_, cg.asi (Or.inl (List.mem_singleton.mpr rfl)), fun j hj => ?_⟩
    · show F_J7_fill_53178_5 (f + 1) r x (nI i) (nI n) g = F_J7_fill_53178_5 f r x (nI (i + 1)) (nI n) _
      rw [F_J7_fill_53178_5]
      dsimp only
      rw [if_pos (nI_lt hi (by omega)), s, Option.bind_some, nI_1]
    · rw [si_row]
      by_cases e : j = i
      · rw [e, up1_eq]
      · rw [up1_ne e]
        exact g1 j (by omega)
  · intro f g ⟨cg, g1⟩
    refine ⟨g, ?_, cg, g1⟩
    show F_J7_fill_53178_5 (f + 1) r x (nI n) (nI n) g = _
    rw [F_J7_fill_53178_5]
    dsimp only
    rw [if_neg Int32.lt_irrefl]
theorem c_fillL {h : pg_H} {r n : Nat} (x : Int64) (hk : pg_k h r = (22, n)) (hn : n ≤ 100000) : ∃ h', F_J7_fill_d0a16 r x h = some h' ∧ Ch [r] [] h h' ∧ ∀ j, j < n → pg_l h' r j = x := by
  have len : pg_len h r = some (nI n) := by
    unfold pg_len
    rw [hk]
    rfl
  unfold F_J7_fill_d0a16
  rw [len, Option.bind_some]
  refine loopI (fun f i g => F_J7_fill_d0a16_6 f r x (nI i) (nI n) g) n (fun i g => Ch [r] [] h g ∧ ∀ j, j < i → pg_l g r j = x) (fun o => ∃ h', o = some h' ∧ Ch [r] [] h h' ∧ ∀ j, j < n → pg_l h' r j = x) ?_ ?_ 0 h (Nat.zero_le _) ⟨Ch.refl _ _ _, fun j hj => absurd hj (Nat.not_lt_zero j)⟩ pg_fuel (by unfold pg_fuel; omega)
  · intro f i g hi ⟨cg, g1⟩
    have s : pg_sL g r (nI i) x = some (pg_sl g r i x) := by
      unfold pg_sL
      rw [cg.kk, hk, if_pos ⟨rfl, nI_in hi (by omega)⟩, nI_clamp (by omega)]
    refine ⟨pg_sl g r i x, ?_, cg.asl (Or.inl (List.mem_singleton.mpr rfl)), fun j hj => ?_⟩
    · show F_J7_fill_d0a16_6 (f + 1) r x (nI i) (nI n) g = F_J7_fill_d0a16_6 f r x (nI (i + 1)) (nI n) _
      rw [F_J7_fill_d0a16_6]
      dsimp only
      rw [if_pos (nI_lt hi (by omega)), s, Option.bind_some, nI_1]
    · rw [sl_row]
      by_cases e : j = i
      · rw [e, up1_eq]
      · rw [up1_ne e]
        exact g1 j (by omega)
  · intro f g ⟨cg, g1⟩
    refine ⟨g, ?_, cg, g1⟩
    show F_J7_fill_d0a16_6 (f + 1) r x (nI n) (nI n) g = _
    rw [F_J7_fill_d0a16_6]
    dsimp only
    rw [if_neg Int32.lt_irrefl]
def envC (A : Nat → Int32) (c ch : Nat) : Nat → Int32 := fun j => if j = 1 then nI ch else if j = 4 then A (3 * c) else if j = 7 then A (3 * c + 1) else if j = 8 then A (3 * c + 2) else 0
def envN (A : Nat → Int32) (n s : Nat) : Nat → Int32 := fun j => if j = 0 then A (340 + 5 * n + 1) else if j = 1 then nI (nt A n 1 / 5) else if j = 2 then A (340 + 5 * n + 2) else if j = 3 then nI s else if j = 4 then A (3 * nt A n 0) else if j = 5 then A (340 + 5 * n + 3) else if j = 6 then A (340 + 5 * n + 4) else if j = 7 then A (3 * nt A n 0 + 1) else if j = 8 then A (3 * nt A n 0 + 2) else 0
theorem nine {f g : Nat → Int32} (h0 : f 0 = g 0) (h1 : f 1 = g 1) (h2 : f 2 = g 2) (h3 : f 3 = g 3) (h4 : f 4 = g 4) (h5 : f 5 = g 5) (h6 : f 6 = g 6) (h7 : f 7 = g 7) (h8 : f 8 = g 8) : ∀ j, j < 9 → f j = g j := by
  intro j hj
  rcases j with _ | _ | _ | _ | _ | _ | _ | _ | _ | j
  · exact h0
  · exact h1
  · exact h2
  · exact h3
  · exact h4
  · exact h5
  · exact h6
  · exact h7
  · exact h8
  · omega
theorem c_askPlace {h : pg_H} (D : KD (pg_k h)) (R : RD (pg_r h)) {p : Nat} (hp : p < 2 ^ 31) : ∃ h', F_X0_askOfPlace 47 (nI p) h = some h' ∧ Ch [48] [] h h' ∧ ∀ j, j < 9 → pg_i h' 48 j = envW p 0 0 j := by
  obtain ⟨g, g1, g2, g3⟩ := c_fill (h := h) (r := 48) (n := 9) 0 ((D 48 (by decide)).trans (by decide)) (by decide)
  have Dg : KD (pg_k g) := by
    rw [g2.kk]
    exact D
  have Rg' : RD (pg_r g) := by
    rw [g2.rr]
    exact R
  have d5 : nI p / (5 : Int32) = nI (p / 5) := nI_div (b := 5) hp (by decide)
  refine ⟨pg_si (pg_si g 48 0 (nI p)) 48 1 (nI (p / 5)), ?_, (g2.asi (Or.inl (by decide))).asi (Or.inl (by decide)), ?_⟩
  · unfold F_X0_askOfPlace
    simp only [k_si, k_sl, k_sr, r_si, r_sl, i_sl, i_sr, l_si, l_sr, Option.bind_some, if_true, if_false, bind_eta2, if_bb, decide_eq_true_eq, pg_let, nR_47_0, D, R, Dg, Rg', g1, ns_48_0, ns_48_1, d5, if_neg (show ¬ ((5 : Int32) = 0) by decide)]
  · rw [si_row, si_row]
    exact nine rfl rfl (g3 2 (by decide)) (g3 3 (by decide)) (g3 4 (by decide)) (g3 5 (by decide)) (g3 6 (by decide)) (g3 7 (by decide)) (g3 8 (by decide))
theorem c_askWording {h : pg_H} (D : KD (pg_k h)) (R : RD (pg_r h)) {p : Nat} (hp : p < 2 ^ 31) (w s : Nat) : ∃ h', F_X0_askOfWording 47 (nI p) (nI w) (nI s) h = some h' ∧ Ch [48] [] h h' ∧ ∀ j, j < 9 → pg_i h' 48 j = envW p w s j := by
  obtain ⟨g, g1, g2, g3⟩ := c_askPlace D R hp
  have Dg : KD (pg_k g) := by
    rw [g2.kk]
    exact D
  have Rg' : RD (pg_r g) := by
    rw [g2.rr]
    exact R
  refine ⟨pg_si (pg_si g 48 2 (nI w)) 48 3 (nI s), ?_, (g2.asi (Or.inl (by decide))).asi (Or.inl (by decide)), ?_⟩
  · unfold F_X0_askOfWording
    simp only [k_si, k_sl, k_sr, r_si, r_sl, i_sl, i_sr, l_si, l_sr, Option.bind_some, if_true, if_false, bind_eta2, if_bb, decide_eq_true_eq, pg_let, nR_47_0, nc_47, D, R, Dg, Rg', g1, ns_48_2, ns_48_3]
  · rw [si_row, si_row]
    exact nine (g3 0 (by decide)) (g3 1 (by decide)) rfl rfl (g3 4 (by decide)) (g3 5 (by decide)) (g3 6 (by decide)) (g3 7 (by decide)) (g3 8 (by decide))
theorem c_askCopy {h : pg_H} {A : Nat → Int32} (D : KD (pg_k h)) (R : RD (pg_r h)) (C : CNum h 2 A) {c : Nat} (hc : c < nC A) : F_X0_askOfCopy 47 2 (nI c) h = some (pg_si (pg_si (pg_si h 48 4 (A (3 * c))) 48 7 (A (3 * c + 1))) 48 8 (A (3 * c + 2))) := by
  have C1 : CNum (pg_si h 48 4 (A (3 * c))) 2 A := C.ch (S := [48]) (T := []) ((Ch.refl _ _ _).asi (Or.inl (by decide))) (by decide)
  have C2 : CNum (pg_si (pg_si h 48 4 (A (3 * c))) 48 7 (A (3 * c + 1))) 2 A := C1.ch (S := [48]) (T := []) ((Ch.refl _ _ _).asi (Or.inl (by decide))) (by decide)
  unfold F_X0_askOfCopy
  simp only [k_si, k_sl, k_sr, r_si, r_sl, i_sl, i_sr, l_si, l_sr, Option.bind_some, if_true, if_false, bind_eta2, if_bb, decide_eq_true_eq, pg_let, nR_47_0, nR_2_0, nc_3, D, R, c_at_3_0 C hc, c_at_3_1 C1 hc, c_at_3_2 C2 hc, ns_48_4, ns_48_7, ns_48_8]
theorem c_askChapter {h : pg_H} {A : Nat → Int32} (D : KD (pg_k h)) (R : RD (pg_r h)) (C : CNum h 2 A) {c : Nat} (hc : c < nC A) (ch : Nat) : ∃ h', F_X0_askOfChapter 47 2 (nI c) (nI ch) h = some h' ∧ Ch [48] [] h h' ∧ ∀ j, j < 9 → pg_i h' 48 j = envC A c ch j := by
  obtain ⟨g, g1, g2, g3⟩ := c_fill (h := h) (r := 48) (n := 9) 0 ((D 48 (by decide)).trans (by decide)) (by decide)
  have Dg : KD (pg_k g) := by
    rw [g2.kk]
    exact D
  have Rg' : RD (pg_r g) := by
    rw [g2.rr]
    exact R
  have Cg : CNum (pg_si g 48 1 (nI ch)) 2 A := C.ch (g2.asi (Or.inl (by decide))) (by decide)
  refine ⟨pg_si (pg_si (pg_si (pg_si g 48 1 (nI ch)) 48 4 (A (3 * c))) 48 7 (A (3 * c + 1))) 48 8 (A (3 * c + 2)), ?_, (((g2.asi (Or.inl (by decide))).asi (Or.inl (by decide))).asi (Or.inl (by decide))).asi (Or.inl (by decide)), ?_⟩
  · have e := c_askCopy (h := pg_si g 48 1 (nI ch)) Dg Rg' Cg hc
    unfold F_X0_askOfChapter
    simp only [k_si, k_sl, k_sr, r_si, r_sl, i_sl, i_sr, l_si, l_sr, Option.bind_some, if_true, if_false, bind_eta2, if_bb, decide_eq_true_eq, pg_let, nR_47_0, nc_47, D, R, Dg, Rg', g1, ns_48_1, e]
  · rw [si_row, si_row, si_row, si_row]
    exact nine (g3 0 (by decide)) rfl (g3 2 (by decide)) (g3 3 (by decide)) rfl (g3 5 (by decide)) (g3 6 (by decide)) rfl rfl
theorem c_askNote {h : pg_H} {A : Nat → Int32} (D : KD (pg_k h)) (R : RD (pg_r h)) (C : CNum h 2 A) (K : ShOK A) {n : Nat} (hn : n < nN A) (s : Nat) : ∃ h', F_X0_askOfNote 47 2 (nI n) (nI s) h = some h' ∧ Ch [48] [] h h' ∧ ∀ j, j < 9 → pg_i h' 48 j = envN A n s j := by
  obtain ⟨k0, k1, k2, k3, k4⟩ := K.2.2.2.2.2.1 n hn
  have p60 : cl A (340 + 5 * n + 1) < 60 := k1.2
  obtain ⟨g, g1, g2, g3⟩ := c_askWording D R (p := cl A (340 + 5 * n + 1)) (by omega) (cl A (340 + 5 * n + 2)) s
  rw [← k1.1, ← k2.1] at g1
  have Dg : KD (pg_k g) := by
    rw [g2.kk]
    exact D
  have Rg' : RD (pg_r g) := by
    rw [g2.rr]
    exact R
  have C0 : CNum g 2 A := C.ch g2 (by decide)
  have C1 : CNum (pg_si g 48 5 (A (340 + 5 * n + 3))) 2 A := C.ch (g2.asi (Or.inl (by decide))) (by decide)
  have C2 : CNum (pg_si (pg_si g 48 5 (A (340 + 5 * n + 3))) 48 6 (A (340 + 5 * n + 4))) 2 A := C.ch ((g2.asi (Or.inl (by decide))).asi (Or.inl (by decide))) (by decide)
  have hc : cl A (340 + 5 * n) < nC A := k0.2
  have e := c_askCopy (h := pg_si (pg_si g 48 5 (A (340 + 5 * n + 3))) 48 6 (A (340 + 5 * n + 4))) Dg Rg' C2 hc
  rw [← k0.1] at e
  refine ⟨_, ?_, (((((g2.asi (x := A (340 + 5 * n + 3)) (r := 48) (k := 5) (Or.inl (by decide))).asi (x := A (340 + 5 * n + 4)) (r := 48) (k := 6) (Or.inl (by decide))).asi (x := A (3 * cl A (340 + 5 * n))) (r := 48) (k := 4) (Or.inl (by decide))).asi (x := A (3 * cl A (340 + 5 * n) + 1)) (r := 48) (k := 7) (Or.inl (by decide))).asi (x := A (3 * cl A (340 + 5 * n) + 2)) (r := 48) (k := 8) (Or.inl (by decide))), ?_⟩
  · unfold F_X0_askOfNote
    simp only [k_si, k_sl, k_sr, r_si, r_sl, i_sl, i_sr, l_si, l_sr, Option.bind_some, if_true, if_false, bind_eta2, if_bb, decide_eq_true_eq, pg_let, nR_47_0, nR_2_4, nc_47, nc_11, D, R, Dg, Rg', c_at_11_1 C hn, c_at_11_2 C hn, c_at_11_3 C0 hn, c_at_11_4 C1 hn, c_at_11_0 C2 hn, g1, ns_48_5, ns_48_6, e]
  · rw [si_row, si_row, si_row, si_row, si_row]
    exact nine ((g3 0 (by decide)).trans k1.1.symm) (g3 1 (by decide)) ((g3 2 (by decide)).trans k2.1.symm) (g3 3 (by decide)) rfl rfl rfl rfl rfl
theorem m_bare {h : pg_H} (L : Lay h) : ∃ h', F_X12_bare 81 h = some h' ∧ Ch [92] [] h h' ∧ ∀ j, j < 9 → pg_i h' 92 j = 0 := by
  unfold F_X12_bare
  refine loopI (fun f i g => F_X12_bare_2 f 81 (nI i) g) 9 (fun i g => Ch [92] [] h g ∧ ∀ j, j < i → pg_i g 92 j = 0) (fun o => ∃ h', o = some h' ∧ Ch [92] [] h h' ∧ ∀ j, j < 9 → pg_i h' 92 j = 0) ?_ ?_ 0 h (Nat.zero_le _) ⟨Ch.refl _ _ _, fun j hj => absurd hj (Nat.not_lt_zero j)⟩ pg_fuel (by unfold pg_fuel; omega)
  · intro f i g hi ⟨cg, g1⟩
    have Lg := cg.lay L (by decide)
    refine ⟨pg_si g 92 i 0, ?_, cg.asi (Or.inl (by decide)), fun j hj => ?_⟩
    · show F_X12_bare_2 (f + 1) 81 (nI i) g = F_X12_bare_2 f 81 (nI (i + 1)) _
      rw [F_X12_bare_2]
      dsimp only
      rw [if_pos (show nI i < (9 : Int32) from nI_lt (b := 9) hi (by decide)), nR_81_22 Lg.kd Lg.rd, Option.bind_some, ns_92 Lg.kd hi, Option.bind_some, nI_1]
    · rw [si_row]
      by_cases e : j = i
      · rw [e, up1_eq]
      · rw [up1_ne e]
        exact g1 j (by omega)
  · intro f g ⟨cg, g1⟩
    refine ⟨g, ?_, cg, g1⟩
    show F_X12_bare_2 (f + 1) 81 (nI 9) g = _
    rw [F_X12_bare_2]
    dsimp only
    rw [if_neg (show ¬ nI 9 < (9 : Int32) by decide)]
theorem m_asksCopy {h : pg_H} {A : Nat → Int32} (L : Lay h) (M : pg_i h 83 = A) {c : Nat} (hc : c < 12) (ch : Nat) : ∃ h', F_X12_asksCopy 81 (nI c) (nI ch) h = some h' ∧ Ch [92] [] h h' ∧ ∀ j, j < 9 → pg_i h' 92 j = envC A c ch j := by
  obtain ⟨g, g1, g2, g3⟩ := m_bare L
  have Lg := g2.lay L (by decide)
  have Mg : pg_i g 83 = A := (g2.row (by decide)).trans M
  have s1 : Ch [92] [] g (pg_si g 92 1 (nI ch)) := (Ch.refl _ _ _).asi (Or.inl (by decide))
  have s2 := s1.asi (r := 92) (k := 4) (x := A (3 * c)) (Or.inl (by decide))
  have s3 := s2.asi (r := 92) (k := 7) (x := A (3 * c + 1)) (Or.inl (by decide))
  have M1 : pg_i (pg_si g 92 1 (nI ch)) 83 = A := (s1.row (by decide)).trans Mg
  have M2 : pg_i (pg_si (pg_si g 92 1 (nI ch)) 92 4 (A (3 * c))) 83 = A := (s2.row (by decide)).trans Mg
  have M3 : pg_i (pg_si (pg_si (pg_si g 92 1 (nI ch)) 92 4 (A (3 * c))) 92 7 (A (3 * c + 1))) 83 = A := (s3.row (by decide)).trans Mg
  refine ⟨pg_si (pg_si (pg_si (pg_si g 92 1 (nI ch)) 92 4 (A (3 * c))) 92 7 (A (3 * c + 1))) 92 8 (A (3 * c + 2)), ?_, (((g2.asi (Or.inl (by decide))).asi (Or.inl (by decide))).asi (Or.inl (by decide))).asi (Or.inl (by decide)), ?_⟩
  · have e0 := m_copy_0 (s1.lay Lg (by decide)) M1 hc
    have e1 := m_copy_1 (s2.lay Lg (by decide)) M2 hc
    have e2 := m_copy_2 (s3.lay Lg (by decide)) M3 hc
    unfold F_X12_asksCopy
    simp only [k_si, k_sl, k_sr, r_si, r_sl, i_sl, i_sr, l_si, l_sr, Option.bind_some, if_true, if_false, bind_eta2, if_bb, decide_eq_true_eq, pg_let, nc_81, nR_81_22, L.kd, L.rd, Lg.kd, Lg.rd, g1, ns_92_1, ns_92_4, ns_92_7, ns_92_8, e0, e1, e2]
  · rw [si_row, si_row, si_row, si_row]
    exact nine (g3 0 (by decide)) rfl (g3 2 (by decide)) (g3 3 (by decide)) rfl (g3 5 (by decide)) (g3 6 (by decide)) rfl rfl
/-! what texts tell -/
theorem clamp_if (y : Int64) : (if y < (0 : Int64) then (0 : Int32) else if (100 : Int64) < y then (100 : Int32) else y.toInt32) = nI (clampL y) := by
  unfold clampL
  have t0 : (0 : Int64).toInt = 0 := by decide
  have t1 : (100 : Int64).toInt = 100 := by decide
  by_cases c0 : y < 0
  · rw [if_pos c0]
    rw [Int64.lt_iff_toInt_lt, t0] at c0
    rw [show y.toInt.toNat = 0 by omega]
    rfl
  · rw [if_neg c0]
    rw [Int64.lt_iff_toInt_lt, t0] at c0
    by_cases c1 : (100 : Int64) < y
    · rw [if_pos c1]
      rw [Int64.lt_iff_toInt_lt, t1] at c1
      rw [show min 100 y.toInt.toNat = 100 by omega]
      rfl
    · rw [if_neg c1]
      rw [Int64.lt_iff_toInt_lt, t1] at c1
      rw [show min 100 y.toInt.toNat = y.toInt.toNat by omega]
      apply Int32.toInt_inj.mp
      rw [Int64.toInt_toInt32, nI_toInt (by omega), Int.bmod_eq_of_le (by omega) (by omega)]
      omega
theorem c_toldNull {h : pg_H} (hd w : Int32) : F_X0_told 47 0 hd w h = some (w, h) := by
  obtain ⟨f, hf⟩ := fuel_S
  unfold F_X0_told F_X0_told_15
  rw [if_pos rfl, hf, F_X0_told_20]
  dsimp only
  rw [if_neg Int32.lt_irrefl]
theorem sameT_refl (h : pg_H) (r : Nat) : sameT h h r := ⟨rfl, rfl, rfl, rfl⟩
theorem used_cases {A : Nat → Int32} (K : ShOK A) : A 1349 = -1 ∨ (A 1349 = nI (cl A 1349) ∧ cl A 1349 < nT A) := K.2.2.2.2.2.2.2.2.2.1
theorem c_told {h : pg_H} {A : Nat → Int32} {X : Nat → tX} (L : Lay h) (S : ShX h 2 A X) {hd : Nat} (hh : hd < 5) (w : Int32) : ∃ r h', F_X5_textUsed h 2 = some r ∧ F_X0_told 47 r (nI hd) w h = some ((uX A X hd (pg_i h 48)).elim w nI, h') ∧ Ch [49] [(47, 2)] h h' := by
  obtain ⟨C, K, T⟩ := S
  have kT : nT A < 9 := K.1.2.2.2.2.2
  have e8 : pg_i h 2 8 = A 1349 := C.2.2.2.2.2.2.2
  have used : ∀ r, F_X5_textOf h 2 (A 1349) = some r → F_X5_textUsed h 2 = some r := fun r e => by
    unfold F_X5_textUsed
    rw [ng_2 L.kd, Option.bind_some, e8, nc_2 L.kd, e]
    rfl
  rcases used_cases K with z | ⟨z1, z2⟩
  · refine ⟨0, h, used 0 ?_, ?_, Ch.refl _ _ _⟩
    · rw [c_textOf L C K, if_neg (show ¬ (0 ≤ A 1349 ∧ A 1349 < nI (nT A)) from fun y => by
        rw [z] at y
        exact absurd y.1 (by decide))]
    · rw [c_toldNull]
      unfold uX
      rw [if_pos z]
      rfl
  · obtain ⟨t1, t2, t3⟩ := T (cl A 1349) z2
    obtain ⟨h', q1, q2⟩ := (t2.2 h L (sameT_refl _ _)).1 hd hh w
    refine ⟨pg_r h 14 (cl A 1349), h', used _ ?_, ?_, q2⟩
    · rw [c_textOf L C K, if_pos (by rw [z1]; exact (nI_in_iff (by omega) (by omega)).mpr z2)]
      rfl
    · rw [q1]
      unfold uX
      rw [if_neg (by rw [z1]; exact neg1_ne (by omega))]
theorem m_asks {h : pg_H} {A : Nat → Int32} {X : Nat → tX} (L : Lay h) (M : pg_i h 83 = A) {s : Nat} {g : pg_H} (S : ShX g s A X) {hd : Nat} (hh : hd < 7) : ∃ h', F_X12_asks 81 (A 1349) (nI (hd + 1)) h = some h' ∧ Ch [] mT h h' ∧ pg_i h' 81 24 = b01 (uX A X hd (pg_i h 92)).isSome ∧ ∀ v, uX A X hd (pg_i h 92) = some v → clampL (pg_l h' 81 23) = v := by
  obtain ⟨C, K, T⟩ := S
  rcases used_cases K with z | ⟨z1, z2⟩
  · refine ⟨pg_si (pg_sl h 81 23 0) 81 24 0, ?_, ((Ch.refl _ _ _).asl (Or.inr (by decide))).asi (Or.inr (by decide)), ?_, ?_⟩
    · unfold F_X12_asks
      simp only [k_si, k_sl, k_sr, r_si, r_sl, i_sl, i_sr, l_si, l_sr, Option.bind_some, if_true, if_false, bind_eta2, if_bb, decide_eq_true_eq, pg_let, npl_81, nz0_81, L.kd, if_pos z]
    · unfold uX
      rw [if_pos z, si_row, up1_eq]
      rfl
    · intro v e
      unfold uX at e
      rw [if_pos z] at e
      cases e
  · obtain ⟨t1, t2, t3⟩ := T (cl A 1349) z2
    obtain ⟨h', q1, q2, q3, q4⟩ := t3 h L (by rw [M]) (fun k _ => by rw [M]; exact ⟨rfl, rfl⟩) hd hh
    have n1 : ¬ A 1349 = -1 := by
      rw [z1]
      have : nT A < 9 := K.1.2.2.2.2.2
      exact neg1_ne (by omega)
    have eu : uX A X = X (cl A 1349) := by
      unfold uX
      rw [if_neg n1]
    rw [eu]
    exact ⟨h', by rw [z1]; exact q1, q2, q3, q4⟩
theorem m_tell {h : pg_H} (D : KD (pg_k h)) {o : Option Nat} (w : Int32) (e1 : pg_i h 81 24 = b01 o.isSome) (e2 : ∀ v, o = some v → clampL (pg_l h 81 23) = v) :
    (Option.bind (pg_gI 12 24 h 81) fun v4 => if v4 = 0 then some (w, h) else Option.bind (pg_gL 12 23 h 81) fun v5 => if v5 < (0 : Int64) then some ((0 : Int32), h) else Option.bind (pg_gL 12 23 h 81) fun v6 => if (100 : Int64) < v6 then some ((100 : Int32), h) else Option.bind (pg_gL 12 23 h 81) fun v7 => some (v7.toInt32, h)) = some (o.elim w nI, h) := by
  rw [ng_81 D, Option.bind_some, e1, if_bb]
  cases o with
  | none => rfl
  | some v =>
    rw [if_pos (show (some v).isSome = true from rfl), ngl_81 D, Option.bind_some, Option.bind_some, Option.bind_some, ← e2 v rfl]
    show _ = some (nI _, h)
    rw [← clamp_if]
    generalize pg_l h 81 23 = y
    by_cases c0 : y < 0
    · rw [if_pos c0, if_pos c0]
    · rw [if_neg c0, if_neg c0]
      by_cases c1 : (100 : Int64) < y
      · rw [if_pos c1, if_pos c1]
      · rw [if_neg c1, if_neg c1]
theorem m_hundredth {h : pg_H} {A : Nat → Int32} {X : Nat → tX} (L : Lay h) (M : pg_i h 83 = A) {s : Nat} {g : pg_H} (S : ShX g s A X) {hd : Nat} (hh : hd < 7) : ∃ h', F_X12_hundredth 81 (nI (hd + 1)) h = some ((uX A X hd (pg_i h 92)).elim 50 nI, h') ∧ Ch [] mT h h' := by
  obtain ⟨h', q1, q2, q3, q4⟩ := m_asks L M S hh
  have D' : KD (pg_k h') := by
    rw [q2.kk]
    exact L.kd
  refine ⟨h', ?_, q2⟩
  unfold F_X12_hundredth
  rw [nR_81_3 L.kd L.rd, Option.bind_some, m_k_1349 L M, Option.bind_some, nc_81 L.kd, q1, Option.bind_some]
  exact m_tell D' 50 q3 q4
theorem uX_env {h : pg_H} {A : Nat → Int32} {X : Nat → tX} {s : Nat} (S : ShX h s A X) {hd : Nat} {e e' : Nat → Int32} (he : ∀ j, j < 9 → e j = e' j) : uX A X hd e = uX A X hd e' := by
  unfold uX
  rcases used_cases S.2.1 with z | ⟨z1, z2⟩
  · rw [if_pos z]
  · by_cases n1 : A 1349 = -1
    · rw [if_pos n1]
    · rw [if_neg n1]
      exact (S.2.2 _ z2).1.2 hd e e' he
theorem uX_le {h : pg_H} {A : Nat → Int32} {X : Nat → tX} {s : Nat} (S : ShX h s A X) {hd : Nat} {e : Nat → Int32} {v : Nat} (hv : uX A X hd e = some v) : v ≤ 100 := by
  unfold uX at hv
  rcases used_cases S.2.1 with z | ⟨z1, z2⟩
  · rw [if_pos z] at hv
    cases hv
  · by_cases n1 : A 1349 = -1
    · rw [if_pos n1] at hv
      cases hv
    · rw [if_neg n1] at hv
      exact (S.2.2 _ z2).1.1 hd e v hv
theorem wg_le {h : pg_H} {A : Nat → Int32} {X : Nat → tX} {s : Nat} (S : ShX h s A X) (p w : Nat) : wg A (uX A X) p w ≤ 100 := by
  unfold wg
  cases e : uX A X 0 (envW p w (shQ A (nI p) (nI w))) with
  | none => decide
  | some v => exact uX_le S e
theorem m_weightOf {h : pg_H} {A : Nat → Int32} {X : Nat → tX} (L : Lay h) (M : pg_i h 83 = A) {s : Nat} {g : pg_H} (S : ShX g s A X) {p w : Nat} (hp : p < 2 ^ 31) : ∃ h', F_X12_weightOf 81 (nI p) (nI w) h = some (nI (wg A (uX A X) p w), h') ∧ Ch [92] mT h h' := by
  have K := S.2.1
  obtain ⟨a, a1, a2, a3⟩ := m_bare L
  have La := a2.lay L (by decide)
  have Ma : pg_i a 83 = A := (a2.row (by decide)).trans M
  have d5 : nI p / (5 : Int32) = nI (p / 5) := nI_div (b := 5) hp (by decide)
  have s3 : Ch [92] [] a (pg_si (pg_si (pg_si a 92 0 (nI p)) 92 1 (nI (p / 5))) 92 2 (nI w)) := (((Ch.refl _ _ _).asi (Or.inl (by decide))).asi (Or.inl (by decide))).asi (Or.inl (by decide))
  have L3 := s3.lay La (by decide)
  have M3 : pg_i (pg_si (pg_si (pg_si a 92 0 (nI p)) 92 1 (nI (p / 5))) 92 2 (nI w)) 83 = A := (s3.row (by decide)).trans Ma
  have sh := m_sharedBy L3 M3 K (nI p) (nI w)
  have s4 : Ch [92] [] a (pg_si (pg_si (pg_si (pg_si a 92 0 (nI p)) 92 1 (nI (p / 5))) 92 2 (nI w)) 92 3 (nI (shQ A (nI p) (nI w)))) := s3.asi (Or.inl (by decide))
  have L4 := s4.lay La (by decide)
  have M4 : pg_i (pg_si (pg_si (pg_si (pg_si a 92 0 (nI p)) 92 1 (nI (p / 5))) 92 2 (nI w)) 92 3 (nI (shQ A (nI p) (nI w)))) 83 = A := (s4.row (by decide)).trans Ma
  obtain ⟨h', q1, q2, q3, q4⟩ := m_asks (hd := 0) L4 M4 S (by decide)
  have env : ∀ j, j < 9 → pg_i (pg_si (pg_si (pg_si (pg_si a 92 0 (nI p)) 92 1 (nI (p / 5))) 92 2 (nI w)) 92 3 (nI (shQ A (nI p) (nI w)))) 92 j = envW p w (shQ A (nI p) (nI w)) j := by
    rw [si_row, si_row, si_row, si_row]
    exact nine rfl rfl rfl rfl (a3 4 (by decide)) (a3 5 (by decide)) (a3 6 (by decide)) (a3 7 (by decide)) (a3 8 (by decide))
  have D' : KD (pg_k h') := by
    rw [q2.kk]
    exact L4.kd
  refine ⟨h', ?_, (a2.trans s4).mono (by decide) |>.trans (q2.mono (by decide))⟩
  have tell := m_tell D' 10 q3 q4
  have val : (uX A X 0 (pg_i (pg_si (pg_si (pg_si (pg_si a 92 0 (nI p)) 92 1 (nI (p / 5))) 92 2 (nI w)) 92 3 (nI (shQ A (nI p) (nI w)))) 92)).elim (10 : Int32) nI = nI (wg A (uX A X) p w) := by
    rw [uX_env S env]
    unfold wg
    cases uX A X 0 (envW p w (shQ A (nI p) (nI w))) <;> rfl
  rw [val] at tell
  have u1 : F_X12_asks 81 (A 1349) (1 : Int32) (pg_si (pg_si (pg_si (pg_si a 92 0 (nI p)) 92 1 (nI (p / 5))) 92 2 (nI w)) 92 3 (nI (shQ A (nI p) (nI w)))) = some h' := q1
  unfold F_X12_weightOf
  simp only [k_si, r_si, Option.bind_some, nc_81, nR_81_22, nR_81_3, L.kd, L.rd, La.kd, La.rd, a1, ns_92_0, ns_92_1, ns_92_2, ns_92_3, d5, if_neg (show ¬ ((5 : Int32) = 0) by decide), sh, m_k_1349 L4 M4, u1]
  exact tell
