theorem TxAll.cong2 {h : pg_H} {b : Nat} {A A' : Nat → Int32} {X : Nat → tX} (p : TxAll h b A X) (kT : nT A < 9) (e : ∀ j, 1350 ≤ j → j < 7758 → A' j = A j) (en : A' 1348 = A 1348) : TxAll h b A' X := fun t ht => by
  unfold nT cl at ht
  rw [en] at ht
  have ht' : t < nT A := ht
  obtain ⟨p1, p2, p3⟩ := p t ht
  exact ⟨p1, p2, p3.cong (e _ (by omega) (by omega)) (fun k _ => ⟨e _ (by omega) (by omega), e _ (by omega) (by omega)⟩)⟩
theorem ShOK.cong {A A' : Nat → Int32} (K : ShOK A) (e : ∀ j, j < 7758 → A' j = A j) : ShOK A' := by
  have c : ∀ j, j < 7758 → cl A' j = cl A j := fun j hj => by
    unfold cl
    rw [e j hj]
  exact K.of (Or.inl ⟨fun j _ => e j (by omega), c _ (by omega)⟩) (Or.inl ⟨fun j _ _ => e j (by omega), c _ (by omega)⟩) (Or.inl ⟨fun j _ _ => e j (by omega), c _ (by omega)⟩) (Or.inl fun j _ _ => e j (by omega)) (Or.inl ⟨fun j _ _ => e j (by omega), c _ (by omega)⟩) (Or.inl fun j _ _ => e j (by omega)) (Or.inl ⟨e _ (by omega), Nat.le_of_eq (c _ (by omega)).symm⟩) (Or.inl ⟨fun j _ _ => e j (by omega), c _ (by omega)⟩) ⟨⟨K.1.1.cong (e _ (by omega)), Nat.le_of_eq (c _ (by omega)).symm⟩, K.1.2.1.cong (e _ (by omega)), ⟨K.1.2.2.1.cong (e _ (by omega)), Nat.le_of_eq (c _ (by omega)).symm⟩, K.1.2.2.2.1.cong (e _ (by omega)), K.1.2.2.2.2.cong (e _ (by omega))⟩
theorem ShX.cong {h : pg_H} {s : Nat} {A A' : Nat → Int32} {X : Nat → tX} (p : ShX h s A X) (e : ∀ j, j < 7758 → A' j = A j) : ShX h s A' X :=
  ⟨p.1.num (fun j hj => e j (by omega)), p.2.1.cong e, p.2.2.cong2 p.2.1.1.2.2.2.2.2 (fun j _ hj => e j hj) (e _ (by decide))⟩
/-- with other references -/
def rs (g h : pg_H) : pg_H := (g.1, g.2.1, g.2.2.1, g.2.2.2.1, g.2.2.2.2.1, pg_r h)
theorem rs_ch {S : List Nat} {T : List (Nat × Nat)} {W : Nat → Nat → Prop} {h g : pg_H} (h1 : g.1 = h.1) (h2 : g.2.1 = h.2.1) (h3 : pg_k g = pg_k h) (h4 : ∀ r k, ¬ W r k → pg_i g r k = pg_i h r k ∧ pg_l g r k = pg_l h r k) (hW : ∀ r k, W r k → r ∈ S ∨ (r, k) ∈ T) : Ch S T h (rs g h) :=
  ⟨h1, h2, h3, rfl, fun r k z => h4 r k (fun w => z (hW r k w))⟩
theorem CNum.refs {h g : pg_H} {s : Nat} {A : Nat → Int32} (C : CNum g s A) (e1 : pg_k h = pg_k g) (e2 : pg_i h = pg_i g) (e3 : ∀ r, s < r → r < s + 12 → pg_r h r = pg_r g r) : CNum h s A := by
  have tb : ∀ t w m n base, s < t → t < s + 12 → TR g t w m n base A → TR h t w m n base A := fun t w m n base h1 h2 T => by
    obtain ⟨⟨a1, a2, a3, a4, a5, a6, a7⟩, b⟩ := T
    exact ⟨⟨by rw [e1]; exact a1, by rw [e1]; exact a2, by rw [e3 t h1 h2]; exact a3, by rw [e2]; exact a4, by rw [e2]; exact a5, by rw [e2]; exact a6, a7⟩, by rw [e2]; exact b⟩
  obtain ⟨a1, a2, a3, a4, a5, a6, a7, a8⟩ := C
  exact ⟨tb _ _ _ _ _ (by omega) (by omega) a1, tb _ _ _ _ _ (by omega) (by omega) a2, tb _ _ _ _ _ (by omega) (by omega) a3, tb _ _ _ _ _ (by omega) (by omega) a4, tb _ _ _ _ _ (by omega) (by omega) a5, by rw [e2]; exact a6, by rw [e2]; exact a7, by rw [e2]; exact a8⟩
theorem TxAll.refs {h g : pg_H} {a b : Nat} {A : Nat → Int32} {X : Nat → tX} (p : TxAll g a A X) (kT : nT A < 9) (e0 : h.1 = g.1) (e1 : pg_k h = pg_k g) (e2 : ∀ r, 110 ≤ r → pg_i h r = pg_i g r) (e3 : ∀ r, 110 ≤ r → pg_r h r = pg_r g r) (e4 : ∀ t, t < 8 → pg_r h b t = pg_r g a t) : TxAll h b A X := fun t ht => by
  obtain ⟨p1, p2, p3⟩ := p t ht
  refine ⟨p1, ?_, p3⟩
  rw [e4 t (by omega)]
  have q := p2.1
  exact p2.same ⟨by rw [e1], by rw [e3 _ q.1], by rw [e1], e2 _ q.2.2.1⟩ (Nat.le_of_eq e0.symm)
theorem m_image {h : pg_H} (L : Lay h) {k : Nat} (hk : k < 2) : ∃ hm, F_X12_image_17 pg_fuel 81 (nI k) 0 h = some (0, pg_si (pg_si hm 81 0 0) 81 1 (pg_i hm 81 1 + 1)) ∧ Ch [84, 85] [] h hm ∧ (∀ j, j < 7758 → pg_i hm 84 (7758 * k + j) = pg_i h 83 j) ∧ (∀ j, (j < 7758 * k ∨ 7758 * k + 7758 ≤ j) → pg_i hm 84 j = pg_i h 84 j) ∧ pg_i hm 85 = up1 (pg_i h 85) k 1 := by
  refine loopI (fun f i x => F_X12_image_17 f 81 (nI k) (nI i) x) 7758 (fun i x => Ch [84] [] h x ∧ (∀ j, j < i → pg_i x 84 (7758 * k + j) = pg_i h 83 j) ∧ (∀ j, (j < 7758 * k ∨ 7758 * k + 7758 ≤ j) → pg_i x 84 j = pg_i h 84 j)) (fun r => ∃ hm, r = some (0, pg_si (pg_si hm 81 0 0) 81 1 (pg_i hm 81 1 + 1)) ∧ Ch [84, 85] [] h hm ∧ (∀ j, j < 7758 → pg_i hm 84 (7758 * k + j) = pg_i h 83 j) ∧ (∀ j, (j < 7758 * k ∨ 7758 * k + 7758 ≤ j) → pg_i hm 84 j = pg_i h 84 j) ∧ pg_i hm 85 = up1 (pg_i h 85) k 1) ?_ ?_ 0 h (by decide) ⟨Ch.refl _ _ _, fun j hj => absurd hj (Nat.not_lt_zero j), fun _ _ => rfl⟩ pg_fuel (by unfold pg_fuel; omega)
  · intro f i x hi ⟨cx, x1, x2⟩
    have Lx := cx.lay L (by decide)
    have Dx := Lx.kd
    have Rx := Lx.rd
    have e83 : pg_i x 83 = pg_i h 83 := cx.row (by decide)
    have j0 : (7758 : Int32) * nI k + nI i = nI (7758 * k + i) := by rw [show (7758 : Int32) = nI 7758 from rfl, nI_mul, nI_add]
    refine ⟨pg_si x 84 (7758 * k + i) (pg_i h 83 i), ?_, cx.asi (Or.inl (by decide)), fun j hj => ?_, fun j hj => ?_⟩
    · show F_X12_image_17 (f + 1) 81 (nI k) (nI i) x = F_X12_image_17 f 81 (nI k) (nI (i + 1)) _
      rw [F_X12_image_17]
      dsimp only
      rw [if_pos (show nI i < (7758 : Int32) from nI_lt (b := 7758) hi (by decide)), nR_81_4 Dx Rx, Option.bind_some, nR_81_3 Dx Rx, Option.bind_some, na_83 Dx hi, Option.bind_some, j0, ns_84 Dx (by omega), Option.bind_some, e83, nI_1]
    · rw [si_row]
      by_cases e : j = i
      · rw [e, up1_eq]
      · rw [up1_ne (by omega)]
        exact x1 j (by omega)
    · rw [si_row, up1_ne (by omega)]
      exact x2 j hj
  · intro f x ⟨cx, x1, x2⟩
    have Lx := cx.lay L (by decide)
    have Dx := Lx.kd
    have Rx := Lx.rd
    refine ⟨pg_si x 85 k 1, ?_, (cx.mono (by decide)).asi (Or.inl (by decide)), fun j hj => by rw [si_ne (by decide)]; exact x1 j hj, fun j hj => by rw [si_ne (by decide)]; exact x2 j hj, by rw [si_row, cx.row (by decide)]⟩
    show F_X12_image_17 (f + 1) 81 (nI k) (nI 7758) x = _
    rw [F_X12_image_17]
    dsimp only
    rw [if_neg (show ¬ nI 7758 < (7758 : Int32) by decide)]
    simp only [k_si, k_sl, k_sr, r_si, r_sl, i_sl, i_sr, l_si, l_sr, Option.bind_some, if_true, if_false, bind_eta2, if_bb, decide_eq_true_eq, pg_let, nR_81_5, ns_85, nc_81, Dx, Rx, hk, show ((1 : Int32) &&& 1) = 1 from by decide, m_good]
theorem m_back {h : pg_H} (L : Lay h) {k : Nat} (hk : k < 2) : ∃ hm, F_X12_back_33 pg_fuel 81 (nI k) 0 h = some (0, pg_si (pg_si hm 81 0 0) 81 1 (pg_i hm 81 1 + 1)) ∧ Ch [83] [] h hm ∧ ∀ j, j < 7758 → pg_i hm 83 j = pg_i h 84 (7758 * k + j) := by
  refine loopI (fun f i x => F_X12_back_33 f 81 (nI k) (nI i) x) 7758 (fun i x => Ch [83] [] h x ∧ ∀ j, j < i → pg_i x 83 j = pg_i h 84 (7758 * k + j)) (fun r => ∃ hm, r = some (0, pg_si (pg_si hm 81 0 0) 81 1 (pg_i hm 81 1 + 1)) ∧ Ch [83] [] h hm ∧ ∀ j, j < 7758 → pg_i hm 83 j = pg_i h 84 (7758 * k + j)) ?_ ?_ 0 h (by decide) ⟨Ch.refl _ _ _, fun j hj => absurd hj (Nat.not_lt_zero j)⟩ pg_fuel (by unfold pg_fuel; omega)
  · intro f i x hi ⟨cx, x1⟩
    have Lx := cx.lay L (by decide)
    have Dx := Lx.kd
    have Rx := Lx.rd
    have e84 : pg_i x 84 = pg_i h 84 := cx.row (by decide)
    have j0 : (7758 : Int32) * nI k + nI i = nI (7758 * k + i) := by rw [show (7758 : Int32) = nI 7758 from rfl, nI_mul, nI_add]
    refine ⟨pg_si x 83 i (pg_i h 84 (7758 * k + i)), ?_, cx.asi (Or.inl (by decide)), fun j hj => ?_⟩
    · show F_X12_back_33 (f + 1) 81 (nI k) (nI i) x = F_X12_back_33 f 81 (nI k) (nI (i + 1)) _
      rw [F_X12_back_33]
      dsimp only
      rw [if_pos (show nI i < (7758 : Int32) from nI_lt (b := 7758) hi (by decide)), nR_81_3 Dx Rx, Option.bind_some, nR_81_4 Dx Rx, Option.bind_some, j0, na_84 Dx (by omega), Option.bind_some, ns_83 Dx hi, Option.bind_some, e84, nI_1]
    · rw [si_row]
      by_cases e : j = i
      · rw [e, up1_eq]
      · rw [up1_ne e]
        exact x1 j (by omega)
  · intro f x ⟨cx, x1⟩
    have Lx := cx.lay L (by decide)
    refine ⟨x, ?_, cx, x1⟩
    show F_X12_back_33 (f + 1) 81 (nI k) (nI 7758) x = _
    rw [F_X12_back_33]
    dsimp only
    rw [if_neg (show ¬ nI 7758 < (7758 : Int32) by decide)]
    simp only [k_si, k_sl, k_sr, r_si, r_sl, i_sl, i_sr, l_si, l_sr, Option.bind_some, if_true, if_false, bind_eta2, if_bb, decide_eq_true_eq, pg_let, nc_81, Lx.kd, m_good]
