/-! SIMULATIONS: the frame of a call -/
theorem bind_eta2 {α β : Type} (X : Option (α × β)) : (Option.bind X fun v => some (v.1, v.2)) = X := by
  cases X with
  | none => rfl
  | some p => rfl
theorem if_b {α : Type} (P : Prop) [Decidable P] (a b : α) : (if b01 (decide P) = 0 then a else b) = if P then b else a := by
  by_cases h : P
  · rw [if_pos h, decide_eq_true h]
    rfl
  · rw [if_neg h, decide_eq_false h]
    rfl
theorem if_bb {α : Type} (p : Bool) (a b : α) : (if b01 p = 0 then a else b) = if p = true then b else a := by
  cases p <;> rfl
theorem nI_2 (a : Nat) : nI a + 2 = nI (a + 2) := nI_add a 2
theorem nI_3 (a : Nat) : nI a + 3 = nI (a + 3) := nI_add a 3
theorem nI_4 (a : Nat) : nI a + 4 = nI (a + 4) := nI_add a 4
theorem nI_j0 (w n : Nat) : (0 : Int32) + nI w * nI n = nI (w * n) := by
  rw [nI_mul, show (0 : Int32) = nI 0 from rfl, nI_add, Nat.zero_add]
theorem c_refuse {h : pg_H} (D : KD (pg_k h)) (R : RD (pg_r h)) {x : Int32} {k : Nat} (hk : k < 7) (e : -x = nI k) : F_X11_refuse 1 x h = some (x, pg_si (pg_si h 1 11 x) 80 k (pg_i h 80 k + 1)) := by
  unfold F_X11_refuse
  have w : ∀ k, k < 7 → F_X11_within (nI k) 0 6 = some 1 := by decide
  have e2 : pg_i (pg_si h 1 11 x) 80 = pg_i h 80 := si_ne (by decide)
  simp only [k_si, k_sl, k_sr, r_si, r_sl, i_sl, i_sr, l_si, l_sr, Option.bind_some, if_true, if_false, bind_eta2, if_bb, decide_eq_true_eq, pg_let, nR_1_0, nR_1_1, nR_1_2, nR_1_3, nR_1_4, nR_1_5, nR_1_6, nR_1_7, nR_1_8, nR_1_9, nR_1_10, nc_1, ng_1, np_1, nz0_1, nz1_1, nzb_1, na_80, ns_80, nl_80, na_80_1, ns_80_1, na_80_2, ns_80_2, na_80_3, ns_80_3, na_80_4, ns_80_4, na_80_5, ns_80_5, na_80_6, ns_80_6, D, R, e, w k hk, hk, show ¬ ((1 : Int32) = 0) from by decide, e2]
theorem m_refuses {h : pg_H} (D : KD (pg_k h)) (R : RD (pg_r h)) {x : Int32} {k : Nat} (hk : k < 7) (e : -x = nI k) : F_X12_refuses 81 x h = some (x, pg_si (pg_si h 81 0 x) 82 k (pg_i h 82 k + 1)) := by
  unfold F_X12_refuses
  have e2 : pg_i (pg_si h 81 0 x) 82 = pg_i h 82 := si_ne (by decide)
  simp only [k_si, k_sl, k_sr, r_si, r_sl, i_sl, i_sr, l_si, l_sr, Option.bind_some, if_true, if_false, bind_eta2, if_bb, decide_eq_true_eq, pg_let, np_81, nR_81_2, na_82, ns_82, D, R, e, hk, e2]
theorem c_accept {h : pg_H} (D : KD (pg_k h)) (v : Int32) : F_X11_accept 1 v h = some (v, pg_si h 1 11 0) := by
  unfold F_X11_accept
  simp only [k_si, k_sl, k_sr, r_si, r_sl, i_sl, i_sr, l_si, l_sr, Option.bind_some, if_true, if_false, bind_eta2, if_bb, decide_eq_true_eq, pg_let, nR_1_0, nR_1_1, nR_1_2, nR_1_3, nR_1_4, nR_1_5, nR_1_6, nR_1_7, nR_1_8, nR_1_9, nR_1_10, nc_1, ng_1, np_1, nz0_1, nz1_1, nzb_1, na_80, ns_80, nl_80, na_80_1, ns_80_1, na_80_2, ns_80_2, na_80_3, ns_80_3, na_80_4, ns_80_4, na_80_5, ns_80_5, na_80_6, ns_80_6, D]
theorem c_changed {h : pg_H} (D : KD (pg_k h)) (v : Int32) : F_X11_changed 1 v h = some (v, pg_si (pg_si (pg_si h 1 14 0) 1 15 0) 1 11 0) := by
  unfold F_X11_changed
  simp only [k_si, k_sl, k_sr, r_si, r_sl, i_sl, i_sr, l_si, l_sr, Option.bind_some, if_true, if_false, bind_eta2, if_bb, decide_eq_true_eq, pg_let, nR_1_0, nR_1_1, nR_1_2, nR_1_3, nR_1_4, nR_1_5, nR_1_6, nR_1_7, nR_1_8, nR_1_9, nR_1_10, nc_1, ng_1, np_1, nz0_1, nz1_1, nzb_1, na_80, ns_80, nl_80, na_80_1, ns_80_1, na_80_2, ns_80_2, na_80_3, ns_80_3, na_80_4, ns_80_4, na_80_5, ns_80_5, na_80_6, ns_80_6, c_accept, D]
theorem m_good {h : pg_H} (D : KD (pg_k h)) (v : Int32) : F_X12_good 81 v h = some (v, pg_si (pg_si h 81 0 0) 81 1 (pg_i h 81 1 + 1)) := by
  unfold F_X12_good
  have e2 : pg_i (pg_si h 81 0 0) 81 1 = pg_i h 81 1 := by rw [si_row, up1_ne (by decide)]
  simp only [k_si, k_sl, k_sr, r_si, r_sl, i_sl, i_sr, l_si, l_sr, Option.bind_some, if_true, if_false, bind_eta2, if_bb, decide_eq_true_eq, pg_let, np_81, ng_81, D, e2]
theorem m_replaces {h : pg_H} (D : KD (pg_k h)) (R : RD (pg_r h)) {a : Nat} (ha : a < 7758) (x : Int32) : F_X12_replaces 81 (nI a) x h = some (pg_i h 83 a, pg_si (pg_si (pg_si h 83 a x) 81 0 0) 81 1 (pg_i h 81 1 + 1)) := by
  unfold F_X12_replaces
  have e2 : pg_i (pg_si h 83 a x) 81 = pg_i h 81 := si_ne (by decide)
  simp only [k_si, k_sl, k_sr, r_si, r_sl, i_sl, i_sr, l_si, l_sr, Option.bind_some, if_true, if_false, bind_eta2, if_bb, decide_eq_true_eq, pg_let, nR_81_3, na_83, ns_83, nc_81, m_good, D, R, ha, e2]
/-- both sides answer the same and keep the invariant -/
def SimB (q : Nat) (h : pg_H) (F G : pg_H → Option (Int32 × pg_H)) : Prop := ∃ (v : Int32) (h1 h2 : pg_H), F h = some (v, h1) ∧ Lay h1 ∧ G h1 = some (v, h2) ∧ Inv (q + 1) h2 ∧ Few h h2
def imR : List Nat := [42, 85, 84]
/-- what no call but image and back changes, what no call but run changes -/
theorem Inv.base {S : List Nat} {T : List (Nat × Nat)} {q : Nat} {h h' : pg_H} (I : Inv q h) (a : Ch S T h h')
    (d1 : dis S T [77, 78, 79, 107, 108, 109, 42, 85, 84, 17, 18, 19, 20, 21, 22, 23, 24, 25, 26, 27, 30, 31, 32, 33, 34, 35, 36, 37, 38, 39, 40] [(76, 3), (81, 44), (16, 7), (16, 8), (29, 7), (29, 8)])
    (d2 : dis S T [86] (layI.map fun z => (z.1, z.2.1))) (d3 : lowST S T) :
    Lay h' ∧ WOK h' ∧ ∃ X Y0 Y1 : Nat → tX, ShX h 2 (pg_i h 83) X ∧ TxAll h' 14 (pg_i h 83) X ∧ ImOK h' 0 Y0 ∧ ImOK h' 1 Y1 ∧
      ReadOK h (pg_i h 83) (wg (pg_i h 83) (uX (pg_i h 83) X)) ∧ StemOK h (pg_i h 83) (wg (pg_i h 83) (uX (pg_i h 83) X)) ∧ GrowOK h (pg_i h 83) (wg (pg_i h 83) (uX (pg_i h 83) X)) := by
  obtain ⟨L, sc, tp, wo, vv, X, Y0, Y1, s, i0, i1, r1, r2, r3⟩ := I
  unfold dis at d1
  rw [Bool.and_eq_true, List.all_eq_true, List.all_eq_true] at d1
  have sub : ∀ R F, (∀ r ∈ R, r ∈ [77, 78, 79, 107, 108, 109, 42, 85, 84, 17, 18, 19, 20, 21, 22, 23, 24, 25, 26, 27, 30, 31, 32, 33, 34, 35, 36, 37, 38, 39, 40]) → (∀ z ∈ F, z ∈ [(76, 3), (81, 44), (16, 7), (16, 8), (29, 7), (29, 8)]) → dis S T R F = true := fun R F hR hF => by
    unfold dis
    rw [Bool.and_eq_true, List.all_eq_true, List.all_eq_true]
    exact ⟨fun r hr => d1.1 r (hR r hr), fun z hz => d1.2 z (hF z hz)⟩
  refine ⟨a.lay L d2, wo.ch a (sub _ _ (by decide) (by decide)), X, Y0, Y1, s, s.2.2.ch a d3, i0.ch a (sub _ _ (by decide) (by decide)) d3, i1.ch a (sub _ _ (by decide) (by decide)) d3, r1, r2, r3⟩
/-- a refused call -/
theorem refuse_sim {q : Nat} {h : pg_H} {F G : pg_H → Option (Int32 × pg_H)} (I : Inv q h) {x : Int32} {k : Nat} (hk : k < 7) (e : -x = nI k)
    (hF : F h = F_X11_refuse 1 x h) (hG : ∀ h1, Lay h1 → pg_i h1 83 = pg_i h 83 → pg_i h1 81 = pg_i h 81 → pg_i h1 85 = pg_i h 85 → G h1 = F_X12_refuses 81 x h1) : SimB q h F G := by
  have L := I.1
  have a : Ch [80] [(1, 11)] h (pg_si (pg_si h 1 11 x) 80 k (pg_i h 80 k + 1)) := ((Ch.refl _ _ h).asi (by decide)).asi (Or.inl (by decide))
  have L1 := a.lay L (by decide)
  have e82 : pg_i (pg_si (pg_si h 1 11 x) 80 k (pg_i h 80 k + 1)) 82 = pg_i h 82 := a.row (by decide)
  refine ⟨x, _, _, hF.trans (c_refuse L.kd L.rd hk e), L1, (hG _ L1 (a.row (by decide)) (a.row (by decide)) (a.row (by decide))).trans (m_refuses L1.kd L1.rd hk e), ?_, ?_⟩
  · rw [e82]
    generalize hh : pg_si (pg_si h 1 11 x) 80 k (pg_i h 80 k + 1) = g at *
    have b : Ch [80, 82] [(1, 11), (81, 0)] h (pg_si (pg_si g 81 0 x) 82 k (pg_i h 82 k + 1)) := ((a.mono (by decide)).asi (by decide)).asi (Or.inl (by decide))
    generalize hg : pg_si (pg_si g 81 0 x) 82 k (pg_i h 82 k + 1) = g2 at *
    obtain ⟨L2, wo, X, Y0, Y1, s, t, i0, i1, r1, r2, r3⟩ := I.base b (by decide) (by decide) (by decide)
    obtain ⟨_, sc, tp, _, ⟨v, ev, hv⟩, _⟩ := I
    have e83 : pg_i g2 83 = pg_i h 83 := b.row (by decide)
    refine ⟨L2, ⟨?_, ?_, ?_, ?_⟩, tp.ch b (by decide), wo, ⟨v, ?_, by omega⟩, X, Y0, Y1, ⟨?_, ?_, ?_⟩, i0, i1, ?_, ?_, ?_⟩
    · rw [← hg, si_ne (by decide), si_ne (by decide), si_ne (by decide), si_row, up1_eq, ← hh, si_ne (by decide), si_row, up1_eq]
    · rw [b.atM (R := []) (F := [(1, 12)]) (by decide) (by decide), b.atM (R := []) (F := [(81, 6)]) (by decide) (by decide)]
      exact sc.2.1
    · rw [b.atM (R := []) (F := [(1, 13)]) (by decide) (by decide), b.atM (R := []) (F := [(81, 11)]) (by decide) (by decide)]
      exact sc.2.2.1
    · intro j hj
      rw [← hg, si_row, si_ne (show 80 ≠ 82 by decide), si_ne (show 80 ≠ 81 by decide), si_ne (show 82 ≠ 81 by decide), ← hh, si_row, si_ne (show 80 ≠ 1 by decide), si_ne (show 82 ≠ 80 by decide), si_ne (show 82 ≠ 1 by decide)]
      unfold up1
      rw [sc.2.2.2 k hk, sc.2.2.2 j hj]
    · rw [b.atM (R := []) (F := [(81, 1)]) (by decide) (by decide)]
      exact ev
    · rw [e83]
      exact s.1.ch b (by decide)
    · rw [e83]
      exact s.2.1
    · rw [e83]
      exact t
    · rw [e83]
      exact r1.ch b (by decide) (by decide)
    · rw [e83]
      exact r2.ch b (by decide) (by decide)
    · rw [e83]
      exact r3.ch b (by decide) (by decide)
  · rw [e82]
    exact Ch.few (S := [80, 82]) (T := [(1, 11), (81, 0)]) (((a.mono (by decide)).asi (by decide)).asi (Or.inl (by decide)))
def sS : List Nat := [4, 6, 8, 10, 12, 13, 83]
def sT : List (Nat × Nat) := [(2, 7), (2, 8), (3, 3), (5, 3), (7, 3), (11, 3), (1, 11), (1, 12), (1, 14), (1, 15), (81, 0), (81, 1), (81, 6), (43, 1), (81, 10)]
/-- an accepted call that changes numbers -/
theorem Inv.acc {q : Nat} {h h' : pg_H} (I : Inv q h) (hq : q ≤ 600) (a : Ch sS sT h h') (sc : ScOK h') (tp : TpOK h') (v1 : pg_i h' 81 1 = pg_i h 81 1 + 1) (C : CNum h' 2 (pg_i h' 83)) (K : ShOK (pg_i h' 83))
    (tx : ∀ j, 1350 ≤ j ∨ j = 1348 → pg_i h' 83 j = pg_i h 83 j) (cc : (pg_i h' 1 14 = 0 ∧ pg_i h' 1 15 = 0) ∨ (Core (pg_i h 83) (pg_i h' 83) ∧ pg_i h' 1 14 = pg_i h 1 14 ∧ pg_i h' 1 15 = pg_i h 1 15)) : Inv (q + 1) h' := by
  obtain ⟨L2, wo, X, Y0, Y1, s, t, i0, i1, r1, r2, r3⟩ := I.base a (by decide) (by decide) (by decide)
  obtain ⟨_, _, _, _, ⟨v, ev, hv⟩, _⟩ := I
  have ev' : pg_i h' 81 1 = nI (v + 1) := by rw [v1, ev, nI_1]
  refine ⟨L2, sc, tp, wo, ⟨v + 1, ev', by omega⟩, X, Y0, Y1, ⟨C, K, t.cong (fun j hj => tx j (Or.inl hj)) (tx 1348 (Or.inr rfl))⟩, i0, i1, ?_, ?_, ?_⟩
  · rcases cc with c | c
    · exact Or.inl c.1
    · unfold ReadOK
      rw [core_wg c.1 s.2.1 (X' := X) (fun _ => rfl), c.2.1]
      rcases r1 with z | ⟨z1, z2⟩
      · exact Or.inl z
      · exact Or.inr ⟨z1, core_Rd c.1 s.2.1 (z2.ch a (by decide))⟩
  · rcases cc with c | c
    · exact Or.inl c.2
    · unfold StemOK
      rw [core_wg c.1 s.2.1 (X' := X) (fun _ => rfl), c.2.2]
      rcases r2 with z | ⟨z1, z2⟩
      · exact Or.inl z
      · exact Or.inr ⟨z1, core_Stm c.1 s.2.1 (z2.ch a (by decide))⟩
  · exact r3.next (a.atM (R := []) (F := [(81, 31)]) (by decide) (by decide)) ev ev' (by omega)
def sC : List Nat := [4, 6, 8, 10, 12, 13]
def tC : List (Nat × Nat) := [(2, 7), (2, 8), (3, 3), (5, 3), (7, 3), (11, 3)]
/-- an accepted call: the class's shelf goes to A', and so do the reference's numbers -/
theorem acc_sim {q : Nat} {h hc : pg_H} {F G : pg_H → Option (Int32 × pg_H)} {v : Int32} {A' : Nat → Int32} (I : Inv q h) (hq : q ≤ 600) (aC : Ch sC tC h hc) (C : CNum hc 2 A')
    (cc : F h = some (v, pg_si (pg_si (pg_si hc 1 14 0) 1 15 0) 1 11 0) ∨ (F h = some (v, pg_si hc 1 11 0) ∧ Core (pg_i h 83) A'))
    (hG : ∀ h1, Lay h1 → pg_i h1 83 = pg_i h 83 → pg_i h1 81 = pg_i h 81 → ∃ hm, Ch [83] [] h1 hm ∧ pg_i hm 83 = A' ∧ G h1 = some (v, pg_si (pg_si hm 81 0 0) 81 1 (pg_i hm 81 1 + 1)))
    (K : ShOK A') (tx : ∀ j, 1350 ≤ j ∨ j = 1348 → A' j = pg_i h 83 j) : SimB q h F G := by
  have L := I.1
  obtain ⟨_, sc, tp, _, _, _⟩ := id I
  have fin : ∀ h1, F h = some (v, h1) → Ch sC ([(1, 11), (1, 14), (1, 15)] ++ tC) h h1 → CNum h1 2 A' → pg_i h1 1 11 = 0 → ((pg_i h1 1 14 = 0 ∧ pg_i h1 1 15 = 0) ∨ (Core (pg_i h 83) A' ∧ pg_i h1 1 14 = pg_i h 1 14 ∧ pg_i h1 1 15 = pg_i h 1 15)) → SimB q h F G := by
    intro h1 hF a1 C1 s1 c1
    have L1 := a1.lay L (by decide)
    obtain ⟨hm, am, em, eG⟩ := hG h1 L1 (a1.row (by decide)) (a1.row (by decide))
    have a2 : Ch sS sT h hm := (a1.mono (by decide)).trans (am.mono (by decide))
    have a3 : Ch sS sT h (pg_si (pg_si hm 81 0 0) 81 1 (pg_i hm 81 1 + 1)) := (a2.asi (by decide)).asi (by decide)
    have a4 : Ch [83] [(81, 0), (81, 1)] h1 (pg_si (pg_si hm 81 0 0) 81 1 (pg_i hm 81 1 + 1)) := ((am.mono (by decide)).asi (by decide)).asi (by decide)
    have e83 : pg_i (pg_si (pg_si hm 81 0 0) 81 1 (pg_i hm 81 1 + 1)) 83 = A' := by rw [si_ne (by decide), si_ne (by decide), em]
    have e81 : pg_i hm 81 1 = pg_i h 81 1 := by
      rw [am.row (by decide), a1.row (by decide)]
    have e5 : pg_i (pg_si (pg_si hm 81 0 0) 81 1 (pg_i hm 81 1 + 1)) 81 1 = pg_i h 81 1 + 1 := by rw [si_row, up1_eq, e81]
    have e6 : pg_i (pg_si (pg_si hm 81 0 0) 81 1 (pg_i hm 81 1 + 1)) 81 0 = 0 := by rw [si_row, up1_ne (by decide), si_row, up1_eq]
    have a5 : Ch (83 :: sC) ([(1, 11), (1, 14), (1, 15), (81, 0), (81, 1)] ++ tC) h (pg_si (pg_si hm 81 0 0) 81 1 (pg_i hm 81 1 + 1)) := (((a1.mono (by decide)).trans (am.mono (by decide))).asi (by decide)).asi (by decide)
    refine ⟨v, h1, _, hF, L1, eG, ?_, a3.few⟩
    generalize pg_si (pg_si hm 81 0 0) 81 1 (pg_i hm 81 1 + 1) = g at *
    have f11 : pg_i g 1 11 = 0 := by rw [a4.atM (R := []) (F := [(1, 11)]) (by decide) (by decide), s1]
    refine I.acc hq a3 ⟨?_, ?_, ?_, ?_⟩ (tp.ch a5 (by decide)) e5 ?_ ?_ ?_ ?_
    · rw [f11, e6]
    · rw [a5.atM (R := []) (F := [(1, 12)]) (by decide) (by decide), a5.atM (R := []) (F := [(81, 6)]) (by decide) (by decide)]
      exact sc.2.1
    · rw [a5.atM (R := []) (F := [(1, 13)]) (by decide) (by decide), a5.atM (R := []) (F := [(81, 11)]) (by decide) (by decide)]
      exact sc.2.2.1
    · rw [a5.row (r := 80) (by decide), a5.row (r := 82) (by decide)]
      exact sc.2.2.2
    · rw [e83]
      exact C1.ch a4 (by decide)
    · rw [e83]
      exact K
    · rw [e83]
      exact tx
    · rw [e83, a4.atM (R := []) (F := [(1, 14)]) (by decide) (by decide), a4.atM (R := []) (F := [(1, 15)]) (by decide) (by decide)]
      exact c1
  rcases cc with hF | ⟨hF, c⟩
  · have a1 : Ch sC ([(1, 11), (1, 14), (1, 15)] ++ tC) h (pg_si (pg_si (pg_si hc 1 14 0) 1 15 0) 1 11 0) := (((aC.mono (by decide)).asi (by decide)).asi (by decide)).asi (by decide)
    refine fin _ hF a1 (C.ch (S := []) (T := [(1, 11), (1, 14), (1, 15)]) ((((Ch.refl _ _ hc).asi (by decide)).asi (by decide)).asi (by decide)) (by decide)) (by rw [si_row, up1_eq]) (Or.inl ⟨?_, ?_⟩)
    · rw [si_row, up1_ne (by decide), si_row, up1_ne (by decide), si_row, up1_eq]
    · rw [si_row, up1_ne (by decide), si_row, up1_eq]
  · have a1 : Ch sC ([(1, 11), (1, 14), (1, 15)] ++ tC) h (pg_si hc 1 11 0) := (aC.mono (by decide)).asi (by decide)
    refine fin _ hF a1 (C.ch (S := []) (T := [(1, 11)]) ((Ch.refl _ _ hc).asi (by decide)) (by decide)) (by rw [si_row, up1_eq]) (Or.inr ⟨c, ?_, ?_⟩)
    · rw [si_row, up1_ne (by decide), aC.atM (R := []) (F := [(1, 14)]) (by decide) (by decide)]
    · rw [si_row, up1_ne (by decide), aC.atM (R := []) (F := [(1, 15)]) (by decide) (by decide)]
