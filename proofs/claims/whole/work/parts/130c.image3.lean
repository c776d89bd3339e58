def imS (k : Nat) : List Nat := if k = 0 then [17, 18, 19, 20, 21, 22, 23, 24, 25, 26, 27] else [30, 31, 32, 33, 34, 35, 36, 37, 38, 39, 40]
theorem imS_in {k r : Nat} (hk : k < 2) (h1 : 16 + 13 * k < r) (h2 : r < 16 + 13 * k + 12) : r ∈ imS k := by
  unfold imS
  rcases k with _ | _ | k
  · rw [if_pos rfl]
    simp only [List.mem_cons, List.mem_nil_iff, or_false]
    omega
  · rw [if_neg (by decide)]
    simp only [List.mem_cons, List.mem_nil_iff, or_false]
    omega
  · omega
def tabI (s : Nat) : List (Nat × Nat × Int32) := [(s + 1, 1, 3), (s + 1, 2, 12), (s + 3, 1, 4), (s + 3, 2, 40), (s + 5, 1, 8), (s + 5, 2, 12), (s + 7, 1, 6), (s + 7, 2, 8), (s + 9, 1, 5), (s + 9, 2, 200)]
theorem CNum.consts {h : pg_H} {s : Nat} {A : Nat → Int32} (C : CNum h s A) : ∀ z ∈ tabI s, pg_i h z.1 z.2.1 = z.2.2 := by
  obtain ⟨⟨⟨_, _, _, a1, a2, _⟩, _⟩, ⟨⟨_, _, _, b1, b2, _⟩, _⟩, ⟨⟨_, _, _, c1, c2, _⟩, _⟩, ⟨⟨_, _, _, d1, d2, _⟩, _⟩, ⟨⟨_, _, _, e1, e2, _⟩, _⟩, _⟩ := C
  intro z hz
  simp only [tabI, List.mem_cons, List.mem_nil_iff, or_false] at hz
  rcases hz with rfl | rfl | rfl | rfl | rfl | rfl | rfl | rfl | rfl | rfl
  · exact a1
  · exact a2
  · exact b1
  · exact b2
  · exact c1
  · exact c2
  · exact d1
  · exact d2
  · exact e1
  · exact e2
theorem layI_in : ∀ s, s = 2 ∨ s = 16 ∨ s = 29 → ∀ z ∈ layI, s < z.1 → z.1 < s + 12 → z ∈ tabI s := by
  rintro s (rfl | rfl | rfl) <;> decide
theorem layI_out : ∀ z ∈ layI, z.1 ≠ 2 ∧ z.1 ≠ 16 ∧ z.1 ≠ 29 := by decide
theorem layR_out : ∀ z ∈ layR, z.1 ≠ 14 ∧ z.1 ≠ 28 ∧ z.1 ≠ 41 := by decide
theorem sim_image : Sim_image Inv := by
  intro x1 q h hq I
  show SimB q h (F_X11_image 1 x1) (F_X12_image 81 x1)
  have L := I.1
  have D := L.kd
  have R := L.rd
  by_cases c1 : 0 ≤ x1 ∧ x1 ≤ 1
  · obtain ⟨k, hk', rfl⟩ := nI_of2 (x := x1) (M := 1) (n := 1) (by decide) (Int32.not_lt.mpr c1.1) c1.2
    have hk : k < 2 := by omega
    obtain ⟨_, sc, tp, wo, ⟨v, ev, hv⟩, X, Y0, Y1, ⟨C, K, TX⟩, i0, i1, r1, r2, r3⟩ := id I
    have kT : nT (pg_i h 83) < 9 := K.1.2.2.2.2.2
    obtain ⟨S2, S16, S29⟩ := ShS.of L
    have Sk : ShS h (16 + 13 * k) := by
      rcases k with _ | _ | k
      · exact S16
      · exact S29
      · omega
    obtain ⟨h1, h2, h3, t1, t2, t3, t4, t5, t6⟩ := take_go (s := 2) (s' := 16 + 13 * k) (by omega) S2 Sk C (fun t ht => (wo.1 14 (by omega) t ht).imp id And.left)
    have t4k := t4.kk
    have t4r := t4.rr
    -- the class is through
    have kk3 : pg_k h3 = pg_k h := t4k.trans (t3.2.2.1.trans t2.2.2.1)
    have D3 : KD (pg_k h3) := by
      rw [kk3]
      exact D
    have rr3 : ∀ r, r ≠ 16 + 13 * k + 12 → pg_r h3 r = pg_r h r := fun r hr => by rw [t4r, t3.2.2.2.2.2 r hr, t2.2.2.2.1]
    have R3 : RD (pg_r h3) := fun z hz => by
      have ne : z.1 ≠ 16 + 13 * k + 12 := by
        have := layR_out z hz
        omega
      rw [rr3 z.1 ne]
      exact R z hz
    have i3 : ∀ r, ¬ (16 + 13 * k < r ∧ r < 16 + 13 * k + 12) → ∀ j, ¬ (r = 16 + 13 * k ∧ (j = 7 ∨ j = 8)) → pg_i h3 r j = pg_i h r j ∧ pg_l h3 r j = pg_l h r j := fun r hr j hj => by
      have z1 := t4.2.2.2.2 r j (fun z => by
        simp only [List.mem_cons, List.mem_nil_iff, or_false, Prod.mk.injEq, false_or] at z
        omega)
      have z2 := t2.2.2.2.2 r j hr
      rw [z1.1, z1.2, t3.2.2.2.1, t3.2.2.2.2.1]
      exact z2
    have cls : F_X11_image 1 (nI k) h = some (0, pg_si (pg_si h3 42 k 1) 1 11 0) := by
      have a15 : pg_aR 24 h 15 (nI k) = some (16 + 13 * k) := by
        unfold pg_aR
        rw [lay_k L (by decide), if_pos ⟨rfl, nI_in (N := 2) hk (by decide)⟩, nI_clamp (by omega)]
        rcases k with _ | _ | k
        · rw [L.2.2.1 (15, 0, 16) (by decide)]
        · rw [L.2.2.1 (15, 1, 29) (by decide)]
        · omega
      have rcS : ∀ G : Option pg_H, pg_rcv 5 h (16 + 13 * k) G = G := fun G => by
        unfold pg_rcv
        rw [Sk.1]
        rfl
      unfold F_X11_image
      simp only [k_si, k_sl, k_sr, r_si, r_sl, i_sl, i_sr, l_si, l_sr, Option.bind_some, if_true, if_false, bind_eta2, if_bb, decide_eq_true_eq, pg_let, within_le, if_pos c1, nR_1_1, nR_1_0, D, R, a15, rcS, t1, nR_1_2, D3, R3, ns_42, hk, show ((1 : Int32) &&& 1) = 1 from by decide, nc_1, c_accept]
    -- the reference
    have n3 : h3.1 = h.1 := t4.1.trans (t3.1.trans t2.1)
    have m3 : h3.2.1 = h.2.1 := t4.2.1.trans (t3.2.1.trans t2.2.1)
    have b1 : Ch [42] [(1, 11)] h3 (pg_si (pg_si h3 42 k 1) 1 11 0) := ((Ch.refl _ _ _).asi (Or.inl (by decide))).asi (Or.inr (by decide))
    have g11 : pg_i (pg_si (pg_si h3 42 k 1) 1 11 0) 1 11 = 0 := by rw [si_row, up1_eq]
    have g42 : pg_i (pg_si (pg_si h3 42 k 1) 1 11 0) 42 = up1 (pg_i h 42) k 1 := by
      rw [si_ne (by decide), si_row]
      congr 1
      funext j
      exact (i3 42 (by omega) j (by omega)).1
    generalize pg_si (pg_si h3 42 k 1) 1 11 0 = ha at *
    have La : Lay ha := by
      have z : Lay h3 := L.of (Nat.le_of_eq n3.symm) (fun r _ => by rw [kk3]) (fun z hz => by
        have := layR_out z hz
        rw [rr3 z.1 (by omega)]) (fun z hz => by
        by_cases y : 16 + 13 * k < z.1 ∧ z.1 < 16 + 13 * k + 12
        · rw [t6.consts z (layI_in _ (by omega) z hz y.1 y.2), L.2.2.2.1 z hz]
        · have := layI_out z hz
          exact (i3 z.1 y _ (by omega)).1) (fun j => (i3 86 (by omega) j (by omega)).1)
      exact b1.lay z (by decide)
    obtain ⟨hm, m1, m2, m4, m5, m6⟩ := m_image La hk
    have mod : F_X12_image 81 (nI k) ha = some (0, pg_si (pg_si hm 81 0 0) 81 1 (pg_i hm 81 1 + 1)) := by
      unfold F_X12_image
      rw [lies_le, Option.bind_some, if_bb, if_pos (decide_eq_true c1)]
      exact m1
    have b2 : Ch [84, 85] [(81, 0), (81, 1)] ha (pg_si (pg_si hm 81 0 0) 81 1 (pg_i hm 81 1 + 1)) := ((m2.mono (by decide)).asi (Or.inr (by decide))).asi (Or.inr (by decide))
    have f0 : pg_i (pg_si (pg_si hm 81 0 0) 81 1 (pg_i hm 81 1 + 1)) 81 0 = 0 := by rw [si_row, up1_ne (by decide), si_row, up1_eq]
    have a81 : ∀ j, pg_i ha 81 j = pg_i h 81 j := fun j => by
      rw [b1.row (by decide)]
      exact (i3 81 (by omega) j (by omega)).1
    have f1 : pg_i (pg_si (pg_si hm 81 0 0) 81 1 (pg_i hm 81 1 + 1)) 81 1 = nI (v + 1) := by
      rw [si_row, up1_eq, m2.row (by decide), a81, ev, nI_1]
    have f84 : ∀ j, j < 7758 → pg_i (pg_si (pg_si hm 81 0 0) 81 1 (pg_i hm 81 1 + 1)) 84 (7758 * k + j) = pg_i h 83 j := fun j hj => by
      rw [si_ne (by decide), si_ne (by decide), m4 j hj, b1.row (by decide)]
      exact (i3 83 (by omega) j (by omega)).1
    have f84o : ∀ j, (j < 7758 * k ∨ 7758 * k + 7758 ≤ j) → pg_i (pg_si (pg_si hm 81 0 0) 81 1 (pg_i hm 81 1 + 1)) 84 j = pg_i h 84 j := fun j hj => by
      rw [si_ne (by decide), si_ne (by decide), m5 j hj, b1.row (by decide)]
      exact (i3 84 (by omega) j (by omega)).1
    have f85 : pg_i (pg_si (pg_si hm 81 0 0) 81 1 (pg_i hm 81 1 + 1)) 85 = up1 (pg_i h 85) k 1 := by
      rw [si_ne (by decide), si_ne (by decide), m6, b1.row (by decide)]
      congr 1
      funext j
      exact (i3 85 (by omega) j (by omega)).1
    refine ⟨0, ha, _, cls, La, mod, ?_, ?_⟩
    · generalize pg_si (pg_si hm 81 0 0) 81 1 (pg_i hm 81 1 + 1) = g at *
      have LF : Lay g := b2.lay La (by decide)
      have gk : pg_k g = pg_k h := b2.kk.trans (b1.kk.trans kk3)
      have gr : pg_r g = pg_r h3 := b2.rr.trans b1.rr
      have g1 : g.1 = h.1 := b2.1.trans (b1.1.trans n3)
      have a : Ch (imS k ++ [42, 84, 85]) [(16 + 13 * k, 7), (16 + 13 * k, 8), (1, 11), (81, 0), (81, 1)] h (rs g h) := by
        refine rs_ch (W := fun r j => (16 + 13 * k < r ∧ r < 16 + 13 * k + 12) ∨ (r = 16 + 13 * k ∧ (j = 7 ∨ j = 8)) ∨ (r = 42 ∨ r = 84 ∨ r = 85) ∨ (r = 1 ∧ j = 11) ∨ (r = 81 ∧ (j = 0 ∨ j = 1))) g1 (b2.2.1.trans (b1.2.1.trans m3)) gk (fun r j hw => ?_) (fun r j hw => ?_)
        · have z1 := b2.2.2.2.2 r j (fun z => by
            simp only [List.mem_cons, List.mem_nil_iff, or_false, Prod.mk.injEq] at z
            omega)
          have z2 := b1.2.2.2.2 r j (fun z => by
            simp only [List.mem_cons, List.mem_nil_iff, or_false, Prod.mk.injEq] at z
            omega)
          have z3 := i3 r (by omega) j (by omega)
          exact ⟨z1.1.trans (z2.1.trans z3.1), z1.2.trans (z2.2.trans z3.2)⟩
        · rcases hw with z | ⟨e, z⟩ | z | ⟨e1, e2⟩ | ⟨e, z⟩
          · exact Or.inl (List.mem_append.mpr (Or.inl (imS_in hk z.1 z.2)))
          · refine Or.inr ?_
            rw [e]
            rcases z with z | z <;> (rw [z]; simp)
          · refine Or.inl (List.mem_append.mpr (Or.inr ?_))
            rcases z with z | z | z <;> (rw [z]; simp)
          · refine Or.inr ?_
            rw [e1, e2]
            simp
          · refine Or.inr ?_
            rw [e]
            rcases z with z | z <;> (rw [z]; simp)
      have dz : ∀ {R F}, (∀ k, k < 2 → dis (imS k ++ [42, 84, 85]) [(16 + 13 * k, 7), (16 + 13 * k, 8), (1, 11), (81, 0), (81, 1)] R F = true) → dis (imS k ++ [42, 84, 85]) [(16 + 13 * k, 7), (16 + 13 * k, 8), (1, 11), (81, 0), (81, 1)] R F = true := fun z => z k hk
      have e83 : pg_i g 83 = pg_i h 83 := a.row (r := 83) (dz (by decide))
      have hi : ∀ r, 110 ≤ r → pg_i g r = pg_i h r := fun r hr => a.high ((show ∀ k, k < 2 → lowST (imS k ++ [42, 84, 85]) [(16 + 13 * k, 7), (16 + 13 * k, 8), (1, 11), (81, 0), (81, 1)] = true by decide) k hk) hr
      have hr : ∀ r, 110 ≤ r → pg_r g r = pg_r h r := fun r hr' => by rw [gr, rr3 r (by omega)]
      have other : ∀ o Y, o < 2 → o ≠ k → ImOK h o Y → ImOK g o Y := fun o Y ho ne ⟨p1, p2⟩ => by
        have q42 : pg_i g 42 o = pg_i h 42 o := by
          rw [b2.row (by decide), g42, up1_ne ne]
        have q85 : pg_i g 85 o = pg_i h 85 o := by rw [f85, up1_ne ne]
        unfold ImOK
        rw [q42, q85]
        refine ⟨p1, p2.imp id (fun ⟨z1, z2⟩ => ⟨z1, ?_⟩)⟩
        have z3 : ShX g (16 + 13 * o) (fun j => pg_i h 84 (7758 * o + j)) Y := by
          refine ⟨(z2.1.ch (h' := rs g h) a ((show ∀ k, k < 2 → ∀ o, o < 2 → o ≠ k → dis (imS k ++ [42, 84, 85]) [(16 + 13 * k, 7), (16 + 13 * k, 8), (1, 11), (81, 0), (81, 1)] ((List.range 11).map fun i => (16 + 13 * o) + 1 + i) [(16 + 13 * o, 7), (16 + 13 * o, 8)] = true by decide) k hk o ho ne)).refs rfl rfl (fun r h1 h2 => ?_), z2.2.1, z2.2.2.refs z2.2.1.1.2.2.2.2.2 g1 gk hi hr (fun t ht => ?_)⟩
          · show pg_r g r = pg_r h r
            rw [gr, rr3 r (by omega)]
          · rw [gr, rr3 _ (by omega)]
        exact z3.cong (fun j hj => f84o _ (by omega))
      have mine : ImOK g k X := by
        unfold ImOK
        have q42 : pg_i g 42 k = 1 := by rw [b2.row (by decide), g42, up1_eq]
        have q85 : pg_i g 85 k = 1 := by rw [f85, up1_eq]
        rw [q42, q85]
        refine ⟨rfl, Or.inr ⟨rfl, ?_⟩⟩
        have z3 : ShX g (16 + 13 * k) (pg_i h 83) X := by
          refine ⟨((t6.ch b1 ((show ∀ k, k < 2 → dis [42] [(1, 11)] ((List.range 11).map fun i => (16 + 13 * k) + 1 + i) [(16 + 13 * k, 7), (16 + 13 * k, 8)] = true by decide) k hk))).ch b2 ((show ∀ k, k < 2 → dis [84, 85] [(81, 0), (81, 1)] ((List.range 11).map fun i => (16 + 13 * k) + 1 + i) [(16 + 13 * k, 7), (16 + 13 * k, 8)] = true by decide) k hk), K, TX.refs kT g1 gk hi hr (fun t ht => ?_)⟩
          rw [gr]
          exact t5 t ht
        exact z3.cong f84
      refine ⟨LF, ⟨?_, ?_, ?_, ?_⟩, (show TpOK (rs g h) from tp.ch a (dz (by decide))), ⟨fun b hb t ht => ?_, (show WOK (rs g h) from wo.ch a (dz (by decide))).2⟩, ⟨v + 1, f1, by omega⟩, X, if k = 0 then X else Y0, if k = 0 then Y1 else X, ?_⟩
      · rw [f0, b2.atM (R := []) (F := [(1, 11)]) (by decide) (by decide), g11]
      · rw [show pg_i g 1 12 = pg_i h 1 12 from a.atM (R := []) (F := [(1, 12)]) (dz (by decide)) (by decide), show pg_i g 81 6 = pg_i h 81 6 from a.atM (R := []) (F := [(81, 6)]) (dz (by decide)) (by decide)]
        exact sc.2.1
      · rw [show pg_i g 1 13 = pg_i h 1 13 from a.atM (R := []) (F := [(1, 13)]) (dz (by decide)) (by decide), show pg_i g 81 11 = pg_i h 81 11 from a.atM (R := []) (F := [(81, 11)]) (dz (by decide)) (by decide)]
        exact sc.2.2.1
      · rw [show pg_i g 80 = pg_i h 80 from a.row (r := 80) (dz (by decide)), show pg_i g 82 = pg_i h 82 from a.row (r := 82) (dz (by decide))]
        exact sc.2.2.2
      · rw [gk, gr, g1]
        by_cases e : b = 16 + 13 * k + 12
        · rw [e, t5 t ht]
          exact wo.1 14 (Or.inl rfl) t ht
        · rw [rr3 b e]
          exact wo.1 b hb t ht
      · rw [e83]
        refine ⟨⟨(C.ch (h' := rs g h) a (dz (by decide))).refs rfl rfl (fun r h1 h2 => ?_), K, TX.refs kT g1 gk hi hr (fun t ht => ?_)⟩, ?_, ?_, ?_, ?_, ?_⟩
        · show pg_r g r = pg_r h r
          rw [gr, rr3 r (by omega)]
        · rw [gr, rr3 _ (by omega)]
        · rcases k with _ | _ | k
          · exact mine
          · exact other 0 Y0 (by decide) (by decide) i0
          · omega
        · rcases k with _ | _ | k
          · exact other 1 Y1 (by decide) (by decide) i1
          · exact mine
          · omega
        · exact r1.ch (h' := rs g h) a (dz (by decide)) (dz (by decide))
        · exact r2.ch (h' := rs g h) a (dz (by decide)) (dz (by decide))
        · exact r3.next (show pg_i g 81 31 = pg_i h 81 31 from a.atM (R := []) (F := [(81, 31)]) (dz (by decide)) (by decide)) ev f1 (by omega)
    · have z := b2.few
      refine ⟨?_, ?_, ?_⟩
      · rw [b2.1, b1.1, n3]
        exact Nat.le_refl _
      · rw [b2.1, b1.1, n3]
        exact Nat.le_add_right _ _
      · rw [b2.2.1, b1.2.1, m3]
        exact Nat.le_add_right _ _
  · refine refuse_sim I (x := -1) (k := 1) (by decide) (by decide) ?_ (fun h1 L1 e83 e81 _ => ?_)
    · unfold F_X11_image
      simp only [k_si, k_sl, k_sr, r_si, r_sl, i_sl, i_sr, l_si, l_sr, Option.bind_some, if_true, if_false, bind_eta2, if_bb, decide_eq_true_eq, pg_let, within_le, nc_1, D, if_neg c1]
    · unfold F_X12_image
      simp only [k_si, k_sl, k_sr, r_si, r_sl, i_sl, i_sr, l_si, l_sr, Option.bind_some, if_true, if_false, bind_eta2, if_bb, decide_eq_true_eq, pg_let, lies_le, nc_81, L1.kd, if_neg c1]
