theorem nowS_in {r : Nat} (h1 : 2 < r) (h2 : r < 14) : r ∈ [3, 4, 5, 6, 7, 8, 9, 10, 11, 12, 13, 83] := (show ∀ r, r < 14 → 2 < r → r ∈ [3, 4, 5, 6, 7, 8, 9, 10, 11, 12, 13, 83] by decide) r h2 h1
theorem sim_back : Sim_back Inv := by
  intro x1 q h hq I
  show SimB q h (F_X11_back 1 x1) (F_X12_back 81 x1)
  have L := I.1
  have D := L.kd
  have R := L.rd
  by_cases c1 : 0 ≤ x1 ∧ x1 ≤ 1
  · obtain ⟨k, hk', rfl⟩ := nI_of2 (x := x1) (M := 1) (n := 1) (by decide) (Int32.not_lt.mpr c1.1) c1.2
    have hk : k < 2 := by omega
    obtain ⟨_, sc, tp, wo, ⟨v, ev, hv⟩, X, Y0, Y1, ⟨C, K, TX⟩, i0, i1, r1, r2, r3⟩ := id I
    obtain ⟨Yk, ik⟩ : ∃ Y, ImOK h k Y := by
      rcases k with _ | _ | k
      · exact ⟨Y0, i0⟩
      · exact ⟨Y1, i1⟩
      · omega
    rcases ik.2 with z0 | ⟨z1, CI, KI, TI⟩
    · refine refuse_sim I (x := -2) (k := 2) (by decide) (by decide) ?_ (fun h1 L1 e83 e81 e85 => ?_)
      · unfold F_X11_back
        simp only [k_si, k_sl, k_sr, r_si, r_sl, i_sl, i_sr, l_si, l_sr, Option.bind_some, if_true, if_false, bind_eta2, if_bb, decide_eq_true_eq, pg_let, within_le, if_pos c1, nR_1_2, na_42, D, R, hk, z0, nc_1]
      · have e0 : pg_i h1 85 k = 0 := by rw [e85, ← ik.1, z0]
        unfold F_X12_back
        simp only [k_si, k_sl, k_sr, r_si, r_sl, i_sl, i_sr, l_si, l_sr, Option.bind_some, if_true, if_false, bind_eta2, if_bb, decide_eq_true_eq, pg_let, lies_le, if_pos c1, nR_81_5, na_85, L1.kd, L1.rd, hk, e0, nc_81]
    · have kT : nT (fun j => pg_i h 84 (7758 * k + j)) < 9 := KI.1.2.2.2.2.2
      obtain ⟨S2, S16, S29⟩ := ShS.of L
      have Sk : ShS h (16 + 13 * k) := by
        rcases k with _ | _ | k
        · exact S16
        · exact S29
        · omega
      obtain ⟨h1, h2, h3, t1, t2, t3, t4, t5, t6⟩ := take_go (s := 16 + 13 * k) (s' := 2) (by omega) Sk S2 CI (fun t ht => (wo.1 (16 + 13 * k + 12) (by omega) t ht).imp id And.left)
      have t4k := t4.kk
      have t4r := t4.rr
      have kk3 : pg_k h3 = pg_k h := t4k.trans (t3.2.2.1.trans t2.2.2.1)
      have D3 : KD (pg_k h3) := by
        rw [kk3]
        exact D
      have rr3 : ∀ r, r ≠ 14 → pg_r h3 r = pg_r h r := fun r hr => by rw [t4r, t3.2.2.2.2.2 r hr, t2.2.2.2.1]
      have i3 : ∀ r, ¬ (2 < r ∧ r < 14) → ∀ j, ¬ (r = 2 ∧ (j = 7 ∨ j = 8)) → pg_i h3 r j = pg_i h r j ∧ pg_l h3 r j = pg_l h r j := fun r hr j hj => by
        have z1 := t4.2.2.2.2 r j (fun z => by
          simp only [List.mem_cons, List.mem_nil_iff, or_false, Prod.mk.injEq, false_or] at z
          omega)
        have z2 := t2.2.2.2.2 r j hr
        rw [z1.1, z1.2, t3.2.2.2.1, t3.2.2.2.2.1]
        exact z2
      have cls : F_X11_back 1 (nI k) h = some (0, pg_si (pg_si (pg_si h3 1 14 0) 1 15 0) 1 11 0) := by
        have a15 : pg_aR 24 h 15 (nI k) = some (16 + 13 * k) := by
          unfold pg_aR
          rw [lay_k L (by decide), if_pos ⟨rfl, nI_in (N := 2) hk (by decide)⟩, nI_clamp (by omega)]
          rcases k with _ | _ | k
          · rw [L.2.2.1 (15, 0, 16) (by decide)]
          · rw [L.2.2.1 (15, 1, 29) (by decide)]
          · omega
        unfold F_X11_back
        simp only [k_si, k_sl, k_sr, r_si, r_sl, i_sl, i_sr, l_si, l_sr, Option.bind_some, if_true, if_false, bind_eta2, if_bb, decide_eq_true_eq, pg_let, within_le, if_pos c1, nR_1_2, na_42, nR_1_1, nR_1_0, D, R, hk, z1, if_neg (show ¬ ((1 : Int32) = 0) by decide), a15, nc_2, t1, D3, nc_1, c_changed]
      have n3 : h3.1 = h.1 := t4.1.trans (t3.1.trans t2.1)
      have m3 : h3.2.1 = h.2.1 := t4.2.1.trans (t3.2.1.trans t2.2.1)
      have b1 : Ch [] [(1, 11), (1, 14), (1, 15)] h3 (pg_si (pg_si (pg_si h3 1 14 0) 1 15 0) 1 11 0) := (((Ch.refl _ _ _).asi (Or.inr (by decide))).asi (Or.inr (by decide))).asi (Or.inr (by decide))
      have g11 : pg_i (pg_si (pg_si (pg_si h3 1 14 0) 1 15 0) 1 11 0) 1 11 = 0 := by rw [si_row, up1_eq]
      have g14 : pg_i (pg_si (pg_si (pg_si h3 1 14 0) 1 15 0) 1 11 0) 1 14 = 0 := by
        rw [si_row, up1_ne (by decide), si_row, up1_ne (by decide), si_row, up1_eq]
      have g15 : pg_i (pg_si (pg_si (pg_si h3 1 14 0) 1 15 0) 1 11 0) 1 15 = 0 := by
        rw [si_row, up1_ne (by decide), si_row, up1_eq]
      generalize pg_si (pg_si (pg_si h3 1 14 0) 1 15 0) 1 11 0 = ha at *
      have La : Lay ha := by
        have z : Lay h3 := L.of (Nat.le_of_eq n3.symm) (fun r _ => by rw [kk3]) (fun z hz => by
          have := layR_out z hz
          rw [rr3 z.1 (by omega)]) (fun z hz => by
          by_cases y : 2 < z.1 ∧ z.1 < 2 + 12
          · rw [t6.consts z (layI_in _ (by omega) z hz y.1 y.2), L.2.2.2.1 z hz]
          · have := layI_out z hz
            exact (i3 z.1 y _ (by omega)).1) (fun j => (i3 86 (by omega) j (by omega)).1)
        exact b1.lay z (by decide)
      have a85 : pg_i ha 85 k = 1 := by
        rw [b1.row (by decide), (i3 85 (by omega) k (by omega)).1, ← ik.1, z1]
      have a84 : ∀ j, pg_i ha 84 j = pg_i h 84 j := fun j => by
        rw [b1.row (by decide)]
        exact (i3 84 (by omega) j (by omega)).1
      obtain ⟨hm, m1, m2, m4⟩ := m_back La hk
      have mod : F_X12_back 81 (nI k) ha = some (0, pg_si (pg_si hm 81 0 0) 81 1 (pg_i hm 81 1 + 1)) := by
        rw [← m1]
        unfold F_X12_back
        simp only [k_si, k_sl, k_sr, r_si, r_sl, i_sl, i_sr, l_si, l_sr, Option.bind_some, if_true, if_false, bind_eta2, if_bb, decide_eq_true_eq, pg_let, lies_le, if_pos c1, nR_81_5, na_85, La.kd, La.rd, hk, a85, if_neg (show ¬ ((1 : Int32) = 0) by decide)]
      have b2 : Ch [83] [(81, 0), (81, 1)] ha (pg_si (pg_si hm 81 0 0) 81 1 (pg_i hm 81 1 + 1)) := ((m2.mono (by decide)).asi (Or.inr (by decide))).asi (Or.inr (by decide))
      have f0 : pg_i (pg_si (pg_si hm 81 0 0) 81 1 (pg_i hm 81 1 + 1)) 81 0 = 0 := by rw [si_row, up1_ne (by decide), si_row, up1_eq]
      have a81 : ∀ j, pg_i ha 81 j = pg_i h 81 j := fun j => by
        rw [b1.row (by decide)]
        exact (i3 81 (by omega) j (by omega)).1
      have f1 : pg_i (pg_si (pg_si hm 81 0 0) 81 1 (pg_i hm 81 1 + 1)) 81 1 = nI (v + 1) := by
        rw [si_row, up1_eq, m2.row (by decide), a81, ev, nI_1]
      have f83 : ∀ j, j < 7758 → pg_i (pg_si (pg_si hm 81 0 0) 81 1 (pg_i hm 81 1 + 1)) 83 j = pg_i h 84 (7758 * k + j) := fun j hj => by
        rw [si_ne (by decide), si_ne (by decide), m4 j hj, a84]
      refine ⟨0, ha, _, cls, La, mod, ?_, ?_⟩
      · generalize pg_si (pg_si hm 81 0 0) 81 1 (pg_i hm 81 1 + 1) = g at *
        have LF : Lay g := b2.lay La (by decide)
        have gk : pg_k g = pg_k h := b2.kk.trans (b1.kk.trans kk3)
        have gr : pg_r g = pg_r h3 := b2.rr.trans b1.rr
        have g1 : g.1 = h.1 := b2.1.trans (b1.1.trans n3)
        have a : Ch [3, 4, 5, 6, 7, 8, 9, 10, 11, 12, 13, 83] [(2, 7), (2, 8), (1, 11), (1, 14), (1, 15), (81, 0), (81, 1)] h (rs g h) := by
          refine rs_ch (W := fun r j => (2 < r ∧ r < 14) ∨ (r = 2 ∧ (j = 7 ∨ j = 8)) ∨ r = 83 ∨ (r = 1 ∧ (j = 11 ∨ j = 14 ∨ j = 15)) ∨ (r = 81 ∧ (j = 0 ∨ j = 1))) g1 (b2.2.1.trans (b1.2.1.trans m3)) gk (fun r j hw => ?_) (fun r j hw => ?_)
          · have z1 := b2.2.2.2.2 r j (fun z => by
              simp only [List.mem_cons, List.mem_nil_iff, or_false, Prod.mk.injEq] at z
              omega)
            have z2 := b1.2.2.2.2 r j (fun z => by
              simp only [List.mem_cons, List.mem_nil_iff, or_false, Prod.mk.injEq, false_or] at z
              omega)
            have z3 := i3 r (by omega) j (by omega)
            exact ⟨z1.1.trans (z2.1.trans z3.1), z1.2.trans (z2.2.trans z3.2)⟩
          · rcases hw with z | ⟨e, z⟩ | z | ⟨e, z⟩ | ⟨e, z⟩
            · exact Or.inl (nowS_in z.1 z.2)
            · refine Or.inr ?_
              rw [e]
              rcases z with z | z <;> (rw [z]; decide)
            · refine Or.inl ?_
              rw [z]
              decide
            · refine Or.inr ?_
              rw [e]
              rcases z with z | z | z <;> (rw [z]; decide)
            · refine Or.inr ?_
              rw [e]
              rcases z with z | z <;> (rw [z]; decide)
        have hi : ∀ r, 110 ≤ r → pg_i g r = pg_i h r := fun r hr => a.high (by decide) hr
        have hr : ∀ r, 110 ≤ r → pg_r g r = pg_r h r := fun r hr' => by rw [gr, rr3 r (by omega)]
        have other : ∀ o Y, o < 2 → ImOK h o Y → ImOK g o Y := fun o Y ho ⟨p1, p2⟩ => by
          have q42 : pg_i g 42 = pg_i h 42 := a.row (r := 42) (by decide)
          have q85 : pg_i g 85 = pg_i h 85 := a.row (r := 85) (by decide)
          have q84 : pg_i g 84 = pg_i h 84 := a.row (r := 84) (by decide)
          unfold ImOK
          rw [q42, q85, q84]
          refine ⟨p1, p2.imp id (fun ⟨z1, z2⟩ => ⟨z1, ?_⟩)⟩
          refine ⟨(z2.1.ch (h' := rs g h) a ((show ∀ o, o < 2 → dis [3, 4, 5, 6, 7, 8, 9, 10, 11, 12, 13, 83] [(2, 7), (2, 8), (1, 11), (1, 14), (1, 15), (81, 0), (81, 1)] ((List.range 11).map fun i => (16 + 13 * o) + 1 + i) [(16 + 13 * o, 7), (16 + 13 * o, 8)] = true by decide) o ho)).refs rfl rfl (fun r h1 h2 => ?_), z2.2.1, z2.2.2.refs z2.2.1.1.2.2.2.2.2 g1 gk hi hr (fun t ht => ?_)⟩
          · show pg_r g r = pg_r h r
            rw [gr, rr3 r (by omega)]
          · rw [gr, rr3 _ (by omega)]
        refine ⟨LF, ⟨?_, ?_, ?_, ?_⟩, (show TpOK (rs g h) from tp.ch a (by decide)), ⟨fun b hb t ht => ?_, (show WOK (rs g h) from wo.ch a (by decide)).2⟩, ⟨v + 1, f1, by omega⟩, Yk, Y0, Y1, ?_, other 0 Y0 (by decide) i0, other 1 Y1 (by decide) i1, ?_, ?_, ?_⟩
        · rw [f0, b2.atM (R := []) (F := [(1, 11)]) (by decide) (by decide), g11]
        · rw [show pg_i g 1 12 = pg_i h 1 12 from a.atM (R := []) (F := [(1, 12)]) (by decide) (by decide), show pg_i g 81 6 = pg_i h 81 6 from a.atM (R := []) (F := [(81, 6)]) (by decide) (by decide)]
          exact sc.2.1
        · rw [show pg_i g 1 13 = pg_i h 1 13 from a.atM (R := []) (F := [(1, 13)]) (by decide) (by decide), show pg_i g 81 11 = pg_i h 81 11 from a.atM (R := []) (F := [(81, 11)]) (by decide) (by decide)]
          exact sc.2.2.1
        · rw [show pg_i g 80 = pg_i h 80 from a.row (r := 80) (by decide), show pg_i g 82 = pg_i h 82 from a.row (r := 82) (by decide)]
          exact sc.2.2.2
        · rw [gk, gr, g1]
          by_cases e : b = 14
          · rw [e, t5 t ht]
            exact wo.1 _ (by omega) t ht
          · rw [rr3 b e]
            exact wo.1 b hb t ht
        · have z3 : ShX g 2 (fun j => pg_i h 84 (7758 * k + j)) Yk := by
            refine ⟨(t6.ch b1 (by decide)).ch b2 (by decide), KI, TI.refs kT g1 gk hi hr (fun t ht => ?_)⟩
            rw [gr]
            exact t5 t ht
          exact z3.cong f83
        · refine Or.inl ?_
          rw [b2.atM (R := []) (F := [(1, 14)]) (by decide) (by decide), g14]
        · refine Or.inl ?_
          rw [b2.atM (R := []) (F := [(1, 15)]) (by decide) (by decide), g15]
        · exact r3.next (show pg_i g 81 31 = pg_i h 81 31 from a.atM (R := []) (F := [(81, 31)]) (by decide) (by decide)) ev f1 (by omega)
      · refine ⟨?_, ?_, ?_⟩
        · rw [b2.1, b1.1, n3]
          exact Nat.le_refl _
        · rw [b2.1, b1.1, n3]
          exact Nat.le_add_right _ _
        · rw [b2.2.1, b1.2.1, m3]
          exact Nat.le_add_right _ _
  · refine refuse_sim I (x := -1) (k := 1) (by decide) (by decide) ?_ (fun h1 L1 e83 e81 _ => ?_)
    · unfold F_X11_back
      simp only [k_si, k_sl, k_sr, r_si, r_sl, i_sl, i_sr, l_si, l_sr, Option.bind_some, if_true, if_false, bind_eta2, if_bb, decide_eq_true_eq, pg_let, within_le, nc_1, D, if_neg c1]
    · unfold F_X12_back
      simp only [k_si, k_sl, k_sr, r_si, r_sl, i_sl, i_sr, l_si, l_sr, Option.bind_some, if_true, if_false, bind_eta2, if_bb, decide_eq_true_eq, pg_let, lies_le, nc_81, L1.kd, if_neg c1]
