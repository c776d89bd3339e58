/-! TEXTS: the call -/
abbrev sQ : List Nat := [46, 80, 82, 89, 90, 91]
abbrev tA : List (Nat × Nat) := [(45, 2), (45, 3), (45, 4), (45, 5), (45, 6), (45, 7), (45, 8), (1, 13), (43, 1)]
abbrev tQ : List (Nat × Nat) := [(45, 2), (45, 3), (45, 4), (45, 5), (45, 6), (45, 7), (45, 8), (1, 11), (1, 13), (43, 1), (81, 0), (81, 10), (81, 11), (81, 15), (81, 16), (81, 17), (81, 18)]
theorem Inv.refT {q : Nat} {h g : pg_H} (I : Inv q h) (a : Ch sQ tQ h g) (sc : ScOK g) (tp : TpOK g) : Inv (q + 1) g := by
  obtain ⟨L2, wo, X, Y0, Y1, s, t, i0, i1, r1, r2, r3⟩ := I.base a (by decide) (by decide) (by decide)
  obtain ⟨_, _, _, _, ⟨v, ev, hv⟩, _⟩ := I
  have e83 : pg_i g 83 = pg_i h 83 := a.row (by decide)
  refine ⟨L2, sc, tp, wo, ⟨v, ?_, by omega⟩, X, Y0, Y1, ?_⟩
  · rw [a.atM (R := []) (F := [(81, 1)]) (by decide) (by decide)]
    exact ev
  · rw [e83]
    exact ⟨⟨s.1.ch a (by decide), s.2.1, t⟩, i0, i1, r1.ch a (by decide) (by decide), r2.ch a (by decide) (by decide), r3.ch a (by decide) (by decide)⟩
/-- a refused text: the tape is empty, both faults are told -/
theorem ref_end {q : Nat} {h xa ya : pg_H} {x : Int32} {k : Nat} (I : Inv q h) (ca : Ch [46] tA h xa) (cb : Ch [89, 90, 91] mR (pg_si (pg_si xa 1 11 x) 80 k (pg_i xa 80 k + 1)) ya)
    (f : pg_i xa 1 13 = pg_i ya 81 11) (t1 : pg_i xa 43 1 = 0) (t2 : pg_i ya 81 10 = 0) : Inv (q + 1) (pg_si (pg_si ya 81 0 x) 82 k (pg_i ya 82 k + 1)) ∧ Few h (pg_si (pg_si ya 81 0 x) 82 k (pg_i ya 82 k + 1)) := by
  have c1 : Ch [80] [(1, 11)] xa (pg_si (pg_si xa 1 11 x) 80 k (pg_i xa 80 k + 1)) := ((Ch.refl _ _ _).asi (Or.inr (by decide))).asi (Or.inl (by decide))
  have c2 : Ch [82] [(81, 0)] ya (pg_si (pg_si ya 81 0 x) 82 k (pg_i ya 82 k + 1)) := ((Ch.refl _ _ _).asi (Or.inr (by decide))).asi (Or.inl (by decide))
  have all : Ch sQ tQ h (pg_si (pg_si ya 81 0 x) 82 k (pg_i ya 82 k + 1)) := (((ca.mono (by decide)).trans (c1.mono (by decide))).trans (cb.mono (by decide))).trans (c2.mono (by decide))
  have sc := I.2.1
  have x80 : pg_i xa 80 = pg_i h 80 := ca.row (by decide)
  have y82 : pg_i ya 82 = pg_i h 82 := by rw [cb.row (r := 82) (by decide), c1.row (r := 82) (by decide), ca.row (r := 82) (by decide)]
  have y80 : pg_i ya 80 = up1 (pg_i h 80) k (pg_i h 80 k + 1) := by rw [cb.row (r := 80) (by decide), si_row, si_ne (by decide), x80]
  have y11 : pg_i ya 1 11 = x := by rw [cb.row (r := 1) (by decide), si_ne (by decide), si_row, up1_eq]
  have y13 : pg_i ya 1 13 = pg_i xa 1 13 := by rw [cb.row (r := 1) (by decide), si_ne (by decide), si_row, up1_ne (by decide)]
  have y43 : pg_i ya 43 1 = 0 := by rw [cb.row (r := 43) (by decide), c1.row (r := 43) (by decide)]; exact t1
  refine ⟨I.refT all ⟨?_, ?_, ?_, fun j hj => ?_⟩ ⟨0, Nat.zero_le _, ?_, ?_, fun i hi => absurd hi (Nat.not_lt_zero i)⟩, all.few⟩
  · rw [c2.atM (R := []) (F := [(1, 11)]) (by decide) (by decide), y11, si_ne (by decide), si_row, up1_eq]
  · rw [all.atM (R := []) (F := [(1, 12)]) (by decide) (by decide), all.atM (R := []) (F := [(81, 6)]) (by decide) (by decide)]
    exact sc.2.1
  · rw [c2.atM (R := []) (F := [(1, 13)]) (by decide) (by decide), c2.atM (R := []) (F := [(81, 11)]) (by decide) (by decide), y13]
    exact f
  · have z : ∀ j, j < 7 → pg_i h 80 j = pg_i h 82 j := sc.2.2.2
    rw [c2.row (r := 80) (by decide), si_row, si_ne (by decide), y80, y82]
    unfold up1
    by_cases e : j = k
    · rw [if_pos e, if_pos e, z k (by omega)]
    · rw [if_neg e, if_neg e, z j hj]
  · rw [c2.row (r := 43) (by decide), y43]
    rfl
  · rw [c2.atM (R := []) (F := [(81, 10)]) (by decide) (by decide), t2]
    rfl
theorem sim_text0 (q : Nat) (h : pg_H) (hq : q ≤ 600) (I : Inv q h) (hl : h.1 + 2 < pg_lim) : ∃ (v : Int32) (h1 : pg_H) (h2 : pg_H), F_X11_text 1 h = some (v, h1) ∧ Lay h1 ∧ F_X12_text 81 h1 = some (v, h2) ∧ Inv (q + 1) h2 ∧ Few h h2 := by
  obtain ⟨L, sc, tp, wo, ⟨v, ev, hv⟩, X, Y0, Y1, ⟨C, Kk, TX⟩, i0, i1, r1, r2, r3⟩ := id I
  obtain ⟨n, hn, t1, t2, t3⟩ := tp
  have D := L.kd
  have R := L.rd
  have kT : nT (pg_i h 83) < 9 := Kk.1.2.2.2.2.2
  have eT : pg_i h 83 1348 = nI (nT (pg_i h 83)) := Kk.1.2.2.2.2.1
  have e7 : pg_i h 2 7 = nI (nT (pg_i h 83)) := C.2.2.2.2.2.2.1.trans eT
  have sh0 : F_X8_shorten 43 (0 : Int32) h = some (pg_si h 43 1 0) := c_shorten D t1 hn (Nat.zero_le _)
  by_cases full : nT (pg_i h 83) = 8
  · -- no room
    have c1 : Ch [46] tA h (pg_si h 43 1 0) := (Ch.refl _ _ _).asi (Or.inr (by decide))
    have L1 := c1.lay L (by decide)
    have c2 : Ch [80] [(1, 11)] (pg_si h 43 1 0) (pg_si (pg_si (pg_si h 43 1 0) 1 11 (-5)) 80 5 (pg_i (pg_si h 43 1 0) 80 5 + 1)) := ((Ch.refl _ _ _).asi (Or.inr (by decide))).asi (Or.inl (by decide))
    have L2 := c2.lay L1 (by decide)
    have cls : F_X11_text 1 h = some (-5, pg_si (pg_si (pg_si h 43 1 0) 1 11 (-5)) 80 5 (pg_i (pg_si h 43 1 0) 80 5 + 1)) := by
      unfold F_X11_text
      rw [nR_1_0 D R, Option.bind_some, ng_2 D, e7, Option.bind_some, full, if_neg (show ¬ nI 8 < (8 : Int32) by decide), nR_1_3 D R, Option.bind_some, nc_43 D, sh0, Option.bind_some, nc_1 L1.kd, c_refuse L1.kd L1.rd (x := -5) (k := 5) (by decide) (by decide), Option.bind_some]
    have g83 : pg_i (pg_si (pg_si (pg_si h 43 1 0) 1 11 (-5)) 80 5 (pg_i (pg_si h 43 1 0) 80 5 + 1)) 83 = pg_i h 83 := by rw [c2.row (r := 83) (by decide), c1.row (r := 83) (by decide)]
    have g11 : pg_i (pg_si (pg_si (pg_si h 43 1 0) 1 11 (-5)) 80 5 (pg_i (pg_si h 43 1 0) 80 5 + 1)) 81 11 = pg_i h 81 11 := by rw [c2.row (r := 81) (by decide), c1.row (r := 81) (by decide)]
    obtain ⟨hc, ehc⟩ : ∃ hc, hc = pg_si (pg_si (pg_si h 43 1 0) 1 11 (-5)) 80 5 (pg_i (pg_si h 43 1 0) 80 5 + 1) := ⟨_, rfl⟩
    rw [← ehc] at cls c2 L2 g83 g11
    have c3 : Ch [89, 90, 91] mR hc (pg_si hc 81 10 0) := (Ch.refl _ _ _).asi (Or.inr (by decide))
    have L3 := c3.lay L2 (by decide)
    have mod : F_X12_text 81 hc = some (-5, pg_si (pg_si (pg_si hc 81 10 0) 81 0 (-5)) 82 5 (pg_i (pg_si hc 81 10 0) 82 5 + 1)) := by
      unfold F_X12_text
      rw [nR_81_3 L2.kd L2.rd, Option.bind_some, na_83_1348 L2.kd, g83, eT, Option.bind_some, full, if_pos (show nI 8 = (8 : Int32) from rfl), np_81 L2.kd, Option.bind_some, nc_81 L3.kd, m_refuses L3.kd L3.rd (x := -5) (k := 5) (by decide) (by decide), Option.bind_some]
    have f13 : pg_i (pg_si h 43 1 0) 1 13 = pg_i (pg_si hc 81 10 0) 81 11 := by
      rw [si_ne (by decide), si_row, up1_ne (by decide), g11]
      exact sc.2.2.1
    have E := ref_end (x := -5) (k := 5) I c1 (by rw [← ehc]; exact c3) f13 (by rw [si_row, up1_eq]) (by rw [si_row, up1_eq])
    exact ⟨-5, hc, _, cls, L2, mod, E.1, E.2⟩
  -- the tokens
  have tb : ∀ i, i < n → pg_i h 44 i = nI ((pg_i h 44 i).toNatClampNeg) ∧ (pg_i h 44 i).toNatClampNeg < 256 ∧ pg_i h 87 i = (nI ((pg_i h 44 i).toNatClampNeg)).toInt8.toInt32 := fun i hi => by
    obtain ⟨c, c1, c2, c3⟩ := t3 i hi
    rw [c2, nI_clamp (by omega)]
    exact ⟨rfl, c1, c3⟩
  obtain ⟨b, eb⟩ : ∃ b : Nat → Nat, b = fun i => (pg_i h 44 i).toNatClampNeg := ⟨_, rfl⟩
  have tb2 : ∀ i, i < n → pg_i h 44 i = nI (b i) ∧ b i < 256 ∧ pg_i h 87 i = (nI (b i)).toInt8.toInt32 := fun i hi => by
    rw [eb]
    exact tb i hi
  have hb : ∀ k, k < n → b k < 256 := fun k hk => (tb2 k hk).2.1
  have hT : TapeAt h n b := ⟨t1, fun k hk => (tb2 k hk).1⟩
  have hM : TapeM h n b := fun k hk => (tb2 k hk).2.2
  obtain ⟨K, O, hA, hS⟩ := tokens hn hb
  obtain ⟨x', a1, L1, z⟩ := c_compile O hA L hT
  have k13 : tm_ K ≤ 400 := O.1
  have s1 : pg_i x' 43 1 = nI n := by rw [a1.row (r := 43) (by decide)]; exact t1
  have room : nI (nT (pg_i h 83)) < (8 : Int32) := nI_lt (b := 8) (by omega) (by decide)
  rcases z with ⟨z1, z2, z3⟩ | ⟨z1, z2, z3, z4, z5⟩
  · -- a fault
    obtain ⟨fl, efl⟩ : ∃ fl, fl = nI (tpos K (textP K).2.1) := ⟨_, rfl⟩
    rw [← efl] at z3
    have c2 : Ch [46] tA h (pg_si x' 1 13 fl) := (a1.mono (by decide)).asi (Or.inr (by decide))
    have L2 := c2.lay L (by decide)
    have s2 : pg_i (pg_si x' 1 13 fl) 43 1 = nI n := by rw [si_ne (by decide)]; exact s1
    have c3 : Ch [46] tA h (pg_si (pg_si x' 1 13 fl) 43 1 0) := c2.asi (Or.inr (by decide))
    have L3 := c3.lay L (by decide)
    have c4 : Ch [80] [(1, 11)] (pg_si (pg_si x' 1 13 fl) 43 1 0) (pg_si (pg_si (pg_si (pg_si x' 1 13 fl) 43 1 0) 1 11 (-6)) 80 6 (pg_i (pg_si (pg_si x' 1 13 fl) 43 1 0) 80 6 + 1)) := ((Ch.refl _ _ _).asi (Or.inr (by decide))).asi (Or.inl (by decide))
    have L4 := c4.lay L3 (by decide)
    have sh : F_X8_shorten 43 (0 : Int32) (pg_si x' 1 13 fl) = some (pg_si (pg_si x' 1 13 fl) 43 1 0) := c_shorten L2.kd s2 hn (Nat.zero_le _)
    have cls : F_X11_text 1 h = some (-6, pg_si (pg_si (pg_si (pg_si x' 1 13 fl) 43 1 0) 1 11 (-6)) 80 6 (pg_i (pg_si (pg_si x' 1 13 fl) 43 1 0) 80 6 + 1)) := by
      unfold F_X11_text F_X3_faultPlace
      rw [nR_1_0 D R, Option.bind_some, ng_2 D, e7, Option.bind_some, if_pos room, nR_1_4 D R, Option.bind_some, nc_45 D, z2, Option.bind_some]
      dsimp only
      rw [nR_1_4 L1.kd L1.rd, Option.bind_some, nc_45 L1.kd, ng_45 L1.kd, z3, Option.bind_some, Option.bind_some, np_1 L1.kd, Option.bind_some, nR_1_3 L2.kd L2.rd, Option.bind_some, nc_43 L2.kd, sh, Option.bind_some, if_pos rfl, nc_1 L3.kd, c_refuse L3.kd L3.rd (x := -6) (k := 6) (by decide) (by decide), Option.bind_some]
    have all : Ch [46, 80] ((1, 11) :: tA) h (pg_si (pg_si (pg_si (pg_si x' 1 13 fl) 43 1 0) 1 11 (-6)) 80 6 (pg_i (pg_si (pg_si x' 1 13 fl) 43 1 0) 80 6 + 1)) := (c3.mono (by decide)).trans (c4.mono (by decide))
    have g83 := all.row (r := 83) (by decide)
    have g81 := all.row (r := 81) (by decide)
    have M4 := hM.ch all (by decide)
    have f13 : pg_i (pg_si (pg_si x' 1 13 fl) 43 1 0) 1 13 = fl := by rw [si_ne (by decide), si_row, up1_eq]
    have f43 : pg_i (pg_si (pg_si x' 1 13 fl) 43 1 0) 43 1 = 0 := by rw [si_row, up1_eq]
    generalize pg_si (pg_si x' 1 13 fl) 43 1 0 = xa at *
    obtain ⟨hc, ehc⟩ : ∃ hc, hc = pg_si (pg_si xa 1 11 (-6)) 80 6 (pg_i xa 80 6 + 1) := ⟨_, rfl⟩
    rw [← ehc] at L4 cls g83 g81 M4
    obtain ⟨y', c, e, cy, Ly, f10, f15, fR, zz⟩ := m_reads O hS L4 M4 (by rw [g81]; exact t2)
    rcases zz with ⟨_, rfl, f11⟩ | ⟨zz, _⟩
    · have mod : F_X12_text 81 hc = some (-6, pg_si (pg_si y' 81 0 (-6)) 82 6 (pg_i y' 82 6 + 1)) := by
        unfold F_X12_text
        rw [nR_81_3 L4.kd L4.rd, Option.bind_some, na_83_1348 L4.kd, g83, eT, Option.bind_some, if_neg (show ¬ nI (nT (pg_i h 83)) = (8 : Int32) from fun z => full ((nI_eq (b := 8) (by omega) (by decide)).mp z)), nc_81 L4.kd, e, Option.bind_some]
        dsimp only
        rw [if_pos rfl, nc_81 Ly.kd, m_refuses Ly.kd Ly.rd (x := -6) (k := 6) (by decide) (by decide), Option.bind_some]
      have E := ref_end (x := -6) (k := 6) I c3 (by rw [← ehc]; exact cy) (by rw [f13, f11, efl]) f43 f10
      exact ⟨-6, hc, _, cls, L4, mod, E.1, E.2⟩
    · exact absurd z1 zz
  · -- a text
    obtain ⟨t, et⟩ : ∃ t, t = nT (pg_i h 83) := ⟨_, rfl⟩
    have ht : t < 8 := by omega
    rw [← et] at e7 eT room
    obtain ⟨_, _, _, _, _, _, k2, k8, _⟩ := z3
    have x1 : x'.1 = h.1 := a1.1
    obtain ⟨g0, n1, w⟩ := mk_text L1 z5 k2 (by rw [x1]; exact hl)
    obtain ⟨⟨w1, w2⟩, w3, w4, w5, w6, w7⟩ := id w
    have L4 := w.lay L1
    have l4 := L1.1
    have low : ∀ r, r < 110 → pg_i g0 r = pg_i x' r := fun r hr => (w3 r (by omega)).2.1
    have k8' : pg_i g0 45 8 = -1 := by rw [low 45 (by decide)]; exact k8
    have c5 : Ch [] [(1, 13), (43, 1)] g0 (pg_si g0 1 13 (-1)) := (Ch.refl _ _ _).asi (Or.inr (by decide))
    have L5 := c5.lay L4 (by decide)
    have s5 : pg_i (pg_si g0 1 13 (-1)) 43 1 = nI n := by rw [si_ne (by decide), low 43 (by decide)]; exact s1
    have c6 : Ch [] [(1, 13), (43, 1)] g0 (pg_si (pg_si g0 1 13 (-1)) 43 1 0) := c5.asi (Or.inr (by decide))
    have L6 := c6.lay L4 (by decide)
    have sh : F_X8_shorten 43 (0 : Int32) (pg_si g0 1 13 (-1)) = some (pg_si (pg_si g0 1 13 (-1)) 43 1 0) := c_shorten L5.kd s5 hn (Nat.zero_le _)
    have f13 : pg_i (pg_si (pg_si g0 1 13 (-1)) 43 1 0) 1 13 = -1 := by rw [si_ne (by decide), si_row, up1_eq]
    have f43 : pg_i (pg_si (pg_si g0 1 13 (-1)) 43 1 0) 43 1 = 0 := by rw [si_row, up1_eq]
    have e27 : pg_i (pg_si (pg_si g0 1 13 (-1)) 43 1 0) 2 7 = nI t := by
      rw [si_ne (by decide), si_ne (by decide), low 2 (by decide), a1.row (r := 2) (by decide)]
      exact e7
    have cls1 : F_X11_text 1 h = Option.bind (F_X5_addText 2 (x'.1 + 1) (pg_si (pg_si g0 1 13 (-1)) 43 1 0)) fun v11 => Option.bind (pg_rcv 11 v11.2 1 (F_X11_accept 1 v11.1 v11.2)) fun v12 => some (v12.1, v12.2) := by
      unfold F_X11_text F_X3_faultPlace
      rw [nR_1_0 D R, Option.bind_some, ng_2 D, e7, Option.bind_some, if_pos room, nR_1_4 D R, Option.bind_some, nc_45 D, z2, n1, Option.bind_some]
      dsimp only
      rw [nR_1_4 L4.kd L4.rd, Option.bind_some, nc_45 L4.kd, ng_45 L4.kd, k8', Option.bind_some, Option.bind_some, np_1 L4.kd, Option.bind_some, nR_1_3 L5.kd L5.rd, Option.bind_some, nc_43 L5.kd, sh, Option.bind_some, if_neg (show ¬ x'.1 + 1 = 0 by omega), nR_1_0 L6.kd L6.rd, Option.bind_some, nc_2 L6.kd]
    have kr : (pg_k (pg_si (pg_si g0 1 13 (-1)) 43 1 0) (x'.1 + 1)).1 = 10 := by
      rw [c6.kk, w4]
    have rr6 : pg_r (pg_si (pg_si g0 1 13 (-1)) 43 1 0) = pg_r g0 := c6.rr
    have hi6 : Hi g0 (pg_si (pg_si g0 1 13 (-1)) 43 1 0) := c6.hi (by decide)
    have lo6 : Lo [46, 83, 89, 90, 91] ([(1, 11), (81, 0), (81, 1), (81, 10), (81, 11), (81, 15), (81, 16), (81, 17), (81, 18)] ++ tA) g0 (pg_si (pg_si g0 1 13 (-1)) 43 1 0) := (c6.mono (by decide)).lo
    have kk6 := c6.kk
    have n6 : (pg_si (pg_si g0 1 13 (-1)) 43 1 0).1 = g0.1 := c6.1
    have m6 : (pg_si (pg_si g0 1 13 (-1)) 43 1 0).2.1 = g0.2.1 := c6.2.1
    have i6 : ∀ r, r ≠ 1 → r ≠ 43 → pg_i (pg_si (pg_si g0 1 13 (-1)) 43 1 0) r = pg_i g0 r := fun r h1 h2 => by rw [si_ne h2, si_ne h1]
    generalize pg_si (pg_si g0 1 13 (-1)) 43 1 0 = x6 at *
    -- the place
    have lo7 : Lo [46, 83, 89, 90, 91] ([(1, 11), (81, 0), (81, 1), (81, 10), (81, 11), (81, 15), (81, 16), (81, 17), (81, 18)] ++ tA) x6 (pg_sr x6 14 t (x'.1 + 1)) := Lo.of (fun _ _ => rfl) (fun r _ h14 => sr_ne h14) (fun _ _ _ _ => ⟨rfl, rfl⟩)
    have hi7 : Hi x6 (pg_sr x6 14 t (x'.1 + 1)) := ⟨Nat.le_refl _, fun r h1 _ => ⟨rfl, rfl, sr_ne (by omega)⟩⟩
    have L7 : Lay (pg_sr x6 14 t (x'.1 + 1)) := L6.of (Nat.le_refl _) (fun _ _ => rfl) (fun z hz => by rw [sr_ne (layR_out z hz).1]) (fun _ _ => rfl) (fun _ => rfl)
    have sR7 : pg_sR 25 9 x6 14 (nI t) (x'.1 + 1) = some (pg_sr x6 14 t (x'.1 + 1)) := by
      unfold pg_sR
      rw [lay_k L6 (show 14 < 110 by decide), nI_clamp (by omega), show layK.getD 14 (0, 0) = (25, 8) by decide]
      exact if_pos ⟨rfl, fun z => z.elim (fun z => absurd z (nI_pos (by omega))) (fun z => absurd z (Nat.not_le.mpr ht)), Or.inr kr⟩
    have r7 : ∀ r, r ≠ 14 → pg_r (pg_sr x6 14 t (x'.1 + 1)) r = pg_r x6 r := fun r hr => sr_ne hr
    have r714 : pg_r (pg_sr x6 14 t (x'.1 + 1)) 14 = up1 (pg_r x6 14) t (x'.1 + 1) := sr_row _ _ _ _
    have k7 : pg_k (pg_sr x6 14 t (x'.1 + 1)) = pg_k x6 := rfl
    have i7 : pg_i (pg_sr x6 14 t (x'.1 + 1)) = pg_i x6 := rfl
    have n7 : (pg_sr x6 14 t (x'.1 + 1)).1 = x6.1 := rfl
    have m7 : (pg_sr x6 14 t (x'.1 + 1)).2.1 = x6.2.1 := rfl
    generalize pg_sr x6 14 t (x'.1 + 1) = x7 at *
    have c8 : Ch [] [(2, 7)] x7 (pg_si x7 2 7 (nI (t + 1))) := (Ch.refl _ _ _).asi (Or.inr (by decide))
    have L8 := c8.lay L7 (by decide)
    have c9 : Ch [] [(1, 11)] (pg_si x7 2 7 (nI (t + 1))) (pg_si (pg_si x7 2 7 (nI (t + 1))) 1 11 0) := (Ch.refl _ _ _).asi (Or.inr (by decide))
    have L9 := c9.lay L8 (by decide)
    have e27' : pg_i x7 2 7 = nI t := by rw [i7]; exact e27
    have cls : F_X11_text 1 h = some (nI t, pg_si (pg_si x7 2 7 (nI (t + 1))) 1 11 0) := by
      rw [cls1]
      unfold F_X5_addText
      rw [ng_2 L6.kd, e27, Option.bind_some, if_neg (nI_pos (by omega)), Option.bind_some, if_pos room, nR_2_6 L6.kd L6.rd, Option.bind_some, Option.bind_some, sR7, Option.bind_some, ng_2 L7.kd, e27', Option.bind_some, nI_1, np_2 L7.kd, Option.bind_some, ng_2 L8.kd, si_row, up1_eq, Option.bind_some, nI_down, Option.bind_some]
      dsimp only
      rw [nc_1 L8.kd, c_accept L8.kd, Option.bind_some]
    have hT8 : Lo [46, 83, 89, 90, 91] ([(1, 11), (81, 0), (81, 1), (81, 10), (81, 11), (81, 15), (81, 16), (81, 17), (81, 18)] ++ tA) h x7 := (((a1.mono (by decide)).lo.trans (w.lo L1 _ _)).trans lo6).trans lo7
    have lo8 := (hT8.si 2 7 (nI (t + 1))).trans (c9.mono (by decide)).lo
    have hi9 : Hi h (pg_si (pg_si x7 2 7 (nI (t + 1))) 1 11 0) := ((((a1.hi (by decide)).trans w.hi).trans hi6).trans hi7).trans ((c8.hi (by decide)).trans (c9.hi (by decide)))
    have k9 : pg_k (pg_si (pg_si x7 2 7 (nI (t + 1))) 1 11 0) = pg_k x7 := rfl
    have q9 : pg_r (pg_si (pg_si x7 2 7 (nI (t + 1))) 1 11 0) = pg_r x7 := rfl
    have i9 : ∀ r, r ≠ 1 → r ≠ 2 → pg_i (pg_si (pg_si x7 2 7 (nI (t + 1))) 1 11 0) r = pg_i x7 r := fun r h1 h2 => by rw [si_ne h1, si_ne h2]
    have j9 : ∀ k, k ≠ 11 → pg_i (pg_si (pg_si x7 2 7 (nI (t + 1))) 1 11 0) 1 k = pg_i x7 1 k := fun k hk => by rw [si_row, up1_ne hk, si_ne (by decide)]
    have z9 : pg_i (pg_si (pg_si x7 2 7 (nI (t + 1))) 1 11 0) 1 11 = 0 := by rw [si_row, up1_eq]
    have n9 : (pg_si (pg_si x7 2 7 (nI (t + 1))) 1 11 0).1 = x7.1 := rfl
    have m9 : (pg_si (pg_si x7 2 7 (nI (t + 1))) 1 11 0).2.1 = x7.2.1 := rfl
    generalize pg_si (pg_si x7 2 7 (nI (t + 1))) 1 11 0 = x9 at *
    have back : ∀ r, r < 110 → r ≠ 1 → r ≠ 2 → r ≠ 43 → pg_i x9 r = pg_i x' r := fun r h0 h1 h2 h3 => by rw [i9 r h1 h2, i7, i6 r h1 h3, low r h0]
    have g83 : pg_i x9 83 = pg_i h 83 := by rw [back 83 (by decide) (by decide) (by decide) (by decide), a1.row (r := 83) (by decide)]
    have g81 : pg_i x9 81 = pg_i h 81 := by rw [back 81 (by decide) (by decide) (by decide) (by decide), a1.row (r := 81) (by decide)]
    have M9 : TapeM x9 n b := fun k hk => by
      rw [back 87 (by decide) (by decide) (by decide) (by decide), a1.row (r := 87) (by decide)]
      exact hM k hk
    have h43 : pg_i x9 43 1 = 0 := by rw [i9 43 (by decide) (by decide), i7]; exact f43
    have h13 : pg_i x9 1 13 = -1 := by rw [j9 13 (by decide), i7]; exact f13
    obtain ⟨gm, mo, b1, m10, m11, o1, o2, o3, o4⟩ := m_textG O hS L9 M9 (by rw [g81]; exact t2) ht (by rw [g83]; exact eT) z1
    have b2 : Ch [83, 89, 90, 91] ((81, 0) :: (81, 1) :: mR) x9 (pg_si (pg_si gm 81 0 0) 81 1 (pg_i gm 81 1 + 1)) := ((b1.mono (by decide)).asi (Or.inr (by decide))).asi (Or.inr (by decide))
    have v1 : pg_i gm 81 1 = nI v := by rw [b1.atM (R := []) (F := [(81, 1)]) (by decide) (by decide), g81]; exact ev
    have p0 : pg_i (pg_si (pg_si gm 81 0 0) 81 1 (pg_i gm 81 1 + 1)) 81 0 = 0 := by rw [si_row, up1_ne (by decide), si_row, up1_eq]
    have p1 : pg_i (pg_si (pg_si gm 81 0 0) 81 1 (pg_i gm 81 1 + 1)) 81 1 = nI (v + 1) := by rw [si_row, up1_eq, v1, nI_1]
    have p10 : pg_i (pg_si (pg_si gm 81 0 0) 81 1 (pg_i gm 81 1 + 1)) 81 10 = 0 := by rw [si_row, up1_ne (by decide), si_row, up1_ne (by decide)]; exact m10
    have p11 : pg_i (pg_si (pg_si gm 81 0 0) 81 1 (pg_i gm 81 1 + 1)) 81 11 = -1 := by rw [si_row, up1_ne (by decide), si_row, up1_ne (by decide)]; exact m11
    have p83 : pg_i (pg_si (pg_si gm 81 0 0) 81 1 (pg_i gm 81 1 + 1)) 83 = pg_i gm 83 := by rw [si_ne (by decide), si_ne (by decide)]
    have M : MoreT (pg_i h 83) (pg_i (pg_si (pg_si gm 81 0 0) 81 1 (pg_i gm 81 1 + 1)) 83) t (tm_ K) := by
      rw [p83]
      refine ⟨o1, o2, fun j q1 q2 q3 q4 => ?_⟩
      rw [o4 j q1 q2 q3 q4, g83]
    rw [← p83] at o3
    refine ⟨nI t, x9, _, cls, L9, mo, ?_, ?_⟩
    · generalize pg_si (pg_si gm 81 0 0) 81 1 (pg_i gm 81 1 + 1) = g at *
      have LG := b2.lay L9 (by decide)
      have loG := lo8.trans (b2.mono (by decide)).lo
      have loH : Lo [46, 83, 89, 90, 91] ((2, 7) :: ([(1, 11), (81, 0), (81, 1), (81, 10), (81, 11), (81, 15), (81, 16), (81, 17), (81, 18)] ++ tA)) h g := (show Ch [46, 83, 89, 90, 91] ((2, 7) :: ([(1, 11), (81, 0), (81, 1), (81, 10), (81, 11), (81, 15), (81, 16), (81, 17), (81, 18)] ++ tA)) h (pg_si h 2 7 (nI (t + 1))) from (Ch.refl _ _ _).asi (Or.inr (by decide))).lo.trans (loG.mono (by decide))
      have hiG := hi9.trans (b2.hi (by decide))
      have gk : pg_k g = pg_k g0 := b2.kk.trans (k9.trans (k7.trans kk6))
      have gr : pg_r g = pg_r x7 := b2.rr.trans q9
      have gr14 : pg_r g 14 = up1 (pg_r h 14) t (h.1 + 1) := by
        rw [gr, r714, rr6, (w3 14 (by omega)).2.2.2, a1.rr, x1]
      have gro : ∀ a, a ≠ 14 → a < 110 → pg_r g a = pg_r h a := fun a ha ha2 => by
        rw [gr, r7 a ha, rr6, (w3 a (by omega)).2.2.2, a1.rr]
      have gn : g.1 = h.1 + 2 := by rw [b2.1, n9, n7, n6, w1, x1]
      have KK : ∀ r, r ≤ h.1 → pg_k g r = pg_k h r := fun r hr => by
        rw [gk, (w3 r (by omega)).1, a1.kk]
      have ntA := M.cnt ht
      have core := M.core
      have X't : ∀ t', t' ≠ t → (fun t' => if t' = t then textX (textP K) else X t') t' = X t' := fun t' e => if_neg e
      have X'e : (fun t' => if t' = t then textX (textP K) else X t') t = textX (textP K) := if_pos rfl
      generalize (fun t' => if t' = t then textX (textP K) else X t') = X' at *
      have hX : pg_i h 83 1349 ≠ -1 → X' (cl (pg_i h 83) 1349) = X (cl (pg_i h 83) 1349) := fun z => by
        rcases Kk.2.2.2.2.2.2.2.2.2.1 with y | y
        · exact absurd y z
        · exact X't _ (by have := y.2; omega)
      have wgE : wg (pg_i g 83) (uX (pg_i g 83) X') = wg (pg_i h 83) (uX (pg_i h 83) X) := core_wg core Kk hX
      have im : ∀ k Y, k < 2 → ImOK h k Y → ImOK g k Y := fun k Y hk ⟨y1, y2⟩ => by
        unfold ImOK
        rw [loH.row (r := 42) (by decide) (by decide), loH.row (r := 85) (by decide) (by decide), loH.row (r := 84) (by decide) (by decide)]
        refine ⟨y1, y2.imp id (fun ⟨u1, u2, u3, u4⟩ => ⟨u1, ?_, u3, ?_⟩)⟩
        · rcases k with _ | _ | k
          · exact CNum.lo0 u2 loH (by decide)
          · exact CNum.lo1 u2 loH (by decide)
          · omega
        · exact u4.hi hiG (fun t' _ => by rw [gro _ (by omega) (by omega)])
      refine ⟨LG, ⟨?_, ?_, ?_, ?_⟩, ⟨0, Nat.zero_le _, ?_, ?_, fun i hi => absurd hi (Nat.not_lt_zero i)⟩, ⟨fun a ha t' ht' => ?_, ?_⟩, ⟨v + 1, p1, by omega⟩, X', Y0, Y1, ⟨?_, M.sh Kk et.symm ht k13, fun t' ht' => ?_⟩, im 0 Y0 (by decide) i0, im 1 Y1 (by decide) i1, ?_, ?_, ?_⟩
      · rw [b2.row (r := 1) (by decide), z9, p0]
      · rw [loH.atM (r := 1) (k := 12) (by decide) (by decide), loH.atM (r := 81) (k := 6) (by decide) (by decide)]
        exact sc.2.1
      · rw [b2.row (r := 1) (by decide), h13, p11]
      · rw [loH.row (r := 80) (by decide) (by decide), loH.row (r := 82) (by decide) (by decide)]
        exact sc.2.2.2
      · rw [b2.row (r := 43) (by decide), h43]
        rfl
      · rw [p10]
        rfl
      · have old : ∀ r0, r0 = 0 ∨ ((pg_k h r0).1 = 10 ∧ r0 ≤ h.1) → r0 = 0 ∨ ((pg_k g r0).1 = 10 ∧ r0 ≤ g.1) := fun r0 u => u.imp id (fun ⟨u1, u2⟩ => ⟨by rw [KK r0 u2]; exact u1, by omega⟩)
        by_cases e : a = 14
        · rw [e, gr14]
          by_cases e2 : t' = t
          · rw [e2, up1_eq]
            exact Or.inr ⟨by rw [gk, ← x1, w4], by omega⟩
          · rw [up1_ne e2]
            exact old _ (wo.1 14 (Or.inl rfl) t' ht')
        · rw [gro a e (by omega)]
          exact old _ (wo.1 a ha t' ht')
      · rw [loH.atM (r := 76) (k := 3) (by decide) (by decide), loH.atM (r := 81) (k := 44) (by decide) (by decide), loH.row (r := 77) (by decide) (by decide), loH.row (r := 78) (by decide) (by decide), loH.row (r := 79) (by decide) (by decide), loH.row (r := 107) (by decide) (by decide), loH.row (r := 108) (by decide) (by decide), loH.row (r := 109) (by decide) (by decide)]
        exact wo.2
      · refine (CNum.lo (CNum.text C (x := nI (t + 1))) loG (by decide)).num (fun j hj => ?_)
        by_cases e : j = 1348
        · rw [e, up1_eq]
          exact M.1
        · rw [up1_ne e]
          exact M.low hj e
      · rw [ntA] at ht'
        by_cases e : t' = t
        · have q14 : pg_r g 14 t = h.1 + 1 := by rw [gr14, up1_eq]
          have q15 : pg_r g (h.1 + 1) 0 = h.1 + 2 := by
            rw [gr, r7 _ (by omega), rr6, ← x1]
            exact w5
          have q16 : pg_k g (h.1 + 2) = (21, (textP K).2.2.2.1.length) := by
            rw [gk, ← x1]
            exact w6
          have l9 := L.1
          rw [e, X'e]
          refine ⟨textX_ok K, ctext_of z1 ?_ ?_ z5 ?_, mtext_of O z1 ht M.2.1 o3⟩
          · rw [q14, q15]
            exact ⟨by omega, by omega, by omega, by omega, by rw [gk, ← x1, w4]⟩
          · rw [q14, q15]
            exact q16
          · rw [q14, q15]
            intro k hk
            have i02 : pg_i g (h.1 + 2) = pg_i g0 (h.1 + 2) := by
              rw [b2.high (by decide) (by omega), i9 _ (by omega) (by omega), i7, i6 _ (by omega) (by omega)]
            rw [i02, Nat.zero_add, ← x1, w7 k hk]
            have u := z4 k hk
            rw [Nat.zero_add] at u
            exact u
        · have lt' : t' < nT (pg_i h 83) := by omega
          obtain ⟨u1, u2, u3⟩ := TX t' lt'
          rw [X't t' e]
          refine ⟨u1, ?_, u3.cong (M.2.2 _ (by omega) (by omega) (by omega) (by omega)) (fun k hk => ⟨M.2.2 _ (by omega) (by omega) (by omega) (by omega), M.2.2 _ (by omega) (by omega) (by omega) (by omega)⟩)⟩
          have s := (show TxAll h 14 (pg_i h 83) X from TX) t' lt'
          have r14 : pg_r g 14 t' = pg_r h 14 t' := by rw [gr14, up1_ne e]
          rw [r14]
          have q := u2.1
          have y1 := hiG.2 _ q.1 q.2.1
          have y2 := hiG.2 _ q.2.2.1 q.2.2.2.1
          exact u2.same ⟨y1.1, by rw [y1.2.2], y2.1, y2.2.1⟩ hiG.1
      · rw [wgE]
        rcases ReadOK.lo r1 loH (by decide) (by decide) with u | ⟨u1, u2⟩
        · exact Or.inl u
        · exact Or.inr ⟨u1, core_Rd core Kk u2⟩
      · rw [wgE]
        rcases StemOK.lo r2 loH (by decide) (by decide) with u | ⟨u1, u2⟩
        · exact Or.inl u
        · exact Or.inr ⟨u1, core_Stm core Kk u2⟩
      · exact r3.next (loH.atM (r := 81) (k := 31) (by decide) (by decide)) ev p1 (by omega)
    · refine ⟨?_, ?_, ?_⟩
      · rw [b2.1, n9, n7, n6, w1, x1]
        omega
      · rw [b2.1, n9, n7, n6, w1, x1]
        exact Nat.le_refl _
      · rw [b2.2.1, m9, m7, m6, w2, a1.2.1]
        omega
