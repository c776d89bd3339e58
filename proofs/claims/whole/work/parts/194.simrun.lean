/-! run: both sides -/
theorem tk_wd {c e p k : Nat} {W : WS} : wd (wT c e p (wStart c k W)) = 12 * k := by
  unfold wT
  split
  · rfl
  · rw [(take_nw _).2]
    rfl
theorem all_gone {n : Nat} {g : GS} (h : GIv n n g) : ∀ c, c < n → g.2.2.1 c = true := fun c hc => by
  cases q : g.2.2.1 c with
  | true => rfl
  | false =>
    have z := cntB_lt (F := g.2.2.1) (F' := fun _ => true) hc (fun _ _ _ => rfl) q rfl
    have o : (sumN n fun j => if (fun _ : Nat => true) j = true then 1 else 0) = n := (sumN_cong (fun j _ => if_pos rfl)).trans (sumN_ones n)
    rw [h.2.2.2.2.2, o] at z
    exact absurd z (Nat.lt_irrefl _)
theorem m_runLoop {h : pg_H} {A : Nat → Int32} {X : Nat → tX} {al : Nat → Nat → Bool} {T : Nat → Nat} (L : Lay h) (M : pg_i h 83 = A) {s : Nat} {g : pg_H} (S : ShX g s A X) (ht : isTree (nC A) al T) (t2 : ∀ c, c < nC A → pg_i h 97 c = if T c = 0 then nI 12 else nI (T c - 1)) {seed : Nat} (hs : seed < 1000003) (e44 : pg_i h 81 44 = nI (nC A)) (e45 : pg_i h 81 45 = nI seed) :
    ∃ h', F_X12_run_40 pg_fuel 81 0 0 0 h = F_X12_good 81 (nI (gRun (nC A) T (pcV A (uX A X)) (adV A (uX A X)) seed (nC A)).2.2.2) h' ∧ Ch mwS mwT h h' ∧ SzR 108 107 h' (wz (gRun (nC A) T (pcV A (uX A X)) (adV A (uX A X)) seed (nC A)).1) (wm (gRun (nC A) T (pcV A (uX A X)) (adV A (uX A X)) seed (nC A)).1) (gRun (nC A) T (pcV A (uX A X)) (adV A (uX A X)) seed (nC A)).2.2.1 ∧ CdR 109 h' (gRun (nC A) T (pcV A (uX A X)) (adV A (uX A X)) seed (nC A)).2.1 (gRun (nC A) T (pcV A (uX A X)) (adV A (uX A X)) seed (nC A)).2.2.1 := by
  have K := S.2.1
  have kC : nC A < 13 := K.1.1.2
  have gi := GIv_run (pc := pcV A (uX A X)) (ad := adV A (uX A X)) ht hs
  have tb : ∀ c, c < nC A → T c ≤ nC A := fun c hc => (ht.1 c hc).1
  generalize ePc : pcV A (uX A X) = pc at *
  generalize eAd : adV A (uX A X) = ad at *
  have R0 : MoR h (g0 seed).1 (g0 seed).2.2.1 := ⟨e45, fun c gc => by cases (gc : false = true)⟩
  have e0 : (0 : Int32) = nI (mk 12 (g0 seed).2.2.1) := congrArg nI (mk_zero 12)
  have key : ∀ Q, Q = nI (mk 12 (g0 seed).2.2.1) → ∃ h', F_X12_run_40 pg_fuel 81 Q 0 0 h = F_X12_good 81 (nI (gRun (nC A) T pc ad seed (nC A)).2.2.2) h' ∧ Ch mwS mwT h h' ∧ SzR 108 107 h' (wz (gRun (nC A) T pc ad seed (nC A)).1) (wm (gRun (nC A) T pc ad seed (nC A)).1) (gRun (nC A) T pc ad seed (nC A)).2.2.1 ∧ CdR 109 h' (gRun (nC A) T pc ad seed (nC A)).2.1 (gRun (nC A) T pc ad seed (nC A)).2.2.1 := by
    rintro Q rfl
    refine loopI (fun f k x => F_X12_run_40 f 81 (nI (mk 12 (gRun (nC A) T pc ad seed k).2.2.1)) (nI (gRun (nC A) T pc ad seed k).2.2.2) (nI k) x) (nC A) (fun k x => Ch mwS mwT h x ∧ MoR x (gRun (nC A) T pc ad seed k).1 (gRun (nC A) T pc ad seed k).2.2.1 ∧ CdR 109 x (gRun (nC A) T pc ad seed k).2.1 (gRun (nC A) T pc ad seed k).2.2.1) (fun o => ∃ h', o = F_X12_good 81 (nI (gRun (nC A) T pc ad seed (nC A)).2.2.2) h' ∧ Ch mwS mwT h h' ∧ SzR 108 107 h' (wz (gRun (nC A) T pc ad seed (nC A)).1) (wm (gRun (nC A) T pc ad seed (nC A)).1) (gRun (nC A) T pc ad seed (nC A)).2.2.1 ∧ CdR 109 h' (gRun (nC A) T pc ad seed (nC A)).2.1 (gRun (nC A) T pc ad seed (nC A)).2.2.1) ?_ ?_ 0 h (Nat.zero_le _) ⟨Ch.refl _ _ _, R0, fun c gc => by cases (gc : false = true)⟩ pg_fuel (by unfold pg_fuel; omega)
    · intro f k x hk ⟨cx, Rx, Dx⟩
      have Lx := cx.lay L (by decide)
      have Mx : pg_i x 83 = A := (cx.row (by decide)).trans M
      have gk := gi k (by omega)
      have stp : gRun (nC A) T pc ad seed (k + 1) = gStep (nC A) T pc ad k (gRun (nC A) T pc ad seed k) := rfl
      rw [stp]
      generalize gRun (nC A) T pc ad seed k = g at *
      obtain ⟨p1, p2, p3⟩ := pk_spec ht gk hk
      obtain ⟨i, k1, k2⟩ := tk_facts ht gk hk (pc (pk (nC A) T g))
      obtain ⟨j, hj, gj⟩ := GIv_ex gk hk
      have t2x : ∀ c, c < nC A → pg_i x 97 c = if T c = 0 then nI 12 else nI (T c - 1) := fun c hc => by
        rw [cx.row (by decide)]
        exact t2 c hc
      have px : F_X12_run_52 (F_X12_run_40 f) pg_fuel 81 (nI (mk 12 g.2.2.1)) (nI g.2.2.2) (nI k) (nI 0) x = F_X12_run_94 (F_X12_run_40 f) 81 (nI (mk 12 g.2.2.1)) (nI g.2.2.2) (nI k) (nI (pk (nC A) T g)) x := m_pick (G := g.2.2.1) Lx (by omega) t2x tb (nI g.2.2.2) (nI k) (F_X12_run_40 f) (nC A) 0 pg_fuel (by omega) (by unfold pg_fuel; omega) (pk_ex ht hj gj)
      have sb := fun (y : Nat) (gy : addG g.2.2.1 (pk (nC A) T g) y = true) => start_bd gk (show k < 12 by omega) gy
      unfold gStep
      generalize pk (nC A) T g = c at *
      have c12 : c < 12 := by omega
      have sx : g.1.1 < 1000003 := gk.1
      have zb : ∀ y, addG g.2.2.1 c y = true → wz (wT c (T c) (pc c) (wStart c k g.1)) y ≤ 132 := fun y gy => by
        by_cases e : y = c
        · have := k1.2.1
          rw [start_z] at this
          rw [e]
          omega
        · rw [(k1.1 y e).1]
          exact sb y gy
      obtain ⟨w, w1, w2, w3, w4⟩ := m_draw (n := nC A) (T := T) (k := k) Lx Mx S (by omega) Rx Dx t2x p1 (fun t0 => by
        have ge : g.2.2.1 (T c - 1) = true := p3.resolve_left t0
        have := tb c p1
        refine ⟨by omega, fun e => ?_, ge⟩
        rw [e, p2] at ge
        cases ge) sx sb (by rw [ePc]; exact zb) (by rw [ePc]; exact k1.2.2.1) tk_wd
      rw [ePc] at w3 w4
      rw [eAd] at w3
      have Lw := w2.lay Lx (by decide)
      have x44 : pg_i x 81 44 = nI (nC A) := by rw [cx.atM (R := []) (F := [(81, 44)]) (by decide) (by decide)]; exact e44
      show ∃ x', F_X12_run_40 (f + 1) 81 (nI (mk 12 g.2.2.1)) (nI g.2.2.2) (nI k) x = F_X12_run_40 f 81 (nI (mk 12 (addG g.2.2.1 c))) (nI (g.2.2.2 + wz (wCopy c (T c) (pc c) (ad c) k g.1) c)) (nI (k + 1)) x' ∧ _
      rw [F_X12_run_40]
      dsimp only
      have px' : F_X12_run_52 (F_X12_run_40 f) pg_fuel 81 (nI (mk 12 g.2.2.1)) (nI g.2.2.2) (nI k) (0 : Int32) x = F_X12_run_94 (F_X12_run_40 f) 81 (nI (mk 12 g.2.2.1)) (nI g.2.2.2) (nI k) (nI c) x := px
      rw [ng_81 Lx.kd, x44, Option.bind_some, if_pos (nI_lt hk (by omega)), px']
      unfold F_X12_run_94 pg_let
      dsimp only
      rw [nc_81 Lx.kd, show (12 : Int32) * nI k = nI (12 * k) by rw [show (12 : Int32) = nI 12 from rfl, nI_mul], w1, Option.bind_some, nR_81_42 Lw.kd Lw.rd, Option.bind_some, na_108 Lw.kd c12, Option.bind_some, (w3.2 c (addG_self _ _)).1, ix_shl c (by omega), addG_mk c12, nI_add, nI_1]
      exact ⟨w, rfl, cx.trans w2, w3, w4⟩
    · intro f x ⟨cx, Rx, Dx⟩
      have Lx := cx.lay L (by decide)
      have x44 : pg_i x 81 44 = nI (nC A) := by rw [cx.atM (R := []) (F := [(81, 44)]) (by decide) (by decide)]; exact e44
      refine ⟨x, ?_, cx, Rx.2, Dx⟩
      show F_X12_run_40 (f + 1) 81 _ (nI (gRun (nC A) T pc ad seed (nC A)).2.2.2) (nI (nC A)) x = _
      rw [F_X12_run_40]
      dsimp only
      rw [ng_81 Lx.kd, x44, Option.bind_some, if_neg Int32.lt_irrefl, nc_81 Lx.kd, bind_eta2]
  exact key _ e0
def mwS2 : List Nat := [92, 93, 94, 95, 96, 97] ++ mwS
def mwT2 : List (Nat × Nat) := [(81, 0), (81, 1), (81, 44), (81, 30), (81, 31)] ++ mwT
def allS : List Nat := tS ++ dwS ++ mwS
def allT : List (Nat × Nat) := tT ++ dwT ++ mwT ++ [(1, 11), (81, 0), (81, 1), (81, 44)]
theorem sim_run : Sim_run Inv := by
  intro x1 q h hq I
  show SimB q h (F_X11_run 1 x1) (F_X12_run 81 x1)
  have L := I.1
  have D := L.kd
  have R := L.rd
  by_cases c1 : 0 ≤ x1 ∧ x1 ≤ 1000000
  · obtain ⟨seed, hsd, rfl⟩ := nI_of2 (x := x1) (M := 1000000) (n := 1000000) (by decide) (Int32.not_lt.mpr c1.1) c1.2
    obtain ⟨v, ev, hv⟩ := I.2.2.2.2.1
    have wo := I.2.2.2.1
    have sc := I.2.1
    have tp := I.2.2.1
    obtain ⟨g, f1, f2, f3, X, Y0, Y1, S, i0, i1, rd, st, gr⟩ := c_freshS I
    have K := S.2.1
    have kC : nC (pg_i h 83) < 13 := K.1.1.2
    have Lg := f2.lay L (by decide)
    obtain ⟨T, t1, t2, t3, t4, t5⟩ := id st
    have ht := t1.1
    have hs : seed < 1000003 := by omega
    have Sg : ShX g 2 (pg_i h 83) X := S.ch f2 (by decide) (by decide)
    obtain ⟨w, w1, w2, w3, w4, w5⟩ := c_drawRun Lg Sg ht t2 hs
    have Lw := w2.lay Lg (by decide)
    have sa : Ch [] [(1, 11)] w (pg_si w 1 11 0) := (Ch.refl _ _ _).asi (Or.inr (by decide))
    have La := sa.lay Lw (by decide)
    have ga : Ch dwS ((1, 11) :: dwT) g (pg_si w 1 11 0) := (w2.mono (by decide)).trans (sa.mono (by decide))
    have Ma : pg_i (pg_si w 1 11 0) 83 = pg_i h 83 := (ga.row (by decide)).trans (f2.row (by decide))
    have va : pg_i (pg_si w 1 11 0) 81 1 = nI v := by
      rw [ga.atM (R := []) (F := [(81, 1)]) (by decide) (by decide), f2.atM (R := []) (F := [(81, 1)]) (by decide) (by decide)]
      exact ev
    obtain ⟨b, b1, b2, b3, b4⟩ := m_grows La Ma S ((gr.ch f2 (by decide) (by decide)).ch ga (by decide) (by decide)) (v := v) va (by omega)
    have Lb := b2.lay La (by decide)
    have Mb : pg_i b 83 = pg_i h 83 := (b2.row (by decide)).trans Ma
    obtain ⟨T', u1, u2, u3⟩ := b3
    have eT := (first_one t1 u1).1
    have r97 : ∀ c, c < nC (pg_i h 83) → pg_i b 97 c = if T c = 0 then nI 12 else nI (T c - 1) := fun c hc => by
      rw [u2 c hc, ← eT c hc]
    have s5 : Ch [] [(81, 44), (81, 45)] b (pg_si b 81 45 (nI seed)) := (Ch.refl _ _ _).asi (Or.inr (by decide))
    have s4 : Ch [] [(81, 44), (81, 45)] b (pg_si (pg_si b 81 45 (nI seed)) 81 44 (nI (nC (pg_i h 83)))) := s5.asi (Or.inr (by decide))
    have L5 := s5.lay Lb (by decide)
    have L4 := s4.lay Lb (by decide)
    have M5 : pg_i (pg_si b 81 45 (nI seed)) 83 = pg_i h 83 := (s5.row (by decide)).trans Mb
    have M4 : pg_i (pg_si (pg_si b 81 45 (nI seed)) 81 44 (nI (nC (pg_i h 83)))) 83 = pg_i h 83 := (s4.row (by decide)).trans Mb
    obtain ⟨y, y1, y2, y3, y4⟩ := m_runLoop L4 M4 S ht (fun c hc => by rw [s4.row (r := 97) (by decide)]; exact r97 c hc) hs (by rw [si_row, up1_eq]) (by rw [si_row, up1_ne (by decide), si_row, up1_eq])
    have Ly := y2.lay L4 (by decide)
    have gi := GIv_run (pc := pcV (pg_i h 83) (uX (pg_i h 83) X)) (ad := adV (pg_i h 83) (uX (pg_i h 83) X)) ht hs (nC (pg_i h 83)) (Nat.le_refl _)
    generalize gRun (nC (pg_i h 83)) T (pcV (pg_i h 83) (uX (pg_i h 83) X)) (adV (pg_i h 83) (uX (pg_i h 83) X)) seed (nC (pg_i h 83)) = G at *
    have gone := all_gone gi
    have sz0 : Ch [] [(81, 0), (81, 1)] y (pg_si y 81 0 0) := (Ch.refl _ _ _).asi (Or.inr (by decide))
    have sz1 : Ch [] [(81, 0), (81, 1)] y (pg_si (pg_si y 81 0 0) 81 1 (pg_i y 81 1 + 1)) := sz0.asi (Or.inr (by decide))
    have bz : Ch mwS ([(81, 0), (81, 1), (81, 44)] ++ mwT) b (pg_si (pg_si y 81 0 0) 81 1 (pg_i y 81 1 + 1)) := (s4.mono (by decide)).trans ((y2.mono (by decide)).trans (sz1.mono (by decide)))
    have gz : Ch (dwS ++ [92, 93, 94, 95, 96, 97] ++ mwS) ([(1, 11), (81, 0), (81, 1), (81, 44), (81, 30), (81, 31)] ++ dwT ++ mwT) g (pg_si (pg_si y 81 0 0) 81 1 (pg_i y 81 1 + 1)) := (ga.mono (by decide)).trans ((b2.mono (by decide)).trans (bz.mono (by decide)))
    have all : Ch allS allT h (pg_si (pg_si y 81 0 0) 81 1 (pg_i y 81 1 + 1)) := (f2.mono (by decide)).trans (gz.mono (by decide))
    have az : Ch mwS2 mwT2 (pg_si w 1 11 0) (pg_si (pg_si y 81 0 0) 81 1 (pg_i y 81 1 + 1)) := (b2.mono (by decide)).trans (bz.mono (by decide))
    have vy : pg_i y 81 1 = nI v := by
      rw [y2.atM (R := []) (F := [(81, 1)]) (by decide) (by decide), s4.atM (R := []) (F := [(81, 1)]) (by decide) (by decide), b2.atM (R := []) (F := [(81, 1)]) (by decide) (by decide)]
      exact va
    refine ⟨nI G.2.2.2, pg_si w 1 11 0, pg_si (pg_si y 81 0 0) 81 1 (pg_i y 81 1 + 1), ?_, La, ?_, ?_, all.few⟩
    · unfold F_X11_run
      rw [within_le, Option.bind_some, if_bb, if_pos (decide_eq_true c1), nR_1_9 D R, Option.bind_some, nR_1_0 D R, Option.bind_some, nc_1 D, f1, Option.bind_some]
      dsimp only
      rw [nR_1_5 Lg.kd Lg.rd, Option.bind_some, nc_76 Lg.kd, w1, Option.bind_some]
      dsimp only
      rw [nc_1 Lw.kd, c_accept Lw.kd, Option.bind_some]
    · unfold F_X12_run
      rw [lies_le, Option.bind_some, if_bb, if_pos (decide_eq_true c1), nc_81 La.kd, b1, Option.bind_some, np_81 Lb.kd, Option.bind_some, nc_81 L5.kd, m_copiesA L5 M5, show pg_i h 83 1344 = nI (nC (pg_i h 83)) from K.1.1.1, Option.bind_some, np_81 L5.kd, Option.bind_some, y1, m_good Ly.kd]
    · generalize hz : pg_si (pg_si y 81 0 0) 81 1 (pg_i y 81 1 + 1) = z at *
      have e83 : pg_i z 83 = pg_i h 83 := all.row (by decide)
      have z11 : pg_i z 1 11 = 0 := by rw [az.atM (R := []) (F := [(1, 11)]) (by decide) (by decide), si_row, up1_eq]
      have z0 : pg_i z 81 0 = 0 := by rw [← hz, si_row, up1_ne (by decide), si_row, up1_eq]
      have z1 : pg_i z 81 1 = nI (v + 1) := by rw [← hz, si_row, up1_eq, vy, nI_1]
      have z44 : pg_i z 81 44 = nI (nC (pg_i h 83)) := by
        rw [sz1.atM (R := []) (F := [(81, 44)]) (by decide) (by decide), y2.atM (R := []) (F := [(81, 44)]) (by decide) (by decide), si_row, up1_eq]
      have z76 : pg_i z 76 3 = nI (nC (pg_i h 83)) := by rw [az.atM (R := []) (F := [(76, 3)]) (by decide) (by decide), si_ne (by decide)]; exact w3
      refine ⟨all.lay L (by decide), ⟨by rw [z11, z0], ?_, ?_, ?_⟩, tp.ch all (by decide), ⟨?_, nC (pg_i h 83), wz G.1, G.2.1, by omega, z76, Or.inl z44, fun c hc => ?_, ?_⟩, ⟨v + 1, z1, by omega⟩, X, Y0, Y1, ?_⟩
      · rw [all.atM (R := []) (F := [(1, 12)]) (by decide) (by decide), all.atM (R := []) (F := [(81, 6)]) (by decide) (by decide)]
        exact sc.2.1
      · rw [all.atM (R := []) (F := [(1, 13)]) (by decide) (by decide), all.atM (R := []) (F := [(81, 11)]) (by decide) (by decide)]
        exact sc.2.2.1
      · rw [all.row (r := 80) (by decide), all.row (r := 82) (by decide)]
        exact sc.2.2.2
      · unfold RefOK
        rw [all.kk, all.rr, all.1]
        exact wo.1
      · obtain ⟨_, q2, q3⟩ := gi.2.2.2.2.1 c (gone c hc)
        have a1 := (w4 c (gone c hc)).1
        have a2 := w5 c (gone c hc)
        have a3 := (y3 c (gone c hc)).1
        have a4 := y4 c (gone c hc)
        refine ⟨q2, by omega, ?_, ?_, ?_, ?_⟩
        · rw [az.row (r := 78) (by decide), si_ne (by decide)]
          exact a1
        · rw [sz1.row (r := 108) (by decide)]
          exact a3
        · rw [az.row (r := 79) (by decide), si_ne (by decide)]
          exact a2
        · rw [sz1.row (r := 109) (by decide)]
          exact a4
      · intro c i c' i' hc hi hc' hi'
        obtain ⟨f, p1, p2, p3⟩ := gi.2.1
        obtain ⟨m1, m2, m3⟩ := p3 c (gone c hc) i hi
        obtain ⟨n1, n2, n3⟩ := p3 c' (gone c' hc') i' hi'
        have lw := gi.2.2.1
        have ld := gi.2.2.2.1
        have d1 := p2 _ m1 m2
        have d2 := p2 _ n1 n2
        rw [az.row (r := 77) (by decide), si_ne (by decide), sz1.row (r := 107) (by decide), (w4 c (gone c hc)).2 i hi, (w4 c' (gone c' hc')).2 i' hi', (y3 c (gone c hc)).2 i hi, (y3 c' (gone c' hc')).2 i' hi', m3, n3, nI_eq (by omega) (by omega), nI_eq (by omega) (by omega)]
        constructor
        · intro e
          rw [e]
        · intro e
          by_cases lt : wc G.1 c i < wc G.1 c' i'
          · have := p1 _ _ m1 lt n2
            omega
          · by_cases gt : wc G.1 c' i' < wc G.1 c i
            · have := p1 _ _ n1 gt m2
              omega
            · omega
      · rw [e83]
        refine ⟨S.ch all (by decide) (by decide), i0.ch all (by decide) (by decide), i1.ch all (by decide) (by decide), rd.ch gz (by decide) (by decide), Or.inr ⟨?_, st.ch gz (by decide)⟩, ?_⟩
        · rw [gz.atM (R := []) (F := [(1, 15)]) (by decide) (by decide)]
          exact f3
        · refine b4.next ?_ (v := v) ?_ z1 (by omega)
          · rw [bz.atM (R := []) (F := [(81, 31)]) (by decide) (by decide)]
          · rw [b2.atM (R := []) (F := [(81, 1)]) (by decide) (by decide)]
            exact va
  · refine refuse_sim I (x := -1) (k := 1) (by decide) (by decide) ?_ ?_
    · unfold F_X11_run
      rw [within_le, Option.bind_some, if_bb, if_neg (by rw [decide_eq_false c1]; decide), nc_1 D, bind_eta2]
    · intro h1 L1 _ _ _
      unfold F_X12_run
      rw [lies_le, Option.bind_some, if_bb, if_neg (by rw [decide_eq_false c1]; decide), nc_81 L1.kd, bind_eta2]
