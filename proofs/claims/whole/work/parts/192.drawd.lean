/-! WORLDS DRAWN: the class, all copies; the reference, one copy -/
theorem tk_facts {n k : Nat} {al : Nat → Nat → Bool} {T : Nat → Nat} {g : GS} (ht : isTree n al T) (h : GIv n k g) (hk : k < n) (p : Nat) : ∃ i, Kp (pk n T g) i (wStart (pk n T g) k g.1) (wT (pk n T g) (T (pk n T g)) p (wStart (pk n T g) k g.1)) ∧ i ≤ 12 * k := by
  obtain ⟨p1, p2, p3⟩ := pk_spec ht h hk
  obtain ⟨h1, h2, h3, h4, h5, h6⟩ := h
  generalize ec : pk n T g = c at *
  have s1 : (wStart c k g.1).1 < 1000003 := h1
  unfold wT
  by_cases t0 : T c = 0
  · rw [if_pos t0]
    exact ⟨0, Kp.refl s1, Nat.zero_le _⟩
  · rw [if_neg t0]
    have ge : g.2.2.1 (T c - 1) = true := p3.resolve_left t0
    have sz := (h5 _ ge).2.2
    have ne : T c - 1 ≠ c := fun e => by
      rw [e, p2] at ge
      cases ge
    refine ⟨_, take_Kp s1 _, ?_⟩
    rw [show wz (wStart c k g.1) (T c - 1) = wz g.1 (T c - 1) from up1_ne ne]
    exact sz
theorem start_z {c k : Nat} {W : WS} : wz (wStart c k W) c = 0 := up1_eq
theorem start_ne {c k x : Nat} {W : WS} (h : x ≠ c) : wz (wStart c k W) x = wz W x := up1_ne h
theorem start_bd {n k : Nat} {g : GS} (h : GIv n k g) (hk : k < 12) {c y : Nat} (gy : addG g.2.2.1 c y = true) : wz (wStart c k g.1) y ≤ 132 := by
  by_cases e : y = c
  · rw [e, start_z]
    omega
  · unfold addG at gy
    rw [decide_eq_false e, Bool.or_false] at gy
    have := (h.2.2.2.2.1 y gy).2.2
    rw [start_ne e]
    omega
theorem addG_self (G : Nat → Bool) (c : Nat) : addG G c c = true := by
  unfold addG
  rw [decide_eq_true rfl, Bool.or_true]
theorem addG_mk {G : Nat → Bool} {c : Nat} (hc : c < 12) : nI (mk 12 G) ||| nI (2 ^ c) = nI (mk 12 (addG G c)) := by
  rw [mk_pow hc, ix_or, mk_or]
  rfl
def CdR (r : Nat) (x : pg_H) (cd : Nat → Nat) (G : Nat → Bool) : Prop := ∀ c, G c = true → pg_i x r c = nI (cd c)
theorem CdR.set {r : Nat} {x : pg_H} {cd : Nat → Nat} {G : Nat → Bool} (h : CdR r x cd G) (c v : Nat) : CdR r (pg_si x r c (nI v)) (up1 cd c v) (addG G c) := by
  intro y gy
  rw [si_row]
  by_cases e : y = c
  · rw [e, up1_eq, up1_eq]
  · unfold addG at gy
    rw [decide_eq_false e, Bool.or_false] at gy
    rw [up1_ne e, up1_ne e]
    exact h y gy
theorem CdR.cong {r : Nat} {x x' : pg_H} {cd : Nat → Nat} {G : Nat → Bool} (h : CdR r x cd G) (e : pg_i x' r = pg_i x r) : CdR r x' cd G := fun y gy => by
  rw [e]
  exact h y gy
def dwS : List Nat := [48, 49, 77, 78, 79]
def dwT : List (Nat × Nat) := [(47, 2), (76, 3), (76, 4), (76, 5)]
theorem c_drawRun {h : pg_H} {A : Nat → Int32} {X : Nat → tX} {al : Nat → Nat → Bool} {T : Nat → Nat} (L : Lay h) (S : ShX h 2 A X) (ht : isTree (nC A) al T) (t2 : ∀ c, c < 12 → pg_i h 66 c = if c < nC A ∧ T c ≠ 0 then nI (T c - 1) else -1) {seed : Nat} (hs : seed < 1000003) :
    ∃ h', F_X10_draw 76 2 59 47 (nI seed) h = some (nI (gRun (nC A) T (pcV A (uX A X)) (adV A (uX A X)) seed (nC A)).2.2.2, h') ∧ Ch dwS dwT h h' ∧ pg_i h' 76 3 = nI (nC A) ∧ SzR 78 77 h' (wz (gRun (nC A) T (pcV A (uX A X)) (adV A (uX A X)) seed (nC A)).1) (wc (gRun (nC A) T (pcV A (uX A X)) (adV A (uX A X)) seed (nC A)).1) (gRun (nC A) T (pcV A (uX A X)) (adV A (uX A X)) seed (nC A)).2.2.1 ∧ CdR 79 h' (gRun (nC A) T (pcV A (uX A X)) (adV A (uX A X)) seed (nC A)).2.1 (gRun (nC A) T (pcV A (uX A X)) (adV A (uX A X)) seed (nC A)).2.2.1 := by
  have K := S.2.1
  have kC : nC A < 13 := K.1.1.2
  have gi := GIv_run (pc := pcV A (uX A X)) (ad := adV A (uX A X)) ht hs
  have tb : ∀ c, c < nC A → T c ≤ nC A := fun c hc => (ht.1 c hc).1
  generalize ePc : pcV A (uX A X) = pc at *
  generalize eAd : adV A (uX A X) = ad at *
  have c1 : Ch [] [(76, 3), (76, 4), (76, 5)] h (pg_si h 76 3 (nI (nC A))) := (Ch.refl _ _ _).asi (Or.inr (by decide))
  have c2 : Ch [] [(76, 3), (76, 4), (76, 5)] h (pg_si (pg_si h 76 3 (nI (nC A))) 76 4 0) := c1.asi (Or.inr (by decide))
  have c3 : Ch [] [(76, 3), (76, 4), (76, 5)] h (pg_sl (pg_si (pg_si h 76 3 (nI (nC A))) 76 4 0) 76 5 (lN seed)) := c2.asl (Or.inr (by decide))
  have L1 := c1.lay L (by decide)
  have L2 := c2.lay L (by decide)
  have ent : F_X10_draw 76 2 59 47 (nI seed) h = F_X10_draw_32 pg_fuel 76 2 59 47 0 0 0 (pg_sl (pg_si (pg_si h 76 3 (nI (nC A))) 76 4 0) 76 5 (lN seed)) := by
    unfold F_X10_draw
    rw [nR_2_0 L.kd L.rd, Option.bind_some, nc_3 L.kd, c_size_3 S.1, Option.bind_some, np_76 L.kd, Option.bind_some, np_76 L1.kd, Option.bind_some, nI_l (by omega), npl_76 L2.kd, Option.bind_some]
  rw [ent]
  generalize eg : pg_sl (pg_si (pg_si h 76 3 (nI (nC A))) 76 4 0) 76 5 (lN seed) = y at *
  have y3 : pg_i y 76 3 = nI (nC A) := by
    rw [← eg, i_sl, si_row, up1_ne (by decide), si_row, up1_eq]
  have R0 : ClR y (g0 seed).1 (g0 seed).2.2.1 := by
    refine ⟨by rw [← eg, sl_row, up1_eq]; rfl, by rw [← eg, i_sl, si_row, up1_eq]; rfl, fun c gc => by cases (gc : false = true)⟩
  have e0 : (0 : Int32) = nI (mk 12 (g0 seed).2.2.1) := congrArg nI (mk_zero 12)
  have key : ∀ M, M = nI (mk 12 (g0 seed).2.2.1) → ∃ h', F_X10_draw_32 pg_fuel 76 2 59 47 M 0 0 y = some (nI (gRun (nC A) T pc ad seed (nC A)).2.2.2, h') ∧ Ch dwS dwT h h' ∧ pg_i h' 76 3 = nI (nC A) ∧ SzR 78 77 h' (wz (gRun (nC A) T pc ad seed (nC A)).1) (wc (gRun (nC A) T pc ad seed (nC A)).1) (gRun (nC A) T pc ad seed (nC A)).2.2.1 ∧ CdR 79 h' (gRun (nC A) T pc ad seed (nC A)).2.1 (gRun (nC A) T pc ad seed (nC A)).2.2.1 := by
    rintro M rfl
    refine loopI (fun f k x => F_X10_draw_32 f 76 2 59 47 (nI (mk 12 (gRun (nC A) T pc ad seed k).2.2.1)) (nI (gRun (nC A) T pc ad seed k).2.2.2) (nI k) x) (nC A) (fun k x => Ch dwS dwT h x ∧ pg_i x 76 3 = nI (nC A) ∧ ClR x (gRun (nC A) T pc ad seed k).1 (gRun (nC A) T pc ad seed k).2.2.1 ∧ CdR 79 x (gRun (nC A) T pc ad seed k).2.1 (gRun (nC A) T pc ad seed k).2.2.1) (fun o => ∃ h', o = some (nI (gRun (nC A) T pc ad seed (nC A)).2.2.2, h') ∧ Ch dwS dwT h h' ∧ pg_i h' 76 3 = nI (nC A) ∧ SzR 78 77 h' (wz (gRun (nC A) T pc ad seed (nC A)).1) (wc (gRun (nC A) T pc ad seed (nC A)).1) (gRun (nC A) T pc ad seed (nC A)).2.2.1 ∧ CdR 79 h' (gRun (nC A) T pc ad seed (nC A)).2.1 (gRun (nC A) T pc ad seed (nC A)).2.2.1) ?_ ?_ 0 y (Nat.zero_le _) ⟨c3.mono (by decide), y3, R0, fun c gc => by cases (gc : false = true)⟩ pg_fuel (by unfold pg_fuel; omega)
    · intro f k x hk ⟨cx, x3, Rx, Dx⟩
      have Lx := cx.lay L (by decide)
      have Sx : ShX x 2 A X := S.ch cx (by decide) (by decide)
      have gk := gi k (by omega)
      have stp : gRun (nC A) T pc ad seed (k + 1) = gStep (nC A) T pc ad k (gRun (nC A) T pc ad seed k) := rfl
      rw [stp]
      generalize gRun (nC A) T pc ad seed k = g at *
      obtain ⟨p1, p2, p3⟩ := pk_spec ht gk hk
      obtain ⟨i, k1, k2⟩ := tk_facts ht gk hk (pc (pk (nC A) T g))
      obtain ⟨j, _, gj⟩ := GIv_ex gk hk
      have t2x : ∀ c, c < 12 → pg_i x 66 c = if c < nC A ∧ T c ≠ 0 then nI (T c - 1) else -1 := fun c hc => by
        rw [cx.row (by decide)]
        exact t2 c hc
      have nx := c_nextW Lx (by omega) x3 t2x tb (nC A) 0 pg_fuel (by omega) (by unfold pg_fuel; omega) (pk_ex ht (by assumption) gj)
      have nx' : F_X10_nextCopy x 76 59 (nI (mk 12 g.2.2.1)) = some (nI (pk (nC A) T g)) := nx
      have sb := fun (y : Nat) (gy : addG g.2.2.1 (pk (nC A) T g) y = true) => start_bd gk (show k < 12 by omega) gy
      unfold gStep wCopy
      generalize pk (nC A) T g = c at *
      have c12 : c < 12 := by omega
      have s1 : Ch [78] [] x (pg_si x 78 c 0) := (Ch.refl _ _ _).asi (Or.inl (by decide))
      have La := s1.lay Lx (by decide)
      have Sa : ShX (pg_si x 78 c 0) 2 A X := Sx.ch s1 (by decide) (by decide)
      have Ra : ClR (pg_si x 78 c 0) (wStart c k g.1) (addG g.2.2.1 c) := by
        refine ⟨by rw [l_si]; exact Rx.1, by rw [si_ne (by decide)]; exact Rx.2.1, ?_⟩
        exact Rx.2.2.start (by decide)
      have a3 : pg_i (pg_si x 78 c 0) 76 3 = nI (nC A) := by rw [si_ne (by decide)]; exact x3
      have t2a : ∀ c', c' < 12 → pg_i (pg_si x 78 c 0) 66 c' = if c' < nC A ∧ T c' ≠ 0 then nI (T c' - 1) else -1 := fun c' hc => by
        rw [si_ne (by decide)]
        exact t2x c' hc
      have sx : (wStart c k g.1).1 < 1000003 := gk.1
      obtain ⟨b, b1, b2, b3⟩ := c_takeNotes La Sa Ra a3 p1 (e := T c) (fun t0 => by
        have ge : g.2.2.1 (T c - 1) = true := p3.resolve_left t0
        have := tb c p1
        refine ⟨by omega, fun e => ?_, ?_⟩
        · rw [e, p2] at ge
          cases ge
        · unfold addG
          rw [ge, Bool.true_or]) (addG_self _ _) sx start_z sb
      rw [ePc] at b3
      have Lb := b2.lay La (by decide)
      generalize eW : wT c (T c) (pc c) (wStart c k g.1) = W1 at *
      have zb : ∀ y, addG g.2.2.1 c y = true → wz W1 y ≤ 132 := fun y gy => by
        by_cases e : y = c
        · have := k1.2.1
          rw [start_z] at this
          rw [e]
          omega
        · rw [(k1.1 y e).1]
          exact sb y gy
      have s2 : Ch [79] [] b (pg_si b 79 c (nI (wz W1 c))) := (Ch.refl _ _ _).asi (Or.inl (by decide))
      have Ld := s2.lay Lb (by decide)
      have ad' : Ch dwS dwT x (pg_si b 79 c (nI (wz W1 c))) := ((s1.mono (by decide)).trans (b2.mono (by decide))).trans (s2.mono (by decide))
      have Sd : ShX (pg_si b 79 c (nI (wz W1 c))) 2 A X := Sx.ch ad' (by decide) (by decide)
      have Rd' : ClR (pg_si b 79 c (nI (wz W1 c))) W1 (addG g.2.2.1 c) := b3.ch s2 (by decide) (by decide) (by decide)
      have d3 : pg_i (pg_si b 79 c (nI (wz W1 c))) 76 3 = nI (nC A) := by rw [si_ne (by decide), b2.atM (R := []) (F := [(76, 3)]) (by decide) (by decide)]; exact a3
      obtain ⟨w, w1, w2, w3⟩ := c_writeNotes Ld Sd Rd' d3 p1 (addG_self _ _) k1.2.2.1 zb
      rw [eAd] at w3
      have Lw := w2.lay Ld (by decide)
      have ee : F_X6_exemplarOf (pg_si x 78 c 0) 59 (nI c) = some (kI (T c)) := c_exemplarOf La (by omega) t2a p1
      have f121 : ∀ m s y, F_X10_draw_121 (F_X10_draw_32 f) 76 2 59 47 m s (nI k) y = F_X10_draw_32 f 76 2 59 47 m s (nI (k + 1)) y := fun m s y => by
        unfold F_X10_draw_121
        rw [nI_1]
      show ∃ x', F_X10_draw_32 (f + 1) 76 2 59 47 (nI (mk 12 g.2.2.1)) (nI g.2.2.2) (nI k) x = F_X10_draw_32 f 76 2 59 47 (nI (mk 12 (addG g.2.2.1 c))) (nI (g.2.2.2 + wz (foldN 12 (wAdd c (ad c)) W1) c)) (nI (k + 1)) x' ∧ _
      rw [F_X10_draw_32]
      unfold pg_let
      dsimp only
      rw [ng_76 Lx.kd, x3, Option.bind_some, if_pos (nI_lt hk (by omega)), nc_76 Lx.kd, nx', Option.bind_some, if_neg (show ¬ nI c = -1 from nI_no (by omega)), nR_76_1 Lx.kd Lx.rd, Option.bind_some, ns_78 Lx.kd c12, Option.bind_some, nc_59 La.kd, ee, Option.bind_some, nc_76 La.kd, b1, Option.bind_some, nR_76_2 Lb.kd Lb.rd, Option.bind_some, nR_76_1 Lb.kd Lb.rd, Option.bind_some, na_78 Lb.kd c12, Option.bind_some, (b3.2.2 c (addG_self _ _)).1, ns_79 Lb.kd c12, Option.bind_some, nc_76 Ld.kd, w1, Option.bind_some, nR_76_1 Lw.kd Lw.rd, Option.bind_some, na_78 Lw.kd c12, Option.bind_some, (w3.2.2 c (addG_self _ _)).1, ix_shl c (by omega), addG_mk c12, nI_add, f121]
      refine ⟨w, rfl, (cx.trans ad').trans (w2.mono (by decide)), ?_, w3, ?_⟩
      · rw [w2.atM (R := []) (F := [(76, 3)]) (by decide) (by decide)]
        exact d3
      · refine CdR.cong ?_ (w2.row (by decide))
        have Db : CdR 79 b g.2.1 g.2.2.1 := Dx.cong (by rw [b2.row (r := 79) (by decide), s1.row (r := 79) (by decide)])
        exact Db.set c (wz W1 c)
    · intro f x ⟨cx, x3, Rx, Dx⟩
      have Lx := cx.lay L (by decide)
      refine ⟨x, ?_, cx, x3, Rx.2.2, Dx⟩
      show F_X10_draw_32 (f + 1) 76 2 59 47 _ (nI (gRun (nC A) T pc ad seed (nC A)).2.2.2) (nI (nC A)) x = _
      rw [F_X10_draw_32]
      dsimp only
      rw [ng_76 Lx.kd, x3, Option.bind_some, if_neg Int32.lt_irrefl]
  exact key _ e0
