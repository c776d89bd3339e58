/-! WORLDS DRAWN: the class -/
def SzR (rs rh : Nat) (x : pg_H) (z : Nat → Nat) (f : Nat → Nat → Nat) (G : Nat → Bool) : Prop := ∀ c, G c = true → pg_i x rs c = nI (z c) ∧ ∀ i, i < z c → pg_i x rh (144 * c + i) = nI (f c i)
theorem SzR.put {rs rh : Nat} {x : pg_H} {z : Nat → Nat} {f : Nat → Nat → Nat} {G : Nat → Bool} (h : SzR rs rh x z f G) (ne : rs ≠ rh) {c : Nat} (a : Nat) (hz : ∀ y, G y = true → z y ≤ 144) (hc : z c < 144) : SzR rs rh (pg_si (pg_si x rh (144 * c + z c) (nI a)) rs c (nI (z c + 1))) (up1 z c (z c + 1)) (up2 f c (z c) a) G := by
  intro y gy
  obtain ⟨h1, h2⟩ := h y gy
  have zy := hz y gy
  rw [si_row, si_ne (Ne.symm ne), si_row, si_ne ne]
  by_cases e : y = c
  · subst e
    rw [up1_eq, up1_eq, up2_eq]
    refine ⟨rfl, fun i hi => ?_⟩
    by_cases e2 : i = z y
    · rw [e2, up1_eq, up1_eq]
    · rw [up1_ne (by omega), up1_ne e2]
      exact h2 i (by omega)
  · rw [up1_ne e, up1_ne e, up2_ne e]
    refine ⟨h1, fun i hi => ?_⟩
    rw [up1_ne (by omega)]
    exact h2 i hi
theorem SzR.start {rs rh : Nat} {x : pg_H} {z : Nat → Nat} {f : Nat → Nat → Nat} {G : Nat → Bool} (h : SzR rs rh x z f G) (ne : rs ≠ rh) {c : Nat} : SzR rs rh (pg_si x rs c 0) (up1 z c 0) f (addG G c) := by
  intro y gy
  rw [si_row, si_ne (Ne.symm ne)]
  by_cases e : y = c
  · rw [e, up1_eq, up1_eq]
    exact ⟨rfl, fun i hi => absurd hi (Nat.not_lt_zero i)⟩
  · unfold addG at gy
    rw [decide_eq_false e, Bool.or_false] at gy
    rw [up1_ne e, up1_ne e]
    exact h y gy
theorem SzR.cong {rs rh : Nat} {x x' : pg_H} {z : Nat → Nat} {f : Nat → Nat → Nat} {G : Nat → Bool} (h : SzR rs rh x z f G) (e1 : pg_i x' rs = pg_i x rs) (e2 : pg_i x' rh = pg_i x rh) : SzR rs rh x' z f G := by
  intro y gy
  rw [e1, e2]
  exact h y gy
def ClR (x : pg_H) (W : WS) (G : Nat → Bool) : Prop := pg_l x 76 5 = lN W.1 ∧ pg_i x 76 4 = nI (ww W) ∧ SzR 78 77 x (wz W) (wc W) G
theorem ClR.ch {S : List Nat} {T : List (Nat × Nat)} {x x' : pg_H} {W : WS} {G : Nat → Bool} (h : ClR x W G) (a : Ch S T x x') (q : dis S T [77, 78] [] = true) (q2 : dis S T [] [(76, 5)] = true) (q3 : dis S T [] [(76, 4)] = true) : ClR x' W G := by
  refine ⟨?_, ?_, h.2.2.cong (a.rowM q (r := 78) (by decide)).1 (a.rowM q (r := 77) (by decide)).1⟩
  · rw [(a.at q2).2]
    exact h.1
  · rw [(a.at q3).1]
    exact h.2.1
theorem c_draw100 {x : pg_H} (L : Lay x) {s : Nat} (e : pg_l x 76 5 = lN s) (hs : s < 1000003) : F_X10_drawOfHundred 76 x = some (nI (nxS s % 100), pg_sl x 76 5 (lN (nxS s))) := by
  have L1 : Lay (pg_sl x 76 5 (lN (nxS s))) := Ch.lay (S := []) (T := [(76, 5)]) ((Ch.refl _ _ _).asl (Or.inr (by decide))) L (by decide)
  have b : s * 1103 + 12345 < 2 ^ 63 := by omega
  have n1 := nxS_lt s
  unfold F_X10_drawOfHundred
  rw [ngl_76 L.kd, Option.bind_some, e, if_neg (show ¬ (1000003 : Int64) = 0 by decide), show lN s * (1103 : Int64) + (12345 : Int64) = lN (s * 1103 + 12345) by rw [show (1103 : Int64) = lN 1103 from rfl, show (12345 : Int64) = lN 12345 from rfl, lN_mul, lN_add]]
  rw [show lN (s * 1103 + 12345) - lN (s * 1103 + 12345) / (1000003 : Int64) * (1000003 : Int64) = lN (nxS s) from pk_lRem (b := 1000003) b (by decide) (by decide)]
  generalize nxS s = t at *
  rw [npl_76 L.kd, Option.bind_some, ngl_76 L1.kd, Option.bind_some, sl_row, up1_eq, if_neg (show ¬ (100 : Int64) = 0 by decide), show lN t - lN t / (100 : Int64) * (100 : Int64) = lN (t % 100) from pk_lRem (b := 100) (by omega) (by decide) (by decide), lN_i]
theorem c_putN {x : pg_H} (L : Lay x) {wn : Nat} (h3 : pg_i x 76 3 = nI wn) (hw : wn ≤ 12) {c z : Nat} (hc : c < wn) (ez : pg_i x 78 c = nI z) (hz : z < 144) (a : Nat) : F_X10_put 76 (nI c) (nI a) x = some (pg_si (pg_si x 77 (144 * c + z) (nI a)) 78 c (nI (z + 1))) := by
  have c12 : c < 12 := by omega
  have L1 : Lay (pg_si x 77 (144 * c + z) (nI a)) := Ch.lay (S := [77]) (T := []) ((Ch.refl _ _ _).asi (Or.inl (by decide))) L (by decide)
  have e78 : pg_i (pg_si x 77 (144 * c + z) (nI a)) 78 c = nI z := by rw [si_ne (by decide), ez]
  unfold F_X10_put
  rw [nc_76 L.kd, c_hasCopy L h3 hw, Option.bind_some, if_bb, if_pos (decide_eq_true ((nI_in_iff (by omega) (by omega)).mpr hc)), nR_76_1 L.kd L.rd, Option.bind_some, na_78 L.kd c12, Option.bind_some, ez, if_pos (show nI z < (144 : Int32) from nI_lt (b := 144) hz (by decide)), nR_76_0 L.kd L.rd, Option.bind_some, Option.bind_some, na_78 L.kd c12, Option.bind_some, ez, show nI c * (144 : Int32) + nI z = nI (144 * c + z) by rw [show (144 : Int32) = nI 144 from rfl, nI_mul, nI_add, Nat.mul_comm], ns_77 L.kd (by omega), Option.bind_some, nR_76_1 L1.kd L1.rd, Option.bind_some, na_78 L1.kd c12, Option.bind_some, e78, nI_1, ns_78 L1.kd c12, Option.bind_some]
def pcV (A : Nat → Int32) (u : tX) (c : Nat) : Nat := (u 3 (envC A c 0)).getD 50
def adV (A : Nat → Int32) (u : tX) (c i : Nat) : Nat := (u 4 (envC A c i)).getD 50
def drS : List Nat := [48, 49, 77, 78]
def drT : List (Nat × Nat) := [(47, 2), (76, 4), (76, 5)]
theorem ClR.draw {x : pg_H} {W : WS} {G : Nat → Bool} (h : ClR x W G) : ClR (pg_sl x 76 5 (lN (nxS W.1))) (wDr W) G := by
  obtain ⟨h1, h2, h3⟩ := h
  unfold ClR
  rw [wz_dr, wc_dr, ww_dr, ws_dr]
  refine ⟨by rw [sl_row, up1_eq], by rw [i_sl]; exact h2, h3.cong (by rw [i_sl]) (by rw [i_sl])⟩
theorem c_takeLoop {h : pg_H} (L : Lay h) {wn : Nat} (hw : wn ≤ 12) {W0 : WS} {G : Nat → Bool} (R0 : ClR h W0 G) (h3 : pg_i h 76 3 = nI wn) {c e p : Nat} (hc : c < wn) (he : e < wn) (ne : e ≠ c) (gc : G c = true) (ge : G e = true) (s0 : W0.1 < 1000003) (z0 : wz W0 c = 0) (zb : ∀ y, G y = true → wz W0 y ≤ 132) (hp : p ≤ 100) :
    ∃ h', F_X10_takeNotes_23 pg_fuel 76 (nI c) (nI e) (nI p) 0 h = some h' ∧ Ch [77, 78] [(76, 5)] h h' ∧ ClR h' (foldN (wz W0 e) (wTake c e p) W0) G := by
  have ze := zb e ge
  refine loopI (fun f i x => F_X10_takeNotes_23 f 76 (nI c) (nI e) (nI p) (nI i) x) (wz W0 e) (fun i x => Ch [77, 78] [(76, 5)] h x ∧ ClR x (foldN i (wTake c e p) W0) G) (fun o => ∃ h', o = some h' ∧ Ch [77, 78] [(76, 5)] h h' ∧ ClR h' (foldN (wz W0 e) (wTake c e p) W0) G) ?_ ?_ 0 h (Nat.zero_le _) ⟨Ch.refl _ _ _, R0⟩ pg_fuel (by unfold pg_fuel; omega)
  · intro f i x hi ⟨cx, Rx⟩
    have Lx := cx.lay L (by decide)
    have kp := take_Kp (c := c) (e := e) (p := p) s0 i
    have st : foldN (i + 1) (wTake c e p) W0 = wTake c e p i (foldN i (wTake c e p) W0) := rfl
    rw [st]
    generalize foldN i (wTake c e p) W0 = W at *
    have x3 : pg_i x 76 3 = nI wn := by rw [cx.atM (R := []) (F := [(76, 3)]) (by decide) (by decide)]; exact h3
    have e3 : pg_i x 78 e = nI (wz W e) := (Rx.2.2 e ge).1
    have nE : F_X10_notesOf x 76 (nI e) = some (nI (wz W0 e)) := by
      unfold F_X10_notesOf
      rw [nc_76 Lx.kd, c_hasCopy Lx x3 hw, Option.bind_some, if_bb, if_pos (decide_eq_true ((nI_in_iff (by omega) (by omega)).mpr he)), nR_76_1 Lx.kd Lx.rd, Option.bind_some, na_78 Lx.kd (by omega), Option.bind_some, e3, (kp.1 e ne).1]
    have Ld : Lay (pg_sl x 76 5 (lN (nxS W.1))) := Ch.lay (S := []) (T := [(76, 5)]) ((Ch.refl _ _ _).asl (Or.inr (by decide))) Lx (by decide)
    have cd : Ch [77, 78] [(76, 5)] h (pg_sl x 76 5 (lN (nxS W.1))) := cx.asl (Or.inr (by decide))
    have Rd' := Rx.draw
    have f62 : ∀ y, F_X10_takeNotes_62 (F_X10_takeNotes_23 f) 76 (nI c) (nI e) (nI p) (nI i) y = F_X10_takeNotes_23 f 76 (nI c) (nI e) (nI p) (nI (i + 1)) y := fun y => by
      unfold F_X10_takeNotes_62
      rw [nI_1]
    show ∃ x', F_X10_takeNotes_23 (f + 1) 76 (nI c) (nI e) (nI p) (nI i) x = F_X10_takeNotes_23 f 76 (nI c) (nI e) (nI p) (nI (i + 1)) x' ∧ _
    rw [F_X10_takeNotes_23]
    dsimp only
    rw [nc_76 Lx.kd, nE, Option.bind_some, if_pos (nI_lt hi (by omega)), nc_76 Lx.kd, c_draw100 Lx Rx.1 kp.2.2.1, Option.bind_some]
    dsimp only
    have d100 : nxS W.1 % 100 < 100 := Nat.mod_lt _ (by decide)
    unfold wTake
    by_cases q : nxS W.1 % 100 < p
    · have zc : wz W c ≤ i := by
        have := kp.2.1
        omega
      have zall : ∀ y, G y = true → wz W y ≤ 144 := fun y gy => by
        by_cases yc : y = c
        · rw [yc]
          omega
        · rw [(kp.1 y yc).1]
          have := zb y gy
          omega
      have hl : pg_i (pg_sl x 76 5 (lN (nxS W.1))) 77 (144 * e + i) = nI (wc W e i) := by
        rw [i_sl]
        exact (Rx.2.2 e ge).2 i (by rw [(kp.1 e ne).1]; exact hi)
      have pu := c_putN Ld (by rw [i_sl]; exact x3) hw hc (z := wz W c) (by rw [i_sl]; exact (Rx.2.2 c gc).1) (by omega) (wc W e i)
      rw [if_pos (nI_lt q (by omega)), if_pos q, nR_76_0 Ld.kd Ld.rd, Option.bind_some, show nI e * (144 : Int32) + nI i = nI (144 * e + i) by rw [show (144 : Int32) = nI 144 from rfl, nI_mul, nI_add, Nat.mul_comm], na_77 Ld.kd (by omega), Option.bind_some, hl, nc_76 Ld.kd, pu, Option.bind_some, f62]
      refine ⟨_, rfl, (cd.asi (Or.inl (by decide))).asi (Or.inl (by decide)), ?_⟩
      obtain ⟨r1, r2, r3⟩ := Rd'
      rw [wz_dr, wc_dr] at r3
      unfold ClR
      rw [wz_put, wc_put, ww_put, ws_put]
      refine ⟨by rw [l_si, l_si, sl_row, up1_eq], ?_, r3.put (by decide) _ zall (by omega)⟩
      rw [si_ne (by decide), si_ne (by decide), i_sl]
      exact Rx.2.1
    · rw [if_neg (nI_nlt (by omega) (by omega)), if_neg q, f62]
      exact ⟨_, rfl, cd, Rd'⟩
  · intro f x ⟨cx, Rx⟩
    have Lx := cx.lay L (by decide)
    have kp := take_Kp (c := c) (e := e) (p := p) s0 (wz W0 e)
    have x3 : pg_i x 76 3 = nI wn := by rw [cx.atM (R := []) (F := [(76, 3)]) (by decide) (by decide)]; exact h3
    have e3 : pg_i x 78 e = nI (wz W0 e) := by
      rw [(Rx.2.2 e ge).1, (kp.1 e ne).1]
    have nE : F_X10_notesOf x 76 (nI e) = some (nI (wz W0 e)) := by
      unfold F_X10_notesOf
      rw [nc_76 Lx.kd, c_hasCopy Lx x3 hw, Option.bind_some, if_bb, if_pos (decide_eq_true ((nI_in_iff (by omega) (by omega)).mpr he)), nR_76_1 Lx.kd Lx.rd, Option.bind_some, na_78 Lx.kd (by omega), Option.bind_some, e3]
    refine ⟨x, ?_, cx, Rx⟩
    show F_X10_takeNotes_23 (f + 1) 76 (nI c) (nI e) (nI p) (nI (wz W0 e)) x = _
    rw [F_X10_takeNotes_23]
    dsimp only
    rw [nc_76 Lx.kd, nE, Option.bind_some, if_neg Int32.lt_irrefl]
theorem c_takeNotes {h : pg_H} {A : Nat → Int32} {X : Nat → tX} (L : Lay h) (S : ShX h 2 A X) {W0 : WS} {G : Nat → Bool} (R0 : ClR h W0 G) (h3 : pg_i h 76 3 = nI (nC A)) {c e : Nat} (hc : c < nC A) (he : e ≠ 0 → e - 1 < nC A ∧ e - 1 ≠ c ∧ G (e - 1) = true) (gc : G c = true) (s0 : W0.1 < 1000003) (z0 : wz W0 c = 0) (zb : ∀ y, G y = true → wz W0 y ≤ 132) :
    ∃ h', F_X10_takeNotes 76 2 47 (nI c) (kI e) h = some h' ∧ Ch drS drT h h' ∧ ClR h' (wT c e (pcV A (uX A X) c) W0) G := by
  have K := S.2.1
  have kC : nC A < 13 := K.1.1.2
  obtain ⟨u, u1, u2, u3⟩ := c_askChapter L.kd L.rd S.1 hc 0
  have Lu := u2.lay L (by decide)
  have Su : ShX u 2 A X := S.ch u2 (by decide) (by decide)
  obtain ⟨t1, y, y0, y1, y2⟩ := c_told (hd := 3) Lu Su (by decide) 50
  rw [elim_50, uX_env Su u3] at y1
  have y1' : F_X0_told 47 t1 (3 : Int32) (50 : Int32) u = some (nI (pcV A (uX A X) c), y) := y1
  have Ly := y2.lay Lu (by decide)
  have hy : Ch [48, 49] [(47, 2)] h y := (u2.mono (by decide)).trans (y2.mono (by decide))
  have Ry : ClR y W0 G := R0.ch hy (by decide) (by decide) (by decide)
  have y3 : pg_i y 76 3 = nI (nC A) := by rw [hy.atM (R := []) (F := [(76, 3)]) (by decide) (by decide)]; exact h3
  have pl : pcV A (uX A X) c ≤ 100 := getD_le S 3 (envC A c 0)
  unfold F_X10_takeNotes
  have u1' : F_X0_askOfChapter 47 2 (nI c) (0 : Int32) h = some u := u1
  rw [nc_47 L.kd, u1', Option.bind_some, nc_2 Lu.kd, y0, Option.bind_some, nc_47 Lu.kd, y1', Option.bind_some]
  dsimp only
  unfold wT kI
  by_cases e0 : e = 0
  · rw [if_pos e0, if_pos e0]
    refine ⟨y, ?_, hy.mono (by decide), Ry⟩
    obtain ⟨f, hf⟩ := fuel_S
    have nE : F_X10_notesOf y 76 (-1 : Int32) = some 0 := by
      unfold F_X10_notesOf
      rw [nc_76 Ly.kd, c_hasCopy Ly y3 (by omega), Option.bind_some, if_bb, if_neg (by rw [decide_eq_false (fun z => absurd z.1 (by decide))]; decide)]
    rw [hf, F_X10_takeNotes_23]
    dsimp only
    rw [nc_76 Ly.kd, nE, Option.bind_some, if_neg Int32.lt_irrefl]
  · obtain ⟨q1, q2, q3⟩ := he e0
    obtain ⟨z, z1, z2, z3⟩ := c_takeLoop Ly (by omega) Ry y3 hc q1 q2 gc q3 s0 z0 zb pl
    rw [if_neg e0, if_neg e0]
    exact ⟨z, z1, (hy.mono (by decide)).trans (z2.mono (by decide)), z3⟩
theorem c_writeNotes {h : pg_H} {A : Nat → Int32} {X : Nat → tX} (L : Lay h) (S : ShX h 2 A X) {W0 : WS} {G : Nat → Bool} (R0 : ClR h W0 G) (h3 : pg_i h 76 3 = nI (nC A)) {c : Nat} (hc : c < nC A) (gc : G c = true) (s0 : W0.1 < 1000003) (zb : ∀ y, G y = true → wz W0 y ≤ 132) :
    ∃ h', F_X10_writeNotes 76 2 47 (nI c) h = some h' ∧ Ch drS drT h h' ∧ ClR h' (foldN 12 (wAdd c (adV A (uX A X) c)) W0) G := by
  have K := S.2.1
  have kC : nC A < 13 := K.1.1.2
  unfold F_X10_writeNotes
  refine loopI (fun f i x => F_X10_writeNotes_3 f 76 2 47 (nI c) (nI i) x) 12 (fun i x => Ch drS drT h x ∧ ClR x (foldN i (wAdd c (adV A (uX A X) c)) W0) G) (fun o => ∃ h', o = some h' ∧ Ch drS drT h h' ∧ ClR h' (foldN 12 (wAdd c (adV A (uX A X) c)) W0) G) ?_ ?_ 0 h (Nat.zero_le _) ⟨Ch.refl _ _ _, R0⟩ pg_fuel (by unfold pg_fuel; omega)
  · intro f i x hi ⟨cx, Rx⟩
    have Lx := cx.lay L (by decide)
    have Sx : ShX x 2 A X := S.ch cx (by decide) (by decide)
    have kp := add_Kp (c := c) (ad := adV A (uX A X) c) s0 i
    have st : foldN (i + 1) (wAdd c (adV A (uX A X) c)) W0 = wAdd c (adV A (uX A X) c) i (foldN i (wAdd c (adV A (uX A X) c)) W0) := rfl
    rw [st]
    generalize foldN i (wAdd c (adV A (uX A X) c)) W0 = W at *
    have x3 : pg_i x 76 3 = nI (nC A) := by rw [cx.atM (R := []) (F := [(76, 3)]) (by decide) (by decide)]; exact h3
    obtain ⟨u, u1, u2, u3⟩ := c_askChapter Lx.kd Lx.rd Sx.1 hc i
    have Lu := u2.lay Lx (by decide)
    have Ru : ClR u W G := Rx.ch u2 (by decide) (by decide) (by decide)
    have sd : Ch [] [(76, 5)] u (pg_sl u 76 5 (lN (nxS W.1))) := (Ch.refl _ _ _).asl (Or.inr (by decide))
    have Ld := sd.lay Lu (by decide)
    have Rd' := Ru.draw
    have Sd : ShX (pg_sl u 76 5 (lN (nxS W.1))) 2 A X := (Sx.ch u2 (by decide) (by decide)).ch sd (by decide) (by decide)
    obtain ⟨t1, y, y0, y1, y2⟩ := c_told (hd := 4) Ld Sd (by decide) 50
    rw [elim_50, uX_env Sd (e' := envC A c i) (fun j hj => by rw [i_sl]; exact u3 j hj)] at y1
    have y1' : F_X0_told 47 t1 (4 : Int32) (50 : Int32) (pg_sl u 76 5 (lN (nxS W.1))) = some (nI (adV A (uX A X) c i), y) := y1
    have Ly := y2.lay Ld (by decide)
    have Ry : ClR y (wDr W) G := Rd'.ch y2 (by decide) (by decide) (by decide)
    have xy : Ch drS drT x y := ((u2.mono (by decide)).trans (sd.mono (by decide))).trans (y2.mono (by decide))
    have y3 : pg_i y 76 3 = nI (nC A) := by rw [xy.atM (R := []) (F := [(76, 3)]) (by decide) (by decide)]; exact x3
    have pl : adV A (uX A X) c i ≤ 100 := getD_le S 4 (envC A c i)
    have d100 : nxS W.1 % 100 < 100 := Nat.mod_lt _ (by decide)
    have f55 : ∀ y, F_X10_writeNotes_55 (F_X10_writeNotes_3 f) 76 2 47 (nI c) (nI i) y = F_X10_writeNotes_3 f 76 2 47 (nI c) (nI (i + 1)) y := fun y => by
      unfold F_X10_writeNotes_55
      rw [nI_1]
    show ∃ x', F_X10_writeNotes_3 (f + 1) 76 2 47 (nI c) (nI i) x = F_X10_writeNotes_3 f 76 2 47 (nI c) (nI (i + 1)) x' ∧ _
    rw [F_X10_writeNotes_3]
    dsimp only
    rw [if_pos (show nI i < (12 : Int32) from nI_lt (b := 12) hi (by decide)), nc_47 Lx.kd, u1, Option.bind_some, nc_76 Lu.kd, c_draw100 Lu Ru.1 kp.2.2.1, Option.bind_some]
    dsimp only
    rw [nc_2 Ld.kd, y0, Option.bind_some, nc_47 Ld.kd, y1', Option.bind_some]
    dsimp only
    unfold wAdd
    generalize adV A (uX A X) c i = p at *
    by_cases q : nxS W.1 % 100 < p
    · have zc := kp.2.1
      have zc0 := zb c gc
      have zall : ∀ y, G y = true → wz W y ≤ 144 := fun y gy => by
        by_cases yc : y = c
        · rw [yc]
          omega
        · rw [(kp.1 y yc).1]
          have := zb y gy
          omega
      obtain ⟨r1, r2, r3⟩ := Ry
      rw [ww_dr] at r2
      rw [wz_dr, wc_dr] at r3
      have s1 : Ch [] [(76, 4)] y (pg_si y 76 4 (nI (ww W + 1))) := (Ch.refl _ _ _).asi (Or.inr (by decide))
      have L1 := s1.lay Ly (by decide)
      have pu := c_putN L1 (by rw [s1.atM (R := []) (F := [(76, 3)]) (by decide) (by decide)]; exact y3) (show nC A ≤ 12 by omega) hc (z := wz W c) (by rw [si_ne (by decide)]; exact (r3 c gc).1) (by omega) (ww W + 1)
      rw [if_pos (nI_lt q (by omega)), if_pos q, ng_76 Ly.kd, r2, Option.bind_some, nI_1, np_76 Ly.kd, Option.bind_some, ng_76 L1.kd, si_row, up1_eq, Option.bind_some, nc_76 L1.kd, pu, Option.bind_some, f55]
      refine ⟨_, rfl, (((cx.trans xy).trans (s1.mono (by decide))).asi (Or.inl (by decide))).asi (Or.inl (by decide)), ?_⟩
      unfold ClR
      rw [wz_put, wc_put, ww_put, ws_put]
      refine ⟨?_, ?_, SzR.put (r3.cong (by rw [si_ne (by decide)]) (by rw [si_ne (by decide)])) (by decide) _ zall (by omega)⟩
      · rw [l_si, l_si, l_si, r1, ws_dr]
      · rw [si_ne (by decide), si_ne (by decide), si_row, up1_eq]
    · rw [if_neg (nI_nlt (by omega) (by omega)), if_neg q, f55]
      exact ⟨_, rfl, cx.trans xy, Ry⟩
  · intro f x ⟨cx, Rx⟩
    refine ⟨x, ?_, cx, Rx⟩
    show F_X10_writeNotes_3 (f + 1) 76 2 47 (nI c) (nI 12) x = _
    rw [F_X10_writeNotes_3]
    dsimp only
    rw [if_neg (show ¬ nI 12 < (12 : Int32) by decide)]
theorem c_nextW {x : pg_H} {n : Nat} {T : Nat → Nat} {G : Nat → Bool} (L : Lay x) (hn : n ≤ 12) (h3 : pg_i x 76 3 = nI n) (t2 : ∀ c, c < 12 → pg_i x 66 c = if c < n ∧ T c ≠ 0 then nI (T c - 1) else -1) (tb : ∀ c, c < n → T c ≤ n) :
    ∀ d i f, i + d = n → d < f → (∃ j, i ≤ j ∧ j < i + d ∧ pkB T G j = true) → F_X10_nextCopy_2 x f 76 59 (nI (mk 12 G)) (nI i) = some (nI (lowP d i (pkB T G))) := by
  intro d
  induction d with
  | zero => rintro i f _ _ ⟨j, h1, h2, _⟩; omega
  | succ d ih =>
    intro i f hi hf ex
    obtain ⟨g, rfl⟩ : ∃ g, f = g + 1 := ⟨f - 1, by omega⟩
    have il : i < n := by omega
    have tl := tb i il
    have f49 : F_X10_nextCopy_49 x (F_X10_nextCopy_2 x g) 76 59 (nI (mk 12 G)) (nI i) = F_X10_nextCopy_2 x g 76 59 (nI (mk 12 G)) (nI (i + 1)) := by
      unfold F_X10_nextCopy_49
      rw [nI_1]
    have more : pkB T G i = false → F_X10_nextCopy_2 x g 76 59 (nI (mk 12 G)) (nI (i + 1)) = some (nI (lowP d (i + 1) (pkB T G))) := fun q => by
      refine ih (i + 1) g (by omega) (by omega) ?_
      obtain ⟨j, j1, j2, j3⟩ := ex
      have ne : j ≠ i := fun e => by
        rw [e, q] at j3
        cases j3
      exact ⟨j, by omega, by omega, j3⟩
    rw [F_X10_nextCopy_2]
    dsimp only
    rw [ng_76 L.kd, h3, Option.bind_some, if_pos (nI_lt il (by omega)), if_pos (show nI i < (12 : Int32) from nI_lt (b := 12) (by omega) (by decide)), nc_59 L.kd, c_exemplarOf L hn t2 il, Option.bind_some, bit12 _ (by omega), if_bb]
    unfold lowP
    cases g0' : G i with
    | true =>
      have q : pkB T G i = false := by
        unfold pkB
        rw [g0']
        rfl
      rw [if_pos rfl, f49, more q, q, if_neg (by decide)]
    | false =>
      rw [if_neg (by decide)]
      unfold kI
      by_cases t0 : T i = 0
      · have q : pkB T G i = true := by
          unfold pkB
          rw [g0', decide_eq_true t0]
          rfl
        rw [if_pos t0, if_pos rfl, q, if_pos rfl]
      · rw [if_neg t0, if_neg (show ¬ nI (T i - 1) = -1 from nI_no (by omega)), bit12 _ (show T i - 1 < 12 by omega), if_b1]
        cases g1 : G (T i - 1) with
        | true =>
          have q : pkB T G i = true := by
            unfold pkB
            rw [g0', g1, Bool.or_true]
            rfl
          rw [if_pos rfl, q, if_pos rfl]
        | false =>
          have q : pkB T G i = false := by
            unfold pkB
            rw [g0', g1, decide_eq_false t0]
            rfl
          rw [if_neg (by decide), f49, more q, q, if_neg (by decide)]
