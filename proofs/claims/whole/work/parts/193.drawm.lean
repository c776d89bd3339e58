/-! WORLDS DRAWN: the reference -/
theorem ix_rem {a b : Nat} (ha : a < 2 ^ 31) (hb : b < 2 ^ 31) (b0 : 0 < b) : nI a - nI a / nI b * nI b = nI (a % b) := by
  have md : a / b * b + a % b = a := by rw [Nat.mul_comm]; exact Nat.div_add_mod a b
  rw [nI_div ha hb, nI_mul, ix_sub (by omega)]
  exact congrArg nI (by omega)
def MoR (x : pg_H) (W : WS) (G : Nat → Bool) : Prop := pg_i x 81 45 = nI W.1 ∧ SzR 108 107 x (wz W) (wm W) G
theorem MoR.ch {S : List Nat} {T : List (Nat × Nat)} {x x' : pg_H} {W : WS} {G : Nat → Bool} (h : MoR x W G) (a : Ch S T x x') (q : dis S T [107, 108] [] = true) (q2 : dis S T [] [(81, 45)] = true) : MoR x' W G := by
  refine ⟨?_, h.2.cong (a.rowM q (r := 108) (by decide)).1 (a.rowM q (r := 107) (by decide)).1⟩
  rw [(a.at q2).1]
  exact h.1
theorem m_draw100 {x : pg_H} (L : Lay x) {s : Nat} (e : pg_i x 81 45 = nI s) (hs : s < 1000003) : F_X12_draws 81 100 x = some (nI (nxS s % 100), pg_si x 81 45 (nI (nxS s))) := by
  have L1 : Lay (pg_si x 81 45 (nI (nxS s))) := Ch.lay (S := []) (T := [(81, 45)]) ((Ch.refl _ _ _).asi (Or.inr (by decide))) L (by decide)
  have b : s * 1103 + 12345 < 2 ^ 63 := by omega
  have n1 := nxS_lt s
  unfold F_X12_draws
  rw [ng_81 L.kd, Option.bind_some, e, if_neg (show ¬ (1000003 : Int64) = 0 by decide), nI_l (by omega), show (1103 : Int64) * lN s + (12345 : Int64) = lN (s * 1103 + 12345) by rw [show (1103 : Int64) = lN 1103 from rfl, show (12345 : Int64) = lN 12345 from rfl, lN_mul, lN_add, Nat.mul_comm]]
  rw [show lN (s * 1103 + 12345) - lN (s * 1103 + 12345) / (1000003 : Int64) * (1000003 : Int64) = lN (nxS s) from pk_lRem (b := 1000003) b (by decide) (by decide), lN_i]
  generalize nxS s = t at *
  rw [np_81 L.kd, Option.bind_some, ng_81 L1.kd, Option.bind_some, si_row, up1_eq, if_neg (show ¬ (100 : Int32) = 0 by decide), show nI t - nI t / (100 : Int32) * (100 : Int32) = nI (t % 100) from ix_rem (b := 100) (by omega) (by decide) (by decide)]
theorem MoR.draw {x : pg_H} {W : WS} {G : Nat → Bool} (h : MoR x W G) : MoR (pg_si x 81 45 (nI (nxS W.1))) (wDr W) G := by
  obtain ⟨h1, h3⟩ := h
  unfold MoR
  rw [wz_dr, wm_dr, ws_dr]
  exact ⟨by rw [si_row, up1_eq], h3.cong (by rw [si_ne (by decide)]) (by rw [si_ne (by decide)])⟩
theorem m_take {h : pg_H} (L : Lay h) {W0 : WS} {G : Nat → Bool} (R0 : MoR h W0 G) {c e p : Nat} (nx : Int32) (hc : c < 12) (he : e ≠ 0 → e - 1 < 12 ∧ e - 1 ≠ c ∧ G (e - 1) = true) (gc : G c = true) (hp : p ≤ 100) (s0 : W0.1 < 1000003) (z0 : wz W0 c = 0) (zb : ∀ y, G y = true → wz W0 y ≤ 132) :
    ∃ h', F_X12_draw_30 pg_fuel 81 (nI c) nx (nI p) (if e = 0 then nI 12 else nI (e - 1)) 0 h = F_X12_draw_109 81 (nI c) nx h' ∧ Ch [107, 108] [(81, 45)] h h' ∧ MoR h' (wT c e p W0) G := by
  unfold wT
  by_cases e0 : e = 0
  · obtain ⟨f, hf⟩ := fuel_S
    rw [if_pos e0, if_pos e0]
    refine ⟨h, ?_, Ch.refl _ _ _, R0⟩
    rw [hf, F_X12_draw_30]
    dsimp only
    rw [if_pos (show nI 12 = (12 : Int32) from rfl)]
  · obtain ⟨q1, ne, ge⟩ := he e0
    rw [if_neg e0, if_neg e0]
    generalize e - 1 = e at *
    have ze := zb e ge
    have n12 : ¬ nI e = (12 : Int32) := fun z => by
      have := (nI_eq (b := 12) (by omega) (by decide)).mp z
      omega
    refine loopI (fun f i x => F_X12_draw_30 f 81 (nI c) nx (nI p) (nI e) (nI i) x) (wz W0 e) (fun i x => Ch [107, 108] [(81, 45)] h x ∧ MoR x (foldN i (wTake c e p) W0) G) (fun o => ∃ h', o = F_X12_draw_109 81 (nI c) nx h' ∧ Ch [107, 108] [(81, 45)] h h' ∧ MoR h' (foldN (wz W0 e) (wTake c e p) W0) G) ?_ ?_ 0 h (Nat.zero_le _) ⟨Ch.refl _ _ _, R0⟩ pg_fuel (by unfold pg_fuel; omega)
    · intro f i x hi ⟨cx, Rx⟩
      have Lx := cx.lay L (by decide)
      have kp := take_Kp (c := c) (e := e) (p := p) s0 i
      have st : foldN (i + 1) (wTake c e p) W0 = wTake c e p i (foldN i (wTake c e p) W0) := rfl
      rw [st]
      generalize foldN i (wTake c e p) W0 = W at *
      have e3 : pg_i x 108 e = nI (wz W0 e) := by rw [(Rx.2 e ge).1, (kp.1 e ne).1]
      have cd : Ch [107, 108] [(81, 45)] h (pg_si x 81 45 (nI (nxS W.1))) := cx.asi (Or.inr (by decide))
      have Ld := cd.lay L (by decide)
      have Rd' := Rx.draw
      have f103 : ∀ y, F_X12_draw_103 (F_X12_draw_30 f) 81 (nI c) nx (nI p) (nI e) (nI i) y = F_X12_draw_30 f 81 (nI c) nx (nI p) (nI e) (nI (i + 1)) y := fun y => by
        unfold F_X12_draw_103
        rw [nI_1]
      show ∃ x', F_X12_draw_30 (f + 1) 81 (nI c) nx (nI p) (nI e) (nI i) x = F_X12_draw_30 f 81 (nI c) nx (nI p) (nI e) (nI (i + 1)) x' ∧ _
      rw [F_X12_draw_30]
      dsimp only
      rw [if_neg n12, nR_81_42 Lx.kd Lx.rd, Option.bind_some, na_108 Lx.kd q1, Option.bind_some, e3, if_pos (nI_lt hi (by omega)), nc_81 Lx.kd, m_draw100 Lx Rx.1 kp.2.2.1, Option.bind_some]
      dsimp only
      have d100 : nxS W.1 % 100 < 100 := Nat.mod_lt _ (by decide)
      unfold wTake
      by_cases q : nxS W.1 % 100 < p
      · have zc : wz W c ≤ i := by
          have := kp.2.1
          omega
        have zall : ∀ y, G y = true → wz W y ≤ 144 := fun y gy => by
          by_cases yc : y = c
          · rw [yc]
            omega
          · rw [(kp.1 y yc).1]
            have := zb y gy
            omega
        obtain ⟨r1, r3⟩ := Rd'
        rw [wz_dr, wm_dr] at r3
        have sc : pg_i (pg_si x 81 45 (nI (nxS W.1))) 108 c = nI (wz W c) := (r3 c gc).1
        have hl : pg_i (pg_si x 81 45 (nI (nxS W.1))) 107 (144 * e + i) = nI (wm W e i) := (r3 e ge).2 i (by rw [(kp.1 e ne).1]; exact hi)
        have s1 : Ch [107] [] (pg_si x 81 45 (nI (nxS W.1))) (pg_si (pg_si x 81 45 (nI (nxS W.1))) 107 (144 * c + wz W c) (nI (wm W e i))) := (Ch.refl _ _ _).asi (Or.inl (by decide))
        have L1 := s1.lay Ld (by decide)
        have sc1 : pg_i (pg_si (pg_si x 81 45 (nI (nxS W.1))) 107 (144 * c + wz W c) (nI (wm W e i))) 108 c = nI (wz W c) := by rw [si_ne (by decide)]; exact sc
        have ixf : ∀ a b : Nat, (144 : Int32) * nI a + nI b = nI (144 * a + b) := fun a b => by rw [show (144 : Int32) = nI 144 from rfl, nI_mul, nI_add]
        rw [if_pos (nI_lt q (by omega)), if_pos q, nR_81_41 Ld.kd Ld.rd, Option.bind_some, nR_81_42 Ld.kd Ld.rd, Option.bind_some, na_108 Ld.kd hc, Option.bind_some, sc, Option.bind_some, ixf, ixf, na_107 Ld.kd (by omega), Option.bind_some, hl, ns_107 Ld.kd (by omega), Option.bind_some, nR_81_42 L1.kd L1.rd, Option.bind_some, na_108 L1.kd hc, Option.bind_some, sc1, nI_1, ns_108 L1.kd hc, Option.bind_some, f103]
        refine ⟨_, rfl, (cd.asi (Or.inl (by decide))).asi (Or.inl (by decide)), ?_⟩
        unfold MoR
        rw [wz_put, wm_put, ws_put]
        refine ⟨?_, r3.put (by decide) _ zall (by omega)⟩
        rw [si_ne (by decide), si_ne (by decide), si_row, up1_eq]
      · rw [if_neg (nI_nlt (by omega) (by omega)), if_neg q, f103]
        exact ⟨_, rfl, cd, Rd'⟩
    · intro f x ⟨cx, Rx⟩
      have Lx := cx.lay L (by decide)
      have kp := take_Kp (c := c) (e := e) (p := p) s0 (wz W0 e)
      have e3 : pg_i x 108 e = nI (wz W0 e) := by rw [(Rx.2 e ge).1, (kp.1 e ne).1]
      refine ⟨x, ?_, cx, Rx⟩
      show F_X12_draw_30 (f + 1) 81 (nI c) nx (nI p) (nI e) (nI (wz W0 e)) x = _
      rw [F_X12_draw_30]
      dsimp only
      rw [if_neg n12, nR_81_42 Lx.kd Lx.rd, Option.bind_some, na_108 Lx.kd q1, Option.bind_some, e3, if_neg Int32.lt_irrefl]
def mwS : List Nat := [92, 107, 108, 109]
def mwT : List (Nat × Nat) := (81, 45) :: mT
theorem m_write {h : pg_H} {A : Nat → Int32} {X : Nat → tX} (L : Lay h) (M : pg_i h 83 = A) {s : Nat} {g : pg_H} (S : ShX g s A X) {W0 : WS} {G : Nat → Bool} (R0 : MoR h W0 G) {c : Nat} (hc : c < 12) (gc : G c = true) (s0 : W0.1 < 1000003) (zb : ∀ y, G y = true → wz W0 y ≤ 132) :
    ∃ h', F_X12_draw_127 pg_fuel 81 (nI c) (nI (wd W0)) 0 h = some h' ∧ Ch [92, 107, 108] mwT h h' ∧ MoR h' (foldN 12 (wAdd c (adV A (uX A X) c)) W0) G := by
  refine loopI (fun f i x => F_X12_draw_127 f 81 (nI c) (nI (wd (foldN i (wAdd c (adV A (uX A X) c)) W0))) (nI i) x) 12 (fun i x => Ch [92, 107, 108] mwT h x ∧ MoR x (foldN i (wAdd c (adV A (uX A X) c)) W0) G) (fun o => ∃ h', o = some h' ∧ Ch [92, 107, 108] mwT h h' ∧ MoR h' (foldN 12 (wAdd c (adV A (uX A X) c)) W0) G) ?_ ?_ 0 h (Nat.zero_le _) ⟨Ch.refl _ _ _, R0⟩ pg_fuel (by unfold pg_fuel; omega)
  · intro f i x hi ⟨cx, Rx⟩
    have Lx := cx.lay L (by decide)
    have Mx : pg_i x 83 = A := (cx.row (by decide)).trans M
    have kp := add_Kp (c := c) (ad := adV A (uX A X) c) s0 i
    have st : foldN (i + 1) (wAdd c (adV A (uX A X) c)) W0 = wAdd c (adV A (uX A X) c) i (foldN i (wAdd c (adV A (uX A X) c)) W0) := rfl
    rw [st]
    generalize foldN i (wAdd c (adV A (uX A X) c)) W0 = W at *
    obtain ⟨u, u1, u2, u3⟩ := m_asksCopy Lx Mx hc i
    have Lu := u2.lay Lx (by decide)
    have Mu : pg_i u 83 = A := (u2.row (by decide)).trans Mx
    obtain ⟨y, y1, y2⟩ := m_hundredth (hd := 4) Lu Mu S (by decide)
    rw [elim_50, uX_env S u3] at y1
    have y1' : F_X12_hundredth 81 (5 : Int32) u = some (nI (adV A (uX A X) c i), y) := y1
    have Ly := y2.lay Lu (by decide)
    have xy : Ch [92] mT x y := (u2.mono (by decide)).trans (y2.mono (by decide))
    have Ry : MoR y W G := Rx.ch xy (by decide) (by decide)
    have sd : Ch [] [(81, 45)] y (pg_si y 81 45 (nI (nxS W.1))) := (Ch.refl _ _ _).asi (Or.inr (by decide))
    have Ld := sd.lay Ly (by decide)
    have Rd' := Ry.draw
    have cd : Ch [92, 107, 108] mwT h (pg_si y 81 45 (nI (nxS W.1))) := (cx.trans (xy.mono (by decide))).trans (sd.mono (by decide))
    have pl : adV A (uX A X) c i ≤ 100 := getD_le S 4 (envC A c i)
    have d100 : nxS W.1 % 100 < 100 := Nat.mod_lt _ (by decide)
    have f194 : ∀ m y, F_X12_draw_194 (F_X12_draw_127 f) 81 (nI c) m (nI i) y = F_X12_draw_127 f 81 (nI c) m (nI (i + 1)) y := fun m y => by
      unfold F_X12_draw_194
      rw [nI_1]
    show ∃ x', F_X12_draw_127 (f + 1) 81 (nI c) (nI (wd W)) (nI i) x = F_X12_draw_127 f 81 (nI c) (nI (wd (wAdd c (adV A (uX A X) c) i W))) (nI (i + 1)) x' ∧ _
    rw [F_X12_draw_127]
    dsimp only
    rw [if_pos (show nI i < (12 : Int32) from nI_lt (b := 12) hi (by decide)), nc_81 Lx.kd, u1, Option.bind_some, nc_81 Lu.kd, y1', Option.bind_some]
    dsimp only
    rw [nc_81 Ly.kd, m_draw100 Ly Ry.1 kp.2.2.1, Option.bind_some]
    dsimp only
    unfold wAdd
    generalize adV A (uX A X) c i = p at *
    by_cases q : nxS W.1 % 100 < p
    · have zc := kp.2.1
      have zc0 := zb c gc
      have zall : ∀ y, G y = true → wz W y ≤ 144 := fun y gy => by
        by_cases yc : y = c
        · rw [yc]
          omega
        · rw [(kp.1 y yc).1]
          have := zb y gy
          omega
      obtain ⟨r1, r3⟩ := Rd'
      rw [wz_dr, wm_dr] at r3
      have sc : pg_i (pg_si y 81 45 (nI (nxS W.1))) 108 c = nI (wz W c) := (r3 c gc).1
      have s1 : Ch [107] [] (pg_si y 81 45 (nI (nxS W.1))) (pg_si (pg_si y 81 45 (nI (nxS W.1))) 107 (144 * c + wz W c) (nI (wd W))) := (Ch.refl _ _ _).asi (Or.inl (by decide))
      have L1 := s1.lay Ld (by decide)
      have sc1 : pg_i (pg_si (pg_si y 81 45 (nI (nxS W.1))) 107 (144 * c + wz W c) (nI (wd W))) 108 c = nI (wz W c) := by rw [si_ne (by decide)]; exact sc
      have ixf : ∀ a b : Nat, (144 : Int32) * nI a + nI b = nI (144 * a + b) := fun a b => by rw [show (144 : Int32) = nI 144 from rfl, nI_mul, nI_add]
      rw [if_pos (nI_lt q (by omega)), if_pos q, wd_put, nR_81_41 Ld.kd Ld.rd, Option.bind_some, nR_81_42 Ld.kd Ld.rd, Option.bind_some, na_108 Ld.kd hc, Option.bind_some, sc, ixf, ns_107 Ld.kd (by omega), Option.bind_some, nR_81_42 L1.kd L1.rd, Option.bind_some, na_108 L1.kd hc, Option.bind_some, sc1, nI_1, nI_1, ns_108 L1.kd hc, Option.bind_some, f194]
      refine ⟨_, rfl, (cd.asi (Or.inl (by decide))).asi (Or.inl (by decide)), ?_⟩
      unfold MoR
      rw [wz_put, wm_put, ws_put]
      refine ⟨?_, r3.put (by decide) _ zall (by omega)⟩
      rw [si_ne (by decide), si_ne (by decide), si_row, up1_eq]
    · rw [if_neg (nI_nlt (by omega) (by omega)), if_neg q, wd_dr, f194]
      exact ⟨_, rfl, cd, Rd'⟩
  · intro f x ⟨cx, Rx⟩
    refine ⟨x, ?_, cx, Rx⟩
    show F_X12_draw_127 (f + 1) 81 (nI c) _ (nI 12) x = _
    rw [F_X12_draw_127]
    dsimp only
    rw [if_neg (show ¬ nI 12 < (12 : Int32) by decide)]
theorem m_draw {h : pg_H} {A : Nat → Int32} {X : Nat → tX} {n : Nat} {T : Nat → Nat} (L : Lay h) (M : pg_i h 83 = A) {s : Nat} {g : pg_H} (S : ShX g s A X) (hn : n ≤ 12) {W0 : WS} {G : Nat → Bool} {cdf : Nat → Nat} (R0 : MoR h W0 G) (D0 : CdR 109 h cdf G) (t2 : ∀ c, c < n → pg_i h 97 c = if T c = 0 then nI 12 else nI (T c - 1)) {c k : Nat} (hc : c < n) (he : T c ≠ 0 → T c - 1 < 12 ∧ T c - 1 ≠ c ∧ G (T c - 1) = true) (s0 : W0.1 < 1000003) (zb : ∀ y, addG G c y = true → wz (wStart c k W0) y ≤ 132) (zb1 : ∀ y, addG G c y = true → wz (wT c (T c) (pcV A (uX A X) c) (wStart c k W0)) y ≤ 132) (s1 : (wT c (T c) (pcV A (uX A X) c) (wStart c k W0)).1 < 1000003) (d1 : wd (wT c (T c) (pcV A (uX A X) c) (wStart c k W0)) = 12 * k) :
    ∃ h', F_X12_draw 81 (nI c) (nI (12 * k)) h = some h' ∧ Ch mwS mwT h h' ∧ MoR h' (wCopy c (T c) (pcV A (uX A X) c) (adV A (uX A X) c) k W0) (addG G c) ∧ CdR 109 h' (up1 cdf c (wz (wT c (T c) (pcV A (uX A X) c) (wStart c k W0)) c)) (addG G c) := by
  have c12 : c < 12 := by omega
  obtain ⟨u, u1, u2, u3⟩ := m_asksCopy L M c12 0
  have u1' : F_X12_asksCopy 81 (nI c) (0 : Int32) h = some u := u1
  have Lu := u2.lay L (by decide)
  have Mu : pg_i u 83 = A := (u2.row (by decide)).trans M
  obtain ⟨y, y1, y2⟩ := m_hundredth (hd := 3) Lu Mu S (by decide)
  rw [elim_50, uX_env S u3] at y1
  have y1' : F_X12_hundredth 81 (4 : Int32) u = some (nI (pcV A (uX A X) c), y) := y1
  have pl : pcV A (uX A X) c ≤ 100 := getD_le S 3 (envC A c 0)
  have Ly := y2.lay Lu (by decide)
  have hy : Ch [92] mT h y := (u2.mono (by decide)).trans (y2.mono (by decide))
  have r97 : pg_i y 97 c = if T c = 0 then nI 12 else nI (T c - 1) := by rw [hy.row (by decide)]; exact t2 c hc
  have sa : Ch [108] [] y (pg_si y 108 c 0) := (Ch.refl _ _ _).asi (Or.inl (by decide))
  have La := sa.lay Ly (by decide)
  have Ra : MoR (pg_si y 108 c 0) (wStart c k W0) (addG G c) := by
    have Ry : MoR y W0 G := R0.ch hy (by decide) (by decide)
    refine ⟨?_, Ry.2.start (by decide)⟩
    rw [si_ne (by decide)]
    exact Ry.1
  obtain ⟨b, b1, b2, b3⟩ := m_take La Ra (p := pcV A (uX A X) c) (e := T c) (nI (12 * k)) c12 (fun t0 => by
    obtain ⟨q1, q2, q3⟩ := he t0
    exact ⟨q1, q2, by unfold addG; rw [q3, Bool.true_or]⟩) (addG_self _ _) pl s0 start_z zb
  have Lb := b2.lay La (by decide)
  unfold wCopy
  generalize wT c (T c) (pcV A (uX A X) c) (wStart c k W0) = W1 at *
  have sb : pg_i b 108 c = nI (wz W1 c) := (b3.2 c (addG_self _ _)).1
  have sd : Ch [109] [] b (pg_si b 109 c (nI (wz W1 c))) := (Ch.refl _ _ _).asi (Or.inl (by decide))
  have Ld := sd.lay Lb (by decide)
  have yb : Ch [107, 108, 109] [(81, 45)] y (pg_si b 109 c (nI (wz W1 c))) := ((sa.mono (by decide)).trans (b2.mono (by decide))).trans (sd.mono (by decide))
  have Md : pg_i (pg_si b 109 c (nI (wz W1 c))) 83 = A := (yb.row (by decide)).trans ((y2.row (by decide)).trans Mu)
  have Rd' : MoR (pg_si b 109 c (nI (wz W1 c))) W1 (addG G c) := b3.ch sd (by decide) (by decide)
  obtain ⟨w, w1, w2, w3⟩ := m_write Ld Md S Rd' c12 (addG_self _ _) s1 zb1
  rw [d1] at w1
  refine ⟨w, ?_, (hy.mono (by decide)).trans ((yb.mono (by decide)).trans (w2.mono (by decide))), w3, ?_⟩
  · unfold F_X12_draw
    rw [nc_81 L.kd, u1', Option.bind_some, nc_81 Lu.kd, y1', Option.bind_some]
    dsimp only
    rw [nR_81_29 Ly.kd Ly.rd, Option.bind_some, na_97 Ly.kd c12, Option.bind_some, r97, nR_81_42 Ly.kd Ly.rd, Option.bind_some, ns_108 Ly.kd c12, Option.bind_some, b1]
    unfold F_X12_draw_109
    rw [nR_81_43 Lb.kd Lb.rd, Option.bind_some, nR_81_42 Lb.kd Lb.rd, Option.bind_some, na_108 Lb.kd c12, Option.bind_some, sb, ns_109 Lb.kd c12, Option.bind_some, w1]
  · refine CdR.cong ?_ (w2.row (by decide))
    have Db : CdR 109 b cdf G := D0.cong (by rw [b2.row (r := 109) (by decide), sa.row (r := 109) (by decide), hy.row (r := 109) (by decide)])
    exact Db.set c (wz W1 c)
theorem m_pick {x : pg_H} {n : Nat} {T : Nat → Nat} {G : Nat → Bool} (L : Lay x) (hn : n ≤ 12) (t2 : ∀ c, c < n → pg_i x 97 c = if T c = 0 then nI 12 else nI (T c - 1)) (tb : ∀ c, c < n → T c ≤ n) (sm k : Int32) (K : Nat → Int32 → Int32 → Int32 → pg_H → Option (Int32 × pg_H)) :
    ∀ d i f, i + d = n → d < f → (∃ j, i ≤ j ∧ j < i + d ∧ pkB T G j = true) → F_X12_run_52 K f 81 (nI (mk 12 G)) sm k (nI i) x = F_X12_run_94 K 81 (nI (mk 12 G)) sm k (nI (lowP d i (pkB T G))) x := by
  intro d
  induction d with
  | zero => rintro i f _ _ ⟨j, h1, h2, _⟩; omega
  | succ d ih =>
    intro i f hi hf ex
    obtain ⟨g, rfl⟩ : ∃ g, f = g + 1 := ⟨f - 1, by omega⟩
    have il : i < n := by omega
    have tl := tb i il
    have f88 : F_X12_run_88 (F_X12_run_52 K g) 81 (nI (mk 12 G)) sm k (nI i) x = F_X12_run_52 K g 81 (nI (mk 12 G)) sm k (nI (i + 1)) x := by
      unfold F_X12_run_88
      rw [nI_1]
    have more : pkB T G i = false → F_X12_run_52 K g 81 (nI (mk 12 G)) sm k (nI (i + 1)) x = F_X12_run_94 K 81 (nI (mk 12 G)) sm k (nI (lowP d (i + 1) (pkB T G))) x := fun q => by
      refine ih (i + 1) g (by omega) (by omega) ?_
      obtain ⟨j, j1, j2, j3⟩ := ex
      have ne : j ≠ i := fun e => by
        rw [e, q] at j3
        cases j3
      exact ⟨j, by omega, by omega, j3⟩
    rw [F_X12_run_52]
    dsimp only
    rw [bit12 _ (show i < 12 by omega), if_b1]
    unfold lowP
    cases g0' : G i with
    | true =>
      have q : pkB T G i = false := by
        unfold pkB
        rw [g0']
        rfl
      rw [if_pos rfl, f88, more q, q, if_neg (by decide)]
    | false =>
      rw [if_neg (by decide), nR_81_29 L.kd L.rd, Option.bind_some, na_97 L.kd (by omega), Option.bind_some, t2 i il]
      by_cases t0 : T i = 0
      · have q : pkB T G i = true := by
          unfold pkB
          rw [g0', decide_eq_true t0]
          rfl
        rw [if_pos t0, if_pos (show nI 12 = (12 : Int32) from rfl), q, if_pos rfl]
      · rw [if_neg t0, if_neg (show ¬ nI (T i - 1) = (12 : Int32) from fun z => by
          have := (nI_eq (b := 12) (by omega) (by decide)).mp z
          omega), Option.bind_some, na_97 L.kd (by omega), Option.bind_some, t2 i il, if_neg t0, bit12 _ (show T i - 1 < 12 by omega), if_bb]
        cases g1 : G (T i - 1) with
        | true =>
          have q : pkB T G i = true := by
            unfold pkB
            rw [g0', g1, Bool.or_true]
            rfl
          rw [if_pos rfl, q, if_pos rfl]
        | false =>
          have q : pkB T G i = false := by
            unfold pkB
            rw [g0', g1, decide_eq_false t0]
            rfl
          rw [if_neg (by decide), f88, more q, q, if_neg (by decide)]
