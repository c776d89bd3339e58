/-! THE CLASS'S STEMMA: its costs -/
def cRow (A : Nat → Int32) (w : Nat → Nat → Nat) (c e f c' : Nat) : Int32 := if (c' < c ∨ c' = c ∧ f < e) ∧ alw A f c' = true then nI (cst A w f c') else -1
theorem cRow_cong {A : Nat → Int32} {w : Nat → Nat → Nat} {c e d e2 f c' : Nat} (h : (c' < c ∨ c' = c ∧ f < e) ↔ (c' < d ∨ c' = d ∧ f < e2)) : cRow A w c e f c' = cRow A w d e2 f c' := by
  unfold cRow
  by_cases z : (c' < c ∨ c' = c ∧ f < e) ∧ alw A f c' = true
  · rw [if_pos z, if_pos ⟨h.mp z.1, z.2⟩]
  · rw [if_neg z, if_neg (fun y => z ⟨h.mpr y.1, y.2⟩)]
theorem c_findCosts {h : pg_H} {A : Nat → Int32} {w : Nat → Nat → Nat} (L : Lay h) (C : CNum h 2 A) (K : ShOK A) (rd : Rd h A w) : ∃ h', F_X6_findCosts 59 2 50 h = some h' ∧ Ch [60] [(59, 7)] h h' ∧ pg_i h' 59 7 = nI (nC A + 1) ∧ ∀ f c, f ≤ nC A → c < nC A → pg_i h' 60 (13 * f + (c + 1)) = if alw A f c = true then nI (cst A w f c) else -1 := by
  have kC : nC A < 13 := K.1.1.2
  obtain ⟨a, fa, ca, ra⟩ := c_fill (h := h) (r := 60) (n := 169) (-1) ((L.kd 60 (by decide)).trans (by decide)) (by decide)
  have La := ca.lay L (by decide)
  have Ca : CNum a 2 A := C.ch ca (by decide)
  have s1 : Ch [] [(59, 7)] a (pg_si a 59 7 (nI (nC A + 1))) := (Ch.refl _ _ _).asi (Or.inr (by decide))
  have hb : Ch [60] [(59, 7)] h (pg_si a 59 7 (nI (nC A + 1))) := (ca.mono (by decide)).trans (s1.mono (by decide))
  have ent : F_X6_findCosts 59 2 50 h = F_X6_findCosts_28 pg_fuel 59 2 50 0 (pg_si a 59 7 (nI (nC A + 1))) := by
    unfold F_X6_findCosts
    rw [nR_59_0 L.kd L.rd, Option.bind_some, fa, Option.bind_some, nR_2_0 La.kd La.rd, Option.bind_some, nc_3 La.kd, c_size_3 Ca, Option.bind_some, if_neg (show ¬ (12 : Int32) < nI (nC A) from nI_nlt (a := 12) (by omega) (by decide)), nI_1, np_59 La.kd, Option.bind_some]
  rw [ent]
  have e7 : ∀ {x}, Ch [60] [] (pg_si a 59 7 (nI (nC A + 1))) x → pg_i x 59 7 = nI (nC A + 1) := fun {x} cx => by
    rw [cx.row (by decide), si_row, up1_eq]
  have Lb := hb.lay L (by decide)
  have n1 : nI (nC A + 1) - (1 : Int32) = nI (nC A) := nI_less _ kC
  refine loopI (fun f c x => F_X6_findCosts_28 f 59 2 50 (nI c) x) (nC A) (fun c x => Ch [60] [] (pg_si a 59 7 (nI (nC A + 1))) x ∧ ∀ f c', f ≤ nC A → c' < nC A → pg_i x 60 (13 * f + (c' + 1)) = cRow A w c 0 f c') (fun o => ∃ h', o = some h' ∧ Ch [60] [(59, 7)] h h' ∧ pg_i h' 59 7 = nI (nC A + 1) ∧ ∀ f c, f ≤ nC A → c < nC A → pg_i h' 60 (13 * f + (c + 1)) = if alw A f c = true then nI (cst A w f c) else -1) ?_ ?_ 0 _ (Nat.zero_le _) ⟨Ch.refl _ _ _, fun f c hf hc => ?_⟩ pg_fuel (by unfold pg_fuel; omega)
  · intro f c x hc ⟨cx, rx⟩
    have Lx := cx.lay Lb (by decide)
    have hx : Ch [60] [(59, 7)] h x := hb.trans (cx.mono (by decide))
    have Cx : CNum x 2 A := C.ch hx (by decide)
    obtain ⟨Rx, kx, Sx⟩ := (rd.ch hx (by decide)).short K
    have c12 : c < 12 := by omega
    show ∃ x', F_X6_findCosts_28 (f + 1) 59 2 50 (nI c) x = F_X6_findCosts_28 f 59 2 50 (nI (c + 1)) x' ∧ _
    rw [F_X6_findCosts_28]
    dsimp only
    rw [ng_59 Lx.kd, e7 cx, Option.bind_some, n1, if_pos (nI_lt hc (by omega)), nc_2 Lx.kd, c_companions Lx Cx K hc, Option.bind_some, nR_59_0 Lx.kd Lx.rd, Option.bind_some, nc_50 Lx.kd, c_ownCost Lx Cx K Sx c12, Option.bind_some, nI_1, ns_60 Lx.kd (by omega), Option.bind_some]
    refine loopI (fun f2 e y => F_X6_findCosts_62 (F_X6_findCosts_28 f) f2 59 2 50 (nI c) (nI (mk 12 (compQ A c))) (nI e) y) (nC A) (fun e y => Ch [60] [] (pg_si a 59 7 (nI (nC A + 1))) y ∧ ∀ f c', f ≤ nC A → c' < nC A → pg_i y 60 (13 * f + (c' + 1)) = cRow A w c (e + 1) f c') (fun o => ∃ x', o = F_X6_findCosts_28 f 59 2 50 (nI (c + 1)) x' ∧ Ch [60] [] (pg_si a 59 7 (nI (nC A + 1))) x' ∧ ∀ f c', f ≤ nC A → c' < nC A → pg_i x' 60 (13 * f + (c' + 1)) = cRow A w (c + 1) 0 f c') ?_ ?_ 0 _ (Nat.zero_le _) ⟨cx.asi (Or.inl (by decide)), fun f' c' hf hc' => ?_⟩ pg_fuel (by unfold pg_fuel; omega)
    · intro f2 e y he ⟨cy, ry⟩
      have Ly := cy.lay Lb (by decide)
      have hy : Ch [60] [(59, 7)] h y := hb.trans (cy.mono (by decide))
      have Cy : CNum y 2 A := C.ch hy (by decide)
      obtain ⟨Ry, ky, Sy⟩ := (rd.ch hy (by decide)).short K
      have e12 : e < 12 := by omega
      have f110 : ∀ z, F_X6_findCosts_110 (F_X6_findCosts_62 (F_X6_findCosts_28 f) f2) 59 2 50 (nI c) (nI (mk 12 (compQ A c))) (nI e) z = F_X6_findCosts_62 (F_X6_findCosts_28 f) f2 59 2 50 (nI c) (nI (mk 12 (compQ A c))) (nI (e + 1)) z := fun z => by
        unfold F_X6_findCosts_110
        rw [nI_1]
      show ∃ z, F_X6_findCosts_62 (F_X6_findCosts_28 f) (f2 + 1) 59 2 50 (nI c) (nI (mk 12 (compQ A c))) (nI e) y = F_X6_findCosts_62 (F_X6_findCosts_28 f) f2 59 2 50 (nI c) (nI (mk 12 (compQ A c))) (nI (e + 1)) z ∧ _
      rw [F_X6_findCosts_62]
      dsimp only
      rw [ng_59 Ly.kd, e7 cy, Option.bind_some, n1, if_pos (nI_lt he (by omega)), bit12 _ e12, if_b1]
      cases q : compQ A c e with
      | true =>
        have ix : (nI e + (1 : Int32)) * (13 : Int32) + nI c + 1 = nI (13 * (e + 1) + (c + 1)) := by rw [nI_1, show (13 : Int32) = nI 13 from rfl, nI_mul, nI_add, nI_1, Nat.mul_comm, Nat.add_assoc]
        rw [if_pos rfl, nR_59_0 Ly.kd Ly.rd, Option.bind_some, nc_50 Ly.kd, ix_shl e (by omega), pow_pair e12, c_costFrom Ly Cy K Sy e12 e12 c12, Option.bind_some, ix, ns_60 Ly.kd (by omega), Option.bind_some, f110]
        refine ⟨_, rfl, cy.asi (Or.inl (by decide)), fun f' c' hf hc' => ?_⟩
        rw [si_row]
        by_cases z : f' = e + 1 ∧ c' = c
        · rw [z.1, z.2, up1_eq]
          unfold cRow
          rw [if_pos ⟨Or.inr ⟨rfl, by omega⟩, by
            unfold alw
            rw [show e + 1 - 1 = e by omega, q, Bool.or_true]⟩]
          unfold cst
          rw [if_neg (by omega), show e + 1 - 1 = e by omega]
        · rw [up1_ne (by omega), ry f' c' hf hc']
          exact cRow_cong (by omega)
      | false =>
        rw [if_neg (by decide), f110]
        refine ⟨y, rfl, cy, fun f' c' hf hc' => ?_⟩
        rw [ry f' c' hf hc']
        by_cases z : f' = e + 1 ∧ c' = c
        · have no : ¬ alw A f' c' = true := by
            unfold alw
            rw [z.1, z.2, show e + 1 - 1 = e by omega, q, decide_eq_false (show ¬ e + 1 = 0 by omega)]
            decide
          unfold cRow
          rw [if_neg (fun y => no y.2), if_neg (fun y => no y.2)]
        · exact cRow_cong (by omega)
    · intro f2 y ⟨cy, ry⟩
      have Ly := cy.lay Lb (by decide)
      refine ⟨y, ?_, cy, fun f' c' hf hc' => ?_⟩
      · show F_X6_findCosts_62 (F_X6_findCosts_28 f) (f2 + 1) 59 2 50 (nI c) (nI (mk 12 (compQ A c))) (nI (nC A)) y = _
        rw [F_X6_findCosts_62]
        dsimp only
        rw [ng_59 Ly.kd, e7 cy, Option.bind_some, n1, if_neg Int32.lt_irrefl, nI_1]
      · rw [ry f' c' hf hc']
        exact cRow_cong (by omega)
    · rw [si_row]
      by_cases z : f' = 0 ∧ c' = c
      · rw [z.1, z.2, show 13 * 0 + (c + 1) = c + 1 by omega, up1_eq]
        unfold cRow
        rw [if_pos ⟨Or.inr ⟨rfl, by omega⟩, alw_0 A c⟩]
        rfl
      · rw [up1_ne (by omega), rx f' c' hf hc']
        exact cRow_cong (by omega)
  · intro f x ⟨cx, rx⟩
    have Lx := cx.lay Lb (by decide)
    refine ⟨x, ?_, hb.trans (cx.mono (by decide)), e7 cx, fun f' c' hf hc' => ?_⟩
    · show F_X6_findCosts_28 (f + 1) 59 2 50 (nI (nC A)) x = _
      rw [F_X6_findCosts_28]
      dsimp only
      rw [ng_59 Lx.kd, e7 cx, Option.bind_some, n1, if_neg Int32.lt_irrefl]
    · rw [rx f' c' hf hc']
      unfold cRow
      by_cases z : alw A f' c' = true
      · rw [if_pos ⟨Or.inl hc', z⟩, if_pos z]
      · rw [if_neg (fun y => z y.2), if_neg z]
  · rw [si_ne (by decide), ra _ (by omega)]
    unfold cRow
    rw [if_neg (by omega)]
