/-! THE TAPE: feed, end; count -/
theorem byte_of (y : Int32) : ∃ b, b < 256 ∧ y &&& 255 = nI b ∧ y.toInt8 = (nI b).toInt8 := by
  have e : y &&& 255 = nI (y.toBitVec.toNat % 256) := by
    apply Int32.toBitVec_inj.mp
    apply BitVec.eq_of_toNat_eq
    rw [Int32.toBitVec_and, BitVec.toNat_and]
    show y.toBitVec.toNat &&& 255 = (BitVec.ofNat 32 (y.toBitVec.toNat % 256)).toNat
    rw [BitVec.toNat_ofNat, show (255 : Nat) = 2 ^ 8 - 1 from rfl, Nat.and_two_pow_sub_one_eq_mod]
    omega
  refine ⟨y.toBitVec.toNat % 256, Nat.mod_lt _ (by decide), e, ?_⟩
  rw [← e]
  apply Int8.toBitVec_inj.mp
  rw [Int32.toBitVec_toInt8, Int32.toBitVec_toInt8, BitVec.signExtend_eq_setWidth_of_le _ (by decide), BitVec.signExtend_eq_setWidth_of_le _ (by decide)]
  apply BitVec.eq_of_toNat_eq
  rw [BitVec.toNat_setWidth, BitVec.toNat_setWidth, Int32.toBitVec_and, BitVec.toNat_and]
  show _ = (y.toBitVec.toNat &&& 255) % 2 ^ 8
  rw [show (255 : Nat) = 2 ^ 8 - 1 from rfl, Nat.and_two_pow_sub_one_eq_mod]
  omega
/-- a byte of a number, the highest first -/
def bOf (x : Int32) (k : Nat) : Int32 := x >>> (nI (24 - 8 * k) &&& 31)
theorem put_step {h : pg_H} (D : KD (pg_k h)) (R : RD (pg_r h)) {n : Nat} (hs : pg_i h 43 1 = nI n) (hn : n < 400) (x : Int32) (f s : Nat) (hs2 : s < 32) : F_X8_putNumber_3 (f + 1) 43 x (nI s) h = F_X8_putNumber_3 f 43 x (nI s + (-8 : Int32)) (pg_si (pg_si h 44 n ((x >>> (nI s &&& 31)) &&& 255)) 43 1 (nI (n + 1))) := by
  have e2 : pg_i (pg_si h 44 n ((x >>> (nI s &&& 31)) &&& 255)) 43 1 = nI n := by rw [si_ne (by decide), hs]
  rw [F_X8_putNumber_3]
  dsimp only
  rw [if_neg (nI_pos (by omega))]
  simp only [k_si, k_sl, k_sr, r_si, r_sl, i_sl, i_sr, l_si, l_sr, Option.bind_some, if_true, if_false, bind_eta2, if_bb, decide_eq_true_eq, pg_let, ng_43, nR_43_0, np_43, ns_44, D, R, hs, hn, e2, if_neg (nI_pos (show n < 2 ^ 31 by omega)), if_pos (show nI n < (400 : Int32) from nI_lt (b := 400) hn (by decide)), nI_1, F_X8_putNumber_50]
theorem c_putNumber {h : pg_H} (D : KD (pg_k h)) (R : RD (pg_r h)) {n : Nat} (hs : pg_i h 43 1 = nI n) (hn : n + 4 ≤ 400) (x : Int32) : ∃ h', F_X8_putNumber 43 x h = some h' ∧ Ch [44] [(43, 1)] h h' ∧ pg_i h' 43 1 = nI (n + 4) ∧ (∀ i, i < n → pg_i h' 44 i = pg_i h 44 i) ∧ ∀ k, k < 4 → pg_i h' 44 (n + k) = bOf x k &&& 255 := by
  obtain ⟨f, hf⟩ : ∃ f, pg_fuel = f + 1 + 1 + 1 + 1 + 1 := ⟨pg_fuel - 5, by unfold pg_fuel; omega⟩
  have step : ∀ (g : pg_H) (m : Nat), KD (pg_k g) → RD (pg_r g) → pg_i g 43 1 = nI m → m < 400 → ∀ (f s : Nat), s < 32 → F_X8_putNumber_3 (f + 1) 43 x (nI s) g = F_X8_putNumber_3 f 43 x (nI s + (-8 : Int32)) (pg_si (pg_si g 44 m ((x >>> (nI s &&& 31)) &&& 255)) 43 1 (nI (m + 1))) := fun g m D R hs hn f s => put_step D R hs hn x f s
  unfold F_X8_putNumber
  rw [hf, show (24 : Int32) = nI 24 from rfl]
  rw [step h n D R hs (by omega) (f + 4) 24 (by decide), show nI 24 + (-8 : Int32) = nI 16 from by decide]
  obtain ⟨g1, eg1⟩ : ∃ g, g = pg_si (pg_si h 44 (n) ((x >>> (nI 24 &&& 31)) &&& 255)) 43 1 (nI (n + 1)) := ⟨_, rfl⟩
  have Dg1 : KD (pg_k g1) := by
    rw [eg1]
    exact D
  have Rg1 : RD (pg_r g1) := by
    rw [eg1]
    exact R
  have sg1 : pg_i g1 43 1 = nI (n + 1) := by rw [eg1, si_row, up1_eq]
  rw [← eg1, step g1 (n + 1) Dg1 Rg1 sg1 (by omega) (f + 3) 16 (by decide), show nI 16 + (-8 : Int32) = nI 8 from by decide]
  obtain ⟨g2, eg2⟩ : ∃ g, g = pg_si (pg_si g1 44 (n + 1) ((x >>> (nI 16 &&& 31)) &&& 255)) 43 1 (nI (n + 1 + 1)) := ⟨_, rfl⟩
  have Dg2 : KD (pg_k g2) := by
    rw [eg2]
    exact Dg1
  have Rg2 : RD (pg_r g2) := by
    rw [eg2]
    exact Rg1
  have sg2 : pg_i g2 43 1 = nI (n + 1 + 1) := by rw [eg2, si_row, up1_eq]
  rw [← eg2, step g2 (n + 1 + 1) Dg2 Rg2 sg2 (by omega) (f + 2) 8 (by decide), show nI 8 + (-8 : Int32) = nI 0 from by decide]
  obtain ⟨g3, eg3⟩ : ∃ g, g = pg_si (pg_si g2 44 (n + 1 + 1) ((x >>> (nI 8 &&& 31)) &&& 255)) 43 1 (nI (n + 1 + 1 + 1)) := ⟨_, rfl⟩
  have Dg3 : KD (pg_k g3) := by
    rw [eg3]
    exact Dg2
  have Rg3 : RD (pg_r g3) := by
    rw [eg3]
    exact Rg2
  have sg3 : pg_i g3 43 1 = nI (n + 1 + 1 + 1) := by rw [eg3, si_row, up1_eq]
  rw [← eg3, step g3 (n + 1 + 1 + 1) Dg3 Rg3 sg3 (by omega) (f + 1) 0 (by decide), F_X8_putNumber_3]
  dsimp only
  rw [if_pos (show nI 0 + (-8 : Int32) < 0 by decide)]
  subst eg3 eg2 eg1
  refine ⟨_, rfl, ?_, ?_, fun i hi => ?_, fun k hk => ?_⟩
  · exact ((((((((Ch.refl _ _ h).asi (Or.inl (by decide))).asi (Or.inr (by decide))).asi (Or.inl (by decide))).asi (Or.inr (by decide))).asi (Or.inl (by decide))).asi (Or.inr (by decide))).asi (Or.inl (by decide))).asi (Or.inr (by decide))
  · rw [si_row, up1_eq]
  · rw [si_ne (by decide), si_row, up1_ne (by omega), si_ne (by decide), si_row, up1_ne (by omega), si_ne (by decide), si_row, up1_ne (by omega), si_ne (by decide), si_row, up1_ne (by omega)]
  · rw [si_ne (by decide), si_row, si_ne (by decide), si_row, si_ne (by decide), si_row, si_ne (by decide), si_row]
    rcases k with _ | _ | _ | _ | k
    · rw [up1_ne (by omega), up1_ne (by omega), up1_ne (by omega), Nat.add_zero, up1_eq]
      rfl
    · rw [up1_ne (by omega), up1_ne (by omega), Nat.zero_add, up1_eq]
      rfl
    · rw [up1_ne (by omega), show n + (0 + 1 + 1) = n + 1 + 1 by omega, up1_eq]
      rfl
    · rw [show n + (0 + 1 + 1 + 1) = n + 1 + 1 + 1 by omega, up1_eq]
      rfl
    · omega
def five (a b c d e : Int32) (j : Nat) : Int32 := if j = 0 then a else if j = 1 then b else if j = 2 then c else if j = 3 then d else e
theorem m_feed {h : pg_H} (L : Lay h) {n : Nat} (hs : pg_i h 81 10 = nI n) (hn : n + 20 ≤ 400) (a b c d e : Int32) : ∃ h', F_X12_feed 81 a b c d e h = some (nI (n + 20), h') ∧ Ch [87, 88] [(81, 10)] h h' ∧ pg_i h' 81 10 = nI (n + 20) ∧ (∀ i, i < n → pg_i h' 87 i = pg_i h 87 i) ∧ ∀ j k, j < 5 → k < 4 → pg_i h' 87 (n + (4 * j + k)) = (bOf (five a b c d e j) k).toInt8.toInt32 := by
  have D := L.kd
  have R := L.rd
  have g0 : ¬ ((400 : Int32) < nI n + 20) := by
    rw [show (20 : Int32) = nI 20 from rfl, nI_add]
    exact nI_nlt (b := n + 20) (a := 400) (by omega) (by decide)
  have c5 : Ch [87, 88] [(81, 10)] h (pg_si (pg_si (pg_si (pg_si (pg_si h 88 0 a) 88 1 b) 88 2 c) 88 3 d) 88 4 e) := (((((Ch.refl _ _ h).asi (Or.inl (by decide))).asi (Or.inl (by decide))).asi (Or.inl (by decide))).asi (Or.inl (by decide))).asi (Or.inl (by decide))
  have ent : F_X12_feed 81 a b c d e h = F_X12_feed_55 pg_fuel 81 0 (pg_si (pg_si (pg_si (pg_si (pg_si h 88 0 a) 88 1 b) 88 2 c) 88 3 d) 88 4 e) := by
    unfold F_X12_feed
    simp only [k_si, k_sl, k_sr, r_si, r_sl, i_sl, i_sr, l_si, l_sr, Option.bind_some, if_true, if_false, bind_eta2, if_bb, decide_eq_true_eq, pg_let, ng_81, nR_81_9, ns_88_0, ns_88_1, ns_88_2, ns_88_3, ns_88_4, D, R, hs, if_neg g0]
  have r88 : ∀ j, j < 5 → pg_i (pg_si (pg_si (pg_si (pg_si (pg_si h 88 0 a) 88 1 b) 88 2 c) 88 3 d) 88 4 e) 88 j = five a b c d e j := fun j hj => by
    rw [si_row, si_row, si_row, si_row, si_row]
    unfold up1 five
    rcases j with _ | _ | _ | _ | _ | j
    · rfl
    · rfl
    · rfl
    · rfl
    · rfl
    · omega
  have r87 : pg_i (pg_si (pg_si (pg_si (pg_si (pg_si h 88 0 a) 88 1 b) 88 2 c) 88 3 d) 88 4 e) 87 = pg_i h 87 := by
    rw [si_ne (by decide), si_ne (by decide), si_ne (by decide), si_ne (by decide), si_ne (by decide)]
  have s10 : pg_i (pg_si (pg_si (pg_si (pg_si (pg_si h 88 0 a) 88 1 b) 88 2 c) 88 3 d) 88 4 e) 81 10 = nI n := by
    rw [si_ne (by decide), si_ne (by decide), si_ne (by decide), si_ne (by decide), si_ne (by decide), hs]
  rw [ent]
  generalize pg_si (pg_si (pg_si (pg_si (pg_si h 88 0 a) 88 1 b) 88 2 c) 88 3 d) 88 4 e = g at *
  refine loopI (fun f i x => F_X12_feed_55 f 81 (nI i) x) 20 (fun i x => Ch [87] [] g x ∧ (∀ m, m < n → pg_i x 87 m = pg_i h 87 m) ∧ ∀ j k, j < 5 → k < 4 → 4 * j + k < i → pg_i x 87 (n + (4 * j + k)) = (bOf (five a b c d e j) k).toInt8.toInt32) (fun r => ∃ h', r = some (nI (n + 20), h') ∧ Ch [87, 88] [(81, 10)] h h' ∧ pg_i h' 81 10 = nI (n + 20) ∧ (∀ i, i < n → pg_i h' 87 i = pg_i h 87 i) ∧ ∀ j k, j < 5 → k < 4 → pg_i h' 87 (n + (4 * j + k)) = (bOf (five a b c d e j) k).toInt8.toInt32) ?_ ?_ 0 g (by decide) ⟨Ch.refl _ _ _, fun m _ => by rw [r87], fun j k _ _ z => absurd z (Nat.not_lt_zero _)⟩ pg_fuel (by unfold pg_fuel; omega)
  · intro f i x hi ⟨cx, x1, x2⟩
    have Dx : KD (pg_k x) := by
      rw [cx.kk, c5.kk]
      exact D
    have Rx : RD (pg_r x) := by
      rw [cx.rr, c5.rr]
      exact R
    have q1 : pg_i x 81 10 = nI n := by rw [cx.row (by decide), s10]
    have q2 : pg_i x 88 (i / 4) = five a b c d e (i / 4) := by
      rw [cx.row (by decide)]
      exact r88 _ (by omega)
    have i4 : nI i / (4 : Int32) = nI (i / 4) := nI_div (b := 4) (by omega) (by decide)
    have shh : ∀ i, i < 20 → (24 : Int32) - (8 : Int32) * (nI i - nI (i / 4) * (4 : Int32)) = nI (24 - 8 * (i % 4)) := by decide
    have sh := shh i hi
    refine ⟨pg_si x 87 (n + i) (bOf (five a b c d e (i / 4)) (i % 4)).toInt8.toInt32, ?_, cx.asi (Or.inl (by decide)), fun m hm => ?_, fun j k hj hk hjk => ?_⟩
    · show F_X12_feed_55 (f + 1) 81 (nI i) x = F_X12_feed_55 f 81 (nI (i + 1)) (pg_si x 87 (n + i) (bOf (five a b c d e (i / 4)) (i % 4)).toInt8.toInt32)
      rw [F_X12_feed_55]
      dsimp only
      have b1 : i / 4 < 5 := by omega
      have b2 : n + i < 400 := by omega
      have id8 : ∀ z : Int32, z.toInt8.toInt32.toInt8.toInt32 = z.toInt8.toInt32 := fun z => by rw [Int8.toInt8_toInt32]
      simp only [k_si, k_sl, k_sr, r_si, r_sl, i_sl, i_sr, l_si, l_sr, Option.bind_some, if_true, if_false, bind_eta2, if_bb, decide_eq_true_eq, pg_let, if_pos (show nI i < (20 : Int32) from nI_lt (b := 20) hi (by decide)), nR_81_8, nR_81_9, ng_81, na_88, ns_87, Dx, Rx, q1, i4, q2, b1, b2, nI_add, nI_1, sh, if_neg (show ¬ ((4 : Int32) = 0) by decide), id8]
      rfl
    · rw [si_row, up1_ne (by omega)]
      exact x1 m hm
    · rw [si_row]
      by_cases z : 4 * j + k = i
      · rw [show n + (4 * j + k) = n + i by omega, up1_eq, show i / 4 = j by omega, show i % 4 = k by omega]
      · rw [up1_ne (by omega)]
        exact x2 j k hj hk (by omega)
  · intro f x ⟨cx, x1, x2⟩
    have Dx : KD (pg_k x) := by
      rw [cx.kk, c5.kk]
      exact D
    have q1 : pg_i x 81 10 = nI n := by rw [cx.row (by decide), s10]
    have e20 : nI n + (20 : Int32) = nI (n + 20) := nI_add n 20
    refine ⟨pg_si x 81 10 (nI (n + 20)), ?_, (c5.trans (cx.mono (by decide))).asi (Or.inr (by decide)), by rw [si_row, up1_eq], fun i hi => ?_, fun j k hj hk => ?_⟩
    · have e1 : pg_i (pg_si x 81 10 (nI (n + 20))) 81 10 = nI (n + 20) := by rw [si_row, up1_eq]
      show F_X12_feed_55 (f + 1) 81 (nI 20) x = _
      rw [F_X12_feed_55]
      dsimp only
      simp only [k_si, k_sl, k_sr, r_si, r_sl, i_sl, i_sr, l_si, l_sr, Option.bind_some, if_true, if_false, bind_eta2, if_bb, decide_eq_true_eq, pg_let, if_neg (show ¬ nI 20 < (20 : Int32) by decide), ng_81, np_81, Dx, q1, e20, e1]
    · rw [si_ne (by decide)]
      exact x1 i hi
    · rw [si_ne (by decide)]
      exact x2 j k hj hk (by omega)
/-- a call that touches the tape alone -/
theorem Inv.tape {q : Nat} {h h' : pg_H} (I : Inv q h) (a : Ch [44, 87, 88] [(43, 1), (81, 10)] h h') (tp : TpOK h') : Inv (q + 1) h' := by
  obtain ⟨L2, wo, X, Y0, Y1, s, t, i0, i1, r1, r2, r3⟩ := I.base a (by decide) (by decide) (by decide)
  obtain ⟨_, sc, _, _, ⟨v, ev, hv⟩, _⟩ := I
  have e83 : pg_i h' 83 = pg_i h 83 := a.row (by decide)
  refine ⟨L2, sc.ch a (by decide), tp, wo, ⟨v, ?_, by omega⟩, X, Y0, Y1, ?_⟩
  · rw [a.atM (R := []) (F := [(81, 1)]) (by decide) (by decide)]
    exact ev
  · rw [e83]
    exact ⟨⟨s.1.ch a (by decide), s.2.1, t⟩, i0, i1, r1.ch a (by decide) (by decide), r2.ch a (by decide) (by decide), r3.ch a (by decide) (by decide)⟩
theorem sim_feed : Sim_feed Inv := by
  intro x1 x2 x3 x4 x5 q h hq I
  have L := I.1
  have D := L.kd
  have R := L.rd
  obtain ⟨n, hn, t1, t2, t3⟩ := I.2.2.1
  have e20 : nI n + (20 : Int32) = nI (n + 20) := nI_add n 20
  by_cases c : n + 20 ≤ 400
  · have g0 : ¬ ((400 : Int32) < nI (n + 20)) := nI_nlt (b := n + 20) (a := 400) (by omega) (by decide)
    have st : ∀ (g : pg_H), Ch [44] [(43, 1)] h g → KD (pg_k g) ∧ RD (pg_r g) := fun g z => ⟨by rw [z.kk]; exact D, by rw [z.rr]; exact R⟩
    obtain ⟨h1, a1, b1, c1, d1, f1⟩ := c_putNumber D R t1 (by omega) x1
    obtain ⟨D1, R1⟩ := st h1 b1
    obtain ⟨h2, a2, b2, c2, d2, f2⟩ := c_putNumber D1 R1 c1 (by omega) x2
    obtain ⟨D2, R2⟩ := st h2 (b1.trans b2)
    obtain ⟨h3, a3, b3, c3, d3, f3⟩ := c_putNumber D2 R2 c2 (by omega) x3
    obtain ⟨D3, R3⟩ := st h3 ((b1.trans b2).trans b3)
    obtain ⟨h4, a4, b4, c4, d4, f4⟩ := c_putNumber D3 R3 c3 (by omega) x4
    obtain ⟨D4, R4⟩ := st h4 (((b1.trans b2).trans b3).trans b4)
    obtain ⟨h5, a5, b5, c5, d5, f5⟩ := c_putNumber D4 R4 c4 (by omega) x5
    have b : Ch [44] [(43, 1)] h h5 := (((b1.trans b2).trans b3).trans b4).trans b5
    obtain ⟨D5, R5⟩ := st h5 b
    have L5 : Lay h5 := b.lay L (by decide)
    have t2' : pg_i h5 81 10 = nI n := by rw [b.row (by decide), t2]
    obtain ⟨h6, a6, b6, c6, d6, f6⟩ := m_feed L5 t2' c x1 x2 x3 x4 x5
    have bb : Ch [44, 87, 88] [(43, 1), (81, 10)] h h6 := (b.mono (by decide)).trans (b6.mono (by decide))
    refine ⟨nI (n + 20), h5, h6, ?_, L5, a6, I.tape bb ⟨n + 20, c, ?_, c6, fun i hi => ?_⟩, bb.few⟩
    · unfold F_X11_feed F_X8_hasRoomFor F_X8_size
      simp only [k_si, k_sl, k_sr, r_si, r_sl, i_sl, i_sr, l_si, l_sr, Option.bind_some, if_true, if_false, bind_eta2, if_bb, decide_eq_true_eq, pg_let, nR_1_3, nc_43, ng_43, D, R, D1, R1, D2, R2, D3, R3, D4, R4, D5, R5, t1, e20, if_neg g0, if_neg (show ¬ ((1 : Int32) = 0) by decide), a1, a2, a3, a4, a5, c5]
    · rw [b6.atM (R := []) (F := [(43, 1)]) (by decide) (by decide), c5]
    · rw [b6.row (r := 44) (by decide)]
      by_cases z : i < n
      · obtain ⟨v, v1, v2, v3⟩ := t3 i z
        refine ⟨v, v1, ?_, ?_⟩
        · rw [d5 i (by omega), d4 i (by omega), d3 i (by omega), d2 i (by omega), d1 i z]
          exact v2
        · rw [d6 i z, b.row (by decide)]
          exact v3
      · have key : ∀ j k, j < 5 → k < 4 → pg_i h5 44 (n + (4 * j + k)) = bOf (five x1 x2 x3 x4 x5 j) k &&& 255 := by
          intro j k hj hk
          rcases j with _ | _ | _ | _ | _ | j
          · rw [d5 _ (by omega), d4 _ (by omega), d3 _ (by omega), d2 _ (by omega), show n + (4 * 0 + k) = n + k by omega]
            exact f1 k hk
          · rw [d5 _ (by omega), d4 _ (by omega), d3 _ (by omega), show n + (4 * (0 + 1) + k) = n + 4 + k by omega]
            exact f2 k hk
          · rw [d5 _ (by omega), d4 _ (by omega), show n + (4 * (0 + 1 + 1) + k) = n + 4 + 4 + k by omega]
            exact f3 k hk
          · rw [d5 _ (by omega), show n + (4 * (0 + 1 + 1 + 1) + k) = n + 4 + 4 + 4 + k by omega]
            exact f4 k hk
          · rw [show n + (4 * (0 + 1 + 1 + 1 + 1) + k) = n + 4 + 4 + 4 + 4 + k by omega]
            exact f5 k hk
          · omega
        have ei : i = n + (4 * ((i - n) / 4) + (i - n) % 4) := by omega
        obtain ⟨v, v1, v2, v3⟩ := byte_of (bOf (five x1 x2 x3 x4 x5 ((i - n) / 4)) ((i - n) % 4))
        refine ⟨v, v1, ?_, ?_⟩
        · rw [ei, key _ _ (by omega) (by omega)]
          exact v2
        · rw [ei, f6 _ _ (by omega) (by omega), v3]
  · have g0 : (400 : Int32) < nI (n + 20) := nI_lt (a := 400) (by omega) (by omega)
    refine ⟨-1, h, h, ?_, L, ?_, I.up, Few.rfl' h⟩
    · unfold F_X11_feed F_X8_hasRoomFor
      simp only [k_si, k_sl, k_sr, r_si, r_sl, i_sl, i_sr, l_si, l_sr, Option.bind_some, if_true, if_false, bind_eta2, if_bb, decide_eq_true_eq, pg_let, nR_1_3, nc_43, ng_43, D, R, t1, e20, if_pos g0]
    · unfold F_X12_feed
      simp only [k_si, k_sl, k_sr, r_si, r_sl, i_sl, i_sr, l_si, l_sr, Option.bind_some, if_true, if_false, bind_eta2, if_bb, decide_eq_true_eq, pg_let, ng_81, D, t2, e20, if_pos g0]
theorem c_shorten {h : pg_H} (D : KD (pg_k h)) {n m : Nat} (hs : pg_i h 43 1 = nI n) (hn : n ≤ 400) (hm : m ≤ n) : F_X8_shorten 43 (nI m) h = some (pg_si h 43 1 (nI m)) := by
  have e : (if nI m < nI n then nI m else nI n) = nI m := by
    by_cases c : m = n
    · rw [c, if_neg Int32.lt_irrefl]
    · rw [if_pos (nI_lt (by omega) (by omega))]
  have e2 : (if (0 : Int32) < nI m then nI m else (0 : Int32)) = nI m := by
    by_cases c : m = 0
    · rw [c]
      rfl
    · rw [if_pos (show (0 : Int32) < nI m from nI_lt (a := 0) (by omega) (by omega))]
  unfold F_X8_shorten
  simp only [k_si, k_sl, k_sr, r_si, r_sl, i_sl, i_sr, l_si, l_sr, Option.bind_some, if_true, if_false, bind_eta2, if_bb, decide_eq_true_eq, pg_let, ng_43, np_43, D, hs, e, e2]
theorem sim_end : Sim_end Inv := by
  intro x1 q h hq I
  have L := I.1
  have D := L.kd
  have R := L.rd
  obtain ⟨n, hn, t1, t2, t3⟩ := I.2.2.1
  by_cases c : 0 ≤ x1 ∧ x1 ≤ nI n
  · obtain ⟨m, hm, rfl⟩ := nI_of2 (x := x1) (M := nI n) (n := n) (nI_toInt (by omega)) (Int32.not_lt.mpr c.1) c.2
    have L1 : Lay (pg_si h 43 1 (nI m)) := (show Ch [] [(43, 1)] h _ from (Ch.refl _ _ h).asi (Or.inr (by decide))).lay L (by decide)
    have bb : Ch [44, 87, 88] [(43, 1), (81, 10)] h (pg_si (pg_si h 43 1 (nI m)) 81 10 (nI m)) := ((Ch.refl _ _ h).asi (Or.inr (by decide))).asi (Or.inr (by decide))
    refine ⟨nI m, pg_si h 43 1 (nI m), pg_si (pg_si h 43 1 (nI m)) 81 10 (nI m), ?_, L1, ?_, I.tape bb ⟨m, by omega, ?_, ?_, fun i hi => ?_⟩, bb.few⟩
    · unfold F_X11_end F_X8_size
      simp only [k_si, k_sl, k_sr, r_si, r_sl, i_sl, i_sr, l_si, l_sr, Option.bind_some, if_true, if_false, bind_eta2, if_bb, decide_eq_true_eq, pg_let, nR_1_3, nc_43, ng_43, D, R, t1, within_le, if_pos c, c_shorten D t1 hn hm]
    · have e : pg_i (pg_si h 43 1 (nI m)) 81 10 = nI n := by rw [si_ne (by decide), t2]
      unfold F_X12_end
      simp only [k_si, k_sl, k_sr, r_si, r_sl, i_sl, i_sr, l_si, l_sr, Option.bind_some, if_true, if_false, bind_eta2, if_bb, decide_eq_true_eq, pg_let, ng_81, np_81, D, e, lies_le, if_pos c]
    · rw [si_ne (by decide), si_row, up1_eq]
    · rw [si_row, up1_eq]
    · rw [si_ne (by decide), si_ne (by decide), si_ne (by decide), si_ne (by decide)]
      exact t3 i (by omega)
  · refine ⟨-1, h, h, ?_, L, ?_, I.up, Few.rfl' h⟩
    · unfold F_X11_end F_X8_size
      simp only [k_si, k_sl, k_sr, r_si, r_sl, i_sl, i_sr, l_si, l_sr, Option.bind_some, if_true, if_false, bind_eta2, if_bb, decide_eq_true_eq, pg_let, nR_1_3, nc_43, ng_43, D, R, t1, within_le, if_neg c]
    · unfold F_X12_end
      simp only [k_si, k_sl, k_sr, r_si, r_sl, i_sl, i_sr, l_si, l_sr, Option.bind_some, if_true, if_false, bind_eta2, if_bb, decide_eq_true_eq, pg_let, ng_81, D, t2, lies_le, if_neg c]
