theorem GInv.ch {S : List Nat} {T : List (Nat × Nat)} {h h' : pg_H} {A : Nat → Int32} {i : Nat} (G : GInv h A i) (a : Ch S T h h') (q : dis S T [51, 52, 53, 55, 56, 57] [(50, 8)]) : GInv h' A i := by
  unfold GInv ChainOK
  rw [a.atM q (r := 50) (k := 8) (by decide), (a.rowM q (r := 51) (by decide)).1, (a.rowM q (r := 52) (by decide)).1, (a.rowM q (r := 53) (by decide)).1, (a.rowM q (r := 55) (by decide)).1, (a.rowM q (r := 56) (by decide)).1, (a.rowM q (r := 57) (by decide)).1]
  exact G
/-- a note that isn't written, no cut: nothing new -/
theorem GInv.skip {h : pg_H} {A : Nat → Int32} (K : ShOK A) {i : Nat} (G : GInv h A i) (h0 : A (340 + 5 * i + 4) ≠ 0) (h1 : A (340 + 5 * i + 4) ≠ 1) : GInv h A (i + 1) := by
  obtain ⟨R, pl, wd, g1, g2, g3, g4, g5, g6, g7⟩ := G
  refine ⟨R, pl, wd, by omega, g2, fun r hr => ?_, g4, fun n hn hz => ?_, fun r hr => ?_, fun p hp => ?_⟩
  · rw [g3 r hr]
    refine congrArg nI (mk_cong (fun c _ => ?_))
    rw [preQ_succ]
    unfold noteQ
    rw [decide_eq_false h0, Bool.and_false, Bool.or_false]
  · have e : n ≠ i := fun e => h0 (by rw [← e]; exact hz)
    exact g5 n (by omega) hz
  · obtain ⟨n, n1, n2⟩ := g6 r hr
    exact ⟨n, by omega, n2⟩
  · rw [g7 p hp]
    refine congrArg nI (mk_cong (fun c _ => ?_))
    show _ = (preK A i (nI c) (nI p) 1 || (decide (A (340 + 5 * i) = nI c) && decide (A (340 + 5 * i + 1) = nI p) && decide (A (340 + 5 * i + 4) = 1)))
    rw [decide_eq_false h1, Bool.and_false, Bool.or_false]
/-- a cut one -/
theorem GInv.cut {h : pg_H} {A : Nat → Int32} (K : ShOK A) {i : Nat} (hi : i < nN A) (G : GInv h A i) (h1 : A (340 + 5 * i + 4) = 1) : pg_i h 57 (nt A i 1) ||| nI (2 ^ nt A i 0) = nI (mk 12 fun c => preK A (i + 1) (nI c) (nI (nt A i 1)) 1) ∧ GInv (pg_si h 57 (nt A i 1) (nI (mk 12 fun c => preK A (i + 1) (nI c) (nI (nt A i 1)) 1))) A (i + 1) := by
  obtain ⟨R, pl, wd, g1, g2, g3, g4, g5, g6, g7⟩ := G
  obtain ⟨⟨c1, c2⟩, c3, c4⟩ := id g2
  obtain ⟨k0, k1, k2, _, _⟩ := K.2.2.2.2.2.1 i hi
  have kC : nC A < 13 := K.1.1.2
  have b0 : nt A i 0 < nC A := k0.2
  have b1 : nt A i 1 < 60 := k1.2
  have e0 : A (340 + 5 * i) = nI (nt A i 0) := k0.1
  have e1 : A (340 + 5 * i + 1) = nI (nt A i 1) := k1.1
  have h0 : A (340 + 5 * i + 4) ≠ 0 := by
    rw [h1]
    decide
  refine ⟨?_, R, pl, wd, by omega, ⟨⟨c1, by rw [si_ne (by decide)]; exact c2⟩, fun r hr => ?_, fun p hp => ?_⟩, fun r hr => ?_, g4, fun n hn hz => ?_, fun r hr => ?_, fun p hp => ?_⟩
  · rw [g7 _ b1]
    refine or_bit (m := fun _ => false) (by omega) (fun c hc => ?_)
    show (preK A i (nI c) (nI (nt A i 1)) 1 || (decide (A (340 + 5 * i) = nI c) && decide (A (340 + 5 * i + 1) = nI (nt A i 1)) && decide (A (340 + 5 * i + 4) = 1))) = _
    rw [h1, e0, e1, decide_eq_true rfl, decide_eq_true rfl, Bool.and_true, Bool.and_true]
    congr 1
    exact decide_eq_decide.mpr ⟨fun z => ((nI_eq (by omega) (by omega)).mp z).symm, fun z => by rw [z]⟩
  · rw [si_ne (by decide), si_ne (by decide), si_ne (by decide)]
    exact c3 r hr
  · rw [si_ne (by decide)]
    exact c4 p hp
  · rw [si_ne (by decide), g3 r hr]
    refine congrArg nI (mk_cong (fun c _ => ?_))
    rw [preQ_succ]
    unfold noteQ
    rw [decide_eq_false h0, Bool.and_false, Bool.or_false]
  · have e : n ≠ i := fun e => h0 (by rw [← e]; exact hz)
    exact g5 n (by omega) hz
  · obtain ⟨n, n1, n2⟩ := g6 r hr
    exact ⟨n, by omega, n2⟩
  · rw [si_row]
    by_cases e : p = nt A i 1
    · rw [e, up1_eq]
    · rw [up1_ne e, g7 p hp]
      refine congrArg nI (mk_cong (fun c _ => ?_))
      show _ = (preK A i (nI c) (nI p) 1 || (decide (A (340 + 5 * i) = nI c) && decide (A (340 + 5 * i + 1) = nI p) && decide (A (340 + 5 * i + 4) = 1)))
      rw [e1, decide_eq_false (show ¬ nI (nt A i 1) = nI p from fun z => e ((nI_eq (by omega) (by omega)).mp z).symm), Bool.and_false, Bool.false_and, Bool.or_false]
theorem has_out {A : Nat → Int32} (K : ShOK A) {c : Nat} (hc : nC A ≤ c) (hc2 : c < 2 ^ 31) (p w k : Int32) : hasQ A (nI c) p w k = false := by
  refine anyN_false.mpr (fun n hn => ?_)
  obtain ⟨k0, _⟩ := K.2.2.2.2.2.1 n hn
  have : cl A (340 + 5 * n) < nC A := k0.2
  unfold noteQ
  rw [k0.1, decide_eq_false (fun z => by
    have := (nI_eq (by omega) hc2).mp z
    omega)]
  rfl
theorem shQ_12 {A : Nat → Int32} (K : ShOK A) (p w : Int32) : (sumN 12 fun c => if hasQ A (nI c) p w 0 then 1 else 0) = shQ A p w := by
  have kC : nC A < 13 := K.1.1.2
  exact sumN_ext (n := nC A) (m := 12) (by omega) (fun i h1 h2 => by
    rw [has_out K h1 (by omega)]
    rfl)
def wS : List Nat := [48, 49, 51, 52, 53, 54, 55, 56, 57]
theorem c_gather {h : pg_H} {A : Nat → Int32} {X : Nat → tX} (L : Lay h) (S : ShX h 2 A X) : ∃ h', F_X4_gather 50 2 47 h = some h' ∧ Ch wS [(47, 2), (50, 8)] h h' ∧ Rd h' A (wg A (uX A X)) := by
  have D := L.kd
  have R := L.rd
  obtain ⟨C, K, T⟩ := id S
  have kN : nN A < 201 := K.1.2.2.2.1.2
  have kC : nC A < 13 := K.1.1.2
  obtain ⟨g1, f1, a1, b1⟩ := c_fill (h := pg_si h 50 8 0) (r := 55) (n := 60) (-1) ((D 55 (by decide)).trans (by decide)) (by decide)
  have c1 : Ch wS [(47, 2), (50, 8)] h g1 := ((Ch.refl _ _ h).asi (Or.inr (by decide))).trans (a1.mono (by decide))
  have D1 : KD (pg_k g1) := by
    rw [c1.kk]
    exact D
  have R1 : RD (pg_r g1) := by
    rw [c1.rr]
    exact R
  obtain ⟨g2, f2, a2, b2⟩ := c_fill (h := g1) (r := 57) (n := 60) 0 ((D1 57 (by decide)).trans (by decide)) (by decide)
  have c2 : Ch wS [(47, 2), (50, 8)] h g2 := c1.trans (a2.mono (by decide))
  have G0 : GInv g2 A 0 := by
    refine ⟨0, fun _ => 0, fun _ => 0, Nat.le_refl _, ⟨⟨by decide, ?_⟩, fun r hr => absurd hr (Nat.not_lt_zero r), fun p hp => ?_⟩, fun r hr => absurd hr (Nat.not_lt_zero r), fun r _ hr => absurd hr (Nat.not_lt_zero r), fun n hn => absurd hn (Nat.not_lt_zero n), fun r hr => absurd hr (Nat.not_lt_zero r), fun p hp => ?_⟩
    · rw [a2.atM (R := []) (F := [(50, 8)]) (by decide) (by decide), a1.atM (R := []) (F := [(50, 8)]) (by decide) (by decide), si_row, up1_eq]
      rfl
    · rw [a2.row (by decide), b1 p hp]
      rfl
    · rw [b2 p hp]
      rfl
  have ent : F_X4_gather 50 2 47 h = F_X4_gather_23 pg_fuel 50 2 47 0 g2 := by
    unfold F_X4_gather
    simp only [k_si, k_sl, k_sr, r_si, r_sl, i_sl, i_sr, l_si, l_sr, Option.bind_some, if_true, if_false, bind_eta2, if_bb, decide_eq_true_eq, pg_let, np_50, nR_50_4, nR_50_6, D, R, D1, R1, f1, f2]
  rw [ent]
  refine loopI (fun f i x => F_X4_gather_23 f 50 2 47 (nI i) x) (nN A) (fun i x => Ch wS [(47, 2), (50, 8)] h x ∧ GInv x A i) (fun o => ∃ h', o = some h' ∧ Ch wS [(47, 2), (50, 8)] h h' ∧ Rd h' A (wg A (uX A X))) ?_ ?_ 0 g2 (Nat.zero_le _) ⟨c2, G0⟩ pg_fuel (by unfold pg_fuel; omega)
  · intro f i x hi ⟨cx, Gx⟩
    have Lx := cx.lay L (by decide)
    have Dx := Lx.kd
    have Rx := Lx.rd
    have Cx : CNum x 2 A := C.ch cx (by decide)
    obtain ⟨k0, k1, k2, k3, k4⟩ := K.2.2.2.2.2.1 i hi
    have b0 : nt A i 0 < nC A := k0.2
    have b60 : nt A i 1 < 60 := k1.2
    have e0 : A (340 + 5 * i) = nI (nt A i 0) := k0.1
    have e1 : A (340 + 5 * i + 1) = nI (nt A i 1) := k1.1
    have sh : (1 : Int32) <<< (A (340 + 5 * i) &&& 31) = nI (2 ^ nt A i 0) := by
      rw [e0]
      exact ix_shl _ (by omega)
    have turn : F_X4_gather_23 (f + 1) 50 2 47 (nI i) x = (if A (340 + 5 * i + 4) = 0 then Option.bind (F_X4_addHolder 50 (A (340 + 5 * i + 1)) (A (340 + 5 * i + 2)) (nI (2 ^ nt A i 0)) x) fun v15 => F_X4_gather_124 (F_X4_gather_23 f) 50 2 47 (nI i) v15 else if A (340 + 5 * i + 4) = 1 then F_X4_gather_124 (F_X4_gather_23 f) 50 2 47 (nI i) (pg_si x 57 (nt A i 1) (pg_i x 57 (nt A i 1) ||| nI (2 ^ nt A i 0))) else F_X4_gather_124 (F_X4_gather_23 f) 50 2 47 (nI i) x) := by
      rw [F_X4_gather_23]
      dsimp only
      simp only [k_si, k_sl, k_sr, r_si, r_sl, i_sl, i_sr, l_si, l_sr, Option.bind_some, if_true, if_false, bind_eta2, if_bb, decide_eq_true_eq, pg_let, nR_2_4, nR_50_6, nc_11, nc_50, Dx, Rx, c_size_11 Cx, if_pos (nI_lt hi (show nN A < 2 ^ 31 by omega)), c_at_11_0 Cx hi, c_at_11_1 Cx hi, c_at_11_2 Cx hi, c_at_11_4 Cx hi, sh]
      by_cases z0 : A (340 + 5 * i + 4) = 0
      · rw [if_pos z0, if_pos z0]
      · rw [if_neg z0, if_neg z0]
        by_cases z1 : A (340 + 5 * i + 4) = 1
        · rw [if_pos z1, if_pos z1, e1, if_neg (nI_pos (by omega)), if_pos (show nI (nt A i 1) < (60 : Int32) from nI_lt (b := 60) b60 (by decide)), na_57 Dx b60, Option.bind_some, ns_57 Dx b60, Option.bind_some]
        · rw [if_neg z1, if_neg z1]
    by_cases z0 : A (340 + 5 * i + 4) = 0
    · obtain ⟨y, y1, y2, y3⟩ := c_addHolder Dx Rx K hi z0 Gx
      refine ⟨y, ?_, cx.trans (y2.mono (by decide)), y3⟩
      show F_X4_gather_23 (f + 1) 50 2 47 (nI i) x = F_X4_gather_23 f 50 2 47 (nI (i + 1)) y
      rw [turn, if_pos z0, y1, Option.bind_some]
      unfold F_X4_gather_124
      rw [nI_1]
    · by_cases z1 : A (340 + 5 * i + 4) = 1
      · obtain ⟨y1, y2⟩ := Gx.cut K hi z1
        refine ⟨_, ?_, cx.asi (Or.inl (by decide)), y2⟩
        show F_X4_gather_23 (f + 1) 50 2 47 (nI i) x = F_X4_gather_23 f 50 2 47 (nI (i + 1)) _
        rw [turn, if_neg z0, if_pos z1, y1]
        unfold F_X4_gather_124
        rw [nI_1]
      · refine ⟨x, ?_, cx, Gx.skip K z0 z1⟩
        show F_X4_gather_23 (f + 1) 50 2 47 (nI i) x = F_X4_gather_23 f 50 2 47 (nI (i + 1)) x
        rw [turn, if_neg z0, if_neg z1]
        unfold F_X4_gather_124
        rw [nI_1]
  · intro f x ⟨cx, Gx⟩
    have Lx := cx.lay L (by decide)
    have Cx : CNum x 2 A := C.ch cx (by decide)
    have out : F_X4_gather_23 (f + 1) 50 2 47 (nI (nN A)) x = F_X4_gather_132 pg_fuel 50 2 47 0 x := by
      rw [F_X4_gather_23]
      dsimp only
      simp only [k_si, k_sl, k_sr, r_si, r_sl, i_sl, i_sr, l_si, l_sr, Option.bind_some, if_true, if_false, bind_eta2, if_bb, decide_eq_true_eq, pg_let, nR_2_4, nc_11, Lx.kd, Lx.rd, c_size_11 Cx, if_neg (show ¬ nI (nN A) < nI (nN A) from Int32.lt_irrefl)]
    show ∃ h', F_X4_gather_23 (f + 1) 50 2 47 (nI (nN A)) x = some h' ∧ _
    rw [out]
    obtain ⟨RN, pl, wd, g1, g2', g3, g4, g5, g6, g7⟩ := id Gx
    obtain ⟨⟨q1, q2⟩, q3, q4⟩ := g2'
    refine loopI (fun f r y => F_X4_gather_132 f 50 2 47 (nI r) y) RN (fun r y => Ch wS [(47, 2), (50, 8)] h y ∧ Ch [48, 49, 54] [(47, 2)] x y ∧ ∀ r', r' < r → pg_i y 54 r' = nI (wg A (uX A X) (pl r') (wd r'))) (fun o => ∃ h', o = some h' ∧ Ch wS [(47, 2), (50, 8)] h h' ∧ Rd h' A (wg A (uX A X))) ?_ ?_ 0 x (Nat.zero_le _) ⟨cx, Ch.refl _ _ _, fun r hr => absurd hr (Nat.not_lt_zero r)⟩ pg_fuel (by unfold pg_fuel; omega)
    · intro f r y hr ⟨cy, ay, wy⟩
      have Ly := cy.lay L (by decide)
      have Dy := Ly.kd
      have Ry := Ly.rd
      have br : r < 200 := by omega
      have Sy : ShX y 2 A X := S.ch cy (by decide) (by decide)
      obtain ⟨⟨l1, l2⟩, m1, m2, m3⟩ := q3 r hr
      have n50 : pg_i y 50 8 = nI RN := by rw [ay.atM (R := []) (F := [(50, 8)]) (by decide) (by decide), q2]
      have n51 : pg_i y 51 r = nI (pl r) := by rw [ay.row (by decide), m1]
      have n52 : pg_i y 52 r = nI (wd r) := by rw [ay.row (by decide), m2]
      have n53 : pg_i y 53 r = nI (mk 12 fun c => hasQ A (nI c) (nI (pl r)) (nI (wd r)) 0) := by
        rw [ay.row (by decide)]
        exact g3 r hr
      have bc : F_J6_bitCount_0f7a4 (nI (mk 12 fun c => hasQ A (nI c) (nI (pl r)) (nI (wd r)) 0)) = some (nI (shQ A (nI (pl r)) (nI (wd r)))) := by rw [bc_mk, shQ_12 K]
      obtain ⟨u, u1, u2, u3⟩ := c_askWording Dy Ry (p := pl r) (by omega) (wd r) (shQ A (nI (pl r)) (nI (wd r)))
      have Lu := u2.lay Ly (by decide)
      have Su : ShX u 2 A X := Sy.ch u2 (by decide) (by decide)
      obtain ⟨tx, v, v1, v2, v3⟩ := c_told (hd := 0) Lu Su (by decide) 10
      have Dv : KD (pg_k v) := by
        rw [v3.kk]
        exact Lu.kd
      have val : (uX A X 0 (pg_i u 48)).elim (10 : Int32) nI = nI (wg A (uX A X) (pl r) (wd r)) := by
        rw [uX_env Su u3]
        unfold wg
        cases uX A X 0 (envW (pl r) (wd r) (shQ A (nI (pl r)) (nI (wd r)))) <;> rfl
      rw [val] at v2
      have yu : Ch [48, 49, 54] [(47, 2)] y v := (u2.mono (by decide)).trans (v3.mono (by decide))
      refine ⟨pg_si v 54 r (nI (wg A (uX A X) (pl r) (wd r))), ?_, (cy.trans (yu.mono (by decide))).asi (Or.inl (by decide)), (ay.trans yu).asi (Or.inl (by decide)), fun r' hr' => ?_⟩
      · have v2' : F_X0_told 47 tx (0 : Int32) 10 u = some (nI (wg A (uX A X) (pl r) (wd r)), v) := v2
        show F_X4_gather_132 (f + 1) 50 2 47 (nI r) y = F_X4_gather_132 f 50 2 47 (nI (r + 1)) _
        rw [F_X4_gather_132]
        dsimp only
        simp only [k_si, k_sl, k_sr, r_si, r_sl, i_sl, i_sr, l_si, l_sr, Option.bind_some, if_true, if_false, bind_eta2, if_bb, decide_eq_true_eq, pg_let, ng_50, nR_50_0, nR_50_1, nR_50_2, nR_50_3, na_51, na_52, na_53, ns_54, nc_47, nc_2, Dy, Ry, Lu.kd, Lu.rd, Dv, br, n50, if_pos (nI_lt hr (show RN < 2 ^ 31 by omega)), n51, n52, n53, bc, u1, v1, v2', nI_1]
      · rw [si_row]
        by_cases e : r' = r
        · rw [e, up1_eq]
        · rw [up1_ne e, v3.row (by decide), u2.row (by decide)]
          exact wy r' (by omega)
    · intro f y ⟨cy, ay, wy⟩
      have Ly := cy.lay L (by decide)
      have n50 : pg_i y 50 8 = nI RN := by rw [ay.atM (R := []) (F := [(50, 8)]) (by decide) (by decide), q2]
      refine ⟨y, ?_, cy, RN, pl, wd, ⟨q1, n50⟩, fun r hr => ?_, g4, g5, g6, fun p hp => ?_⟩
      · show F_X4_gather_132 (f + 1) 50 2 47 (nI RN) y = _
        rw [F_X4_gather_132]
        dsimp only
        rw [ng_50 Ly.kd, Option.bind_some, n50, if_neg Int32.lt_irrefl]
      · obtain ⟨l, m1, m2, m3⟩ := q3 r hr
        rw [ay.row (r := 51) (by decide), ay.row (r := 52) (by decide), ay.row (r := 53) (by decide), ay.row (r := 56) (by decide)]
        exact ⟨l, m1, m2, g3 r hr, wy r hr, m3⟩
      · rw [ay.row (r := 55) (by decide), ay.row (r := 57) (by decide)]
        exact ⟨q4 p hp, g7 p hp⟩
theorem c_freshR {q : Nat} {h : pg_H} (I : Inv q h) : ∃ h', F_X11_freshReadings 1 h = some (50, h') ∧ Ch wS [(47, 2), (50, 8), (1, 14)] h h' ∧ pg_i h' 1 14 = 1 ∧ ∃ X Y0 Y1, ShX h 2 (pg_i h 83) X ∧ ImOK h 0 Y0 ∧ ImOK h 1 Y1 ∧ Rd h' (pg_i h 83) (wg (pg_i h 83) (uX (pg_i h 83) X)) ∧ StemOK h (pg_i h 83) (wg (pg_i h 83) (uX (pg_i h 83) X)) ∧ GrowOK h (pg_i h 83) (wg (pg_i h 83) (uX (pg_i h 83) X)) := by
  have L := I.1
  have D := L.kd
  have R := L.rd
  obtain ⟨_, _, _, _, _, X, Y0, Y1, S, i0, i1, r1, r2, r3⟩ := I
  rcases r1 with z | ⟨z, z2⟩
  · obtain ⟨g, g1, g2, g3⟩ := c_gather L S
    have Dg : KD (pg_k g) := by
      rw [g2.kk]
      exact D
    have Rg' : RD (pg_r g) := by
      rw [g2.rr]
      exact R
    refine ⟨pg_si g 1 14 1, ?_, (g2.mono (by decide)).asi (Or.inr (by decide)), by rw [si_row, up1_eq], X, Y0, Y1, S, i0, i1, g3.ch (S := []) (T := [(1, 14)]) ((Ch.refl _ _ _).asi (Or.inr (by decide))) (by decide), r2, r3⟩
    unfold F_X11_freshReadings
    simp only [k_si, k_sl, k_sr, r_si, r_sl, i_sl, i_sr, l_si, l_sr, Option.bind_some, if_true, if_false, bind_eta2, if_bb, decide_eq_true_eq, pg_let, ng_1, nR_1_6, nR_1_0, nR_1_5, nc_50, D, R, Dg, Rg', z, g1, nz1_1]
  · refine ⟨h, ?_, Ch.refl _ _ _, z, X, Y0, Y1, S, i0, i1, z2, r2, r3⟩
    unfold F_X11_freshReadings
    simp only [k_si, k_sl, k_sr, r_si, r_sl, i_sl, i_sr, l_si, l_sr, Option.bind_some, if_true, if_false, bind_eta2, if_bb, decide_eq_true_eq, pg_let, ng_1, nR_1_6, D, R, z, if_neg (show ¬ ((1 : Int32) = 0) by decide)]
