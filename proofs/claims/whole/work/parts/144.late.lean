/-! late -/
def shN (A : Nat → Int32) (n : Nat) : Nat := if wrQ A n then shQ A (A (340 + 5 * n + 1)) (A (340 + 5 * n + 2)) else 0
def lateQ (A : Nat → Int32) (x : tX) (c : Int32) (n : Nat) : Bool := (decide (c = -1) || decide (A (340 + 5 * n) = c)) && (x 5 (envN A n (shN A n))).isSome
def lateN (A : Nat → Int32) (x : tX) (c : Int32) (i : Nat) : Nat := sumN i fun n => if lateQ A x c n then 1 else 0
theorem c_lateRun {h : pg_H} {A : Nat → Int32} {X : Nat → tX} {w : Nat → Nat → Nat} (L : Lay h) (S : ShX h 2 A X) (rd : Rd h A w) {t : Nat} (ht : t < nT A) (c : Int32) : ∃ h', F_X11_late_46 pg_fuel 1 c (pg_r h 14 t) 50 0 0 h = some (nI (lateN A (X t) c (nN A)), h') ∧ Ch [48, 49] [(47, 2)] h h' := by
  obtain ⟨C, K, T⟩ := id S
  have kN : nN A < 201 := K.1.2.2.2.1.2
  refine loopI (fun f i x => F_X11_late_46 f 1 c (pg_r h 14 t) 50 (nI (lateN A (X t) c i)) (nI i) x) (nN A) (fun i x => Ch [48, 49] [(47, 2)] h x) (fun o => ∃ h', o = some (nI (lateN A (X t) c (nN A)), h') ∧ Ch [48, 49] [(47, 2)] h h') ?_ ?_ 0 h (Nat.zero_le _) (Ch.refl _ _ _) pg_fuel (by unfold pg_fuel; omega)
  · intro f i x hi cx
    have Lx := cx.lay L (by decide)
    have Cx : CNum x 2 A := C.ch cx (by decide)
    have rdx := rd.ch cx (by decide)
    have ex : pg_r h 14 t = pg_r x 14 t := by rw [cx.rr]
    obtain ⟨t1, t2, t3⟩ := T.ch cx (by decide) t ht
    have step : lateN A (X t) c (i + 1) = lateN A (X t) c i + (if lateQ A (X t) c i then 1 else 0) := rfl
    have go : (decide (c = -1) || decide (A (340 + 5 * i) = c)) = true → ∃ x', F_X11_late_83 (F_X11_late_46 f) 1 c (pg_r h 14 t) 50 (nI (lateN A (X t) c i)) (nI i) x = F_X11_late_46 f 1 c (pg_r h 14 t) 50 (nI (lateN A (X t) c (i + 1))) (nI (i + 1)) x' ∧ Ch [48, 49] [(47, 2)] h x' := fun e => by
      have sh := c_sharedOf Lx Cx K rdx hi
      obtain ⟨u, u1, u2, u3⟩ := c_askNote Lx.kd Lx.rd Cx K hi (shN A i)
      have Lu := u2.lay Lx (by decide)
      have eu : pg_r x 14 t = pg_r u 14 t := by rw [u2.rr]
      obtain ⟨y, y1, y2⟩ := ((t2.ch (h' := u) u2 (by decide)).2 u Lu (sameT_refl _ _)).2 5 (Or.inl rfl)
      have y1' : F_X0_holdsIn 47 (pg_r h 14 t) (5 : Int32) u = some (b01 (X t 5 (envN A i (shN A i))).isSome, y) := by
        rw [ex, ← t1.2 5 _ _ u3]
        exact y1
      have Ly := y2.lay Lu (by decide)
      refine ⟨y, ?_, (cx.trans (u2.mono (by decide))).trans (y2.mono (by decide))⟩
      unfold F_X11_late_83
      rw [nR_1_5 Lx.kd Lx.rd, Option.bind_some, nR_1_0 Lx.kd Lx.rd, Option.bind_some, Option.bind_some, nc_50 Lx.kd, sh, Option.bind_some, nc_47 Lx.kd, show (if wrQ A i then shQ A (A (340 + 5 * i + 1)) (A (340 + 5 * i + 2)) else 0) = shN A i from rfl, u1, Option.bind_some, nR_1_5 Lu.kd Lu.rd, Option.bind_some, nc_47 Lu.kd, y1', Option.bind_some, if_bb]
      unfold F_X11_late_126 F_X11_late_129 pg_let
      rw [step]
      unfold lateQ
      rw [e, Bool.true_and, nI_1]
      by_cases z : (X t 5 (envN A i (shN A i))).isSome = true
      · rw [if_pos z, if_pos z, nI_1]
      · rw [if_neg z, if_neg z]
        rw [show nI (lateN A (X t) c i) + (0 : Int32) = nI (lateN A (X t) c i + 0) from nI_add _ 0]
    have ent : F_X11_late_46 (f + 1) 1 c (pg_r h 14 t) 50 (nI (lateN A (X t) c i)) (nI i) x = (if c = -1 then F_X11_late_83 (F_X11_late_46 f) 1 c (pg_r h 14 t) 50 (nI (lateN A (X t) c i)) (nI i) x else if A (340 + 5 * i) = c then F_X11_late_83 (F_X11_late_46 f) 1 c (pg_r h 14 t) 50 (nI (lateN A (X t) c i)) (nI i) x else F_X11_late_129 (F_X11_late_46 f) 1 c (pg_r h 14 t) 50 (nI (lateN A (X t) c i)) (nI i) x) := by
      rw [F_X11_late_46]
      dsimp only
      simp only [k_si, k_sl, k_sr, r_si, r_sl, i_sl, i_sr, l_si, l_sr, Option.bind_some, if_true, if_false, bind_eta2, if_bb, decide_eq_true_eq, pg_let, nR_1_0, nR_2_4, nc_11, Lx.kd, Lx.rd, c_size_11 Cx, if_pos (nI_lt hi (show nN A < 2 ^ 31 by omega)), c_at_11_0 Cx hi]
    show ∃ x', F_X11_late_46 (f + 1) 1 c (pg_r h 14 t) 50 (nI (lateN A (X t) c i)) (nI i) x = F_X11_late_46 f 1 c (pg_r h 14 t) 50 (nI (lateN A (X t) c (i + 1))) (nI (i + 1)) x' ∧ _
    rw [ent]
    by_cases e1 : c = -1
    · rw [if_pos e1]
      exact go (by rw [decide_eq_true e1]; rfl)
    · rw [if_neg e1]
      by_cases e2 : A (340 + 5 * i) = c
      · rw [if_pos e2]
        exact go (by rw [decide_eq_true e2, Bool.or_true])
      · rw [if_neg e2]
        refine ⟨x, ?_, cx⟩
        unfold F_X11_late_129
        rw [step]
        unfold lateQ
        rw [decide_eq_false e1, decide_eq_false e2, nI_1]
        rfl
  · intro f x cx
    have Lx := cx.lay L (by decide)
    have Cx : CNum x 2 A := C.ch cx (by decide)
    refine ⟨x, ?_, cx⟩
    show F_X11_late_46 (f + 1) 1 c (pg_r h 14 t) 50 (nI (lateN A (X t) c (nN A))) (nI (nN A)) x = _
    rw [F_X11_late_46]
    dsimp only
    rw [nR_1_0 Lx.kd Lx.rd, Option.bind_some, nR_2_4 Lx.kd Lx.rd, Option.bind_some, nc_11 Lx.kd, c_size_11 Cx, Option.bind_some, if_neg Int32.lt_irrefl]
theorem m_lateRun {h : pg_H} {A : Nat → Int32} {X : Nat → tX} (L : Lay h) (M : pg_i h 83 = A) {s : Nat} {g : pg_H} (S : ShX g s A X) {t : Nat} (ht : t < nT A) (c : Int32) : ∃ h', F_X12_late_28 pg_fuel 81 (nI t) c 0 0 h = some (nI (lateN A (X t) c (nN A)), h') ∧ Ch [92] mT h h' := by
  obtain ⟨C, K, T⟩ := id S
  have kN : nN A < 201 := K.1.2.2.2.1.2
  have kC : nC A < 13 := K.1.1.2
  have kE : A 1347 = nI (nN A) := K.1.2.2.2.1.1
  obtain ⟨t1, t2, t3⟩ := T t ht
  refine loopI (fun f i x => F_X12_late_28 f 81 (nI t) c (nI (lateN A (X t) c i)) (nI i) x) (nN A) (fun i x => Ch [92] mT h x) (fun o => ∃ h', o = some (nI (lateN A (X t) c (nN A)), h') ∧ Ch [92] mT h h') ?_ ?_ 0 h (Nat.zero_le _) (Ch.refl _ _ _) pg_fuel (by unfold pg_fuel; omega)
  · intro f i x hi cx
    have Lx := cx.lay L (by decide)
    have Mx : pg_i x 83 = A := (cx.row (by decide)).trans M
    have h2 : i < 200 := by omega
    obtain ⟨k0, k1, k2, _, _⟩ := K.2.2.2.2.2.1 i hi
    have b0 : cl A (340 + 5 * i) < nC A := k0.2
    have b1 : cl A (340 + 5 * i + 1) < 60 := k1.2
    have step : lateN A (X t) c (i + 1) = lateN A (X t) c i + (if lateQ A (X t) c i then 1 else 0) := rfl
    have go : (decide (c = -1) || decide (A (340 + 5 * i) = c)) = true → ∃ x', F_X12_late_60 (F_X12_late_28 f) 81 (nI t) c (nI (lateN A (X t) c i)) (nI i) x = F_X12_late_28 f 81 (nI t) c (nI (lateN A (X t) c (i + 1))) (nI (i + 1)) x' ∧ Ch [92] mT h x' := fun e => by
      obtain ⟨u, u1, u2, u3⟩ := m_asksCopy Lx Mx (c := cl A (340 + 5 * i)) (by omega) (cl A (340 + 5 * i + 1) / 5)
      have Lu := u2.lay Lx (by decide)
      have Mu : pg_i u 83 = A := (u2.row (by decide)).trans Mx
      have s0 : Ch [92] [] u (pg_si u 92 0 (A (340 + 5 * i + 1))) := (Ch.refl _ _ _).asi (Or.inl (by decide))
      have s2 := s0.asi (r := 92) (k := 2) (x := A (340 + 5 * i + 2)) (Or.inl (by decide))
      have s3 := s2.asi (r := 92) (k := 3) (x := nI (shN A i)) (Or.inl (by decide))
      have s5 := s3.asi (r := 92) (k := 5) (x := A (340 + 5 * i + 3)) (Or.inl (by decide))
      have s6 := s5.asi (r := 92) (k := 6) (x := A (340 + 5 * i + 4)) (Or.inl (by decide))
      have r6 : ∀ j, j < 9 → pg_i (pg_si (pg_si (pg_si (pg_si (pg_si u 92 0 (A (340 + 5 * i + 1))) 92 2 (A (340 + 5 * i + 2))) 92 3 (nI (shN A i))) 92 5 (A (340 + 5 * i + 3))) 92 6 (A (340 + 5 * i + 4))) 92 j = envN A i (shN A i) j := by
        rw [si_row, si_row, si_row, si_row, si_row]
        exact nine rfl (u3 1 (by decide)) rfl rfl (u3 4 (by decide)) rfl rfl (u3 7 (by decide)) (u3 8 (by decide))
      have ml : ∀ {v : pg_H}, Ch [92] [] u v → Lay v ∧ pg_i v 83 = A := fun z => ⟨z.lay Lu (by decide), (z.row (by decide)).trans Mu⟩
      obtain ⟨La, Ma⟩ := ml s0
      obtain ⟨Lb, Mb⟩ := ml s2
      obtain ⟨Lc, Mc⟩ := ml s3
      obtain ⟨Ld, Md⟩ := ml s5
      obtain ⟨Le, Me⟩ := ml s6
      obtain ⟨y, y1, y2, y3, _⟩ := t3 _ Le (by rw [Me]) (fun k _ => by rw [Me]; exact ⟨rfl, rfl⟩) 5 (by decide)
      rw [t1.2 5 _ _ r6] at y3
      have y1' : F_X12_asks 81 (nI t) (6 : Int32) (pg_si (pg_si (pg_si (pg_si (pg_si u 92 0 (A (340 + 5 * i + 1))) 92 2 (A (340 + 5 * i + 2))) 92 3 (nI (shN A i))) 92 5 (A (340 + 5 * i + 3))) 92 6 (A (340 + 5 * i + 4))) = some y := y1
      have Ly := y2.lay Le (by decide)
      refine ⟨y, ?_, cx.trans (((u2.mono (by decide)).trans (s6.mono (by decide))).trans (y2.mono (by decide)))⟩
      have d5 : A (340 + 5 * i + 1) / (5 : Int32) = nI (cl A (340 + 5 * i + 1) / 5) := by
        rw [k1.1]
        exact nI_div (b := 5) (by omega) (by decide)
      have e0 : A (340 + 5 * i) = nI (cl A (340 + 5 * i)) := k0.1
      have tail : ∀ v, v = nI (shN A i) → F_X12_late_143 (F_X12_late_28 f) 81 (nI t) c (nI (lateN A (X t) c i)) (nI i) v 3 92 (pg_si (pg_si u 92 0 (A (340 + 5 * i + 1))) 92 2 (A (340 + 5 * i + 2))) = F_X12_late_28 f 81 (nI t) c (nI (lateN A (X t) c (i + 1))) (nI (i + 1)) y := fun v ev => by
        rw [ev]
        unfold F_X12_late_143
        rw [ns_92_3 Lb.kd, Option.bind_some, nR_81_22 Lc.kd Lc.rd, Option.bind_some, nc_81 Lc.kd, m_note_3 Lc Mc h2, Option.bind_some, ns_92_5 Lc.kd, Option.bind_some, nR_81_22 Ld.kd Ld.rd, Option.bind_some, nc_81 Ld.kd, m_note_4 Ld Md h2, Option.bind_some, ns_92_6 Ld.kd, Option.bind_some, nc_81 Le.kd, y1', Option.bind_some, ng_81 Ly.kd, Option.bind_some, y3, if_bb]
        unfold F_X12_late_191 F_X12_late_193 pg_let
        rw [step]
        unfold lateQ
        rw [e, Bool.true_and, nI_1]
        by_cases z : (X t 5 (envN A i (shN A i))).isSome = true
        · rw [if_pos z, if_pos z, nI_1]
        · rw [if_neg z, if_neg z]
          rw [show nI (lateN A (X t) c i) + (0 : Int32) = nI (lateN A (X t) c i + 0) from nI_add _ 0]
      unfold F_X12_late_60
      rw [nc_81 Lx.kd, m_note_0 Lx Mx h2, Option.bind_some, nc_81 Lx.kd, m_note_1 Lx Mx h2, Option.bind_some, if_neg (show ¬ ((5 : Int32) = 0) by decide), nc_81 Lx.kd, d5, e0, u1, Option.bind_some, nR_81_22 Lu.kd Lu.rd, Option.bind_some, nc_81 Lu.kd, m_note_1 Lu Mu h2, Option.bind_some, ns_92_0 Lu.kd, Option.bind_some, nR_81_22 La.kd La.rd, Option.bind_some, nc_81 La.kd, m_note_2 La Ma h2, Option.bind_some, ns_92_2 La.kd, Option.bind_some, nR_81_22 Lb.kd Lb.rd, Option.bind_some, nc_81 Lb.kd, m_note_4 Lb Mb h2, Option.bind_some]
      by_cases z : A (340 + 5 * i + 4) = 0
      · rw [if_pos z, nc_81 Lb.kd, m_note_1 Lb Mb h2, Option.bind_some, nc_81 Lb.kd, m_note_2 Lb Mb h2, Option.bind_some, nc_81 Lb.kd, m_sharedBy Lb Mb K, Option.bind_some]
        refine tail _ ?_
        unfold shN wrQ
        rw [if_pos (decide_eq_true z)]
      · rw [if_neg z]
        refine tail _ ?_
        unfold shN wrQ
        rw [if_neg (by rw [decide_eq_false z]; decide)]
        rfl
    have ent : F_X12_late_28 (f + 1) 81 (nI t) c (nI (lateN A (X t) c i)) (nI i) x = (if c = -1 then F_X12_late_60 (F_X12_late_28 f) 81 (nI t) c (nI (lateN A (X t) c i)) (nI i) x else if A (340 + 5 * i) = c then F_X12_late_60 (F_X12_late_28 f) 81 (nI t) c (nI (lateN A (X t) c i)) (nI i) x else F_X12_late_193 (F_X12_late_28 f) 81 (nI t) c (nI (lateN A (X t) c i)) (nI i) x) := by
      rw [F_X12_late_28]
      dsimp only
      rw [nR_81_3 Lx.kd Lx.rd, Option.bind_some, m_k_1347 Lx Mx, kE, Option.bind_some, if_pos (nI_lt hi (by omega)), nc_81 Lx.kd, m_note_0 Lx Mx h2, Option.bind_some]
    show ∃ x', F_X12_late_28 (f + 1) 81 (nI t) c (nI (lateN A (X t) c i)) (nI i) x = F_X12_late_28 f 81 (nI t) c (nI (lateN A (X t) c (i + 1))) (nI (i + 1)) x' ∧ _
    rw [ent]
    by_cases e1 : c = -1
    · rw [if_pos e1]
      exact go (by rw [decide_eq_true e1]; rfl)
    · rw [if_neg e1]
      by_cases e2 : A (340 + 5 * i) = c
      · rw [if_pos e2]
        exact go (by rw [decide_eq_true e2, Bool.or_true])
      · rw [if_neg e2]
        refine ⟨x, ?_, cx⟩
        unfold F_X12_late_193
        rw [step]
        unfold lateQ
        rw [decide_eq_false e1, decide_eq_false e2, nI_1]
        rfl
  · intro f x cx
    have Lx := cx.lay L (by decide)
    have Mx : pg_i x 83 = A := (cx.row (by decide)).trans M
    refine ⟨x, ?_, cx⟩
    show F_X12_late_28 (f + 1) 81 (nI t) c (nI (lateN A (X t) c (nN A))) (nI (nN A)) x = _
    rw [F_X12_late_28]
    dsimp only
    rw [nR_81_3 Lx.kd Lx.rd, Option.bind_some, m_k_1347 Lx Mx, kE, Option.bind_some, if_neg Int32.lt_irrefl]
theorem sim_late : Sim_late Inv := by
  intro x1 x2 q h hq I
  show SimB q h (F_X11_late 1 x1 x2) (F_X12_late 81 x1 x2)
  have L := I.1
  have D := L.kd
  have R := L.rd
  obtain ⟨C, K⟩ := I.sh
  have kT : nT (pg_i h 83) < 9 := K.1.2.2.2.2.2
  by_cases c1 : 0 ≤ x1 ∧ x1 < nI (nT (pg_i h 83))
  · by_cases c2 : x2 = -1 ∨ (0 ≤ x2 ∧ x2 < nI (nC (pg_i h 83)))
    · obtain ⟨t, ht, rfl⟩ := in_nI c1 (by omega)
      obtain ⟨g, f1, f2, f3, X, Y0, Y1, S, i0, i1, rd, st, gr⟩ := c_freshR I
      have Lg : Lay g := f2.lay L (by decide)
      have Sg : ShX g 2 (pg_i h 83) X := S.ch f2 (by decide) (by decide)
      have rf : pg_r g 14 t = pg_r h 14 t := by rw [f2.rr]
      have r0 : ¬ pg_r h 14 t = 0 := by
        have := (S.2.2 t ht).2.1.1.1
        show ¬ pg_r h (2 + 12) t = 0
        omega
      obtain ⟨y, y1, y2⟩ := c_lateRun Lg Sg rd ht x2
      rw [rf] at y1
      have Ly := y2.lay Lg (by decide)
      have My : pg_i y 83 = pg_i h 83 := (y2.row (by decide)).trans (f2.row (by decide))
      obtain ⟨z, z1, z2⟩ := m_lateRun Ly My S ht x2
      have gz : Ch [48, 49, 92] ((47, 2) :: mT) g z := (y2.mono (by decide)).trans (z2.mono (by decide))
      have all : Ch rS rT h z := (f2.mono (by decide)).trans (gz.mono (by decide))
      have mid : F_X11_late 1 (nI t) x2 h = F_X11_late_34 1 x2 (pg_r h 14 t) h := by
        unfold F_X11_late
        simp only [k_si, k_sl, k_sr, r_si, r_sl, i_sl, i_sr, l_si, l_sr, Option.bind_some, if_true, if_false, bind_eta2, if_bb, decide_eq_true_eq, pg_let, nR_1_0, nR_2_0, nc_2, nc_3, D, R, c_textOf L C K, if_pos c1, nI_clamp (show t < 2 ^ 31 by omega), if_neg r0, c_holds_3 C]
        by_cases e : x2 = -1
        · rw [if_pos e]
        · rw [if_neg e, if_pos (c2.resolve_left e)]
      have mid2 : F_X12_late 81 (nI t) x2 y = F_X12_late_23 81 (nI t) x2 y := by
        unfold F_X12_late
        simp only [k_si, k_sl, k_sr, r_si, r_sl, i_sl, i_sr, l_si, l_sr, Option.bind_some, if_true, if_false, bind_eta2, if_bb, decide_eq_true_eq, pg_let, nc_81, Ly.kd, m_isText Ly My K, if_pos c1, m_isCopy Ly My K]
        by_cases e : x2 = -1
        · rw [if_pos e]
        · rw [if_neg e, if_pos (c2.resolve_left e)]
      refine ⟨nI (lateN (pg_i h 83) (X t) x2 (nN (pg_i h 83))), y, z, ?_, Ly, ?_, I.read all ?_ S i0 i1 (rd.ch gz (by decide)) st gr, all.few⟩
      · rw [mid]
        unfold F_X11_late_34
        rw [nc_1 D, f1, Option.bind_some]
        exact y1
      · rw [mid2]
        exact z1
      · rw [gz.atM (R := []) (F := [(1, 14)]) (by decide) (by decide), f3]
    · have e : ¬ x2 = -1 := fun z => c2 (Or.inl z)
      have e2 : ¬ (0 ≤ x2 ∧ x2 < nI (nC (pg_i h 83))) := fun z => c2 (Or.inr z)
      obtain ⟨t, ht, rfl⟩ := in_nI c1 (by omega)
      obtain ⟨_, _, _, _, _, X, _, _, S, _⟩ := id I
      have r0 : ¬ pg_r h 14 t = 0 := by
        have := (S.2.2 t ht).2.1.1.1
        show ¬ pg_r h (2 + 12) t = 0
        omega
      refine SimB.none I (-1) ?_ ?_
      · unfold F_X11_late
        simp only [k_si, k_sl, k_sr, r_si, r_sl, i_sl, i_sr, l_si, l_sr, Option.bind_some, if_true, if_false, bind_eta2, if_bb, decide_eq_true_eq, pg_let, nR_1_0, nR_2_0, nc_2, nc_3, D, R, c_textOf L C K, if_pos c1, nI_clamp (show t < 2 ^ 31 by omega), if_neg r0, c_holds_3 C, if_neg e, if_neg e2]
      · unfold F_X12_late
        simp only [k_si, k_sl, k_sr, r_si, r_sl, i_sl, i_sr, l_si, l_sr, Option.bind_some, if_true, if_false, bind_eta2, if_bb, decide_eq_true_eq, pg_let, nc_81, D, m_isText L rfl K, if_pos c1, m_isCopy L rfl K, if_neg e, if_neg e2]
  · refine SimB.none I (-1) ?_ ?_
    · unfold F_X11_late
      simp only [k_si, k_sl, k_sr, r_si, r_sl, i_sl, i_sr, l_si, l_sr, Option.bind_some, if_true, if_false, bind_eta2, if_bb, decide_eq_true_eq, pg_let, nR_1_0, nc_2, D, R, c_textOf L C K, if_neg c1]
    · unfold F_X12_late
      simp only [k_si, k_sl, k_sr, r_si, r_sl, i_sl, i_sr, l_si, l_sr, Option.bind_some, if_true, if_false, bind_eta2, if_bb, decide_eq_true_eq, pg_let, nc_81, D, m_isText L rfl K, if_neg c1]
