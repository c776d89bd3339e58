/-! FAMILIES: both sides -/
def fmR (A : Nat → Int32) (b b2 : Nat) (lab : Nat → Nat) (f j : Nat) : Bool := decide (j ≠ b2) && (decide (j ≠ b) && decide (lab j = f))
theorem fmR_iff {A : Nat → Int32} {b b2 : Nat} {lab : Nat → Nat} {f j : Nat} : fmR A b b2 lab f j = true ↔ j ≠ b2 ∧ j ≠ b ∧ lab j = f := by
  unfold fmR
  rw [Bool.and_eq_true, Bool.and_eq_true, decide_eq_true_eq, decide_eq_true_eq, decide_eq_true_eq]
theorem fam_eq {A : Nat → Int32} (K : ShOK A) {w : Nat → Nat → Nat} {b b2 : Nat} {lab : Nat → Nat} (I : IsLab (gB A b) (nrB A w) lab) : famN (gB A b) (gB A b2) lab 12 = sumN (nC A) fun f => if anyN (nC A) (fmR A b b2 lab f) then 1 else 0 := by
  have kC : nC A < 13 := K.1.1.2
  have e : ∀ f, anyN 12 (fun j => gB A b2 j && (gB A b j && decide (lab j = f))) = anyN (nC A) (fmR A b b2 lab f) := fun f => by
    rw [Bool.eq_iff_iff, anyN_true, anyN_true]
    constructor
    · rintro ⟨j, hj, q⟩
      rw [Bool.and_eq_true, Bool.and_eq_true, gB_iff, gB_iff, decide_eq_true_eq] at q
      exact ⟨j, q.1.1, fmR_iff.mpr ⟨q.1.2, q.2.1.2, q.2.2⟩⟩
    · rintro ⟨j, hj, q⟩
      obtain ⟨q1, q2, q3⟩ := fmR_iff.mp q
      refine ⟨j, by omega, ?_⟩
      rw [Bool.and_eq_true, Bool.and_eq_true, gB_iff, gB_iff, decide_eq_true_eq]
      exact ⟨⟨hj, q1⟩, ⟨hj, q2⟩, q3⟩
  unfold famN
  rw [sumN_ext (n := nC A) (m := 12) (by omega) (fun f h1 h2 => ?_)]
  · exact sumN_cong (fun f _ => by rw [e f])
  · rw [e f, if_neg]
    rw [Bool.not_eq_true, anyN_false]
    intro j hj
    rw [← Bool.not_eq_true, fmR_iff]
    rintro ⟨_, q2, q3⟩
    have := (I.1 j (gB_iff.mpr ⟨hj, q2⟩)).2.1
    omega
theorem m_familiesBut {h : pg_H} {A : Nat → Int32} (L : Lay h) (M : pg_i h 83 = A) (K : ShOK A) {w : Nat → Nat → Nat} {b b2 : Nat} {bI : Int32} (hb : ∀ j, j < 12 → (nI j = bI ↔ j = b2)) {lab : Nat → Nat} (I : IsLab (gB A b) (nrB A w) lab) (R : LbR h (nC A) b lab) : F_X12_familiesBut h 81 bI = some (nI (famN (gB A b) (gB A b2) lab 12)) := by
  have kC : nC A < 13 := K.1.1.2
  have kE1 : A 1344 = nI (nC A) := K.1.1.1
  rw [fam_eq K I]
  unfold F_X12_familiesBut
  refine loopI (fun f i (_ : Unit) => F_X12_familiesBut_4 h f 81 bI (nI (sumN i fun f => if anyN (nC A) (fmR A b b2 lab f) then 1 else 0)) (nI i)) (nC A) (fun _ _ => True) (fun o => o = some (nI (sumN (nC A) fun f => if anyN (nC A) (fmR A b b2 lab f) then 1 else 0))) ?_ ?_ 0 () (Nat.zero_le _) trivial pg_fuel (by unfold pg_fuel; omega)
  · intro f i _ hi _
    refine ⟨(), ?_, trivial⟩
    show F_X12_familiesBut_4 h (f + 1) 81 bI (nI (sumN i fun f => if anyN (nC A) (fmR A b b2 lab f) then 1 else 0)) (nI i) = F_X12_familiesBut_4 h f 81 bI (nI (sumN i (fun f => if anyN (nC A) (fmR A b b2 lab f) then 1 else 0) + if anyN (nC A) (fmR A b b2 lab i) then 1 else 0)) (nI (i + 1))
    rw [F_X12_familiesBut_4]
    dsimp only
    rw [nc_81 L.kd, m_copiesA L M, kE1, Option.bind_some, if_pos (nI_lt hi (by omega))]
    generalize sumN i (fun f => if anyN (nC A) (fmR A b b2 lab f) then 1 else 0) = s
    refine loopI (fun f2 j (_ : Unit) => F_X12_familiesBut_18 h (F_X12_familiesBut_4 h f) f2 81 bI (nI s) (nI i) (b01 (anyN j (fmR A b b2 lab i))) (nI j)) (nC A) (fun _ _ => True) (fun o => o = F_X12_familiesBut_4 h f 81 bI (nI (s + if anyN (nC A) (fmR A b b2 lab i) then 1 else 0)) (nI (i + 1))) ?_ ?_ 0 () (Nat.zero_le _) trivial pg_fuel (by unfold pg_fuel; omega)
    · intro f2 j _ hj _
      refine ⟨(), ?_, trivial⟩
      have j12 : j < 12 := by omega
      have f54 : ∀ v, F_X12_familiesBut_54 h (F_X12_familiesBut_18 h (F_X12_familiesBut_4 h f) f2) 81 bI (nI s) (nI i) (nI j) v = F_X12_familiesBut_18 h (F_X12_familiesBut_4 h f) f2 81 bI (nI s) (nI i) v (nI (j + 1)) := fun v => by
        unfold F_X12_familiesBut_54
        rw [nI_1]
      have f49 : F_X12_familiesBut_49 h (F_X12_familiesBut_18 h (F_X12_familiesBut_4 h f) f2) 81 bI (nI s) (nI i) (nI j) = F_X12_familiesBut_18 h (F_X12_familiesBut_4 h f) f2 81 bI (nI s) (nI i) (b01 true) (nI (j + 1)) := f54 1
      have f53 : F_X12_familiesBut_53 h (F_X12_familiesBut_18 h (F_X12_familiesBut_4 h f) f2) 81 bI (nI s) (nI i) (nI j) = F_X12_familiesBut_18 h (F_X12_familiesBut_4 h f) f2 81 bI (nI s) (nI i) (b01 false) (nI (j + 1)) := f54 0
      show F_X12_familiesBut_18 h (F_X12_familiesBut_4 h f) (f2 + 1) 81 bI (nI s) (nI i) (b01 (anyN j (fmR A b b2 lab i))) (nI j) = F_X12_familiesBut_18 h (F_X12_familiesBut_4 h f) f2 81 bI (nI s) (nI i) (b01 (anyN j (fmR A b b2 lab i) || fmR A b b2 lab i j)) (nI (j + 1))
      rw [F_X12_familiesBut_18]
      dsimp only
      rw [nc_81 L.kd, m_copiesA L M, kE1, Option.bind_some, if_pos (nI_lt hj (by omega)), if_bb, f49, f53]
      cases an : anyN j (fmR A b b2 lab i) with
      | true => rw [if_pos rfl, Bool.true_or]
      | false =>
        rw [if_neg (by decide), Bool.false_or]
        by_cases e : j = b2
        · rw [if_pos ((hb j j12).mpr e)]
          have : fmR A b b2 lab i j = false := by
            rw [← Bool.not_eq_true, fmR_iff]
            exact fun z => z.1 e
          rw [this]
        · rw [if_neg (fun z => e ((hb j j12).mp z)), nR_81_33 L.kd L.rd, Option.bind_some, na_99 L.kd j12, Option.bind_some, R j hj]
          by_cases e3 : j = b
          · have : fmR A b b2 lab i j = false := by
              rw [← Bool.not_eq_true, fmR_iff]
              exact fun z => z.2.1 e3
            rw [if_pos e3, if_neg (show ¬ (-1 : Int32) = nI i from fun z => neg1_ne (by omega) z.symm), this]
          · have lj := (I.1 j (gB_iff.mpr ⟨hj, e3⟩)).2.1
            rw [if_neg e3]
            by_cases e4 : lab j = i
            · rw [if_pos (congrArg nI e4), fmR_iff.mpr ⟨e, e3, e4⟩]
            · have : fmR A b b2 lab i j = false := by
                rw [← Bool.not_eq_true, fmR_iff]
                exact fun z => e4 z.2.2
              rw [if_neg (fun z => e4 ((nI_eq (by omega) (by omega)).mp z)), this]
    · intro f2 _ _
      have f73 : ∀ v t, F_X12_familiesBut_73 h (F_X12_familiesBut_4 h f) 81 bI (nI i) v t = F_X12_familiesBut_4 h f 81 bI (t + v) (nI (i + 1)) := fun v t => by
        unfold F_X12_familiesBut_73 pg_let
        rw [nI_1]
      show F_X12_familiesBut_18 h (F_X12_familiesBut_4 h f) (f2 + 1) 81 bI (nI s) (nI i) (b01 (anyN (nC A) (fmR A b b2 lab i))) (nI (nC A)) = _
      rw [F_X12_familiesBut_18]
      dsimp only
      rw [nc_81 L.kd, m_copiesA L M, kE1, Option.bind_some, if_neg Int32.lt_irrefl, if_bb, f73, f73]
      cases an : anyN (nC A) (fmR A b b2 lab i) with
      | true => rw [if_pos rfl, if_pos rfl, nI_1]
      | false =>
        rw [if_neg (by decide), if_neg (by decide)]
        rw [show (0 : Int32) = nI 0 from rfl, nI_add]
  · intro f _ _
    show F_X12_familiesBut_4 h (f + 1) 81 bI _ (nI (nC A)) = _
    rw [F_X12_familiesBut_4]
    dsimp only
    rw [nc_81 L.kd, m_copiesA L M, kE1, Option.bind_some, if_neg Int32.lt_irrefl]
theorem but_none : ∀ j, j < 12 → (nI j = (-1 : Int32) ↔ j = 12) := fun j hj => ⟨fun z => absurd z (neg1_ne (by omega)), fun z => by omega⟩
theorem but_some {c : Nat} (hc : c < 12) : ∀ j, j < 12 → (nI j = nI c ↔ j = c) := fun j hj => nI_eq (by omega) (by omega)
theorem gB_lt {A : Nat → Int32} (K : ShOK A) {b j : Nat} (h : gB A b j = true) : j < 12 := by
  have kC : nC A < 13 := K.1.1.2
  have := (gB_iff.mp h).1
  omega
theorem all_gB {A : Nat → Int32} (K : ShOK A) : mk 12 (fun j => decide (j < nC A)) = mk 12 (gB A 12) := mk_cong (fun j hj => by
  unfold gB
  rw [decide_eq_true (show j ≠ 12 by omega), Bool.and_true])
theorem oth_gB {A : Nat → Int32} {c : Nat} : mk 12 (fun j => decide (j < nC A) && !decide (j = c)) = mk 12 (gB A c) := mk_cong (fun j hj => by
  unfold gB
  rw [← decide_not])
theorem sim_families : Sim_families Inv := by
  intro q h hq I
  show SimB q h (F_X11_families 1) (F_X12_families 81)
  have L := I.1
  have D := L.kd
  have R := L.rd
  obtain ⟨C, K⟩ := I.sh
  obtain ⟨g, f1, f2, f3, X, Y0, Y1, S, i0, i1, rd, st, gr⟩ := c_freshR I
  have hw : wOK (wg (pg_i h 83) (uX (pg_i h 83) X)) := fun p v => wg_le S p v
  have Lg : Lay g := f2.lay L (by decide)
  have Cg : CNum g 2 (pg_i h 83) := C.ch f2 (by decide)
  obtain ⟨_, lab, _, _, IL, _⟩ := m_joinsAll L rfl S but_none
  obtain ⟨g2, c1, c2⟩ := c_familiesOf Lg Cg K hw rd (Mb := gB (pg_i h 83) 12) (fun j => gB_lt K) IL
  have Lg2 := c2.lay Lg (by decide)
  have Mg2 : pg_i g2 83 = pg_i h 83 := (c2.row (by decide)).trans (f2.row (by decide))
  obtain ⟨y, lab2, y1, y2, y3, y4⟩ := m_joinsAll Lg2 Mg2 S but_none
  have Ly := y2.lay Lg2 (by decide)
  have My : pg_i y 83 = pg_i h 83 := (y2.row (by decide)).trans Mg2
  have mb := m_familiesBut Ly My K (b2 := 12) but_none y3 y4
  have gy : Ch [58, 92, 93, 98, 99] mT g y := (c2.mono (by decide)).trans (y2.mono (by decide))
  have all : Ch rS rT h y := (f2.mono (by decide)).trans (gy.mono (by decide))
  have el : famN (gB (pg_i h 83) 12) (gB (pg_i h 83) 12) lab2 12 = famN (gB (pg_i h 83) 12) (gB (pg_i h 83) 12) lab 12 := fam_one y3 IL
  rw [el] at mb
  refine ⟨nI (famN (gB (pg_i h 83) 12) (gB (pg_i h 83) 12) lab 12), g2, y, ?_, Lg2, ?_, I.read all ?_ S i0 i1 (rd.ch gy (by decide)) st gr, all.few⟩
  · unfold F_X11_families
    simp only [k_si, k_sl, k_sr, r_si, r_sl, i_sl, i_sr, l_si, l_sr, Option.bind_some, if_true, if_false, bind_eta2, if_bb, decide_eq_true_eq, pg_let, nR_1_0, nc_1, nc_2, nc_50, D, R, Lg.kd, Lg.rd, c_allCopies L C K, f1, all_gB K, c1]
  · unfold F_X12_families
    simp only [k_si, k_sl, k_sr, r_si, r_sl, i_sl, i_sr, l_si, l_sr, Option.bind_some, if_true, if_false, bind_eta2, if_bb, decide_eq_true_eq, pg_let, nc_81, Lg2.kd, Ly.kd, y1, mb]
  · rw [gy.atM (R := []) (F := [(1, 14)]) (by decide) (by decide), f3]
theorem sim_family : Sim_family Inv := by
  intro x1 q h hq I
  show SimB q h (F_X11_family 1 x1) (F_X12_family 81 x1)
  have L := I.1
  have D := L.kd
  have R := L.rd
  obtain ⟨C, K⟩ := I.sh
  have kC : nC (pg_i h 83) < 13 := K.1.1.2
  by_cases c0 : 0 ≤ x1 ∧ x1 < nI (nC (pg_i h 83))
  · obtain ⟨c, hc, rfl⟩ := in_nI c0 (by omega)
    obtain ⟨g, f1, f2, f3, X, Y0, Y1, S, i0, i1, rd, st, gr⟩ := c_freshR I
    have hw : wOK (wg (pg_i h 83) (uX (pg_i h 83) X)) := fun p v => wg_le S p v
    have Lg : Lay g := f2.lay L (by decide)
    have Cg : CNum g 2 (pg_i h 83) := C.ch f2 (by decide)
    obtain ⟨_, lab, _, _, IL, _⟩ := m_joinsAll L rfl S but_none
    have IL' : IsLab (fun j => decide (j < nC (pg_i h 83))) (nrB (pg_i h 83) (wg (pg_i h 83) (uX (pg_i h 83) X))) lab := by
      have e : gB (pg_i h 83) 12 = fun j => decide (j < nC (pg_i h 83)) := by
        funext j
        unfold gB
        by_cases z : j < nC (pg_i h 83)
        · rw [decide_eq_true (show j ≠ 12 by omega), Bool.and_true]
        · rw [decide_eq_false z, Bool.false_and]
      rw [← e]
      exact IL
    obtain ⟨g2, F, c1, c2, c3⟩ := c_familyOf Lg Cg K hw rd hc IL'
    have Lg2 := c2.lay Lg (by decide)
    have Mg2 : pg_i g2 83 = pg_i h 83 := (c2.row (by decide)).trans (f2.row (by decide))
    obtain ⟨y, lab2, y1, y2, y3, y4⟩ := m_joinsAll Lg2 Mg2 S but_none
    have Ly := y2.lay Lg2 (by decide)
    have gy : Ch [58, 92, 93, 98, 99] mT g y := (c2.mono (by decide)).trans (y2.mono (by decide))
    have all : Ch rS rT h y := (f2.mono (by decide)).trans (gy.mono (by decide))
    have gc : gB (pg_i h 83) 12 c = true := gB_iff.mpr ⟨hc, by omega⟩
    have e2 := y4 c hc
    rw [if_neg (show c ≠ 12 by omega), lab_one y3 IL gc] at e2
    refine ⟨nI (lab c), g2, y, ?_, Lg2, ?_, I.read all ?_ S i0 i1 (rd.ch gy (by decide)) st gr, all.few⟩
    · unfold F_X11_family
      simp only [k_si, k_sl, k_sr, r_si, r_sl, i_sl, i_sr, l_si, l_sr, Option.bind_some, if_true, if_false, bind_eta2, if_bb, decide_eq_true_eq, pg_let, nR_1_0, nR_2_0, nc_1, nc_2, nc_3, nc_50, D, R, Lg.kd, Lg.rd, c_holds_3 C, if_pos c0, c_allCopies Lg Cg K, f1, c1, c3]
    · unfold F_X12_family
      simp only [k_si, k_sl, k_sr, r_si, r_sl, i_sl, i_sr, l_si, l_sr, Option.bind_some, if_true, if_false, bind_eta2, if_bb, decide_eq_true_eq, pg_let, nc_81, Lg2.kd, Ly.kd, Ly.rd, nR_81_33, m_isCopy Lg2 Mg2 K, if_pos c0, y1, na_99 Ly.kd (show c < 12 by omega), e2]
    · rw [gy.atM (R := []) (F := [(1, 14)]) (by decide) (by decide), f3]
  · refine SimB.none I (-1) ?_ ?_
    · unfold F_X11_family
      simp only [k_si, k_sl, k_sr, r_si, r_sl, i_sl, i_sr, l_si, l_sr, Option.bind_some, if_true, if_false, bind_eta2, if_bb, decide_eq_true_eq, pg_let, nR_1_0, nR_2_0, nc_3, D, R, c_holds_3 C, if_neg c0]
    · unfold F_X12_family
      simp only [k_si, k_sl, k_sr, r_si, r_sl, i_sl, i_sr, l_si, l_sr, Option.bind_some, if_true, if_false, bind_eta2, if_bb, decide_eq_true_eq, pg_let, nc_81, D, m_isCopy L rfl K, if_neg c0]
theorem sim_joins : Sim_joins Inv := by
  intro x1 q h hq I
  show SimB q h (F_X11_joins 1 x1) (F_X12_joins 81 x1)
  have L := I.1
  have D := L.kd
  have R := L.rd
  obtain ⟨C, K⟩ := I.sh
  have kC : nC (pg_i h 83) < 13 := K.1.1.2
  by_cases c0 : 0 ≤ x1 ∧ x1 < nI (nC (pg_i h 83))
  · obtain ⟨c, hc, rfl⟩ := in_nI c0 (by omega)
    have c12 : c < 12 := by omega
    obtain ⟨g, f1, f2, f3, X, Y0, Y1, S, i0, i1, rd, st, gr⟩ := c_freshR I
    have hw : wOK (wg (pg_i h 83) (uX (pg_i h 83) X)) := fun p v => wg_le S p v
    have Lg : Lay g := f2.lay L (by decide)
    have Cg : CNum g 2 (pg_i h 83) := C.ch f2 (by decide)
    obtain ⟨_, labc, _, _, ILc, _⟩ := m_joinsAll L rfl S (but_some c12)
    obtain ⟨_, lab, _, _, IL, _⟩ := m_joinsAll L rfl S but_none
    obtain ⟨g2, c1, c2⟩ := c_familiesOf Lg Cg K hw rd (Mb := gB (pg_i h 83) c) (fun j => gB_lt K) ILc
    have Lg2 := c2.lay Lg (by decide)
    have Cg2 : CNum g2 2 (pg_i h 83) := Cg.ch c2 (by decide)
    obtain ⟨g3, d1, d2⟩ := c_familiesOf Lg2 Cg2 K hw (rd.ch c2 (by decide)) (Mb := gB (pg_i h 83) c) (fun j => gB_lt K) IL
    have Lg3 := d2.lay Lg2 (by decide)
    have Mg3 : pg_i g3 83 = pg_i h 83 := (d2.row (by decide)).trans ((c2.row (by decide)).trans (f2.row (by decide)))
    obtain ⟨y, lab1, y1, y2, y3, y4⟩ := m_joinsAll Lg3 Mg3 S (but_some c12)
    have Ly := y2.lay Lg3 (by decide)
    have My : pg_i y 83 = pg_i h 83 := (y2.row (by decide)).trans Mg3
    have mb1 := m_familiesBut Ly My K (but_some c12) y3 y4
    obtain ⟨z, lab2, z1, z2, z3, z4⟩ := m_joinsAll Ly My S but_none
    have Lz := z2.lay Ly (by decide)
    have Mz : pg_i z 83 = pg_i h 83 := (z2.row (by decide)).trans My
    have mb2 := m_familiesBut Lz Mz K (but_some c12) z3 z4
    rw [fam_one y3 ILc] at mb1
    rw [fam_one z3 IL] at mb2
    have gz : Ch [58, 92, 93, 98, 99] mT g z := (c2.mono (by decide)).trans ((d2.mono (by decide)).trans ((y2.mono (by decide)).trans (z2.mono (by decide))))
    have all : Ch rS rT h z := (f2.mono (by decide)).trans (gz.mono (by decide))
    have eo : nI (mk 12 (gB (pg_i h 83) 12)) &&& (nI (2 ^ c) ^^^ (-1 : Int32)) = nI (mk 12 (gB (pg_i h 83) c)) := by
      rw [← all_gB K, mk_pow c12, ix_not 12 _ _ (by decide), oth_gB]
    refine ⟨nI (famN (gB (pg_i h 83) c) (gB (pg_i h 83) c) labc 12) - nI (famN (gB (pg_i h 83) 12) (gB (pg_i h 83) c) lab 12), g3, z, ?_, Lg3, ?_, I.read all ?_ S i0 i1 (rd.ch gz (by decide)) st gr, all.few⟩
    · unfold F_X11_joins
      simp only [k_si, k_sl, k_sr, r_si, r_sl, i_sl, i_sr, l_si, l_sr, Option.bind_some, if_true, if_false, bind_eta2, if_bb, decide_eq_true_eq, pg_let, nR_1_0, nR_2_0, nc_1, nc_2, nc_3, nc_50, D, R, Lg.kd, Lg.rd, Lg2.kd, Lg2.rd, c_holds_3 C, if_pos c0, c_allCopies L C K, all_gB K, ix_shl c (show c < 32 by omega), eo, f1, c1, d1]
    · unfold F_X12_joins
      simp only [k_si, k_sl, k_sr, r_si, r_sl, i_sl, i_sr, l_si, l_sr, Option.bind_some, if_true, if_false, bind_eta2, if_bb, decide_eq_true_eq, pg_let, nc_81, Lg3.kd, Ly.kd, Lz.kd, m_isCopy Lg3 Mg3 K, if_pos c0, y1, mb1, z1, mb2]
    · rw [gz.atM (R := []) (F := [(1, 14)]) (by decide) (by decide), f3]
  · refine SimB.none I (-1000000) ?_ ?_
    · unfold F_X11_joins
      simp only [k_si, k_sl, k_sr, r_si, r_sl, i_sl, i_sr, l_si, l_sr, Option.bind_some, if_true, if_false, bind_eta2, if_bb, decide_eq_true_eq, pg_let, nR_1_0, nR_2_0, nc_3, D, R, c_holds_3 C, if_neg c0]
    · unfold F_X12_joins
      simp only [k_si, k_sl, k_sr, r_si, r_sl, i_sl, i_sr, l_si, l_sr, Option.bind_some, if_true, if_false, bind_eta2, if_bb, decide_eq_true_eq, pg_let, nc_81, D, m_isCopy L rfl K, if_neg c0]
