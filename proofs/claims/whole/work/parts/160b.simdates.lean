/-! dates: the last years, both sides -/
def lastT (A : Nat → Int32) (T dd : Nat → Nat) (c i : Nat) : Nat := foldN i (fun e x => if ancQ T e c (dd e) then min x (lastY A (nI e)) else x) (lastY A (nI c))
theorem lastT_le {A : Nat → Int32} {T dd : Nat → Nat} {c i : Nat} : lastT A T dd c i ≤ 400 := by
  refine foldN_inv (fun x => x ≤ 400) (lastY_le _) (fun e x _ h => ?_)
  split <;> omega
theorem lastT_succ (A : Nat → Int32) (T dd : Nat → Nat) (c i : Nat) : lastT A T dd c (i + 1) = if ancQ T i c (dd i) then min (lastT A T dd c i) (lastY A (nI i)) else lastT A T dd c i := rfl
def ddOK (n : Nat) (T dd : Nat → Nat) : Prop := ∀ c, c < n → 1 ≤ dd c ∧ dd c ≤ n ∧ up T (dd c) (c + 1) = 0 ∧ ∀ i, i < dd c → 1 ≤ up T i (c + 1) ∧ up T i (c + 1) ≤ n
theorem c_lastByTree {h : pg_H} {A : Nat → Int32} {T dd : Nat → Nat} (L : Lay h) (C : CNum h 2 A) (K : ShOK A) (t2 : ∀ c, c < 12 → pg_i h 66 c = if c < nC A ∧ T c ≠ 0 then nI (T c - 1) else -1) (hd : ddOK (nC A) T dd) {c : Nat} (hc : c < nC A) : F_X11_lastYearByTree h 1 59 (nI c) = some (nI (lastT A T dd c (nC A))) := by
  have kC : nC A < 13 := K.1.1.2
  unfold F_X11_lastYearByTree
  rw [nR_1_0 L.kd L.rd, Option.bind_some, nc_2 L.kd, c_lastYear L C K, Option.bind_some]
  refine loopI (fun f e (_ : Unit) => F_X11_lastYearByTree_12 h f 1 59 (nI c) (nI (lastT A T dd c e)) (nI e)) (nC A) (fun _ _ => True) (fun o => o = some (nI (lastT A T dd c (nC A)))) ?_ ?_ 0 () (Nat.zero_le _) trivial pg_fuel (by unfold pg_fuel; omega)
  · intro f e _ he _
    obtain ⟨z1, z2, z3, z4⟩ := hd e he
    have lb := lastT_le (A := A) (T := T) (dd := dd) (c := c) (i := e)
    have yb := lastY_le (A := A) (nI e)
    refine ⟨(), ?_, trivial⟩
    show F_X11_lastYearByTree_12 h (f + 1) 1 59 (nI c) (nI (lastT A T dd c e)) (nI e) = _
    rw [F_X11_lastYearByTree_12]
    unfold F_X11_lastYearByTree_51 pg_let
    dsimp only
    rw [nR_1_0 L.kd L.rd, Option.bind_some, nR_2_0 L.kd L.rd, Option.bind_some, nc_3 L.kd, c_size_3 C, Option.bind_some, if_pos (nI_lt he (by omega)), nc_59 L.kd, c_comesOf L (by omega) t2 he hc z1 z2 z3 z4, Option.bind_some, if_bb, nI_1, lastT_succ]
    cases ancQ T e c (dd e) with
    | false => rw [if_neg (show ¬ false = true by decide), if_neg (show ¬ false = true by decide)]
    | true => rw [if_pos rfl, if_pos rfl, Option.bind_some, nc_2 L.kd, c_lastYear L C K, Option.bind_some, nI_min (by omega) (by omega)]
  · intro f _ _
    show F_X11_lastYearByTree_12 h (f + 1) 1 59 (nI c) (nI (lastT A T dd c (nC A))) (nI (nC A)) = _
    rw [F_X11_lastYearByTree_12]
    dsimp only
    rw [nR_1_0 L.kd L.rd, Option.bind_some, nR_2_0 L.kd L.rd, Option.bind_some, nc_3 L.kd, c_size_3 C, Option.bind_some, if_neg Int32.lt_irrefl]
theorem m_lastByTree {h : pg_H} {A : Nat → Int32} {T dd : Nat → Nat} (L : Lay h) (M : pg_i h 83 = A) (K : ShOK A) (t2 : ∀ c, c < nC A → pg_i h 97 c = nI (kE (T c))) (hd : ddOK (nC A) T dd) {c : Nat} (hc : c < nC A) : F_X12_dates_64 81 (nI c) 3 (nI (lastY A (nI c))) h = some (nI (lastT A T dd c (nC A)), h) := by
  have kC : nC A < 13 := K.1.1.2
  have kE1 : A 1344 = nI (nC A) := K.1.1.1
  unfold F_X12_dates_64
  refine loopI (fun f e (_ : Unit) => F_X12_dates_68 f 81 (nI c) 3 (nI (lastT A T dd c e)) (nI e) h) (nC A) (fun _ _ => True) (fun o => o = some (nI (lastT A T dd c (nC A)), h)) ?_ ?_ 0 () (Nat.zero_le _) trivial pg_fuel (by unfold pg_fuel; omega)
  · intro f e _ he _
    obtain ⟨z1, z2, z3, z4⟩ := hd e he
    have lb := lastT_le (A := A) (T := T) (dd := dd) (c := c) (i := e)
    have yb := lastY_le (A := A) (nI e)
    refine ⟨(), ?_, trivial⟩
    show F_X12_dates_68 (f + 1) 81 (nI c) 3 (nI (lastT A T dd c e)) (nI e) h = _
    rw [F_X12_dates_68]
    unfold F_X12_dates_109 F_X12_dates_141
    dsimp only
    rw [nc_81 L.kd, m_copiesA L M, kE1, Option.bind_some, if_pos (nI_lt he (by omega)), if_neg (show ¬ (3 : Int32) = 2 by decide), if_pos rfl, nc_81 L.kd, m_comesOf L (show nC A ≤ 12 by omega) t2 he hc z1 z2 z3 z4, Option.bind_some, if_bb, nI_1, lastT_succ]
    cases ancQ T e c (dd e) with
    | false => rw [if_neg (show ¬ false = true by decide), if_neg (show ¬ false = true by decide)]
    | true =>
      rw [if_pos rfl, if_pos rfl, nc_81 L.kd, m_toOf L M K, Option.bind_some]
      by_cases lt : lastY A (nI e) < lastT A T dd c e
      · rw [if_pos (nI_lt lt (by omega)), Option.bind_some, show min (lastT A T dd c e) (lastY A (nI e)) = lastY A (nI e) by omega]
      · rw [if_neg (nI_nlt (by omega) (by omega)), show min (lastT A T dd c e) (lastY A (nI e)) = lastT A T dd c e by omega]
  · intro f _ _
    show F_X12_dates_68 (f + 1) 81 (nI c) 3 (nI (lastT A T dd c (nC A))) (nI (nC A)) h = _
    rw [F_X12_dates_68]
    dsimp only
    rw [nc_81 L.kd, m_copiesA L M, kE1, Option.bind_some, if_neg Int32.lt_irrefl]
theorem sim_dates : Sim_dates Inv := by
  intro x1 x2 q h hq I
  show SimB q h (F_X11_dates 1 x1 x2) (F_X12_dates 81 x1 x2)
  have L := I.1
  have D := L.kd
  have R := L.rd
  obtain ⟨C, K⟩ := I.sh
  have kC : nC (pg_i h 83) < 13 := K.1.1.2
  obtain ⟨v, ev, hv⟩ := I.2.2.2.2.1
  by_cases c1 : 0 ≤ x1 ∧ x1 < nI (nC (pg_i h 83))
  · by_cases c2 : 0 ≤ x2 ∧ x2 ≤ 3
    · obtain ⟨x, hx, rfl⟩ := in_nI c1 (by omega)
      obtain ⟨w, hw, rfl⟩ := nI_of2 (x := x2) (M := 3) (n := 3) (by decide) (Int32.not_lt.mpr c2.1) c2.2
      by_cases w2 : w < 2
      · by_cases w0 : w = 0
        · refine SimB.none I (nI (firstY (pg_i h 83) (nI x))) ?_ ?_
          · unfold F_X11_dates
            rw [nR_1_0 D R, Option.bind_some, nR_2_0 D R, Option.bind_some, nc_3 D, c_holds_3 C, Option.bind_some, if_bb, if_pos (decide_eq_true c1), within_le, Option.bind_some, if_bb, if_pos (decide_eq_true c2), if_pos (show nI w < (2 : Int32) from nI_lt (b := 2) w2 (by decide)), if_pos (show nI w = (0 : Int32) by rw [w0]; rfl), Option.bind_some, nc_2 D, c_firstYear L C K, Option.bind_some]
          · unfold F_X12_dates
            rw [nc_81 D, m_isCopy L rfl K, Option.bind_some, if_bb, if_pos (decide_eq_true c1), lies_le, Option.bind_some, if_bb, if_pos (decide_eq_true c2), if_pos (show nI w < (2 : Int32) from nI_lt (b := 2) w2 (by decide)), if_pos (show nI w = (0 : Int32) by rw [w0]; rfl), nc_81 D, m_fromOf L rfl K, Option.bind_some]
        · refine SimB.none I (nI (lastY (pg_i h 83) (nI x))) ?_ ?_
          · unfold F_X11_dates
            rw [nR_1_0 D R, Option.bind_some, nR_2_0 D R, Option.bind_some, nc_3 D, c_holds_3 C, Option.bind_some, if_bb, if_pos (decide_eq_true c1), within_le, Option.bind_some, if_bb, if_pos (decide_eq_true c2), if_pos (show nI w < (2 : Int32) from nI_lt (b := 2) w2 (by decide)), if_neg (show ¬ nI w = (0 : Int32) from fun z => w0 ((nI_eq (b := 0) (by omega) (by decide)).mp z)), Option.bind_some, nc_2 D, c_lastYear L C K, Option.bind_some]
          · unfold F_X12_dates
            rw [nc_81 D, m_isCopy L rfl K, Option.bind_some, if_bb, if_pos (decide_eq_true c1), lies_le, Option.bind_some, if_bb, if_pos (decide_eq_true c2), if_pos (show nI w < (2 : Int32) from nI_lt (b := 2) w2 (by decide)), if_neg (show ¬ nI w = (0 : Int32) from fun z => w0 ((nI_eq (b := 0) (by omega) (by decide)).mp z)), nc_81 D, m_toOf L rfl K, Option.bind_some]
      · obtain ⟨g, f1, f2, f3, X, Y0, Y1, S, i0, i1, rd, st, gr⟩ := c_freshS I
        have Lg := f2.lay L (by decide)
        have Mg : pg_i g 83 = pg_i h 83 := f2.row (by decide)
        have Cg : CNum g 2 (pg_i h 83) := C.ch f2 (by decide)
        obtain ⟨b, b1, b2, b3, b4⟩ := m_grows Lg Mg S (gr.ch f2 (by decide) (by decide)) (v := v) (by
          rw [f2.atM (R := []) (F := [(81, 1)]) (by decide) (by decide)]
          exact ev) (by omega)
        have Lb := b2.lay Lg (by decide)
        have Mb : pg_i b 83 = pg_i h 83 := (b2.row (by decide)).trans Mg
        have all : Ch tS tT h b := (f2.mono (by decide)).trans (b2.mono (by decide))
        obtain ⟨T, t1, t2, t3, t4, t5⟩ := id st
        obtain ⟨T', u1, u2, u3⟩ := b3
        have r97 : ∀ c, c < nC (pg_i h 83) → pg_i b 97 c = nI (kE (T c)) := fun c hc => by
          rw [u2 c hc, ← (first_one t1 u1).1 c hc]
          unfold kE
          split <;> rfl
        obtain ⟨dd, hd⟩ := choose_to (P := fun c d => 1 ≤ d ∧ d ≤ nC (pg_i h 83) ∧ up T d (c + 1) = 0 ∧ ∀ i, i < d → 1 ≤ up T i (c + 1) ∧ up T i (c + 1) ≤ nC (pg_i h 83)) (fun c hc => chain_end t1.1 hc)
        obtain ⟨z1, z2, z3, z4⟩ := hd x hx
        have fin : Inv (q + 1) b := I.stem all (by rw [b2.atM (R := []) (F := [(1, 15)]) (by decide) (by decide), f3]) S i0 i1 (rd.ch b2 (by decide) (by decide)) (st.ch b2 (by decide)) b4
        have nw : ¬ nI w < (2 : Int32) := nI_nlt (b := 2) (by omega) (by omega)
        have ec : F_X11_dates 1 (nI x) (nI w) h = (if nI w = (2 : Int32) then Option.bind (F_X11_firstYearByTree g 1 59 (nI x)) fun v7 => (some (v7, g)) else Option.bind (F_X11_lastYearByTree g 1 59 (nI x)) fun v6 => (some (v6, g))) := by
          unfold F_X11_dates
          rw [nR_1_0 D R, Option.bind_some, nR_2_0 D R, Option.bind_some, nc_3 D, c_holds_3 C, Option.bind_some, if_bb, if_pos (decide_eq_true c1), within_le, Option.bind_some, if_bb, if_pos (decide_eq_true c2), if_neg nw, nc_1 D, f1, Option.bind_some, nc_1 Lg.kd, nc_1 Lg.kd]
        have em : F_X12_dates 81 (nI x) (nI w) g = (if nI w = (2 : Int32) then Option.bind (F_X12_fromOf b 81 (nI x)) fun v5 => (F_X12_dates_64 81 (nI x) (nI w) v5 b) else Option.bind (F_X12_toOf b 81 (nI x)) fun v4 => (F_X12_dates_64 81 (nI x) (nI w) v4 b)) := by
          unfold F_X12_dates
          rw [nc_81 Lg.kd, m_isCopy Lg Mg K, Option.bind_some, if_bb, if_pos (decide_eq_true c1), lies_le, Option.bind_some, if_bb, if_pos (decide_eq_true c2), if_neg nw, nc_81 Lg.kd, b1, Option.bind_some, nc_81 Lb.kd, nc_81 Lb.kd]
        by_cases we : w = 2
        · subst we
          obtain ⟨y, y1, y2⟩ := c_firstByTree (n := nC (pg_i h 83)) Lg Cg K (by omega) t2 z1 z2 z3 z4
          obtain ⟨y', y3, y4⟩ := m_firstByTree Lb Mb K rfl (by omega) r97 hx z1 z2 z3 z4
          refine ⟨nI y, g, b, ?_, Lg, ?_, fin, all.few⟩
          · rw [ec, if_pos (show nI 2 = (2 : Int32) from rfl), y1, Option.bind_some]
          · rw [em, if_pos (show nI 2 = (2 : Int32) from rfl), m_fromOf Lb Mb K, Option.bind_some, y2.one y4]
            exact y3
        · have w3 : w = 3 := by omega
          subst w3
          refine ⟨nI (lastT (pg_i h 83) T dd x (nC (pg_i h 83))), g, b, ?_, Lg, ?_, fin, all.few⟩
          · rw [ec, if_neg (show ¬ nI 3 = (2 : Int32) by decide), c_lastByTree Lg Cg K t2 hd hx, Option.bind_some]
          · rw [em, if_neg (show ¬ nI 3 = (2 : Int32) by decide), m_toOf Lb Mb K, Option.bind_some]
            exact m_lastByTree Lb Mb K r97 hd hx
    · refine SimB.none I (-1) ?_ ?_
      · unfold F_X11_dates
        rw [nR_1_0 D R, Option.bind_some, nR_2_0 D R, Option.bind_some, nc_3 D, c_holds_3 C, Option.bind_some, if_bb, if_pos (decide_eq_true c1), within_le, Option.bind_some, if_bb, if_neg (by rw [decide_eq_false c2]; decide)]
      · unfold F_X12_dates
        rw [nc_81 D, m_isCopy L rfl K, Option.bind_some, if_bb, if_pos (decide_eq_true c1), lies_le, Option.bind_some, if_bb, if_neg (by rw [decide_eq_false c2]; decide)]
  · refine SimB.none I (-1) ?_ ?_
    · unfold F_X11_dates
      rw [nR_1_0 D R, Option.bind_some, nR_2_0 D R, Option.bind_some, nc_3 D, c_holds_3 C, Option.bind_some, if_bb, if_neg (by rw [decide_eq_false c1]; decide)]
    · unfold F_X12_dates
      rw [nc_81 D, m_isCopy L rfl K, Option.bind_some, if_bb, if_neg (by rw [decide_eq_false c1]; decide)]
