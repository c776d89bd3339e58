/-! CALLS that ask trees: come -/
def comP (T : Nat → Nat) (dd : Nat → Nat) (x w e : Nat) : Bool := if w = 0 then ancQ T e x (dd e) else decide (T e = x + 1)
def comN (T : Nat → Nat) (dd : Nat → Nat) (x w i : Nat) : Nat := sumN i fun e => if comP T dd x w e then 1 else 0
theorem sim_come : Sim_come Inv := by
  intro x1 x2 q h hq I
  show SimB q h (F_X11_come 1 x1 x2) (F_X12_come 81 x1 x2)
  have L := I.1
  have D := L.kd
  have R := L.rd
  obtain ⟨C, K⟩ := I.sh
  have kC : nC (pg_i h 83) < 13 := K.1.1.2
  have kE1 : pg_i h 83 1344 = nI (nC (pg_i h 83)) := K.1.1.1
  obtain ⟨v, ev, hv⟩ := I.2.2.2.2.1
  by_cases c1 : 0 ≤ x1 ∧ x1 < nI (nC (pg_i h 83))
  · by_cases c2 : 0 ≤ x2 ∧ x2 ≤ 2
    · obtain ⟨x, hx, rfl⟩ := in_nI c1 (by omega)
      obtain ⟨w, hw, rfl⟩ := nI_of2 (x := x2) (M := 2) (n := 2) (by decide) (Int32.not_lt.mpr c2.1) c2.2
      obtain ⟨g, f1, f2, f3, X, Y0, Y1, S, i0, i1, rd, st, gr⟩ := c_freshS I
      have Lg := f2.lay L (by decide)
      have Mg : pg_i g 83 = pg_i h 83 := f2.row (by decide)
      have Cg : CNum g 2 (pg_i h 83) := C.ch f2 (by decide)
      obtain ⟨b, b1, b2, b3, b4⟩ := m_grows Lg Mg S (gr.ch f2 (by decide) (by decide)) (v := v) (by
        rw [f2.atM (R := []) (F := [(81, 1)]) (by decide) (by decide)]
        exact ev) (by omega)
      have Lb := b2.lay Lg (by decide)
      have Mb : pg_i b 83 = pg_i h 83 := (b2.row (by decide)).trans Mg
      have all : Ch tS tT h b := (f2.mono (by decide)).trans (b2.mono (by decide))
      obtain ⟨T, t1, t2, t3, t4, t5⟩ := id st
      obtain ⟨T', u1, u2, u3⟩ := b3
      have tl : ∀ c, c < nC (pg_i h 83) → T c ≤ nC (pg_i h 83) := fun c hc => (t1.1.1 c hc).1
      have r97 : ∀ c, c < nC (pg_i h 83) → pg_i b 97 c = nI (kE (T c)) := fun c hc => by
        rw [u2 c hc, ← (first_one t1 u1).1 c hc]
        unfold kE
        split <;> rfl
      obtain ⟨dd, hd⟩ := choose_to (P := fun c d => 1 ≤ d ∧ d ≤ nC (pg_i h 83) ∧ up T d (c + 1) = 0 ∧ ∀ i, i < d → 1 ≤ up T i (c + 1) ∧ up T i (c + 1) ≤ nC (pg_i h 83)) (fun c hc => chain_end t1.1 hc)
      have fin : Inv (q + 1) b := I.stem all (by rw [b2.atM (R := []) (F := [(1, 15)]) (by decide) (by decide), f3]) S i0 i1 (rd.ch b2 (by decide) (by decide)) (st.ch b2 (by decide)) b4
      have ec : F_X11_come 1 (nI x) (nI w) h = (if nI w = (2 : Int32) then Option.bind (F_X6_stepsFromNobody g 59 (nI x)) fun v6 => (some (v6, g)) else (F_X11_come_47 pg_fuel 1 (nI x) (nI w) 59 (0 : Int32) (0 : Int32) g)) := by
        unfold F_X11_come
        rw [nR_1_0 D R, Option.bind_some, nR_2_0 D R, Option.bind_some, nc_3 D, c_holds_3 C, Option.bind_some, if_bb, if_pos (decide_eq_true c1), within_le, Option.bind_some, if_bb, if_pos (decide_eq_true c2), nc_1 D, f1, Option.bind_some, nc_59 Lg.kd]
      have em : F_X12_come 81 (nI x) (nI w) g = (if nI w = (2 : Int32) then Option.bind (F_X12_stepsOf b 81 (nI x)) fun v4 => (some (v4, b)) else (F_X12_come_39 pg_fuel 81 (nI x) (nI w) (0 : Int32) (0 : Int32) b)) := by
        unfold F_X12_come
        rw [nc_81 Lg.kd, m_isCopy Lg Mg K, Option.bind_some, if_bb, if_pos (decide_eq_true c1), lies_le, Option.bind_some, if_bb, if_pos (decide_eq_true c2), nc_81 Lg.kd, b1, Option.bind_some, nc_81 Lb.kd]
      by_cases w2 : w = 2
      · subst w2
        obtain ⟨z1, z2, z3, z4⟩ := hd x hx
        refine ⟨nI (dd x), g, b, ?_, Lg, ?_, fin, all.few⟩
        · rw [ec, if_pos (show nI 2 = (2 : Int32) from rfl), c_steps Lg (by omega) t2 z2 z3 z4, Option.bind_some]
        · rw [em, if_pos (show nI 2 = (2 : Int32) from rfl), m_stepsOf Lb (show nC (pg_i h 83) ≤ 12 by omega) r97 hx z1 z2 z3 z4, Option.bind_some]
      · have nw : ¬ nI w = (2 : Int32) := fun z => w2 ((nI_eq (b := 2) (by omega) (by decide)).mp z)
        have add1 : ∀ (p : Bool) i, nI i + (if p = true then (1 : Int32) else 0) = nI (i + if p then 1 else 0) := fun p i => by
          cases p
          · exact nI_add i 0
          · exact nI_add i 1
        have stp : ∀ i, comN T dd x w (i + 1) = comN T dd x w i + if comP T dd x w i then 1 else 0 := fun i => rfl
        refine ⟨nI (comN T dd x w (nC (pg_i h 83))), g, b, ?_, Lg, ?_, fin, all.few⟩
        · rw [ec, if_neg nw]
          refine loopI (fun f e (_ : Unit) => F_X11_come_47 f 1 (nI x) (nI w) 59 (nI (comN T dd x w e)) (nI e) g) (nC (pg_i h 83)) (fun _ _ => True) (fun o => o = some (nI (comN T dd x w (nC (pg_i h 83))), g)) ?_ ?_ 0 () (Nat.zero_le _) trivial pg_fuel (by unfold pg_fuel; omega)
          · intro f e _ he _
            obtain ⟨z1, z2, z3, z4⟩ := hd e he
            refine ⟨(), ?_, trivial⟩
            show F_X11_come_47 (f + 1) 1 (nI x) (nI w) 59 (nI (comN T dd x w e)) (nI e) g = _
            have go : ∀ p : Bool, F_X11_come_91 (F_X11_come_47 f) 1 (nI x) (nI w) 59 (nI (comN T dd x w e)) (nI e) (b01 p) g = F_X11_come_47 f 1 (nI x) (nI w) 59 (nI (comN T dd x w e + if p then 1 else 0)) (nI (e + 1)) g := fun p => by
              unfold F_X11_come_91 F_X11_come_105 pg_let
              dsimp only
              rw [if_bb, nI_1 e, ← add1 p]
              cases p with
              | true => rw [if_pos rfl, if_pos rfl]
              | false => rw [if_neg (show ¬ false = true by decide), if_neg (show ¬ false = true by decide)]
            rw [F_X11_come_47]
            dsimp only
            rw [nR_1_0 Lg.kd Lg.rd, Option.bind_some, nR_2_0 Lg.kd Lg.rd, Option.bind_some, nc_3 Lg.kd, c_size_3 Cg, Option.bind_some, if_pos (nI_lt he (by omega)), stp]
            unfold comP
            by_cases w0 : w = 0
            · rw [if_pos (show nI w = (0 : Int32) by rw [w0]; rfl), nc_59 Lg.kd, c_comesOf Lg (by omega) t2 he hx z1 z2 z3 z4, Option.bind_some, go, if_pos w0]
            · rw [if_neg (show ¬ nI w = (0 : Int32) from fun z => w0 ((nI_eq (b := 0) (by omega) (by decide)).mp z)), nc_59 Lg.kd, c_exemplarOf Lg (by omega) t2 he, Option.bind_some, if_neg w0]
              have tle := tl e he
              by_cases te : T e = x + 1
              · rw [if_pos ((kI_eq (by omega) (by omega) (by omega)).mpr te), decide_eq_true te]
                exact go true
              · have ne : ¬ kI (T e) = nI x := fun z => by
                  by_cases t0 : T e = 0
                  · rw [t0] at z
                    exact nI_no (show x < 2 ^ 31 by omega) z.symm
                  · exact te ((kI_eq (by omega) (by omega) (by omega)).mp z)
                rw [if_neg ne, decide_eq_false te]
                exact go false
          · intro f _ _
            show F_X11_come_47 (f + 1) 1 (nI x) (nI w) 59 (nI (comN T dd x w (nC (pg_i h 83)))) (nI (nC (pg_i h 83))) g = _
            rw [F_X11_come_47]
            dsimp only
            rw [nR_1_0 Lg.kd Lg.rd, Option.bind_some, nR_2_0 Lg.kd Lg.rd, Option.bind_some, nc_3 Lg.kd, c_size_3 Cg, Option.bind_some, if_neg Int32.lt_irrefl]
        · rw [em, if_neg nw]
          refine loopI (fun f e (_ : Unit) => F_X12_come_39 f 81 (nI x) (nI w) (nI (comN T dd x w e)) (nI e) b) (nC (pg_i h 83)) (fun _ _ => True) (fun o => o = some (nI (comN T dd x w (nC (pg_i h 83))), b)) ?_ ?_ 0 () (Nat.zero_le _) trivial pg_fuel (by unfold pg_fuel; omega)
          · intro f e _ he _
            obtain ⟨z1, z2, z3, z4⟩ := hd e he
            refine ⟨(), ?_, trivial⟩
            show F_X12_come_39 (f + 1) 81 (nI x) (nI w) (nI (comN T dd x w e)) (nI e) b = _
            have go : ∀ p : Bool, F_X12_come_87 (F_X12_come_39 f) 81 (nI x) (nI w) (nI e) (if p = true then (1 : Int32) else 0) (nI (comN T dd x w e)) b = F_X12_come_39 f 81 (nI x) (nI w) (nI (comN T dd x w e + if p then 1 else 0)) (nI (e + 1)) b := fun p => by
              unfold F_X12_come_87 pg_let
              dsimp only
              rw [nI_1, ← add1 p]
            rw [F_X12_come_39]
            dsimp only
            rw [nc_81 Lb.kd, m_copiesA Lb Mb, kE1, Option.bind_some, if_pos (nI_lt he (by omega)), stp]
            unfold comP
            by_cases w0 : w = 0
            · rw [if_pos (show nI w = (0 : Int32) by rw [w0]; rfl), nc_81 Lb.kd, m_comesOf Lb (show nC (pg_i h 83) ≤ 12 by omega) r97 he hx z1 z2 z3 z4, Option.bind_some, if_bb, if_pos w0, ← go]
              cases ancQ T e x (dd e) <;> rfl
            · rw [if_neg (show ¬ nI w = (0 : Int32) from fun z => w0 ((nI_eq (b := 0) (by omega) (by decide)).mp z)), nR_81_29 Lb.kd Lb.rd, Option.bind_some, na_97 Lb.kd (by omega), r97 e he, Option.bind_some, if_neg w0]
              have tle := tl e he
              have ke : nI (kE (T e)) = nI x ↔ T e = x + 1 := by
                unfold kE
                by_cases t0 : T e = 0
                · rw [if_pos t0, nI_eq (by omega) (by omega)]
                  omega
                · rw [if_neg t0, nI_eq (by omega) (by omega)]
                  omega
              by_cases te : T e = x + 1
              · rw [if_pos (ke.mpr te), decide_eq_true te]
                exact go true
              · rw [if_neg (fun z => te (ke.mp z)), decide_eq_false te]
                exact go false
          · intro f _ _
            show F_X12_come_39 (f + 1) 81 (nI x) (nI w) (nI (comN T dd x w (nC (pg_i h 83)))) (nI (nC (pg_i h 83))) b = _
            rw [F_X12_come_39]
            dsimp only
            rw [nc_81 Lb.kd, m_copiesA Lb Mb, kE1, Option.bind_some, if_neg Int32.lt_irrefl]
    · refine SimB.none I (-1) ?_ ?_
      · unfold F_X11_come
        rw [nR_1_0 D R, Option.bind_some, nR_2_0 D R, Option.bind_some, nc_3 D, c_holds_3 C, Option.bind_some, if_bb, if_pos (decide_eq_true c1), within_le, Option.bind_some, if_bb, if_neg (by rw [decide_eq_false c2]; decide)]
      · unfold F_X12_come
        rw [nc_81 D, m_isCopy L rfl K, Option.bind_some, if_bb, if_pos (decide_eq_true c1), lies_le, Option.bind_some, if_bb, if_neg (by rw [decide_eq_false c2]; decide)]
  · refine SimB.none I (-1) ?_ ?_
    · unfold F_X11_come
      rw [nR_1_0 D R, Option.bind_some, nR_2_0 D R, Option.bind_some, nc_3 D, c_holds_3 C, Option.bind_some, if_bb, if_neg (by rw [decide_eq_false c1]; decide)]
    · unfold F_X12_come
      rw [nc_81 D, m_isCopy L rfl K, Option.bind_some, if_bb, if_neg (by rw [decide_eq_false c1]; decide)]
