/-! world -/
def inW (f : Nat → Int32) (sz : Nat → Nat) (o : Nat) (x : Int32) : Bool := anyN (sz o) fun i => decide (f (144 * o + i) = x)
def wN (f : Nat → Int32) (sz : Nat → Nat) (wn c : Nat) : Nat := sumN wn fun o => if inW f sz o (f (144 * c)) then 1 else 0
section WORLD
variable {h : pg_H} {wn : Nat} {sz : Nat → Nat}
theorem c_hasCopy (L : Lay h) (h3 : pg_i h 76 3 = nI wn) (hw : wn ≤ 12) (x : Int32) : F_X10_hasCopy h 76 x = some (b01 (decide (0 ≤ x ∧ x < nI wn))) := by
  unfold F_X10_hasCopy
  by_cases c0 : x < 0
  · rw [if_pos c0, decide_eq_false (fun z => absurd z.1 (Int32.not_le.mpr c0))]
    rfl
  · rw [if_neg c0, ng_76 L.kd, Option.bind_some, h3]
    by_cases c1 : x < nI wn
    · obtain ⟨c, hc, rfl⟩ := in_nI ⟨Int32.not_lt.mp c0, c1⟩ (by omega)
      rw [if_pos c1, if_pos (show nI c < (12 : Int32) from nI_lt (b := 12) (by omega) (by decide)), decide_eq_true (⟨Int32.not_lt.mp c0, c1⟩ : (0 : Int32) ≤ nI c ∧ nI c < nI wn)]
      rfl
    · rw [if_neg c1, decide_eq_false (fun z => c1 z.2)]
      rfl
theorem c_notesOf (L : Lay h) (h3 : pg_i h 76 3 = nI wn) (hw : wn ≤ 12) (hs : ∀ c, c < wn → pg_i h 78 c = nI (sz c)) {c : Nat} (hc : c < wn) : F_X10_notesOf h 76 (nI c) = some (nI (sz c)) := by
  have b : c < 12 := by omega
  unfold F_X10_notesOf
  simp only [k_si, k_sl, k_sr, r_si, r_sl, i_sl, i_sr, l_si, l_sr, Option.bind_some, if_true, if_false, bind_eta2, if_bb, decide_eq_true_eq, pg_let, nc_76, L.kd, L.rd, c_hasCopy L h3 hw, if_pos ((nI_in_iff (show c < 2 ^ 31 by omega) (show wn < 2 ^ 31 by omega)).mpr hc), nR_76_1, na_78, b, hs c hc]
theorem c_inW (L : Lay h) (h3 : pg_i h 76 3 = nI wn) (hw : wn ≤ 12) (hs : ∀ c, c < wn → pg_i h 78 c = nI (sz c)) (hz : ∀ c, c < wn → sz c ≤ 144) {c : Nat} (hc : c < wn) (x : Int32) : F_X10_hasNote h 76 (nI c) x = some (b01 (inW (pg_i h 77) sz c x)) := by
  have z144 := hz c hc
  unfold F_X10_hasNote inW
  have z := loopA (fun f i => F_X10_hasNote_2 h f 76 (nI c) x (nI i)) (sz c) (fun i => decide (pg_i h 77 (144 * c + i) = x)) (some 1) (some 0) ?_ ?_ ?_ pg_fuel (by unfold pg_fuel; omega)
  · rw [some_b01] at z
    exact z
  · intro f i hi hp
    have e : nI c * (144 : Int32) + nI i = nI (144 * c + i) := by rw [show (144 : Int32) = nI 144 from rfl, nI_mul, nI_add, Nat.mul_comm]
    show F_X10_hasNote_2 h (f + 1) 76 (nI c) x (nI i) = F_X10_hasNote_2 h f 76 (nI c) x (nI (i + 1))
    rw [F_X10_hasNote_2]
    dsimp only
    rw [nc_76 L.kd, c_notesOf L h3 hw hs hc, Option.bind_some, if_pos (nI_lt hi (by omega)), nR_76_0 L.kd L.rd, Option.bind_some, e, na_77 L.kd (by omega), Option.bind_some, if_neg (of_decide_eq_false hp), nI_1]
  · intro f i hi hp
    have e : nI c * (144 : Int32) + nI i = nI (144 * c + i) := by rw [show (144 : Int32) = nI 144 from rfl, nI_mul, nI_add, Nat.mul_comm]
    show F_X10_hasNote_2 h (f + 1) 76 (nI c) x (nI i) = _
    rw [F_X10_hasNote_2]
    dsimp only
    rw [nc_76 L.kd, c_notesOf L h3 hw hs hc, Option.bind_some, if_pos (nI_lt hi (by omega)), nR_76_0 L.kd L.rd, Option.bind_some, e, na_77 L.kd (by omega), Option.bind_some, if_pos (of_decide_eq_true hp)]
  · intro f
    show F_X10_hasNote_2 h (f + 1) 76 (nI c) x (nI (sz c)) = _
    rw [F_X10_hasNote_2]
    dsimp only
    rw [nc_76 L.kd, c_notesOf L h3 hw hs hc, Option.bind_some, if_neg Int32.lt_irrefl]
theorem c_holders (L : Lay h) (h3 : pg_i h 76 3 = nI wn) (hw : wn ≤ 12) (hs : ∀ c, c < wn → pg_i h 78 c = nI (sz c)) (hz : ∀ c, c < wn → sz c ≤ 144) {c : Nat} (hc : c < wn) : F_X10_holdersOfFirst h 76 (nI c) = some (nI (if sz c = 0 then 0 else wN (pg_i h 77) sz wn c)) := by
  have z144 := hz c hc
  unfold F_X10_holdersOfFirst
  rw [nc_76 L.kd, c_notesOf L h3 hw hs hc, Option.bind_some]
  by_cases s0 : sz c = 0
  · rw [s0, if_pos (show nI 0 = 0 from rfl), if_pos rfl]
    rfl
  · rw [if_neg (show ¬ nI (sz c) = 0 from fun z => s0 ((nI_eq (b := 0) (by omega) (by decide)).mp z)), if_neg s0, nR_76_0 L.kd L.rd, Option.bind_some, show nI c * (144 : Int32) = nI (144 * c) by rw [show (144 : Int32) = nI 144 from rfl, nI_mul, Nat.mul_comm], na_77 L.kd (by omega), Option.bind_some]
    unfold wN
    have z := loopF (fun f i x => F_X10_holdersOfFirst_26 h f 76 (pg_i h 77 (144 * c)) (nI x) (nI i)) (wn) (fun i x => x + (if inW (pg_i h 77) sz i (pg_i h 77 (144 * c)) then 1 else 0)) (some (nI (foldN (wn) (fun i x => x + (if inW (pg_i h 77) sz i (pg_i h 77 (144 * c)) then 1 else 0)) 0))) (fun _ _ => True) 0 ?_ (fun _ _ _ _ _ => trivial) ?_ trivial pg_fuel (by unfold pg_fuel; omega)
    · rw [foldN_sum] at z
      exact z
    · intro f i x hi _ _
      show F_X10_holdersOfFirst_26 h (f + 1) 76 (pg_i h 77 (144 * c)) (nI x) (nI i) = F_X10_holdersOfFirst_26 h f 76 (pg_i h 77 (144 * c)) (nI (x + (if inW (pg_i h 77) sz i (pg_i h 77 (144 * c)) then 1 else 0))) (nI (i + 1))
      rw [F_X10_holdersOfFirst_26]
      dsimp only
      rw [ng_76 L.kd, Option.bind_some, h3, if_pos (nI_lt hi (by omega)), nc_76 L.kd, c_inW L h3 hw hs hz hi, Option.bind_some, if_bb]
      unfold F_X10_holdersOfFirst_51 pg_let
      by_cases e : inW (pg_i h 77) sz i (pg_i h 77 (144 * c)) = true
      · rw [if_pos e, if_pos e, nI_1, nI_1]
      · rw [if_neg e, if_neg e, nI_1]
        rw [show nI x + (0 : Int32) = nI (x + 0) from nI_add x 0]
    · intro f _
      show F_X10_holdersOfFirst_26 h (f + 1) 76 (pg_i h 77 (144 * c)) (nI (foldN (wn) (fun i x => x + (if inW (pg_i h 77) sz i (pg_i h 77 (144 * c)) then 1 else 0)) 0)) (nI (wn)) = _
      rw [F_X10_holdersOfFirst_26]
      dsimp only
      rw [ng_76 L.kd, Option.bind_some, h3, if_neg Int32.lt_irrefl]
theorem m_inW (L : Lay h) (hs : ∀ c, c < wn → pg_i h 108 c = nI (sz c)) (hw : wn ≤ 12) (hz : ∀ c, c < wn → sz c ≤ 144) {c : Nat} (hc : c < wn) (w : Int32) : F_X12_hasWorld h 81 (nI c) w = some (b01 (inW (pg_i h 107) sz c w)) := by
  have z144 := hz c hc
  have b : c < 12 := by omega
  unfold F_X12_hasWorld
  have z := loopF (fun f i x => F_X12_hasWorld_5 h f 81 (nI c) w (b01 x) (nI i)) (sz c) (fun i x => x || decide (pg_i h 107 (144 * c + i) = w)) (some (b01 (inW (pg_i h 107) sz c w))) (fun _ _ => True) false ?_ (fun _ _ _ _ _ => trivial) ?_ trivial pg_fuel (by unfold pg_fuel; omega)
  · exact z
  · intro f i y hi _ _
    have e : (144 : Int32) * nI c + nI i = nI (144 * c + i) := by rw [show (144 : Int32) = nI 144 from rfl, nI_mul, nI_add]
    show F_X12_hasWorld_5 h (f + 1) 81 (nI c) w (b01 y) (nI i) = F_X12_hasWorld_5 h f 81 (nI c) w (b01 (y || decide (pg_i h 107 (144 * c + i) = w))) (nI (i + 1))
    rw [F_X12_hasWorld_5]
    dsimp only
    rw [nR_81_42 L.kd L.rd, Option.bind_some, na_108 L.kd b, Option.bind_some, hs c hc, if_pos (nI_lt hi (by omega))]
    unfold F_X12_hasWorld_37 F_X12_hasWorld_42
    rw [nI_1]
    cases y with
    | true =>
      rw [if_neg (show ¬ b01 true = 0 by decide)]
      rfl
    | false =>
      rw [if_pos (show b01 false = 0 from rfl), nR_81_41 L.kd L.rd, Option.bind_some, e, na_107 L.kd (by omega), Option.bind_some]
      by_cases q : pg_i h 107 (144 * c + i) = w
      · rw [if_pos q, decide_eq_true q]
        rfl
      · rw [if_neg q, decide_eq_false q]
        rfl
  · intro f _
    have fo : (foldN (sz c) (fun i y => y || decide (pg_i h 107 (144 * c + i) = w)) false) = inW (pg_i h 107) sz c w := by
      unfold inW
      generalize sz c = m
      induction m with
      | zero => rfl
      | succ m ih => exact congrArg (· || _) ih
    rw [fo]
    show F_X12_hasWorld_5 h (f + 1) 81 (nI c) w (b01 (inW (pg_i h 107) sz c w)) (nI (sz c)) = _
    rw [F_X12_hasWorld_5]
    dsimp only
    rw [nR_81_42 L.kd L.rd, Option.bind_some, na_108 L.kd b, Option.bind_some, hs c hc, if_neg Int32.lt_irrefl]
    exact b01_z _
theorem m_holders (L : Lay h) (h44 : pg_i h 81 44 = nI wn) (hw : wn ≤ 12) (hs : ∀ c, c < wn → pg_i h 108 c = nI (sz c)) (hz : ∀ c, c < wn → sz c ≤ 144) {c : Nat} (hc : c < wn) : F_X12_world_55 h pg_fuel 81 (nI c) 0 0 = some (nI (if sz c = 0 then 0 else wN (pg_i h 107) sz wn c)) := by
  have z144 := hz c hc
  have b : c < 12 := by omega
  by_cases s0 : sz c = 0
  · obtain ⟨f, hf⟩ := fuel_S
    rw [hf, F_X12_world_55]
    dsimp only
    rw [ng_81 L.kd, Option.bind_some, h44, if_pos (show (0 : Int32) < nI wn from nI_lt (a := 0) (by omega) (by omega)), nR_81_42 L.kd L.rd, Option.bind_some, na_108 L.kd b, Option.bind_some, hs c hc, s0, if_neg (show ¬ (0 : Int32) < nI 0 by decide), if_pos rfl]
    rfl
  · rw [if_neg s0]
    unfold wN
    have z := loopF (fun f i x => F_X12_world_55 h f 81 (nI c) (nI x) (nI i)) (wn) (fun i x => x + (if inW (pg_i h 107) sz i (pg_i h 107 (144 * c)) then 1 else 0)) (some (nI (foldN (wn) (fun i x => x + (if inW (pg_i h 107) sz i (pg_i h 107 (144 * c)) then 1 else 0)) 0))) (fun _ _ => True) 0 ?_ (fun _ _ _ _ _ => trivial) ?_ trivial pg_fuel (by unfold pg_fuel; omega)
    · rw [foldN_sum] at z
      exact z
    · intro f i x hi _ _
      show F_X12_world_55 h (f + 1) 81 (nI c) (nI x) (nI i) = F_X12_world_55 h f 81 (nI c) (nI (x + (if inW (pg_i h 107) sz i (pg_i h 107 (144 * c)) then 1 else 0))) (nI (i + 1))
      rw [F_X12_world_55]
      dsimp only
      rw [ng_81 L.kd, Option.bind_some, h44, if_pos (nI_lt hi (by omega)), nR_81_42 L.kd L.rd, Option.bind_some, na_108 L.kd b, Option.bind_some, hs c hc, if_pos (show (0 : Int32) < nI (sz c) from nI_lt (a := 0) (by omega) (by omega)), nR_81_41 L.kd L.rd, Option.bind_some, show (144 : Int32) * nI c = nI (144 * c) from nI_mul 144 c, na_107 L.kd (by omega), Option.bind_some, nc_81 L.kd, m_inW L hs hw hz hi, Option.bind_some, if_bb]
      unfold F_X12_world_98 pg_let
      by_cases e : inW (pg_i h 107) sz i (pg_i h 107 (144 * c)) = true
      · rw [if_pos e, if_pos e, nI_1, nI_1]
      · rw [if_neg e, if_neg e, nI_1]
        rw [show nI x + (0 : Int32) = nI (x + 0) from nI_add x 0]
    · intro f _
      show F_X12_world_55 h (f + 1) 81 (nI c) (nI (foldN (wn) (fun i x => x + (if inW (pg_i h 107) sz i (pg_i h 107 (144 * c)) then 1 else 0)) 0)) (nI (wn)) = _
      rw [F_X12_world_55]
      dsimp only
      rw [ng_81 L.kd, Option.bind_some, h44, if_neg Int32.lt_irrefl]
end WORLD
theorem sim_world : Sim_world Inv := by
  intro x1 x2 q h hq I
  have L := I.1
  have D := L.kd
  have R := L.rd
  obtain ⟨_, _, _, ⟨_, wn, sz, cd, w1, w2, w3, w4, w5⟩, _⟩ := id I
  have hz : ∀ c, c < wn → sz c ≤ 144 := fun c hc => (w4 c hc).2.1
  have isin : F_X12_lies x1 (0 : Int32) (pg_i h 81 44 - 1) = some (b01 (decide (0 ≤ x1 ∧ x1 < nI wn))) := by
    rcases w3 with e | ⟨e1, e2⟩
    · rw [e, lies_n x1 (by omega)]
    · rw [e1, e2, lies_le, decide_eq_false (show ¬ (0 ≤ x1 ∧ x1 ≤ (-1 : Int32) - 1) from fun z => absurd (Int32.le_trans z.1 z.2) (by decide)), decide_eq_false (show ¬ (0 ≤ x1 ∧ x1 < nI 0) from fun z => absurd z.2 (Int32.not_lt.mpr z.1))]
  by_cases c1 : 0 ≤ x1 ∧ x1 < nI wn
  · by_cases c2 : 0 ≤ x2 ∧ x2 ≤ 2
    · obtain ⟨c, hc, rfl⟩ := in_nI c1 (by omega)
      have w3' : pg_i h 81 44 = nI wn := w3.resolve_right (fun z => by omega)
      have b : c < 12 := by omega
      obtain ⟨p1, p2, p3, p4, p5, p6⟩ := w4 c hc
      have same : wN (pg_i h 77) sz wn c = wN (pg_i h 107) sz wn c ∨ sz c = 0 := by
        by_cases s0 : sz c = 0
        · exact Or.inr s0
        · refine Or.inl (sumN_cong (fun o ho => ?_))
          have : inW (pg_i h 77) sz o (pg_i h 77 (144 * c)) = inW (pg_i h 107) sz o (pg_i h 107 (144 * c)) := anyN_cong (fun i hi => by
            have z := w5 o i c 0 ho hi hc (by omega)
            exact decide_eq_decide.mpr z)
          rw [this]
      have val : (if sz c = 0 then 0 else wN (pg_i h 77) sz wn c) = (if sz c = 0 then 0 else wN (pg_i h 107) sz wn c) := by
        rcases same with e | e
        · rw [e]
        · rw [if_pos e, if_pos e]
      refine rd_sim I (if x2 = 0 then nI (sz c) else if x2 = 1 then nI (cd c) else nI (if sz c = 0 then 0 else wN (pg_i h 77) sz wn c)) ?_ ?_
      · unfold F_X11_world
        simp only [k_si, k_sl, k_sr, r_si, r_sl, i_sl, i_sr, l_si, l_sr, Option.bind_some, if_true, if_false, bind_eta2, if_bb, decide_eq_true_eq, pg_let, nR_1_9, nc_76, D, R, c_hasCopy L w2 w1, if_pos c1, within_le, if_pos c2]
        by_cases e0 : x2 = 0
        · rw [if_pos e0, if_pos e0, c_notesOf L w2 w1 (fun c hc => (w4 c hc).2.2.1) hc]
          rfl
        · rw [if_neg e0, if_neg e0]
          by_cases e1 : x2 = 1
          · rw [if_pos e1, if_pos e1]
            unfold F_X10_notesCopied
            simp only [k_si, k_sl, k_sr, r_si, r_sl, i_sl, i_sr, l_si, l_sr, Option.bind_some, if_true, if_false, bind_eta2, if_bb, decide_eq_true_eq, pg_let, nc_76, D, R, c_hasCopy L w2 w1, if_pos c1, nR_76_2, na_79, b, p5]
          · rw [if_neg e1, if_neg e1, c_holders L w2 w1 (fun c hc => (w4 c hc).2.2.1) hz hc]
            rfl
      · unfold F_X12_world
        simp only [k_si, k_sl, k_sr, r_si, r_sl, i_sl, i_sr, l_si, l_sr, Option.bind_some, if_true, if_false, bind_eta2, if_bb, decide_eq_true_eq, pg_let, ng_81, D, R, isin, if_pos c1, lies_le x2, if_pos c2]
        obtain ⟨y, hy, rfl⟩ := nI_of2 (x := x2) (M := 2) (n := 2) (by decide) (Int32.not_lt.mpr c2.1) c2.2
        rcases y with _ | _ | _ | y
        · rw [if_pos (show nI 0 < (2 : Int32) by decide), if_pos (show nI 0 = 0 from rfl), if_pos (show nI 0 = 0 from rfl), nR_81_42 D R, Option.bind_some, na_108 D b, p4]
          rfl
        · rw [if_pos (show nI (0 + 1) < (2 : Int32) by decide), if_neg (show ¬ nI (0 + 1) = 0 by decide), if_neg (show ¬ nI (0 + 1) = 0 by decide), if_pos (show nI (0 + 1) = 1 from rfl), nR_81_43 D R, Option.bind_some, na_109 D b, p6]
          rfl
        · rw [if_neg (show ¬ nI (0 + 1 + 1) < (2 : Int32) by decide), if_neg (show ¬ nI (0 + 1 + 1) = 0 by decide), if_neg (show ¬ nI (0 + 1 + 1) = 1 by decide), val]
          exact m_holders L w3' w1 (fun c hc => (w4 c hc).2.2.2.1) hz hc
        · omega
    · refine rd_sim I (-1) ?_ ?_
      · unfold F_X11_world
        simp only [k_si, k_sl, k_sr, r_si, r_sl, i_sl, i_sr, l_si, l_sr, Option.bind_some, if_true, if_false, bind_eta2, if_bb, decide_eq_true_eq, pg_let, nR_1_9, nc_76, D, R, c_hasCopy L w2 w1, if_pos c1, within_le, if_neg c2]
      · unfold F_X12_world
        simp only [k_si, k_sl, k_sr, r_si, r_sl, i_sl, i_sr, l_si, l_sr, Option.bind_some, if_true, if_false, bind_eta2, if_bb, decide_eq_true_eq, pg_let, ng_81, D, R, isin, if_pos c1, lies_le x2, if_neg c2]
  · refine rd_sim I (-1) ?_ ?_
    · unfold F_X11_world
      simp only [k_si, k_sl, k_sr, r_si, r_sl, i_sl, i_sr, l_si, l_sr, Option.bind_some, if_true, if_false, bind_eta2, if_bb, decide_eq_true_eq, pg_let, nR_1_9, nc_76, D, R, c_hasCopy L w2 w1, if_neg c1]
    · unfold F_X12_world
      simp only [k_si, k_sl, k_sr, r_si, r_sl, i_sl, i_sr, l_si, l_sr, Option.bind_some, if_true, if_false, bind_eta2, if_bb, decide_eq_true_eq, pg_let, ng_81, D, R, isin, if_neg c1]
