/-! THE REFERENCE'S TREES: costs laid, the cheapest over sets -/
def lbit (n : Nat) (al : Nat → Nat → Bool) (c e : Nat) : Bool := if e = 12 then al 0 c else decide (e < n) && al (e + 1) c
def kE (f : Nat) : Nat := if f = 0 then 12 else f - 1
def LG (h : pg_H) (n : Nat) (al : Nat → Nat → Bool) (cs : Nat → Nat → Nat) : Prop := ∀ c, c < n → pg_i h 95 c = nI (mk 13 (lbit n al c)) ∧ ∀ f, f ≤ n → al f c = true → pg_i h 94 (13 * c + kE f) = nI (cs f c)
theorem or_bit13 {f : Nat → Bool} {g : Nat → Bool} {c0 : Nat} (hc : c0 < 13) (h : ∀ c, c < 13 → g c = (f c || decide (c = c0))) : nI (mk 13 f) ||| nI (2 ^ c0) = nI (mk 13 g) := by
  rw [mk_pow hc, ix_or, mk_or]
  exact congrArg nI (mk_cong (fun i hi => (h i hi).symm))
theorem bit13 (g : Nat → Bool) {e : Nat} (he : e < 13) : (nI (mk 13 g) >>> (nI e &&& 31)) &&& (1 : Int32) = b01 (g e) := by
  rw [ix_bit (Nat.lt_of_lt_of_le (mk_lt 13 _) (by decide)) (by omega), mk_bit, decide_eq_true he, Bool.true_and]
theorem bit12 (g : Nat → Bool) {e : Nat} (he : e < 12) : (nI (mk 12 g) >>> (nI e &&& 31)) &&& (1 : Int32) = b01 (g e) := by
  rw [ix_bit (Nat.lt_of_lt_of_le (mk_lt 12 _) (by decide)) (by omega), mk_bit, decide_eq_true he, Bool.true_and]
theorem if_b1 {α : Type} (p : Bool) (a b : α) : (if b01 p = 1 then a else b) = if p = true then a else b := by
  cases p <;> rfl
def lR (A : Nat → Int32) (c i : Nat) : Nat → Bool := fun e => decide (e = 12) || (decide (e < i) && compQ A c e)
theorem comp_lt {A : Nat → Int32} {c e : Nat} (h : compQ A c e = true) : e < nC A := by
  unfold compQ at h
  rw [Bool.and_eq_true] at h
  exact of_decide_eq_true h.1
theorem lR_end {A : Nat → Int32} (K : ShOK A) (c e : Nat) (he : e < 13) : lR A c (nC A) e = lbit (nC A) (alw A) c e := by
  have kC : nC A < 13 := K.1.1.2
  unfold lR lbit alw
  by_cases z : e = 12
  · rw [if_pos z, decide_eq_true z, decide_eq_true rfl]
    rfl
  · rw [if_neg z, decide_eq_false z, decide_eq_false (show ¬ e + 1 = 0 by omega), Bool.false_or, Bool.false_or]
    rfl
theorem m_laysCosts {h : pg_H} {A : Nat → Int32} {X : Nat → tX} (L : Lay h) (M : pg_i h 83 = A) {s : Nat} {g : pg_H} (S : ShX g s A X) : ∃ h', F_X12_laysCosts 81 h = some h' ∧ Ch [92, 93, 94, 95] mT h h' ∧ Wt h' A (wg A (uX A X)) ∧ LG h' (nC A) (alw A) (cst A (wg A (uX A X))) := by
  have K := S.2.1
  have kC : nC A < 13 := K.1.1.2
  have kE1 : A 1344 = nI (nC A) := K.1.1.1
  obtain ⟨a, a1, a2, a3⟩ := m_weighs L M S
  have La := a2.lay L (by decide)
  have Ma : pg_i a 83 = A := (a2.row (by decide)).trans M
  generalize wg A (uX A X) = w at *
  unfold F_X12_laysCosts
  rw [nc_81 L.kd, a1, Option.bind_some]
  -- rows laid so far
  have I0 : Ch [94, 95] [] a a := Ch.refl _ _ _
  refine loopI (fun f c x => F_X12_laysCosts_6 f 81 (nI c) x) (nC A) (fun c x => Ch [94, 95] [] a x ∧ ∀ c', c' < c → pg_i x 95 c' = nI (mk 13 (lR A c' (nC A))) ∧ pg_i x 94 (13 * c' + 12) = nI (tm A 2 * ownS A w c') ∧ ∀ e, e < nC A → compQ A c' e = true → pg_i x 94 (13 * c' + e) = nI (frC A w e e c')) (fun o => ∃ h', o = some h' ∧ Ch [92, 93, 94, 95] mT h h' ∧ Wt h' A w ∧ LG h' (nC A) (alw A) (cst A w)) ?_ ?_ 0 a (Nat.zero_le _) ⟨I0, fun c hc => absurd hc (Nat.not_lt_zero c)⟩ pg_fuel (by unfold pg_fuel; omega)
  · intro f c x hc ⟨cx, rx⟩
    have Lx := cx.lay La (by decide)
    have Mx : pg_i x 83 = A := (cx.row (by decide)).trans Ma
    have bc : c < 12 := by omega
    have Wx : Wt x A w := by
      unfold Wt
      rw [cx.row (by decide)]
      exact a3
    have s1 : Ch [94, 95] [] x (pg_si x 95 c 4096) := (Ch.refl _ _ _).asi (Or.inl (by decide))
    have L1 := s1.lay Lx (by decide)
    have M1 : pg_i (pg_si x 95 c 4096) 83 = A := (s1.row (by decide)).trans Mx
    have W1 : Wt (pg_si x 95 c 4096) A w := by
      unfold Wt
      rw [s1.row (by decide)]
      exact Wx
    have j12 : (13 : Int32) * nI c + 12 = nI (13 * c + 12) := by rw [show (13 : Int32) = nI 13 from rfl, nI_mul, show (12 : Int32) = nI 12 from rfl, nI_add]
    have b12 : 13 * c + 12 < 156 := by omega
    have ent : F_X12_laysCosts_6 (f + 1) 81 (nI c) x = F_X12_laysCosts_42 (F_X12_laysCosts_6 f) pg_fuel 81 (nI c) 0 (pg_si (pg_si x 95 c 4096) 94 (13 * c + 12) (nI (tm A 2 * ownS A w c))) := by
      rw [F_X12_laysCosts_6]
      dsimp only
      simp only [k_si, k_sl, k_sr, r_si, r_sl, i_sl, i_sr, l_si, l_sr, Option.bind_some, if_true, if_false, bind_eta2, if_bb, decide_eq_true_eq, pg_let, nc_81, nR_81_27, nR_81_26, Lx.kd, Lx.rd, m_copiesA Lx Mx, kE1, if_pos (nI_lt hc (show nC A < 2 ^ 31 by omega)), ns_95, bc, m_costAlone L1 M1 K W1 bc, j12, ns_94, b12]
    show ∃ x', F_X12_laysCosts_6 (f + 1) 81 (nI c) x = F_X12_laysCosts_6 f 81 (nI (c + 1)) x' ∧ _
    rw [ent]
    refine loopI (fun f2 i y => F_X12_laysCosts_42 (F_X12_laysCosts_6 f) f2 81 (nI c) (nI i) y) (nC A) (fun i y => Ch [94, 95] [] a y ∧ (∀ c', c' < c → pg_i y 95 c' = nI (mk 13 (lR A c' (nC A))) ∧ pg_i y 94 (13 * c' + 12) = nI (tm A 2 * ownS A w c') ∧ ∀ e, e < nC A → compQ A c' e = true → pg_i y 94 (13 * c' + e) = nI (frC A w e e c')) ∧ pg_i y 95 c = nI (mk 13 (lR A c i)) ∧ pg_i y 94 (13 * c + 12) = nI (tm A 2 * ownS A w c) ∧ ∀ e, e < i → compQ A c e = true → pg_i y 94 (13 * c + e) = nI (frC A w e e c)) (fun o => ∃ x', o = F_X12_laysCosts_6 f 81 (nI (c + 1)) x' ∧ Ch [94, 95] [] a x' ∧ ∀ c', c' < c + 1 → pg_i x' 95 c' = nI (mk 13 (lR A c' (nC A))) ∧ pg_i x' 94 (13 * c' + 12) = nI (tm A 2 * ownS A w c') ∧ ∀ e, e < nC A → compQ A c' e = true → pg_i x' 94 (13 * c' + e) = nI (frC A w e e c')) ?_ ?_ 0 _ (Nat.zero_le _) ⟨?_, ?_, ?_, ?_, fun e he => absurd he (Nat.not_lt_zero e)⟩ pg_fuel (by unfold pg_fuel; omega)
    · intro f2 e y he ⟨cy, oy, ly, wy, ry⟩
      have Ly := cy.lay La (by decide)
      have My : pg_i y 83 = A := (cy.row (by decide)).trans Ma
      have Wy : Wt y A w := by
        unfold Wt
        rw [cy.row (by decide)]
        exact a3
      have be : e < 12 := by omega
      have f97 : ∀ z, F_X12_laysCosts_97 (F_X12_laysCosts_42 (F_X12_laysCosts_6 f) f2) 81 (nI c) (nI e) z = F_X12_laysCosts_42 (F_X12_laysCosts_6 f) f2 81 (nI c) (nI (e + 1)) z := fun z => by
        unfold F_X12_laysCosts_97
        rw [nI_1]
      have cq : compQ A c e = (decide (e ≠ c) && meetQ A (nI e) (nI c)) := by
        unfold compQ
        rw [decide_eq_true he, Bool.true_and]
      have no : compQ A c e = false → mk 13 (lR A c (e + 1)) = mk 13 (lR A c e) := fun q => mk_cong (fun i hi => by
        unfold lR
        by_cases z : i = e
        · rw [z, q, Bool.and_false, Bool.and_false]
        · rw [show decide (i < e + 1) = decide (i < e) from decide_eq_decide.mpr (by omega)])
      have skip : compQ A c e = false → ∃ z, F_X12_laysCosts_97 (F_X12_laysCosts_42 (F_X12_laysCosts_6 f) f2) 81 (nI c) (nI e) y = F_X12_laysCosts_42 (F_X12_laysCosts_6 f) f2 81 (nI c) (nI (e + 1)) z ∧ (Ch [94, 95] [] a z ∧ (∀ c', c' < c → pg_i z 95 c' = nI (mk 13 (lR A c' (nC A))) ∧ pg_i z 94 (13 * c' + 12) = nI (tm A 2 * ownS A w c') ∧ ∀ e, e < nC A → compQ A c' e = true → pg_i z 94 (13 * c' + e) = nI (frC A w e e c')) ∧ pg_i z 95 c = nI (mk 13 (lR A c (e + 1))) ∧ pg_i z 94 (13 * c + 12) = nI (tm A 2 * ownS A w c) ∧ ∀ e', e' < e + 1 → compQ A c e' = true → pg_i z 94 (13 * c + e') = nI (frC A w e' e' c)) := fun q =>
        ⟨y, f97 y, cy, oy, by rw [no q]; exact ly, wy, fun e' he' q' => by
          have : e' ≠ e := fun z => by
            rw [z, q] at q'
            cases q'
          exact ry e' (by omega) q'⟩
      show ∃ z, F_X12_laysCosts_42 (F_X12_laysCosts_6 f) (f2 + 1) 81 (nI c) (nI e) y = F_X12_laysCosts_42 (F_X12_laysCosts_6 f) f2 81 (nI c) (nI (e + 1)) z ∧ _
      rw [F_X12_laysCosts_42]
      dsimp only
      rw [nc_81 Ly.kd, m_copiesA Ly My, kE1, Option.bind_some, if_pos (nI_lt he (by omega))]
      by_cases ec : e = c
      · rw [if_pos (by rw [ec])]
        exact skip (by rw [cq, decide_eq_false (fun z => z ec)]; rfl)
      · rw [if_neg (fun z => ec ((nI_eq (by omega) (by omega)).mp z)), nc_81 Ly.kd, m_canMeet Ly My K, Option.bind_some, if_bb]
        cases mq : meetQ A (nI e) (nI c) with
        | false =>
          rw [if_neg (by decide)]
          exact skip (by rw [cq, mq, Bool.and_false])
        | true =>
          have q : compQ A c e = true := by rw [cq, mq, decide_eq_true ec]; rfl
          have orr : nI (mk 13 (lR A c e)) ||| nI (2 ^ e) = nI (mk 13 (lR A c (e + 1))) := or_bit13 (by omega) (fun i hi => by
            unfold lR
            by_cases z : i = e
            · rw [z, q, decide_eq_true (show e < e + 1 by omega), decide_eq_true (show e = e from rfl), Bool.and_self, Bool.or_true, Bool.or_true]
            · rw [decide_eq_false z, Bool.or_false, show decide (i < e + 1) = decide (i < e) from decide_eq_decide.mpr (by omega)])
          have t1 : Ch [94, 95] [] y (pg_si y 95 c (nI (mk 13 (lR A c (e + 1))))) := (Ch.refl _ _ _).asi (Or.inl (by decide))
          have L2 := t1.lay Ly (by decide)
          have M2 : pg_i (pg_si y 95 c (nI (mk 13 (lR A c (e + 1))))) 83 = A := (t1.row (by decide)).trans My
          have W2 : Wt (pg_si y 95 c (nI (mk 13 (lR A c (e + 1))))) A w := by
            unfold Wt
            rw [t1.row (by decide)]
            exact Wy
          have je : (13 : Int32) * nI c + nI e = nI (13 * c + e) := by rw [show (13 : Int32) = nI 13 from rfl, nI_mul, nI_add]
          have b13 : 13 * c + e < 156 := by omega
          rw [if_pos rfl]
          refine ⟨pg_si (pg_si y 95 c (nI (mk 13 (lR A c (e + 1))))) 94 (13 * c + e) (nI (frC A w e e c)), ?_, (cy.asi (Or.inl (by decide))).asi (Or.inl (by decide)), fun c' hc' => ?_, ?_, ?_, fun e' he' q' => ?_⟩
          · simp only [k_si, k_sl, k_sr, r_si, r_sl, i_sl, i_sr, l_si, l_sr, Option.bind_some, if_true, if_false, bind_eta2, if_bb, decide_eq_true_eq, pg_let, nR_81_27, nR_81_26, nc_81, Ly.kd, Ly.rd, na_95, ns_95, bc, ly, ix_shl e (show e < 32 by omega), orr, m_costFrom L2 M2 K W2 be be bc, je, ns_94, b13, f97]
          · obtain ⟨z1, z2, z3⟩ := oy c' hc'
            rw [si_ne (show 95 ≠ 94 by decide), si_row, up1_ne (show c' ≠ c by omega), si_row, si_ne (show 94 ≠ 95 by decide), up1_ne (by omega)]
            refine ⟨z1, z2, fun e2 he2 q2 => ?_⟩
            rw [up1_ne (by omega)]
            exact z3 e2 he2 q2
          · rw [si_ne (by decide), si_row, up1_eq]
          · rw [si_row, si_ne (by decide), up1_ne (by omega)]
            exact wy
          · rw [si_row, si_ne (by decide)]
            by_cases z : e' = e
            · rw [z, up1_eq]
            · rw [up1_ne (by omega)]
              exact ry e' (by omega) q'
    · intro f2 y ⟨cy, oy, ly, wy, ry⟩
      have Ly := cy.lay La (by decide)
      have My : pg_i y 83 = A := (cy.row (by decide)).trans Ma
      refine ⟨y, ?_, cy, fun c' hc' => ?_⟩
      · show F_X12_laysCosts_42 (F_X12_laysCosts_6 f) (f2 + 1) 81 (nI c) (nI (nC A)) y = _
        rw [F_X12_laysCosts_42]
        dsimp only
        rw [nc_81 Ly.kd, m_copiesA Ly My, kE1, Option.bind_some, if_neg Int32.lt_irrefl, nI_1]
      · by_cases z : c' = c
        · rw [z]
          exact ⟨ly, wy, ry⟩
        · exact oy c' (by omega)
    · exact (cx.asi (Or.inl (by decide))).asi (Or.inl (by decide))
    · intro c' hc'
      obtain ⟨z1, z2, z3⟩ := rx c' hc'
      rw [si_ne (show 95 ≠ 94 by decide), si_row, up1_ne (show c' ≠ c by omega), si_row, si_ne (show 94 ≠ 95 by decide), up1_ne (by omega)]
      refine ⟨z1, z2, fun e2 he2 q2 => ?_⟩
      rw [up1_ne (by omega)]
      exact z3 e2 he2 q2
    · rw [si_ne (by decide), si_row, up1_eq, show (4096 : Int32) = nI (2 ^ 12) from rfl, mk_pow (n := 13) (c := 12) (by decide)]
      refine congrArg nI (mk_cong (fun i hi => ?_))
      unfold lR
      rw [decide_eq_false (Nat.not_lt_zero i), Bool.false_and, Bool.or_false]
    · rw [si_row, up1_eq]
  · intro f x ⟨cx, rx⟩
    have Lx := cx.lay La (by decide)
    have Mx : pg_i x 83 = A := (cx.row (by decide)).trans Ma
    refine ⟨x, ?_, (a2.mono (by decide)).trans (cx.mono (by decide)), ?_, fun c hc => ?_⟩
    · show F_X12_laysCosts_6 (f + 1) 81 (nI (nC A)) x = _
      rw [F_X12_laysCosts_6]
      dsimp only
      rw [nc_81 Lx.kd, m_copiesA Lx Mx, kE1, Option.bind_some, if_neg Int32.lt_irrefl]
    · unfold Wt
      rw [cx.row (by decide)]
      exact a3
    · obtain ⟨z1, z2, z3⟩ := rx c hc
      refine ⟨?_, fun k hk q => ?_⟩
      · rw [z1]
        exact congrArg nI (mk_cong (fun e he => lR_end K c e he))
      · unfold kE cst
        by_cases k0 : k = 0
        · rw [if_pos k0, if_pos k0]
          exact z2
        · rw [if_neg k0, if_neg k0]
          refine z3 (k - 1) (by omega) ?_
          unfold alw at q
          rw [decide_eq_false k0, Bool.false_or] at q
          exact q
/-- the cheapest exemplar of a copy out of a set -/
theorem m_cheapestOf {h : pg_H} {n : Nat} {al : Nat → Nat → Bool} {cs : Nat → Nat → Nat} (L : Lay h) (hn : n ≤ 12) (G : LG h n al cs) (hB : ∀ f c, f ≤ 12 → c < 12 → cs f c ≤ 400000) {c : Nat} (hc : c < n) (s : Nat → Bool) :
    ∃ b, F_X12_cheapestOf h 81 (nI c) (nI (mk 12 s)) = some (nI b) ∧ b ≤ 1000000000 ∧ (∀ f, f ≤ n → al f c = true → (f ≠ 0 → s (f - 1) = true) → b ≤ cs f c) ∧ (b < 1000000000 → ∃ f, f ≤ n ∧ al f c = true ∧ (f ≠ 0 → s (f - 1) = true) ∧ b = cs f c) := by
  obtain ⟨g1, g2⟩ := G c hc
  have bc : c < 12 := by omega
  have okE : ∀ e, e < 13 → ∀ f, f ≤ n → kE f = e → f = if e = 12 then 0 else e + 1 := fun e he f hf q => by
    unfold kE at q
    by_cases f0 : f = 0
    · rw [if_pos f0] at q
      rw [if_pos q.symm, f0]
    · rw [if_neg f0] at q
      rw [if_neg (by omega)]
      omega
  have z := loopI (fun f i (x : Nat) => F_X12_cheapestOf_7 h f 81 (nI c) (nI (mk 12 s)) (nI x) (nI i)) 13 (fun i x => x ≤ 1000000000 ∧ (∀ f, f ≤ n → kE f < i → al f c = true → (f ≠ 0 → s (f - 1) = true) → x ≤ cs f c) ∧ (x < 1000000000 → ∃ f, f ≤ n ∧ al f c = true ∧ (f ≠ 0 → s (f - 1) = true) ∧ x = cs f c)) (fun o => ∃ b, o = some (nI b) ∧ b ≤ 1000000000 ∧ (∀ f, f ≤ n → al f c = true → (f ≠ 0 → s (f - 1) = true) → b ≤ cs f c) ∧ (b < 1000000000 → ∃ f, f ≤ n ∧ al f c = true ∧ (f ≠ 0 → s (f - 1) = true) ∧ b = cs f c)) ?_ ?_ 0 1000000000 (Nat.zero_le _) ⟨Nat.le_refl _, fun f _ hf => absurd hf (Nat.not_lt_zero _), fun h => absurd h (Nat.lt_irrefl _)⟩ pg_fuel (by unfold pg_fuel; omega)
  · exact z
  · intro f e x he ⟨x1, x2, x3⟩
    have f75 : ∀ y, F_X12_cheapestOf_75 h (F_X12_cheapestOf_7 h f) 81 (nI c) (nI (mk 12 s)) y (nI e) = F_X12_cheapestOf_7 h f 81 (nI c) (nI (mk 12 s)) y (nI (e + 1)) := fun y => by
      unfold F_X12_cheapestOf_75
      rw [nI_1]
    have skip : (∀ k, k ≤ n → kE k = e → al k c = true → (k ≠ 0 → s (k - 1) = true) → False) → ∃ x', F_X12_cheapestOf_75 h (F_X12_cheapestOf_7 h f) 81 (nI c) (nI (mk 12 s)) (nI x) (nI e) = F_X12_cheapestOf_7 h f 81 (nI c) (nI (mk 12 s)) (nI x') (nI (e + 1)) ∧ (x' ≤ 1000000000 ∧ (∀ f, f ≤ n → kE f < e + 1 → al f c = true → (f ≠ 0 → s (f - 1) = true) → x' ≤ cs f c) ∧ (x' < 1000000000 → ∃ f, f ≤ n ∧ al f c = true ∧ (f ≠ 0 → s (f - 1) = true) ∧ x' = cs f c)) := fun no =>
      ⟨x, f75 _, x1, fun k hk ke ka ks => by
        by_cases q : kE k = e
        · exact absurd (no k hk q ka ks) id
        · exact x2 k hk (by omega) ka ks, x3⟩
    have je : (13 : Int32) * nI c + nI e = nI (13 * c + e) := by rw [show (13 : Int32) = nI 13 from rfl, nI_mul, nI_add]
    have b13 : 13 * c + e < 156 := by omega
    have take : ∀ k, k ≤ n → kE k = e → al k c = true → (k ≠ 0 → s (k - 1) = true) → ∃ x', F_X12_cheapestOf_46 h (F_X12_cheapestOf_7 h f) 81 (nI c) (nI (mk 12 s)) (nI x) (nI e) = F_X12_cheapestOf_7 h f 81 (nI c) (nI (mk 12 s)) (nI x') (nI (e + 1)) ∧ (x' ≤ 1000000000 ∧ (∀ f, f ≤ n → kE f < e + 1 → al f c = true → (f ≠ 0 → s (f - 1) = true) → x' ≤ cs f c) ∧ (x' < 1000000000 → ∃ f, f ≤ n ∧ al f c = true ∧ (f ≠ 0 → s (f - 1) = true) ∧ x' = cs f c)) := fun k hk ke ka ks => by
      have cost := g2 k hk ka
      rw [ke] at cost
      have bd := hB k c (by omega) bc
      unfold F_X12_cheapestOf_46
      rw [nR_81_26 L.kd L.rd, Option.bind_some, je, na_94 L.kd b13, Option.bind_some, Option.bind_some, na_94 L.kd b13, cost, Option.bind_some, f75, f75]
      have uniq : ∀ k', k' ≤ n → kE k' = e → k' = k := fun k' hk' ke' => by rw [okE e he k' hk' ke', okE e he k hk ke]
      by_cases lt : cs k c < x
      · rw [if_pos (nI_lt lt (by omega))]
        refine ⟨cs k c, rfl, by omega, fun k' hk' ke' ka' ks' => ?_, fun _ => ⟨k, hk, ka, ks, rfl⟩⟩
        by_cases q : kE k' = e
        · rw [uniq k' hk' q]
          exact Nat.le_refl _
        · have := x2 k' hk' (by omega) ka' ks'
          omega
      · rw [if_neg (nI_nlt (by omega) (by omega))]
        refine ⟨x, rfl, x1, fun k' hk' ke' ka' ks' => ?_, x3⟩
        by_cases q : kE k' = e
        · rw [uniq k' hk' q]
          omega
        · exact x2 k' hk' (by omega) ka' ks'
    show ∃ x', F_X12_cheapestOf_7 h (f + 1) 81 (nI c) (nI (mk 12 s)) (nI x) (nI e) = F_X12_cheapestOf_7 h f 81 (nI c) (nI (mk 12 s)) (nI x') (nI (e + 1)) ∧ _
    rw [F_X12_cheapestOf_7]
    dsimp only
    rw [if_neg (show ¬ (12 : Int32) < nI e from nI_nlt (b := e) (a := 12) (by omega) (by decide)), nR_81_27 L.kd L.rd, Option.bind_some, na_95 L.kd bc, Option.bind_some, g1, bit13 _ he, if_b1]
    by_cases e12 : e = 12
    · have lb : lbit n al c e = al 0 c := if_pos e12
      rw [lb]
      cases a0 : al 0 c with
      | true =>
        rw [if_pos rfl, if_pos (show nI e = (12 : Int32) by rw [e12]; rfl)]
        exact take 0 (Nat.zero_le _) e12.symm a0 (fun z => absurd rfl z)
      | false =>
        rw [if_neg (by decide)]
        refine skip (fun k hk ke ka _ => ?_)
        have := okE e he k hk ke
        rw [if_pos e12] at this
        rw [this, a0] at ka
        cases ka
    · have lb : lbit n al c e = (decide (e < n) && al (e + 1) c) := if_neg e12
      rw [lb]
      by_cases en : e < n ∧ al (e + 1) c = true
      · rw [decide_eq_true en.1, en.2, if_pos (show (true && true) = true from rfl), if_neg (show ¬ nI e = (12 : Int32) from fun z => e12 ((nI_eq (b := 12) (by omega) (by decide)).mp z)), bit12 _ (by omega), if_b1]
        cases se : s e with
        | true =>
          rw [if_pos rfl]
          exact take (e + 1) (by omega) (by unfold kE; rw [if_neg (by omega)]; omega) en.2 (fun _ => se)
        | false =>
          rw [if_neg (by decide)]
          refine skip (fun k hk ke ka ks => ?_)
          have := okE e he k hk ke
          rw [if_neg e12] at this
          have := ks (by omega)
          rw [show k - 1 = e by omega, se] at this
          cases this
      · have : (decide (e < n) && al (e + 1) c) = false := by
          by_cases q : e < n
          · rw [decide_eq_true q, Bool.true_and]
            cases q2 : al (e + 1) c with
            | false => rfl
            | true => exact absurd ⟨q, q2⟩ en
          · rw [decide_eq_false q]
            rfl
        rw [this, if_neg (by decide)]
        refine skip (fun k hk ke ka _ => en ?_)
        have := okE e he k hk ke
        rw [if_neg e12] at this
        rw [this] at ka hk
        exact ⟨by omega, ka⟩
  · intro f x ⟨x1, x2, x3⟩
    refine ⟨x, ?_, x1, fun k hk ka ks => x2 k hk (by unfold kE; split <;> omega) ka ks, x3⟩
    show F_X12_cheapestOf_7 h (f + 1) 81 (nI c) (nI (mk 12 s)) (nI x) (nI 13) = _
    rw [F_X12_cheapestOf_7]
    dsimp only
    rw [if_pos (show (12 : Int32) < nI 13 by decide)]
