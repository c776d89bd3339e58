/-! FAMILIES: the class -/
def nrB (A : Nat → Int32) (w : Nat → Nat → Nat) (a b : Nat) : Bool := decide (a ≠ b) && (decide (a < nC A) && (decide (b < nC A) && decide (tm A 3 ≤ agS A w a b)))
theorem nrB_iff {A : Nat → Int32} {w : Nat → Nat → Nat} {a b : Nat} : nrB A w a b = true ↔ a ≠ b ∧ a < nC A ∧ b < nC A ∧ tm A 3 ≤ agS A w a b := by
  unfold nrB
  rw [Bool.and_eq_true, Bool.and_eq_true, Bool.and_eq_true, decide_eq_true_eq, decide_eq_true_eq, decide_eq_true_eq, decide_eq_true_eq]
theorem nrB_symm {A : Nat → Int32} {w : Nat → Nat → Nat} (a b : Nat) (h : nrB A w a b = true) : nrB A w b a = true := by
  obtain ⟨h1, h2, h3, h4⟩ := nrB_iff.mp h
  exact nrB_iff.mpr ⟨fun e => h1 e.symm, h3, h2, by rw [agS_symm]; exact h4⟩
def dn (i j x y : Nat) : Bool := decide (min x y < i ∨ (min x y = i ∧ max x y < j))
def nrD (A : Nat → Int32) (w : Nat → Nat → Nat) (i j x y : Nat) : Bool := nrB A w x y && dn i j x y
theorem nrD_cong {A : Nat → Int32} {w : Nat → Nat → Nat} {i j i' j' x y : Nat} (h : nrB A w x y = true → ((min x y < i ∨ (min x y = i ∧ max x y < j)) ↔ (min x y < i' ∨ (min x y = i' ∧ max x y < j')))) : nrD A w i j x y = nrD A w i' j' x y := by
  unfold nrD dn
  cases q : nrB A w x y with
  | false => rfl
  | true => rw [decide_eq_decide.mpr (h q)]
theorem nrD_end {A : Nat → Int32} {w : Nat → Nat → Nat} {i : Nat} (x y : Nat) : nrD A w i (nC A) x y = nrD A w (i + 1) (i + 2) x y :=
  nrD_cong (fun q => by
    obtain ⟨h1, h2, h3, _⟩ := nrB_iff.mp q
    omega)
theorem nrD_hit {A : Nat → Int32} {w : Nat → Nat → Nat} {i j x y : Nat} (hij : i < j) (q : nrB A w i j = true) : nrD A w i (j + 1) x y = (nrD A w i j x y || (decide (x = i) && decide (y = j) || decide (x = j) && decide (y = i))) := by
  by_cases e1 : x = i ∧ y = j
  · rw [e1.1, e1.2, decide_eq_true rfl, decide_eq_true rfl]
    unfold nrD dn
    rw [q, decide_eq_true (show min i j < i ∨ (min i j = i ∧ max i j < j + 1) by omega)]
    simp
  · by_cases e2 : x = j ∧ y = i
    · rw [e2.1, e2.2, decide_eq_true rfl, decide_eq_true rfl]
      unfold nrD dn
      rw [nrB_symm _ _ q, decide_eq_true (show min j i < i ∨ (min j i = i ∧ max j i < j + 1) by omega)]
      simp
    · have n1 : (decide (x = i) && decide (y = j)) = false := by
        rw [← Bool.not_eq_true, Bool.and_eq_true, decide_eq_true_eq, decide_eq_true_eq]
        exact e1
      have n2 : (decide (x = j) && decide (y = i)) = false := by
        rw [← Bool.not_eq_true, Bool.and_eq_true, decide_eq_true_eq, decide_eq_true_eq]
        exact e2
      rw [n1, n2, Bool.or_false, Bool.or_false]
      exact nrD_cong (fun _ => by omega)
theorem nrD_miss {A : Nat → Int32} {w : Nat → Nat → Nat} {i j x y : Nat} (hij : i < j) (q : nrB A w i j = false) : nrD A w i (j + 1) x y = nrD A w i j x y :=
  nrD_cong (fun r => by
    have n1 : ¬ (x = i ∧ y = j) := fun z => by
      rw [z.1, z.2, q] at r
      cases r
    have n2 : ¬ (x = j ∧ y = i) := fun z => by
      rw [z.1, z.2] at r
      rw [nrB_symm _ _ r] at q
      cases q
    omega)
theorem c_findNear {h : pg_H} {A : Nat → Int32} {w : Nat → Nat → Nat} (L : Lay h) (C : CNum h 2 A) (K : ShOK A) (hw : wOK w) (rd : Rd h A w) : ∃ h', F_X4_findNear 50 2 h = some h' ∧ Ch [58] [] h h' ∧ ∀ a, a < 12 → pg_i h' 58 a = nI (mk 12 (nrB A w a)) := by
  have kC : nC A < 13 := K.1.1.2
  obtain ⟨a, fa, ca, ra⟩ := c_fill (h := h) (r := 58) (n := 12) 0 ((L.kd 58 (by decide)).trans (by decide)) (by decide)
  have La := ca.lay L (by decide)
  have Ca : CNum a 2 A := C.ch ca (by decide)
  unfold F_X4_findNear pg_let
  rw [nR_50_7 L.kd L.rd, Option.bind_some, fa, Option.bind_some, nR_2_0 La.kd La.rd, Option.bind_some, nc_3 La.kd, c_size_3 Ca, Option.bind_some]
  dsimp only
  rw [if_neg (show ¬ (12 : Int32) < nI (nC A) from nI_nlt (a := 12) (by omega) (by decide))]
  refine loopI (fun f i x => F_X4_findNear_23 f 50 2 (nI (nC A)) (nI i) x) (nC A) (fun i x => Ch [58] [] h x ∧ ∀ y, y < 12 → pg_i x 58 y = nI (mk 12 (nrD A w i (i + 1) y))) (fun o => ∃ h', o = some h' ∧ Ch [58] [] h h' ∧ ∀ a, a < 12 → pg_i h' 58 a = nI (mk 12 (nrB A w a))) ?_ ?_ 0 a (Nat.zero_le _) ⟨ca, fun y hy => ?_⟩ pg_fuel (by unfold pg_fuel; omega)
  · intro f i x hi ⟨cx, rx⟩
    show ∃ x', F_X4_findNear_23 (f + 1) 50 2 (nI (nC A)) (nI i) x = F_X4_findNear_23 f 50 2 (nI (nC A)) (nI (i + 1)) x' ∧ _
    rw [F_X4_findNear_23]
    unfold pg_let
    dsimp only
    rw [if_pos (nI_lt hi (by omega)), nI_1]
    refine loopI (fun f2 j y => F_X4_findNear_33 (F_X4_findNear_23 f) f2 50 2 (nI (nC A)) (nI i) (nI j) y) (nC A) (fun j y => i < j ∧ Ch [58] [] h y ∧ ∀ z, z < 12 → pg_i y 58 z = nI (mk 12 (nrD A w i j z))) (fun o => ∃ x', o = F_X4_findNear_23 f 50 2 (nI (nC A)) (nI (i + 1)) x' ∧ Ch [58] [] h x' ∧ ∀ y, y < 12 → pg_i x' 58 y = nI (mk 12 (nrD A w (i + 1) (i + 1 + 1) y))) ?_ ?_ (i + 1) x (by omega) ⟨by omega, cx, rx⟩ pg_fuel (by unfold pg_fuel; omega)
    · intro f2 j y hj ⟨ij, cy, ry⟩
      have Ly := cy.lay L (by decide)
      have Cy : CNum y 2 A := C.ch cy (by decide)
      obtain ⟨Ry, ky, Sy⟩ := (rd.ch cy (by decide)).short K
      have i12 : i < 12 := by omega
      have j12 : j < 12 := by omega
      have f81 : ∀ z, F_X4_findNear_81 (F_X4_findNear_33 (F_X4_findNear_23 f) f2) 50 2 (nI (nC A)) (nI i) (nI j) z = F_X4_findNear_33 (F_X4_findNear_23 f) f2 50 2 (nI (nC A)) (nI i) (nI (j + 1)) z := fun z => by
        unfold F_X4_findNear_81
        rw [nI_1]
      show ∃ y', F_X4_findNear_33 (F_X4_findNear_23 f) (f2 + 1) 50 2 (nI (nC A)) (nI i) (nI j) y = F_X4_findNear_33 (F_X4_findNear_23 f) f2 50 2 (nI (nC A)) (nI i) (nI (j + 1)) y' ∧ _
      rw [F_X4_findNear_33]
      dsimp only
      have ab := agS_le K hw (a := i) (b := j) (by omega)
      have tb := (terms_le K).2.2.2
      rw [if_pos (nI_lt hj (by omega)), nc_50 Ly.kd, c_agreement Ly Sy i12 j12, Option.bind_some, nR_2_5 Ly.kd Ly.rd, Option.bind_some, show (3 : Int32) = nI 3 from rfl, na_13 Ly.kd (by decide), Option.bind_some, show pg_i y 13 3 = A 1343 from Cy.2.2.2.2.2.1 3 (by decide), (terms_eq K).2.2.2]
      by_cases q : tm A 3 ≤ agS A w i j
      · have nr : nrB A w i j = true := nrB_iff.mpr ⟨by omega, hi, hj, q⟩
        have Lz : Lay (pg_si y 58 i (pg_i y 58 i ||| nI (2 ^ j))) := (cy.asi (Or.inl (by decide))).lay L (by decide)
        rw [if_neg (nI_nlt q (by omega)), nR_50_7 Ly.kd Ly.rd, Option.bind_some, na_58 Ly.kd i12, Option.bind_some, ix_shl j (by omega), ns_58 Ly.kd i12, Option.bind_some, nR_50_7 Lz.kd Lz.rd, Option.bind_some, na_58 Lz.kd j12, Option.bind_some, ix_shl i (by omega), ns_58 Lz.kd j12, Option.bind_some, f81]
        refine ⟨_, rfl, by omega, (cy.asi (Or.inl (by decide))).asi (Or.inl (by decide)), fun z hz => ?_⟩
        rw [si_row, si_row]
        have fin : ∀ k, k < 12 → nI (mk 12 (nrD A w i j z)) ||| nI (2 ^ k) = nI (mk 12 fun y => nrD A w i j z y || decide (y = k)) := fun k hk => by
          rw [mk_pow hk, ix_or, mk_or]
        by_cases zj : z = j
        · subst zj
          rw [up1_eq, up1_ne (show z ≠ i by omega), ry z hz, fin i i12]
          refine congrArg nI (mk_cong (fun y _ => ?_))
          rw [nrD_hit ij nr, decide_eq_false (show ¬ z = i by omega), decide_eq_true rfl, Bool.false_and, Bool.true_and, Bool.false_or]
        · rw [up1_ne zj]
          by_cases zi : z = i
          · subst zi
            rw [up1_eq, ry z hz, fin j j12]
            refine congrArg nI (mk_cong (fun y _ => ?_))
            rw [nrD_hit ij nr, decide_eq_false zj, decide_eq_true rfl, Bool.false_and, Bool.true_and, Bool.or_false]
          · rw [up1_ne zi, ry z hz]
            refine congrArg nI (mk_cong (fun y _ => ?_))
            rw [nrD_hit ij nr, decide_eq_false zj, decide_eq_false zi, Bool.false_and, Bool.false_and, Bool.or_false, Bool.or_false]
      · have nr : nrB A w i j = false := by
          rw [← Bool.not_eq_true, nrB_iff]
          exact fun z => q z.2.2.2
        rw [if_pos (nI_lt (by omega) (by omega)), f81]
        refine ⟨y, rfl, by omega, cy, fun z hz => ?_⟩
        rw [ry z hz]
        exact congrArg nI (mk_cong (fun y _ => (nrD_miss ij nr).symm))
    · intro f2 y ⟨_, cy, ry⟩
      refine ⟨y, ?_, cy, fun z hz => ?_⟩
      · show F_X4_findNear_33 (F_X4_findNear_23 f) (f2 + 1) 50 2 (nI (nC A)) (nI i) (nI (nC A)) y = _
        rw [F_X4_findNear_33]
        dsimp only
        rw [if_neg Int32.lt_irrefl, nI_1]
      · rw [ry z hz]
        exact congrArg nI (mk_cong (fun y _ => nrD_end z y))
  · intro f x ⟨cx, rx⟩
    refine ⟨x, ?_, cx, fun y hy => ?_⟩
    · show F_X4_findNear_23 (f + 1) 50 2 (nI (nC A)) (nI (nC A)) x = _
      rw [F_X4_findNear_23]
      dsimp only
      rw [if_neg Int32.lt_irrefl]
    · rw [rx y hy]
      refine congrArg nI (mk_cong (fun z _ => ?_))
      unfold nrD dn
      cases q : nrB A w y z with
      | false => rfl
      | true =>
        obtain ⟨_, q2, _, _⟩ := nrB_iff.mp q
        rw [decide_eq_true (show min y z < nC A ∨ (min y z = nC A ∧ max y z < nC A + 1) by omega)]
        rfl
  · rw [ra y hy]
    have : mk 12 (nrD A w 0 (0 + 1) y) = 0 := Eq.trans (mk_cong (g := fun _ => false) (fun z _ => by
      unfold nrD dn
      cases q : nrB A w y z with
      | false => rfl
      | true =>
        obtain ⟨q1, _, _, _⟩ := nrB_iff.mp q
        rw [decide_eq_false (show ¬ (min y z < 0 ∨ (min y z = 0 ∧ max y z < 0 + 1)) by omega)]
        rfl)) (mk_zero 12).symm
    rw [this]
    rfl
def famN (G Mb : Nat → Bool) (lab : Nat → Nat) (n : Nat) : Nat := sumN n fun f => if anyN 12 (fun j => Mb j && (G j && decide (lab j = f))) then 1 else 0
theorem fam_one {G Mb : Nat → Bool} {N : Nat → Nat → Bool} {lab lab2 : Nat → Nat} {n : Nat} (I : IsLab G N lab) (J : IsLab G N lab2) : famN G Mb lab n = famN G Mb lab2 n := sumN_cong (fun f _ => by
  have e : anyN 12 (fun j => Mb j && (G j && decide (lab j = f))) = anyN 12 (fun j => Mb j && (G j && decide (lab2 j = f))) := anyN_cong (fun j _ => by
    cases g : G j with
    | false => rfl
    | true => rw [lab_one I J g])
  rw [e])
theorem c_familiesOf {h : pg_H} {A : Nat → Int32} {w : Nat → Nat → Nat} (L : Lay h) (C : CNum h 2 A) (K : ShOK A) (hw : wOK w) (rd : Rd h A w) {G Mb : Nat → Bool} {lab : Nat → Nat} (hG : ∀ j, G j = true → j < 12) (I : IsLab G (nrB A w) lab) :
    ∃ h', F_X4_familiesOf 50 2 (nI (mk 12 G)) (nI (mk 12 Mb)) h = some (nI (famN G Mb lab 12), h') ∧ Ch [58] [] h h' := by
  obtain ⟨g, g1, g2, g3⟩ := c_findNear L C K hw rd
  have Lg := g2.lay L (by decide)
  unfold F_X4_familiesOf
  rw [nc_50 L.kd, g1, Option.bind_some]
  refine ⟨g, ?_, g2⟩
  have e0 : nI (mk 12 G) = nI (mk 12 (restB G lab 0)) := congrArg nI (mk_cong (fun j _ => by
    unfold restB
    rw [decide_eq_true (Nat.zero_le _), Bool.and_true]))
  rw [e0]
  refine loopI (fun f c (_ : Unit) => F_X4_familiesOf_14 f 50 (nI (mk 12 Mb)) (nI (mk 12 (restB G lab c))) (nI (famN G Mb lab c)) (nI c) g) 12 (fun _ _ => True) (fun o => o = some (nI (famN G Mb lab 12), g)) ?_ ?_ 0 () (Nat.zero_le _) trivial pg_fuel (by unfold pg_fuel; omega)
  · intro f c _ hc _
    refine ⟨(), ?_, trivial⟩
    show F_X4_familiesOf_14 (f + 1) 50 (nI (mk 12 Mb)) (nI (mk 12 (restB G lab c))) (nI (famN G Mb lab c)) (nI c) g = F_X4_familiesOf_14 f 50 (nI (mk 12 Mb)) (nI (mk 12 (restB G lab (c + 1)))) (nI (famN G Mb lab (c + 1))) (nI (c + 1)) g
    have f68 : ∀ u v, F_X4_familiesOf_68 (F_X4_familiesOf_14 f) 50 (nI (mk 12 Mb)) u v (nI c) g = F_X4_familiesOf_14 f 50 (nI (mk 12 Mb)) u v (nI (c + 1)) g := fun u v => by
      unfold F_X4_familiesOf_68
      rw [nI_1]
    rw [F_X4_familiesOf_14]
    dsimp only
    rw [if_pos (show nI c < (12 : Int32) from nI_lt (b := 12) hc (by decide)), bit12 _ hc, if_b1]
    cases q : restB G lab c c with
    | true =>
      have q' := q
      unfold restB at q'
      rw [Bool.and_eq_true, decide_eq_true_eq] at q'
      have lc : lab c = c := Nat.le_antisymm (I.1 c q'.1).2.1 q'.2
      obtain ⟨F, s1, s2⟩ := c_spread Lg g3 (G := restB G lab c) (fun j hj => hG j (by
        unfold restB at hj
        rw [Bool.and_eq_true] at hj
        exact hj.1)) hc
      have eF : ∀ j, j < 12 → F j = (G j && decide (lab j = c)) := fun j hj => by
        rw [Bool.eq_iff_iff, s2 j hj, rest_reach I q'.1 lc]
      rw [if_pos rfl, nc_50 Lg.kd, s1, Option.bind_some]
      unfold F_X4_familiesOf_65 pg_let
      simp only [f68]
      rw [ix_not 12 _ _ (by decide), ix_and, mk_and]
      have er : mk 12 (fun i => restB G lab c i && !F i) = mk 12 (restB G lab (c + 1)) := mk_cong (fun j hj => by
        rw [eF j hj]
        unfold restB
        cases gj : G j with
        | false => rfl
        | true =>
          rw [Bool.true_and, Bool.true_and, Bool.true_and]
          by_cases e : lab j = c
          · rw [decide_eq_true e, decide_eq_false (show ¬ c + 1 ≤ lab j by omega)]
            exact Bool.and_false _
          · rw [decide_eq_false e]
            show (decide (c ≤ lab j) && true) = _
            rw [Bool.and_true]
            exact decide_eq_decide.mpr (by omega))
      rw [er]
      have em : (nI (mk 12 (fun i => F i && Mb i)) = 0) ↔ anyN 12 (fun j => Mb j && (G j && decide (lab j = c))) = false := by
        rw [show (0 : Int32) = nI (mk 12 fun _ => false) from congrArg nI (mk_zero 12), nI_mk_eq, anyN_false]
        constructor
        · intro z i hi
          rw [← eF i hi, Bool.and_comm]
          exact z i hi
        · intro z i hi
          rw [eF i hi, Bool.and_comm]
          exact z i hi
      have es : famN G Mb lab (c + 1) = famN G Mb lab c + if anyN 12 (fun j => Mb j && (G j && decide (lab j = c))) then 1 else 0 := rfl
      rw [es]
      cases an : anyN 12 (fun j => Mb j && (G j && decide (lab j = c))) with
      | false =>
        rw [if_pos (em.mpr an), if_neg (by decide)]
        rw [show (0 : Int32) = nI 0 from rfl, nI_add]
      | true =>
        rw [if_neg (fun z => by rw [em.mp z] at an; cases an), if_pos rfl, nI_1]
    | false =>
      rw [if_neg (by decide), f68]
      have no : ∀ j, G j = true → lab j ≠ c := fun j gj e => by
        have g1 := (I.1 j gj).1
        have g2 := I.idem gj
        rw [e] at g1 g2
        unfold restB at q
        rw [g1, g2, decide_eq_true (Nat.le_refl c)] at q
        cases q
      have er : mk 12 (restB G lab c) = mk 12 (restB G lab (c + 1)) := mk_cong (fun j _ => by
        unfold restB
        cases gj : G j with
        | false => rfl
        | true =>
          have := no j gj
          rw [Bool.true_and, Bool.true_and]
          exact decide_eq_decide.mpr (by omega))
      have an : anyN 12 (fun j => Mb j && (G j && decide (lab j = c))) = false := anyN_false.mpr (fun j _ => by
        cases gj : G j with
        | false => rw [Bool.false_and, Bool.and_false]
        | true => rw [decide_eq_false (no j gj), Bool.and_false, Bool.and_false])
      have es : famN G Mb lab (c + 1) = famN G Mb lab c + if anyN 12 (fun j => Mb j && (G j && decide (lab j = c))) then 1 else 0 := rfl
      rw [er, es, an, if_neg (show ¬ false = true by decide)]
      rfl
  · intro f _ _
    show F_X4_familiesOf_14 (f + 1) 50 (nI (mk 12 Mb)) (nI (mk 12 (restB G lab 12))) (nI (famN G Mb lab 12)) (nI 12) g = _
    rw [F_X4_familiesOf_14]
    dsimp only
    rw [if_neg (show ¬ nI 12 < (12 : Int32) by decide)]
theorem ntz_lab (F : Nat → Bool) {l : Nat} (hl : l < 12) (f1 : F l = true) (f2 : ∀ j, j < l → F j = false) : F_J6_numberOfTrailingZeros_0f7a4 (nI (mk 12 F)) = some (nI l) := by
  rw [ntz12 _ (mk_lt 12 F)]
  have key : ∀ l, l < 12 → ∀ m, m < 4096 → m.testBit l = true → (∀ j, j < l → m.testBit j = false) → lowB m = l := by
    intro l hl m _ h1 h2
    unfold lowB
    have e : (List.range 12).find? (fun i => m.testBit i) = some l := by
      rw [List.find?_range_eq_some]
      refine ⟨h1, List.mem_range.mpr hl, fun j hj => ?_⟩
      rw [h2 j hj]
      rfl
    rw [e]
    rfl
  rw [key l hl _ (mk_lt 12 F) (by rw [mk_bit, decide_eq_true hl, f1]; rfl) (fun j hj => by rw [mk_bit, f2 j hj, Bool.and_false])]
theorem c_familyOf {h : pg_H} {A : Nat → Int32} {w : Nat → Nat → Nat} (L : Lay h) (C : CNum h 2 A) (K : ShOK A) (hw : wOK w) (rd : Rd h A w) {lab : Nat → Nat} {c : Nat} (hc : c < nC A) (I : IsLab (fun j => decide (j < nC A)) (nrB A w) lab) :
    ∃ h' F, F_X4_familyOf 50 2 (nI c) (nI (mk 12 fun j => decide (j < nC A))) h = some (nI (mk 12 F), h') ∧ Ch [58] [] h h' ∧ F_J6_numberOfTrailingZeros_0f7a4 (nI (mk 12 F)) = some (nI (lab c)) := by
  have kC : nC A < 13 := K.1.1.2
  obtain ⟨g, g1, g2, g3⟩ := c_findNear L C K hw rd
  have Lg := g2.lay L (by decide)
  have gc : decide (c < nC A) = true := decide_eq_true hc
  obtain ⟨F, s1, s2⟩ := c_spread Lg g3 (G := fun j => decide (j < nC A)) (c := c) (fun j hj => by
    have := of_decide_eq_true hj
    omega) (by omega)
  have I1 := I.1 c gc
  have l1 : decide (lab c < nC A) = true := I1.1
  have lc : lab c < nC A := of_decide_eq_true I1.1
  refine ⟨g, F, ?_, g2, ntz_lab F (by omega) ?_ (fun j hj => ?_)⟩
  · unfold F_X4_familyOf
    rw [nc_50 L.kd, g1, Option.bind_some, nc_50 Lg.kd, s1, Option.bind_some]
  · rw [s2 _ (by omega), all_reach I (fun a b => nrB_symm a b) gc, l1, I.idem gc, decide_eq_true rfl]
    rfl
  · rw [← Bool.not_eq_true, s2 j (by omega), all_reach I (fun a b => nrB_symm a b) gc, Bool.and_eq_true, decide_eq_true_eq, decide_eq_true_eq]
    rintro ⟨gj, lj⟩
    have := (I.1 j (decide_eq_true gj)).2.1
    omega
