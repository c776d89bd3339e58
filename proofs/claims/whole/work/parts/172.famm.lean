/-! FAMILIES: the reference -/
theorem Wt.ch {S : List Nat} {T : List (Nat × Nat)} {h h' : pg_H} {A : Nat → Int32} {w : Nat → Nat → Nat} (W : Wt h A w) (a : Ch S T h h') (q : dis S T [93] []) : Wt h' A w := fun n hn => by
  rw [a.row q]
  exact W n hn
def gB (A : Nat → Int32) (b : Nat) : Nat → Bool := fun j => decide (j < nC A) && decide (j ≠ b)
theorem gB_iff {A : Nat → Int32} {b j : Nat} : gB A b j = true ↔ j < nC A ∧ j ≠ b := by
  unfold gB
  rw [Bool.and_eq_true, decide_eq_true_eq, decide_eq_true_eq]
def nrG (A : Nat → Int32) (w : Nat → Nat → Nat) (b p q : Nat) : Bool := nrB A w p q && (decide (p ≠ b) && decide (q ≠ b))
theorem nrG_iff {A : Nat → Int32} {w : Nat → Nat → Nat} {b p q : Nat} : nrG A w b p q = true ↔ nrB A w p q = true ∧ p ≠ b ∧ q ≠ b := by
  unfold nrG
  rw [Bool.and_eq_true, Bool.and_eq_true, decide_eq_true_eq, decide_eq_true_eq]
theorem b01_and1 (b : Bool) : b01 b &&& 1 = b01 b := by cases b <;> decide
theorem m_near {h : pg_H} {A : Nat → Int32} {w : Nat → Nat → Nat} (L : Lay h) (M : pg_i h 83 = A) (K : ShOK A) (hw : wOK w) (W : Wt h A w) {b : Nat} {bI : Int32} (hb : ∀ j, j < 12 → (nI j = bI ↔ j = b)) :
    ∃ x, F_X12_joinsAll_6 pg_fuel 81 bI 0 h = F_X12_joinsAll_83 pg_fuel 81 bI 0 x ∧ Ch [98] [] h x ∧ ∀ p q, p < nC A → q < nC A → pg_i x 98 (12 * p + q) = b01 (nrG A w b p q) := by
  have kC : nC A < 13 := K.1.1.2
  have kE1 : A 1344 = nI (nC A) := K.1.1.1
  refine loopI (fun f i x => F_X12_joinsAll_6 f 81 bI (nI i) x) (nC A) (fun i x => Ch [98] [] h x ∧ ∀ p q, p < i → q < nC A → pg_i x 98 (12 * p + q) = b01 (nrG A w b p q)) (fun o => ∃ x, o = F_X12_joinsAll_83 pg_fuel 81 bI 0 x ∧ Ch [98] [] h x ∧ ∀ p q, p < nC A → q < nC A → pg_i x 98 (12 * p + q) = b01 (nrG A w b p q)) ?_ ?_ 0 h (Nat.zero_le _) ⟨Ch.refl _ _ _, fun p q hp => absurd hp (Nat.not_lt_zero p)⟩ pg_fuel (by unfold pg_fuel; omega)
  · intro f i x hi ⟨cx, rx⟩
    have Lx := cx.lay L (by decide)
    have Mx : pg_i x 83 = A := (cx.row (by decide)).trans M
    show ∃ x', F_X12_joinsAll_6 (f + 1) 81 bI (nI i) x = F_X12_joinsAll_6 f 81 bI (nI (i + 1)) x' ∧ _
    rw [F_X12_joinsAll_6]
    dsimp only
    rw [nc_81 Lx.kd, m_copiesA Lx Mx, kE1, Option.bind_some, if_pos (nI_lt hi (by omega))]
    refine loopI (fun f2 j y => F_X12_joinsAll_16 (F_X12_joinsAll_6 f) f2 81 bI (nI i) (nI j) y) (nC A) (fun j y => Ch [98] [] h y ∧ ∀ p q, p < i ∨ p = i ∧ q < j → q < nC A → pg_i y 98 (12 * p + q) = b01 (nrG A w b p q)) (fun o => ∃ x', o = F_X12_joinsAll_6 f 81 bI (nI (i + 1)) x' ∧ Ch [98] [] h x' ∧ ∀ p q, p < i + 1 → q < nC A → pg_i x' 98 (12 * p + q) = b01 (nrG A w b p q)) ?_ ?_ 0 x (Nat.zero_le _) ⟨cx, fun p q hp => rx p q (by omega)⟩ pg_fuel (by unfold pg_fuel; omega)
    · intro f2 j y hj ⟨cy, ry⟩
      have Ly := cy.lay L (by decide)
      have My : pg_i y 83 = A := (cy.row (by decide)).trans M
      have Wy : Wt y A w := W.ch cy (by decide)
      have i12 : i < 12 := by omega
      have j12 : j < 12 := by omega
      have ix : (12 : Int32) * nI i + nI j = nI (12 * i + j) := by rw [show (12 : Int32) = nI 12 from rfl, nI_mul, nI_add]
      have f68 : ∀ v, F_X12_joinsAll_68 (F_X12_joinsAll_16 (F_X12_joinsAll_6 f) f2) 81 bI (nI i) (nI j) (b01 v) (nI (12 * i + j)) 98 y = F_X12_joinsAll_16 (F_X12_joinsAll_6 f) f2 81 bI (nI i) (nI (j + 1)) (pg_si y 98 (12 * i + j) (b01 v)) := fun v => by
        unfold F_X12_joinsAll_68
        rw [ns_98 Ly.kd (by omega), Option.bind_some, b01_and1, nI_1]
      have f67 : F_X12_joinsAll_67 (F_X12_joinsAll_16 (F_X12_joinsAll_6 f) f2) 81 bI (nI i) (nI j) (nI (12 * i + j)) 98 y = F_X12_joinsAll_16 (F_X12_joinsAll_6 f) f2 81 bI (nI i) (nI (j + 1)) (pg_si y 98 (12 * i + j) (b01 false)) := f68 false
      have val : F_X12_joinsAll_16 (F_X12_joinsAll_6 f) (f2 + 1) 81 bI (nI i) (nI j) y = F_X12_joinsAll_16 (F_X12_joinsAll_6 f) f2 81 bI (nI i) (nI (j + 1)) (pg_si y 98 (12 * i + j) (b01 (nrG A w b i j))) := by
        rw [F_X12_joinsAll_16]
        dsimp only
        rw [nc_81 Ly.kd, m_copiesA Ly My, kE1, Option.bind_some, if_pos (nI_lt hj (by omega)), nR_81_32 Ly.kd Ly.rd, Option.bind_some, ix, f67]
        by_cases e1 : i = j
        · rw [if_pos (congrArg nI e1)]
          have : nrG A w b i j = false := by
            rw [← Bool.not_eq_true, nrG_iff, nrB_iff]
            exact fun z => z.1.1 e1
          rw [this]
        · rw [if_neg (fun z => e1 ((nI_eq (by omega) (by omega)).mp z))]
          by_cases e2 : i = b
          · rw [if_pos ((hb i i12).mpr e2)]
            have : nrG A w b i j = false := by
              rw [← Bool.not_eq_true, nrG_iff]
              exact fun z => z.2.1 e2
            rw [this]
          · rw [if_neg (fun z => e2 ((hb i i12).mp z))]
            by_cases e3 : j = b
            · rw [if_pos ((hb j j12).mpr e3)]
              have : nrG A w b i j = false := by
                rw [← Bool.not_eq_true, nrG_iff]
                exact fun z => z.2.2 e3
              rw [this]
            · have ab := agS_le K hw (a := i) (b := j) (by omega)
              have tb := (terms_le K).2.2.2
              have et : F_X12_term y 81 (3 : Int32) = some (nI (tm A 3)) := by
                rw [show (3 : Int32) = nI 3 from rfl, m_term Ly 3 (by decide), My]
                exact congrArg some (terms_eq K).2.2.2
              rw [if_neg (fun z => e3 ((hb j j12).mp z)), nc_81 Ly.kd, m_agreeOf Ly My K Wy i12 j12, Option.bind_some, nc_81 Ly.kd, et, Option.bind_some]
              by_cases q : tm A 3 ≤ agS A w i j
              · have : nrG A w b i j = true := nrG_iff.mpr ⟨nrB_iff.mpr ⟨e1, hi, hj, q⟩, e2, e3⟩
                rw [if_neg (nI_nlt q (by omega)), this]
                exact f68 true
              · have : nrG A w b i j = false := by
                  rw [← Bool.not_eq_true, nrG_iff, nrB_iff]
                  exact fun z => q z.1.2.2.2
                rw [if_pos (nI_lt (by omega) (by omega)), this]
      refine ⟨_, val, cy.asi (Or.inl (by decide)), fun p q hp hq => ?_⟩
      rw [si_row]
      by_cases e : p = i ∧ q = j
      · rw [e.1, e.2, up1_eq]
      · rw [up1_ne (by omega)]
        exact ry p q (by omega) hq
    · intro f2 y ⟨cy, ry⟩
      have Ly := cy.lay L (by decide)
      have My : pg_i y 83 = A := (cy.row (by decide)).trans M
      refine ⟨y, ?_, cy, fun p q hp hq => ry p q (by omega) hq⟩
      show F_X12_joinsAll_16 (F_X12_joinsAll_6 f) (f2 + 1) 81 bI (nI i) (nI (nC A)) y = _
      rw [F_X12_joinsAll_16]
      dsimp only
      rw [nc_81 Ly.kd, m_copiesA Ly My, kE1, Option.bind_some, if_neg Int32.lt_irrefl, nI_1]
  · intro f x ⟨cx, rx⟩
    have Lx := cx.lay L (by decide)
    have Mx : pg_i x 83 = A := (cx.row (by decide)).trans M
    refine ⟨x, ?_, cx, rx⟩
    show F_X12_joinsAll_6 (f + 1) 81 bI (nI (nC A)) x = _
    rw [F_X12_joinsAll_6]
    dsimp only
    rw [nc_81 Lx.kd, m_copiesA Lx Mx, kE1, Option.bind_some, if_neg Int32.lt_irrefl]
def LbR (x : pg_H) (n b : Nat) (lb : Nat → Nat) : Prop := ∀ c, c < n → pg_i x 99 c = if c = b then -1 else nI (lb c)
def LabI (G : Nat → Bool) (N : Nat → Nat → Bool) (lb : Nat → Nat) : Prop := ∀ c, G c = true → G (lb c) = true ∧ lb c ≤ c ∧ Rc G N (lb c) c
theorem sum_up {n k v : Nat} {lb : Nat → Nat} (hk : k < n) (hv : v < lb k) : sumN n (fun c => if c = k then v else lb c) < sumN n lb := by
  induction n with
  | zero => omega
  | succ n ih =>
    show sumN n (fun c => if c = k then v else lb c) + (if n = k then v else lb n) < sumN n lb + lb n
    by_cases e : n = k
    · subst e
      rw [if_pos rfl]
      have : sumN n (fun c => if c = n then v else lb c) = sumN n lb := sumN_cong (fun i hi => if_neg (by omega))
      omega
    · rw [if_neg e]
      have := ih (by omega)
      omega
theorem m_labels0 {h : pg_H} {A : Nat → Int32} (L : Lay h) (M : pg_i h 83 = A) (K : ShOK A) {b : Nat} {bI : Int32} (hb : ∀ j, j < 12 → (nI j = bI ↔ j = b)) :
    ∃ x, F_X12_joinsAll_83 pg_fuel 81 bI 0 h = F_X12_joinsAll_115 pg_fuel 81 1 x ∧ Ch [99] [] h x ∧ LbR x (nC A) b (fun c => c) := by
  have kC : nC A < 13 := K.1.1.2
  have kE1 : A 1344 = nI (nC A) := K.1.1.1
  refine loopI (fun f i x => F_X12_joinsAll_83 f 81 bI (nI i) x) (nC A) (fun i x => Ch [99] [] h x ∧ LbR x i b (fun c => c)) (fun o => ∃ x, o = F_X12_joinsAll_115 pg_fuel 81 1 x ∧ Ch [99] [] h x ∧ LbR x (nC A) b (fun c => c)) ?_ ?_ 0 h (Nat.zero_le _) ⟨Ch.refl _ _ _, fun c hc => absurd hc (Nat.not_lt_zero c)⟩ pg_fuel (by unfold pg_fuel; omega)
  · intro f i x hi ⟨cx, rx⟩
    have Lx := cx.lay L (by decide)
    have Mx : pg_i x 83 = A := (cx.row (by decide)).trans M
    have i12 : i < 12 := by omega
    show ∃ x', F_X12_joinsAll_83 (f + 1) 81 bI (nI i) x = F_X12_joinsAll_83 f 81 bI (nI (i + 1)) x' ∧ _
    have f106 : ∀ v, F_X12_joinsAll_106 (F_X12_joinsAll_83 f) 81 bI (nI i) v (nI i) 99 x = F_X12_joinsAll_83 f 81 bI (nI (i + 1)) (pg_si x 99 i v) := fun v => by
      unfold F_X12_joinsAll_106
      rw [ns_99 Lx.kd i12, Option.bind_some, nI_1]
    refine ⟨pg_si x 99 i (if i = b then -1 else nI i), ?_, cx.asi (Or.inl (by decide)), fun c hc => ?_⟩
    · rw [F_X12_joinsAll_83]
      dsimp only
      rw [nc_81 Lx.kd, m_copiesA Lx Mx, kE1, Option.bind_some, if_pos (nI_lt hi (by omega)), nR_81_33 Lx.kd Lx.rd, Option.bind_some, f106, f106]
      by_cases e : i = b
      · rw [if_pos ((hb i i12).mpr e), if_pos e]
      · rw [if_neg (fun z => e ((hb i i12).mp z)), if_neg e]
    · rw [si_row]
      by_cases e : c = i
      · rw [e, up1_eq]
      · rw [up1_ne e]
        exact rx c (by omega)
  · intro f x ⟨cx, rx⟩
    have Lx := cx.lay L (by decide)
    have Mx : pg_i x 83 = A := (cx.row (by decide)).trans M
    refine ⟨x, ?_, cx, rx⟩
    show F_X12_joinsAll_83 (f + 1) 81 bI (nI (nC A)) x = _
    rw [F_X12_joinsAll_83]
    dsimp only
    rw [nc_81 Lx.kd, m_copiesA Lx Mx, kE1, Option.bind_some, if_neg Int32.lt_irrefl]
abbrev PsT : Type := Bool × (Nat → Nat) × pg_H
def PsI (h : pg_H) (A : Nat → Int32) (w : Nat → Nat → Nat) (b : Nat) (lb0 : Nat → Nat) (i j : Nat) (y : PsT) : Prop :=
  Ch [99] [] h y.2.2 ∧ LbR y.2.2 (nC A) b y.2.1 ∧ LabI (gB A b) (nrB A w) y.2.1 ∧
    (y.1 = false → y.2.1 = lb0 ∧ ∀ p q, p < i ∨ p = i ∧ q < j → q < nC A → nrG A w b p q = true → lb0 q ≤ lb0 p) ∧ (y.1 = true → sumN (nC A) y.2.1 < sumN (nC A) lb0)
theorem m_pass {h : pg_H} {A : Nat → Int32} {w : Nat → Nat → Nat} (L : Lay h) (M : pg_i h 83 = A) (K : ShOK A) {b : Nat} (hN : ∀ p q, p < nC A → q < nC A → pg_i h 98 (12 * p + q) = b01 (nrG A w b p q)) {lb0 : Nat → Nat} {x : pg_H} (cx : Ch [99] [] h x) (r0 : LbR x (nC A) b lb0) (l0 : LabI (gB A b) (nrB A w) lb0) (k : Nat → Int32 → pg_H → Option pg_H) :
    ∃ y : PsT, F_X12_joinsAll_123 k pg_fuel 81 0 0 x = k 81 (b01 y.1) y.2.2 ∧ PsI h A w b lb0 (nC A) 0 y := by
  have kC : nC A < 13 := K.1.1.2
  have kE1 : A 1344 = nI (nC A) := K.1.1.1
  refine loopI (fun f i (y : PsT) => F_X12_joinsAll_123 k f 81 (b01 y.1) (nI i) y.2.2) (nC A) (fun i y => PsI h A w b lb0 i 0 y) (fun o => ∃ y : PsT, o = k 81 (b01 y.1) y.2.2 ∧ PsI h A w b lb0 (nC A) 0 y) ?_ ?_ 0 (false, lb0, x) (Nat.zero_le _) ⟨cx, r0, l0, fun _ => ⟨rfl, fun p q hp => by omega⟩, fun z => by cases z⟩ pg_fuel (by unfold pg_fuel; omega)
  · intro f i y hi PI
    have Ly := PI.1.lay L (by decide)
    have My : pg_i y.2.2 83 = A := (PI.1.row (by decide)).trans M
    show ∃ y' : PsT, F_X12_joinsAll_123 k (f + 1) 81 (b01 y.1) (nI i) y.2.2 = F_X12_joinsAll_123 k f 81 (b01 y'.1) (nI (i + 1)) y'.2.2 ∧ PsI h A w b lb0 (i + 1) 0 y'
    rw [F_X12_joinsAll_123]
    dsimp only
    rw [nc_81 Ly.kd, m_copiesA Ly My, kE1, Option.bind_some, if_pos (nI_lt hi (by omega))]
    refine loopI (fun f2 j (y : PsT) => F_X12_joinsAll_134 (F_X12_joinsAll_123 k f) f2 81 (b01 y.1) (nI i) (nI j) y.2.2) (nC A) (fun j y => PsI h A w b lb0 i j y) (fun o => ∃ y' : PsT, o = F_X12_joinsAll_123 k f 81 (b01 y'.1) (nI (i + 1)) y'.2.2 ∧ PsI h A w b lb0 (i + 1) 0 y') ?_ ?_ 0 y (Nat.zero_le _) PI pg_fuel (by unfold pg_fuel; omega)
    · rintro f2 j ⟨m, lb, z⟩ hj ⟨cz, rz, lz, z0, z1⟩
      dsimp only at cz rz lz z0 z1
      have Lz := cz.lay L (by decide)
      have Mz : pg_i z 83 = A := (cz.row (by decide)).trans M
      have i12 : i < 12 := by omega
      have j12 : j < 12 := by omega
      have f192 : ∀ u v, F_X12_joinsAll_192 (F_X12_joinsAll_134 (F_X12_joinsAll_123 k f) f2) 81 u (nI i) (nI j) v = F_X12_joinsAll_134 (F_X12_joinsAll_123 k f) f2 81 u (nI i) (nI (j + 1)) v := fun u v => by
        unfold F_X12_joinsAll_192
        rw [nI_1]
      have ix : (12 : Int32) * nI i + nI j = nI (12 * i + j) := by rw [show (12 : Int32) = nI 12 from rfl, nI_mul, nI_add]
      show ∃ y' : PsT, F_X12_joinsAll_134 (F_X12_joinsAll_123 k f) (f2 + 1) 81 (b01 m) (nI i) (nI j) z = F_X12_joinsAll_134 (F_X12_joinsAll_123 k f) f2 81 (b01 y'.1) (nI i) (nI (j + 1)) y'.2.2 ∧ PsI h A w b lb0 i (j + 1) y'
      rw [F_X12_joinsAll_134]
      dsimp only
      rw [nc_81 Lz.kd, m_copiesA Lz Mz, kE1, Option.bind_some, if_pos (nI_lt hj (by omega)), nR_81_32 Lz.kd Lz.rd, Option.bind_some, ix, na_98 Lz.kd (by omega), Option.bind_some, cz.row (r := 98) (by decide), hN i j hi hj, if_bb]
      have stay : (nrG A w b i j = true → m = false → lb0 j ≤ lb0 i) → PsI h A w b lb0 i (j + 1) (m, lb, z) := fun ok => ⟨cz, rz, lz, fun e => ⟨(z0 e).1, fun p q hp hq n => by
        by_cases pe : p = i ∧ q = j
        · rw [pe.1, pe.2] at n ⊢
          exact ok n e
        · exact (z0 e).2 p q (by omega) hq n⟩, z1⟩
      cases nr : nrG A w b i j with
      | false =>
        rw [if_neg (by decide), f192]
        exact ⟨(m, lb, z), rfl, stay (fun n => by rw [nr] at n; cases n)⟩
      | true =>
        obtain ⟨n1, n2, n3⟩ := nrG_iff.mp nr
        have gi : gB A b i = true := gB_iff.mpr ⟨hi, n2⟩
        have gj : gB A b j = true := gB_iff.mpr ⟨hj, n3⟩
        have li := (lz i gi).2.1
        have lj := (lz j gj).2.1
        have ei := rz i hi
        have ej := rz j hj
        rw [if_neg n2] at ei
        rw [if_neg n3] at ej
        rw [if_pos rfl, nR_81_33 Lz.kd Lz.rd, Option.bind_some, na_99 Lz.kd i12, Option.bind_some, Option.bind_some, na_99 Lz.kd j12, Option.bind_some, ei, ej]
        by_cases lt : lb i < lb j
        · rw [if_pos (nI_lt lt (by omega)), Option.bind_some, Option.bind_some, na_99 Lz.kd i12, Option.bind_some, ei, ns_99 Lz.kd j12, Option.bind_some, f192]
          refine ⟨(true, fun c => if c = j then lb i else lb c, pg_si z 99 j (nI (lb i))), rfl, cz.asi (Or.inl (by decide)), fun c hc => ?_, fun c gc => ?_, (fun e => by cases e), fun _ => ?_⟩
          · show pg_i (pg_si z 99 j (nI (lb i))) 99 c = if c = b then -1 else nI (if c = j then lb i else lb c)
            rw [si_row]
            by_cases e : c = j
            · rw [e, up1_eq, if_neg n3, if_pos rfl]
            · rw [up1_ne e, if_neg e]
              exact rz c hc
          · show gB A b (if c = j then lb i else lb c) = true ∧ (if c = j then lb i else lb c) ≤ c ∧ Rc (gB A b) (nrB A w) (if c = j then lb i else lb c) c
            by_cases e : c = j
            · rw [if_pos e, e]
              exact ⟨(lz i gi).1, by omega, (lz i gi).2.2.step gj n1⟩
            · rw [if_neg e]
              exact lz c gc
          · have su := sum_up (lb := lb) hj lt
            show sumN (nC A) (fun c => if c = j then lb i else lb c) < sumN (nC A) lb0
            cases m with
            | false =>
              rw [(z0 rfl).1] at su ⊢
              exact su
            | true => exact Nat.lt_trans su (z1 rfl)
        · rw [if_neg (nI_nlt (by omega) (by omega)), f192]
          refine ⟨(m, lb, z), rfl, stay (fun _ e => ?_)⟩
          rw [(z0 e).1] at lt
          omega
    · rintro f2 ⟨m, lb, z⟩ ⟨cz, rz, lz, z0, z1⟩
      dsimp only at cz rz lz z0 z1
      have Lz := cz.lay L (by decide)
      have Mz : pg_i z 83 = A := (cz.row (by decide)).trans M
      refine ⟨(m, lb, z), ?_, cz, rz, lz, fun e => ⟨(z0 e).1, fun p q hp hq => (z0 e).2 p q (by omega) hq⟩, z1⟩
      show F_X12_joinsAll_134 (F_X12_joinsAll_123 k f) (f2 + 1) 81 (b01 m) (nI i) (nI (nC A)) z = _
      rw [F_X12_joinsAll_134]
      dsimp only
      rw [nc_81 Lz.kd, m_copiesA Lz Mz, kE1, Option.bind_some, if_neg Int32.lt_irrefl, nI_1]
  · rintro f ⟨m, lb, z⟩ PI
    have Lz := PI.1.lay L (by decide)
    have Mz : pg_i z 83 = A := (PI.1.row (by decide)).trans M
    refine ⟨(m, lb, z), ?_, PI⟩
    show F_X12_joinsAll_123 k (f + 1) 81 (b01 m) (nI (nC A)) z = _
    dsimp only at Lz
    rw [F_X12_joinsAll_123]
    dsimp only
    rw [nc_81 Lz.kd, m_copiesA Lz Mz, kE1, Option.bind_some, if_neg Int32.lt_irrefl]
theorem m_joinsAll {h : pg_H} {A : Nat → Int32} {X : Nat → tX} (L : Lay h) (M : pg_i h 83 = A) {s : Nat} {g : pg_H} (S : ShX g s A X) {b : Nat} {bI : Int32} (hb : ∀ j, j < 12 → (nI j = bI ↔ j = b)) :
    ∃ h' lab, F_X12_joinsAll 81 bI h = some h' ∧ Ch [92, 93, 98, 99] mT h h' ∧ IsLab (gB A b) (nrB A (wg A (uX A X))) lab ∧ LbR h' (nC A) b lab := by
  have K := S.2.1
  have hw : wOK (wg A (uX A X)) := fun p v => wg_le S p v
  have kC : nC A < 13 := K.1.1.2
  obtain ⟨z, z1, z2, z3⟩ := m_weighs L M S
  have Lz := z2.lay L (by decide)
  have Mz : pg_i z 83 = A := (z2.row (by decide)).trans M
  obtain ⟨x, x1, x2, x3⟩ := m_near Lz Mz K hw z3 hb
  have Lx := x2.lay Lz (by decide)
  have Mx : pg_i x 83 = A := (x2.row (by decide)).trans Mz
  obtain ⟨y, y1, y2, y3⟩ := m_labels0 Lx Mx K hb
  generalize wg A (uX A X) = w at *
  have hx : Ch [92, 93, 98, 99] mT h x := (z2.mono (by decide)).trans (x2.mono (by decide))
  unfold F_X12_joinsAll
  rw [nc_81 L.kd, z1, Option.bind_some, x1, y1]
  refine loopE (fun f t (u : PsT) => F_X12_joinsAll_115 f 81 (b01 u.1) u.2.2) 150 (fun t u => Ch [99] [] x u.2.2 ∧ LbR u.2.2 (nC A) b u.2.1 ∧ LabI (gB A b) (nrB A w) u.2.1 ∧ (u.1 = false → ∀ p q, p < nC A → q < nC A → nrG A w b p q = true → u.2.1 q ≤ u.2.1 p) ∧ (u.1 = true → sumN (nC A) u.2.1 + t ≤ 144)) (fun o => ∃ h' lab, o = some h' ∧ Ch [92, 93, 98, 99] mT h h' ∧ IsLab (gB A b) (nrB A w) lab ∧ LbR h' (nC A) b lab) ?_ ?_ 0 (true, (fun c => c), y) (Nat.zero_le _) ⟨y2, y3, fun c gc => ⟨gc, Nat.le_refl _, Rc.self⟩, fun e => (by cases e), fun _ => ?_⟩ pg_fuel (by unfold pg_fuel; omega)
  · rintro f t ⟨m, lb, u⟩ ht ⟨cu, ru, lu, u0, u1⟩
    dsimp only at cu ru lu u0 u1
    show (∃ y' : PsT, F_X12_joinsAll_115 (f + 1) 81 (b01 m) u = F_X12_joinsAll_115 f 81 (b01 y'.1) y'.2.2 ∧ _) ∨ (∃ h' lab, F_X12_joinsAll_115 (f + 1) 81 (b01 m) u = some h' ∧ _)
    rw [F_X12_joinsAll_115]
    dsimp only
    rw [if_bb]
    cases m with
    | false =>
      right
      rw [if_neg (by decide)]
      refine ⟨u, lb, rfl, hx.trans (cu.mono (by decide)), ⟨lu, fun p q gp gq n => ?_⟩, ru⟩
      obtain ⟨p1, p2⟩ := gB_iff.mp gp
      obtain ⟨q1, q2⟩ := gB_iff.mp gq
      have a1 := u0 rfl p q p1 q1 (nrG_iff.mpr ⟨n, p2, q2⟩)
      have a2 := u0 rfl q p q1 p1 (nrG_iff.mpr ⟨nrB_symm _ _ n, q2, p2⟩)
      omega
    | true =>
      left
      rw [if_pos rfl]
      obtain ⟨v, v1, v2, v3, v4, v5, v6⟩ := m_pass Lx Mx K x3 cu ru lu (F_X12_joinsAll_115 f)
      refine ⟨v, v1, v2, v3, v4, fun e => ?_, fun e => ?_⟩
      · obtain ⟨e1, e2⟩ := v5 e
        rw [e1]
        exact fun p q hp hq => e2 p q (Or.inl hp) hq
      · have := v6 e
        have := u1 rfl
        omega
  · rintro f ⟨m, lb, u⟩ ⟨cu, ru, lu, u0, u1⟩
    dsimp only at cu ru lu u0 u1
    show ∃ h' lab, F_X12_joinsAll_115 (f + 1) 81 (b01 m) u = some h' ∧ _
    rw [F_X12_joinsAll_115]
    dsimp only
    rw [if_bb]
    cases m with
    | false =>
      rw [if_neg (by decide)]
      refine ⟨u, lb, rfl, hx.trans (cu.mono (by decide)), ⟨lu, fun p q gp gq n => ?_⟩, ru⟩
      obtain ⟨p1, p2⟩ := gB_iff.mp gp
      obtain ⟨q1, q2⟩ := gB_iff.mp gq
      have a1 := u0 rfl p q p1 q1 (nrG_iff.mpr ⟨n, p2, q2⟩)
      have a2 := u0 rfl q p q1 p1 (nrG_iff.mpr ⟨nrB_symm _ _ n, q2, p2⟩)
      omega
    | true =>
      have := u1 rfl
      omega
  · have : sumN (nC A) (fun c => c) ≤ nC A * 12 := sumN_le (fun i hi => by omega)
    show sumN (nC A) (fun c => c) + 0 ≤ 144
    omega
