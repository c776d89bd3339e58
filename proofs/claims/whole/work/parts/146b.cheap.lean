/-! THE REFERENCE'S cheapest: over sets -/
def bitsOf (s : Nat) : Nat → Bool := fun c => s.testBit c
def decN (m : Nat) : Option Nat := if m = 1000000000 then none else some m
theorem all_12 : ∀ n, n < 13 → ((1 : Int32) <<< (nI n &&& 31)) - 1 = nI (2 ^ n - 1) := by decide +kernel
theorem choose_to {P : Nat → Nat → Prop} {s : Nat} (h : ∀ a, a < s → ∃ m, P a m) : ∃ R : Nat → Nat, ∀ a, a < s → P a (R a) :=
  ⟨fun a => if q : a < s then Classical.choose (h a q) else 0, fun a q => by
    dsimp only
    rw [dif_pos q]
    exact Classical.choose_spec (h a q)⟩
theorem onC_le {s : Nat → Bool} {al : Nat → Nat → Bool} {cs : Nat → Nat → Nat} (hB : ∀ f c, f ≤ 12 → c < 12 → cs f c ≤ 400000) {T : Nat → Nat} (h : TreeOn s al T) : onC s cs T ≤ 4800000 :=
  sumN_le (n := 12) (b := 400000) (p := fun c => if s c then cs (T c) c else 0) (fun c hc => by
    by_cases q : s c = true
    · rw [if_pos q]
      refine hB _ _ ?_ hc
      by_cases z : T c = 0
      · omega
      · have := ((h.1 c hc q).2 z).1
        omega
    · rw [if_neg q]
      exact Nat.zero_le _)
theorem MinOn_le {s : Nat → Bool} {al : Nat → Nat → Bool} {cs : Nat → Nat → Nat} (hB : ∀ f c, f ≤ 12 → c < 12 → cs f c ≤ 400000) {m : Nat} (h : MinOn s al cs (decN m)) (q : m ≠ 1000000000) : m ≤ 4800000 := by
  obtain ⟨T, t0, t⟩ := h.2 m (if_neg q)
  rw [← t]
  exact onC_le hB t0
theorem del_mk {s c : Nat} (hs : s < 2 ^ 12) (hc : c < 12) : nI s &&& (nI (2 ^ c) ^^^ (-1 : Int32)) = nI (mk 12 (del (bitsOf s) c)) := by
  rw [show nI s = nI (mk 12 (bitsOf s)) from congrArg nI (mk_of hs (fun i _ => rfl)), mk_pow hc, ix_not 12 _ _ (by decide)]
  refine congrArg nI (mk_cong (fun i _ => ?_))
  unfold del
  by_cases e : i = c
  · rw [decide_eq_true e, decide_eq_false (show ¬ i ≠ c from fun z => z e)]
    rfl
  · rw [decide_eq_false e, decide_eq_true (show i ≠ c from e)]
    rfl
theorem mk_le {n : Nat} {f g : Nat → Bool} (h : ∀ i, f i = true → g i = true) : mk n f ≤ mk n g := by
  induction n with
  | zero => exact Nat.le_refl _
  | succ n ih =>
    unfold mk
    cases e : f n with
    | false =>
      simp only [Bool.false_eq_true, if_false]
      omega
    | true =>
      rw [h n e]
      omega
theorem mk_less {n : Nat} {f g : Nat → Bool} (h : ∀ i, f i = true → g i = true) {c : Nat} (hc : c < n) (h1 : f c = false) (h2 : g c = true) : mk n f < mk n g := by
  induction n with
  | zero => exact absurd hc (Nat.not_lt_zero c)
  | succ n ih =>
    unfold mk
    by_cases e : c = n
    · subst e
      rw [h1, h2]
      have := mk_le (n := c) h
      have := Nat.pow_pos (n := c) (show 0 < 2 by decide)
      simp only [Bool.false_eq_true, if_false, if_true]
      omega
    · have := ih (by omega)
      cases e : f n with
      | false =>
        simp only [Bool.false_eq_true, if_false]
        omega
      | true =>
        rw [h n e]
        omega
theorem del_lt {s c : Nat} (hs : s < 2 ^ 12) (hc : c < 12) (h : bitsOf s c = true) : mk 12 (del (bitsOf s) c) < s := by
  have z : s = mk 12 (bitsOf s) := mk_of hs (fun i _ => rfl)
  have l : mk 12 (del (bitsOf s) c) < mk 12 (bitsOf s) := mk_less (fun i q => by
    unfold del at q
    rw [Bool.and_eq_true] at q
    exact q.1) hc (by
    unfold del
    rw [decide_eq_false (show ¬ c ≠ c from fun z => z rfl), Bool.and_false]) h
  omega
theorem MinOn.to {s s' : Nat → Bool} {al : Nat → Nat → Bool} {cs : Nat → Nat → Nat} {r : Option Nat} (h : MinOn s al cs r) (e : ∀ c, c < 12 → s c = s' c) : MinOn s' al cs r := by
  have o : ∀ T, onC s' cs T = onC s cs T := fun T => sumN_cong (fun c hc => by rw [e c hc])
  have t : ∀ T, TreeOn s' al T ↔ TreeOn s al T := fun T => by
    constructor
    · rintro ⟨h1, rk, h2⟩
      refine ⟨fun c hc q => ?_, rk, fun c hc q => h2 c hc (by rw [← e c hc]; exact q)⟩
      obtain ⟨z1, z2⟩ := h1 c hc (by rw [← e c hc]; exact q)
      exact ⟨z1, fun y => ⟨(z2 y).1, by rw [e _ (z2 y).1]; exact (z2 y).2⟩⟩
    · rintro ⟨h1, rk, h2⟩
      refine ⟨fun c hc q => ?_, rk, fun c hc q => h2 c hc (by rw [e c hc]; exact q)⟩
      obtain ⟨z1, z2⟩ := h1 c hc (by rw [e c hc]; exact q)
      exact ⟨z1, fun y => ⟨(z2 y).1, by rw [← e _ (z2 y).1]; exact (z2 y).2⟩⟩
  refine ⟨fun T q => ?_, fun v q => ?_⟩
  · rw [o]
    exact h.1 T ((t T).mp q)
  · obtain ⟨T, t1, t2⟩ := h.2 v q
    exact ⟨T, (t T).mpr t1, by rw [o]; exact t2⟩
theorem LG.to {h h' : pg_H} {n : Nat} {al : Nat → Nat → Bool} {cs : Nat → Nat → Nat} (G : LG h n al cs) {S : List Nat} {T : List (Nat × Nat)} (c : Ch S T h h') (q1 : dis S T [94] []) (q2 : dis S T [95] []) : LG h' n al cs := by
  unfold LG
  rw [c.row q1, c.row q2]
  exact G
def cheI (h : pg_H) (al : Nat → Nat → Bool) (cs : Nat → Nat → Nat) (s : Nat) (R : Nat → Nat) (x : pg_H) : Prop := Ch [96] [] h x ∧ ∀ a, a < s → pg_i x 96 a = nI (R a) ∧ MinOn (bitsOf a) al cs (decN (R a))
theorem m_cheapest {h : pg_H} {A : Nat → Int32} {al : Nat → Nat → Bool} {cs : Nat → Nat → Nat} (L : Lay h) (M : pg_i h 83 = A) (K : ShOK A) (G : LG h (nC A) al cs) (hB : ∀ f c, f ≤ 12 → c < 12 → cs f c ≤ 400000) :
    ∃ m h', F_X12_cheapest 81 h = some (nI m, h') ∧ Ch [96] [] h h' ∧ MinOn (upTo (nC A)) al cs (decN m) ∧ m ≤ 1000000000 := by
  have kC : nC A < 13 := K.1.1.2
  have kE1 : A 1344 = nI (nC A) := K.1.1.1
  generalize nC A = n at *
  have kn : n ≤ 12 := by omega
  have e12 : 2 ^ n ≤ 2 ^ 12 := Nat.pow_le_pow_right (by decide) (by omega)
  have p1 : 1 ≤ 2 ^ n := Nat.pow_pos (by decide)
  unfold F_X12_cheapest
  rw [nc_81 L.kd, m_copiesA L M, kE1, Option.bind_some]
  unfold pg_let
  dsimp only
  rw [all_12 n kC, nR_81_28 L.kd L.rd, Option.bind_some, show (0 : Int32) = nI 0 from rfl, ns_96 L.kd (by decide), Option.bind_some]
  have st : ∀ a, (a = 1000000000 ∨ a ≤ 4800000) → a ≤ 1000000000 := fun a => by omega
  refine loopI (fun f s x => F_X12_cheapest_18 f 81 (nI (2 ^ n - 1)) (nI s) x) (2 ^ n) (fun s x => 1 ≤ s ∧ ∃ R, cheI h al cs s R x) (fun o => ∃ m h', o = some (nI m, h') ∧ Ch [96] [] h h' ∧ MinOn (upTo n) al cs (decN m) ∧ m ≤ 1000000000) ?_ ?_ 1 _ p1 ⟨Nat.le_refl _, fun _ => 0, (Ch.refl _ _ _).asi (Or.inl (by decide)), fun a ha => ?_⟩ pg_fuel (by unfold pg_fuel; omega)
  · intro f s x hs ⟨s1, R, cx, rx⟩
    have Lx := cx.lay L (by decide)
    have s12 : s < 2 ^ 12 := by omega
    have s31 : s < 2 ^ 31 := Nat.lt_trans s12 (by decide)
    have bs : s < 4096 := s12
    have hi : ∀ c, bitsOf s c = true → c < n := fun c q => by
      by_cases l : c < n
      · exact l
      · have := Nat.testBit_lt_two_pow (Nat.lt_of_lt_of_le hs (Nat.pow_le_pow_right (n := 2) (by decide) (show n ≤ c by omega)))
        unfold bitsOf at q
        rw [this] at q
        cases q
    show ∃ x', F_X12_cheapest_18 (f + 1) 81 (nI (2 ^ n - 1)) (nI s) x = F_X12_cheapest_18 f 81 (nI (2 ^ n - 1)) (nI (s + 1)) x' ∧ _
    rw [F_X12_cheapest_18]
    dsimp only
    rw [if_neg (nI_nlt (show s ≤ 2 ^ n - 1 by omega) (by omega)), nR_81_28 Lx.kd Lx.rd, Option.bind_some, ns_96 Lx.kd bs, Option.bind_some]
    refine loopI (fun f2 c y => F_X12_cheapest_34 (F_X12_cheapest_18 f) f2 81 (nI (2 ^ n - 1)) (nI s) (nI c) y) n
      (fun c y => cheI h al cs s R y ∧ ∃ m, pg_i y 96 s = nI m ∧ m ≤ 1000000000 ∧ (∀ c' f', c' < c → bitsOf s c' = true → R (mk 12 (del (bitsOf s) c')) ≠ 1000000000 → al f' c' = true → (f' ≠ 0 → f' - 1 < 12 ∧ del (bitsOf s) c' (f' - 1) = true) → m ≤ R (mk 12 (del (bitsOf s) c')) + cs f' c') ∧ (m ≠ 1000000000 → ∃ c' f', c' < 12 ∧ bitsOf s c' = true ∧ R (mk 12 (del (bitsOf s) c')) ≠ 1000000000 ∧ al f' c' = true ∧ (f' ≠ 0 → f' - 1 < 12 ∧ del (bitsOf s) c' (f' - 1) = true) ∧ m = R (mk 12 (del (bitsOf s) c')) + cs f' c'))
      (fun o => ∃ x', o = F_X12_cheapest_18 f 81 (nI (2 ^ n - 1)) (nI (s + 1)) x' ∧ 1 ≤ s + 1 ∧ ∃ R, cheI h al cs (s + 1) R x') ?_ ?_ 0 _ (Nat.zero_le _) ⟨⟨cx.asi (Or.inl (by decide)), fun a ha => ?_⟩, 1000000000, ?_, Nat.le_refl _, fun c' f' z => absurd z (Nat.not_lt_zero _), fun z => absurd rfl z⟩ pg_fuel (by unfold pg_fuel; omega)
    · intro f2 c y hc ⟨⟨cy, ry⟩, m, m1, m2, m3, m4⟩
      have Ly := cy.lay L (by decide)
      have My : pg_i y 83 = A := (cy.row (by decide)).trans M
      have Gy := G.to cy (by decide) (by decide)
      have c12 : c < 12 := by omega
      have f138 : ∀ z, F_X12_cheapest_138 (F_X12_cheapest_34 (F_X12_cheapest_18 f) f2) 81 (nI (2 ^ n - 1)) (nI s) (nI c) z = F_X12_cheapest_34 (F_X12_cheapest_18 f) f2 81 (nI (2 ^ n - 1)) (nI s) (nI (c + 1)) z := fun z => by
        unfold F_X12_cheapest_138
        rw [nI_1]
      show ∃ z, F_X12_cheapest_34 (F_X12_cheapest_18 f) (f2 + 1) 81 (nI (2 ^ n - 1)) (nI s) (nI c) y = F_X12_cheapest_34 (F_X12_cheapest_18 f) f2 81 (nI (2 ^ n - 1)) (nI s) (nI (c + 1)) z ∧ _
      rw [F_X12_cheapest_34]
      dsimp only
      rw [nc_81 Ly.kd, m_copiesA Ly My, kE1, Option.bind_some, if_pos (nI_lt hc (by omega)), ix_bit s31 (by omega), if_bb]
      have skip : (∀ f', bitsOf s c = true → R (mk 12 (del (bitsOf s) c)) ≠ 1000000000 → al f' c = true → (f' ≠ 0 → f' - 1 < 12 ∧ del (bitsOf s) c (f' - 1) = true) → m ≤ R (mk 12 (del (bitsOf s) c)) + cs f' c) → ∀ c' f', c' < c + 1 → bitsOf s c' = true → R (mk 12 (del (bitsOf s) c')) ≠ 1000000000 → al f' c' = true → (f' ≠ 0 → f' - 1 < 12 ∧ del (bitsOf s) c' (f' - 1) = true) → m ≤ R (mk 12 (del (bitsOf s) c')) + cs f' c' := fun no c' f' hc' b r a q => by
        by_cases e : c' = c
        · subst e
          exact no f' b r a q
        · exact m3 c' f' (by omega) b r a q
      cases bc : s.testBit c with
      | false =>
        rw [if_neg (by decide)]
        exact ⟨y, f138 y, ⟨cy, ry⟩, m, m1, m2, skip (fun f' b => by unfold bitsOf at b; rw [bc] at b; cases b), m4⟩
      | true =>
        have lt := del_lt s12 c12 bc
        obtain ⟨r1, r2⟩ := ry _ lt
        have bl : mk 12 (del (bitsOf s) c) < 4096 := by omega
        have dm := del_mk s12 c12
        obtain ⟨b, b1, b2, b3, b4⟩ := m_cheapestOf Ly kn Gy hB hc (del (bitsOf s) c)
        have wsub : ∀ f', f' ≤ n → (f' ≠ 0 → del (bitsOf s) c (f' - 1) = true) → (f' ≠ 0 → f' - 1 < 12 ∧ del (bitsOf s) c (f' - 1) = true) := fun f' hf q z => ⟨by omega, q z⟩
        have sub : ∀ f', (f' ≠ 0 → f' - 1 < 12 ∧ del (bitsOf s) c (f' - 1) = true) → f' ≤ n := fun f' q => by
          by_cases z : f' = 0
          · omega
          · have t := (q z).2
            unfold del at t
            rw [Bool.and_eq_true] at t
            have := hi _ t.1
            omega
        rw [if_pos rfl, nR_81_28 Ly.kd Ly.rd, Option.bind_some, ix_shl c (show c < 32 by omega), dm, na_96 Ly.kd bl, Option.bind_some, r1]
        by_cases wN : R (mk 12 (del (bitsOf s) c)) = 1000000000
        · rw [if_pos (show nI (R (mk 12 (del (bitsOf s) c))) = (1000000000 : Int32) by rw [wN]; rfl)]
          exact ⟨y, f138 y, ⟨cy, ry⟩, m, m1, m2, skip (fun f' _ r => absurd wN r), m4⟩
        · have wle := MinOn_le hB r2 wN
          rw [if_neg (show ¬ nI (R (mk 12 (del (bitsOf s) c))) = (1000000000 : Int32) from fun z => wN ((nI_eq (b := 1000000000) (by omega) (by decide)).mp z)), nc_81 Ly.kd, b1, Option.bind_some]
          by_cases bN : b < 1000000000
          · rw [if_pos (show nI b < (1000000000 : Int32) from nI_lt bN (by decide)), Option.bind_some, na_96 Ly.kd bl, Option.bind_some, Option.bind_some, r1, na_96 Ly.kd bs, Option.bind_some, m1, nI_add]
            obtain ⟨f0, u1, u2, u3, u4⟩ := b4 bN
            by_cases lt2 : R (mk 12 (del (bitsOf s) c)) + b < m
            · rw [if_pos (nI_lt lt2 (by omega)), Option.bind_some, Option.bind_some, na_96 Ly.kd bl, Option.bind_some, r1, nI_add, ns_96 Ly.kd bs, Option.bind_some]
              refine ⟨_, f138 _, ⟨cy.asi (Or.inl (by decide)), fun a ha => ?_⟩, R (mk 12 (del (bitsOf s) c)) + b, ?_, by omega, fun c' f' hc' q r a z => ?_, fun _ => ⟨c, f0, c12, bc, wN, u2, wsub f0 u1 u3, by rw [u4]⟩⟩
              · rw [si_row, up1_ne (by omega)]
                exact ry a ha
              · rw [si_row, up1_eq]
              · by_cases e : c' = c
                · subst e
                  have := b3 f' (sub f' z) a (fun y => (z y).2)
                  omega
                · have := m3 c' f' (by omega) q r a z
                  omega
            · rw [if_neg (nI_nlt (by omega) (by omega))]
              refine ⟨y, f138 y, ⟨cy, ry⟩, m, m1, m2, skip (fun f' _ r a z => ?_), m4⟩
              have := b3 f' (sub f' z) a (fun y => (z y).2)
              omega
          · rw [if_neg (show ¬ nI b < (1000000000 : Int32) from nI_nlt (b := 1000000000) (a := b) (by omega) (by omega))]
            refine ⟨y, f138 y, ⟨cy, ry⟩, m, m1, m2, skip (fun f' _ r a z => ?_), m4⟩
            have := b3 f' (sub f' z) a (fun y => (z y).2)
            have := hB f' c (by have := sub f' z; omega) c12
            omega
    · intro f2 y ⟨⟨cy, ry⟩, m, m1, m2, m3, m4⟩
      have Ly := cy.lay L (by decide)
      have My : pg_i y 83 = A := (cy.row (by decide)).trans M
      refine ⟨y, ?_, by omega, fun a => if a = s then m else R a, cy, fun a ha => ?_⟩
      · show F_X12_cheapest_34 (F_X12_cheapest_18 f) (f2 + 1) 81 (nI (2 ^ n - 1)) (nI s) (nI n) y = _
        rw [F_X12_cheapest_34]
        dsimp only
        rw [nc_81 Ly.kd, m_copiesA Ly My, kE1, Option.bind_some, if_neg Int32.lt_irrefl, nI_1]
      · dsimp only
        by_cases e : a = s
        · rw [if_pos e, e]
          refine ⟨m1, ?_⟩
          obtain ⟨c0, c1, c2⟩ : ∃ c0, c0 < 12 ∧ bitsOf s c0 = true := by
            by_cases q : ∃ c0, c0 < 12 ∧ bitsOf s c0 = true
            · exact q
            · have z : s = mk 12 (fun _ => false) := mk_of s12 (fun i hi => by
                cases t : s.testBit i with
                | false => rfl
                | true => exact absurd ⟨i, hi, t⟩ q)
              rw [← mk_zero] at z
              omega
          refine dp_step (D := fun c => decN (R (mk 12 (del (bitsOf s) c)))) c1 c2 (fun c hc bc => ?_) (fun c d f hc bc hd a q => ?_) (fun v hv => ?_)
          · exact (ry _ (del_lt s12 hc bc)).2.to (fun j hj => by
              unfold bitsOf
              rw [mk_bit, decide_eq_true hj, Bool.true_and])
          · have r2 := (ry _ (del_lt s12 hc bc)).2
            unfold decN at hd
            split at hd
            · cases hd
            · rename_i ne
              injection hd with hd
              have le := m3 c f (hi c bc) bc ne a q
              have := MinOn_le hB r2 ne
              have := hB f c (by
                by_cases z : f = 0
                · omega
                · have := (q z).1
                  omega) hc
              refine ⟨m, if_neg (by omega), by omega⟩
          · unfold decN at hv
            split at hv
            · cases hv
            · rename_i ne
              injection hv with hv
              obtain ⟨c, f', u1, u2, u3, u4, u5, u6⟩ := m4 ne
              exact ⟨c, _, f', u1, u2, if_neg u3, u4, u5, by rw [← hv, u6]⟩
        · rw [if_neg e]
          exact ry a (by omega)
    · rw [si_row, up1_ne (by omega)]
      exact rx a ha
    · rw [si_row, up1_eq]
      rfl
  · intro f x ⟨_, R, cx, rx⟩
    have Lx := cx.lay L (by decide)
    obtain ⟨r1, r2⟩ := rx (2 ^ n - 1) (by omega)
    refine ⟨R (2 ^ n - 1), x, ?_, cx, r2.to (fun c _ => ?_), ?_⟩
    · show F_X12_cheapest_18 (f + 1) 81 (nI (2 ^ n - 1)) (nI (2 ^ n)) x = _
      rw [F_X12_cheapest_18]
      dsimp only
      rw [if_pos (nI_lt (by omega) (by omega)), nR_81_28 Lx.kd Lx.rd, Option.bind_some, na_96 Lx.kd (by omega), r1]
      rfl
    · unfold bitsOf upTo
      rw [Nat.testBit_two_pow_sub_one]
    · by_cases q : R (2 ^ n - 1) = 1000000000
      · omega
      · exact Nat.le_trans (MinOn_le hB r2 q) (by decide)
  · have z : a = 0 := by omega
    rw [z, si_row, up1_eq]
    refine ⟨rfl, MinOn_zero (fun c _ => Nat.zero_testBit c)⟩
