/-! TIMES: how many times as likely, both sides -/
def prodN : Nat → (Nat → Nat) → Nat
  | 0, _ => 1
  | n + 1, f => prodN n f * f n
def hf (A : Nat → Int32) (k i : Nat) : Nat := cl A (196 + 8 * k + (2 + i))
def tt (A : Nat → Int32) (s i : Nat) : Nat := cl A (292 + 6 * s + i)
def PP (A : Nat → Int32) (s k n : Nat) : Nat := prodN n fun i => (hf A k i + 1) ^ tt A s i
def SS (A : Nat → Int32) (s n : Nat) : Nat := sumN n (tt A s)
def allF (A : Nat → Int32) (k n : Nat) : Nat := 6 + sumN n (hf A k)
def One (A : Nat → Int32) (s k o : Nat) : Nat := PP A s k 6 * allF A o 6 ^ SS A s 6
theorem hf_rg {A : Nat → Int32} (K : ShOK A) {k i : Nat} (hk : k < nH A) (hi : i < 6) : A (196 + 8 * k + (2 + i)) = nI (hf A k i) ∧ hf A k i < 100 := by
  have q := (K.2.2.2.1 k hk).2.2.2 i hi
  rw [Nat.add_assoc] at q
  exact ⟨q.1, q.2⟩
theorem tt_rg {A : Nat → Int32} (K : ShOK A) {s i : Nat} (hs : s < 8) (hi : i < 6) : A (292 + 6 * s + i) = nI (tt A s i) ∧ tt A s i < 100 := by
  have q := K.2.2.2.2.1 s hs i hi
  exact ⟨q.1, q.2⟩
theorem PP_le {A : Nat → Int32} (K : ShOK A) {s k : Nat} (hs : s < 8) (hk : k < nH A) : ∀ n, n ≤ 6 → PP A s k n ≤ 100 ^ SS A s n := by
  intro n
  induction n with
  | zero => intro _; exact Nat.le_refl _
  | succ n ih =>
    intro hn
    show PP A s k n * (hf A k n + 1) ^ tt A s n ≤ 100 ^ (SS A s n + tt A s n)
    rw [Nat.pow_add]
    have := (hf_rg K hk (show n < 6 by omega)).2
    exact Nat.mul_le_mul (ih (by omega)) (Nat.pow_le_pow_left (by omega) _)
theorem PP_pos {A : Nat → Int32} (s k : Nat) : ∀ n, 0 < PP A s k n := by
  intro n
  induction n with
  | zero => exact Nat.one_pos
  | succ n ih => exact Nat.mul_pos ih (Nat.pow_pos (Nat.succ_pos _))
theorem SS_le {A : Nat → Int32} (K : ShOK A) {s : Nat} (hs : s < 8) {n : Nat} (hn : n ≤ 6) : SS A s n ≤ 594 := by
  have : SS A s n ≤ n * 99 := sumN_le (fun i hi => by
    have := (tt_rg K hs (show i < 6 by omega)).2
    omega)
  omega
theorem allF_le {A : Nat → Int32} (K : ShOK A) {k : Nat} (hk : k < nH A) {n : Nat} (hn : n ≤ 6) : allF A k n ≤ 600 ∧ 0 < allF A k n := by
  have : sumN n (hf A k) ≤ n * 99 := sumN_le (fun i hi => by
    have := (hf_rg K hk (show i < 6 by omega)).2
    omega)
  unfold allF
  omega
theorem big_bnd {p q v : Nat} (hp : p ≤ 594) (hq : q ≤ 594) (hv : v ≤ 100 ^ p * 600 ^ q) : v * 1000000 < B30 ^ 330 ∧ v * 1000000 < B8 ^ 380 := by
  have a : v * 1000000 ≤ 100 ^ 594 * 600 ^ 594 * 1000000 := Nat.mul_le_mul_right _ (Nat.le_trans hv (Nat.mul_le_mul (Nat.pow_le_pow_right (by decide) hp) (Nat.pow_le_pow_right (by decide) hq)))
  have b1 : 100 ^ 594 * 600 ^ 594 * 1000000 < B30 ^ 330 := by decide +kernel
  have b2 : 100 ^ 594 * 600 ^ 594 * 1000000 < B8 ^ 380 := by decide +kernel
  exact ⟨Nat.lt_of_le_of_lt a b1, Nat.lt_of_le_of_lt a b2⟩
theorem lt_mul6 {v b : Nat} (h : v * 1000000 < b) : v < b := Nat.lt_of_le_of_lt (Nat.le_mul_of_pos_right v (by decide)) h
theorem c_gcd {a b : Nat} (a0 : 0 < a) (b0 : 0 < b) (ha : a < 1000) (hb : b < 1000) : F_X2_commonFactor (nI a) (nI b) = some (nI (Nat.gcd a b)) := by
  unfold F_X2_commonFactor
  refine loopE (fun f i (y : Nat × Nat) => F_X2_commonFactor_7 f (nI y.1) (nI y.2) (nI i)) 22 (fun i y => y.1 < 1000 ∧ y.2 < 1000 ∧ Nat.gcd y.1 y.2 = Nat.gcd a b ∧ 0 < y.1 ∧ (0 < i → y.2 ≤ y.1 ∧ y.1 * y.2 * 2 ^ (i - 1) ≤ 1000000)) (fun o => o = some (nI (Nat.gcd a b))) ?_ ?_ 0 (a, b) (Nat.zero_le _) ⟨ha, hb, rfl, a0, fun z => absurd z (Nat.lt_irrefl 0)⟩ pg_fuel (by unfold pg_fuel; omega)
  · rintro f i ⟨x, y⟩ hi ⟨p1, p2, p3, p4, p5⟩
    dsimp only at p1 p2 p3 p4 p5
    show (∃ z : Nat × Nat, F_X2_commonFactor_7 (f + 1) (nI x) (nI y) (nI i) = F_X2_commonFactor_7 f (nI z.1) (nI z.2) (nI (i + 1)) ∧ _) ∨ F_X2_commonFactor_7 (f + 1) (nI x) (nI y) (nI i) = _
    rw [F_X2_commonFactor_7]
    unfold pg_let
    dsimp only
    rw [if_pos (show nI i < (64 : Int32) from nI_lt (b := 64) (by omega) (by decide))]
    by_cases z : y = 0
    · right
      subst z
      rw [if_pos (show nI 0 = (0 : Int32) from rfl), ← p3, Nat.gcd_zero_right]
    · left
      have ne : ¬ nI y = (0 : Int32) := fun q => z ((nI_eq (b := 0) (by omega) (by decide)).mp q)
      have md : x / y * y + x % y = x := by rw [Nat.mul_comm]; exact Nat.div_add_mod x y
      have er : nI x - nI x / nI y * nI y = nI (x % y) := by
        rw [nI_div (by omega) (by omega), nI_mul, ix_sub (by omega)]
        exact congrArg nI (by omega)
      rw [if_neg ne, if_neg ne, er, nI_1]
      have ml := Nat.mod_lt x (show 0 < y by omega)
      have gr : Nat.gcd y (x % y) = Nat.gcd x y := by rw [Nat.gcd_comm x y, Nat.gcd_rec y x, Nat.gcd_comm]
      refine ⟨(y, x % y), rfl, p2, by show x % y < 1000; omega, gr.trans p3, by show 0 < y; omega, fun _ => ⟨by show x % y ≤ y; omega, ?_⟩⟩
      show y * (x % y) * 2 ^ (i + 1 - 1) ≤ 1000000
      rw [Nat.add_sub_cancel]
      by_cases i0 : i = 0
      · subst i0
        rw [Nat.pow_zero, Nat.mul_one]
        have := Nat.mul_le_mul (show y ≤ 1000 by omega) (show x % y ≤ 1000 by omega)
        omega
      · obtain ⟨q1, q2⟩ := p5 (by omega)
        obtain ⟨j, rfl⟩ : ∃ j, i = j + 1 := ⟨i - 1, by omega⟩
        rw [Nat.add_sub_cancel] at q2
        have d1 : 1 ≤ x / y := (Nat.le_div_iff_mul_le (by omega)).mpr (by omega)
        have d2 : y ≤ x / y * y := Nat.le_mul_of_pos_left y d1
        have h2 : y * (x % y) * 2 ≤ x * y := by
          rw [Nat.mul_assoc, Nat.mul_comm x y]
          exact Nat.mul_le_mul_left y (by omega)
        rw [Nat.pow_succ, Nat.mul_comm (2 ^ j) 2, ← Nat.mul_assoc]
        exact Nat.le_trans (Nat.mul_le_mul_right _ h2) q2
  · rintro f ⟨x, y⟩ ⟨p1, p2, p3, p4, p5⟩
    dsimp only at p1 p2 p3 p4 p5
    obtain ⟨q1, q2⟩ := p5 (by decide)
    have y0 : y = 0 := by
      by_cases z : y = 0
      · exact z
      · have a1 : 1 ≤ x * y := Nat.mul_pos p4 (by omega)
        have := Nat.mul_le_mul_right (2 ^ (22 - 1)) a1
        omega
    subst y0
    show F_X2_commonFactor_7 (f + 1) (nI x) (nI 0) (nI 22) = _
    rw [F_X2_commonFactor_7]
    dsimp only
    rw [if_pos (show nI 22 < (64 : Int32) by decide), if_pos (show nI 0 = (0 : Int32) from rfl), ← p3, Nat.gcd_zero_right]
def wgS : List Nat := [69, 71]
def wgT : List (Nat × Nat) := [(68, 1), (70, 1)]
theorem c_factor {h : pg_H} (L : Lay h) {t u G P Q a b m : Nat} (T : BigV h 68 t) (U : BigV h 70 u) (G0 : 0 < G) (e1 : t * G = P) (e2 : u * G = Q) (a0 : 0 < a) (b0 : 0 < b) (ha : a < 1000) (hb : b < 1000) (hm : m < 2 ^ 20) (bP : P * a ^ m < B30 ^ 330) (bQ : Q * b ^ m < B30 ^ 330) :
    ∃ h' t' u' G', F_X2_weighFactor 67 (nI a) (nI b) (nI m) h = some h' ∧ Ch wgS wgT h h' ∧ BigV h' 68 t' ∧ BigV h' 70 u' ∧ 0 < G' ∧ t' * G' = P * a ^ m ∧ u' * G' = Q * b ^ m := by
  have g0 : 0 < Nat.gcd a b := Nat.gcd_pos_of_pos_left b a0
  have gl : Nat.gcd a b ≤ a := Nat.gcd_le_left b a0
  have da : a / Nat.gcd a b * Nat.gcd a b = a := Nat.div_mul_cancel (Nat.gcd_dvd_left a b)
  have db : b / Nat.gcd a b * Nat.gcd a b = b := Nat.div_mul_cancel (Nat.gcd_dvd_right a b)
  have gd := c_gcd a0 b0 ha hb
  generalize Nat.gcd a b = g at *
  have a1 : 0 < a / g := Nat.div_pos gl g0
  have b1 : 0 < b / g := Nat.pos_of_ne_zero (fun z => by
    rw [z, Nat.zero_mul] at db
    omega)
  have l1 : a / g ≤ a := Nat.div_le_self a g
  have l2 : b / g ≤ b := Nat.div_le_self b g
  have tP : t ≤ P := by
    rw [← e1]
    exact Nat.le_mul_of_pos_right t G0
  have uQ : u ≤ Q := by
    rw [← e2]
    exact Nat.le_mul_of_pos_right u G0
  obtain ⟨x, x1, x2, x3⟩ := c_mulOften (Or.inl rfl) L T a1 (by omega) hm (Nat.lt_of_le_of_lt (Nat.mul_le_mul tP (Nat.pow_le_pow_left l1 m)) bP)
  have x2' : Ch [69] [(68, 1)] h x := x2
  have Lx := x2'.lay L (by decide)
  obtain ⟨y, y1, y2, y3⟩ := c_mulOften (Or.inr (Or.inl rfl)) Lx (U.ch x2' (by decide)) b1 (by omega) hm (Nat.lt_of_le_of_lt (Nat.mul_le_mul uQ (Nat.pow_le_pow_left l2 m)) bQ)
  have y2' : Ch [71] [(70, 1)] x y := y2
  refine ⟨y, t * (a / g) ^ m, u * (b / g) ^ m, G * g ^ m, ?_, (x2'.mono (by decide)).trans (y2'.mono (by decide)), x3.ch y2' (by decide), y3, Nat.mul_pos G0 (Nat.pow_pos g0), ?_, ?_⟩
  · have gn : ¬ nI g = (0 : Int32) := fun q => by
      have := (nI_eq (b := 0) (by omega) (by decide)).mp q
      omega
    unfold F_X2_weighFactor
    rw [gd, Option.bind_some, if_pos (show (0 : Int32) < nI g from nI_lt (a := 0) g0 (by omega)), nR_67_0 L.kd L.rd, Option.bind_some, if_neg gn, o_rc L.kd (Or.inl rfl), nI_div (by omega) (by omega), x1, Option.bind_some, nR_67_1 Lx.kd Lx.rd, Option.bind_some, if_neg gn, o_rc Lx.kd (Or.inr (Or.inl rfl)), nI_div (by omega) (by omega), y1]
    rfl
  · rw [show t * (a / g) ^ m * (G * g ^ m) = t * G * ((a / g) ^ m * g ^ m) by rw [Nat.mul_mul_mul_comm], e1, ← Nat.mul_pow, da]
  · rw [show u * (b / g) ^ m * (G * g ^ m) = u * G * ((b / g) ^ m * g ^ m) by rw [Nat.mul_mul_mul_comm], e2, ← Nat.mul_pow, db]
theorem c_weigh {h : pg_H} {A : Nat → Int32} (L : Lay h) (C : CNum h 2 A) (K : ShOK A) {s k o : Nat} (hs : s < 8) (hk : k < nH A) (ho : o < nH A) :
    ∃ h' t u G, F_X2_weigh 67 2 (nI s) (nI k) (nI o) h = some h' ∧ Ch wgS wgT h h' ∧ BigV h' 68 t ∧ BigV h' 70 u ∧ 0 < G ∧ t * G = One A s k o ∧ u * G = One A s o k := by
  obtain ⟨x, x1, x2, x3⟩ := c_become1 (Or.inl rfl) L
  have x2' : Ch [69] [(68, 1)] h x := x2
  have Lx := x2'.lay L (by decide)
  obtain ⟨y, y1, y2, y3⟩ := c_become1 (Or.inr (Or.inl rfl)) Lx
  have y2' : Ch [71] [(70, 1)] x y := y2
  have hy : Ch wgS wgT h y := (x2'.mono (by decide)).trans (y2'.mono (by decide))
  unfold F_X2_weigh
  rw [nR_67_0 L.kd L.rd, Option.bind_some, o_rc L.kd (Or.inl rfl), x1, Option.bind_some, nR_67_1 Lx.kd Lx.rd, Option.bind_some, o_rc Lx.kd (Or.inr (Or.inl rfl)), y1, Option.bind_some]
  refine loopI (fun f i z => F_X2_weigh_30 f 67 2 (nI s) (nI k) (nI o) (nI (SS A s i)) (nI (allF A k i)) (nI (allF A o i)) (nI i) z) 6 (fun i z => Ch wgS wgT h z ∧ ∃ t u G, BigV z 68 t ∧ BigV z 70 u ∧ 0 < G ∧ t * G = PP A s k i ∧ u * G = PP A s o i) (fun out => ∃ h' t u G, out = some h' ∧ Ch wgS wgT h h' ∧ BigV h' 68 t ∧ BigV h' 70 u ∧ 0 < G ∧ t * G = One A s k o ∧ u * G = One A s o k) ?_ ?_ 0 y (Nat.zero_le _) ⟨hy, 1, 1, 1, x3.ch y2' (by decide), y3, by decide, rfl, rfl⟩ pg_fuel (by unfold pg_fuel; omega)
  · intro f i z hi ⟨cz, t, u, G, T, U, G0, e1, e2⟩
    have Lz := cz.lay L (by decide)
    have Cz : CNum z 2 A := C.ch cz (by decide)
    obtain ⟨h1, h2⟩ := hf_rg K hk hi
    obtain ⟨h3, h4⟩ := hf_rg K ho hi
    obtain ⟨h5, h6⟩ := tt_rg K hs hi
    have bk : PP A s k i * (hf A k i + 1) ^ tt A s i < B30 ^ 330 := lt_mul6 (big_bnd (p := SS A s (i + 1)) (q := 0) (SS_le K hs (by omega)) (by decide) (by rw [Nat.pow_zero, Nat.mul_one]; exact PP_le K hs hk (i + 1) (by omega))).1
    have bo : PP A s o i * (hf A o i + 1) ^ tt A s i < B30 ^ 330 := lt_mul6 (big_bnd (p := SS A s (i + 1)) (q := 0) (SS_le K hs (by omega)) (by decide) (by rw [Nat.pow_zero, Nat.mul_one]; exact PP_le K hs ho (i + 1) (by omega))).1
    obtain ⟨w, t', u', G', w1, w2, w3, w4, w5, w6, w7⟩ := c_factor Lz T U G0 e1 e2 (a := hf A k i + 1) (b := hf A o i + 1) (m := tt A s i) (by omega) (by omega) (by omega) (by omega) (by omega) bk bo
    refine ⟨w, ?_, cz.trans w2, t', u', G', w3, w4, w5, w6, w7⟩
    show F_X2_weigh_30 (f + 1) 67 2 (nI s) (nI k) (nI o) (nI (SS A s i)) (nI (allF A k i)) (nI (allF A o i)) (nI i) z = F_X2_weigh_30 f 67 2 (nI s) (nI k) (nI o) (nI (SS A s i + tt A s i)) (nI (6 + (sumN i (hf A k) + hf A k i))) (nI (6 + (sumN i (hf A o) + hf A o i))) (nI (i + 1)) w
    rw [F_X2_weigh_30]
    unfold pg_let
    dsimp only
    have a1 : F_X7_at z 9 (nI s) (nI i) = some (A (292 + 6 * s + i)) := Cz.2.2.2.1.at hs hi
    have a2 : F_X7_at z 7 (nI k) (nI (2 + i)) = some (A (196 + 8 * k + (2 + i))) := Cz.2.2.1.at hk (by omega)
    have a3 : F_X7_at z 7 (nI o) (nI (2 + i)) = some (A (196 + 8 * o + (2 + i))) := Cz.2.2.1.at ho (by omega)
    rw [if_pos (show nI i < (6 : Int32) from nI_lt (b := 6) hi (by decide)), nR_2_3 Lz.kd Lz.rd, Option.bind_some, nc_9 Lz.kd, a1, h5, Option.bind_some, nR_2_2 Lz.kd Lz.rd, Option.bind_some, nc_7 Lz.kd, show (2 : Int32) + nI i = nI (2 + i) from nI_add 2 i, a2, h1, Option.bind_some, Option.bind_some, nc_7 Lz.kd, a3, h3, Option.bind_some, nc_67 Lz.kd, nI_1, nI_1, w1, Option.bind_some, nI_1, nI_add, nI_add, nI_add]
    unfold allF
    rw [Nat.add_assoc, Nat.add_assoc]
  · intro f z ⟨cz, t, u, G, T, U, G0, e1, e2⟩
    have Lz := cz.lay L (by decide)
    obtain ⟨ak, ak0⟩ := allF_le K hk (Nat.le_refl 6)
    obtain ⟨ao, ao0⟩ := allF_le K ho (Nat.le_refl 6)
    have s6 := SS_le K hs (Nat.le_refl 6)
    have bk : PP A s k 6 * allF A o 6 ^ SS A s 6 < B30 ^ 330 := lt_mul6 (big_bnd s6 s6 (Nat.mul_le_mul (PP_le K hs hk 6 (Nat.le_refl 6)) (Nat.pow_le_pow_left ao _))).1
    have bo : PP A s o 6 * allF A k 6 ^ SS A s 6 < B30 ^ 330 := lt_mul6 (big_bnd s6 s6 (Nat.mul_le_mul (PP_le K hs ho 6 (Nat.le_refl 6)) (Nat.pow_le_pow_left ak _))).1
    obtain ⟨w, t', u', G', w1, w2, w3, w4, w5, w6, w7⟩ := c_factor Lz T U G0 e1 e2 (a := allF A o 6) (b := allF A k 6) (m := SS A s 6) ao0 ak0 (by omega) (by omega) (by omega) bk bo
    refine ⟨w, t', u', G', ?_, cz.trans w2, w3, w4, w5, w6, w7⟩
    show F_X2_weigh_30 (f + 1) 67 2 (nI s) (nI k) (nI o) (nI (SS A s 6)) (nI (allF A k 6)) (nI (allF A o 6)) (nI 6) z = _
    rw [F_X2_weigh_30]
    dsimp only
    rw [if_neg (show ¬ nI 6 < (6 : Int32) by decide), nc_67 Lz.kd, w1]
    rfl
theorem m_makesP {h : pg_H} {r : Nat} (hr : isR r) (L : Lay h) {v f m : Nat} (V : RV h r v) (f0 : 0 < f) (hf : f < 2 ^ 30) (hm : m < 2 ^ 20) (hv : v * f ^ m < B8 ^ 380) : ∃ h', F_X12_makes r (nI f) (nI m) h = some h' ∧ Ch [r] [] h h' ∧ RV h' r (v * f ^ m) :=
  m_makes hr L V hf hm (fun k hk => Nat.lt_of_le_of_lt (Nat.mul_le_mul_left v (Nat.pow_le_pow_right f0 hk)) hv)
theorem m_formsOf {h : pg_H} {A : Nat → Int32} (L : Lay h) (M : pg_i h 83 = A) (K : ShOK A) {k : Nat} (hk : k < nH A) : F_X12_formsOf h 81 (nI k) = some (nI (allF A k 6)) := by
  have kH : nH A < 13 := K.1.2.2.1.2
  unfold F_X12_formsOf
  refine loopI (fun f i (_ : Unit) => F_X12_formsOf_5 h f 81 (nI k) (nI (allF A k i)) (nI i)) 6 (fun _ _ => True) (fun o => o = some (nI (allF A k 6))) ?_ ?_ 0 () (Nat.zero_le _) trivial pg_fuel (by unfold pg_fuel; omega)
  · intro f i _ hi _
    refine ⟨(), ?_, trivial⟩
    show F_X12_formsOf_5 h (f + 1) 81 (nI k) (nI (allF A k i)) (nI i) = F_X12_formsOf_5 h f 81 (nI k) (nI (6 + (sumN i (hf A k) + hf A k i))) (nI (i + 1))
    rw [F_X12_formsOf_5]
    unfold pg_let
    dsimp only
    rw [if_pos (show nI i < (6 : Int32) from nI_lt (b := 6) hi (by decide)), nc_81 L.kd, show (2 : Int32) + nI i = nI (2 + i) from nI_add 2 i, m_handOf L k (2 + i) (by omega), M, (hf_rg K hk hi).1, Option.bind_some, nI_add, nI_1]
    unfold allF
    rw [Nat.add_assoc]
  · intro f _ _
    show F_X12_formsOf_5 h (f + 1) 81 (nI k) (nI (allF A k 6)) (nI 6) = _
    rw [F_X12_formsOf_5]
    dsimp only
    rw [if_neg (show ¬ nI 6 < (6 : Int32) by decide)]
theorem one_step {p q a o m s : Nat} (e : q = p * o ^ s) : q * a ^ m * o ^ m = p * a ^ m * o ^ (s + m) := by
  rw [e, Nat.pow_add, Nat.mul_right_comm p (o ^ s) (a ^ m), Nat.mul_assoc (p * a ^ m)]
theorem m_likens {h : pg_H} {A : Nat → Int32} (L : Lay h) (M : pg_i h 83 = A) (K : ShOK A) {s k o : Nat} (hs : s < 8) (hk : k < nH A) (ho : o < nH A) :
    ∃ h', F_X12_likens 81 (nI s) (nI k) (nI o) h = some h' ∧ Ch [100, 101] [] h h' ∧ RV h' 100 (One A s k o) ∧ RV h' 101 (One A s o k) := by
  have kH : nH A < 13 := K.1.2.2.1.2
  have i1 : isR 100 := Or.inl rfl
  have i2 : isR 101 := Or.inr (Or.inl rfl)
  obtain ⟨x, x1, x2, x3⟩ := m_be i1 L (v := 1) (by decide)
  have Lx := x2.lay L (by decide)
  obtain ⟨y, y1, y2, y3⟩ := m_be i2 Lx (v := 1) (by decide)
  have hy : Ch [100, 101] [] h y := (x2.mono (by decide)).trans (y2.mono (by decide))
  obtain ⟨ak, ak0⟩ := allF_le K hk (Nat.le_refl 6)
  obtain ⟨ao, ao0⟩ := allF_le K ho (Nat.le_refl 6)
  have fk : ∀ g, Lay g → pg_i g 83 = A → F_X12_formsOf g 81 (nI k) = some (nI (allF A k 6)) := fun g Lg Mg => m_formsOf Lg Mg K hk
  have fo : ∀ g, Lay g → pg_i g 83 = A → F_X12_formsOf g 81 (nI o) = some (nI (allF A o 6)) := fun g Lg Mg => m_formsOf Lg Mg K ho
  unfold One
  generalize allF A k 6 = ck at *
  generalize allF A o 6 = co at *
  unfold F_X12_likens
  rw [nR_81_34 L.kd L.rd, Option.bind_some, show (1 : Int64) = lN 1 from rfl, x1, Option.bind_some, nR_81_35 Lx.kd Lx.rd, Option.bind_some, y1, Option.bind_some]
  refine loopI (fun f i z => F_X12_likens_19 f 81 (nI s) (nI k) (nI o) (nI i) z) 6 (fun i z => Ch [100, 101] [] h z ∧ RV z 100 (PP A s k i * co ^ SS A s i) ∧ RV z 101 (PP A s o i * ck ^ SS A s i)) (fun out => ∃ h', out = some h' ∧ Ch [100, 101] [] h h' ∧ RV h' 100 (PP A s k 6 * co ^ SS A s 6) ∧ RV h' 101 (PP A s o 6 * ck ^ SS A s 6)) ?_ ?_ 0 y (Nat.zero_le _) ⟨hy, x3.ch y2 (by decide), y3⟩ pg_fuel (by unfold pg_fuel; omega)
  · intro f i z hi ⟨cz, V, W⟩
    have Lz := cz.lay L (by decide)
    have Mz : pg_i z 83 = A := (cz.row (by decide)).trans M
    obtain ⟨h1, h2⟩ := hf_rg K hk hi
    obtain ⟨h3, h4⟩ := hf_rg K ho hi
    obtain ⟨h5, h6⟩ := tt_rg K hs hi
    have sle := SS_le K hs (n := i + 1) (by omega)
    have sle0 := SS_le K hs (n := i) (by omega)
    have pk := PP_le K hs hk (i + 1) (by omega)
    have po := PP_le K hs ho (i + 1) (by omega)
    have bk1 : PP A s k i * co ^ SS A s i * (hf A k i + 1) ^ tt A s i < B8 ^ 380 := by
      rw [Nat.mul_right_comm]
      exact lt_mul6 (big_bnd sle sle0 (Nat.mul_le_mul pk (Nat.pow_le_pow_left ao _))).2
    have bk2 : PP A s k i * co ^ SS A s i * (hf A k i + 1) ^ tt A s i * co ^ tt A s i < B8 ^ 380 := by
      rw [one_step rfl]
      exact lt_mul6 (big_bnd sle sle (Nat.mul_le_mul pk (Nat.pow_le_pow_left ao _))).2
    have bo1 : PP A s o i * ck ^ SS A s i * (hf A o i + 1) ^ tt A s i < B8 ^ 380 := by
      rw [Nat.mul_right_comm]
      exact lt_mul6 (big_bnd sle sle0 (Nat.mul_le_mul po (Nat.pow_le_pow_left ak _))).2
    have bo2 : PP A s o i * ck ^ SS A s i * (hf A o i + 1) ^ tt A s i * ck ^ tt A s i < B8 ^ 380 := by
      rw [one_step rfl]
      exact lt_mul6 (big_bnd sle sle (Nat.mul_le_mul po (Nat.pow_le_pow_left ak _))).2
    obtain ⟨a, a1, a2, a3⟩ := m_makesP i1 Lz V (f := hf A k i + 1) (m := tt A s i) (by omega) (by omega) (by omega) bk1
    have La := a2.lay Lz (by decide)
    have Ma : pg_i a 83 = A := (a2.row (by decide)).trans Mz
    obtain ⟨b, b1, b2, b3⟩ := m_makesP i1 La a3 (f := co) (m := tt A s i) (by omega) (by omega) (by omega) bk2
    have Lb := b2.lay La (by decide)
    have Mb : pg_i b 83 = A := (b2.row (by decide)).trans Ma
    obtain ⟨c, c1, c2, c3⟩ := m_makesP i2 Lb ((W.ch a2 (by decide)).ch b2 (by decide)) (f := hf A o i + 1) (m := tt A s i) (by omega) (by omega) (by omega) bo1
    have Lc := c2.lay Lb (by decide)
    have Mc : pg_i c 83 = A := (c2.row (by decide)).trans Mb
    obtain ⟨d, d1, d2, d3⟩ := m_makesP i2 Lc c3 (f := ck) (m := tt A s i) (by omega) (by omega) (by omega) bo2
    rw [one_step rfl] at b3 d3
    have zd : Ch [100, 101] [] z d := (a2.mono (by decide)).trans ((b2.mono (by decide)).trans ((c2.mono (by decide)).trans (d2.mono (by decide))))
    refine ⟨d, ?_, cz.trans zd, (b3.ch c2 (by decide)).ch d2 (by decide), d3⟩
    show F_X12_likens_19 (f + 1) 81 (nI s) (nI k) (nI o) (nI i) z = F_X12_likens_19 f 81 (nI s) (nI k) (nI o) (nI (i + 1)) d
    have ix : ((292 : Int32) + (6 : Int32) * nI s) + nI i = nI (292 + 6 * s + i) := by rw [show (292 : Int32) = nI 292 from rfl, show (6 : Int32) = nI 6 from rfl, nI_mul, nI_add, nI_add]
    have e2i : (2 : Int32) + nI i = nI (2 + i) := nI_add 2 i
    rw [F_X12_likens_19]
    dsimp only
    rw [if_pos (show nI i < (6 : Int32) from nI_lt (b := 6) hi (by decide)), nR_81_3 Lz.kd Lz.rd, Option.bind_some, ix, m_kept Lz _ (by omega), Mz, h5, Option.bind_some, nR_81_34 Lz.kd Lz.rd, Option.bind_some, nc_81 Lz.kd, e2i, m_handOf Lz k (2 + i) (by omega), Mz, h1, Option.bind_some, nI_1, a1, Option.bind_some, nR_81_34 La.kd La.rd, Option.bind_some, nc_81 La.kd, fo a La Ma, Option.bind_some, b1, Option.bind_some, nR_81_35 Lb.kd Lb.rd, Option.bind_some, nc_81 Lb.kd, m_handOf Lb o (2 + i) (by omega), Mb, h3, Option.bind_some, nI_1, c1, Option.bind_some, nR_81_35 Lc.kd Lc.rd, Option.bind_some, nc_81 Lc.kd, fk c Lc Mc, Option.bind_some, d1, Option.bind_some, nI_1]
  · intro f z ⟨cz, V, W⟩
    refine ⟨z, ?_, cz, V, W⟩
    show F_X12_likens_19 (f + 1) 81 (nI s) (nI k) (nI o) (nI 6) z = _
    rw [F_X12_likens_19]
    dsimp only
    rw [if_neg (show ¬ nI 6 < (6 : Int32) by decide)]
theorem One_pos {A : Nat → Int32} (K : ShOK A) {s k o : Nat} (ho : o < nH A) : 0 < One A s k o := Nat.mul_pos (PP_pos s k 6) (Nat.pow_pos (allF_le K ho (Nat.le_refl 6)).2)
theorem One_bnd {A : Nat → Int32} (K : ShOK A) {s k o : Nat} (hs : s < 8) (hk : k < nH A) (ho : o < nH A) : One A s k o * 1000000 < B30 ^ 330 ∧ One A s k o * 1000000 < B8 ^ 380 := by
  have s6 := SS_le K hs (Nat.le_refl 6)
  exact big_bnd s6 s6 (Nat.mul_le_mul (PP_le K hs hk 6 (Nat.le_refl 6)) (Nat.pow_le_pow_left (allF_le K ho (Nat.le_refl 6)).1 _))
theorem sim_times : Sim_times Inv := by
  intro x1 x2 x3 q h hq I
  show SimB q h (F_X11_times 1 x1 x2 x3) (F_X12_times 81 x1 x2 x3)
  have L := I.1
  have D := L.kd
  have R := L.rd
  obtain ⟨C, K⟩ := I.sh
  have kH : nH (pg_i h 83) < 13 := K.1.2.2.1.2
  have s8 : (0 ≤ x1 ∧ x1 < nI 8) ↔ (0 ≤ x1 ∧ x1 ≤ 7) := by
    have t8 : (nI 8).toInt = 8 := by decide
    have t7 : (7 : Int32).toInt = 7 := by decide
    rw [Int32.lt_iff_toInt_lt, Int32.le_iff_toInt_le (y := 7), t8, t7]
    constructor
    · exact fun z => ⟨z.1, by omega⟩
    · exact fun z => ⟨z.1, by omega⟩
  by_cases c1 : 0 ≤ x1 ∧ x1 < nI 8
  · by_cases c2 : 0 ≤ x2 ∧ x2 < nI (nH (pg_i h 83))
    · by_cases c3 : 0 ≤ x3 ∧ x3 < nI (nH (pg_i h 83))
      · obtain ⟨s, hs, rfl⟩ := in_nI c1 (by decide)
        obtain ⟨k, hk, rfl⟩ := in_nI c2 (by omega)
        obtain ⟨o, ho, rfl⟩ := in_nI c3 (by omega)
        obtain ⟨x, t, u, G, w1, w2, w3, w4, w5, w6, w7⟩ := c_weigh L C K hs hk ho
        have Lx := w2.lay L (by decide)
        have u0 : 0 < u := Nat.pos_of_ne_zero (fun z => by
          have := One_pos K (s := s) (k := o) hk
          rw [z, Nat.zero_mul] at w7
          omega)
        have ub : u * 1000000 < B30 ^ 330 := Nat.lt_of_le_of_lt (Nat.mul_le_mul_right _ (by rw [← w7]; exact Nat.le_mul_of_pos_right u w5)) (One_bnd K hs ho hk).1
        obtain ⟨y, y1, y2⟩ := c_quotient Lx w3 w4 u0 ub
        have Ly := y2.lay Lx (by decide)
        have My : pg_i y 83 = pg_i h 83 := (y2.row (by decide)).trans (w2.row (by decide))
        obtain ⟨z, z1, z2, z3, z4⟩ := m_likens Ly My K hs hk ho
        have Lz := z2.lay Ly (by decide)
        obtain ⟨a, a1, a2⟩ := m_quotient Lz z3 z4 (One_pos K hk) (One_bnd K hs ho hk).2
        have all : Ch [69, 71, 73, 100, 101, 102] [(68, 1), (70, 1), (72, 1)] h a := (w2.mono (by decide)).trans ((y2.mono (by decide)).trans ((z2.mono (by decide)).trans (a2.mono (by decide))))
        have eq : quo (One (pg_i h 83) s k o) (One (pg_i h 83) s o k) = quo t u := by
          unfold quo
          rw [← w6, ← w7, Nat.mul_div_mul_right _ _ w5]
        rw [eq] at a1
        refine ⟨nI (quo t u), y, a, ?_, Ly, ?_, I.same all (by decide) (by decide), all.few⟩
        · unfold F_X11_times F_X2_timesAsLikely
          simp only [k_si, k_sl, k_sr, r_si, r_sl, i_sl, i_sr, l_si, l_sr, Option.bind_some, if_true, if_false, bind_eta2, if_bb, decide_eq_true_eq, pg_let, nR_1_0, nR_1_8, nR_2_2, nR_2_3, nc_7, nc_9, nc_67, D, R, Lx.kd, c_holds_9 C, c_holds_7 C, if_pos c1, if_pos c2, if_pos c3, w1, y1]
        · unfold F_X12_times
          simp only [k_si, k_sl, k_sr, r_si, r_sl, i_sl, i_sr, l_si, l_sr, Option.bind_some, if_true, if_false, bind_eta2, if_bb, decide_eq_true_eq, pg_let, lies_le, nc_81, Ly.kd, Lz.kd, if_pos (s8.mp c1), m_isHand Ly My K, if_pos c2, if_pos c3, z1, a1]
      · refine SimB.none I (-1) ?_ ?_
        · unfold F_X11_times
          simp only [k_si, k_sl, k_sr, r_si, r_sl, i_sl, i_sr, l_si, l_sr, Option.bind_some, if_true, if_false, bind_eta2, if_bb, decide_eq_true_eq, pg_let, nR_1_0, nR_2_2, nR_2_3, nc_7, nc_9, D, R, c_holds_9 C, c_holds_7 C, if_pos c1, if_pos c2, if_neg c3]
        · unfold F_X12_times
          simp only [k_si, k_sl, k_sr, r_si, r_sl, i_sl, i_sr, l_si, l_sr, Option.bind_some, if_true, if_false, bind_eta2, if_bb, decide_eq_true_eq, pg_let, lies_le, nc_81, D, if_pos (s8.mp c1), m_isHand L rfl K, if_pos c2, if_neg c3]
    · refine SimB.none I (-1) ?_ ?_
      · unfold F_X11_times
        simp only [k_si, k_sl, k_sr, r_si, r_sl, i_sl, i_sr, l_si, l_sr, Option.bind_some, if_true, if_false, bind_eta2, if_bb, decide_eq_true_eq, pg_let, nR_1_0, nR_2_2, nR_2_3, nc_7, nc_9, D, R, c_holds_9 C, c_holds_7 C, if_pos c1, if_neg c2]
      · unfold F_X12_times
        simp only [k_si, k_sl, k_sr, r_si, r_sl, i_sl, i_sr, l_si, l_sr, Option.bind_some, if_true, if_false, bind_eta2, if_bb, decide_eq_true_eq, pg_let, lies_le, nc_81, D, if_pos (s8.mp c1), m_isHand L rfl K, if_neg c2]
  · refine SimB.none I (-1) ?_ ?_
    · unfold F_X11_times
      simp only [k_si, k_sl, k_sr, r_si, r_sl, i_sl, i_sr, l_si, l_sr, Option.bind_some, if_true, if_false, bind_eta2, if_bb, decide_eq_true_eq, pg_let, nR_1_0, nR_2_3, nc_9, D, R, c_holds_9 C, if_neg c1]
    · unfold F_X12_times
      simp only [k_si, k_sl, k_sr, r_si, r_sl, i_sl, i_sr, l_si, l_sr, Option.bind_some, if_true, if_false, bind_eta2, if_bb, decide_eq_true_eq, pg_let, lies_le, if_neg (fun z => c1 (s8.mpr z))]
/-! written -/
def bF (A : Nat → Int32) (s : Nat) : Nat → Nat
  | 0 => 0
  | n + 1 => if One A s (bF A s n) (n + 1) < One A s (n + 1) (bF A s n) then n + 1 else bF A s n
theorem bF_lt (A : Nat → Int32) (s : Nat) : ∀ n, bF A s n ≤ n := by
  intro n
  induction n with
  | zero => exact Nat.le_refl _
  | succ n ih =>
    unfold bF
    split <;> omega
theorem c_likeliest {h : pg_H} {A : Nat → Int32} (L : Lay h) (C : CNum h 2 A) (K : ShOK A) {s : Nat} (hs : s < 8) (h0 : 0 < nH A) : ∃ h', F_X2_likeliestHand 67 2 (nI s) h = some (nI (bF A s (nH A - 1)), h') ∧ Ch wgS wgT h h' := by
  have kH : nH A < 13 := K.1.2.2.1.2
  unfold F_X2_likeliestHand
  have e : nH A = nH A - 1 + 1 := by omega
  generalize hn : nH A - 1 = n at *
  refine loopI (fun f i z => F_X2_likeliestHand_5 f 67 2 (nI s) (nI (bF A s i)) (nI (i + 1)) z) n (fun i z => Ch wgS wgT h z) (fun o => ∃ h', o = some (nI (bF A s n), h') ∧ Ch wgS wgT h h') ?_ ?_ 0 h (Nat.zero_le _) (Ch.refl _ _ _) pg_fuel (by unfold pg_fuel; omega)
  · intro f i z hi cz
    have Lz := cz.lay L (by decide)
    have Cz : CNum z 2 A := C.ch cz (by decide)
    have bl := bF_lt A s i
    obtain ⟨x, t, u, G, w1, w2, w3, w4, w5, w6, w7⟩ := c_weigh Lz Cz K hs (show i + 1 < nH A by omega) (show bF A s i < nH A by omega)
    have Lx := w2.lay Lz (by decide)
    have cmp : (u < t) ↔ One A s (bF A s i) (i + 1) < One A s (i + 1) (bF A s i) := by
      rw [← w6, ← w7]
      exact (Nat.mul_lt_mul_right w5).symm
    have f46 : ∀ v, F_X2_likeliestHand_46 (F_X2_likeliestHand_5 f) 67 2 (nI s) (nI (i + 1)) v x = F_X2_likeliestHand_5 f 67 2 (nI s) v (nI (i + 1 + 1)) x := fun v => by
      unfold F_X2_likeliestHand_46
      rw [nI_1]
    refine ⟨x, ?_, cz.trans w2⟩
    show F_X2_likeliestHand_5 (f + 1) 67 2 (nI s) (nI (bF A s i)) (nI (i + 1)) z = F_X2_likeliestHand_5 f 67 2 (nI s) (nI (if One A s (bF A s i) (i + 1) < One A s (i + 1) (bF A s i) then i + 1 else bF A s i)) (nI (i + 1 + 1)) x
    rw [F_X2_likeliestHand_5]
    dsimp only
    rw [nR_2_2 Lz.kd Lz.rd, Option.bind_some, nc_7 Lz.kd, c_size_7 Cz, Option.bind_some, if_pos (nI_lt (by omega) (by omega)), nc_67 Lz.kd, w1, Option.bind_some, nR_67_0 Lx.kd Lx.rd, Option.bind_some, nR_67_1 Lx.kd Lx.rd, Option.bind_some, o_rc Lx.kd (Or.inl rfl), big_more (Or.inl rfl) (Or.inr (Or.inl rfl)) Lx w3 w4, Option.bind_some, if_bb, f46, f46]
    by_cases q : u < t
    · rw [if_pos (decide_eq_true q), if_pos (cmp.mp q)]
    · rw [if_neg (by rw [decide_eq_false q]; decide), if_neg (fun z => q (cmp.mpr z))]
  · intro f z cz
    have Lz := cz.lay L (by decide)
    have Cz : CNum z 2 A := C.ch cz (by decide)
    refine ⟨z, ?_, cz⟩
    show F_X2_likeliestHand_5 (f + 1) 67 2 (nI s) (nI (bF A s n)) (nI (n + 1)) z = _
    rw [F_X2_likeliestHand_5]
    dsimp only
    rw [nR_2_2 Lz.kd Lz.rd, Option.bind_some, nc_7 Lz.kd, c_size_7 Cz, Option.bind_some, if_neg (nI_nlt (by omega) (by omega))]
theorem m_written {h : pg_H} {A : Nat → Int32} (L : Lay h) (M : pg_i h 83 = A) (K : ShOK A) {s : Nat} (hs : s < 8) (h0 : 0 < nH A) : ∃ h', F_X12_written_27 pg_fuel 81 (nI s) 0 1 h = some (nI (bF A s (nH A - 1)), h') ∧ Ch [100, 101] [] h h' := by
  have kH : nH A < 13 := K.1.2.2.1.2
  have kE : A 1346 = nI (nH A) := K.1.2.2.1.1
  have e : nH A = nH A - 1 + 1 := by omega
  generalize hn : nH A - 1 = n at *
  refine loopI (fun f i z => F_X12_written_27 f 81 (nI s) (nI (bF A s i)) (nI (i + 1)) z) n (fun i z => Ch [100, 101] [] h z) (fun o => ∃ h', o = some (nI (bF A s n), h') ∧ Ch [100, 101] [] h h') ?_ ?_ 0 h (Nat.zero_le _) (Ch.refl _ _ _) pg_fuel (by unfold pg_fuel; omega)
  · intro f i z hi cz
    have Lz := cz.lay L (by decide)
    have Mz : pg_i z 83 = A := (cz.row (by decide)).trans M
    have bl := bF_lt A s i
    obtain ⟨x, w1, w2, w3, w4⟩ := m_likens Lz Mz K hs (show i + 1 < nH A by omega) (show bF A s i < nH A by omega)
    have Lx := w2.lay Lz (by decide)
    have f62 : ∀ v, F_X12_written_62 (F_X12_written_27 f) 81 (nI s) v (nI (i + 1)) x = F_X12_written_27 f 81 (nI s) v (nI (i + 1 + 1)) x := fun v => by
      unfold F_X12_written_62
      rw [nI_1]
    refine ⟨x, ?_, cz.trans w2⟩
    show F_X12_written_27 (f + 1) 81 (nI s) (nI (bF A s i)) (nI (i + 1)) z = F_X12_written_27 f 81 (nI s) (nI (if One A s (bF A s i) (i + 1) < One A s (i + 1) (bF A s i) then i + 1 else bF A s i)) (nI (i + 1 + 1)) x
    rw [F_X12_written_27]
    dsimp only
    rw [nR_81_3 Lz.kd Lz.rd, Option.bind_some, m_k_1346 Lz Mz, kE, Option.bind_some, if_pos (nI_lt (by omega) (by omega)), nc_81 Lz.kd, w1, Option.bind_some, nR_81_34 Lx.kd Lx.rd, Option.bind_some, nR_81_35 Lx.kd Lx.rd, Option.bind_some, m_order (Or.inl rfl) (Or.inr (Or.inl rfl)) Lx w3 w4, Option.bind_some, f62, f62]
    generalize One A s (i + 1) (bF A s i) = v at *
    generalize One A s (bF A s i) (i + 1) = w at *
    by_cases q : w < v
    · rw [if_neg (show ¬ v = w by omega), if_neg (show ¬ v < w by omega), if_pos (by decide), if_pos q]
    · rw [if_neg q]
      by_cases q2 : v = w
      · rw [if_pos q2, if_neg (by decide)]
      · rw [if_neg q2, if_pos (show v < w by omega), if_neg (by decide)]
  · intro f z cz
    have Lz := cz.lay L (by decide)
    have Mz : pg_i z 83 = A := (cz.row (by decide)).trans M
    refine ⟨z, ?_, cz⟩
    show F_X12_written_27 (f + 1) 81 (nI s) (nI (bF A s n)) (nI (n + 1)) z = _
    rw [F_X12_written_27]
    dsimp only
    rw [nR_81_3 Lz.kd Lz.rd, Option.bind_some, m_k_1346 Lz Mz, kE, Option.bind_some, if_neg (nI_nlt (by omega) (by omega))]
theorem sim_written : Sim_written Inv := by
  intro x1 q h hq I
  show SimB q h (F_X11_written 1 x1) (F_X12_written 81 x1)
  have L := I.1
  have D := L.kd
  have R := L.rd
  obtain ⟨C, K⟩ := I.sh
  have kH : nH (pg_i h 83) < 13 := K.1.2.2.1.2
  have kE : pg_i h 83 1346 = nI (nH (pg_i h 83)) := K.1.2.2.1.1
  have s8 : (0 ≤ x1 ∧ x1 < nI 8) ↔ (0 ≤ x1 ∧ x1 ≤ 7) := by
    have t8 : (nI 8).toInt = 8 := by decide
    have t7 : (7 : Int32).toInt = 7 := by decide
    rw [Int32.lt_iff_toInt_lt, Int32.le_iff_toInt_le (y := 7), t8, t7]
    constructor
    · exact fun z => ⟨z.1, by omega⟩
    · exact fun z => ⟨z.1, by omega⟩
  by_cases c1 : 0 ≤ x1 ∧ x1 < nI 8
  · by_cases n0 : nH (pg_i h 83) = 0
    · refine SimB.none I (-1) ?_ ?_
      · unfold F_X11_written
        simp only [k_si, k_sl, k_sr, r_si, r_sl, i_sl, i_sr, l_si, l_sr, Option.bind_some, if_true, if_false, bind_eta2, if_bb, decide_eq_true_eq, pg_let, nR_1_0, nR_2_2, nR_2_3, nc_7, nc_9, D, R, c_holds_9 C, c_size_7 C, if_pos c1, if_pos (show nI (nH (pg_i h 83)) = 0 by rw [n0]; rfl)]
      · unfold F_X12_written
        simp only [k_si, k_sl, k_sr, r_si, r_sl, i_sl, i_sr, l_si, l_sr, Option.bind_some, if_true, if_false, bind_eta2, if_bb, decide_eq_true_eq, pg_let, lies_le, nR_81_3, D, R, if_pos (s8.mp c1), m_k_1346 L rfl, if_pos (show pg_i h 83 1346 = 0 by rw [kE, n0]; rfl)]
    · obtain ⟨s, hs, rfl⟩ := in_nI c1 (by decide)
      have ne : ¬ nI (nH (pg_i h 83)) = 0 := fun z => n0 ((nI_eq (b := 0) (by omega) (by decide)).mp z)
      obtain ⟨y, y1, y2⟩ := c_likeliest L C K hs (by omega)
      have Ly := y2.lay L (by decide)
      have My : pg_i y 83 = pg_i h 83 := y2.row (by decide)
      obtain ⟨z, z1, z2⟩ := m_written Ly My K hs (by omega)
      have all : Ch [69, 71, 100, 101] [(68, 1), (70, 1)] h z := (y2.mono (by decide)).trans (z2.mono (by decide))
      refine ⟨nI (bF (pg_i h 83) s (nH (pg_i h 83) - 1)), y, z, ?_, Ly, ?_, I.same all (by decide) (by decide), all.few⟩
      · unfold F_X11_written
        simp only [k_si, k_sl, k_sr, r_si, r_sl, i_sl, i_sr, l_si, l_sr, Option.bind_some, if_true, if_false, bind_eta2, if_bb, decide_eq_true_eq, pg_let, nR_1_0, nR_1_8, nR_2_2, nR_2_3, nc_7, nc_9, nc_67, D, R, c_holds_9 C, c_size_7 C, if_pos c1, if_neg ne, y1]
      · unfold F_X12_written
        rw [lies_le, Option.bind_some, if_bb, if_pos (decide_eq_true (s8.mp c1)), nR_81_3 Ly.kd Ly.rd, Option.bind_some, m_k_1346 Ly My, kE, Option.bind_some, if_neg ne]
        exact z1
  · refine SimB.none I (-1) ?_ ?_
    · unfold F_X11_written
      simp only [k_si, k_sl, k_sr, r_si, r_sl, i_sl, i_sr, l_si, l_sr, Option.bind_some, if_true, if_false, bind_eta2, if_bb, decide_eq_true_eq, pg_let, nR_1_0, nR_2_3, nc_9, D, R, c_holds_9 C, if_neg c1]
    · unfold F_X12_written
      simp only [k_si, k_sl, k_sr, r_si, r_sl, i_sl, i_sr, l_si, l_sr, Option.bind_some, if_true, if_false, bind_eta2, if_bb, decide_eq_true_eq, pg_let, lies_le, if_neg (fun z => c1 (s8.mpr z))]
