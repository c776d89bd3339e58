/-! TEXTS: the reference splits the bytes into the same tokens -/
section SPLIT
variable {n : Nat} {b : Nat → Nat}
theorem m_256 : ∀ v, v < 256 → F_X12_isSmall (nI v).toInt8.toInt32 = some (b01 (Lt_ v)) ∧ F_X12_isDigit (nI v).toInt8.toInt32 = some (b01 (Dg_ v)) := by decide +kernel
theorem m_43 (hn : n ≤ 400) (hb : ∀ k, k < n → b k < 256) (k7 : Nat → Int32 → Int32 → pg_H → Option pg_H) (a2 a3 : Int32) {y : pg_H} (L : Lay y) (hT : TapeM y n b) (d : Nat) : ∀ i N, n - i = d → i ≤ n → d < N →
    F_X12_splits_43 k7 N 81 (nI n) a2 a3 (nI i) y = F_X12_splits_68 k7 81 (nI n) a2 a3 (nI (farN b n Lt_ i)) y := by
  induction d with
  | zero =>
    intro i N hd hi hN
    obtain ⟨N', rfl⟩ : ∃ N', N = N' + 1 := ⟨N - 1, by omega⟩
    rw [F_X12_splits_43]
    dsimp only
    rw [if_neg (nI_nlt (by omega) (by omega)), farN_n (by omega)]
  | succ d ih =>
    intro i N hd hi hN
    obtain ⟨N', rfl⟩ : ∃ N', N = N' + 1 := ⟨N - 1, by omega⟩
    rw [F_X12_splits_43]
    dsimp only
    rw [if_pos (nI_lt (by omega) (by omega)), nR_81_8 L.kd L.rd, Option.bind_some, na_87 L.kd (by omega), Option.bind_some, hT i (by omega), (m_256 _ (hb i (by omega))).1, Option.bind_some, farN_S (by omega)]
    cases c : Lt_ (b i) with
    | true =>
      rw [if_neg (show ¬ b01 true = 0 by decide), nI_1, if_pos rfl]
      exact ih (i + 1) N' (by omega) (by omega) (by omega)
    | false =>
      rw [if_pos (show b01 false = 0 by decide), if_neg (show ¬ false = true by decide)]
theorem m_75 (hn : n ≤ 400) (hb : ∀ k, k < n → b k < 256) (k7 : Nat → Int32 → Int32 → pg_H → Option pg_H) (a2 a3 : Int32) {y : pg_H} (L : Lay y) (hT : TapeM y n b) (d : Nat) : ∀ i N, n - i = d → i ≤ n → d < N →
    F_X12_splits_75 k7 N 81 (nI n) a2 a3 (nI i) y = F_X12_splits_100 k7 81 (nI n) a2 a3 (nI (farN b n Dg_ i)) y := by
  induction d with
  | zero =>
    intro i N hd hi hN
    obtain ⟨N', rfl⟩ : ∃ N', N = N' + 1 := ⟨N - 1, by omega⟩
    rw [F_X12_splits_75]
    dsimp only
    rw [if_neg (nI_nlt (by omega) (by omega)), farN_n (by omega)]
  | succ d ih =>
    intro i N hd hi hN
    obtain ⟨N', rfl⟩ : ∃ N', N = N' + 1 := ⟨N - 1, by omega⟩
    rw [F_X12_splits_75]
    dsimp only
    rw [if_pos (nI_lt (by omega) (by omega)), nR_81_8 L.kd L.rd, Option.bind_some, na_87 L.kd (by omega), Option.bind_some, hT i (by omega), (m_256 _ (hb i (by omega))).2, Option.bind_some, farN_S (by omega)]
    cases c : Dg_ (b i) with
    | true =>
      rw [if_neg (show ¬ b01 true = 0 by decide), nI_1, if_pos rfl]
      exact ih (i + 1) N' (by omega) (by omega) (by omega)
    | false =>
      rw [if_pos (show b01 false = 0 by decide), if_neg (show ¬ false = true by decide)]
theorem TapeM.ch {S : List Nat} {T : List (Nat × Nat)} {x x' : pg_H} (h : TapeM x n b) (c : Ch S T x x') (d : dis S T [87] [] = true) : TapeM x' n b := by
  unfold TapeM
  rw [(c.rowM d (r := 87) (by simp)).1]
  exact h
/-- a number's value -/
theorem m_169 (hn : n ≤ 400) (k7 : Nat → Int32 → Int32 → pg_H → Option pg_H) {v : Nat} (hv : v < 256) (hD : Dg_ v = true) {e t : Nat} (he : e ≤ n) (ht : t ≤ 400) (d : Nat) : ∀ i N w y, i + d = e → d < N → w < 100000000 → (∀ k, i ≤ k → k < e → Dg_ (b k) = true) → Lay y → TapeM y n b → pg_i y 81 15 = nI t → pg_i y 90 t = nI w →
    ∃ y', F_X12_splits_169 k7 N 81 (nI n) (nI v).toInt8.toInt32 (nI e) (nI i) y = F_X12_splits_247 k7 81 (nI n) (nI e) y' ∧ Ch [90] [] y y' ∧ pg_i y' 90 t = nI (rvF b d i w) ∧ ∀ k, k ≠ t → pg_i y' 90 k = pg_i y 90 k := by
  induction d with
  | zero =>
    intro i N w y hi hN hw hd L hT h15 h90
    obtain ⟨N', rfl⟩ : ∃ N', N = N' + 1 := ⟨N - 1, by omega⟩
    obtain rfl : i = e := by omega
    refine ⟨y, ?_, Ch.refl _ _ _, h90, fun _ _ => rfl⟩
    rw [F_X12_splits_169]
    dsimp only
    rw [if_neg Int32.lt_irrefl]
  | succ d ih =>
    intro i N w y hi hN hw hd L hT h15 h90
    obtain ⟨N', rfl⟩ : ∃ N', N = N' + 1 := ⟨N - 1, by omega⟩
    have dg := of_decide_eq_true (hd i (Nat.le_refl _) (by omega))
    have St : ∀ w', w' < 100000000 → w' = (if 1000000 < w then w else 10 * w + b i - 48) → ∃ y', F_X12_splits_240 (F_X12_splits_169 k7 N') 81 (nI n) (nI v).toInt8.toInt32 (nI e) (nI i) (nI w') (nI t) 90 y = F_X12_splits_247 k7 81 (nI n) (nI e) y' ∧ Ch [90] [] y y' ∧ pg_i y' 90 t = nI (rvF b (d + 1) i w) ∧ ∀ k, k ≠ t → pg_i y' 90 k = pg_i y 90 k := fun w' hw' ew => by
      have c1 : Ch [90] [] y (pg_si y 90 t (nI w')) := (Ch.refl _ _ _).asi (Or.inl (by decide))
      obtain ⟨y', e1, c2, z1, z2⟩ := ih (i + 1) N' w' (pg_si y 90 t (nI w')) (by omega) (by omega) hw' (fun k k1 k2 => hd k (by omega) k2) (c1.lay L (by decide)) (hT.ch c1 (by decide)) (by rw [si_ne (by decide)]; exact h15) (by rw [si_row, up1_eq])
      refine ⟨y', ?_, c1.trans c2, ?_, fun k hk => ?_⟩
      · unfold F_X12_splits_240
        rw [ns_90 L.kd (by omega), Option.bind_some, nI_1]
        exact e1
      · rw [z1, ew]
        rfl
      · rw [z2 k hk, si_row, up1_ne hk]
    rw [F_X12_splits_169]
    dsimp only
    rw [if_pos (nI_lt (by omega) (by omega)), (m_256 v hv).2, Option.bind_some, hD, if_neg (show ¬ b01 true = 0 by decide), nR_81_13 L.kd L.rd, Option.bind_some, ng_81 L.kd, h15, Option.bind_some, Option.bind_some, Option.bind_some, na_90 L.kd (by omega), Option.bind_some, h90]
    by_cases c : 1000000 < w
    · rw [if_pos (show (1000000 : Int32) < nI w from nI_lt (a := 1000000) c (by omega)), Option.bind_some, Option.bind_some, na_90 L.kd (show t < 401 by omega), Option.bind_some, h90]
      exact St w hw (by rw [if_pos c])
    · rw [if_neg (show ¬ (1000000 : Int32) < nI w from nI_nlt (a := 1000000) (by omega) (by decide)), Option.bind_some, Option.bind_some, na_90 L.kd (show t < 401 by omega), Option.bind_some, h90, nR_81_8 L.kd L.rd, Option.bind_some, na_87 L.kd (by omega), Option.bind_some, hT i (by omega), sb_low (b i) (by omega)]
      rw [show ((10 : Int32) * nI w + nI (b i)) - (48 : Int32) = nI (10 * w + b i - 48) by rw [show (10 : Int32) = nI 10 from rfl, show (48 : Int32) = nI 48 from rfl, nI_mul, nI_add, nI_minus (by omega)]]
      exact St _ (by omega) (by rw [if_neg c])
/-- a token -/
theorem m_token (hn : n ≤ 400) (hb : ∀ k, k < n → b k < 256) (N : Nat) {p t : Nat} (hp : p < n) (h32 : b p ≠ 32) (ht : t ≤ 400) {y : pg_H} (L : Lay y) (hT : TapeM y n b) (h15 : pg_i y 81 15 = nI t) :
    ∃ y', F_X12_splits_7 (N + 1) 81 (nI n) (nI p) y = F_X12_splits_7 N 81 (nI n) (nI (fin_ b n p)) y' ∧ Ch [89, 90, 91] [(81, 15)] y y' ∧ pg_i y' 81 15 = nI (t + 1) ∧ pg_i y' 89 = up1 (pg_i y 89) t (nI (rcT b n p)) ∧ pg_i y' 91 = up1 (pg_i y 91) t (nI p) ∧ pg_i y' 90 t = nI (rvT b n p) ∧ ∀ k, k ≠ t → pg_i y' 90 k = pg_i y 90 k := by
  have b1 := hb p hp
  have fl := fin_lt (b := b) hp
  have A : F_X12_splits_7 (N + 1) 81 (nI n) (nI p) y = F_X12_splits_100 (F_X12_splits_7 N) 81 (nI n) (nI p) (nI (b p)).toInt8.toInt32 (nI (fin_ b n p)) y := by
    rw [F_X12_splits_7]
    dsimp only [pg_let]
    rw [if_pos (nI_lt hp (by omega)), nR_81_8 L.kd L.rd, Option.bind_some, na_87 L.kd (by omega), Option.bind_some, hT p hp, if_neg (show ¬ (nI (b p)).toInt8.toInt32 = (32 : Int32) from fun z => h32 ((sb_eq (c := 32) b1 (by decide)).mp z)), (m_256 _ b1).1, Option.bind_some, nI_1]
    cases cL : Lt_ (b p) with
    | true =>
      rw [if_neg (show ¬ b01 true = 0 by decide), m_43 hn hb _ _ _ L hT (n - (p + 1)) (p + 1) pg_fuel rfl hp (by unfold pg_fuel; omega)]
      unfold F_X12_splits_68
      rw [(m_256 _ b1).2, Option.bind_some, LD_ cL, if_pos (show b01 false = 0 by decide)]
      unfold fin_
      rw [if_pos hp, if_pos cL]
    | false =>
      rw [if_pos (show b01 false = 0 by decide)]
      unfold F_X12_splits_68
      rw [(m_256 _ b1).2, Option.bind_some]
      cases cD : Dg_ (b p) with
      | true =>
        rw [if_neg (show ¬ b01 true = 0 by decide), m_75 hn hb _ _ _ L hT (n - (p + 1)) (p + 1) pg_fuel rfl hp (by unfold pg_fuel; omega)]
        unfold fin_
        rw [if_pos hp, if_neg (by rw [cL]; decide), if_pos cD]
      | false =>
        rw [if_pos (show b01 false = 0 by decide)]
        unfold fin_
        rw [if_pos hp, if_neg (by rw [cL]; decide), if_neg (by rw [cD]; decide)]
  rw [A]
  have c1 : Ch [89, 90, 91] [] y (pg_si y 91 t (nI p)) := (Ch.refl _ _ _).asi (Or.inl (by decide))
  have c2 : Ch [89, 90, 91] [] y (pg_si (pg_si y 91 t (nI p)) 90 t 0) := c1.asi (Or.inl (by decide))
  have L1 := c1.lay L (by decide)
  have L2 := c2.lay L (by decide)
  have T2 := hT.ch c2 (by decide)
  have h15a : pg_i (pg_si y 91 t (nI p)) 81 15 = nI t := by rw [c1.atM (R := []) (F := [(81, 15)]) (by decide) (by decide)]; exact h15
  have h15b : pg_i (pg_si (pg_si y 91 t (nI p)) 90 t 0) 81 15 = nI t := by rw [c2.atM (R := []) (F := [(81, 15)]) (by decide) (by decide)]; exact h15
  have c3 : Ch [89, 90, 91] [] y (pg_si (pg_si (pg_si y 91 t (nI p)) 90 t 0) 89 t (nI (rcT b n p))) := c2.asi (Or.inl (by decide))
  have L3 := c3.lay L (by decide)
  have T3 := hT.ch c3 (by decide)
  have h15c : pg_i (pg_si (pg_si (pg_si y 91 t (nI p)) 90 t 0) 89 t (nI (rcT b n p))) 81 15 = nI t := by rw [c3.atM (R := []) (F := [(81, 15)]) (by decide) (by decide)]; exact h15
  have f89 : pg_i (pg_si (pg_si (pg_si y 91 t (nI p)) 90 t 0) 89 t (nI (rcT b n p))) 89 = up1 (pg_i y 89) t (nI (rcT b n p)) := by rw [si_row, si_ne (by decide), si_ne (by decide)]
  have f91 : pg_i (pg_si (pg_si (pg_si y 91 t (nI p)) 90 t 0) 89 t (nI (rcT b n p))) 91 = up1 (pg_i y 91) t (nI p) := by rw [si_ne (by decide), si_ne (by decide), si_row]
  have f90 : pg_i (pg_si (pg_si (pg_si y 91 t (nI p)) 90 t 0) 89 t (nI (rcT b n p))) 90 = up1 (pg_i y 90) t 0 := by rw [si_ne (by decide), si_row, si_ne (by decide)]
  -- behind the code
  have B : ∃ y', F_X12_splits_165 (F_X12_splits_7 N) 81 (nI n) (nI p) (nI (b p)).toInt8.toInt32 (nI (fin_ b n p)) (nI (rcT b n p)) (nI t) 89 (pg_si (pg_si y 91 t (nI p)) 90 t 0) = F_X12_splits_7 N 81 (nI n) (nI (fin_ b n p)) y' ∧ Ch [89, 90, 91] [(81, 15)] y y' ∧ pg_i y' 81 15 = nI (t + 1) ∧ pg_i y' 89 = up1 (pg_i y 89) t (nI (rcT b n p)) ∧ pg_i y' 91 = up1 (pg_i y 91) t (nI p) ∧ pg_i y' 90 t = nI (rvT b n p) ∧ ∀ k, k ≠ t → pg_i y' 90 k = pg_i y 90 k := by
    unfold F_X12_splits_165
    rw [ns_89 L2.kd (by omega), Option.bind_some]
    generalize pg_si (pg_si (pg_si y 91 t (nI p)) 90 t 0) 89 t (nI (rcT b n p)) = g at *
    have Z : ∀ g', Ch [90] [] g g' → F_X12_splits_169 (F_X12_splits_7 N) pg_fuel 81 (nI n) (nI (b p)).toInt8.toInt32 (nI (fin_ b n p)) (nI p) g = F_X12_splits_247 (F_X12_splits_7 N) 81 (nI n) (nI (fin_ b n p)) g' → pg_i g' 90 t = nI (rvT b n p) → (∀ k, k ≠ t → pg_i g' 90 k = pg_i g 90 k) →
        ∃ y', F_X12_splits_169 (F_X12_splits_7 N) pg_fuel 81 (nI n) (nI (b p)).toInt8.toInt32 (nI (fin_ b n p)) (nI p) g = F_X12_splits_7 N 81 (nI n) (nI (fin_ b n p)) y' ∧ Ch [89, 90, 91] [(81, 15)] y y' ∧ pg_i y' 81 15 = nI (t + 1) ∧ pg_i y' 89 = up1 (pg_i y 89) t (nI (rcT b n p)) ∧ pg_i y' 91 = up1 (pg_i y 91) t (nI p) ∧ pg_i y' 90 t = nI (rvT b n p) ∧ ∀ k, k ≠ t → pg_i y' 90 k = pg_i y 90 k := fun g' cg eg v1 v2 => by
      have Lg := cg.lay L3 (by decide)
      have c5 : Ch [89, 90, 91] [(81, 15)] y (pg_si g' 81 15 (nI (t + 1))) := ((c3.mono (by decide)).trans (cg.mono (by decide))).asi (Or.inr (by decide))
      refine ⟨pg_si g' 81 15 (nI (t + 1)), ?_, c5, by rw [si_row, up1_eq], ?_, ?_, ?_, fun k hk => ?_⟩
      · rw [eg]
        unfold F_X12_splits_247
        rw [ng_81 Lg.kd, cg.atM (R := []) (F := [(81, 15)]) (by decide) (r := 81) (k := 15) (by decide), h15c, Option.bind_some, nI_1, np_81 Lg.kd, Option.bind_some]
      · rw [si_ne (by decide), cg.row (r := 89) (by decide), f89]
      · rw [si_ne (by decide), cg.row (r := 91) (by decide), f91]
      · rw [si_ne (by decide), v1]
      · rw [si_ne (by decide), v2 k hk, f90, up1_ne hk]
    cases cD : Dg_ (b p) with
    | true =>
      have farX := farN_le b n Dg_ _ p rfl (by omega)
      rw [← fin_D hp cD] at farX
      obtain ⟨g', e1, cg, z1, z2⟩ := m_169 (b := b) hn (F_X12_splits_7 N) b1 cD (e := fin_ b n p) (t := t) fl.2 ht (fin_ b n p - p) p pg_fuel 0 g (by omega) (by unfold pg_fuel; omega) (by omega) (fun k k1 k2 => farX.2.2.2 k k1 k2) L3 T3 h15c (by rw [f90, up1_eq]; rfl)
      refine Z g' cg e1 ?_ z2
      rw [z1]
      unfold rvT
      rw [if_pos ⟨hp, cD⟩]
    | false =>
      refine Z g (Ch.refl _ _ _) ?_ ?_ (fun _ _ => rfl)
      · obtain ⟨F, hF⟩ := fuel_S
        rw [hF, F_X12_splits_169]
        dsimp only
        rw [if_pos (nI_lt fl.1 (by omega)), (m_256 _ b1).2, Option.bind_some, cD, if_pos (show b01 false = 0 by decide)]
      · rw [f90, up1_eq]
        unfold rvT
        rw [if_neg (fun z => by rw [cD] at z; exact absurd z.2 (by decide))]
        rfl
  unfold F_X12_splits_100
  rw [nR_81_14 L.kd L.rd, Option.bind_some, ng_81 L.kd, h15, Option.bind_some, ns_91 L.kd (by omega), Option.bind_some, nR_81_13 L1.kd L1.rd, Option.bind_some, ng_81 L1.kd, h15a, Option.bind_some, ns_90 L1.kd (by omega), Option.bind_some, nR_81_12 L2.kd L2.rd, Option.bind_some, ng_81 L2.kd, h15b, Option.bind_some, (m_256 _ b1).1, Option.bind_some]
  cases cL : Lt_ (b p) with
  | true =>
    rw [if_neg (show ¬ b01 true = 0 by decide), nc_81 L2.kd, m_word L2 T2 hn hb (by omega) fl.2, Option.bind_some]
    have rc : rcT b n p = wR (wF b p (fin_ b n p) 20 0) := by
      unfold rcT
      rw [if_pos hp, if_pos cL]
    rw [← rc]
    exact B
  | false =>
    rw [if_pos (show b01 false = 0 by decide), (m_256 _ b1).2, Option.bind_some]
    cases cD : Dg_ (b p) with
    | true =>
      rw [if_neg (show ¬ b01 true = 0 by decide)]
      have rc : rcT b n p = 50 := by
        unfold rcT
        rw [if_pos hp, if_neg (by rw [cL]; decide), if_pos cD]
      rw [show (50 : Int32) = nI (rcT b n p) by rw [rc]; rfl]
      exact B
    | false =>
      rw [if_pos (show b01 false = 0 by decide)]
      have rc : rcT b n p = 100 + b p := by
        unfold rcT
        rw [if_pos hp, if_neg (by rw [cL]; decide), if_neg (by rw [cD]; decide)]
      rw [sb_and _ b1, show (100 : Int32) + nI (b p) = nI (rcT b n p) by rw [rc, ← nI_add]; rfl]
      exact B
/-- spaces -/
theorem m_space (hn : n ≤ 400) (hb : ∀ k, k < n → b k < 256) {y : pg_H} (L : Lay y) (hT : TapeM y n b) (d : Nat) : ∀ i N, n - i = d → i ≤ n → d < N →
    ∃ N', F_X12_splits_7 N 81 (nI n) (nI i) y = F_X12_splits_7 (N' + 1) 81 (nI n) (nI (farN b n Sp_ i)) y ∧ n < N' + 1 + farN b n Sp_ i := by
  induction d with
  | zero =>
    intro i N hd hi hN
    obtain ⟨N', rfl⟩ : ∃ N', N = N' + 1 := ⟨N - 1, by omega⟩
    rw [farN_n (by omega)]
    exact ⟨N', rfl, by omega⟩
  | succ d ih =>
    intro i N hd hi hN
    obtain ⟨N', rfl⟩ : ∃ N', N = N' + 1 := ⟨N - 1, by omega⟩
    rw [farN_S (by omega)]
    by_cases c : b i = 32
    · rw [if_pos (show Sp_ (b i) = true from decide_eq_true c)]
      obtain ⟨N2, e, h⟩ := ih (i + 1) N' (by omega) (by omega) (by omega)
      refine ⟨N2, ?_, h⟩
      rw [← e, F_X12_splits_7]
      dsimp only [pg_let]
      rw [if_pos (nI_lt (by omega) (by omega)), nR_81_8 L.kd L.rd, Option.bind_some, na_87 L.kd (by omega), Option.bind_some, hT i (by omega), if_pos (show (nI (b i)).toInt8.toInt32 = (32 : Int32) from (sb_eq (c := 32) (hb i (by omega)) (by decide)).mpr c), nI_1]
    · rw [if_neg (show ¬ Sp_ (b i) = true from fun z => c (of_decide_eq_true z))]
      exact ⟨N', rfl, by omega⟩
end SPLIT
