/-! TEXTS: which word a stretch of bytes is, plain; both sides look it up so -/
def wOff (q : Nat) : Nat := [0, 7, 13, 19, 26, 31, 36, 43, 46, 49, 53, 57, 63, 71, 79, 86, 91, 96, 101, 107, 114].getD q 0
def wLen (q : Nat) : Nat := wOff (q + 1) - wOff q - 1
def jB (k : Nat) : Nat := (pg_bJ.getD k 0).toNatClampNeg
theorem w_jb : ∀ k, k < 114 → pg_bJ.getD k 0 = nI (jB k) ∧ jB k < 128 := by decide +kernel
theorem w_off : ∀ q, q < 20 → wOff (q + 1) = wOff q + wLen q + 1 ∧ wOff q + wLen q < 114 ∧ jB (wOff q + wLen q) = 32 := by decide +kernel
theorem w_nsp : ∀ q, q < 20 → ∀ k, k < wLen q → jB (wOff q + k) ≠ 32 := by decide +kernel
theorem w_sat {k : Nat} (hk : k < 114) : pg_sat (pg_lim + 3) (nI k) = some (nI (jB k)) := by
  unfold pg_sat
  rw [if_pos ⟨rfl, nI_in hk (by decide)⟩, nI_clamp (by omega), (w_jb k hk).1]
def wPm (b : Nat → Nat) (p e q k : Nat) : Bool := decide (∀ j, j < k → p + j < e ∧ b (p + j) = jB (wOff q + j))
def wMt (b : Nat → Nat) (p e q : Nat) : Bool := decide (e = p + wLen q) && wPm b p e q (wLen q)
def wF (b : Nat → Nat) (p e : Nat) : Nat → Nat → Nat
  | 0, q => q
  | f + 1, q => if wMt b p e q = true then q else wF b p e f (q + 1)
theorem wPm_0 (b : Nat → Nat) (p e q : Nat) : wPm b p e q 0 = true := decide_eq_true (fun j hj => absurd hj (Nat.not_lt_zero j))
theorem wPm_S (b : Nat → Nat) (p e q k : Nat) : wPm b p e q (k + 1) = (wPm b p e q k && decide (p + k < e ∧ b (p + k) = jB (wOff q + k))) := by
  unfold wPm
  rw [← Bool.decide_and]
  refine decide_eq_decide.mpr ⟨fun z => ⟨fun j hj => z j (by omega), z k (by omega)⟩, fun z j hj => ?_⟩
  by_cases c : j = k
  · rw [c]
    exact z.2
  · exact z.1 j (by omega)
theorem wF_S (b : Nat → Nat) (p e f q : Nat) : wF b p e (f + 1) q = if wMt b p e q = true then q else wF b p e f (q + 1) := rfl
/-- what comes out is a word that fits, or none -/
theorem wF_ok (b : Nat → Nat) (p e : Nat) (f : Nat) : ∀ q, wF b p e f q ≤ q + f ∧ (wF b p e f q < q + f → wMt b p e (wF b p e f q) = true) := by
  induction f with
  | zero => exact fun q => ⟨Nat.le_refl _, fun z => absurd z (Nat.lt_irrefl _)⟩
  | succ f ih =>
    intro q
    rw [wF_S]
    by_cases c : wMt b p e q = true
    · rw [if_pos c]
      exact ⟨by omega, fun _ => c⟩
    · rw [if_neg c]
      have z := ih (q + 1)
      exact ⟨by omega, fun y => z.2 (by omega)⟩
section WORDS
variable {h : pg_H} {n p e : Nat} {b : Nat → Nat}
/-! the class: one way over all letters -/
theorem cw_step (L : Lay h) (hT : TapeAt h n b) (h3 : pg_i h 45 3 = nI p) (h4 : pg_i h 45 4 = nI e) (he : e ≤ n) (hn : n ≤ 400) (hb : ∀ k, k < n → b k < 256) (hp : p ≤ e) {q k : Nat} (hq : q < 20) (hk : k < wLen q) (N : Nat) :
    F_X3_wordNumber_9 h (N + 1) 45 (nI q) (nI k) (b01 (wPm b p e q k)) (nI (wOff q + k)) = F_X3_wordNumber_9 h N 45 (nI q) (nI (k + 1)) (b01 (wPm b p e q (k + 1))) (nI (wOff q + (k + 1))) := by
  have l1 := (w_off q hq).2.1
  have D := L.kd
  have sp := w_nsp q hq k hk
  have j1 := (w_jb (wOff q + k) (by omega)).2
  rw [F_X3_wordNumber_9]
  dsimp only [pg_let]
  unfold F_X3_wordNumber_88 F_X3_wordNumber_89 F_X3_wordNumber_122
  rw [show pg_slen (pg_lim + 3) = some (nI 114) from if_pos rfl, Option.bind_some, if_pos (nI_lt (show wOff q + k < 114 by omega) (by decide)), w_sat (by omega), Option.bind_some, if_neg (show ¬ nI (jB (wOff q + k)) = (32 : Int32) from fun z => sp ((nI_eq (b := 32) (by omega) (by decide)).mp z)), ng_45 D, h3, Option.bind_some, nI_1, nI_1, wPm_S]
  cases hpm : wPm b p e q k with
  | false =>
    rw [if_pos (show b01 false = 0 by decide), Bool.false_and]
    rfl
  | true =>
    rw [if_neg (show ¬ b01 true = 0 by decide), nI_add, if_neg (nI_pos (by omega)), ng_45 D, h4, Option.bind_some, Bool.true_and]
    by_cases c : p + k < e
    · rw [if_pos (nI_lt c (by omega)), if_pos (show nI (p + k) < (400 : Int32) from nI_lt (b := 400) (by omega) (by decide)), nR_45_1 D L.rd, Option.bind_some, nR_43_0 D L.rd, Option.bind_some, na_44 D (by omega), Option.bind_some, hT.2 _ (by omega)]
      have b1 := hb (p + k) (by omega)
      by_cases c2 : b (p + k) = jB (wOff q + k)
      · rw [if_pos (congrArg nI c2), decide_eq_true ⟨c, c2⟩]
        rfl
      · rw [if_neg (fun z => c2 ((nI_eq (by omega) (by omega)).mp z)), decide_eq_false (fun z => c2 z.2)]
        rfl
    · rw [if_neg (nI_nlt (by omega) (by omega)), decide_eq_false (fun z => c z.1)]
      rfl
theorem cw_run (L : Lay h) (hT : TapeAt h n b) (h3 : pg_i h 45 3 = nI p) (h4 : pg_i h 45 4 = nI e) (he : e ≤ n) (hn : n ≤ 400) (hb : ∀ k, k < n → b k < 256) (hp : p ≤ e) {q : Nat} (hq : q < 20) (k : Nat) : ∀ N, k ≤ wLen q →
    F_X3_wordNumber_9 h (N + k) 45 (nI q) (nI 0) (b01 (wPm b p e q 0)) (nI (wOff q + 0)) = F_X3_wordNumber_9 h N 45 (nI q) (nI k) (b01 (wPm b p e q k)) (nI (wOff q + k)) := by
  induction k with
  | zero => exact fun N _ => rfl
  | succ k ih =>
    intro N hk
    rw [show N + (k + 1) = (N + 1) + k by omega, ih (N + 1) (by omega), cw_step L hT h3 h4 he hn hb hp hq (by omega)]
theorem cw_word (L : Lay h) (hT : TapeAt h n b) (h3 : pg_i h 45 3 = nI p) (h4 : pg_i h 45 4 = nI e) (he : e ≤ n) (hn : n ≤ 400) (hb : ∀ k, k < n → b k < 256) (hp : p ≤ e) {q : Nat} (hq : q < 20) (N : Nat) :
    F_X3_wordNumber_9 h (N + 1 + wLen q) 45 (nI q) (nI 0) 1 (nI (wOff q)) = if wMt b p e q = true then some (nI q) else F_X3_wordNumber_9 h N 45 (nI (q + 1)) (nI 0) 1 (nI (wOff (q + 1))) := by
  obtain ⟨l0, l1, l2⟩ := w_off q hq
  have D := L.kd
  have z := cw_run L hT h3 h4 he hn hb hp hq (wLen q) (N + 1) (Nat.le_refl _)
  rw [wPm_0] at z
  refine Eq.trans z ?_
  rw [F_X3_wordNumber_9]
  dsimp only [pg_let]
  unfold F_X3_wordNumber_115 F_X3_wordNumber_122
  rw [show pg_slen (pg_lim + 3) = some (nI 114) from if_pos rfl, Option.bind_some, if_pos (nI_lt (show wOff q + wLen q < 114 by omega) (by decide)), w_sat (by omega), Option.bind_some, l2, if_pos (show nI 32 = (32 : Int32) from rfl), nI_1, nI_1, ← l0]
  unfold wMt
  cases hpm : wPm b p e q (wLen q) with
  | false =>
    rw [if_pos (show b01 false = 0 by decide), Bool.and_false, if_neg (show ¬ false = true by decide)]
    rfl
  | true =>
    rw [if_neg (show ¬ b01 true = 0 by decide), ng_45 D, h3, Option.bind_some, ng_45 D, h4, Option.bind_some, Bool.and_true, nI_add]
    by_cases c : e = p + wLen q
    · rw [if_pos (congrArg nI c.symm), decide_eq_true c, if_pos rfl]
    · rw [if_neg (fun z => c ((nI_eq (by omega) (by omega)).mp z).symm), decide_eq_false c, if_neg (show ¬ false = true by decide)]
      rfl
theorem cw_all (L : Lay h) (hT : TapeAt h n b) (h3 : pg_i h 45 3 = nI p) (h4 : pg_i h 45 4 = nI e) (he : e ≤ n) (hn : n ≤ 400) (hb : ∀ k, k < n → b k < 256) (hp : p ≤ e) (f : Nat) : ∀ q N, q + f = 20 → 114 < N + wOff q →
    F_X3_wordNumber_9 h N 45 (nI q) (nI 0) 1 (nI (wOff q)) = some (nI (wF b p e f q)) := by
  induction f with
  | zero =>
    intro q N hq hN
    obtain rfl : q = 20 := by omega
    have e20 : wOff 20 = 114 := rfl
    obtain ⟨N', rfl⟩ : ∃ N', N = N' + 1 := ⟨N - 1, by omega⟩
    rw [F_X3_wordNumber_9]
    dsimp only
    rw [show pg_slen (pg_lim + 3) = some (nI 114) from if_pos rfl, Option.bind_some, e20, if_neg Int32.lt_irrefl]
    rfl
  | succ f ih =>
    intro q N hq hN
    obtain ⟨l0, l1, l2⟩ := w_off q (by omega)
    obtain ⟨N', rfl⟩ : ∃ N', N = N' + 1 + wLen q := ⟨N - 1 - wLen q, by omega⟩
    rw [cw_word L hT h3 h4 he hn hb hp (by omega), wF_S]
    by_cases c : wMt b p e q = true
    · rw [if_pos c, if_pos c]
    · rw [if_neg c, if_neg c]
      exact ih (q + 1) N' (by omega) (by omega)
theorem c_word (L : Lay h) (hT : TapeAt h n b) (h3 : pg_i h 45 3 = nI p) (h4 : pg_i h 45 4 = nI e) (he : e ≤ n) (hn : n ≤ 400) (hb : ∀ k, k < n → b k < 256) (hp : p ≤ e) : F_X3_wordNumber h 45 = some (nI (wF b p e 20 0)) := by
  unfold F_X3_wordNumber
  exact cw_all L hT h3 h4 he hn hb hp 20 0 pg_fuel rfl (by unfold pg_fuel; decide)
/-! the reference: word by word -/
def TapeM (h : pg_H) (n : Nat) (b : Nat → Nat) : Prop := ∀ k, k < n → pg_i h 87 k = (nI (b k)).toInt8.toInt32
theorem sb_and : ∀ v, v < 256 → (nI v).toInt8.toInt32 &&& (255 : Int32) = nI v := by decide +kernel
theorem sb_low : ∀ v, v < 128 → (nI v).toInt8.toInt32 = nI v := by decide +kernel
theorem sb_eq {v c : Nat} (hv : v < 256) (hc : c < 128) : (nI v).toInt8.toInt32 = nI c ↔ v = c := by
  refine ⟨fun z => ?_, fun z => by rw [z]; exact sb_low c hc⟩
  have a := sb_and v hv
  rw [z, ← sb_low c hc, sb_and c (by omega)] at a
  exact ((nI_eq (by omega) (by omega)).mp a).symm
theorem nI_minus {a c : Nat} (hac : c ≤ a) : nI a - nI c = nI (a - c) := by
  have z : nI a = nI (a - c) + nI c := by rw [nI_add, Nat.sub_add_cancel hac]
  rw [z, Int32.add_sub_cancel]
theorem mw_18 (L : Lay h) (k5 : Nat → Int32 → Int32 → Int32 → Int32 → Option Int32) (a1 a2 a3 : Int32) {q : Nat} (hq : q < 20) (d : Nat) : ∀ k N, k + d = wLen q → d < N →
    F_X12_wordOf_18 h k5 N 81 a1 a2 a3 (nI (wOff q)) (nI k) = F_X12_wordOf_52 h k5 81 a1 a2 a3 (nI (wOff q)) (nI (wLen q)) (b01 (decide (nI (wLen q) = a2 - a1))) := by
  obtain ⟨l0, l1, l2⟩ := w_off q hq
  have D := L.kd
  have W : ∀ k, k < 114 → pg_i h 86 k = nI (jB k) := fun k hk => by rw [L.2.2.2.2 k hk, (w_jb k hk).1]
  induction d with
  | zero =>
    intro k N hk hN
    obtain ⟨N', rfl⟩ : ∃ N', N = N' + 1 := ⟨N - 1, by omega⟩
    obtain rfl : k = wLen q := by omega
    rw [F_X12_wordOf_18]
    dsimp only
    rw [nR_81_7 D L.rd, Option.bind_some, nI_add, na_86 D (by omega), Option.bind_some, W _ (by omega), l2, if_pos (show nI 32 = (32 : Int32) from rfl)]
    by_cases c : nI (wLen q) = a2 - a1
    · rw [if_pos c, decide_eq_true c]
      rfl
    · rw [if_neg c, decide_eq_false c]
      rfl
  | succ d ih =>
    intro k N hk hN
    obtain ⟨N', rfl⟩ : ∃ N', N = N' + 1 := ⟨N - 1, by omega⟩
    have sp := w_nsp q hq k (by omega)
    have j1 := (w_jb (wOff q + k) (by omega)).2
    rw [F_X12_wordOf_18]
    dsimp only
    rw [nR_81_7 D L.rd, Option.bind_some, nI_add, na_86 D (by omega), Option.bind_some, W _ (by omega), if_neg (show ¬ nI (jB (wOff q + k)) = (32 : Int32) from fun z => sp ((nI_eq (b := 32) (by omega) (by decide)).mp z)), nI_1]
    exact ih (k + 1) N' (by omega) (by omega)
theorem mw_57 (L : Lay h) (hT : TapeM h n b) (hn : n ≤ 400) (hb : ∀ k, k < n → b k < 256) (k5 : Nat → Int32 → Int32 → Int32 → Int32 → Option Int32) (a2 a3 : Int32) {q : Nat} (hq : q < 20) (hp : p + wLen q ≤ n) (d : Nat) : ∀ i N, i + d = wLen q → d < N → wPm b p (p + wLen q) q i = true →
    F_X12_wordOf_57 h k5 N 81 (nI p) a2 a3 (nI (wOff q)) (nI (wLen q)) 1 (nI i) = F_X12_wordOf_104 h k5 81 (nI p) a2 a3 (nI (wOff q)) (nI (wLen q)) (b01 (wPm b p (p + wLen q) q (wLen q))) := by
  obtain ⟨l0, l1, l2⟩ := w_off q hq
  have D := L.kd
  have W : ∀ k, k < 114 → pg_i h 86 k = nI (jB k) := fun k hk => by rw [L.2.2.2.2 k hk, (w_jb k hk).1]
  induction d with
  | zero =>
    intro i N hi hN hm
    obtain ⟨N', rfl⟩ : ∃ N', N = N' + 1 := ⟨N - 1, by omega⟩
    obtain rfl : i = wLen q := by omega
    rw [F_X12_wordOf_57]
    dsimp only
    rw [if_neg Int32.lt_irrefl, hm]
    rfl
  | succ d ih =>
    intro i N hi hN hm
    obtain ⟨N', rfl⟩ : ∃ N', N = N' + 1 := ⟨N - 1, by omega⟩
    have j1 := (w_jb (wOff q + i) (by omega)).2
    have b1 := hb (p + i) (by omega)
    rw [F_X12_wordOf_57]
    dsimp only
    unfold F_X12_wordOf_96
    rw [if_pos (nI_lt (by omega) (by omega)), if_neg (show ¬ (1 : Int32) = 0 by decide), nR_81_7 D L.rd, Option.bind_some, nI_add, na_86 D (by omega), Option.bind_some, W _ (by omega), nR_81_8 D L.rd, Option.bind_some, nI_add, na_87 D (by omega), Option.bind_some, hT _ (by omega), nI_1]
    by_cases c : b (p + i) = jB (wOff q + i)
    · rw [if_pos ((sb_eq b1 j1).mpr c).symm]
      exact ih (i + 1) N' (by omega) (by omega) (by rw [wPm_S, hm, decide_eq_true ⟨by omega, c⟩]; rfl)
    · rw [if_neg (fun z => c ((sb_eq b1 j1).mp z.symm))]
      have F : wPm b p (p + wLen q) q (wLen q) = false := decide_eq_false (fun z => c (z i (by omega)).2)
      rw [F]
      obtain ⟨N'', rfl⟩ : ∃ N'', N' = N'' + 1 := ⟨N' - 1, by omega⟩
      rw [F_X12_wordOf_57]
      dsimp only
      by_cases c2 : i + 1 = wLen q
      · rw [c2, if_neg Int32.lt_irrefl]
        rfl
      · rw [if_pos (nI_lt (by omega) (by omega)), if_pos rfl]
        rfl
def wR (x : Nat) : Nat := if x = 20 then 0 else x + 1
theorem mw_all (L : Lay h) (hT : TapeM h n b) (hn : n ≤ 400) (hb : ∀ k, k < n → b k < 256) (hp : p ≤ e) (he : e ≤ n) (f : Nat) : ∀ q N, q + f = 20 → f < N →
    F_X12_wordOf_5 h N 81 (nI p) (nI e) (nI (q + 1)) (nI (wOff q)) = some (nI (wR (wF b p e f q))) := by
  have D := L.kd
  induction f with
  | zero =>
    intro q N hq hN
    obtain rfl : q = 20 := by omega
    have e20 : wOff 20 = 114 := rfl
    obtain ⟨N', rfl⟩ : ∃ N', N = N' + 1 := ⟨N - 1, by omega⟩
    rw [F_X12_wordOf_5]
    dsimp only
    rw [nR_81_7 D L.rd, Option.bind_some, nl_86 D, Option.bind_some, e20, if_neg Int32.lt_irrefl]
    rfl
  | succ f ih =>
    intro q N hq hN
    obtain ⟨l0, l1, l2⟩ := w_off q (by omega)
    obtain ⟨N', rfl⟩ : ∃ N', N = N' + 1 := ⟨N - 1, by omega⟩
    rw [F_X12_wordOf_5]
    dsimp only
    rw [nR_81_7 D L.rd, Option.bind_some, nl_86 D, Option.bind_some, if_pos (nI_lt (by omega) (by decide)), show (0 : Int32) = nI 0 from rfl, mw_18 L _ _ _ _ (by omega) (wLen q) 0 pg_fuel (by omega) (by unfold pg_fuel; omega), nI_minus hp, wF_S]
    unfold F_X12_wordOf_52 wMt
    have Z : ∀ s : Bool, F_X12_wordOf_104 h (F_X12_wordOf_5 h N') 81 (nI p) (nI e) (nI (q + 1)) (nI (wOff q)) (nI (wLen q)) (b01 s) = if s = true then some (nI (q + 1)) else F_X12_wordOf_5 h N' 81 (nI p) (nI e) (nI (q + 1 + 1)) (nI (wOff (q + 1))) := fun s => by
      unfold F_X12_wordOf_104
      dsimp only [pg_let]
      rw [nI_1, nI_1, nI_add, ← Nat.add_assoc, ← l0]
      cases s <;> rfl
    by_cases c : e = p + wLen q
    · rw [decide_eq_true (show nI (wLen q) = nI (e - p) by rw [c, Nat.add_sub_cancel_left]), decide_eq_true c, Bool.true_and, c]
      have z := mw_57 (p := p) L hT hn hb (F_X12_wordOf_5 h N') (nI (p + wLen q)) (nI (q + 1)) (q := q) (by omega) (by omega) (wLen q) 0 pg_fuel (by omega) (by unfold pg_fuel; omega) (wPm_0 _ _ _ _)
      refine Eq.trans z ?_
      rw [c] at Z
      rw [Z]
      by_cases m : wPm b p (p + wLen q) q (wLen q) = true
      · rw [if_pos m, if_pos m]
        unfold wR
        rw [if_neg (by omega)]
      · rw [if_neg m, if_neg m]
        rw [c] at ih
        exact ih (q + 1) N' (by omega) (by omega)
    · rw [decide_eq_false (fun z => c (by have := (nI_eq (by omega) (by omega)).mp z; omega)), decide_eq_false c, Bool.false_and, if_neg (show ¬ false = true by decide)]
      obtain ⟨F, hF⟩ := fuel_S
      rw [hF, F_X12_wordOf_57]
      dsimp only
      have Zf := Z false
      rw [if_neg (show ¬ false = true by decide)] at Zf
      by_cases c2 : wLen q = 0
      · rw [c2, if_neg (show ¬ (0 : Int32) < nI 0 by decide)]
        rw [c2] at Zf
        refine Eq.trans Zf ?_
        exact ih (q + 1) N' (by omega) (by omega)
      · rw [if_pos (show (0 : Int32) < nI (wLen q) from nI_lt (a := 0) (by omega) (by omega)), if_pos (show b01 false = 0 by decide)]
        refine Eq.trans Zf ?_
        exact ih (q + 1) N' (by omega) (by omega)
theorem m_word (L : Lay h) (hT : TapeM h n b) (hn : n ≤ 400) (hb : ∀ k, k < n → b k < 256) (hp : p ≤ e) (he : e ≤ n) : F_X12_wordOf h 81 (nI p) (nI e) = some (nI (wR (wF b p e 20 0))) := by
  unfold F_X12_wordOf
  exact mw_all L hT hn hb hp he 20 0 pg_fuel rfl (by unfold pg_fuel; decide)
end WORDS
