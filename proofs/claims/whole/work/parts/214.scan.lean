/-! TEXTS: the tokens of bytes, plain; the class goes on from token to token -/
def Lt_ (v : Nat) : Bool := decide (97 ≤ v ∧ v ≤ 122)
def Dg_ (v : Nat) : Bool := decide (48 ≤ v ∧ v ≤ 57)
def Sp_ (v : Nat) : Bool := decide (v = 32)
def farG (b : Nat → Nat) (p : Nat → Bool) : Nat → Nat → Nat
  | 0, i => i
  | f + 1, i => if p (b i) = true then farG b p f (i + 1) else i
/-- from i on, as farG as p holds -/
def farN (b : Nat → Nat) (n : Nat) (p : Nat → Bool) (i : Nat) : Nat := farG b p (n - i) i
theorem farN_S {b : Nat → Nat} {n : Nat} {p : Nat → Bool} {i : Nat} (hi : i < n) : farN b n p i = if p (b i) = true then farN b n p (i + 1) else i := by
  unfold farN
  rw [show n - i = (n - (i + 1)) + 1 by omega]
  rfl
theorem farN_n {b : Nat → Nat} {n : Nat} {p : Nat → Bool} {i : Nat} (hi : n ≤ i) : farN b n p i = i := by
  unfold farN
  rw [show n - i = 0 by omega]
  rfl
theorem farN_le (b : Nat → Nat) (n : Nat) (p : Nat → Bool) (d : Nat) : ∀ i, n - i = d → i ≤ n → i ≤ farN b n p i ∧ farN b n p i ≤ n ∧ (farN b n p i < n → p (b (farN b n p i)) = false) ∧ ∀ k, i ≤ k → k < farN b n p i → p (b k) = true := by
  induction d with
  | zero =>
    intro i hd hi
    rw [farN_n (by omega)]
    exact ⟨Nat.le_refl _, hi, fun z => by omega, fun k h1 h2 => by omega⟩
  | succ d ih =>
    intro i hd hi
    rw [farN_S (by omega)]
    cases c : p (b i) with
    | false =>
      rw [if_neg (show ¬ false = true by decide)]
      exact ⟨Nat.le_refl _, hi, fun _ => c, fun k h1 h2 => by omega⟩
    | true =>
      rw [if_pos rfl]
      obtain ⟨h1, h2, h3, h4⟩ := ih (i + 1) (by omega) (by omega)
      refine ⟨by omega, h2, h3, fun k k1 k2 => ?_⟩
      by_cases e : k = i
      · rw [e]; exact c
      · exact h4 k (by omega) k2
/-- where the token at i ends -/
def fin_ (b : Nat → Nat) (n i : Nat) : Nat := if i < n then (if Lt_ (b i) = true then farN b n Lt_ (i + 1) else if Dg_ (b i) = true then farN b n Dg_ (i + 1) else i + 1) else i
def cdT (b : Nat → Nat) (n i : Nat) : Nat := if i < n then (if Lt_ (b i) = true then wF b i (fin_ b n i) 20 0 else if Dg_ (b i) = true then 21 else 100 + b i) else 22
def rcT (b : Nat → Nat) (n i : Nat) : Nat := if i < n then (if Lt_ (b i) = true then wR (wF b i (fin_ b n i) 20 0) else if Dg_ (b i) = true then 50 else 100 + b i) else 0
def cvF (b : Nat → Nat) : Nat → Nat → Nat → Nat
  | 0, _, v => v
  | f + 1, i, v => cvF b f (i + 1) (min (v * 10 + b i - 48) 1001)
def rvF (b : Nat → Nat) : Nat → Nat → Nat → Nat
  | 0, _, v => v
  | f + 1, i, v => rvF b f (i + 1) (if 1000000 < v then v else 10 * v + b i - 48)
def cvT (b : Nat → Nat) (n i : Nat) : Nat := cvF b (fin_ b n i - i) i 0
def rvT (b : Nat → Nat) (n i : Nat) : Nat := if i < n ∧ Dg_ (b i) = true then rvF b (fin_ b n i - i) i 0 else 0
theorem fin_lt {b : Nat → Nat} {n i : Nat} (hi : i < n) : i < fin_ b n i ∧ fin_ b n i ≤ n := by
  unfold fin_
  rw [if_pos hi]
  have a1 := farN_le b n Lt_ _ (i + 1) rfl hi
  have a2 := farN_le b n Dg_ _ (i + 1) rfl hi
  split
  · omega
  · split <;> omega
theorem fin_le {b : Nat → Nat} {n i : Nat} (hi : i ≤ n) : i ≤ fin_ b n i ∧ fin_ b n i ≤ n := by
  by_cases c : i < n
  · have := fin_lt (b := b) c
    omega
  · unfold fin_
    rw [if_neg c]
    omega
theorem fin_L {b : Nat → Nat} {n i : Nat} (hi : i < n) (hL : Lt_ (b i) = true) : fin_ b n i = farN b n Lt_ i := by
  unfold fin_
  rw [if_pos hi, if_pos hL, farN_S hi, if_pos hL]
theorem LD_ {v : Nat} (h : Lt_ v = true) : Dg_ v = false := by
  unfold Lt_ at h
  unfold Dg_
  have := of_decide_eq_true h
  exact decide_eq_false (by omega)
theorem fin_D {b : Nat → Nat} {n i : Nat} (hi : i < n) (hD : Dg_ (b i) = true) : fin_ b n i = farN b n Dg_ i := by
  unfold fin_
  rw [if_pos hi, if_neg (fun z => by rw [LD_ z] at hD; cases hD), if_pos hD, farN_S hi, if_pos hD]
def VR (v w : Nat) : Prop := (v ≤ 1000 ↔ w ≤ 1000) ∧ (v ≤ 1000 → v = w) ∧ v ≤ 1001 ∧ w < 100000000
theorem VR_run (b : Nat → Nat) (f : Nat) : ∀ i v w, VR v w → (∀ k, i ≤ k → k < i + f → Dg_ (b k) = true) → VR (cvF b f i v) (rvF b f i w) := by
  induction f with
  | zero => exact fun i v w h _ => h
  | succ f ih =>
    intro i v w h hd
    have d := of_decide_eq_true (hd i (Nat.le_refl _) (by omega))
    refine ih (i + 1) _ _ ?_ (fun k k1 k2 => hd k (by omega) (by omega))
    unfold VR at h ⊢
    by_cases c : 1000000 < w
    · rw [if_pos c]
      omega
    · rw [if_neg c]
      omega
section SCAN
variable {n : Nat} {b : Nat → Nat}
theorem l_256 : ∀ v, v < 256 → F_X3_isLetter (nI v) = some (b01 (Lt_ v)) ∧ F_X3_isDigit (nI v) = some (b01 (Dg_ v)) := by decide +kernel
theorem c_byte {x : pg_H} (L : Lay x) (hT : TapeAt x n b) (hn : n ≤ 400) {i : Nat} (hi : i < n) : F_X8_byteAt x 43 (nI i) = some (nI (b i)) := by
  unfold F_X8_byteAt
  rw [if_neg (nI_pos (by omega)), ng_43 L.kd, hT.1, Option.bind_some, if_pos (nI_lt hi (by omega)), if_pos (show nI i < (400 : Int32) from nI_lt (b := 400) (by omega) (by decide)), nR_43_0 L.kd L.rd, Option.bind_some, na_44 L.kd (by omega), Option.bind_some, hT.2 i hi]
theorem TapeAt.ch {S : List Nat} {T : List (Nat × Nat)} {x x' : pg_H} (h : TapeAt x n b) (c : Ch S T x x') (d : dis S T [44] [(43, 1)] = true) : TapeAt x' n b := by
  unfold TapeAt
  rw [c.atM d (r := 43) (k := 1) (by simp), (c.rowM d (r := 44) (by simp)).1]
  exact h
/-- spaces -/
theorem c_16 (hn : n ≤ 400) (hb : ∀ k, k < n → b k < 256) (d : Nat) : ∀ i N x, n - i = d → i ≤ n → d < N → Lay x → TapeAt x n b → pg_i x 45 3 = nI i →
    ∃ x', F_X3_advance_16 N 45 (nI n) x = F_X3_advance_53 45 (nI n) x' ∧ Ch [] [(45, 3)] x x' ∧ pg_i x' 45 3 = nI (farN b n Sp_ i) := by
  induction d with
  | zero =>
    intro i N x hd hi hN L hT h3
    obtain ⟨N', rfl⟩ : ∃ N', N = N' + 1 := ⟨N - 1, by omega⟩
    refine ⟨x, ?_, Ch.refl _ _ _, by rw [farN_n (by omega)]; exact h3⟩
    rw [F_X3_advance_16]
    dsimp only
    rw [ng_45 L.kd, h3, Option.bind_some, if_neg (nI_nlt (by omega) (by omega))]
  | succ d ih =>
    intro i N x hd hi hN L hT h3
    obtain ⟨N', rfl⟩ : ∃ N', N = N' + 1 := ⟨N - 1, by omega⟩
    rw [F_X3_advance_16]
    dsimp only
    have b1 := hb i (by omega)
    rw [ng_45 L.kd, h3, Option.bind_some, if_pos (nI_lt (by omega) (by omega)), nR_45_1 L.kd L.rd, Option.bind_some, Option.bind_some, nc_43 L.kd, c_byte L hT hn (by omega), Option.bind_some, farN_S (by omega)]
    by_cases c : b i = 32
    · have c1 : Ch [] [(45, 3)] x (pg_si x 45 3 (nI (i + 1))) := (Ch.refl _ _ _).asi (Or.inr (by decide))
      rw [if_pos (show nI (b i) = (32 : Int32) by rw [c]; rfl), Option.bind_some, nI_1, np_45 L.kd, Option.bind_some, if_pos (show Sp_ (b i) = true from decide_eq_true c)]
      obtain ⟨x', e, c2, h⟩ := ih (i + 1) N' _ (by omega) (by omega) (by omega) (c1.lay L (by decide)) (hT.ch c1 (by decide)) (by rw [si_row, up1_eq])
      exact ⟨x', e, c1.trans c2, h⟩
    · rw [if_neg (show ¬ nI (b i) = (32 : Int32) from fun z => c ((nI_eq (b := 32) (by omega) (by decide)).mp z)), if_neg (show ¬ Sp_ (b i) = true from fun z => c (of_decide_eq_true z))]
      exact ⟨x, rfl, Ch.refl _ _ _, h3⟩
/-- letters -/
theorem c_95L (hn : n ≤ 400) (hb : ∀ k, k < n → b k < 256) (d : Nat) : ∀ i N x, n - i = d → i ≤ n → d < N → Lay x → TapeAt x n b → pg_i x 45 4 = nI i →
    ∃ x', F_X3_advance_95 N 45 (nI n) x = F_X3_advance_133 45 x' ∧ Ch [] [(45, 4)] x x' ∧ pg_i x' 45 4 = nI (farN b n Lt_ i) := by
  induction d with
  | zero =>
    intro i N x hd hi hN L hT h3
    obtain ⟨N', rfl⟩ : ∃ N', N = N' + 1 := ⟨N - 1, by omega⟩
    refine ⟨x, ?_, Ch.refl _ _ _, by rw [farN_n (by omega)]; exact h3⟩
    rw [F_X3_advance_95]
    dsimp only
    rw [ng_45 L.kd, h3, Option.bind_some, if_neg (nI_nlt (by omega) (by omega))]
  | succ d ih =>
    intro i N x hd hi hN L hT h3
    obtain ⟨N', rfl⟩ : ∃ N', N = N' + 1 := ⟨N - 1, by omega⟩
    rw [F_X3_advance_95]
    dsimp only
    have b1 := hb i (by omega)
    rw [ng_45 L.kd, h3, Option.bind_some, if_pos (nI_lt (by omega) (by omega)), nR_45_1 L.kd L.rd, Option.bind_some, Option.bind_some, nc_43 L.kd, c_byte L hT hn (by omega), Option.bind_some, (l_256 _ b1).1, Option.bind_some, farN_S (by omega)]
    cases c : Lt_ (b i) with
    | true =>
      have c1 : Ch [] [(45, 4)] x (pg_si x 45 4 (nI (i + 1))) := (Ch.refl _ _ _).asi (Or.inr (by decide))
      rw [if_neg (show ¬ b01 true = 0 by decide), Option.bind_some, nI_1, np_45 L.kd, Option.bind_some, if_pos rfl]
      obtain ⟨x', e, c2, h⟩ := ih (i + 1) N' _ (by omega) (by omega) (by omega) (c1.lay L (by decide)) (hT.ch c1 (by decide)) (by rw [si_row, up1_eq])
      exact ⟨x', e, c1.trans c2, h⟩
    | false =>
      rw [if_pos (show b01 false = 0 by decide), if_neg (show ¬ false = true by decide)]
      exact ⟨x, rfl, Ch.refl _ _ _, h3⟩
/-- digits -/
theorem c_162d (hn : n ≤ 400) (hb : ∀ k, k < n → b k < 256) (d : Nat) : ∀ i N x v, n - i = d → i ≤ n → d < N → v ≤ 1001 → Lay x → TapeAt x n b → pg_i x 45 4 = nI i → pg_i x 45 6 = nI v →
    ∃ x', F_X3_advance_162 N 45 (nI n) x = some x' ∧ Ch [] [(45, 4), (45, 6)] x x' ∧ pg_i x' 45 4 = nI (farN b n Dg_ i) ∧ pg_i x' 45 6 = nI (cvF b (farN b n Dg_ i - i) i v) := by
  induction d with
  | zero =>
    intro i N x v hd hi hN hv L hT h3 h6
    obtain ⟨N', rfl⟩ : ∃ N', N = N' + 1 := ⟨N - 1, by omega⟩
    refine ⟨x, ?_, Ch.refl _ _ _, by rw [farN_n (by omega)]; exact h3, by rw [farN_n (by omega), Nat.sub_self]; exact h6⟩
    rw [F_X3_advance_162]
    dsimp only
    rw [ng_45 L.kd, h3, Option.bind_some, if_neg (nI_nlt (by omega) (by omega))]
  | succ d ih =>
    intro i N x v hd hi hN hv L hT h3 h6
    obtain ⟨N', rfl⟩ : ∃ N', N = N' + 1 := ⟨N - 1, by omega⟩
    rw [F_X3_advance_162]
    dsimp only
    have b1 := hb i (by omega)
    rw [ng_45 L.kd, h3, Option.bind_some, if_pos (nI_lt (by omega) (by omega)), nR_45_1 L.kd L.rd, Option.bind_some, Option.bind_some, nc_43 L.kd, c_byte L hT hn (by omega), Option.bind_some, (l_256 _ b1).2, Option.bind_some, farN_S (by omega)]
    cases c : Dg_ (b i) with
    | true =>
      have dg := of_decide_eq_true c
      have fl := farN_le b n Dg_ _ (i + 1) rfl (by omega)
      have c1 : Ch [] [(45, 4), (45, 6)] x (pg_si x 45 6 (nI (min (v * 10 + b i - 48) 1001))) := (Ch.refl _ _ _).asi (Or.inr (by decide))
      have L1 := c1.lay L (by decide)
      have c2 : Ch [] [(45, 4), (45, 6)] x (pg_si (pg_si x 45 6 (nI (min (v * 10 + b i - 48) 1001))) 45 4 (nI (i + 1))) := c1.asi (Or.inr (by decide))
      have ev : ((nI v * (10 : Int32)) + nI (b i)) - (48 : Int32) = nI (v * 10 + b i - 48) := by
        rw [show (10 : Int32) = nI 10 from rfl, show (48 : Int32) = nI 48 from rfl, nI_mul, nI_add, nI_minus (by omega)]
      have e4 : pg_i (pg_si x 45 6 (nI (min (v * 10 + b i - 48) 1001))) 45 4 = nI i := by rw [si_row, up1_ne (by decide)]; exact h3
      rw [if_neg (show ¬ b01 true = 0 by decide), ng_45 L.kd, h6, Option.bind_some, Option.bind_some, Option.bind_some, nc_43 L.kd, c_byte L hT hn (show i < n by omega), Option.bind_some, ev, show (1001 : Int32) = nI 1001 from rfl, nI_min (by omega) (by decide), np_45 L.kd, Option.bind_some, ng_45 L1.kd, e4, Option.bind_some, nI_1, np_45 L1.kd, Option.bind_some, if_pos rfl]
      obtain ⟨x', e, c3, h, h'⟩ := ih (i + 1) N' _ (min (v * 10 + b i - 48) 1001) (by omega) (by omega) (by omega) (by omega) (c2.lay L (by decide)) (hT.ch c2 (by decide)) (by rw [si_row, up1_eq]) (by rw [si_row, up1_ne (by decide), si_row, up1_eq])
      refine ⟨x', e, c2.trans c3, h, ?_⟩
      rw [show farN b n Dg_ (i + 1) - i = (farN b n Dg_ (i + 1) - (i + 1)) + 1 by omega]
      exact h'
    | false =>
      rw [if_pos (show b01 false = 0 by decide), if_neg (show ¬ false = true by decide), Nat.sub_self]
      exact ⟨x, rfl, Ch.refl _ _ _, h3, h6⟩
/-- the class goes on to the next token -/
theorem c_advance (hn : n ≤ 400) (hb : ∀ k, k < n → b k < 256) {x : pg_H} {s : Nat} (L : Lay x) (hT : TapeAt x n b) (hs : s ≤ n) (h4 : pg_i x 45 4 = nI s) :
    ∃ x', F_X3_advance 45 x = some x' ∧ Ch [] [(45, 3), (45, 4), (45, 5), (45, 6)] x x' ∧ pg_i x' 45 3 = nI (farN b n Sp_ s) ∧ pg_i x' 45 4 = nI (fin_ b n (farN b n Sp_ s)) ∧ pg_i x' 45 5 = nI (cdT b n (farN b n Sp_ s)) ∧ (cdT b n (farN b n Sp_ s) = 21 → pg_i x' 45 6 = nI (cvT b n (farN b n Sp_ s))) := by
  have c0 : Ch [] [(45, 3)] x (pg_si x 45 3 (nI s)) := (Ch.refl _ _ _).asi (Or.inr (by decide))
  have L0 := c0.lay L (by decide)
  obtain ⟨x1, e1, c1, h3⟩ := c_16 hn hb (n - s) s pg_fuel (pg_si x 45 3 (nI s)) rfl hs (by unfold pg_fuel; omega) L0 (hT.ch c0 (by decide)) (by rw [si_row, up1_eq])
  obtain ⟨p1, p2, p3, _⟩ := farN_le b n Sp_ _ s rfl hs
  generalize farN b n Sp_ s = p at *
  have E : F_X3_advance 45 x = F_X3_advance_53 45 (nI n) x1 := by
    rw [← e1]
    unfold F_X3_advance F_X8_size
    rw [nR_45_1 L.kd L.rd, Option.bind_some, nc_43 L.kd, ng_43 L.kd, hT.1, Option.bind_some, Option.bind_some, ng_45 L.kd, h4, Option.bind_some, np_45 L.kd, Option.bind_some]
  rw [E]
  have c01 := c0.trans c1
  have L1 := c01.lay L (by decide)
  have T1 := hT.ch c01 (by decide)
  have c2 : Ch [] [(45, 4)] x1 (pg_si x1 45 4 (nI p)) := (Ch.refl _ _ _).asi (Or.inr (by decide))
  have L2 := c2.lay L1 (by decide)
  have T2 := T1.ch c2 (by decide)
  have c02 : Ch [] [(45, 3), (45, 4), (45, 5), (45, 6)] x (pg_si x1 45 4 (nI p)) := (c01.mono (by decide)).trans (c2.mono (by decide))
  have g3 : pg_i (pg_si x1 45 4 (nI p)) 45 3 = nI p := by rw [si_row, up1_ne (by decide)]; exact h3
  have g4 : pg_i (pg_si x1 45 4 (nI p)) 45 4 = nI p := by rw [si_row, up1_eq]
  unfold F_X3_advance_53
  rw [ng_45 L1.kd, h3, Option.bind_some, np_45 L1.kd, Option.bind_some]
  generalize pg_si x1 45 4 (nI p) = x2 at *
  rw [ng_45 L2.kd, g3, Option.bind_some]
  by_cases c : p < n
  · have b1 := hb p c
    rw [if_pos (nI_lt c (by omega)), nR_45_1 L2.kd L2.rd, Option.bind_some, Option.bind_some, nc_43 L2.kd, c_byte L2 T2 hn c, Option.bind_some, (l_256 _ b1).1, Option.bind_some]
    cases cL : Lt_ (b p) with
    | true =>
      rw [if_neg (show ¬ b01 true = 0 by decide)]
      obtain ⟨x3, e3, c3, h⟩ := c_95L hn hb (n - p) p pg_fuel x2 rfl p2 (by unfold pg_fuel; omega) L2 T2 g4
      rw [e3]
      have L3 := c3.lay L2 (by decide)
      have T3 := T2.ch c3 (by decide)
      have k3 : pg_i x3 45 3 = nI p := by rw [c3.atM (R := []) (F := [(45, 3)]) (by decide) (by decide)]; exact g3
      rw [← fin_L c cL] at h
      have fl := fin_lt (b := b) c
      have c4 : Ch [] [(45, 5)] x3 (pg_si x3 45 5 (nI (cdT b n p))) := (Ch.refl _ _ _).asi (Or.inr (by decide))
      have cd : cdT b n p = wF b p (fin_ b n p) 20 0 := by
        unfold cdT
        rw [if_pos c, if_pos cL]
      refine ⟨pg_si x3 45 5 (nI (cdT b n p)), ?_, (c02.trans (c3.mono (by decide))).trans (c4.mono (by decide)), ?_, ?_, ?_, fun z => ?_⟩
      · unfold F_X3_advance_133
        rw [nc_45 L3.kd, c_word L3 T3 k3 h fl.2 hn hb (by omega), Option.bind_some, np_45 L3.kd, Option.bind_some, cd]
      · rw [si_row, up1_ne (by decide)]; exact k3
      · rw [si_row, up1_ne (by decide)]; exact h
      · rw [si_row, up1_eq]
      · have := (wF_ok b p (fin_ b n p) 20 0).1
        omega
    | false =>
      rw [if_pos (show b01 false = 0 by decide), (l_256 _ b1).2, Option.bind_some]
      cases cD : Dg_ (b p) with
      | true =>
        rw [if_neg (show ¬ b01 true = 0 by decide)]
        have c3 : Ch [] [(45, 5), (45, 6)] x2 (pg_si x2 45 5 21) := (Ch.refl _ _ _).asi (Or.inr (by decide))
        have L3 := c3.lay L2 (by decide)
        have c4 : Ch [] [(45, 5), (45, 6)] x2 (pg_si (pg_si x2 45 5 21) 45 6 0) := c3.asi (Or.inr (by decide))
        have L4 := c4.lay L2 (by decide)
        rw [np_45 L2.kd, Option.bind_some, np_45 L3.kd, Option.bind_some]
        obtain ⟨x5, e5, c5, h, h'⟩ := c_162d hn hb (n - p) p pg_fuel (pg_si (pg_si x2 45 5 21) 45 6 0) 0 rfl p2 (by unfold pg_fuel; omega) (by omega) L4 (T2.ch c4 (by decide)) (by rw [si_row, up1_ne (by decide), si_row, up1_ne (by decide)]; exact g4) (by rw [si_row, up1_eq]; rfl)
        rw [← fin_D c cD] at h h'
        have cd : cdT b n p = 21 := by
          unfold cdT
          rw [if_pos c, if_neg (by rw [cL]; decide), if_pos cD]
        refine ⟨x5, e5, (c02.trans (c4.mono (by decide))).trans (c5.mono (by decide)), ?_, h, ?_, fun _ => h'⟩
        · rw [c5.atM (R := []) (F := [(45, 3)]) (by decide) (by decide), si_row, up1_ne (by decide), si_row, up1_ne (by decide)]; exact g3
        · rw [c5.atM (R := []) (F := [(45, 5)]) (by decide) (by decide), si_row, up1_ne (by decide), si_row, up1_eq, cd]
          rfl
      | false =>
        rw [if_pos (show b01 false = 0 by decide), Option.bind_some, nI_1, np_45 L2.kd, Option.bind_some]
        have c3 : Ch [] [(45, 4), (45, 5)] x2 (pg_si x2 45 4 (nI (p + 1))) := (Ch.refl _ _ _).asi (Or.inr (by decide))
        have L3 := c3.lay L2 (by decide)
        have c4 : Ch [] [(45, 4), (45, 5)] x2 (pg_si (pg_si x2 45 4 (nI (p + 1))) 45 5 (nI (cdT b n p))) := c3.asi (Or.inr (by decide))
        have cd : cdT b n p = 100 + b p := by
          unfold cdT
          rw [if_pos c, if_neg (by rw [cL]; decide), if_neg (by rw [cD]; decide)]
        have fn : fin_ b n p = p + 1 := by
          unfold fin_
          rw [if_pos c, if_neg (by rw [cL]; decide), if_neg (by rw [cD]; decide)]
        refine ⟨_, ?_, c02.trans (c4.mono (by decide)), ?_, ?_, ?_, fun z => ?_⟩
        · rw [np_45 L3.kd, Option.bind_some, cd, show (100 : Int32) + nI (b p) = nI (100 + b p) from nI_add 100 (b p)]
        · rw [si_row, up1_ne (by decide), si_row, up1_ne (by decide)]; exact g3
        · rw [si_row, up1_ne (by decide), si_row, up1_eq, fn]
        · rw [si_row, up1_eq]
        · omega
  · rw [if_neg (nI_nlt (by omega) (by omega)), np_45 L2.kd, Option.bind_some]
    have c3 : Ch [] [(45, 5)] x2 (pg_si x2 45 5 22) := (Ch.refl _ _ _).asi (Or.inr (by decide))
    have cd : cdT b n p = 22 := by
      unfold cdT
      rw [if_neg c]
    have fn : fin_ b n p = p := by
      unfold fin_
      rw [if_neg c]
    refine ⟨_, rfl, c02.trans (c3.mono (by decide)), ?_, ?_, ?_, fun z => ?_⟩
    · rw [si_row, up1_ne (by decide)]; exact g3
    · rw [si_row, up1_ne (by decide), fn]; exact g4
    · rw [si_row, up1_eq, cd]
      rfl
    · omega
end SCAN
