/-! net: the best pair, the class's side -/
def bp (A : Nat → Int32) (w : Nat → Nat → Nat) (c a b : Nat) (o : Option (Nat × Nat)) : Option (Nat × Nat) := if (compQ A c a && compQ A c b) = true then o.elim (some (a, b)) fun z => if frC A w a b c < frC A w z.1 z.2 c then some (a, b) else some z else o
def rB (A : Nat → Int32) (w : Nat → Nat → Nat) (c a i : Nat) (o : Option (Nat × Nat)) : Option (Nat × Nat) := foldN i (fun k o => if a < k then bp A w c a k o else o) o
def aB (A : Nat → Int32) (w : Nat → Nat → Nat) (c N i : Nat) : Option (Nat × Nat) := foldN i (fun a o => rB A w c a N o) none
theorem foldN_stop {σ : Type} {n m : Nat} {f : Nat → σ → σ} {s : σ} (h : n ≤ m) (k : ∀ i, n ≤ i → i < m → ∀ s, f i s = s) : foldN m f s = foldN n f s := by
  induction m with
  | zero =>
    have : n = 0 := by omega
    rw [this]
  | succ m ih =>
    by_cases e : n = m + 1
    · rw [e]
    · show f m (foldN m f s) = _
      rw [k m (by omega) (by omega), ih (by omega) (fun i h1 h2 => k i h1 (by omega))]
theorem rB_start {A : Nat → Int32} {w : Nat → Nat → Nat} {c a : Nat} {o : Option (Nat × Nat)} : rB A w c a (a + 1) o = o := foldN_stop (n := 0) (Nat.zero_le _) (fun i _ h s => if_neg (by omega))
theorem rB_succ {A : Nat → Int32} {w : Nat → Nat → Nat} {c a i : Nat} (h : a < i) (o : Option (Nat × Nat)) : rB A w c a (i + 1) o = bp A w c a i (rB A w c a i o) := if_pos h
theorem bp_no {A : Nat → Int32} {w : Nat → Nat → Nat} {c a b : Nat} (h : nC A ≤ a ∨ nC A ≤ b) (o : Option (Nat × Nat)) : bp A w c a b o = o := if_neg (fun z => by
  rw [Bool.and_eq_true] at z
  have := comp_lt z.1
  have := comp_lt z.2
  omega)
theorem rB_end {A : Nat → Int32} (K : ShOK A) {w : Nat → Nat → Nat} {c a : Nat} (o : Option (Nat × Nat)) : rB A w c a 12 o = rB A w c a (nC A) o := by
  have kC : nC A < 13 := K.1.1.2
  exact foldN_stop (by omega) (fun i h1 _ s => by
    by_cases q : a < i
    · rw [if_pos q, bp_no (Or.inr h1)]
    · rw [if_neg q])
theorem aB_end {A : Nat → Int32} (K : ShOK A) {w : Nat → Nat → Nat} {c : Nat} : aB A w c 12 12 = aB A w c (nC A) (nC A) := by
  have kC : nC A < 13 := K.1.1.2
  have e : (fun a o => rB A w c a 12 o) = fun a o => rB A w c a (nC A) o := funext fun a => funext fun o => rB_end K o
  unfold aB
  rw [e]
  refine foldN_stop (by omega) (fun a h1 _ s => ?_)
  refine foldN_stop (n := 0) (Nat.zero_le _) (fun i _ _ s => ?_)
  by_cases q : a < i
  · rw [if_pos q, bp_no (Or.inl h1)]
  · rw [if_neg q]
def okB (A : Nat → Int32) (o : Option (Nat × Nat)) : Prop := ∀ z, o = some z → z.1 < z.2 ∧ z.2 < nC A
theorem bp_ok {A : Nat → Int32} {w : Nat → Nat → Nat} {c a b : Nat} (h : a < b) {o : Option (Nat × Nat)} (k : okB A o) : okB A (bp A w c a b o) := by
  intro z hz
  unfold bp at hz
  by_cases q : (compQ A c a && compQ A c b) = true
  · rw [if_pos q] at hz
    rw [Bool.and_eq_true] at q
    have l := comp_lt q.2
    cases o with
    | none =>
      have hz : some (a, b) = some z := hz
      injection hz with hz
      rw [← hz]
      exact ⟨h, l⟩
    | some y =>
      have hz : (if frC A w a b c < frC A w y.1 y.2 c then some (a, b) else some y) = some z := hz
      split at hz
      · injection hz with hz
        rw [← hz]
        exact ⟨h, l⟩
      · exact k z hz
  · rw [if_neg q] at hz
    exact k z hz
def kP (o : Option (Nat × Nat)) : Int32 := o.elim 0 fun z => nI (mk 12 (pairE z.1 z.2))
def kC (A : Nat → Int32) (w : Nat → Nat → Nat) (c : Nat) (o : Option (Nat × Nat)) : Int32 := o.elim 0 fun z => nI (frC A w z.1 z.2 c)
theorem pair_mk {a b : Nat} (ha : a < 12) (hb : b < 12) : nI (2 ^ a) ||| nI (2 ^ b) = nI (mk 12 (pairE a b)) := by
  rw [mk_pow ha, mk_pow hb, ix_or, mk_or]
  rfl
theorem pair_no0 {a b : Nat} (ha : a < 12) : ¬ nI (mk 12 (pairE a b)) = (0 : Int32) := fun z => by
  have e := (nI_eq (b := 0) (Nat.lt_of_lt_of_le (mk_lt 12 _) (by decide)) (by decide)).mp z
  have t := mk_bit 12 (pairE a b) a
  rw [e, Nat.zero_testBit, decide_eq_true ha] at t
  unfold pairE at t
  rw [decide_eq_true (show a = a from rfl)] at t
  cases t
theorem pair_in {f : Nat → Bool} {a b : Nat} (ha : a < 12) (hb : b < 12) : (nI (mk 12 f) &&& nI (mk 12 (pairE a b)) = nI (mk 12 (pairE a b))) ↔ (f a && f b) = true := by
  have l := fun g => Nat.lt_of_lt_of_le (mk_lt 12 g) (show 2 ^ 12 ≤ 2 ^ 31 by decide)
  rw [ix_and, mk_and, nI_eq (l _) (l _)]
  constructor
  · intro z
    have t := fun i (hi : i < 12) => by
      have u : (mk 12 fun i => f i && pairE a b i).testBit i = (mk 12 (pairE a b)).testBit i := by rw [z]
      rw [mk_bit, mk_bit, decide_eq_true hi, Bool.true_and, Bool.true_and] at u
      exact u
    have ta := t a ha
    have tb := t b hb
    unfold pairE at ta tb
    rw [decide_eq_true (show a = a from rfl), Bool.true_or, Bool.and_true] at ta
    rw [decide_eq_true (show b = b from rfl), Bool.or_true, Bool.and_true] at tb
    rw [ta, tb]
    rfl
  · intro z
    rw [Bool.and_eq_true] at z
    refine mk_cong (fun i _ => ?_)
    unfold pairE
    by_cases ea : i = a
    · rw [ea, z.1, Bool.true_and]
    · by_cases eb : i = b
      · rw [eb, z.2, Bool.true_and]
      · rw [decide_eq_false ea, decide_eq_false eb]
        exact Bool.and_false _
