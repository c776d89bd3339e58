/-! TREES: the reference's way over sets, greedy fixing; the class's rows of exemplars as numbers to the base 13 -/
/-! (the definitions of isTree, tCost, lexLt, isFirst stand here) -/
def isTree (n : Nat) (al : Nat → Nat → Bool) (T : Nat → Nat) : Prop := (∀ c, c < n → T c ≤ n ∧ al (T c) c = true) ∧ ∃ rk : Nat → Nat, ∀ c, c < n → T c ≠ 0 → rk (T c - 1) < rk c
def tCost (n : Nat) (cs : Nat → Nat → Nat) (T : Nat → Nat) : Nat := sumN n fun c => cs (T c) c
def lexLt (n : Nat) (T T' : Nat → Nat) : Prop := ∃ c, c < n ∧ T c < T' c ∧ ∀ d, d < c → T d = T' d
def isFirst (n : Nat) (al : Nat → Nat → Bool) (cs : Nat → Nat → Nat) (T : Nat → Nat) : Prop := isTree n al T ∧ ∀ T', isTree n al T' → tCost n cs T ≤ tCost n cs T' ∧ (tCost n cs T' = tCost n cs T → ¬ lexLt n T' T)
def TreeOn (s : Nat → Bool) (al : Nat → Nat → Bool) (T : Nat → Nat) : Prop := (∀ c, c < 12 → s c = true → al (T c) c = true ∧ (T c ≠ 0 → T c - 1 < 12 ∧ s (T c - 1) = true)) ∧ ∃ rk : Nat → Nat, ∀ c, c < 12 → s c = true → T c ≠ 0 → rk (T c - 1) < rk c
def onC (s : Nat → Bool) (cs : Nat → Nat → Nat) (T : Nat → Nat) : Nat := sumN 12 fun c => if s c then cs (T c) c else 0
def del (s : Nat → Bool) (c : Nat) : Nat → Bool := fun x => s x && decide (x ≠ c)
def MinOn (s : Nat → Bool) (al : Nat → Nat → Bool) (cs : Nat → Nat → Nat) (r : Option Nat) : Prop := (∀ T, TreeOn s al T → ∃ v, r = some v ∧ v ≤ onC s cs T) ∧ ∀ v, r = some v → ∃ T, TreeOn s al T ∧ onC s cs T = v
theorem onC_del {s : Nat → Bool} {cs : Nat → Nat → Nat} {T : Nat → Nat} {c : Nat} (hc : c < 12) (h : s c = true) : onC s cs T = onC (del s c) cs T + cs (T c) c := by
  unfold onC
  rw [← sumN_one (x := cs (T c) c) hc, ← sumN_add]
  refine sumN_cong (fun x _ => ?_)
  unfold del
  by_cases e : x = c
  · subst e
    rw [h, if_pos rfl, if_pos rfl, decide_eq_false (fun z => z rfl), Bool.and_false, if_neg (by decide), Nat.zero_add]
  · rw [decide_eq_true e, Bool.and_true, if_neg e, Nat.add_zero]
theorem onC_cong {s : Nat → Bool} {cs : Nat → Nat → Nat} {T T' : Nat → Nat} (h : ∀ c, c < 12 → s c = true → T c = T' c) : onC s cs T = onC s cs T' := by
  refine sumN_cong (fun x hx => ?_)
  cases e : s x with
  | false => rfl
  | true => rw [if_pos rfl, if_pos rfl, h x hx e]
/-- one of the greatest rank -/
theorem top_of {s : Nat → Bool} (rk : Nat → Nat) {c0 : Nat} (h0 : c0 < 12) (hs : s c0 = true) : ∃ c, c < 12 ∧ s c = true ∧ ∀ x, x < 12 → s x = true → rk x ≤ rk c := by
  have key : ∀ n, (∃ c, c < n ∧ s c = true) → ∃ c, c < n ∧ s c = true ∧ ∀ x, x < n → s x = true → rk x ≤ rk c := by
    intro n
    induction n with
    | zero => exact fun ⟨c, h, _⟩ => absurd h (Nat.not_lt_zero c)
    | succ n ih =>
      rintro ⟨c, h1, h2⟩
      by_cases q : ∃ c, c < n ∧ s c = true
      · obtain ⟨b, b1, b2, b3⟩ := ih q
        by_cases z : s n = true ∧ rk b < rk n
        · refine ⟨n, by omega, z.1, fun x hx sx => ?_⟩
          by_cases e : x = n
          · rw [e]
            exact Nat.le_refl _
          · have := b3 x (by omega) sx
            omega
        · refine ⟨b, by omega, b2, fun x hx sx => ?_⟩
          by_cases e : x = n
          · subst e
            by_cases y : rk b < rk x
            · exact absurd ⟨sx, y⟩ z
            · omega
          · exact b3 x (by omega) sx
      · have e : c = n := by
          by_cases e : c = n
          · exact e
          · exact absurd ⟨c, by omega, h2⟩ q
        subst e
        refine ⟨c, by omega, h2, fun x hx sx => ?_⟩
        by_cases e : x = c
        · rw [e]
          exact Nat.le_refl _
        · exact absurd ⟨x, by omega, sx⟩ q
  exact key 12 ⟨c0, h0, hs⟩
theorem dp_step {s : Nat → Bool} {al : Nat → Nat → Bool} {cs : Nat → Nat → Nat} {D : Nat → Option Nat} {r : Option Nat} {c0 : Nat} (h0 : c0 < 12) (hs : s c0 = true)
    (hD : ∀ c, c < 12 → s c = true → MinOn (del s c) al cs (D c))
    (low : ∀ c d f, c < 12 → s c = true → D c = some d → al f c = true → (f ≠ 0 → f - 1 < 12 ∧ del s c (f - 1) = true) → ∃ v, r = some v ∧ v ≤ d + cs f c)
    (reach : ∀ v, r = some v → ∃ c d f, c < 12 ∧ s c = true ∧ D c = some d ∧ al f c = true ∧ (f ≠ 0 → f - 1 < 12 ∧ del s c (f - 1) = true) ∧ v = d + cs f c) : MinOn s al cs r := by
  constructor
  · rintro T ⟨h1, rk, h2⟩
    obtain ⟨c, c1, c2, c3⟩ := top_of rk h0 hs
    have t1 : TreeOn (del s c) al T := by
      refine ⟨fun x hx sx => ?_, rk, fun x hx sx => ?_⟩
      · unfold del at sx ⊢
        rw [Bool.and_eq_true] at sx
        obtain ⟨q1, q2⟩ := h1 x hx sx.1
        refine ⟨q1, fun z => ⟨(q2 z).1, ?_⟩⟩
        have ne : T x - 1 ≠ c := fun e => by
          have a := h2 x hx sx.1 z
          have b := c3 x hx sx.1
          rw [e] at a
          omega
        rw [(q2 z).2, decide_eq_true ne]
        rfl
      · unfold del at sx
        rw [Bool.and_eq_true] at sx
        exact h2 x hx sx.1
    obtain ⟨d, d1, d2⟩ := (hD c c1 c2).1 T t1
    obtain ⟨q1, q2⟩ := h1 c c1 c2
    obtain ⟨v, v1, v2⟩ := low c d (T c) c1 c2 d1 q1 (fun z => ⟨(q2 z).1, by
      have ne : T c - 1 ≠ c := fun e => by
        have a := h2 c c1 c2 z
        rw [e] at a
        omega
      unfold del
      rw [(q2 z).2, decide_eq_true ne]
      rfl⟩)
    refine ⟨v, v1, ?_⟩
    rw [onC_del c1 c2]
    omega
  · intro v hv
    obtain ⟨c, d, f, c1, c2, d1, a1, a2, e⟩ := reach v hv
    obtain ⟨T, ⟨t1, rk, t2⟩, t3⟩ := (hD c c1 c2).2 d d1
    have sd : ∀ x, s x = true → x ≠ c → del s c x = true := fun x h ne => by
      unfold del
      rw [h, decide_eq_true ne]
      rfl
    have ds : ∀ x, del s c x = true → s x = true ∧ x ≠ c := fun x h => by
      unfold del at h
      rw [Bool.and_eq_true] at h
      exact ⟨h.1, of_decide_eq_true h.2⟩
    refine ⟨fun x => if x = c then f else T x, ⟨fun x hx sx => ?_, fun x => if x = c then rk (f - 1) + 1 else rk x, fun x hx sx => ?_⟩, ?_⟩
    · dsimp only
      by_cases e1 : x = c
      · rw [if_pos e1, e1]
        exact ⟨a1, fun z => ⟨(a2 z).1, (ds _ (a2 z).2).1⟩⟩
      · rw [if_neg e1]
        obtain ⟨q1, q2⟩ := t1 x hx (sd x sx e1)
        exact ⟨q1, fun z => ⟨(q2 z).1, (ds _ (q2 z).2).1⟩⟩
    · dsimp only
      by_cases e1 : x = c
      · rw [if_pos e1, if_pos e1]
        intro z
        rw [if_neg (ds _ (a2 z).2).2]
        omega
      · rw [if_neg e1, if_neg e1]
        intro z
        obtain ⟨q1, q2⟩ := t1 x hx (sd x sx e1)
        rw [if_neg (ds _ (q2 z).2).2]
        exact t2 x hx (sd x sx e1) z
    · rw [onC_del c1 c2, e, if_pos rfl]
      congr 1
      rw [← t3]
      refine onC_cong (fun x hx sx => if_neg (ds x sx).2)
theorem MinOn_zero {s : Nat → Bool} {al : Nat → Nat → Bool} {cs : Nat → Nat → Nat} (h : ∀ c, c < 12 → s c = false) : MinOn s al cs (some 0) := by
  have z : ∀ T, onC s cs T = 0 := fun T => by
    unfold onC
    rw [sumN_cong (q := fun _ => 0) (fun c hc => by rw [h c hc]; rfl), sumN_zero]
  refine ⟨fun T _ => ⟨0, rfl, Nat.zero_le _⟩, fun v hv => ⟨fun _ => 0, ⟨fun c hc q => ?_, fun _ => 0, fun c hc q => ?_⟩, ?_⟩⟩
  · rw [h c hc] at q
    cases q
  · rw [h c hc] at q
    cases q
  · injection hv with hv
    rw [z, hv]
def upTo (n : Nat) : Nat → Bool := fun c => decide (c < n)
theorem treeOn_iff {n : Nat} (hn : n ≤ 12) {al : Nat → Nat → Bool} {T : Nat → Nat} : TreeOn (upTo n) al T ↔ isTree n al T := by
  constructor
  · rintro ⟨h1, rk, h2⟩
    refine ⟨fun c hc => ?_, rk, fun c hc => h2 c (by omega) (decide_eq_true hc)⟩
    obtain ⟨q1, q2⟩ := h1 c (by omega) (decide_eq_true hc)
    refine ⟨?_, q1⟩
    by_cases z : T c = 0
    · omega
    · have := of_decide_eq_true (q2 z).2
      omega
  · rintro ⟨h1, rk, h2⟩
    refine ⟨fun c hc q => ?_, rk, fun c hc q => h2 c (of_decide_eq_true q)⟩
    have q := of_decide_eq_true q
    obtain ⟨q1, q2⟩ := h1 c q
    exact ⟨q2, fun z => ⟨by omega, decide_eq_true (by omega)⟩⟩
theorem onC_upTo {n : Nat} (hn : n ≤ 12) {cs : Nat → Nat → Nat} {T : Nat → Nat} : onC (upTo n) cs T = tCost n cs T := by
  have key : ∀ k, sumN (n + k) (fun c => if upTo n c then cs (T c) c else 0) = sumN n fun c => cs (T c) c := by
    intro k
    induction k with
    | zero => exact sumN_cong (fun c hc => if_pos (decide_eq_true hc))
    | succ k ih =>
      show sumN (n + k) (fun c => if upTo n c then cs (T c) c else 0) + (if upTo n (n + k) then cs (T (n + k)) (n + k) else 0) = _
      rw [ih, if_neg, Nat.add_zero]
      unfold upTo
      rw [decide_eq_false (by omega)]
      decide
  have z := key (12 - n)
  rw [show n + (12 - n) = 12 by omega] at z
  exact z
/-- the copies below c fixed as T has them -/
def fixd (al : Nat → Nat → Bool) (T : Nat → Nat) (c : Nat) : Nat → Nat → Bool := fun f x => if x < c then decide (f = T x) else al f x
theorem greedy {n : Nat} {al : Nat → Nat → Bool} {cs : Nat → Nat → Nat} {T : Nat → Nat} {V : Nat}
    (hV : ∀ T', isTree n al T' → V ≤ tCost n cs T')
    (ex : ∃ T', isTree n (fixd al T n) T' ∧ tCost n cs T' = V)
    (hal : ∀ c, c < n → al (T c) c = true)
    (least : ∀ c, c < n → ∀ T', isTree n al T' → tCost n cs T' = V → (∀ d, d < c → T' d = T d) → T c ≤ T' c) : isFirst n al cs T ∧ tCost n cs T = V := by
  obtain ⟨T', ⟨t1, rk, t2⟩, t3⟩ := ex
  have e : ∀ c, c < n → T' c = T c := fun c hc => by
    have z := (t1 c hc).2
    unfold fixd at z
    rw [if_pos hc] at z
    exact of_decide_eq_true z
  have ht : isTree n al T := by
    refine ⟨fun c hc => ⟨?_, hal c hc⟩, rk, fun c hc => ?_⟩
    · rw [← e c hc]
      exact (t1 c hc).1
    · rw [← e c hc]
      exact t2 c hc
  have hc : tCost n cs T = V := by
    rw [← t3]
    exact sumN_cong (fun c hc => by rw [e c hc])
  refine ⟨⟨ht, fun T2 h2 => ⟨by rw [hc]; exact hV T2 h2, fun eq ⟨c, c1, c2, c3⟩ => ?_⟩⟩, hc⟩
  have := least c c1 T2 h2 (eq.trans hc) c3
  omega
/-- a first tree is one alone -/
theorem first_one {n : Nat} {al : Nat → Nat → Bool} {cs : Nat → Nat → Nat} {T T' : Nat → Nat} (h : isFirst n al cs T) (h' : isFirst n al cs T') : (∀ c, c < n → T c = T' c) ∧ tCost n cs T = tCost n cs T' := by
  have eq : tCost n cs T = tCost n cs T' := Nat.le_antisymm (h.2 T' h'.1).1 (h'.2 T h.1).1
  refine ⟨fun c => ?_, eq⟩
  induction c using Nat.strongRecOn with
  | ind c ih =>
    intro hc
    by_cases l : T c < T' c
    · exact absurd ⟨c, hc, l, fun d hd => ih d hd (by omega)⟩ ((h'.2 T h.1).2 eq)
    · by_cases g : T' c < T c
      · exact absurd ⟨c, hc, g, fun d hd => (ih d hd (by omega)).symm⟩ ((h.2 T' h'.1).2 eq.symm)
      · omega
/-! ROWS of exemplars as numbers -/
def rk13 (n : Nat) (T : Nat → Nat) : Nat := sumN n fun c => T c * 13 ^ (11 - c)
theorem rk13_lt {n : Nat} (hn : n ≤ 12) {T : Nat → Nat} (h : ∀ c, c < n → T c ≤ 12) : rk13 n T + 13 ^ (12 - n) ≤ 13 ^ 12 := by
  induction n with
  | zero => exact Nat.le_of_eq (Nat.zero_add _)
  | succ n ih =>
    have i := ih (by omega) (fun c hc => h c (by omega))
    show rk13 n T + T n * 13 ^ (11 - n) + 13 ^ (12 - (n + 1)) ≤ _
    rw [show 12 - (n + 1) = 11 - n by omega]
    rw [show 12 - n = (11 - n) + 1 by omega, Nat.pow_succ] at i
    have := Nat.mul_le_mul_right (13 ^ (11 - n)) (h n (by omega))
    omega
theorem rk13_lex {n : Nat} (hn : n ≤ 12) {T T' : Nat → Nat} (h : ∀ c, c < n → T c ≤ 12) (l : lexLt n T T') : rk13 n T < rk13 n T' := by
  obtain ⟨c, c1, c2, c3⟩ := l
  have key : ∀ d m, m = c + 1 + d → m ≤ n → rk13 m T + 13 ^ (12 - m) ≤ rk13 m T' := by
    intro d
    induction d with
    | zero =>
      intro m hm hmn
      rw [Nat.add_zero] at hm
      subst hm
      have e : rk13 c T = rk13 c T' := sumN_cong (fun x hx => by rw [c3 x hx])
      show rk13 c T + T c * 13 ^ (11 - c) + 13 ^ (12 - (c + 1)) ≤ rk13 c T' + T' c * 13 ^ (11 - c)
      rw [e, show 12 - (c + 1) = 11 - c by omega]
      have := Nat.mul_le_mul_right (13 ^ (11 - c)) (show T c + 1 ≤ T' c by omega)
      rw [Nat.add_mul, Nat.one_mul] at this
      omega
    | succ d ih =>
      intro m hm hmn
      obtain ⟨k, rfl⟩ : ∃ k, m = k + 1 := ⟨m - 1, by omega⟩
      have i := ih k (by omega) (by omega)
      show rk13 k T + T k * 13 ^ (11 - k) + 13 ^ (12 - (k + 1)) ≤ rk13 k T' + T' k * 13 ^ (11 - k)
      rw [show 12 - (k + 1) = 11 - k by omega]
      rw [show 12 - k = (11 - k) + 1 by omega, Nat.pow_succ] at i
      have := Nat.mul_le_mul_right (13 ^ (11 - k)) (h k (by omega))
      omega
  have := key (n - (c + 1)) n (by omega) (Nat.le_refl _)
  have := Nat.pow_pos (n := 12 - n) (show 0 < 13 by decide)
  omega
/-- cost and row in one number -/
def wRow (cs : Nat → Nat → Nat) (f c : Nat) : Nat := cs f c * 13 ^ 12 + f * 13 ^ (11 - c)
theorem tCost_row {n : Nat} {cs : Nat → Nat → Nat} {T : Nat → Nat} : tCost n (wRow cs) T = tCost n cs T * 13 ^ 12 + rk13 n T := by
  unfold tCost rk13 wRow
  rw [sumN_add, Nat.mul_comm _ (13 ^ 12), ← sumN_mul]
  congr 1
  exact sumN_cong (fun c _ => Nat.mul_comm _ _)
theorem first_row {n : Nat} (hn : n ≤ 12) {al : Nat → Nat → Bool} {cs : Nat → Nat → Nat} {T : Nat → Nat} (h : isTree n al T) (m : ∀ T', isTree n al T' → tCost n (wRow cs) T ≤ tCost n (wRow cs) T') : isFirst n al cs T := by
  refine ⟨h, fun T' h' => ?_⟩
  have b : ∀ T, isTree n al T → rk13 n T < 13 ^ 12 := fun T h => by
    have := rk13_lt hn (T := T) (fun c hc => Nat.le_trans (h.1 c hc).1 hn)
    have := Nat.pow_pos (n := 12 - n) (show 0 < 13 by decide)
    omega
  have q := m T' h'
  rw [tCost_row, tCost_row] at q
  have b1 := b T h
  have b2 := b T' h'
  have le : tCost n cs T ≤ tCost n cs T' := by
    by_cases c : tCost n cs T ≤ tCost n cs T'
    · exact c
    · have := Nat.mul_le_mul_right (13 ^ 12) (show tCost n cs T' + 1 ≤ tCost n cs T by omega)
      rw [Nat.add_mul, Nat.one_mul] at this
      omega
  refine ⟨le, fun e l => ?_⟩
  rw [e] at q
  have := rk13_lex hn (fun c hc => Nat.le_trans (h'.1 c hc).1 hn) l
  omega
/-- reading the row back, last copy first -/
def hor (T : Nat → Nat) : Nat → Nat
  | 0 => 0
  | k + 1 => hor T k * 13 + T k
theorem hor_rk {T : Nat → Nat} : ∀ k, k ≤ 12 → rk13 k T = hor T k * 13 ^ (12 - k) := by
  intro k
  induction k with
  | zero => exact fun _ => (Nat.zero_mul _).symm
  | succ k ih =>
    intro hk
    show rk13 k T + T k * 13 ^ (11 - k) = (hor T k * 13 + T k) * 13 ^ (12 - (k + 1))
    rw [ih (by omega), show 12 - k = (11 - k) + 1 by omega, Nat.pow_succ, show 12 - (k + 1) = 11 - k by omega, Nat.add_mul, Nat.mul_assoc, Nat.mul_comm 13 (13 ^ (11 - k))]
theorem rk13_ext {n : Nat} (hn : n ≤ 12) {T : Nat → Nat} : rk13 n T = rk13 12 (fun c => if c < n then T c else 0) := by
  have key : ∀ k, rk13 (n + k) (fun c => if c < n then T c else 0) = rk13 n T := by
    intro k
    induction k with
    | zero => exact sumN_cong (fun c hc => by
      dsimp only
      rw [if_pos (show c < n from hc)])
    | succ k ih =>
      show rk13 (n + k) (fun c => if c < n then T c else 0) + (if n + k < n then T (n + k) else 0) * 13 ^ (11 - (n + k)) = _
      rw [ih, if_neg (by omega), Nat.zero_mul, Nat.add_zero]
  have z := key (12 - n)
  rw [show n + (12 - n) = 12 by omega] at z
  exact z.symm
theorem hor_step {T : Nat → Nat} {k : Nat} (h : T k ≤ 12) : hor T (k + 1) % 13 = T k ∧ hor T (k + 1) / 13 = hor T k := by
  show (hor T k * 13 + T k) % 13 = T k ∧ (hor T k * 13 + T k) / 13 = hor T k
  omega
/-- knots c + 1 for copies c: trees as they hang -/
theorem arb_tree {n : Nat} {al : Nat → Nat → Bool} {cs : Nat → Nat → Nat} {E : Nat → Nat → Option Nat} (hE : ∀ f c, f ≤ n → c < n → E f (c + 1) = if al f c then some (cs f c) else none) {r : Option Nat} (h : IsMin (n + 1) E r) :
    (∀ T, isTree n al T → ∃ s, r = some s ∧ s ≤ tCost n cs T) ∧ ∀ s, r = some s → ∃ T, isTree n al T ∧ tCost n cs T = s := by
  have co : ∀ P : Nat → Nat, (∀ c, c < n → P (c + 1) ≤ n ∧ al (P (c + 1)) c = true) → aCost (n + 1) E P = tCost n cs (fun c => P (c + 1)) := fun P hP => by
    unfold aCost aC tCost
    have key : ∀ k, k ≤ n → sumN (k + 1) (fun t => if t = 0 then 0 else (E (P t) t).getD 0) = sumN k fun c => cs (P (c + 1)) c := by
      intro k
      induction k with
      | zero => exact fun _ => rfl
      | succ k ih =>
        intro hk
        show sumN (k + 1) (fun t => if t = 0 then 0 else (E (P t) t).getD 0) + (if k + 1 = 0 then 0 else (E (P (k + 1)) (k + 1)).getD 0) = _
        rw [ih (by omega), if_neg (by omega), hE _ k (hP k (by omega)).1 (by omega), if_pos (hP k (by omega)).2]
        rfl
    exact key n (Nat.le_refl _)
  constructor
  · rintro T ⟨t1, rk, t2⟩
    have a : Arb (n + 1) E (fun t => T (t - 1)) := by
      refine ⟨fun t h1 h2 => ?_, fun t => if t = 0 then 0 else rk (t - 1) + 1, fun t h1 h2 => ?_⟩
      · obtain ⟨q1, q2⟩ := t1 (t - 1) (by omega)
        refine ⟨Nat.lt_succ_of_le q1, ?_⟩
        have e := hE (T (t - 1)) (t - 1) q1 (by omega)
        rw [show t - 1 + 1 = t by omega, if_pos q2] at e
        rw [e]
        rfl
      · dsimp only
        rw [if_neg (show ¬ t = 0 by omega)]
        by_cases z : T (t - 1) = 0
        · rw [if_pos z]
          omega
        · rw [if_neg z]
          have := t2 (t - 1) (by omega) z
          omega
    obtain ⟨s, s1, s2⟩ := h.1 _ a
    refine ⟨s, s1, ?_⟩
    rw [co _ (fun c hc => t1 c hc)] at s2
    exact s2
  · intro s hs
    obtain ⟨P, ⟨p1, rk, p2⟩, p3⟩ := h.2 s hs
    have q : ∀ c, c < n → P (c + 1) ≤ n ∧ al (P (c + 1)) c = true := fun c hc => by
      obtain ⟨q1, q2⟩ := p1 (c + 1) (by omega) (by omega)
      refine ⟨by omega, ?_⟩
      rw [hE _ c (by omega) hc] at q2
      cases e : al (P (c + 1)) c with
      | true => rfl
      | false =>
        rw [e] at q2
        cases q2
    refine ⟨fun c => P (c + 1), ⟨q, fun c => rk (c + 1), fun c hc z => ?_⟩, by rw [← co P q]; exact p3⟩
    have := p2 (c + 1) (by omega) (by omega)
    dsimp only at z ⊢
    rw [show P (c + 1) - 1 + 1 = P (c + 1) by omega]
    exact this
