/-! TEXTS: the plain parser: where it ends or fails, how many parts, the codes, what they mean -/
abbrev Rs (α : Type) : Type := Nat × Nat × Nat × List Nat × ((Nat → Int32) → Option α)
abbrev Ps (α : Type) : Type := Nat → Nat → Nat → Rs α
def bad_ {α : Type} (f : Nat) : Rs α := (0, f, 0, [], fun _ => none)
def thn {α β : Type} (r : Rs α) (k : Nat → Nat → List Nat → ((Nat → Int32) → Option α) → Rs β) : Rs β := if r.1 = 0 then bad_ r.2.1 else k r.2.1 r.2.2.1 r.2.2.2.1 r.2.2.2.2
theorem thn_0 {α β : Type} {r : Rs α} {k : Nat → Nat → List Nat → ((Nat → Int32) → Option α) → Rs β} (h : r.1 = 0) : thn r k = bad_ r.2.1 := by
  unfold thn; rw [if_pos h]
theorem thn_1 {α β : Type} {r : Rs α} {k : Nat → Nat → List Nat → ((Nat → Int32) → Option α) → Rs β} (h : r.1 ≠ 0) : thn r k = k r.2.1 r.2.2.1 r.2.2.2.1 r.2.2.2.2 := by
  unfold thn; rw [if_neg h]
def opV (o : Nat) (u w : Int64) : Option Int64 :=
  if o = 7 ∧ w = 0 then none else
  if (1000000000 : Int64) < (if o = 4 then u + w else if o = 5 then u - w else if o = 6 then u * w else u / w) then none else
  if (if o = 4 then u + w else if o = 5 then u - w else if o = 6 then u * w else u / w) < (-1000000000 : Int64) then none else
  some (if o = 4 then u + w else if o = 5 then u - w else if o = 6 then u * w else u / w)
def binV (o : Nat) (v w : (Nat → Int32) → Option Int64) : (Nat → Int32) → Option Int64 := fun e => (v e).bind fun a => (w e).bind fun b => opV o a b
def jmpV (o : Nat) (v w : (Nat → Int32) → Option Bool) : (Nat → Int32) → Option Bool := fun e => (v e).bind fun a => if a = decide (o = 2) then some a else w e
def cmpV (o : Nat) (v w : (Nat → Int32) → Option Int64) : (Nat → Int32) → Option Bool := fun e => (v e).bind fun a => (w e).bind fun b => some (if o = 8 then decide (a < b) else if o = 9 then decide (b < a) else decide (a = b))
def notV (v : (Nat → Int32) → Option Bool) : (Nat → Int32) → Option Bool := fun e => (v e).map fun a => !a
def closeP {α : Type} (K : Tk) (c : Nat) (r : Rs α) : Rs α := thn r fun j l cs v => if trc K j = c then (1, j + 1, l, cs, v) else bad_ j
def partP (K : Tk) (br : Bool) (S : Ps Int64) : Ps Int64 := fun i l a =>
  if trc K i = 191 then (if br = true then closeP K 193 (S (i + 1) l a) else bad_ i)
  else if trc K i = 50 ∧ trv K i ≤ 1000 then (if l < 50 then (1, i + 1, l + 1, [0, trv K i], fun _ => some (nI (trv K i)).toInt64) else bad_ i)
  else if 12 ≤ trc K i ∧ trc K i ≤ 20 then (if l < 50 then (1, i + 1, l + 1, [1, trc K i - 12], fun e => some (e (trc K i - 12)).toInt64) else bad_ i)
  else bad_ i
def binL (K : Tk) (c1 o1 c2 o2 : Nat) (P : Ps Int64) (a : Nat) : Nat → Nat → Nat → List Nat → ((Nat → Int32) → Option Int64) → Rs Int64
  | 0 => fun i l cs v => (1, i, l, cs, v)
  | f + 1 => fun i l cs v => if trc K i = c1 ∨ trc K i = c2 then
      thn (P (i + 1) l (a + cs.length)) fun j l' ds w => binL K c1 o1 c2 o2 P a f j l' (cs ++ ds ++ [if trc K i = c1 then o1 else o2]) (binV (if trc K i = c1 then o1 else o2) v w)
    else (1, i, l, cs, v)
def binP (K : Tk) (c1 o1 c2 o2 : Nat) (P : Ps Int64) : Ps Int64 := fun i l a => thn (P i l a) fun j l' cs v => binL K c1 o1 c2 o2 P a 401 j l' cs v
def jmpL (K : Tk) (c o : Nat) (P : Ps Bool) (a : Nat) : Nat → Nat → Nat → List Nat → ((Nat → Int32) → Option Bool) → Rs Bool
  | 0 => fun i l cs v => (1, i, l, cs, v)
  | f + 1 => fun i l cs v => if trc K i = c then
      thn (P (i + 1) l (a + cs.length + 2)) fun j l' ds w => jmpL K c o P a f j l' (cs ++ ([o, a + cs.length + 2 + ds.length] ++ ds)) (jmpV o v w)
    else (1, i, l, cs, v)
def jmpP (K : Tk) (c o : Nat) (P : Ps Bool) : Ps Bool := fun i l a => thn (P i l a) fun j l' cs v => jmpL K c o P a 401 j l' cs v
def nots (K : Tk) : Nat → Nat → Bool → Nat × Bool
  | 0 => fun i b => (i, b)
  | f + 1 => fun i b => if trc K i = 11 then nots K f (i + 1) (!b) else (i, b)
def cmpP (K : Tk) (S : Ps Int64) : Ps Bool := fun i l a => thn (S i l a) fun j l' cs v =>
  if trc K j = 160 ∨ trc K j = 162 ∨ trc K j = 161 then
    thn (S (j + 1) l' (a + cs.length)) fun j2 l2 ds w => (1, j2, l2, cs ++ ds ++ [if trc K j = 160 then 8 else if trc K j = 162 then 9 else 10], cmpV (if trc K j = 160 then 8 else if trc K j = 162 then 9 else 10) v w)
  else bad_ j
def posP (K : Tk) (br : Bool) (T : Ps Bool) (S : Ps Int64) : Ps Bool := fun i l a =>
  if trc K i = 140 then (if br = true then closeP K 141 (T (i + 1) l a) else bad_ i) else cmpP K S i l a
def plainP (K : Tk) (br : Bool) (T : Ps Bool) (S : Ps Int64) : Ps Bool := fun i l a =>
  thn (posP K br T S (nots K 401 i false).1 l a) fun j l' cs v => if (nots K 401 i false).2 = true then (1, j, l', cs ++ [11], notV v) else (1, j, l', cs, v)
/-- sums and tests with so many brackets still free -/
def sumP (K : Tk) : Nat → Ps Int64
  | 0 => binP K 143 4 145 5 (binP K 142 6 147 7 (partP K false fun i _ _ => bad_ i))
  | n + 1 => binP K 143 4 145 5 (binP K 142 6 147 7 (partP K true (sumP K n)))
def testP (K : Tk) : Nat → Ps Bool
  | 0 => jmpP K 9 2 (jmpP K 10 3 (plainP K false (fun i _ _ => bad_ i) (sumP K 0)))
  | n + 1 => jmpP K 9 2 (jmpP K 10 3 (plainP K true (testP K n) (sumP K (n + 1))))
/-! their bounds -/
def SBd (K : Tk) (i l j l' : Nat) (cs : List Nat) : Prop := i < j ∧ j ≤ tm_ K ∧ l' ≤ 50 ∧ cs.length + 1 + 3 * l ≤ 3 * l'
def TBd (K : Tk) (i l j l' : Nat) (cs : List Nat) : Prop := i < j ∧ j ≤ tm_ K ∧ l' ≤ 50 ∧ l ≤ l' ∧ 3 * cs.length + 6 + 12 * l + tpos K i ≤ 12 * l' + tpos K j
def PBd {α : Type} (K : Tk) (B : Nat → Nat → Nat → Nat → List Nat → Prop) (P : Ps α) : Prop := ∀ i l a, i ≤ tm_ K → l ≤ 50 →
  ((P i l a).1 = 0 → (P i l a).2.1 ≤ tm_ K) ∧ ((P i l a).1 ≠ 0 → B i l (P i l a).2.1 (P i l a).2.2.1 (P i l a).2.2.2.1)
section PLAINB
variable {K : Tk} {n : Nat} {by_ : Nat → Nat}
theorem TkOK.lt (O : TkOK K n by_) {i : Nat} (hi : i ≤ tm_ K) (h : trc K i ≠ 0) : i < tm_ K := by
  have z := O.2.2.1 i hi
  unfold codeR at z
  by_cases e : i = tm_ K
  · have := z.2.2.mpr e
    omega
  · omega
theorem TkOK.pos (O : TkOK K n by_) {i j : Nat} (h : i ≤ j) (hj : j ≤ tm_ K) : tpos K i ≤ tpos K j := by
  induction j with
  | zero =>
    rw [show i = 0 by omega]
    exact Nat.le_refl _
  | succ j ih =>
    by_cases e : i = j + 1
    · rw [e]
      exact Nat.le_refl _
    · have a := ih (by omega) (by omega)
      have b := O.2.2.2.1 j (by omega)
      omega
theorem b_close {α : Type} (O : TkOK K n by_) {r : Rs α} {c : Nat} (hc : c ≠ 0) (h0 : r.1 = 0 → r.2.1 ≤ tm_ K) (h1 : r.1 ≠ 0 → r.2.1 ≤ tm_ K) :
    ((closeP K c r).1 = 0 → (closeP K c r).2.1 ≤ tm_ K) ∧ ((closeP K c r).1 ≠ 0 → r.1 ≠ 0 ∧ (closeP K c r) = (1, r.2.1 + 1, r.2.2) ∧ r.2.1 < tm_ K) := by
  unfold closeP
  by_cases e : r.1 = 0
  · rw [thn_0 e]
    exact ⟨fun _ => h0 e, fun z => absurd rfl z⟩
  · rw [thn_1 e]
    by_cases q : trc K r.2.1 = c
    · rw [if_pos q]
      exact ⟨fun z => absurd z (by simp), fun _ => ⟨e, rfl, O.lt (h1 e) (by omega)⟩⟩
    · rw [if_neg q]
      exact ⟨fun _ => h1 e, fun z => absurd rfl z⟩
theorem b_part (O : TkOK K n by_) {br : Bool} {S : Ps Int64} (hS : br = true → PBd K (SBd K) S) : PBd K (SBd K) (partP K br S) := fun i l a hi hl => by
  unfold partP
  by_cases c1 : trc K i = 191
  · rw [if_pos c1]
    by_cases c2 : br = true
    · rw [if_pos c2]
      have il := O.lt hi (by omega)
      have z := hS c2 (i + 1) l a il hl
      have w := b_close O (r := S (i + 1) l a) (c := 193) (by omega) z.1 (fun e => (z.2 e).2.1)
      refine ⟨w.1, fun e => ?_⟩
      obtain ⟨w1, w2, w3⟩ := w.2 e
      have := z.2 w1
      rw [w2]
      unfold SBd at this ⊢
      refine ⟨?_, w3, this.2.2⟩
      show i < (S (i + 1) l a).2.1 + 1
      omega
    · rw [if_neg c2]
      exact ⟨fun _ => hi, fun z => absurd rfl z⟩
  · rw [if_neg c1]
    have F : ((bad_ i : Rs Int64).1 = 0 → (bad_ i : Rs Int64).2.1 ≤ tm_ K) ∧ ((bad_ i : Rs Int64).1 ≠ 0 → SBd K i l (bad_ i : Rs Int64).2.1 (bad_ i : Rs Int64).2.2.1 (bad_ i : Rs Int64).2.2.2.1) := ⟨fun _ => hi, fun z => absurd rfl z⟩
    by_cases c2 : trc K i = 50 ∧ trv K i ≤ 1000
    · rw [if_pos c2]
      by_cases c3 : l < 50
      · rw [if_pos c3]
        refine ⟨fun z => absurd z (by simp), fun _ => ?_⟩
        have il := O.lt hi (by omega)
        unfold SBd
        simp only [List.length_cons, List.length_nil]
        omega
      · rw [if_neg c3]; exact F
    · rw [if_neg c2]
      by_cases c4 : 12 ≤ trc K i ∧ trc K i ≤ 20
      · rw [if_pos c4]
        by_cases c3 : l < 50
        · rw [if_pos c3]
          refine ⟨fun z => absurd z (by simp), fun _ => ?_⟩
          have il := O.lt hi (by omega)
          unfold SBd
          simp only [List.length_cons, List.length_nil]
          omega
        · rw [if_neg c3]; exact F
      · rw [if_neg c4]; exact F
theorem b_binL (O : TkOK K n by_) {c1 o1 c2 o2 : Nat} (h1 : c1 ≠ 0) (h2 : c2 ≠ 0) {P : Ps Int64} (hP : PBd K (SBd K) P) (a i0 l0 : Nat) (f : Nat) : ∀ i l cs v, SBd K i0 l0 i l cs →
    ((binL K c1 o1 c2 o2 P a f i l cs v).1 = 0 → (binL K c1 o1 c2 o2 P a f i l cs v).2.1 ≤ tm_ K) ∧ ((binL K c1 o1 c2 o2 P a f i l cs v).1 ≠ 0 → SBd K i0 l0 (binL K c1 o1 c2 o2 P a f i l cs v).2.1 (binL K c1 o1 c2 o2 P a f i l cs v).2.2.1 (binL K c1 o1 c2 o2 P a f i l cs v).2.2.2.1) := by
  induction f with
  | zero => exact fun i l cs v h => ⟨fun z => absurd z (by simp [binL]), fun _ => h⟩
  | succ f ih =>
    intro i l cs v h
    unfold binL
    by_cases q : trc K i = c1 ∨ trc K i = c2
    · rw [if_pos q]
      have il := O.lt h.2.1 (by omega)
      have z := hP (i + 1) l (a + cs.length) il h.2.2.1
      by_cases e : (P (i + 1) l (a + cs.length)).1 = 0
      · rw [thn_0 e]
        exact ⟨fun _ => z.1 e, fun z => absurd rfl z⟩
      · rw [thn_1 e]
        apply ih
        have y := z.2 e
        unfold SBd at y h ⊢
        simp only [List.length_append, List.length_cons, List.length_nil]
        omega
    · rw [if_neg q]
      exact ⟨fun z => absurd z (by simp), fun _ => h⟩
theorem b_bin (O : TkOK K n by_) {c1 o1 c2 o2 : Nat} (h1 : c1 ≠ 0) (h2 : c2 ≠ 0) {P : Ps Int64} (hP : PBd K (SBd K) P) : PBd K (SBd K) (binP K c1 o1 c2 o2 P) := fun i l a hi hl => by
  unfold binP
  have z := hP i l a hi hl
  by_cases e : (P i l a).1 = 0
  · rw [thn_0 e]
    exact ⟨fun _ => z.1 e, fun z => absurd rfl z⟩
  · rw [thn_1 e]
    exact b_binL O h1 h2 hP a i l 401 _ _ _ _ (z.2 e)
theorem b_jmpL (O : TkOK K n by_) {c o : Nat} (h1 : c ≠ 0) {P : Ps Bool} (hP : PBd K (TBd K) P) (a i0 l0 : Nat) (f : Nat) : ∀ i l cs v, TBd K i0 l0 i l cs →
    ((jmpL K c o P a f i l cs v).1 = 0 → (jmpL K c o P a f i l cs v).2.1 ≤ tm_ K) ∧ ((jmpL K c o P a f i l cs v).1 ≠ 0 → TBd K i0 l0 (jmpL K c o P a f i l cs v).2.1 (jmpL K c o P a f i l cs v).2.2.1 (jmpL K c o P a f i l cs v).2.2.2.1) := by
  induction f with
  | zero => exact fun i l cs v h => ⟨fun z => absurd z (by simp [jmpL]), fun _ => h⟩
  | succ f ih =>
    intro i l cs v h
    unfold jmpL
    by_cases q : trc K i = c
    · rw [if_pos q]
      have il := O.lt h.2.1 (by omega)
      have z := hP (i + 1) l (a + cs.length + 2) il h.2.2.1
      by_cases e : (P (i + 1) l (a + cs.length + 2)).1 = 0
      · rw [thn_0 e]
        exact ⟨fun _ => z.1 e, fun z => absurd rfl z⟩
      · rw [thn_1 e]
        apply ih
        have y := z.2 e
        have w := O.2.2.2.1 i il
        unfold TBd at y h ⊢
        simp only [List.length_append, List.length_cons, List.length_nil]
        omega
    · rw [if_neg q]
      exact ⟨fun z => absurd z (by simp), fun _ => h⟩
theorem b_jmp (O : TkOK K n by_) {c o : Nat} (h1 : c ≠ 0) {P : Ps Bool} (hP : PBd K (TBd K) P) : PBd K (TBd K) (jmpP K c o P) := fun i l a hi hl => by
  unfold jmpP
  have z := hP i l a hi hl
  by_cases e : (P i l a).1 = 0
  · rw [thn_0 e]
    exact ⟨fun _ => z.1 e, fun z => absurd rfl z⟩
  · rw [thn_1 e]
    exact b_jmpL O h1 hP a i l 401 _ _ _ _ (z.2 e)
theorem b_nots (O : TkOK K n by_) (f : Nat) : ∀ i b, i ≤ tm_ K → i ≤ (nots K f i b).1 ∧ (nots K f i b).1 ≤ tm_ K ∧ (((nots K f i b).2 = true ∧ b = false) → tpos K i + 3 ≤ tpos K (nots K f i b).1) ∧ tpos K i ≤ tpos K (nots K f i b).1 := by
  induction f with
  | zero => exact fun i b hi => ⟨Nat.le_refl _, hi, fun z => (by simp [nots] at z), Nat.le_refl _⟩
  | succ f ih =>
    intro i b hi
    unfold nots
    by_cases q : trc K i = 11
    · rw [if_pos q]
      have il := O.lt hi (by omega)
      have z := ih (i + 1) (!b) il
      have u := O.2.2.1 i hi
      unfold codeR at u
      have w := O.2.2.2.2.1 i il (by omega)
      exact ⟨by omega, z.2.1, fun _ => by omega, by omega⟩
    · rw [if_neg q]
      exact ⟨Nat.le_refl _, hi, fun z => (by simp_all), Nat.le_refl _⟩
theorem b_cmp (O : TkOK K n by_) {S : Ps Int64} (hS : PBd K (SBd K) S) : ∀ i l a, i ≤ tm_ K → l ≤ 50 →
    ((cmpP K S i l a).1 = 0 → (cmpP K S i l a).2.1 ≤ tm_ K) ∧ ((cmpP K S i l a).1 ≠ 0 → TBd K i l (cmpP K S i l a).2.1 (cmpP K S i l a).2.2.1 (cmpP K S i l a).2.2.2.1) := fun i l a hi hl => by
  unfold cmpP
  have z := hS i l a hi hl
  by_cases e : (S i l a).1 = 0
  · rw [thn_0 e]
    exact ⟨fun _ => z.1 e, fun z => absurd rfl z⟩
  rw [thn_1 e]
  have y := z.2 e
  by_cases q : trc K (S i l a).2.1 = 160 ∨ trc K (S i l a).2.1 = 162 ∨ trc K (S i l a).2.1 = 161
  · rw [if_pos q]
    have il := O.lt y.2.1 (by omega)
    have z2 := hS ((S i l a).2.1 + 1) (S i l a).2.2.1 (a + (S i l a).2.2.2.1.length) il y.2.2.1
    by_cases e2 : (S ((S i l a).2.1 + 1) (S i l a).2.2.1 (a + (S i l a).2.2.2.1.length)).1 = 0
    · rw [thn_0 e2]
      exact ⟨fun _ => z2.1 e2, fun z => absurd rfl z⟩
    · rw [thn_1 e2]
      refine ⟨fun z => absurd z (by simp), fun _ => ?_⟩
      have y2 := z2.2 e2
      have w := O.pos (i := i) (Nat.le_of_lt (Nat.lt_trans y.1 (Nat.lt_of_succ_lt y2.1))) y2.2.1
      unfold SBd at y y2
      unfold TBd
      simp only [List.length_append, List.length_cons, List.length_nil]
      omega
  · rw [if_neg q]
    exact ⟨fun _ => y.2.1, fun z => absurd rfl z⟩
theorem b_pos (O : TkOK K n by_) {br : Bool} {T : Ps Bool} {S : Ps Int64} (hT : br = true → PBd K (TBd K) T) (hS : PBd K (SBd K) S) : PBd K (TBd K) (posP K br T S) := fun i l a hi hl => by
  unfold posP
  by_cases c1 : trc K i = 140
  · rw [if_pos c1]
    by_cases c2 : br = true
    · rw [if_pos c2]
      have il := O.lt hi (by omega)
      have z := hT c2 (i + 1) l a il hl
      have w := b_close O (r := T (i + 1) l a) (c := 141) (by omega) z.1 (fun e => (z.2 e).2.1)
      refine ⟨w.1, fun e => ?_⟩
      obtain ⟨w1, w2, w3⟩ := w.2 e
      have := z.2 w1
      rw [w2]
      have p1 := O.2.2.2.1 i il
      have p2 := O.2.2.2.1 _ w3
      unfold TBd at this ⊢
      show i < (T (i + 1) l a).2.1 + 1 ∧ (T (i + 1) l a).2.1 + 1 ≤ tm_ K ∧ (T (i + 1) l a).2.2.1 ≤ 50 ∧ l ≤ (T (i + 1) l a).2.2.1 ∧ 3 * (T (i + 1) l a).2.2.2.1.length + 6 + 12 * l + tpos K i ≤ 12 * (T (i + 1) l a).2.2.1 + tpos K ((T (i + 1) l a).2.1 + 1)
      omega
    · rw [if_neg c2]
      exact ⟨fun _ => hi, fun z => absurd rfl z⟩
  · rw [if_neg c1]
    exact b_cmp O hS i l a hi hl
theorem b_plain (O : TkOK K n by_) {br : Bool} {T : Ps Bool} {S : Ps Int64} (hT : br = true → PBd K (TBd K) T) (hS : PBd K (SBd K) S) : PBd K (TBd K) (plainP K br T S) := fun i l a hi hl => by
  unfold plainP
  have q := b_nots O 401 i false hi
  have z := b_pos O hT hS (nots K 401 i false).1 l a q.2.1 hl
  by_cases e : (posP K br T S (nots K 401 i false).1 l a).1 = 0
  · rw [thn_0 e]
    exact ⟨fun _ => z.1 e, fun z => absurd rfl z⟩
  · rw [thn_1 e]
    have y := z.2 e
    by_cases t : (nots K 401 i false).2 = true
    · rw [if_pos t]
      refine ⟨fun z => absurd z (by simp), fun _ => ?_⟩
      have q3 := q.2.2.1 ⟨t, rfl⟩
      unfold TBd at y ⊢
      simp only [List.length_append, List.length_cons, List.length_nil]
      omega
    · rw [if_neg t]
      refine ⟨fun z => absurd z (by simp), fun _ => ?_⟩
      unfold TBd at y ⊢
      dsimp only
      omega
theorem b_sum (O : TkOK K n by_) (d : Nat) : PBd K (SBd K) (sumP K d) := by
  induction d with
  | zero => exact b_bin O (by decide) (by decide) (b_bin O (by decide) (by decide) (b_part O (fun z => absurd z (by decide))))
  | succ d ih => exact b_bin O (by decide) (by decide) (b_bin O (by decide) (by decide) (b_part O (fun _ => ih)))
theorem b_test (O : TkOK K n by_) (d : Nat) : PBd K (TBd K) (testP K d) := by
  induction d with
  | zero => exact b_jmp O (by decide) (b_jmp O (by decide) (b_plain O (fun z => absurd z (by decide)) (b_sum O 0)))
  | succ d ih => exact b_jmp O (by decide) (b_jmp O (by decide) (b_plain O (fun _ => ih) (b_sum O (d + 1))))
end PLAINB
