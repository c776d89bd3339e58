/-! COSTS: sums over readings and sums over notes are one -/
def nKey (A : Nat → Int32) (n : Nat) : Nat := 100 * nt A n 1 + nt A n 2
def wrQ (A : Nat → Int32) (n : Nat) : Bool := decide (A (340 + 5 * n + 4) = 0)
def agS (A : Nat → Int32) (w : Nat → Nat → Nat) (a b : Nat) : Nat := sumN mN fun m => if hasM A a m && hasM A b m then wM w m else 0
theorem key_dm {p w : Nat} (h : w < 100) : (100 * p + w) / 100 = p ∧ (100 * p + w) % 100 = w := by omega
theorem key_inj {p w p' w' : Nat} (h : w < 100) (h' : w' < 100) (e : 100 * p + w = 100 * p' + w') : p = p' ∧ w = w' := by omega
theorem hasM_iff {A : Nat → Int32} (K : ShOK A) {c m : Nat} (hc : c < 2 ^ 31) (hm : m < mN) : hasM A c m = true ↔ ∃ n, n < nN A ∧ wrQ A n = true ∧ nt A n 0 = c ∧ nKey A n = m := by
  have hm' : m < 6000 := hm
  unfold hasM hasQ
  rw [anyN_true]
  constructor
  · rintro ⟨n, hn, q⟩
    obtain ⟨q0, q1, q2, q3⟩ := (noteQ_iff K hn hc (by omega) (by omega) 0).mp q
    refine ⟨n, hn, decide_eq_true q3, q0, ?_⟩
    unfold nKey
    omega
  · rintro ⟨n, hn, q3, q0, q1⟩
    have b2 : nt A n 2 < 100 := (K.2.2.2.2.2.1 n hn).2.2.1.2
    unfold nKey at q1
    exact ⟨n, hn, (noteQ_iff K hn hc (by omega) (by omega) 0).mpr ⟨q0, by omega, by omega, of_decide_eq_true q3⟩⟩
theorem note_one {A : Nat → Int32} (K : ShOK A) {n n' : Nat} (hn : n < nN A) (hn' : n' < nN A) (w1 : wrQ A n = true) (w2 : wrQ A n' = true) (e0 : nt A n 0 = nt A n' 0) (e1 : nKey A n = nKey A n') : n = n' := by
  have key : ∀ n n', n < n' → n' < nN A → wrQ A n = true → wrQ A n' = true → nt A n 0 = nt A n' 0 → nKey A n = nKey A n' → False := by
    intro n n' h1 h2 w1 w2 e0 e1
    obtain ⟨k0, k1, k2, _, _⟩ := K.2.2.2.2.2.1 n (by omega)
    obtain ⟨j0, j1, j2, _, _⟩ := K.2.2.2.2.2.1 n' h2
    have b2 : nt A n 2 < 100 := k2.2
    have b2' : nt A n' 2 < 100 := j2.2
    obtain ⟨f1, f2⟩ := key_inj b2 b2' e1
    refine K.2.2.2.2.2.2.1 n n' h1 h2 ⟨?_, ?_, ?_, ?_⟩
    · rw [k0.1, j0.1]
      exact congrArg nI e0
    · rw [k1.1, j1.1]
      exact congrArg nI f1
    · rw [k2.1, j2.1]
      exact congrArg nI f2
    · rw [of_decide_eq_true w1, of_decide_eq_true w2]
  by_cases l : n < n'
  · exact absurd (key n n' l hn' w1 w2 e0 e1) id
  · by_cases g : n' < n
    · exact absurd (key n' n g hn w2 w1 e0.symm e1.symm) id
    · omega
theorem nKey_lt {A : Nat → Int32} (K : ShOK A) {n : Nat} (hn : n < nN A) : nKey A n < mN := by
  obtain ⟨_, k1, k2, _, _⟩ := K.2.2.2.2.2.1 n hn
  have b1 : nt A n 1 < 60 := k1.2
  have b2 : nt A n 2 < 100 := k2.2
  show 100 * nt A n 1 + nt A n 2 < 6000
  omega
theorem note_sum {A : Nat → Int32} (K : ShOK A) (w : Nat → Nat → Nat) {a b : Nat} (ha : a < 2 ^ 31) (hb : b < 2 ^ 31) (G : Nat → Bool) :
    sumN (nN A) (fun n => if (wrQ A n && (decide (nt A n 0 = a) || (decide (nt A n 0 = b) && !hasM A a (nKey A n)))) && G (nKey A n) then wM w (nKey A n) else 0) = sumN mN fun m => if (hasM A a m || hasM A b m) && G m then wM w m else 0 := by
  have z := sumN_inj (n := nN A) (m := mN) (v := nKey A) (p := fun n => (wrQ A n && (decide (nt A n 0 = a) || (decide (nt A n 0 = b) && !hasM A a (nKey A n)))) && G (nKey A n)) (f := wM w) (fun i hi _ => nKey_lt K hi) (fun i j hi hj pi pj e => by
    simp only [Bool.and_eq_true, Bool.or_eq_true, decide_eq_true_eq, Bool.not_eq_true'] at pi pj
    rcases pi.1.2 with q1 | ⟨q1, q2⟩
    · rcases pj.1.2 with r1 | ⟨r1, r2⟩
      · exact note_one K hi hj pi.1.1 pj.1.1 (q1.trans r1.symm) e
      · rw [← e, (hasM_iff K ha (nKey_lt K hi)).mpr ⟨i, hi, pi.1.1, q1, rfl⟩] at r2
        cases r2
    · rcases pj.1.2 with r1 | ⟨r1, r2⟩
      · rw [e, (hasM_iff K ha (nKey_lt K hj)).mpr ⟨j, hj, pj.1.1, r1, rfl⟩] at q2
        cases q2
      · exact note_one K hi hj pi.1.1 pj.1.1 (q1.trans r1.symm) e)
  refine z.trans (sumN_cong (fun m hm => ?_))
  have e : (anyN (nN A) fun i => ((wrQ A i && (decide (nt A i 0 = a) || (decide (nt A i 0 = b) && !hasM A a (nKey A i)))) && G (nKey A i)) && decide (nKey A i = m)) = ((hasM A a m || hasM A b m) && G m) := by
    apply Bool.eq_iff_iff.mpr
    rw [anyN_true]
    simp only [Bool.and_eq_true, Bool.or_eq_true, decide_eq_true_eq, Bool.not_eq_true']
    constructor
    · rintro ⟨n, hn, ⟨⟨q1, q2⟩, q3⟩, q4⟩
      rw [q4] at q3
      refine ⟨?_, q3⟩
      rcases q2 with q | ⟨q, _⟩
      · exact Or.inl ((hasM_iff K ha hm).mpr ⟨n, hn, q1, q, q4⟩)
      · exact Or.inr ((hasM_iff K hb hm).mpr ⟨n, hn, q1, q, q4⟩)
    · rintro ⟨q, q3⟩
      cases ea : hasM A a m with
      | true =>
        obtain ⟨n, hn, n1, n2, n3⟩ := (hasM_iff K ha hm).mp ea
        exact ⟨n, hn, ⟨⟨n1, Or.inl n2⟩, by rw [n3]; exact q3⟩, n3⟩
      | false =>
        rw [ea] at q
        obtain ⟨n, hn, n1, n2, n3⟩ := (hasM_iff K hb hm).mp (q.resolve_left (by decide))
        exact ⟨n, hn, ⟨⟨n1, Or.inr ⟨n2, by rw [n3]; exact ea⟩⟩, by rw [n3]; exact q3⟩, n3⟩
  rw [e]
def wOK (w : Nat → Nat → Nat) : Prop := ∀ p v, w p v ≤ 100
theorem note_sum_le {A : Nat → Int32} (K : ShOK A) {w : Nat → Nat → Nat} (hw : wOK w) {a b : Nat} (ha : a < 2 ^ 31) (hb : b < 2 ^ 31) (G : Nat → Bool) : (sumN mN fun m => if (hasM A a m || hasM A b m) && G m then wM w m else 0) ≤ 20000 := by
  have kN : nN A < 201 := K.1.2.2.2.1.2
  rw [← note_sum K w ha hb G]
  refine Nat.le_trans (sumN_le (b := 100) (fun n _ => ?_)) (by omega)
  split
  · exact hw _ _
  · exact Nat.zero_le _
theorem one_G {A : Nat → Int32} {w : Nat → Nat → Nat} {c : Nat} (G : Nat → Bool) : (sumN mN fun m => if hasM A c m && G m then wM w m else 0) = sumN mN fun m => if (hasM A c m || hasM A c m) && G m then wM w m else 0 := sumN_cong (fun m _ => by rw [Bool.or_self])
theorem ownS_G {A : Nat → Int32} {w : Nat → Nat → Nat} {c : Nat} : ownS A w c = sumN mN fun m => if (hasM A c m || hasM A c m) && true then wM w m else 0 := sumN_cong (fun m _ => by rw [Bool.or_self, Bool.and_true])
theorem ownS_le {A : Nat → Int32} (K : ShOK A) {w : Nat → Nat → Nat} (hw : wOK w) {c : Nat} (hc : c < 2 ^ 31) : ownS A w c ≤ 20000 := by
  rw [ownS_G]
  exact note_sum_le K hw hc hc (fun _ => true)
theorem addS_le {A : Nat → Int32} (K : ShOK A) {w : Nat → Nat → Nat} (hw : wOK w) {a b c : Nat} (hc : c < 2 ^ 31) : addS A w a b c ≤ 20000 := by
  unfold addS
  rw [one_G]
  exact note_sum_le K hw hc hc _
theorem leaS_le {A : Nat → Int32} (K : ShOK A) {w : Nat → Nat → Nat} (hw : wOK w) {a b c : Nat} (ha : a < 2 ^ 31) (hb : b < 2 ^ 31) : leaS A w a b c ≤ 20000 := note_sum_le K hw ha hb _
theorem agS_le {A : Nat → Int32} (K : ShOK A) {w : Nat → Nat → Nat} (hw : wOK w) {a b : Nat} (ha : a < 2 ^ 31) : agS A w a b ≤ 20000 := by
  unfold agS
  rw [one_G]
  exact note_sum_le K hw ha ha _
theorem agS_symm {A : Nat → Int32} {w : Nat → Nat → Nat} (a b : Nat) : agS A w a b = agS A w b a := sumN_cong (fun m _ => by rw [Bool.and_comm])
theorem terms_le {A : Nat → Int32} (K : ShOK A) : tm A 0 < 10 ∧ tm A 1 < 10 ∧ tm A 2 < 10 ∧ tm A 3 < 1001 := ⟨K.2.2.2.2.2.2.2.2.1.1.1.2, K.2.2.2.2.2.2.2.2.1.2.1.2, K.2.2.2.2.2.2.2.2.1.2.2.1.1.2, K.2.2.2.2.2.2.2.2.1.2.2.2.2⟩
theorem terms_eq {A : Nat → Int32} (K : ShOK A) : A 1340 = nI (tm A 0) ∧ A 1341 = nI (tm A 1) ∧ A 1342 = nI (tm A 2) ∧ A 1343 = nI (tm A 3) := ⟨K.2.2.2.2.2.2.2.2.1.1.1.1, K.2.2.2.2.2.2.2.2.1.2.1.1, K.2.2.2.2.2.2.2.2.1.2.2.1.1.1, K.2.2.2.2.2.2.2.2.1.2.2.2.1⟩
/-! the class's side -/
/-- what readings hold, in short -/
def RdS (h : pg_H) (A : Nat → Int32) (w : Nat → Nat → Nat) (R : Nat) (key : Nat → Nat) : Prop := (R ≤ 200 ∧ pg_i h 50 8 = nI R) ∧
  (∀ r, r < R → key r < mN ∧ pg_i h 51 r = nI (key r / 100) ∧ pg_i h 53 r = nI (mk 12 fun c => hasM A c (key r)) ∧ pg_i h 54 r = nI (wM w (key r))) ∧
  (∀ r r', r < R → r' < R → key r = key r' → r = r') ∧
  (∀ c m, c < 12 → m < mN → hasM A c m = true → ∃ r, r < R ∧ key r = m) ∧
  (∀ p, p < 60 → pg_i h 57 p = nI (mk 12 fun c => kindQ A (nI c) (nI p) 1))
theorem Rd.short {h : pg_H} {A : Nat → Int32} {w : Nat → Nat → Nat} (K : ShOK A) (D : Rd h A w) : ∃ R key, RdS h A w R key := by
  obtain ⟨R, pl, wd, p1, p2, p3, p4, p5, p6⟩ := D
  refine ⟨R, fun r => 100 * pl r + wd r, p1, fun r hr => ?_, fun r r' hr hr' e => ?_, fun c m hc hm e => ?_, fun p hp => (p6 p hp).2⟩
  · obtain ⟨⟨l1, l2⟩, q1, q2, q3, q4, q5⟩ := p2 r hr
    have d := key_dm (p := pl r) l2
    refine ⟨by show 100 * pl r + wd r < 6000; omega, ?_, ?_, ?_⟩
    · rw [q1, d.1]
    · rw [q3]
      unfold hasM
      rw [d.1, d.2]
    · rw [q4]
      unfold wM
      rw [d.1, d.2]
  · obtain ⟨⟨l1, l2⟩, _⟩ := p2 r hr
    obtain ⟨⟨l1', l2'⟩, _⟩ := p2 r' hr'
    obtain ⟨e1, e2⟩ := key_inj l2 l2' e
    exact p3 r r' hr hr' e1 e2
  · obtain ⟨n, hn, n1, n2, n3⟩ := (hasM_iff K (by omega) hm).mp e
    obtain ⟨r, r1, r2, r3⟩ := p4 n hn (of_decide_eq_true n1)
    exact ⟨r, r1, by rw [← n3]; show 100 * pl r + wd r = 100 * nt A n 1 + nt A n 2; rw [r2, r3]⟩
theorem rd_sum {h : pg_H} {A : Nat → Int32} {w : Nat → Nat → Nat} {R : Nat} {key : Nat → Nat} (S : RdS h A w R key) (P : Nat → Bool) (hP : ∀ m, m < mN → P m = true → ∃ c, c < 12 ∧ hasM A c m = true) : sumN R (fun r => if P (key r) then wM w (key r) else 0) = sumN mN fun m => if P m then wM w m else 0 := by
  obtain ⟨_, s2, s3, s4, _⟩ := S
  have z := sumN_inj (n := R) (m := mN) (v := key) (p := fun r => P (key r)) (f := wM w) (fun i hi _ => (s2 i hi).1) (fun i j hi hj _ _ e => s3 i j hi hj e)
  refine z.trans (sumN_cong (fun m hm => ?_))
  have e : (anyN R fun i => P (key i) && decide (key i = m)) = P m := by
    apply Bool.eq_iff_iff.mpr
    rw [anyN_true]
    simp only [Bool.and_eq_true, decide_eq_true_eq]
    constructor
    · rintro ⟨i, hi, q1, q2⟩
      rw [← q2]
      exact q1
    · intro q
      obtain ⟨c, c1, c2⟩ := hP m hm q
      obtain ⟨r, r1, r2⟩ := s4 c m c1 hm c2
      exact ⟨r, r1, by rw [r2]; exact q, r2⟩
  rw [e]
theorem b01_mul (b : Bool) (x : Nat) : b01 b * nI x = nI (if b then x else 0) := by
  cases b with
  | true =>
    show (1 : Int32) * nI x = nI x
    rw [show (1 : Int32) = nI 1 from rfl, nI_mul, Nat.one_mul]
  | false =>
    show (0 : Int32) * nI x = nI 0
    rw [show (0 : Int32) = nI 0 from rfl, nI_mul, Nat.zero_mul]
theorem c_ownCost {h : pg_H} {A : Nat → Int32} {w : Nat → Nat → Nat} {R : Nat} {key : Nat → Nat} (L : Lay h) (C : CNum h 2 A) (K : ShOK A) (S : RdS h A w R key) {c : Nat} (hc : c < 12) : F_X4_ownCost h 50 2 (nI c) = some (nI (tm A 2 * ownS A w c)) := by
  have tot := rd_sum S (fun m => hasM A c m) (fun m _ e => ⟨c, hc, e⟩)
  obtain ⟨⟨s1, s2⟩, s3, _, _, _⟩ := S
  unfold F_X4_ownCost
  have z := loopF (fun f i x => F_X4_ownCost_5 h f 50 2 (nI c) (nI x) (nI i)) (R) (fun i x => x + (if hasM A c (key i) then wM w (key i) else 0)) (some (nI (tm A 2 * ownS A w c))) (fun _ _ => True) 0 ?_ (fun _ _ _ _ _ => trivial) ?_ trivial pg_fuel (by unfold pg_fuel; omega)
  · exact z
  · intro f i x hi _ _
    obtain ⟨_, _, q1, q2⟩ := s3 i hi
    have b : i < 200 := by omega
    show F_X4_ownCost_5 h (f + 1) 50 2 (nI c) (nI x) (nI i) = F_X4_ownCost_5 h f 50 2 (nI c) (nI (x + (if hasM A c (key i) then wM w (key i) else 0))) (nI (i + 1))
    rw [F_X4_ownCost_5]
    dsimp only
    rw [ng_50 L.kd, Option.bind_some, s2, if_pos (nI_lt hi (by omega)), nR_50_2 L.kd L.rd, Option.bind_some, na_53 L.kd b, Option.bind_some, nR_50_3 L.kd L.rd, Option.bind_some, na_54 L.kd b, Option.bind_some, q1, q2, ix_bit (Nat.lt_of_lt_of_le (mk_lt 12 _) (by decide)) (by omega), mk_bit, decide_eq_true hc, Bool.true_and, b01_mul]
    unfold pg_let
    rw [nI_add, nI_1]
  · intro f _
    rw [show (foldN R (fun i x => x + (if hasM A c (key i) then wM w (key i) else 0)) 0) = ownS A w c from foldN_sum.trans tot]
    show F_X4_ownCost_5 h (f + 1) 50 2 (nI c) (nI (ownS A w c)) (nI (R)) = _
    rw [F_X4_ownCost_5]
    dsimp only
    rw [ng_50 L.kd, Option.bind_some, s2, if_neg Int32.lt_irrefl, nR_2_5 L.kd L.rd, Option.bind_some, show (2 : Int32) = nI 2 from rfl, na_13 L.kd (by decide), Option.bind_some, show pg_i h 13 2 = A 1342 from C.2.2.2.2.2.1 2 (by decide), (terms_eq K).2.2.1, nI_mul, Nat.mul_comm]
theorem mk_eq_iff {n : Nat} {f g : Nat → Bool} : mk n f = mk n g ↔ ∀ i, i < n → f i = g i := by
  constructor
  · intro e i hi
    have z := congrArg (fun m => m.testBit i) e
    rw [mk_bit, mk_bit, decide_eq_true hi, Bool.true_and, Bool.true_and] at z
    exact z
  · exact mk_cong
theorem nI_mk_eq {f g : Nat → Bool} : nI (mk 12 f) = nI (mk 12 g) ↔ ∀ i, i < 12 → f i = g i := by
  rw [nI_eq (Nat.lt_of_lt_of_le (mk_lt 12 _) (by decide)) (Nat.lt_of_lt_of_le (mk_lt 12 _) (by decide))]
  exact mk_eq_iff
def pairE (a b : Nat) : Nat → Bool := fun x => decide (x = a) || decide (x = b)
theorem pair_had {f : Nat → Bool} {a b : Nat} (ha : a < 12) (hb : b < 12) : (nI (mk 12 f) &&& nI (mk 12 (pairE a b)) = 0) ↔ (f a || f b) = false := by
  rw [ix_and, mk_and, show (0 : Int32) = nI (mk 12 fun _ => false) from by decide, nI_mk_eq]
  constructor
  · intro z
    have z1 := z a ha
    have z2 := z b hb
    unfold pairE at z1 z2
    rw [decide_eq_true rfl, Bool.true_or, Bool.and_true] at z1
    rw [decide_eq_true (show b = b from rfl), Bool.or_true, Bool.and_true] at z2
    rw [z1, z2]
    rfl
  · intro z i hi
    rw [Bool.or_eq_false_iff] at z
    unfold pairE
    by_cases e1 : i = a
    · rw [e1, z.1, Bool.false_and]
    · by_cases e2 : i = b
      · rw [e2, z.2, Bool.false_and]
      · rw [decide_eq_false e1, decide_eq_false e2, Bool.or_self, Bool.and_false]
theorem pair_all {f : Nat → Bool} {a b : Nat} (ha : a < 12) (hb : b < 12) : (nI (mk 12 f) &&& nI (mk 12 (pairE a b)) = nI (mk 12 (pairE a b))) ↔ (f a && f b) = true := by
  rw [ix_and, mk_and, nI_mk_eq]
  constructor
  · intro z
    have z1 := z a ha
    have z2 := z b hb
    unfold pairE at z1 z2
    rw [decide_eq_true rfl, Bool.true_or, Bool.and_true] at z1
    rw [decide_eq_true (show b = b from rfl), Bool.or_true, Bool.and_true] at z2
    rw [z1, z2]
    rfl
  · intro z i hi
    rw [Bool.and_eq_true] at z
    unfold pairE
    by_cases e1 : i = a
    · rw [e1, z.1, Bool.true_and]
    · by_cases e2 : i = b
      · rw [e2, z.2, Bool.true_and]
      · rw [decide_eq_false e1, decide_eq_false e2, Bool.or_self, Bool.and_false]
def adQ (A : Nat → Int32) (a b c m : Nat) : Bool := hasM A c m && (!hasM A a m && (!hasM A b m && !(cutM A a m && cutM A b m)))
def leQ (A : Nat → Int32) (a b c m : Nat) : Bool := (hasM A a m || hasM A b m) && (!hasM A c m && !cutM A c m)
theorem c_costFrom {h : pg_H} {A : Nat → Int32} {w : Nat → Nat → Nat} {R : Nat} {key : Nat → Nat} (L : Lay h) (C : CNum h 2 A) (K : ShOK A) (S : RdS h A w R key) {a b c : Nat} (ha : a < 12) (hb : b < 12) (hc : c < 12) : F_X4_costFrom h 50 2 (nI (mk 12 (pairE a b))) (nI c) = some (nI (frC A w a b c)) := by
  have tot1 : sumN R (fun r => if adQ A a b c (key r) then wM w (key r) else 0) = addS A w a b c := rd_sum S (fun m => adQ A a b c m) (fun m _ e => ⟨c, hc, by
    unfold adQ at e
    rw [Bool.and_eq_true] at e
    exact e.1⟩)
  have tot2 : sumN R (fun r => if leQ A a b c (key r) then wM w (key r) else 0) = leaS A w a b c := rd_sum S (fun m => leQ A a b c m) (fun m _ e => by
    unfold leQ at e
    rw [Bool.and_eq_true, Bool.or_eq_true] at e
    rcases e.1 with e | e
    · exact ⟨a, ha, e⟩
    · exact ⟨b, hb, e⟩)
  obtain ⟨⟨s1, s2⟩, s3, _, _, s5⟩ := S
  unfold F_X4_costFrom
  have z := loopF (fun f i (x : Nat × Nat) => F_X4_costFrom_9 h f 50 2 (nI (mk 12 (pairE a b))) (nI c) (nI x.1) (nI x.2) (nI i)) R (fun i x => (x.1 + (if adQ A a b c (key i) then wM w (key i) else 0), x.2 + (if leQ A a b c (key i) then wM w (key i) else 0))) (some (nI (frC A w a b c))) (fun _ _ => True) ((0 : Nat), (0 : Nat)) ?_ (fun _ _ _ _ _ => trivial) ?_ trivial pg_fuel (by unfold pg_fuel; omega)
  · exact z
  · intro f i x hi _ _
    obtain ⟨km, q0, q1, q2⟩ := s3 i hi
    have km' : key i < 6000 := km
    have bi : i < 200 := by omega
    have bp : key i / 100 < 60 := by omega
    have q3 := s5 _ bp
    have bitc : ∀ g : Nat → Bool, (nI (mk 12 g) >>> (nI c &&& 31)) &&& (1 : Int32) = b01 (g c) := fun g => by rw [ix_bit (Nat.lt_of_lt_of_le (mk_lt 12 _) (by decide)) (by omega), mk_bit, decide_eq_true hc, Bool.true_and]
    have f137 : ∀ u v, F_X4_costFrom_137 h (F_X4_costFrom_9 h f) 50 2 (nI (mk 12 (pairE a b))) (nI c) u v (nI i) = F_X4_costFrom_9 h f 50 2 (nI (mk 12 (pairE a b))) (nI c) u v (nI (i + 1)) := fun u v => by
      unfold F_X4_costFrom_137
      rw [nI_1]
    have cutc : kindQ A (nI c) (nI (key i / 100)) 1 = cutM A c (key i) := rfl
    have cuta : kindQ A (nI a) (nI (key i / 100)) 1 = cutM A a (key i) := rfl
    have cutb : kindQ A (nI b) (nI (key i / 100)) 1 = cutM A b (key i) := rfl
    have f106 : ∀ (hs hd : Bool), F_X4_costFrom_106 h (F_X4_costFrom_9 h f) 50 2 (nI (mk 12 (pairE a b))) (nI c) (nI x.1) (nI x.2) (nI i) (b01 hs) (b01 hd) (nI (mk 12 fun c => kindQ A (nI c) (nI (key i / 100)) 1)) = F_X4_costFrom_9 h f 50 2 (nI (mk 12 (pairE a b))) (nI c) (nI x.1) (nI (x.2 + (if hd && (!hs && !cutM A c (key i)) then wM w (key i) else 0))) (nI (i + 1)) := fun hs hd => by
      unfold F_X4_costFrom_106 pg_let
      rw [if_bb, if_bb, bitc, if_bb, cutc]
      cases hd with
      | false =>
        rw [if_neg (by decide), f137]
        rfl
      | true =>
        rw [if_pos rfl]
        cases hs with
        | true =>
          rw [if_pos rfl, f137]
          rfl
        | false =>
          rw [if_neg (by decide)]
          cases cutM A c (key i) with
          | true =>
            rw [if_pos rfl, f137]
            rfl
          | false =>
            rw [if_neg (by decide), nR_50_3 L.kd L.rd, Option.bind_some, na_54 L.kd bi, Option.bind_some, q2, nI_add]
            dsimp only
            rw [f137]
            rfl
    show F_X4_costFrom_9 h (f + 1) 50 2 (nI (mk 12 (pairE a b))) (nI c) (nI x.1) (nI x.2) (nI i) = F_X4_costFrom_9 h f 50 2 (nI (mk 12 (pairE a b))) (nI c) (nI (x.1 + (if adQ A a b c (key i) then wM w (key i) else 0))) (nI (x.2 + (if leQ A a b c (key i) then wM w (key i) else 0))) (nI (i + 1))
    rw [F_X4_costFrom_9]
    dsimp only
    rw [ng_50 L.kd, Option.bind_some, s2, if_pos (nI_lt hi (by omega)), nR_50_2 L.kd L.rd, Option.bind_some, na_53 L.kd bi, Option.bind_some, q1, bitc]
    have first : ∀ hs : Bool, F_X4_costFrom_38 h (F_X4_costFrom_9 h f) 50 2 (nI (mk 12 (pairE a b))) (nI c) (nI x.1) (nI x.2) (nI i) (b01 hs) = F_X4_costFrom_57 h (F_X4_costFrom_9 h f) 50 2 (nI (mk 12 (pairE a b))) (nI c) (nI x.1) (nI x.2) (nI i) (b01 hs) (b01 (hasM A a (key i) || hasM A b (key i))) := fun hs => by
      unfold F_X4_costFrom_38
      rw [nR_50_2 L.kd L.rd, Option.bind_some, na_53 L.kd bi, Option.bind_some, q1]
      cases e : (hasM A a (key i) || hasM A b (key i)) with
      | false =>
        rw [if_pos ((pair_had (f := fun c => hasM A c (key i)) ha hb).mpr e)]
        rfl
      | true =>
        rw [if_neg (fun z => by
          have := (pair_had (f := fun c => hasM A c (key i)) ha hb).mp z
          rw [e] at this
          cases this)]
        rfl
    have second : ∀ hs hd : Bool, F_X4_costFrom_57 h (F_X4_costFrom_9 h f) 50 2 (nI (mk 12 (pairE a b))) (nI c) (nI x.1) (nI x.2) (nI i) (b01 hs) (b01 hd) = F_X4_costFrom_9 h f 50 2 (nI (mk 12 (pairE a b))) (nI c) (nI (x.1 + (if hs && (!hd && !(cutM A a (key i) && cutM A b (key i))) then wM w (key i) else 0))) (nI (x.2 + (if hd && (!hs && !cutM A c (key i)) then wM w (key i) else 0))) (nI (i + 1)) := fun hs hd => by
      unfold F_X4_costFrom_57 pg_let
      rw [nR_50_6 L.kd L.rd, Option.bind_some, nR_50_0 L.kd L.rd, Option.bind_some, na_51 L.kd bi, Option.bind_some, q0, na_57 L.kd bp, Option.bind_some, q3, if_bb, if_bb, f106]
      cases hs with
      | false =>
        rw [if_neg (by decide)]
        rfl
      | true =>
        rw [if_pos rfl]
        cases hd with
        | true =>
          rw [if_pos rfl]
          rfl
        | false =>
          rw [if_neg (by decide)]
          by_cases e : (cutM A a (key i) && cutM A b (key i)) = true
          · rw [if_pos ((pair_all (f := fun c => kindQ A (nI c) (nI (key i / 100)) 1) ha hb).mpr e), e]
            rfl
          · rw [if_neg (fun z => e ((pair_all (f := fun c => kindQ A (nI c) (nI (key i / 100)) 1) ha hb).mp z)), nR_50_3 L.kd L.rd, Option.bind_some, na_54 L.kd bi, Option.bind_some, q2, nI_add]
            dsimp only
            rw [f137]
            rw [Bool.not_eq_true] at e
            rw [e]
            rfl
    have ad : adQ A a b c (key i) = (hasM A c (key i) && (!(hasM A a (key i) || hasM A b (key i)) && !(cutM A a (key i) && cutM A b (key i)))) := by
      unfold adQ
      cases hasM A a (key i) <;> cases hasM A b (key i) <;> rfl
    rw [ad]
    unfold leQ
    cases e : hasM A c (key i) with
    | true =>
      rw [if_pos (show b01 true = 1 from rfl), show (1 : Int32) = b01 true from rfl, first, second]
    | false =>
      rw [if_neg (show ¬ b01 false = 1 by decide), show (0 : Int32) = b01 false from rfl, first, second]
  · intro f _
    have fo : foldN R (fun i (x : Nat × Nat) => (x.1 + (if adQ A a b c (key i) then wM w (key i) else 0), x.2 + (if leQ A a b c (key i) then wM w (key i) else 0))) (0, 0) = (addS A w a b c, leaS A w a b c) := by
      rw [foldN_pair (f := fun i x => x + (if adQ A a b c (key i) then wM w (key i) else 0)) (g := fun i x => x + (if leQ A a b c (key i) then wM w (key i) else 0)), foldN_sum, foldN_sum, tot1, tot2]
    rw [fo]
    show F_X4_costFrom_9 h (f + 1) 50 2 (nI (mk 12 (pairE a b))) (nI c) (nI (addS A w a b c)) (nI (leaS A w a b c)) (nI R) = _
    rw [F_X4_costFrom_9]
    dsimp only
    rw [ng_50 L.kd, Option.bind_some, s2, if_neg Int32.lt_irrefl, nR_2_5 L.kd L.rd, Option.bind_some, show (0 : Int32) = nI 0 from rfl, na_13 L.kd (by decide), Option.bind_some, Option.bind_some, show (1 : Int32) = nI 1 from rfl, na_13 L.kd (by decide), Option.bind_some, show pg_i h 13 0 = A 1340 from C.2.2.2.2.2.1 0 (by decide), show pg_i h 13 1 = A 1341 from C.2.2.2.2.2.1 1 (by decide), (terms_eq K).1, (terms_eq K).2.1, nI_mul, nI_mul, nI_add]
    rfl
