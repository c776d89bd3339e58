/-! THE CLASS'S STEMMA: edges, nearest ones -/
theorem lW_toInt {n : Nat} (h : n < 2 ^ 63) : (lN n).toInt = (n : Int) := lg_ofNat_toInt h
theorem lW_lt {a b : Nat} (ha : a < 2 ^ 63) (hb : b < 2 ^ 63) : lN a < lN b ↔ a < b := by
  rw [Int64.lt_iff_toInt_lt, lW_toInt ha, lW_toInt hb]
  omega
theorem lW_eq {a b : Nat} (ha : a < 2 ^ 63) (hb : b < 2 ^ 63) : lN a = lN b ↔ a = b := by
  constructor
  · intro z
    have := congrArg Int64.toInt z
    rw [lW_toInt ha, lW_toInt hb] at this
    omega
  · exact fun z => by rw [z]
theorem lW_no {a : Nat} (ha : a < 2 ^ 63) : lN a ≠ -1 := fun z => by
  have := congrArg Int64.toInt z
  rw [lW_toInt ha] at this
  have : (a : Int) = -1 := this
  omega
def enL (o : Option Nat) : Int64 := o.elim (-1) lN
def EL (h : pg_H) (r m : Nat) (E : Nat → Nat → Option Nat) : Prop := ∀ f t, f < m → 1 ≤ t → t < m → pg_l h r (13 * f + t) = enL (E f t)
def EB (m : Nat) (E : Nat → Nat → Option Nat) : Prop := ∀ f t w, f < m → 1 ≤ t → t < m → E f t = some w → w < 2 ^ 62
def NR (m : Nat) (E : Nat → Nat → Option Nat) (t k : Nat) (b : Option Nat) : Prop :=
  (b = none → ∀ f, f < k → f ≠ t → E f t = none) ∧ ∀ n, b = some n → n < m ∧ n ≠ t ∧ ∃ w, E n t = some w ∧ ∀ f w', f < k → f ≠ t → E f t = some w' → w ≤ w'
def enI (o : Option Nat) : Int32 := o.elim (-1) nI
theorem nI_no {a : Nat} (ha : a < 2 ^ 31) : nI a ≠ -1 := fun z => by
  have := congrArg Int32.toInt z
  rw [nI_toInt ha] at this
  have : (a : Int) = -1 := this
  omega
theorem c_nearestTo {h : pg_H} {m : Nat} {E : Nat → Nat → Option Nat} (L : Lay h) (hm : m ≤ 13) (e : EL h 61 m E) (B : EB m E) {t : Nat} (t1 : 1 ≤ t) (t2 : t < m) :
    ∃ b, F_X6_nearestTo h 59 (nI t) (nI m) = some (enI b) ∧ NR m E t m b := by
  refine loopI (fun f i (b : Option Nat) => F_X6_nearestTo_5 h f 59 (nI t) (nI m) (enI b) (nI i)) m (fun i b => NR m E t i b) (fun o => ∃ b, o = some (enI b) ∧ NR m E t m b) ?_ ?_ 0 none (Nat.zero_le _) ⟨fun _ f hf => absurd hf (Nat.not_lt_zero f), fun n z => by cases z⟩ pg_fuel (by unfold pg_fuel; omega)
  · intro f i b hi ⟨b1, b2⟩
    have f65 : ∀ y, F_X6_nearestTo_65 h (F_X6_nearestTo_5 h f) 59 (nI t) (nI m) y (nI i) = F_X6_nearestTo_5 h f 59 (nI t) (nI m) y (nI (i + 1)) := fun y => by
      unfold F_X6_nearestTo_65
      rw [nI_1]
    have f62 : F_X6_nearestTo_62 h (F_X6_nearestTo_5 h f) 59 (nI t) (nI m) (nI i) = F_X6_nearestTo_5 h f 59 (nI t) (nI m) (enI (some i)) (nI (i + 1)) := f65 _
    have jx : ∀ i, nI i * (13 : Int32) + nI t = nI (13 * i + t) := fun i => by rw [show (13 : Int32) = nI 13 from rfl, nI_mul, nI_add, Nat.mul_comm]
    have skip : (i ≠ t → ∀ w, E i t = some w → ∃ n v, b = some n ∧ E n t = some v ∧ v ≤ w) → NR m E t (i + 1) b := fun no => by
      refine ⟨fun z g hg ne => ?_, fun n z => ?_⟩
      · by_cases q : g = i
        · cases ew : E g t with
          | none => rfl
          | some w =>
            rw [q] at ew ne
            obtain ⟨n, v, y, _⟩ := no ne w ew
            rw [z] at y
            cases y
        · exact b1 z g (by omega) ne
      · obtain ⟨z1, z2, w, z3, z4⟩ := b2 n z
        refine ⟨z1, z2, w, z3, fun g w' hg ne ew => ?_⟩
        by_cases q : g = i
        · rw [q] at ew ne
          obtain ⟨n', v, y1, y2, y3⟩ := no ne w' ew
          rw [z] at y1
          injection y1 with y1
          rw [← y1, z3] at y2
          injection y2 with y2
          omega
        · exact z4 g w' (by omega) ne ew
    show ∃ b', F_X6_nearestTo_5 h (f + 1) 59 (nI t) (nI m) (enI b) (nI i) = F_X6_nearestTo_5 h f 59 (nI t) (nI m) (enI b') (nI (i + 1)) ∧ _
    rw [F_X6_nearestTo_5]
    dsimp only
    rw [if_pos (nI_lt hi (by omega)), nR_59_1 L.kd L.rd, Option.bind_some, jx, na_61 L.kd (by omega), Option.bind_some, e i t hi t1 t2]
    by_cases it : i = t
    · rw [if_pos (show nI i = nI t by rw [it]), f65]
      exact ⟨b, rfl, skip (fun ne => absurd it ne)⟩
    · rw [if_neg (show ¬ nI i = nI t from fun z => it ((nI_eq (by omega) (by omega)).mp z))]
      cases ew : E i t with
      | none =>
        rw [if_pos (show enL none = -1 from rfl), f65]
        exact ⟨b, rfl, skip (fun _ w z => by rw [ew] at z; cases z)⟩
      | some w =>
        have wB := B i t w hi t1 t2 ew
        rw [if_neg (show ¬ enL (some w) = -1 from lW_no (by omega))]
        cases b with
        | none =>
          rw [if_pos (show enI none = -1 from rfl), f62]
          refine ⟨some i, rfl, (fun z => by cases z), fun n z => ?_⟩
          injection z with z
          subst z
          refine ⟨hi, it, w, ew, fun g w' hg ne q => ?_⟩
          by_cases y : g = i
          · rw [y, ew] at q
            injection q with q
            omega
          · rw [b1 rfl g (by omega) ne] at q
            cases q
        | some n =>
          obtain ⟨n1, n2, v, n3, n4⟩ := b2 n rfl
          have vB := B n t v n1 t1 t2 n3
          rw [if_neg (show ¬ enI (some n) = -1 from nI_no (by omega)), Option.bind_some, show enI (some n) = nI n from rfl, jx, na_61 L.kd (by omega), Option.bind_some, e n t n1 t1 t2, n3]
          by_cases lt : w < v
          · rw [if_pos (show enL (some w) < enL (some v) from (lW_lt (by omega) (by omega)).mpr lt), f62]
            refine ⟨some i, rfl, (fun z => by cases z), fun n' z => ?_⟩
            injection z with z
            subst z
            refine ⟨hi, it, w, ew, fun g w' hg ne q => ?_⟩
            by_cases y : g = i
            · rw [y, ew] at q
              injection q with q
              omega
            · have := n4 g w' (by omega) ne q
              omega
          · rw [if_neg (show ¬ enL (some w) < enL (some v) from fun z => lt ((lW_lt (by omega) (by omega)).mp z)), f65]
            refine ⟨some n, rfl, skip (fun _ w' z => ⟨n, v, rfl, n3, ?_⟩)⟩
            rw [ew] at z
            injection z with z
            omega
  · intro f b nb
    refine ⟨b, ?_, nb⟩
    show F_X6_nearestTo_5 h (f + 1) 59 (nI t) (nI m) (enI b) (nI m) = _
    rw [F_X6_nearestTo_5]
    dsimp only
    rw [if_neg Int32.lt_irrefl]
