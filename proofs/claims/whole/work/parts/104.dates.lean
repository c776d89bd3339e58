/-! DATES: first and last years, by both sides -/
def stF (A : Nat → Int32) (c : Int32) : Nat := foldN (nS A) (fun s x => if A (36 + 4 * s) = c then min x (st A s 2) else x) 401
def stT (A : Nat → Int32) (c : Int32) : Nat := foldN (nS A) (fun s x => if A (36 + 4 * s) = c then max x (st A s 3 + 1) else x) 0
def hdF (A : Nat → Int32) (c : Int32) : Nat := foldN (nH A) (fun k x => if isInQ A c (nI k) then max x (hd A k 0) else x) 0
def hdT (A : Nat → Int32) (c : Int32) : Nat := foldN (nH A) (fun k x => if isInQ A c (nI k) then min x (hd A k 1) else x) 400
def firstY (A : Nat → Int32) (c : Int32) : Nat := max (if stF A c = 401 then 0 else stF A c) (hdF A c)
def lastY (A : Nat → Int32) (c : Int32) : Nat := min (if stT A c = 0 then 400 else stT A c - 1) (hdT A c)
theorem foldN_max {n b : Nat} {p : Nat → Bool} {f : Nat → Nat} : foldN n (fun k x => if p k then max x (f k) else x) b = max b (foldN n (fun k x => if p k then max x (f k) else x) 0) := by
  induction n with
  | zero => exact (Nat.max_zero b).symm
  | succ n ih =>
    show (if p n then max (foldN n (fun k x => if p k then max x (f k) else x) b) (f n) else foldN n (fun k x => if p k then max x (f k) else x) b) = max b (if p n then max (foldN n (fun k x => if p k then max x (f k) else x) 0) (f n) else foldN n (fun k x => if p k then max x (f k) else x) 0)
    rw [ih]
    cases p n with
    | true => exact Nat.max_assoc _ _ _
    | false => rfl
theorem foldN_min {n b c : Nat} (h : b ≤ c) {p : Nat → Bool} {f : Nat → Nat} : foldN n (fun k x => if p k then min x (f k) else x) b = min b (foldN n (fun k x => if p k then min x (f k) else x) c) := by
  induction n with
  | zero => exact (Nat.min_eq_left h).symm
  | succ n ih =>
    show (if p n then min (foldN n (fun k x => if p k then min x (f k) else x) b) (f n) else foldN n (fun k x => if p k then min x (f k) else x) b) = min b (if p n then min (foldN n (fun k x => if p k then min x (f k) else x) c) (f n) else foldN n (fun k x => if p k then min x (f k) else x) c)
    rw [ih]
    cases p n with
    | true => exact Nat.min_assoc _ _ _
    | false => rfl
/-- what holds at the start and behind every turn holds at the end -/
theorem foldN_inv {σ : Type} {n : Nat} {f : Nat → σ → σ} {s : σ} (P : σ → Prop) (h0 : P s) (h1 : ∀ i x, i < n → P x → P (f i x)) : P (foldN n f s) := by
  induction n with
  | zero => exact h0
  | succ n ih => exact h1 n _ (by omega) (ih (fun i x hi => h1 i x (by omega)))
theorem nI_max {x y : Nat} (hx : x < 2 ^ 31) (hy : y < 2 ^ 31) : (if nI x < nI y then nI y else nI x) = nI (max x y) := by
  by_cases h : x < y
  · rw [if_pos (nI_lt h hy), Nat.max_eq_right (by omega)]
  · rw [if_neg (nI_nlt (by omega) hx), Nat.max_eq_left (by omega)]
theorem nI_min {x y : Nat} (hx : x < 2 ^ 31) (hy : y < 2 ^ 31) : (if nI y < nI x then nI y else nI x) = nI (min x y) := by
  by_cases h : y < x
  · rw [if_pos (nI_lt h hx), Nat.min_eq_right (by omega)]
  · rw [if_neg (nI_nlt (by omega) hy), Nat.min_eq_left (by omega)]
theorem neg1_ne {x : Nat} (h : x < 2 ^ 31) : nI x ≠ -1 := fun q => by
  have := congrArg Int32.toInt q
  rw [nI_toInt h] at this
  have t : (-1 : Int32).toInt = -1 := by decide
  omega
theorem neg1_lt {x : Nat} (h : x < 2 ^ 31) : (-1 : Int32) < nI x := by
  rw [Int32.lt_iff_toInt_lt, nI_toInt h]
  have t : (-1 : Int32).toInt = -1 := by decide
  omega
theorem neg1_nlt {x : Nat} (h : x < 2 ^ 31) : ¬ nI x < (-1 : Int32) := by
  rw [Int32.lt_iff_toInt_lt, nI_toInt h]
  have t : (-1 : Int32).toInt = -1 := by decide
  omega
theorem m_isIn {h : pg_H} {A : Nat → Int32} (L : Lay h) (M : pg_i h 83 = A) (K : ShOK A) (c k : Int32) : F_X12_isIn h 81 c k = some (b01 (isInQ A c k)) := by
  have kN : nN A < 201 := K.1.2.2.2.1.2
  have kE : A 1347 = nI (nN A) := K.1.2.2.2.1.1
  unfold F_X12_isIn
  have z := loopF (fun f i x => F_X12_isIn_5 h f 81 c k (b01 x) (nI i)) (nN A) (fun i x => x || (decide (A (340 + 5 * i) = c) && decide (A (340 + 5 * i + 3) = k))) (some (b01 (foldN (nN A) (fun i x => x || (decide (A (340 + 5 * i) = c) && decide (A (340 + 5 * i + 3) = k))) false))) (fun _ _ => True) false ?_ (fun _ _ _ _ _ => trivial) ?_ trivial pg_fuel (by unfold pg_fuel; omega)
  · refine z.trans (congrArg (fun x => some (b01 x)) ?_)
    unfold isInQ
    generalize nN A = m
    induction m with
    | zero => rfl
    | succ m ih => exact congrArg (· || _) ih
  · intro f i x hi _ _
    have h2 : i < 200 := by omega
    show F_X12_isIn_5 h (f + 1) 81 c k (b01 x) (nI i) = F_X12_isIn_5 h f 81 c k (b01 (x || (decide (A (340 + 5 * i) = c) && decide (A (340 + 5 * i + 3) = k)))) (nI (i + 1))
    rw [F_X12_isIn_5]
    dsimp only
    simp only [Option.bind_some, if_true, if_false, Int32.lt_irrefl, rc_81 L, gR_81_2 L, gR_81_3 L, gR_81_4 L, gR_81_5 L, gR_81_7 L, gR_81_8 L, gR_81_9 L, gR_81_12 L, gR_81_13 L, gR_81_14 L, gR_81_22 L, gR_81_25 L, gR_81_26 L, gR_81_27 L, gR_81_28 L, gR_81_29 L, gR_81_32 L, gR_81_33 L, gR_81_34 L, gR_81_35 L, gR_81_36 L, gR_81_37 L, gR_81_38 L, gR_81_39 L, gR_81_40 L, gR_81_41 L, gR_81_42 L, gR_81_43 L, m_k_1344 L M, m_k_1345 L M, m_k_1346 L M, m_k_1347 L M, m_k_1348 L M, m_k_1349 L M, m_note_0 L M h2, m_note_1 L M h2, m_note_2 L M h2, m_note_3 L M h2, m_note_4 L M h2, kE, F_X12_isIn_44, F_X12_isIn_48, F_X12_isIn_49, nI_1, nI_ltI (show i < 2 ^ 31 by omega) (show nN A < 2 ^ 31 by omega), hi]
    cases x with
    | true => rfl
    | false =>
      by_cases e : A (340 + 5 * i) = c
      · by_cases e2 : A (340 + 5 * i + 3) = k
        · simp only [e, e2, b01, Bool.false_eq_true, if_false, if_true, decide_true, Bool.and_self, Bool.or_true]
        · simp only [e, e2, b01, Bool.false_eq_true, if_false, if_true, decide_true, decide_false, Bool.and_false, Bool.or_false]
      · simp only [e, b01, Bool.false_eq_true, if_false, if_true, decide_false, Bool.false_and, Bool.or_false]
  · intro f _
    show F_X12_isIn_5 h (f + 1) 81 c k (b01 (foldN (nN A) (fun i x => x || (decide (A (340 + 5 * i) = c) && decide (A (340 + 5 * i + 3) = k))) false)) (nI (nN A)) = _
    rw [F_X12_isIn_5]
    dsimp only
    simp only [Option.bind_some, if_true, if_false, Int32.lt_irrefl, rc_81 L, gR_81_2 L, gR_81_3 L, gR_81_4 L, gR_81_5 L, gR_81_7 L, gR_81_8 L, gR_81_9 L, gR_81_12 L, gR_81_13 L, gR_81_14 L, gR_81_22 L, gR_81_25 L, gR_81_26 L, gR_81_27 L, gR_81_28 L, gR_81_29 L, gR_81_32 L, gR_81_33 L, gR_81_34 L, gR_81_35 L, gR_81_36 L, gR_81_37 L, gR_81_38 L, gR_81_39 L, gR_81_40 L, gR_81_41 L, gR_81_42 L, gR_81_43 L, m_k_1344 L M, m_k_1345 L M, m_k_1346 L M, m_k_1347 L M, m_k_1348 L M, m_k_1349 L M, kE]
    exact b01_z _
theorem stF_le {A : Nat → Int32} (c : Int32) : stF A c ≤ 401 := by
  refine foldN_inv (fun x => x ≤ 401) (Nat.le_refl _) (fun i x _ hx => ?_)
  by_cases e : A (36 + 4 * i) = c
  · rw [if_pos e]
    exact Nat.le_trans (Nat.min_le_left _ _) hx
  · rw [if_neg e]
    exact hx
theorem stT_le {A : Nat → Int32} (K : ShOK A) (c : Int32) : stT A c ≤ 401 := by
  refine foldN_inv (fun x => x ≤ 401) (Nat.zero_le _) (fun i x hi hx => ?_)
  by_cases e : A (36 + 4 * i) = c
  · rw [if_pos e]
    have q : st A i 3 < 401 := (K.2.2.1 i hi).2.2.2.1.2
    exact Nat.max_le.mpr ⟨hx, by omega⟩
  · rw [if_neg e]
    exact hx
theorem hdF_le {A : Nat → Int32} (K : ShOK A) (c : Int32) : hdF A c ≤ 400 := by
  refine foldN_inv (fun x => x ≤ 400) (Nat.zero_le _) (fun i x hi hx => ?_)
  cases isInQ A c (nI i) with
  | true =>
    have q : hd A i 0 < 401 := (K.2.2.2.1 i hi).1.2
    exact Nat.max_le.mpr ⟨hx, by omega⟩
  | false => exact hx
theorem hdT_le {A : Nat → Int32} (c : Int32) : hdT A c ≤ 400 := by
  refine foldN_inv (fun x => x ≤ 400) (Nat.le_refl _) (fun i x hi hx => ?_)
  cases isInQ A c (nI i) with
  | true => exact Nat.le_trans (Nat.min_le_left _ _) hx
  | false => exact hx
theorem m_fromOf {h : pg_H} {A : Nat → Int32} (L : Lay h) (M : pg_i h 83 = A) (K : ShOK A) (c : Int32) : F_X12_fromOf h 81 c = some (nI (firstY A c)) := by
  have kS : nS A < 41 := K.1.2.1.2
  have kE : A 1345 = nI (nS A) := K.1.2.1.1
  have kH : nH A < 13 := K.1.2.2.1.2
  have kF : A 1346 = nI (nH A) := K.1.2.2.1.1
  have second : ∀ b : Nat, b ≤ 400 → F_X12_fromOf_67 h pg_fuel 81 c (nI b) 0 = some (nI (max b (hdF A c))) := by
    intro b hb
    unfold hdF
    rw [← foldN_max]
    have z := loopF (fun f i x => F_X12_fromOf_67 h f 81 c (nI x) (nI i)) (nH A) (fun i x => if isInQ A c (nI i) then max (x) (hd A i 0) else (x)) (some (nI (foldN (nH A) (fun i x => if isInQ A c (nI i) then max (x) (hd A i 0) else (x)) b))) (fun i x => (x : Nat) ≤ 400) b ?_ ?_ ?_ ?_ pg_fuel (by unfold pg_fuel; omega)
    · exact z
    · intro f i x hi hx _
      have h2 : i < 12 := by omega
      have q : Rg A (196 + 8 * i) 401 := (K.2.2.2.1 i hi).1
      show F_X12_fromOf_67 h (f + 1) 81 c (nI x) (nI i) = F_X12_fromOf_67 h f 81 c (nI (if isInQ A c (nI i) then max (x) (hd A i 0) else (x))) (nI (i + 1))
      rw [F_X12_fromOf_67]
      dsimp only
      simp only [Option.bind_some, if_true, if_false, Int32.lt_irrefl, rc_81 L, gR_81_2 L, gR_81_3 L, gR_81_4 L, gR_81_5 L, gR_81_7 L, gR_81_8 L, gR_81_9 L, gR_81_12 L, gR_81_13 L, gR_81_14 L, gR_81_22 L, gR_81_25 L, gR_81_26 L, gR_81_27 L, gR_81_28 L, gR_81_29 L, gR_81_32 L, gR_81_33 L, gR_81_34 L, gR_81_35 L, gR_81_36 L, gR_81_37 L, gR_81_38 L, gR_81_39 L, gR_81_40 L, gR_81_41 L, gR_81_42 L, gR_81_43 L, m_k_1344 L M, m_k_1345 L M, m_k_1346 L M, m_k_1347 L M, m_k_1348 L M, m_k_1349 L M, m_hand_0 L M h2, m_hand_1 L M h2, kF, F_X12_fromOf_109, nI_1, nI_ltI (show i < 2 ^ 31 by omega) (show nH A < 2 ^ 31 by omega), hi, m_isIn L M K]
      cases isInQ A c (nI i) with
      | false => rfl
      | true =>
        have q2 : hd A i 0 < 401 := q.2
        simp only [b01, if_true, show ¬ ((1 : Int32) = 0) from by decide, if_false]
        rw [q.1, ← nI_max (show x < 2 ^ 31 by omega) (show hd A i 0 < 2 ^ 31 by omega)]
        by_cases e : nI x < nI (cl A (196 + 8 * i))
        · rw [if_pos e]
          exact (if_pos e).symm ▸ rfl
        · rw [if_neg e]
          exact (if_neg e).symm ▸ rfl
    · intro i x hi hx _
      cases isInQ A c (nI i) with
      | false => exact hx
      | true =>
        have q2 : hd A i 0 < 401 := (K.2.2.2.1 i hi).1.2
        exact Nat.max_le.mpr ⟨hx, by omega⟩
    · intro f _
      show F_X12_fromOf_67 h (f + 1) 81 c (nI (foldN (nH A) (fun i x => if isInQ A c (nI i) then max (x) (hd A i 0) else (x)) b)) (nI (nH A)) = _
      rw [F_X12_fromOf_67]
      dsimp only
      simp only [Option.bind_some, if_true, if_false, Int32.lt_irrefl, rc_81 L, gR_81_2 L, gR_81_3 L, gR_81_4 L, gR_81_5 L, gR_81_7 L, gR_81_8 L, gR_81_9 L, gR_81_12 L, gR_81_13 L, gR_81_14 L, gR_81_22 L, gR_81_25 L, gR_81_26 L, gR_81_27 L, gR_81_28 L, gR_81_29 L, gR_81_32 L, gR_81_33 L, gR_81_34 L, gR_81_35 L, gR_81_36 L, gR_81_37 L, gR_81_38 L, gR_81_39 L, gR_81_40 L, gR_81_41 L, gR_81_42 L, gR_81_43 L, m_k_1344 L M, m_k_1345 L M, m_k_1346 L M, m_k_1347 L M, m_k_1348 L M, m_k_1349 L M, kF]
    · exact hb
  unfold F_X12_fromOf
  have z := loopF (fun f i x => F_X12_fromOf_6 h f 81 c (nI x) (nI i)) (nS A) (fun i x => if A (36 + 4 * i) = c then min (x) (st A i 2) else (x)) (some (nI (firstY A c))) (fun i x => (x : Nat) ≤ 401) 401 ?_ ?_ ?_ ?_ pg_fuel (by unfold pg_fuel; omega)
  · exact z
  · intro f i x hi hx _
    have h2 : i < 40 := by omega
    have q : Rg A (36 + 4 * i + 2) 401 := (K.2.2.1 i hi).2.2.1
    show F_X12_fromOf_6 h (f + 1) 81 c (nI x) (nI i) = F_X12_fromOf_6 h f 81 c (nI (if A (36 + 4 * i) = c then min (x) (st A i 2) else (x))) (nI (i + 1))
    rw [F_X12_fromOf_6]
    dsimp only
    simp only [Option.bind_some, if_true, if_false, Int32.lt_irrefl, rc_81 L, gR_81_2 L, gR_81_3 L, gR_81_4 L, gR_81_5 L, gR_81_7 L, gR_81_8 L, gR_81_9 L, gR_81_12 L, gR_81_13 L, gR_81_14 L, gR_81_22 L, gR_81_25 L, gR_81_26 L, gR_81_27 L, gR_81_28 L, gR_81_29 L, gR_81_32 L, gR_81_33 L, gR_81_34 L, gR_81_35 L, gR_81_36 L, gR_81_37 L, gR_81_38 L, gR_81_39 L, gR_81_40 L, gR_81_41 L, gR_81_42 L, gR_81_43 L, m_k_1344 L M, m_k_1345 L M, m_k_1346 L M, m_k_1347 L M, m_k_1348 L M, m_k_1349 L M, m_stay_0 L M h2, m_stay_1 L M h2, m_stay_2 L M h2, m_stay_3 L M h2, kE, F_X12_fromOf_45, nI_1, nI_ltI (show i < 2 ^ 31 by omega) (show nS A < 2 ^ 31 by omega), hi]
    by_cases e : A (36 + 4 * i) = c
    · have q2 : st A i 2 < 401 := q.2
      simp only [e, if_true]
      rw [q.1, ← nI_min (show x < 2 ^ 31 by omega) (show st A i 2 < 2 ^ 31 by omega)]
      by_cases e2 : nI (cl A (36 + 4 * i + 2)) < nI x
      · rw [if_pos e2]
        exact (if_pos e2).symm ▸ rfl
      · rw [if_neg e2]
        exact (if_neg e2).symm ▸ rfl
    · simp only [e, if_false]
  · intro i x hi hx _
    by_cases e : A (36 + 4 * i) = c
    · rw [if_pos e]
      exact Nat.le_trans (Nat.min_le_left _ _) hx
    · rw [if_neg e]
      exact hx
  · intro f _
    show F_X12_fromOf_6 h (f + 1) 81 c (nI (foldN (nS A) (fun i x => if A (36 + 4 * i) = c then min (x) (st A i 2) else (x)) 401)) (nI (nS A)) = _
    rw [F_X12_fromOf_6]
    dsimp only
    have hs : (foldN (nS A) (fun i x => if A (36 + 4 * i) = c then min (x) (st A i 2) else (x)) 401) = stF A c := rfl
    rw [hs]
    have hl := stF_le (A := A) c
    simp only [Option.bind_some, if_true, if_false, Int32.lt_irrefl, rc_81 L, gR_81_2 L, gR_81_3 L, gR_81_4 L, gR_81_5 L, gR_81_7 L, gR_81_8 L, gR_81_9 L, gR_81_12 L, gR_81_13 L, gR_81_14 L, gR_81_22 L, gR_81_25 L, gR_81_26 L, gR_81_27 L, gR_81_28 L, gR_81_29 L, gR_81_32 L, gR_81_33 L, gR_81_34 L, gR_81_35 L, gR_81_36 L, gR_81_37 L, gR_81_38 L, gR_81_39 L, gR_81_40 L, gR_81_41 L, gR_81_42 L, gR_81_43 L, m_k_1344 L M, m_k_1345 L M, m_k_1346 L M, m_k_1347 L M, m_k_1348 L M, m_k_1349 L M, kE, F_X12_fromOf_63]
    unfold firstY
    by_cases e : stF A c = 401
    · rw [if_pos e, e]
      exact (if_pos rfl).trans (second 0 (by omega))
    · rw [if_neg e, if_neg (show ¬ nI (stF A c) = 401 from fun q => e ((nI_eq (b := 401) (by omega) (by decide)).mp q))]
      exact second _ (by omega)
  · exact Nat.le_refl _
theorem m_toOf {h : pg_H} {A : Nat → Int32} (L : Lay h) (M : pg_i h 83 = A) (K : ShOK A) (c : Int32) : F_X12_toOf h 81 c = some (nI (lastY A c)) := by
  have kS : nS A < 41 := K.1.2.1.2
  have kE : A 1345 = nI (nS A) := K.1.2.1.1
  have kH : nH A < 13 := K.1.2.2.1.2
  have kF : A 1346 = nI (nH A) := K.1.2.2.1.1
  have second : ∀ b : Nat, b ≤ 400 → F_X12_toOf_65 h pg_fuel 81 c (nI b) 0 = some (nI (min b (hdT A c))) := by
    intro b hb
    unfold hdT
    rw [← foldN_min hb]
    have z := loopF (fun f i x => F_X12_toOf_65 h f 81 c (nI x) (nI i)) (nH A) (fun i x => if isInQ A c (nI i) then min (x) (hd A i 1) else (x)) (some (nI (foldN (nH A) (fun i x => if isInQ A c (nI i) then min (x) (hd A i 1) else (x)) b))) (fun i x => (x : Nat) ≤ 400) b ?_ ?_ ?_ ?_ pg_fuel (by unfold pg_fuel; omega)
    · exact z
    · intro f i x hi hx _
      have h2 : i < 12 := by omega
      have q : Rg A (196 + 8 * i + 1) 401 := (K.2.2.2.1 i hi).2.1
      show F_X12_toOf_65 h (f + 1) 81 c (nI x) (nI i) = F_X12_toOf_65 h f 81 c (nI (if isInQ A c (nI i) then min (x) (hd A i 1) else (x))) (nI (i + 1))
      rw [F_X12_toOf_65]
      dsimp only
      simp only [Option.bind_some, if_true, if_false, Int32.lt_irrefl, rc_81 L, gR_81_2 L, gR_81_3 L, gR_81_4 L, gR_81_5 L, gR_81_7 L, gR_81_8 L, gR_81_9 L, gR_81_12 L, gR_81_13 L, gR_81_14 L, gR_81_22 L, gR_81_25 L, gR_81_26 L, gR_81_27 L, gR_81_28 L, gR_81_29 L, gR_81_32 L, gR_81_33 L, gR_81_34 L, gR_81_35 L, gR_81_36 L, gR_81_37 L, gR_81_38 L, gR_81_39 L, gR_81_40 L, gR_81_41 L, gR_81_42 L, gR_81_43 L, m_k_1344 L M, m_k_1345 L M, m_k_1346 L M, m_k_1347 L M, m_k_1348 L M, m_k_1349 L M, m_hand_0 L M h2, m_hand_1 L M h2, kF, F_X12_toOf_107, nI_1, nI_ltI (show i < 2 ^ 31 by omega) (show nH A < 2 ^ 31 by omega), hi, m_isIn L M K]
      cases isInQ A c (nI i) with
      | false => rfl
      | true =>
        have q2 : hd A i 1 < 401 := q.2
        simp only [b01, if_true, show ¬ ((1 : Int32) = 0) from by decide, if_false]
        rw [q.1, ← nI_min (show x < 2 ^ 31 by omega) (show hd A i 1 < 2 ^ 31 by omega)]
        by_cases e : nI (cl A (196 + 8 * i + 1)) < nI x
        · rw [if_pos e]
          exact (if_pos e).symm ▸ rfl
        · rw [if_neg e]
          exact (if_neg e).symm ▸ rfl
    · intro i x hi hx _
      cases isInQ A c (nI i) with
      | false => exact hx
      | true => exact Nat.le_trans (Nat.min_le_left _ _) hx
    · intro f _
      show F_X12_toOf_65 h (f + 1) 81 c (nI (foldN (nH A) (fun i x => if isInQ A c (nI i) then min (x) (hd A i 1) else (x)) b)) (nI (nH A)) = _
      rw [F_X12_toOf_65]
      dsimp only
      simp only [Option.bind_some, if_true, if_false, Int32.lt_irrefl, rc_81 L, gR_81_2 L, gR_81_3 L, gR_81_4 L, gR_81_5 L, gR_81_7 L, gR_81_8 L, gR_81_9 L, gR_81_12 L, gR_81_13 L, gR_81_14 L, gR_81_22 L, gR_81_25 L, gR_81_26 L, gR_81_27 L, gR_81_28 L, gR_81_29 L, gR_81_32 L, gR_81_33 L, gR_81_34 L, gR_81_35 L, gR_81_36 L, gR_81_37 L, gR_81_38 L, gR_81_39 L, gR_81_40 L, gR_81_41 L, gR_81_42 L, gR_81_43 L, m_k_1344 L M, m_k_1345 L M, m_k_1346 L M, m_k_1347 L M, m_k_1348 L M, m_k_1349 L M, kF]
    · exact hb
  unfold F_X12_toOf
  have z := loopF (fun f i x => F_X12_toOf_4 h f 81 c (nI x - 1) (nI i)) (nS A) (fun i x => if A (36 + 4 * i) = c then max (x) (st A i 3 + 1) else (x)) (some (nI (lastY A c))) (fun i x => (x : Nat) ≤ 401) 0 ?_ ?_ ?_ ?_ pg_fuel (by unfold pg_fuel; omega)
  · exact z
  · intro f i x hi hx _
    have h2 : i < 40 := by omega
    have q : Rg A (36 + 4 * i + 3) 401 := (K.2.2.1 i hi).2.2.2.1
    have q2 : st A i 3 < 401 := q.2
    show F_X12_toOf_4 h (f + 1) 81 c (nI x - 1) (nI i) = F_X12_toOf_4 h f 81 c (nI (if A (36 + 4 * i) = c then max (x) (st A i 3 + 1) else (x)) - 1) (nI (i + 1))
    rw [F_X12_toOf_4]
    dsimp only
    simp only [Option.bind_some, if_true, if_false, Int32.lt_irrefl, rc_81 L, gR_81_2 L, gR_81_3 L, gR_81_4 L, gR_81_5 L, gR_81_7 L, gR_81_8 L, gR_81_9 L, gR_81_12 L, gR_81_13 L, gR_81_14 L, gR_81_22 L, gR_81_25 L, gR_81_26 L, gR_81_27 L, gR_81_28 L, gR_81_29 L, gR_81_32 L, gR_81_33 L, gR_81_34 L, gR_81_35 L, gR_81_36 L, gR_81_37 L, gR_81_38 L, gR_81_39 L, gR_81_40 L, gR_81_41 L, gR_81_42 L, gR_81_43 L, m_k_1344 L M, m_k_1345 L M, m_k_1346 L M, m_k_1347 L M, m_k_1348 L M, m_k_1349 L M, m_stay_0 L M h2, m_stay_1 L M h2, m_stay_2 L M h2, m_stay_3 L M h2, kE, F_X12_toOf_43, nI_1, nI_ltI (show i < 2 ^ 31 by omega) (show nS A < 2 ^ 31 by omega), hi]
    by_cases e : A (36 + 4 * i) = c
    · simp only [e, if_true]
      rw [q.1]
      show (if nI x - 1 < nI (st A i 3) then F_X12_toOf_4 h f 81 c (nI (st A i 3)) (nI (i + 1)) else F_X12_toOf_4 h f 81 c (nI x - 1) (nI (i + 1))) = _
      by_cases e2 : x ≤ st A i 3
      · rw [Nat.max_eq_right (by omega), nI_pred]
        cases x with
        | zero => exact if_pos (neg1_lt (by omega))
        | succ x =>
          rw [nI_pred]
          exact if_pos (nI_lt (by omega) (by omega))
      · rw [Nat.max_eq_left (by omega)]
        cases x with
        | zero => exact absurd (Nat.zero_le _) e2
        | succ x =>
          rw [nI_pred]
          exact if_neg (nI_nlt (by omega) (by omega))
    · simp only [e, if_false]
  · intro i x hi hx _
    by_cases e : A (36 + 4 * i) = c
    · rw [if_pos e]
      have q2 : st A i 3 < 401 := (K.2.2.1 i hi).2.2.2.1.2
      exact Nat.max_le.mpr ⟨hx, by omega⟩
    · rw [if_neg e]
      exact hx
  · intro f _
    show F_X12_toOf_4 h (f + 1) 81 c (nI (foldN (nS A) (fun i x => if A (36 + 4 * i) = c then max (x) (st A i 3 + 1) else (x)) 0) - 1) (nI (nS A)) = _
    rw [F_X12_toOf_4]
    dsimp only
    have hs : (foldN (nS A) (fun i x => if A (36 + 4 * i) = c then max (x) (st A i 3 + 1) else (x)) 0) = stT A c := rfl
    rw [hs]
    have hl := stT_le K c
    simp only [Option.bind_some, if_true, if_false, Int32.lt_irrefl, rc_81 L, gR_81_2 L, gR_81_3 L, gR_81_4 L, gR_81_5 L, gR_81_7 L, gR_81_8 L, gR_81_9 L, gR_81_12 L, gR_81_13 L, gR_81_14 L, gR_81_22 L, gR_81_25 L, gR_81_26 L, gR_81_27 L, gR_81_28 L, gR_81_29 L, gR_81_32 L, gR_81_33 L, gR_81_34 L, gR_81_35 L, gR_81_36 L, gR_81_37 L, gR_81_38 L, gR_81_39 L, gR_81_40 L, gR_81_41 L, gR_81_42 L, gR_81_43 L, m_k_1344 L M, m_k_1345 L M, m_k_1346 L M, m_k_1347 L M, m_k_1348 L M, m_k_1349 L M, kE, F_X12_toOf_61]
    unfold lastY
    cases e : stT A c with
    | zero =>
      rw [if_pos rfl]
      exact (if_pos (by decide)).trans (second 400 (by omega))
    | succ y =>
      rw [nI_pred, if_neg (neg1_ne (by omega)), if_neg (by omega)]
      exact second y (by omega)
  · exact Nat.zero_le _
theorem isIn_bit {A : Nat → Int32} (c : Int32) {k : Nat} (hk : k < 12) : (mk 12 fun k => isInQ A c (nI k)).testBit k = isInQ A c (nI k) := by
  rw [mk_bit, decide_eq_true hk, Bool.true_and]
theorem c_firstYear {h : pg_H} {A : Nat → Int32} (L : Lay h) (C : CNum h 2 A) (K : ShOK A) (c : Int32) : F_X5_firstYear h 2 c = some (nI (firstY A c)) := by
  have kS : nS A < 41 := K.1.2.1.2
  have kH : nH A < 13 := K.1.2.2.1.2
  have hF := hdF_le K c
  have hl := stF_le (A := A) c
  have second : F_X5_firstYear_64 h pg_fuel 2 c (nI (hdF A c)) (-1) 0 = some (nI (firstY A c)) := by
    have z := loopF (fun f i x => F_X5_firstYear_64 h f 2 c (nI (hdF A c)) (if (x : Nat) = 401 then -1 else nI (x)) (nI i)) (nS A) (fun i x => if A (36 + 4 * i) = c then min (x) (st A i 2) else (x)) (some (nI (firstY A c))) (fun i x => (x : Nat) ≤ 401) 401 ?_ ?_ ?_ ?_ pg_fuel (by unfold pg_fuel; omega)
    · exact z
    · intro f i x hi hx _
      have q : Rg A (36 + 4 * i + 2) 401 := (K.2.2.1 i hi).2.2.1
      have q2 : st A i 2 < 401 := q.2
      show F_X5_firstYear_64 h (f + 1) 2 c (nI (hdF A c)) (if (x : Nat) = 401 then -1 else nI (x)) (nI i) = F_X5_firstYear_64 h f 2 c (nI (hdF A c)) (if ((if A (36 + 4 * i) = c then min (x) (st A i 2) else (x)) : Nat) = 401 then -1 else nI ((if A (36 + 4 * i) = c then min (x) (st A i 2) else (x)))) (nI (i + 1))
      rw [F_X5_firstYear_64]
      dsimp only
      simp only [Option.bind_some, if_true, if_false, Int32.lt_irrefl, rc_2 L, gR_2_0 L, gR_2_1 L, gR_2_2 L, gR_2_3 L, gR_2_4 L, gR_2_5 L, gR_2_6 L, c_rcv_3 C, c_rcv_5 C, c_rcv_7 C, c_rcv_9 C, c_rcv_11 C, c_size_3 C, c_size_5 C, c_size_7 C, c_size_9 C, c_size_11 C, c_at_5_0 C hi, c_at_5_1 C hi, c_at_5_2 C hi, c_at_5_3 C hi, F_X5_firstYear_120, F_X5_firstYear_122, nI_1, nI_ltI (show i < 2 ^ 31 by omega) (show nS A < 2 ^ 31 by omega), hi]
      by_cases e : A (36 + 4 * i) = c
      · simp only [e, if_true]
        rw [q.1]
        show (if (if x = 401 then -1 else nI x) = -1 then F_X5_firstYear_64 h f 2 c (nI (hdF A c)) (nI (st A i 2)) (nI (i + 1)) else F_X5_firstYear_64 h f 2 c (nI (hdF A c)) (if nI (st A i 2) < (if x = 401 then -1 else nI x) then nI (st A i 2) else (if x = 401 then -1 else nI x)) (nI (i + 1))) = F_X5_firstYear_64 h f 2 c (nI (hdF A c)) (if min x (st A i 2) = 401 then -1 else nI (min x (st A i 2))) (nI (i + 1))
        rw [if_neg (show ¬ min x (st A i 2) = 401 by omega)]
        by_cases e2 : x = 401
        · rw [if_pos e2, if_pos rfl, Nat.min_eq_right (by omega)]
        · rw [if_neg e2, if_neg (neg1_ne (by omega)), nI_min (by omega) (by omega)]
      · simp only [e, if_false]
    · intro i x hi hx _
      by_cases e : A (36 + 4 * i) = c
      · rw [if_pos e]
        exact Nat.le_trans (Nat.min_le_left _ _) hx
      · rw [if_neg e]
        exact hx
    · intro f _
      show F_X5_firstYear_64 h (f + 1) 2 c (nI (hdF A c)) (if ((foldN (nS A) (fun i x => if A (36 + 4 * i) = c then min (x) (st A i 2) else (x)) 401) : Nat) = 401 then -1 else nI ((foldN (nS A) (fun i x => if A (36 + 4 * i) = c then min (x) (st A i 2) else (x)) 401))) (nI (nS A)) = _
      rw [F_X5_firstYear_64]
      dsimp only
      have hs : (foldN (nS A) (fun i x => if A (36 + 4 * i) = c then min (x) (st A i 2) else (x)) 401) = stF A c := rfl
      rw [hs]
      simp only [Option.bind_some, if_true, if_false, Int32.lt_irrefl, rc_2 L, gR_2_0 L, gR_2_1 L, gR_2_2 L, gR_2_3 L, gR_2_4 L, gR_2_5 L, gR_2_6 L, c_rcv_3 C, c_rcv_5 C, c_rcv_7 C, c_rcv_9 C, c_rcv_11 C, c_size_3 C, c_size_5 C, c_size_7 C, c_size_9 C, c_size_11 C]
      unfold firstY
      by_cases e : stF A c = 401
      · rw [if_pos e, if_pos e, if_neg (neg1_nlt (by omega)), Nat.zero_max]
      · rw [if_neg e, if_neg e, nI_max (by omega) (by omega), Nat.max_comm]
    · exact Nat.le_refl _
  unfold F_X5_firstYear
  simp only [Option.bind_some, if_true, if_false, Int32.lt_irrefl, rc_2 L, gR_2_0 L, gR_2_1 L, gR_2_2 L, gR_2_3 L, gR_2_4 L, gR_2_5 L, gR_2_6 L, c_rcv_3 C, c_rcv_5 C, c_rcv_7 C, c_rcv_9 C, c_rcv_11 C, c_size_3 C, c_size_5 C, c_size_7 C, c_size_9 C, c_size_11 C, c_handsIn L C K]
  have z := loopF (fun f i x => F_X5_firstYear_11 h f 2 c (nI x) (nI (mk 12 fun k => isInQ A c (nI k))) (nI i)) (nH A) (fun i x => if isInQ A c (nI i) then max (x) (hd A i 0) else (x)) (some (nI (firstY A c))) (fun i x => (x : Nat) ≤ 400) 0 ?_ ?_ ?_ ?_ pg_fuel (by unfold pg_fuel; omega)
  · exact z
  · intro f i x hi hx _
    have q : Rg A (196 + 8 * i) 401 := (K.2.2.2.1 i hi).1
    have q2 : hd A i 0 < 401 := q.2
    show F_X5_firstYear_11 h (f + 1) 2 c (nI x) (nI (mk 12 fun k => isInQ A c (nI k))) (nI i) = F_X5_firstYear_11 h f 2 c (nI (if isInQ A c (nI i) then max (x) (hd A i 0) else (x))) (nI (mk 12 fun k => isInQ A c (nI k))) (nI (i + 1))
    rw [F_X5_firstYear_11]
    dsimp only
    simp only [Option.bind_some, if_true, if_false, Int32.lt_irrefl, rc_2 L, gR_2_0 L, gR_2_1 L, gR_2_2 L, gR_2_3 L, gR_2_4 L, gR_2_5 L, gR_2_6 L, c_rcv_3 C, c_rcv_5 C, c_rcv_7 C, c_rcv_9 C, c_rcv_11 C, c_size_3 C, c_size_5 C, c_size_7 C, c_size_9 C, c_size_11 C, c_at_7_0 C hi, c_at_7_1 C hi, c_at_7_2 C hi, c_at_7_3 C hi, c_at_7_4 C hi, c_at_7_5 C hi, c_at_7_6 C hi, c_at_7_7 C hi, F_X5_firstYear_48, pg_let, nI_1, nI_ltI (show i < 2 ^ 31 by omega) (show nH A < 2 ^ 31 by omega), hi]
    rw [ix_bit (Nat.lt_of_lt_of_le (mk_lt _ _) (by decide)) (show i < 32 by omega), isIn_bit c (show i < 12 by omega)]
    cases isInQ A c (nI i) with
    | false =>
      simp only [b01, Bool.false_eq_true, if_false, show ¬ ((0 : Int32) = 1) from by decide]
      rw [if_neg (show ¬ nI x < 0 from nI_pos (by omega))]
    | true =>
      simp only [b01, if_true]
      rw [q.1, ← nI_max (show x < 2 ^ 31 by omega) (show hd A i 0 < 2 ^ 31 by omega)]
      rfl
  · intro i x hi hx _
    cases isInQ A c (nI i) with
    | false => exact hx
    | true =>
      have q2 : hd A i 0 < 401 := (K.2.2.2.1 i hi).1.2
      exact Nat.max_le.mpr ⟨hx, by omega⟩
  · intro f _
    show F_X5_firstYear_11 h (f + 1) 2 c (nI (foldN (nH A) (fun i x => if isInQ A c (nI i) then max (x) (hd A i 0) else (x)) 0)) (nI (mk 12 fun k => isInQ A c (nI k))) (nI (nH A)) = _
    rw [F_X5_firstYear_11]
    dsimp only
    have hs : (foldN (nH A) (fun i x => if isInQ A c (nI i) then max (x) (hd A i 0) else (x)) 0) = hdF A c := rfl
    rw [hs]
    simp only [Option.bind_some, if_true, if_false, Int32.lt_irrefl, rc_2 L, gR_2_0 L, gR_2_1 L, gR_2_2 L, gR_2_3 L, gR_2_4 L, gR_2_5 L, gR_2_6 L, c_rcv_3 C, c_rcv_5 C, c_rcv_7 C, c_rcv_9 C, c_rcv_11 C, c_size_3 C, c_size_5 C, c_size_7 C, c_size_9 C, c_size_11 C]
    exact second
  · exact Nat.zero_le _
theorem c_lastYear {h : pg_H} {A : Nat → Int32} (L : Lay h) (C : CNum h 2 A) (K : ShOK A) (c : Int32) : F_X5_lastYear h 2 c = some (nI (lastY A c)) := by
  have kS : nS A < 41 := K.1.2.1.2
  have kH : nH A < 13 := K.1.2.2.1.2
  have hF := hdT_le (A := A) c
  have hl := stT_le K c
  have second : F_X5_lastYear_68 h pg_fuel 2 c (nI (hdT A c)) (-1) 0 = some (nI (lastY A c)) := by
    have z := loopF (fun f i x => F_X5_lastYear_68 h f 2 c (nI (hdT A c)) (nI x - 1) (nI i)) (nS A) (fun i x => if A (36 + 4 * i) = c then max (x) (st A i 3 + 1) else (x)) (some (nI (lastY A c))) (fun i x => (x : Nat) ≤ 401) 0 ?_ ?_ ?_ ?_ pg_fuel (by unfold pg_fuel; omega)
    · exact z
    · intro f i x hi hx _
      have q : Rg A (36 + 4 * i + 3) 401 := (K.2.2.1 i hi).2.2.2.1
      have q2 : st A i 3 < 401 := q.2
      show F_X5_lastYear_68 h (f + 1) 2 c (nI (hdT A c)) (nI x - 1) (nI i) = F_X5_lastYear_68 h f 2 c (nI (hdT A c)) (nI (if A (36 + 4 * i) = c then max (x) (st A i 3 + 1) else (x)) - 1) (nI (i + 1))
      rw [F_X5_lastYear_68]
      dsimp only
      simp only [Option.bind_some, if_true, if_false, Int32.lt_irrefl, rc_2 L, gR_2_0 L, gR_2_1 L, gR_2_2 L, gR_2_3 L, gR_2_4 L, gR_2_5 L, gR_2_6 L, c_rcv_3 C, c_rcv_5 C, c_rcv_7 C, c_rcv_9 C, c_rcv_11 C, c_size_3 C, c_size_5 C, c_size_7 C, c_size_9 C, c_size_11 C, c_at_5_0 C hi, c_at_5_1 C hi, c_at_5_2 C hi, c_at_5_3 C hi, F_X5_lastYear_111, pg_let, nI_1, nI_ltI (show i < 2 ^ 31 by omega) (show nS A < 2 ^ 31 by omega), hi]
      by_cases e : A (36 + 4 * i) = c
      · simp only [e, if_true]
        rw [q.1]
        show F_X5_lastYear_68 h f 2 c (nI (hdT A c)) (if nI x - 1 < nI (st A i 3) then nI (st A i 3) else nI x - 1) (nI (i + 1)) = F_X5_lastYear_68 h f 2 c (nI (hdT A c)) (nI (max x (st A i 3 + 1)) - 1) (nI (i + 1))
        by_cases e2 : x ≤ st A i 3
        · rw [Nat.max_eq_right (by omega), nI_pred]
          cases x with
          | zero => rw [if_pos (show nI 0 - 1 < nI (st A i 3) from neg1_lt (by omega))]
          | succ x => rw [nI_pred, if_pos (nI_lt (by omega) (by omega))]
        · rw [Nat.max_eq_left (by omega)]
          cases x with
          | zero => exact absurd (Nat.zero_le _) e2
          | succ x => rw [nI_pred, if_neg (nI_nlt (by omega) (by omega))]
      · simp only [e, if_false]
    · intro i x hi hx _
      by_cases e : A (36 + 4 * i) = c
      · rw [if_pos e]
        have q2 : st A i 3 < 401 := (K.2.2.1 i hi).2.2.2.1.2
        exact Nat.max_le.mpr ⟨hx, by omega⟩
      · rw [if_neg e]
        exact hx
    · intro f _
      show F_X5_lastYear_68 h (f + 1) 2 c (nI (hdT A c)) (nI (foldN (nS A) (fun i x => if A (36 + 4 * i) = c then max (x) (st A i 3 + 1) else (x)) 0) - 1) (nI (nS A)) = _
      rw [F_X5_lastYear_68]
      dsimp only
      have hs : (foldN (nS A) (fun i x => if A (36 + 4 * i) = c then max (x) (st A i 3 + 1) else (x)) 0) = stT A c := rfl
      rw [hs]
      simp only [Option.bind_some, if_true, if_false, Int32.lt_irrefl, rc_2 L, gR_2_0 L, gR_2_1 L, gR_2_2 L, gR_2_3 L, gR_2_4 L, gR_2_5 L, gR_2_6 L, c_rcv_3 C, c_rcv_5 C, c_rcv_7 C, c_rcv_9 C, c_rcv_11 C, c_size_3 C, c_size_5 C, c_size_7 C, c_size_9 C, c_size_11 C]
      unfold lastY
      cases e : stT A c with
      | zero =>
        rw [if_pos rfl, Nat.min_eq_right (by omega)]
        exact if_pos (by decide)
      | succ y =>
        rw [nI_pred, if_neg (show ¬ nI y = -1 from neg1_ne (by omega)), nI_min (x := hdT A c) (y := y) (by omega) (by omega), if_neg (show ¬ y + 1 = 0 by omega), Nat.add_sub_cancel, Nat.min_comm]
    · exact Nat.zero_le _
  unfold F_X5_lastYear
  simp only [Option.bind_some, if_true, if_false, Int32.lt_irrefl, rc_2 L, gR_2_0 L, gR_2_1 L, gR_2_2 L, gR_2_3 L, gR_2_4 L, gR_2_5 L, gR_2_6 L, c_rcv_3 C, c_rcv_5 C, c_rcv_7 C, c_rcv_9 C, c_rcv_11 C, c_size_3 C, c_size_5 C, c_size_7 C, c_size_9 C, c_size_11 C, c_handsIn L C K]
  have z := loopF (fun f i x => F_X5_lastYear_13 h f 2 c (nI x) (nI (mk 12 fun k => isInQ A c (nI k))) (nI i)) (nH A) (fun i x => if isInQ A c (nI i) then min (x) (hd A i 1) else (x)) (some (nI (lastY A c))) (fun i x => (x : Nat) ≤ 400) 400 ?_ ?_ ?_ ?_ pg_fuel (by unfold pg_fuel; omega)
  · exact z
  · intro f i x hi hx _
    have q : Rg A (196 + 8 * i + 1) 401 := (K.2.2.2.1 i hi).2.1
    have q2 : hd A i 1 < 401 := q.2
    show F_X5_lastYear_13 h (f + 1) 2 c (nI x) (nI (mk 12 fun k => isInQ A c (nI k))) (nI i) = F_X5_lastYear_13 h f 2 c (nI (if isInQ A c (nI i) then min (x) (hd A i 1) else (x))) (nI (mk 12 fun k => isInQ A c (nI k))) (nI (i + 1))
    rw [F_X5_lastYear_13]
    dsimp only
    simp only [Option.bind_some, if_true, if_false, Int32.lt_irrefl, rc_2 L, gR_2_0 L, gR_2_1 L, gR_2_2 L, gR_2_3 L, gR_2_4 L, gR_2_5 L, gR_2_6 L, c_rcv_3 C, c_rcv_5 C, c_rcv_7 C, c_rcv_9 C, c_rcv_11 C, c_size_3 C, c_size_5 C, c_size_7 C, c_size_9 C, c_size_11 C, c_at_7_0 C hi, c_at_7_1 C hi, c_at_7_2 C hi, c_at_7_3 C hi, c_at_7_4 C hi, c_at_7_5 C hi, c_at_7_6 C hi, c_at_7_7 C hi, F_X5_lastYear_52, pg_let, nI_1, nI_ltI (show i < 2 ^ 31 by omega) (show nH A < 2 ^ 31 by omega), hi]
    rw [ix_bit (Nat.lt_of_lt_of_le (mk_lt _ _) (by decide)) (show i < 32 by omega), isIn_bit c (show i < 12 by omega)]
    cases isInQ A c (nI i) with
    | false =>
      simp only [b01, Bool.false_eq_true, if_false, show ¬ ((0 : Int32) = 1) from by decide]
      rw [if_neg (show ¬ (400 : Int32) < nI x from nI_nlt (a := 400) (by omega) (by omega))]
    | true =>
      simp only [b01, if_true]
      rw [q.1, ← nI_min (show x < 2 ^ 31 by omega) (show hd A i 1 < 2 ^ 31 by omega)]
      rfl
  · intro i x hi hx _
    cases isInQ A c (nI i) with
    | false => exact hx
    | true => exact Nat.le_trans (Nat.min_le_left _ _) hx
  · intro f _
    show F_X5_lastYear_13 h (f + 1) 2 c (nI (foldN (nH A) (fun i x => if isInQ A c (nI i) then min (x) (hd A i 1) else (x)) 400)) (nI (mk 12 fun k => isInQ A c (nI k))) (nI (nH A)) = _
    rw [F_X5_lastYear_13]
    dsimp only
    have hs : (foldN (nH A) (fun i x => if isInQ A c (nI i) then min (x) (hd A i 1) else (x)) 400) = hdT A c := rfl
    rw [hs]
    simp only [Option.bind_some, if_true, if_false, Int32.lt_irrefl, rc_2 L, gR_2_0 L, gR_2_1 L, gR_2_2 L, gR_2_3 L, gR_2_4 L, gR_2_5 L, gR_2_6 L, c_rcv_3 C, c_rcv_5 C, c_rcv_7 C, c_rcv_9 C, c_rcv_11 C, c_size_3 C, c_size_5 C, c_size_7 C, c_size_9 C, c_size_11 C]
    exact second
  · exact Nat.le_refl _
