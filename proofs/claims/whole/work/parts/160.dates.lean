/-! CALLS that ask trees: dates -/
theorem firstY_le {A : Nat → Int32} (K : ShOK A) (c : Int32) : firstY A c ≤ 401 := by
  have a := stF_le (A := A) c
  have b := hdF_le K c
  unfold firstY
  split <;> omega
theorem lastY_le {A : Nat → Int32} (c : Int32) : lastY A c ≤ 400 := by
  have b := hdT_le (A := A) c
  unfold lastY
  omega
def IsMax (A : Nat → Int32) (T : Nat → Nat) (d c v : Nat) : Prop := (∀ i, i < d → firstY A (nI (up T i (c + 1) - 1)) ≤ v) ∧ ∃ i, i < d ∧ v = firstY A (nI (up T i (c + 1) - 1))
theorem IsMax.one {A : Nat → Int32} {T : Nat → Nat} {d c v v' : Nat} (a : IsMax A T d c v) (b : IsMax A T d c v') : v = v' := by
  obtain ⟨a1, i, i1, i2⟩ := a
  obtain ⟨b1, j, j1, j2⟩ := b
  have := a1 j j1
  have := b1 i i1
  omega
theorem c_firstByTree {h : pg_H} {A : Nat → Int32} {n d : Nat} {T : Nat → Nat} (L : Lay h) (C : CNum h 2 A) (K : ShOK A) (hn : n ≤ 12) (t2 : ∀ c, c < 12 → pg_i h 66 c = if c < n ∧ T c ≠ 0 then nI (T c - 1) else -1) {c : Nat} (d1 : 1 ≤ d) (d2 : d ≤ n) (d3 : up T d (c + 1) = 0) (d4 : ∀ i, i < d → 1 ≤ up T i (c + 1) ∧ up T i (c + 1) ≤ n) : ∃ v, F_X11_firstYearByTree h 1 59 (nI c) = some (nI v) ∧ IsMax A T d c v := by
  unfold F_X11_firstYearByTree
  refine loopI (fun f i (x : Nat) => F_X11_firstYearByTree_8 h f 1 59 (nI x) (kI (up T i (c + 1))) (nI i)) d (fun i x => x ≤ 401 ∧ (∀ j, j < i → firstY A (nI (up T j (c + 1) - 1)) ≤ x) ∧ (x = 0 ∧ i = 0 ∨ ∃ j, j < i ∧ x = firstY A (nI (up T j (c + 1) - 1)))) (fun o => ∃ v, o = some (nI v) ∧ IsMax A T d c v) ?_ ?_ 0 0 (Nat.zero_le _) ⟨Nat.zero_le _, fun j hj => absurd hj (Nat.not_lt_zero j), Or.inl ⟨rfl, rfl⟩⟩ pg_fuel (by unfold pg_fuel; omega)
  · intro f i x hi ⟨x1, x2, x3⟩
    obtain ⟨r1, r2⟩ := d4 i hi
    have fb := firstY_le K (nI (up T i (c + 1) - 1))
    refine ⟨max x (firstY A (nI (up T i (c + 1) - 1))), ?_, by omega, fun j hj => ?_, Or.inr ?_⟩
    · show F_X11_firstYearByTree_8 h (f + 1) 1 59 (nI x) (kI (up T i (c + 1))) (nI i) = _
      rw [F_X11_firstYearByTree_8]
      unfold pg_let
      dsimp only
      rw [if_pos (show nI i < (12 : Int32) from nI_lt (b := 12) (by omega) (by decide)), if_neg (kI_no r1 (by omega)), nR_1_0 L.kd L.rd, Option.bind_some, nc_2 L.kd, show kI (up T i (c + 1)) = nI (up T i (c + 1) - 1) from if_neg (by omega), c_firstYear L C K, Option.bind_some, nc_59 L.kd, c_exemplarOf L hn t2 (show up T i (c + 1) - 1 < n by omega), Option.bind_some, nI_1, nI_max (by omega) (by omega), show T (up T i (c + 1) - 1) = up T (i + 1) (c + 1) from (if_neg (show ¬ up T i (c + 1) = 0 by omega)).symm]
    · by_cases e : j = i
      · rw [e]
        omega
      · have := x2 j (by omega)
        omega
    · by_cases e : x ≤ firstY A (nI (up T i (c + 1) - 1))
      · exact ⟨i, by omega, by omega⟩
      · rcases x3 with ⟨z, _⟩ | ⟨j, j1, j2⟩
        · omega
        · exact ⟨j, by omega, by omega⟩
  · intro f x ⟨x1, x2, x3⟩
    refine ⟨x, ?_, x2, ?_⟩
    · show F_X11_firstYearByTree_8 h (f + 1) 1 59 (nI x) (kI (up T d (c + 1))) (nI d) = _
      rw [F_X11_firstYearByTree_8, d3]
      dsimp only
      by_cases q : d < 12
      · rw [if_pos (show nI d < (12 : Int32) from nI_lt (b := 12) q (by decide)), if_pos (show kI 0 = -1 from rfl)]
      · rw [if_neg (show ¬ nI d < (12 : Int32) from nI_nlt (b := 12) (by omega) (by omega))]
    · rcases x3 with ⟨_, z⟩ | z
      · omega
      · exact z
theorem m_firstByTree {h : pg_H} {A : Nat → Int32} {n d : Nat} {T : Nat → Nat} (L : Lay h) (M : pg_i h 83 = A) (K : ShOK A) (en : nC A = n) (hn : n ≤ 12) (t2 : ∀ c, c < n → pg_i h 97 c = nI (kE (T c))) {c : Nat} (hc : c < n) (d1 : 1 ≤ d) (d2 : d ≤ n) (d3 : up T d (c + 1) = 0) (d4 : ∀ i, i < d → 1 ≤ up T i (c + 1) ∧ up T i (c + 1) ≤ n) : ∃ v, F_X12_dates_64 81 (nI c) 2 (nI (firstY A (nI c))) h = some (nI v, h) ∧ IsMax A T d c v := by
  have kE1 : A 1344 = nI n := by
    rw [← en]
    exact K.1.1.1
  unfold F_X12_dates_64
  refine loopI (fun f e (x : Nat) => F_X12_dates_68 f 81 (nI c) 2 (nI x) (nI e) h) n (fun e x => x ≤ 401 ∧ firstY A (nI c) ≤ x ∧ (∀ a, a < e → ancQ T c a d = true → firstY A (nI a) ≤ x) ∧ (x = firstY A (nI c) ∨ ∃ a, ancQ T c a d = true ∧ x = firstY A (nI a))) (fun o => ∃ v, o = some (nI v, h) ∧ IsMax A T d c v) ?_ ?_ 0 (firstY A (nI c)) (Nat.zero_le _) ⟨firstY_le K _, Nat.le_refl _, fun a ha => absurd ha (Nat.not_lt_zero a), Or.inl rfl⟩ pg_fuel (by unfold pg_fuel; omega)
  · intro f e x he ⟨x1, x2, x3, x4⟩
    have fb := firstY_le K (nI e)
    have f141 : ∀ v, F_X12_dates_109 (F_X12_dates_68 f) 81 (nI c) 2 v (nI e) h = F_X12_dates_68 f 81 (nI c) 2 v (nI (e + 1)) h := fun v => by
      unfold F_X12_dates_109 F_X12_dates_141
      rw [if_neg (show ¬ (2 : Int32) = 3 by decide), nI_1]
    show ∃ x', F_X12_dates_68 (f + 1) 81 (nI c) 2 (nI x) (nI e) h = F_X12_dates_68 f 81 (nI c) 2 (nI x') (nI (e + 1)) h ∧ _
    rw [F_X12_dates_68]
    dsimp only
    rw [nc_81 L.kd, m_copiesA L M, kE1, Option.bind_some, if_pos (nI_lt he (by omega)), if_pos rfl, nc_81 L.kd, m_comesOf L hn t2 hc he d1 d2 d3 d4, Option.bind_some, if_bb]
    cases q : ancQ T c e d with
    | false =>
      rw [if_neg (by decide), f141]
      refine ⟨x, rfl, x1, x2, fun a ha z => ?_, x4⟩
      by_cases ae : a = e
      · rw [ae, q] at z
        cases z
      · exact x3 a (by omega) z
    | true =>
      rw [if_pos rfl, nc_81 L.kd, m_fromOf L M K, Option.bind_some]
      by_cases lt : x < firstY A (nI e)
      · rw [if_pos (nI_lt lt (by omega)), Option.bind_some, f141]
        refine ⟨firstY A (nI e), rfl, fb, by omega, fun a ha z => ?_, Or.inr ⟨e, q, rfl⟩⟩
        by_cases ae : a = e
        · rw [ae]
          exact Nat.le_refl _
        · have := x3 a (by omega) z
          omega
      · rw [if_neg (nI_nlt (by omega) (by omega)), f141]
        refine ⟨x, rfl, x1, x2, fun a ha z => ?_, x4⟩
        by_cases ae : a = e
        · rw [ae]
          omega
        · exact x3 a (by omega) z
  · intro f x ⟨x1, x2, x3, x4⟩
    refine ⟨x, ?_, fun i hi => ?_, ?_⟩
    · show F_X12_dates_68 (f + 1) 81 (nI c) 2 (nI x) (nI n) h = _
      rw [F_X12_dates_68]
      dsimp only
      rw [nc_81 L.kd, m_copiesA L M, kE1, Option.bind_some, if_neg Int32.lt_irrefl]
    · by_cases i0 : i = 0
      · rw [i0]
        exact x2
      · obtain ⟨r1, r2⟩ := d4 i hi
        exact x3 _ (by omega) (ancQ_in (by omega) hi (by omega))
    · rcases x4 with z | ⟨a, a1, a2⟩
      · exact ⟨0, by omega, z⟩
      · unfold ancQ at a1
        rw [anyN_true] at a1
        obtain ⟨j, j1, j2⟩ := a1
        rw [Bool.and_eq_true] at j2
        refine ⟨j, j1, ?_⟩
        rw [of_decide_eq_true j2.2, show a + 1 - 1 = a by omega]
        exact a2
