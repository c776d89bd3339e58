/-! censor -/
theorem b01_t : b01 true = 1 := rfl
theorem b01_f : b01 false = 0 := rfl
theorem n10 : ((1 : Int32) = 0) = False := eq_false (by decide)
theorem nI_z (a : Nat) : nI a + (0 : Int32) = nI a := nI_add a 0
def cN (n : Nat) (f : Nat → Bool) : Nat := sumN n fun p => if f p then 1 else 0
theorem cN_succ (n : Nat) (f : Nat → Bool) : cN (n + 1) f = cN n f + if f n then 1 else 0 := rfl
theorem cN_eq {n : Nat} {f g : Nat → Bool} (sub : ∀ p, p < n → f p = true → g p = true) : cN n f = cN n g ↔ ∀ p, p < n → f p = g p := by
  constructor
  · intro e p hp
    cases q : g p with
    | true =>
      cases q2 : f p with
      | true => rfl
      | false =>
        have := cntB_lt hp sub q2 q
        unfold cN at e
        omega
    | false =>
      cases q2 : f p with
      | false => rfl
      | true =>
        rw [sub p hp q2] at q
        cases q
  · exact fun z => sumN_cong (fun p hp => by rw [z p hp])
theorem cN_pos {n : Nat} {f : Nat → Bool} : 0 < cN n f ↔ ∃ p, p < n ∧ f p = true := by
  constructor
  · intro h
    by_cases q : ∃ p, p < n ∧ f p = true
    · exact q
    · have : cN n f = sumN n fun _ => 0 := sumN_cong (fun p hp => if_neg (fun z => q ⟨p, hp, z⟩))
      rw [this, sumN_zero] at h
      exact absurd h (Nat.lt_irrefl _)
  · rintro ⟨p, hp, q⟩
    have := cntB_lt (F := fun _ => false) (F' := f) hp (fun j _ z => by cases z) rfl q
    have z : (sumN n fun j => if (fun _ : Nat => false) j = true then 1 else 0) = 0 := (sumN_cong (fun j _ => if_neg (show ¬ (false = true) by decide))).trans sumN_zero
    show 0 < sumN n fun p => if f p then 1 else 0
    omega
theorem cN_le {n : Nat} {f : Nat → Bool} : cN n f ≤ n := by
  have : cN n f ≤ n * 1 := sumN_le (fun i _ => by cases f i <;> decide)
  omega
def cHow (A : Nat → Int32) (sk : Nat → Bool) (c : Nat) : Nat :=
  if cN 60 (fun p => sk p && (kindQ A (nI c) (nI p) 2 || kindQ A (nI c) (nI p) 3)) = cN 60 sk then 1 else if 0 < cN 60 (fun p => sk p && (kindQ A (nI c) (nI p) 2 || kindQ A (nI c) (nI p) 3)) then 2 else 3
def cen (A : Nat → Int32) (sk : Nat → Bool) (c what : Nat) : Nat :=
  if what = 0 then 1 else if what = 4 then cN 60 (fun p => sk p && kindQ A (nI c) (nI p) 2) else if what = 5 then cN 60 (fun p => sk p && kindQ A (nI c) (nI p) 3) else if cHow A sk c = what then 1 else 0
def cntQ (A : Nat → Int32) (land : Int32) (c : Nat) : Bool := decide (A (3 * c) = land) && decide (A (3 * c + 2) = 1)
def cenN (A : Nat → Int32) (sk : Nat → Bool) (land : Int32) (what n : Nat) : Nat := sumN n fun c => if cntQ A land c then cen A sk c what else 0
theorem l_mk_eq {f g : Nat → Bool} : lN (mk 60 f) = lN (mk 60 g) ↔ ∀ i, i < 60 → f i = g i := by
  constructor
  · intro e
    have e1 := congrArg (fun v : Int64 => v.toBitVec.toNat) e
    have e2 : mk 60 f = mk 60 g := by
      have a1 := mk_lt 60 f
      have a2 := mk_lt 60 g
      have z : ∀ m, m < 2 ^ 60 → (lN m).toBitVec.toNat = m := fun m hm => by
        show (BitVec.ofNat 64 m).toNat = m
        rw [BitVec.toNat_ofNat, Nat.mod_eq_of_lt (by omega)]
      rw [z _ a1, z _ a2] at e1
      exact e1
    exact mk_eq_iff.mp e2
  · exact fun z => congrArg lN (mk_cong z)
theorem pc64_mk (f : Nat → Bool) : pc 64 (mk 60 f) = cN 60 f := by
  unfold pc
  rw [sumN_ext (n := 60) (m := 64) (by decide) (fun i h1 _ => by
    rw [mk_bit, decide_eq_false (by omega), Bool.false_and]
    rfl)]
  refine sumN_cong (fun i hi => ?_)
  rw [mk_bit, decide_eq_true hi, Bool.true_and]
theorem c_toldOf {h : pg_H} {A : Nat → Int32} (L : Lay h) (C : CNum h 2 A) (K : ShOK A) (sk : Nat → Bool) (c : Nat) {what : Nat} (hw : what < 6) : F_X11_toldOfCensor h 1 (nI c) (lN (mk 60 sk)) (nI what) = some (nI (cen A sk c what)) := by
  have kq : ∀ k : Int32, lN (mk 60 fun p => kindQ A (nI c) (nI p) k) &&& lN (mk 60 sk) = lN (mk 60 fun p => sk p && kindQ A (nI c) (nI p) k) := fun k => by
    rw [lx_and, mk_and]
    exact congrArg lN (mk_cong (fun p _ => Bool.and_comm _ _))
  have q0 : nI what = (0 : Int32) ↔ what = 0 := nI_eq (b := 0) (by omega) (by decide)
  have q4 : nI what = (4 : Int32) ↔ what = 4 := nI_eq (b := 4) (by omega) (by decide)
  have q5 : nI what = (5 : Int32) ↔ what = 5 := nI_eq (b := 5) (by omega) (by decide)
  unfold F_X11_toldOfCensor pg_let
  dsimp only
  unfold cen
  by_cases w0 : what = 0
  · rw [if_pos (q0.mpr w0), if_pos w0]
    rfl
  · rw [if_neg (fun z => w0 (q0.mp z)), if_neg w0, nR_1_0 L.kd L.rd, Option.bind_some, nc_2 L.kd, c_placesOfKind L C K, Option.bind_some, Option.bind_some, nc_2 L.kd, c_placesOfKind L C K, Option.bind_some, kq, kq]
    unfold F_X11_toldOfCensor_52
    rw [bc64 (Nat.lt_of_lt_of_le (mk_lt 60 _) (by decide)), bc64 (Nat.lt_of_lt_of_le (mk_lt 60 _) (by decide)), pc64_mk, pc64_mk, Option.bind_some, Option.bind_some]
    by_cases w4 : what = 4
    · rw [if_pos (show (3 : Int32) < nI what by rw [w4]; decide), if_pos (q4.mpr w4), if_pos w4]
    · by_cases w5 : what = 5
      · rw [if_pos (show (3 : Int32) < nI what by rw [w5]; decide), if_neg (fun z => w4 (q4.mp z)), if_neg w4, if_pos w5]
      · rw [if_neg (show ¬ (3 : Int32) < nI what from nI_nlt (a := 3) (by omega) (by decide)), if_neg w4, if_neg w5, lx_or, mk_or]
        have eo : lN (mk 60 fun i => (sk i && kindQ A (nI c) (nI i) 2) || (sk i && kindQ A (nI c) (nI i) 3)) = lN (mk 60 fun p => sk p && (kindQ A (nI c) (nI p) 2 || kindQ A (nI c) (nI p) 3)) := congrArg lN (mk_cong (fun p _ => by rw [Bool.and_or_distrib_left]))
        rw [eo]
        have c1 : (lN (mk 60 fun p => sk p && (kindQ A (nI c) (nI p) 2 || kindQ A (nI c) (nI p) 3)) = lN (mk 60 sk)) ↔ cN 60 (fun p => sk p && (kindQ A (nI c) (nI p) 2 || kindQ A (nI c) (nI p) 3)) = cN 60 sk := by
          rw [l_mk_eq, cN_eq]
          intro p _ z
          rw [Bool.and_eq_true] at z
          exact z.1
        have c2 : (lN (mk 60 fun p => sk p && (kindQ A (nI c) (nI p) 2 || kindQ A (nI c) (nI p) 3)) = (0 : Int64)) ↔ ¬ 0 < cN 60 (fun p => sk p && (kindQ A (nI c) (nI p) 2 || kindQ A (nI c) (nI p) 3)) := by
          rw [show (0 : Int64) = lN (mk 60 fun _ => false) from congrArg lN (mk_zero 60), l_mk_eq, cN_pos]
          constructor
          · rintro z ⟨p, hp, q⟩
            rw [z p hp] at q
            cases q
          · intro z p hp
            cases q : (sk p && (kindQ A (nI c) (nI p) 2 || kindQ A (nI c) (nI p) 3)) with
            | false => rfl
            | true => exact absurd ⟨p, hp, q⟩ z
        have f86 : ∀ j, j < 2 ^ 31 → F_X11_toldOfCensor_86 h (nI what) (nI j) = some (nI (if j = what then 1 else 0)) := fun j hj => by
          unfold F_X11_toldOfCensor_86
          by_cases e : j = what
          · rw [if_pos (congrArg nI e), if_pos e]
            rfl
          · rw [if_neg (fun z => e ((nI_eq hj (by omega)).mp z)), if_neg e]
            rfl
        unfold cHow
        by_cases g1 : cN 60 (fun p => sk p && (kindQ A (nI c) (nI p) 2 || kindQ A (nI c) (nI p) 3)) = cN 60 sk
        · rw [if_pos (c1.mpr g1), if_pos g1]
          exact f86 1 (by decide)
        · rw [if_neg (fun z => g1 (c1.mp z)), if_neg g1]
          by_cases g2 : 0 < cN 60 (fun p => sk p && (kindQ A (nI c) (nI p) 2 || kindQ A (nI c) (nI p) 3))
          · rw [if_neg (fun z => c2.mp z g2), if_pos g2]
            exact f86 2 (by decide)
          · rw [if_pos (c2.mpr g2), if_neg g2]
            exact f86 3 (by decide)
def skQ (x : tX) (p : Nat) : Bool := (x 6 (envW p 0 0)).isSome
theorem c_placesStruck {h : pg_H} {A : Nat → Int32} {X : Nat → tX} (L : Lay h) (S : ShX h 2 A X) {t : Nat} (ht : t < nT A) : ∃ h', F_X11_placesStruck 1 (pg_r h 14 t) h = some (lN (mk 60 (skQ (X t))), h') ∧ Ch [48, 49] [(47, 2)] h h' := by
  obtain ⟨C, K, T⟩ := id S
  unfold F_X11_placesStruck
  refine loopI (fun f i x => F_X11_placesStruck_5 f 1 (pg_r h 14 t) (lN (mk 60 fun p => decide (p < i) && skQ (X t) p)) (nI i) x) 60 (fun i x => Ch [48, 49] [(47, 2)] h x) (fun o => ∃ h', o = some (lN (mk 60 (skQ (X t))), h') ∧ Ch [48, 49] [(47, 2)] h h') ?_ ?_ 0 h (Nat.zero_le _) (Ch.refl _ _ _) pg_fuel (by unfold pg_fuel; omega)
  · intro f i x hi cx
    have Lx := cx.lay L (by decide)
    have ex : pg_r h 14 t = pg_r x 14 t := by rw [cx.rr]
    obtain ⟨t1, t2, t3⟩ := T.ch cx (by decide) t ht
    obtain ⟨u, u1, u2, u3⟩ := c_askPlace Lx.kd Lx.rd (p := i) (by omega)
    have Lu := u2.lay Lx (by decide)
    have eu : pg_r x 14 t = pg_r u 14 t := by rw [u2.rr]
    obtain ⟨y, y1, y2⟩ := ((t2.ch (h' := u) u2 (by decide)).2 u Lu (sameT_refl _ _)).2 6 (Or.inr rfl)
    have y1' : F_X0_holdsIn 47 (pg_r h 14 t) (6 : Int32) u = some (b01 (skQ (X t) i), y) := by
      unfold skQ
      rw [ex, ← t1.2 6 _ _ u3]
      exact y1
    have f43 : ∀ v, F_X11_placesStruck_43 (F_X11_placesStruck_5 f) 1 (pg_r h 14 t) (nI i) v (lN (mk 60 fun p => decide (p < i) && skQ (X t) p)) y = F_X11_placesStruck_5 f 1 (pg_r h 14 t) (lN (mk 60 fun p => decide (p < i) && skQ (X t) p) ||| v) (nI (i + 1)) y := fun v => by
      unfold F_X11_placesStruck_43 pg_let
      rw [nI_1]
    refine ⟨y, ?_, (cx.trans (u2.mono (by decide))).trans (y2.mono (by decide))⟩
    show F_X11_placesStruck_5 (f + 1) 1 (pg_r h 14 t) (lN (mk 60 fun p => decide (p < i) && skQ (X t) p)) (nI i) x = F_X11_placesStruck_5 f 1 (pg_r h 14 t) (lN (mk 60 fun p => decide (p < i + 1) && skQ (X t) p)) (nI (i + 1)) y
    rw [F_X11_placesStruck_5]
    dsimp only
    rw [if_pos (show nI i < (60 : Int32) from nI_lt (b := 60) hi (by decide)), nR_1_5 Lx.kd Lx.rd, Option.bind_some, nc_47 Lx.kd, u1, Option.bind_some, nR_1_5 Lu.kd Lu.rd, Option.bind_some, nc_47 Lu.kd, y1', Option.bind_some, if_bb, f43, f43]
    have em : ∀ p, p < 60 → ((decide (p < i) && skQ (X t) p) || (skQ (X t) i && decide (p = i))) = (decide (p < i + 1) && skQ (X t) p) := fun p _ => by
      by_cases e : p = i
      · rw [e, decide_eq_false (Nat.lt_irrefl i), decide_eq_true rfl, decide_eq_true (Nat.lt_succ_self i), Bool.false_and, Bool.false_or, Bool.and_true, Bool.true_and]
      · rw [decide_eq_false e, Bool.and_false, Bool.or_false, decide_eq_decide.mpr (show p < i ↔ p < i + 1 by omega)]
    cases q : skQ (X t) i with
    | true =>
      rw [if_pos rfl, lx_shl i (by omega), mk_pow hi, lx_or, mk_or]
      rw [show mk 60 (fun p => (decide (p < i) && skQ (X t) p) || decide (p = i)) = mk 60 (fun p => decide (p < i + 1) && skQ (X t) p) from mk_cong (fun p hp => by rw [← em p hp, q, Bool.true_and])]
    | false =>
      rw [if_neg (by decide), show (0 : Int64) = lN 0 from rfl, lx_or, Nat.or_zero]
      rw [show mk 60 (fun p => decide (p < i) && skQ (X t) p) = mk 60 (fun p => decide (p < i + 1) && skQ (X t) p) from mk_cong (fun p hp => by rw [← em p hp, q, Bool.false_and, Bool.or_false])]
  · intro f x cx
    refine ⟨x, ?_, cx⟩
    show F_X11_placesStruck_5 (f + 1) 1 (pg_r h 14 t) (lN (mk 60 fun p => decide (p < 60) && skQ (X t) p)) (nI 60) x = _
    rw [F_X11_placesStruck_5]
    dsimp only
    rw [if_neg (show ¬ nI 60 < (60 : Int32) by decide)]
    rw [show mk 60 (fun p => decide (p < 60) && skQ (X t) p) = mk 60 (skQ (X t)) from mk_cong (fun p hp => by rw [decide_eq_true hp, Bool.true_and])]
theorem c_censorRun {h : pg_H} {A : Nat → Int32} (L : Lay h) (C : CNum h 2 A) (K : ShOK A) (sk : Nat → Bool) (land : Int32) {what : Nat} (hw : what < 6) : F_X11_censor_50 pg_fuel 1 land (nI what) (lN (mk 60 sk)) 0 0 h = some (nI (cenN A sk land what (nC A)), h) := by
  have kC : nC A < 13 := K.1.1.2
  refine loopI (fun f c (_ : Unit) => F_X11_censor_50 f 1 land (nI what) (lN (mk 60 sk)) (nI (cenN A sk land what c)) (nI c) h) (nC A) (fun _ _ => True) (fun o => o = some (nI (cenN A sk land what (nC A)), h)) ?_ ?_ 0 () (Nat.zero_le _) trivial pg_fuel (by unfold pg_fuel; omega)
  · intro f c _ hc _
    refine ⟨(), ?_, trivial⟩
    show F_X11_censor_50 (f + 1) 1 land (nI what) (lN (mk 60 sk)) (nI (cenN A sk land what c)) (nI c) h = F_X11_censor_50 f 1 land (nI what) (lN (mk 60 sk)) (nI (cenN A sk land what c + if cntQ A land c then cen A sk c what else 0)) (nI (c + 1)) h
    generalize cenN A sk land what c = s
    have f126 : ∀ v u, F_X11_censor_126 (F_X11_censor_50 f) 1 land (nI what) (lN (mk 60 sk)) (nI c) v u h = F_X11_censor_50 f 1 land (nI what) (lN (mk 60 sk)) (u + v) (nI (c + 1)) h := fun v u => by
      unfold F_X11_censor_126 pg_let
      rw [nI_1]
    have f104 : ∀ v : Bool, F_X11_censor_104 (F_X11_censor_50 f) 1 land (nI what) (lN (mk 60 sk)) (nI s) (nI c) (b01 v) h = F_X11_censor_50 f 1 land (nI what) (lN (mk 60 sk)) (nI (s + if v then cen A sk c what else 0)) (nI (c + 1)) h := fun v => by
      unfold F_X11_censor_104
      rw [if_bb, f126]
      cases v with
      | false =>
        rw [if_neg (by decide), if_neg (by decide), nI_z]
        rfl
      | true =>
        rw [if_pos rfl, if_pos rfl, nc_1 L.kd, c_toldOf L C K sk c hw, Option.bind_some, f126, nI_add]
    have f103 : F_X11_censor_103 (F_X11_censor_50 f) 1 land (nI what) (lN (mk 60 sk)) (nI s) (nI c) h = F_X11_censor_50 f 1 land (nI what) (lN (mk 60 sk)) (nI (s + 0)) (nI (c + 1)) h := f104 false
    rw [F_X11_censor_50]
    dsimp only
    rw [nR_1_0 L.kd L.rd, Option.bind_some, nR_2_0 L.kd L.rd, Option.bind_some, nc_3 L.kd, c_size_3 C, Option.bind_some, if_pos (nI_lt hc (by omega)), Option.bind_some, nR_2_0 L.kd L.rd, Option.bind_some, nc_3 L.kd, c_at_3_0 C hc, Option.bind_some, f103]
    unfold cntQ
    by_cases e1 : A (3 * c) = land
    · rw [if_pos e1, decide_eq_true e1, Bool.true_and, Option.bind_some, nR_2_0 L.kd L.rd, Option.bind_some, nc_3 L.kd, c_at_3_2 C hc, Option.bind_some]
      by_cases e2 : A (3 * c + 2) = 1
      · rw [if_pos e2, decide_eq_true e2]
        exact f104 true
      · rw [if_neg e2, decide_eq_false e2]
        rfl
    · rw [if_neg e1, decide_eq_false e1, Bool.false_and]
      rfl
  · intro f _ _
    show F_X11_censor_50 (f + 1) 1 land (nI what) (lN (mk 60 sk)) (nI (cenN A sk land what (nC A))) (nI (nC A)) h = _
    rw [F_X11_censor_50]
    dsimp only
    rw [nR_1_0 L.kd L.rd, Option.bind_some, nR_2_0 L.kd L.rd, Option.bind_some, nc_3 L.kd, c_size_3 C, Option.bind_some, if_neg Int32.lt_irrefl]
theorem m_isStruck {h : pg_H} {A : Nat → Int32} {X : Nat → tX} (L : Lay h) (M : pg_i h 83 = A) {s : Nat} {g : pg_H} (S : ShX g s A X) {t : Nat} (ht : t < nT A) {p : Nat} (hp : p < 60) : ∃ h', F_X12_isStruck 81 (nI t) (nI p) h = some (b01 (skQ (X t) p), h') ∧ Ch [92] mT h h' := by
  obtain ⟨t1, t2, t3⟩ := S.2.2 t ht
  obtain ⟨a, a1, a2, a3⟩ := m_bare L
  have La := a2.lay L (by decide)
  have Ma : pg_i a 83 = A := (a2.row (by decide)).trans M
  have d5 : nI p / (5 : Int32) = nI (p / 5) := nI_div (b := 5) (by omega) (by decide)
  have s1 : Ch [92] [] a (pg_si a 92 0 (nI p)) := (Ch.refl _ _ _).asi (Or.inl (by decide))
  have s2 : Ch [92] [] a (pg_si (pg_si a 92 0 (nI p)) 92 1 (nI (p / 5))) := s1.asi (Or.inl (by decide))
  have L1 := s1.lay La (by decide)
  have L2 := s2.lay La (by decide)
  have M2 : pg_i (pg_si (pg_si a 92 0 (nI p)) 92 1 (nI (p / 5))) 83 = A := (s2.row (by decide)).trans Ma
  have env : ∀ j, j < 9 → pg_i (pg_si (pg_si a 92 0 (nI p)) 92 1 (nI (p / 5))) 92 j = envW p 0 0 j := by
    rw [si_row, si_row]
    exact nine rfl rfl (a3 2 (by decide)) (a3 3 (by decide)) (a3 4 (by decide)) (a3 5 (by decide)) (a3 6 (by decide)) (a3 7 (by decide)) (a3 8 (by decide))
  obtain ⟨y, y1, y2, y3, _⟩ := t3 _ L2 (by rw [M2]) (fun k _ => by rw [M2]; exact ⟨rfl, rfl⟩) 6 (by decide)
  rw [t1.2 6 _ _ env] at y3
  have y1' : F_X12_asks 81 (nI t) (7 : Int32) (pg_si (pg_si a 92 0 (nI p)) 92 1 (nI (p / 5))) = some y := y1
  have Ly := y2.lay L2 (by decide)
  refine ⟨y, ?_, ((a2.mono (by decide)).trans (s2.mono (by decide))).trans (y2.mono (by decide))⟩
  unfold F_X12_isStruck
  rw [nc_81 L.kd, a1, Option.bind_some, nR_81_22 La.kd La.rd, Option.bind_some, ns_92_0 La.kd, Option.bind_some, nR_81_22 L1.kd L1.rd, Option.bind_some, if_neg (show ¬ ((5 : Int32) = 0) by decide), d5, ns_92_1 L1.kd, Option.bind_some, nc_81 L2.kd, y1', Option.bind_some, ng_81 Ly.kd, Option.bind_some, y3, if_pos (b01_ok _)]
  rfl
theorem m_censorOne {h : pg_H} {A : Nat → Int32} (L : Lay h) (M : pg_i h 83 = A) (K : ShOK A) {sk : Nat → Bool} (hs : ∀ p, p < 60 → pg_i h 106 p = b01 (sk p)) (land : Int32) {what : Nat} (hw : what < 6) (s c : Nat) (k : Nat → Int32 → Int32 → Int32 → Int32 → Int32 → pg_H → Option (Int32 × pg_H)) :
    F_X12_censor_133 k pg_fuel 81 land (nI what) (nI (cN 60 sk)) (nI s) (nI c) 0 0 0 0 h = k 81 land (nI what) (nI (cN 60 sk)) (nI (s + cen A sk c what)) (nI (c + 1)) h := by
  have l60 : ∀ f, cN 60 f ≤ 60 := fun f => cN_le
  refine loopI (fun f i (_ : Unit) => F_X12_censor_133 k f 81 land (nI what) (nI (cN 60 sk)) (nI s) (nI c) (nI (cN i fun p => sk p && kindQ A (nI c) (nI p) 2)) (nI (cN i fun p => sk p && kindQ A (nI c) (nI p) 3)) (nI (cN i fun p => sk p && (kindQ A (nI c) (nI p) 2 || kindQ A (nI c) (nI p) 3))) (nI i) h) 60 (fun _ _ => True) (fun o => o = k 81 land (nI what) (nI (cN 60 sk)) (nI (s + cen A sk c what)) (nI (c + 1)) h) ?_ ?_ 0 () (Nat.zero_le _) trivial pg_fuel (by unfold pg_fuel; omega)
  · intro f i _ hi _
    refine ⟨(), ?_, trivial⟩
    show F_X12_censor_133 k (f + 1) 81 land (nI what) (nI (cN 60 sk)) (nI s) (nI c) (nI (cN i fun p => sk p && kindQ A (nI c) (nI p) 2)) (nI (cN i fun p => sk p && kindQ A (nI c) (nI p) 3)) (nI (cN i fun p => sk p && (kindQ A (nI c) (nI p) 2 || kindQ A (nI c) (nI p) 3))) (nI i) h = F_X12_censor_133 k f 81 land (nI what) (nI (cN 60 sk)) (nI s) (nI c) (nI (cN (i + 1) fun p => sk p && kindQ A (nI c) (nI p) 2)) (nI (cN (i + 1) fun p => sk p && kindQ A (nI c) (nI p) 3)) (nI (cN (i + 1) fun p => sk p && (kindQ A (nI c) (nI p) 2 || kindQ A (nI c) (nI p) 3))) (nI (i + 1)) h
    rw [cN_succ i, cN_succ i, cN_succ i]
    generalize (cN i fun p => sk p && kindQ A (nI c) (nI p) 2) = n2
    generalize (cN i fun p => sk p && kindQ A (nI c) (nI p) 3) = n3
    generalize (cN i fun p => sk p && (kindQ A (nI c) (nI p) 2 || kindQ A (nI c) (nI p) 3)) = n4
    generalize cN 60 sk = n0
    rw [F_X12_censor_133]
    dsimp only
    rw [if_pos (show nI i < (60 : Int32) from nI_lt (b := 60) hi (by decide)), nR_81_40 L.kd L.rd, Option.bind_some, na_106 L.kd hi, Option.bind_some, hs i hi, nc_81 L.kd, m_hasKind L M K, Option.bind_some, nc_81 L.kd, m_hasKind L M K, Option.bind_some]
    unfold F_X12_censor_187 F_X12_censor_202 F_X12_censor_217 F_X12_censor_222 F_X12_censor_225 pg_let
    cases sk i <;> cases kindQ A (nI c) (nI i) 2 <;> cases kindQ A (nI c) (nI i) 3 <;> simp only [b01_t, b01_f, n10, eq_self, if_true, if_false, Bool.and_true, Bool.and_false, Bool.true_and, Bool.false_and, Bool.or_true, Bool.or_false, Bool.false_eq_true, nI_1, nI_z, Nat.add_zero]
  · intro f _ _
    show F_X12_censor_133 k (f + 1) 81 land (nI what) (nI (cN 60 sk)) (nI s) (nI c) (nI (cN 60 fun p => sk p && kindQ A (nI c) (nI p) 2)) (nI (cN 60 fun p => sk p && kindQ A (nI c) (nI p) 3)) (nI (cN 60 fun p => sk p && (kindQ A (nI c) (nI p) 2 || kindQ A (nI c) (nI p) 3))) (nI 60) h = _
    unfold cen cHow
    have b0 := l60 sk
    have b4 := l60 fun p => sk p && (kindQ A (nI c) (nI p) 2 || kindQ A (nI c) (nI p) 3)
    generalize (cN 60 fun p => sk p && kindQ A (nI c) (nI p) 2) = n2
    generalize (cN 60 fun p => sk p && kindQ A (nI c) (nI p) 3) = n3
    generalize (cN 60 fun p => sk p && (kindQ A (nI c) (nI p) 2 || kindQ A (nI c) (nI p) 3)) = n4 at *
    generalize cN 60 sk = n0 at *
    have q0 : nI what = (0 : Int32) ↔ what = 0 := nI_eq (b := 0) (by omega) (by decide)
    have q4 : nI what = (4 : Int32) ↔ what = 4 := nI_eq (b := 4) (by omega) (by decide)
    have q5 : nI what = (5 : Int32) ↔ what = 5 := nI_eq (b := 5) (by omega) (by decide)
    have f295 : ∀ v u, F_X12_censor_295 k 81 land (nI what) (nI n0) (nI c) v u h = k 81 land (nI what) (nI n0) (u + v) (nI (c + 1)) h := fun v u => by
      unfold F_X12_censor_295 F_X12_censor_298 pg_let
      rw [nI_1]
    have f252 : ∀ j, j < 2 ^ 31 → F_X12_censor_252 k 81 land (nI what) (nI n0) (nI s) (nI c) (nI n2) (nI n3) (nI j) h = k 81 land (nI what) (nI n0) (nI (s + if what = 0 then 1 else if what = 4 then n2 else if what = 5 then n3 else if j = what then 1 else 0)) (nI (c + 1)) h := fun j hj => by
      unfold F_X12_censor_252
      simp only [f295]
      by_cases w0 : what = 0
      · rw [if_pos (q0.mpr w0), if_pos w0, nI_1]
      · rw [if_neg (fun z => w0 (q0.mp z)), if_neg w0]
        by_cases w4 : what = 4
        · rw [if_pos (q4.mpr w4), if_pos w4, nI_add]
        · rw [if_neg (fun z => w4 (q4.mp z)), if_neg w4]
          by_cases w5 : what = 5
          · rw [if_pos (q5.mpr w5), if_pos w5, nI_add]
          · rw [if_neg (fun z => w5 (q5.mp z)), if_neg w5]
            by_cases e : j = what
            · rw [if_pos (congrArg nI e), if_pos e, nI_1]
            · rw [if_neg (fun z => e ((nI_eq hj (by omega)).mp z)), if_neg e, nI_z]
              rfl
    rw [F_X12_censor_133]
    dsimp only
    rw [if_neg (show ¬ nI 60 < (60 : Int32) by decide)]
    by_cases g1 : n4 = n0
    · rw [if_pos (congrArg nI g1), if_pos g1]
      exact f252 1 (by decide)
    · rw [if_neg (fun z => g1 ((nI_eq (by omega) (by omega)).mp z)), if_neg g1]
      by_cases g2 : 0 < n4
      · rw [if_pos (show (0 : Int32) < nI n4 from nI_lt (a := 0) g2 (by omega)), if_pos g2]
        exact f252 2 (by decide)
      · rw [if_neg (show ¬ (0 : Int32) < nI n4 from nI_nlt (a := 0) (by omega) (by decide)), if_neg g2]
        exact f252 3 (by decide)
theorem m_censorRun {h : pg_H} {A : Nat → Int32} (L : Lay h) (M : pg_i h 83 = A) (K : ShOK A) {sk : Nat → Bool} (hs : ∀ p, p < 60 → pg_i h 106 p = b01 (sk p)) (land : Int32) {what : Nat} (hw : what < 6) : F_X12_censor_88 pg_fuel 81 land (nI what) (nI (cN 60 sk)) 0 0 h = some (nI (cenN A sk land what (nC A)), h) := by
  have kC : nC A < 13 := K.1.1.2
  have kE1 : A 1344 = nI (nC A) := K.1.1.1
  refine loopI (fun f c (_ : Unit) => F_X12_censor_88 f 81 land (nI what) (nI (cN 60 sk)) (nI (cenN A sk land what c)) (nI c) h) (nC A) (fun _ _ => True) (fun o => o = some (nI (cenN A sk land what (nC A)), h)) ?_ ?_ 0 () (Nat.zero_le _) trivial pg_fuel (by unfold pg_fuel; omega)
  · intro f c _ hc _
    refine ⟨(), ?_, trivial⟩
    have c12 : c < 12 := by omega
    show F_X12_censor_88 (f + 1) 81 land (nI what) (nI (cN 60 sk)) (nI (cenN A sk land what c)) (nI c) h = F_X12_censor_88 f 81 land (nI what) (nI (cN 60 sk)) (nI (cenN A sk land what c + if cntQ A land c then cen A sk c what else 0)) (nI (c + 1)) h
    generalize cenN A sk land what c = s
    have f298 : F_X12_censor_298 (F_X12_censor_88 f) 81 land (nI what) (nI (cN 60 sk)) (nI s) (nI c) h = F_X12_censor_88 f 81 land (nI what) (nI (cN 60 sk)) (nI (s + 0)) (nI (c + 1)) h := by
      unfold F_X12_censor_298
      rw [nI_1]
      rfl
    have k2 := (K.2.1 c hc).2.2
    have k2' : cl A (3 * c + 2) < 2 := k2.2
    rw [F_X12_censor_88]
    dsimp only
    rw [nc_81 L.kd, m_copiesA L M, kE1, Option.bind_some, if_pos (nI_lt hc (by omega)), nc_81 L.kd, m_copy_0 L M c12, Option.bind_some, nc_81 L.kd, m_copy_2 L M c12, Option.bind_some, f298, m_censorOne L M K hs land hw s c]
    unfold cntQ
    by_cases e1 : A (3 * c) = land
    · rw [if_pos e1, decide_eq_true e1, Bool.true_and, k2.1]
      by_cases e2 : cl A (3 * c + 2) = 1
      · rw [e2, if_neg (show ¬ nI 1 = (0 : Int32) by decide)]
        rw [if_pos (show decide (nI 1 = (1 : Int32)) = true by decide)]
      · have e3 : cl A (3 * c + 2) = 0 := by omega
        rw [e3, if_pos (show nI 0 = (0 : Int32) from rfl), if_neg (show ¬ decide (nI 0 = (1 : Int32)) = true by decide)]
    · rw [if_neg e1, decide_eq_false e1, Bool.false_and]
      rfl
  · intro f _ _
    show F_X12_censor_88 (f + 1) 81 land (nI what) (nI (cN 60 sk)) (nI (cenN A sk land what (nC A))) (nI (nC A)) h = _
    rw [F_X12_censor_88]
    dsimp only
    rw [nc_81 L.kd, m_copiesA L M, kE1, Option.bind_some, if_neg Int32.lt_irrefl]
theorem m_censor35 {h : pg_H} {A : Nat → Int32} {X : Nat → tX} (L : Lay h) (M : pg_i h 83 = A) {s : Nat} {g : pg_H} (S : ShX g s A X) {t : Nat} (ht : t < nT A) (land : Int32) {what : Nat} (hw : what < 6) : ∃ h', F_X12_censor_35 pg_fuel 81 land (nI t) (nI what) 0 0 h = some (nI (cenN A (skQ (X t)) land what (nC A)), h') ∧ Ch [92, 106] mT h h' := by
  have K := S.2.1
  refine loopI (fun f i x => F_X12_censor_35 f 81 land (nI t) (nI what) (nI (cN i (skQ (X t)))) (nI i) x) 60 (fun i x => Ch [92, 106] mT h x ∧ ∀ p, p < i → pg_i x 106 p = b01 (skQ (X t) p)) (fun o => ∃ h', o = some (nI (cenN A (skQ (X t)) land what (nC A)), h') ∧ Ch [92, 106] mT h h') ?_ ?_ 0 h (Nat.zero_le _) ⟨Ch.refl _ _ _, fun p hp => absurd hp (Nat.not_lt_zero p)⟩ pg_fuel (by unfold pg_fuel; omega)
  · intro f i x hi ⟨cx, rx⟩
    have Lx := cx.lay L (by decide)
    have Mx : pg_i x 83 = A := (cx.row (by decide)).trans M
    obtain ⟨y, y1, y2⟩ := m_isStruck Lx Mx S ht hi
    have Ly := y2.lay Lx (by decide)
    have cz : Ch [92, 106] mT h (pg_si y 106 i (b01 (skQ (X t) i))) := (cx.trans (y2.mono (by decide))).asi (Or.inl (by decide))
    have Lz := cz.lay L (by decide)
    have f73 : ∀ v u, F_X12_censor_73 (F_X12_censor_35 f) 81 land (nI t) (nI what) (nI i) v u (pg_si y 106 i (b01 (skQ (X t) i))) = F_X12_censor_35 f 81 land (nI t) (nI what) (u + v) (nI (i + 1)) (pg_si y 106 i (b01 (skQ (X t) i))) := fun v u => by
      unfold F_X12_censor_73 pg_let
      rw [nI_1]
    have er : pg_i (pg_si y 106 i (b01 (skQ (X t) i))) 106 i = b01 (skQ (X t) i) := by rw [si_row, up1_eq]
    refine ⟨pg_si y 106 i (b01 (skQ (X t) i)), ?_, cz, fun p hp => ?_⟩
    · show F_X12_censor_35 (f + 1) 81 land (nI t) (nI what) (nI (cN i (skQ (X t)))) (nI i) x = F_X12_censor_35 f 81 land (nI t) (nI what) (nI (cN i (skQ (X t)) + if skQ (X t) i then 1 else 0)) (nI (i + 1)) (pg_si y 106 i (b01 (skQ (X t) i)))
      rw [F_X12_censor_35]
      dsimp only
      rw [if_pos (show nI i < (60 : Int32) from nI_lt (b := 60) hi (by decide)), nR_81_40 Lx.kd Lx.rd, Option.bind_some, nc_81 Lx.kd, y1, Option.bind_some]
      dsimp only
      rw [ns_106 Ly.kd hi, Option.bind_some, b01_and1, nR_81_40 Lz.kd Lz.rd, Option.bind_some, na_106 Lz.kd hi, Option.bind_some, er, if_bb, f73, f73]
      cases q : skQ (X t) i with
      | true => rw [if_pos rfl, if_pos rfl, nI_1]
      | false =>
        rw [if_neg (by decide), if_neg (by decide), nI_z]
        rfl
    · rw [si_row]
      by_cases e : p = i
      · rw [e, up1_eq]
      · rw [up1_ne e, y2.row (by decide)]
        exact rx p (by omega)
  · intro f x ⟨cx, rx⟩
    have Lx := cx.lay L (by decide)
    have Mx : pg_i x 83 = A := (cx.row (by decide)).trans M
    refine ⟨x, ?_, cx⟩
    show F_X12_censor_35 (f + 1) 81 land (nI t) (nI what) (nI (cN 60 (skQ (X t)))) (nI 60) x = _
    rw [F_X12_censor_35]
    dsimp only
    rw [if_neg (show ¬ nI 60 < (60 : Int32) by decide)]
    exact m_censorRun Lx Mx K rx land hw
theorem sim_censor : Sim_censor Inv := by
  intro x1 x2 x3 q h hq I
  show SimB q h (F_X11_censor 1 x1 x2 x3) (F_X12_censor 81 x1 x2 x3)
  obtain ⟨_, _, _, _, _, X, Y0, Y1, S, _⟩ := id I
  have L := I.1
  have D := L.kd
  have R := L.rd
  obtain ⟨C, K, TX⟩ := id S
  have kT : nT (pg_i h 83) < 9 := K.1.2.2.2.2.2
  have tx0 : ∀ t, t < nT (pg_i h 83) → ¬ pg_r h 14 t = 0 := fun t ht => by
    have := (S.2.2 t ht).2.1.1.1
    show ¬ pg_r h (2 + 12) t = 0
    omega
  by_cases c1 : 0 ≤ x1 ∧ x1 ≤ 7
  · by_cases c2 : 0 ≤ x2 ∧ x2 < nI (nT (pg_i h 83))
    · obtain ⟨t, ht, rfl⟩ := in_nI c2 (by omega)
      by_cases c3 : 0 ≤ x3 ∧ x3 ≤ 5
      · obtain ⟨what, hw, rfl⟩ := nI_of2 (x := x3) (M := 5) (n := 5) (by decide) (Int32.not_lt.mpr c3.1) c3.2
        obtain ⟨g, g1, g2⟩ := c_placesStruck L S ht
        have Lg := g2.lay L (by decide)
        have Cg : CNum g 2 (pg_i h 83) := C.ch g2 (by decide)
        have Mg : pg_i g 83 = pg_i h 83 := g2.row (by decide)
        have g3 := c_censorRun Lg Cg K (skQ (X t)) x1 (what := what) (by omega)
        obtain ⟨y, y1, y2⟩ := m_censor35 Lg Mg S ht x1 (what := what) (by omega)
        have all : Ch [48, 49, 92, 106] ((47, 2) :: mT) h y := (g2.mono (by decide)).trans (y2.mono (by decide))
        refine ⟨nI (cenN (pg_i h 83) (skQ (X t)) x1 what (nC (pg_i h 83))), g, y, ?_, Lg, ?_, I.same all (by decide) (by decide), all.few⟩
        · unfold F_X11_censor
          rw [nR_1_0 D R, Option.bind_some, nc_2 D, c_textOf L C K, if_pos c2, Option.bind_some, within_le, Option.bind_some, if_bb, if_pos (decide_eq_true c1), nI_clamp (show t < 2 ^ 31 by omega), if_neg (tx0 t ht), within_le, Option.bind_some, if_bb, if_pos (decide_eq_true c3), nc_1 D, g1, Option.bind_some]
          exact g3
        · unfold F_X12_censor
          rw [lies_le, Option.bind_some, if_bb, if_pos (decide_eq_true c1), nc_81 Lg.kd, m_isText Lg Mg K, Option.bind_some, if_bb, if_pos (decide_eq_true c2), lies_le, Option.bind_some, if_bb, if_pos (decide_eq_true c3)]
          exact y1
      · refine SimB.none I (-1) ?_ ?_
        · unfold F_X11_censor
          rw [nR_1_0 D R, Option.bind_some, nc_2 D, c_textOf L C K, if_pos c2, Option.bind_some, within_le, Option.bind_some, if_bb, if_pos (decide_eq_true c1), nI_clamp (show t < 2 ^ 31 by omega), if_neg (tx0 t ht), within_le, Option.bind_some, if_bb, if_neg (by rw [decide_eq_false c3]; decide)]
        · unfold F_X12_censor
          rw [lies_le, Option.bind_some, if_bb, if_pos (decide_eq_true c1), nc_81 D, m_isText L rfl K, Option.bind_some, if_bb, if_pos (decide_eq_true c2), lies_le, Option.bind_some, if_bb, if_neg (by rw [decide_eq_false c3]; decide)]
    · refine SimB.none I (-1) ?_ ?_
      · unfold F_X11_censor
        rw [nR_1_0 D R, Option.bind_some, nc_2 D, c_textOf L C K, if_neg c2, Option.bind_some, within_le, Option.bind_some, if_bb, if_pos (decide_eq_true c1), if_pos rfl]
      · unfold F_X12_censor
        rw [lies_le, Option.bind_some, if_bb, if_pos (decide_eq_true c1), nc_81 D, m_isText L rfl K, Option.bind_some, if_bb, if_neg (by rw [decide_eq_false c2]; decide)]
  · refine SimB.none I (-1) ?_ ?_
    · unfold F_X11_censor
      rw [nR_1_0 D R, Option.bind_some, nc_2 D, c_textOf L C K, Option.bind_some, within_le, Option.bind_some, if_bb, if_neg (by rw [decide_eq_false c1]; decide)]
    · unfold F_X12_censor
      rw [lies_le, Option.bind_some, if_bb, if_neg (by rw [decide_eq_false c1]; decide)]
