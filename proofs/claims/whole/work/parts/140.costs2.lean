/-! COSTS of the reference; holders, agreement of the class -/
theorem c_agreement {h : pg_H} {A : Nat → Int32} {w : Nat → Nat → Nat} {R : Nat} {key : Nat → Nat} (L : Lay h) (S : RdS h A w R key) {a b : Nat} (ha : a < 12) (hb : b < 12) : F_X4_agreement h 50 (nI a) (nI b) = some (nI (agS A w a b)) := by
  have tot := rd_sum S (fun m => hasM A a m && hasM A b m) (fun m _ e => ⟨a, ha, by
    rw [Bool.and_eq_true] at e
    exact e.1⟩)
  obtain ⟨⟨s1, s2⟩, s3, _, _, _⟩ := S
  unfold F_X4_agreement pg_let
  dsimp only
  rw [ix_shl a (by omega), ix_shl b (by omega), mk_pow ha, mk_pow hb, ix_or, mk_or]
  show F_X4_agreement_14 h pg_fuel 50 (nI (mk 12 (pairE a b))) 0 0 = _
  have z := loopF (fun f i x => F_X4_agreement_14 h f 50 (nI (mk 12 (pairE a b))) (nI x) (nI i)) (R) (fun i x => x + (if hasM A a (key i) && hasM A b (key i) then wM w (key i) else 0)) (some (nI (agS A w a b))) (fun _ _ => True) 0 ?_ (fun _ _ _ _ _ => trivial) ?_ trivial pg_fuel (by unfold pg_fuel; omega)
  · exact z
  · intro f i x hi _ _
    obtain ⟨_, _, q1, q2⟩ := s3 i hi
    have bi : i < 200 := by omega
    show F_X4_agreement_14 h (f + 1) 50 (nI (mk 12 (pairE a b))) (nI x) (nI i) = F_X4_agreement_14 h f 50 (nI (mk 12 (pairE a b))) (nI (x + (if hasM A a (key i) && hasM A b (key i) then wM w (key i) else 0))) (nI (i + 1))
    rw [F_X4_agreement_14]
    dsimp only
    rw [ng_50 L.kd, Option.bind_some, s2, if_pos (nI_lt hi (by omega)), nR_50_2 L.kd L.rd, Option.bind_some, na_53 L.kd bi, Option.bind_some, q1]
    unfold F_X4_agreement_49 pg_let
    by_cases e : (hasM A a (key i) && hasM A b (key i)) = true
    · rw [if_pos ((pair_all (f := fun c => hasM A c (key i)) ha hb).mpr e), nR_50_3 L.kd L.rd, Option.bind_some, na_54 L.kd bi, Option.bind_some, q2, nI_add, nI_1, if_pos e]
    · rw [if_neg (fun z => e ((pair_all (f := fun c => hasM A c (key i)) ha hb).mp z)), nI_1, if_neg e]
      rw [show nI x + (0 : Int32) = nI (x + 0) from nI_add x 0]
  · intro f _
    rw [show (foldN R (fun i x => x + (if hasM A a (key i) && hasM A b (key i) then wM w (key i) else 0)) 0) = agS A w a b from foldN_sum.trans tot]
    show F_X4_agreement_14 h (f + 1) 50 (nI (mk 12 (pairE a b))) (nI (agS A w a b)) (nI (R)) = _
    rw [F_X4_agreement_14]
    dsimp only
    rw [ng_50 L.kd, Option.bind_some, s2, if_neg Int32.lt_irrefl]
theorem c_holdersOf {h : pg_H} {A : Nat → Int32} {w : Nat → Nat → Nat} (L : Lay h) (K : ShOK A) (D : Rd h A w) {p v : Nat} (hp : p < 60) (hv : v < 100) : F_X4_holdersOf h 50 (nI p) (nI v) = some (nI (mk 12 fun c => hasQ A (nI c) (nI p) (nI v) 0)) := by
  obtain ⟨R, pl, wd, p1, p2, p3, p4, p5, p6⟩ := D
  have ch : ChainOK h R pl wd := ⟨p1, fun r hr => ⟨(p2 r hr).1, (p2 r hr).2.1, (p2 r hr).2.2.1, (p2 r hr).2.2.2.2.2⟩, fun p hp => (p6 p hp).1⟩
  have r200 := p1.1
  unfold F_X4_holdersOf
  rw [nc_50 L.kd, c_find L.kd L.rd ch hp hv, Option.bind_some]
  by_cases ex : ∃ r, r < R ∧ pl r = p ∧ wd r = v
  · obtain ⟨r, r1, r2, r3⟩ := ex
    rw [findN_at R r1 r2 r3 (fun r' q1 q2 q3 => p3 r' r q1 r1 (q2.trans r2.symm) (q3.trans r3.symm)), if_neg (neg1_ne (by omega)), nR_50_2 L.kd L.rd, Option.bind_some, na_53 L.kd (by omega), Option.bind_some, (p2 r r1).2.2.2.1, r2, r3]
  · rw [findN_some R (fun r hr z => ex ⟨r, hr, z⟩), if_pos rfl]
    show some (nI 0) = _
    rw [mk_zero 12]
    refine congrArg (fun m => some (nI m)) (mk_cong (fun c hc => ?_))
    cases q : hasQ A (nI c) (nI p) (nI v) 0 with
    | false => rfl
    | true =>
      obtain ⟨n, hn, z⟩ := anyN_true.mp q
      have z := (noteQ_iff K hn (by omega) (by omega) (by omega) 0).mp z
      obtain ⟨r, r1, r2, r3⟩ := p4 n hn z.2.2.2
      exact absurd ⟨r, r1, r2.trans z.2.1, r3.trans z.2.2.1⟩ ex
theorem c_sharedOf {h : pg_H} {A : Nat → Int32} {w : Nat → Nat → Nat} (L : Lay h) (C : CNum h 2 A) (K : ShOK A) (D : Rd h A w) {n : Nat} (hn : n < nN A) : F_X4_sharedOf h 50 2 (nI n) = some (nI (if wrQ A n then shQ A (A (340 + 5 * n + 1)) (A (340 + 5 * n + 2)) else 0)) := by
  obtain ⟨k0, k1, k2, _, _⟩ := K.2.2.2.2.2.1 n hn
  have b1 : cl A (340 + 5 * n + 1) < 60 := k1.2
  have b2 : cl A (340 + 5 * n + 2) < 100 := k2.2
  have e1 := k1.1
  have e2 := k2.1
  unfold F_X4_sharedOf wrQ
  simp only [k_si, k_sl, k_sr, r_si, r_sl, i_sl, i_sr, l_si, l_sr, Option.bind_some, if_true, if_false, bind_eta2, if_bb, decide_eq_true_eq, pg_let, nR_2_4, nc_11, nc_50, L.kd, L.rd, c_at_11_4 C hn, c_at_11_1 C hn, c_at_11_2 C hn]
  by_cases z : A (340 + 5 * n + 4) = 0
  · rw [if_pos z, if_pos z, e1, e2, c_holdersOf L K D b1 b2, Option.bind_some, bc_mk, shQ_12 K]
    rfl
  · rw [if_neg z, if_neg z]
    rfl
/-- the reference's weights of notes -/
def Wt (h : pg_H) (A : Nat → Int32) (w : Nat → Nat → Nat) : Prop := ∀ n, n < nN A → pg_i h 93 n = nI (if wrQ A n then wM w (nKey A n) else 0)
theorem m_weighs {h : pg_H} {A : Nat → Int32} {X : Nat → tX} (L : Lay h) (M : pg_i h 83 = A) {s : Nat} {g : pg_H} (S : ShX g s A X) : ∃ h', F_X12_weighs 81 h = some h' ∧ Ch [92, 93] mT h h' ∧ Wt h' A (wg A (uX A X)) := by
  have K := S.2.1
  have kN : nN A < 201 := K.1.2.2.2.1.2
  have kE : A 1347 = nI (nN A) := K.1.2.2.2.1.1
  unfold F_X12_weighs
  refine loopI (fun f i x => F_X12_weighs_2 f 81 (nI i) x) (nN A) (fun i x => Ch [92, 93] mT h x ∧ ∀ n, n < i → pg_i x 93 n = nI (if wrQ A n then wM (wg A (uX A X)) (nKey A n) else 0)) (fun o => ∃ h', o = some h' ∧ Ch [92, 93] mT h h' ∧ Wt h' A (wg A (uX A X))) ?_ ?_ 0 h (Nat.zero_le _) ⟨Ch.refl _ _ _, fun n hn => absurd hn (Nat.not_lt_zero n)⟩ pg_fuel (by unfold pg_fuel; omega)
  · intro f i x hi ⟨cx, wx⟩
    have Lx := cx.lay L (by decide)
    have Mx : pg_i x 83 = A := (cx.row (by decide)).trans M
    have h2 : i < 200 := by omega
    obtain ⟨k0, k1, k2, _, _⟩ := K.2.2.2.2.2.1 i hi
    have b1 : cl A (340 + 5 * i + 1) < 60 := k1.2
    have b2 : cl A (340 + 5 * i + 2) < 100 := k2.2
    have ek : pg_aI 21 x 83 (1347 : Int32) = some (nI (nN A)) := by rw [m_k_1347 Lx Mx, kE]
    by_cases z : A (340 + 5 * i + 4) = 0
    · obtain ⟨y, y1, y2⟩ := m_weightOf Lx Mx S (p := cl A (340 + 5 * i + 1)) (w := cl A (340 + 5 * i + 2)) (by omega)
      have Dy : KD (pg_k y) := by
        rw [y2.kk]
        exact Lx.kd
      have val : wg A (uX A X) (cl A (340 + 5 * i + 1)) (cl A (340 + 5 * i + 2)) = (if wrQ A i then wM (wg A (uX A X)) (nKey A i) else 0) := by
        unfold wrQ wM nKey
        have d := key_dm (p := nt A i 1) (w := nt A i 2) b2
        rw [if_pos (decide_eq_true z), d.1, d.2]
        rfl
      refine ⟨pg_si y 93 i (nI (if wrQ A i then wM (wg A (uX A X)) (nKey A i) else 0)), ?_, (cx.trans (y2.mono (by decide))).asi (Or.inl (by decide)), fun n hn => ?_⟩
      · show F_X12_weighs_2 (f + 1) 81 (nI i) x = F_X12_weighs_2 f 81 (nI (i + 1)) _
        rw [F_X12_weighs_2]
        dsimp only
        rw [nR_81_3 Lx.kd Lx.rd, Option.bind_some, ek, Option.bind_some, if_pos (nI_lt hi (by omega)), nR_81_25 Lx.kd Lx.rd, Option.bind_some, nc_81 Lx.kd, m_note_4 Lx Mx h2, Option.bind_some, if_pos z, nc_81 Lx.kd, m_note_1 Lx Mx h2, Option.bind_some, nc_81 Lx.kd, m_note_2 Lx Mx h2, Option.bind_some, nc_81 Lx.kd, k1.1, k2.1, y1, Option.bind_some, val]
        unfold F_X12_weighs_48
        dsimp only
        rw [ns_93 Dy h2, Option.bind_some, nI_1]
      · rw [si_row]
        by_cases e : n = i
        · rw [e, up1_eq]
        · rw [up1_ne e, y2.row (by decide)]
          exact wx n (by omega)
    · refine ⟨pg_si x 93 i (nI (if wrQ A i then wM (wg A (uX A X)) (nKey A i) else 0)), ?_, cx.asi (Or.inl (by decide)), fun n hn => ?_⟩
      · have v0 : (if wrQ A i then wM (wg A (uX A X)) (nKey A i) else 0) = 0 := by
          unfold wrQ
          rw [if_neg (by rw [decide_eq_false z]; decide)]
        show F_X12_weighs_2 (f + 1) 81 (nI i) x = F_X12_weighs_2 f 81 (nI (i + 1)) _
        rw [F_X12_weighs_2]
        dsimp only
        rw [nR_81_3 Lx.kd Lx.rd, Option.bind_some, ek, Option.bind_some, if_pos (nI_lt hi (by omega)), nR_81_25 Lx.kd Lx.rd, Option.bind_some, nc_81 Lx.kd, m_note_4 Lx Mx h2, Option.bind_some, if_neg z, v0]
        unfold F_X12_weighs_48
        rw [ns_93 Lx.kd h2, Option.bind_some, nI_1]
        rfl
      · rw [si_row]
        by_cases e : n = i
        · rw [e, up1_eq]
        · rw [up1_ne e]
          exact wx n (by omega)
  · intro f x ⟨cx, wx⟩
    have Lx := cx.lay L (by decide)
    have Mx : pg_i x 83 = A := (cx.row (by decide)).trans M
    refine ⟨x, ?_, cx, wx⟩
    show F_X12_weighs_2 (f + 1) 81 (nI (nN A)) x = _
    rw [F_X12_weighs_2]
    dsimp only
    rw [nR_81_3 Lx.kd Lx.rd, Option.bind_some, m_k_1347 Lx Mx, kE, Option.bind_some, if_neg Int32.lt_irrefl]
theorem copy_iff {A : Nat → Int32} (K : ShOK A) {n c : Nat} (hn : n < nN A) (hc : c < 2 ^ 31) : A (340 + 5 * n) = nI c ↔ nt A n 0 = c := by
  obtain ⟨k0, _⟩ := K.2.2.2.2.2.1 n hn
  have kC : nC A < 13 := K.1.1.2
  rw [k0.1]
  exact nI_eq (by have := k0.2; omega) hc
theorem m_costAlone {h : pg_H} {A : Nat → Int32} {w : Nat → Nat → Nat} (L : Lay h) (M : pg_i h 83 = A) (K : ShOK A) (W : Wt h A w) {c : Nat} (hc : c < 12) : F_X12_costAlone h 81 (nI c) = some (nI (tm A 2 * ownS A w c)) := by
  have kN : nN A < 201 := K.1.2.2.2.1.2
  have kE : A 1347 = nI (nN A) := K.1.2.2.2.1.1
  have tot : sumN (nN A) (fun n => if decide (nt A n 0 = c) then (if wrQ A n then wM w (nKey A n) else 0) else 0) = ownS A w c := by
    rw [ownS_G, ← note_sum K w (show c < 2 ^ 31 by omega) (show c < 2 ^ 31 by omega) (fun _ => true)]
    refine sumN_cong (fun n hn => ?_)
    cases e : wrQ A n with
    | false =>
      rw [if_neg (show ¬ (false = true) by decide), Bool.false_and, Bool.false_and, if_neg (show ¬ (false = true) by decide)]
      exact ite_self _
    | true =>
      rw [if_pos rfl, Bool.true_and, Bool.and_true]
      by_cases q : nt A n 0 = c
      · rw [decide_eq_true q]
        rfl
      · rw [decide_eq_false q]
        rfl
  unfold F_X12_costAlone
  have z := loopF (fun f i x => F_X12_costAlone_4 h f 81 (nI c) (nI x) (nI i)) (nN A) (fun i x => x + (if decide (nt A i 0 = c) then (if wrQ A i then wM w (nKey A i) else 0) else 0)) (some (nI (tm A 2 * ownS A w c))) (fun _ _ => True) 0 ?_ (fun _ _ _ _ _ => trivial) ?_ trivial pg_fuel (by unfold pg_fuel; omega)
  · exact z
  · intro f i x hi _ _
    have h2 : i < 200 := by omega
    show F_X12_costAlone_4 h (f + 1) 81 (nI c) (nI x) (nI i) = F_X12_costAlone_4 h f 81 (nI c) (nI (x + (if decide (nt A i 0 = c) then (if wrQ A i then wM w (nKey A i) else 0) else 0))) (nI (i + 1))
    rw [F_X12_costAlone_4]
    dsimp only
    rw [nR_81_3 L.kd L.rd, Option.bind_some, m_k_1347 L M, kE, Option.bind_some, if_pos (nI_lt hi (by omega)), nc_81 L.kd, m_note_0 L M h2, Option.bind_some]
    unfold F_X12_costAlone_35 pg_let
    by_cases e : nt A i 0 = c
    · rw [if_pos ((copy_iff K hi (by omega)).mpr e), nR_81_25 L.kd L.rd, Option.bind_some, na_93 L.kd h2, Option.bind_some, W i hi, nI_add, nI_1, if_pos (decide_eq_true e)]
    · rw [if_neg (fun z => e ((copy_iff K hi (by omega)).mp z)), nI_1, if_neg (by rw [decide_eq_false e]; decide)]
      rfl
  · intro f _
    rw [show (foldN (nN A) (fun i x => x + (if decide (nt A i 0 = c) then (if wrQ A i then wM w (nKey A i) else 0) else 0)) 0) = ownS A w c from foldN_sum.trans tot]
    show F_X12_costAlone_4 h (f + 1) 81 (nI c) (nI (ownS A w c)) (nI (nN A)) = _
    rw [F_X12_costAlone_4]
    dsimp only
    have t2 : F_X12_term h 81 (2 : Int32) = some (nI (tm A 2)) := by
      rw [show (2 : Int32) = nI 2 from rfl, m_term L 2 (by decide), M, (terms_eq K).2.2.1]
    rw [nR_81_3 L.kd L.rd, Option.bind_some, m_k_1347 L M, kE, Option.bind_some, if_neg Int32.lt_irrefl, nc_81 L.kd, t2, Option.bind_some, nI_mul]
theorem m_costFrom {h : pg_H} {A : Nat → Int32} {w : Nat → Nat → Nat} (L : Lay h) (M : pg_i h 83 = A) (K : ShOK A) (W : Wt h A w) {a b c : Nat} (ha : a < 12) (hb : b < 12) (hc : c < 12) : F_X12_costFrom h 81 (nI a) (nI b) (nI c) = some (nI (frC A w a b c)) := by
  have kN : nN A < 201 := K.1.2.2.2.1.2
  have kE : A 1347 = nI (nN A) := K.1.2.2.2.1.1
  have tot1 : sumN (nN A) (fun n => if (wrQ A n && (decide (nt A n 0 = c) || (decide (nt A n 0 = c) && !hasM A c (nKey A n)))) && (!hasM A a (nKey A n) && (!hasM A b (nKey A n) && !(cutM A a (nKey A n) && cutM A b (nKey A n)))) then wM w (nKey A n) else 0) = addS A w a b c := by
    unfold addS
    rw [one_G (c := c) (fun m => !hasM A a m && (!hasM A b m && !(cutM A a m && cutM A b m)))]
    exact note_sum K w (a := c) (b := c) (show c < 2 ^ 31 by omega) (show c < 2 ^ 31 by omega) (fun m => !hasM A a m && (!hasM A b m && !(cutM A a m && cutM A b m)))
  have tot2 : sumN (nN A) (fun n => if (wrQ A n && (decide (nt A n 0 = a) || (decide (nt A n 0 = b) && !hasM A a (nKey A n)))) && (!hasM A c (nKey A n) && !cutM A c (nKey A n)) then wM w (nKey A n) else 0) = leaS A w a b c := note_sum K w (a := a) (b := b) (show a < 2 ^ 31 by omega) (show b < 2 ^ 31 by omega) (fun m => !hasM A c m && !cutM A c m)
  unfold F_X12_costFrom
  have z := loopF (fun f i (x : Nat × Nat) => F_X12_costFrom_9 h f 81 (nI a) (nI b) (nI c) (nI x.1) (nI x.2) (nI i)) (nN A) (fun i x => (x.1 + (if (wrQ A i && (decide (nt A i 0 = c) || (decide (nt A i 0 = c) && !hasM A c (nKey A i)))) && (!hasM A a (nKey A i) && (!hasM A b (nKey A i) && !(cutM A a (nKey A i) && cutM A b (nKey A i)))) then wM w (nKey A i) else 0), x.2 + (if (wrQ A i && (decide (nt A i 0 = a) || (decide (nt A i 0 = b) && !hasM A a (nKey A i)))) && (!hasM A c (nKey A i) && !cutM A c (nKey A i)) then wM w (nKey A i) else 0))) (some (nI (frC A w a b c))) (fun _ _ => True) ((0 : Nat), (0 : Nat)) ?_ (fun _ _ _ _ _ => trivial) ?_ trivial pg_fuel (by unfold pg_fuel; omega)
  · exact z
  · intro f i x hi _ _
    have h2 : i < 200 := by omega
    obtain ⟨k0, k1, k2, _, _⟩ := K.2.2.2.2.2.1 i hi
    have b2 : nt A i 2 < 100 := k2.2
    have d := key_dm (p := nt A i 1) (w := nt A i 2) b2
    have e1 : A (340 + 5 * i + 1) = nI (nKey A i / 100) := by
      unfold nKey
      rw [d.1]
      exact k1.1
    have e2 : A (340 + 5 * i + 2) = nI (nKey A i % 100) := by
      unfold nKey
      rw [d.2]
      exact k2.1
    have hs : ∀ y, F_X12_has h 81 (nI y) (A (340 + 5 * i + 1)) (A (340 + 5 * i + 2)) = some (b01 (hasM A y (nKey A i))) := fun y => by
      rw [m_has L M K, e1, e2]
      rfl
    have ct : ∀ y, F_X12_hasKind h 81 (nI y) (A (340 + 5 * i + 1)) (1 : Int32) = some (b01 (cutM A y (nKey A i))) := fun y => by
      rw [m_hasKind L M K, e1]
      rfl
    have wt : wrQ A i = true → pg_i h 93 i = nI (wM w (nKey A i)) := fun q => by
      rw [W i hi, if_pos q]
    have f197 : ∀ u v, F_X12_costFrom_197 h (F_X12_costFrom_9 h f) 81 (nI a) (nI b) (nI c) u v (nI i) = F_X12_costFrom_9 h f 81 (nI a) (nI b) (nI c) u v (nI (i + 1)) := fun u v => by
      unfold F_X12_costFrom_197
      rw [nI_1]
    have f155 : wrQ A i = true → ∀ u (s : Bool), F_X12_costFrom_155 h (F_X12_costFrom_9 h f) 81 (nI a) (nI b) (nI c) u (nI x.2) (nI i) (A (340 + 5 * i + 1)) (A (340 + 5 * i + 2)) (b01 s) = F_X12_costFrom_9 h f 81 (nI a) (nI b) (nI c) u (nI (x.2 + (if s && (!hasM A c (nKey A i) && !cutM A c (nKey A i)) then wM w (nKey A i) else 0))) (nI (i + 1)) := fun q u s => by
      unfold F_X12_costFrom_155 pg_let
      rw [nc_81 L.kd, hs, nc_81 L.kd, ct, if_bb]
      cases s with
      | false =>
        rw [if_neg (by decide), f197]
        rfl
      | true =>
        rw [if_pos rfl, Option.bind_some, if_bb]
        cases hasM A c (nKey A i) with
        | true =>
          rw [if_pos rfl, f197]
          rfl
        | false =>
          rw [if_neg (by decide), Option.bind_some, if_bb]
          cases cutM A c (nKey A i) with
          | true =>
            rw [if_pos rfl, f197]
            rfl
          | false =>
            rw [if_neg (by decide), nR_81_25 L.kd L.rd, Option.bind_some, na_93 L.kd h2, Option.bind_some, wt q, nI_add]
            dsimp only
            rw [f197]
            rfl
    have f126 : wrQ A i = true → ∀ u, F_X12_costFrom_126 h (F_X12_costFrom_9 h f) 81 (nI a) (nI b) (nI c) u (nI x.2) (nI i) (A (340 + 5 * i + 1)) (A (340 + 5 * i + 2)) (A (340 + 5 * i)) = F_X12_costFrom_9 h f 81 (nI a) (nI b) (nI c) u (nI (x.2 + (if (decide (nt A i 0 = a) || (decide (nt A i 0 = b) && !hasM A a (nKey A i))) && (!hasM A c (nKey A i) && !cutM A c (nKey A i)) then wM w (nKey A i) else 0))) (nI (i + 1)) := fun q u => by
      unfold F_X12_costFrom_126 F_X12_costFrom_150 F_X12_costFrom_154
      rw [show (1 : Int32) = b01 true from rfl, show (0 : Int32) = b01 false from rfl, f155 q, f155 q, nc_81 L.kd, hs]
      by_cases ea : nt A i 0 = a
      · rw [if_pos ((copy_iff K hi (by omega)).mpr ea), decide_eq_true ea, Bool.true_or]
      · rw [if_neg (fun z => ea ((copy_iff K hi (by omega)).mp z)), decide_eq_false ea, Bool.false_or]
        by_cases eb : nt A i 0 = b
        · rw [if_pos ((copy_iff K hi (by omega)).mpr eb), decide_eq_true eb, Bool.true_and, Option.bind_some]
          cases hasM A a (nKey A i) with
          | true => rfl
          | false => rfl
        · rw [if_neg (fun z => eb ((copy_iff K hi (by omega)).mp z)), decide_eq_false eb, Bool.false_and]
          rfl
    show F_X12_costFrom_9 h (f + 1) 81 (nI a) (nI b) (nI c) (nI x.1) (nI x.2) (nI i) = F_X12_costFrom_9 h f 81 (nI a) (nI b) (nI c) (nI (x.1 + (if (wrQ A i && (decide (nt A i 0 = c) || (decide (nt A i 0 = c) && !hasM A c (nKey A i)))) && (!hasM A a (nKey A i) && (!hasM A b (nKey A i) && !(cutM A a (nKey A i) && cutM A b (nKey A i)))) then wM w (nKey A i) else 0))) (nI (x.2 + (if (wrQ A i && (decide (nt A i 0 = a) || (decide (nt A i 0 = b) && !hasM A a (nKey A i)))) && (!hasM A c (nKey A i) && !cutM A c (nKey A i)) then wM w (nKey A i) else 0))) (nI (i + 1))
    rw [F_X12_costFrom_9]
    dsimp only
    rw [nR_81_3 L.kd L.rd, Option.bind_some, m_k_1347 L M, kE, Option.bind_some, if_pos (nI_lt hi (by omega)), nc_81 L.kd, m_note_4 L M h2, Option.bind_some]
    by_cases z : A (340 + 5 * i + 4) = 0
    · have q : wrQ A i = true := decide_eq_true z
      rw [if_pos z, nc_81 L.kd, m_note_1 L M h2, Option.bind_some, nc_81 L.kd, m_note_2 L M h2, Option.bind_some, nc_81 L.kd, m_note_0 L M h2, Option.bind_some, nc_81 L.kd, hs, q, Bool.true_and, Bool.true_and]
      have f114 : ∀ u, F_X12_costFrom_114 h (F_X12_costFrom_9 h f) 81 (nI a) (nI b) (nI c) (nI u) (nI x.2) (nI i) (A (340 + 5 * i + 1)) (A (340 + 5 * i + 2)) (A (340 + 5 * i)) = F_X12_costFrom_126 h (F_X12_costFrom_9 h f) 81 (nI a) (nI b) (nI c) (nI (u + wM w (nKey A i))) (nI x.2) (nI i) (A (340 + 5 * i + 1)) (A (340 + 5 * i + 2)) (A (340 + 5 * i)) := fun u => by
        unfold F_X12_costFrom_114 pg_let
        rw [nR_81_25 L.kd L.rd, Option.bind_some, na_93 L.kd h2, Option.bind_some, wt q, nI_add]
      obtain ⟨lv, hlv⟩ : ∃ lv, lv = x.2 + (if (decide (nt A i 0 = a) || (decide (nt A i 0 = b) && !hasM A a (nKey A i))) && (!hasM A c (nKey A i) && !cutM A c (nKey A i)) then wM w (nKey A i) else 0) := ⟨_, rfl⟩
      simp only [← hlv] at f126
      rw [f114, ← hlv]
      by_cases ec : nt A i 0 = c
      · rw [if_pos ((copy_iff K hi (by omega)).mpr ec), decide_eq_true ec, Bool.true_or, Bool.true_and, Option.bind_some, if_bb]
        cases hasM A a (nKey A i) with
        | true =>
          rw [if_pos rfl, f126 q]
          rfl
        | false =>
          rw [if_neg (by decide), nc_81 L.kd, hs, Option.bind_some, if_bb]
          cases hasM A b (nKey A i) with
          | true =>
            rw [if_pos rfl, f126 q]
            rfl
          | false =>
            rw [if_neg (by decide), nc_81 L.kd, ct, Option.bind_some, if_bb]
            cases cutM A a (nKey A i) with
            | false =>
              rw [if_neg (by decide), f126 q]
              rfl
            | true =>
              rw [if_pos rfl, nc_81 L.kd, ct, Option.bind_some, if_bb]
              cases cutM A b (nKey A i) with
              | false =>
                rw [if_neg (by decide), f126 q]
                rfl
              | true =>
                rw [if_pos rfl, f126 q]
                rfl
      · rw [if_neg (fun z => ec ((copy_iff K hi (by omega)).mp z)), decide_eq_false ec, f126 q]
        rfl
    · have q : wrQ A i = false := decide_eq_false z
      rw [if_neg z, f197, q]
      rfl
  · intro f _
    have fo : foldN (nN A) (fun i (x : Nat × Nat) => (x.1 + (if (wrQ A i && (decide (nt A i 0 = c) || (decide (nt A i 0 = c) && !hasM A c (nKey A i)))) && (!hasM A a (nKey A i) && (!hasM A b (nKey A i) && !(cutM A a (nKey A i) && cutM A b (nKey A i)))) then wM w (nKey A i) else 0), x.2 + (if (wrQ A i && (decide (nt A i 0 = a) || (decide (nt A i 0 = b) && !hasM A a (nKey A i)))) && (!hasM A c (nKey A i) && !cutM A c (nKey A i)) then wM w (nKey A i) else 0))) (0, 0) = (addS A w a b c, leaS A w a b c) := by
      rw [foldN_pair (f := fun i x => x + (if (wrQ A i && (decide (nt A i 0 = c) || (decide (nt A i 0 = c) && !hasM A c (nKey A i)))) && (!hasM A a (nKey A i) && (!hasM A b (nKey A i) && !(cutM A a (nKey A i) && cutM A b (nKey A i)))) then wM w (nKey A i) else 0)) (g := fun i x => x + (if (wrQ A i && (decide (nt A i 0 = a) || (decide (nt A i 0 = b) && !hasM A a (nKey A i)))) && (!hasM A c (nKey A i) && !cutM A c (nKey A i)) then wM w (nKey A i) else 0)), foldN_sum, foldN_sum, tot1, tot2]
    rw [fo]
    have t0 : F_X12_term h 81 (0 : Int32) = some (nI (tm A 0)) := by
      rw [show (0 : Int32) = nI 0 from rfl, m_term L 0 (by decide), M, (terms_eq K).1]
    have t1 : F_X12_term h 81 (1 : Int32) = some (nI (tm A 1)) := by
      rw [show (1 : Int32) = nI 1 from rfl, m_term L 1 (by decide), M, (terms_eq K).2.1]
    show F_X12_costFrom_9 h (f + 1) 81 (nI a) (nI b) (nI c) (nI (addS A w a b c)) (nI (leaS A w a b c)) (nI (nN A)) = _
    rw [F_X12_costFrom_9]
    dsimp only
    rw [nR_81_3 L.kd L.rd, Option.bind_some, m_k_1347 L M, kE, Option.bind_some, if_neg Int32.lt_irrefl, nc_81 L.kd, t0, Option.bind_some, nc_81 L.kd, t1, Option.bind_some, nI_mul, nI_mul, nI_add]
    rfl
theorem m_agreeOf {h : pg_H} {A : Nat → Int32} {w : Nat → Nat → Nat} (L : Lay h) (M : pg_i h 83 = A) (K : ShOK A) (W : Wt h A w) {a b : Nat} (ha : a < 12) (hb : b < 12) : F_X12_agreeOf h 81 (nI a) (nI b) = some (nI (agS A w a b)) := by
  have kN : nN A < 201 := K.1.2.2.2.1.2
  have kE : A 1347 = nI (nN A) := K.1.2.2.2.1.1
  have tot : sumN (nN A) (fun n => if (wrQ A n && (decide (nt A n 0 = a) || (decide (nt A n 0 = a) && !hasM A a (nKey A n)))) && hasM A b (nKey A n) then wM w (nKey A n) else 0) = agS A w a b := by
    unfold agS
    rw [one_G (c := a) (fun m => hasM A b m)]
    exact note_sum K w (by omega) (by omega) _
  unfold F_X12_agreeOf
  have z := loopF (fun f i x => F_X12_agreeOf_5 h f 81 (nI a) (nI b) (nI x) (nI i)) (nN A) (fun i x => x + (if (wrQ A i && (decide (nt A i 0 = a) || (decide (nt A i 0 = a) && !hasM A a (nKey A i)))) && hasM A b (nKey A i) then wM w (nKey A i) else 0)) (some (nI (agS A w a b))) (fun _ _ => True) 0 ?_ (fun _ _ _ _ _ => trivial) ?_ trivial pg_fuel (by unfold pg_fuel; omega)
  · exact z
  · intro f i x hi _ _
    have h2 : i < 200 := by omega
    obtain ⟨k0, k1, k2, _, _⟩ := K.2.2.2.2.2.1 i hi
    have b2 : nt A i 2 < 100 := k2.2
    have d := key_dm (p := nt A i 1) (w := nt A i 2) b2
    have hs : F_X12_has h 81 (nI b) (A (340 + 5 * i + 1)) (A (340 + 5 * i + 2)) = some (b01 (hasM A b (nKey A i))) := by
      rw [m_has L M K]
      unfold hasM nKey
      rw [d.1, d.2, show A (340 + 5 * i + 1) = nI (nt A i 1) from k1.1, show A (340 + 5 * i + 2) = nI (nt A i 2) from k2.1]
    have f71 : ∀ u, F_X12_agreeOf_71 h (F_X12_agreeOf_5 h f) 81 (nI a) (nI b) u (nI i) = F_X12_agreeOf_5 h f 81 (nI a) (nI b) u (nI (i + 1)) := fun u => by
      unfold F_X12_agreeOf_71
      rw [nI_1]
    show F_X12_agreeOf_5 h (f + 1) 81 (nI a) (nI b) (nI x) (nI i) = F_X12_agreeOf_5 h f 81 (nI a) (nI b) (nI (x + (if (wrQ A i && (decide (nt A i 0 = a) || (decide (nt A i 0 = a) && !hasM A a (nKey A i)))) && hasM A b (nKey A i) then wM w (nKey A i) else 0))) (nI (i + 1))
    rw [F_X12_agreeOf_5]
    dsimp only
    rw [nR_81_3 L.kd L.rd, Option.bind_some, m_k_1347 L M, kE, Option.bind_some, if_pos (nI_lt hi (by omega)), nc_81 L.kd, m_note_0 L M h2, Option.bind_some]
    by_cases ea : nt A i 0 = a
    · rw [if_pos ((copy_iff K hi (by omega)).mpr ea), nc_81 L.kd, m_note_4 L M h2, Option.bind_some, decide_eq_true ea, Bool.true_or, Bool.and_true]
      by_cases z : A (340 + 5 * i + 4) = 0
      · have q : wrQ A i = true := decide_eq_true z
        rw [if_pos z, nc_81 L.kd, m_note_1 L M h2, Option.bind_some, nc_81 L.kd, m_note_2 L M h2, Option.bind_some, nc_81 L.kd, hs, Option.bind_some, if_bb, q, Bool.true_and]
        cases hasM A b (nKey A i) with
        | true =>
          unfold pg_let
          rw [if_pos rfl, nR_81_25 L.kd L.rd, Option.bind_some, na_93 L.kd h2, Option.bind_some, W i hi, if_pos q, nI_add]
          dsimp only
          rw [f71, if_pos rfl]
        | false =>
          rw [if_neg (by decide), f71]
          rfl
      · rw [if_neg z, f71, show wrQ A i = false from decide_eq_false z]
        rfl
    · rw [if_neg (fun z => ea ((copy_iff K hi (by omega)).mp z)), f71, decide_eq_false ea, Bool.false_and, Bool.or_self, Bool.and_false]
      rfl
  · intro f _
    rw [show (foldN (nN A) (fun i x => x + (if (wrQ A i && (decide (nt A i 0 = a) || (decide (nt A i 0 = a) && !hasM A a (nKey A i)))) && hasM A b (nKey A i) then wM w (nKey A i) else 0)) 0) = agS A w a b from foldN_sum.trans tot]
    show F_X12_agreeOf_5 h (f + 1) 81 (nI a) (nI b) (nI (agS A w a b)) (nI (nN A)) = _
    rw [F_X12_agreeOf_5]
    dsimp only
    rw [nR_81_3 L.kd L.rd, Option.bind_some, m_k_1347 L M, kE, Option.bind_some, if_neg Int32.lt_irrefl]
