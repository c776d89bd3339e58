/-! READINGS: gathered -/
def findN (pl wd : Nat → Nat) (p w n : Nat) : Int32 := foldN n (fun r x => if pl r = p ∧ wd r = w then nI r else x) (-1)
def ChainOK (h : pg_H) (R : Nat) (pl wd : Nat → Nat) : Prop := (R ≤ 200 ∧ pg_i h 50 8 = nI R) ∧ (∀ r, r < R → (pl r < 60 ∧ wd r < 100) ∧ pg_i h 51 r = nI (pl r) ∧ pg_i h 52 r = nI (wd r) ∧ pg_i h 56 r = lastIn pl (pl r) r) ∧ ∀ p, p < 60 → pg_i h 55 p = lastIn pl p R
theorem find_walk {h : pg_H} {R : Nat} {pl wd : Nat → Nat} (D : KD (pg_k h)) (RR : RD (pg_r h)) (C : ChainOK h R pl wd) {p w : Nat} (hw : w < 100) : ∀ (n s f : Nat), n ≤ R → s + n ≤ 200 → n < f → F_X4_find_24 h f 50 (nI w) (lastIn pl p n) (nI s) = some (findN pl wd p w n) := by
  obtain ⟨⟨c1, c2⟩, c3, c4⟩ := C
  intro n
  induction n with
  | zero =>
    intro s f _ hs hf
    obtain ⟨g, rfl⟩ : ∃ g, f = g + 1 := ⟨f - 1, by omega⟩
    rw [F_X4_find_24]
    dsimp only
    by_cases z : s < 200
    · rw [if_pos (show nI s < (200 : Int32) from nI_lt (b := 200) z (by decide)), if_pos (show lastIn pl p 0 < 0 from (show (-1 : Int32) < 0 by decide))]
      rfl
    · rw [if_neg (show ¬ nI s < (200 : Int32) from nI_nlt (b := 200) (by omega) (by omega))]
      rfl
  | succ n ih =>
    intro s f hn hs hf
    by_cases e : pl n = p
    · obtain ⟨g, rfl⟩ : ∃ g, f = g + 1 := ⟨f - 1, by omega⟩
      have l1 : lastIn pl p (n + 1) = nI n := if_pos e
      have b : n < 200 := by omega
      obtain ⟨⟨_, q1⟩, _, q2, q3⟩ := c3 n (by omega)
      rw [l1, F_X4_find_24]
      dsimp only
      rw [if_pos (show nI s < (200 : Int32) from nI_lt (b := 200) (by omega) (by decide)), if_neg (nI_pos (show n < 2 ^ 31 by omega)), ng_50 D, Option.bind_some, c2, if_pos (nI_lt (show n < R by omega) (by omega)), nR_50_1 D RR, Option.bind_some, na_52 D b, Option.bind_some, q2]
      by_cases e2 : wd n = w
      · rw [if_pos (by rw [e2]), show findN pl wd p w (n + 1) = nI n from if_pos ⟨e, e2⟩]
      · rw [if_neg (fun z => e2 ((nI_eq (by omega) (by omega)).mp z)), nR_50_5 D RR, Option.bind_some, na_56 D b, Option.bind_some, q3, e, nI_1, ih (s + 1) g (by omega) (by omega) (by omega)]
        exact congrArg some (if_neg (fun z => e2 z.2)).symm
    · rw [show lastIn pl p (n + 1) = lastIn pl p n from if_neg e, ih s f (by omega) (by omega) (by omega)]
      exact congrArg some (if_neg (fun z => e z.1)).symm
theorem c_find {h : pg_H} {R : Nat} {pl wd : Nat → Nat} (D : KD (pg_k h)) (RR : RD (pg_r h)) (C : ChainOK h R pl wd) {p w : Nat} (hp : p < 60) (hw : w < 100) : F_X4_find h 50 (nI p) (nI w) = some (findN pl wd p w R) := by
  have z := find_walk D RR C (p := p) hw R 0 pg_fuel (Nat.le_refl _) (by have := C.1.1; omega) (by have := C.1.1; unfold pg_fuel; omega)
  unfold F_X4_find F_X4_find_20
  rw [if_neg (nI_pos (by omega)), if_pos (show nI p < (60 : Int32) from nI_lt (b := 60) hp (by decide)), nR_50_4 D RR, Option.bind_some, na_55 D hp, Option.bind_some, C.2.2 p hp]
  exact z
theorem findN_some {pl wd : Nat → Nat} {p w : Nat} : ∀ n, (∀ r, r < n → ¬ (pl r = p ∧ wd r = w)) → findN pl wd p w n = -1 := by
  intro n
  induction n with
  | zero => exact fun _ => rfl
  | succ n ih =>
    intro h
    show (if pl n = p ∧ wd n = w then nI n else findN pl wd p w n) = -1
    rw [if_neg (h n (by omega))]
    exact ih (fun r hr => h r (by omega))
theorem findN_at {pl wd : Nat → Nat} {p w r0 : Nat} : ∀ n, r0 < n → pl r0 = p → wd r0 = w → (∀ r, r < n → pl r = p → wd r = w → r = r0) → findN pl wd p w n = nI r0 := by
  intro n
  induction n with
  | zero => exact fun h => absurd h (Nat.not_lt_zero _)
  | succ n ih =>
    intro h1 h2 h3 h4
    show (if pl n = p ∧ wd n = w then nI n else findN pl wd p w n) = nI r0
    by_cases z : pl n = p ∧ wd n = w
    · rw [if_pos z, h4 n (by omega) z.1 z.2]
    · rw [if_neg z]
      have ne : r0 ≠ n := fun e => z (by rw [← e]; exact ⟨h2, h3⟩)
      exact ih (by omega) h2 h3 (fun r hr => h4 r (by omega))
/-- after i notes -/
def preQ (A : Nat → Int32) (i : Nat) (c p w k : Int32) : Bool := anyN i fun n => noteQ A n c p w k
def preK (A : Nat → Int32) (i : Nat) (c p k : Int32) : Bool := anyN i fun n => decide (A (340 + 5 * n) = c) && decide (A (340 + 5 * n + 1) = p) && decide (A (340 + 5 * n + 4) = k)
def GInv (h : pg_H) (A : Nat → Int32) (i : Nat) : Prop := ∃ (R : Nat) (pl wd : Nat → Nat), R ≤ i ∧ ChainOK h R pl wd ∧
  (∀ r, r < R → pg_i h 53 r = nI (mk 12 fun c => preQ A i (nI c) (nI (pl r)) (nI (wd r)) 0)) ∧
  (∀ r r', r < R → r' < R → pl r = pl r' → wd r = wd r' → r = r') ∧
  (∀ n, n < i → A (340 + 5 * n + 4) = 0 → ∃ r, r < R ∧ pl r = nt A n 1 ∧ wd r = nt A n 2) ∧
  (∀ r, r < R → ∃ n, n < i ∧ A (340 + 5 * n + 4) = 0 ∧ pl r = nt A n 1 ∧ wd r = nt A n 2) ∧
  (∀ p, p < 60 → pg_i h 57 p = nI (mk 12 fun c => preK A i (nI c) (nI p) 1))
theorem noteQ_iff {A : Nat → Int32} (K : ShOK A) {n c p w : Nat} (hn : n < nN A) (hc : c < 2 ^ 31) (hp : p < 2 ^ 31) (hw : w < 2 ^ 31) (k : Int32) : noteQ A n (nI c) (nI p) (nI w) k = true ↔ nt A n 0 = c ∧ nt A n 1 = p ∧ nt A n 2 = w ∧ A (340 + 5 * n + 4) = k := by
  obtain ⟨k0, k1, k2, _, _⟩ := K.2.2.2.2.2.1 n hn
  have kC : nC A < 13 := K.1.1.2
  unfold noteQ
  rw [and4, k0.1, k1.1, k2.1]
  have b0 : cl A (340 + 5 * n) < 2 ^ 31 := by have := k0.2; omega
  have b1 : cl A (340 + 5 * n + 1) < 2 ^ 31 := by have := k1.2; omega
  have b2 : cl A (340 + 5 * n + 2) < 2 ^ 31 := by have := k2.2; omega
  rw [nI_eq b0 hc, nI_eq b1 hp, nI_eq b2 hw]
  exact Iff.rfl
theorem preQ_succ {A : Nat → Int32} {i : Nat} {c p w k : Int32} : preQ A (i + 1) c p w k = (preQ A i c p w k || noteQ A i c p w k) := rfl
theorem or_bit {m f : Nat → Bool} {g : Nat → Bool} {c0 : Nat} (hc : c0 < 12) (h : ∀ c, c < 12 → g c = (f c || decide (c = c0))) : nI (mk 12 f) ||| nI (2 ^ c0) = nI (mk 12 g) := by
  rw [mk_pow hc, ix_or, mk_or]
  exact congrArg nI (mk_cong (fun i hi => (h i hi).symm))
theorem lastIn_cong {pl pl' : Nat → Nat} {p : Nat} : ∀ n, (∀ r, r < n → pl r = pl' r) → lastIn pl p n = lastIn pl' p n := by
  intro n h
  exact foldN_cong (fun i x hi => by rw [h i hi])
/-- a written note goes to its reading -/
theorem c_addHolder {h : pg_H} {A : Nat → Int32} (D : KD (pg_k h)) (RR : RD (pg_r h)) (K : ShOK A) {i : Nat} (hi : i < nN A) (h0 : A (340 + 5 * i + 4) = 0) (G : GInv h A i) : ∃ h', F_X4_addHolder 50 (A (340 + 5 * i + 1)) (A (340 + 5 * i + 2)) (nI (2 ^ nt A i 0)) h = some h' ∧ Ch [51, 52, 53, 55, 56] [(50, 8)] h h' ∧ GInv h' A (i + 1) := by
  obtain ⟨R, pl, wd, g1, g2, g3, g4, g5, g6, g7⟩ := G
  obtain ⟨⟨c1, c2⟩, c3, c4⟩ := id g2
  have kN : nN A < 201 := K.1.2.2.2.1.2
  have kC : nC A < 13 := K.1.1.2
  obtain ⟨k0, k1, k2, _, _⟩ := K.2.2.2.2.2.1 i hi
  have b0 : nt A i 0 < nC A := k0.2
  have b1 : nt A i 1 < 60 := k1.2
  have b2 : nt A i 2 < 100 := k2.2
  have e1 : A (340 + 5 * i + 1) = nI (nt A i 1) := k1.1
  have e2 : A (340 + 5 * i + 2) = nI (nt A i 2) := k2.1
  have cuts : ∀ (g : pg_H), pg_i g 57 = pg_i h 57 → ∀ p, p < 60 → pg_i g 57 p = nI (mk 12 fun c => preK A (i + 1) (nI c) (nI p) 1) := fun g eg p hp => by
    rw [eg, g7 p hp]
    refine congrArg nI (mk_cong (fun c _ => ?_))
    show _ = (preK A i (nI c) (nI p) 1 || (decide (A (340 + 5 * i) = nI c) && decide (A (340 + 5 * i + 1) = nI p) && decide (A (340 + 5 * i + 4) = 1)))
    rw [h0, show decide ((0 : Int32) = 1) = false from rfl, Bool.and_false, Bool.or_false]
  have upd : ∀ p w, p < 60 → w < 100 → ¬ (p = nt A i 1 ∧ w = nt A i 2) → (mk 12 fun c => preQ A (i + 1) (nI c) (nI p) (nI w) 0) = mk 12 fun c => preQ A i (nI c) (nI p) (nI w) 0 := fun p w hp hw ne => by
    refine mk_cong (fun c hc => ?_)
    rw [preQ_succ]
    have : noteQ A i (nI c) (nI p) (nI w) 0 = false := by
      cases q : noteQ A i (nI c) (nI p) (nI w) 0 with
      | false => rfl
      | true =>
        have := (noteQ_iff K hi (by omega) (by omega) (by omega) 0).mp q
        exact absurd ⟨this.2.1.symm, this.2.2.1.symm⟩ ne
    rw [this, Bool.or_false]
  have upm : nI (mk 12 fun c => preQ A i (nI c) (nI (nt A i 1)) (nI (nt A i 2)) 0) ||| nI (2 ^ nt A i 0) = nI (mk 12 fun c => preQ A (i + 1) (nI c) (nI (nt A i 1)) (nI (nt A i 2)) 0) := by
    refine or_bit (m := fun _ => false) (by omega) (fun c hc => ?_)
    rw [preQ_succ]
    congr 1
    apply Bool.eq_iff_iff.mpr
    rw [noteQ_iff K hi (by omega) (by omega) (by omega) 0, decide_eq_true_eq]
    exact ⟨fun z => z.1.symm, fun z => ⟨z.symm, rfl, rfl, h0⟩⟩
  by_cases ex : ∃ r, r < R ∧ pl r = nt A i 1 ∧ wd r = nt A i 2
  · obtain ⟨r, r1, r2, r3⟩ := ex
    have fn : findN pl wd (nt A i 1) (nt A i 2) R = nI r := findN_at R r1 r2 r3 (fun r' q1 q2 q3 => g4 r' r q1 r1 (q2.trans r2.symm) (q3.trans r3.symm))
    have br : r < 200 := by omega
    have f3 := g3 r r1
    rw [r2, r3] at f3
    have ch : Ch [51, 52, 53, 55, 56] [(50, 8)] h (pg_si h 53 r (nI (mk 12 fun c => preQ A (i + 1) (nI c) (nI (nt A i 1)) (nI (nt A i 2)) 0))) := (Ch.refl _ _ _).asi (Or.inl (by decide))
    refine ⟨pg_si h 53 r (nI (mk 12 fun c => preQ A (i + 1) (nI c) (nI (nt A i 1)) (nI (nt A i 2)) 0)), ?_, ch, R, pl, wd, by omega, ⟨⟨c1, ?_⟩, fun r' hr' => ?_, fun p hp => ?_⟩, fun r' hr' => ?_, g4, fun n hn hz => ?_, fun r' hr' => ?_, cuts _ (si_ne (by decide))⟩
    · unfold F_X4_addHolder F_X4_addHolder_95
      simp only [k_si, k_sl, k_sr, r_si, r_sl, i_sl, i_sr, l_si, l_sr, Option.bind_some, if_true, if_false, bind_eta2, if_bb, decide_eq_true_eq, pg_let, nc_50, nR_50_2, D, RR, e1, e2, c_find D RR g2 b1 b2, fn, neg1_iff (show r < 2 ^ 31 by omega), na_53, ns_53, br, f3, upm]
    · rw [si_ne (by decide)]
      exact c2
    · rw [si_ne (by decide), si_ne (by decide), si_ne (by decide)]
      exact c3 r' hr'
    · rw [si_ne (by decide)]
      exact c4 p hp
    · rw [si_row]
      by_cases e : r' = r
      · rw [e, up1_eq, r2, r3]
      · rw [up1_ne e, g3 r' hr']
        obtain ⟨⟨l1, l2⟩, _⟩ := c3 r' hr'
        rw [upd _ _ l1 l2 (fun z => e (g4 r' r hr' r1 (z.1.trans r2.symm) (z.2.trans r3.symm)))]
    · by_cases e : n = i
      · rw [e]
        exact ⟨r, r1, r2, r3⟩
      · exact g5 n (by omega) hz
    · obtain ⟨n, n1, n2⟩ := g6 r' hr'
      exact ⟨n, by omega, n2⟩
  · have fn : findN pl wd (nt A i 1) (nt A i 2) R = -1 := findN_some R (fun r hr z => ex ⟨r, hr, z⟩)
    have bR : R < 200 := by omega
    obtain ⟨pl', hpl⟩ : ∃ f : Nat → Nat, f = up1 pl R (nt A i 1) := ⟨_, rfl⟩
    obtain ⟨wd', hwd⟩ : ∃ f : Nat → Nat, f = up1 wd R (nt A i 2) := ⟨_, rfl⟩
    have pl1 : pl' R = nt A i 1 := by rw [hpl, up1_eq]
    have wd1 : wd' R = nt A i 2 := by rw [hwd, up1_eq]
    have pl2 : ∀ r, r < R → pl' r = pl r := fun r hr => by rw [hpl, up1_ne (by omega)]
    have wd2 : ∀ r, r < R → wd' r = wd r := fun r hr => by rw [hwd, up1_ne (by omega)]
    have none : ∀ n, n < i → A (340 + 5 * n + 4) = 0 → ¬ (nt A n 1 = nt A i 1 ∧ nt A n 2 = nt A i 2) := fun n hn hz z => by
      obtain ⟨r, r1, r2, r3⟩ := g5 n hn hz
      exact ex ⟨r, r1, r2.trans z.1, r3.trans z.2⟩
    have new : nI 0 ||| nI (2 ^ nt A i 0) = nI (mk 12 fun c => preQ A (i + 1) (nI c) (nI (nt A i 1)) (nI (nt A i 2)) 0) := by
      rw [← upm]
      congr 1
      rw [mk_zero 12]
      refine congrArg nI (mk_cong (fun c hc => ?_))
      refine (anyN_false.mpr (fun n hn => ?_)).symm
      cases q : noteQ A n (nI c) (nI (nt A i 1)) (nI (nt A i 2)) 0 with
      | false => rfl
      | true =>
        have := (noteQ_iff K (by omega) (by omega) (by omega) (by omega) 0).mp q
        exact absurd ⟨this.2.1, this.2.2.1⟩ (none n hn this.2.2.2)
    obtain ⟨g, hg⟩ : ∃ g, g = pg_si (pg_si (pg_si (pg_si (pg_si (pg_si (pg_si h 50 8 (nI (R + 1))) 51 R (nI (nt A i 1))) 52 R (nI (nt A i 2))) 53 R 0) 56 R (lastIn pl (nt A i 1) R)) 55 (nt A i 1) (nI R)) 53 R (nI (mk 12 fun c => preQ A (i + 1) (nI c) (nI (nt A i 1)) (nI (nt A i 2)) 0)) := ⟨_, rfl⟩
    have ch : Ch [51, 52, 53, 55, 56] [(50, 8)] h g := by
      rw [hg]
      exact (((((((Ch.refl _ _ _).asi (Or.inr (by decide))).asi (Or.inl (by decide))).asi (Or.inl (by decide))).asi (Or.inl (by decide))).asi (Or.inl (by decide))).asi (Or.inl (by decide))).asi (Or.inl (by decide))
    have q50 : pg_i g 50 8 = nI (R + 1) := by
      rw [hg, si_ne (by decide), si_ne (by decide), si_ne (by decide), si_ne (by decide), si_ne (by decide), si_ne (by decide), si_row, up1_eq]
    have q51 : pg_i g 51 = up1 (pg_i h 51) R (nI (nt A i 1)) := by
      rw [hg, si_ne (by decide), si_ne (by decide), si_ne (by decide), si_ne (by decide), si_ne (by decide), si_row, si_ne (by decide)]
    have q52 : pg_i g 52 = up1 (pg_i h 52) R (nI (nt A i 2)) := by
      rw [hg, si_ne (by decide), si_ne (by decide), si_ne (by decide), si_ne (by decide), si_row, si_ne (by decide), si_ne (by decide)]
    have q53 : ∀ r, r ≠ R → pg_i g 53 r = pg_i h 53 r := fun r hr => by
      rw [hg, si_row, up1_ne hr, si_ne (by decide), si_ne (by decide), si_row, up1_ne hr, si_ne (by decide), si_ne (by decide), si_ne (by decide)]
    have q53' : pg_i g 53 R = nI (mk 12 fun c => preQ A (i + 1) (nI c) (nI (nt A i 1)) (nI (nt A i 2)) 0) := by rw [hg, si_row, up1_eq]
    have q56 : pg_i g 56 = up1 (pg_i h 56) R (lastIn pl (nt A i 1) R) := by
      rw [hg, si_ne (by decide), si_ne (by decide), si_row, si_ne (by decide), si_ne (by decide), si_ne (by decide), si_ne (by decide)]
    have q55 : pg_i g 55 = up1 (pg_i h 55) (nt A i 1) (nI R) := by
      rw [hg, si_ne (by decide), si_row, si_ne (by decide), si_ne (by decide), si_ne (by decide), si_ne (by decide), si_ne (by decide)]
    refine ⟨g, ?_, ch, R + 1, pl', wd', by omega, ⟨⟨by omega, q50⟩, fun r hr => ?_, fun p hp => ?_⟩, fun r hr => ?_, fun r r' hr hr' z1 z2 => ?_, fun n hn hz => ?_, fun r hr => ?_, cuts _ (ch.row (by decide))⟩
    · have x55 : pg_i (pg_si (pg_si (pg_si (pg_si h 50 8 (nI (R + 1))) 51 R (nI (nt A i 1))) 52 R (nI (nt A i 2))) 53 R 0) 55 (nt A i 1) = lastIn pl (nt A i 1) R := by
        rw [si_ne (by decide), si_ne (by decide), si_ne (by decide), si_ne (by decide)]
        exact c4 _ b1
      have x53 : pg_i (pg_si (pg_si (pg_si (pg_si (pg_si (pg_si h 50 8 (nI (R + 1))) 51 R (nI (nt A i 1))) 52 R (nI (nt A i 2))) 53 R 0) 56 R (lastIn pl (nt A i 1) R)) 55 (nt A i 1) (nI R)) 53 R = nI 0 := by
        rw [si_ne (by decide), si_ne (by decide), si_row, up1_eq]
        rfl
      unfold F_X4_addHolder F_X4_addHolder_95
      simp only [k_si, k_sl, k_sr, r_si, r_sl, i_sl, i_sr, l_si, l_sr, Option.bind_some, if_true, if_false, bind_eta2, if_bb, decide_eq_true_eq, pg_let, nc_50, nR_50_0, nR_50_1, nR_50_2, nR_50_4, nR_50_5, ng_50, np_50, D, RR, e1, e2, c_find D RR g2 b1 b2, fn, c2, if_pos (show nI R < (200 : Int32) from nI_lt (b := 200) bR (by decide)), if_neg (nI_pos (show nt A i 1 < 2 ^ 31 by omega)), if_pos (show nI (nt A i 1) < (60 : Int32) from nI_lt (b := 60) b1 (by decide)), nI_1, ns_51, ns_52, ns_53, na_53, ns_56, na_55, ns_55, bR, b1, x55, neg1_iff (show R < 2 ^ 31 by omega), x53, new, ← hg]
    · rw [q51, q52, q56]
      by_cases e : r = R
      · rw [e, up1_eq, up1_eq, up1_eq, pl1, wd1]
        exact ⟨⟨b1, b2⟩, rfl, rfl, lastIn_cong R (fun r' hr' => (pl2 r' hr').symm)⟩
      · have hr2 : r < R := by omega
        rw [up1_ne e, up1_ne e, up1_ne e, pl2 r hr2, wd2 r hr2]
        obtain ⟨y1, y2, y3, y4⟩ := c3 r hr2
        exact ⟨y1, y2, y3, y4.trans (lastIn_cong r (fun r' hr' => (pl2 r' (by omega)).symm))⟩
    · rw [q55]
      show _ = if pl' R = p then nI R else lastIn pl' p R
      rw [pl1]
      by_cases e : p = nt A i 1
      · rw [e, up1_eq, if_pos rfl]
      · rw [up1_ne e, if_neg (fun z => e z.symm), c4 p hp]
        exact lastIn_cong R (fun r' hr' => (pl2 r' hr').symm)
    · by_cases e : r = R
      · rw [e, q53', pl1, wd1]
      · have hr2 : r < R := by omega
        rw [q53 r e, pl2 r hr2, wd2 r hr2, g3 r hr2]
        obtain ⟨⟨l1, l2⟩, _⟩ := c3 r hr2
        rw [upd _ _ l1 l2 (fun z => ex ⟨r, hr2, z⟩)]
    · by_cases e : r = R
      · by_cases e' : r' = R
        · omega
        · have hr2 : r' < R := by omega
          rw [e, pl1, pl2 r' hr2] at z1
          rw [e, wd1, wd2 r' hr2] at z2
          exact absurd ⟨r', hr2, z1.symm, z2.symm⟩ ex
      · have hr2 : r < R := by omega
        by_cases e' : r' = R
        · rw [e', pl1, pl2 r hr2] at z1
          rw [e', wd1, wd2 r hr2] at z2
          exact absurd ⟨r, hr2, z1, z2⟩ ex
        · have hr3 : r' < R := by omega
          rw [pl2 r hr2, pl2 r' hr3] at z1
          rw [wd2 r hr2, wd2 r' hr3] at z2
          exact g4 r r' hr2 hr3 z1 z2
    · by_cases e : n = i
      · rw [e]
        exact ⟨R, by omega, pl1, wd1⟩
      · obtain ⟨r, y1, y2, y3⟩ := g5 n (by omega) hz
        exact ⟨r, by omega, (pl2 r y1).trans y2, (wd2 r y1).trans y3⟩
    · by_cases e : r = R
      · rw [e]
        exact ⟨i, by omega, h0, pl1, wd1⟩
      · have hr2 : r < R := by omega
        obtain ⟨n, y1, y2, y3, y4⟩ := g6 r hr2
        exact ⟨n, by omega, y2, (pl2 r hr2).trans y3, (wd2 r hr2).trans y4⟩
