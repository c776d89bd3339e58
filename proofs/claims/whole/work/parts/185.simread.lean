/-! READ: both sides -/
def rdV (A : Nat → Int32) (u : tX) (c i : Nat) : Nat := (u 1 (envC A c i)).getD 50
def ntV (A : Nat → Int32) (u : tX) (c i : Nat) : Nat := (u 2 (envC A c i)).getD 50
theorem elim_50 (o : Option Nat) : o.elim (50 : Int32) nI = nI (o.getD 50) := by cases o <;> rfl
theorem getD_le {h : pg_H} {A : Nat → Int32} {X : Nat → tX} {s : Nat} (S : ShX h s A X) (hd : Nat) (e : Nat → Int32) : (uX A X hd e).getD 50 ≤ 100 := by
  cases q : uX A X hd e with
  | none => decide
  | some v => exact uX_le S q
def botN (nq : Nat → Bool) (rv nv : Nat → Nat) (m : Nat) : Nat := sumN m fun j => prR nq rv nv (j + 1)
def topN (nq : Nat → Bool) (rv nv : Nat → Nat) (ch m : Nat) : Nat := sumN m fun j => if ch ≤ j + 1 then prR nq rv nv (j + 1) else 0
def rdA (t b : Nat) : Int32 := if b = 0 then -1 else nI (quo (t * 1000000) b)
section READS
variable {nq : Nat → Bool} {rv nv : Nat → Nat}
theorem botN_le (hr : ∀ i, rv i ≤ 100) (hn : ∀ i, nv i ≤ 100) {m : Nat} (hm : m ≤ 12) : botN nq rv nv m ≤ 100 ^ 11 * 100 ^ 12 * 12 := by
  have : botN nq rv nv m ≤ m * (100 ^ 11 * 100 ^ 12) := sumN_le (fun i _ => prR_le hr hn (i + 1))
  refine Nat.le_trans this ?_
  rw [Nat.mul_comm]
  exact Nat.mul_le_mul_left _ hm
theorem topN_le (hr : ∀ i, rv i ≤ 100) (hn : ∀ i, nv i ≤ 100) {ch m : Nat} (hm : m ≤ 12) : topN nq rv nv ch m ≤ 100 ^ 11 * 100 ^ 12 * 12 := by
  have : topN nq rv nv ch m ≤ m * (100 ^ 11 * 100 ^ 12) := sumN_le (fun i _ => by
    by_cases q : ch ≤ i + 1
    · rw [if_pos q]
      exact prR_le hr hn (i + 1)
    · rw [if_neg q]
      exact Nat.zero_le _)
  refine Nat.le_trans this ?_
  rw [Nat.mul_comm]
  exact Nat.mul_le_mul_left _ hm
theorem bd1 {v : Nat} (h : v ≤ 100 ^ 11 * 100 ^ 12 * 12) : v < B8 ^ 380 ∧ v < B30 ^ 330 ∧ v * 1000000 < B8 ^ 380 ∧ v * 1000000 < B30 ^ 330 :=
  ⟨(l_bnd8 (Nat.le_trans h (by decide +kernel))).1, (l_bnd8 (Nat.le_trans h (by decide +kernel))).2, (l_bnd8 (Nat.mul_le_mul_right _ h)).1, (l_bnd8 (Nat.mul_le_mul_right _ h)).2⟩
theorem c_read96 {h : pg_H} (L : Lay h) (hr : ∀ i, rv i ≤ 100) (hn : ∀ i, nv i ≤ 100) (Ro : rowsOf h 74 75 rv nv) {ch : Nat} (h12 : ch ≤ 12) (T : BigV h 68 0) (U : BigV h 70 0) :
    ∃ h', F_X2_chanceRead_96 pg_fuel 67 (nI ch) (nI (mk 12 nq)) (nI (max 1 (stopT nq 12))) h = some (rdA (topN nq rv nv ch 12) (botN nq rv nv 12), h') ∧ Ch [69, 71, 73] [(68, 1), (70, 1), (72, 1)] h h' := by
  have i1 : isO 68 := Or.inl rfl
  have i2 : isO 70 := Or.inr (Or.inl rfl)
  have i3 : isO 72 := Or.inr (Or.inr rfl)
  have tl : stopT nq 12 ≤ 12 := by
    rcases (stopT_spec (nq := nq) 12).2 with z | z
    · omega
    · exact z.1
  obtain ⟨m0, hm0⟩ : ∃ m0, max 1 (stopT nq 12) = m0 + 1 := ⟨max 1 (stopT nq 12) - 1, by omega⟩
  rw [hm0]
  have z1 : botN nq rv nv m0 = 0 := by
    refine (sumN_cong (fun j hj => ?_)).trans sumN_zero
    exact prR_early (by omega)
  have z2 : topN nq rv nv ch m0 = 0 := by
    refine (sumN_cong (fun j hj => ?_)).trans sumN_zero
    rw [prR_early (show j + 1 < stopT nq 12 by omega)]
    split <;> rfl
  refine loopI (fun f m x => F_X2_chanceRead_96 f 67 (nI ch) (nI (mk 12 nq)) (nI (m + 1)) x) 12 (fun m x => m0 ≤ m ∧ Ch [69, 71, 73] [(68, 1), (70, 1), (72, 1)] h x ∧ BigV x 68 (topN nq rv nv ch m) ∧ BigV x 70 (botN nq rv nv m)) (fun o => ∃ h', o = some (rdA (topN nq rv nv ch 12) (botN nq rv nv 12), h') ∧ Ch [69, 71, 73] [(68, 1), (70, 1), (72, 1)] h h') ?_ ?_ m0 h (by omega) ⟨Nat.le_refl _, Ch.refl _ _ _, by rw [z2]; exact T, by rw [z1]; exact U⟩ pg_fuel (by unfold pg_fuel; omega)
  · intro f m x hm ⟨mm, cx, Tx, Ux⟩
    have Lx := cx.lay L (by decide)
    have Rx : rowsOf x 74 75 rv nv := fun i hi => by
      rw [cx.row (r := 74) (by decide), cx.row (r := 75) (by decide)]
      exact Ro i hi
    obtain ⟨a, a1, a2, a3⟩ := c_weighRead (nq := nq) Lx hr hn Rx (k := m + 1) (by omega) (by omega)
    rw [prR_late (show stopT nq 12 ≤ m + 1 by omega)] at a3
    have La := a2.lay Lx (by decide)
    have nb : botN nq rv nv (m + 1) = botN nq rv nv m + prR nq rv nv (m + 1) := rfl
    have nt' : topN nq rv nv ch (m + 1) = topN nq rv nv ch m + if ch ≤ m + 1 then prR nq rv nv (m + 1) else 0 := rfl
    obtain ⟨b, b1, b2, b3⟩ := c_add i2 i3 (by decide) La (Ux.ch a2 (by decide)) a3 (by rw [← nb]; exact (bd1 (botN_le hr hn (by omega))).2.1)
    have b2' : Ch [71] [(70, 1)] a b := b2
    have Lb := b2'.lay La (by decide)
    rw [← nb] at b3
    have f140 : ∀ z, F_X2_chanceRead_140 (F_X2_chanceRead_96 f) 67 (nI ch) (nI (mk 12 nq)) (nI (m + 1)) z = F_X2_chanceRead_96 f 67 (nI ch) (nI (mk 12 nq)) (nI (m + 1 + 1)) z := fun z => by
      unfold F_X2_chanceRead_140
      rw [nI_1]
    show ∃ x', F_X2_chanceRead_96 (f + 1) 67 (nI ch) (nI (mk 12 nq)) (nI (m + 1)) x = F_X2_chanceRead_96 f 67 (nI ch) (nI (mk 12 nq)) (nI (m + 1 + 1)) x' ∧ _
    rw [F_X2_chanceRead_96]
    dsimp only
    rw [if_neg (show ¬ (12 : Int32) < nI (m + 1) from nI_nlt (a := 12) (by omega) (by decide)), nc_67 Lx.kd, a1, Option.bind_some, nR_67_1 La.kd La.rd, Option.bind_some, nR_67_2 La.kd La.rd, Option.bind_some, o_rc La.kd i2, b1, Option.bind_some]
    have xb : Ch [69, 71, 73] [(68, 1), (70, 1), (72, 1)] x b := (a2.mono (by decide)).trans (b2'.mono (by decide))
    by_cases q : ch ≤ m + 1
    · rw [if_pos q] at nt'
      have Tb : BigV b 68 (topN nq rv nv ch m) := (Tx.ch a2 (by decide)).ch b2' (by decide)
      obtain ⟨d, d1, d2, d3⟩ := c_add i1 i3 (by decide) Lb Tb (a3.ch b2' (by decide)) (by rw [← nt']; exact (bd1 (topN_le hr hn (by omega))).2.1)
      have d2' : Ch [69] [(68, 1)] b d := d2
      rw [← nt'] at d3
      rw [if_neg (nI_nlt q (by omega)), nR_67_0 Lb.kd Lb.rd, Option.bind_some, nR_67_2 Lb.kd Lb.rd, Option.bind_some, o_rc Lb.kd i1, d1, Option.bind_some, f140]
      exact ⟨d, rfl, by omega, (cx.trans xb).trans (d2'.mono (by decide)), d3, b3.ch d2' (by decide)⟩
    · rw [if_neg q, Nat.add_zero] at nt'
      rw [if_pos (nI_lt (by omega) (by omega)), f140]
      exact ⟨b, rfl, by omega, cx.trans xb, by rw [nt']; exact (Tx.ch a2 (by decide)).ch b2' (by decide), b3⟩
  · intro f x ⟨_, cx, Tx, Ux⟩
    have Lx := cx.lay L (by decide)
    show ∃ h', F_X2_chanceRead_96 (f + 1) 67 (nI ch) (nI (mk 12 nq)) (nI (12 + 1)) x = some (rdA (topN nq rv nv ch 12) (botN nq rv nv 12), h') ∧ _
    rw [F_X2_chanceRead_96]
    dsimp only
    rw [if_pos (show (12 : Int32) < nI (12 + 1) by decide), nR_67_1 Lx.kd Lx.rd, Option.bind_some, o_rc Lx.kd i2, big_zero i2 Lx Ux, Option.bind_some, if_bb]
    have tb := bd1 (topN_le (nq := nq) (ch := ch) hr hn (Nat.le_refl 12))
    have bb := bd1 (botN_le (nq := nq) hr hn (Nat.le_refl 12))
    unfold rdA
    by_cases z : botN nq rv nv 12 = 0
    · rw [if_pos (decide_eq_true z), if_pos z]
      exact ⟨x, rfl, cx⟩
    · obtain ⟨a, a1, a2, a3⟩ := c_mul i1 Lx Tx (f := 1000000) (by decide) (by decide) tb.2.2.2
      have a2' : Ch [69] [(68, 1)] x a := a2
      have La := a2'.lay Lx (by decide)
      obtain ⟨b, b1, b2⟩ := c_quotient La a3 (Ux.ch a2' (by decide)) (by omega) bb.2.2.2
      rw [if_neg (by rw [decide_eq_false z]; decide), if_neg z, nR_67_0 Lx.kd Lx.rd, Option.bind_some, o_rc Lx.kd i1, show (1000000 : Int64) = lN 1000000 from rfl, a1, Option.bind_some, nc_67 La.kd, b1]
      exact ⟨b, rfl, cx.trans ((a2'.mono (by decide)).trans (b2.mono (by decide)))⟩
theorem m_read80 {h : pg_H} {A : Nat → Int32} (L : Lay h) (M : pg_i h 83 = A) (K : ShOK A) (c : Int32) (hr : ∀ i, rv i ≤ 100) (hn : ∀ i, nv i ≤ 100) (Ro : rowsOf h 103 104 rv nv) {ch : Nat} (h12 : ch ≤ 12) (T : RV h 100 0) (U : RV h 101 0) :
    ∃ h', F_X12_read_80 pg_fuel 81 c (nI ch) 1 h = some (rdA (topN (notedQ A c) rv nv ch 12) (botN (notedQ A c) rv nv 12), h') ∧ Ch [100, 101, 102, 105] [] h h' := by
  have i1 : isR 100 := Or.inl rfl
  have i2 : isR 101 := Or.inr (Or.inl rfl)
  have i3 : isR 102 := Or.inr (Or.inr (Or.inl rfl))
  have i4 : isR 105 := Or.inr (Or.inr (Or.inr rfl))
  refine loopI (fun f m x => F_X12_read_80 f 81 c (nI ch) (nI (m + 1)) x) 12 (fun m x => Ch [100, 101, 102, 105] [] h x ∧ RV x 100 (topN (notedQ A c) rv nv ch m) ∧ RV x 101 (botN (notedQ A c) rv nv m)) (fun o => ∃ h', o = some (rdA (topN (notedQ A c) rv nv ch 12) (botN (notedQ A c) rv nv 12), h') ∧ Ch [100, 101, 102, 105] [] h h') ?_ ?_ 0 h (Nat.zero_le _) ⟨Ch.refl _ _ _, T, U⟩ pg_fuel (by unfold pg_fuel; omega)
  · intro f m x hm ⟨cx, Tx, Ux⟩
    have Lx := cx.lay L (by decide)
    have Mx : pg_i x 83 = A := (cx.row (by decide)).trans M
    have Rx : rowsOf x 103 104 rv nv := fun i hi => by
      rw [cx.row (r := 103) (by decide), cx.row (r := 104) (by decide)]
      exact Ro i hi
    obtain ⟨a, a1, a2, a3⟩ := m_chanceOf Lx Mx K c hr hn Rx (k := m + 1) (by omega) (by omega)
    have La := a2.lay Lx (by decide)
    have nb : botN (notedQ A c) rv nv (m + 1) = botN (notedQ A c) rv nv m + prR (notedQ A c) rv nv (m + 1) := rfl
    have nt' : topN (notedQ A c) rv nv ch (m + 1) = topN (notedQ A c) rv nv ch m + if ch ≤ m + 1 then prR (notedQ A c) rv nv (m + 1) else 0 := rfl
    obtain ⟨b, b1, b2, b3⟩ := m_adds i2 i4 (by decide) La (Ux.ch a2 (by decide)) a3 (by rw [← nb]; exact (bd1 (botN_le hr hn (by omega))).1)
    have Lb := b2.lay La (by decide)
    rw [← nb] at b3
    have f119 : ∀ z, F_X12_read_119 (F_X12_read_80 f) 81 c (nI ch) (nI (m + 1)) z = F_X12_read_80 f 81 c (nI ch) (nI (m + 1 + 1)) z := fun z => by
      unfold F_X12_read_119
      rw [nI_1]
    show ∃ x', F_X12_read_80 (f + 1) 81 c (nI ch) (nI (m + 1)) x = F_X12_read_80 f 81 c (nI ch) (nI (m + 1 + 1)) x' ∧ _
    rw [F_X12_read_80]
    dsimp only
    rw [if_neg (show ¬ (12 : Int32) < nI (m + 1) from nI_nlt (a := 12) (by omega) (by decide)), nc_81 Lx.kd, a1, Option.bind_some, nR_81_35 La.kd La.rd, Option.bind_some, nR_81_39 La.kd La.rd, Option.bind_some, b1, Option.bind_some]
    have xb : Ch [100, 101, 102, 105] [] x b := (a2.mono (by decide)).trans (b2.mono (by decide))
    by_cases q : ch ≤ m + 1
    · rw [if_pos q] at nt'
      have Tb : RV b 100 (topN (notedQ A c) rv nv ch m) := (Tx.ch a2 (by decide)).ch b2 (by decide)
      obtain ⟨d, d1, d2, d3⟩ := m_adds i1 i4 (by decide) Lb Tb (a3.ch b2 (by decide)) (by rw [← nt']; exact (bd1 (topN_le hr hn (by omega))).1)
      rw [← nt'] at d3
      rw [if_neg (nI_nlt q (by omega)), nR_81_34 Lb.kd Lb.rd, Option.bind_some, nR_81_39 Lb.kd Lb.rd, Option.bind_some, d1, Option.bind_some, f119]
      exact ⟨d, rfl, (cx.trans xb).trans (d2.mono (by decide)), d3, b3.ch d2 (by decide)⟩
    · rw [if_neg q, Nat.add_zero] at nt'
      rw [if_pos (nI_lt (by omega) (by omega)), f119]
      exact ⟨b, rfl, cx.trans xb, by rw [nt']; exact (Tx.ch a2 (by decide)).ch b2 (by decide), b3⟩
  · intro f x ⟨cx, Tx, Ux⟩
    have Lx := cx.lay L (by decide)
    obtain ⟨y, y1, y2, y3⟩ := m_be i3 Lx (v := 0) (by decide)
    have Ly := y2.lay Lx (by decide)
    have Uy := Ux.ch y2 (by decide)
    have Ty := Tx.ch y2 (by decide)
    have y1' : F_X12_be 102 (0 : Int64) x = some y := y1
    show ∃ h', F_X12_read_80 (f + 1) 81 c (nI ch) (nI (12 + 1)) x = some (rdA (topN (notedQ A c) rv nv ch 12) (botN (notedQ A c) rv nv 12), h') ∧ _
    rw [F_X12_read_80]
    dsimp only
    rw [if_pos (show (12 : Int32) < nI (12 + 1) by decide), nR_81_36 Lx.kd Lx.rd, Option.bind_some, y1', Option.bind_some, nR_81_35 Ly.kd Ly.rd, Option.bind_some, nR_81_36 Ly.kd Ly.rd, Option.bind_some, m_order i2 i3 Ly Uy y3, Option.bind_some]
    have tb := bd1 (topN_le (nq := notedQ A c) (ch := ch) hr hn (Nat.le_refl 12))
    have bb := bd1 (botN_le (nq := notedQ A c) hr hn (Nat.le_refl 12))
    unfold rdA
    by_cases z : botN (notedQ A c) rv nv 12 = 0
    · rw [if_pos z, if_pos rfl, if_pos z]
      exact ⟨y, rfl, cx.trans (y2.mono (by decide))⟩
    · obtain ⟨a, a1, a2, a3⟩ := m_makes1 i1 Ly Ty (f := 1000000) (by decide) tb.2.2.1
      have La := a2.lay Ly (by decide)
      obtain ⟨b, b1, b2⟩ := m_quotient La a3 (Uy.ch a2 (by decide)) (by omega) bb.2.2.1
      have a1' : F_X12_makes 100 (1000000 : Int32) 1 y = some a := a1
      rw [if_neg z, if_neg (show ¬ botN (notedQ A c) rv nv 12 < 0 by omega), if_neg (show ¬ (1 : Int32) = 0 by decide), if_neg z, nR_81_34 Ly.kd Ly.rd, Option.bind_some, a1', Option.bind_some, nc_81 La.kd, b1]
      exact ⟨b, rfl, cx.trans ((y2.mono (by decide)).trans ((a2.mono (by decide)).trans (b2.mono (by decide))))⟩
end READS
def rdS : List Nat := [48, 49, 69, 71, 73, 74, 75]
def rdT : List (Nat × Nat) := [(47, 2), (68, 1), (70, 1), (72, 1)]
theorem c_chanceRead {h : pg_H} {A : Nat → Int32} {X : Nat → tX} (L : Lay h) (S : ShX h 2 A X) {c : Nat} (hc : c < nC A) {ch : Nat} (h12 : ch ≤ 12) :
    ∃ h', F_X2_chanceRead 67 2 47 (nI c) (nI ch) h = some (rdA (topN (notedQ A (nI c)) (rdV A (uX A X) c) (ntV A (uX A X) c) ch 12) (botN (notedQ A (nI c)) (rdV A (uX A X) c) (ntV A (uX A X) c) 12), h') ∧ Ch rdS rdT h h' := by
  obtain ⟨C, K, TX⟩ := id S
  unfold F_X2_chanceRead
  refine loopI (fun f i x => F_X2_chanceRead_3 f 67 2 47 (nI c) (nI ch) (nI i) x) 12 (fun i x => Ch rdS rdT h x ∧ ∀ j, j < i → pg_i x 74 j = nI (rdV A (uX A X) c j) ∧ pg_i x 75 j = nI (ntV A (uX A X) c j)) (fun o => ∃ h', o = some (rdA (topN (notedQ A (nI c)) (rdV A (uX A X) c) (ntV A (uX A X) c) ch 12) (botN (notedQ A (nI c)) (rdV A (uX A X) c) (ntV A (uX A X) c) 12), h') ∧ Ch rdS rdT h h') ?_ ?_ 0 h (Nat.zero_le _) ⟨Ch.refl _ _ _, fun j hj => absurd hj (Nat.not_lt_zero j)⟩ pg_fuel (by unfold pg_fuel; omega)
  · intro f i x hi ⟨cx, rx⟩
    have Lx := cx.lay L (by decide)
    have Sx : ShX x 2 A X := S.ch cx (by decide) (by decide)
    obtain ⟨u, u1, u2, u3⟩ := c_askChapter Lx.kd Lx.rd Sx.1 hc i
    have Lu := u2.lay Lx (by decide)
    have Su : ShX u 2 A X := Sx.ch u2 (by decide) (by decide)
    obtain ⟨t1, y, y0, y1, y2⟩ := c_told (hd := 1) Lu Su (by decide) 50
    rw [elim_50, uX_env Su u3] at y1
    have Ly := y2.lay Lu (by decide)
    have s1 : Ch [74] [] y (pg_si y 74 i (nI (rdV A (uX A X) c i))) := (Ch.refl _ _ _).asi (Or.inl (by decide))
    have uz : Ch [49, 74] [(47, 2)] u (pg_si y 74 i (nI (rdV A (uX A X) c i))) := (y2.mono (by decide)).trans (s1.mono (by decide))
    have Lz := uz.lay Lu (by decide)
    have Sz : ShX (pg_si y 74 i (nI (rdV A (uX A X) c i))) 2 A X := Su.ch uz (by decide) (by decide)
    have ez : ∀ j, j < 9 → pg_i (pg_si y 74 i (nI (rdV A (uX A X) c i))) 48 j = envC A c i j := fun j hj => by
      rw [uz.row (by decide)]
      exact u3 j hj
    obtain ⟨t2, w, w0, w1, w2⟩ := c_told (hd := 2) Lz Sz (by decide) 50
    rw [elim_50, uX_env Sz ez] at w1
    have Lw := w2.lay Lz (by decide)
    have s2 : Ch [75] [] w (pg_si w 75 i (nI (ntV A (uX A X) c i))) := (Ch.refl _ _ _).asi (Or.inl (by decide))
    have xw : Ch [48, 49, 74, 75] [(47, 2)] x (pg_si w 75 i (nI (ntV A (uX A X) c i))) := ((u2.mono (by decide)).trans (uz.mono (by decide))).trans ((w2.mono (by decide)).trans (s2.mono (by decide)))
    refine ⟨pg_si w 75 i (nI (ntV A (uX A X) c i)), ?_, cx.trans (xw.mono (by decide)), fun j hj => ?_⟩
    · have y1' : F_X0_told 47 t1 (1 : Int32) (50 : Int32) u = some (nI (rdV A (uX A X) c i), y) := y1
      have w1' : F_X0_told 47 t2 (2 : Int32) (50 : Int32) (pg_si y 74 i (nI (rdV A (uX A X) c i))) = some (nI (ntV A (uX A X) c i), w) := w1
      show F_X2_chanceRead_3 (f + 1) 67 2 47 (nI c) (nI ch) (nI i) x = F_X2_chanceRead_3 f 67 2 47 (nI c) (nI ch) (nI (i + 1)) _
      rw [F_X2_chanceRead_3]
      dsimp only
      rw [if_pos (show nI i < (12 : Int32) from nI_lt (b := 12) hi (by decide)), nc_47 Lx.kd, u1, Option.bind_some, nR_67_3 Lu.kd Lu.rd, Option.bind_some, nc_2 Lu.kd, y0, Option.bind_some, nc_47 Lu.kd, y1', Option.bind_some]
      dsimp only
      rw [ns_74 Ly.kd hi, Option.bind_some, nR_67_4 Lz.kd Lz.rd, Option.bind_some, nc_2 Lz.kd, w0, Option.bind_some, nc_47 Lz.kd, w1', Option.bind_some]
      dsimp only
      rw [ns_75 Lw.kd hi, Option.bind_some, nI_1]
    · rw [si_ne (by decide), si_row, w2.row (r := 74) (by decide), w2.row (r := 75) (by decide), si_row, si_ne (by decide), y2.row (r := 74) (by decide), y2.row (r := 75) (by decide), u2.row (r := 74) (by decide), u2.row (r := 75) (by decide)]
      by_cases e : j = i
      · rw [e, up1_eq, up1_eq]
        exact ⟨rfl, rfl⟩
      · rw [up1_ne e, up1_ne e]
        exact rx j (by omega)
  · intro f x ⟨cx, rx⟩
    have Lx := cx.lay L (by decide)
    have Sx : ShX x 2 A X := S.ch cx (by decide) (by decide)
    obtain ⟨a, a1, a2, a3⟩ := c_become0 (Or.inl rfl) Lx
    have a2' : Ch [69] [(68, 1)] x a := a2
    have La := a2'.lay Lx (by decide)
    obtain ⟨b, b1, b2, b3⟩ := c_become0 (Or.inr (Or.inl rfl)) La
    have b2' : Ch [71] [(70, 1)] a b := b2
    have Lb := b2'.lay La (by decide)
    have xb : Ch [69, 71] [(68, 1), (70, 1)] x b := (a2'.mono (by decide)).trans (b2'.mono (by decide))
    have Rb : rowsOf b 74 75 (rdV A (uX A X) c) (ntV A (uX A X) c) := fun i hi => by
      rw [xb.row (r := 74) (by decide), xb.row (r := 75) (by decide)]
      exact rx i hi
    obtain ⟨d, d1, d2⟩ := c_read96 (nq := notedQ A (nI c)) Lb (fun i => getD_le Sx 1 (envC A c i)) (fun i => getD_le Sx 2 (envC A c i)) Rb h12 (a3.ch b2' (by decide)) b3
    refine ⟨d, ?_, (cx.trans (xb.mono (by decide))).trans (d2.mono (by decide))⟩
    have up : nI (stopT (notedQ A (nI c)) 12) - 1 + 1 = nI (stopT (notedQ A (nI c)) 12) := by
      rw [Int32.sub_add_cancel]
    have tl : stopT (notedQ A (nI c)) 12 ≤ 12 := by
      rcases (stopT_spec (nq := notedQ A (nI c)) 12).2 with z | z
      · omega
      · exact z.1
    show F_X2_chanceRead_3 (f + 1) 67 2 47 (nI c) (nI ch) (nI 12) x = _
    rw [F_X2_chanceRead_3]
    unfold pg_let
    dsimp only
    rw [if_neg (show ¬ nI 12 < (12 : Int32) by decide), nc_2 Lx.kd, c_chaptersWritten Lx Sx.1 K, Option.bind_some, nR_67_0 Lx.kd Lx.rd, Option.bind_some, o_rc Lx.kd (Or.inl rfl), a1, Option.bind_some, nR_67_1 La.kd La.rd, Option.bind_some, o_rc La.kd (Or.inr (Or.inl rfl)), b1, Option.bind_some, c_lastBit, Option.bind_some]
    have e7 : (if (1 : Int32) < nI (stopT (notedQ A (nI c)) 12) - 1 + 1 then nI (stopT (notedQ A (nI c)) 12) - 1 + 1 else (1 : Int32)) = nI (max 1 (stopT (notedQ A (nI c)) 12)) := by
      rw [up]
      exact nI_max (x := 1) (by decide) (by omega)
    have e8 : foldN 12 (fun k x => if notedQ A (nI c) k then k + 1 else x) 0 = stopT (notedQ A (nI c)) 12 := rfl
    rw [e8, e7]
    exact d1
theorem m_read {h : pg_H} {A : Nat → Int32} {X : Nat → tX} (L : Lay h) (M : pg_i h 83 = A) {s : Nat} {g : pg_H} (S : ShX g s A X) {c : Nat} (hc : c < nC A) {ch : Nat} (h12 : ch ≤ 12) :
    ∃ h', F_X12_read_22 pg_fuel 81 (nI c) (nI ch) 0 h = some (rdA (topN (notedQ A (nI c)) (rdV A (uX A X) c) (ntV A (uX A X) c) ch 12) (botN (notedQ A (nI c)) (rdV A (uX A X) c) (ntV A (uX A X) c) 12), h') ∧ Ch [92, 100, 101, 102, 103, 104, 105] mT h h' := by
  have K := S.2.1
  have kC : nC A < 13 := K.1.1.2
  refine loopI (fun f i x => F_X12_read_22 f 81 (nI c) (nI ch) (nI i) x) 12 (fun i x => Ch [92, 103, 104] mT h x ∧ ∀ j, j < i → pg_i x 103 j = nI (rdV A (uX A X) c j) ∧ pg_i x 104 j = nI (ntV A (uX A X) c j)) (fun o => ∃ h', o = some (rdA (topN (notedQ A (nI c)) (rdV A (uX A X) c) (ntV A (uX A X) c) ch 12) (botN (notedQ A (nI c)) (rdV A (uX A X) c) (ntV A (uX A X) c) 12), h') ∧ Ch [92, 100, 101, 102, 103, 104, 105] mT h h') ?_ ?_ 0 h (Nat.zero_le _) ⟨Ch.refl _ _ _, fun j hj => absurd hj (Nat.not_lt_zero j)⟩ pg_fuel (by unfold pg_fuel; omega)
  · intro f i x hi ⟨cx, rx⟩
    have Lx := cx.lay L (by decide)
    have Mx : pg_i x 83 = A := (cx.row (by decide)).trans M
    obtain ⟨u, u1, u2, u3⟩ := m_asksCopy Lx Mx (show c < 12 by omega) i
    have Lu := u2.lay Lx (by decide)
    have Mu : pg_i u 83 = A := (u2.row (by decide)).trans Mx
    obtain ⟨y, y1, y2⟩ := m_hundredth (hd := 1) Lu Mu S (by decide)
    rw [elim_50, uX_env S u3] at y1
    have Ly := y2.lay Lu (by decide)
    have s1 : Ch [103] [] y (pg_si y 103 i (nI (rdV A (uX A X) c i))) := (Ch.refl _ _ _).asi (Or.inl (by decide))
    have uz : Ch [103] mT u (pg_si y 103 i (nI (rdV A (uX A X) c i))) := (y2.mono (by decide)).trans (s1.mono (by decide))
    have Lz := uz.lay Lu (by decide)
    have Mz : pg_i (pg_si y 103 i (nI (rdV A (uX A X) c i))) 83 = A := (uz.row (by decide)).trans Mu
    have ez : ∀ j, j < 9 → pg_i (pg_si y 103 i (nI (rdV A (uX A X) c i))) 92 j = envC A c i j := fun j hj => by
      rw [uz.row (by decide)]
      exact u3 j hj
    obtain ⟨w, w1, w2⟩ := m_hundredth (hd := 2) Lz Mz S (by decide)
    rw [elim_50, uX_env S ez] at w1
    have Lw := w2.lay Lz (by decide)
    have s2 : Ch [104] [] w (pg_si w 104 i (nI (ntV A (uX A X) c i))) := (Ch.refl _ _ _).asi (Or.inl (by decide))
    have xw : Ch [92, 103, 104] mT x (pg_si w 104 i (nI (ntV A (uX A X) c i))) := ((u2.mono (by decide)).trans (uz.mono (by decide))).trans ((w2.mono (by decide)).trans (s2.mono (by decide)))
    refine ⟨pg_si w 104 i (nI (ntV A (uX A X) c i)), ?_, cx.trans xw, fun j hj => ?_⟩
    · have y1' : F_X12_hundredth 81 (2 : Int32) u = some (nI (rdV A (uX A X) c i), y) := y1
      have w1' : F_X12_hundredth 81 (3 : Int32) (pg_si y 103 i (nI (rdV A (uX A X) c i))) = some (nI (ntV A (uX A X) c i), w) := w1
      show F_X12_read_22 (f + 1) 81 (nI c) (nI ch) (nI i) x = F_X12_read_22 f 81 (nI c) (nI ch) (nI (i + 1)) _
      rw [F_X12_read_22]
      dsimp only
      rw [if_pos (show nI i < (12 : Int32) from nI_lt (b := 12) hi (by decide)), nc_81 Lx.kd, u1, Option.bind_some, nR_81_37 Lu.kd Lu.rd, Option.bind_some, nc_81 Lu.kd, y1', Option.bind_some]
      dsimp only
      rw [ns_103 Ly.kd hi, Option.bind_some, nR_81_38 Lz.kd Lz.rd, Option.bind_some, nc_81 Lz.kd, w1', Option.bind_some]
      dsimp only
      rw [ns_104 Lw.kd hi, Option.bind_some, nI_1]
    · rw [si_ne (by decide), si_row, w2.row (r := 103) (by decide), w2.row (r := 104) (by decide), si_row, si_ne (by decide), y2.row (r := 103) (by decide), y2.row (r := 104) (by decide), u2.row (r := 103) (by decide), u2.row (r := 104) (by decide)]
      by_cases e : j = i
      · rw [e, up1_eq, up1_eq]
        exact ⟨rfl, rfl⟩
      · rw [up1_ne e, up1_ne e]
        exact rx j (by omega)
  · intro f x ⟨cx, rx⟩
    have Lx := cx.lay L (by decide)
    have Mx : pg_i x 83 = A := (cx.row (by decide)).trans M
    obtain ⟨a, a1, a2, a3⟩ := m_be (Or.inl rfl) Lx (v := 0) (by decide)
    have La := a2.lay Lx (by decide)
    obtain ⟨b, b1, b2, b3⟩ := m_be (Or.inr (Or.inl rfl)) La (v := 0) (by decide)
    have Lb := b2.lay La (by decide)
    have xb : Ch [100, 101] [] x b := (a2.mono (by decide)).trans (b2.mono (by decide))
    have Mb : pg_i b 83 = A := (xb.row (by decide)).trans Mx
    have Rb : rowsOf b 103 104 (rdV A (uX A X) c) (ntV A (uX A X) c) := fun i hi => by
      rw [xb.row (r := 103) (by decide), xb.row (r := 104) (by decide)]
      exact rx i hi
    obtain ⟨d, d1, d2⟩ := m_read80 Lb Mb K (nI c) (fun i => getD_le S 1 (envC A c i)) (fun i => getD_le S 2 (envC A c i)) Rb h12 (a3.ch b2 (by decide)) b3
    refine ⟨d, ?_, ((cx.mono (by decide)).trans (xb.mono (by decide))).trans (d2.mono (by decide))⟩
    have a1' : F_X12_be 100 (0 : Int64) x = some a := a1
    have b1' : F_X12_be 101 (0 : Int64) a = some b := b1
    show F_X12_read_22 (f + 1) 81 (nI c) (nI ch) (nI 12) x = _
    rw [F_X12_read_22]
    dsimp only
    rw [if_neg (show ¬ nI 12 < (12 : Int32) by decide), nR_81_34 Lx.kd Lx.rd, Option.bind_some, a1', Option.bind_some, nR_81_35 La.kd La.rd, Option.bind_some, b1', Option.bind_some]
    exact d1
theorem sim_read : Sim_read Inv := by
  intro x1 x2 q h hq I
  show SimB q h (F_X11_read 1 x1 x2) (F_X12_read 81 x1 x2)
  obtain ⟨_, _, _, _, _, X, Y0, Y1, S, _⟩ := id I
  have L := I.1
  have D := L.kd
  have R := L.rd
  obtain ⟨C, K, TX⟩ := id S
  have kC : nC (pg_i h 83) < 13 := K.1.1.2
  by_cases c1 : 0 ≤ x1 ∧ x1 < nI (nC (pg_i h 83))
  · by_cases c2 : 1 ≤ x2 ∧ x2 ≤ 12
    · obtain ⟨c, hc, rfl⟩ := in_nI c1 (by omega)
      have n2 : ¬ x2 < 0 := fun z => by
        have a := Int32.le_iff_toInt_le.mp c2.1
        have b := Int32.lt_iff_toInt_lt.mp z
        have t1 : (1 : Int32).toInt = 1 := by decide
        have t0 : (0 : Int32).toInt = 0 := by decide
        omega
      obtain ⟨ch, hch, rfl⟩ := nI_of2 (x := x2) (M := 12) (n := 12) (by decide) n2 c2.2
      obtain ⟨y, y1, y2⟩ := c_chanceRead L S hc (ch := ch) (by omega)
      have Ly := y2.lay L (by decide)
      have My : pg_i y 83 = pg_i h 83 := y2.row (by decide)
      obtain ⟨z, z1, z2⟩ := m_read Ly My S hc (ch := ch) (by omega)
      have all : Ch (rdS ++ [92, 100, 101, 102, 103, 104, 105]) (rdT ++ mT) h z := (y2.mono (by decide)).trans (z2.mono (by decide))
      refine ⟨rdA (topN (notedQ (pg_i h 83) (nI c)) (rdV (pg_i h 83) (uX (pg_i h 83) X) c) (ntV (pg_i h 83) (uX (pg_i h 83) X) c) ch 12) (botN (notedQ (pg_i h 83) (nI c)) (rdV (pg_i h 83) (uX (pg_i h 83) X) c) (ntV (pg_i h 83) (uX (pg_i h 83) X) c) 12), y, z, ?_, Ly, ?_, I.same all (by decide) (by decide), all.few⟩
      · unfold F_X11_read
        simp only [k_si, k_sl, k_sr, r_si, r_sl, i_sl, i_sr, l_si, l_sr, Option.bind_some, if_true, if_false, bind_eta2, if_bb, decide_eq_true_eq, pg_let, nR_1_0, nR_1_5, nR_1_8, nR_2_0, nc_3, nc_67, D, R, c_holds_3 C, within_le, if_pos c1, if_pos c2, y1]
      · unfold F_X12_read
        rw [nc_81 Ly.kd, m_isCopy Ly My K, Option.bind_some, if_bb, if_pos (decide_eq_true c1), lies_le, Option.bind_some, if_bb, if_pos (decide_eq_true c2)]
        exact z1
    · refine SimB.none I (-1) ?_ ?_
      · unfold F_X11_read
        simp only [k_si, k_sl, k_sr, r_si, r_sl, i_sl, i_sr, l_si, l_sr, Option.bind_some, if_true, if_false, bind_eta2, if_bb, decide_eq_true_eq, pg_let, nR_1_0, nR_2_0, nc_3, D, R, c_holds_3 C, within_le, if_pos c1, if_neg c2]
      · unfold F_X12_read
        simp only [k_si, k_sl, k_sr, r_si, r_sl, i_sl, i_sr, l_si, l_sr, Option.bind_some, if_true, if_false, bind_eta2, if_bb, decide_eq_true_eq, pg_let, nc_81, D, m_isCopy L rfl K, lies_le, if_pos c1, if_neg c2]
  · refine SimB.none I (-1) ?_ ?_
    · unfold F_X11_read
      simp only [k_si, k_sl, k_sr, r_si, r_sl, i_sl, i_sr, l_si, l_sr, Option.bind_some, if_true, if_false, bind_eta2, if_bb, decide_eq_true_eq, pg_let, nR_1_0, nR_2_0, nc_3, D, R, c_holds_3 C, if_neg c1]
    · unfold F_X12_read
      simp only [k_si, k_sl, k_sr, r_si, r_sl, i_sl, i_sr, l_si, l_sr, Option.bind_some, if_true, if_false, bind_eta2, if_bb, decide_eq_true_eq, pg_let, nc_81, D, m_isCopy L rfl K, if_neg c1]
