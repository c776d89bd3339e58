/-! READ: sums of the large numbers, chances -/
theorem c_add {h : pg_H} {o o2 : Nat} (ho : isO o) (ho2 : isO o2) (ne : o2 ≠ o) (L : Lay h) {v w : Nat} (V : BigV h o v) (W : BigV h o2 w) (hv : v + w < B30 ^ 330) : ∃ h', F_X1_add o o2 h = some h' ∧ Ch [o + 1] [(o, 1)] h h' ∧ BigV h' o (v + w) := by
  obtain ⟨s, s1, s2, s3, s4, s5⟩ := V
  obtain ⟨t, t1, t2, t3, t4, t5⟩ := W
  have n1 : o2 + 1 ≠ o + 1 := by omega
  have n2 : o2 ≠ o + 1 := by
    rcases ho with rfl | rfl | rfl <;> rcases ho2 with rfl | rfl | rfl <;> decide
  have n3 : o + 1 ≠ o := by omega
  unfold F_X1_add pg_let
  rw [o_gI L.kd ho, Option.bind_some, o_gI L.kd ho2, Option.bind_some, s2, t2]
  dsimp only
  rw [nI_max (show s < 2 ^ 31 by omega) (show t < 2 ^ 31 by omega), if_neg (show ¬ (330 : Int32) < nI (max s t) from nI_nlt (a := 330) (by omega) (by decide))]
  have b1 : v < B30 ^ max s t := Nat.lt_of_lt_of_le s4 (Nat.pow_le_pow_right B30_pos (by omega))
  have b2 : w < B30 ^ max s t := Nat.lt_of_lt_of_le t4 (Nat.pow_le_pow_right B30_pos (by omega))
  have b3 : max s t = 0 ∨ B30 ^ (max s t - 1) ≤ v + w := by
    by_cases q : t ≤ s
    · rw [show max s t = s by omega]
      rcases s5 with z | z
      · exact Or.inl z
      · exact Or.inr (by omega)
    · rw [show max s t = t by omega]
      rcases t5 with z | z
      · exact Or.inl z
      · exact Or.inr (by omega)
  have m330 : max s t ≤ 330 := by omega
  have ms : s ≤ max s t := by omega
  have mt : t ≤ max s t := by omega
  generalize max s t = m at *
  have key : ∀ C, C = lN (ac B30 v w 0) → ∃ h', F_X1_add_24 pg_fuel o o2 C (nI m) 0 h = some h' ∧ Ch [o + 1] [(o, 1)] h h' ∧ BigV h' o (v + w) := by
    rintro C rfl
    refine loopI (fun g i y => F_X1_add_24 g o o2 (lN (ac B30 v w i)) (nI m) (nI i) y) m (fun i y => Ch [o + 1] [] h y ∧ (∀ j, j < i → pg_l y (o + 1) j = lN (dg B30 (v + w) j)) ∧ ∀ j, i ≤ j → pg_l y (o + 1) j = pg_l h (o + 1) j) (fun out => ∃ h', out = some h' ∧ Ch [o + 1] [(o, 1)] h h' ∧ BigV h' o (v + w)) ?_ ?_ 0 h (Nat.zero_le _) ⟨Ch.refl _ _ _, fun j hj => absurd hj (Nat.not_lt_zero j), fun _ _ => rfl⟩ pg_fuel (by unfold pg_fuel; omega)
    · intro g i y hi ⟨cy, y1, y2⟩
      have cy' : Ch [o + 1] [(o, 1)] h y := Mod.mono cy (fun r k z => z.imp id (fun q => by cases q))
      have Ly := o_lay ho L cy'
      have ei : pg_i y o 1 = nI s := by
        rw [← s2]
        refine (cy.2.2.2.2 o 1 (fun z => ?_)).1
        rcases z with z | z
        · exact n3 (List.mem_singleton.mp z).symm
        · cases z
      have ei2 : pg_i y o2 1 = nI t := by
        rw [← t2]
        refine (cy.2.2.2.2 o2 1 (fun z => ?_)).1
        rcases z with z | z
        · exact n2 (List.mem_singleton.mp z)
        · cases z
      have el2 : ∀ j, pg_l y (o2 + 1) j = pg_l h (o2 + 1) j := fun j => (cy.2.2.2.2 (o2 + 1) j (fun z => by
        rcases z with z | z
        · exact n1 (List.mem_singleton.mp z)
        · cases z)).2
      have d1 := dg_lt B30_pos v i
      have d2 := dg_lt B30_pos w i
      have d3 := ac_le B30_pos v w i
      have e30 : B30 = 1073741824 := rfl
      have db : dg B30 v i + dg B30 w i + ac B30 v w i < 2 ^ 63 := by omega
      have f71 : F_X1_add_71 (F_X1_add_24 g) o o2 (lN (ac B30 v w i)) (nI m) (nI i) (lN (dg B30 w i)) (lN (dg B30 v i)) y = F_X1_add_24 g o o2 (lN (ac B30 v w (i + 1))) (nI m) (nI (i + 1)) (pg_sl y (o + 1) i (lN (dg B30 (v + w) i))) := by
        unfold F_X1_add_71 pg_let
        dsimp only
        rw [o_gR Ly.kd Ly.rd ho, Option.bind_some, lN_add, lN_add, lx_mask, o_sL Ly.kd ho (by omega), Option.bind_some, lx_shr30 db, nI_1]
        rw [show (dg B30 v i + dg B30 w i + ac B30 v w i) % 1073741824 = dg B30 (v + w) i from ac_dg B30_pos v w i, show (dg B30 v i + dg B30 w i + ac B30 v w i) / 1073741824 = ac B30 v w (i + 1) from ac_next B30_pos v w i]
      have f51 : F_X1_add_51 (F_X1_add_24 g) o o2 (lN (ac B30 v w i)) (nI m) (nI i) (lN (dg B30 v i)) y = F_X1_add_24 g o o2 (lN (ac B30 v w (i + 1))) (nI m) (nI (i + 1)) (pg_sl y (o + 1) i (lN (dg B30 (v + w) i))) := by
        unfold F_X1_add_51
        rw [o_gI Ly.kd ho2, ei2, Option.bind_some]
        by_cases q : i < t
        · rw [if_pos (nI_lt q (by omega)), o_gR Ly.kd Ly.rd ho2, Option.bind_some, o_aL Ly.kd ho2 (by omega), Option.bind_some, el2, t3 i q, f71]
        · rw [if_neg (nI_nlt (by omega) (by omega))]
          have z := dg_over B30_pos t4 (show t ≤ i by omega)
          rw [z] at f71
          exact f71
      show ∃ y', F_X1_add_24 (g + 1) o o2 (lN (ac B30 v w i)) (nI m) (nI i) y = F_X1_add_24 g o o2 (lN (ac B30 v w (i + 1))) (nI m) (nI (i + 1)) y' ∧ _
      refine ⟨pg_sl y (o + 1) i (lN (dg B30 (v + w) i)), ?_, cy.asl (Or.inl (List.mem_singleton.mpr rfl)), fun j hj => ?_, fun j hj => ?_⟩
      · rw [F_X1_add_24]
        dsimp only
        rw [if_pos (nI_lt hi (by omega)), o_gI Ly.kd ho, ei, Option.bind_some]
        by_cases q : i < s
        · rw [if_pos (nI_lt q (by omega)), o_gR Ly.kd Ly.rd ho, Option.bind_some, o_aL Ly.kd ho (by omega), Option.bind_some, y2 i (Nat.le_refl i), s3 i q, f51]
        · rw [if_neg (nI_nlt (by omega) (by omega))]
          have z := dg_over B30_pos s4 (show s ≤ i by omega)
          rw [z] at f51
          exact f51
      · rw [sl_row']
        by_cases e : j = i
        · rw [if_pos e, e]
        · rw [if_neg e]
          exact y1 j (by omega)
      · rw [sl_row', if_neg (by omega)]
        exact y2 j (by omega)
    · intro g y ⟨cy, y1, y2⟩
      have cy' : Ch [o + 1] [(o, 1)] h y := Mod.mono cy (fun r k z => z.imp id (fun q => by cases q))
      have Ly := o_lay ho L cy'
      have em : ac B30 v w m = (v + w) / B30 ^ m := by
        unfold ac
        rw [Nat.mod_eq_of_lt b1, Nat.mod_eq_of_lt b2]
      have d3 := ac_le B30_pos v w m
      have c1 : Ch [o + 1] [(o, 1)] h (pg_si y o 1 (nI m)) := cy'.asi (Or.inr (List.mem_singleton.mpr rfl))
      have L1 := o_lay ho L c1
      show ∃ h', F_X1_add_24 (g + 1) o o2 (lN (ac B30 v w m)) (nI m) (nI m) y = some h' ∧ _
      rw [F_X1_add_24]
      dsimp only
      rw [if_neg Int32.lt_irrefl, o_pI Ly.kd ho, Option.bind_some]
      by_cases z : 0 < ac B30 v w m
      · have ge : B30 ^ m ≤ v + w := Nat.le_of_not_lt (fun q => by
          rw [em, Nat.div_eq_of_lt q] at z
          exact absurd z (Nat.lt_irrefl _))
        have m3 : m < 330 := by
          refine Nat.lt_of_not_le (fun q => ?_)
          have := Nat.pow_le_pow_right (n := B30) B30_pos q
          omega
        have c2 : Ch [o + 1] [(o, 1)] h (pg_sl (pg_si y o 1 (nI m)) (o + 1) m (lN (ac B30 v w m))) := c1.asl (Or.inl (List.mem_singleton.mpr rfl))
        have L2 := o_lay ho L c2
        rw [if_pos (show (0 : Int64) < lN (ac B30 v w m) from (pk_lLT (a := 0) (by decide) (by omega)).mpr z), o_gI L1.kd ho, Option.bind_some, si_row, up1_eq, if_pos (show nI m < (330 : Int32) from nI_lt (b := 330) m3 (by decide)), o_gR L1.kd L1.rd ho, Option.bind_some, Option.bind_some, o_sL L1.kd ho m3, Option.bind_some, o_gI L2.kd ho, Option.bind_some, i_sl, si_row, up1_eq, o_pI L2.kd ho, Option.bind_some, nI_1]
        refine ⟨_, rfl, c2.asi (Or.inr (List.mem_singleton.mpr rfl)), m + 1, by omega, ?_, fun j hj => ?_, ?_, Or.inr ge⟩
        · rw [si_row, up1_eq]
        · rw [l_si, sl_row']
          by_cases e : j = m
          · rw [if_pos e, e]
            refine congrArg lN ?_
            show _ = (v + w) / B30 ^ m % B30
            rw [← em, Nat.mod_eq_of_lt]
            have e30 : B30 = 1073741824 := rfl
            omega
          · rw [if_neg e, l_si]
            exact y1 j (by omega)
        · rw [Nat.pow_succ]
          have e30 : B30 = 1073741824 := rfl
          have : B30 ^ m * 2 ≤ B30 ^ m * B30 := Nat.mul_le_mul_left _ (by omega)
          omega
      · have z0 : ac B30 v w m = 0 := Nat.eq_zero_of_not_pos z
        rw [if_neg (by rw [z0]; decide)]
        refine ⟨_, rfl, c1, m, m330, ?_, fun j hj => ?_, ?_, b3⟩
        · rw [si_row, up1_eq]
        · rw [l_si]
          exact y1 j hj
        · rw [em] at z0
          exact Nat.lt_of_div_eq_zero (Nat.pow_pos B30_pos) z0
  exact key _ (by rw [ac_0]; rfl)
theorem prodN_cong {n : Nat} {f g : Nat → Nat} (e : ∀ i, i < n → f i = g i) : prodN n f = prodN n g := by
  induction n with
  | zero => rfl
  | succ n ih =>
    show prodN n f * f n = prodN n g * g n
    rw [ih (fun i hi => e i (by omega)), e n (by omega)]
theorem prodN_mul {n : Nat} {f g : Nat → Nat} : prodN n (fun i => f i * g i) = prodN n f * prodN n g := by
  induction n with
  | zero => rfl
  | succ n ih =>
    show prodN n (fun i => f i * g i) * (f n * g n) = prodN n f * f n * (prodN n g * g n)
    rw [ih, Nat.mul_mul_mul_comm]
theorem prodN_le {n b : Nat} {f : Nat → Nat} (e : ∀ i, i < n → f i ≤ b) : prodN n f ≤ b ^ n := by
  induction n with
  | zero => exact Nat.le_refl _
  | succ n ih =>
    show prodN n f * f n ≤ b ^ (n + 1)
    rw [Nat.pow_succ]
    exact Nat.mul_le_mul (ih (fun i hi => e i (by omega))) (e n (by omega))
theorem prodN_zero {n k : Nat} {f : Nat → Nat} (hk : k < n) (e : f k = 0) : prodN n f = 0 := by
  induction n with
  | zero => omega
  | succ n ih =>
    show prodN n f * f n = 0
    by_cases q : k = n
    · rw [← q, e, Nat.mul_zero]
    · rw [ih (by omega), Nat.zero_mul]
theorem prodN_first {n : Nat} {f : Nat → Nat} : prodN (n + 1) (fun i => if i = 0 then 1 else f i) = prodN n (fun i => f (i + 1)) := by
  induction n with
  | zero => rfl
  | succ n ih =>
    show prodN (n + 1) (fun i => if i = 0 then 1 else f i) * (if n + 1 = 0 then 1 else f (n + 1)) = prodN n (fun i => f (i + 1)) * f (n + 1)
    rw [ih, if_neg (by omega)]
section READ
variable {nq : Nat → Bool} {rv nv : Nat → Nat}
def fa (nq : Nat → Bool) (nv : Nat → Nat) (k i : Nat) : Nat := if i < k then (if nq i then nv i else 100 - nv i) else 100
def fz (nq : Nat → Bool) (nv : Nat → Nat) (k i : Nat) : Nat := if i < k then (if nq i then nv i else 100 - nv i) else if nq i then 0 else 100
def fb (rv : Nat → Nat) (k i : Nat) : Nat := if i < k then rv i else if i = k then 100 - rv i else 100
def fc (nq : Nat → Bool) (rv nv : Nat → Nat) (k i : Nat) : Nat := fa nq nv k i * if i = 0 then 1 else fb rv k i
def prR (nq : Nat → Bool) (rv nv : Nat → Nat) (k : Nat) : Nat := prodN 11 (fun i => fb rv k (i + 1)) * prodN 12 (fz nq nv k)
theorem fa_le (hn : ∀ i, nv i ≤ 100) (k i : Nat) : fa nq nv k i ≤ 100 := by
  have := hn i
  unfold fa
  split
  · split <;> omega
  · omega
theorem fz_le (hn : ∀ i, nv i ≤ 100) (k i : Nat) : fz nq nv k i ≤ 100 := by
  have := hn i
  unfold fz
  split
  · split <;> omega
  · split <;> omega
theorem fb_le (hr : ∀ i, rv i ≤ 100) (k i : Nat) : fb rv k i ≤ 100 := by
  have := hr i
  unfold fb
  split
  · omega
  · split <;> omega
theorem fc_le (hr : ∀ i, rv i ≤ 100) (hn : ∀ i, nv i ≤ 100) (k i : Nat) : fc nq rv nv k i ≤ 10000 := by
  have a := fa_le (nq := nq) hn k i
  have b := fb_le hr k i
  unfold fc
  split
  · omega
  · exact Nat.le_trans (Nat.mul_le_mul a b) (by decide)
theorem prR_le (hr : ∀ i, rv i ≤ 100) (hn : ∀ i, nv i ≤ 100) (k : Nat) : prR nq rv nv k ≤ 100 ^ 11 * 100 ^ 12 := Nat.mul_le_mul (prodN_le (fun i _ => fb_le hr k (i + 1))) (prodN_le (fun i _ => fz_le hn k i))
def stopT (nq : Nat → Bool) (n : Nat) : Nat := foldN n (fun k x => if nq k then k + 1 else x) 0
theorem stopT_spec : ∀ n, (∀ i, i < n → nq i = true → i < stopT nq n) ∧ (stopT nq n = 0 ∨ (stopT nq n ≤ n ∧ nq (stopT nq n - 1) = true)) := by
  intro n
  induction n with
  | zero => exact ⟨fun i hi => absurd hi (Nat.not_lt_zero i), Or.inl rfl⟩
  | succ n ih =>
    have e : stopT nq (n + 1) = if nq n then n + 1 else stopT nq n := rfl
    rw [e]
    cases q : nq n with
    | true =>
      rw [if_pos rfl]
      exact ⟨fun i hi _ => by omega, Or.inr ⟨Nat.le_refl _, by rw [Nat.add_sub_cancel]; exact q⟩⟩
    | false =>
      rw [if_neg (by decide)]
      refine ⟨fun i hi z => ?_, ih.2.imp id (fun z => ⟨by omega, z.2⟩)⟩
      by_cases e2 : i = n
      · rw [e2, q] at z
        cases z
      · exact ih.1 i (by omega) z
theorem prR_early {k : Nat} (h : k < stopT nq 12) : prR nq rv nv k = 0 := by
  obtain ⟨_, z⟩ := stopT_spec (nq := nq) 12
  rcases z with z | ⟨z1, z2⟩
  · omega
  · unfold prR
    rw [prodN_zero (n := 12) (k := stopT nq 12 - 1) (by omega) (by
      unfold fz
      rw [if_neg (by omega), z2]
      rfl), Nat.mul_zero]
theorem prR_late {k : Nat} (h : stopT nq 12 ≤ k) : prodN 12 (fc nq rv nv k) = prR nq rv nv k := by
  have e : prodN 12 (fc nq rv nv k) = prodN 12 (fa nq nv k) * prodN 12 (fun i => if i = 0 then 1 else fb rv k i) := prodN_mul
  rw [e, prodN_first (n := 11) (f := fb rv k)]
  unfold prR
  rw [Nat.mul_comm]
  refine congrArg _ (prodN_cong (fun i hi => ?_))
  unfold fa fz
  by_cases q : i < k
  · rw [if_pos q, if_pos q]
  · rw [if_neg q, if_neg q]
    cases z : nq i with
    | false => rfl
    | true =>
      have := (stopT_spec (nq := nq) 12).1 i hi z
      omega
def rowsOf (h : pg_H) (a b : Nat) (rv nv : Nat → Nat) : Prop := ∀ i, i < 12 → pg_i h a i = nI (rv i) ∧ pg_i h b i = nI (nv i)
theorem l_bnd {v : Nat} (h : v ≤ 10000 ^ 12 * 10000) : v < B30 ^ 330 := Nat.lt_of_le_of_lt h (by decide +kernel)
theorem l_bnd8 {v : Nat} (h : v ≤ 100 ^ 11 * 100 ^ 12 * 12 * 1000000) : v < B8 ^ 380 ∧ v < B30 ^ 330 := ⟨Nat.lt_of_le_of_lt h (by decide +kernel), Nat.lt_of_le_of_lt h (by decide +kernel)⟩
theorem c_weighRead {h : pg_H} (L : Lay h) (hr : ∀ i, rv i ≤ 100) (hn : ∀ i, nv i ≤ 100) (Ro : rowsOf h 74 75 rv nv) {k : Nat} (k1 : 1 ≤ k) (k2 : k ≤ 12) : ∃ h', F_X2_weighRead 67 (nI k) (nI (mk 12 nq)) h = some h' ∧ Ch [73] [(72, 1)] h h' ∧ BigV h' 72 (prodN 12 (fc nq rv nv k)) := by
  have i3 : isO 72 := Or.inr (Or.inr rfl)
  obtain ⟨x, x1, x2, x3⟩ := c_become1 i3 L
  have x2' : Ch [73] [(72, 1)] h x := x2
  unfold F_X2_weighRead
  rw [nR_67_2 L.kd L.rd, Option.bind_some, o_rc L.kd i3, x1, Option.bind_some]
  refine loopI (fun f i y => F_X2_weighRead_10 f 67 (nI k) (nI (mk 12 nq)) (nI i) y) 12 (fun i y => Ch [73] [(72, 1)] h y ∧ BigV y 72 (prodN i (fc nq rv nv k))) (fun o => ∃ h', o = some h' ∧ Ch [73] [(72, 1)] h h' ∧ BigV h' 72 (prodN 12 (fc nq rv nv k))) ?_ ?_ 0 x (Nat.zero_le _) ⟨x2', x3⟩ pg_fuel (by unfold pg_fuel; omega)
  · intro f i y hi ⟨cy, V⟩
    have Ly := cy.lay L (by decide)
    have r74 : pg_i y 74 i = nI (rv i) := by rw [cy.row (by decide)]; exact (Ro i hi).1
    have r75 : pg_i y 75 i = nI (nv i) := by rw [cy.row (by decide)]; exact (Ro i hi).2
    have rl := hr i
    have nl := hn i
    have pl : prodN i (fc nq rv nv k) ≤ 10000 ^ i := prodN_le (fun j _ => fc_le hr hn k j)
    have pl2 : prodN i (fc nq rv nv k) ≤ 10000 ^ 11 := Nat.le_trans pl (Nat.pow_le_pow_right (by decide) (by omega))
    have al := fa_le (nq := nq) hn k i
    have bl := fb_le hr k i
    have st : prodN (i + 1) (fc nq rv nv k) = prodN i (fc nq rv nv k) * (fa nq nv k i * if i = 0 then 1 else fb rv k i) := rfl
    have va : prodN i (fc nq rv nv k) * fa nq nv k i ≤ 10000 ^ 11 * 100 := Nat.mul_le_mul pl2 al
    obtain ⟨a, a1, a2, a3⟩ := c_mulA i3 Ly V (f := fa nq nv k i) (by omega) (l_bnd (Nat.le_trans va (by decide +kernel)))
    have a2' : Ch [73] [(72, 1)] y a := a2
    have La := a2'.lay Ly (by decide)
    have f128 : ∀ z, F_X2_weighRead_128 (F_X2_weighRead_10 f) 67 (nI k) (nI (mk 12 nq)) (nI i) z = F_X2_weighRead_10 f 67 (nI k) (nI (mk 12 nq)) (nI (i + 1)) z := fun z => by
      unfold F_X2_weighRead_128
      rw [nI_1]
    have ri : pg_i a 74 i = nI (rv i) := by rw [a2'.row (by decide)]; exact r74
    have f75 : ∃ z, F_X2_weighRead_75 (F_X2_weighRead_10 f) 67 (nI k) (nI (mk 12 nq)) (nI i) (lN (fa nq nv k i)) 72 y = F_X2_weighRead_10 f 67 (nI k) (nI (mk 12 nq)) (nI (i + 1)) z ∧ Ch [73] [(72, 1)] h z ∧ BigV z 72 (prodN (i + 1) (fc nq rv nv k)) := by
      unfold F_X2_weighRead_75
      rw [o_rc Ly.kd i3, a1, Option.bind_some]
      rw [st]
      by_cases i0 : i = 0
      · rw [if_neg (show ¬ (0 : Int32) < nI i from nI_nlt (a := 0) (by omega) (by decide)), f128, if_pos i0, Nat.mul_one]
        exact ⟨a, rfl, cy.trans a2', a3⟩
      · have vb : prodN i (fc nq rv nv k) * fa nq nv k i * fb rv k i ≤ 10000 ^ 11 * 100 * 100 := Nat.mul_le_mul va bl
        obtain ⟨b, b1, b2, b3⟩ := c_mulA i3 La a3 (f := fb rv k i) (by omega) (l_bnd (Nat.le_trans vb (by decide +kernel)))
        have b2' : Ch [73] [(72, 1)] a b := b2
        rw [if_pos (show (0 : Int32) < nI i from nI_lt (a := 0) (by omega) (by omega)), if_neg i0, ← Nat.mul_assoc]
        have f101 : ∀ s : Nat, s < 2 ^ 31 → (¬ i < k → s = fb rv k i) → F_X2_weighRead_101 (F_X2_weighRead_10 f) 67 (nI k) (nI (mk 12 nq)) (nI i) (nI s) a = F_X2_weighRead_10 f 67 (nI k) (nI (mk 12 nq)) (nI (i + 1)) b := fun s hs e => by
          unfold F_X2_weighRead_101 F_X2_weighRead_125
          rw [nR_67_2 La.kd La.rd, Option.bind_some]
          by_cases q : i < k
          · have eb : fb rv k i = rv i := by
              unfold fb
              rw [if_pos q]
            rw [if_pos (nI_lt q (by omega)), nR_67_3 La.kd La.rd, Option.bind_some, na_74 La.kd hi, Option.bind_some, ri, nI_l (by omega), o_rc La.kd i3, ← eb, b1, Option.bind_some, f128]
          · rw [if_neg (nI_nlt (by omega) (by omega)), nI_l hs, e q, o_rc La.kd i3, b1, Option.bind_some, f128]
        refine ⟨b, ?_, (cy.trans a2').trans b2', b3⟩
        by_cases q : i = k
        · have e100 : (100 : Int32) - nI (rv i) = nI (100 - rv i) := ix_sub (a := 100) (by omega)
          rw [if_pos (congrArg nI q), nR_67_3 La.kd La.rd, Option.bind_some, na_74 La.kd hi, Option.bind_some, ri, e100]
          refine f101 _ (by omega) (fun _ => ?_)
          unfold fb
          rw [if_neg (by omega), if_pos q]
        · rw [if_neg (fun z => q ((nI_eq (by omega) (by omega)).mp z))]
          refine f101 100 (by decide) (fun z => ?_)
          unfold fb
          rw [if_neg z, if_neg q]
    have f55 : ∀ s : Nat, s < 2 ^ 31 → (i < k → s = fa nq nv k i) → F_X2_weighRead_55 (F_X2_weighRead_10 f) 67 (nI k) (nI (mk 12 nq)) (nI i) (nI s) y = F_X2_weighRead_75 (F_X2_weighRead_10 f) 67 (nI k) (nI (mk 12 nq)) (nI i) (lN (fa nq nv k i)) 72 y := fun s hs e => by
      unfold F_X2_weighRead_55
      rw [nR_67_2 Ly.kd Ly.rd, Option.bind_some]
      by_cases q : i < k
      · rw [if_pos (nI_lt q (by omega)), nI_l hs, e q]
      · have ea : fa nq nv k i = 100 := by
          unfold fa
          rw [if_neg q]
        rw [if_neg (nI_nlt (by omega) (by omega)), ea]
        rfl
    obtain ⟨z, z1, z2, z3⟩ := f75
    refine ⟨z, ?_, z2, z3⟩
    show F_X2_weighRead_10 (f + 1) 67 (nI k) (nI (mk 12 nq)) (nI i) y = F_X2_weighRead_10 f 67 (nI k) (nI (mk 12 nq)) (nI (i + 1)) z
    rw [F_X2_weighRead_10]
    dsimp only
    rw [if_pos (show nI i < (12 : Int32) from nI_lt (b := 12) hi (by decide)), bit12 _ hi, if_b1, ← z1]
    unfold F_X2_weighRead_30
    cases q : nq i with
    | true =>
      rw [if_pos rfl, if_neg (show ¬ (1 : Int32) = 0 by decide), nR_67_4 Ly.kd Ly.rd, Option.bind_some, na_75 Ly.kd hi, Option.bind_some, r75]
      refine f55 _ (by omega) (fun l => ?_)
      unfold fa
      rw [if_pos l, q, if_pos rfl]
    | false =>
      have e100 : (100 : Int32) - nI (nv i) = nI (100 - nv i) := ix_sub (a := 100) (by omega)
      rw [if_neg (by decide), if_pos rfl, nR_67_4 Ly.kd Ly.rd, Option.bind_some, na_75 Ly.kd hi, Option.bind_some, r75, e100]
      refine f55 _ (by omega) (fun l => ?_)
      unfold fa
      rw [if_pos l, q, if_neg (by decide)]
  · intro f y ⟨cy, V⟩
    refine ⟨y, ?_, cy, V⟩
    show F_X2_weighRead_10 (f + 1) 67 (nI k) (nI (mk 12 nq)) (nI 12) y = _
    rw [F_X2_weighRead_10]
    dsimp only
    rw [if_neg (show ¬ nI 12 < (12 : Int32) by decide)]
theorem m_chanceOf {h : pg_H} {A : Nat → Int32} (L : Lay h) (M : pg_i h 83 = A) (K : ShOK A) (c : Int32) (hr : ∀ i, rv i ≤ 100) (hn : ∀ i, nv i ≤ 100) (Ro : rowsOf h 103 104 rv nv) {k : Nat} (k1 : 1 ≤ k) (k2 : k ≤ 12) : ∃ h', F_X12_chanceOf 81 c (nI k) h = some h' ∧ Ch [105] [] h h' ∧ RV h' 105 (prR (notedQ A c) rv nv k) := by
  have i4 : isR 105 := Or.inr (Or.inr (Or.inr rfl))
  obtain ⟨x, x1, x2, x3⟩ := m_be i4 L (v := 1) (by decide)
  have Lx := x2.lay L (by decide)
  unfold F_X12_chanceOf
  rw [nR_81_39 L.kd L.rd, Option.bind_some, show (1 : Int64) = lN 1 from rfl, x1, Option.bind_some]
  have p11 : ∀ n, n ≤ 11 → prodN n (fun i => fb rv k (i + 1)) ≤ 100 ^ 11 := fun n hn' => Nat.le_trans (prodN_le (fun i _ => fb_le hr k (i + 1))) (Nat.pow_le_pow_right (by decide) hn')
  have p12 : ∀ n, n ≤ 12 → prodN n (fz (notedQ A c) nv k) ≤ 100 ^ 12 := fun n hn' => Nat.le_trans (prodN_le (fun i _ => fz_le hn k i)) (Nat.pow_le_pow_right (by decide) hn')
  have bnd : ∀ v, v ≤ 100 ^ 11 * 100 ^ 12 * 100 → v < B8 ^ 380 := fun v hv => (l_bnd8 (Nat.le_trans hv (by decide +kernel))).1
  have second : ∀ y, Ch [105] [] h y → RV y 105 (prodN 11 (fun i => fb rv k (i + 1))) → ∃ h', F_X12_chanceOf_65 pg_fuel 81 c (nI k) 0 y = some h' ∧ Ch [105] [] h h' ∧ RV h' 105 (prR (notedQ A c) rv nv k) := by
    intro y cy V
    refine loopI (fun f i y => F_X12_chanceOf_65 f 81 c (nI k) (nI i) y) 12 (fun i y => Ch [105] [] h y ∧ RV y 105 (prodN 11 (fun i => fb rv k (i + 1)) * prodN i (fz (notedQ A c) nv k))) (fun o => ∃ h', o = some h' ∧ Ch [105] [] h h' ∧ RV h' 105 (prR (notedQ A c) rv nv k)) ?_ ?_ 0 y (Nat.zero_le _) ⟨cy, by show RV y 105 (_ * 1); rw [Nat.mul_one]; exact V⟩ pg_fuel (by unfold pg_fuel; omega)
    · intro f i y hi ⟨cy, V⟩
      have Ly := cy.lay L (by decide)
      have My : pg_i y 83 = A := (cy.row (by decide)).trans M
      have r104 : pg_i y 104 i = nI (nv i) := by rw [cy.row (by decide)]; exact (Ro i hi).2
      have nl := hn i
      have zl := fz_le (nq := notedQ A c) hn k i
      have vb : prodN 11 (fun i => fb rv k (i + 1)) * prodN i (fz (notedQ A c) nv k) * fz (notedQ A c) nv k i ≤ 100 ^ 11 * 100 ^ 12 * 100 := Nat.mul_le_mul (Nat.mul_le_mul (p11 11 (Nat.le_refl _)) (p12 i (by omega))) zl
      obtain ⟨a, a1, a2, a3⟩ := m_makes1 i4 Ly V (f := fz (notedQ A c) nv k i) (by omega) (bnd _ vb)
      rw [Nat.mul_assoc] at a3
      have f125 : ∀ s : Nat, s = fz (notedQ A c) nv k i → F_X12_chanceOf_125 (F_X12_chanceOf_65 f) 81 c (nI k) (nI i) (nI s) 105 y = F_X12_chanceOf_65 f 81 c (nI k) (nI (i + 1)) a := fun s e => by
        unfold F_X12_chanceOf_125
        rw [e, a1, Option.bind_some, nI_1]
      refine ⟨a, ?_, cy.trans a2, a3⟩
      show F_X12_chanceOf_65 (f + 1) 81 c (nI k) (nI i) y = F_X12_chanceOf_65 f 81 c (nI k) (nI (i + 1)) a
      rw [F_X12_chanceOf_65]
      dsimp only
      rw [if_pos (show nI i < (12 : Int32) from nI_lt (b := 12) hi (by decide)), nc_81 Ly.kd, m_isNoted Ly My K c hi, Option.bind_some, nR_81_39 Ly.kd Ly.rd, Option.bind_some, if_bb, if_bb, nR_81_38 Ly.kd Ly.rd, Option.bind_some, Option.bind_some, na_104 Ly.kd hi, Option.bind_some, Option.bind_some, r104]
      have e100 : (100 : Int32) - nI (nv i) = nI (100 - nv i) := ix_sub (a := 100) (by omega)
      by_cases l : i < k
      · rw [if_pos (nI_lt l (by omega))]
        cases q : notedQ A c i with
        | true =>
          rw [if_pos rfl]
          refine f125 _ ?_
          unfold fz
          rw [if_pos l, q, if_pos rfl]
        | false =>
          rw [if_neg (by decide), e100]
          refine f125 _ ?_
          unfold fz
          rw [if_pos l, q, if_neg (by decide)]
      · rw [if_neg (nI_nlt (by omega) (by omega))]
        cases q : notedQ A c i with
        | true =>
          rw [if_pos rfl]
          refine f125 0 ?_
          unfold fz
          rw [if_neg l, q, if_pos rfl]
        | false =>
          rw [if_neg (by decide)]
          refine f125 100 ?_
          unfold fz
          rw [if_neg l, q, if_neg (by decide)]
    · intro f y ⟨cy, V⟩
      refine ⟨y, ?_, cy, V⟩
      show F_X12_chanceOf_65 (f + 1) 81 c (nI k) (nI 12) y = _
      rw [F_X12_chanceOf_65]
      dsimp only
      rw [if_neg (show ¬ nI 12 < (12 : Int32) by decide)]
  refine loopI (fun f i y => F_X12_chanceOf_10 f 81 c (nI k) (nI (i + 1)) y) 11 (fun i y => Ch [105] [] h y ∧ RV y 105 (prodN i (fun i => fb rv k (i + 1)))) (fun o => ∃ h', o = some h' ∧ Ch [105] [] h h' ∧ RV h' 105 (prR (notedQ A c) rv nv k)) ?_ ?_ 0 x (Nat.zero_le _) ⟨x2, x3⟩ pg_fuel (by unfold pg_fuel; omega)
  · intro f i y hi ⟨cy, V⟩
    have Ly := cy.lay L (by decide)
    have r103 : pg_i y 103 (i + 1) = nI (rv (i + 1)) := by rw [cy.row (by decide)]; exact (Ro (i + 1) (by omega)).1
    have rl := hr (i + 1)
    have bl := fb_le hr k (i + 1)
    have vb : prodN i (fun i => fb rv k (i + 1)) * fb rv k (i + 1) ≤ 100 ^ 11 * 100 ^ 12 * 100 := Nat.le_trans (Nat.mul_le_mul (p11 i (by omega)) bl) (by decide +kernel)
    obtain ⟨a, a1, a2, a3⟩ := m_makes1 i4 Ly V (f := fb rv k (i + 1)) (by omega) (bnd _ vb)
    have f53 : ∀ s : Nat, s = fb rv k (i + 1) → F_X12_chanceOf_53 (F_X12_chanceOf_10 f) 81 c (nI k) (nI (i + 1)) (nI s) 105 y = F_X12_chanceOf_10 f 81 c (nI k) (nI (i + 1 + 1)) a := fun s e => by
      unfold F_X12_chanceOf_53
      rw [e, a1, Option.bind_some, nI_1]
    refine ⟨a, ?_, cy.trans a2, a3⟩
    show F_X12_chanceOf_10 (f + 1) 81 c (nI k) (nI (i + 1)) y = F_X12_chanceOf_10 f 81 c (nI k) (nI (i + 1 + 1)) a
    rw [F_X12_chanceOf_10]
    dsimp only
    rw [if_pos (show nI (i + 1) < (12 : Int32) from nI_lt (b := 12) (by omega) (by decide)), nR_81_39 Ly.kd Ly.rd, Option.bind_some, nR_81_37 Ly.kd Ly.rd, Option.bind_some, Option.bind_some, na_103 Ly.kd (show i + 1 < 12 by omega), Option.bind_some, Option.bind_some, r103]
    by_cases l : i + 1 < k
    · rw [if_pos (nI_lt l (by omega))]
      refine f53 _ ?_
      unfold fb
      rw [if_pos l]
    · rw [if_neg (nI_nlt (by omega) (by omega))]
      by_cases q : i + 1 = k
      · have e100 : (100 : Int32) - nI (rv (i + 1)) = nI (100 - rv (i + 1)) := ix_sub (a := 100) (by omega)
        rw [if_pos (congrArg nI q), e100]
        refine f53 _ ?_
        unfold fb
        rw [if_neg l, if_pos q]
      · rw [if_neg (fun z => q ((nI_eq (by omega) (by omega)).mp z))]
        refine f53 100 ?_
        unfold fb
        rw [if_neg l, if_neg q]
  · intro f y ⟨cy, V⟩
    have z := second y cy V
    show ∃ h', F_X12_chanceOf_10 (f + 1) 81 c (nI k) (nI (11 + 1)) y = some h' ∧ _
    rw [F_X12_chanceOf_10]
    dsimp only
    rw [if_neg (show ¬ nI (11 + 1) < (12 : Int32) by decide)]
    exact z
end READ
