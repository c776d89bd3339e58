/-! THE CLASS'S LARGE NUMBERS: limbs of 30 bits -/
def B30 : Nat := 1073741824
theorem B30_pos : 0 < B30 := by decide
def BigV (h : pg_H) (o v : Nat) : Prop := ∃ s, s ≤ 330 ∧ pg_i h o 1 = nI s ∧ (∀ j, j < s → pg_l h (o + 1) j = lN (dg B30 v j)) ∧ v < B30 ^ s ∧ (s = 0 ∨ B30 ^ (s - 1) ≤ v)
def isO (o : Nat) : Prop := o = 68 ∨ o = 70 ∨ o = 72
section BIG
variable {h : pg_H} {o : Nat}
theorem o_gI (D : KD (pg_k h)) (ho : isO o) : pg_gI 1 1 h o = some (pg_i h o 1) := by
  rcases ho with rfl | rfl | rfl
  · exact N_gI D (by decide) (by decide)
  · exact N_gI D (by decide) (by decide)
  · exact N_gI D (by decide) (by decide)
theorem o_gR (D : KD (pg_k h)) (R : RD (pg_r h)) (ho : isO o) : pg_gR 1 0 h o = some (o + 1) := by
  rcases ho with rfl | rfl | rfl
  · exact N_gR D R (by decide) (by decide) (by decide)
  · exact N_gR D R (by decide) (by decide) (by decide)
  · exact N_gR D R (by decide) (by decide) (by decide)
theorem o_pI (D : KD (pg_k h)) (ho : isO o) (x : Int32) : pg_pI 1 1 h o x = some (pg_si h o 1 x) := by
  rcases ho with rfl | rfl | rfl
  · exact N_pI D (by decide) (by decide)
  · exact N_pI D (by decide) (by decide)
  · exact N_pI D (by decide) (by decide)
theorem o_aL (D : KD (pg_k h)) (ho : isO o) {j : Nat} (hj : j < 330) : pg_aL h (o + 1) (nI j) = some (pg_l h (o + 1) j) := by
  rcases ho with rfl | rfl | rfl
  · exact N_aL (n := 330) D (by decide) (by decide) (by decide) hj
  · exact N_aL (n := 330) D (by decide) (by decide) (by decide) hj
  · exact N_aL (n := 330) D (by decide) (by decide) (by decide) hj
theorem o_sL (D : KD (pg_k h)) (ho : isO o) {j : Nat} (hj : j < 330) (x : Int64) : pg_sL h (o + 1) (nI j) x = some (pg_sl h (o + 1) j x) := by
  rcases ho with rfl | rfl | rfl
  · exact N_sL (n := 330) D (by decide) (by decide) (by decide) hj
  · exact N_sL (n := 330) D (by decide) (by decide) (by decide) hj
  · exact N_sL (n := 330) D (by decide) (by decide) (by decide) hj
theorem o_rc {τ : Type} (D : KD (pg_k h)) (ho : isO o) (G : Option τ) : pg_rcv 1 h o G = G := by
  rcases ho with rfl | rfl | rfl
  · exact N_rc D (by decide) (by decide) G
  · exact N_rc D (by decide) (by decide) G
  · exact N_rc D (by decide) (by decide) G
theorem o_lay {x : pg_H} (ho : isO o) (L : Lay h) (c : Ch [o + 1] [(o, 1)] h x) : Lay x := by
  rcases ho with rfl | rfl | rfl
  · exact c.lay L (by decide)
  · exact c.lay L (by decide)
  · exact c.lay L (by decide)
theorem sl_row' (h : pg_H) (r k : Nat) (x : Int64) (j : Nat) : pg_l (pg_sl h r k x) r j = if j = k then x else pg_l h r j := by
  rw [sl_row]
  rfl
theorem c_append (ho : isO o) (L : Lay h) {v f s : Nat} (hf : f < 2 ^ 31) (h1 : v < B30 ^ s) (hv : v * f < B30 ^ 330) (hs : s ≤ 330) (hn : s = 0 ∨ B30 ^ (s - 1) ≤ v * f) {x : pg_H} (cx : Ch [o + 1] [(o, 1)] h x) (e1 : pg_i x o 1 = nI s) (e2 : ∀ j, j < s → pg_l x (o + 1) j = lN (dg B30 (v * f) j)) :
    ∃ h', F_X1_multiply_75 pg_fuel o (lN (v * f / B30 ^ s)) 0 x = some h' ∧ Ch [o + 1] [(o, 1)] h h' ∧ BigV h' o (v * f) := by
  have fB : f < B30 ^ 2 := Nat.lt_trans hf (by decide)
  refine loopE (fun g k y => F_X1_multiply_75 g o (lN (v * f / B30 ^ (s + k))) (nI k) y) 2 (fun k y => Ch [o + 1] [(o, 1)] h y ∧ s + k ≤ 330 ∧ pg_i y o 1 = nI (s + k) ∧ (∀ j, j < s + k → pg_l y (o + 1) j = lN (dg B30 (v * f) j)) ∧ (s + k = 0 ∨ B30 ^ (s + k - 1) ≤ v * f)) (fun out => ∃ h', out = some h' ∧ Ch [o + 1] [(o, 1)] h h' ∧ BigV h' o (v * f)) ?_ ?_ 0 x (Nat.zero_le _) ⟨cx, hs, e1, e2, hn⟩ pg_fuel (by unfold pg_fuel; omega)
  · intro g k y hk ⟨cy, k0, k1, k2, k3⟩
    have Ly := o_lay ho L cy
    show (∃ y', F_X1_multiply_75 (g + 1) o (lN (v * f / B30 ^ (s + k))) (nI k) y = F_X1_multiply_75 g o (lN (v * f / B30 ^ (s + (k + 1)))) (nI (k + 1)) y' ∧ _) ∨ (∃ h', F_X1_multiply_75 (g + 1) o (lN (v * f / B30 ^ (s + k))) (nI k) y = some h' ∧ _)
    have cb : v * f / B30 ^ (s + k) < 2 ^ 62 := by
      have : v * f / B30 ^ (s + k) ≤ f := by
        refine Nat.div_le_of_le_mul (Nat.mul_le_mul_right f (Nat.le_of_lt (Nat.lt_of_lt_of_le h1 (Nat.pow_le_pow_right B30_pos (Nat.le_add_right _ _)))))
      omega
    rw [F_X1_multiply_75]
    unfold pg_let
    dsimp only
    rw [if_pos (show nI k < (2 : Int32) from nI_lt (b := 2) hk (by decide))]
    by_cases z : 0 < v * f / B30 ^ (s + k)
    · left
      have ge : B30 ^ (s + k) ≤ v * f := Nat.le_of_not_lt (fun q => by
        rw [Nat.div_eq_of_lt q] at z
        exact absurd z (Nat.lt_irrefl _))
      have s330 : s + k < 330 := by
        refine Nat.lt_of_not_le (fun q => ?_)
        have := Nat.lt_of_le_of_lt ge hv
        have := Nat.pow_le_pow_right (n := B30) B30_pos q
        omega
      have c1 : Ch [o + 1] [(o, 1)] h (pg_sl y (o + 1) (s + k) (lN (dg B30 (v * f) (s + k)))) := cy.asl (Or.inl (List.mem_singleton.mpr rfl))
      have L1 := o_lay ho L c1
      rw [if_pos (show (0 : Int64) < lN (v * f / B30 ^ (s + k)) from (pk_lLT (a := 0) (by decide) (by omega)).mpr z), o_gI Ly.kd ho, k1, Option.bind_some, if_pos (show nI (s + k) < (330 : Int32) from nI_lt (b := 330) s330 (by decide)), o_gR Ly.kd Ly.rd ho, Option.bind_some, Option.bind_some, lx_mask, o_sL Ly.kd ho s330, Option.bind_some, lx_shr30 (by omega)]
      rw [show v * f / B30 ^ (s + k) % 1073741824 = dg B30 (v * f) (s + k) from rfl, o_gI L1.kd ho, Option.bind_some, i_sl, k1, o_pI L1.kd ho, Option.bind_some, nI_1, nI_1]
      have ne : v * f / B30 ^ (s + k) / 1073741824 = v * f / B30 ^ (s + (k + 1)) := by
        rw [Nat.div_div_eq_div_mul, ← Nat.add_assoc, Nat.pow_succ]
        rfl
      rw [ne]
      refine ⟨_, rfl, c1.asi (Or.inr (List.mem_singleton.mpr rfl)), by omega, ?_, fun j hj => ?_, Or.inr ?_⟩
      · rw [si_row, up1_eq, Nat.add_assoc]
      · rw [l_si, sl_row']
        by_cases e : j = s + k
        · rw [if_pos e, e]
        · rw [if_neg e]
          exact k2 j (by omega)
      · rw [show s + (k + 1) - 1 = s + k by omega]
        exact ge
    · right
      have z0 : v * f / B30 ^ (s + k) = 0 := Nat.eq_zero_of_not_pos z
      rw [if_neg (by rw [z0]; decide)]
      exact ⟨y, rfl, cy, s + k, k0, k1, k2, Nat.lt_of_div_eq_zero (Nat.pow_pos B30_pos) z0, k3⟩
  · intro g y ⟨cy, k0, k1, k2, k3⟩
    show ∃ h', F_X1_multiply_75 (g + 1) o (lN (v * f / B30 ^ (s + 2))) (nI 2) y = some h' ∧ _
    rw [F_X1_multiply_75]
    dsimp only
    rw [if_neg (show ¬ nI 2 < (2 : Int32) by decide)]
    refine ⟨y, rfl, cy, s + 2, k0, k1, k2, ?_, k3⟩
    rw [Nat.pow_add]
    exact Nat.mul_lt_mul'' h1 fB
theorem c_mul (ho : isO o) (L : Lay h) {v f : Nat} (V : BigV h o v) (f0 : 0 < f) (hf : f < 2 ^ 31) (hv : v * f < B30 ^ 330) : ∃ h', F_X1_multiply o (lN f) h = some h' ∧ Ch [o + 1] [(o, 1)] h h' ∧ BigV h' o (v * f) := by
  obtain ⟨s, s1, s2, s3, s4, s5⟩ := V
  unfold F_X1_multiply
  rw [if_pos (show (0 : Int64) < lN f from (pk_lLT (a := 0) (by decide) (by omega)).mpr f0)]
  have key : ∀ C, C = lN (mc B30 v f 0) → ∃ h', F_X1_multiply_17 pg_fuel o (lN f) C 0 h = some h' ∧ Ch [o + 1] [(o, 1)] h h' ∧ BigV h' o (v * f) := by
    rintro C rfl
    refine loopI (fun g i y => F_X1_multiply_17 g o (lN f) (lN (mc B30 v f i)) (nI i) y) s (fun i y => Ch [o + 1] [] h y ∧ (∀ j, j < i → pg_l y (o + 1) j = lN (dg B30 (v * f) j)) ∧ ∀ j, i ≤ j → pg_l y (o + 1) j = pg_l h (o + 1) j) (fun out => ∃ h', out = some h' ∧ Ch [o + 1] [(o, 1)] h h' ∧ BigV h' o (v * f)) ?_ ?_ 0 h (Nat.zero_le _) ⟨Ch.refl _ _ _, fun j hj => absurd hj (Nat.not_lt_zero j), fun _ _ => rfl⟩ pg_fuel (by unfold pg_fuel; omega)
    · intro g i y hi ⟨cy, y1, y2⟩
      have cy' : Ch [o + 1] [(o, 1)] h y := Mod.mono cy (fun r k z => z.imp id (fun q => by cases q))
      have Ly := o_lay ho L cy'
      have ei : pg_i y o 1 = nI s := by
        rw [← s2]
        refine (cy.2.2.2.2 o 1 (fun z => ?_)).1
        rcases z with z | z
        · have := List.mem_singleton.mp z
          omega
        · cases z
      have d1 : dg B30 v i < B30 := dg_lt B30_pos v i
      have d2 := mc_le B30_pos v f i
      have db : dg B30 v i * f + mc B30 v f i < 2 ^ 63 := by
        have : dg B30 v i * f ≤ 1073741823 * f := Nat.mul_le_mul_right f (by unfold B30 at d1 ⊢; omega)
        omega
      show ∃ y', F_X1_multiply_17 (g + 1) o (lN f) (lN (mc B30 v f i)) (nI i) y = F_X1_multiply_17 g o (lN f) (lN (mc B30 v f (i + 1))) (nI (i + 1)) y' ∧ _
      rw [F_X1_multiply_17]
      unfold pg_let
      dsimp only
      rw [o_gI Ly.kd ho, ei, Option.bind_some, if_pos (nI_lt hi (by omega)), if_pos (show nI i < (330 : Int32) from nI_lt (b := 330) (by omega) (by decide)), o_gR Ly.kd Ly.rd ho, Option.bind_some, o_aL Ly.kd ho (by omega), Option.bind_some, Option.bind_some, y2 i (Nat.le_refl i), s3 i hi, lN_mul, lN_add, lx_mask, o_sL Ly.kd ho (by omega), Option.bind_some, lx_shr30 db, nI_1]
      rw [show (dg B30 v i * f + mc B30 v f i) % 1073741824 = dg B30 (v * f) i from mc_dg B30_pos v f i, show (dg B30 v i * f + mc B30 v f i) / 1073741824 = mc B30 v f (i + 1) from mc_next B30_pos v f i]
      refine ⟨_, rfl, cy.asl (Or.inl (List.mem_singleton.mpr rfl)), fun j hj => ?_, fun j hj => ?_⟩
      · rw [sl_row']
        by_cases e : j = i
        · rw [if_pos e, e]
        · rw [if_neg e]
          exact y1 j (by omega)
      · rw [sl_row', if_neg (by omega)]
        exact y2 j (by omega)
    · intro g y ⟨cy, y1, y2⟩
      have cy' : Ch [o + 1] [(o, 1)] h y := Mod.mono cy (fun r k z => z.imp id (fun q => by cases q))
      have Ly := o_lay ho L cy'
      have ei : pg_i y o 1 = nI s := by
        rw [← s2]
        refine (cy.2.2.2.2 o 1 (fun z => ?_)).1
        rcases z with z | z
        · have := List.mem_singleton.mp z
          omega
        · cases z
      show ∃ h', F_X1_multiply_17 (g + 1) o (lN f) (lN (mc B30 v f s)) (nI s) y = some h' ∧ _
      rw [F_X1_multiply_17]
      dsimp only
      rw [o_gI Ly.kd ho, ei, Option.bind_some, if_neg Int32.lt_irrefl]
      unfold F_X1_multiply_72
      have em : mc B30 v f s = v * f / B30 ^ s := by
        unfold mc
        rw [Nat.mod_eq_of_lt s4]
      rw [em]
      refine c_append ho L hf s4 hv s1 ?_ cy' ei y1
      rcases s5 with s5 | s5
      · exact Or.inl s5
      · exact Or.inr (Nat.le_trans s5 (Nat.le_mul_of_pos_right v f0))
  exact key _ (by rw [mc_0]; rfl)
theorem c_mul0 (ho : isO o) (L : Lay h) : ∃ h', F_X1_multiply o (lN 0) h = some h' ∧ Ch [o + 1] [(o, 1)] h h' ∧ BigV h' o 0 := by
  refine ⟨pg_si h o 1 0, ?_, (Ch.refl _ _ _).asi (Or.inr (List.mem_singleton.mpr rfl)), 0, by decide, ?_, fun j hj => absurd hj (Nat.not_lt_zero j), by decide, Or.inl rfl⟩
  · unfold F_X1_multiply
    rw [if_neg (show ¬ (0 : Int64) < lN 0 by decide), o_pI L.kd ho]
    rfl
  · rw [si_row, up1_eq]
    rfl
theorem c_mulA (ho : isO o) (L : Lay h) {v f : Nat} (V : BigV h o v) (hf : f < 2 ^ 31) (hv : v * f < B30 ^ 330) : ∃ h', F_X1_multiply o (lN f) h = some h' ∧ Ch [o + 1] [(o, 1)] h h' ∧ BigV h' o (v * f) := by
  by_cases z : f = 0
  · rw [z, Nat.mul_zero]
    exact c_mul0 ho L
  · exact c_mul ho L V (by omega) hf hv
theorem c_mulOften (ho : isO o) (L : Lay h) {v f m : Nat} (V : BigV h o v) (f0 : 0 < f) (hf : f < 1000) (hm : m < 2 ^ 20) (hv : v * f ^ m < B30 ^ 330) : ∃ h', F_X1_multiplyOften o (nI f) (nI m) h = some h' ∧ Ch [o + 1] [(o, 1)] h h' ∧ BigV h' o (v * f ^ m) := by
  unfold F_X1_multiplyOften
  refine loopI (fun g k (y : Nat × Nat × pg_H) => F_X1_multiplyOften_5 g o (nI f) (nI m) (lN y.2.1) (nI k) y.2.2) m (fun k y => Ch [o + 1] [(o, 1)] h y.2.2 ∧ BigV y.2.2 o y.1 ∧ 0 < y.2.1 ∧ y.2.1 < 2 ^ 31 ∧ y.1 * y.2.1 = v * f ^ k) (fun out => ∃ h', out = some h' ∧ Ch [o + 1] [(o, 1)] h h' ∧ BigV h' o (v * f ^ m)) ?_ ?_ 0 (v, 1, h) (Nat.zero_le _) ⟨Ch.refl _ _ _, V, Nat.one_pos, (show (1 : Nat) < 2 ^ 31 by decide), by rw [Nat.pow_zero]⟩ pg_fuel (by unfold pg_fuel; omega)
  · rintro g k ⟨u, b, y⟩ hk ⟨cy, Vy, b0, b1, eb⟩
    dsimp only at cy Vy b0 b1 eb
    have Ly := o_lay ho L cy
    have nx : v * f ^ (k + 1) = u * (b * f) := by rw [Nat.pow_succ, ← Nat.mul_assoc, ← eb, Nat.mul_assoc]
    have f29 : ∀ c z, F_X1_multiplyOften_29 (F_X1_multiplyOften_5 g) o (nI f) (nI m) (lN c) (nI k) z = F_X1_multiplyOften_5 g o (nI f) (nI m) (lN (c * f)) (nI (k + 1)) z := fun c z => by
      unfold F_X1_multiplyOften_29 pg_let
      rw [nI_l (by omega), lN_mul, nI_1]
    show ∃ y' : Nat × Nat × pg_H, F_X1_multiplyOften_5 (g + 1) o (nI f) (nI m) (lN b) (nI k) y = F_X1_multiplyOften_5 g o (nI f) (nI m) (lN y'.2.1) (nI (k + 1)) y'.2.2 ∧ _
    rw [F_X1_multiplyOften_5]
    dsimp only
    rw [if_pos (nI_lt hk (by omega)), nI_l (by omega), lN_mul]
    have bf : b * f < 2 ^ 63 := by
      have : b * f ≤ 2 ^ 31 * 1000 := Nat.mul_le_mul (by omega) (by omega)
      omega
    have c7 : (2147483647 : Int64) < lN (b * f) ↔ 2147483647 < b * f := pk_lLT (a := 2147483647) (by decide) bf
    by_cases z : 2147483647 < b * f
    · have ub : u * b < B30 ^ 330 := by
        rw [eb]
        refine Nat.lt_of_le_of_lt (Nat.mul_le_mul_left v (Nat.pow_le_pow_right f0 (by omega))) hv
      obtain ⟨y', q1, q2, q3⟩ := c_mul ho Ly Vy b0 b1 ub
      rw [if_pos (c7.mpr z), o_rc Ly.kd ho, q1, Option.bind_some, show (1 : Int64) = lN 1 from rfl, f29]
      refine ⟨(u * b, 1 * f, y'), rfl, cy.trans q2, q3, (show 0 < 1 * f by omega), (show 1 * f < 2 ^ 31 by omega), ?_⟩
      show u * b * (1 * f) = _
      rw [nx, Nat.one_mul, Nat.mul_assoc]
    · rw [if_neg (fun q => z (c7.mp q)), f29]
      exact ⟨(u, b * f, y), rfl, cy, Vy, Nat.mul_pos b0 f0, by show b * f < 2 ^ 31; omega, nx.symm⟩
  · rintro g ⟨u, b, y⟩ ⟨cy, Vy, b0, b1, eb⟩
    dsimp only at cy Vy b0 b1 eb
    have Ly := o_lay ho L cy
    obtain ⟨y', q1, q2, q3⟩ := c_mul ho Ly Vy b0 b1 (by rw [eb]; exact hv)
    refine ⟨y', ?_, cy.trans q2, by rw [← eb]; exact q3⟩
    show F_X1_multiplyOften_5 (g + 1) o (nI f) (nI m) (lN b) (nI m) y = _
    rw [F_X1_multiplyOften_5]
    dsimp only
    rw [if_neg Int32.lt_irrefl, o_rc Ly.kd ho, q1]
    rfl
theorem c_become0 (ho : isO o) (L : Lay h) : ∃ h', F_X1_become o 0 h = some h' ∧ Ch [o + 1] [(o, 1)] h h' ∧ BigV h' o 0 := by
  refine ⟨pg_si h o 1 0, ?_, (Ch.refl _ _ _).asi (Or.inr (List.mem_singleton.mpr rfl)), 0, by decide, ?_, fun j hj => absurd hj (Nat.not_lt_zero j), by decide, Or.inl rfl⟩
  · unfold F_X1_become
    rw [o_pI L.kd ho, Option.bind_some, if_neg (by decide)]
  · rw [si_row, up1_eq]
    rfl
theorem c_become1 (ho : isO o) (L : Lay h) : ∃ h', F_X1_become o 1 h = some h' ∧ Ch [o + 1] [(o, 1)] h h' ∧ BigV h' o 1 := by
  have c1 : Ch [o + 1] [(o, 1)] h (pg_si h o 1 0) := (Ch.refl _ _ _).asi (Or.inr (List.mem_singleton.mpr rfl))
  have c2 : Ch [o + 1] [(o, 1)] h (pg_sl (pg_si h o 1 0) (o + 1) 0 1) := c1.asl (Or.inl (List.mem_singleton.mpr rfl))
  have c3 : Ch [o + 1] [(o, 1)] h (pg_sl (pg_sl (pg_si h o 1 0) (o + 1) 0 1) (o + 1) 1 0) := c2.asl (Or.inl (List.mem_singleton.mpr rfl))
  have L1 := o_lay ho L c1
  have L2 := o_lay ho L c2
  have L3 := o_lay ho L c3
  refine ⟨pg_si (pg_sl (pg_sl (pg_si h o 1 0) (o + 1) 0 1) (o + 1) 1 0) o 1 1, ?_, c3.asi (Or.inr (List.mem_singleton.mpr rfl)), 1, by decide, ?_, fun j hj => ?_, by decide, Or.inr (by decide)⟩
  · unfold F_X1_become F_X1_become_49
    have w1 : pg_sL (pg_si h o 1 0) (o + 1) (0 : Int32) 1 = some (pg_sl (pg_si h o 1 0) (o + 1) 0 1) := o_sL (j := 0) L1.kd ho (by decide) 1
    have w2 : pg_sL (pg_sl (pg_si h o 1 0) (o + 1) 0 1) (o + 1) (1 : Int32) 0 = some (pg_sl (pg_sl (pg_si h o 1 0) (o + 1) 0 1) (o + 1) 1 0) := o_sL (j := 1) L2.kd ho (by decide) 0
    have w3 : pg_aL (pg_sl (pg_sl (pg_si h o 1 0) (o + 1) 0 1) (o + 1) 1 0) (o + 1) (1 : Int32) = some (pg_l (pg_sl (pg_sl (pg_si h o 1 0) (o + 1) 0 1) (o + 1) 1 0) (o + 1) 1) := o_aL (j := 1) L3.kd ho (by decide)
    rw [o_pI L.kd ho, Option.bind_some, if_pos (show (0 : Int32) < 1 by decide), o_gR L1.kd L1.rd ho, Option.bind_some, show ((1 : Int32).toInt64 &&& (1073741823 : Int64)) = 1 from by decide, w1, Option.bind_some, o_gR L2.kd L2.rd ho, Option.bind_some, show ((1 : Int32) >>> ((30 : Int32) &&& 31)).toInt64 = 0 from by decide, w2, Option.bind_some, o_gR L3.kd L3.rd ho, Option.bind_some, w3, Option.bind_some, sl_row, up1_eq, if_neg (show ¬ (0 : Int64) < 0 by decide), o_pI L3.kd ho]
    rfl
  · rw [si_row, up1_eq]
    rfl
  · have e : j = 0 := by omega
    subst e
    rw [l_si, sl_row, up1_ne (by decide), sl_row, up1_eq]
    rfl
theorem big_zero (ho : isO o) (L : Lay h) {v : Nat} (V : BigV h o v) : F_X1_isZero h o = some (b01 (decide (v = 0))) := by
  obtain ⟨s, s1, s2, s3, s4, s5⟩ := V
  unfold F_X1_isZero
  rw [o_gI L.kd ho, Option.bind_some, s2]
  by_cases z : s = 0
  · subst z
    have : v = 0 := by
      rw [Nat.pow_zero] at s4
      omega
    rw [if_pos (show nI 0 = (0 : Int32) from rfl), decide_eq_true this]
    rfl
  · have p : 0 < B30 ^ (s - 1) := Nat.pow_pos B30_pos
    have : ¬ v = 0 := by
      rcases s5 with q | q <;> omega
    rw [if_neg (show ¬ nI s = (0 : Int32) from fun q => z ((nI_eq (b := 0) (by omega) (by decide)).mp q)), decide_eq_false this]
    rfl
theorem nI_down (k : Nat) : nI (k + 1) - 1 = nI k := by rw [← nI_1, Int32.add_sub_cancel]
theorem nI_down2 (k : Nat) : nI k + (-1 : Int32) = nI k - 1 := by rw [Int32.sub_eq_add_neg]
theorem more_run {o2 : Nat} (ho : isO o) (ho2 : isO o2) (L : Lay h) {v w s : Nat} (hs : s ≤ 330) (hv : ∀ j, j < s → pg_l h (o + 1) j = lN (dg B30 v j)) (hw : ∀ j, j < s → pg_l h (o2 + 1) j = lN (dg B30 w j)) :
    ∀ k f, k ≤ s → k < f → v / B30 ^ k = w / B30 ^ k → F_X1_isMoreThan_41 h f o o2 (nI k - 1) = some (b01 (decide (w < v))) := by
  intro k
  induction k with
  | zero =>
    intro f _ hf e
    obtain ⟨g, rfl⟩ : ∃ g, f = g + 1 := ⟨f - 1, by omega⟩
    rw [Nat.pow_zero, Nat.div_one, Nat.div_one] at e
    rw [F_X1_isMoreThan_41]
    dsimp only
    rw [if_pos (show nI 0 - 1 < (0 : Int32) by decide), decide_eq_false (by omega)]
    rfl
  | succ k ih =>
    intro f hk hf e
    obtain ⟨g, rfl⟩ : ∃ g, f = g + 1 := ⟨f - 1, by omega⟩
    have a1 := dg_lt B30_pos v k
    have a2 := dg_lt B30_pos w k
    have p1 : dg B30 v k < 2 ^ 63 := Nat.lt_trans a1 (by decide)
    have p2 : dg B30 w k < 2 ^ 63 := Nat.lt_trans a2 (by decide)
    rw [nI_down, F_X1_isMoreThan_41]
    dsimp only
    rw [if_neg (show ¬ nI k < (0 : Int32) from nI_nlt (b := 0) (by omega) (by omega)), o_gR L.kd L.rd ho, Option.bind_some, o_aL L.kd ho (by omega), Option.bind_some, o_gR L.kd L.rd ho2, Option.bind_some, o_aL L.kd ho2 (by omega), Option.bind_some, hv k (by omega), hw k (by omega)]
    by_cases z : dg B30 v k = dg B30 w k
    · rw [if_pos (congrArg lN z), nI_down2]
      exact ih g (by omega) (by omega) (dg_same e z)
    · rw [if_neg (fun q => z ((pk_lEQ p1 p2).mp q)), Option.bind_some, o_aL L.kd ho (by omega), Option.bind_some, Option.bind_some, o_aL L.kd ho2 (by omega), Option.bind_some, hv k (by omega), hw k (by omega)]
      by_cases l : dg B30 w k < dg B30 v k
      · rw [if_pos ((pk_lLT p2 p1).mpr l), decide_eq_true (dg_less e.symm l)]
        rfl
      · have := dg_less (B := B30) e (show dg B30 v k < dg B30 w k by omega)
        rw [if_neg (fun q => l ((pk_lLT p2 p1).mp q)), decide_eq_false (by omega)]
        rfl
theorem big_more {o2 : Nat} (ho : isO o) (ho2 : isO o2) (L : Lay h) {v w : Nat} (V : BigV h o v) (W : BigV h o2 w) : F_X1_isMoreThan h o o2 = some (b01 (decide (w < v))) := by
  obtain ⟨s, s1, s2, s3, s4, s5⟩ := V
  obtain ⟨t, t1, t2, t3, t4, t5⟩ := W
  unfold F_X1_isMoreThan pg_let
  rw [o_gI L.kd ho, Option.bind_some, o_gI L.kd ho2, Option.bind_some, s2, t2]
  by_cases e : s = t
  · subst e
    rw [if_pos rfl, Option.bind_some]
    dsimp only
    rw [if_neg (show ¬ (330 : Int32) < nI s from nI_nlt (a := 330) s1 (by decide))]
    exact more_run ho ho2 L s1 s3 t3 s pg_fuel (Nat.le_refl _) (by unfold pg_fuel; omega) (by rw [Nat.div_eq_of_lt s4, Nat.div_eq_of_lt t4])
  · rw [if_neg (fun q => e ((nI_eq (by omega) (by omega)).mp q)), Option.bind_some, Option.bind_some]
    by_cases l : t < s
    · have a1 : B30 ^ t ≤ B30 ^ (s - 1) := Nat.pow_le_pow_right B30_pos (by omega)
      have : w < v := by
        rcases s5 with q | q <;> omega
      rw [if_pos (nI_lt l (by omega)), decide_eq_true this]
      rfl
    · have a1 : B30 ^ s ≤ B30 ^ (t - 1) := Nat.pow_le_pow_right B30_pos (by omega)
      have : ¬ w < v := by
        rcases t5 with q | q <;> omega
      rw [if_neg (nI_nlt (by omega) (by omega)), decide_eq_false this]
      rfl
end BIG
