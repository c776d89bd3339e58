/-! THE REFERENCE'S LARGE NUMBERS: 380 digits to the base 100000000; the class's sums, quotient -/
def B8 : Nat := 100000000
theorem B8_pos : 0 < B8 := by decide
def RV (h : pg_H) (r v : Nat) : Prop := v < B8 ^ 380 ∧ ∀ j, j < 380 → pg_l h r j = lN (dg B8 v j)
def isR (r : Nat) : Prop := r = 100 ∨ r = 101 ∨ r = 102 ∨ r = 105
section RBIG
variable {h : pg_H} {r : Nat}
theorem r_aL (D : KD (pg_k h)) (hr : isR r) {j : Nat} (hj : j < 380) : pg_aL h r (nI j) = some (pg_l h r j) := by
  rcases hr with rfl | rfl | rfl | rfl
  · exact N_aL (n := 380) D (by decide) (by decide) (by decide) hj
  · exact N_aL (n := 380) D (by decide) (by decide) (by decide) hj
  · exact N_aL (n := 380) D (by decide) (by decide) (by decide) hj
  · exact N_aL (n := 380) D (by decide) (by decide) (by decide) hj
theorem r_sL (D : KD (pg_k h)) (hr : isR r) {j : Nat} (hj : j < 380) (x : Int64) : pg_sL h r (nI j) x = some (pg_sl h r j x) := by
  rcases hr with rfl | rfl | rfl | rfl
  · exact N_sL (n := 380) D (by decide) (by decide) (by decide) hj
  · exact N_sL (n := 380) D (by decide) (by decide) (by decide) hj
  · exact N_sL (n := 380) D (by decide) (by decide) (by decide) hj
  · exact N_sL (n := 380) D (by decide) (by decide) (by decide) hj
theorem r_lay {x : pg_H} (hr : isR r) (L : Lay h) (c : Ch [r] [] h x) : Lay x := by
  rcases hr with rfl | rfl | rfl | rfl
  · exact c.lay L (by decide)
  · exact c.lay L (by decide)
  · exact c.lay L (by decide)
  · exact c.lay L (by decide)
theorem m_be (hr : isR r) (L : Lay h) {v : Nat} (hv : v < B8) : ∃ h', F_X12_be r (lN v) h = some h' ∧ Ch [r] [] h h' ∧ RV h' r v := by
  unfold F_X12_be
  refine loopI (fun f i y => F_X12_be_2 f r (lN v) (nI i) y) 380 (fun i y => Ch [r] [] h y ∧ ∀ j, j < i → pg_l y r j = lN (dg B8 v j)) (fun o => ∃ h', o = some h' ∧ Ch [r] [] h h' ∧ RV h' r v) ?_ ?_ 0 h (Nat.zero_le _) ⟨Ch.refl _ _ _, fun j hj => absurd hj (Nat.not_lt_zero j)⟩ pg_fuel (by unfold pg_fuel; omega)
  · intro f i y hi ⟨cy, ry⟩
    have Ly := r_lay hr L cy
    have f20 : ∀ u, F_X12_be_20 (F_X12_be_2 f) r (lN v) (nI i) u (nI i) r y = F_X12_be_2 f r (lN v) (nI (i + 1)) (pg_sl y r i u) := fun u => by
      unfold F_X12_be_20
      rw [r_sL Ly.kd hr hi, Option.bind_some, nI_1]
    refine ⟨pg_sl y r i (lN (dg B8 v i)), ?_, cy.asl (Or.inl (List.mem_singleton.mpr rfl)), fun j hj => ?_⟩
    · show F_X12_be_2 (f + 1) r (lN v) (nI i) y = _
      rw [F_X12_be_2]
      dsimp only
      rw [if_pos (show nI i < (380 : Int32) from nI_lt (b := 380) hi (by decide)), f20, f20]
      by_cases z : i = 0
      · subst z
        rw [if_pos (show nI 0 = (0 : Int32) from rfl)]
        have : dg B8 v 0 = v := by
          unfold dg
          rw [Nat.pow_zero, Nat.div_one, Nat.mod_eq_of_lt hv]
        rw [this]
      · rw [if_neg (show ¬ nI i = (0 : Int32) from fun q => z ((nI_eq (b := 0) (by omega) (by decide)).mp q)), dg_over B8_pos (s := 1) (by rw [Nat.pow_one]; exact hv) (by omega)]
        rfl
    · rw [sl_row']
      by_cases e : j = i
      · rw [if_pos e, e]
      · rw [if_neg e]
        exact ry j (by omega)
  · intro f y ⟨cy, ry⟩
    refine ⟨y, ?_, cy, Nat.lt_trans hv (by decide +kernel), ry⟩
    show F_X12_be_2 (f + 1) r (lN v) (nI 380) y = _
    rw [F_X12_be_2]
    dsimp only
    rw [if_neg (show ¬ nI 380 < (380 : Int32) by decide)]
theorem lx_b8 {a : Nat} (h : a < 2 ^ 63) : lN a - lN a / (100000000 : Int64) * (100000000 : Int64) = lN (a % B8) ∧ lN a / (100000000 : Int64) = lN (a / B8) :=
  ⟨pk_lRem (b := 100000000) h (by decide) (by decide), pk_lDiv (b := 100000000) h (by decide) (by decide)⟩
theorem m_pass1 (hr : isR r) (L : Lay h) {v f : Nat} (V : RV h r v) (hf : f < 2 ^ 30) (hv : v * f < B8 ^ 380) (m : Int32) (t : Int32) (k : Nat → Int32 → Int32 → Int32 → pg_H → Option pg_H) : ∃ h', F_X12_makes_13 k pg_fuel r (nI f) m t 0 0 h = k r (nI f) m (t + 1) h' ∧ Ch [r] [] h h' ∧ RV h' r (v * f) := by
  have key : ∀ C, C = lN (mc B8 v f 0) → ∃ h', F_X12_makes_13 k pg_fuel r (nI f) m t C 0 h = k r (nI f) m (t + 1) h' ∧ Ch [r] [] h h' ∧ RV h' r (v * f) := by
    rintro C rfl
    refine loopI (fun g i y => F_X12_makes_13 k g r (nI f) m t (lN (mc B8 v f i)) (nI i) y) 380 (fun i y => Ch [r] [] h y ∧ (∀ j, j < i → pg_l y r j = lN (dg B8 (v * f) j)) ∧ ∀ j, i ≤ j → pg_l y r j = pg_l h r j) (fun o => ∃ h', o = k r (nI f) m (t + 1) h' ∧ Ch [r] [] h h' ∧ RV h' r (v * f)) ?_ ?_ 0 h (Nat.zero_le _) ⟨Ch.refl _ _ _, fun j hj => absurd hj (Nat.not_lt_zero j), fun _ _ => rfl⟩ pg_fuel (by unfold pg_fuel; omega)
    · intro g i y hi ⟨cy, y1, y2⟩
      have Ly := r_lay hr L cy
      have d1 := dg_lt B8_pos v i
      have d2 := mc_le B8_pos v f i
      have db : dg B8 v i * f + mc B8 v f i < 2 ^ 63 := by
        have : dg B8 v i * f ≤ 100000000 * f := Nat.mul_le_mul_right f (by unfold B8 at d1 ⊢; omega)
        omega
      show ∃ y', F_X12_makes_13 k (g + 1) r (nI f) m t (lN (mc B8 v f i)) (nI i) y = F_X12_makes_13 k g r (nI f) m t (lN (mc B8 v f (i + 1))) (nI (i + 1)) y' ∧ _
      rw [F_X12_makes_13]
      unfold pg_let
      dsimp only
      rw [if_pos (show nI i < (380 : Int32) from nI_lt (b := 380) hi (by decide)), r_aL Ly.kd hr hi, Option.bind_some, y2 i (Nat.le_refl i), V.2 i hi, nI_l (by omega), lN_mul, lN_add, if_neg (show ¬ (100000000 : Int64) = 0 by decide), (lx_b8 db).1, (lx_b8 db).2, r_sL Ly.kd hr hi, Option.bind_some, if_neg (show ¬ (100000000 : Int64) = 0 by decide), nI_1, mc_dg B8_pos, mc_next B8_pos]
      refine ⟨_, rfl, cy.asl (Or.inl (List.mem_singleton.mpr rfl)), fun j hj => ?_, fun j hj => ?_⟩
      · rw [sl_row']
        by_cases e : j = i
        · rw [if_pos e, e]
        · rw [if_neg e]
          exact y1 j (by omega)
      · rw [sl_row', if_neg (by omega)]
        exact y2 j (by omega)
    · intro g y ⟨cy, y1, y2⟩
      refine ⟨y, ?_, cy, hv, y1⟩
      show F_X12_makes_13 k (g + 1) r (nI f) m t (lN (mc B8 v f 380)) (nI 380) y = _
      rw [F_X12_makes_13]
      dsimp only
      rw [if_neg (show ¬ nI 380 < (380 : Int32) by decide)]
  exact key _ (by rw [mc_0]; rfl)
theorem m_makes (hr : isR r) (L : Lay h) {v f m : Nat} (V : RV h r v) (hf : f < 2 ^ 30) (hm : m < 2 ^ 20) (hv : ∀ k, k ≤ m → v * f ^ k < B8 ^ 380) : ∃ h', F_X12_makes r (nI f) (nI m) h = some h' ∧ Ch [r] [] h h' ∧ RV h' r (v * f ^ m) := by
  unfold F_X12_makes
  refine loopI (fun g i y => F_X12_makes_2 g r (nI f) (nI m) (nI i) y) m (fun i y => Ch [r] [] h y ∧ RV y r (v * f ^ i)) (fun o => ∃ h', o = some h' ∧ Ch [r] [] h h' ∧ RV h' r (v * f ^ m)) ?_ ?_ 0 h (Nat.zero_le _) ⟨Ch.refl _ _ _, by rw [Nat.pow_zero, Nat.mul_one]; exact V⟩ pg_fuel (by unfold pg_fuel; omega)
  · intro g i y hi ⟨cy, Vy⟩
    have Ly := r_lay hr L cy
    have nx : v * f ^ i * f = v * f ^ (i + 1) := by rw [Nat.pow_succ, Nat.mul_assoc]
    obtain ⟨y', q1, q2, q3⟩ := m_pass1 hr Ly Vy hf (by rw [nx]; exact hv _ (by omega)) (nI m) (nI i) (F_X12_makes_2 g)
    rw [nx] at q3
    refine ⟨y', ?_, cy.trans q2, q3⟩
    show F_X12_makes_2 (g + 1) r (nI f) (nI m) (nI i) y = _
    rw [F_X12_makes_2]
    dsimp only
    rw [if_pos (nI_lt hi (by omega)), q1, nI_1]
  · intro g y ⟨cy, Vy⟩
    refine ⟨y, ?_, cy, Vy⟩
    show F_X12_makes_2 (g + 1) r (nI f) (nI m) (nI m) y = _
    rw [F_X12_makes_2]
    dsimp only
    rw [if_neg Int32.lt_irrefl]
theorem m_makes1 (hr : isR r) (L : Lay h) {v f : Nat} (V : RV h r v) (hf : f < 2 ^ 30) (hv : v * f < B8 ^ 380) : ∃ h', F_X12_makes r (nI f) 1 h = some h' ∧ Ch [r] [] h h' ∧ RV h' r (v * f) := by
  have := m_makes (m := 1) hr L V hf (by decide) (fun k hk => by
    have e : k = 0 ∨ k = 1 := by omega
    rcases e with rfl | rfl
    · rw [Nat.pow_zero, Nat.mul_one]
      exact V.1
    · rw [Nat.pow_one]
      exact hv)
  rw [Nat.pow_one] at this
  exact this
theorem m_order {r2 : Nat} (hr : isR r) (hr2 : isR r2) (L : Lay h) {v w : Nat} (V : RV h r v) (W : RV h r2 w) : F_X12_order h r r2 = some (if v = w then 0 else if v < w then -1 else 1) := by
  have run : ∀ k f, k ≤ 380 → k < f → v / B8 ^ k = w / B8 ^ k → F_X12_order_4 h f r r2 (nI k - 1) = some (if v = w then 0 else if v < w then -1 else 1) := by
    intro k
    induction k with
    | zero =>
      intro f _ hf e
      obtain ⟨g, rfl⟩ : ∃ g, f = g + 1 := ⟨f - 1, by omega⟩
      rw [Nat.pow_zero, Nat.div_one, Nat.div_one] at e
      rw [F_X12_order_4]
      dsimp only
      rw [if_pos (show nI 0 - 1 < (0 : Int32) by decide), if_pos e]
    | succ k ih =>
      intro f hk hf e
      obtain ⟨g, rfl⟩ : ∃ g, f = g + 1 := ⟨f - 1, by omega⟩
      have a1 := dg_lt B8_pos v k
      have a2 := dg_lt B8_pos w k
      have p1 : dg B8 v k < 2 ^ 63 := Nat.lt_trans a1 (by decide)
      have p2 : dg B8 w k < 2 ^ 63 := Nat.lt_trans a2 (by decide)
      rw [nI_down, F_X12_order_4]
      dsimp only
      rw [if_neg (show ¬ nI k < (0 : Int32) from nI_nlt (b := 0) (by omega) (by omega)), r_aL L.kd hr (by omega), Option.bind_some, r_aL L.kd hr2 (by omega), Option.bind_some, V.2 k (by omega), W.2 k (by omega)]
      by_cases z : dg B8 v k = dg B8 w k
      · rw [if_pos (congrArg lN z), nI_down2]
        exact ih g (by omega) (by omega) (dg_same e z)
      · rw [if_neg (fun q => z ((pk_lEQ p1 p2).mp q)), Option.bind_some, Option.bind_some]
        by_cases l : dg B8 v k < dg B8 w k
        · have := dg_less e l
          rw [if_pos ((pk_lLT p1 p2).mpr l), if_neg (by omega), if_pos this]
        · have := dg_less (B := B8) e.symm (show dg B8 w k < dg B8 v k by omega)
          rw [if_neg (fun q => l ((pk_lLT p1 p2).mp q)), if_neg (by omega), if_neg (by omega)]
  exact run 380 pg_fuel (Nat.le_refl _) (by unfold pg_fuel; omega) (by rw [Nat.div_eq_of_lt V.1, Nat.div_eq_of_lt W.1])
theorem m_adds {r2 : Nat} (hr : isR r) (hr2 : isR r2) (ne : r2 ≠ r) (L : Lay h) {v w : Nat} (V : RV h r v) (W : RV h r2 w) (hv : v + w < B8 ^ 380) : ∃ h', F_X12_adds r r2 h = some h' ∧ Ch [r] [] h h' ∧ RV h' r (v + w) := by
  unfold F_X12_adds
  have key : ∀ C, C = lN (ac B8 v w 0) → ∃ h', F_X12_adds_5 pg_fuel r r2 C 0 h = some h' ∧ Ch [r] [] h h' ∧ RV h' r (v + w) := by
    rintro C rfl
    refine loopI (fun g i y => F_X12_adds_5 g r r2 (lN (ac B8 v w i)) (nI i) y) 380 (fun i y => Ch [r] [] h y ∧ (∀ j, j < i → pg_l y r j = lN (dg B8 (v + w) j)) ∧ ∀ j, i ≤ j → pg_l y r j = pg_l h r j) (fun o => ∃ h', o = some h' ∧ Ch [r] [] h h' ∧ RV h' r (v + w)) ?_ ?_ 0 h (Nat.zero_le _) ⟨Ch.refl _ _ _, fun j hj => absurd hj (Nat.not_lt_zero j), fun _ _ => rfl⟩ pg_fuel (by unfold pg_fuel; omega)
    · intro g i y hi ⟨cy, y1, y2⟩
      have Ly := r_lay hr L cy
      have d1 := dg_lt B8_pos v i
      have d2 := dg_lt B8_pos w i
      have d3 := ac_le B8_pos v w i
      have db : dg B8 v i + dg B8 w i + ac B8 v w i < 2 ^ 63 := by
        have e8 : B8 = 100000000 := rfl
        omega
      have ew : pg_l y r2 i = pg_l h r2 i := (cy.2.2.2.2 r2 i (fun z => by
        rcases z with z | z
        · exact ne (List.mem_singleton.mp z)
        · cases z)).2
      show ∃ y', F_X12_adds_5 (g + 1) r r2 (lN (ac B8 v w i)) (nI i) y = F_X12_adds_5 g r r2 (lN (ac B8 v w (i + 1))) (nI (i + 1)) y' ∧ _
      rw [F_X12_adds_5]
      unfold pg_let
      dsimp only
      rw [if_pos (show nI i < (380 : Int32) from nI_lt (b := 380) hi (by decide)), r_aL Ly.kd hr hi, Option.bind_some, r_aL Ly.kd hr2 hi, Option.bind_some, y2 i (Nat.le_refl i), V.2 i hi, ew, W.2 i hi, lN_add, lN_add, if_neg (show ¬ (100000000 : Int64) = 0 by decide), (lx_b8 db).1, (lx_b8 db).2, r_sL Ly.kd hr hi, Option.bind_some, if_neg (show ¬ (100000000 : Int64) = 0 by decide), nI_1, ac_dg B8_pos, ac_next B8_pos]
      refine ⟨_, rfl, cy.asl (Or.inl (List.mem_singleton.mpr rfl)), fun j hj => ?_, fun j hj => ?_⟩
      · rw [sl_row']
        by_cases e : j = i
        · rw [if_pos e, e]
        · rw [if_neg e]
          exact y1 j (by omega)
      · rw [sl_row', if_neg (by omega)]
        exact y2 j (by omega)
    · intro g y ⟨cy, y1, y2⟩
      refine ⟨y, ?_, cy, hv, y1⟩
      show F_X12_adds_5 (g + 1) r r2 (lN (ac B8 v w 380)) (nI 380) y = _
      rw [F_X12_adds_5]
      dsimp only
      rw [if_neg (show ¬ nI 380 < (380 : Int32) by decide)]
  exact key _ (by rw [ac_0]; rfl)
end RBIG
theorem RV.ch {S : List Nat} {T : List (Nat × Nat)} {h h' : pg_H} {r v : Nat} (V : RV h r v) (a : Ch S T h h') (q : dis S T [r] []) : RV h' r v := ⟨V.1, fun j hj => by
  rw [a.rowl q]
  exact V.2 j hj⟩
theorem BigV.ch {S : List Nat} {T : List (Nat × Nat)} {h h' : pg_H} {o v : Nat} (V : BigV h o v) (a : Ch S T h h') (q : dis S T [o + 1] [(o, 1)]) : BigV h' o v := by
  obtain ⟨s, s1, s2, s3, s4⟩ := V
  refine ⟨s, s1, ?_, fun j hj => ?_, s4⟩
  · rw [a.atM q (List.mem_singleton.mpr rfl)]
    exact s2
  · rw [(a.rowM q (List.mem_singleton.mpr rfl)).2]
    exact s3 j hj
/-- top through bottom, cut, a million at most -/
def quo (t b : Nat) : Nat := min 1000000 (t / b)
theorem quo_half {t b lo hi mid : Nat} (h1 : mid = (lo + hi + 1) / 2) (h2 : lo < hi) (hh : hi ≤ 1000000) (q : lo ≤ t / b ∧ (hi = 1000000 ∨ t / b ≤ hi)) (b0 : 0 < b) :
    (lo < mid ∧ mid ≤ hi ∧ (hi - mid) * 2 ≤ hi - lo ∧ (mid - 1 - lo) * 2 ≤ hi - lo) ∧ (t < b * mid → lo ≤ t / b ∧ (mid - 1 = 1000000 ∨ t / b ≤ mid - 1)) ∧ (¬ t < b * mid → mid ≤ t / b ∧ (hi = 1000000 ∨ t / b ≤ hi)) := by
  refine ⟨by omega, fun z => ⟨q.1, Or.inr ?_⟩, fun z => ⟨?_, q.2⟩⟩
  · have : t / b < mid := Nat.div_lt_of_lt_mul z
    omega
  · exact (Nat.le_div_iff_mul_le b0).mpr (by rw [Nat.mul_comm]; omega)
theorem m_quotient {h : pg_H} (L : Lay h) {t b : Nat} (T : RV h 100 t) (Bo : RV h 101 b) (b0 : 0 < b) (hb : b * 1000000 < B8 ^ 380) : ∃ h', F_X12_quotient 81 h = some (nI (quo t b), h') ∧ Ch [102] [] h h' := by
  unfold F_X12_quotient
  refine loopE (fun f i (y : Nat × Nat × pg_H) => F_X12_quotient_5 f 81 (nI y.1) (nI y.2.1) y.2.2) 20 (fun i y => Ch [102] [] h y.2.2 ∧ y.1 ≤ y.2.1 ∧ y.2.1 ≤ 1000000 ∧ (y.2.1 - y.1) * 2 ^ i ≤ 1000000 ∧ y.1 ≤ t / b ∧ (y.2.1 = 1000000 ∨ t / b ≤ y.2.1)) (fun o => ∃ h', o = some (nI (quo t b), h') ∧ Ch [102] [] h h') ?_ ?_ 0 (0, 1000000, h) (Nat.zero_le _) ⟨Ch.refl _ _ _, Nat.zero_le _, Nat.le_refl _, (show (1000000 - 0) * 2 ^ 0 ≤ 1000000 by decide), Nat.zero_le _, Or.inl rfl⟩ pg_fuel (by unfold pg_fuel; omega)
  · rintro f i ⟨lo, hi, y⟩ hi20 ⟨cy, le, h6, p, q⟩
    dsimp only at cy le h6 p q
    have Ly := cy.lay L (by decide)
    show (∃ y' : Nat × Nat × pg_H, F_X12_quotient_5 (f + 1) 81 (nI lo) (nI hi) y = F_X12_quotient_5 f 81 (nI y'.1) (nI y'.2.1) y'.2.2 ∧ _) ∨ (∃ h', F_X12_quotient_5 (f + 1) 81 (nI lo) (nI hi) y = some (nI (quo t b), h') ∧ _)
    rw [F_X12_quotient_5]
    unfold pg_let
    dsimp only
    by_cases lt : lo < hi
    · left
      obtain ⟨⟨g1, g2, g3, g4⟩, g5, g6⟩ := quo_half (mid := (lo + hi + 1) / 2) rfl lt h6 q b0
      have em : (nI lo + nI hi + 1) / (2 : Int32) = nI ((lo + hi + 1) / 2) := by
        rw [nI_add, nI_1]
        exact nI_div (b := 2) (by omega) (by decide)
      rw [if_pos (nI_lt lt (by omega)), if_neg (show ¬ (2 : Int32) = 0 by decide), em]
      generalize (lo + hi + 1) / 2 = mid at *
      have cpy : ∃ y1, F_X12_quotient_21 (F_X12_quotient_5 f) pg_fuel 81 (nI lo) (nI hi) (nI mid) 0 y = (Option.bind (F_X12_makes 102 (nI mid) (1 : Int32) y1) fun v2 => Option.bind (pg_gR 12 36 v2 81) fun v3 => Option.bind (pg_gR 12 34 v2 81) fun v4 => Option.bind (F_X12_order v2 v3 v4) fun v5 => (if 0 < v5 then pg_let (nI mid - (1 : Int32)) fun v6 => (F_X12_quotient_81 (F_X12_quotient_5 f) 81 (nI lo) v6 v2) else (F_X12_quotient_81 (F_X12_quotient_5 f) 81 (nI mid) (nI hi) v2))) ∧ Ch [102] [] h y1 ∧ ∀ j, j < 380 → pg_l y1 102 j = pg_l h 101 j := by
        refine loopI (fun f2 j z => F_X12_quotient_21 (F_X12_quotient_5 f) f2 81 (nI lo) (nI hi) (nI mid) (nI j) z) 380 (fun j z => Ch [102] [] h z ∧ ∀ k, k < j → pg_l z 102 k = pg_l h 101 k) (fun o => ∃ y1, o = (Option.bind (F_X12_makes 102 (nI mid) (1 : Int32) y1) fun v2 => Option.bind (pg_gR 12 36 v2 81) fun v3 => Option.bind (pg_gR 12 34 v2 81) fun v4 => Option.bind (F_X12_order v2 v3 v4) fun v5 => (if 0 < v5 then pg_let (nI mid - (1 : Int32)) fun v6 => (F_X12_quotient_81 (F_X12_quotient_5 f) 81 (nI lo) v6 v2) else (F_X12_quotient_81 (F_X12_quotient_5 f) 81 (nI mid) (nI hi) v2))) ∧ Ch [102] [] h y1 ∧ ∀ j, j < 380 → pg_l y1 102 j = pg_l h 101 j) ?_ ?_ 0 y (Nat.zero_le _) ⟨cy, fun k hk => absurd hk (Nat.not_lt_zero k)⟩ pg_fuel (by unfold pg_fuel; omega)
        · intro f2 j z hj ⟨cz, rz⟩
          have Lz := cz.lay L (by decide)
          refine ⟨pg_sl z 102 j (pg_l h 101 j), ?_, cz.asl (Or.inl (by decide)), fun k hk => ?_⟩
          · show F_X12_quotient_21 (F_X12_quotient_5 f) (f2 + 1) 81 (nI lo) (nI hi) (nI mid) (nI j) z = _
            rw [F_X12_quotient_21]
            dsimp only
            rw [if_pos (show nI j < (380 : Int32) from nI_lt (b := 380) hj (by decide)), nR_81_36 Lz.kd Lz.rd, Option.bind_some, nR_81_35 Lz.kd Lz.rd, Option.bind_some, r_aL Lz.kd (Or.inr (Or.inl rfl)) hj, Option.bind_some, r_sL Lz.kd (Or.inr (Or.inr (Or.inl rfl))) hj, Option.bind_some, nI_1, cz.rowl (r := 101) (by decide)]
          · rw [sl_row']
            by_cases e : k = j
            · rw [if_pos e, e]
            · rw [if_neg e]
              exact rz k (by omega)
        · intro f2 z ⟨cz, rz⟩
          have Lz := cz.lay L (by decide)
          refine ⟨z, ?_, cz, rz⟩
          show F_X12_quotient_21 (F_X12_quotient_5 f) (f2 + 1) 81 (nI lo) (nI hi) (nI mid) (nI 380) z = _
          rw [F_X12_quotient_21]
          dsimp only
          rw [if_neg (show ¬ nI 380 < (380 : Int32) by decide), nR_81_36 Lz.kd Lz.rd, Option.bind_some]
      obtain ⟨y1, e1, c1, r1⟩ := cpy
      have L1 := c1.lay L (by decide)
      have V1 : RV y1 102 b := ⟨Bo.1, fun j hj => by rw [r1 j hj]; exact Bo.2 j hj⟩
      have bm : b * mid < B8 ^ 380 := Nat.lt_of_le_of_lt (Nat.mul_le_mul_left b (by omega)) hb
      obtain ⟨y2, e2, c2, V2⟩ := m_makes1 (Or.inr (Or.inr (Or.inl rfl))) L1 V1 (f := mid) (by omega) bm
      have L2 := c2.lay L1 (by decide)
      have c12 : Ch [102] [] h y2 := c1.trans c2
      have T2 : RV y2 100 t := T.ch c12 (by decide)
      rw [e1, e2, Option.bind_some, nR_81_36 L2.kd L2.rd, Option.bind_some, nR_81_34 L2.kd L2.rd, Option.bind_some, m_order (Or.inr (Or.inr (Or.inl rfl))) (Or.inl rfl) L2 V2 T2, Option.bind_some]
      unfold F_X12_quotient_81 pg_let
      have pw : 2 ^ (i + 1) = 2 * 2 ^ i := by rw [Nat.pow_succ, Nat.mul_comm]
      by_cases z : t < b * mid
      · rw [if_neg (show ¬ b * mid = t by omega), if_neg (show ¬ b * mid < t by omega), if_pos (by decide)]
        have em1 : nI mid - 1 = nI (mid - 1) := by rw [show mid = mid - 1 + 1 by omega, nI_down, Nat.add_sub_cancel]
        rw [em1]
        refine ⟨(lo, mid - 1, y2), rfl, c12, by show lo ≤ mid - 1; omega, by show mid - 1 ≤ 1000000; omega, ?_, g5 z⟩
        show (mid - 1 - lo) * 2 ^ (i + 1) ≤ 1000000
        rw [pw, ← Nat.mul_assoc]
        exact Nat.le_trans (Nat.mul_le_mul_right _ g4) p
      · have n0 : ¬ (0 : Int32) < (if b * mid = t then 0 else if b * mid < t then -1 else 1) := by
          by_cases z1 : b * mid = t
          · rw [if_pos z1]
            decide
          · rw [if_neg z1, if_pos (by omega)]
            decide
        rw [if_neg n0]
        refine ⟨(mid, hi, y2), rfl, c12, g2, h6, ?_, g6 z⟩
        show (hi - mid) * 2 ^ (i + 1) ≤ 1000000
        rw [pw, ← Nat.mul_assoc]
        exact Nat.le_trans (Nat.mul_le_mul_right _ g3) p
    · right
      rw [if_neg (nI_nlt (by omega) (by omega))]
      have : quo t b = lo := by
        unfold quo
        omega
      rw [this]
      exact ⟨y, rfl, cy⟩
  · rintro f ⟨lo, hi, y⟩ ⟨cy, le, h6, p, q⟩
    dsimp only at cy le h6 p q
    have e : hi - lo = 0 := by
      by_cases z : hi - lo = 0
      · exact z
      · have := Nat.mul_le_mul_right (2 ^ 20) (show 1 ≤ hi - lo by omega)
        omega
    show ∃ h', F_X12_quotient_5 (f + 1) 81 (nI lo) (nI hi) y = some (nI (quo t b), h') ∧ _
    rw [F_X12_quotient_5]
    dsimp only
    rw [if_neg (nI_nlt (by omega) (by omega))]
    have : quo t b = lo := by
      unfold quo
      omega
    rw [this]
    exact ⟨y, rfl, cy⟩
theorem c_takeFrom {h : pg_H} (L : Lay h) {b : Nat} (Bo : BigV h 70 b) : ∃ h', F_X1_takeFrom 72 70 h = some h' ∧ Ch [73] [(72, 1)] h h' ∧ BigV h' 72 b := by
  obtain ⟨s, s1, s2, s3, s4, s5⟩ := Bo
  have c1 : Ch [73] [(72, 1)] h (pg_si h 72 1 (nI s)) := (Ch.refl _ _ _).asi (Or.inr (by decide))
  have L1 := c1.lay L (by decide)
  have k71 : pg_k (pg_si h 72 1 (nI s)) 71 = (22, 330) := (L1.kd 71 (by decide)).trans (by decide)
  have k73 : pg_k (pg_si h 72 1 (nI s)) 73 = (22, 330) := (L1.kd 73 (by decide)).trans (by decide)
  have cp : ∃ h', pg_cpyL (pg_si h 72 1 (nI s)) 71 0 73 0 (nI s) = some h' ∧ Ch [73] [] (pg_si h 72 1 (nI s)) h' ∧ ∀ j, j < s → pg_l h' 73 j = pg_l h 71 j := by
    refine ⟨pg_cpL (pg_si h 72 1 (nI s)) 71 0 73 0 (nI s), ?_, ?_, fun j hj => ?_⟩
    · unfold pg_cpyL
      rw [if_pos]
      rw [k71, k73, nI_clamp (show s < 2 ^ 31 by omega)]
      exact ⟨rfl, rfl, by decide, by decide, nI_pos (by omega), by show 0 + s ≤ 330; omega, by show 0 + s ≤ 330; omega⟩
    · refine ⟨rfl, rfl, rfl, rfl, fun r k z => ⟨rfl, ?_⟩⟩
      show (if r = 73 then _ else pg_l (pg_si h 72 1 (nI s)) r) k = pg_l (pg_si h 72 1 (nI s)) r k
      rw [if_neg (fun e => z (Or.inl (by rw [e]; decide)))]
    · have z0 : (0 : Int32).toNatClampNeg = 0 := by decide
      show (if (73 : Nat) = 73 then va_cpy (pg_l (pg_si h 72 1 (nI s)) 71) (pg_l (pg_si h 72 1 (nI s)) 73) (0 : Int32).toNatClampNeg (0 : Int32).toNatClampNeg (nI s).toNatClampNeg else pg_l (pg_si h 72 1 (nI s)) 73) j = _
      rw [if_pos rfl, nI_clamp (show s < 2 ^ 31 by omega), z0]
      show (if 0 ≤ j ∧ j < 0 + s then pg_l (pg_si h 72 1 (nI s)) 71 (0 + (j - 0)) else pg_l (pg_si h 72 1 (nI s)) 73 j) = _
      rw [if_pos ⟨Nat.zero_le _, by omega⟩, Nat.zero_add, Nat.sub_zero]
      rfl
  obtain ⟨h', p1, p2, p3⟩ := cp
  refine ⟨h', ?_, c1.trans (p2.mono (by decide)), s, s1, ?_, fun j hj => ?_, s4, s5⟩
  · unfold F_X1_takeFrom
    rw [o_gI L.kd (Or.inr (Or.inl rfl)), s2, Option.bind_some, o_pI L.kd (Or.inr (Or.inr rfl)), Option.bind_some, o_gR L1.kd L1.rd (Or.inr (Or.inl rfl)), Option.bind_some, o_gR L1.kd L1.rd (Or.inr (Or.inr rfl)), Option.bind_some, o_gI L1.kd (Or.inr (Or.inr rfl)), Option.bind_some, si_row, up1_eq, if_neg (show ¬ (330 : Int32) < nI s from nI_nlt (a := 330) s1 (by decide)), p1]
    rfl
  · rw [p2.row (by decide), si_row, up1_eq]
  · rw [p3 j hj]
    exact s3 j hj
theorem c_quotient {h : pg_H} (L : Lay h) {t b : Nat} (T : BigV h 68 t) (Bo : BigV h 70 b) (b0 : 0 < b) (hb : b * 1000000 < B30 ^ 330) : ∃ h', F_X2_topThroughBottom 67 h = some (nI (quo t b), h') ∧ Ch [73] [(72, 1)] h h' := by
  unfold F_X2_topThroughBottom
  refine loopE (fun f i (y : Nat × Nat × pg_H) => F_X2_topThroughBottom_7 f 67 (nI y.1) (nI y.2.1) (nI i) y.2.2) 20 (fun i y => Ch [73] [(72, 1)] h y.2.2 ∧ y.1 ≤ y.2.1 ∧ y.2.1 ≤ 1000000 ∧ (y.2.1 - y.1) * 2 ^ i ≤ 1000000 ∧ y.1 ≤ t / b ∧ (y.2.1 = 1000000 ∨ t / b ≤ y.2.1)) (fun o => ∃ h', o = some (nI (quo t b), h') ∧ Ch [73] [(72, 1)] h h') ?_ ?_ 0 (0, 1000000, h) (Nat.zero_le _) ⟨Ch.refl _ _ _, Nat.zero_le _, Nat.le_refl _, (show (1000000 - 0) * 2 ^ 0 ≤ 1000000 by decide), Nat.zero_le _, Or.inl rfl⟩ pg_fuel (by unfold pg_fuel; omega)
  · rintro f i ⟨lo, hi, y⟩ hi20 ⟨cy, le, h6, p, q⟩
    dsimp only at cy le h6 p q
    have Ly := cy.lay L (by decide)
    show (∃ y' : Nat × Nat × pg_H, F_X2_topThroughBottom_7 (f + 1) 67 (nI lo) (nI hi) (nI i) y = F_X2_topThroughBottom_7 f 67 (nI y'.1) (nI y'.2.1) (nI (i + 1)) y'.2.2 ∧ _) ∨ (∃ h', F_X2_topThroughBottom_7 (f + 1) 67 (nI lo) (nI hi) (nI i) y = some (nI (quo t b), h') ∧ _)
    rw [F_X2_topThroughBottom_7]
    unfold pg_let
    dsimp only
    rw [if_pos (show nI i < (32 : Int32) from nI_lt (b := 32) (by omega) (by decide))]
    by_cases lt : lo < hi
    · left
      obtain ⟨⟨g1, g2, g3, g4⟩, g5, g6⟩ := quo_half (mid := (lo + hi + 1) / 2) rfl lt h6 q b0
      have em : (nI lo + nI hi + 1) / (2 : Int32) = nI ((lo + hi + 1) / 2) := by
        rw [nI_add, nI_1]
        exact nI_div (b := 2) (by omega) (by decide)
      rw [if_pos (nI_lt lt (by omega)), if_neg (show ¬ (2 : Int32) = 0 by decide), em]
      generalize (lo + hi + 1) / 2 = mid at *
      obtain ⟨y1, e1, c1, V1⟩ := c_takeFrom Ly (Bo.ch cy (by decide))
      have L1 := c1.lay Ly (by decide)
      have bm : b * mid < B30 ^ 330 := Nat.lt_of_le_of_lt (Nat.mul_le_mul_left b (by omega)) hb
      obtain ⟨y2, e2, c2, V2⟩ := c_mul (Or.inr (Or.inr rfl)) L1 V1 (f := mid) (by omega) (by omega) bm
      have c2' : Ch [73] [(72, 1)] y1 y2 := c2
      have L2 := c2'.lay L1 (by decide)
      have c12 : Ch [73] [(72, 1)] h y2 := (cy.trans c1).trans c2'
      have T2 : BigV y2 68 t := T.ch c12 (by decide)
      rw [nR_67_2 Ly.kd Ly.rd, Option.bind_some, nR_67_1 Ly.kd Ly.rd, Option.bind_some, o_rc Ly.kd (Or.inr (Or.inr rfl)), e1, Option.bind_some, nR_67_2 L1.kd L1.rd, Option.bind_some, o_rc L1.kd (Or.inr (Or.inr rfl)), nI_l (by omega), e2, Option.bind_some, nR_67_2 L2.kd L2.rd, Option.bind_some, nR_67_0 L2.kd L2.rd, Option.bind_some, o_rc L2.kd (Or.inr (Or.inr rfl)), big_more (Or.inr (Or.inr rfl)) (Or.inl rfl) L2 V2 T2, Option.bind_some, if_bb]
      unfold F_X2_topThroughBottom_73
      have pw : 2 ^ (i + 1) = 2 * 2 ^ i := by rw [Nat.pow_succ, Nat.mul_comm]
      by_cases z : t < b * mid
      · rw [if_pos (decide_eq_true z)]
        have em1 : nI mid - 1 = nI (mid - 1) := by rw [show mid = mid - 1 + 1 by omega, nI_down, Nat.add_sub_cancel]
        rw [em1, nI_1]
        refine ⟨(lo, mid - 1, y2), rfl, c12, by show lo ≤ mid - 1; omega, by show mid - 1 ≤ 1000000; omega, ?_, g5 z⟩
        show (mid - 1 - lo) * 2 ^ (i + 1) ≤ 1000000
        rw [pw, ← Nat.mul_assoc]
        exact Nat.le_trans (Nat.mul_le_mul_right _ g4) p
      · rw [if_neg (by rw [decide_eq_false z]; decide), nI_1]
        refine ⟨(mid, hi, y2), rfl, c12, g2, h6, ?_, g6 z⟩
        show (hi - mid) * 2 ^ (i + 1) ≤ 1000000
        rw [pw, ← Nat.mul_assoc]
        exact Nat.le_trans (Nat.mul_le_mul_right _ g3) p
    · right
      rw [if_neg (nI_nlt (by omega) (by omega))]
      have : quo t b = lo := by
        unfold quo
        omega
      rw [this]
      exact ⟨y, rfl, cy⟩
  · rintro f ⟨lo, hi, y⟩ ⟨cy, le, h6, p, q⟩
    dsimp only at cy le h6 p q
    have e : hi - lo = 0 := by
      by_cases z : hi - lo = 0
      · exact z
      · have := Nat.mul_le_mul_right (2 ^ 20) (show 1 ≤ hi - lo by omega)
        omega
    show ∃ h', F_X2_topThroughBottom_7 (f + 1) 67 (nI lo) (nI hi) (nI 20) y = some (nI (quo t b), h') ∧ _
    rw [F_X2_topThroughBottom_7]
    dsimp only
    rw [if_pos (show nI 20 < (32 : Int32) by decide), if_neg (nI_nlt (by omega) (by omega))]
    have : quo t b = lo := by
      unfold quo
      omega
    rw [this]
    exact ⟨y, rfl, cy⟩
