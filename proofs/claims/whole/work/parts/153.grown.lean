/-! THE CLASS'S STEMMA: grown -/
def edge (A : Nat → Int32) (w : Nat → Nat → Nat) (f t : Nat) : Option Nat := if alw A f (t - 1) = true then some (wRow (cst A w) f (t - 1)) else none
def rkL (c : Nat) : Nat := if c < 12 then 13 ^ (11 - c) else 0
theorem rkL_step : ∀ c, c < 12 → lN (rkL c) / (13 : Int64) = lN (rkL (c + 1)) := by decide +kernel
theorem rkL_le : ∀ c, c < 12 → rkL c * 12 < 13 ^ 12 := by decide
theorem wRow_lt {A : Nat → Int32} (K : ShOK A) {w : Nat → Nat → Nat} (hw : wOK w) {f c : Nat} (hf : f ≤ 12) (hc : c < 12) : wRow (cst A w) f c < 2 ^ 62 := by
  have a := Nat.mul_le_mul_right (13 ^ 12) (cst_le2 K hw hf hc)
  have b := rkL_le c hc
  unfold rkL at b
  rw [if_pos hc] at b
  have d : f * 13 ^ (11 - c) ≤ 13 ^ (11 - c) * 12 := by
    rw [Nat.mul_comm]
    exact Nat.mul_le_mul_left _ hf
  unfold wRow
  omega
def rlE (A : Nat → Int32) (w : Nat → Nat → Nat) (f t : Nat) : Int64 := enL (edge A w f t)
theorem c_edges {h : pg_H} {A : Nat → Int32} {w : Nat → Nat → Nat} (L : Lay h) (K : ShOK A) (hw : wOK w) (k7 : pg_i h 59 7 = nI (nC A + 1)) (r60 : ∀ f c, f ≤ nC A → c < nC A → pg_i h 60 (13 * f + (c + 1)) = if alw A f c = true then nI (cst A w f c) else -1) : ∃ x, Ch [61] [] h x ∧ EL x 61 (nC A + 1) (edge A w) ∧ F_X6_grow_13 pg_fuel 59 (1792160394037 : Int64) 1 h = F_X6_grow_13 1 59 (lN (rkL (nC A))) (nI (nC A + 1)) x := by
  have kC : nC A < 13 := K.1.1.2
  have e7 : ∀ {x}, Ch [61] [] h x → pg_i x 59 7 = nI (nC A + 1) := fun {x} cx => by
    rw [cx.row (by decide)]
    exact k7
  have z := loopI (fun f c (x : pg_H) => F_X6_grow_13 f 59 (lN (rkL c)) (nI (c + 1)) x) (nC A) (fun c x => Ch [61] [] h x ∧ ∀ f c', f ≤ nC A → c' < c → pg_l x 61 (13 * f + (c' + 1)) = rlE A w f (c' + 1)) (fun o => ∃ x, Ch [61] [] h x ∧ EL x 61 (nC A + 1) (edge A w) ∧ o = F_X6_grow_13 1 59 (lN (rkL (nC A))) (nI (nC A + 1)) x) ?_ ?_ 0 h (Nat.zero_le _) ⟨Ch.refl _ _ _, fun f c' _ hc => absurd hc (Nat.not_lt_zero c')⟩ pg_fuel (by unfold pg_fuel; omega)
  · exact z
  · intro f c x hc ⟨cx, rx⟩
    have Lx := cx.lay L (by decide)
    have c12 : c < 12 := by omega
    show ∃ x', F_X6_grow_13 (f + 1) 59 (lN (rkL c)) (nI (c + 1)) x = F_X6_grow_13 f 59 (lN (rkL (c + 1))) (nI (c + 1 + 1)) x' ∧ _
    rw [F_X6_grow_13]
    dsimp only
    rw [ng_59 Lx.kd, e7 cx, Option.bind_some, if_pos (nI_lt (show c + 1 < nC A + 1 by omega) (by omega))]
    refine loopI (fun f2 e (y : pg_H) => F_X6_grow_25 (F_X6_grow_13 f) f2 59 (lN (rkL c)) (nI (c + 1)) (nI e) y) (nC A + 1) (fun e y => Ch [61] [] h y ∧ (∀ f c', f ≤ nC A → c' < c → pg_l y 61 (13 * f + (c' + 1)) = rlE A w f (c' + 1)) ∧ ∀ f, f < e → pg_l y 61 (13 * f + (c + 1)) = rlE A w f (c + 1)) (fun o => ∃ x', o = F_X6_grow_13 f 59 (lN (rkL (c + 1))) (nI (c + 1 + 1)) x' ∧ Ch [61] [] h x' ∧ ∀ f c', f ≤ nC A → c' < c + 1 → pg_l x' 61 (13 * f + (c' + 1)) = rlE A w f (c' + 1)) ?_ ?_ 0 x (Nat.zero_le _) ⟨cx, rx, fun f hf => absurd hf (Nat.not_lt_zero f)⟩ pg_fuel (by unfold pg_fuel; omega)
    · intro f2 e y he ⟨cy, ry, sy⟩
      have Ly := cy.lay L (by decide)
      have ix : nI e * (13 : Int32) + nI (c + 1) = nI (13 * e + (c + 1)) := by rw [show (13 : Int32) = nI 13 from rfl, nI_mul, nI_add, Nat.mul_comm]
      have e60 : pg_i y 60 (13 * e + (c + 1)) = if alw A e c = true then nI (cst A w e c) else -1 := by
        rw [cy.row (by decide)]
        exact r60 e c (by omega) hc
      have put : ∀ v, v = rlE A w e (c + 1) → ∃ z, F_X6_grow_85 (F_X6_grow_25 (F_X6_grow_13 f) f2) 59 (lN (rkL c)) (nI (c + 1)) (nI e) v (nI (13 * e + (c + 1))) 61 y = F_X6_grow_25 (F_X6_grow_13 f) f2 59 (lN (rkL c)) (nI (c + 1)) (nI (e + 1)) z ∧ Ch [61] [] h z ∧ (∀ f c', f ≤ nC A → c' < c → pg_l z 61 (13 * f + (c' + 1)) = rlE A w f (c' + 1)) ∧ ∀ f, f < e + 1 → pg_l z 61 (13 * f + (c + 1)) = rlE A w f (c + 1) := fun v hv => by
        refine ⟨pg_sl y 61 (13 * e + (c + 1)) v, ?_, cy.asl (Or.inl (by decide)), fun f' c' hf hc' => ?_, fun f' hf => ?_⟩
        · unfold F_X6_grow_85
          rw [ns_61 Ly.kd (by omega), Option.bind_some, nI_1]
        · rw [sl_row, up1_ne (by omega)]
          exact ry f' c' hf hc'
        · rw [sl_row]
          by_cases q : f' = e
          · rw [q, up1_eq]
            exact hv
          · rw [up1_ne (by omega)]
            exact sy f' (by omega)
      show ∃ z, F_X6_grow_25 (F_X6_grow_13 f) (f2 + 1) 59 (lN (rkL c)) (nI (c + 1)) (nI e) y = F_X6_grow_25 (F_X6_grow_13 f) f2 59 (lN (rkL c)) (nI (c + 1)) (nI (e + 1)) z ∧ _
      rw [F_X6_grow_25]
      unfold pg_let
      dsimp only
      rw [ng_59 Ly.kd, e7 cy, Option.bind_some, if_pos (nI_lt he (by omega)), nR_59_1 Ly.kd Ly.rd, Option.bind_some, nR_59_0 Ly.kd Ly.rd, Option.bind_some, ix, na_60 Ly.kd (by omega), Option.bind_some, e60]
      by_cases al : alw A e c = true
      · have cb := cst_le2 K hw (show e ≤ 12 by omega) c12
        rw [if_pos al, if_neg (show ¬ nI (cst A w e c) = -1 from nI_no (by omega)), Option.bind_some, na_60 Ly.kd (by omega), e60, Option.bind_some, if_pos al]
        refine put _ ?_
        rw [nI_l (by omega), nI_l (by omega), show (23298085122481 : Int64) = lN (13 ^ 12) from by decide, lN_mul, lN_mul, lN_add]
        unfold rlE edge wRow rkL
        rw [show c + 1 - 1 = c by omega, if_pos al, if_pos c12, Nat.mul_comm (13 ^ (11 - c)) e]
        rfl
      · rw [if_neg al, if_pos rfl]
        refine put _ ?_
        unfold rlE edge
        rw [show c + 1 - 1 = c by omega, if_neg al]
        rfl
    · intro f2 y ⟨cy, ry, sy⟩
      have Ly := cy.lay L (by decide)
      refine ⟨y, ?_, cy, fun f' c' hf hc' => ?_⟩
      · show F_X6_grow_25 (F_X6_grow_13 f) (f2 + 1) 59 (lN (rkL c)) (nI (c + 1)) (nI (nC A + 1)) y = _
        rw [F_X6_grow_25]
        unfold pg_let
        dsimp only
        rw [ng_59 Ly.kd, e7 cy, Option.bind_some, if_neg Int32.lt_irrefl, if_neg (by decide), rkL_step c c12, nI_1]
      · by_cases q : c' = c
        · rw [q]
          exact sy f' (by omega)
        · exact ry f' c' hf (by omega)
  · intro f x ⟨cx, rx⟩
    have Lx := cx.lay L (by decide)
    refine ⟨x, cx, fun f t hf h1 h2 => ?_, ?_⟩
    · have := rx f (t - 1) (by omega) (by omega)
      rw [show t - 1 + 1 = t by omega] at this
      exact this
    · show F_X6_grow_13 (f + 1) 59 (lN (rkL (nC A))) (nI (nC A + 1)) x = F_X6_grow_13 (0 + 1) 59 (lN (rkL (nC A))) (nI (nC A + 1)) x
      rw [F_X6_grow_13, F_X6_grow_13]
      dsimp only
      rw [ng_59 Lx.kd, e7 cx, Option.bind_some, if_neg Int32.lt_irrefl, Option.bind_some, if_neg Int32.lt_irrefl]
theorem c_decode {h : pg_H} {T : Nat → Nat} (L : Lay h) (hT : ∀ c, c < 12 → T c ≤ 12) : ∃ y, F_X6_grow_133 pg_fuel 59 (lN (hor T 12)) 11 h = some y ∧ Ch [66] [] h y ∧ ∀ c, c < 12 → pg_i y 66 c = nI (T c) - 1 := by
  have bd : ∀ k, k ≤ 12 → hor T k < 13 ^ k := by
    intro k
    induction k with
    | zero => exact fun _ => Nat.zero_lt_one
    | succ k ih =>
      intro hk
      have a := ih (by omega)
      have b := hT k (by omega)
      show hor T k * 13 + T k < 13 ^ (k + 1)
      rw [Nat.pow_succ]
      omega
  have b63 : ∀ k, k ≤ 12 → hor T k < 2 ^ 63 := fun k hk => Nat.lt_of_lt_of_le (bd k hk) (Nat.le_trans (Nat.pow_le_pow_right (n := 13) (by decide) hk) (by decide))
  have st : ∀ i, i < 12 → nI (12 - i) - (1 : Int32) = nI (11 - i) := fun i hi => by
    rw [show 12 - i = (11 - i) + 1 by omega]
    exact nI_less _ (by omega)
  refine loopI (fun f i (x : pg_H) => F_X6_grow_133 f 59 (lN (hor T (12 - i))) (nI (12 - i) - 1) x) 12 (fun i x => Ch [66] [] h x ∧ ∀ c, 12 - i ≤ c → c < 12 → pg_i x 66 c = nI (T c) - 1) (fun o => ∃ y, o = some y ∧ Ch [66] [] h y ∧ ∀ c, c < 12 → pg_i y 66 c = nI (T c) - 1) ?_ ?_ 0 h (Nat.zero_le _) ⟨Ch.refl _ _ _, fun c h1 h2 => by omega⟩ pg_fuel (by unfold pg_fuel; omega)
  · intro f i x hi ⟨cx, rx⟩
    have Lx := cx.lay L (by decide)
    obtain ⟨h1, h2⟩ := hor_step (T := T) (k := 11 - i) (hT (11 - i) (by omega))
    rw [show 11 - i + 1 = 12 - i by omega] at h1 h2
    have B := b63 (12 - i) (by omega)
    show ∃ x', F_X6_grow_133 (f + 1) 59 (lN (hor T (12 - i))) (nI (12 - i) - 1) x = F_X6_grow_133 f 59 (lN (hor T (12 - (i + 1)))) (nI (12 - (i + 1)) - 1) x' ∧ _
    rw [F_X6_grow_133, st i hi]
    unfold pg_let
    dsimp only
    rw [if_neg (show ¬ nI (11 - i) < (0 : Int32) from nI_nlt (b := 0) (Nat.zero_le _) (by omega)), nR_59_6 Lx.kd Lx.rd, Option.bind_some, if_neg (by decide), show (13 : Int64) = lN 13 from rfl, pk_lRem B (by decide) (by decide), h1, lN_i, ns_66 Lx.kd (by omega), Option.bind_some, if_neg (by decide), pk_lDiv B (by decide) (by decide), h2]
    refine ⟨pg_si x 66 (11 - i) (nI (T (11 - i)) - 1), ?_, cx.asi (Or.inl (by decide)), fun c g1 g2 => ?_⟩
    · rw [show 12 - (i + 1) = 11 - i by omega, Int32.sub_eq_add_neg (nI (11 - i)) 1]
    · rw [si_row]
      by_cases q : c = 11 - i
      · rw [q, up1_eq]
      · rw [up1_ne q]
        exact rx c (by omega) g2
  · intro f x ⟨cx, rx⟩
    refine ⟨x, ?_, cx, fun c hc => rx c (by omega) hc⟩
    show F_X6_grow_133 (f + 1) 59 _ (nI (12 - 12) - 1) x = _
    rw [F_X6_grow_133]
    dsimp only
    rw [if_pos (by decide)]
