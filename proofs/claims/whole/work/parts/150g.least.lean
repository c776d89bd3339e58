/-! THE CLASS'S STEMMA: the least sum -/
theorem aC_succ {t : Nat} {f : Nat → Nat} (h : 1 ≤ t) : aC (t + 1) f = aC t f + f t := by
  show sumN t _ + (if t = 0 then 0 else f t) = _
  rw [if_neg (by omega)]
  rfl
theorem c_round {h : pg_H} {m : Nat} {E : Nat → Nat → Option Nat} (L : Lay h) (hm : m ≤ 13) (m1 : 1 ≤ m) (e61 : EL h 61 m E) (B : EB m E) (s rd : Nat) (K : Nat → Int64 → Int32 → Int32 → pg_H → Option (Int64 × pg_H)) :
    (∃ y, F_X6_leastSum_25 K pg_fuel 59 (lN s) (nI m) (nI rd) 1 h = some ((4611686018427387904 : Int64), y) ∧ Ch [63] [] h y ∧ IsMin m E none) ∨
    ∃ N wt y, F_X6_leastSum_25 K pg_fuel 59 (lN s) (nI m) (nI rd) 1 h = F_X6_leastSum_25 K 1 59 (lN (s + aC m wt)) (nI m) (nI rd) (nI m) y ∧ Ch [63] [] h y ∧ Near m E N wt ∧ ∀ t, 1 ≤ t → t < m → pg_i y 63 t = nI (N t) := by
  refine loopE (fun f k (x : Nat × pg_H) => F_X6_leastSum_25 K f 59 (lN x.1) (nI m) (nI rd) (nI k) x.2) m
    (fun k x => 1 ≤ k ∧ Ch [63] [] h x.2 ∧ ∃ N wt : Nat → Nat, x.1 = s + aC k wt ∧ ∀ t, 1 ≤ t → t < k → ((N t < m ∧ N t ≠ t ∧ E (N t) t = some (wt t)) ∧ ∀ f w, f < m → f ≠ t → E f t = some w → wt t ≤ w) ∧ pg_i x.2 63 t = nI (N t))
    (fun o => (∃ y, o = some ((4611686018427387904 : Int64), y) ∧ Ch [63] [] h y ∧ IsMin m E none) ∨ ∃ N wt y, o = F_X6_leastSum_25 K 1 59 (lN (s + aC m wt)) (nI m) (nI rd) (nI m) y ∧ Ch [63] [] h y ∧ Near m E N wt ∧ ∀ t, 1 ≤ t → t < m → pg_i y 63 t = nI (N t)) ?_ ?_ 1 (s, h) m1 ⟨Nat.le_refl _, Ch.refl _ _ _, fun _ => 0, fun _ => 0, rfl, fun t h1 h2 => by omega⟩ pg_fuel (by unfold pg_fuel; omega)
  · rintro f k ⟨v, y⟩ hk ⟨k1, cy, N, wt, ev, near⟩
    dsimp only at cy ev near ⊢
    have Ly := cy.lay L (by decide)
    have e61y : EL y 61 m E := by
      unfold EL
      rw [cy.rowl (by decide)]
      exact e61
    obtain ⟨b, b1, b2, b3⟩ := c_nearestTo Ly hm e61y B k1 hk
    have s1 : Ch [63] [] y (pg_si y 63 k (enI b)) := (Ch.refl _ _ _).asi (Or.inl (by decide))
    have L1 := s1.lay Ly (by decide)
    rw [F_X6_leastSum_25]
    dsimp only
    rw [if_pos (nI_lt hk (by omega)), nR_59_3 Ly.kd Ly.rd, Option.bind_some, nc_59 Ly.kd, b1, Option.bind_some, ns_63 Ly.kd (by omega), Option.bind_some, nR_59_3 L1.kd L1.rd, Option.bind_some, na_63 L1.kd (by omega), si_row, up1_eq, Option.bind_some]
    cases b with
    | none =>
      right
      left
      rw [if_pos (show enI none = -1 from rfl)]
      exact ⟨_, rfl, cy.trans s1, IsMin_none k1 hk (b2 rfl)⟩
    | some n =>
      left
      obtain ⟨n1, n2, w, n3, n4⟩ := b3 n rfl
      have jx : nI n * (13 : Int32) + nI k = nI (13 * n + k) := by rw [show (13 : Int32) = nI 13 from rfl, nI_mul, nI_add, Nat.mul_comm]
      rw [if_neg (show ¬ enI (some n) = -1 from nI_no (by omega)), nR_59_1 L1.kd L1.rd, Option.bind_some, Option.bind_some, na_63 L1.kd (by omega), si_row, up1_eq, Option.bind_some, show enI (some n) = nI n from rfl, jx, na_61 (h := pg_si y 63 k (nI n)) L1.kd (show 13 * n + k < 169 by omega), Option.bind_some]
      have ew : pg_l (pg_si y 63 k (nI n)) 61 (13 * n + k) = lN w := by
        rw [show pg_l (pg_si y 63 k (nI n)) 61 = pg_l y 61 from rfl, e61y n k n1 k1 hk, n3]
        rfl
      rw [ew]
      unfold pg_let
      dsimp only
      rw [lN_add, nI_1]
      refine ⟨(v + w, pg_si y 63 k (nI n)), rfl, by omega, cy.trans s1, fun t => if t = k then n else N t, fun t => if t = k then w else wt t, ?_, fun t h1 h2 => ?_⟩
      · dsimp only
        rw [aC_succ k1, if_pos rfl, ev, aC_cong (f := fun t => if t = k then w else wt t) (g := wt) (fun t _ h2 => if_neg (by omega))]
        omega
      · dsimp only
        rw [si_row]
        by_cases e : t = k
        · subst e
          rw [if_pos rfl, if_pos rfl, up1_eq]
          exact ⟨⟨⟨n1, n2, n3⟩, n4⟩, rfl⟩
        · rw [if_neg e, if_neg e, up1_ne e]
          exact near t h1 (by omega)
  · rintro f ⟨v, y⟩ ⟨_, cy, N, wt, ev, near⟩
    right
    refine ⟨N, wt, y, ?_, cy, fun t h1 h2 => (near t h1 h2).1, fun t h1 h2 => (near t h1 h2).2⟩
    dsimp only at ev ⊢
    rw [ev]
    show F_X6_leastSum_25 K (f + 1) _ _ _ _ _ _ = F_X6_leastSum_25 K (0 + 1) _ _ _ _ _ _
    rw [F_X6_leastSum_25, F_X6_leastSum_25]
    dsimp only
    rw [if_neg Int32.lt_irrefl, if_neg Int32.lt_irrefl]
def farL (o : Option Nat) (s : Nat) : Int64 := o.elim (4611686018427387904 : Int64) fun v => lN (s + v)
theorem c_leastSum10 : ∀ n m E h s rd f, m ≤ n → 1 ≤ m → m + rd ≤ 13 → m < f → Lay h → EL h 61 m E → EB m E → ∃ r y, F_X6_leastSum_10 f 59 (lN s) (nI m) (nI rd) h = some (farL r s, y) ∧ Ch [61, 62, 63, 64, 65] [] h y ∧ IsMin m E r := by
  intro n
  induction n with
  | zero => exact fun m E h s rd f h1 h2 => by omega
  | succ n ih =>
    intro m E h s rd f hn m1 hr hf L e61 B
    obtain ⟨f, rfl⟩ : ∃ g, f = g + 1 := ⟨f - 1, by omega⟩
    rw [F_X6_leastSum_10]
    dsimp only
    rw [if_pos (show nI rd < (13 : Int32) from nI_lt (b := 13) (by omega) (by decide))]
    by_cases mm : m = 1
    · subst mm
      rw [if_neg (show ¬ (1 : Int32) < nI 1 from by decide)]
      exact ⟨some 0, h, rfl, Ch.refl _ _ _, IsMin_one⟩
    · rw [if_pos (show (1 : Int32) < nI m from nI_lt (a := 1) (by omega) (by omega))]
      rcases c_round L (by omega) m1 e61 B s rd (F_X6_leastSum_10 f) with ⟨y, y1, y2, y3⟩ | ⟨N, wt, y, y1, y2, y3, y4⟩
      · rw [y1]
        exact ⟨none, y, rfl, y2.mono (by decide), y3⟩
      · have Ly := y2.lay L (by decide)
        rw [y1]
        show ∃ r z, F_X6_leastSum_25 (F_X6_leastSum_10 f) (0 + 1) 59 (lN (s + aC m wt)) (nI m) (nI rd) (nI m) y = _ ∧ _
        obtain ⟨m', g, z, z1, z2, z3, z4, z5, z6, z7⟩ := c_findGroups (N := N) Ly (show m ≤ 13 by omega) m1 (fun t h1 h2 => ⟨(y3 t h1 h2).1.1, y4 t h1 h2⟩) (fun t h1 h2 => (y3 t h1 h2).1.2.1)
        have Lz := z2.lay Ly (by decide)
        have hz : Ch [61, 62, 63, 64, 65] [] h z := (y2.mono (by decide)).trans (z2.mono (by decide))
        rw [F_X6_leastSum_25]
        dsimp only
        rw [if_neg Int32.lt_irrefl, nc_59 Ly.kd, z1, Option.bind_some]
        by_cases eq : m' = m
        · rw [if_pos (show nI m' = nI m by rw [eq])]
          exact ⟨some (aC m wt), z, rfl, hz, near_tree y3 (z7 eq)⟩
        · rw [if_neg (show ¬ nI m' = nI m from fun q => eq ((nI_eq (by omega) (by omega)).mp q))]
          have e61z : EL z 61 m E := by
            unfold EL
            rw [z2.rowl (by decide), y2.rowl (by decide)]
            exact e61
          obtain ⟨E', u, u1, u2, u3, u4, u5⟩ := c_mergeGroups (N := N) (wt := wt) Lz (show m ≤ 13 by omega) m1 e61z B z3 (fun t h1 h2 => by
            rw [z2.row (by decide)]
            exact y4 t h1 h2) y3 z4 z6 z5
          have Lu := u2.lay Lz (by decide)
          obtain ⟨r, x, x1, x2, x3⟩ := ih m' E' u (s + aC m wt) (rd + 1) f (by omega) z5 (by omega) (by omega) Lu u3 u4
          rw [nc_59 Lz.kd, u1, Option.bind_some, nI_1, x1]
          refine ⟨r.map fun v => aC m wt + v, x, ?_, (hz.trans (u2.mono (by decide))).trans x2, contract z5 y3 z4 u5 x3⟩
          cases r with
          | none => rfl
          | some v =>
            show some (lN (s + aC m wt + v), x) = some (lN (s + (aC m wt + v)), x)
            rw [Nat.add_assoc]
theorem c_leastSum {h : pg_H} {m : Nat} {E : Nat → Nat → Option Nat} (L : Lay h) (hm : m ≤ 13) (m1 : 1 ≤ m) (k : pg_i h 59 7 = nI m) (e61 : EL h 61 m E) (B : EB m E) : ∃ r y, F_X6_leastSum 59 h = some (farL r 0, y) ∧ Ch [61, 62, 63, 64, 65] [] h y ∧ IsMin m E r := by
  unfold F_X6_leastSum
  rw [ng_59 L.kd, k, Option.bind_some]
  exact c_leastSum10 13 m E h 0 0 pg_fuel hm m1 (by omega) (by unfold pg_fuel; omega) L e61 B
