/-! THE CLASS'S STEMMA: groups put together -/
theorem cpyL_go {h : pg_H} {a0 a n : Nat} (k0 : pg_k h a0 = (22, n)) (k1 : pg_k h a = (22, n)) (hn : n < 2 ^ 31) : ∃ h', pg_cpyL h a0 0 a 0 (nI n) = some h' ∧ Ch [a] [] h h' ∧ ∀ j, j < n → pg_l h' a j = pg_l h a0 j := by
  have c : (nI n).toNatClampNeg = n := nI_clamp hn
  have z : (0 : Int32).toNatClampNeg = 0 := by decide
  refine ⟨pg_cpL h a0 0 a 0 (nI n), ?_, ⟨rfl, rfl, rfl, rfl, fun r k hr => ⟨rfl, ?_⟩⟩, fun j hj => ?_⟩
  · unfold pg_cpyL
    rw [k0, k1, c, z]
    exact if_pos ⟨rfl, rfl, by decide, by decide, nI_pos hn, by show 0 + n ≤ n; omega, by show 0 + n ≤ n; omega⟩
  · have ne : r ≠ a := fun e => hr (Or.inl (by rw [e]; exact List.mem_singleton.mpr rfl))
    show (if r = a then va_cpy (pg_l h a0) (pg_l h a) _ _ _ else pg_l h r) k = _
    rw [if_neg ne]
  · show (if a = a then va_cpy (pg_l h a0) (pg_l h a) _ _ _ else pg_l h a) j = _
    rw [if_pos rfl, c, z]
    show (if 0 ≤ j ∧ j < 0 + n then pg_l h a0 (0 + (j - 0)) else pg_l h a j) = _
    rw [if_pos ⟨Nat.zero_le _, by omega⟩, Nat.zero_add, Nat.sub_zero]
def MI (h : pg_H) (m : Nat) (E : Nat → Nat → Option Nat) (g wt : Nat → Nat) (to fr : Nat) (M : Nat → Nat → Option Nat) (x : pg_H) : Prop := Ch [62] [] h x ∧ (∀ a b, a < 13 → b < 13 → pg_l x 62 (13 * a + b) = enL (M a b)) ∧
  (∀ f t w, f < m → 1 ≤ t → t < m → (t < to ∨ t = to ∧ f < fr) → g f ≠ g t → E f t = some w → ∃ w', M (g f) (g t) = some w' ∧ w' ≤ w - wt t) ∧
  ∀ a b w', M a b = some w' → ∃ f t w, f < m ∧ 1 ≤ t ∧ t < m ∧ g f = a ∧ g t = b ∧ E f t = some w ∧ w' = w - wt t
theorem c_mergeRow {h : pg_H} {m : Nat} {E : Nat → Nat → Option Nat} {g wt : Nat → Nat} (L : Lay h) (hm : m ≤ 13) (e61 : EL h 61 m E) (B : EB m E) (e64 : ∀ t, t < m → pg_i h 64 t = nI (g t)) (gb : ∀ t, t < m → g t < m) {to : Nat} (t1 : 1 ≤ to) (t2 : to < m) (wl : ∀ f w, f < m → f ≠ to → E f to = some w → wt to ≤ w) {M0 : Nat → Nat → Option Nat} {x : pg_H} (I : MI h m E g wt to 0 M0 x) (K : Nat → Int32 → Int32 → pg_H → Option pg_H) :
    ∃ M x', F_X6_mergeGroups_37 K pg_fuel 59 (nI m) (nI to) (lN (wt to)) 0 x = K 59 (nI m) (nI (to + 1)) x' ∧ MI h m E g wt (to + 1) 0 M x' := by
  refine loopI (fun f i (x : pg_H) => F_X6_mergeGroups_37 K f 59 (nI m) (nI to) (lN (wt to)) (nI i) x) m (fun i x => ∃ M, MI h m E g wt to i M x) (fun o => ∃ M x', o = K 59 (nI m) (nI (to + 1)) x' ∧ MI h m E g wt (to + 1) 0 M x') ?_ ?_ 0 x (Nat.zero_le _) ⟨M0, I⟩ pg_fuel (by unfold pg_fuel; omega)
  · intro f i y hi ⟨M, cy, r62, lo, re⟩
    have Ly := cy.lay L (by decide)
    have f141 : ∀ z, F_X6_mergeGroups_141 (F_X6_mergeGroups_37 K f) 59 (nI m) (nI to) (lN (wt to)) (nI i) z = F_X6_mergeGroups_37 K f 59 (nI m) (nI to) (lN (wt to)) (nI (i + 1)) z := fun z => by
      unfold F_X6_mergeGroups_141
      rw [nI_1]
    have jx : ∀ a b, nI a * (13 : Int32) + nI b = nI (13 * a + b) := fun a b => by rw [show (13 : Int32) = nI 13 from rfl, nI_mul, nI_add, Nat.mul_comm]
    have gi := gb i hi
    have gt := gb to t2
    have y61 : pg_l y 61 (13 * i + to) = enL (E i to) := by
      rw [cy.rowl (by decide)]
      exact e61 i to hi t1 t2
    have y64 : ∀ t, t < m → pg_i y 64 t = nI (g t) := fun t ht => by
      rw [cy.row (by decide)]
      exact e64 t ht
    have skip : (g i ≠ g to → ∀ w, E i to = some w → ∃ w', M (g i) (g to) = some w' ∧ w' ≤ w - wt to) → MI h m E g wt to (i + 1) M y := fun no =>
      ⟨cy, r62, fun f t w hf h1 h2 q ne ew => by
        by_cases z : t = to ∧ f = i
        · rw [z.1, z.2] at ew ne
          rw [z.1, z.2]
          exact no ne w ew
        · exact lo f t w hf h1 h2 (by omega) ne ew, re⟩
    show ∃ z, F_X6_mergeGroups_37 K (f + 1) 59 (nI m) (nI to) (lN (wt to)) (nI i) y = F_X6_mergeGroups_37 K f 59 (nI m) (nI to) (lN (wt to)) (nI (i + 1)) z ∧ _
    have ent : F_X6_mergeGroups_37 K (f + 1) 59 (nI m) (nI to) (lN (wt to)) (nI i) y = (if nI (g i) = nI (g to) then F_X6_mergeGroups_37 K f 59 (nI m) (nI to) (lN (wt to)) (nI (i + 1)) y else if enL (E i to) = -1 then F_X6_mergeGroups_37 K f 59 (nI m) (nI to) (lN (wt to)) (nI (i + 1)) y else if enL (M (g i) (g to)) = -1 then F_X6_mergeGroups_130 (F_X6_mergeGroups_37 K f) 59 (nI m) (nI to) (lN (wt to)) (nI i) (enL (E i to)) (nI (13 * g i + g to)) y else if enL (E i to) - lN (wt to) < enL (M (g i) (g to)) then F_X6_mergeGroups_130 (F_X6_mergeGroups_37 K f) 59 (nI m) (nI to) (lN (wt to)) (nI i) (enL (E i to)) (nI (13 * g i + g to)) y else F_X6_mergeGroups_37 K f 59 (nI m) (nI to) (lN (wt to)) (nI (i + 1)) y) := by
      rw [F_X6_mergeGroups_37]
      dsimp only
      simp only [k_si, k_sl, k_sr, r_si, r_sl, i_sl, i_sr, l_si, l_sr, Option.bind_some, if_true, if_false, bind_eta2, if_bb, decide_eq_true_eq, pg_let, nR_59_1, nR_59_2, nR_59_4, Ly.kd, Ly.rd, if_pos (nI_lt hi (show m < 2 ^ 31 by omega)), jx, na_61, show 13 * i + to < 169 by omega, y61, na_64, show i < 13 by omega, show to < 13 by omega, y64, hi, t2, na_62, show 13 * g i + g to < 169 by omega, r62 (g i) (g to) (by omega) (by omega), f141]
    rw [ent]
    by_cases ge : g i = g to
    · rw [if_pos (show nI (g i) = nI (g to) by rw [ge])]
      exact ⟨y, rfl, M, skip (fun ne => absurd ge ne)⟩
    · rw [if_neg (show ¬ nI (g i) = nI (g to) from fun z => ge ((nI_eq (by omega) (by omega)).mp z))]
      have ino : i ≠ to := fun z => ge (by rw [z])
      cases ew : E i to with
      | none =>
        rw [if_pos (show enL none = -1 from rfl)]
        exact ⟨y, rfl, M, skip (fun _ w z => by rw [ew] at z; cases z)⟩
      | some w =>
        have wB := B i to w hi t1 t2 ew
        have wle := wl i w hi ino ew
        rw [if_neg (show ¬ enL (some w) = -1 from lW_no (by omega)), show enL (some w) = lN w from rfl, lN_sub wle]
        have mB : ∀ v, M (g i) (g to) = some v → v < 2 ^ 62 := fun v z => by
          obtain ⟨f', t', w', q1, q2, q3, _, _, q6, q7⟩ := re _ _ v z
          have := B f' t' w' q1 q2 q3 q6
          omega
        have put : (∀ v, M (g i) (g to) = some v → w - wt to ≤ v) → ∃ z, F_X6_mergeGroups_130 (F_X6_mergeGroups_37 K f) 59 (nI m) (nI to) (lN (wt to)) (nI i) (lN w) (nI (13 * g i + g to)) y = F_X6_mergeGroups_37 K f 59 (nI m) (nI to) (lN (wt to)) (nI (i + 1)) z ∧ ∃ M, MI h m E g wt to (i + 1) M z := fun le => by
          refine ⟨pg_sl y 62 (13 * g i + g to) (lN (w - wt to)), ?_, fun a b => if a = g i ∧ b = g to then some (w - wt to) else M a b, cy.asl (Or.inl (by decide)), fun a b ha hb => ?_, fun f' t' w2 q1 q2 q3 q4 q5 q6 => ?_, fun a b w2 q => ?_⟩
          · unfold F_X6_mergeGroups_130
            rw [nR_59_2 Ly.kd Ly.rd, Option.bind_some, lN_sub wle, ns_62 Ly.kd (by omega), Option.bind_some, f141]
          · dsimp only
            rw [sl_row]
            by_cases z : a = g i ∧ b = g to
            · rw [if_pos z, z.1, z.2, up1_eq]
              rfl
            · rw [if_neg z, up1_ne (by omega)]
              exact r62 a b ha hb
          · dsimp only
            by_cases p : t' = to ∧ f' = i
            · rw [p.1, p.2] at q6 ⊢
              rw [ew] at q6
              injection q6 with q6
              exact ⟨w - wt to, if_pos ⟨rfl, rfl⟩, by omega⟩
            · obtain ⟨w3, z1, z2⟩ := lo f' t' w2 q1 q2 q3 (by omega) q5 q6
              by_cases z : g f' = g i ∧ g t' = g to
              · rw [if_pos z]
                rw [z.1, z.2] at z1
                have := le w3 z1
                exact ⟨_, rfl, by omega⟩
              · rw [if_neg z]
                exact ⟨w3, z1, z2⟩
          · dsimp only at q
            by_cases z : a = g i ∧ b = g to
            · rw [if_pos z] at q
              injection q with q
              exact ⟨i, to, w, hi, t1, t2, z.1.symm, z.2.symm, ew, q.symm⟩
            · rw [if_neg z] at q
              exact re a b w2 q
        cases em : M (g i) (g to) with
        | none =>
          rw [if_pos (show enL none = -1 from rfl)]
          exact put (fun v z => by rw [em] at z; cases z)
        | some v =>
          have vB := mB v em
          rw [if_neg (show ¬ enL (some v) = -1 from lW_no (by omega)), show enL (some v) = lN v from rfl]
          by_cases lt : w - wt to < v
          · rw [if_pos ((lW_lt (by omega) (by omega)).mpr lt)]
            refine put (fun v' z => ?_)
            rw [em] at z
            injection z with z
            omega
          · rw [if_neg (fun z => lt ((lW_lt (by omega) (by omega)).mp z))]
            refine ⟨y, rfl, M, skip (fun _ w' z => ⟨v, em, ?_⟩)⟩
            rw [ew] at z
            injection z with z
            omega
  · intro f y ⟨M, cy, r62, lo, re⟩
    refine ⟨M, y, ?_, cy, r62, fun f t w hf h1 h2 q ne ew => lo f t w hf h1 h2 (by omega) ne ew, re⟩
    show F_X6_mergeGroups_37 K (f + 1) 59 (nI m) (nI to) (lN (wt to)) (nI m) y = _
    rw [F_X6_mergeGroups_37]
    dsimp only
    rw [if_neg Int32.lt_irrefl, nI_1]
theorem c_mergeGroups {h : pg_H} {m m' : Nat} {E : Nat → Nat → Option Nat} {N g wt : Nat → Nat} (L : Lay h) (hm : m ≤ 13) (m1 : 1 ≤ m) (e61 : EL h 61 m E) (B : EB m E) (e64 : ∀ t, t < m → pg_i h 64 t = nI (g t)) (e63 : ∀ t, 1 ≤ t → t < m → pg_i h 63 t = nI (N t)) (hn : Near m E N wt) (hg : Grp m m' N g) (hm' : m' ≤ m) (h1m : 1 ≤ m') :
    ∃ E' y, F_X6_mergeGroups 59 (nI m) h = some y ∧ Ch [61, 62] [] h y ∧ EL y 61 m' E' ∧ EB m' E' ∧ Con m m' E E' g wt := by
  obtain ⟨a, fa, ca, ra⟩ := c_fillL (h := h) (r := 62) (n := 169) (-1) ((L.kd 62 (by decide)).trans (by decide)) (by decide)
  have La := ca.lay L (by decide)
  have gb : ∀ t, t < m → g t < m := fun t ht => by
    by_cases t0 : t = 0
    · rw [t0, hg.1]
      exact m1
    · have := (hg.2.1 t (by omega) ht).2
      omega
  have I0 : MI h m E g wt 1 0 (fun _ _ => none) a := ⟨ca, fun x y hx hy => ra _ (by omega), fun f t w hf h1 h2 q => by omega, fun _ _ _ z => by cases z⟩
  have M : ∃ M x, F_X6_mergeGroups_12 pg_fuel 59 (nI m) 1 a = F_X6_mergeGroups_12 1 59 (nI m) (nI m) x ∧ MI h m E g wt m 0 M x := by
    refine loopI (fun f k (y : pg_H) => F_X6_mergeGroups_12 f 59 (nI m) (nI k) y) m (fun k y => 1 ≤ k ∧ ∃ M, MI h m E g wt k 0 M y) (fun o => ∃ M x, o = F_X6_mergeGroups_12 1 59 (nI m) (nI m) x ∧ MI h m E g wt m 0 M x) ?_ ?_ 1 a m1 ⟨Nat.le_refl _, _, I0⟩ pg_fuel (by unfold pg_fuel; omega)
    · intro f k y hk ⟨k1, M, I⟩
      have Ly := I.1.lay L (by decide)
      obtain ⟨⟨n1, n2, n3⟩, n4⟩ := hn k k1 hk
      obtain ⟨M', x', e, I'⟩ := c_mergeRow L hm e61 B e64 gb k1 hk n4 I (F_X6_mergeGroups_12 f)
      refine ⟨x', ?_, by omega, M', I'⟩
      show F_X6_mergeGroups_12 (f + 1) 59 (nI m) (nI k) y = _
      rw [F_X6_mergeGroups_12]
      dsimp only
      rw [if_pos (nI_lt hk (by omega)), nR_59_1 Ly.kd Ly.rd, Option.bind_some, nR_59_3 Ly.kd Ly.rd, Option.bind_some, na_63 Ly.kd (by omega), I.1.row (by decide), e63 k k1 hk, Option.bind_some, show nI (N k) * (13 : Int32) + nI k = nI (13 * N k + k) by rw [show (13 : Int32) = nI 13 from rfl, nI_mul, nI_add, Nat.mul_comm], na_61 Ly.kd (by omega), I.1.rowl (by decide), e61 (N k) k n1 k1 hk, n3, Option.bind_some]
      exact e
    · intro f y ⟨_, M, I⟩
      refine ⟨M, y, ?_, I⟩
      show F_X6_mergeGroups_12 (f + 1) 59 (nI m) (nI m) y = F_X6_mergeGroups_12 (0 + 1) 59 (nI m) (nI m) y
      rw [F_X6_mergeGroups_12, F_X6_mergeGroups_12]
      dsimp only
      rw [if_neg Int32.lt_irrefl, if_neg Int32.lt_irrefl]
  obtain ⟨M, x, ex, cx, r62, lo, re⟩ := M
  have Lx := cx.lay L (by decide)
  obtain ⟨y, ey, cy, ry⟩ := cpyL_go (h := x) (a0 := 62) (a := 61) (n := 169) ((Lx.kd 62 (by decide)).trans (by decide)) ((Lx.kd 61 (by decide)).trans (by decide)) (by decide)
  refine ⟨M, y, ?_, (cx.mono (by decide)).trans (cy.mono (by decide)), fun f t hf h1 h2 => ?_, fun f t w hf h1 h2 q => ?_, fun f t w hf h1 h2 ne ew => lo f t w hf h1 h2 (by omega) ne ew, fun a b w' _ _ _ _ q => re a b w' q⟩
  · unfold F_X6_mergeGroups
    rw [nR_59_2 L.kd L.rd, Option.bind_some, fa, Option.bind_some, ex]
    show F_X6_mergeGroups_12 (0 + 1) 59 (nI m) (nI m) x = _
    rw [F_X6_mergeGroups_12]
    dsimp only
    rw [if_neg Int32.lt_irrefl, nR_59_2 Lx.kd Lx.rd, Option.bind_some, nR_59_1 Lx.kd Lx.rd, Option.bind_some, Option.bind_some, nl_61 Lx.kd, Option.bind_some, ey]
    rfl
  · rw [ry _ (by omega)]
    exact r62 f t (by omega) (by omega)
  · obtain ⟨f', t', w', q1, q2, q3, _, _, q6, q7⟩ := re f t w q
    have := B f' t' w' q1 q2 q3 q6
    omega
