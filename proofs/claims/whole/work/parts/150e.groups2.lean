/-! THE CLASS'S STEMMA: groups, the rest -/
def SI (h : pg_H) (m : Nat) (N : Nat → Nat) (gp0 : Nat → Option Nat) (k G : Nat) (gp : Nat → Option Nat) (x : pg_H) : Prop := Ch [64, 65] [] h x ∧ 1 ≤ G ∧ G ≤ m + k ∧ (∀ t, t < m → pg_i x 64 t = enI (gp t)) ∧ gp 0 = some 0 ∧ (∀ t, 1 ≤ t → t < k → gp t ≠ none) ∧
  (∀ t b, 1 ≤ t → t < m → gp t = some b → 1 ≤ b ∧ b < G) ∧ (∀ b, 1 ≤ b → b < G → ∃ t, 1 ≤ t ∧ t < m ∧ gp t = some b) ∧
  (∀ t u b, 1 ≤ t → t < m → 1 ≤ u → u < m → t ≠ u → gp t = some b → gp u = some b → gp (N t) = some b ∧ ∃ k, iter N k t = u) ∧ ∀ t b, t < m → gp0 t = some b → gp t = some b
theorem c_singles {h x : pg_H} {m G0 : Nat} {N : Nat → Nat} {gp0 : Nat → Option Nat} (L : Lay h) (hm : m ≤ 13) (m1 : 1 ≤ m) (hN : ∀ t, 1 ≤ t → t < m → N t < m) (I : SI h m N gp0 1 G0 gp0 x) :
    ∃ G gp y, F_X6_findGroups_154 pg_fuel 59 (nI m) (nI G0) 1 x = some (nI G, y) ∧ SI h m N gp0 m G gp y := by
  refine loopI (fun f k (y : Nat × pg_H) => F_X6_findGroups_154 f 59 (nI m) (nI y.1) (nI k) y.2) m (fun k y => 1 ≤ k ∧ ∃ gp, SI h m N gp0 k y.1 gp y.2) (fun o => ∃ G gp y, o = some (nI G, y) ∧ SI h m N gp0 m G gp y) ?_ ?_ 1 (G0, x) m1 ⟨Nat.le_refl _, gp0, I⟩ pg_fuel (by unfold pg_fuel; omega)
  · rintro f k ⟨G, y⟩ hk ⟨k1, gp, cy, G1, Gm, y64, g0, iB, iD, iE, iF, iX⟩
    dsimp only at cy G1 Gm y64 iD iE ⊢
    have Ly := cy.lay L (by decide)
    have f179 : ∀ g z, F_X6_findGroups_179 (F_X6_findGroups_154 f) 59 (nI m) g (nI k) z = F_X6_findGroups_154 f 59 (nI m) g (nI (k + 1)) z := fun g z => by
      unfold F_X6_findGroups_179
      rw [nI_1]
    rw [F_X6_findGroups_154]
    dsimp only
    rw [if_pos (nI_lt hk (by omega)), nR_59_4 Ly.kd Ly.rd, Option.bind_some, na_64 Ly.kd (by omega), Option.bind_some, y64 k hk]
    by_cases gn : gp k = none
    · rw [if_pos (show enI (gp k) = -1 by rw [gn]; rfl), Option.bind_some, ns_64 Ly.kd (by omega), Option.bind_some, nI_1, f179]
      refine ⟨(G + 1, pg_si y 64 k (nI G)), rfl, by omega, fun t => if t = k then some G else gp t, cy.asi (Or.inl (by decide)), by omega, by omega, fun t h2 => ?_, ?_, fun t h1 h2 => ?_, fun t b h1 h2 q => ?_, fun b h1 h2 => ?_, fun t u b t1 t2 u1 u2 ne q1 q2 => ?_, fun t b h2 q => ?_⟩
      · dsimp only
        rw [si_row]
        by_cases e : t = k
        · rw [if_pos e, e, up1_eq]
          rfl
        · rw [if_neg e, up1_ne e]
          exact y64 t h2
      · dsimp only
        rw [if_neg (show ¬ 0 = k by omega)]
        exact g0
      · dsimp only
        by_cases e : t = k
        · rw [if_pos e]
          exact fun z => by cases z
        · rw [if_neg e]
          exact iB t h1 (by omega)
      · dsimp only at q
        by_cases e : t = k
        · rw [if_pos e] at q
          injection q with q
          omega
        · rw [if_neg e] at q
          have := iD t b h1 h2 q
          omega
      · by_cases bG : b = G
        · refine ⟨k, k1, hk, ?_⟩
          dsimp only
          rw [if_pos rfl, bG]
        · obtain ⟨t, t1, t2, t3⟩ := iE b h1 (by omega)
          refine ⟨t, t1, t2, ?_⟩
          dsimp only
          rw [if_neg (fun z => by rw [z, gn] at t3; cases t3)]
          exact t3
      · dsimp only at q1 q2 ⊢
        by_cases e : t = k
        · rw [if_pos e] at q1
          injection q1 with q1
          rw [if_neg (show ¬ u = k from fun z => ne (e.trans z.symm))] at q2
          have := iD u b u1 u2 q2
          omega
        · rw [if_neg e] at q1
          by_cases e2 : u = k
          · rw [if_pos e2] at q2
            injection q2 with q2
            have := iD t b t1 t2 q1
            omega
          · rw [if_neg e2] at q2
            obtain ⟨z1, z2⟩ := iF t u b t1 t2 u1 u2 ne q1 q2
            refine ⟨?_, z2⟩
            rw [if_neg (fun z => by rw [z, gn] at z1; cases z1)]
            exact z1
      · dsimp only
        have z := iX t b h2 q
        rw [if_neg (fun y => by rw [y, gn] at z; cases z)]
        exact z
    · have bd : ∀ n, gp k = some n → n < 2 ^ 31 := fun n z => by
        have := (iD k n k1 hk z).2
        omega
      rw [if_neg (fun z => gn ((enI_none bd).mp z)), f179]
      refine ⟨(G, y), rfl, by omega, gp, cy, G1, by omega, y64, g0, fun t h1 h2 => ?_, iD, iE, iF, iX⟩
      by_cases e : t = k
      · rw [e]
        exact gn
      · exact iB t h1 (by omega)
  · rintro f ⟨G, y⟩ ⟨_, gp, I⟩
    refine ⟨G, gp, y, ?_, I⟩
    dsimp only
    rw [F_X6_findGroups_154]
    dsimp only
    rw [if_neg Int32.lt_irrefl]
theorem c_findGroups {h : pg_H} {m : Nat} {N : Nat → Nat} (L : Lay h) (hm : m ≤ 13) (m1 : 1 ≤ m) (hN : ∀ t, 1 ≤ t → t < m → N t < m ∧ pg_i h 63 t = nI (N t)) (hNt : ∀ t, 1 ≤ t → t < m → N t ≠ t) :
    ∃ m' g y, F_X6_findGroups 59 (nI m) h = some (nI m', y) ∧ Ch [64, 65] [] h y ∧ (∀ t, t < m → pg_i y 64 t = nI (g t)) ∧ Grp m m' N g ∧ 1 ≤ m' ∧ m' ≤ m ∧ (m' = m → ∀ t, 1 ≤ t → t < m → ∃ k, iter N k t = 0) := by
  have D := L.kd
  obtain ⟨a, fa, ca, ra⟩ := c_fill (h := h) (r := 64) (n := 13) (-1) ((D 64 (by decide)).trans (by decide)) (by decide)
  have La := ca.lay L (by decide)
  obtain ⟨b, fb, cb, rb⟩ := c_fill (h := a) (r := 65) (n := 13) 0 ((La.kd 65 (by decide)).trans (by decide)) (by decide)
  have Lb := cb.lay La (by decide)
  have s1 : Ch [64] [] b (pg_si b 64 0 0) := (Ch.refl _ _ _).asi (Or.inl (by decide))
  have c1 : Ch [64, 65] [] h (pg_si b 64 0 0) := ((ca.mono (by decide)).trans (cb.mono (by decide))).trans (s1.mono (by decide))
  have ent : F_X6_findGroups 59 (nI m) h = F_X6_findGroups_27 pg_fuel 59 (nI m) 1 1 (pg_si b 64 0 0) := by
    unfold F_X6_findGroups
    rw [nR_59_4 L.kd L.rd, Option.bind_some, fa, Option.bind_some, nR_59_5 La.kd La.rd, Option.bind_some, fb, Option.bind_some, nR_59_4 Lb.kd Lb.rd, Option.bind_some, show (0 : Int32) = nI 0 from rfl, ns_64 Lb.kd (by decide), Option.bind_some]
  rw [ent]
  have b64 : ∀ t, t < m → pg_i (pg_si b 64 0 0) 64 t = enI (if t = 0 then some 0 else none) := fun t ht => by
    rw [si_row]
    by_cases e : t = 0
    · rw [e, up1_eq, if_pos rfl]
      rfl
    · rw [up1_ne e, if_neg e, cb.row (by decide), ra t (by omega)]
      rfl
  have b65 : ∀ t, 1 ≤ t → t < m → pg_i (pg_si b 64 0 0) 65 t = nI 0 := fun t _ ht => by
    rw [si_ne (by decide), rb t (by omega)]
    rfl
  have I0 : GI h m N 1 1 (fun _ => 0) (fun t => if t = 0 then some 0 else none) (pg_si b 64 0 0) :=
    ⟨c1, Nat.le_refl _, Nat.le_refl _, b65, b64, if_pos rfl, fun t h1 h2 => ⟨Nat.zero_lt_one, fun q => by omega⟩, (fun t b h1 h2 q => by
      dsimp only at q
      rw [if_neg (show ¬ t = 0 by omega)] at q
      cases q), fun b h1 h2 => by omega, (fun t u b t1 t2 _ _ q _ => by
      dsimp only at q
      rw [if_neg (show ¬ t = 0 by omega)] at q
      cases q), fun t _ _ q => absurd rfl q⟩
  have M : ∃ G sn gp x, F_X6_findGroups_27 pg_fuel 59 (nI m) 1 1 (pg_si b 64 0 0) = F_X6_findGroups_154 pg_fuel 59 (nI m) (nI G) 1 x ∧ GI h m N m G sn gp x := by
    refine loopI (fun f k (y : Nat × pg_H) => F_X6_findGroups_27 f 59 (nI m) (nI y.1) (nI k) y.2) m (fun k y => 1 ≤ k ∧ ∃ sn gp, GI h m N k y.1 sn gp y.2) (fun o => ∃ G sn gp x, o = F_X6_findGroups_154 pg_fuel 59 (nI m) (nI G) 1 x ∧ GI h m N m G sn gp x) ?_ ?_ 1 (1, pg_si b 64 0 0) m1 ⟨Nat.le_refl _, _, _, I0⟩ pg_fuel (by unfold pg_fuel; omega)
    · rintro f k ⟨G, y⟩ hk ⟨k1, sn, gp, I⟩
      obtain ⟨G', sn', gp', x', e, I'⟩ := c_knot L hm hN k1 hk I (F_X6_findGroups_27 f)
      refine ⟨(G', x'), ?_, by omega, sn', gp', I'⟩
      dsimp only
      rw [F_X6_findGroups_27]
      dsimp only
      rw [if_pos (nI_lt hk (by omega))]
      exact e
    · rintro f ⟨G, y⟩ ⟨_, sn, gp, I⟩
      refine ⟨G, sn, gp, y, ?_, I⟩
      dsimp only
      rw [F_X6_findGroups_27]
      dsimp only
      rw [if_neg Int32.lt_irrefl]
  obtain ⟨G0, sn, gp0, x, ex, cx, G1, Gm, x65, x64, g00, iA, iD, iE, iF, iG⟩ := M
  rw [ex]
  obtain ⟨G, gp, y, ey, cy, Y1, Ym, y64, g0, jB, jD, jE, jF, jX⟩ := c_singles L hm m1 (fun t h1 h2 => (hN t h1 h2).1) ⟨cx, G1, by omega, x64, g00, fun t h1 h2 => by omega, fun t b h1 h2 q => by
    have := iD t b h1 h2 q
    exact ⟨this.1, this.2.1⟩, iE, fun t u b t1 t2 u1 u2 ne q1 q2 => ⟨(iD t b t1 t2 q1).2.2.2, iF t u b t1 t2 u1 u2 q1 q2⟩, fun t b _ q => q⟩
  have some_of : ∀ t, t < m → ∃ b, gp t = some b := fun t ht => by
    by_cases t0 : t = 0
    · exact ⟨0, by rw [t0]; exact g0⟩
    · cases o : gp t with
      | none => exact absurd o (jB t (by omega) ht)
      | some b => exact ⟨b, rfl⟩
  have get : ∀ t, t < m → gp t = some ((gp t).getD 0) := fun t ht => by
    obtain ⟨b, q⟩ := some_of t ht
    rw [q]
    rfl
  have sur : ∀ b, b < G → ∃ t, t < m ∧ (gp t).getD 0 = b := fun b hb => by
    by_cases b0 : b = 0
    · exact ⟨0, m1, by rw [g0, b0]; rfl⟩
    · obtain ⟨t, _, t2, t3⟩ := jE b (by omega) hb
      exact ⟨t, t2, by rw [t3]; rfl⟩
  have rng : ∀ t, 1 ≤ t → t < m → 1 ≤ (gp t).getD 0 ∧ (gp t).getD 0 < G := fun t h1 h2 => jD t _ h1 h2 (get t h2)
  refine ⟨G, fun t => (gp t).getD 0, y, ey, cy, fun t ht => ?_, ⟨by dsimp only; rw [g0]; rfl, rng, sur, fun t u t1 t2 u1 u2 e ne => ?_⟩, Y1, surj_le sur, fun e t h1 h2 => ?_⟩
  · rw [y64 t ht, get t ht]
    rfl
  · dsimp only at e ⊢
    have q1 := get t t2
    have q2 := get u u2
    rw [← e] at q2
    obtain ⟨z1, z2⟩ := jF t u _ t1 t2 u1 u2 ne q1 q2
    refine ⟨by rw [z1]; rfl, z2⟩
  · subst e
    obtain ⟨i, i1, i2⟩ := iG t h1 h2 ((iA t h1 h2).2 h2)
    refine ⟨i, ?_⟩
    by_cases z0 : iter N i t = 0
    · exact z0
    · exfalso
      generalize iter N i t = z at *
      cases o : gp0 z with
      | none =>
        rw [o] at i2
        cases i2
      | some b =>
        have d := iD z b (by omega) i1 o
        have a1 := jX z b i1 o
        have a2 := jX (N z) b (hN z (by omega) i1).1 d.2.2.2
        refine hNt z (by omega) i1 (surj_inj sur (hN z (by omega) i1).1 i1 ?_ ?_)
        · have := (jD z b (by omega) i1 a1).2
          rw [a2]
          exact this
        · rw [a1, a2]
