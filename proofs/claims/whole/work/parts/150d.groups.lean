/-! THE CLASS'S STEMMA: groups -/
theorem sumN_ones (n : Nat) : sumN n (fun _ => 1) = n := by
  induction n with
  | zero => rfl
  | succ n ih =>
    show sumN n (fun _ => 1) + 1 = n + 1
    rw [ih]
theorem surj_sec {m m' : Nat} {g : Nat → Nat} (h : ∀ b, b < m' → ∃ t, t < m ∧ g t = b) : ∃ v : Nat → Nat, ∀ b, b < m' → v b < m ∧ g (v b) = b := choose_to (P := fun b t => t < m ∧ g t = b) h
theorem surj_le {m m' : Nat} {g : Nat → Nat} (h : ∀ b, b < m' → ∃ t, t < m ∧ g t = b) : m' ≤ m := by
  obtain ⟨v, hv⟩ := surj_sec h
  have z := sumN_inj_le (n := m') (m := m) (v := v) (f := fun _ => 1) (fun b hb => (hv b hb).1) (fun i j hi hj e => by
    have a := (hv i hi).2
    have b := (hv j hj).2
    rw [e] at a
    omega)
  rw [sumN_ones, sumN_ones] at z
  exact z
theorem surj_inj {m : Nat} {g : Nat → Nat} (h : ∀ b, b < m → ∃ t, t < m ∧ g t = b) {t u : Nat} (ht : t < m) (hu : u < m) (gt : g t < m) (e : g t = g u) : t = u := by
  by_cases ne : t = u
  · exact ne
  exfalso
  obtain ⟨v, hv⟩ := surj_sec h
  have inj : ∀ i j, i < m → j < m → v i = v j → i = j := fun i j hi hj e => by
    have a := (hv i hi).2
    have b := (hv j hj).2
    rw [e] at a
    omega
  have miss : ∀ z, z < m → (∀ b, b < m → v b ≠ z) → False := fun z hz q => by
    have y := sumN_inj_le (n := m) (m := m) (v := v) (f := fun t => if t = z then 0 else 1) (fun b hb => (hv b hb).1) inj
    have o : sumN m (fun t => (if t = z then 0 else 1)) + sumN m (fun t => if t = z then 1 else 0) = sumN m (fun _ => 1) := by
      rw [← sumN_add]
      exact sumN_cong (fun t _ => by split <;> rfl)
    rw [sumN_one hz, sumN_ones] at o
    have l : sumN m (fun b => if v b = z then 0 else 1) = sumN m (fun _ => 1) := sumN_cong (fun b hb => if_neg (q b hb))
    rw [sumN_ones] at l
    omega
  by_cases q : v (g t) = t
  · refine miss u hu (fun b hb z => ?_)
    have := (hv b hb).2
    rw [z, ← e] at this
    rw [← this, q] at z
    exact ne z
  · refine miss t ht (fun b hb z => ?_)
    have := (hv b hb).2
    rw [z] at this
    rw [← this] at z
    exact q z
def GI (h : pg_H) (m : Nat) (N : Nat → Nat) (k G : Nat) (sn : Nat → Nat) (gp : Nat → Option Nat) (x : pg_H) : Prop := Ch [64, 65] [] h x ∧ 1 ≤ G ∧ G ≤ k ∧ (∀ t, 1 ≤ t → t < m → pg_i x 65 t = nI (sn t)) ∧ (∀ t, t < m → pg_i x 64 t = enI (gp t)) ∧ gp 0 = some 0 ∧
  (∀ t, 1 ≤ t → t < m → sn t < k ∧ (t < k → sn t ≠ 0)) ∧ (∀ t b, 1 ≤ t → t < m → gp t = some b → 1 ≤ b ∧ b < G ∧ sn t ≠ 0 ∧ gp (N t) = some b) ∧ (∀ b, 1 ≤ b → b < G → ∃ t, 1 ≤ t ∧ t < m ∧ gp t = some b) ∧
  (∀ t u b, 1 ≤ t → t < m → 1 ≤ u → u < m → gp t = some b → gp u = some b → ∃ k, iter N k t = u) ∧ ∀ t, 1 ≤ t → t < m → sn t ≠ 0 → ∃ i, iter N i t < m ∧ (gp (iter N i t)).isSome = true
theorem c_knot {h : pg_H} {m : Nat} {N : Nat → Nat} (L : Lay h) (hm : m ≤ 13) (hN : ∀ t, 1 ≤ t → t < m → N t < m ∧ pg_i h 63 t = nI (N t)) {k G : Nat} (k1 : 1 ≤ k) (k2 : k < m) {sn : Nat → Nat} {gp : Nat → Option Nat} {x : pg_H} (I : GI h m N k G sn gp x) (K : Nat → Int32 → Int32 → Int32 → pg_H → Option (Int32 × pg_H)) :
    ∃ G' sn' gp' x', F_X6_findGroups_38 K pg_fuel 59 (nI m) (nI G) (nI k) (nI k) 0 x = K 59 (nI m) (nI G') (nI (k + 1)) x' ∧ GI h m N (k + 1) G' sn' gp' x' := by
  obtain ⟨cx, G1, Gk, r65, r64, gp0, iA, iD, iE, iF, iG⟩ := I
  have Lx := cx.lay L (by decide)
  have hNx : ∀ t, 1 ≤ t → t < m → N t < m ∧ pg_i x 63 t = nI (N t) := fun t h1 h2 => ⟨(hN t h1 h2).1, by rw [cx.row (by decide)]; exact (hN t h1 h2).2⟩
  obtain ⟨s, sn', y, e1, cy, y65, mk, fr, ex⟩ := c_walk (G := G) Lx hm k1 k2 hNx (fun t h1 h2 => ⟨(iA t h1 h2).1, r65 t h1 h2⟩) K
  have Ly := cy.lay Lx (by decide)
  have cxy : Ch [64, 65] [] h y := cx.trans (cy.mono (by decide))
  have y64 : ∀ t, t < m → pg_i y 64 t = enI (gp t) := fun t ht => by rw [cy.row (by decide)]; exact r64 t ht
  rw [e1]
  unfold F_X6_findGroups_83
  have nA : ∀ t, 1 ≤ t → t < m → sn' t < k + 1 ∧ (t < k + 1 → sn' t ≠ 0) := fun t h1 h2 => by
    obtain ⟨a1, a2⟩ := iA t h1 h2
    rcases mk t h1 h2 with ⟨z, _⟩ | ⟨z, z2⟩
    · rw [z]
      exact ⟨by omega, fun _ => by omega⟩
    · rw [z]
      refine ⟨by omega, fun q => ?_⟩
      by_cases tk : t = k
      · subst tk
        by_cases s0 : s = 0
        · subst s0
          rcases ex with q | ⟨_, _, q⟩
          · have : t = 0 := q
            omega
          · have q : sn' t ≠ 0 := q
            rw [z] at q
            exact q
        · exact absurd rfl (z2 0 (by omega))
      · exact a2 (by omega)
  have up : ∀ t, 1 ≤ t → t < m → sn t ≠ 0 → sn' t ≠ 0 := fun t h1 h2 q => by
    rcases mk t h1 h2 with ⟨z, _⟩ | ⟨z, _⟩
    · omega
    · rw [z]
      exact q
  have nG : ∀ gq : Nat → Option Nat, (∀ t b, t < m → gp t = some b → gq t = some b) → (∃ i, iter N i (iter N s k) < m ∧ (gq (iter N i (iter N s k))).isSome = true) → ∀ t, 1 ≤ t → t < m → sn' t ≠ 0 → ∃ i, iter N i t < m ∧ (gq (iter N i t)).isSome = true := fun gq ext ⟨i0, q1, q2⟩ t h1 h2 q => by
    rcases mk t h1 h2 with ⟨_, j, j1, j2⟩ | ⟨z, _⟩
    · refine ⟨s - j + i0, ?_⟩
      rw [← j2, ← iter_add, show j + (s - j + i0) = s + i0 by omega, iter_add]
      exact ⟨q1, q2⟩
    · rw [z] at q
      obtain ⟨i, i1, i2⟩ := iG t h1 h2 q
      refine ⟨i, i1, ?_⟩
      cases o : gp (iter N i t) with
      | none =>
        rw [o] at i2
        cases i2
      | some b =>
        rw [ext _ b i1 o]
        rfl
  have f146 : F_X6_findGroups_146 K 59 (nI m) (nI G) (nI k) y = K 59 (nI m) (nI G) (nI (k + 1)) y := by
    unfold F_X6_findGroups_146
    rw [nI_1]
  have keep : (∃ i, iter N i (iter N s k) < m ∧ (gp (iter N i (iter N s k))).isSome = true) → GI h m N (k + 1) G sn' gp y := fun q =>
    ⟨cxy, G1, by omega, y65, y64, gp0, nA, fun t b h1 h2 z => by
      obtain ⟨d1, d2, d3, d4⟩ := iD t b h1 h2 z
      exact ⟨d1, d2, up t h1 h2 d3, d4⟩, iE, iF, nG gp (fun _ _ _ z => z) q⟩
  by_cases a0 : iter N s k = 0
  · rw [if_pos (show nI (iter N s k) = (0 : Int32) by rw [a0]; rfl), f146]
    exact ⟨G, sn', gp, y, rfl, keep ⟨0, by
      show iter N s k < m
      omega, by
      show (gp (iter N s k)).isSome = true
      rw [a0, gp0]
      rfl⟩⟩
  · obtain ⟨b1, b2, b3⟩ : 1 ≤ iter N s k ∧ iter N s k < m ∧ sn' (iter N s k) ≠ 0 := by
      rcases ex with q | q
      · exact absurd q a0
      · exact q
    rw [if_neg (show ¬ nI (iter N s k) = (0 : Int32) from fun z => a0 ((nI_eq (b := 0) (by omega) (by decide)).mp z)), nR_59_5 Ly.kd Ly.rd, Option.bind_some, na_65 Ly.kd (by omega), Option.bind_some, y65 _ b1 b2]
    by_cases sk : sn' (iter N s k) = k
    · rw [if_pos (show nI (sn' (iter N s k)) = nI k by rw [sk])]
      obtain ⟨j0, j1, j2⟩ : ∃ j, j < s ∧ iter N j k = iter N s k := by
        rcases mk _ b1 b2 with ⟨_, q⟩ | ⟨z, _⟩
        · exact q
        · have := (iA _ b1 b2).1
          omega
      have ra := ring_all (N := N) (a := k) j1 j2.symm
      rw [j2] at ra
      have hr : ∀ j, 1 ≤ iter N j (iter N s k) ∧ iter N j (iter N s k) < m ∧ gp (iter N j (iter N s k)) = none := fun j => by
        obtain ⟨i, i1, i2⟩ := ra j
        obtain ⟨f1, f2, f3⟩ := fr i i1
        rw [i2]
        refine ⟨f1, f2, ?_⟩
        cases o : gp (iter N i k) with
        | none => rfl
        | some b => exact absurd f3 (iD _ b f1 f2 o).2.2.1
      have per : iter N (s - j0) (iter N s k) = iter N s k := by
        rw [← j2, ← iter_add, show j0 + (s - j0) = s by omega]
        exact j2.symm
      obtain ⟨s', gp', z, e2, cz, z64, zm, jc, jc1, jc2⟩ := c_ring (G := G) (k := k) (a0 := iter N s k) (gp := gp) Ly hm (by omega) (fun t h1 h2 => by rw [cy.row (by decide)]; exact (hNx t h1 h2).2) y64 (fun t b h2 q => by
        by_cases t0 : t = 0
        · rw [t0, gp0] at q
          injection q with q
          omega
        · exact (iD t b (by omega) h2 q).2.1) hr K
      rw [e2]
      have mkd : ∀ j, j < s' → gp' (iter N j (iter N s k)) = some G := fun j hj => by
        rcases zm _ (hr j).2.1 with ⟨q, _⟩ | ⟨_, q⟩
        · exact q
        · exact absurd rfl (q j hj)
      have ext : ∀ t b, t < m → gp t = some b → gp' t = some b := fun t b h2 q => by
        rcases zm t h2 with ⟨_, j, _, w⟩ | ⟨w, _⟩
        · have := (hr j).2.2
          rw [w, q] at this
          cases this
        · rw [w]
          exact q
      refine ⟨G + 1, sn', gp', z, rfl, cxy.trans (cz.mono (by decide)), by omega, by omega, fun t h1 h2 => by rw [cz.row (by decide)]; exact y65 t h1 h2, z64, ext 0 0 (by omega) gp0, nA, fun t b h1 h2 q => ?_, fun b h1 h2 => ?_, fun t u b t1 t2 u1 u2 q1 q2 => ?_, nG gp' ext ⟨0, b2, by
        show (gp' (iter N s k)).isSome = true
        rw [show gp' (iter N s k) = some G from mkd 0 (by omega)]
        rfl⟩⟩
      · rcases zm t h2 with ⟨w, j, w1, w2⟩ | ⟨w, _⟩
        · rw [q] at w
          injection w with w
          subst w
          refine ⟨G1, by omega, ?_, ?_⟩
          · obtain ⟨i, i1, i2⟩ := ra j
            have it : iter N i k = t := by rw [← i2, w2]
            rcases mk t h1 h2 with ⟨v, _⟩ | ⟨_, v⟩
            · omega
            · exact absurd it (v i i1)
          · rw [← w2, ← iter_succ N]
            by_cases jj : j + 1 = s'
            · rw [jj, ← jc2]
              exact mkd jc jc1
            · exact mkd (j + 1) (by omega)
        · rw [w] at q
          obtain ⟨d1, d2, d3, d4⟩ := iD t b h1 h2 q
          exact ⟨d1, by omega, up t h1 h2 d3, ext _ b (hN t h1 h2).1 d4⟩
      · by_cases bG : b = G
        · refine ⟨iter N s k, b1, b2, ?_⟩
          rw [bG]
          exact mkd 0 (by omega)
        · obtain ⟨t, t1, t2, t3⟩ := iE b h1 (by omega)
          exact ⟨t, t1, t2, ext t b t2 t3⟩
      · rcases zm t t2 with ⟨w, j, w1, w2⟩ | ⟨w, _⟩
        · rcases zm u u2 with ⟨v, i, v1, v2⟩ | ⟨v, _⟩
          · rw [← w2, ← v2]
            exact ring_to (p := s - j0) (by omega) per j i
          · exfalso
            rw [v] at q2
            have := (iD u b u1 u2 q2).2.1
            rw [q1] at w
            injection w with w
            omega
        · rw [w] at q1
          rcases zm u u2 with ⟨v, i, v1, v2⟩ | ⟨v, _⟩
          · exfalso
            have := (iD t b t1 t2 q1).2.1
            rw [q2] at v
            injection v with v
            omega
          · rw [v] at q2
            exact iF t u b t1 t2 u1 u2 q1 q2
    · have sl := (nA _ b1 b2).1
      rw [if_neg (show ¬ nI (sn' (iter N s k)) = nI k from fun z => sk ((nI_eq (by omega) (by omega)).mp z)), f146]
      refine ⟨G, sn', gp, y, rfl, keep ?_⟩
      rcases mk _ b1 b2 with ⟨z, _⟩ | ⟨z, _⟩
      · exact absurd z sk
      · rw [z] at b3
        exact iG _ b1 b2 b3
