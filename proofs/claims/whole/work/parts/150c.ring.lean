/-! THE CLASS'S STEMMA: rings -/
theorem enI_none {o : Option Nat} (h : ∀ n, o = some n → n < 2 ^ 31) : enI o = -1 ↔ o = none := by
  cases o with
  | none => exact ⟨fun _ => rfl, fun _ => rfl⟩
  | some n => exact ⟨fun z => absurd z (nI_no (h n rfl)), fun z => by cases z⟩
theorem c_ring {h : pg_H} {m G k a0 : Nat} {N : Nat → Nat} {gp : Nat → Option Nat} (L : Lay h) (hm : m ≤ 13) (hG : G < 1000) (hN : ∀ t, 1 ≤ t → t < m → pg_i h 63 t = nI (N t)) (hg : ∀ t, t < m → pg_i h 64 t = enI (gp t)) (gb : ∀ t b, t < m → gp t = some b → b < G) (hr : ∀ j, 1 ≤ iter N j a0 ∧ iter N j a0 < m ∧ gp (iter N j a0) = none) (K : Nat → Int32 → Int32 → Int32 → pg_H → Option (Int32 × pg_H)) :
    ∃ (s : Nat) (gp' : Nat → Option Nat) (y : pg_H), F_X6_findGroups_102 K pg_fuel 59 (nI m) (nI G) (nI k) (nI a0) 0 h = K 59 (nI m) (nI (G + 1)) (nI (k + 1)) y ∧ Ch [64] [] h y ∧ (∀ t, t < m → pg_i y 64 t = enI (gp' t)) ∧ (∀ t, t < m → (gp' t = some G ∧ ∃ j, j < s ∧ iter N j a0 = t) ∨ (gp' t = gp t ∧ ∀ j, j < s → iter N j a0 ≠ t)) ∧ ∃ j, j < s ∧ iter N j a0 = iter N s a0 := by
  refine loopE (fun f i (y : pg_H) => F_X6_findGroups_102 K f 59 (nI m) (nI G) (nI k) (nI (iter N i a0)) (nI i) y) 13
    (fun i y => Ch [64] [] h y ∧ ∃ gp' : Nat → Option Nat, (∀ t, t < m → pg_i y 64 t = enI (gp' t)) ∧ (∀ t, t < m → (gp' t = some G ∧ ∃ j, j < i ∧ iter N j a0 = t) ∨ (gp' t = gp t ∧ ∀ j, j < i → iter N j a0 ≠ t)) ∧ cntZ m (fun t => (gp' t).isNone) + i ≤ 12)
    (fun o => ∃ (s : Nat) (gp' : Nat → Option Nat) (y : pg_H), o = K 59 (nI m) (nI (G + 1)) (nI (k + 1)) y ∧ Ch [64] [] h y ∧ (∀ t, t < m → pg_i y 64 t = enI (gp' t)) ∧ (∀ t, t < m → (gp' t = some G ∧ ∃ j, j < s ∧ iter N j a0 = t) ∨ (gp' t = gp t ∧ ∀ j, j < s → iter N j a0 ≠ t)) ∧ ∃ j, j < s ∧ iter N j a0 = iter N s a0) ?_ ?_ 0 h (Nat.zero_le _) ⟨Ch.refl _ _ _, gp, hg, fun t _ => Or.inr ⟨rfl, fun j hj => absurd hj (Nat.not_lt_zero j)⟩, by rw [Nat.add_zero]; exact cntZ_le _⟩ pg_fuel (by unfold pg_fuel; omega)
  · rintro f i y hi ⟨cy, gp', y1, y2, y3⟩
    have Ly := cy.lay L (by decide)
    obtain ⟨r1, r2, r3⟩ := hr i
    rw [F_X6_findGroups_102]
    dsimp only
    have bd : ∀ n, gp' (iter N i a0) = some n → n < 2 ^ 31 := fun n z => by
      rcases y2 _ r2 with ⟨q, _⟩ | ⟨q, _⟩
      · rw [q] at z
        injection z with z
        omega
      · rw [q] at z
        have := gb _ n r2 z
        omega
    rw [if_pos (show nI i < (13 : Int32) from nI_lt (b := 13) hi (by decide)), nR_59_4 Ly.kd Ly.rd, Option.bind_some, na_64 Ly.kd (by omega), Option.bind_some, y1 _ r2]
    by_cases gn : gp' (iter N i a0) = none
    · left
      rw [if_pos ((enI_none bd).mpr gn), Option.bind_some, ns_64 Ly.kd (by omega), Option.bind_some]
      have s1 : Ch [64] [] y (pg_si y 64 (iter N i a0) (nI G)) := (Ch.refl _ _ _).asi (Or.inl (by decide))
      have L1 := s1.lay Ly (by decide)
      have e63 : pg_i (pg_si y 64 (iter N i a0) (nI G)) 63 (iter N i a0) = nI (iter N (i + 1) a0) := by
        rw [(cy.trans s1).row (by decide), iter_succ]
        exact hN _ r1 r2
      refine ⟨pg_si y 64 (iter N i a0) (nI G), ?_, cy.trans s1, fun t => if t = iter N i a0 then some G else gp' t, fun t h2 => ?_, fun t h2 => ?_, ?_⟩
      · rw [nR_59_3 L1.kd L1.rd, Option.bind_some, na_63 L1.kd (by omega), e63, Option.bind_some, nI_1]
      · dsimp only
        rw [si_row]
        by_cases e : t = iter N i a0
        · rw [if_pos e, e, up1_eq]
          rfl
        · rw [if_neg e, up1_ne e]
          exact y1 t h2
      · dsimp only
        by_cases e : t = iter N i a0
        · rw [if_pos e]
          exact Or.inl ⟨rfl, i, by omega, e.symm⟩
        · rw [if_neg e]
          rcases y2 t h2 with ⟨z, j, j1, j2⟩ | ⟨z, z2⟩
          · exact Or.inl ⟨z, j, by omega, j2⟩
          · refine Or.inr ⟨z, fun j hj q => ?_⟩
            by_cases ji : j = i
            · rw [ji] at q
              exact e q.symm
            · exact z2 j (by omega) q
      · show cntZ m (fun t => (if t = iter N i a0 then some G else gp' t).isNone) + (i + 1) ≤ 12
        have := cntZ_step hm (f := fun t => (gp' t).isNone) (g := fun t => (if t = iter N i a0 then some G else gp' t).isNone) r1 r2 (by rw [gn]; rfl) (by
          rw [if_pos rfl]
          rfl) (fun t _ _ ne => by
          rw [if_neg ne])
        omega
    · right
      rw [if_neg (fun z => gn ((enI_none bd).mp z))]
      refine ⟨i, gp', y, ?_, cy, y1, y2, ?_⟩
      · unfold F_X6_findGroups_143 F_X6_findGroups_146
        rw [nI_1, nI_1]
      · rcases y2 _ r2 with ⟨_, z⟩ | ⟨q, _⟩
        · exact z
        · rw [q, r3] at gn
          exact absurd rfl gn
  · rintro f y ⟨_, gp', _, _, y3⟩
    omega
/-- from one of a ring to another -/
theorem ring_to {N : Nat → Nat} {a p : Nat} (hp : 1 ≤ p) (e : iter N p a = a) (i j : Nat) : ∃ k, iter N k (iter N i a) = iter N j a := by
  have per : ∀ n, iter N (p * n) a = a := by
    intro n
    induction n with
    | zero => rfl
    | succ n ih => rw [Nat.mul_succ, iter_add, ih, e]
  refine ⟨p * (i + 1) - i + j, ?_⟩
  have le : i ≤ p * (i + 1) := Nat.le_trans (by omega : i ≤ 1 * (i + 1)) (Nat.mul_le_mul_right _ hp)
  rw [← iter_add, show i + (p * (i + 1) - i + j) = p * (i + 1) + j by omega, iter_add, per]
theorem ring_all {N : Nat → Nat} {a j0 s : Nat} (h0 : j0 < s) (e : iter N s a = iter N j0 a) : ∀ i, ∃ j, j < s ∧ iter N i (iter N j0 a) = iter N j a := by
  intro i
  induction i with
  | zero => exact ⟨j0, h0, rfl⟩
  | succ i ih =>
    obtain ⟨j, j1, j2⟩ := ih
    rw [iter_succ, j2, ← iter_succ N]
    by_cases q : j + 1 = s
    · exact ⟨j0, h0, by rw [q, e]⟩
    · exact ⟨j + 1, by omega, rfl⟩
