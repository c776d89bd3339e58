/-! THE CLASS'S STEMMA: walks over nearest ones -/
def cntZ (m : Nat) (f : Nat → Bool) : Nat := sumN 13 fun t => if decide (1 ≤ t) && decide (t < m) && f t then 1 else 0
theorem cntZ_le {m : Nat} (f : Nat → Bool) : cntZ m f ≤ 12 := by
  have z : sumN 13 (fun t => if decide (1 ≤ t) && decide (t < m) && f t then 1 else 0) ≤ sumN 13 (fun t => if t = 0 then 0 else 1) := sumN_mono (fun t _ => by
    by_cases e : t = 0
    · rw [e]
      exact Nat.le_refl _
    · rw [if_neg e]
      split <;> omega)
  exact Nat.le_trans z (by decide)
theorem cntZ_step {m : Nat} (hm : m ≤ 13) {f g : Nat → Bool} {a : Nat} (a1 : 1 ≤ a) (a2 : a < m) (fa : f a = true) (ga : g a = false) (h : ∀ t, 1 ≤ t → t < m → t ≠ a → g t = f t) : cntZ m g + 1 = cntZ m f := by
  have key : sumN 13 (fun t => if decide (1 ≤ t) && decide (t < m) && f t then 1 else 0) = sumN 13 (fun t => (if decide (1 ≤ t) && decide (t < m) && g t then 1 else 0) + if t = a then 1 else 0) := by
    refine sumN_cong (fun t _ => ?_)
    by_cases e : t = a
    · subst e
      rw [ga, fa, if_pos (show t = t from rfl), decide_eq_true a1, decide_eq_true a2]
      rfl
    · rw [if_neg e, Nat.add_zero]
      by_cases q : 1 ≤ t ∧ t < m
      · rw [h t q.1 q.2 e]
      · have : (decide (1 ≤ t) && decide (t < m)) = false := by
          by_cases z : 1 ≤ t
          · rw [decide_eq_false (show ¬ t < m from fun y => q ⟨z, y⟩), Bool.and_false]
          · rw [decide_eq_false z]
            rfl
        rw [this, Bool.false_and, Bool.false_and]
  rw [sumN_add, sumN_one (by omega)] at key
  exact key.symm
/-- what a walk of s steps from a has marked -/
def Mkd (N : Nat → Nat) (m a s : Nat) (old new : Nat → Nat) (k : Nat) : Prop := ∀ t, 1 ≤ t → t < m → (new t = k ∧ ∃ j, j < s ∧ iter N j a = t) ∨ (new t = old t ∧ ∀ j, j < s → iter N j a ≠ t)
theorem c_walk {h : pg_H} {m G k : Nat} {N sn : Nat → Nat} (L : Lay h) (hm : m ≤ 13) (k1 : 1 ≤ k) (k2 : k < m) (hN : ∀ t, 1 ≤ t → t < m → N t < m ∧ pg_i h 63 t = nI (N t)) (hs : ∀ t, 1 ≤ t → t < m → sn t < k ∧ pg_i h 65 t = nI (sn t)) (K : Nat → Int32 → Int32 → Int32 → pg_H → Option (Int32 × pg_H)) :
    ∃ s sn' y, F_X6_findGroups_38 K pg_fuel 59 (nI m) (nI G) (nI k) (nI k) 0 h = F_X6_findGroups_83 K 59 (nI m) (nI G) (nI k) (nI (iter N s k)) y ∧ Ch [65] [] h y ∧ (∀ t, 1 ≤ t → t < m → pg_i y 65 t = nI (sn' t)) ∧ Mkd N m k s sn sn' k ∧ (∀ j, j < s → 1 ≤ iter N j k ∧ iter N j k < m ∧ sn (iter N j k) = 0) ∧ (iter N s k = 0 ∨ (1 ≤ iter N s k ∧ iter N s k < m ∧ sn' (iter N s k) ≠ 0)) := by
  refine loopE (fun f i (x : Nat × pg_H) => F_X6_findGroups_38 K f 59 (nI m) (nI G) (nI k) (nI x.1) (nI i) x.2) 13
    (fun i x => x.1 = iter N i k ∧ x.1 < m ∧ Ch [65] [] h x.2 ∧ ∃ sn', (∀ t, 1 ≤ t → t < m → pg_i x.2 65 t = nI (sn' t)) ∧ Mkd N m k i sn sn' k ∧ (∀ j, j < i → 1 ≤ iter N j k ∧ iter N j k < m ∧ sn (iter N j k) = 0) ∧ cntZ m (fun t => decide (sn' t = 0)) + i ≤ 12)
    (fun o => ∃ s sn' y, o = F_X6_findGroups_83 K 59 (nI m) (nI G) (nI k) (nI (iter N s k)) y ∧ Ch [65] [] h y ∧ (∀ t, 1 ≤ t → t < m → pg_i y 65 t = nI (sn' t)) ∧ Mkd N m k s sn sn' k ∧ (∀ j, j < s → 1 ≤ iter N j k ∧ iter N j k < m ∧ sn (iter N j k) = 0) ∧ (iter N s k = 0 ∨ (1 ≤ iter N s k ∧ iter N s k < m ∧ sn' (iter N s k) ≠ 0))) ?_ ?_ 0 (k, h) (Nat.zero_le _) ⟨rfl, k2, Ch.refl _ _ _, sn, fun t h1 h2 => (hs t h1 h2).2, fun t _ _ => Or.inr ⟨rfl, fun j hj => absurd hj (Nat.not_lt_zero j)⟩, fun j hj => absurd hj (Nat.not_lt_zero j), by rw [Nat.add_zero]; exact cntZ_le _⟩ pg_fuel (by unfold pg_fuel; omega)
  · rintro f i ⟨a, y⟩ hi ⟨x1, x2, cy, sn', y1, y2, y3, y4⟩
    dsimp only at x1 x2 cy y1 ⊢
    have Ly := cy.lay L (by decide)
    rw [F_X6_findGroups_38]
    dsimp only
    rw [if_pos (show nI i < (13 : Int32) from nI_lt (b := 13) hi (by decide))]
    by_cases a0 : a = 0
    · right
      rw [if_pos (show nI a = (0 : Int32) by rw [a0]; rfl), x1]
      exact ⟨i, sn', y, rfl, cy, y1, y2, y3, Or.inl (by rw [← x1]; exact a0)⟩
    · have a1 : 1 ≤ a := by omega
      rw [if_neg (show ¬ nI a = (0 : Int32) from fun z => a0 ((nI_eq (b := 0) (by omega) (by decide)).mp z)), nR_59_5 Ly.kd Ly.rd, Option.bind_some, na_65 Ly.kd (by omega), Option.bind_some, y1 a a1 x2]
      have snl : sn' a < 2 ^ 31 := by
        rcases y2 a a1 x2 with ⟨z, _⟩ | ⟨z, _⟩
        · omega
        · have := (hs a a1 x2).1
          omega
      by_cases s0 : sn' a = 0
      · left
        rw [if_pos (show nI (sn' a) = (0 : Int32) by rw [s0]; rfl), Option.bind_some, ns_65 Ly.kd (by omega), Option.bind_some]
        have s1 : Ch [65] [] y (pg_si y 65 a (nI k)) := (Ch.refl _ _ _).asi (Or.inl (by decide))
        have L1 := s1.lay Ly (by decide)
        have e63 : pg_i (pg_si y 65 a (nI k)) 63 a = nI (N a) := by
          rw [(cy.trans s1).row (by decide)]
          exact (hN a a1 x2).2
        have fr : sn a = 0 ∧ ∀ j, j < i → iter N j k ≠ a := by
          rcases y2 a a1 x2 with ⟨z, _⟩ | ⟨z, z2⟩
          · omega
          · exact ⟨by omega, z2⟩
        refine ⟨(N a, pg_si y 65 a (nI k)), ?_, ?_, (hN a a1 x2).1, cy.trans s1, fun t => if t = a then k else sn' t, fun t h1 h2 => ?_, fun t h1 h2 => ?_, fun j hj => ?_, ?_⟩
        · dsimp only
          rw [nR_59_3 L1.kd L1.rd, Option.bind_some, na_63 L1.kd (by omega), e63, Option.bind_some, nI_1]
        · rw [iter_succ, ← x1]
        · dsimp only
          rw [si_row]
          by_cases e : t = a
          · rw [if_pos e, e, up1_eq]
          · rw [if_neg e, up1_ne e]
            exact y1 t h1 h2
        · dsimp only
          by_cases e : t = a
          · rw [if_pos e]
            exact Or.inl ⟨rfl, i, by omega, by rw [← x1]; exact e.symm⟩
          · rw [if_neg e]
            rcases y2 t h1 h2 with ⟨z, j, j1, j2⟩ | ⟨z, z2⟩
            · exact Or.inl ⟨z, j, by omega, j2⟩
            · refine Or.inr ⟨z, fun j hj q => ?_⟩
              by_cases ji : j = i
              · rw [ji, ← x1] at q
                exact e q.symm
              · exact z2 j (by omega) q
        · by_cases ji : j = i
          · rw [ji, ← x1]
            exact ⟨a1, x2, fr.1⟩
          · exact y3 j (by omega)
        · show cntZ m (fun t => decide ((if t = a then k else sn' t) = 0)) + (i + 1) ≤ 12
          have := cntZ_step hm (f := fun t => decide (sn' t = 0)) (g := fun t => decide ((if t = a then k else sn' t) = 0)) a1 x2 (decide_eq_true s0) (by
            rw [if_pos rfl]
            exact decide_eq_false (by omega)) (fun t _ _ ne => by
            rw [if_neg ne])
          omega
      · right
        rw [if_neg (show ¬ nI (sn' a) = (0 : Int32) from fun z => s0 ((nI_eq (b := 0) snl (by decide)).mp z)), x1]
        exact ⟨i, sn', y, rfl, cy, y1, y2, y3, Or.inr (by rw [← x1]; exact ⟨a1, x2, s0⟩)⟩
  · rintro f ⟨a, y⟩ ⟨_, _, _, sn', _, _, _, y4⟩
    omega
