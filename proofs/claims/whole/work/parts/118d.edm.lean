/-! TREES: contracting rings (Edmonds), on plain functions -/
def iter (N : Nat → Nat) : Nat → Nat → Nat
  | 0, t => t
  | k + 1, t => iter N k (N t)
theorem iter_add (N : Nat → Nat) (a b t : Nat) : iter N (a + b) t = iter N b (iter N a t) := by
  induction a generalizing t with
  | zero => rw [Nat.zero_add]; rfl
  | succ a ih =>
    rw [Nat.add_right_comm]
    exact ih (N t)
theorem iter_succ (N : Nat → Nat) (k t : Nat) : iter N (k + 1) t = N (iter N k t) := iter_add N k 1 t
/-- every knot but 0 hangs on one, none on itself -/
def Arb (m : Nat) (E : Nat → Nat → Option Nat) (P : Nat → Nat) : Prop := (∀ t, 1 ≤ t → t < m → P t < m ∧ (E (P t) t).isSome = true) ∧ ∃ rk : Nat → Nat, ∀ t, 1 ≤ t → t < m → rk (P t) < rk t
def aC (m : Nat) (f : Nat → Nat) : Nat := sumN m fun t => if t = 0 then 0 else f t
def aCost (m : Nat) (E : Nat → Nat → Option Nat) (P : Nat → Nat) : Nat := aC m fun t => (E (P t) t).getD 0
def IsMin (m : Nat) (E : Nat → Nat → Option Nat) (r : Option Nat) : Prop := (∀ P, Arb m E P → ∃ s, r = some s ∧ s ≤ aCost m E P) ∧ ∀ s, r = some s → ∃ P, Arb m E P ∧ aCost m E P = s
/-- each knot's nearest -/
def Near (m : Nat) (E : Nat → Nat → Option Nat) (N : Nat → Nat) (wt : Nat → Nat) : Prop := ∀ t, 1 ≤ t → t < m → (N t < m ∧ N t ≠ t ∧ E (N t) t = some (wt t)) ∧ ∀ f w, f < m → f ≠ t → E f t = some w → wt t ≤ w
theorem aC_cong {m : Nat} {f g : Nat → Nat} (h : ∀ t, 1 ≤ t → t < m → f t = g t) : aC m f = aC m g := sumN_cong (fun t ht => by
  by_cases e : t = 0
  · rw [if_pos e, if_pos e]
  · rw [if_neg e, if_neg e, h t (by omega) ht])
theorem aC_add {m : Nat} {f g : Nat → Nat} : aC m (fun t => f t + g t) = aC m f + aC m g := by
  unfold aC
  rw [← sumN_add]
  refine sumN_cong (fun t _ => ?_)
  by_cases e : t = 0
  · rw [if_pos e, if_pos e, if_pos e]
  · rw [if_neg e, if_neg e, if_neg e]
theorem aC_mono {m : Nat} {f g : Nat → Nat} (h : ∀ t, 1 ≤ t → t < m → f t ≤ g t) : aC m f ≤ aC m g := sumN_mono (fun t ht => by
  by_cases e : t = 0
  · rw [if_pos e]
    exact Nat.zero_le _
  · rw [if_neg e, if_neg e]
    exact h t (by omega) ht)
/-- no ring: the nearest make a tree -/
theorem near_tree {m : Nat} {E : Nat → Nat → Option Nat} {N wt : Nat → Nat} (hn : Near m E N wt) (hr : ∀ t, 1 ≤ t → t < m → ∃ k, iter N k t = 0) : IsMin m E (some (aC m wt)) := by
  constructor
  · intro P hP
    refine ⟨_, rfl, aC_mono (fun t h1 h2 => ?_)⟩
    obtain ⟨q1, q2⟩ := hP.1 t h1 h2
    obtain ⟨rk, hrk⟩ := hP.2
    obtain ⟨w, hw⟩ := Option.isSome_iff_exists.mp q2
    rw [hw]
    refine (hn t h1 h2).2 (P t) w q1 (fun e => ?_) hw
    have := hrk t h1 h2
    rw [e] at this
    omega
  · intro s hs
    injection hs with hs
    refine ⟨N, ⟨fun t h1 h2 => ?_, ?_⟩, ?_⟩
    · obtain ⟨⟨a, _, b⟩, _⟩ := hn t h1 h2
      rw [b]
      exact ⟨a, rfl⟩
    · have ex : ∃ rk : Nat → Nat, ∀ t, t < m → (t = 0 ∧ rk t = 0) ∨ (1 ≤ t ∧ iter N (rk t) t = 0 ∧ ∀ k, k < rk t → iter N k t ≠ 0) := by
        have e1 : ∀ t, ∃ k, t < m → (t = 0 ∧ k = 0) ∨ (1 ≤ t ∧ iter N k t = 0 ∧ ∀ j, j < k → iter N j t ≠ 0) := by
          intro t
          by_cases h0 : t = 0
          · exact ⟨0, fun _ => Or.inl ⟨h0, rfl⟩⟩
          · by_cases hm : t < m
            · obtain ⟨k, hk⟩ := hr t (by omega) hm
              refine ⟨lst (fun j => decide (iter N j t = 0)) (k + 1), fun _ => Or.inr ⟨by omega, ?_, fun j hj e => ?_⟩⟩
              · have l := lst_lt (p := fun j => decide (iter N j t = 0)) (n := k + 1) (k := k) (by omega) (decide_eq_true hk)
                exact of_decide_eq_true (lst_is (p := fun j => decide (iter N j t = 0)) (n := k + 1) (by omega))
              · have := lst_min hj
                rw [decide_eq_true e] at this
                cases this
            · exact ⟨0, fun h => absurd h hm⟩
        exact ⟨fun t => Classical.choose (e1 t), fun t => Classical.choose_spec (e1 t)⟩
      obtain ⟨rk, hrk⟩ := ex
      refine ⟨rk, fun t h1 h2 => ?_⟩
      obtain ⟨⟨a, _, _⟩, _⟩ := hn t h1 h2
      rcases hrk t h2 with ⟨z, _⟩ | ⟨_, q1, q2⟩
      · omega
      · have pos : 0 < rk t := by
          by_cases c : rk t = 0
          · rw [c] at q1
            have : t = 0 := q1
            omega
          · omega
        rcases hrk (N t) a with ⟨_, z⟩ | ⟨_, p1, p2⟩
        · omega
        · by_cases c : rk (N t) < rk t
          · exact c
          · exfalso
            refine p2 (rk t - 1) (by omega) ?_
            have : iter N (rk t) t = iter N (rk t - 1) (N t) := by
              obtain ⟨k, hk⟩ : ∃ k, rk t = k + 1 := ⟨rk t - 1, by omega⟩
              rw [hk]
              rfl
            rw [← this]
            exact q1
    · rw [← hs]
      refine aC_cong (fun t h1 h2 => ?_)
      obtain ⟨⟨_, _, b⟩, _⟩ := hn t h1 h2
      rw [b]
      rfl
/-- knots put together: 0 alone, rings, each other one alone -/
def Grp (m m' : Nat) (N g : Nat → Nat) : Prop := g 0 = 0 ∧ (∀ t, 1 ≤ t → t < m → 1 ≤ g t ∧ g t < m') ∧ (∀ b, b < m' → ∃ t, t < m ∧ g t = b) ∧
  ∀ t u, 1 ≤ t → t < m → 1 ≤ u → u < m → g t = g u → t ≠ u → g (N t) = g t ∧ ∃ k, iter N k t = u
/-- edges between them, less what the nearest costs -/
def Con (m m' : Nat) (E E' : Nat → Nat → Option Nat) (g wt : Nat → Nat) : Prop :=
  (∀ f t w, f < m → 1 ≤ t → t < m → g f ≠ g t → E f t = some w → ∃ w', E' (g f) (g t) = some w' ∧ w' ≤ w - wt t) ∧
  ∀ a b w', a < m' → 1 ≤ b → b < m' → a ≠ b → E' a b = some w' → ∃ f t w, f < m ∧ 1 ≤ t ∧ t < m ∧ g f = a ∧ g t = b ∧ E f t = some w ∧ w' = w - wt t
theorem contract {m m' : Nat} {E E' : Nat → Nat → Option Nat} {N wt g : Nat → Nat} {r : Option Nat} (h1m' : 1 ≤ m') (hn : Near m E N wt) (hg : Grp m m' N g) (hc : Con m m' E E' g wt) (hr : IsMin m' E' r) : IsMin m E (r.map fun s => aC m wt + s) := by
  obtain ⟨g0, g1, g2, g3⟩ := hg
  have gz : ∀ t, t < m → g t = 0 → t = 0 := fun t ht e => by
    by_cases c : t = 0
    · exact c
    · have := (g1 t (by omega) ht).1
      omega
  constructor
  · intro P hP
    obtain ⟨hP1, rk, hrk⟩ := hP
    have ex : ∀ b, ∃ v, b < m' → v < m ∧ g v = b ∧ ∀ t, t < m → g t = b → rk v ≤ rk t := by
      intro b
      by_cases hb : b < m'
      · have key : ∀ d t, t < m → g t = b → rk t ≤ d → ∃ v, v < m ∧ g v = b ∧ ∀ t, t < m → g t = b → rk v ≤ rk t := by
          intro d
          induction d with
          | zero => exact fun t ht e hd => ⟨t, ht, e, fun u _ _ => by omega⟩
          | succ d ih =>
            intro t ht e hd
            by_cases c : ∀ u, u < m → g u = b → rk t ≤ rk u
            · exact ⟨t, ht, e, c⟩
            · simp only [Classical.not_forall] at c
              obtain ⟨u, hu, eu, c⟩ := c
              exact ih u hu eu (by omega)
        obtain ⟨t, ht, e⟩ := g2 b hb
        obtain ⟨v, q⟩ := key (rk t) t ht e (Nat.le_refl _)
        exact ⟨v, fun _ => q⟩
      · exact ⟨0, fun h => absurd h hb⟩
    obtain ⟨v, hv⟩ : ∃ v : Nat → Nat, ∀ b, b < m' → v b < m ∧ g (v b) = b ∧ ∀ t, t < m → g t = b → rk (v b) ≤ rk t := ⟨fun b => Classical.choose (ex b), fun b => Classical.choose_spec (ex b)⟩
    have v1 : ∀ b, 1 ≤ b → b < m' → 1 ≤ v b := fun b h1 h2 => by
      by_cases c : v b = 0
      · have := (hv b h2).2.1
        rw [c, g0] at this
        omega
      · omega
    have out : ∀ b, 1 ≤ b → b < m' → g (P (v b)) ≠ b := fun b h1 h2 e => by
      have q1 := hrk (v b) (v1 b h1 h2) (hv b h2).1
      have q2 := (hv b h2).2.2 (P (v b)) (hP1 (v b) (v1 b h1 h2) (hv b h2).1).1 e
      omega
    have gP : ∀ t, t < m → g t < m' := fun t ht => by
      by_cases c : t = 0
      · rw [c, g0]
        exact h1m'
      · exact (g1 t (by omega) ht).2
    have edge : ∀ b, 1 ≤ b → b < m' → ∃ w', E' (g (P (v b))) b = some w' ∧ w' + wt (v b) ≤ (E (P (v b)) (v b)).getD 0 := fun b h1 h2 => by
      obtain ⟨p1, p2⟩ := hP1 (v b) (v1 b h1 h2) (hv b h2).1
      obtain ⟨w, hw⟩ := Option.isSome_iff_exists.mp p2
      have ne : g (P (v b)) ≠ g (v b) := by
        rw [(hv b h2).2.1]
        exact out b h1 h2
      obtain ⟨w', e1, e2⟩ := hc.1 (P (v b)) (v b) w p1 (v1 b h1 h2) (hv b h2).1 ne hw
      rw [(hv b h2).2.1] at e1
      have le := (hn (v b) (v1 b h1 h2) (hv b h2).1).2 (P (v b)) w p1 (fun e => ne (by rw [e])) hw
      refine ⟨w', e1, ?_⟩
      rw [hw]
      show w' + wt (v b) ≤ w
      omega
    have arb : Arb m' E' (fun b => g (P (v b))) := by
      refine ⟨fun b h1 h2 => ⟨gP _ (hP1 (v b) (v1 b h1 h2) (hv b h2).1).1, ?_⟩, fun b => rk (v b), fun b h1 h2 => ?_⟩
      · obtain ⟨w', e1, _⟩ := edge b h1 h2
        rw [e1]
        rfl
      · have p := hP1 (v b) (v1 b h1 h2) (hv b h2).1
        have q1 := hrk (v b) (v1 b h1 h2) (hv b h2).1
        have q2 := (hv _ (gP _ p.1)).2.2 (P (v b)) p.1 rfl
        show rk (v (g (P (v b)))) < rk (v b)
        omega
    obtain ⟨s, hs, hle⟩ := hr.1 _ arb
    refine ⟨aC m wt + s, by rw [hs]; rfl, ?_⟩
    have low : aCost m E P = aC m wt + aC m (fun t => (E (P t) t).getD 0 - wt t) := by
      unfold aCost
      rw [← aC_add]
      refine aC_cong (fun t h1 h2 => ?_)
      obtain ⟨p1, p2⟩ := hP1 t h1 h2
      obtain ⟨w, hw⟩ := Option.isSome_iff_exists.mp p2
      have le := (hn t h1 h2).2 (P t) w p1 (fun e => by
        have := hrk t h1 h2
        rw [e] at this
        omega) hw
      rw [hw]
      show w = wt t + (w - wt t)
      omega
    have up : aCost m' E' (fun b => g (P (v b))) ≤ aC m (fun t => (E (P t) t).getD 0 - wt t) := by
      refine Nat.le_trans (aC_mono (g := fun b => (fun t => if t = 0 then 0 else (E (P t) t).getD 0 - wt t) (v b)) (fun b h1 h2 => ?_)) ?_
      · obtain ⟨w', e1, e2⟩ := edge b h1 h2
        show (E' (g (P (v b))) b).getD 0 ≤ if v b = 0 then 0 else (E (P (v b)) (v b)).getD 0 - wt (v b)
        have := v1 b h1 h2
        rw [e1, if_neg (by omega)]
        show w' ≤ _
        omega
      · refine Nat.le_trans (sumN_mono (g := fun b => (fun t => if t = 0 then 0 else (E (P t) t).getD 0 - wt t) (v b)) (fun b hb => ?_)) (sumN_inj_le (f := fun t => if t = 0 then 0 else (E (P t) t).getD 0 - wt t) (fun b hb => (hv b hb).1) (fun a b ha hb e => ?_))
        · by_cases c : b = 0
          · rw [if_pos c]
            exact Nat.zero_le _
          · rw [if_neg c]
            exact Nat.le_refl _
        · have e1 := (hv a ha).2.1
          rw [e, (hv b hb).2.1] at e1
          exact e1.symm
    rw [low]
    omega
  · intro s hs
    obtain ⟨s', hs', e⟩ : ∃ s', r = some s' ∧ aC m wt + s' = s := by
      cases r with
      | none => cases hs
      | some s' => exact ⟨s', rfl, by injection hs⟩
    obtain ⟨P', ⟨hP1, rk', hrk'⟩, hcost⟩ := hr.2 s' hs'
    have ex : ∀ b, ∃ q : Nat × Nat × Nat, 1 ≤ b → b < m' → q.1 < m ∧ 1 ≤ q.2.1 ∧ q.2.1 < m ∧ g q.1 = P' b ∧ g q.2.1 = b ∧ E q.1 q.2.1 = some q.2.2 ∧ (E' (P' b) b).getD 0 + wt q.2.1 = q.2.2 := by
      intro b
      by_cases hb : 1 ≤ b ∧ b < m'
      · obtain ⟨p1, p2⟩ := hP1 b hb.1 hb.2
        obtain ⟨w', hw'⟩ := Option.isSome_iff_exists.mp p2
        have ne : P' b ≠ b := fun z => by
          have := hrk' b hb.1 hb.2
          rw [z] at this
          omega
        obtain ⟨f, t, w, q1, q2, q3, q4, q5, q6, q7⟩ := hc.2 (P' b) b w' p1 hb.1 hb.2 ne hw'
        have le := (hn t q2 q3).2 f w q1 (fun z => ne (by rw [← q4, ← q5, z])) q6
        refine ⟨(f, t, w), fun _ _ => ⟨q1, q2, q3, q4, q5, q6, ?_⟩⟩
        rw [hw']
        show w' + wt t = w
        omega
      · exact ⟨(0, 0, 0), fun h1 h2 => absurd ⟨h1, h2⟩ hb⟩
    obtain ⟨q, hq⟩ : ∃ q : Nat → Nat × Nat × Nat, ∀ b, 1 ≤ b → b < m' → (q b).1 < m ∧ 1 ≤ (q b).2.1 ∧ (q b).2.1 < m ∧ g (q b).1 = P' b ∧ g (q b).2.1 = b ∧ E (q b).1 (q b).2.1 = some (q b).2.2 ∧ (E' (P' b) b).getD 0 + wt (q b).2.1 = (q b).2.2 := ⟨fun b => Classical.choose (ex b), fun b => Classical.choose_spec (ex b)⟩
    have exd : ∀ t, ∃ d, 1 ≤ t → t < m → iter N d t = (q (g t)).2.1 ∧ ∀ j, j < d → iter N j t ≠ (q (g t)).2.1 := by
      intro t
      by_cases ht : 1 ≤ t ∧ t < m
      · obtain ⟨b1, b2⟩ := g1 t ht.1 ht.2
        obtain ⟨_, c2, c3, _, c5, _, _⟩ := hq (g t) b1 b2
        have : ∃ k, iter N k t = (q (g t)).2.1 := by
          by_cases z : t = (q (g t)).2.1
          · exact ⟨0, z⟩
          · exact (g3 t _ ht.1 ht.2 c2 c3 c5.symm z).2
        obtain ⟨k, hk⟩ := this
        refine ⟨lst (fun j => decide (iter N j t = (q (g t)).2.1)) (k + 1), fun _ _ => ⟨?_, fun j hj e => ?_⟩⟩
        · have l := lst_lt (p := fun j => decide (iter N j t = (q (g t)).2.1)) (n := k + 1) (k := k) (by omega) (decide_eq_true hk)
          exact of_decide_eq_true (lst_is (p := fun j => decide (iter N j t = (q (g t)).2.1)) (n := k + 1) (by omega))
        · have := lst_min hj
          rw [decide_eq_true e] at this
          cases this
      · exact ⟨0, fun h1 h2 => absurd ⟨h1, h2⟩ ht⟩
    obtain ⟨d, hd⟩ : ∃ d : Nat → Nat, ∀ t, 1 ≤ t → t < m → iter N (d t) t = (q (g t)).2.1 ∧ ∀ j, j < d t → iter N j t ≠ (q (g t)).2.1 := ⟨fun t => Classical.choose (exd t), fun t => Classical.choose_spec (exd t)⟩
    have step : ∀ t, 1 ≤ t → t < m → t ≠ (q (g t)).2.1 → g (N t) = g t ∧ 1 ≤ N t ∧ d (N t) < d t := by
      intro t h1 h2 ne
      obtain ⟨b1, b2⟩ := g1 t h1 h2
      obtain ⟨_, c2, c3, _, c5, _, _⟩ := hq (g t) b1 b2
      have e1 := (g3 t _ h1 h2 c2 c3 c5.symm ne).1
      have hN := (hn t h1 h2).1.1
      have n1 : 1 ≤ N t := by
        by_cases z : N t = 0
        · rw [z, g0] at e1
          omega
        · omega
      obtain ⟨d1, d2⟩ := hd t h1 h2
      obtain ⟨d3, d4⟩ := hd (N t) n1 hN
      rw [e1] at d3 d4
      refine ⟨e1, n1, ?_⟩
      have pos : d t ≠ 0 := fun z => by
        rw [z] at d1
        exact ne d1
      obtain ⟨k, hk⟩ : ∃ k, d t = k + 1 := ⟨d t - 1, by omega⟩
      rw [hk] at d1
      have d1' : iter N k (N t) = (q (g t)).2.1 := d1
      by_cases c : d (N t) < d t
      · exact c
      · exact absurd d1' (d4 k (by omega))
    -- a bound on all d
    have bd : ∃ B, ∀ t, t < m → d t < B := by
      have key : ∀ k, ∃ B, ∀ t, t < k → d t < B := by
        intro k
        induction k with
        | zero => exact ⟨0, fun t ht => absurd ht (Nat.not_lt_zero t)⟩
        | succ k ih =>
          obtain ⟨B, hB⟩ := ih
          refine ⟨max B (d k + 1), fun t ht => ?_⟩
          by_cases c : t = k
          · subst c
            omega
          · have := hB t (by omega)
            omega
      exact key m
    obtain ⟨B, hB⟩ := bd
    refine ⟨fun t => if t = (q (g t)).2.1 then (q (g t)).1 else N t, ⟨fun t h1 h2 => ?_, fun t => if t = 0 then rk' 0 * B else rk' (g t) * B + d t, fun t h1 h2 => ?_⟩, ?_⟩
    · obtain ⟨b1, b2⟩ := g1 t h1 h2
      obtain ⟨c1, _, _, _, _, c6, _⟩ := hq (g t) b1 b2
      dsimp only
      by_cases z : t = (q (g t)).2.1
      · rw [if_pos z]
        refine ⟨c1, ?_⟩
        have c6' : E (q (g t)).1 t = some (q (g t)).2.2 := by
          rw [← z] at c6
          exact c6
        rw [c6']
        rfl
      · rw [if_neg z]
        obtain ⟨⟨a, _, b⟩, _⟩ := hn t h1 h2
        rw [b]
        exact ⟨a, rfl⟩
    · obtain ⟨b1, b2⟩ := g1 t h1 h2
      obtain ⟨c1, _, _, c4, _, _, _⟩ := hq (g t) b1 b2
      dsimp only
      rw [if_neg (show ¬ t = 0 by omega)]
      by_cases z : t = (q (g t)).2.1
      · rw [if_pos z]
        have r1 := hrk' (g t) b1 b2
        have r2 : (rk' (P' (g t)) + 1) * B ≤ rk' (g t) * B := Nat.mul_le_mul_right B r1
        rw [Nat.add_mul, Nat.one_mul] at r2
        have r3 := hB _ c1
        by_cases y : (q (g t)).1 = 0
        · rw [if_pos y]
          rw [y, g0] at c4
          rw [← c4] at r2
          rw [y] at r3
          omega
        · rw [if_neg y, c4]
          omega
      · obtain ⟨s1, s2, s3⟩ := step t h1 h2 z
        rw [if_neg z, if_neg (show ¬ N t = 0 by omega), s1]
        omega
    · rw [← e, ← hcost]
      have : aCost m E (fun t => if t = (q (g t)).2.1 then (q (g t)).1 else N t) = aC m wt + aC m (fun t => if t = (q (g t)).2.1 then (E' (P' (g t)) (g t)).getD 0 else 0) := by
        unfold aCost
        rw [← aC_add]
        refine aC_cong (fun t h1 h2 => ?_)
        obtain ⟨b1, b2⟩ := g1 t h1 h2
        obtain ⟨_, _, _, _, _, c6, c7⟩ := hq (g t) b1 b2
        dsimp only
        by_cases z : t = (q (g t)).2.1
        · rw [if_pos z, if_pos z]
          have c6' : E (q (g t)).1 t = some (q (g t)).2.2 := by
            rw [← z] at c6
            exact c6
          rw [← z] at c7
          rw [c6', ← c7]
          exact Nat.add_comm _ _
        · rw [if_neg z, if_neg z, (hn t h1 h2).1.2.2]
          rfl
      rw [this]
      congr 1
      unfold aCost aC
      have z := sumN_inj (n := m') (m := m) (v := fun b => (q b).2.1) (p := fun b => decide (b ≠ 0)) (f := fun t => (E' (P' (g t)) (g t)).getD 0) (fun b hb hp => (hq b (by have := of_decide_eq_true hp; omega) hb).2.2.1) (fun a b ha hb pa pb e => by
        have a1 := (hq a (by have := of_decide_eq_true pa; omega) ha).2.2.2.2.1
        have a2 := (hq b (by have := of_decide_eq_true pb; omega) hb).2.2.2.2.1
        rw [show (q a).2.1 = (q b).2.1 from e, a2] at a1
        exact a1.symm)
      refine Eq.trans (sumN_cong (fun t ht => ?_)) (Eq.trans z.symm (sumN_cong (fun b hb => ?_)))
      · by_cases t0 : t = 0
        · rw [if_pos t0, if_neg]
          rw [Bool.not_eq_true]
          refine anyN_false.mpr (fun b hb => ?_)
          by_cases b0 : b = 0
          · rw [decide_eq_false (fun h => h b0)]
            rfl
          · have := (hq b (by omega) hb).2.1
            rw [decide_eq_false (show ¬ (q b).2.1 = t by omega), Bool.and_false]
        · rw [if_neg t0]
          obtain ⟨b1, b2⟩ := g1 t (by omega) ht
          dsimp only
          by_cases y : t = (q (g t)).2.1
          · rw [if_pos y, if_pos]
            refine anyN_true.mpr ⟨g t, b2, ?_⟩
            rw [decide_eq_true (show g t ≠ 0 by omega), decide_eq_true y.symm]
            rfl
          · rw [if_neg y, if_neg]
            rw [Bool.not_eq_true]
            refine anyN_false.mpr (fun b hb => ?_)
            by_cases b0 : b = 0
            · rw [decide_eq_false (fun h => h b0)]
              rfl
            · have := (hq b (by omega) hb).2.2.2.2.1
              rw [decide_eq_false (show ¬ (q b).2.1 = t from fun h => y (by rw [h] at this; rw [this]; exact h.symm)), Bool.and_false]
      · by_cases b0 : b = 0
        · rw [if_pos b0, if_neg (by rw [decide_eq_false (fun h => h b0)]; decide)]
        · have := (hq b (by omega) hb).2.2.2.2.1
          rw [if_neg b0, if_pos (decide_eq_true b0)]
          dsimp only
          rw [this]
theorem IsMin_one {E : Nat → Nat → Option Nat} : IsMin 1 E (some 0) := by
  refine ⟨fun P _ => ⟨0, rfl, Nat.zero_le _⟩, fun s hs => ?_⟩
  injection hs with hs
  exact ⟨fun _ => 0, ⟨fun t h1 h2 => by omega, fun _ => 0, fun t h1 h2 => by omega⟩, by rw [← hs]; rfl⟩
/-- a knot on which no edge leads: no tree -/
theorem IsMin_none {m t : Nat} {E : Nat → Nat → Option Nat} (h1 : 1 ≤ t) (h2 : t < m) (h : ∀ f, f < m → f ≠ t → E f t = none) : IsMin m E none := by
  refine ⟨fun P hP => ?_, fun s hs => by cases hs⟩
  exfalso
  obtain ⟨q1, q2⟩ := hP.1 t h1 h2
  obtain ⟨rk, hrk⟩ := hP.2
  have ne : P t ≠ t := fun e => by
    have := hrk t h1 h2
    rw [e] at this
    omega
  rw [h _ q1 ne] at q2
  cases q2
