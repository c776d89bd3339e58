/-! WORLDS DRAWN, plain: s, sizes, names of the one side, of the other, newest, next -/
abbrev WS : Type := Nat × (Nat → Nat) × (Nat → Nat → Nat) × (Nat → Nat → Nat) × Nat × Nat
def nxS (s : Nat) : Nat := (s * 1103 + 12345) % 1000003
def wz (W : WS) : Nat → Nat := W.2.1
def wc (W : WS) : Nat → Nat → Nat := W.2.2.1
def wm (W : WS) : Nat → Nat → Nat := W.2.2.2.1
def ww (W : WS) : Nat := W.2.2.2.2.1
def wd (W : WS) : Nat := W.2.2.2.2.2
def up2 (f : Nat → Nat → Nat) (c i a : Nat) : Nat → Nat → Nat := fun x => if x = c then up1 (f c) i a else f x
theorem up2_ne {f : Nat → Nat → Nat} {c i a x : Nat} (h : x ≠ c) : up2 f c i a x = f x := if_neg h
theorem up2_eq {f : Nat → Nat → Nat} {c i a : Nat} : up2 f c i a c = up1 (f c) i a := if_pos rfl
def wPut (c a b s n d : Nat) (W : WS) : WS := (s, up1 (wz W) c (wz W c + 1), up2 (wc W) c (wz W c) a, up2 (wm W) c (wz W c) b, n, d)
def wDr (W : WS) : WS := (nxS W.1, W.2)
def wTake (c e p i : Nat) (W : WS) : WS := if nxS W.1 % 100 < p then wPut c (wc W e i) (wm W e i) (nxS W.1) (ww W) (wd W) W else wDr W
def wAdd (c : Nat) (ad : Nat → Nat) (i : Nat) (W : WS) : WS := if nxS W.1 % 100 < ad i then wPut c (ww W + 1) (wd W) (nxS W.1) (ww W + 1) (wd W + 1) W else wDr W
def wStart (c k : Nat) (W : WS) : WS := (W.1, up1 (wz W) c 0, wc W, wm W, ww W, 12 * k)
def wT (c e p : Nat) (W : WS) : WS := if e = 0 then W else foldN (wz W (e - 1)) (wTake c (e - 1) p) W
def wCopy (c e p : Nat) (ad : Nat → Nat) (k : Nat) (W : WS) : WS := foldN 12 (wAdd c ad) (wT c e p (wStart c k W))
section WPUT
variable {c a b s n d : Nat} {W : WS}
theorem wz_dr : wz (wDr W) = wz W := by unfold wz wDr; dsimp only
theorem wc_dr : wc (wDr W) = wc W := by unfold wc wDr; dsimp only
theorem wm_dr : wm (wDr W) = wm W := by unfold wm wDr; dsimp only
theorem ww_dr : ww (wDr W) = ww W := by unfold ww wDr; dsimp only
theorem wd_dr : wd (wDr W) = wd W := by unfold wd wDr; dsimp only
theorem ws_dr : (wDr W).1 = nxS W.1 := by unfold wDr; dsimp only
theorem wz_put : wz (wPut c a b s n d W) = up1 (wz W) c (wz W c + 1) := by
  show (wPut c a b s n d W).2.1 = _
  unfold wPut
  dsimp only
theorem wc_put : wc (wPut c a b s n d W) = up2 (wc W) c (wz W c) a := by
  show (wPut c a b s n d W).2.2.1 = _
  unfold wPut
  dsimp only
theorem wm_put : wm (wPut c a b s n d W) = up2 (wm W) c (wz W c) b := by
  show (wPut c a b s n d W).2.2.2.1 = _
  unfold wPut
  dsimp only
theorem ww_put : ww (wPut c a b s n d W) = n := by
  show (wPut c a b s n d W).2.2.2.2.1 = _
  unfold wPut
  dsimp only
theorem wd_put : wd (wPut c a b s n d W) = d := by
  show (wPut c a b s n d W).2.2.2.2.2 = _
  unfold wPut
  dsimp only
theorem ws_put : (wPut c a b s n d W).1 = s := by
  unfold wPut
  dsimp only
end WPUT
theorem nxS_lt (s : Nat) : nxS s < 1000003 := Nat.mod_lt _ (by decide)
/-- all but copy c stays; c grows by i at most -/
def Kp (c i : Nat) (W0 W : WS) : Prop := (∀ x, x ≠ c → wz W x = wz W0 x ∧ wc W x = wc W0 x ∧ wm W x = wm W0 x) ∧ wz W c ≤ wz W0 c + i ∧ W.1 < 1000003 ∧ (wz W0 c ≤ wz W c ∧ ∀ j, j < wz W0 c → wc W c j = wc W0 c j ∧ wm W c j = wm W0 c j)
theorem Kp.refl {c : Nat} {W : WS} (h : W.1 < 1000003) : Kp c 0 W W := ⟨fun _ _ => ⟨rfl, rfl, rfl⟩, Nat.le_refl _, h, Nat.le_refl _, fun _ _ => ⟨rfl, rfl⟩⟩
theorem Kp.put {c i a b s n d : Nat} {W0 W : WS} (h : Kp c i W0 W) (hs : s < 1000003) : Kp c (i + 1) W0 (wPut c a b s n d W) := by
  obtain ⟨h1, h2, h3, h4, h5⟩ := h
  unfold Kp
  rw [wz_put, wc_put, wm_put, ws_put, up1_eq, up2_eq, up2_eq]
  refine ⟨fun x hx => ?_, by omega, hs, by omega, fun j hj => ?_⟩
  · rw [up1_ne hx, up2_ne hx, up2_ne hx]
    exact h1 x hx
  · rw [up1_ne (by omega), up1_ne (by omega)]
    exact h5 j hj
theorem Kp.dr {c i : Nat} {W0 W : WS} (h : Kp c i W0 W) : Kp c (i + 1) W0 (wDr W) := by
  obtain ⟨h1, h2, h3, h4, h5⟩ := h
  unfold Kp
  rw [wz_dr, wc_dr, wm_dr, ws_dr]
  exact ⟨h1, Nat.le_succ_of_le h2, nxS_lt _, h4, h5⟩
theorem take_Kp {c e p : Nat} {W0 : WS} (h : W0.1 < 1000003) : ∀ i, Kp c i W0 (foldN i (wTake c e p) W0) := by
  intro i
  induction i with
  | zero => exact Kp.refl h
  | succ i ih =>
    show Kp c (i + 1) W0 (wTake c e p i (foldN i (wTake c e p) W0))
    unfold wTake
    split
    · exact ih.put (nxS_lt _)
    · exact ih.dr
theorem take_nw {c e p : Nat} {W0 : WS} : ∀ i, ww (foldN i (wTake c e p) W0) = ww W0 ∧ wd (foldN i (wTake c e p) W0) = wd W0 := by
  intro i
  induction i with
  | zero => exact ⟨rfl, rfl⟩
  | succ i ih =>
    show ww (wTake c e p i (foldN i (wTake c e p) W0)) = ww W0 ∧ wd (wTake c e p i (foldN i (wTake c e p) W0)) = wd W0
    unfold wTake
    split
    · rw [ww_put, wd_put]
      exact ih
    · rw [ww_dr, wd_dr]
      exact ih
theorem add_Kp {c : Nat} {ad : Nat → Nat} {W0 : WS} (h : W0.1 < 1000003) : ∀ i, Kp c i W0 (foldN i (wAdd c ad) W0) := by
  intro i
  induction i with
  | zero => exact Kp.refl h
  | succ i ih =>
    show Kp c (i + 1) W0 (wAdd c ad i (foldN i (wAdd c ad) W0))
    unfold wAdd
    split
    · exact ih.put (nxS_lt _)
    · exact ih.dr
theorem add_nw {c : Nat} {ad : Nat → Nat} {W0 : WS} : ∀ i, ww (foldN i (wAdd c ad) W0) ≤ ww W0 + i ∧ wd (foldN i (wAdd c ad) W0) ≤ wd W0 + i := by
  intro i
  induction i with
  | zero => exact ⟨Nat.le_refl _, Nat.le_refl _⟩
  | succ i ih =>
    have key : ∀ V : WS, ww (wAdd c ad i V) ≤ ww V + 1 ∧ wd (wAdd c ad i V) ≤ wd V + 1 := fun V => by
      unfold wAdd
      split
      · rw [ww_put, wd_put]
        exact ⟨Nat.le_refl _, Nat.le_refl _⟩
      · rw [ww_dr, wd_dr]
        exact ⟨Nat.le_succ _, Nat.le_succ _⟩
    have z := key (foldN i (wAdd c ad) W0)
    show ww (wAdd c ad i (foldN i (wAdd c ad) W0)) ≤ ww W0 + (i + 1) ∧ wd (wAdd c ad i (foldN i (wAdd c ad) W0)) ≤ wd W0 + (i + 1)
    omega
/-- the two sides' names agree, for the copies of G -/
def Phi (G : Nat → Bool) (W : WS) : Prop := ∃ f : Nat → Nat, (∀ a b, 1 ≤ a → a < b → b ≤ ww W → f a < f b) ∧ (∀ a, 1 ≤ a → a ≤ ww W → f a < wd W) ∧ ∀ c, G c = true → ∀ i, i < wz W c → 1 ≤ wc W c i ∧ wc W c i ≤ ww W ∧ wm W c i = f (wc W c i)
theorem Phi.dr {G : Nat → Bool} {W : WS} (h : Phi G W) : Phi G (wDr W) := by
  unfold Phi
  rw [wz_dr, wc_dr, wm_dr, ww_dr, wd_dr]
  exact h
theorem Phi.take {G : Nat → Bool} {c e p i : Nat} {W : WS} (h : Phi G W) (ge : G e = true) (hi : i < wz W e) : Phi G (wTake c e p i W) := by
  unfold wTake
  split
  · obtain ⟨f, h1, h2, h3⟩ := h
    unfold Phi
    rw [wz_put, wc_put, wm_put, ww_put, wd_put]
    refine ⟨f, h1, h2, fun x gx j hj' => ?_⟩
    by_cases xc : x = c
    · subst xc
      rw [up1_eq] at hj'
      rw [up2_eq, up2_eq]
      by_cases e2 : j = wz W x
      · rw [e2, up1_eq, up1_eq]
        exact h3 e ge i hi
      · rw [up1_ne e2, up1_ne e2]
        exact h3 x gx j (by omega)
    · rw [up1_ne xc] at hj'
      rw [up2_ne xc, up2_ne xc]
      exact h3 x gx j hj'
  · exact h.dr
theorem Phi.add {G : Nat → Bool} {c i : Nat} {ad : Nat → Nat} {W : WS} (h : Phi G W) : Phi G (wAdd c ad i W) := by
  unfold wAdd
  split
  · obtain ⟨f, h1, h2, h3⟩ := h
    unfold Phi
    rw [wz_put, wc_put, wm_put, ww_put, wd_put]
    refine ⟨up1 f (ww W + 1) (wd W), fun a b ha ab hb' => ?_, fun a ha hb' => ?_, fun x gx j hj' => ?_⟩
    · rw [up1_ne (show a ≠ ww W + 1 by omega)]
      by_cases e : b = ww W + 1
      · rw [e, up1_eq]
        exact h2 a ha (by omega)
      · rw [up1_ne e]
        exact h1 a b ha ab (by omega)
    · by_cases e : a = ww W + 1
      · rw [e, up1_eq]
        omega
      · rw [up1_ne e]
        have := h2 a ha (by omega)
        omega
    · have old : ∀ v m, 1 ≤ v → v ≤ ww W → m = f v → 1 ≤ v ∧ v ≤ ww W + 1 ∧ m = up1 f (ww W + 1) (wd W) v := fun v m z1 z2 z3 => ⟨z1, by omega, by rw [up1_ne (by omega)]; exact z3⟩
      by_cases xc : x = c
      · subst xc
        rw [up1_eq] at hj'
        rw [up2_eq, up2_eq]
        by_cases e2 : j = wz W x
        · rw [e2, up1_eq, up1_eq, up1_eq]
          exact ⟨by omega, Nat.le_refl _, rfl⟩
        · rw [up1_ne e2, up1_ne e2]
          obtain ⟨z1, z2, z3⟩ := h3 x gx j (by omega)
          exact old _ _ z1 z2 z3
      · rw [up1_ne xc] at hj'
        rw [up2_ne xc, up2_ne xc]
        obtain ⟨z1, z2, z3⟩ := h3 x gx j hj'
        exact old _ _ z1 z2 z3
  · exact h.dr
def addG (G : Nat → Bool) (c : Nat) : Nat → Bool := fun x => G x || decide (x = c)
theorem Phi.start {G : Nat → Bool} {c k : Nat} {W : WS} (h : Phi G W) (hd : wd W ≤ 12 * k) : Phi (addG G c) (wStart c k W) := by
  obtain ⟨f, h1, h2, h3⟩ := h
  refine ⟨f, h1, fun a ha hb => Nat.lt_of_lt_of_le (h2 a ha hb) hd, fun x gx j hj => ?_⟩
  have hj' : j < up1 (wz W) c 0 x := hj
  by_cases xc : x = c
  · rw [xc, up1_eq] at hj'
    omega
  · rw [up1_ne xc] at hj'
    unfold addG at gx
    rw [decide_eq_false xc, Bool.or_false] at gx
    exact h3 x gx j hj'
theorem Phi.takes {G : Nat → Bool} {c e p n : Nat} {W : WS} (hs : W.1 < 1000003) (h : Phi G W) (ge : G e = true) (ne : e ≠ c) (hn : n ≤ wz W e) : Phi G (foldN n (wTake c e p) W) := by
  induction n with
  | zero => exact h
  | succ n ih =>
    refine (ih (by omega)).take ge ?_
    have := ((take_Kp (c := c) (e := e) (p := p) hs n).1 e ne).1
    omega
theorem Phi.adds {G : Nat → Bool} {c n : Nat} {ad : Nat → Nat} {W : WS} (h : Phi G W) : Phi G (foldN n (wAdd c ad) W) := by
  induction n with
  | zero => exact h
  | succ n ih => exact ih.add
/-! the copies in their order -/
def lowP : Nat → Nat → (Nat → Bool) → Nat
  | 0, i, _ => i
  | d + 1, i, p => if p i then i else lowP d (i + 1) p
theorem lowP_spec {p : Nat → Bool} : ∀ d i, (∃ j, i ≤ j ∧ j < i + d ∧ p j = true) → (i ≤ lowP d i p ∧ lowP d i p < i + d) ∧ p (lowP d i p) = true := by
  intro d
  induction d with
  | zero => rintro i ⟨j, h1, h2, _⟩; omega
  | succ d ih =>
    rintro i ⟨j, h1, h2, h3⟩
    unfold lowP
    cases q : p i with
    | true => exact ⟨⟨Nat.le_refl _, by rw [if_pos rfl]; omega⟩, by rw [if_pos rfl]; exact q⟩
    | false =>
      have ne : j ≠ i := fun e => by
        rw [e, q] at h3
        cases h3
      obtain ⟨⟨z1, z2⟩, z3⟩ := ih (i + 1) ⟨j, by omega, by omega, h3⟩
      rw [if_neg (by decide)]
      exact ⟨⟨by omega, by omega⟩, z3⟩
def pkB (T : Nat → Nat) (G : Nat → Bool) (c : Nat) : Bool := !G c && (decide (T c = 0) || G (T c - 1))
theorem pk_ex {n : Nat} {al : Nat → Nat → Bool} {T : Nat → Nat} {G : Nat → Bool} (h : isTree n al T) {c : Nat} (hc : c < n) (g : G c = false) : ∃ j, 0 ≤ j ∧ j < 0 + n ∧ pkB T G j = true := by
  obtain ⟨h1, rk, h2⟩ := h
  have key : ∀ r c, rk c ≤ r → c < n → G c = false → ∃ j, 0 ≤ j ∧ j < 0 + n ∧ pkB T G j = true := by
    intro r
    induction r with
    | zero =>
      intro c hr hc g
      by_cases t0 : T c = 0
      · refine ⟨c, Nat.zero_le _, by omega, ?_⟩
        unfold pkB
        rw [g, decide_eq_true t0]
        rfl
      · have := h2 c hc t0
        omega
    | succ r ih =>
      intro c hr hc g
      by_cases t0 : T c = 0
      · refine ⟨c, Nat.zero_le _, by omega, ?_⟩
        unfold pkB
        rw [g, decide_eq_true t0]
        rfl
      · have lt := h2 c hc t0
        have le := (h1 c hc).1
        cases q : G (T c - 1) with
        | true =>
          refine ⟨c, Nat.zero_le _, by omega, ?_⟩
          unfold pkB
          rw [g, q, Bool.or_true]
          rfl
        | false => exact ih (T c - 1) (by omega) (by omega) q
  exact key (rk c) c (Nat.le_refl _) hc g
abbrev GS : Type := WS × (Nat → Nat) × (Nat → Bool) × Nat
def pk (n : Nat) (T : Nat → Nat) (g : GS) : Nat := lowP n 0 (pkB T g.2.2.1)
def gStep (n : Nat) (T pc : Nat → Nat) (ad : Nat → Nat → Nat) (k : Nat) (g : GS) : GS :=
  (wCopy (pk n T g) (T (pk n T g)) (pc (pk n T g)) (ad (pk n T g)) k g.1, up1 g.2.1 (pk n T g) (wz (wT (pk n T g) (T (pk n T g)) (pc (pk n T g)) (wStart (pk n T g) k g.1)) (pk n T g)), addG g.2.2.1 (pk n T g), g.2.2.2 + wz (wCopy (pk n T g) (T (pk n T g)) (pc (pk n T g)) (ad (pk n T g)) k g.1) (pk n T g))
def g0 (seed : Nat) : GS := ((seed, (fun _ => 0), (fun _ _ => 0), (fun _ _ => 0), 0, 0), (fun _ => 0), (fun _ => false), 0)
def gRun (n : Nat) (T pc : Nat → Nat) (ad : Nat → Nat → Nat) (seed k : Nat) : GS := foldN k (gStep n T pc ad) (g0 seed)
def GIv (n k : Nat) (g : GS) : Prop := g.1.1 < 1000003 ∧ Phi g.2.2.1 g.1 ∧ ww g.1 ≤ 12 * k ∧ wd g.1 ≤ 12 * k ∧ (∀ c, g.2.2.1 c = true → c < n ∧ g.2.1 c ≤ wz g.1 c ∧ wz g.1 c ≤ 12 * k) ∧ (sumN n fun c => if g.2.2.1 c then 1 else 0) = k
theorem GIv_zero {n seed : Nat} (h : seed < 1000003) : GIv n 0 (g0 seed) := by
  refine ⟨h, ⟨fun _ => 0, fun a b h1 h2 h3 => ?_, fun a h1 h2 => ?_, fun c gc => ?_⟩, Nat.le_refl _, Nat.le_refl _, fun c gc => ?_, ?_⟩
  · have : b ≤ 0 := h3
    omega
  · have : a ≤ 0 := h2
    omega
  · cases (gc : false = true)
  · cases (gc : false = true)
  · refine (sumN_cong (fun i _ => if_neg ?_)).trans sumN_zero
    exact fun z => by cases (z : false = true)
theorem GIv_ex {n k : Nat} {g : GS} (h : GIv n k g) (hk : k < n) : ∃ c, c < n ∧ g.2.2.1 c = false := by
  by_cases q : ∃ c, c < n ∧ g.2.2.1 c = false
  · exact q
  · have : (sumN n fun c => if g.2.2.1 c then 1 else 0) = sumN n fun _ => 1 := sumN_cong (fun c hc => if_pos (by
      cases z : g.2.2.1 c with
      | true => rfl
      | false => exact absurd ⟨c, hc, z⟩ q))
    rw [sumN_ones, h.2.2.2.2.2] at this
    omega
theorem pk_spec {n k : Nat} {al : Nat → Nat → Bool} {T : Nat → Nat} {g : GS} (ht : isTree n al T) (h : GIv n k g) (hk : k < n) : pk n T g < n ∧ g.2.2.1 (pk n T g) = false ∧ (T (pk n T g) = 0 ∨ g.2.2.1 (T (pk n T g) - 1) = true) := by
  obtain ⟨c, hc, gc⟩ := GIv_ex h hk
  obtain ⟨⟨_, z2⟩, z3⟩ := lowP_spec n 0 (pk_ex ht hc gc)
  unfold pk
  generalize lowP n 0 (pkB T g.2.2.1) = j at *
  unfold pkB at z3
  rw [Bool.and_eq_true, Bool.or_eq_true, decide_eq_true_eq] at z3
  refine ⟨by omega, ?_, z3.2⟩
  have := z3.1
  cases q : g.2.2.1 j with
  | false => rfl
  | true =>
    rw [q] at this
    cases this
theorem sum_addG {n c : Nat} {G : Nat → Bool} (hc : c < n) (g : G c = false) : (sumN n fun x => if addG G c x then 1 else 0) = (sumN n fun x => if G x then 1 else 0) + 1 := by
  have e : (sumN n fun x => if addG G c x then 1 else 0) = sumN n fun x => (if G x then 1 else 0) + if x = c then 1 else 0 := sumN_cong (fun x _ => by
    unfold addG
    by_cases q : x = c
    · rw [q, g, decide_eq_true rfl, if_pos rfl]
      rfl
    · rw [decide_eq_false q, Bool.or_false, if_neg q, Nat.add_zero])
  rw [e, sumN_add, sumN_one hc]
theorem GIv_step {n k : Nat} {al : Nat → Nat → Bool} {T pc : Nat → Nat} {ad : Nat → Nat → Nat} {g : GS} (ht : isTree n al T) (h : GIv n k g) (hk : k < n) : GIv n (k + 1) (gStep n T pc ad k g) := by
  obtain ⟨p1, p2, p3⟩ := pk_spec ht h hk
  obtain ⟨h1, h2, h3, h4, h5, h6⟩ := h
  generalize ec : pk n T g = c at *
  have s1 : (wStart c k g.1).1 < 1000003 := h1
  have s2 : Phi (addG g.2.2.1 c) (wStart c k g.1) := h2.start h4
  have ne : T c ≠ 0 → T c - 1 ≠ c := fun t0 e => by
    rcases p3 with z | z
    · exact t0 z
    · rw [e, p2] at z
      cases z
  have zc : wz (wStart c k g.1) c = 0 := up1_eq
  have zx : ∀ x, x ≠ c → wz (wStart c k g.1) x = wz g.1 x := fun x hx => up1_ne hx
  have tk : (∃ i, Kp c i (wStart c k g.1) (wT c (T c) (pc c) (wStart c k g.1)) ∧ i ≤ 12 * k) ∧ Phi (addG g.2.2.1 c) (wT c (T c) (pc c) (wStart c k g.1)) ∧ ww (wT c (T c) (pc c) (wStart c k g.1)) = ww g.1 ∧ wd (wT c (T c) (pc c) (wStart c k g.1)) = 12 * k := by
    unfold wT
    by_cases t0 : T c = 0
    · rw [if_pos t0]
      exact ⟨⟨0, Kp.refl s1, Nat.zero_le _⟩, s2, rfl, rfl⟩
    · rw [if_neg t0]
      have ge : g.2.2.1 (T c - 1) = true := p3.resolve_left t0
      have sz := (h5 _ ge).2.2
      refine ⟨⟨_, take_Kp s1 _, ?_⟩, s2.takes s1 ?_ (ne t0) (Nat.le_refl _), (take_nw _).1, (take_nw _).2⟩
      · rw [zx _ (ne t0)]
        exact sz
      · unfold addG
        rw [ge, Bool.true_or]
  obtain ⟨⟨i, k1, k2⟩, t2, t3, t4⟩ := tk
  generalize eW : wT c (T c) (pc c) (wStart c k g.1) = W1 at *
  have a1 := add_Kp (c := c) (ad := ad c) k1.2.2.1 12
  have a2 := add_nw (c := c) (ad := ad c) (W0 := W1) 12
  have eg : gStep n T pc ad k g = (foldN 12 (wAdd c (ad c)) W1, up1 g.2.1 c (wz W1 c), addG g.2.2.1 c, g.2.2.2 + wz (foldN 12 (wAdd c (ad c)) W1) c) := by
    unfold gStep wCopy
    rw [ec, eW]
  rw [eg]
  have zl : wz W1 c ≤ 12 * k := by
    have := k1.2.1
    omega
  refine ⟨a1.2.2.1, t2.adds, ?_, ?_, fun x gx => ?_, ?_⟩
  · show ww (foldN 12 (wAdd c (ad c)) W1) ≤ _
    omega
  · show wd (foldN 12 (wAdd c (ad c)) W1) ≤ _
    omega
  · show x < n ∧ up1 g.2.1 c (wz W1 c) x ≤ wz (foldN 12 (wAdd c (ad c)) W1) x ∧ wz (foldN 12 (wAdd c (ad c)) W1) x ≤ 12 * (k + 1)
    by_cases xc : x = c
    · subst xc
      rw [up1_eq]
      have := a1.2.1
      have := a1.2.2.2.1
      omega
    · have gx' : g.2.2.1 x = true := by
        have z : addG g.2.2.1 c x = true := gx
        unfold addG at z
        rw [decide_eq_false xc, Bool.or_false] at z
        exact z
      obtain ⟨z1, z2, z3⟩ := h5 x gx'
      rw [up1_ne xc, (a1.1 x xc).1, (k1.1 x xc).1, zx x xc]
      omega
  · show (sumN n fun x => if addG g.2.2.1 c x then 1 else 0) = k + 1
    rw [sum_addG p1 p2, h6]
theorem GIv_run {n : Nat} {al : Nat → Nat → Bool} {T pc : Nat → Nat} {ad : Nat → Nat → Nat} {seed : Nat} (ht : isTree n al T) (hs : seed < 1000003) : ∀ k, k ≤ n → GIv n k (gRun n T pc ad seed k) := by
  intro k
  induction k with
  | zero => intro _; exact GIv_zero hs
  | succ k ih => intro hk; exact GIv_step ht (ih (by omega)) (by omega)
