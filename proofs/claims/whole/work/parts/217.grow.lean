/-! TEXTS: two cells more; what the pieces see of it -/
/-- the rows below 110, without the texts' references of now -/
def res (h : pg_H) : pg_H := (0, 0, (fun r => if r < 110 then pg_k h r else (0, 0)), (fun r => if r < 110 then pg_i h r else fun _ => 0), (fun r => if r < 110 then pg_l h r else fun _ => 0), (fun r => if r < 110 then (if r = 14 then fun _ => 0 else pg_r h r) else fun _ => 0))
def Lo (S : List Nat) (T : List (Nat × Nat)) (h g : pg_H) : Prop := Ch S T (res h) (res g)
theorem Lo.of {S : List Nat} {T : List (Nat × Nat)} {h g : pg_H} (h1 : ∀ r, r < 110 → pg_k g r = pg_k h r) (h2 : ∀ r, r < 110 → r ≠ 14 → pg_r g r = pg_r h r) (h3 : ∀ r, r < 110 → ∀ k, ¬ (r ∈ S ∨ (r, k) ∈ T) → pg_i g r k = pg_i h r k ∧ pg_l g r k = pg_l h r k) : Lo S T h g := by
  refine ⟨rfl, rfl, ?_, ?_, fun r k w => ?_⟩
  · funext r
    show (if r < 110 then pg_k g r else (0, 0)) = if r < 110 then pg_k h r else (0, 0)
    by_cases c : r < 110
    · rw [if_pos c, if_pos c, h1 r c]
    · rw [if_neg c, if_neg c]
  · funext r
    show (if r < 110 then (if r = 14 then fun _ => 0 else pg_r g r) else fun _ => 0) = if r < 110 then (if r = 14 then fun _ => 0 else pg_r h r) else fun _ => 0
    by_cases c : r < 110
    · rw [if_pos c, if_pos c]
      by_cases e : r = 14
      · rw [if_pos e, if_pos e]
      · rw [if_neg e, if_neg e, h2 r c e]
    · rw [if_neg c, if_neg c]
  · show (if r < 110 then pg_i g r else fun _ => 0) k = (if r < 110 then pg_i h r else fun _ => 0) k ∧ (if r < 110 then pg_l g r else fun _ => 0) k = (if r < 110 then pg_l h r else fun _ => 0) k
    by_cases c : r < 110
    · rw [if_pos c, if_pos c, if_pos c, if_pos c]
      exact h3 r c k w
    · rw [if_neg c, if_neg c, if_neg c, if_neg c]
      exact ⟨rfl, rfl⟩
theorem Ch.lo {S : List Nat} {T : List (Nat × Nat)} {h g : pg_H} (a : Ch S T h g) : Lo S T h g :=
  Lo.of (fun r _ => by rw [a.kk]) (fun r _ _ => by rw [a.rr]) (fun r _ k w => a.2.2.2.2 r k w)
theorem Lo.trans {S : List Nat} {T : List (Nat × Nat)} {h g g' : pg_H} (a : Lo S T h g) (b : Lo S T g g') : Lo S T h g' := Ch.trans a b
theorem Lo.mono {S S' : List Nat} {T T' : List (Nat × Nat)} {h g : pg_H} (a : Lo S T h g) (q : (S.all fun r => S'.contains r) && (T.all fun z => S'.contains z.1 || T'.contains z)) : Lo S' T' h g := Ch.mono a q
theorem res_i {h : pg_H} {r : Nat} (hr : r < 110) : pg_i (res h) r = pg_i h r := if_pos hr
theorem res_l {h : pg_H} {r : Nat} (hr : r < 110) : pg_l (res h) r = pg_l h r := if_pos hr
theorem res_k {h : pg_H} {r : Nat} (hr : r < 110) : pg_k (res h) r = pg_k h r := if_pos hr
theorem res_r {h : pg_H} {r : Nat} (hr : r < 110) (h14 : r ≠ 14) : pg_r (res h) r = pg_r h r := by
  show (if r < 110 then (if r = 14 then fun _ => 0 else pg_r h r) else fun _ => 0) = pg_r h r
  rw [if_pos hr, if_neg h14]
theorem Lo.row {S : List Nat} {T : List (Nat × Nat)} {h g : pg_H} (a : Lo S T h g) {r : Nat} (hr : r < 110) (q : dis S T [r] []) : pg_i g r = pg_i h r := by
  rw [← res_i (h := g) hr, ← res_i (h := h) hr]
  exact Ch.row a q
theorem Lo.atM {S : List Nat} {T : List (Nat × Nat)} {h g : pg_H} (a : Lo S T h g) {r k : Nat} (hr : r < 110) (q : dis S T [] [(r, k)]) : pg_i g r k = pg_i h r k := by
  rw [← res_i (h := g) hr, ← res_i (h := h) hr]
  exact (Ch.at a q).1
/-- one place more on both sides -/
theorem Lo.si {S : List Nat} {T : List (Nat × Nat)} {h g : pg_H} (a : Lo S T h g) (r k : Nat) (x : Int32) : Lo S T (pg_si h r k x) (pg_si g r k x) := by
  refine Lo.of (fun r' hr => ?_) (fun r' hr h14 => ?_) (fun r' hr k' w => ?_)
  · show pg_k g r' = pg_k h r'
    rw [← res_k (h := g) hr, ← res_k (h := h) hr, Ch.kk a]
  · show pg_r g r' = pg_r h r'
    rw [← res_r (h := g) hr h14, ← res_r (h := h) hr h14, Ch.rr a]
  · have z := a.2.2.2.2 r' k' w
    rw [res_i hr, res_i hr, res_l hr, res_l hr] at z
    refine ⟨?_, z.2⟩
    by_cases e : r' = r
    · subst e
      rw [si_row, si_row]
      unfold up1
      by_cases e2 : k' = k
      · rw [if_pos e2, if_pos e2]
      · rw [if_neg e2, if_neg e2]
        exact z.1
    · rw [si_ne e, si_ne e]
      exact z.1
/-- the cells that are there already, above the laid ones -/
def Hi (h g : pg_H) : Prop := h.1 ≤ g.1 ∧ ∀ r, 110 ≤ r → r ≤ h.1 → pg_k g r = pg_k h r ∧ pg_i g r = pg_i h r ∧ pg_r g r = pg_r h r
theorem Hi.trans {h g g' : pg_H} (a : Hi h g) (b : Hi g g') : Hi h g' := ⟨Nat.le_trans a.1 b.1, fun r h1 h2 => by
  have x := a.2 r h1 h2
  have y := b.2 r h1 (Nat.le_trans h2 a.1)
  exact ⟨y.1.trans x.1, y.2.1.trans x.2.1, y.2.2.trans x.2.2⟩⟩
theorem Ch.hi {S : List Nat} {T : List (Nat × Nat)} {h g : pg_H} (a : Ch S T h g) (q : lowST S T) : Hi h g := ⟨Nat.le_of_eq a.1.symm, fun r h1 _ => ⟨by rw [a.kk], a.high q h1, by rw [a.rr]⟩⟩
theorem TxAll.hi {h g : pg_H} {a b : Nat} {A : Nat → Int32} {X : Nat → tX} (p : TxAll h a A X) (H : Hi h g) (e : ∀ t, t < nT A → pg_r g b t = pg_r h a t) : TxAll g b A X := fun t ht => by
  obtain ⟨p1, p2, p3⟩ := p t ht
  refine ⟨p1, ?_, p3⟩
  rw [e t ht]
  have q := p2.1
  have x := H.2 _ q.1 q.2.1
  have y := H.2 _ q.2.2.1 q.2.2.2.1
  exact p2.same ⟨x.1, by rw [x.2.2], y.1, y.2.1⟩ H.1
/-- the text object and its codes -/
def Nw (x g : pg_H) (n : Nat) : Prop := (g.1 = x.1 + 2 ∧ g.2.1 = x.2.1 + 1 + n) ∧ (∀ r, r ≤ x.1 → pg_k g r = pg_k x r ∧ pg_i g r = pg_i x r ∧ pg_l g r = pg_l x r ∧ pg_r g r = pg_r x r) ∧ pg_k g (x.1 + 1) = (10, 1) ∧ pg_r g (x.1 + 1) 0 = x.1 + 2 ∧ pg_k g (x.1 + 2) = (21, n) ∧ ∀ j, j < n → pg_i g (x.1 + 2) j = pg_i x 46 j
theorem layR_low : ∀ z ∈ layR, z.1 < 110 := by decide
theorem layI_low : ∀ z ∈ layI, z.1 < 110 := by decide
theorem Nw.lay {x g : pg_H} {n : Nat} (w : Nw x g n) (L : Lay x) : Lay g :=
  L.of (by rw [w.1.1]; omega) (fun r hr => (w.2.1 r (by have := L.1; omega)).1) (fun z hz => by rw [(w.2.1 z.1 (by have := L.1; have := layR_low z hz; omega)).2.2.2]) (fun z hz => by rw [(w.2.1 z.1 (by have := L.1; have := layI_low z hz; omega)).2.1]) (fun j => by rw [(w.2.1 86 (by have := L.1; omega)).2.1])
theorem Nw.lo {x g : pg_H} {n : Nat} (w : Nw x g n) (L : Lay x) (S : List Nat) (T : List (Nat × Nat)) : Lo S T x g := by
  have l := L.1
  refine Lo.of (fun r hr => (w.2.1 r (by omega)).1) (fun r hr _ => (w.2.1 r (by omega)).2.2.2) (fun r hr k _ => ?_)
  have z := w.2.1 r (by omega)
  rw [z.2.1, z.2.2.1]
  exact ⟨rfl, rfl⟩
theorem Nw.hi {x g : pg_H} {n : Nat} (w : Nw x g n) : Hi x g := ⟨by rw [w.1.1]; omega, fun r h1 h2 => by
  have z := w.2.1 r h2
  exact ⟨z.1, z.2.1, z.2.2.2⟩⟩
theorem mk_text {x : pg_H} (L : Lay x) {n : Nat} (hn : n < 400) (h2 : pg_i x 45 2 = nI n) (hl : x.1 + 2 < pg_lim) : ∃ g, mkText x = some (x.1 + 1, g) ∧ Nw x g n := by
  have l := L.1
  have K1 : ∀ r, r ≠ x.1 + 1 → pg_k (pg_pu x 10 1) r = pg_k x r := fun r hr => if_neg hr
  have I1 : ∀ r, r ≠ x.1 + 1 → pg_i (pg_pu x 10 1) r = pg_i x r := fun r hr => if_neg hr
  have G1 : ∀ r, r ≠ x.1 + 1 → pg_l (pg_pu x 10 1) r = pg_l x r := fun r hr => if_neg hr
  have R1 : ∀ r, r ≠ x.1 + 1 → pg_r (pg_pu x 10 1) r = pg_r x r := fun r hr => if_neg hr
  have K1n : pg_k (pg_pu x 10 1) (x.1 + 1) = (10, 1) := if_pos rfl
  have L1 : Lay (pg_pu x 10 1) := L.of (Nat.le_succ _) (fun r hr => K1 r (by omega)) (fun z hz => by rw [R1 z.1 (by have := layR_low z hz; omega)]) (fun z hz => by rw [I1 z.1 (by have := layI_low z hz; omega)]) (fun j => by rw [I1 86 (by omega)])
  have e1 : (pg_pu x 10 1).1 = x.1 + 1 := rfl
  have n1 : pg_new 9 1 x = some (x.1 + 1, pg_pu x 10 1) := if_pos (by omega)
  have i45 : pg_i (pg_pu x 10 1) 45 2 = nI n := by rw [I1 45 (by omega)]; exact h2
  have s1 : (pg_pu x 10 1).2.1 = x.2.1 + 1 := rfl
  unfold mkText
  rw [n1, Option.bind_some]
  dsimp only
  rw [nR_45_0 L1.kd L1.rd, Option.bind_some, ng_45 L1.kd, i45, Option.bind_some]
  generalize pg_pu x 10 1 = y at *
  have K2 : ∀ r, r ≠ x.1 + 2 → pg_k (pg_pu y 21 n) r = pg_k y r := fun r hr => if_neg (by rw [e1]; exact hr)
  have I2 : ∀ r, r ≠ x.1 + 2 → pg_i (pg_pu y 21 n) r = pg_i y r := fun r hr => if_neg (by rw [e1]; exact hr)
  have G2 : ∀ r, r ≠ x.1 + 2 → pg_l (pg_pu y 21 n) r = pg_l y r := fun r hr => if_neg (by rw [e1]; exact hr)
  have R2 : ∀ r, r ≠ x.1 + 2 → pg_r (pg_pu y 21 n) r = pg_r y r := fun r hr => if_neg (by rw [e1]; exact hr)
  have K2n : pg_k (pg_pu y 21 n) (x.1 + 2) = (21, n) := if_pos (by rw [e1])
  have e2 : (pg_pu y 21 n).1 = x.1 + 2 := by
    show y.1 + 1 = _
    rw [e1]
  have s2 : (pg_pu y 21 n).2.1 = x.2.1 + 1 + n := by
    show y.2.1 + n = _
    rw [s1]
  have cn : (nI n).toNatClampNeg = n := nI_clamp (by omega)
  have n2 : pg_newA 21 y (nI n) = some (x.1 + 2, pg_pu y 21 n) := by
    unfold pg_newA
    rw [cn, e1]
    exact if_pos ⟨by omega, nI_pos (by omega), by omega⟩
  have L2 : Lay (pg_pu y 21 n) := L1.of (by rw [e1, e2]; omega) (fun r hr => K2 r (by omega)) (fun z hz => by rw [R2 z.1 (by have := layR_low z hz; omega)]) (fun z hz => by rw [I2 z.1 (by have := layI_low z hz; omega)]) (fun j => by rw [I2 86 (by omega)])
  have mn : (if nI 400 < nI n then nI 400 else nI n) = nI n := if_neg (nI_nlt (by omega) (by decide))
  have mx : (if (0 : Int32) < nI n then nI n else (0 : Int32)) = nI n := by
    by_cases c : n = 0
    · rw [c]
      rfl
    · rw [if_pos (show (0 : Int32) < nI n from nI_lt (a := 0) (by omega) (by omega))]
  have k46 : pg_k (pg_pu y 21 n) 46 = (21, 400) := by
    rw [lay_k L2 (by decide)]
    decide
  obtain ⟨c, ec⟩ : ∃ c, c = pg_cpI (pg_pu y 21 n) 46 0 (x.1 + 2) 0 (nI n) := ⟨_, rfl⟩
  have cp : pg_cpyI (pg_pu y 21 n) 46 0 (x.1 + 2) 0 (nI n) = some c := by
    unfold pg_cpyI
    rw [k46, K2n, cn, show (0 : Int32).toNatClampNeg = 0 by decide, ec]
    exact if_pos ⟨rfl, rfl, by decide, by decide, nI_pos (by omega), by show 0 + n ≤ 400; omega, by show 0 + n ≤ n; omega⟩
  have ck : pg_k c = pg_k (pg_pu y 21 n) := by rw [ec]; rfl
  have cr : pg_r c = pg_r (pg_pu y 21 n) := by rw [ec]; rfl
  have cl' : pg_l c = pg_l (pg_pu y 21 n) := by rw [ec]; rfl
  have c1 : c.1 = x.1 + 2 := by rw [ec]; exact e2
  have cs : c.2.1 = x.2.1 + 1 + n := by rw [ec]; exact s2
  have ci : ∀ r, r ≠ x.1 + 2 → pg_i c r = pg_i (pg_pu y 21 n) r := fun r hr => by
    rw [ec]
    exact if_neg hr
  have cj : ∀ j, j < n → pg_i c (x.1 + 2) j = pg_i (pg_pu y 21 n) 46 j := fun j hj => by
    rw [ec]
    show (if x.1 + 2 = x.1 + 2 then va_cpy (pg_i (pg_pu y 21 n) 46) (pg_i (pg_pu y 21 n) (x.1 + 2)) _ _ _ else _) j = _
    rw [if_pos rfl, cn, show (0 : Int32).toNatClampNeg = 0 by decide]
    show (if 0 ≤ j ∧ j < 0 + n then pg_i (pg_pu y 21 n) 46 (0 + (j - 0)) else _) = _
    rw [if_pos ⟨Nat.zero_le _, by omega⟩, Nat.zero_add, Nat.sub_zero]
  refine ⟨pg_sr c (x.1 + 1) 0 (x.1 + 2), ?_, ⟨⟨c1, cs⟩, fun r hr => ⟨?_, ?_, ?_, ?_⟩, ?_, ?_, ?_, fun j hj => ?_⟩⟩
  · have rc : ∀ {τ : Type} (G : Option τ), pg_rcv 9 y (x.1 + 1) G = G := fun G => by
      unfold pg_rcv
      rw [K1n]
      rfl
    have pR' : pg_pR 9 0 c (x.1 + 1) (x.1 + 2) = some (pg_sr c (x.1 + 1) 0 (x.1 + 2)) := by
      unfold pg_pR
      rw [ck, K2 _ (by omega), K1n]
      rfl
    rw [rc]
    unfold F_X9_init F_J7_copyOf_59c91
    rw [if_neg (show ¬ x.1 + 1 = 0 by omega), nl_46 L1.kd, Option.bind_some, mn, mx, Option.bind_some, if_neg (show ¬ nI n = nI 400 from fun z => by have := (nI_eq (by omega) (by omega)).mp z; omega), n2, Option.bind_some]
    dsimp only
    rw [nl_46 L2.kd, Option.bind_some, if_pos (nI_lt hn (by omega)), cp, Option.bind_some, Option.bind_some]
    dsimp only
    rw [pR', Option.bind_some, Option.bind_some]
  · show pg_k c r = _
    rw [ck, K2 r (by omega), K1 r (by omega)]
  · show pg_i c r = _
    rw [ci r (by omega), I2 r (by omega), I1 r (by omega)]
  · show pg_l c r = _
    rw [cl', G2 r (by omega), G1 r (by omega)]
  · rw [sr_ne (by omega), cr, R2 r (by omega), R1 r (by omega)]
  · show pg_k c _ = _
    rw [ck, K2 _ (by omega), K1n]
  · rw [sr_row, up1_eq]
  · show pg_k c _ = _
    rw [ck, K2n]
  · show pg_i c _ j = _
    rw [cj j hj, I2 46 (by omega), I1 46 (by omega)]
theorem CNum.text {h : pg_H} {s : Nat} {A : Nat → Int32} {x : Int32} (C : CNum h s A) : CNum (pg_si h s 7 x) s (up1 A 1348 x) := by
  obtain ⟨a1, a2, a3, a4, a5, a6, a7, a8⟩ := C
  unfold CNum
  rw [nC_ne (by omega), nS_ne (by omega), nH_ne (by omega), nN_ne (by omega), up1_ne (show 1349 ≠ 1348 by omega), up1_eq]
  refine ⟨a1.off (by omega) (by omega) (by omega), a2.off (by omega) (by omega) (by omega), a3.off (by omega) (by omega) (by omega), a4.off (by omega) (by omega) (by omega), a5.off (by omega) (by omega) (by omega), fun k hk => ?_, ?_, ?_⟩
  · rw [si_ne (by omega), up1_ne (by omega)]
    exact a6 k hk
  · rw [si_row, up1_eq]
  · rw [si_row, up1_ne (by omega)]
    exact a8
/-! pieces over the low rows -/
theorem CNum.lo {S : List Nat} {T : List (Nat × Nat)} {h g : pg_H} {A : Nat → Int32} (C : CNum h 2 A) (a : Lo S T h g) (q : dis S T ((List.range 11).map fun i => 2 + 1 + i) [(2, 7), (2, 8)]) : CNum g 2 A := by
  have z : CNum (res h) 2 A := C
  exact (CNum.ch z a q : CNum (res g) 2 A)
theorem CNum.lo0 {S : List Nat} {T : List (Nat × Nat)} {h g : pg_H} {A : Nat → Int32} (C : CNum h 16 A) (a : Lo S T h g) (q : dis S T ((List.range 11).map fun i => 16 + 1 + i) [(16, 7), (16, 8)]) : CNum g 16 A := by
  have z : CNum (res h) 16 A := C
  exact (CNum.ch z a q : CNum (res g) 16 A)
theorem CNum.lo1 {S : List Nat} {T : List (Nat × Nat)} {h g : pg_H} {A : Nat → Int32} (C : CNum h 29 A) (a : Lo S T h g) (q : dis S T ((List.range 11).map fun i => 29 + 1 + i) [(29, 7), (29, 8)]) : CNum g 29 A := by
  have z : CNum (res h) 29 A := C
  exact (CNum.ch z a q : CNum (res g) 29 A)
theorem ReadOK.lo {S : List Nat} {T : List (Nat × Nat)} {h g : pg_H} {A : Nat → Int32} {w : Nat → Nat → Nat} (p : ReadOK h A w) (a : Lo S T h g) (q : dis S T [51, 52, 53, 54, 55, 56, 57] [(50, 8)]) (q2 : dis S T [] [(1, 14)]) : ReadOK g A w := by
  have z : ReadOK (res h) A w := p
  exact (ReadOK.ch z a q q2 : ReadOK (res g) A w)
theorem StemOK.lo {S : List Nat} {T : List (Nat × Nat)} {h g : pg_H} {A : Nat → Int32} {w : Nat → Nat → Nat} (p : StemOK h A w) (a : Lo S T h g) (q : dis S T [60, 66] [(59, 7), (59, 8)]) (q2 : dis S T [] [(1, 15)]) : StemOK g A w := by
  have z : StemOK (res h) A w := p
  exact (StemOK.ch z a q q2 : StemOK (res g) A w)
