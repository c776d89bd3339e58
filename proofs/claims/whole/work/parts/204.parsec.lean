/-! TEXTS: the class's parser is the plain one -/
def At (M : Nat → Int32) (a : Nat) (cs : List Nat) : Prop := ∀ k, k < cs.length → M (a + k) = nI (cs.getD k 0)
theorem at_nil (M : Nat → Int32) (a : Nat) : At M a [] := fun k hk => absurd hk (Nat.not_lt_zero k)
theorem at_app {M : Nat → Int32} {a : Nat} {cs ds : List Nat} : At M a (cs ++ ds) ↔ At M a cs ∧ At M (a + cs.length) ds := by
  refine ⟨fun h => ⟨fun k hk => ?_, fun k hk => ?_⟩, fun ⟨h1, h2⟩ k hk => ?_⟩
  · have z := h k (by rw [List.length_append]; omega)
    rw [z, List.getD_eq_getElem?_getD, List.getD_eq_getElem?_getD, List.getElem?_append_left hk]
  · have z := h (cs.length + k) (by rw [List.length_append]; omega)
    rw [Nat.add_assoc, z, List.getD_eq_getElem?_getD, List.getD_eq_getElem?_getD, List.getElem?_append_right (Nat.le_add_right _ _), Nat.add_sub_cancel_left]
  · rw [List.length_append] at hk
    by_cases q : k < cs.length
    · rw [h1 k q, List.getD_eq_getElem?_getD, List.getD_eq_getElem?_getD, List.getElem?_append_left q]
    · have z := h2 (k - cs.length) (by omega)
      rw [show a + k = a + cs.length + (k - cs.length) by omega, z, List.getD_eq_getElem?_getD, List.getD_eq_getElem?_getD, List.getElem?_append_right (by omega)]
theorem at_one {M : Nat → Int32} {a c : Nat} : At M a [c] ↔ M a = nI c := by
  refine ⟨fun h => h 0 (by simp), fun h k hk => ?_⟩
  have : k = 0 := by simp at hk; omega
  rw [this]
  exact h
theorem at_two {M : Nat → Int32} {a c d : Nat} : At M a [c, d] ↔ M a = nI c ∧ M (a + 1) = nI d := by
  rw [show [c, d] = [c] ++ [d] from rfl, at_app, at_one, show ([c] : List Nat).length = 1 from rfl, at_one]
theorem At.cong {M M' : Nat → Int32} {a : Nat} {cs : List Nat} (h : At M a cs) (e : ∀ k, k < a + cs.length → M' k = M k) : At M' a cs := fun k hk => by
  rw [e _ (by omega)]
  exact h k hk
abbrev T45 : List (Nat × Nat) := [(45, 2), (45, 3), (45, 4), (45, 5), (45, 6), (45, 7), (45, 8)]
def CO {α : Type} (K : Tk) (n : Nat) (by_ : Nat → Nat) (x : pg_H) (r : Option (Int32 × pg_H)) (b a : Nat) (p : Rs α) : Prop := ∃ x', Ch [46] T45 x x' ∧ Lay x' ∧ ((p.1 = 0 ∧ r = some (0, x') ∧ pg_i x' 45 8 = nI (tpos K p.2.1)) ∨
  (p.1 ≠ 0 ∧ r = some (1, x') ∧ CP K n by_ x' p.2.1 p.2.2.1 (a + p.2.2.2.1.length) ∧ At (pg_i x' 46) a p.2.2.2.1 ∧ ∀ k, k < b → pg_i x' 46 k = pg_i x 46 k))
def CSm {α : Type} (K : Tk) (n : Nat) (by_ : Nat → Nat) (g : Nat → Int32 → pg_H → Option (Int32 × pg_H)) (d : Nat) (P : Ps α) : Prop := ∀ x i l a, CP K n by_ x i l a → i ≤ tm_ K → l ≤ 50 → 3 * a ≤ 12 * l + tpos K i + 160 → CO K n by_ x (g 45 (nI d) x) a a (P i l a)
theorem nI_sub11 (j : Nat) : nI (j + 11) - (11 : Int32) = nI j := by
  have e : nI (j + 11) = nI j + 11 := (by rw [← nI_add]; rfl)
  rw [e, Int32.add_sub_cancel]
section PARSEC
variable {K : Tk} {n : Nat} {by_ : Nat → Nat} {α : Type}
theorem TkOK.sg (O : TkOK K n by_) {i : Nat} (hi : i ≤ tm_ K) (c : Nat) (h1 : 100 ≤ c) (h2 : c < 1000) : nI (tcd K i) = nI c ↔ trc K i = c := by
  rw [cd_eq O hi h2]
  have z := (O.2.2.1 i hi).2.1
  unfold codeR at z
  omega
theorem TkOK.wd (O : TkOK K n by_) {i : Nat} (hi : i ≤ tm_ K) (c : Nat) (h1 : c ≤ 19) : nI (tcd K i) = nI c ↔ trc K i = c + 1 := by
  rw [cd_eq O hi (by omega)]
  have z := (O.2.2.1 i hi).2.1
  unfold codeR at z
  omega
theorem TkOK.nm (O : TkOK K n by_) {i : Nat} (hi : i ≤ tm_ K) : nI (tcd K i) = (21 : Int32) ↔ trc K i = 50 := by
  rw [show (21 : Int32) = nI 21 from rfl, cd_eq O hi (by omega)]
  have z := (O.2.2.1 i hi).2.1
  unfold codeR at z
  omega
theorem CO.trans {x x1 : pg_H} {r : Option (Int32 × pg_H)} {a b b1 : Nat} {p : Rs α} (c : Ch [46] T45 x x1) (e : ∀ k, k < b → pg_i x1 46 k = pg_i x 46 k) (hb : b ≤ b1) (h : CO K n by_ x1 r b1 a p) : CO K n by_ x r b a p := by
  obtain ⟨x', c1, L, z⟩ := h
  refine ⟨x', c.trans c1, L, ?_⟩
  rcases z with z | ⟨z1, z2, z3, z4, z5⟩
  · exact Or.inl z
  · exact Or.inr ⟨z1, z2, z3, z4, fun k hk => by rw [z5 k (by omega), e k hk]⟩
theorem co_bad {x : pg_H} {i l a0 a b : Nat} (h : CP K n by_ x i l a0) : CO K n by_ x (F_X3_fail 45 x) b a (bad_ i : Rs α) := by
  have c1 : Ch [46] T45 x (pg_si x 45 8 (nI (tpos K i))) := (Ch.refl _ _ _).asi (Or.inr (by decide))
  exact ⟨_, c1, c1.lay h.1 (by decide), Or.inl ⟨rfl, c_fail h, by rw [si_row, up1_eq]; rfl⟩⟩
theorem co_fail {x : pg_H} {i l a0 a b : Nat} (h : CP K n by_ x i l a0) : CO K n by_ x (Option.bind (pg_rcv 3 x 45 (F_X3_fail 45 x)) fun v2 => (if v2.1 = 0 ∨ v2.1 = 1 then some (v2.1, v2.2) else none)) b a (bad_ i : Rs α) := by
  have c1 : Ch [46] T45 x (pg_si x 45 8 (nI (tpos K i))) := (Ch.refl _ _ _).asi (Or.inr (by decide))
  refine ⟨_, c1, c1.lay h.1 (by decide), Or.inl ⟨rfl, ?_, by rw [si_row, up1_eq]; rfl⟩⟩
  rw [nc_45 h.1.kd, c_fail h, Option.bind_some, if_pos (Or.inl rfl)]
theorem co_good {x : pg_H} {p : Rs α} {a b : Nat} (e : p.1 ≠ 0) (h : CP K n by_ x p.2.1 p.2.2.1 (a + p.2.2.2.1.length)) (hA : At (pg_i x 46) a p.2.2.2.1) : CO K n by_ x (some (1, x)) b a p := ⟨x, Ch.refl _ _ _, h.1, Or.inr ⟨e, rfl, h, hA, fun _ _ => rfl⟩⟩
/-- one token on -/
theorem c_adv (O : TkOK K n by_) {x : pg_H} {i l a : Nat} (h : CP K n by_ x i l a) (hi : i < tm_ K) : ∃ x', F_X3_advance 45 x = some x' ∧ CP K n by_ x' (i + 1) l a ∧ Ch [46] T45 x x' ∧ pg_i x' 46 = pg_i x 46 := by
  obtain ⟨x', e, h', c⟩ := O.2.2.2.2.2.2 x i l a hi h
  exact ⟨x', e, h', c.mono (by decide), c.row (by decide)⟩
theorem c_emits {x : pg_H} {i l a : Nat} (h : CP K n by_ x i l a) (ha : a < 400) (c : Nat) : ∃ x', F_X3_emit 45 (nI c) x = some x' ∧ CP K n by_ x' i l (a + 1) ∧ Ch [46] T45 x x' ∧ pg_i x' 46 a = nI c ∧ ∀ k, k < a → pg_i x' 46 k = pg_i x 46 k := by
  obtain ⟨x', e, h', c', w⟩ := c_emit h ha (nI c)
  exact ⟨x', e, h', c'.mono (by decide), by rw [w, up1_eq], fun k hk => by rw [w, up1_ne (by omega)]⟩
theorem c_jump {x : pg_H} {i l a : Nat} (h : CP K n by_ x i l a) (ha : a + 1 < 400) (c : Nat) : ∃ x', F_X3_emitJump 45 (nI c) x = some (nI (a + 1), x') ∧ CP K n by_ x' i l (a + 2) ∧ Ch [46] T45 x x' ∧ pg_i x' 46 a = nI c ∧ ∀ k, k < a → pg_i x' 46 k = pg_i x 46 k := by
  obtain ⟨x1, e1, h1, c1, w1, v1⟩ := c_emits h (by omega) c
  obtain ⟨x2, e2, h2, c2, w2, v2⟩ := c_emits h1 ha 0
  refine ⟨x2, ?_, h2, c1.trans c2, by rw [v2 a (by omega), w1], fun k hk => by rw [v2 k (by omega), v1 k hk]⟩
  unfold F_X3_emitJump
  rw [nc_45 h.1.kd, e1, Option.bind_some, nc_45 h1.1.kd, show (0 : Int32) = nI 0 from rfl, e2, Option.bind_some, ng_45 h2.1.kd, h2.2.2.2.2.2.2.1, Option.bind_some, nI_down]
theorem c_sign (O : TkOK K n by_) {x : pg_H} {i l a0 a b : Nat} (h : CP K n by_ x i l a0) (hi : i ≤ tm_ K) (s : Int32) (c : Nat) (hs : (100 : Int32) + s = nI c) (h1 : 100 ≤ c) (h2 : c < 1000) :
    (trc K i ≠ c ∧ CO K n by_ x (F_X3_takeSign 45 s x) b a (bad_ i : Rs α)) ∨ (trc K i = c ∧ ∃ x', F_X3_takeSign 45 s x = some (1, x') ∧ CP K n by_ x' (i + 1) l a0 ∧ Ch [46] T45 x x' ∧ pg_i x' 46 = pg_i x 46) := by
  unfold F_X3_takeSign
  rw [c_tok h, Option.bind_some, hs]
  by_cases q : trc K i = c
  · obtain ⟨x', e, h', c', w⟩ := c_adv O h (O.lt hi (by omega))
    refine Or.inr ⟨q, x', ?_, h', c', w⟩
    rw [if_pos ((O.sg hi c h1 h2).mpr q), nc_45 h.1.kd, e, Option.bind_some]
  · refine Or.inl ⟨q, ?_⟩
    rw [if_neg (fun z => q ((O.sg hi c h1 h2).mp z))]
    exact co_fail h
theorem c_part (O : TkOK K n by_) {gS : Nat → Int32 → pg_H → Option (Int32 × pg_H)} {d : Nat} {br : Bool} {S : Ps Int64} (hd : d ≤ 8 ∧ (br = true ↔ d < 8)) (hB : br = true → PBd K (SBd K) S) (hS : br = true → CSm K n by_ gS (d + 1) S) : CSm K n by_ (B_X3_readPart gS) d (partP K br S) := fun x i l a h hi hl hr => by
  have L := h.1
  unfold B_X3_readPart partP
  rw [c_tok h, Option.bind_some, Option.bind_some]
  by_cases c1 : trc K i = 191
  · rw [if_pos (show nI (tcd K i) = (191 : Int32) from (O.sg hi 191 (by omega) (by omega)).mpr c1), if_pos c1]
    unfold F_X3_openBracket
    have il := O.lt hi (by omega)
    by_cases c2 : br = true
    · rw [if_pos c2, if_pos (show nI d < (8 : Int32) from nI_lt (b := 8) (hd.2.mp c2) (by decide))]
      obtain ⟨x1, e1, h1, ch1, w1⟩ := c_adv O h il
      have p := O.2.2.2.1 i il
      obtain ⟨x2, ch2, L2, z⟩ := hS c2 x1 (i + 1) l a h1 il hl (by omega)
      have B := hB c2 (i + 1) l a il hl
      rw [nc_45 L.kd, nc_45 L.kd, e1, Option.bind_some, Option.bind_some, if_neg (show ¬ (1 : Int32) = 0 by decide), nc_45 h1.1.kd, nI_1]
      unfold closeP
      rcases z with ⟨z1, z2, z3⟩ | ⟨z1, z2, z3, z4, z5⟩
      · rw [z2, Option.bind_some, if_pos rfl, thn_0 z1]
        exact ⟨x2, ch1.trans ch2, L2, Or.inl ⟨rfl, rfl, z3⟩⟩
      · rw [z2, Option.bind_some, if_neg (show ¬ (1 : Int32) = 0 by decide), thn_1 z1, nc_45 z3.1.kd]
        have b := B.2 z1
        have c12 : ∀ k, k < a → pg_i x2 46 k = pg_i x 46 k := fun k hk => by rw [z5 k hk, w1]
        rcases c_sign O z3 b.2.1 (93 : Int32) 193 (by decide) (by omega) (by omega) (a := a) (b := a) (α := Int64) with ⟨q, w⟩ | ⟨q, x3, e3, h3, ch3, w3⟩
        · rw [if_neg q]
          obtain ⟨x3, ch3, L3, w⟩ := CO.trans (ch1.trans ch2) c12 (Nat.le_refl _) w
          rcases w with ⟨w1, w2, w3⟩ | ⟨w1, _⟩
          · rw [w2, Option.bind_some, if_pos rfl]
            exact ⟨x3, ch3, L3, Or.inl ⟨rfl, rfl, w3⟩⟩
          · exact absurd rfl w1
        · rw [if_pos q, e3, Option.bind_some, if_neg (show ¬ (1 : Int32) = 0 by decide)]
          exact CO.trans ((ch1.trans ch2).trans ch3) (fun k hk => by rw [w3, c12 k hk]) (Nat.le_refl _) (co_good (by simp) h3 (by rw [w3]; exact z4))
    · rw [if_neg c2, if_neg (show ¬ nI d < (8 : Int32) from nI_nlt (b := 8) (by have : ¬ d < 8 := fun z => c2 (hd.2.mpr z); omega) (by omega))]
      obtain ⟨x3, ch3, L3, w⟩ := co_fail (α := Int64) (a := a) (b := a) h
      rcases w with ⟨w1, w2, w3⟩ | ⟨w1, _⟩
      · rw [nc_45 L.kd, w2, Option.bind_some, if_pos rfl]
        exact ⟨x3, ch3, L3, Or.inl ⟨rfl, rfl, w3⟩⟩
      · exact absurd rfl w1
  · rw [if_neg (show ¬ nI (tcd K i) = (191 : Int32) from fun z => c1 ((O.sg hi 191 (by omega) (by omega)).mp z)), if_neg c1]
    have l50 : nI l < (50 : Int32) ↔ l < 50 := ⟨fun z => by
      by_cases q : l < 50
      · exact q
      · exact absurd z (nI_nlt (b := 50) (by omega) (by omega)), fun q => nI_lt (b := 50) q (by decide)⟩
    have cR := (O.2.2.1 i hi).2.1
    unfold codeR at cR
    have F : ∀ (u : Int32) (t c v : Nat) (V : (Nat → Int32) → Option Int64), (u = 0 ∧ t = 1 ∧ nI (tcd K i) - (11 : Int32) = nI v ∨ u = 1 ∧ t = 0 ∧ tcd K i = 21 ∧ nI (tcv K i) = nI v) → trc K i ≠ 0 → CO K n by_ x (F_X3_readPart_100 gS 45 u x) a a (if l < 50 then (1, i + 1, l + 1, [t, v], V) else bad_ i) := fun u t c v V hu hz => by
      unfold F_X3_readPart_100 F_X3_readPart_109
      rw [ng_45 L.kd, h.2.2.2.2.2.1, Option.bind_some]
      by_cases q : l < 50
      · rw [if_pos (l50.mpr q), if_pos q, Option.bind_some, np_45 L.kd, Option.bind_some, nI_1]
        have ch1 : Ch [46] T45 x (pg_si x 45 7 (nI (l + 1))) := (Ch.refl _ _ _).asi (Or.inr (by decide))
        have L1 := ch1.lay L (by decide)
        have h1 : CP K n by_ (pg_si x 45 7 (nI (l + 1))) i (l + 1) a := by
          have c2 : Ch [] [(45, 7)] x (pg_si x 45 7 (nI (l + 1))) := (Ch.refl _ _ _).asi (Or.inr (by decide))
          obtain ⟨_, g2, g3, g4, g5, g6, g7, g8, g9⟩ := h
          refine ⟨L1, ?_, ?_, ?_, ?_, by rw [si_row, up1_eq], ?_, ?_, fun e => ?_⟩
          · unfold TapeAt
            rw [c2.atM (R := [44]) (F := [(43, 1)]) (by decide) (r := 43) (k := 1) (by decide), c2.row (r := 44) (by decide)]
            exact g2
          · rw [c2.atM (R := []) (F := [(45, 5)]) (by decide) (by decide)]; exact g3
          · rw [c2.atM (R := []) (F := [(45, 3)]) (by decide) (by decide)]; exact g4
          · rw [c2.atM (R := []) (F := [(45, 4)]) (by decide) (by decide)]; exact g5
          · rw [c2.atM (R := []) (F := [(45, 2)]) (by decide) (by decide)]; exact g7
          · rw [c2.atM (R := []) (F := [(45, 8)]) (by decide) (by decide)]; exact g8
          · rw [c2.atM (R := []) (F := [(45, 6)]) (by decide) (by decide)]; exact g9 e
        have r1 : pg_i (pg_si x 45 7 (nI (l + 1))) 46 = pg_i x 46 := si_ne (by decide)
        have p4 := (O.2.2.1 i hi).1
        obtain ⟨x2, e2, h2, ch2, w2, v2⟩ := c_emits h1 (by omega) t
        obtain ⟨x3, e3, h3, ch3, w3, v3⟩ := c_emits h2 (by omega) v
        obtain ⟨x4, e4, h4, ch4, w4⟩ := c_adv O h3 (O.lt hi hz)
        have R : ∀ (s : Int32), s = nI v → (Option.bind (pg_rcv 3 x2 45 (F_X3_emit 45 s x2)) fun v1 => Option.bind (pg_rcv 3 v1 45 (F_X3_advance 45 v1)) fun v2 => (some ((1 : Int32), v2))) = some (1, x4) := fun s hs => by
          rw [hs, nc_45 h2.1.kd, e3, Option.bind_some, nc_45 h3.1.kd, e4, Option.bind_some]
        have Z : CO K n by_ x (some (1, x4)) a a ((1, i + 1, l + 1, [t, v], V) : Rs Int64) := CO.trans (((ch1.trans ch2).trans ch3).trans ch4) (fun k hk => by rw [w4, v3 k (by omega), v2 k hk, r1]) (Nat.le_refl _) (co_good (by simp) h4 (at_two.mpr ⟨by rw [w4, v3 a (by omega), w2], by rw [w4, w3]⟩))
        unfold F_X3_readPart_134 F_X3_readPart_156
        rcases hu with ⟨u0, rfl, u1⟩ | ⟨u0, rfl, u1, u2⟩
        · rw [u0, if_pos rfl, nc_45 L1.kd, show F_X3_emit 45 (1 : Int32) (pg_si x 45 7 (nI (l + 1))) = some x2 from e2, Option.bind_some, if_pos rfl, c_tok h2, Option.bind_some, R _ u1]
          exact Z
        · rw [u0, if_neg (show ¬ (1 : Int32) = 0 by decide), nc_45 L1.kd, show F_X3_emit 45 (0 : Int32) (pg_si x 45 7 (nI (l + 1))) = some x2 from e2, Option.bind_some, if_neg (show ¬ (1 : Int32) = 0 by decide), ng_45 h2.1.kd, h2.2.2.2.2.2.2.2.2 u1, Option.bind_some, R _ u2]
          exact Z
      · rw [if_neg (fun z => q (l50.mp z)), if_neg q]
        exact co_fail h
    have W : trc K i ≠ 50 ∨ 1000 < trv K i → CO K n by_ x (F_X3_readPart_66 gS 45 x) a a (if 12 ≤ trc K i ∧ trc K i ≤ 20 then (if l < 50 then (1, i + 1, l + 1, [1, trc K i - 12], fun e => some (e (trc K i - 12)).toInt64) else bad_ i) else bad_ i) := fun _ => by
      unfold F_X3_readPart_66 F_X3_readPart_67 F_X3_readPart_90 F_X3_readPart_91
      rw [c_tok h, Option.bind_some, Option.bind_some]
      by_cases c4 : 12 ≤ trc K i ∧ trc K i ≤ 20
      · have t4 : 11 ≤ tcd K i ∧ tcd K i ≤ 19 ∧ trc K i = tcd K i + 1 := by omega
        rw [if_pos c4, if_neg (show ¬ nI (tcd K i) < (11 : Int32) from nI_nlt (b := 11) t4.1 (by omega)), if_neg (show ¬ (19 : Int32) < nI (tcd K i) from nI_nlt (a := 19) t4.2.1 (by decide)), if_pos rfl, if_neg (show ¬ (1 : Int32) = 0 by decide)]
        refine F 0 1 0 _ _ (Or.inl ⟨rfl, rfl, ?_⟩) (by omega)
        obtain ⟨j, hj⟩ : ∃ j, tcd K i = j + 11 := ⟨tcd K i - 11, by omega⟩
        rw [show trc K i - 12 = j by omega, hj]
        exact nI_sub11 j
      · rw [if_neg c4]
        by_cases c5 : tcd K i < 11
        · rw [if_pos (show nI (tcd K i) < (11 : Int32) from nI_lt (b := 11) c5 (by decide)), if_pos rfl, if_pos rfl]
          exact co_fail h
        · rw [if_neg (show ¬ nI (tcd K i) < (11 : Int32) from nI_nlt (b := 11) (by omega) (by omega)), if_pos (show (19 : Int32) < nI (tcd K i) from nI_lt (a := 19) (by omega) (by omega)), if_pos rfl, if_pos rfl]
          exact co_fail h
    by_cases c2 : trc K i = 50
    · have t2 : tcd K i = 21 := by omega
      have tv := O.2.2.2.2.2.1 i hi t2
      rw [if_pos ((O.nm hi).mpr c2), ng_45 L.kd, h.2.2.2.2.2.2.2.2 t2, Option.bind_some]
      by_cases c3 : trv K i ≤ 1000
      · have e3 : tcv K i = trv K i := tv.1.2 (tv.1.1.mpr c3)
        rw [if_neg (show ¬ (1000 : Int32) < nI (tcv K i) from nI_nlt (a := 1000) (by omega) (by decide)), if_pos ⟨c2, c3⟩]
        unfold F_X3_readPart_67 F_X3_readPart_90 F_X3_readPart_91
        rw [c_tok h, Option.bind_some, Option.bind_some, if_neg (show ¬ (1 : Int32) = 0 by decide), if_neg (show ¬ (1 : Int32) = 0 by decide), ite_self, ite_self]
        exact F 1 0 0 _ _ (Or.inr ⟨rfl, rfl, t2, congrArg nI e3⟩) (by omega)
      · have e3 : 1000 < tcv K i := by
          have := tv.1.1
          omega
        rw [if_pos (show (1000 : Int32) < nI (tcv K i) from nI_lt (a := 1000) e3 (by omega)), if_neg (fun z => c3 z.2)]
        exact W (Or.inr (by omega))
    · rw [if_neg (fun z => c2 ((O.nm hi).mp z)), if_neg (fun z => c2 z.1)]
      exact W (Or.inl c2)
theorem c_TermL (O : TkOK K n by_) {gP : Nat → Int32 → pg_H → Option (Int32 × pg_H)} {d : Nat} {P : Ps Int64} (hB : PBd K (SBd K) P) (hP : CSm K n by_ gP d P) (i0 l0 a : Nat) (hr : 3 * a ≤ 12 * l0 + tpos K i0 + 160) (f : Nat) : ∀ N q i l cs v x, tm_ K < i + f → f ≤ N → q < i → SBd K i0 l0 i l cs → CP K n by_ x i l (a + cs.length) → At (pg_i x 46) a cs → CO K n by_ x (F_X3_readTerm_12 gP N 45 (nI d) (nI q) x) a a (binL K 142 6 147 7 P a f i l cs v) := by
  induction f with
  | zero => exact fun N q i l cs v x h1 h2 h3 hb h hA => absurd h1 (by have := hb.2.1; omega)
  | succ f ih =>
    intro N q i l cs v x h1 h2 h3 hb h hA
    obtain ⟨N', rfl⟩ : ∃ N', N = N' + 1 := ⟨N - 1, by omega⟩
    have L := h.1
    have hi := hb.2.1
    have m4 := O.1
    rw [F_X3_readTerm_12]
    dsimp only
    unfold binL
    have S : trc K i ≠ 0 → ∀ o : Nat, CO K n by_ x (F_X3_readTerm_56 gP (F_X3_readTerm_12 gP N') 45 (nI d) (nI q) (nI o) x) a a (thn (P (i + 1) l (a + cs.length)) fun j l' ds w => binL K 142 6 147 7 P a f j l' (cs ++ ds ++ [o]) (binV o v w)) := fun hz o => by
      have il := O.lt hi hz
      have p0 := O.pos (i := i0) (Nat.le_of_lt hb.1) hb.2.1
      have p := O.2.2.2.1 i il
      have p4 := (O.2.2.1 (i + 1) il).1
      unfold F_X3_readTerm_56
      obtain ⟨x1, e1, h1', ch1, w1⟩ := c_adv O h il
      have B := hB (i + 1) l (a + cs.length) il hb.2.2.1
      have hb' := hb.2.2.2
      obtain ⟨x2, ch2, L2, z⟩ := hP x1 (i + 1) l (a + cs.length) h1' il hb.2.2.1 (by omega)
      rw [nc_45 L.kd, e1, Option.bind_some, nc_45 h1'.1.kd]
      rcases z with ⟨z1, z2, z3⟩ | ⟨z1, z2, z3, z4, z5⟩
      · rw [z2, Option.bind_some, if_pos rfl, thn_0 z1]
        exact ⟨x2, ch1.trans ch2, L2, Or.inl ⟨rfl, rfl, z3⟩⟩
      · rw [z2, Option.bind_some, if_neg (show ¬ (1 : Int32) = 0 by decide), thn_1 z1, nc_45 z3.1.kd]
        have b := B.2 z1
        have b4 := b.2.2.2
        have b3 := b.2.2.1
        obtain ⟨x3, e3, h3', ch3, w3, v3⟩ := c_emits z3 (by omega) o
        rw [e3, Option.bind_some, nI_1]
        have lo : ∀ k, k < a + cs.length → pg_i x3 46 k = pg_i x 46 k := fun k hk => by rw [v3 k (by omega), z5 k hk, w1]
        refine CO.trans ((ch1.trans ch2).trans ch3) (fun k hk => lo k (by omega)) (Nat.le_refl _) (ih _ _ _ _ _ _ _ (by have := b.1; omega) (by omega) (by have := b.1; omega) ?_ ?_ ?_)
        · refine ⟨by have := b.1; have := hb.1; omega, b.2.1, b3, ?_⟩
          simp only [List.length_append, List.length_cons, List.length_nil]
          omega
        · have e : a + (cs ++ (P (i + 1) l (a + cs.length)).2.2.2.1 ++ [o]).length = a + cs.length + (P (i + 1) l (a + cs.length)).2.2.2.1.length + 1 := by
            simp only [List.length_append, List.length_cons, List.length_nil]
            omega
          rw [e]
          exact h3'
        · refine at_app.mpr ⟨at_app.mpr ⟨hA.cong lo, z4.cong (fun k hk => v3 k hk)⟩, at_one.mpr ?_⟩
          rw [List.length_append, ← Nat.add_assoc, w3]
    rw [if_pos (show nI q < (400 : Int32) from nI_lt (b := 400) (by omega) (by decide)), c_tok h, Option.bind_some, Option.bind_some]
    have s1 := O.sg hi 142 (by omega) (by omega)
    have s2 := O.sg hi 147 (by omega) (by omega)
    by_cases q1 : trc K i = 142
    · rw [if_pos (show nI (tcd K i) = (142 : Int32) from s1.mpr q1), if_pos (Or.inl q1), if_pos q1]
      unfold F_X3_readTerm_39
      rw [c_tok h, Option.bind_some, if_pos (show nI (tcd K i) = (142 : Int32) from s1.mpr q1)]
      exact S (by omega) 6
    · rw [if_neg (show ¬ nI (tcd K i) = (142 : Int32) from fun z => q1 (s1.mp z))]
      by_cases q2 : trc K i = 147
      · rw [if_pos (show nI (tcd K i) = (147 : Int32) from s2.mpr q2), if_pos (Or.inr q2), if_neg q1]
        unfold F_X3_readTerm_39
        rw [c_tok h, Option.bind_some, if_neg (show ¬ nI (tcd K i) = (142 : Int32) from fun z => q1 (s1.mp z))]
        exact S (by omega) 7
      · rw [if_neg (show ¬ nI (tcd K i) = (147 : Int32) from fun z => q2 (s2.mp z)), if_neg (fun z => z.elim q1 q2)]
        exact co_good (by simp) h hA
theorem c_Term (O : TkOK K n by_) {gP : Nat → Int32 → pg_H → Option (Int32 × pg_H)} {d : Nat} {P : Ps Int64} (hB : PBd K (SBd K) P) (hP : CSm K n by_ gP d P) : CSm K n by_ (B_X3_readTerm gP) d (binP K 142 6 147 7 P) := fun x i l a h hi hl hr => by
  obtain ⟨x2, ch2, L2, z⟩ := hP x i l a h hi hl hr
  have B := hB i l a hi hl
  unfold B_X3_readTerm binP
  rw [nc_45 h.1.kd]
  rcases z with ⟨z1, z2, z3⟩ | ⟨z1, z2, z3, z4, z5⟩
  · rw [z2, Option.bind_some, if_pos rfl, thn_0 z1]
    exact ⟨x2, ch2, L2, Or.inl ⟨rfl, rfl, z3⟩⟩
  · rw [z2, Option.bind_some, if_neg (show ¬ (1 : Int32) = 0 by decide), thn_1 z1]
    have b := B.2 z1
    exact CO.trans ch2 z5 (Nat.le_refl _) (c_TermL O hB hP i l a hr 401 _ 0 _ _ _ _ _ (by have := O.1; omega) (by unfold pg_fuel; omega) (by have := b.1; omega) b z3 z4)
theorem c_SumL (O : TkOK K n by_) {gP : Nat → Int32 → pg_H → Option (Int32 × pg_H)} {d : Nat} {P : Ps Int64} (hB : PBd K (SBd K) P) (hP : CSm K n by_ gP d P) (i0 l0 a : Nat) (hr : 3 * a ≤ 12 * l0 + tpos K i0 + 160) (f : Nat) : ∀ N q i l cs v x, tm_ K < i + f → f ≤ N → q < i → SBd K i0 l0 i l cs → CP K n by_ x i l (a + cs.length) → At (pg_i x 46) a cs → CO K n by_ x (F_X3_readSum_12 gP N 45 (nI d) (nI q) x) a a (binL K 143 4 145 5 P a f i l cs v) := by
  induction f with
  | zero => exact fun N q i l cs v x h1 h2 h3 hb h hA => absurd h1 (by have := hb.2.1; omega)
  | succ f ih =>
    intro N q i l cs v x h1 h2 h3 hb h hA
    obtain ⟨N', rfl⟩ : ∃ N', N = N' + 1 := ⟨N - 1, by omega⟩
    have L := h.1
    have hi := hb.2.1
    have m4 := O.1
    rw [F_X3_readSum_12]
    dsimp only
    unfold binL
    have S : trc K i ≠ 0 → ∀ o : Nat, CO K n by_ x (F_X3_readSum_54 gP (F_X3_readSum_12 gP N') 45 (nI d) (nI q) (nI o) x) a a (thn (P (i + 1) l (a + cs.length)) fun j l' ds w => binL K 143 4 145 5 P a f j l' (cs ++ ds ++ [o]) (binV o v w)) := fun hz o => by
      have il := O.lt hi hz
      have p0 := O.pos (i := i0) (Nat.le_of_lt hb.1) hb.2.1
      have p := O.2.2.2.1 i il
      have p4 := (O.2.2.1 (i + 1) il).1
      unfold F_X3_readSum_54
      obtain ⟨x1, e1, h1', ch1, w1⟩ := c_adv O h il
      have B := hB (i + 1) l (a + cs.length) il hb.2.2.1
      have hb' := hb.2.2.2
      obtain ⟨x2, ch2, L2, z⟩ := hP x1 (i + 1) l (a + cs.length) h1' il hb.2.2.1 (by omega)
      rw [nc_45 L.kd, e1, Option.bind_some, nc_45 h1'.1.kd]
      rcases z with ⟨z1, z2, z3⟩ | ⟨z1, z2, z3, z4, z5⟩
      · rw [z2, Option.bind_some, if_pos rfl, thn_0 z1]
        exact ⟨x2, ch1.trans ch2, L2, Or.inl ⟨rfl, rfl, z3⟩⟩
      · rw [z2, Option.bind_some, if_neg (show ¬ (1 : Int32) = 0 by decide), thn_1 z1, nc_45 z3.1.kd]
        have b := B.2 z1
        have b4 := b.2.2.2
        have b3 := b.2.2.1
        obtain ⟨x3, e3, h3', ch3, w3, v3⟩ := c_emits z3 (by omega) o
        rw [e3, Option.bind_some, nI_1]
        have lo : ∀ k, k < a + cs.length → pg_i x3 46 k = pg_i x 46 k := fun k hk => by rw [v3 k (by omega), z5 k hk, w1]
        refine CO.trans ((ch1.trans ch2).trans ch3) (fun k hk => lo k (by omega)) (Nat.le_refl _) (ih _ _ _ _ _ _ _ (by have := b.1; omega) (by omega) (by have := b.1; omega) ?_ ?_ ?_)
        · refine ⟨by have := b.1; have := hb.1; omega, b.2.1, b3, ?_⟩
          simp only [List.length_append, List.length_cons, List.length_nil]
          omega
        · have e : a + (cs ++ (P (i + 1) l (a + cs.length)).2.2.2.1 ++ [o]).length = a + cs.length + (P (i + 1) l (a + cs.length)).2.2.2.1.length + 1 := by
            simp only [List.length_append, List.length_cons, List.length_nil]
            omega
          rw [e]
          exact h3'
        · refine at_app.mpr ⟨at_app.mpr ⟨hA.cong lo, z4.cong (fun k hk => v3 k hk)⟩, at_one.mpr ?_⟩
          rw [List.length_append, ← Nat.add_assoc, w3]
    rw [if_pos (show nI q < (400 : Int32) from nI_lt (b := 400) (by omega) (by decide)), c_tok h, Option.bind_some, Option.bind_some]
    have s1 := O.sg hi 143 (by omega) (by omega)
    have s2 := O.sg hi 145 (by omega) (by omega)
    by_cases q1 : trc K i = 143
    · rw [if_pos (show nI (tcd K i) = (143 : Int32) from s1.mpr q1), if_pos (Or.inl q1), if_pos q1]
      unfold F_X3_readSum_39
      rw [c_tok h, Option.bind_some, if_pos (show nI (tcd K i) = (143 : Int32) from s1.mpr q1)]
      exact S (by omega) 4
    · rw [if_neg (show ¬ nI (tcd K i) = (143 : Int32) from fun z => q1 (s1.mp z))]
      by_cases q2 : trc K i = 145
      · rw [if_pos (show nI (tcd K i) = (145 : Int32) from s2.mpr q2), if_pos (Or.inr q2), if_neg q1]
        unfold F_X3_readSum_39
        rw [c_tok h, Option.bind_some, if_neg (show ¬ nI (tcd K i) = (143 : Int32) from fun z => q1 (s1.mp z))]
        exact S (by omega) 5
      · rw [if_neg (show ¬ nI (tcd K i) = (145 : Int32) from fun z => q2 (s2.mp z)), if_neg (fun z => z.elim q1 q2)]
        exact co_good (by simp) h hA
theorem c_Sum (O : TkOK K n by_) {gP : Nat → Int32 → pg_H → Option (Int32 × pg_H)} {d : Nat} {P : Ps Int64} (hB : PBd K (SBd K) P) (hP : CSm K n by_ gP d P) : CSm K n by_ (B_X3_readSum gP) d (binP K 143 4 145 5 P) := fun x i l a h hi hl hr => by
  obtain ⟨x2, ch2, L2, z⟩ := hP x i l a h hi hl hr
  have B := hB i l a hi hl
  unfold B_X3_readSum binP
  rw [nc_45 h.1.kd]
  rcases z with ⟨z1, z2, z3⟩ | ⟨z1, z2, z3, z4, z5⟩
  · rw [z2, Option.bind_some, if_pos rfl, thn_0 z1]
    exact ⟨x2, ch2, L2, Or.inl ⟨rfl, rfl, z3⟩⟩
  · rw [z2, Option.bind_some, if_neg (show ¬ (1 : Int32) = 0 by decide), thn_1 z1]
    have b := B.2 z1
    exact CO.trans ch2 z5 (Nat.le_refl _) (c_SumL O hB hP i l a hr 401 _ 0 _ _ _ _ _ (by have := O.1; omega) (by unfold pg_fuel; omega) (by have := b.1; omega) b z3 z4)
theorem c_BothL (O : TkOK K n by_) {gP : Nat → Int32 → pg_H → Option (Int32 × pg_H)} {d : Nat} {P : Ps Bool} (hB : PBd K (TBd K) P) (hP : CSm K n by_ gP d P) (i0 l0 a : Nat) (hr : 3 * a ≤ 12 * l0 + tpos K i0 + 160) (f : Nat) : ∀ N q i l cs v x, tm_ K < i + f → f ≤ N → q < i → TBd K i0 l0 i l cs → CP K n by_ x i l (a + cs.length) → At (pg_i x 46) a cs → CO K n by_ x (F_X3_readBoth_12 gP N 45 (nI d) (nI q) x) a a (jmpL K 10 3 P a f i l cs v) := by
  induction f with
  | zero => exact fun N q i l cs v x h1 h2 h3 hb h hA => absurd h1 (by have := hb.2.1; omega)
  | succ f ih =>
    intro N q i l cs v x h1 h2 h3 hb h hA
    obtain ⟨N', rfl⟩ : ∃ N', N = N' + 1 := ⟨N - 1, by omega⟩
    have L := h.1
    have hi := hb.2.1
    have m4 := O.1
    have s1 := O.wd hi 9 (by omega)
    rw [F_X3_readBoth_12]
    dsimp only
    unfold jmpL
    rw [if_pos (show nI q < (400 : Int32) from nI_lt (b := 400) (by omega) (by decide)), c_tok h, Option.bind_some]
    by_cases q1 : trc K i = 10
    · rw [if_pos (show nI (tcd K i) = (9 : Int32) from s1.mpr q1), if_pos q1]
      have il := O.lt hi (by omega)
      have p := O.2.2.2.1 i il
      have p4 := (O.2.2.1 (i + 1) il).1
      have hb5 := hb.2.2.2.2
      have hb3 := hb.2.2.1
      have hb4 := hb.2.2.2.1
      obtain ⟨x0, e0, h0, ch0, w0, v0⟩ := c_jump h (by omega) 3
      obtain ⟨x1, e1, h1', ch1, w1⟩ := c_adv O h0 il
      have B := hB (i + 1) l (a + cs.length + 2) il hb.2.2.1
      obtain ⟨x2, ch2, L2, z⟩ := hP x1 (i + 1) l (a + cs.length + 2) h1' il hb.2.2.1 (by omega)
      rw [nc_45 L.kd, show (3 : Int32) = nI 3 from rfl, e0, Option.bind_some, nc_45 h0.1.kd, e1, Option.bind_some, nc_45 h1'.1.kd]
      rcases z with ⟨z1, z2, z3⟩ | ⟨z1, z2, z3, z4, z5⟩
      · rw [z2, Option.bind_some, if_pos rfl, thn_0 z1]
        exact ⟨x2, (ch0.trans ch1).trans ch2, L2, Or.inl ⟨rfl, rfl, z3⟩⟩
      · rw [z2, Option.bind_some, if_neg (show ¬ (1 : Int32) = 0 by decide), thn_1 z1, nc_45 z3.1.kd]
        have b := B.2 z1
        have b5 := b.2.2.2.2
        have b3 := b.2.2.1
        have b4 := b.2.2.2.1
        obtain ⟨e3, h3', ch3⟩ := c_patch z3 (c := a + cs.length + 1) (by omega)
        rw [e3, Option.bind_some, nI_1]
        have lo2 : ∀ k, k < a + cs.length → pg_i x2 46 k = pg_i x 46 k := fun k hk => by rw [z5 k (by omega), w1, v0 k hk]
        have up : ∀ k, k ≠ a + cs.length + 1 → pg_i (pg_si x2 46 (a + cs.length + 1) (nI (a + cs.length + 2 + (P (i + 1) l (a + cs.length + 2)).2.2.2.1.length))) 46 k = pg_i x2 46 k := fun k hk => by rw [si_row, up1_ne hk]
        refine CO.trans (((ch0.trans ch1).trans ch2).trans (ch3.mono (by decide))) (fun k hk => by rw [up k (by omega), lo2 k (by omega)]) (Nat.le_refl _) (ih _ _ _ _ _ _ _ (by have := b.1; omega) (by omega) (by have := b.1; omega) ?_ ?_ ?_)
        · refine ⟨by have := b.1; have := hb.1; omega, b.2.1, b3, by omega, ?_⟩
          simp only [List.length_append, List.length_cons, List.length_nil]
          omega
        · have e : a + (cs ++ ([3, a + cs.length + 2 + (P (i + 1) l (a + cs.length + 2)).2.2.2.1.length] ++ (P (i + 1) l (a + cs.length + 2)).2.2.2.1)).length = a + cs.length + 2 + (P (i + 1) l (a + cs.length + 2)).2.2.2.1.length := by
            simp only [List.length_append, List.length_cons, List.length_nil]
            omega
          rw [e]
          exact h3'
        · refine at_app.mpr ⟨hA.cong (fun k hk => by rw [up k (by omega), lo2 k hk]), at_app.mpr ⟨at_two.mpr ⟨?_, ?_⟩, ?_⟩⟩
          · rw [up _ (by omega), z5 _ (by omega), w1, w0]
          · rw [si_row, up1_eq]
          · exact fun k hk => by
              rw [up _ (by simp only [List.length_cons, List.length_nil]; omega)]
              exact z4 k hk
    · rw [if_neg (show ¬ nI (tcd K i) = (9 : Int32) from fun z => q1 (s1.mp z)), if_neg q1]
      exact co_good (by simp) h hA
theorem c_Both (O : TkOK K n by_) {gP : Nat → Int32 → pg_H → Option (Int32 × pg_H)} {d : Nat} {P : Ps Bool} (hB : PBd K (TBd K) P) (hP : CSm K n by_ gP d P) : CSm K n by_ (B_X3_readBoth gP) d (jmpP K 10 3 P) := fun x i l a h hi hl hr => by
  obtain ⟨x2, ch2, L2, z⟩ := hP x i l a h hi hl hr
  have B := hB i l a hi hl
  unfold B_X3_readBoth jmpP
  rw [nc_45 h.1.kd]
  rcases z with ⟨z1, z2, z3⟩ | ⟨z1, z2, z3, z4, z5⟩
  · rw [z2, Option.bind_some, if_pos rfl, thn_0 z1]
    exact ⟨x2, ch2, L2, Or.inl ⟨rfl, rfl, z3⟩⟩
  · rw [z2, Option.bind_some, if_neg (show ¬ (1 : Int32) = 0 by decide), thn_1 z1]
    have b := B.2 z1
    exact CO.trans ch2 z5 (Nat.le_refl _) (c_BothL O hB hP i l a hr 401 _ 0 _ _ _ _ _ (by have := O.1; omega) (by unfold pg_fuel; omega) (by have := b.1; omega) b z3 z4)
theorem c_TestL (O : TkOK K n by_) {gP : Nat → Int32 → pg_H → Option (Int32 × pg_H)} {d : Nat} {P : Ps Bool} (hB : PBd K (TBd K) P) (hP : CSm K n by_ gP d P) (i0 l0 a : Nat) (hr : 3 * a ≤ 12 * l0 + tpos K i0 + 160) (f : Nat) : ∀ N q i l cs v x, tm_ K < i + f → f ≤ N → q < i → TBd K i0 l0 i l cs → CP K n by_ x i l (a + cs.length) → At (pg_i x 46) a cs → CO K n by_ x (F_X3_readTest_12 gP N 45 (nI d) (nI q) x) a a (jmpL K 9 2 P a f i l cs v) := by
  induction f with
  | zero => exact fun N q i l cs v x h1 h2 h3 hb h hA => absurd h1 (by have := hb.2.1; omega)
  | succ f ih =>
    intro N q i l cs v x h1 h2 h3 hb h hA
    obtain ⟨N', rfl⟩ : ∃ N', N = N' + 1 := ⟨N - 1, by omega⟩
    have L := h.1
    have hi := hb.2.1
    have m4 := O.1
    have s1 := O.wd hi 8 (by omega)
    rw [F_X3_readTest_12]
    dsimp only
    unfold jmpL
    rw [if_pos (show nI q < (400 : Int32) from nI_lt (b := 400) (by omega) (by decide)), c_tok h, Option.bind_some]
    by_cases q1 : trc K i = 9
    · rw [if_pos (show nI (tcd K i) = (8 : Int32) from s1.mpr q1), if_pos q1]
      have il := O.lt hi (by omega)
      have p := O.2.2.2.1 i il
      have p4 := (O.2.2.1 (i + 1) il).1
      have hb5 := hb.2.2.2.2
      have hb3 := hb.2.2.1
      have hb4 := hb.2.2.2.1
      obtain ⟨x0, e0, h0, ch0, w0, v0⟩ := c_jump h (by omega) 2
      obtain ⟨x1, e1, h1', ch1, w1⟩ := c_adv O h0 il
      have B := hB (i + 1) l (a + cs.length + 2) il hb.2.2.1
      obtain ⟨x2, ch2, L2, z⟩ := hP x1 (i + 1) l (a + cs.length + 2) h1' il hb.2.2.1 (by omega)
      rw [nc_45 L.kd, show (2 : Int32) = nI 2 from rfl, e0, Option.bind_some, nc_45 h0.1.kd, e1, Option.bind_some, nc_45 h1'.1.kd]
      rcases z with ⟨z1, z2, z3⟩ | ⟨z1, z2, z3, z4, z5⟩
      · rw [z2, Option.bind_some, if_pos rfl, thn_0 z1]
        exact ⟨x2, (ch0.trans ch1).trans ch2, L2, Or.inl ⟨rfl, rfl, z3⟩⟩
      · rw [z2, Option.bind_some, if_neg (show ¬ (1 : Int32) = 0 by decide), thn_1 z1, nc_45 z3.1.kd]
        have b := B.2 z1
        have b5 := b.2.2.2.2
        have b3 := b.2.2.1
        have b4 := b.2.2.2.1
        obtain ⟨e3, h3', ch3⟩ := c_patch z3 (c := a + cs.length + 1) (by omega)
        rw [e3, Option.bind_some, nI_1]
        have lo2 : ∀ k, k < a + cs.length → pg_i x2 46 k = pg_i x 46 k := fun k hk => by rw [z5 k (by omega), w1, v0 k hk]
        have up : ∀ k, k ≠ a + cs.length + 1 → pg_i (pg_si x2 46 (a + cs.length + 1) (nI (a + cs.length + 2 + (P (i + 1) l (a + cs.length + 2)).2.2.2.1.length))) 46 k = pg_i x2 46 k := fun k hk => by rw [si_row, up1_ne hk]
        refine CO.trans (((ch0.trans ch1).trans ch2).trans (ch3.mono (by decide))) (fun k hk => by rw [up k (by omega), lo2 k (by omega)]) (Nat.le_refl _) (ih _ _ _ _ _ _ _ (by have := b.1; omega) (by omega) (by have := b.1; omega) ?_ ?_ ?_)
        · refine ⟨by have := b.1; have := hb.1; omega, b.2.1, b3, by omega, ?_⟩
          simp only [List.length_append, List.length_cons, List.length_nil]
          omega
        · have e : a + (cs ++ ([2, a + cs.length + 2 + (P (i + 1) l (a + cs.length + 2)).2.2.2.1.length] ++ (P (i + 1) l (a + cs.length + 2)).2.2.2.1)).length = a + cs.length + 2 + (P (i + 1) l (a + cs.length + 2)).2.2.2.1.length := by
            simp only [List.length_append, List.length_cons, List.length_nil]
            omega
          rw [e]
          exact h3'
        · refine at_app.mpr ⟨hA.cong (fun k hk => by rw [up k (by omega), lo2 k hk]), at_app.mpr ⟨at_two.mpr ⟨?_, ?_⟩, ?_⟩⟩
          · rw [up _ (by omega), z5 _ (by omega), w1, w0]
          · rw [si_row, up1_eq]
          · exact fun k hk => by
              rw [up _ (by simp only [List.length_cons, List.length_nil]; omega)]
              exact z4 k hk
    · rw [if_neg (show ¬ nI (tcd K i) = (8 : Int32) from fun z => q1 (s1.mp z)), if_neg q1]
      exact co_good (by simp) h hA
theorem c_Test (O : TkOK K n by_) {gP : Nat → Int32 → pg_H → Option (Int32 × pg_H)} {d : Nat} {P : Ps Bool} (hB : PBd K (TBd K) P) (hP : CSm K n by_ gP d P) : CSm K n by_ (B_X3_readTest gP) d (jmpP K 9 2 P) := fun x i l a h hi hl hr => by
  obtain ⟨x2, ch2, L2, z⟩ := hP x i l a h hi hl hr
  have B := hB i l a hi hl
  unfold B_X3_readTest jmpP
  rw [nc_45 h.1.kd]
  rcases z with ⟨z1, z2, z3⟩ | ⟨z1, z2, z3, z4, z5⟩
  · rw [z2, Option.bind_some, if_pos rfl, thn_0 z1]
    exact ⟨x2, ch2, L2, Or.inl ⟨rfl, rfl, z3⟩⟩
  · rw [z2, Option.bind_some, if_neg (show ¬ (1 : Int32) = 0 by decide), thn_1 z1]
    have b := B.2 z1
    exact CO.trans ch2 z5 (Nat.le_refl _) (c_TestL O hB hP i l a hr 401 _ 0 _ _ _ _ _ (by have := O.1; omega) (by unfold pg_fuel; omega) (by have := b.1; omega) b z3 z4)
def turnP (t : Bool) (r : Rs Bool) : Rs Bool := thn r fun j l cs v => if t = true then (1, j, l, cs ++ [11], notV v) else (1, j, l, cs, v)
theorem plainP_eq (br : Bool) (T : Ps Bool) (S : Ps Int64) (i l a : Nat) : plainP K br T S i l a = turnP (nots K 401 i false).2 (posP K br T S (nots K 401 i false).1 l a) := rfl
theorem turnP_0 {t : Bool} {r : Rs Bool} (h : r.1 = 0) : turnP t r = bad_ r.2.1 := thn_0 h
theorem turnP_1 {t : Bool} {j l : Nat} {cs : List Nat} {v : (Nat → Int32) → Option Bool} : turnP t (1, j, l, cs, v) = if t = true then (1, j, l, cs ++ [11], notV v) else (1, j, l, cs, v) := thn_1 (by simp)
theorem c_162 {gT gS : Nat → Int32 → pg_H → Option (Int32 × pg_H)} {t : Bool} {x : pg_H} {j l a : Nat} {cs : List Nat} {v : (Nat → Int32) → Option Bool} (h : CP K n by_ x j l (a + cs.length)) (hA : At (pg_i x 46) a cs) (ha : a + cs.length < 400) : CO K n by_ x (F_X3_readPlain_162 gT gS 45 (if t = true then 1 else 0) x) a a (turnP t (1, j, l, cs, v)) := by
  unfold F_X3_readPlain_162
  rw [turnP_1]
  by_cases q : t = true
  · rw [if_pos q, if_pos q, if_neg (show ¬ (1 : Int32) = 0 by decide), nc_45 h.1.kd]
    obtain ⟨x', e, h', c, w, u⟩ := c_emits h ha 11
    rw [show (11 : Int32) = nI 11 from rfl, e, Option.bind_some]
    refine CO.trans c (fun k hk => u k (by omega)) (Nat.le_refl _) (co_good (by simp) ?_ ?_)
    · rw [List.length_append]
      exact h'
    · exact at_app.mpr ⟨hA.cong (fun k hk => u k hk), at_one.mpr w⟩
  · rw [if_neg q, if_neg q, if_pos rfl]
    exact co_good (by simp) h hA
theorem c_nots (O : TkOK K n by_) {gT gS : Nat → Int32 → pg_H → Option (Int32 × pg_H)} {d : Int32} {l a : Nat} (f : Nat) : ∀ N q i b x, tm_ K < i + f → f ≤ N → q ≤ i → CP K n by_ x i l a → i ≤ tm_ K →
    ∃ x', F_X3_readPlain_4 gT gS N 45 d (if b = true then 1 else 0) (nI q) x = F_X3_readPlain_40 gT gS 45 d (if (nots K f i b).2 = true then 1 else 0) x' ∧ Ch [46] T45 x x' ∧ pg_i x' 46 = pg_i x 46 ∧ CP K n by_ x' (nots K f i b).1 l a := by
  induction f with
  | zero => exact fun N q i b x h1 h2 h3 h hi => absurd h1 (by omega)
  | succ f ih =>
    intro N q i b x h1 h2 h3 h hi
    obtain ⟨N1, rfl⟩ : ∃ N1, N = N1 + 1 := ⟨N - 1, by omega⟩
    have m4 := O.1
    have s1 := O.wd hi 10 (by omega)
    unfold nots
    rw [F_X3_readPlain_4]
    dsimp only
    by_cases z : trc K i = 11
    · have il := O.lt hi (by omega)
      rw [if_pos (show nI q < (400 : Int32) from nI_lt (b := 400) (by omega) (by decide)), c_tok h, Option.bind_some, if_pos (show nI (tcd K i) = (10 : Int32) from s1.mpr z), if_pos z]
      unfold F_X3_readPlain_29
      obtain ⟨x1, e1, h1', ch1, w1⟩ := c_adv O h il
      obtain ⟨x', e, c, w, r⟩ := ih N1 (q + 1) (i + 1) (!b) x1 (by omega) (by omega) (by omega) h1' il
      refine ⟨x', ?_, ch1.trans c, by rw [w, w1], r⟩
      rw [← e, nc_45 h.1.kd, e1, Option.bind_some, Option.bind_some, nI_1]
      cases b with
      | true => rfl
      | false => rfl
    · refine ⟨x, ?_, Ch.refl _ _ _, rfl, ?_⟩
      · rw [c_tok h, Option.bind_some, if_neg (show ¬ nI (tcd K i) = (10 : Int32) from fun y => z (s1.mp y)), ite_self, if_neg z]
      · rw [if_neg z]; exact h
theorem c_pos (O : TkOK K n by_) {gT gS : Nat → Int32 → pg_H → Option (Int32 × pg_H)} {d : Nat} {br : Bool} {T : Ps Bool} {S : Ps Int64} (hd : d ≤ 8 ∧ (br = true ↔ d < 8)) (hBT : br = true → PBd K (TBd K) T) (hT : br = true → CSm K n by_ gT (d + 1) T)
    (hB : PBd K (SBd K) S) (hS : CSm K n by_ gS d S) (t : Bool) (i l a : Nat) (x : pg_H) (h : CP K n by_ x i l a) (hi : i ≤ tm_ K) (hl : l ≤ 50) (hr : 3 * a ≤ 12 * l + tpos K i + 160) : CO K n by_ x (F_X3_readPlain_40 gT gS 45 (nI d) (if t = true then 1 else 0) x) a a (turnP t (posP K br T S i l a)) := by
  have L := h.1
  unfold F_X3_readPlain_40 posP
  rw [c_tok h, Option.bind_some]
  have s0 := O.sg hi 140 (by omega) (by omega)
  by_cases c1 : trc K i = 140
  · rw [if_pos (show nI (tcd K i) = (140 : Int32) from s0.mpr c1), if_pos c1]
    unfold F_X3_openBracket
    have il := O.lt hi (by omega)
    by_cases c2 : br = true
    · rw [if_pos c2, if_pos (show nI d < (8 : Int32) from nI_lt (b := 8) (hd.2.mp c2) (by decide))]
      obtain ⟨x1, e1, h1, ch1, w1⟩ := c_adv O h il
      have p := O.2.2.2.1 i il
      obtain ⟨x2, ch2, L2, z⟩ := hT c2 x1 (i + 1) l a h1 il hl (by omega)
      have B := hBT c2 (i + 1) l a il hl
      rw [nc_45 L.kd, nc_45 L.kd, e1, Option.bind_some, Option.bind_some, if_neg (show ¬ (1 : Int32) = 0 by decide), nc_45 h1.1.kd, nI_1]
      unfold closeP
      rcases z with ⟨z1, z2, z3⟩ | ⟨z1, z2, z3, z4, z5⟩
      · rw [z2, Option.bind_some, if_pos rfl, thn_0 z1, turnP_0 rfl]
        exact ⟨x2, ch1.trans ch2, L2, Or.inl ⟨rfl, rfl, z3⟩⟩
      · rw [z2, Option.bind_some, if_neg (show ¬ (1 : Int32) = 0 by decide), thn_1 z1, nc_45 z3.1.kd]
        have b := B.2 z1
        have b5 := b.2.2.2.2
        have b3 := b.2.2.1
        have p4 := (O.2.2.1 _ b.2.1).1
        have c12 : ∀ k, k < a → pg_i x2 46 k = pg_i x 46 k := fun k hk => by rw [z5 k hk, w1]
        rcases c_sign O z3 b.2.1 (41 : Int32) 141 (by decide) (by omega) (by omega) (a := a) (b := a) (α := Bool) with ⟨q, w⟩ | ⟨q, x3, e3, h3, ch3, w3⟩
        · rw [if_neg q, turnP_0 rfl]
          obtain ⟨x3, ch3, L3, w⟩ := CO.trans (ch1.trans ch2) c12 (Nat.le_refl _) w
          rcases w with ⟨w1, w2, w3⟩ | ⟨w1, _⟩
          · rw [w2, Option.bind_some, if_pos rfl]
            exact ⟨x3, ch3, L3, Or.inl ⟨rfl, rfl, w3⟩⟩
          · exact absurd rfl w1
        · rw [if_pos q, e3, Option.bind_some, if_neg (show ¬ (1 : Int32) = 0 by decide)]
          exact CO.trans ((ch1.trans ch2).trans ch3) (fun k hk => by rw [w3, c12 k hk]) (Nat.le_refl _) (c_162 h3 (by rw [w3]; exact z4) (by omega))
    · rw [if_neg c2, if_neg (show ¬ nI d < (8 : Int32) from nI_nlt (b := 8) (by have : ¬ d < 8 := fun z => c2 (hd.2.mpr z); omega) (by omega)), turnP_0 rfl]
      obtain ⟨x3, ch3, L3, w⟩ := co_fail (α := Bool) (a := a) (b := a) h
      rcases w with ⟨w1, w2, w3⟩ | ⟨w1, _⟩
      · rw [nc_45 L.kd, w2, Option.bind_some, if_pos rfl]
        exact ⟨x3, ch3, L3, Or.inl ⟨rfl, rfl, w3⟩⟩
      · exact absurd rfl w1
  · rw [if_neg (show ¬ nI (tcd K i) = (140 : Int32) from fun z => c1 (s0.mp z)), if_neg c1]
    unfold cmpP
    obtain ⟨x2, ch2, L2, z⟩ := hS x i l a h hi hl hr
    have B := hB i l a hi hl
    rw [nc_45 L.kd]
    rcases z with ⟨z1, z2, z3⟩ | ⟨z1, z2, z3, z4, z5⟩
    · rw [z2, Option.bind_some, if_pos rfl, thn_0 z1, turnP_0 rfl]
      exact ⟨x2, ch2, L2, Or.inl ⟨rfl, rfl, z3⟩⟩
    · rw [z2, Option.bind_some, if_neg (show ¬ (1 : Int32) = 0 by decide), thn_1 z1, c_tok z3, Option.bind_some, Option.bind_some]
      have b := B.2 z1
      have hj := b.2.1
      have s1 := O.sg hj 160 (by omega) (by omega)
      have s2 := O.sg hj 162 (by omega) (by omega)
      have s3 := O.sg hj 161 (by omega) (by omega)
      have S2 : trc K (S i l a).2.1 ≠ 0 → ∀ o : Nat, CO K n by_ x (F_X3_readPlain_143 gT gS 45 (nI d) (if t = true then 1 else 0) (nI o) x2) a a (turnP t (thn (S ((S i l a).2.1 + 1) (S i l a).2.2.1 (a + (S i l a).2.2.2.1.length)) fun j2 l2 ds w => (1, j2, l2, (S i l a).2.2.2.1 ++ ds ++ [o], cmpV o (S i l a).2.2.2.2 w))) := fun hz o => by
        have jl := O.lt hj hz
        have p0 := O.pos (i := i) (Nat.le_of_lt b.1) hj
        have p := O.2.2.2.1 _ jl
        have p4 : tpos K ((S i l a).2.1 + 1) ≤ 400 := (O.2.2.1 _ jl).1
        have b4 := b.2.2.2
        have b3 := b.2.2.1
        unfold F_X3_readPlain_143
        obtain ⟨x3, e3, h3, ch3, w3⟩ := c_adv O z3 jl
        have B2 := hB ((S i l a).2.1 + 1) (S i l a).2.2.1 (a + (S i l a).2.2.2.1.length) jl b3
        obtain ⟨x4, ch4, L4, y⟩ := hS x3 ((S i l a).2.1 + 1) (S i l a).2.2.1 (a + (S i l a).2.2.2.1.length) h3 jl b3 (by omega)
        rw [nc_45 z3.1.kd, e3, Option.bind_some, nc_45 h3.1.kd]
        rcases y with ⟨y1, y2, y3⟩ | ⟨y1, y2, y3, y4, y5⟩
        · rw [y2, Option.bind_some, if_pos rfl, thn_0 y1, turnP_0 rfl]
          exact ⟨x4, (ch2.trans ch3).trans ch4, L4, Or.inl ⟨rfl, rfl, y3⟩⟩
        · rw [y2, Option.bind_some, if_neg (show ¬ (1 : Int32) = 0 by decide), thn_1 y1, nc_45 y3.1.kd]
          have d2 := B2.2 y1
          have d4 := d2.2.2.2
          have d3 := d2.2.2.1
          obtain ⟨x5, e5, h5, ch5, w5, v5⟩ := c_emits y3 (by omega) o
          rw [e5, Option.bind_some]
          have lo : ∀ k, k < a + (S i l a).2.2.2.1.length → pg_i x5 46 k = pg_i x2 46 k := fun k hk => by rw [v5 k (by omega), y5 k hk, w3]
          refine CO.trans (((ch2.trans ch3).trans ch4).trans ch5) (fun k hk => by rw [lo k (by omega), z5 k hk]) (Nat.le_refl _) (c_162 ?_ ?_ ?_)
          · have e : a + ((S i l a).2.2.2.1 ++ (S ((S i l a).2.1 + 1) (S i l a).2.2.1 (a + (S i l a).2.2.2.1.length)).2.2.2.1 ++ [o]).length = a + (S i l a).2.2.2.1.length + (S ((S i l a).2.1 + 1) (S i l a).2.2.1 (a + (S i l a).2.2.2.1.length)).2.2.2.1.length + 1 := by
              simp only [List.length_append, List.length_cons, List.length_nil]
              omega
            rw [e]
            exact h5
          · refine at_app.mpr ⟨at_app.mpr ⟨z4.cong lo, y4.cong (fun k hk => v5 k hk)⟩, at_one.mpr ?_⟩
            rw [List.length_append, ← Nat.add_assoc, w5]
          · simp only [List.length_append, List.length_cons, List.length_nil]
            omega
      unfold F_X3_readPlain_121
      by_cases q1 : trc K (S i l a).2.1 = 160
      · rw [if_pos (show nI (tcd K (S i l a).2.1) = (160 : Int32) from s1.mpr q1), if_neg (show ¬ (8 : Int32) = (10 : Int32) by decide), if_pos (Or.inl q1), if_pos q1]
        exact S2 (by omega) 8
      · rw [if_neg (show ¬ nI (tcd K (S i l a).2.1) = (160 : Int32) from fun z => q1 (s1.mp z))]
        by_cases q2 : trc K (S i l a).2.1 = 162
        · rw [if_pos (show nI (tcd K (S i l a).2.1) = (162 : Int32) from s2.mpr q2), if_neg (show ¬ (9 : Int32) = (10 : Int32) by decide), if_pos (Or.inr (Or.inl q2)), if_neg q1, if_pos q2]
          exact S2 (by omega) 9
        · rw [if_neg (show ¬ nI (tcd K (S i l a).2.1) = (162 : Int32) from fun z => q2 (s2.mp z)), if_pos rfl, c_tok z3, Option.bind_some]
          by_cases q3 : trc K (S i l a).2.1 = 161
          · rw [if_pos (show nI (tcd K (S i l a).2.1) = (161 : Int32) from s3.mpr q3), if_pos (Or.inr (Or.inr q3)), if_neg q1, if_neg q2]
            exact S2 (by omega) 10
          · rw [if_neg (show ¬ nI (tcd K (S i l a).2.1) = (161 : Int32) from fun z => q3 (s3.mp z)), if_neg (fun z => z.elim q1 fun z => z.elim q2 q3), turnP_0 rfl]
            exact CO.trans ch2 z5 (Nat.le_refl _) (co_fail z3)
theorem c_plain (O : TkOK K n by_) {gT gS : Nat → Int32 → pg_H → Option (Int32 × pg_H)} {d : Nat} {br : Bool} {T : Ps Bool} {S : Ps Int64} (hd : d ≤ 8 ∧ (br = true ↔ d < 8)) (hBT : br = true → PBd K (TBd K) T) (hT : br = true → CSm K n by_ gT (d + 1) T)
    (hB : PBd K (SBd K) S) (hS : CSm K n by_ gS d S) : CSm K n by_ (B_X3_readPlain gT gS) d (plainP K br T S) := fun x i l a h hi hl hr => by
  rw [plainP_eq]
  unfold B_X3_readPlain
  obtain ⟨x1, e1, c1, w1, r1⟩ := c_nots O (gT := gT) (gS := gS) (d := nI d) 401 pg_fuel 0 i false x (by have := O.1; omega) (by unfold pg_fuel; omega) (Nat.zero_le _) h hi
  have bn := b_nots O 401 i false hi
  have e0 : F_X3_readPlain_4 gT gS pg_fuel 45 (nI d) (0 : Int32) (0 : Int32) x = F_X3_readPlain_4 gT gS pg_fuel 45 (nI d) (if (false : Bool) = true then 1 else 0) (nI 0) x := rfl
  rw [e0, e1]
  exact CO.trans c1 (fun k hk => by rw [w1]) (Nat.le_refl _) (c_pos O hd hBT hT hB hS _ _ _ _ _ r1 bn.2.1 hl (by omega))
/-! all depths -/
theorem c_sums (O : TkOK K n by_) (k : Nat) : ∀ N, k ≤ 8 → CSm K n by_ (FG_X3_readTest (N + 3 * k + 3)).2.2.2.1 (8 - k) (sumP K k) := by
  induction k with
  | zero => exact fun N _ => c_Sum O (b_bin O (by decide) (by decide) (b_part O (fun z => absurd z (by decide)))) (c_Term O (b_part O (fun z => absurd z (by decide))) (c_part O ⟨by omega, by simp⟩ (fun z => absurd z (by decide)) (fun z => absurd z (by decide))))
  | succ k ih =>
    intro N hk
    have z := ih N (by omega)
    have e : 8 - k = 8 - (k + 1) + 1 := by omega
    rw [e] at z
    exact c_Sum O (b_bin O (by decide) (by decide) (b_part O (fun _ => b_sum O k))) (c_Term O (b_part O (fun _ => b_sum O k)) (c_part O ⟨by omega, ⟨fun _ => by omega, fun _ => rfl⟩⟩ (fun _ => b_sum O k) (fun _ => z)))
theorem c_tests (O : TkOK K n by_) (k : Nat) : ∀ N, k ≤ 8 → CSm K n by_ (FG_X3_readTest (N + 3 * k + 6)).1 (8 - k) (testP K k) := by
  induction k with
  | zero => exact fun N _ => c_Test O (b_jmp O (by decide) (b_plain O (fun z => absurd z (by decide)) (b_sum O 0))) (c_Both O (b_plain O (fun z => absurd z (by decide)) (b_sum O 0)) (c_plain O ⟨by omega, by simp⟩ (fun z => absurd z (by decide)) (fun z => absurd z (by decide)) (b_sum O 0) (c_sums O 0 N (by omega))))
  | succ k ih =>
    intro N hk
    have z := ih N (by omega)
    have e : 8 - k = 8 - (k + 1) + 1 := by omega
    rw [e] at z
    exact c_Test O (b_jmp O (by decide) (b_plain O (fun _ => b_test O k) (b_sum O (k + 1)))) (c_Both O (b_plain O (fun _ => b_test O k) (b_sum O (k + 1))) (c_plain O ⟨by omega, ⟨fun _ => by omega, fun _ => rfl⟩⟩ (fun _ => b_test O k) (fun _ => z) (b_sum O (k + 1)) (c_sums O (k + 1) N hk)))
theorem c_sum0 (O : TkOK K n by_) : CSm K n by_ F_X3_readSum 0 (sumP K 8) := c_sums O 8 1273 (by omega)
theorem c_test0 (O : TkOK K n by_) : CSm K n by_ F_X3_readTest 0 (testP K 8) := c_tests O 8 1270 (by omega)
end PARSEC
