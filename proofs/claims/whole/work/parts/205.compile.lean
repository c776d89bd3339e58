/-! TEXTS: the class reads clauses and whole texts as the plain parser does -/
section COMPILE
variable {K : Tk} {n : Nat} {by_ : Nat → Nat}
theorem c_95 {x : pg_H} {i l a : Nat} {b c : Nat} (h : CP K n by_ x i l a) (hc : c + 2 < 400) : F_X3_readClause_95 45 (nI c) x = some (1, pg_si x 46 (c + 2) (nI a)) ∧ CP K n by_ (pg_si x 46 (c + 2) (nI a)) i l a ∧ Ch [46] [] x (pg_si x 46 (c + 2) (nI a)) := by
  obtain ⟨e, h', ch⟩ := c_patch h hc
  refine ⟨?_, h', ch⟩
  unfold F_X3_readClause_95
  rw [show nI c + (2 : Int32) = nI (c + 2) by rw [← nI_add]; rfl, nc_45 h.1.kd, e, Option.bind_some]
/-- behind the sum: the test -/
theorem c_65 (O : TkOK K n by_) {x : pg_H} {i j l a : Nat} {cs : List Nat} {v : (Nat → Int32) → Option Int64} (t : Nat) (h : CP K n by_ x j l (a + 3 + cs.length)) (hj : j ≤ tm_ K) (hl : l ≤ 50) (hr : 3 * (a + 3 + cs.length) ≤ 12 * l + tpos K j + 160)
    (h0 : pg_i x 46 a = nI t) (hA : At (pg_i x 46) (a + 3) cs) : CO K n by_ x (F_X3_readClause_65 45 (nI a) x) a a (thn (testPart K j l (a + 3 + cs.length)) fun j2 l2 ds w => ((1, j2, l2, [t, a + 3 + cs.length, a + 3 + cs.length + ds.length] ++ cs ++ ds, fun e => some (trc K i, v e, w e)) : Rs ClV)) := by
  have p4 := (O.2.2.1 j hj).1
  have L := h.1
  unfold F_X3_readClause_65
  obtain ⟨e1, h1, ch1⟩ := c_patch h (c := a + 1) (by omega)
  have s1 := O.wd hj 7 (by omega)
  have u1 : ∀ k, k ≠ a + 1 → pg_i (pg_si x 46 (a + 1) (nI (a + 3 + cs.length))) 46 k = pg_i x 46 k := fun k hk => by rw [si_row, up1_ne hk]
  have f1 : pg_i (pg_si x 46 (a + 1) (nI (a + 3 + cs.length))) 46 (a + 1) = nI (a + 3 + cs.length) := by rw [si_row, up1_eq]
  rw [nI_1, nc_45 L.kd, e1, Option.bind_some, c_tok h1, Option.bind_some]
  have Z : ∀ (x2 : pg_H) (j2 l2 : Nat) (ds : List Nat) (w : (Nat → Int32) → Option Bool), Ch [46] T45 x x2 → CP K n by_ x2 j2 l2 (a + 3 + cs.length + ds.length) → (∀ k, k < a + 3 + cs.length → pg_i x2 46 k = pg_i (pg_si x 46 (a + 1) (nI (a + 3 + cs.length))) 46 k) → At (pg_i x2 46) (a + 3 + cs.length) ds →
      CO K n by_ x (F_X3_readClause_95 45 (nI a) x2) a a ((1, j2, l2, [t, a + 3 + cs.length, a + 3 + cs.length + ds.length] ++ cs ++ ds, fun e => some (trc K i, v e, w e)) : Rs ClV) := fun x2 j2 l2 ds w ch2 h2 lo hd => by
    obtain ⟨e3, h3, ch3⟩ := c_95 (b := 0) h2 (c := a) (by omega)
    rw [e3]
    have u3 : ∀ k, k ≠ a + 2 → pg_i (pg_si x2 46 (a + 2) (nI (a + 3 + cs.length + ds.length))) 46 k = pg_i x2 46 k := fun k hk => by rw [si_row, up1_ne hk]
    refine CO.trans (ch2.trans (ch3.mono (by decide))) (fun k hk => by rw [u3 k (by omega), lo k (by omega), u1 k (by omega)]) (Nat.le_refl _) (co_good (by simp) ?_ ?_)
    · have e : a + ([t, a + 3 + cs.length, a + 3 + cs.length + ds.length] ++ cs ++ ds).length = a + 3 + cs.length + ds.length := by
        simp only [List.length_append, List.length_cons, List.length_nil]
        omega
      rw [e]
      exact h3
    · refine at_app.mpr ⟨at_app.mpr ⟨?_, ?_⟩, ?_⟩
      · rw [show [t, a + 3 + cs.length, a + 3 + cs.length + ds.length] = [t, a + 3 + cs.length] ++ [a + 3 + cs.length + ds.length] from rfl]
        refine at_app.mpr ⟨at_two.mpr ⟨?_, ?_⟩, at_one.mpr ?_⟩
        · rw [u3 a (by omega), lo a (by omega), u1 a (by omega), h0]
        · rw [u3 (a + 1) (by omega), lo (a + 1) (by omega), f1]
        · rw [show a + [t, a + 3 + cs.length].length = a + 2 from rfl, si_row, up1_eq]
      · exact fun k hk => by
          rw [show a + [t, a + 3 + cs.length, a + 3 + cs.length + ds.length].length = a + 3 from rfl, u3 _ (by omega), lo _ (by omega), u1 _ (by omega)]
          exact hA k hk
      · exact fun k hk => by
          have e : a + ([t, a + 3 + cs.length, a + 3 + cs.length + ds.length] ++ cs).length = a + 3 + cs.length := by
            simp only [List.length_append, List.length_cons, List.length_nil]
            omega
          rw [e, u3 _ (by omega)]
          exact hd k hk
  unfold testPart
  by_cases q : trc K j = 8
  · rw [if_pos (show nI (tcd K j) = (7 : Int32) from s1.mpr q), if_pos q]
    have jl := O.lt hj (by omega)
    have p := O.2.2.2.1 j jl
    obtain ⟨x2, e2, h2, ch2, w2⟩ := c_adv O h1 jl
    have B := b_test O 8 (j + 1) l (a + 3 + cs.length) jl hl
    obtain ⟨x3, ch3, L3, z⟩ := c_test0 O x2 (j + 1) l (a + 3 + cs.length) h2 jl hl (by omega)
    rw [nc_45 h1.1.kd, e2, Option.bind_some, nc_45 h2.1.kd, show (0 : Int32) = nI 0 from rfl]
    rcases z with ⟨z1, z2, z3⟩ | ⟨z1, z2, z3, z4, z5⟩
    · rw [z2, Option.bind_some, show nI 0 = (0 : Int32) from rfl, if_pos rfl, thn_0 z1]
      exact ⟨x3, ((ch1.mono (by decide)).trans ch2).trans ch3, L3, Or.inl ⟨rfl, rfl, z3⟩⟩
    · rw [z2, Option.bind_some, show nI 0 = (0 : Int32) from rfl, if_neg (show ¬ (1 : Int32) = 0 by decide), thn_1 z1]
      exact Z x3 _ _ _ _ (((ch1.mono (by decide)).trans ch2).trans ch3) z3 (fun k hk => by rw [z5 k hk, w2]) z4
  · rw [if_neg (show ¬ nI (tcd K j) = (7 : Int32) from fun z => q (s1.mp z)), if_neg q, thn_1 (by simp)]
    exact Z _ j l [] _ (ch1.mono (by decide)) h1 (fun k _ => rfl) (at_nil _ _)
theorem c_clause (O : TkOK K n by_) {x : pg_H} {i l a : Nat} (h : CP K n by_ x i l a) (hi : i ≤ tm_ K) (hl : l ≤ 50) (hr : 3 * a + 9 ≤ 12 * l + tpos K i + 160) : CO K n by_ x (F_X3_readClause 45 x) a a (clauseP K i l a) := by
  have L := h.1
  have p4 := (O.2.2.1 i hi).1
  have cR := (O.2.2.1 i hi).2.1
  unfold codeR at cR
  unfold F_X3_readClause clauseP F_X3_readClause_16
  rw [c_tok h, Option.bind_some, Option.bind_some, Option.bind_some, if_neg (show ¬ nI (tcd K i) < (0 : Int32) from nI_nlt (b := 0) (Nat.zero_le _) (by omega))]
  by_cases q : 1 ≤ trc K i ∧ trc K i ≤ 7
  · have t6 : tcd K i ≤ 6 ∧ trc K i = tcd K i + 1 := by omega
    have il := O.lt hi (by omega)
    have p := O.2.2.2.1 i il
    rw [if_pos q, if_neg (show ¬ (6 : Int32) < nI (tcd K i) from nI_nlt (a := 6) t6.1 (by decide)), ng_45 L.kd, h.2.2.2.2.2.2.1, Option.bind_some]
    obtain ⟨x1, e1, h1, ch1, w1, v1⟩ := c_emits h (by omega) (tcd K i)
    obtain ⟨x2, e2, h2, ch2, w2, v2⟩ := c_emits h1 (by omega) 0
    obtain ⟨x3, e3, h3, ch3, w3, v3⟩ := c_emits h2 (by omega) 0
    obtain ⟨x4, e4, h4, ch4, w4⟩ := c_adv O h3 il
    have ch := ((ch1.trans ch2).trans ch3).trans ch4
    have lo : ∀ k, k < a → pg_i x4 46 k = pg_i x 46 k := fun k hk => by rw [w4, v3 k (by omega), v2 k (by omega), v1 k hk]
    have l0 : pg_i x4 46 a = nI (tcd K i) := by rw [w4, v3 a (by omega), v2 a (by omega), w1]
    have et : trc K i - 1 = tcd K i := by omega
    rw [nc_45 L.kd, e1, Option.bind_some, nc_45 h1.1.kd, show F_X3_emit 45 (0 : Int32) x1 = some x2 from e2, Option.bind_some, nc_45 h2.1.kd, show F_X3_emit 45 (0 : Int32) x2 = some x3 from e3, Option.bind_some, nc_45 h3.1.kd, e4, Option.bind_some, et]
    have H := b_head O (i := i) (l := l) (a := a + 3) hi hl (by omega)
    unfold headPart at H ⊢
    by_cases c5 : trc K i ≤ 5
    · rw [if_pos c5] at H ⊢
      rw [if_pos (show nI (tcd K i) < (5 : Int32) from nI_lt (b := 5) (by omega) (by decide)), nc_45 h4.1.kd]
      obtain ⟨x5, ch5, L5, z⟩ := c_sum0 O x4 (i + 1) l (a + 3) h4 il hl (by omega)
      rw [show F_X3_readSum 45 (0 : Int32) x4 = F_X3_readSum 45 (nI 0) x4 from rfl]
      rcases z with ⟨z1, z2, z3⟩ | ⟨z1, z2, z3, z4, z5⟩
      · rw [z2, Option.bind_some, if_pos rfl, thn_0 z1]
        exact ⟨x5, ch.trans ch5, L5, Or.inl ⟨rfl, rfl, z3⟩⟩
      · rw [z2, Option.bind_some, if_neg (show ¬ (1 : Int32) = 0 by decide), thn_1 z1]
        have b := H.2 z1
        have p5 := O.pos (i := i + 1) (by omega) b.2.1
        exact CO.trans (ch.trans ch5) (fun k hk => by rw [z5 k (by omega), lo k hk]) (Nat.le_refl _) (c_65 O (tcd K i) z3 b.2.1 b.2.2.1 (by omega) (by rw [z5 a (by omega), l0]) z4)
    · rw [if_neg c5] at H ⊢
      rw [if_neg (show ¬ nI (tcd K i) < (5 : Int32) from nI_nlt (b := 5) (by omega) (by omega)), thn_1 (by simp)]
      exact CO.trans ch lo (Nat.le_refl _) (c_65 O (cs := []) (tcd K i) h4 il hl (by simp only [List.length_nil]; omega) l0 (at_nil _ _))
  · rw [if_neg q, if_pos (show (6 : Int32) < nI (tcd K i) from nI_lt (a := 6) (by omega) (by omega))]
    exact co_fail h
/-- the text that is made of the codes -/
def mkText (x : pg_H) : Option (Nat × pg_H) := Option.bind (pg_new 9 1 x) fun v5 => Option.bind (pg_gR 3 0 v5.2 45) fun v6 => Option.bind (pg_gI 3 2 v5.2 45) fun v7 => Option.bind (pg_rcv 9 v5.2 v5.1 (F_X9_init v5.1 v6 v7 v5.2)) fun v8 => (some (v5.1, v8))
def CO2 (K : Tk) (n : Nat) (by_ : Nat → Nat) (x : pg_H) (r : Option (Nat × pg_H)) (p : Rs (List ClV)) : Prop := ∃ x', Ch [46] T45 x x' ∧ Lay x' ∧ ((p.1 = 0 ∧ r = some (0, x') ∧ pg_i x' 45 8 = nI (tpos K p.2.1)) ∨
  (p.1 ≠ 0 ∧ r = mkText x' ∧ CP K n by_ x' p.2.1 p.2.2.1 p.2.2.2.1.length ∧ At (pg_i x' 46) 0 p.2.2.2.1 ∧ p.2.2.2.1.length < 400))
theorem CO2.trans {x x1 : pg_H} {r : Option (Nat × pg_H)} {p : Rs (List ClV)} (c : Ch [46] T45 x x1) (h : CO2 K n by_ x1 r p) : CO2 K n by_ x r p := by
  obtain ⟨x', c1, z⟩ := h
  exact ⟨x', c.trans c1, z⟩
theorem c_loop (O : TkOK K n by_) (f : Nat) : ∀ N c i l cs v x, f + c = 12 → f + 1 ≤ N → CP K n by_ x i l cs.length → At (pg_i x 46) 0 cs → 3 * cs.length ≤ 12 * l + tpos K i + 9 * c → i ≤ tm_ K → l ≤ 50 → CO2 K n by_ x (F_X3_compile_26 N 45 (nI c) x) (textL K f i l cs v) := by
  induction f with
  | zero =>
    intro N c i l cs v x h1 h2 h hA hr hi hl
    obtain ⟨N', rfl⟩ : ∃ N', N = N' + 1 := ⟨N - 1, by omega⟩
    have L := h.1
    have p4 := (O.2.2.1 i hi).1
    rw [F_X3_compile_26]
    dsimp only
    unfold textL
    have c1 : Ch [46] T45 x (pg_si x 45 8 (nI (tpos K i))) := (Ch.refl _ _ _).asi (Or.inr (by decide))
    have L1 := c1.lay L (by decide)
    have e8 : pg_i (pg_si x 45 8 (nI (tpos K i))) 45 8 = nI (tpos K i) := by rw [si_row, up1_eq]
    rw [show c = 12 by omega, if_neg (show ¬ (12 : Int32) < nI 12 by decide), if_pos (show nI 12 = (12 : Int32) from rfl), nc_45 L.kd, c_fail h, Option.bind_some]
    unfold F_X3_compile_43
    rw [ng_45 L1.kd, e8, Option.bind_some, if_neg (show ¬ nI (tpos K i) = (-1 : Int32) from nI_no (by omega))]
    exact ⟨_, c1, L1, Or.inl ⟨rfl, rfl, e8⟩⟩
  | succ f ih =>
    intro N c i l cs v x h1 h2 h hA hr hi hl
    obtain ⟨N', rfl⟩ : ∃ N', N = N' + 1 := ⟨N - 1, by omega⟩
    have L := h.1
    rw [F_X3_compile_26]
    dsimp only
    rw [textL_S, if_neg (show ¬ (12 : Int32) < nI c from nI_nlt (a := 12) (by omega) (by decide)), if_neg (show ¬ nI c = (12 : Int32) from fun z => by have := (nI_eq (b := 12) (by omega) (by decide)).mp z; omega)]
    unfold F_X3_compile_43
    rw [ng_45 L.kd, h.2.2.2.2.2.2.2.1, Option.bind_some, if_pos rfl]
    obtain ⟨x2, ch2, L2, z⟩ := c_clause O h hi hl (by omega)
    have B := b_clause O i l cs.length hi hl
    rw [nc_45 L.kd]
    rcases z with ⟨z1, z2, z3⟩ | ⟨z1, z2, z3, z4, z5⟩
    · rw [z2, Option.bind_some, if_pos rfl, thn_0 z1]
      exact ⟨x2, ch2, L2, Or.inl ⟨rfl, rfl, z3⟩⟩
    · rw [z2, Option.bind_some, if_neg (show ¬ (1 : Int32) = 0 by decide), thn_1 z1, c_tok z3, Option.bind_some]
      have b := B.2 z1
      have b5 := b.2.2.2.2
      have b4 := b.2.2.2.1
      have b3 := b.2.2.1
      have hj := b.2.1
      have pj := (O.2.2.1 _ hj).1
      have e22 := (O.2.2.1 _ hj).2.2
      have c22 : nI (tcd K (clauseP K i l cs.length).2.1) = (22 : Int32) ↔ tcd K (clauseP K i l cs.length).2.1 = 22 := cd_eq O hj (c := 22) (by omega)
      have hA2 : At (pg_i x2 46) 0 (cs ++ (clauseP K i l cs.length).2.2.2.1) := at_app.mpr ⟨hA.cong (fun k hk => z5 k (by omega)), by rw [Nat.zero_add]; exact z4⟩
      unfold aftL
      by_cases q : tcd K (clauseP K i l cs.length).2.1 = 22
      · have r0 : trc K (clauseP K i l cs.length).2.1 ≠ 159 := by
          have := (O.2.2.1 _ hj).2.1
          unfold codeR at this
          omega
        rw [if_pos (c22.mpr q), if_neg r0, if_pos (e22.mp q)]
        refine ⟨x2, ch2, L2, Or.inr ⟨by simp, rfl, ?_, hA2, ?_⟩⟩
        · rw [List.length_append]
          exact z3
        · rw [List.length_append]
          omega
      · rw [if_neg (fun z => q (c22.mp z))]
        rw [nc_45 z3.1.kd]
        rcases c_sign O z3 hj (59 : Int32) 159 (by decide) (by omega) (by omega) (a := 0) (b := 0) (α := List ClV) with ⟨y, w⟩ | ⟨y, x3, e3, h3, ch3, w3⟩
        · rw [if_neg y, if_neg (fun z => q (e22.mpr z))]
          obtain ⟨x3, ch3, L3, w⟩ := w
          rcases w with ⟨w1, w2, w3⟩ | ⟨w1, _⟩
          · rw [w2, Option.bind_some, if_pos rfl]
            exact ⟨x3, ch2.trans ch3, L3, Or.inl ⟨rfl, rfl, w3⟩⟩
          · exact absurd rfl w1
        · rw [if_pos y, e3, Option.bind_some, if_neg (show ¬ (1 : Int32) = 0 by decide), nI_1]
          have jl := O.lt hj (by omega)
          have p := O.2.2.2.1 _ jl
          refine CO2.trans (ch2.trans ch3) (ih _ (c + 1) _ _ _ _ _ (by omega) (by omega) ?_ (by rw [w3]; exact hA2) ?_ jl b3)
          · rw [List.length_append]
            exact h3
          · rw [List.length_append]
            omega
theorem c_text (O : TkOK K n by_) {x : pg_H} (h : CP K n by_ x 0 0 0) : CO2 K n by_ x (F_X3_compile_26 pg_fuel 45 (0 : Int32) x) (textP K) :=
  c_loop O 12 _ 0 0 0 [] _ x (by omega) (by unfold pg_fuel; omega) h (at_nil _ _) (by simp) (Nat.zero_le _) (by omega)
end COMPILE
