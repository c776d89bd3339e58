/-! TEXTS: the reference's tests -/
section EVT
variable {K : Tk} {n : Nat} {by_ : Nat → Nat} {t i j : Nat} {e : Nat → Int32} {y : pg_H}
theorem r_pos (O : TkOK K n by_) {gS : Nat → Int32 → pg_H → Option (Int64 × pg_H)} {gT : Nat → Int32 → pg_H → Option (Int32 × pg_H)} {br : Bool} {T : Ps Bool} {S : Ps Int64} (hBT : br = true → PBd K (TBd K) T) (hT : br = true → PRm okW b01 K gT T) (hB : PBd K (SBd K) S) (hS : PRm okI encI K gS S) : PRm okW b01 K (B_X12_positiveOf gS gT) (posP K br T S) := fun i l a hi hl hz => fun t e y lv b h hb => by
  have L := h.1
  have rc := O.rc hi
  unfold B_X12_positiveOf
  unfold posP at hz ⊢
  rw [show F_X12_sign (40 : Int32) = some (nI 140) from rfl, Option.bind_some, nc_81 L.kd, r_passes O h hi 140 (by omega)]
  by_cases c1 : trc K i = 140
  · rw [if_pos c1] at hz ⊢
    rw [if_pos c1, Option.bind_some, if_neg (show ¬ (1 : Int32) = 0 by decide)]
    by_cases c2 : br = true
    · rw [if_pos c2] at hz ⊢
      have il := O.lt hi (by omega)
      obtain ⟨z1, z2⟩ := p_close hz
      have B := hBT c2 (i + 1) l a il hl
      have q := (b_close O (r := T (i + 1) l a) (c := 141) (by omega) B.1 (fun e => (B.2 e).2.1)).2 hz
      obtain ⟨g1, g2, g3, g4⟩ := r_go h
      obtain ⟨w, y2, e2, R2, C2, ok2, A2⟩ := hT c2 (i + 1) l a il hl z1 t e _ lv b g1 (by rw [g3]; exact hb)
      obtain ⟨k1, k2, k3, k4⟩ := r_go R2
      rw [nc_81 g1.1.kd, e2, Option.bind_some, ng_81 R2.1.kd, R2.2.2.2.2.2, Option.bind_some, k4, Option.bind_some, if_pos (show w = 0 ∨ w = 1 from ok2), q.2.1]
      exact ⟨w, _, rfl, k1, (g2.trans C2).trans k2, ok2, by rw [k3]; exact A2.1, A2.2⟩
    · rw [if_neg c2] at hz
      exact absurd rfl hz
  · rw [if_neg c1] at hz ⊢
    rw [if_neg c1, Option.bind_some, if_pos rfl]
    unfold cmpP at hz ⊢
    by_cases e1 : (S i l a).1 = 0
    · rw [thn_0 e1] at hz
      exact absurd rfl hz
    rw [thn_1 e1] at hz ⊢
    have B := (hB i l a hi hl).2 e1
    obtain ⟨w1, y1, e2, R1, C1, _, A1⟩ := hS i l a hi hl e1 t e y lv b h hb
    have rc2 := O.rc B.2.1
    by_cases q : trc K (S i l a).2.1 = 160 ∨ trc K (S i l a).2.1 = 162 ∨ trc K (S i l a).2.1 = 161
    · rw [if_pos q] at hz ⊢
      have jl := O.lt B.2.1 (by omega)
      by_cases e3 : (S ((S i l a).2.1 + 1) (S i l a).2.2.1 (a + (S i l a).2.2.2.1.length)).1 = 0
      · rw [thn_0 e3] at hz
        exact absurd rfl hz
      rw [thn_1 e3]
      obtain ⟨g1, g2, g3, g4⟩ := r_go R1
      obtain ⟨w2, y2, e4, R2, C2, _, A2⟩ := hS ((S i l a).2.1 + 1) (S i l a).2.2.1 (a + (S i l a).2.2.2.1.length) jl B.2.2.1 e3 t e _ lv (b || (lv && ((S i l a).2.2.2.2 e).isNone)) g1 (by rw [g3]; exact A1.1)
      rw [nc_81 L.kd, e2, Option.bind_some, ng_81 R1.1.kd, R1.2.2.2.2.2, Option.bind_some, nc_81 R1.1.kd, r_code O R1 B.2.1, Option.bind_some, Option.bind_some, g4, Option.bind_some, nc_81 g1.1.kd, e4, Option.bind_some]
      have ch := (C1.trans g2).trans C2
      have s160 : nI (trc K (S i l a).2.1) = nI 160 ↔ trc K (S i l a).2.1 = 160 := nI_eq (by omega) (by omega)
      have s162 : nI (trc K (S i l a).2.1) = nI 162 ↔ trc K (S i l a).2.1 = 162 := nI_eq (by omega) (by omega)
      have FIN : ∀ (G : Option (Int32 × pg_H)), (lv = true → ((b || (lv && ((S i l a).2.2.2.2 e).isNone)) || (lv && ((S ((S i l a).2.1 + 1) (S i l a).2.2.1 (a + (S i l a).2.2.2.1.length)).2.2.2.2 e).isNone)) = false → G = some (b01 (if trc K (S i l a).2.1 = 160 then decide (w1 < w2) else if trc K (S i l a).2.1 = 162 then decide (w2 < w1) else decide (w1 = w2)), y2)) →
          ∃ w y', (if b01 lv = 0 then (some ((0 : Int32), y2)) else Option.bind (pg_gI 12 21 y2 81) fun v9 => (if v9 = 0 then G else (some ((0 : Int32), y2)))) = some (w, y') ∧ Rr K t e y' (S ((S i l a).2.1 + 1) (S i l a).2.2.1 (a + (S i l a).2.2.2.1.length)).2.1 ∧ Ch [] TR2 y y' ∧ okW w ∧ Acc b01 lv b (cmpV (if trc K (S i l a).2.1 = 160 then 8 else if trc K (S i l a).2.1 = 162 then 9 else 10) (S i l a).2.2.2.2 (S ((S i l a).2.1 + 1) (S i l a).2.2.1 (a + (S i l a).2.2.2.1.length)).2.2.2.2 e) w y' := fun G hG => by
        obtain ⟨a1, a2⟩ := A1
        obtain ⟨b1, b2⟩ := A2
        unfold cmpV
        have bb : pg_i y2 81 21 = b01 (b || (lv && (((S i l a).2.2.2.2 e).bind fun a_1 => ((S ((S i l a).2.1 + 1) (S i l a).2.2.1 (a + (S i l a).2.2.2.1.length)).2.2.2.2 e).bind fun b_1 => some (if (if trc K (S i l a).2.1 = 160 then 8 else if trc K (S i l a).2.1 = 162 then 9 else 10) = 8 then decide (a_1 < b_1) else if (if trc K (S i l a).2.1 = 160 then 8 else if trc K (S i l a).2.1 = 162 then 9 else 10) = 9 then decide (b_1 < a_1) else decide (a_1 = b_1))).isNone)) := by
          rw [b1]
          cases lv <;> cases b <;> cases ((S i l a).2.2.2.2 e) <;> cases ((S ((S i l a).2.1 + 1) (S i l a).2.2.1 (a + (S i l a).2.2.2.1.length)).2.2.2.2 e) <;> rfl
        cases lv with
        | false =>
          rw [if_pos (show b01 false = 0 by decide)]
          exact ⟨_, _, rfl, R2, ch, Or.inl rfl, bb, fun z => absurd z (by decide)⟩
        | true =>
          rw [if_neg (show ¬ b01 true = 0 by decide), ng_81 R2.1.kd, b1, Option.bind_some]
          cases hq : ((b || (true && ((S i l a).2.2.2.2 e).isNone)) || (true && ((S ((S i l a).2.1 + 1) (S i l a).2.2.1 (a + (S i l a).2.2.2.1.length)).2.2.2.2 e).isNone)) with
          | true =>
            rw [if_neg (show ¬ b01 true = 0 by decide)]
            refine ⟨_, _, rfl, R2, ch, Or.inl rfl, bb, fun _ hb0 u hu => ?_⟩
            cases hb0
            cases hv : (S i l a).2.2.2.2 e with
            | none => rw [hv] at hu; cases hu
            | some p =>
              cases hw : (S ((S i l a).2.1 + 1) (S i l a).2.2.1 (a + (S i l a).2.2.2.1.length)).2.2.2.2 e with
              | none => rw [hv, hw] at hu; cases hu
              | some p2 => rw [hv, hw] at hq; cases hq
          | false =>
            rw [if_pos (show b01 false = 0 by decide), hG rfl hq]
            refine ⟨_, _, rfl, R2, ch, b01_ok _, bb, fun _ hb0 u hu => ?_⟩
            cases hb0
            cases hv : (S i l a).2.2.2.2 e with
            | none => rw [hv] at hu; cases hu
            | some p =>
              cases hw : (S ((S i l a).2.1 + 1) (S i l a).2.2.1 (a + (S i l a).2.2.2.1.length)).2.2.2.2 e with
              | none => rw [hv, hw] at hu; cases hu
              | some p2 =>
                have x1 : w1 = p := a2 rfl rfl p hv
                have x2 : w2 = p2 := b2 rfl (by rw [hv]; rfl) p2 hw
                rw [hv, hw] at hu
                cases hu
                rw [x1, x2]
                by_cases q1 : trc K (S i l a).2.1 = 160
                · rw [if_pos q1, if_pos q1]; rfl
                · rw [if_neg q1, if_neg q1]
                  by_cases q2 : trc K (S i l a).2.1 = 162
                  · rw [if_pos q2, if_pos q2]; rfl
                  · rw [if_neg q2, if_neg q2]; rfl
      refine FIN _ (fun _ _ => ?_)
      rw [show F_X12_sign (60 : Int32) = some (nI 160) from rfl, Option.bind_some, show F_X12_sign (62 : Int32) = some (nI 162) from rfl, Option.bind_some]
      by_cases q1 : trc K (S i l a).2.1 = 160
      · rw [if_pos (s160.mpr q1), if_pos q1]
        by_cases z : w1 < w2
        · rw [if_pos z, decide_eq_true z]; rfl
        · rw [if_neg z, decide_eq_false z]; rfl
      · rw [if_neg (fun z => q1 (s160.mp z)), if_neg q1]
        by_cases q2 : trc K (S i l a).2.1 = 162
        · rw [if_pos (s162.mpr q2), if_pos q2]
          by_cases z : w2 < w1
          · rw [if_pos z, decide_eq_true z]; rfl
          · rw [if_neg z, decide_eq_false z]; rfl
        · rw [if_neg (fun z => q2 (s162.mp z)), if_neg q2]
          by_cases z : w1 = w2
          · rw [if_pos z, decide_eq_true z]; rfl
          · rw [if_neg z, decide_eq_false z]; rfl
    · rw [if_neg q] at hz
      exact absurd rfl hz
theorem r_nots (O : TkOK K n by_) {gP : Nat → Int32 → pg_H → Option (Int32 × pg_H)} {lv : Int32} (f : Nat) : ∀ N i c y, tm_ K < i + f → f ≤ N → i ≤ tm_ K → Rr K t e y i →
    ∃ y', F_X12_plainOf_2 gP N 81 lv (b01 c) y = (Option.bind (pg_rcv 12 y' 81 (gP 81 lv y')) fun v2 => (if v2.1 = b01 (nots K f i c).2 then (some ((0 : Int32), v2.2)) else (some ((1 : Int32), v2.2)))) ∧ Rr K t e y' (nots K f i c).1 ∧ Ch [] TR2 y y' ∧ pg_i y' 81 21 = pg_i y 81 21 := by
  induction f with
  | zero => exact fun N i c y h1 h2 hi h => absurd h1 (by omega)
  | succ f ih =>
    intro N i c y h1 h2 hi h
    obtain ⟨N', rfl⟩ : ∃ N', N = N' + 1 := ⟨N - 1, by omega⟩
    unfold nots
    rw [F_X12_plainOf_2]
    dsimp only
    rw [show (11 : Int32) = nI 11 from rfl, nc_81 h.1.kd, r_passes O h hi 11 (by omega)]
    by_cases q : trc K i = 11
    · rw [if_pos q, Option.bind_some, if_neg (show ¬ (1 : Int32) = 0 by decide), if_pos q]
      have il := O.lt hi (by omega)
      obtain ⟨g1, g2, g3, g4⟩ := r_go h
      obtain ⟨y', e1, R1, C1, b1⟩ := ih N' (i + 1) (!c) _ (by omega) (by omega) il g1
      refine ⟨y', ?_, R1, g2.trans C1, by rw [b1, g3]⟩
      unfold F_X12_plainOf_20
      rw [← e1]
      cases c with
      | true => rw [if_neg (show ¬ b01 true = 0 by decide)]; rfl
      | false => rw [if_pos (show b01 false = 0 by decide)]; rfl
    · rw [if_neg q, Option.bind_some, if_pos rfl, if_neg q]
      exact ⟨y, rfl, h, Ch.refl _ _ _, rfl⟩
theorem r_plain (O : TkOK K n by_) {gP : Nat → Int32 → pg_H → Option (Int32 × pg_H)} {br : Bool} {T : Ps Bool} {S : Ps Int64} (hP : PRm okW b01 K gP (posP K br T S)) : PRm okW b01 K (B_X12_plainOf gP) (plainP K br T S) := fun i l a hi hl hz => fun t e y lv b h hb => by
  unfold B_X12_plainOf
  unfold plainP at hz ⊢
  have bn := b_nots O 401 i false hi
  obtain ⟨y1, e1, R1, C1, b1⟩ := r_nots O (gP := gP) (lv := b01 lv) 401 pg_fuel i false y (by have := O.1; omega) (by unfold pg_fuel; omega) hi h
  rw [show (0 : Int32) = b01 false from rfl, e1]
  by_cases z1 : (posP K br T S (nots K 401 i false).1 l a).1 = 0
  · rw [thn_0 z1] at hz
    exact absurd rfl hz
  rw [thn_1 z1]
  obtain ⟨w, y2, e2, R2, C2, ok2, A2⟩ := hP (nots K 401 i false).1 l a bn.2.1 hl z1 t e y1 lv b R1 (by rw [b1, hb])
  rw [nc_81 R1.1.kd, e2, Option.bind_some]
  obtain ⟨a1, a2⟩ := A2
  cases hn : (nots K 401 i false).2 with
  | true =>
    rw [if_pos rfl]
    have nn : ∀ o : Option Bool, (o.map fun a => !a).isNone = o.isNone := fun o => by cases o <;> rfl
    rcases ok2 with rfl | rfl
    · rw [if_neg (show ¬ (0 : Int32) = b01 true by decide)]
      refine ⟨_, _, rfl, R2, C1.trans C2, Or.inr rfl, by unfold notV; rw [nn]; exact a1, fun p1 p2 u hu => ?_⟩
      unfold notV at hu
      dsimp only at hu
      cases hv : (posP K br T S (nots K 401 i false).1 l a).2.2.2.2 e with
      | none => rw [hv] at hu; cases hu
      | some p =>
        rw [hv] at hu
        cases hu
        have := a2 p1 p2 p hv
        cases p with
        | true => exact absurd this (by decide)
        | false => rfl
    · rw [if_pos (show (1 : Int32) = b01 true from rfl)]
      refine ⟨_, _, rfl, R2, C1.trans C2, Or.inl rfl, by unfold notV; rw [nn]; exact a1, fun p1 p2 u hu => ?_⟩
      unfold notV at hu
      dsimp only at hu
      cases hv : (posP K br T S (nots K 401 i false).1 l a).2.2.2.2 e with
      | none => rw [hv] at hu; cases hu
      | some p =>
        rw [hv] at hu
        cases hu
        have := a2 p1 p2 p hv
        cases p with
        | true => rfl
        | false => exact absurd this (by decide)
  | false =>
    rw [if_neg (show ¬ (false : Bool) = true by decide)]
    rcases ok2 with rfl | rfl
    · rw [if_pos (show (0 : Int32) = b01 false from rfl)]
      exact ⟨_, _, rfl, R2, C1.trans C2, Or.inl rfl, a1, a2⟩
    · rw [if_neg (show ¬ (1 : Int32) = b01 false by decide)]
      exact ⟨_, _, rfl, R2, C1.trans C2, Or.inr rfl, a1, a2⟩
theorem r_bothL (O : TkOK K n by_) {gP : Nat → Int32 → pg_H → Option (Int32 × pg_H)} {P : Ps Bool} (hB : PBd K (TBd K) P) (hP : PRm okW b01 K gP P) (a : Nat) {t : Nat} {e : Nat → Int32} {lv br : Bool} (f : Nat) : ∀ N i l cs v y w, tm_ K < i + f → f ≤ N → i ≤ tm_ K → l ≤ 50 → Rr K t e y i → okW w → Acc b01 lv br (v e) w y → (jmpL K 10 3 P a f i l cs v).1 ≠ 0 →
    ∃ w' y', F_X12_bothOf_6 gP N 81 (b01 lv) w y = some (w', y') ∧ Rr K t e y' (jmpL K 10 3 P a f i l cs v).2.1 ∧ Ch [] TR2 y y' ∧ okW w' ∧ Acc b01 lv br ((jmpL K 10 3 P a f i l cs v).2.2.2.2 e) w' y' := by
  induction f with
  | zero => exact fun N i l cs v y w h1 h2 hi hl h hw hA hz => absurd h1 (by omega)
  | succ f ih =>
    intro N i l cs v y w h1 h2 hi hl h hw hA hz
    obtain ⟨N', rfl⟩ : ∃ N', N = N' + 1 := ⟨N - 1, by omega⟩
    rw [F_X12_bothOf_6]
    dsimp only
    unfold jmpL at hz ⊢
    rw [show (10 : Int32) = nI 10 from rfl, nc_81 h.1.kd, r_passes O h hi 10 (by omega)]
    by_cases q : trc K i = 10
    · rw [if_pos q] at hz ⊢
      rw [if_pos q, Option.bind_some, if_neg (show ¬ (1 : Int32) = 0 by decide)]
      have il := O.lt hi (by omega)
      by_cases e1 : (P (i + 1) l (a + cs.length + 2)).1 = 0
      · rw [thn_0 e1] at hz
        exact absurd rfl hz
      rw [thn_1 e1] at hz ⊢
      have b := (hB (i + 1) l (a + cs.length + 2) il hl).2 e1
      obtain ⟨g1, g2, g3, g4⟩ := r_go h
      obtain ⟨a1, a2⟩ := hA
      have ST : ∀ lv' : Bool, lv' = (lv && !decide (w = 0)) → ∃ w' y', F_X12_bothOf_29 gP (F_X12_bothOf_6 gP N') 81 (b01 lv) w (b01 lv') 81 (pg_si y 81 19 (nI (400 * t + (i + 1)))) = some (w', y') ∧ Rr K t e y' (jmpL K 10 3 P a f (P (i + 1) l (a + cs.length + 2)).2.1 (P (i + 1) l (a + cs.length + 2)).2.2.1 (cs ++ ([3, a + cs.length + 2 + (P (i + 1) l (a + cs.length + 2)).2.2.2.1.length] ++ (P (i + 1) l (a + cs.length + 2)).2.2.2.1)) (jmpV 3 v (P (i + 1) l (a + cs.length + 2)).2.2.2.2)).2.1 ∧ Ch [] TR2 y y' ∧ okW w' ∧ Acc b01 lv br ((jmpL K 10 3 P a f (P (i + 1) l (a + cs.length + 2)).2.1 (P (i + 1) l (a + cs.length + 2)).2.2.1 (cs ++ ([3, a + cs.length + 2 + (P (i + 1) l (a + cs.length + 2)).2.2.2.1.length] ++ (P (i + 1) l (a + cs.length + 2)).2.2.2.1)) (jmpV 3 v (P (i + 1) l (a + cs.length + 2)).2.2.2.2)).2.2.2.2 e) w' y' := fun lv' hlv => by
        obtain ⟨w2, y2, e2, R2, C2, ok2, c1, c2⟩ := hP (i + 1) l (a + cs.length + 2) il hl e1 t e _ lv' (br || (lv && (v e).isNone)) g1 (by rw [g3]; exact a1)
        have VAL : F_X12_bothOf_29 gP (F_X12_bothOf_6 gP N') 81 (b01 lv) w (b01 lv') 81 (pg_si y 81 19 (nI (400 * t + (i + 1)))) = F_X12_bothOf_6 gP N' 81 (b01 lv) (if w = 0 then 0 else w2) y2 := by
          unfold F_X12_bothOf_29 F_X12_bothOf_45 F_X12_bothOf_46
          rw [nc_81 g1.1.kd, e2, Option.bind_some]
          rcases hw with rfl | rfl <;> rcases ok2 with rfl | rfl <;> rfl
        rw [VAL]
        have OKV : okW (if w = 0 then 0 else w2) := by
          rcases hw with rfl | rfl <;> rcases ok2 with rfl | rfl <;> first | exact Or.inl rfl | exact Or.inr rfl
        have ACC : Acc b01 lv br (jmpV 3 v (P (i + 1) l (a + cs.length + 2)).2.2.2.2 e) (if w = 0 then 0 else w2) y2 := by
          refine ⟨?_, ?_⟩
          · rw [c1, hlv]
            unfold jmpV
            cases lv with
            | false => cases br <;> rfl
            | true =>
              cases br with
              | true => rfl
              | false =>
                cases hv : v e with
                | none => rfl
                | some u =>
                  have := a2 rfl rfl u hv
                  rw [this]
                  cases u <;> cases ((P (i + 1) l (a + cs.length + 2)).2.2.2.2 e) <;> rfl
          · intro p1 p2 u hu
            cases p1
            cases p2
            unfold jmpV at hu
            cases hv : v e with
            | none => rw [hv] at hu; cases hu
            | some p =>
              have wp := a2 rfl rfl p hv
              rw [hv, Option.bind_some] at hu
              by_cases pd : p = decide ((3 : Nat) = 2)
              · rw [if_pos pd] at hu
                cases hu
                rw [wp, pd]
                rfl
              · rw [if_neg pd] at hu
                have l1 : lv' = true := by
                  rw [hlv, wp]
                  cases p
                  · first | rfl | exact absurd rfl pd
                  · first | rfl | exact absurd rfl pd
                have := c2 l1 (by rw [hv]; rfl) u hu
                rw [wp, this]
                cases p
                · first | exact absurd rfl pd | (cases u <;> rfl)
                · first | exact absurd rfl pd | (cases u <;> rfl)
        obtain ⟨w', y', e3, R3, C3, ok3, A3⟩ := ih N' _ _ _ (jmpV 3 v (P (i + 1) l (a + cs.length + 2)).2.2.2.2) y2 (if w = 0 then 0 else w2) (by have := b.1; omega) (by omega) b.2.1 b.2.2.1 R2 OKV ACC hz
        exact ⟨w', y', e3, R3, (g2.trans C2).trans C3, ok3, A3⟩
      have T : (if b01 lv = 0 then F_X12_bothOf_28 gP (F_X12_bothOf_6 gP N') 81 (b01 lv) w 81 (pg_si y 81 19 (nI (400 * t + (i + 1)))) else (if w = 0 then F_X12_bothOf_28 gP (F_X12_bothOf_6 gP N') 81 (b01 lv) w 81 (pg_si y 81 19 (nI (400 * t + (i + 1)))) else F_X12_bothOf_29 gP (F_X12_bothOf_6 gP N') 81 (b01 lv) w (1 : Int32) 81 (pg_si y 81 19 (nI (400 * t + (i + 1)))))) = F_X12_bothOf_29 gP (F_X12_bothOf_6 gP N') 81 (b01 lv) w (b01 (lv && !decide (w = 0))) 81 (pg_si y 81 19 (nI (400 * t + (i + 1)))) := by
        unfold F_X12_bothOf_28
        rcases hw with rfl | rfl <;> cases lv <;> rfl
      rw [T]
      exact ST _ rfl
    · rw [if_neg q, Option.bind_some, if_pos rfl, if_neg q, if_pos (show w = 0 ∨ w = 1 from hw)]
      exact ⟨w, y, rfl, h, Ch.refl _ _ _, hw, hA⟩
theorem r_both (O : TkOK K n by_) {gP : Nat → Int32 → pg_H → Option (Int32 × pg_H)} {P : Ps Bool} (hB : PBd K (TBd K) P) (hP : PRm okW b01 K gP P) : PRm okW b01 K (B_X12_bothOf gP) (jmpP K 10 3 P) := fun i l a hi hl hz => fun t e y lv b h hb => by
  unfold B_X12_bothOf
  unfold jmpP at hz ⊢
  by_cases e1 : (P i l a).1 = 0
  · rw [thn_0 e1] at hz
    exact absurd rfl hz
  rw [thn_1 e1] at hz ⊢
  have B := (hB i l a hi hl).2 e1
  obtain ⟨w2, y2, e2, R2, C2, ok2, A2⟩ := hP i l a hi hl e1 t e y lv b h hb
  rw [nc_81 h.1.kd, e2, Option.bind_some]
  obtain ⟨w', y', e4, R4, C4, ok4, A4⟩ := r_bothL O hB hP a 401 pg_fuel _ _ _ _ y2 w2 (by have := O.1; omega) (by unfold pg_fuel; omega) B.2.1 B.2.2.1 R2 ok2 A2 hz
  exact ⟨w', y', e4, R4, C2.trans C4, ok4, A4⟩
theorem r_testL (O : TkOK K n by_) {gP : Nat → Int32 → pg_H → Option (Int32 × pg_H)} {P : Ps Bool} (hB : PBd K (TBd K) P) (hP : PRm okW b01 K gP P) (a : Nat) {t : Nat} {e : Nat → Int32} {lv br : Bool} (f : Nat) : ∀ N i l cs v y w, tm_ K < i + f → f ≤ N → i ≤ tm_ K → l ≤ 50 → Rr K t e y i → okW w → Acc b01 lv br (v e) w y → (jmpL K 9 2 P a f i l cs v).1 ≠ 0 →
    ∃ w' y', F_X12_testOf_6 gP N 81 (b01 lv) w y = some (w', y') ∧ Rr K t e y' (jmpL K 9 2 P a f i l cs v).2.1 ∧ Ch [] TR2 y y' ∧ okW w' ∧ Acc b01 lv br ((jmpL K 9 2 P a f i l cs v).2.2.2.2 e) w' y' := by
  induction f with
  | zero => exact fun N i l cs v y w h1 h2 hi hl h hw hA hz => absurd h1 (by omega)
  | succ f ih =>
    intro N i l cs v y w h1 h2 hi hl h hw hA hz
    obtain ⟨N', rfl⟩ : ∃ N', N = N' + 1 := ⟨N - 1, by omega⟩
    rw [F_X12_testOf_6]
    dsimp only
    unfold jmpL at hz ⊢
    rw [show (9 : Int32) = nI 9 from rfl, nc_81 h.1.kd, r_passes O h hi 9 (by omega)]
    by_cases q : trc K i = 9
    · rw [if_pos q] at hz ⊢
      rw [if_pos q, Option.bind_some, if_neg (show ¬ (1 : Int32) = 0 by decide)]
      have il := O.lt hi (by omega)
      by_cases e1 : (P (i + 1) l (a + cs.length + 2)).1 = 0
      · rw [thn_0 e1] at hz
        exact absurd rfl hz
      rw [thn_1 e1] at hz ⊢
      have b := (hB (i + 1) l (a + cs.length + 2) il hl).2 e1
      obtain ⟨g1, g2, g3, g4⟩ := r_go h
      obtain ⟨a1, a2⟩ := hA
      have ST : ∀ lv' : Bool, lv' = (lv && decide (w = 0)) → ∃ w' y', F_X12_testOf_29 gP (F_X12_testOf_6 gP N') 81 (b01 lv) w (b01 lv') 81 (pg_si y 81 19 (nI (400 * t + (i + 1)))) = some (w', y') ∧ Rr K t e y' (jmpL K 9 2 P a f (P (i + 1) l (a + cs.length + 2)).2.1 (P (i + 1) l (a + cs.length + 2)).2.2.1 (cs ++ ([2, a + cs.length + 2 + (P (i + 1) l (a + cs.length + 2)).2.2.2.1.length] ++ (P (i + 1) l (a + cs.length + 2)).2.2.2.1)) (jmpV 2 v (P (i + 1) l (a + cs.length + 2)).2.2.2.2)).2.1 ∧ Ch [] TR2 y y' ∧ okW w' ∧ Acc b01 lv br ((jmpL K 9 2 P a f (P (i + 1) l (a + cs.length + 2)).2.1 (P (i + 1) l (a + cs.length + 2)).2.2.1 (cs ++ ([2, a + cs.length + 2 + (P (i + 1) l (a + cs.length + 2)).2.2.2.1.length] ++ (P (i + 1) l (a + cs.length + 2)).2.2.2.1)) (jmpV 2 v (P (i + 1) l (a + cs.length + 2)).2.2.2.2)).2.2.2.2 e) w' y' := fun lv' hlv => by
        obtain ⟨w2, y2, e2, R2, C2, ok2, c1, c2⟩ := hP (i + 1) l (a + cs.length + 2) il hl e1 t e _ lv' (br || (lv && (v e).isNone)) g1 (by rw [g3]; exact a1)
        have VAL : F_X12_testOf_29 gP (F_X12_testOf_6 gP N') 81 (b01 lv) w (b01 lv') 81 (pg_si y 81 19 (nI (400 * t + (i + 1)))) = F_X12_testOf_6 gP N' 81 (b01 lv) (if w = 0 then w2 else 1) y2 := by
          unfold F_X12_testOf_29 F_X12_testOf_41 F_X12_testOf_46
          rw [nc_81 g1.1.kd, e2, Option.bind_some]
          rcases hw with rfl | rfl <;> rcases ok2 with rfl | rfl <;> rfl
        rw [VAL]
        have OKV : okW (if w = 0 then w2 else 1) := by
          rcases hw with rfl | rfl <;> rcases ok2 with rfl | rfl <;> first | exact Or.inl rfl | exact Or.inr rfl
        have ACC : Acc b01 lv br (jmpV 2 v (P (i + 1) l (a + cs.length + 2)).2.2.2.2 e) (if w = 0 then w2 else 1) y2 := by
          refine ⟨?_, ?_⟩
          · rw [c1, hlv]
            unfold jmpV
            cases lv with
            | false => cases br <;> rfl
            | true =>
              cases br with
              | true => rfl
              | false =>
                cases hv : v e with
                | none => rfl
                | some u =>
                  have := a2 rfl rfl u hv
                  rw [this]
                  cases u <;> cases ((P (i + 1) l (a + cs.length + 2)).2.2.2.2 e) <;> rfl
          · intro p1 p2 u hu
            cases p1
            cases p2
            unfold jmpV at hu
            cases hv : v e with
            | none => rw [hv] at hu; cases hu
            | some p =>
              have wp := a2 rfl rfl p hv
              rw [hv, Option.bind_some] at hu
              by_cases pd : p = decide ((2 : Nat) = 2)
              · rw [if_pos pd] at hu
                cases hu
                rw [wp, pd]
                rfl
              · rw [if_neg pd] at hu
                have l1 : lv' = true := by
                  rw [hlv, wp]
                  cases p
                  · first | rfl | exact absurd rfl pd
                  · first | rfl | exact absurd rfl pd
                have := c2 l1 (by rw [hv]; rfl) u hu
                rw [wp, this]
                cases p
                · first | exact absurd rfl pd | (cases u <;> rfl)
                · first | exact absurd rfl pd | (cases u <;> rfl)
        obtain ⟨w', y', e3, R3, C3, ok3, A3⟩ := ih N' _ _ _ (jmpV 2 v (P (i + 1) l (a + cs.length + 2)).2.2.2.2) y2 (if w = 0 then w2 else 1) (by have := b.1; omega) (by omega) b.2.1 b.2.2.1 R2 OKV ACC hz
        exact ⟨w', y', e3, R3, (g2.trans C2).trans C3, ok3, A3⟩
      have T : (if b01 lv = 0 then F_X12_testOf_28 gP (F_X12_testOf_6 gP N') 81 (b01 lv) w 81 (pg_si y 81 19 (nI (400 * t + (i + 1)))) else (if w = 0 then F_X12_testOf_29 gP (F_X12_testOf_6 gP N') 81 (b01 lv) w (1 : Int32) 81 (pg_si y 81 19 (nI (400 * t + (i + 1)))) else F_X12_testOf_28 gP (F_X12_testOf_6 gP N') 81 (b01 lv) w 81 (pg_si y 81 19 (nI (400 * t + (i + 1)))))) = F_X12_testOf_29 gP (F_X12_testOf_6 gP N') 81 (b01 lv) w (b01 (lv && decide (w = 0))) 81 (pg_si y 81 19 (nI (400 * t + (i + 1)))) := by
        unfold F_X12_testOf_28
        rcases hw with rfl | rfl <;> cases lv <;> rfl
      rw [T]
      exact ST _ rfl
    · rw [if_neg q, Option.bind_some, if_pos rfl, if_neg q, if_pos (show w = 0 ∨ w = 1 from hw)]
      exact ⟨w, y, rfl, h, Ch.refl _ _ _, hw, hA⟩
theorem r_test (O : TkOK K n by_) {gP : Nat → Int32 → pg_H → Option (Int32 × pg_H)} {P : Ps Bool} (hB : PBd K (TBd K) P) (hP : PRm okW b01 K gP P) : PRm okW b01 K (B_X12_testOf gP) (jmpP K 9 2 P) := fun i l a hi hl hz => fun t e y lv b h hb => by
  unfold B_X12_testOf
  unfold jmpP at hz ⊢
  by_cases e1 : (P i l a).1 = 0
  · rw [thn_0 e1] at hz
    exact absurd rfl hz
  rw [thn_1 e1] at hz ⊢
  have B := (hB i l a hi hl).2 e1
  obtain ⟨w2, y2, e2, R2, C2, ok2, A2⟩ := hP i l a hi hl e1 t e y lv b h hb
  rw [nc_81 h.1.kd, e2, Option.bind_some]
  obtain ⟨w', y', e4, R4, C4, ok4, A4⟩ := r_testL O hB hP a 401 pg_fuel _ _ _ _ y2 w2 (by have := O.1; omega) (by unfold pg_fuel; omega) B.2.1 B.2.2.1 R2 ok2 A2 hz
  exact ⟨w', y', e4, R4, C2.trans C4, ok4, A4⟩
/-! all depths -/
theorem r_sums (O : TkOK K n by_) (k : Nat) : ∀ N, PRm okI encI K (FG_X12_sumOf (N + 3 * k + 3)).1 (sumP K k) := by
  induction k with
  | zero => exact fun N => r_sum O (b_bin O (by decide) (by decide) (b_part O (fun z => absurd z (by decide)))) (r_term O (b_part O (fun z => absurd z (by decide))) (r_part O (fun z => absurd z (by decide)) (fun z => absurd z (by decide))))
  | succ k ih => exact fun N => r_sum O (b_bin O (by decide) (by decide) (b_part O (fun _ => b_sum O k))) (r_term O (b_part O (fun _ => b_sum O k)) (r_part O (fun _ => b_sum O k) (fun _ => ih N)))
theorem r_tests (O : TkOK K n by_) (k : Nat) : ∀ N, PRm okW b01 K (FG_X12_sumOf (N + 4 * k + 7)).2.2.2.1 (testP K k) := by
  induction k with
  | zero => exact fun N => r_test O (b_jmp O (by decide) (b_plain O (fun z => absurd z (by decide)) (b_sum O 0))) (r_both O (b_plain O (fun z => absurd z (by decide)) (b_sum O 0)) (r_plain O (r_pos O (fun z => absurd z (by decide)) (fun z => absurd z (by decide)) (b_sum O 0) (r_sums O 0 N))))
  | succ k ih =>
    intro N
    have z := ih N
    have s := r_sums O (k + 1) (N + k + 1)
    rw [show N + k + 1 + 3 * (k + 1) + 3 = N + 4 * k + 7 by omega] at s
    exact r_test O (b_jmp O (by decide) (b_plain O (fun _ => b_test O k) (b_sum O (k + 1)))) (r_both O (b_plain O (fun _ => b_test O k) (b_sum O (k + 1))) (r_plain O (r_pos O (fun _ => b_test O k) (fun _ => z) (b_sum O (k + 1)) s)))
theorem r_sum0 (O : TkOK K n by_) : PRm okI encI K F_X12_sumOf (sumP K 8) := r_sums O 8 1273
theorem r_test0 (O : TkOK K n by_) : PRm okW b01 K F_X12_testOf (testP K 8) := r_tests O 8 1261
end EVT
