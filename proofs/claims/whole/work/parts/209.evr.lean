/-! TEXTS: the reference works a text's tokens off -/
def Rr (K : Tk) (t : Nat) (e : Nat → Int32) (y : pg_H) (i : Nat) : Prop :=
  Lay y ∧ t < 8 ∧ pg_i y 81 20 = nI (400 * t + tm_ K) ∧ (∀ k, k < tm_ K → pg_i y 83 (1358 + 400 * t + k) = nI (trc K k) ∧ pg_i y 83 (4558 + 400 * t + k) = nI (trv K k)) ∧ (∀ j, j < 9 → pg_i y 92 j = e j) ∧ pg_i y 81 19 = nI (400 * t + i)
abbrev TR2 : List (Nat × Nat) := [(81, 19), (81, 21)]
def Acc {α τ : Type} (enc : α → τ) (lv br : Bool) (o : Option α) (w : τ) (y : pg_H) : Prop := pg_i y 81 21 = b01 (br || (lv && o.isNone)) ∧ (lv = true → br = false → ∀ u, o = some u → w = enc u)
def EvR {α τ : Type} (ok : τ → Prop) (enc : α → τ) (K : Tk) (g : Nat → Int32 → pg_H → Option (τ × pg_H)) (i j : Nat) (v : (Nat → Int32) → Option α) : Prop :=
  ∀ t e y (lv br : Bool), Rr K t e y i → pg_i y 81 21 = b01 br → ∃ w y', g 81 (b01 lv) y = some (w, y') ∧ Rr K t e y' j ∧ Ch [] TR2 y y' ∧ ok w ∧ Acc enc lv br (v e) w y'
def PRm {α τ : Type} (ok : τ → Prop) (enc : α → τ) (K : Tk) (g : Nat → Int32 → pg_H → Option (τ × pg_H)) (P : Ps α) : Prop := ∀ i l a, i ≤ tm_ K → l ≤ 50 → (P i l a).1 ≠ 0 → EvR ok enc K g i (P i l a).2.1 (P i l a).2.2.2.2
def okI (_ : Int64) : Prop := True
def okW (w : Int32) : Prop := w = 0 ∨ w = 1
section EVR
variable {K : Tk} {n : Nat} {by_ : Nat → Nat} {t i j : Nat} {e : Nat → Int32} {y : pg_H}
theorem Rr.ch {y' : pg_H} (h : Rr K t e y i) (c : Ch [] TR2 y y') (hj : pg_i y' 81 19 = nI (400 * t + j)) : Rr K t e y' j := by
  obtain ⟨L, h1, h2, h3, h4, h5⟩ := h
  refine ⟨c.lay L (by decide), h1, ?_, fun k hk => ?_, fun k hk => ?_, hj⟩
  · rw [c.atM (R := []) (F := [(81, 20)]) (by decide) (by decide)]; exact h2
  · rw [c.row (r := 83) (by decide)]; exact h3 k hk
  · rw [c.row (r := 92) (by decide)]; exact h4 k hk
theorem r_code (O : TkOK K n by_) (h : Rr K t e y i) (hi : i ≤ tm_ K) : F_X12_codeAt y 81 (nI (400 * t + i)) = some (nI (trc K i)) := by
  obtain ⟨L, h1, h2, h3, h4, h5⟩ := h
  have m4 := O.1
  unfold F_X12_codeAt
  rw [ng_81 L.kd, h2, Option.bind_some]
  by_cases q : i < tm_ K
  · rw [if_pos (show nI (400 * t + i) < nI (400 * t + tm_ K) from nI_lt (by omega) (by omega)), nR_81_3 L.kd L.rd, Option.bind_some, show (1358 : Int32) + nI (400 * t + i) = nI (1358 + 400 * t + i) by rw [show (1358 : Int32) = nI 1358 from rfl, nI_add, Nat.add_assoc], na_83 L.kd (by omega), (h3 i q).1]
    rfl
  · rw [if_neg (show ¬ nI (400 * t + i) < nI (400 * t + tm_ K) from nI_nlt (by omega) (by omega))]
    have z := O.2.2.1 i hi
    have e22 := z.2.2.mpr (by omega)
    have c := z.2.1
    unfold codeR at c
    rw [show trc K i = 0 by omega]
    rfl
theorem r_go (h : Rr K t e y i) : Rr K t e (pg_si y 81 19 (nI (400 * t + (i + 1)))) (i + 1) ∧ Ch [] TR2 y (pg_si y 81 19 (nI (400 * t + (i + 1)))) ∧ pg_i (pg_si y 81 19 (nI (400 * t + (i + 1)))) 81 21 = pg_i y 81 21 ∧ pg_pI 12 19 y 81 (nI (400 * t + i) + (1 : Int32)) = some (pg_si y 81 19 (nI (400 * t + (i + 1)))) := by
  have c : Ch [] TR2 y (pg_si y 81 19 (nI (400 * t + (i + 1)))) := (Ch.refl _ _ _).asi (Or.inr (by decide))
  refine ⟨h.ch c (by rw [si_row, up1_eq]), c, by rw [si_row, up1_ne (by decide)], ?_⟩
  rw [nI_1, np_81 h.1.kd, Nat.add_assoc]
theorem r_passes (O : TkOK K n by_) (h : Rr K t e y i) (hi : i ≤ tm_ K) (c : Nat) (hc : c < 1000) : F_X12_passes 81 (nI c) y = some (if trc K i = c then ((1 : Int32), pg_si y 81 19 (nI (400 * t + (i + 1)))) else (0, y)) := by
  have rc := O.rc hi
  unfold F_X12_passes F_X12_passes_17
  rw [ng_81 h.1.kd, h.2.2.2.2.2, Option.bind_some, nc_81 h.1.kd, r_code O h hi, Option.bind_some]
  by_cases q : trc K i = c
  · rw [if_pos (congrArg nI q), if_pos q, if_neg (show ¬ (1 : Int32) = 0 by decide), Option.bind_some, (r_go h).2.2.2, Option.bind_some, if_pos (Or.inr rfl)]
  · rw [if_neg (fun z => q ((nI_eq (by omega) (by omega)).mp z)), if_neg q, if_pos rfl, if_pos (Or.inl rfl)]
theorem brk (h : Rr K t e y i) (b : Bool) : pg_pZ 12 21 y 81 (b01 b) = some (pg_si y 81 21 (b01 b)) ∧ Rr K t e (pg_si y 81 21 (b01 b)) i ∧ Ch [] TR2 y (pg_si y 81 21 (b01 b)) ∧ pg_i (pg_si y 81 21 (b01 b)) 81 21 = b01 b := by
  have c : Ch [] TR2 y (pg_si y 81 21 (b01 b)) := (Ch.refl _ _ _).asi (Or.inr (by decide))
  exact ⟨N_pZ h.1.kd (by decide) (by decide) (b01_ok b), h.ch c (by rw [si_row, up1_ne (by decide)]; exact h.2.2.2.2.2), c, by rw [si_row, up1_eq]⟩
/-- is the number too far out -/
def far (x : Int64) : Bool := decide ((1000000000 : Int64) < x) || decide (x < (-1000000000 : Int64))
theorem r_bounded (h : Rr K t e y i) (x : Int64) (lv b : Bool) (hb : pg_i y 81 21 = b01 b) : ∃ w y', F_X12_bounded 81 x (b01 lv) y = some (w, y') ∧ Rr K t e y' i ∧ Ch [] TR2 y y' ∧ pg_i y' 81 21 = b01 (b || (lv && far x)) ∧ ((b || (lv && far x)) = false → w = x) := by
  have E : ∀ (z : pg_H) (b : Bool), Rr K t e z i → pg_i z 81 21 = b01 b → ∃ w, F_X12_bounded_25 81 x z = some (w, z) ∧ (b = false → w = x) := fun z b hz hb => by
    unfold F_X12_bounded_25
    rw [ng_81 hz.1.kd, hb, Option.bind_some]
    cases b with
    | true => exact ⟨0, by rw [if_neg (show ¬ b01 true = 0 by decide)], fun z => absurd z (by decide)⟩
    | false => exact ⟨x, by rw [if_pos (show b01 false = 0 by decide)], fun _ => rfl⟩
  unfold F_X12_bounded F_X12_bounded_20
  have B := brk h true
  obtain ⟨w1, e1, v1⟩ := E _ true B.2.1 B.2.2.2
  obtain ⟨w0, e0, v0⟩ := E _ b h hb
  cases lv with
  | false =>
    rw [if_pos (show b01 false = 0 by decide)]
    exact ⟨w0, y, e0, h, Ch.refl _ _ _, by simpa using hb, fun z => v0 (by simpa using z)⟩
  | true =>
    rw [if_neg (show ¬ b01 true = 0 by decide)]
    by_cases q1 : (1000000000 : Int64) < x
    · have f1 : far x = true := by unfold far; rw [decide_eq_true q1]; rfl
      rw [if_pos q1, show (1 : Int32) = b01 true from rfl, B.1, Option.bind_some, f1]
      refine ⟨w1, _, e1, B.2.1, B.2.2.1, ?_, fun z => absurd z (by cases b <;> decide)⟩
      rw [B.2.2.2]
      cases b <;> rfl
    · rw [if_neg q1]
      by_cases q2 : x < (-1000000000 : Int64)
      · have f1 : far x = true := by unfold far; rw [decide_eq_true q2, Bool.or_true]
        rw [if_pos q2, show (1 : Int32) = b01 true from rfl, B.1, Option.bind_some, f1]
        refine ⟨w1, _, e1, B.2.1, B.2.2.1, ?_, fun z => absurd z (by cases b <;> decide)⟩
        rw [B.2.2.2]
        cases b <;> rfl
      · have f1 : far x = false := by unfold far; rw [decide_eq_false q1, decide_eq_false q2]; rfl
        rw [if_neg q2, f1]
        exact ⟨w0, y, e0, h, Ch.refl _ _ _, by simpa using hb, fun z => v0 (by simpa using z)⟩
def rawV (o : Nat) (u w : Int64) : Int64 := if o = 4 then u + w else if o = 5 then u - w else if o = 6 then u * w else u / w
theorem opV_far (o : Nat) (u w : Int64) (h : ¬ (o = 7 ∧ w = 0)) : opV o u w = if far (rawV o u w) = true then none else some (rawV o u w) := by
  unfold opV
  rw [if_neg h]
  unfold far
  change (if (1000000000 : Int64) < rawV o u w then none else if rawV o u w < (-1000000000 : Int64) then none else some (rawV o u w)) = _
  by_cases q1 : (1000000000 : Int64) < rawV o u w
  · rw [if_pos q1, decide_eq_true q1]
    rfl
  · rw [if_neg q1, decide_eq_false q1]
    by_cases q2 : rawV o u w < (-1000000000 : Int64)
    · rw [if_pos q2, decide_eq_true q2]
      rfl
    · rw [if_neg q2, decide_eq_false q2, if_neg (by decide)]
/-- one step further: what was, the part, the operation -/
theorem acc_op {lv br : Bool} {v1 v2 : Option Int64} {w1 w2 w3 : Int64} {o : Nat} {y1 y2 y3 : pg_H} (A1 : Acc encI lv br v1 w1 y1) (A2 : Acc encI lv (br || (lv && v1.isNone)) v2 w2 y2)
    (A3 : pg_i y3 81 21 = b01 ((br || (lv && v1.isNone)) || (lv && v2.isNone) || (lv && (opV o w1 w2).isNone)) ∧ (lv = true → ((br || (lv && v1.isNone)) || (lv && v2.isNone)) = false → ∀ x, opV o w1 w2 = some x → w3 = x)) :
    Acc encI lv br (v1.bind fun a => v2.bind fun b => opV o a b) w3 y3 := by
  obtain ⟨a1, a2⟩ := A1
  obtain ⟨b1, b2⟩ := A2
  obtain ⟨c1, c2⟩ := A3
  refine ⟨?_, fun hl hb x hx => ?_⟩
  · rw [c1]
    cases lv with
    | false => simp
    | true =>
      cases br with
      | true => simp
      | false =>
        cases v1 with
        | none => simp
        | some u =>
          cases v2 with
          | none => simp
          | some z =>
            have e1 := a2 rfl rfl u rfl
            have e2 := b2 rfl rfl z rfl
            rw [e1, e2]
            rfl
  · cases hl
    cases hb
    cases v1 with
    | none => cases hx
    | some u =>
      cases v2 with
      | none => cases hx
      | some z =>
        have e1 := a2 rfl rfl u rfl
        have e2 := b2 rfl rfl z rfl
        rw [e1, e2] at c2
        exact c2 rfl rfl x hx
theorem r_part (O : TkOK K n by_) {gS : Nat → Int32 → pg_H → Option (Int64 × pg_H)} {br : Bool} {S : Ps Int64} (hB : br = true → PBd K (SBd K) S) (hS : br = true → PRm okI encI K gS S) : PRm okI encI K (B_X12_partOf gS) (partP K br S) := fun i l a hi hl hz => fun t e y lv b h hb => by
  have L := h.1
  have rc := O.rc hi
  have m4 := O.1
  unfold B_X12_partOf
  unfold partP at hz ⊢
  rw [show F_X12_sign (91 : Int32) = some (nI 191) from rfl, Option.bind_some, nc_81 L.kd, r_passes O h hi 191 (by omega)]
  by_cases c1 : trc K i = 191
  · rw [if_pos c1] at hz ⊢
    rw [if_pos c1, Option.bind_some, if_neg (show ¬ (1 : Int32) = 0 by decide)]
    by_cases c2 : br = true
    · rw [if_pos c2] at hz ⊢
      have il := O.lt hi (by omega)
      obtain ⟨z1, z2⟩ := p_close hz
      have B := hB c2 (i + 1) l a il hl
      have q := (b_close O (r := S (i + 1) l a) (c := 193) (by omega) B.1 (fun e => (B.2 e).2.1)).2 hz
      obtain ⟨g1, g2, g3, g4⟩ := r_go h
      obtain ⟨w, y2, e2, R2, C2, ok2, A2⟩ := hS c2 (i + 1) l a il hl z1 t e _ lv b g1 (by rw [g3]; exact hb)
      obtain ⟨k1, k2, k3, k4⟩ := r_go R2
      rw [nc_81 g1.1.kd, e2, Option.bind_some, ng_81 R2.1.kd, R2.2.2.2.2.2, Option.bind_some, k4, Option.bind_some, q.2.1]
      exact ⟨w, _, rfl, k1, (g2.trans C2).trans k2, trivial, by rw [k3]; exact A2.1, A2.2⟩
    · rw [if_neg c2] at hz
      exact absurd rfl hz
  · rw [if_neg c1] at hz ⊢
    rw [if_neg c1, Option.bind_some, if_pos rfl]
    obtain ⟨g1, g2, g3, g4⟩ := r_go h
    rw [ng_81 L.kd, h.2.2.2.2.2, Option.bind_some, nc_81 L.kd, r_code O h hi, Option.bind_some, Option.bind_some, g4, Option.bind_some]
    have FIN : ∀ (val : Int64), (lv = true → b = false → (if nI (trc K i) = (50 : Int32) then Option.bind (pg_gR 12 3 (pg_si y 81 19 (nI (400 * t + (i + 1)))) 81) fun v10 => Option.bind (pg_gI 12 19 (pg_si y 81 19 (nI (400 * t + (i + 1)))) 81) fun v11 => Option.bind (pg_aI 21 (pg_si y 81 19 (nI (400 * t + (i + 1)))) v10 (((4558 : Int32) + v11) - (1 : Int32))) fun v12 => (some ((v12).toInt64, pg_si y 81 19 (nI (400 * t + (i + 1))))) else Option.bind (pg_gR 12 22 (pg_si y 81 19 (nI (400 * t + (i + 1)))) 81) fun v8 => Option.bind (pg_aI 21 (pg_si y 81 19 (nI (400 * t + (i + 1)))) v8 (nI (trc K i) - (12 : Int32))) fun v9 => (some ((v9).toInt64, pg_si y 81 19 (nI (400 * t + (i + 1)))))) = some (val, pg_si y 81 19 (nI (400 * t + (i + 1))))) →
        ∃ w y', (if b01 lv = 0 then (some ((0 : Int64), pg_si y 81 19 (nI (400 * t + (i + 1))))) else Option.bind (pg_gI 12 21 (pg_si y 81 19 (nI (400 * t + (i + 1)))) 81) fun v7 => (if v7 = 0 then (if nI (trc K i) = (50 : Int32) then Option.bind (pg_gR 12 3 (pg_si y 81 19 (nI (400 * t + (i + 1)))) 81) fun v10 => Option.bind (pg_gI 12 19 (pg_si y 81 19 (nI (400 * t + (i + 1)))) 81) fun v11 => Option.bind (pg_aI 21 (pg_si y 81 19 (nI (400 * t + (i + 1)))) v10 (((4558 : Int32) + v11) - (1 : Int32))) fun v12 => (some ((v12).toInt64, pg_si y 81 19 (nI (400 * t + (i + 1))))) else Option.bind (pg_gR 12 22 (pg_si y 81 19 (nI (400 * t + (i + 1)))) 81) fun v8 => Option.bind (pg_aI 21 (pg_si y 81 19 (nI (400 * t + (i + 1)))) v8 (nI (trc K i) - (12 : Int32))) fun v9 => (some ((v9).toInt64, pg_si y 81 19 (nI (400 * t + (i + 1)))))) else (some ((0 : Int64), pg_si y 81 19 (nI (400 * t + (i + 1))))))) = some (w, y') ∧ Rr K t e y' (i + 1) ∧ Ch [] TR2 y y' ∧ okI w ∧ Acc encI lv b (some val) w y' := fun val hv => by
      have z21 : pg_i (pg_si y 81 19 (nI (400 * t + (i + 1)))) 81 21 = b01 b := by rw [g3]; exact hb
      cases lv with
      | false =>
        rw [if_pos (show b01 false = 0 by decide)]
        exact ⟨_, _, rfl, g1, g2, trivial, by rw [z21]; simp, fun z => absurd z (by decide)⟩
      | true =>
        rw [if_neg (show ¬ b01 true = 0 by decide), ng_81 g1.1.kd, z21, Option.bind_some]
        cases b with
        | true =>
          rw [if_neg (show ¬ b01 true = 0 by decide)]
          exact ⟨_, _, rfl, g1, g2, trivial, by rw [z21]; simp, fun _ z => absurd z (by decide)⟩
        | false =>
          rw [if_pos (show b01 false = 0 by decide), hv rfl rfl]
          exact ⟨_, _, rfl, g1, g2, trivial, by rw [z21]; simp, fun _ _ u hu => (by cases hu; rfl)⟩
    have e50 : nI (trc K i) = (50 : Int32) ↔ trc K i = 50 := nI_eq (b := 50) (by omega) (by decide)
    by_cases c2 : trc K i = 50 ∧ trv K i ≤ 1000
    · rw [if_pos c2] at hz ⊢
      have il := O.lt hi (by omega)
      by_cases c3 : l < 50
      · rw [if_pos c3]
        refine FIN (nI (trv K i)).toInt64 (fun _ _ => ?_)
        have i1 : (4558 : Int32) + nI (400 * t + (i + 1)) - (1 : Int32) = nI (4558 + 400 * t + i) := by
          rw [show (4558 : Int32) = nI 4558 from rfl, nI_add, show 4558 + (400 * t + (i + 1)) = 4558 + 400 * t + i + 1 by omega]
          exact nI_down _
        have t8 := h.2.1
        rw [if_pos (e50.mpr c2.1), nR_81_3 g1.1.kd g1.1.rd, Option.bind_some, ng_81 g1.1.kd, g1.2.2.2.2.2, Option.bind_some, i1, na_83 g1.1.kd (by omega), (g1.2.2.2.1 i il).2, Option.bind_some]
      · rw [if_neg c3] at hz
        exact absurd rfl hz
    · rw [if_neg c2] at hz ⊢
      by_cases c4 : 12 ≤ trc K i ∧ trc K i ≤ 20
      · rw [if_pos c4] at hz ⊢
        by_cases c3 : l < 50
        · rw [if_pos c3]
          refine FIN (e (trc K i - 12)).toInt64 (fun _ _ => ?_)
          obtain ⟨q, hq⟩ : ∃ q, trc K i = q + 12 := ⟨trc K i - 12, by omega⟩
          have i1 : nI (q + 12) - (12 : Int32) = nI q := by
            rw [show nI (q + 12) = nI q + (12 : Int32) by rw [← nI_add]; rfl, Int32.add_sub_cancel]
          rw [if_neg (fun z => by have := e50.mp z; omega), nR_81_22 g1.1.kd g1.1.rd, Option.bind_some, hq, i1, na_92 g1.1.kd (by omega), g1.2.2.2.2.1 q (by omega), Option.bind_some, show q + 12 - 12 = q by omega]
        · rw [if_neg c3] at hz
          exact absurd rfl hz
      · rw [if_neg c4] at hz
        exact absurd rfl hz
theorem r_sumL (O : TkOK K n by_) {gP : Nat → Int32 → pg_H → Option (Int64 × pg_H)} {P : Ps Int64} (hB : PBd K (SBd K) P) (hP : PRm okI encI K gP P) (a : Nat) {t : Nat} {e : Nat → Int32} {lv br : Bool} (f : Nat) : ∀ N i l cs v y w, tm_ K < i + f → f ≤ N → i ≤ tm_ K → l ≤ 50 → Rr K t e y i → Acc encI lv br (v e) w y → (binL K 143 4 145 5 P a f i l cs v).1 ≠ 0 →
    ∃ w' y', F_X12_sumOf_6 gP N 81 (b01 lv) w y = some (w', y') ∧ Rr K t e y' (binL K 143 4 145 5 P a f i l cs v).2.1 ∧ Ch [] TR2 y y' ∧ Acc encI lv br ((binL K 143 4 145 5 P a f i l cs v).2.2.2.2 e) w' y' := by
  induction f with
  | zero => exact fun N i l cs v y w h1 h2 hi hl h hA hz => absurd h1 (by omega)
  | succ f ih =>
    intro N i l cs v y w h1 h2 hi hl h hA hz
    obtain ⟨N', rfl⟩ : ∃ N', N = N' + 1 := ⟨N - 1, by omega⟩
    have L := h.1
    have rc := O.rc hi
    rw [F_X12_sumOf_6]
    dsimp only
    unfold binL at hz ⊢
    rw [ng_81 L.kd, h.2.2.2.2.2, Option.bind_some, nc_81 L.kd, r_code O h hi, Option.bind_some, show F_X12_sign (43 : Int32) = some (nI 143) from rfl, Option.bind_some, Option.bind_some, nc_81 L.kd, r_code O h hi, Option.bind_some, show F_X12_sign (45 : Int32) = some (nI 145) from rfl, Option.bind_some]
    have ne : ∀ c, c < 1000 → trc K i ≠ c → ¬ nI (trc K i) = nI c := fun c hc q z => q ((nI_eq (by omega) (by omega)).mp z)
    have S : (trc K i = 143 ∨ trc K i = 145) → ∀ o : Nat, o = (if trc K i = 143 then 4 else 5) → (thn (P (i + 1) l (a + cs.length)) fun j l' ds u => binL K 143 4 145 5 P a f j l' (cs ++ ds ++ [o]) (binV o v u)).1 ≠ 0 → ∃ w' y', F_X12_sumOf_59 gP (F_X12_sumOf_6 gP N') 81 (b01 lv) w (if o = 4 then 1 else 0) y = some (w', y') ∧ Rr K t e y' (thn (P (i + 1) l (a + cs.length)) fun j l' ds u => binL K 143 4 145 5 P a f j l' (cs ++ ds ++ [o]) (binV o v u)).2.1 ∧ Ch [] TR2 y y' ∧ Acc encI lv br ((thn (P (i + 1) l (a + cs.length)) fun j l' ds u => binL K 143 4 145 5 P a f j l' (cs ++ ds ++ [o]) (binV o v u)).2.2.2.2 e) w' y' := fun hq o ho hz => by
      have il := O.lt hi (by omega)
      by_cases e1 : (P (i + 1) l (a + cs.length)).1 = 0
      · rw [thn_0 e1] at hz
        exact absurd rfl hz
      rw [thn_1 e1] at hz ⊢
      have b := (hB (i + 1) l (a + cs.length) il hl).2 e1
      obtain ⟨g1, g2, g3, g4⟩ := r_go h
      obtain ⟨w2, y2, e2, R2, C2, _, A2⟩ := hP (i + 1) l (a + cs.length) il hl e1 t e _ lv (br || (lv && (v e).isNone)) g1 (by rw [g3]; exact hA.1)
      unfold F_X12_sumOf_59
      rw [ng_81 L.kd, h.2.2.2.2.2, Option.bind_some, g4, Option.bind_some, nc_81 g1.1.kd, e2, Option.bind_some]
      have FIN : ∀ (y3 : pg_H) (w3 : Int64), Rr K t e y3 (P (i + 1) l (a + cs.length)).2.1 → Ch [] TR2 y2 y3 → (pg_i y3 81 21 = b01 ((br || (lv && (v e).isNone)) || (lv && ((P (i + 1) l (a + cs.length)).2.2.2.2 e).isNone) || (lv && (opV o w w2).isNone)) ∧ (lv = true → ((br || (lv && (v e).isNone)) || (lv && ((P (i + 1) l (a + cs.length)).2.2.2.2 e).isNone)) = false → ∀ x, opV o w w2 = some x → w3 = x)) →
          ∃ w' y', F_X12_sumOf_6 gP N' 81 (b01 lv) w3 y3 = some (w', y') ∧ Rr K t e y' (binL K 143 4 145 5 P a f (P (i + 1) l (a + cs.length)).2.1 (P (i + 1) l (a + cs.length)).2.2.1 (cs ++ (P (i + 1) l (a + cs.length)).2.2.2.1 ++ [o]) (binV o v (P (i + 1) l (a + cs.length)).2.2.2.2)).2.1 ∧ Ch [] TR2 y y' ∧ Acc encI lv br ((binL K 143 4 145 5 P a f (P (i + 1) l (a + cs.length)).2.1 (P (i + 1) l (a + cs.length)).2.2.1 (cs ++ (P (i + 1) l (a + cs.length)).2.2.2.1 ++ [o]) (binV o v (P (i + 1) l (a + cs.length)).2.2.2.2)).2.2.2.2 e) w' y' := fun y3 w3 R3 C3 A3 => by
        obtain ⟨w', y', e4, R4, C4, A4⟩ := ih N' _ _ _ _ y3 w3 (by have := b.1; omega) (by omega) b.2.1 b.2.2.1 R3 (acc_op hA A2 A3) hz
        exact ⟨w', y', e4, R4, ((g2.trans C2).trans C3).trans C4, A4⟩
      have nz : ¬ (o = 7 ∧ w2 = 0) := fun z => by
        rw [ho] at z
        by_cases q : trc K i = 143
        · rw [if_pos q] at z; omega
        · rw [if_neg q] at z; omega
      have BD := r_bounded R2 (rawV o w w2) lv ((br || (lv && (v e).isNone)) || (lv && ((P (i + 1) l (a + cs.length)).2.2.2.2 e).isNone)) A2.1
      obtain ⟨w3, y3, e3, R3, C3, b3, v3⟩ := BD
      have F2 := FIN y3 w3 R3 C3 ⟨by
          rw [b3, opV_far _ _ _ nz]
          by_cases q : far (rawV o w w2) = true
          · rw [q, if_pos rfl]; rfl
          · have q' : far (rawV o w w2) = false := by simpa using q
            rw [if_neg q, q']; rfl, fun hl hb x hx => by
          rw [opV_far _ _ _ nz] at hx
          by_cases q : far (rawV o w w2) = true
          · rw [if_pos q] at hx; cases hx
          · rw [if_neg q] at hx
            cases hx
            exact v3 (by rw [hb, hl]; simpa using q)⟩
      unfold F_X12_sumOf_95
      by_cases q : o = 4
      · rw [if_pos q, if_neg (show ¬ (1 : Int32) = 0 by decide), nc_81 R2.1.kd, show w + w2 = rawV o w w2 by unfold rawV; rw [if_pos q], e3, Option.bind_some]
        exact F2
      · have o5 : o = 5 := by
          rw [ho] at q ⊢
          by_cases q3 : trc K i = 143
          · rw [if_pos q3] at q; exact absurd rfl q
          · rw [if_neg q3]
        rw [if_neg q, if_pos rfl, nc_81 R2.1.kd, show w - w2 = rawV o w w2 by unfold rawV; rw [if_neg q, if_pos o5], e3, Option.bind_some]
        exact F2
    by_cases q1 : trc K i = 143
    · rw [if_pos (congrArg nI q1)]
      have z := S (Or.inl q1) 4 (by rw [if_pos q1])
      rw [if_pos (Or.inl q1), if_pos q1] at hz ⊢
      unfold F_X12_sumOf_38
      rw [ng_81 L.kd, h.2.2.2.2.2, Option.bind_some, nc_81 L.kd, r_code O h hi, Option.bind_some, show F_X12_sign (43 : Int32) = some (nI 143) from rfl, Option.bind_some, if_pos (congrArg nI q1)]
      exact z hz
    · rw [if_neg (ne 143 (by omega) q1)]
      by_cases q2 : trc K i = 145
      · rw [if_pos (congrArg nI q2)]
        have z := S (Or.inr q2) 5 (by rw [if_neg q1])
        rw [if_pos (Or.inr q2), if_neg q1] at hz ⊢
        unfold F_X12_sumOf_38
        rw [ng_81 L.kd, h.2.2.2.2.2, Option.bind_some, nc_81 L.kd, r_code O h hi, Option.bind_some, show F_X12_sign (43 : Int32) = some (nI 143) from rfl, Option.bind_some, if_neg (ne 143 (by omega) q1)]
        exact z hz
      · rw [if_neg (ne 145 (by omega) q2), if_neg (fun z => z.elim q1 q2)]
        exact ⟨w, y, rfl, h, Ch.refl _ _ _, hA⟩
theorem r_sum (O : TkOK K n by_) {gP : Nat → Int32 → pg_H → Option (Int64 × pg_H)} {P : Ps Int64} (hB : PBd K (SBd K) P) (hP : PRm okI encI K gP P) : PRm okI encI K (B_X12_sumOf gP) (binP K 143 4 145 5 P) := fun i l a hi hl hz => fun t e y lv b h hb => by
  unfold B_X12_sumOf
  unfold binP at hz ⊢
  by_cases e1 : (P i l a).1 = 0
  · rw [thn_0 e1] at hz
    exact absurd rfl hz
  rw [thn_1 e1] at hz ⊢
  have B := (hB i l a hi hl).2 e1
  obtain ⟨w2, y2, e2, R2, C2, _, A2⟩ := hP i l a hi hl e1 t e y lv b h hb
  rw [nc_81 h.1.kd, e2, Option.bind_some]
  obtain ⟨w', y', e4, R4, C4, A4⟩ := r_sumL O hB hP a 401 pg_fuel _ _ _ _ y2 w2 (by have := O.1; omega) (by unfold pg_fuel; omega) B.2.1 B.2.2.1 R2 A2 hz
  exact ⟨w', y', e4, R4, C2.trans C4, trivial, A4⟩
theorem r_termL (O : TkOK K n by_) {gP : Nat → Int32 → pg_H → Option (Int64 × pg_H)} {P : Ps Int64} (hB : PBd K (SBd K) P) (hP : PRm okI encI K gP P) (a : Nat) {t : Nat} {e : Nat → Int32} {lv br : Bool} (f : Nat) : ∀ N i l cs v y w, tm_ K < i + f → f ≤ N → i ≤ tm_ K → l ≤ 50 → Rr K t e y i → Acc encI lv br (v e) w y → (binL K 142 6 147 7 P a f i l cs v).1 ≠ 0 →
    ∃ w' y', F_X12_termOf_6 gP N 81 (b01 lv) w y = some (w', y') ∧ Rr K t e y' (binL K 142 6 147 7 P a f i l cs v).2.1 ∧ Ch [] TR2 y y' ∧ Acc encI lv br ((binL K 142 6 147 7 P a f i l cs v).2.2.2.2 e) w' y' := by
  induction f with
  | zero => exact fun N i l cs v y w h1 h2 hi hl h hA hz => absurd h1 (by omega)
  | succ f ih =>
    intro N i l cs v y w h1 h2 hi hl h hA hz
    obtain ⟨N', rfl⟩ : ∃ N', N = N' + 1 := ⟨N - 1, by omega⟩
    have L := h.1
    have rc := O.rc hi
    rw [F_X12_termOf_6]
    dsimp only
    unfold binL at hz ⊢
    rw [ng_81 L.kd, h.2.2.2.2.2, Option.bind_some, nc_81 L.kd, r_code O h hi, Option.bind_some, show F_X12_sign (42 : Int32) = some (nI 142) from rfl, Option.bind_some, Option.bind_some, nc_81 L.kd, r_code O h hi, Option.bind_some, show F_X12_sign (47 : Int32) = some (nI 147) from rfl, Option.bind_some]
    have ne : ∀ c, c < 1000 → trc K i ≠ c → ¬ nI (trc K i) = nI c := fun c hc q z => q ((nI_eq (by omega) (by omega)).mp z)
    have S : (trc K i = 142 ∨ trc K i = 147) → ∀ o : Nat, o = (if trc K i = 142 then 6 else 7) → (thn (P (i + 1) l (a + cs.length)) fun j l' ds u => binL K 142 6 147 7 P a f j l' (cs ++ ds ++ [o]) (binV o v u)).1 ≠ 0 → ∃ w' y', F_X12_termOf_59 gP (F_X12_termOf_6 gP N') 81 (b01 lv) w (if o = 6 then 1 else 0) y = some (w', y') ∧ Rr K t e y' (thn (P (i + 1) l (a + cs.length)) fun j l' ds u => binL K 142 6 147 7 P a f j l' (cs ++ ds ++ [o]) (binV o v u)).2.1 ∧ Ch [] TR2 y y' ∧ Acc encI lv br ((thn (P (i + 1) l (a + cs.length)) fun j l' ds u => binL K 142 6 147 7 P a f j l' (cs ++ ds ++ [o]) (binV o v u)).2.2.2.2 e) w' y' := fun hq o ho hz => by
      have il := O.lt hi (by omega)
      by_cases e1 : (P (i + 1) l (a + cs.length)).1 = 0
      · rw [thn_0 e1] at hz
        exact absurd rfl hz
      rw [thn_1 e1] at hz ⊢
      have b := (hB (i + 1) l (a + cs.length) il hl).2 e1
      obtain ⟨g1, g2, g3, g4⟩ := r_go h
      obtain ⟨w2, y2, e2, R2, C2, _, A2⟩ := hP (i + 1) l (a + cs.length) il hl e1 t e _ lv (br || (lv && (v e).isNone)) g1 (by rw [g3]; exact hA.1)
      unfold F_X12_termOf_59
      rw [ng_81 L.kd, h.2.2.2.2.2, Option.bind_some, g4, Option.bind_some, nc_81 g1.1.kd, e2, Option.bind_some]
      have FIN : ∀ (y3 : pg_H) (w3 : Int64), Rr K t e y3 (P (i + 1) l (a + cs.length)).2.1 → Ch [] TR2 y2 y3 → (pg_i y3 81 21 = b01 ((br || (lv && (v e).isNone)) || (lv && ((P (i + 1) l (a + cs.length)).2.2.2.2 e).isNone) || (lv && (opV o w w2).isNone)) ∧ (lv = true → ((br || (lv && (v e).isNone)) || (lv && ((P (i + 1) l (a + cs.length)).2.2.2.2 e).isNone)) = false → ∀ x, opV o w w2 = some x → w3 = x)) →
          ∃ w' y', F_X12_termOf_6 gP N' 81 (b01 lv) w3 y3 = some (w', y') ∧ Rr K t e y' (binL K 142 6 147 7 P a f (P (i + 1) l (a + cs.length)).2.1 (P (i + 1) l (a + cs.length)).2.2.1 (cs ++ (P (i + 1) l (a + cs.length)).2.2.2.1 ++ [o]) (binV o v (P (i + 1) l (a + cs.length)).2.2.2.2)).2.1 ∧ Ch [] TR2 y y' ∧ Acc encI lv br ((binL K 142 6 147 7 P a f (P (i + 1) l (a + cs.length)).2.1 (P (i + 1) l (a + cs.length)).2.2.1 (cs ++ (P (i + 1) l (a + cs.length)).2.2.2.1 ++ [o]) (binV o v (P (i + 1) l (a + cs.length)).2.2.2.2)).2.2.2.2 e) w' y' := fun y3 w3 R3 C3 A3 => by
        obtain ⟨w', y', e4, R4, C4, A4⟩ := ih N' _ _ _ _ y3 w3 (by have := b.1; omega) (by omega) b.2.1 b.2.2.1 R3 (acc_op hA A2 A3) hz
        exact ⟨w', y', e4, R4, ((g2.trans C2).trans C3).trans C4, A4⟩
      have o67 : o = 6 ∨ o = 7 := by
        rw [ho]
        by_cases q : trc K i = 142
        · rw [if_pos q]; exact Or.inl rfl
        · rw [if_neg q]; exact Or.inr rfl
      have NORM : ¬ (o = 7 ∧ w2 = 0) → ∃ w' y', F_X12_termOf_130 gP (F_X12_termOf_6 gP N') 81 (b01 lv) (rawV o w w2) 81 y2 = some (w', y') ∧ Rr K t e y' (binL K 142 6 147 7 P a f (P (i + 1) l (a + cs.length)).2.1 (P (i + 1) l (a + cs.length)).2.2.1 (cs ++ (P (i + 1) l (a + cs.length)).2.2.2.1 ++ [o]) (binV o v (P (i + 1) l (a + cs.length)).2.2.2.2)).2.1 ∧ Ch [] TR2 y y' ∧ Acc encI lv br ((binL K 142 6 147 7 P a f (P (i + 1) l (a + cs.length)).2.1 (P (i + 1) l (a + cs.length)).2.2.1 (cs ++ (P (i + 1) l (a + cs.length)).2.2.2.1 ++ [o]) (binV o v (P (i + 1) l (a + cs.length)).2.2.2.2)).2.2.2.2 e) w' y' := fun nz => by
        have BD := r_bounded R2 (rawV o w w2) lv ((br || (lv && (v e).isNone)) || (lv && ((P (i + 1) l (a + cs.length)).2.2.2.2 e).isNone)) A2.1
        obtain ⟨w3, y3, e3, R3, C3, b3, v3⟩ := BD
        have F2 := FIN y3 w3 R3 C3 ⟨by
            rw [b3, opV_far _ _ _ nz]
            by_cases q : far (rawV o w w2) = true
            · rw [q, if_pos rfl]; rfl
            · have q' : far (rawV o w w2) = false := by simpa using q
              rw [if_neg q, q']; rfl, fun hl hb x hx => by
            rw [opV_far _ _ _ nz] at hx
            by_cases q : far (rawV o w w2) = true
            · rw [if_pos q] at hx; cases hx
            · rw [if_neg q] at hx
              cases hx
              exact v3 (by rw [hb, hl]; simpa using q)⟩
        unfold F_X12_termOf_130
        rw [nc_81 R2.1.kd, e3, Option.bind_some]
        exact F2
      rcases o67 with q | q
      · have z := NORM (fun z => by omega)
        rw [show rawV o w w2 = w * w2 by unfold rawV; rw [if_neg (by omega), if_neg (by omega), if_pos q]] at z
        rw [if_pos q, if_neg (show ¬ (1 : Int32) = 0 by decide)]
        unfold F_X12_termOf_113
        rw [if_neg (show ¬ (1 : Int32) = 0 by decide)]
        exact z
      · rw [if_neg (show ¬ o = 6 by omega), if_pos rfl]
        by_cases q0 : w2 = 0
        · have T : (if b01 ((br || (lv && (v e).isNone)) || (lv && ((P (i + 1) l (a + cs.length)).2.2.2.2 e).isNone)) = 0 then (if b01 lv = 0 then F_X12_termOf_107 gP (F_X12_termOf_6 gP N') 81 (b01 lv) w 0 (0 : Int32) 81 y2 else F_X12_termOf_102 gP (F_X12_termOf_6 gP N') 81 (b01 lv) w 0 81 y2) else F_X12_termOf_102 gP (F_X12_termOf_6 gP N') 81 (b01 lv) w 0 81 y2) = F_X12_termOf_107 gP (F_X12_termOf_6 gP N') 81 (b01 lv) w 0 (b01 (((br || (lv && (v e).isNone)) || (lv && ((P (i + 1) l (a + cs.length)).2.2.2.2 e).isNone)) || lv)) 81 y2 := by
            unfold F_X12_termOf_102
            generalize ((br || (lv && (v e).isNone)) || (lv && ((P (i + 1) l (a + cs.length)).2.2.2.2 e).isNone)) = b2
            cases b2 with
            | true => rw [if_neg (show ¬ b01 true = 0 by decide)]; rfl
            | false =>
              rw [if_pos (show b01 false = 0 by decide)]
              cases lv with
              | true => rw [if_neg (show ¬ b01 true = 0 by decide)]; rfl
              | false => rw [if_pos (show b01 false = 0 by decide)]; rfl
          rw [if_pos q0, ng_81 R2.1.kd, A2.1, Option.bind_some, T]
          have B := brk R2 (((br || (lv && (v e).isNone)) || (lv && ((P (i + 1) l (a + cs.length)).2.2.2.2 e).isNone)) || lv)
          unfold F_X12_termOf_107 F_X12_termOf_113 F_X12_termOf_130
          rw [B.1, Option.bind_some, if_pos rfl, if_neg (show ¬ (1 : Int64) = 0 by decide)]
          obtain ⟨w3, y3, e3, R3, C3, b3, v3⟩ := r_bounded B.2.1 (w / 1) lv _ B.2.2.2
          rw [nc_81 B.2.1.1.kd, e3, Option.bind_some]
          have nn : opV o w w2 = none := by
            unfold opV
            rw [if_pos ⟨q, q0⟩]
          exact FIN y3 w3 R3 (B.2.2.1.trans C3) ⟨by
            rw [b3, nn]
            cases lv with
            | true => simp
            | false => simp, fun hl hb x hx => by rw [nn] at hx; cases hx⟩
        · have z := NORM (fun z => q0 z.2)
          rw [show rawV o w w2 = w / w2 by unfold rawV; rw [if_neg (by omega), if_neg (by omega), if_neg (by omega)]] at z
          rw [if_neg q0]
          unfold F_X12_termOf_113
          rw [if_pos rfl, if_neg q0]
          exact z
    by_cases q1 : trc K i = 142
    · rw [if_pos (congrArg nI q1)]
      have z := S (Or.inl q1) 6 (by rw [if_pos q1])
      rw [if_pos (Or.inl q1), if_pos q1] at hz ⊢
      unfold F_X12_termOf_38
      rw [ng_81 L.kd, h.2.2.2.2.2, Option.bind_some, nc_81 L.kd, r_code O h hi, Option.bind_some, show F_X12_sign (42 : Int32) = some (nI 142) from rfl, Option.bind_some, if_pos (congrArg nI q1)]
      exact z hz
    · rw [if_neg (ne 142 (by omega) q1)]
      by_cases q2 : trc K i = 147
      · rw [if_pos (congrArg nI q2)]
        have z := S (Or.inr q2) 7 (by rw [if_neg q1])
        rw [if_pos (Or.inr q2), if_neg q1] at hz ⊢
        unfold F_X12_termOf_38
        rw [ng_81 L.kd, h.2.2.2.2.2, Option.bind_some, nc_81 L.kd, r_code O h hi, Option.bind_some, show F_X12_sign (42 : Int32) = some (nI 142) from rfl, Option.bind_some, if_neg (ne 142 (by omega) q1)]
        exact z hz
      · rw [if_neg (ne 147 (by omega) q2), if_neg (fun z => z.elim q1 q2)]
        exact ⟨w, y, rfl, h, Ch.refl _ _ _, hA⟩
theorem r_term (O : TkOK K n by_) {gP : Nat → Int32 → pg_H → Option (Int64 × pg_H)} {P : Ps Int64} (hB : PBd K (SBd K) P) (hP : PRm okI encI K gP P) : PRm okI encI K (B_X12_termOf gP) (binP K 142 6 147 7 P) := fun i l a hi hl hz => fun t e y lv b h hb => by
  unfold B_X12_termOf
  unfold binP at hz ⊢
  by_cases e1 : (P i l a).1 = 0
  · rw [thn_0 e1] at hz
    exact absurd rfl hz
  rw [thn_1 e1] at hz ⊢
  have B := (hB i l a hi hl).2 e1
  obtain ⟨w2, y2, e2, R2, C2, _, A2⟩ := hP i l a hi hl e1 t e y lv b h hb
  rw [nc_81 h.1.kd, e2, Option.bind_some]
  obtain ⟨w', y', e4, R4, C4, A4⟩ := r_termL O hB hP a 401 pg_fuel _ _ _ _ y2 w2 (by have := O.1; omega) (by unfold pg_fuel; omega) B.2.1 B.2.2.1 R2 A2 hz
  exact ⟨w', y', e4, R4, C2.trans C4, trivial, A4⟩
end EVR
