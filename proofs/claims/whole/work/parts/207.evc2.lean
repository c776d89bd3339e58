/-! TEXTS: codes one behind the other -/
section EVC2
variable {y : pg_H} {r N : Nat} {M e : Nat → Int32} {st : Nat → Int64}
theorem st_bin (h : Wk y r N M e st) {o a to hg : Nat} (ho : 4 ≤ o ∧ o ≤ 10) (hM : M a = nI o) (ha : a < to) (ht : to ≤ N) (hh : hg + 2 ≤ 64) :
    (∀ x, opR o (st hg) (st (hg + 1)) = some x → ∃ y', (∀ n, F_X0_work_11 (n + 1) 47 r (nI to) (nI (hg + 2)) (nI a) y = F_X0_work_11 n 47 r (nI to) (nI (hg + 1)) (nI (a + 1)) y') ∧ Wk y' r N M e (up1 st hg x) ∧ Ch [49] [(47, 2)] y y') ∧
    (opR o (st hg) (st (hg + 1)) = none → ∃ y' w, (∀ n, F_X0_work_11 (n + 2) 47 r (nI to) (nI (hg + 2)) (nI a) y = some (w, y')) ∧ pg_i y' 47 2 = 1 ∧ Ch [49] [(47, 2)] y y') := by
  have L := h.1
  have W : ∀ n, F_X0_work_11 (n + 1) 47 r (nI to) (nI (hg + 2)) (nI a) y = Option.bind (F_X0_combined 47 (nI o) (st hg) (st (hg + 1)) y) fun v5 => Option.bind (pg_sL v5.2 49 (nI hg) v5.1) fun v6 => F_X0_work_11 n 47 r (nI to) (nI (hg + 1)) (nI (a + 1)) v6 := fun n => by
    rw [w_head (op := if a + 1 < N then M (a + 1) else 0) h ha ht hh hM (fun q => (if_pos q).symm) (fun q => if_neg q)]
    unfold F_X0_work_67 F_X0_work_82 F_X0_work_276 topS
    rw [if_neg (show ¬ nI o < (4 : Int32) from nI_nlt (b := 4) ho.1 (by omega)), if_pos (show 0 < hg + 2 by omega)]
    dsimp only [pg_let]
    have ne : ∀ c, c < 100 → c ≠ o → ¬ nI o = nI c := fun c hc q z => q ((nI_eq (by omega) (by omega)).mp z).symm
    have d1 : nI (hg + 2) + (-1 : Int32) = nI (hg + 1) := by rw [nI_down2]; exact nI_down (hg + 1)
    have d2 : nI (hg + 2) + (-1 : Int32) - (1 : Int32) = nI hg := by rw [d1]; exact nI_down hg
    rw [if_neg (show ¬ nI o = (0 : Int32) from ne 0 (by omega) (by omega)), if_neg (show ¬ nI o = (1 : Int32) from ne 1 (by omega) (by omega)), if_neg (show ¬ nI o = (2 : Int32) from ne 2 (by omega) (by omega)), if_neg (show ¬ nI o = (3 : Int32) from ne 3 (by omega) (by omega)), if_neg (show ¬ nI o = (11 : Int32) from ne 11 (by omega) (by omega)), if_pos (show (1 : Int32) < nI (hg + 2) from nI_lt (a := 1) (by omega) (by omega)), nR_47_1 L.kd L.rd, Option.bind_some, Option.bind_some, d2, na_49 L.kd (by omega), Option.bind_some, nc_47 L.kd, d1, nI_1, h.2.2.2.1]
    rfl
  have C := c_comb (y := y) ho L (st hg) (st (hg + 1))
  have base : ∀ b : Int32, Ch [49] [(47, 2)] y (pg_si y 47 2 b) := fun b => (Ch.refl _ _ _).asi (Or.inr (by decide))
  refine ⟨fun x hx => ?_, fun hx => ?_⟩
  · have c1 := base 0
    have h1 : Wk (pg_si y 47 2 0) r N M e st := h.ch c1 (h.2.2.2.1) (by rw [si_row, up1_eq])
    have hS := slS (k := hg) (x := x) h1
    refine ⟨_, fun n => ?_, hS.1, c1.trans hS.2⟩
    rw [W n, C.1 x hx, Option.bind_some, ns_49 h1.1.kd (by omega), Option.bind_some]
  · obtain ⟨x, hx2⟩ := C.2 hx
    have c1 := base 1
    have L1 := c1.lay L (by decide)
    have c2 : Ch [49] [(47, 2)] y (pg_sl (pg_si y 47 2 1) 49 hg x) := c1.asl (Or.inl (by decide))
    have L2 := c2.lay L (by decide)
    have b2 : pg_i (pg_sl (pg_si y 47 2 1) 49 hg x) 47 2 = 1 := by
      show pg_i (pg_si y 47 2 1) 47 2 = 1
      rw [si_row, up1_eq]
    refine ⟨pg_sl (pg_si y 47 2 1) 49 hg x, pg_l (pg_sl (pg_si y 47 2 1) 49 hg x) 49 (hg + 1 - 1), fun n => ?_, b2, c2⟩
    rw [W (n + 1), hx2, Option.bind_some, ns_49 L1.kd (by omega), Option.bind_some, w_stop L2 b2 (by omega) (by omega)]
theorem EvC.mono {α : Type} {enc : α → Int64} {nd nd' a : Nat} {cs : List Nat} {v : (Nat → Int32) → Option α} (h : EvC enc nd a cs v) (q : nd ≤ nd') : EvC enc nd' a cs v := fun r N M e to y st hg hA h1 h2 hw hh => h r N M e to y st hg hA h1 h2 hw (by omega)
theorem len3 (cs ds : List Nat) (o : Nat) : (cs ++ ds ++ [o]).length = cs.length + ds.length + 1 := by simp [Nat.add_assoc]
theorem EvC.bin {α : Type} {enc : α → Int64} {nd a o : Nat} {cs ds : List Nat} {v w : (Nat → Int32) → Option Int64} (f : Int64 → Int64 → Option α) (hf : ∀ u z, opR o u z = (f u z).map enc) (ho : 4 ≤ o ∧ o ≤ 10) (h1 : EvC encI (nd + 1) a cs v) (h2 : EvC encI nd (a + cs.length) ds w) (hn : 1 ≤ nd) :
    EvC enc (nd + 1) a (cs ++ ds ++ [o]) (fun e => (v e).bind fun u => (w e).bind fun z => f u z) := fun r N M e to y st hg hA ht hN hw hh => by
  rw [len3] at ht
  obtain ⟨hA1, hA3⟩ := at_app.mp hA
  obtain ⟨hA1, hA2⟩ := at_app.mp hA1
  rw [List.length_append, ← Nat.add_assoc, at_one] at hA3
  have A := h1 r N M e to y st hg hA1 (by omega) hN hw (by omega)
  have ln := len3 cs ds o
  dsimp only
  cases hv : v e with
  | none =>
    refine ⟨fun u hu => (by cases hu), fun _ => ?_⟩
    obtain ⟨k, y', x, hk, B, C, D⟩ := A.2 hv
    exact ⟨k, y', x, by omega, B, C, D⟩
  | some u =>
    obtain ⟨k1, y1, st1, hk1, B1, W1, s1, l1, C1⟩ := A.1 u hv
    have A2 := h2 r N M e to y1 st1 (hg + 1) hA2 (by omega) hN W1 (by omega)
    rw [Option.bind_some]
    cases hz : w e with
    | none =>
      refine ⟨fun u hu => (by cases hu), fun _ => ?_⟩
      obtain ⟨k, y', x, hk, B, C, D⟩ := A2.2 hz
      refine ⟨k1 + k, y', x, by omega, fun f => ?_, C, C1.trans D⟩
      rw [show f + 1 + (k1 + k) = f + 1 + k + k1 by omega, B1, B]
    | some z =>
      obtain ⟨k2, y2, st2, hk2, B2, W2, s2, l2, C2⟩ := A2.1 z hz
      have S := st_bin W2 ho (a := a + cs.length + ds.length) (to := to) (hg := hg) hA3 (by omega) hN (by omega)
      have e1 : st2 hg = u := by rw [l2 hg (by omega), s1]; rfl
      have e2 : st2 (hg + 1) = z := s2
      rw [e1, e2, hf] at S
      refine ⟨fun x hx => ?_, fun hx => ?_⟩
      · rw [Option.bind_some] at hx
        obtain ⟨y3, B3, W3, C3⟩ := S.1 (enc x) (by rw [hx]; rfl)
        refine ⟨k1 + (k2 + 1), y3, _, by omega, fun f => ?_, W3, up1_eq, fun q hq => by rw [up1_ne (by omega), l2 q (by omega), l1 q hq], (C1.trans C2).trans C3⟩
        rw [show f + (k1 + (k2 + 1)) = f + 1 + k2 + k1 by omega, B1, B2, B3, ln, ← Nat.add_assoc, ← Nat.add_assoc]
      · rw [Option.bind_some] at hx
        obtain ⟨y3, x, B3, b3, C3⟩ := S.2 (by rw [hx]; rfl)
        refine ⟨k1 + (k2 + 1), y3, x, by omega, fun f => ?_, b3, (C1.trans C2).trans C3⟩
        rw [show f + 1 + (k1 + (k2 + 1)) = f + 1 + 1 + k2 + k1 by omega, B1, B2, B3]
/-- a jump -/
theorem st_jmp (h : Wk y r N M e st) {o a to hg t : Nat} (ho : o = 2 ∨ o = 3) (hM : M a = nI o) (hM2 : M (a + 1) = nI t) (hat : a + 2 ≤ t) (ht2 : t ≤ to) (ht : to ≤ N) (hh : hg + 1 ≤ 64) (b : Bool) (hb : st hg = encB b) (n : Nat) :
    F_X0_work_11 (n + 1) 47 r (nI to) (nI (hg + 1)) (nI a) y = if b = decide (o = 2) then F_X0_work_11 n 47 r (nI to) (nI (hg + 1)) (nI t) y else F_X0_work_11 n 47 r (nI to) (nI hg) (nI (a + 2)) y := by
  have hN := h.2.1.2.2.2.2
  rw [w_head (op := nI t) h (by omega) ht hh hM (fun _ => hM2) (fun z => absurd hat (by omega))]
  unfold F_X0_work_67 F_X0_work_82 F_X0_work_146 F_X0_work_159 F_X0_work_169 F_X0_work_188 F_X0_work_208 F_X0_work_276 topS
  have e2 : nI a + (2 : Int32) = nI (a + 2) := by rw [← nI_add]; rfl
  have mx : (if nI (a + 2) < nI t then nI t else nI (a + 2)) = nI t := by
    by_cases q : a + 2 = t
    · rw [q, ite_self]
    · rw [if_pos (nI_lt (by omega) (by omega))]
  have e3 : nI (hg + 1) - (1 : Int32) = nI hg := nI_down hg
  have e4 : (if (0 : Int32) < nI hg then nI hg else 0) = nI hg := by
    by_cases q : 0 < hg
    · rw [if_pos (show (0 : Int32) < nI hg from nI_lt (a := 0) q (by omega))]
    · rw [show hg = 0 by omega]; rfl
  rw [if_pos (show nI o < (4 : Int32) from nI_lt (b := 4) (by omega) (by decide)), e2, if_pos (show 0 < hg + 1 by omega), show hg + 1 - 1 = hg from rfl, hb]
  dsimp only [pg_let]
  rw [mx, e3, e4]
  have k1 : (1 : Int32).toInt64 = 1 := by decide
  have k0 : (0 : Int32).toInt64 = 0 := by decide
  rcases ho with rfl | rfl
  · rw [if_neg (show ¬ nI 2 = (0 : Int32) by decide), if_neg (show ¬ nI 2 = (1 : Int32) by decide), if_pos (show nI 2 = (2 : Int32) from rfl), if_pos (show nI 2 = (2 : Int32) from rfl), k1]
    cases b with
    | true => rw [if_pos (show encB true = 1 from rfl), if_neg (show ¬ (1 : Int32) = 0 by decide), if_neg (show ¬ (1 : Int32) = 0 by decide), if_pos (by decide)]
    | false => rw [if_neg (show ¬ encB false = 1 by decide), if_pos rfl, if_pos rfl, if_neg (by decide)]
  · rw [if_neg (show ¬ nI 3 = (0 : Int32) by decide), if_neg (show ¬ nI 3 = (1 : Int32) by decide), if_neg (show ¬ nI 3 = (2 : Int32) by decide), if_pos (show nI 3 = (3 : Int32) from rfl), if_neg (show ¬ nI 3 = (2 : Int32) by decide), k0]
    cases b with
    | true => rw [if_neg (show ¬ encB true = 0 by decide), if_pos rfl, if_pos rfl, if_neg (by decide)]
    | false => rw [if_pos (show encB false = 0 from rfl), if_neg (show ¬ (1 : Int32) = 0 by decide), if_neg (show ¬ (1 : Int32) = 0 by decide), if_pos (by decide)]
theorem EvC.jmp {nd a o : Nat} {cs ds : List Nat} {v w : (Nat → Int32) → Option Bool} (ho : o = 2 ∨ o = 3) (h1 : EvC encB nd a cs v) (h2 : EvC encB nd (a + cs.length + 2) ds w) (hn : 1 ≤ nd) :
    EvC encB nd a (cs ++ ([o, a + cs.length + 2 + ds.length] ++ ds)) (jmpV o v w) := fun r N M e to y st hg hA ht hN hw hh => by
  have ln : (cs ++ ([o, a + cs.length + 2 + ds.length] ++ ds)).length = cs.length + 2 + ds.length := by
    simp only [List.length_append, List.length_cons, List.length_nil]
    omega
  rw [ln] at ht ⊢
  obtain ⟨hA1, hA3⟩ := at_app.mp hA
  obtain ⟨hA2, hA3⟩ := at_app.mp hA3
  obtain ⟨m1, m2⟩ := at_two.mp hA2
  rw [show ([o, a + cs.length + 2 + ds.length] : List Nat).length = 2 from rfl] at hA3
  have A := h1 r N M e to y st hg hA1 (by omega) hN hw hh
  unfold jmpV
  cases hv : v e with
  | none =>
    refine ⟨fun u hu => (by cases hu), fun _ => ?_⟩
    obtain ⟨k, y', x, hk, B, C, D⟩ := A.2 hv
    exact ⟨k, y', x, by omega, B, C, D⟩
  | some u =>
    obtain ⟨k1, y1, st1, hk1, B1, W1, s1, l1, C1⟩ := A.1 u hv
    have J := st_jmp W1 ho m1 m2 (by omega) (by omega) hN (by omega) u s1 (hg := hg)
    rw [Option.bind_some]
    by_cases q : u = decide (o = 2)
    · rw [if_pos q]
      refine ⟨fun x hx => ?_, fun hx => (by cases hx)⟩
      cases hx
      refine ⟨k1 + 1, y1, st1, by omega, fun f => ?_, W1, s1, l1, C1⟩
      rw [show f + (k1 + 1) = f + 1 + k1 by omega, B1, J, if_pos q, show a + cs.length + 2 + ds.length = a + (cs.length + 2 + ds.length) by omega]
    · rw [if_neg q]
      have A2 := h2 r N M e to y1 st1 hg hA3 (by omega) hN W1 hh
      refine ⟨fun x hx => ?_, fun hx => ?_⟩
      · obtain ⟨k2, y2, st2, hk2, B2, W2, s2, l2, C2⟩ := A2.1 x hx
        refine ⟨k1 + (k2 + 1), y2, st2, by omega, fun f => ?_, W2, s2, fun p hp => by rw [l2 p hp, l1 p hp], C1.trans C2⟩
        rw [show f + (k1 + (k2 + 1)) = f + k2 + 1 + k1 by omega, B1, J, if_neg q, B2, show a + cs.length + 2 + ds.length = a + (cs.length + 2 + ds.length) by omega]
      · obtain ⟨k, y', x, hk, B, C, D⟩ := A2.2 hx
        refine ⟨k1 + (k + 1), y', x, by omega, fun f => ?_, C, C1.trans D⟩
        rw [show f + 1 + (k1 + (k + 1)) = f + 1 + k + 1 + k1 by omega, B1, J, if_neg q, B]
theorem EvC.turn {nd a : Nat} {cs : List Nat} {v : (Nat → Int32) → Option Bool} (h1 : EvC encB nd a cs v) (hn : 1 ≤ nd) : EvC encB nd a (cs ++ [11]) (notV v) := fun r N M e to y st hg hA ht hN hw hh => by
  have ln : (cs ++ [11]).length = cs.length + 1 := by simp
  rw [ln] at ht ⊢
  obtain ⟨hA1, hA3⟩ := at_app.mp hA
  rw [at_one] at hA3
  have A := h1 r N M e to y st hg hA1 (by omega) hN hw hh
  unfold notV
  cases hv : v e with
  | none =>
    refine ⟨fun u hu => (by cases hu), fun _ => ?_⟩
    obtain ⟨k, y', x, hk, B, C, D⟩ := A.2 hv
    exact ⟨k, y', x, by omega, B, C, D⟩
  | some u =>
    obtain ⟨k1, y1, st1, hk1, B1, W1, s1, l1, C1⟩ := A.1 u hv
    refine ⟨fun x hx => ?_, fun hx => (by cases hx)⟩
    cases hx
    have hS := slS (k := hg) (x := encB (!u)) W1
    refine ⟨k1 + 1, _, _, by omega, fun f => ?_, hS.1, up1_eq, fun p hp => by rw [up1_ne (by omega), l1 p hp], C1.trans hS.2⟩
    rw [show f + (k1 + 1) = f + 1 + k1 by omega, B1, w_head (op := if a + cs.length + 1 < N then M (a + cs.length + 1) else 0) W1 (by omega) hN (by omega) hA3 (fun q => (if_pos q).symm) (fun q => if_neg q)]
    have L := W1.1
    unfold F_X0_work_67 F_X0_work_82 F_X0_work_276 topS
    rw [if_neg (show ¬ nI 11 < (4 : Int32) by decide), if_pos (show 0 < hg + 1 by omega), show hg + 1 - 1 = hg from rfl, s1]
    dsimp only [pg_let]
    have en : (1 : Int64) - encB u = encB (!u) := by cases u <;> decide
    rw [if_neg (show ¬ nI 11 = (0 : Int32) by decide), if_neg (show ¬ nI 11 = (1 : Int32) by decide), if_neg (show ¬ nI 11 = (2 : Int32) by decide), if_neg (show ¬ nI 11 = (3 : Int32) by decide), if_pos (show nI 11 = (11 : Int32) from rfl), if_pos (show (0 : Int32) < nI (hg + 1) from nI_lt (a := 0) (by omega) (by omega)), nR_47_1 L.kd L.rd, Option.bind_some, nI_down, ns_49 L.kd (by omega), Option.bind_some, en, nI_1]
    rfl
end EVC2
