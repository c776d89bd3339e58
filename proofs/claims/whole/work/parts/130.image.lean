/-! image, back: a shelf takes from another -/
/-- what never changes of the shelf at s -/
def ShS (h : pg_H) (s : Nat) : Prop := pg_k h s = (6, 9) ∧ (pg_r h s 0 = s + 1 ∧ pg_r h s 1 = s + 3 ∧ pg_r h s 2 = s + 5 ∧ pg_r h s 3 = s + 7 ∧ pg_r h s 4 = s + 9 ∧ pg_r h s 5 = s + 11 ∧ pg_r h s 6 = s + 12) ∧
  pg_k h (s + 11) = (21, 4) ∧ pg_k h (s + 12) = (25, 8) ∧ ∀ t w m, (t, w, m) ∈ [(s + 1, 3, 12), (s + 3, 4, 40), (s + 5, 8, 12), (s + 7, 6, 8), (s + 9, 5, 200)] → pg_k h t = (8, 4) ∧ pg_k h (t + 1) = (21, w * m) ∧ pg_r h t 0 = t + 1 ∧ pg_i h t 1 = nI w ∧ pg_i h t 2 = nI m
theorem ShS.of {h : pg_H} (L : Lay h) : ShS h 2 ∧ ShS h 16 ∧ ShS h 29 := by
  have k := fun (r : Nat) (hr : r < 110) => lay_k L hr
  have rr := L.2.2.1
  have ii := L.2.2.2.1
  have tb : ∀ t w m, (t, w, m) ∈ [(3, 3, 12), (5, 4, 40), (7, 8, 12), (9, 6, 8), (11, 5, 200), (17, 3, 12), (19, 4, 40), (21, 8, 12), (23, 6, 8), (25, 5, 200), (30, 3, 12), (32, 4, 40), (34, 8, 12), (36, 6, 8), (38, 5, 200)] → pg_k h t = (8, 4) ∧ pg_k h (t + 1) = (21, w * m) ∧ pg_r h t 0 = t + 1 ∧ pg_i h t 1 = nI w ∧ pg_i h t 2 = nI m := by
    have st : ∀ t w m, (t, w, m) ∈ [(3, 3, 12), (5, 4, 40), (7, 8, 12), (9, 6, 8), (11, 5, 200), (17, 3, 12), (19, 4, 40), (21, 8, 12), (23, 6, 8), (25, 5, 200), (30, 3, 12), (32, 4, 40), (34, 8, 12), (36, 6, 8), (38, 5, 200)] → t + 1 < 110 ∧ layK.getD t (0, 0) = (8, 4) ∧ layK.getD (t + 1) (0, 0) = (21, w * m) ∧ (t, 0, t + 1) ∈ layR ∧ (t, 1, nI w) ∈ layI ∧ (t, 2, nI m) ∈ layI := by
      intro t w m hm
      simp only [List.mem_cons, Prod.mk.injEq, List.mem_nil_iff, or_false] at hm
      rcases hm with ⟨rfl, rfl, rfl⟩ | ⟨rfl, rfl, rfl⟩ | ⟨rfl, rfl, rfl⟩ | ⟨rfl, rfl, rfl⟩ | ⟨rfl, rfl, rfl⟩ | ⟨rfl, rfl, rfl⟩ | ⟨rfl, rfl, rfl⟩ | ⟨rfl, rfl, rfl⟩ | ⟨rfl, rfl, rfl⟩ | ⟨rfl, rfl, rfl⟩ | ⟨rfl, rfl, rfl⟩ | ⟨rfl, rfl, rfl⟩ | ⟨rfl, rfl, rfl⟩ | ⟨rfl, rfl, rfl⟩ | ⟨rfl, rfl, rfl⟩ <;> decide
    intro t w m hm
    obtain ⟨q1, q2, q3, q4, q5, q6⟩ := st t w m hm
    exact ⟨(k t (by omega)).trans q2, (k (t + 1) q1).trans q3, rr _ q4, ii _ q5, ii _ q6⟩
  refine ⟨⟨(k 2 (by decide)).trans (by decide), ⟨rr (2, 0, 3) (by decide), rr (2, 1, 5) (by decide), rr (2, 2, 7) (by decide), rr (2, 3, 9) (by decide), rr (2, 4, 11) (by decide), rr (2, 5, 13) (by decide), rr (2, 6, 14) (by decide)⟩, (k 13 (by decide)).trans (by decide), (k 14 (by decide)).trans (by decide), fun t w m hm => tb t w m ?_⟩,
    ⟨(k 16 (by decide)).trans (by decide), ⟨rr (16, 0, 17) (by decide), rr (16, 1, 19) (by decide), rr (16, 2, 21) (by decide), rr (16, 3, 23) (by decide), rr (16, 4, 25) (by decide), rr (16, 5, 27) (by decide), rr (16, 6, 28) (by decide)⟩, (k 27 (by decide)).trans (by decide), (k 28 (by decide)).trans (by decide), fun t w m hm => tb t w m ?_⟩,
    ⟨(k 29 (by decide)).trans (by decide), ⟨rr (29, 0, 30) (by decide), rr (29, 1, 32) (by decide), rr (29, 2, 34) (by decide), rr (29, 3, 36) (by decide), rr (29, 4, 38) (by decide), rr (29, 5, 40) (by decide), rr (29, 6, 41) (by decide)⟩, (k 40 (by decide)).trans (by decide), (k 41 (by decide)).trans (by decide), fun t w m hm => tb t w m ?_⟩⟩
  all_goals
    simp only [List.mem_cons, List.mem_nil_iff, or_false, Prod.mk.injEq] at hm
    rcases hm with ⟨rfl, rfl, rfl⟩ | ⟨rfl, rfl, rfl⟩ | ⟨rfl, rfl, rfl⟩ | ⟨rfl, rfl, rfl⟩ | ⟨rfl, rfl, rfl⟩ <;> decide
theorem cpI_k (h : pg_H) (a0 : Nat) (sp : Int32) (a : Nat) (dp n : Int32) : pg_k (pg_cpI h a0 sp a dp n) = pg_k h := id rfl
/-- cells copied whole -/
theorem cpyI_go {h : pg_H} {a0 a n : Nat} (k0 : pg_k h a0 = (21, n)) (k1 : pg_k h a = (21, n)) (hn : n < 2 ^ 31) : ∃ h', pg_cpyI h a0 0 a 0 (nI n) = some h' ∧ Ch [a] [] h h' ∧ ∀ j, j < n → pg_i h' a j = pg_i h a0 j := by
  have c : (nI n).toNatClampNeg = n := nI_clamp hn
  have z : (0 : Int32).toNatClampNeg = 0 := by decide
  refine ⟨pg_cpI h a0 0 a 0 (nI n), ?_, ⟨rfl, rfl, rfl, rfl, fun r k hr => ⟨?_, rfl⟩⟩, fun j hj => ?_⟩
  · unfold pg_cpyI
    rw [k0, k1, c, z]
    exact if_pos ⟨rfl, rfl, by decide, by decide, nI_pos hn, by show 0 + n ≤ n; omega, by show 0 + n ≤ n; omega⟩
  · have ne : r ≠ a := fun e => hr (Or.inl (by rw [e]; exact List.mem_singleton.mpr rfl))
    show (if r = a then va_cpy (pg_i h a0) (pg_i h a) _ _ _ else pg_i h r) k = _
    rw [if_neg ne]
  · show (if a = a then va_cpy (pg_i h a0) (pg_i h a) _ _ _ else pg_i h a) j = _
    rw [if_pos rfl, c, z]
    show (if 0 ≤ j ∧ j < 0 + n then pg_i h a0 (0 + (j - 0)) else pg_i h a j) = _
    rw [if_pos ⟨Nat.zero_le _, by omega⟩, Nat.zero_add, Nat.sub_zero]
theorem tb_take {h : pg_H} {t t' w m n base : Nat} {A : Nat → Int32} (T : TR h t w m n base A) (S : pg_k h t' = (8, 4) ∧ pg_k h (t' + 1) = (21, w * m) ∧ pg_r h t' 0 = t' + 1 ∧ pg_i h t' 1 = nI w ∧ pg_i h t' 2 = nI m) (ne : t ≠ t' ∧ t + 1 ≠ t' ∧ t + 1 ≠ t' + 1 ∧ t ≠ t' + 1) :
    ∃ h', F_X7_takeFrom t' t h = some h' ∧ Ch [t' + 1] [(t', 3)] h h' ∧ TR h' t' w m n base A := by
  obtain ⟨s1, s2, s3, s4, s5⟩ := S
  obtain ⟨⟨a1, a2, a3, a4, a5, a6, a7, a8, a9, a10⟩, b⟩ := T
  have wm : w * m < 2 ^ 31 := by
    rw [Nat.mul_comm]
    omega
  have c1 : Ch [t' + 1] [(t', 3)] h (pg_si h t' 3 (nI n)) := (Ch.refl _ _ _).asi (Or.inr (List.mem_singleton.mpr rfl))
  obtain ⟨h', e1, e2, e3⟩ := cpyI_go (h := pg_si h t' 3 (nI n)) (a0 := t + 1) (a := t' + 1) (n := w * m) a2 s2 wm
  have c2 : Ch [t' + 1] [(t', 3)] h h' := c1.trans (Mod.mono e2 (fun r k z => z.elim Or.inl (fun y => absurd y List.not_mem_nil)))
  have mn : (if nI m < nI n then nI m else nI n) = nI n := by
    rw [if_neg (nI_nlt a7 (by omega))]
  refine ⟨h', ?_, c2, ⟨⟨by rw [c2.kk]; exact s1, by rw [c2.kk]; exact s2, by rw [c2.rr]; exact s3, ?_, ?_, ?_, a7, a8, a9, a10⟩, fun i j hi hj => ?_⟩⟩
  · have g1 : pg_gI 7 3 h t = some (nI n) := by
      unfold pg_gI
      rw [a1, if_pos rfl, a6]
    have g2 : pg_gI 7 2 h t' = some (nI m) := by
      unfold pg_gI
      rw [s1, if_pos rfl, s5]
    have g3 : pg_pI 7 3 h t' (nI n) = some (pg_si h t' 3 (nI n)) := by
      unfold pg_pI
      rw [s1, if_pos rfl]
    have g4 : pg_gR 7 0 (pg_si h t' 3 (nI n)) t = some (t + 1) := by
      unfold pg_gR
      rw [show pg_k (pg_si h t' 3 (nI n)) t = _ from a1, if_pos rfl, show pg_r (pg_si h t' 3 (nI n)) t 0 = _ from a3]
    have g5 : pg_gR 7 0 (pg_si h t' 3 (nI n)) t' = some (t' + 1) := by
      unfold pg_gR
      rw [show pg_k (pg_si h t' 3 (nI n)) t' = _ from s1, if_pos rfl, show pg_r (pg_si h t' 3 (nI n)) t' 0 = _ from s3]
    have g6 : pg_len (pg_si h t' 3 (nI n)) (t + 1) = some (nI (w * m)) := by
      unfold pg_len
      rw [show pg_k (pg_si h t' 3 (nI n)) (t + 1) = _ from a2]
      rfl
    have g7 : pg_len (pg_si h t' 3 (nI n)) (t' + 1) = some (nI (w * m)) := by
      unfold pg_len
      rw [show pg_k (pg_si h t' 3 (nI n)) (t' + 1) = _ from s2]
      rfl
    unfold F_X7_takeFrom
    rw [g1, Option.bind_some, g2, Option.bind_some, mn, g3, Option.bind_some, g4, Option.bind_some, g5, Option.bind_some, Option.bind_some, g7, Option.bind_some, Option.bind_some, g6, Option.bind_some, if_neg Int32.lt_irrefl, e1]
    rfl
  · have z := e2.2.2.2.2 t' 1 (fun q => q.elim (fun y => by have := List.mem_singleton.mp y; omega) (fun y => absurd y List.not_mem_nil))
    rw [z.1, si_row, up1_ne (by decide)]
    exact s4
  · have z := e2.2.2.2.2 t' 2 (fun q => q.elim (fun y => by have := List.mem_singleton.mp y; omega) (fun y => absurd y List.not_mem_nil))
    rw [z.1, si_row, up1_ne (by decide)]
    exact s5
  · have z := e2.2.2.2.2 t' 3 (fun q => q.elim (fun y => by have := List.mem_singleton.mp y; omega) (fun y => absurd y List.not_mem_nil))
    rw [z.1, si_row, up1_eq]
  · have h1 : i * w + j < w * m := by
      have q1 : (i + 1) * w ≤ m * w := Nat.mul_le_mul_right w (by omega)
      rw [Nat.add_mul, Nat.one_mul] at q1
      rw [Nat.mul_comm w m]
      omega
    rw [e3 _ h1, si_ne (by omega)]
    exact b i j hi hj
/-- nothing but references of one row changes -/
def ChR (a : Nat) (h h' : pg_H) : Prop := h'.1 = h.1 ∧ h'.2.1 = h.2.1 ∧ pg_k h' = pg_k h ∧ pg_i h' = pg_i h ∧ pg_l h' = pg_l h ∧ ∀ r, r ≠ a → pg_r h' r = pg_r h r
/-- rows of the shelf at s' alone -/
abbrev inS (s' : Nat) : Nat → Nat → Prop := fun r _ => s' < r ∧ r < s' + 12
theorem tbl_in {g g' : pg_H} {s' d : Nat} (c : Ch [d + 1] [(d, 3)] g g') (h1 : s' < d) (h2 : d + 1 < s' + 12) : Mod (inS s') g g' := by
  refine Mod.mono c (fun r k z => ?_)
  rcases z with z | z
  · have := List.mem_singleton.mp z
    show s' < r ∧ r < s' + 12
    omega
  · have := List.mem_singleton.mp z
    injection this with z1 z2
    show s' < r ∧ r < s' + 12
    omega
theorem tb_no {d t k : Nat} (e : t + 1 < d ∨ d + 1 < t) : ¬ ((t ∈ [d + 1]) ∨ (t, k) ∈ [(d, 3)]) ∧ ¬ ((t + 1 ∈ [d + 1]) ∨ (t + 1, k) ∈ [(d, 3)]) := by
  refine ⟨fun z => ?_, fun z => ?_⟩ <;> rcases z with z | z
  · have := List.mem_singleton.mp z
    omega
  · have := List.mem_singleton.mp z
    injection this with z1 z2
    omega
  · have := List.mem_singleton.mp z
    omega
  · have := List.mem_singleton.mp z
    injection this with z1 z2
    omega
theorem tb_keep {g g' : pg_H} {d t w m n base : Nat} {A : Nat → Int32} (c : Ch [d + 1] [(d, 3)] g g') (e : t + 1 < d ∨ d + 1 < t) (T : TR g t w m n base A) : TR g' t w m n base A :=
  T.mod c ⟨(tb_no e).1, (tb_no e).1, (tb_no e).1⟩ (fun _ => (tb_no e).2)
def stS (g : pg_H) (t w m : Nat) : Prop := pg_k g t = (8, 4) ∧ pg_k g (t + 1) = (21, w * m) ∧ pg_r g t 0 = t + 1 ∧ pg_i g t 1 = nI w ∧ pg_i g t 2 = nI m
theorem tb_str {g g' : pg_H} {d t w m : Nat} (c : Ch [d + 1] [(d, 3)] g g') (e : t + 1 < d ∨ d + 1 < t) (z : stS g t w m) : stS g' t w m := by
  refine ⟨by rw [c.kk]; exact z.1, by rw [c.kk]; exact z.2.1, by rw [c.rr]; exact z.2.2.1, ?_, ?_⟩
  · rw [(c.2.2.2.2 t 1 (tb_no e).1).1]
    exact z.2.2.2.1
  · rw [(c.2.2.2.2 t 2 (tb_no e).1).1]
    exact z.2.2.2.2
theorem take_go {h : pg_H} {s s' : Nat} {A : Nat → Int32} (hs : s = 2 ∧ (s' = 16 ∨ s' = 29) ∨ s' = 2 ∧ (s = 16 ∨ s = 29)) (S : ShS h s) (S' : ShS h s') (C : CNum h s A) (ok : ∀ t, t < 8 → pg_r h (s + 12) t = 0 ∨ (pg_k h (pg_r h (s + 12) t)).1 = 10) :
    ∃ h1 h2 h3, F_X5_takeFrom s' s h = some h3 ∧ Mod (inS s') h h1 ∧ ChR (s' + 12) h1 h2 ∧ Ch [] [(s', 7), (s', 8)] h2 h3 ∧ (∀ t, t < 8 → pg_r h3 (s' + 12) t = pg_r h (s + 12) t) ∧ CNum h3 s' A := by
  obtain ⟨a1, a2, a3, a4, a5, a6, a7, a8⟩ := C
  obtain ⟨S1, ⟨r0, r1, r2, r3, r4, r5, r6⟩, S3, S4, S5⟩ := S
  obtain ⟨S1', ⟨r0', r1', r2', r3', r4', r5', r6'⟩, S3', S4', S5'⟩ := S'
  have far : s + 13 ≤ s' ∨ s' + 13 ≤ s := by omega
  have gS : ∀ (g : pg_H), pg_k g = pg_k h → pg_r g = pg_r h → ∀ k v, pg_r h s k = v → pg_gR 5 k g s = some v := fun g e1 e2 k v e3 => by
    unfold pg_gR
    rw [e1, S1, if_pos rfl, e2, e3]
  have gS' : ∀ (g : pg_H), pg_k g = pg_k h → pg_r g = pg_r h → ∀ k v, pg_r h s' k = v → pg_gR 5 k g s' = some v := fun g e1 e2 k v e3 => by
    unfold pg_gR
    rw [e1, S1', if_pos rfl, e2, e3]
  have rc : ∀ (g : pg_H), pg_k g = pg_k h → ∀ t w m, (t, w, m) ∈ [(s' + 1, 3, 12), (s' + 3, 4, 40), (s' + 5, 8, 12), (s' + 7, 6, 8), (s' + 9, 5, 200)] → ∀ {τ : Type} (G : Option τ), pg_rcv 7 g t G = G := fun g e1 t w m hm _ G => by
    unfold pg_rcv
    rw [e1, (S5' t w m hm).1]
    rfl
  have z1 : stS h (s' + 1) 3 12 := S5' (s' + 1) 3 12 (by simp)
  have z2 : stS h (s' + 3) 4 40 := S5' (s' + 3) 4 40 (by simp)
  have z3 : stS h (s' + 5) 8 12 := S5' (s' + 5) 8 12 (by simp)
  have z4 : stS h (s' + 7) 6 8 := S5' (s' + 7) 6 8 (by simp)
  have z5 : stS h (s' + 9) 5 200 := S5' (s' + 9) 5 200 (by simp)
  obtain ⟨g1, e1, c1, t1⟩ := tb_take a1 z1 (by omega)
  have k1 := c1.kk
  have q1 := c1.rr
  obtain ⟨g2, e2, c2, t2⟩ := tb_take (tb_keep c1 (by omega) a2) (tb_str c1 (by omega) z2) (by omega)
  have k2 := c2.kk.trans k1
  have q2 := c2.rr.trans q1
  obtain ⟨g3, e3, c3, t3⟩ := tb_take (tb_keep c2 (by omega) (tb_keep c1 (by omega) a3)) (tb_str c2 (by omega) (tb_str c1 (by omega) z3)) (by omega)
  have k3 := c3.kk.trans k2
  have q3 := c3.rr.trans q2
  obtain ⟨g4, e4, c4, t4⟩ := tb_take (tb_keep c3 (by omega) (tb_keep c2 (by omega) (tb_keep c1 (by omega) a4))) (tb_str c3 (by omega) (tb_str c2 (by omega) (tb_str c1 (by omega) z4))) (by omega)
  have k4 := c4.kk.trans k3
  have q4 := c4.rr.trans q3
  obtain ⟨g5, e5, c5, t5⟩ := tb_take (tb_keep c4 (by omega) (tb_keep c3 (by omega) (tb_keep c2 (by omega) (tb_keep c1 (by omega) a5)))) (tb_str c4 (by omega) (tb_str c3 (by omega) (tb_str c2 (by omega) (tb_str c1 (by omega) z5)))) (by omega)
  have k5 := c5.kk.trans k4
  have q5 := c5.rr.trans q4
  obtain ⟨g6, e6, c6, t6⟩ := cpyI_go (h := g5) (a0 := s + 11) (a := s' + 11) (n := 4) (by rw [k5]; exact S3) (by rw [k5]; exact S3') (by decide)
  have k6 := c6.kk.trans k5
  have q6 := c6.rr.trans q5
  have u1 := tb_keep c5 (by omega) (tb_keep c4 (by omega) (tb_keep c3 (by omega) (tb_keep c2 (by omega) t1)))
  have u2 := tb_keep c5 (by omega) (tb_keep c4 (by omega) (tb_keep c3 (by omega) t2))
  have u3 := tb_keep c5 (by omega) (tb_keep c4 (by omega) t3)
  have u4 := tb_keep c5 (by omega) t4
  have all5 : Mod (inS s') h g5 := ((((tbl_in c1 (by omega) (by omega)).trans (tbl_in c2 (by omega) (by omega))).trans (tbl_in c3 (by omega) (by omega))).trans (tbl_in c4 (by omega) (by omega))).trans (tbl_in c5 (by omega) (by omega))
  have all : Mod (inS s') h g6 := by
    refine all5.trans (Mod.mono c6 (fun r k z => ?_))
    rcases z with z | z
    · have := List.mem_singleton.mp z
      show s' < r ∧ r < s' + 12
      omega
    · exact absurd z List.not_mem_nil
  have noS : ∀ r k, (r = s ∨ r = s + 11 ∨ r = s') → ¬ inS s' r k := fun r k hr z => by
    have z' : s' < r ∧ r < s' + 12 := z
    omega
  have terms : ∀ j, j < 4 → pg_i g6 (s' + 11) j = A (1340 + j) := fun j hj => by
    rw [t6 j hj, (all5.2.2.2.2 _ _ (noS (s + 11) j (by omega))).1]
    exact a6 j hj
  -- the texts
  have loop := loopI (fun f i x => F_X5_takeFrom_75 f s' s (nI i) x) 8 (fun i x => ChR (s' + 12) g6 x ∧ ∀ t, t < i → pg_r x (s' + 12) t = pg_r h (s + 12) t)
    (fun r => ∃ h2 h3, r = some h3 ∧ ChR (s' + 12) g6 h2 ∧ h3 = pg_si (pg_si h2 s' 7 (pg_i g6 s 7)) s' 8 (pg_i g6 s 8) ∧ ∀ t, t < 8 → pg_r h2 (s' + 12) t = pg_r h (s + 12) t) ?_ ?_ 0 g6 (by decide) ⟨⟨rfl, rfl, rfl, rfl, rfl, fun _ _ => rfl⟩, fun t ht => absurd ht (Nat.not_lt_zero t)⟩ pg_fuel (by unfold pg_fuel; omega)
  · obtain ⟨h2, h3, l1, l2, l3, l4⟩ := loop
    have c3' : Ch [] [(s', 7), (s', 8)] h2 h3 := by
      rw [l3]
      exact ((Ch.refl _ _ _).asi (Or.inr (by simp))).asi (Or.inr (by simp))
    have ref : ∀ r, r ≠ s' + 12 → pg_r h3 r = pg_r h r := fun r hr => by
      rw [c3'.rr, l2.2.2.2.2.2 r hr, q6]
    have row3 : ∀ r, r ≠ s' → pg_i h3 r = pg_i g6 r := fun r hr => by
      rw [l3, si_ne hr, si_ne hr, l2.2.2.2.1]
    have tab : ∀ t w m n base, (t, w, m) ∈ [(s' + 1, 3, 12), (s' + 3, 4, 40), (s' + 5, 8, 12), (s' + 7, 6, 8), (s' + 9, 5, 200)] → TR g6 t w m n base A → TR h3 t w m n base A := fun t w m n base hm T => by
      have ht : t ≠ s' ∧ t + 1 ≠ s' ∧ t ≠ s' + 12 := by
        simp only [List.mem_cons, List.mem_nil_iff, or_false, Prod.mk.injEq] at hm
        omega
      obtain ⟨⟨b1, b2, b3, b4, b5, b6, b7⟩, b8⟩ := T
      have kk : pg_k h3 = pg_k g6 := c3'.kk.trans l2.2.2.1
      refine ⟨⟨by rw [kk]; exact b1, by rw [kk]; exact b2, ?_, by rw [row3 t ht.1]; exact b4, by rw [row3 t ht.1]; exact b5, by rw [row3 t ht.1]; exact b6, b7⟩, fun i j hi hj => ?_⟩
      · rw [ref t ht.2.2, ← q6]
        exact b3
      · rw [row3 _ ht.2.1]
        exact b8 i j hi hj
    have six : ∀ t w m n base, t + 1 < s' + 11 → TR g5 t w m n base A → TR g6 t w m n base A := fun t w m n base ht T => by
      refine T.mod c6 ⟨?_, ?_, ?_⟩ (fun k => ?_) <;>
        (intro z; rcases z with z | z
         · have := List.mem_singleton.mp z
           omega
         · exact absurd z List.not_mem_nil)
    refine ⟨g6, h2, h3, ?_, all, l2, c3', fun t ht => by rw [c3'.rr]; exact l4 t ht, tab _ _ _ _ _ (by simp) (six _ _ _ _ _ (by omega) u1), tab _ _ _ _ _ (by simp) (six _ _ _ _ _ (by omega) u2), tab _ _ _ _ _ (by simp) (six _ _ _ _ _ (by omega) u3), tab _ _ _ _ _ (by simp) (six _ _ _ _ _ (by omega) u4), tab _ _ _ _ _ (by simp) (six _ _ _ _ _ (by omega) t5), fun j hj => ?_, ?_, ?_⟩
    · have g13 : pg_len g5 (s' + 11) = some (nI 4) := by
        unfold pg_len
        rw [k5, S3']
        rfl
      unfold F_X5_takeFrom
      rw [gS' h rfl rfl 0 _ r0', Option.bind_some, gS h rfl rfl 0 _ r0, Option.bind_some, rc h rfl _ _ _ (show (s' + 1, 3, 12) ∈ _ by simp), e1, Option.bind_some,
        gS' g1 k1 q1 1 _ r1', Option.bind_some, gS g1 k1 q1 1 _ r1, Option.bind_some, rc g1 k1 _ _ _ (show (s' + 3, 4, 40) ∈ _ by simp), e2, Option.bind_some,
        gS' g2 k2 q2 2 _ r2', Option.bind_some, gS g2 k2 q2 2 _ r2, Option.bind_some, rc g2 k2 _ _ _ (show (s' + 5, 8, 12) ∈ _ by simp), e3, Option.bind_some,
        gS' g3 k3 q3 3 _ r3', Option.bind_some, gS g3 k3 q3 3 _ r3, Option.bind_some, rc g3 k3 _ _ _ (show (s' + 7, 6, 8) ∈ _ by simp), e4, Option.bind_some,
        gS' g4 k4 q4 4 _ r4', Option.bind_some, gS g4 k4 q4 4 _ r4, Option.bind_some, rc g4 k4 _ _ _ (show (s' + 9, 5, 200) ∈ _ by simp), e5, Option.bind_some,
        gS g5 k5 q5 5 _ r5, Option.bind_some, gS' g5 k5 q5 5 _ r5', Option.bind_some, Option.bind_some, g13, Option.bind_some, e6, Option.bind_some]
      exact l1
    · rw [row3 _ (by omega)]
      exact terms j hj
    · rw [l3, si_row, up1_ne (by decide), si_row, up1_eq, (all.2.2.2.2 s 7 (noS s 7 (Or.inl rfl))).1]
      exact a7
    · rw [l3, si_row, up1_eq, (all.2.2.2.2 s 8 (noS s 8 (Or.inl rfl))).1]
      exact a8
  · intro f i x hi ⟨cx, x1⟩
    have kx : pg_k x = pg_k h := cx.2.2.1.trans k6
    have rx : ∀ r, r ≠ s' + 12 → pg_r x r = pg_r h r := fun r hr => by rw [cx.2.2.2.2.2 r hr, q6]
    have o1 : pg_gR 5 6 x s' = some (s' + 12) := by
      unfold pg_gR
      rw [kx, S1', if_pos rfl, rx s' (by omega), r6']
    have o2 : pg_gR 5 6 x s = some (s + 12) := by
      unfold pg_gR
      rw [kx, S1, if_pos rfl, rx s (by omega), r6]
    have o3 : pg_aR 25 x (s + 12) (nI i) = some (pg_r h (s + 12) i) := by
      unfold pg_aR
      rw [kx, S4, if_pos ⟨rfl, nI_in (N := 8) hi (by decide)⟩, nI_clamp (by omega), rx _ (by omega)]
    have o4 : pg_sR 25 9 x (s' + 12) (nI i) (pg_r h (s + 12) i) = some (pg_sr x (s' + 12) i (pg_r h (s + 12) i)) := by
      unfold pg_sR
      rw [kx, S4', if_pos ⟨rfl, nI_in (N := 8) hi (by decide), ok i hi⟩, nI_clamp (by omega)]
    refine ⟨pg_sr x (s' + 12) i (pg_r h (s + 12) i), ?_, ⟨cx.1, cx.2.1, cx.2.2.1, cx.2.2.2.1, cx.2.2.2.2.1, fun r hr => ?_⟩, fun t ht => ?_⟩
    · show F_X5_takeFrom_75 (f + 1) s' s (nI i) x = F_X5_takeFrom_75 f s' s (nI (i + 1)) _
      rw [F_X5_takeFrom_75]
      dsimp only
      rw [if_pos (show nI i < (8 : Int32) from nI_lt (b := 8) hi (by decide)), o1, Option.bind_some, o2, Option.bind_some, o3, Option.bind_some, o4, Option.bind_some, nI_1]
    · rw [sr_ne hr]
      exact cx.2.2.2.2.2 r hr
    · rw [sr_row]
      by_cases e : t = i
      · rw [e, up1_eq]
      · rw [up1_ne e]
        exact x1 t (by omega)
  · intro f x ⟨cx, x1⟩
    have kx : pg_k x = pg_k h := cx.2.2.1.trans k6
    have o1 : ∀ k (g : pg_H), pg_k g = pg_k h → pg_gI 5 k g s = some (pg_i g s k) := fun k g eg => by
      unfold pg_gI
      rw [eg, S1, if_pos rfl]
    have o2 : ∀ k v (g : pg_H), pg_k g = pg_k h → pg_pI 5 k g s' v = some (pg_si g s' k v) := fun k v g eg => by
      unfold pg_pI
      rw [eg, S1', if_pos rfl]
    refine ⟨x, _, ?_, cx, rfl, x1⟩
    show F_X5_takeFrom_75 (f + 1) s' s (nI 8) x = _
    rw [F_X5_takeFrom_75]
    dsimp only
    have ss : s ≠ s' := by omega
    rw [if_neg (show ¬ nI 8 < (8 : Int32) by decide), o1 7 x kx, Option.bind_some, o2 7 _ x kx, Option.bind_some, o1 8 _ (show pg_k (pg_si x s' 7 _) = _ from kx), Option.bind_some, o2 8 _ _ (show pg_k (pg_si x s' 7 _) = _ from kx), Option.bind_some, si_ne ss, cx.2.2.2.1]
