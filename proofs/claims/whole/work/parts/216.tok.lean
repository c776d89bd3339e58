/-! TEXTS: the tokens of the tape, for both sides -/
def tP (b : Nat → Nat) (n : Nat) : Nat → Nat
  | 0 => farN b n Sp_ 0
  | k + 1 => farN b n Sp_ (fin_ b n (tP b n k))
def sP (b : Nat → Nat) (n : Nat) : Nat → Nat
  | 0 => 0
  | k + 1 => fin_ b n (tP b n k)
def mkK (b : Nat → Nat) (n m : Nat) : Tk := (m, tP b n, fun k => fin_ b n (tP b n k), fun k => cdT b n (tP b n k), fun k => rcT b n (tP b n k), fun k => cvT b n (tP b n k), fun k => rvT b n (tP b n k))
section TOK
variable {n : Nat} {b : Nat → Nat}
theorem tP_s (k : Nat) : tP b n k = farN b n Sp_ (sP b n k) := by cases k <;> rfl
theorem sP_le (k : Nat) : sP b n k ≤ n ∧ tP b n k ≤ n := by
  induction k with
  | zero => exact ⟨Nat.zero_le _, (farN_le b n Sp_ _ 0 rfl (Nat.zero_le _)).2.1⟩
  | succ k ih =>
    have f := fin_le (b := b) ih.2
    refine ⟨f.2, ?_⟩
    rw [tP_s]
    exact (farN_le b n Sp_ _ _ rfl f.2).2.1
theorem tP_no (k : Nat) (h : tP b n k < n) : b (tP b n k) ≠ 32 := by
  have z := (farN_le b n Sp_ _ _ rfl (sP_le (b := b) (n := n) k).1).2.2.1
  rw [← tP_s] at z
  have w := z h
  exact of_decide_eq_false w
theorem tP_up (k : Nat) (h : tP b n k < n) : fin_ b n (tP b n k) ≤ tP b n (k + 1) := by
  have f := fin_lt (b := b) h
  exact (farN_le b n Sp_ _ _ rfl f.2).1
theorem tP_end (d : Nat) : ∀ k, n - tP b n k ≤ d → k ≤ tP b n k → (∀ j, j < k → tP b n j < n) → ∃ m, m ≤ n ∧ tP b n m = n ∧ ∀ j, j < m → tP b n j < n := by
  induction d with
  | zero =>
    intro k h1 h2 h3
    have := (sP_le (b := b) (n := n) k).2
    exact ⟨k, by omega, by omega, h3⟩
  | succ d ih =>
    intro k h1 h2 h3
    have l := (sP_le (b := b) (n := n) k).2
    by_cases c : tP b n k < n
    · have u := tP_up k c
      have f := fin_lt (b := b) c
      refine ih (k + 1) (by omega) (by omega) (fun j hj => ?_)
      by_cases e : j = k
      · rw [e]; exact c
      · exact h3 j (by omega)
    · exact ⟨k, by omega, by omega, h3⟩
theorem m_run (hn : n ≤ 400) (hb : ∀ k, k < n → b k < 256) {m : Nat} (hm : m ≤ n) (em : tP b n m = n) (lm : ∀ j, j < m → tP b n j < n) (d : Nat) : ∀ t N y, t + d = m → n < N + sP b n t → Lay y → TapeM y n b → pg_i y 81 15 = nI t →
    (∀ k, k < t → pg_i y 89 k = nI (rcT b n (tP b n k)) ∧ pg_i y 91 k = nI (tP b n k) ∧ pg_i y 90 k = nI (rvT b n (tP b n k))) →
    ∃ y', F_X12_splits_7 N 81 (nI n) (nI (sP b n t)) y = some y' ∧ Ch [89, 90, 91] [(81, 15)] y y' ∧ pg_i y' 81 15 = nI m ∧ ∀ k, k ≤ m → pg_i y' 89 k = nI (rcT b n (tP b n k)) ∧ pg_i y' 91 k = nI (tP b n k) ∧ pg_i y' 90 k = nI (rvT b n (tP b n k)) := by
  induction d with
  | zero =>
    intro t N y ht hN L hT h15 H
    obtain rfl : t = m := by omega
    have sl := (sP_le (b := b) (n := n) t).1
    obtain ⟨N', e1, _⟩ := m_space hn hb L hT _ (sP b n t) N rfl sl (by omega)
    rw [e1, ← tP_s, em, F_X12_splits_7]
    dsimp only [pg_let]
    have c1 : Ch [89, 90, 91] [(81, 15)] y (pg_si y 91 t (nI n)) := (Ch.refl _ _ _).asi (Or.inl (by decide))
    have c2 : Ch [89, 90, 91] [(81, 15)] y (pg_si (pg_si y 91 t (nI n)) 89 t 0) := c1.asi (Or.inl (by decide))
    have c3 : Ch [89, 90, 91] [(81, 15)] y (pg_si (pg_si (pg_si y 91 t (nI n)) 89 t 0) 90 t 0) := c2.asi (Or.inl (by decide))
    have L1 := c1.lay L (by decide)
    have L2 := c2.lay L (by decide)
    have a1 : pg_i (pg_si y 91 t (nI n)) 81 15 = nI t := by rw [si_ne (by decide)]; exact h15
    have a2 : pg_i (pg_si (pg_si y 91 t (nI n)) 89 t 0) 81 15 = nI t := by rw [si_ne (by decide)]; exact a1
    rw [if_neg Int32.lt_irrefl, nR_81_14 L.kd L.rd, Option.bind_some, ng_81 L.kd, h15, Option.bind_some, ns_91 L.kd (by omega), Option.bind_some, nR_81_12 L1.kd L1.rd, Option.bind_some, ng_81 L1.kd, a1, Option.bind_some, ns_89 L1.kd (by omega), Option.bind_some, nR_81_13 L2.kd L2.rd, Option.bind_some, ng_81 L2.kd, a2, Option.bind_some, ns_90 L2.kd (by omega), Option.bind_some]
    refine ⟨_, rfl, c3, by rw [si_ne (by decide)]; exact a2, fun k hk => ?_⟩
    have f89 : pg_i (pg_si (pg_si (pg_si y 91 t (nI n)) 89 t 0) 90 t 0) 89 = up1 (pg_i y 89) t 0 := by rw [si_ne (by decide), si_row, si_ne (by decide)]
    have f91 : pg_i (pg_si (pg_si (pg_si y 91 t (nI n)) 89 t 0) 90 t 0) 91 = up1 (pg_i y 91) t (nI n) := by rw [si_ne (by decide), si_ne (by decide), si_row]
    have f90 : pg_i (pg_si (pg_si (pg_si y 91 t (nI n)) 89 t 0) 90 t 0) 90 = up1 (pg_i y 90) t 0 := by rw [si_row, si_ne (by decide), si_ne (by decide)]
    rw [f89, f91, f90]
    by_cases c : k = t
    · subst c
      rw [up1_eq, up1_eq, up1_eq, em]
      unfold rcT rvT
      rw [if_neg (Nat.lt_irrefl _), if_neg (fun z => Nat.lt_irrefl _ z.1)]
      exact ⟨rfl, rfl, rfl⟩
    · rw [up1_ne c, up1_ne c, up1_ne c]
      exact H k (by omega)
  | succ d ih =>
    intro t N y ht hN L hT h15 H
    have sl := (sP_le (b := b) (n := n) t).1
    have tl := lm t (by omega)
    obtain ⟨N', e1, hN'⟩ := m_space hn hb L hT _ (sP b n t) N rfl sl (by omega)
    rw [← tP_s] at e1 hN'
    rw [e1]
    have fl := fin_lt (b := b) tl
    obtain ⟨y1, e2, c1, z15, z89, z91, z90, z90'⟩ := m_token hn hb N' tl (tP_no t tl) (t := t) (by omega) L hT h15
    rw [e2]
    obtain ⟨y2, e3, c2, w⟩ := ih (t + 1) N' y1 (by omega) (by show n < N' + fin_ b n (tP b n t); omega) (c1.lay L (by decide)) (hT.ch c1 (by decide)) z15 (fun k hk => by
      by_cases c : k = t
      · subst c
        rw [z89, z91, up1_eq, up1_eq]
        exact ⟨rfl, rfl, z90⟩
      · rw [z89, z91, up1_ne c, up1_ne c, z90' k c]
        exact H k (by omega))
    exact ⟨y2, e3, c1.trans c2, w⟩
theorem k_step (hn : n ≤ 400) (hb : ∀ k, k < n → b k < 256) {m : Nat} {x : pg_H} {i l a : Nat} (L : Lay x) (hT : TapeAt x n b) (h4 : pg_i x 45 4 = nI (sP b n i)) (h7 : pg_i x 45 7 = nI l) (h2 : pg_i x 45 2 = nI a) (h8 : pg_i x 45 8 = -1) :
    ∃ x', F_X3_advance 45 x = some x' ∧ CP (mkK b n m) n b x' i l a ∧ Ch [] [(45, 3), (45, 4), (45, 5), (45, 6)] x x' := by
  obtain ⟨x', e, c, f3, f4, f5, f6⟩ := c_advance hn hb L hT (sP_le i).1 h4
  rw [← tP_s] at f3 f4 f5 f6
  refine ⟨x', e, ⟨c.lay L (by decide), hT.ch c (by decide), f5, f3, f4, ?_, ?_, ?_, f6⟩, c⟩
  · rw [c.atM (R := []) (F := [(45, 7)]) (by decide) (by decide)]; exact h7
  · rw [c.atM (R := []) (F := [(45, 2)]) (by decide) (by decide)]; exact h2
  · rw [c.atM (R := []) (F := [(45, 8)]) (by decide) (by decide)]; exact h8
theorem k_ok (hn : n ≤ 400) (hb : ∀ k, k < n → b k < 256) {m : Nat} (hm : m ≤ n) (em : tP b n m = n) (lm : ∀ j, j < m → tP b n j < n) : TkOK (mkK b n m) n b := by
  refine ⟨by show m ≤ 400; omega, hn, fun k hk => ?_, fun k hk => ?_, fun k hk h10 => ?_, fun k hk h21 => ?_, fun x i l a hi h => ?_⟩
  · refine ⟨?_, ?_, ?_⟩
    · have := (sP_le (b := b) (n := n) k).2
      show tP b n k ≤ 400
      omega
    · show codeR (cdT b n (tP b n k)) (rcT b n (tP b n k))
      unfold cdT rcT codeR wR
      by_cases c : tP b n k < n
      · have b1 := hb _ c
        rw [if_pos c, if_pos c]
        have w := (wF_ok b (tP b n k) (fin_ b n (tP b n k)) 20 0).1
        by_cases c1 : Lt_ (b (tP b n k)) = true
        · rw [if_pos c1, if_pos c1]
          by_cases c2 : wF b (tP b n k) (fin_ b n (tP b n k)) 20 0 = 20
          · rw [if_pos c2]
            omega
          · rw [if_neg c2]
            omega
        · rw [if_neg c1, if_neg c1]
          by_cases c2 : Dg_ (b (tP b n k)) = true
          · rw [if_pos c2, if_pos c2]
            omega
          · rw [if_neg c2, if_neg c2]
            omega
      · rw [if_neg c, if_neg c]
        omega
    · show cdT b n (tP b n k) = 22 ↔ k = m
      unfold cdT
      by_cases c : k = m
      · rw [c, em, if_neg (Nat.lt_irrefl _)]
        exact ⟨fun _ => rfl, fun _ => rfl⟩
      · have l := lm k (by have : k ≤ m := hk; omega)
        have w := (wF_ok b (tP b n k) (fin_ b n (tP b n k)) 20 0).1
        rw [if_pos l]
        refine ⟨fun z => ?_, fun z => absurd z c⟩
        by_cases c1 : Lt_ (b (tP b n k)) = true
        · rw [if_pos c1] at z
          omega
        · rw [if_neg c1] at z
          by_cases c2 : Dg_ (b (tP b n k)) = true
          · rw [if_pos c2] at z
            omega
          · rw [if_neg c2] at z
            omega
  · have l := lm k hk
    have u := tP_up k l
    have f := fin_lt (b := b) l
    show tP b n k < tP b n (k + 1)
    omega
  · have l := lm k hk
    have u := tP_up k l
    show tP b n k + 3 ≤ tP b n (k + 1)
    have z : cdT b n (tP b n k) = 10 := h10
    unfold cdT at z
    rw [if_pos l] at z
    by_cases c1 : Lt_ (b (tP b n k)) = true
    · rw [if_pos c1] at z
      have w := (wF_ok b (tP b n k) (fin_ b n (tP b n k)) 20 0).2 (by omega)
      rw [z] at w
      unfold wMt at w
      rw [Bool.and_eq_true] at w
      have e := of_decide_eq_true w.1
      have e3 : wLen 10 = 3 := rfl
      omega
    · rw [if_neg c1] at z
      by_cases c2 : Dg_ (b (tP b n k)) = true
      · rw [if_pos c2] at z
        omega
      · rw [if_neg c2] at z
        omega
  · have z : cdT b n (tP b n k) = 21 := h21
    unfold cdT at z
    have V : VR (cvT b n (tP b n k)) (rvT b n (tP b n k)) := by
      by_cases l : tP b n k < n
      · rw [if_pos l] at z
        have w := (wF_ok b (tP b n k) (fin_ b n (tP b n k)) 20 0).1
        by_cases c1 : Lt_ (b (tP b n k)) = true
        · rw [if_pos c1] at z
          omega
        · rw [if_neg c1] at z
          by_cases c2 : Dg_ (b (tP b n k)) = true
          · have fr := farN_le b n Dg_ _ (tP b n k) rfl (by omega)
            rw [← fin_D l c2] at fr
            unfold cvT rvT
            rw [if_pos ⟨l, c2⟩]
            refine VR_run b _ _ 0 0 ?_ (fun k' k1 k2 => fr.2.2.2 k' k1 (by omega))
            unfold VR
            omega
          · rw [if_neg c2] at z
            omega
      · rw [if_neg l] at z
        omega
    unfold VR at V
    show ((cvT b n (tP b n k) ≤ 1000 ↔ rvT b n (tP b n k) ≤ 1000) ∧ (cvT b n (tP b n k) ≤ 1000 → cvT b n (tP b n k) = rvT b n (tP b n k))) ∧ cvT b n (tP b n k) ≤ 1001 ∧ rvT b n (tP b n k) < 100000000
    exact ⟨⟨V.1, V.2.1⟩, V.2.2⟩
  · obtain ⟨L, hT, h5, h3, h4, h7, h2, h8, h6⟩ := h
    exact k_step hn hb (i := i + 1) L hT h4 h7 h2 h8
theorem tokens (hn : n ≤ 400) (hb : ∀ k, k < n → b k < 256) : ∃ K : Tk, TkOK K n b ∧
    (∀ x, Lay x → TapeAt x n b → pg_i x 45 4 = 0 → pg_i x 45 7 = 0 → pg_i x 45 2 = 0 → pg_i x 45 8 = -1 → ∃ x', F_X3_advance 45 x = some x' ∧ CP K n b x' 0 0 0 ∧ Ch [] [(45, 3), (45, 4), (45, 5), (45, 6)] x x') ∧
    ∀ y, Lay y → TapeM y n b → ∃ y', F_X12_splits 81 (nI n) y = some y' ∧ Ch [89, 90, 91] [(81, 15)] y y' ∧ pg_i y' 81 15 = nI (tm_ K) ∧ ∀ k, k ≤ tm_ K → pg_i y' 89 k = nI (trc K k) ∧ pg_i y' 91 k = nI (tpos K k) ∧ pg_i y' 90 k = nI (trv K k) := by
  obtain ⟨m, hm, em, lm⟩ := tP_end (b := b) (n := n) n 0 (by omega) (Nat.zero_le _) (fun j hj => absurd hj (Nat.not_lt_zero j))
  refine ⟨mkK b n m, k_ok hn hb hm em lm, fun x L hT h4 h7 h2 h8 => k_step hn hb (i := 0) L hT h4 h7 h2 h8, fun y L hT => ?_⟩
  have c1 : Ch [89, 90, 91] [(81, 15)] y (pg_si y 81 15 0) := (Ch.refl _ _ _).asi (Or.inr (by decide))
  obtain ⟨y', e, c2, w⟩ := m_run hn hb hm em lm m 0 pg_fuel (pg_si y 81 15 0) (by omega) (by unfold pg_fuel; omega) (c1.lay L (by decide)) (hT.ch c1 (by decide)) (by rw [si_row, up1_eq]; rfl) (fun k hk => absurd hk (Nat.not_lt_zero k))
  refine ⟨y', ?_, c1.trans c2, w⟩
  unfold F_X12_splits
  rw [np_81 L.kd, Option.bind_some]
  exact e
end TOK
