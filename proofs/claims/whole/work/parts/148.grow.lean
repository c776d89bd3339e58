/-! THE REFERENCE'S GROWTH: exemplars fixed one by one -/
def LR (h : pg_H) (n : Nat) (al : Nat → Nat → Bool) : Prop := ∀ c, c < n → pg_i h 95 c = nI (mk 13 (lbit n al c))
theorem LR.lg {h g : pg_H} {n : Nat} {al al' : Nat → Nat → Bool} {cs : Nat → Nat → Nat} (R : LR g n al') (G : LG h n al cs) (e : pg_i g 94 = pg_i h 94) (sub : ∀ f c, f ≤ n → c < n → al' f c = true → al f c = true) : LG g n al' cs :=
  fun c hc => ⟨R c hc, fun f hf q => by
    rw [e]
    exact (G c hc).2 f hf (sub f c hf hc q)⟩
theorem cst_le {A : Nat → Int32} (K : ShOK A) {w : Nat → Nat → Nat} (hw : wOK w) {f c : Nat} (hf : f ≤ 12) (hc : c < 12) : cst A w f c ≤ 400000 := by
  obtain ⟨t0, t1, t2, _⟩ := terms_le K
  have c31 : c < 2 ^ 31 := by omega
  unfold cst
  by_cases z : f = 0
  · rw [if_pos z]
    have := ownS_le K hw c31
    have := Nat.mul_le_mul (show tm A 2 ≤ 9 by omega) this
    omega
  · rw [if_neg z]
    unfold frC
    have f31 : f - 1 < 2 ^ 31 := by omega
    have a1 := addS_le K hw (a := f - 1) (b := f - 1) c31
    have a2 := leaS_le K hw f31 f31 (c := c)
    have := Nat.mul_le_mul (show tm A 0 ≤ 9 by omega) a1
    have := Nat.mul_le_mul (show tm A 1 ≤ 9 by omega) a2
    omega
def setT (T : Nat → Nat) (c f : Nat) : Nat → Nat := fun d => if d = c then f else T d
theorem fixd_set {al : Nat → Nat → Bool} {T : Nat → Nat} {c f : Nat} : ∀ g d, fixd al (setT T c f) (c + 1) g d = if d = c then decide (g = f) else fixd al T c g d := by
  intro g d
  unfold fixd setT
  by_cases e : d = c
  · rw [if_pos (show d < c + 1 by omega), if_pos e, if_pos e]
  · rw [if_neg e, if_neg e]
    by_cases l : d < c
    · rw [if_pos (show d < c + 1 by omega), if_pos l]
    · rw [if_neg (show ¬ d < c + 1 by omega), if_neg l]
theorem isTree_fix {n : Nat} {al : Nat → Nat → Bool} {T T' : Nat → Nat} {c : Nat} (hc : c ≤ n) (h : isTree n al T') (e : ∀ d, d < c → T' d = T d) : isTree n (fixd al T c) T' := by
  refine ⟨fun d hd => ⟨(h.1 d hd).1, ?_⟩, h.2⟩
  unfold fixd
  by_cases l : d < c
  · rw [if_pos l, e d l]
    exact decide_eq_true rfl
  · rw [if_neg l]
    exact (h.1 d hd).2
theorem isTree_of {n : Nat} {al : Nat → Nat → Bool} {T T' : Nat → Nat} {c : Nat} (ok : ∀ d, d < c → al (T d) d = true) (h : isTree n (fixd al T c) T') : isTree n al T' ∧ ∀ d, d < c → d < n → T' d = T d := by
  have key : ∀ d, d < c → d < n → T' d = T d := fun d l hd => by
    have q := (h.1 d hd).2
    unfold fixd at q
    rw [if_pos l] at q
    exact of_decide_eq_true q
  refine ⟨⟨fun d hd => ⟨(h.1 d hd).1, ?_⟩, h.2⟩, key⟩
  have q := (h.1 d hd).2
  by_cases l : d < c
  · rw [key d l hd]
    exact ok d l
  · unfold fixd at q
    rw [if_neg l] at q
    exact q
def grwI (h : pg_H) (n : Nat) (al : Nat → Nat → Bool) (cs : Nat → Nat → Nat) (V : Nat) (T : Nat → Nat) (c : Nat) (x : pg_H) : Prop := Ch [95, 96, 97] [] h x ∧ LR x n (fixd al T c) ∧ (∃ T', isTree n (fixd al T c) T' ∧ tCost n cs T' = V) ∧ (∀ d, d < c → al (T d) d = true ∧ pg_i x 97 d = nI (kE (T d))) ∧ ∀ d, d < c → ∀ T', isTree n al T' → tCost n cs T' = V → (∀ e, e < d → T' e = T e) → T d ≤ T' d
def growAt (h : pg_H) (n : Nat) (al : Nat → Nat → Bool) (cs : Nat → Nat → Nat) (V : Nat) (T : Nat → Nat) (c : Nat) (i : Nat) (a : Int32) (y : pg_H) : Prop :=
  Ch [95, 96, 97] [] h y ∧ (∀ d, d < c → pg_i y 97 d = nI (kE (T d))) ∧ (a = -1 ∧ (∀ d, d < n → d ≠ c → pg_i y 95 d = nI (mk 13 (lbit n (fixd al T c) d))) ∧ (∀ T', isTree n (fixd al T c) T' → tCost n cs T' = V → i ≤ T' c) ∨
    ∃ f, f ≤ n ∧ a = nI (kE f) ∧ LR y n (fixd al (setT T c f) (c + 1)) ∧ al f c = true ∧ (∃ T', isTree n (fixd al (setT T c f) (c + 1)) T' ∧ tCost n cs T' = V) ∧ ∀ T', isTree n (fixd al T c) T' → tCost n cs T' = V → f ≤ T' c)
theorem nI_less : ∀ j, j < 13 → nI (j + 1) - 1 = nI j := by decide +kernel
theorem kE_no (f : Nat) (hf : f ≤ 13) : nI (kE f) ≠ -1 := by
  have : ∀ f, f < 14 → nI (kE f) ≠ -1 := by decide
  exact this f (by omega)
theorem m_growOne {h : pg_H} {A : Nat → Int32} {al : Nat → Nat → Bool} {cs : Nat → Nat → Nat} (L : Lay h) (M : pg_i h 83 = A) (K : ShOK A) (G : LG h (nC A) al cs) (hB : ∀ f c, f ≤ 12 → c < 12 → cs f c ≤ 400000) {V : Nat} (hV : ∀ T', isTree (nC A) al T' → V ≤ tCost (nC A) cs T') (bV : V ≤ 4800000) (eV : pg_i h 81 30 = nI V) {T : Nat → Nat} {c : Nat} (hc : c < nC A) {x : pg_H} (I : grwI h (nC A) al cs V T c x) (k : Nat → Int32 → pg_H → Option pg_H) :
    ∃ f x', F_X12_grows_54 k pg_fuel 81 (nI c) (pg_i x 95 c) (-1) 0 x = k 81 (nI (c + 1)) x' ∧ grwI h (nC A) al cs V (setT T c f) (c + 1) x' := by
  have kC : nC A < 13 := K.1.1.2
  have kE1 : A 1344 = nI (nC A) := K.1.1.1
  obtain ⟨cx, lx, ⟨T0, e1, e2⟩, px, sx⟩ := I
  generalize hn : nC A = n at *
  have c12 : c < 12 := by omega
  have fixc : ∀ g, fixd al T c g c = al g c := fun g => by
    unfold fixd
    rw [if_neg (Nat.lt_irrefl c)]
  have okT : ∀ d, d < c → al (T d) d = true := fun d hd => (px d hd).1
  have eb : pg_i x 95 c = nI (mk 13 (lbit n al c)) := by
    rw [lx c hc]
    refine congrArg nI (mk_cong (fun e _ => ?_))
    unfold lbit
    rw [fixc, fixc]
  rw [eb]
  have fin : ∀ i a y, growAt h n al cs V T c i a y → a ≠ -1 → ∃ f x', F_X12_grows_124 k 81 (nI c) a y = k 81 (nI (c + 1)) x' ∧ grwI h n al cs V (setT T c f) (c + 1) x' := fun i a y ⟨y1, y2, y3⟩ na => by
    rcases y3 with ⟨z, _⟩ | ⟨f, f1, f2, f3, f4, f5, f6⟩
    · exact absurd z na
    · have Ly := y1.lay L (by decide)
      refine ⟨f, pg_si y 97 c a, ?_, y1.asi (Or.inl (by decide)), ?_, f5, fun d hd => ?_, fun d hd T' t1 t2 t3 => ?_⟩
      · unfold F_X12_grows_124
        rw [nR_81_29 Ly.kd Ly.rd, Option.bind_some, ns_97 Ly.kd c12, Option.bind_some, nI_1]
      · unfold LR
        rw [si_ne (by decide)]
        exact f3
      · unfold setT
        rw [si_row]
        by_cases e : d = c
        · rw [if_pos e, e, up1_eq]
          exact ⟨f4, f2⟩
        · rw [if_neg e, up1_ne e]
          exact ⟨okT d (by omega), y2 d (by omega)⟩
      · by_cases e : d = c
        · subst e
          unfold setT at t3 ⊢
          rw [if_pos rfl]
          refine f6 T' (isTree_fix (by omega) t1 (fun e he => ?_)) t2
          have := t3 e he
          rw [if_neg (by omega)] at this
          exact this
        · have : setT T c f d = T d := if_neg e
          rw [this]
          refine sx d (by omega) T' t1 t2 (fun e he => ?_)
          have := t3 e he
          unfold setT at this
          rw [if_neg (by omega)] at this
          exact this
  refine loopE (fun f i (y : Int32 × pg_H) => F_X12_grows_54 k f 81 (nI c) (nI (mk 13 (lbit n al c))) y.1 (nI i) y.2) 13 (fun i y => growAt h n al cs V T c i y.1 y.2) (fun o => ∃ f x', o = k 81 (nI (c + 1)) x' ∧ grwI h n al cs V (setT T c f) (c + 1) x') ?_ ?_ 0 ((-1 : Int32), x) (Nat.zero_le _) ⟨cx, fun d hd => (px d hd).2, Or.inl ⟨rfl, fun d hd _ => lx d hd, fun _ _ _ => Nat.zero_le _⟩⟩ pg_fuel (by unfold pg_fuel; omega)
  · rintro f i ⟨a, y⟩ hi GA
    dsimp only at GA ⊢
    rw [F_X12_grows_54]
    dsimp only
    rw [if_neg (show ¬ (12 : Int32) < nI i from nI_nlt (a := 12) (b := i) (by omega) (by decide))]
    by_cases na : a = -1
    · left
      obtain ⟨y1, y2, y3⟩ := id GA
      rcases y3 with ⟨_, y4, y5⟩ | ⟨f0, f1, f2, _⟩
      · rw [if_pos na]
        have Ly := y1.lay L (by decide)
        have f118 : ∀ b z, F_X12_grows_118 (F_X12_grows_54 k f) 81 (nI c) (nI (mk 13 (lbit n al c))) b (nI i) z = F_X12_grows_54 k f 81 (nI c) (nI (mk 13 (lbit n al c))) b (nI (i + 1)) z := fun b z => by
          unfold F_X12_grows_118
          rw [nI_1]
        have ent : (if nI i = 0 then F_X12_grows_80 (F_X12_grows_54 k f) 81 (nI c) (nI (mk 13 (lbit n al c))) a (nI i) (12 : Int32) y else F_X12_grows_80 (F_X12_grows_54 k f) 81 (nI c) (nI (mk 13 (lbit n al c))) a (nI i) (nI i - (1 : Int32)) y) = F_X12_grows_80 (F_X12_grows_54 k f) 81 (nI c) (nI (mk 13 (lbit n al c))) a (nI i) (nI (kE i)) y := by
          unfold kE
          by_cases z : i = 0
          · subst z
            rfl
          · rw [if_neg (show ¬ nI i = (0 : Int32) from fun q => z ((nI_eq (b := 0) (by omega) (by decide)).mp q)), if_neg z]
            obtain ⟨j, rfl⟩ : ∃ j, i = j + 1 := ⟨i - 1, by omega⟩
            rw [nI_less j (by omega)]
            rfl
        rw [ent]
        have ki : kE i < 13 := by
          unfold kE
          split <;> omega
        unfold F_X12_grows_80
        rw [bit13 _ ki, if_bb]
        have lb : lbit n al c (kE i) = (decide (i ≤ n) && al i c) := by
          unfold lbit kE
          by_cases z : i = 0
          · rw [if_pos z, if_pos rfl, z, decide_eq_true (Nat.zero_le n), Bool.true_and]
          · rw [if_neg z, if_neg (by omega), show i - 1 + 1 = i by omega, show decide (i - 1 < n) = decide (i ≤ n) from decide_eq_decide.mpr (by omega)]
        rw [lb]
        cases q : (decide (i ≤ n) && al i c) with
        | false =>
          rw [if_neg (by decide)]
          refine ⟨(a, y), f118 a y, y1, y2, Or.inl ⟨na, y4, fun T' t1 t2 => ?_⟩⟩
          have le := y5 T' t1 t2
          by_cases e : T' c = i
          · have z1 := t1.1 c hc
            rw [e, fixc] at z1
            rw [decide_eq_true z1.1, z1.2] at q
            cases q
          · omega
        | true =>
          rw [Bool.and_eq_true] at q
          have ile := of_decide_eq_true q.1
          rw [if_pos rfl, nR_81_27 Ly.kd Ly.rd, Option.bind_some, ix_shl _ (show kE i < 32 by omega), ns_95 Ly.kd c12, Option.bind_some]
          have s1 : Ch [95, 96, 97] [] y (pg_si y 95 c (nI (2 ^ kE i))) := (Ch.refl _ _ _).asi (Or.inl (by decide))
          have L1 := s1.lay Ly (by decide)
          have ch1 := y1.trans s1
          have M1 : pg_i (pg_si y 95 c (nI (2 ^ kE i))) 83 = A := (ch1.row (by decide)).trans M
          have R1 : LR (pg_si y 95 c (nI (2 ^ kE i))) n (fixd al (setT T c i) (c + 1)) := fun d hd => by
            rw [si_row]
            by_cases e : d = c
            · rw [e, up1_eq, mk_pow ki]
              refine congrArg nI (mk_cong (fun e' he' => ?_))
              unfold lbit
              rw [fixd_set, fixd_set, if_pos rfl, if_pos rfl]
              unfold kE
              by_cases z : e' = 12
              · rw [if_pos z]
                refine decide_eq_decide.mpr ?_
                split <;> omega
              · rw [if_neg z]
                by_cases l : e' < n
                · rw [decide_eq_true l, Bool.true_and]
                  refine decide_eq_decide.mpr ?_
                  split <;> omega
                · rw [decide_eq_false l, Bool.false_and]
                  refine decide_eq_false ?_
                  split <;> omega
            · rw [up1_ne e, y4 d hd e]
              refine congrArg nI (mk_cong (fun e' _ => ?_))
              unfold lbit
              rw [fixd_set, fixd_set, if_neg e, if_neg e]
          have ok1 : ∀ d, d < c + 1 → al (setT T c i d) d = true := fun d hd => by
            unfold setT
            by_cases e : d = c
            · rw [if_pos e, e]
              exact q.2
            · rw [if_neg e]
              exact okT d (by omega)
          have G1 := R1.lg G (ch1.row (by decide)) (fun f d hf hd z => by
            unfold fixd at z
            by_cases l : d < c + 1
            · rw [if_pos l] at z
              rw [of_decide_eq_true z]
              exact ok1 d l
            · rw [if_neg l] at z
              exact z)
          obtain ⟨m, g, g1, g2, g3, g4⟩ := m_cheapest L1 M1 K (by rw [hn]; exact G1) hB
          rw [hn] at g3
          have Lg := g2.lay L1 (by decide)
          have chg := ch1.trans (g2.mono (S' := [95, 96, 97]) (T' := []) (by decide))
          have f30 : pg_i g 81 30 = nI V := by rw [chg.atM (R := []) (F := [(81, 30)]) (by decide) (by decide)]; exact eV
          have tt : ∀ T', TreeOn (upTo n) (fixd al (setT T c i) (c + 1)) T' ↔ isTree n (fixd al (setT T c i) (c + 1)) T' := fun T' => treeOn_iff (by omega)
          have oo : ∀ T', onC (upTo n) cs T' = tCost n cs T' := fun T' => onC_upTo (by omega)
          have real : m ≠ 1000000000 → ∃ T', isTree n (fixd al (setT T c i) (c + 1)) T' ∧ tCost n cs T' = m := fun z => by
            obtain ⟨T', t1, t2⟩ := g3.2 m (if_neg z)
            exact ⟨T', (tt T').mp t1, by rw [← oo]; exact t2⟩
          rw [nc_81 L1.kd, g1, Option.bind_some, ng_81 Lg.kd, f30, Option.bind_some]
          have row97 : ∀ d, d < c → pg_i g 97 d = nI (kE (T d)) := fun d hd => by
            rw [g2.row (by decide), si_ne (by decide)]
            exact y2 d hd
          by_cases e : m = V
          · rw [if_pos (show nI m = nI V by rw [e])]
            refine ⟨(nI (kE i), g), f118 _ g, chg, row97, Or.inr ⟨i, ile, rfl, ?_, q.2, ?_, fun T' t1 t2 => y5 T' t1 t2⟩⟩
            · unfold LR
              rw [g2.row (by decide)]
              exact R1
            · obtain ⟨T', t1, t2⟩ := real (by omega)
              exact ⟨T', t1, by omega⟩
          · rw [if_neg (show ¬ nI m = nI V from fun z => e ((nI_eq (by omega) (by omega)).mp z))]
            refine ⟨(a, g), f118 a g, chg, row97, Or.inl ⟨na, fun d hd ne => ?_, fun T' t1 t2 => ?_⟩⟩
            · rw [g2.row (by decide), si_row, up1_ne ne]
              exact y4 d hd ne
            · have le := y5 T' t1 t2
              by_cases z : T' c = i
              · exfalso
                obtain ⟨u1, u2⟩ := isTree_of okT t1
                have tr : isTree n (fixd al (setT T c i) (c + 1)) T' := isTree_fix (by omega) u1 (fun d hd => by
                  unfold setT
                  by_cases e : d = c
                  · rw [if_pos e, e]
                    exact z
                  · rw [if_neg e]
                    exact u2 d (by omega) (by omega))
                obtain ⟨v, v1, v2⟩ := g3.1 T' ((tt T').mpr tr)
                rw [oo, t2] at v2
                unfold decN at v1
                split at v1
                · cases v1
                · rename_i ne
                  injection v1 with v1
                  obtain ⟨T2, w1, w2⟩ := real ne
                  have := hV T2 (isTree_of ok1 w1).1
                  omega
              · omega
      · rw [na] at f2
        exact absurd f2.symm (kE_no f0 (by omega))
    · right
      rw [if_neg na]
      exact fin i a y GA na
  · rintro f ⟨a, y⟩ GA
    dsimp only at GA ⊢
    rw [F_X12_grows_54]
    dsimp only
    rw [if_pos (show (12 : Int32) < nI 13 by decide)]
    refine fin 13 a y GA (fun na => ?_)
    obtain ⟨_, _, y3⟩ := GA
    rcases y3 with ⟨_, _, y5⟩ | ⟨f0, f1, f2, _⟩
    · have := y5 T0 e1 e2
      have := (e1.1 c hc).1
      omega
    · rw [na] at f2
      exact absurd f2.symm (kE_no f0 (by omega))
theorem m_growAll {h : pg_H} {A : Nat → Int32} {al : Nat → Nat → Bool} {cs : Nat → Nat → Nat} (L : Lay h) (M : pg_i h 83 = A) (K : ShOK A) (G : LG h (nC A) al cs) (hB : ∀ f c, f ≤ 12 → c < 12 → cs f c ≤ 400000) {V : Nat} (hV : ∀ T', isTree (nC A) al T' → V ≤ tCost (nC A) cs T') (ex : ∃ T', isTree (nC A) al T' ∧ tCost (nC A) cs T' = V) (bV : V ≤ 4800000) (eV : pg_i h 81 30 = nI V) :
    ∃ T h', F_X12_grows_34 pg_fuel 81 0 h = some h' ∧ Ch [95, 96, 97] [] h h' ∧ isFirst (nC A) al cs T ∧ tCost (nC A) cs T = V ∧ ∀ c, c < nC A → pg_i h' 97 c = nI (kE (T c)) := by
  have kC : nC A < 13 := K.1.1.2
  have kE1 : A 1344 = nI (nC A) := K.1.1.1
  refine loopI (fun f c x => F_X12_grows_34 f 81 (nI c) x) (nC A) (fun c x => ∃ T, grwI h (nC A) al cs V T c x) (fun o => ∃ T h', o = some h' ∧ Ch [95, 96, 97] [] h h' ∧ isFirst (nC A) al cs T ∧ tCost (nC A) cs T = V ∧ ∀ c, c < nC A → pg_i h' 97 c = nI (kE (T c))) ?_ ?_ 0 h (Nat.zero_le _) ⟨fun _ => 0, Ch.refl _ _ _, fun c hc => (G c hc).1, ex, fun d hd => absurd hd (Nat.not_lt_zero d), fun d hd => absurd hd (Nat.not_lt_zero d)⟩ pg_fuel (by unfold pg_fuel; omega)
  · intro f c x hc ⟨T, I⟩
    have Lx := I.1.lay L (by decide)
    have Mx : pg_i x 83 = A := (I.1.row (by decide)).trans M
    have c12 : c < 12 := by omega
    obtain ⟨g, x', e, I'⟩ := m_growOne L M K G hB hV bV eV hc I (F_X12_grows_34 f)
    refine ⟨x', ?_, setT T c g, I'⟩
    show F_X12_grows_34 (f + 1) 81 (nI c) x = _
    rw [F_X12_grows_34]
    dsimp only
    rw [nc_81 Lx.kd, m_copiesA Lx Mx, kE1, Option.bind_some, if_pos (nI_lt hc (by omega)), nR_81_27 Lx.kd Lx.rd, Option.bind_some, na_95 Lx.kd c12, Option.bind_some]
    exact e
  · intro f x ⟨T, cx, _, ex, px, sx⟩
    have Lx := cx.lay L (by decide)
    have Mx : pg_i x 83 = A := (cx.row (by decide)).trans M
    obtain ⟨z1, z2⟩ := greedy hV ex (fun c hc => (px c hc).1) sx
    refine ⟨T, x, ?_, cx, z1, z2, fun c hc => (px c hc).2⟩
    show F_X12_grows_34 (f + 1) 81 (nI (nC A)) x = _
    rw [F_X12_grows_34]
    dsimp only
    rw [nc_81 Lx.kd, m_copiesA Lx Mx, kE1, Option.bind_some, if_neg Int32.lt_irrefl]
theorem alone_tree {n : Nat} {al : Nat → Nat → Bool} (h : ∀ c, al 0 c = true) : isTree n al (fun _ => 0) :=
  ⟨fun c _ => ⟨Nat.zero_le _, h c⟩, fun _ => 0, fun _ _ z => absurd rfl z⟩
theorem alw_0 (A : Nat → Int32) (c : Nat) : alw A 0 c = true := by
  unfold alw
  rw [decide_eq_true rfl]
  rfl
theorem m_least {h : pg_H} {A : Nat → Int32} {cs : Nat → Nat → Nat} {al : Nat → Nat → Bool} (L : Lay h) (M : pg_i h 83 = A) (K : ShOK A) (G : LG h (nC A) al cs) (hB : ∀ f c, f ≤ 12 → c < 12 → cs f c ≤ 400000) (a0 : ∀ c, al 0 c = true) :
    ∃ V h', F_X12_cheapest 81 h = some (nI V, h') ∧ Ch [96] [] h h' ∧ V ≤ 4800000 ∧ (∀ T', isTree (nC A) al T' → V ≤ tCost (nC A) cs T') ∧ ∃ T', isTree (nC A) al T' ∧ tCost (nC A) cs T' = V := by
  have kC : nC A < 13 := K.1.1.2
  obtain ⟨V, b, b1, b2, b3, b4⟩ := m_cheapest L M K G hB
  have tt : ∀ T', TreeOn (upTo (nC A)) al T' ↔ isTree (nC A) al T' := fun T' => treeOn_iff (by omega)
  have oo : ∀ T', onC (upTo (nC A)) cs T' = tCost (nC A) cs T' := fun T' => onC_upTo (by omega)
  have nV : V ≠ 1000000000 := fun z => by
    obtain ⟨v, v1, _⟩ := b3.1 _ ((tt _).mpr (alone_tree a0))
    unfold decN at v1
    rw [if_pos z] at v1
    cases v1
  refine ⟨V, b, b1, b2, MinOn_le hB b3 nV, fun T' t => ?_, ?_⟩
  · obtain ⟨v, v1, v2⟩ := b3.1 _ ((tt _).mpr t)
    unfold decN at v1
    rw [if_neg nV] at v1
    injection v1 with v1
    rw [← oo]
    omega
  · obtain ⟨T', t1, t2⟩ := b3.2 V (if_neg nV)
    exact ⟨T', (tt T').mp t1, by rw [← oo]; exact t2⟩
theorem m_grows {h : pg_H} {A : Nat → Int32} {X : Nat → tX} (L : Lay h) (M : pg_i h 83 = A) {s : Nat} {g : pg_H} (S : ShX g s A X) (GO : GrowOK h A (wg A (uX A X))) {v : Nat} (ev : pg_i h 81 1 = nI v) (hv : v ≤ 1000) :
    ∃ h', F_X12_grows 81 h = some h' ∧ Ch [92, 93, 94, 95, 96, 97] (mT ++ [(81, 30), (81, 31)]) h h' ∧ Grw h' A (wg A (uX A X)) ∧ GrowOK h' A (wg A (uX A X)) := by
  have K := S.2.1
  have kC : nC A < 13 := K.1.1.2
  have hB : ∀ f c, f ≤ 12 → c < 12 → cst A (wg A (uX A X)) f c ≤ 400000 := fun f c hf hc => cst_le K (fun p v => wg_le S p v) hf hc
  unfold F_X12_grows
  rw [ng_81 L.kd, Option.bind_some, ng_81 L.kd, ev, Option.bind_some]
  by_cases e : pg_i h 81 31 = nI v
  · rw [if_pos e]
    refine ⟨h, rfl, Ch.refl _ _ _, ?_, GO⟩
    rcases GO with z | ⟨g, v', z1, z2, z3, z4, z5⟩
    · rw [e] at z
      exact absurd z (fun q => by
        have := congrArg Int32.toInt q
        rw [nI_toInt (by omega)] at this
        exact absurd this (by
          show ¬ (v : Int) = -1
          omega))
    · have v1 : v' = v := (nI_eq (by omega) (by omega)).mp (z2.symm.trans ev)
      have g1 : g = v := (nI_eq (by omega) (by omega)).mp (z1.symm.trans e)
      exact z5 (by omega)
  · rw [if_neg e, Option.bind_some, np_81 L.kd, Option.bind_some]
    have s0 : Ch [] [(81, 31)] h (pg_si h 81 31 (nI v)) := (Ch.refl _ _ _).asi (Or.inr (by decide))
    have L0 := s0.lay L (by decide)
    obtain ⟨a, a1, a2, a3, a4⟩ := m_laysCosts L0 ((s0.row (by decide)).trans M) S
    have La := a2.lay L0 (by decide)
    have Ma : pg_i a 83 = A := (a2.row (by decide)).trans ((s0.row (by decide)).trans M)
    obtain ⟨V, b, b1, b2, b3, b4, b5⟩ := m_least La Ma K a4 hB (alw_0 A)
    have Lb := b2.lay La (by decide)
    have s1 : Ch [96] [(81, 30)] b (pg_si b 81 30 (nI V)) := (Ch.refl _ _ _).asi (Or.inr (by decide))
    have L1 := s1.lay Lb (by decide)
    have M1 : pg_i (pg_si b 81 30 (nI V)) 83 = A := (s1.row (by decide)).trans ((b2.row (by decide)).trans Ma)
    have G1 : LG (pg_si b 81 30 (nI V)) (nC A) (alw A) (cst A (wg A (uX A X))) := (a4.to b2 (by decide) (by decide)).to s1 (by decide) (by decide)
    obtain ⟨T, c, c1, c2, c3, c4, c5⟩ := m_growAll L1 M1 K G1 hB b4 b5 b3 (by rw [si_row, up1_eq])
    have all : Ch [92, 93, 94, 95, 96, 97] (mT ++ [(81, 30), (81, 31)]) h c := (((s0.mono (by decide)).trans (a2.mono (by decide))).trans (b2.mono (by decide))).trans ((s1.mono (by decide)).trans (c2.mono (by decide)))
    have gr : Grw c A (wg A (uX A X)) := by
      refine ⟨T, c3, fun d hd => ?_, ?_⟩
      · rw [c5 d hd]
        unfold kE
        split <;> rfl
      · rw [c4, c2.atM (R := []) (F := [(81, 30)]) (by decide) (by decide), si_row, up1_eq]
    refine ⟨c, ?_, all, gr, Or.inr ⟨v, v, ?_, ?_, Nat.le_refl _, hv, fun _ => gr⟩⟩
    · rw [nc_81 L0.kd, a1, Option.bind_some, nc_81 La.kd, b1, Option.bind_some, np_81 Lb.kd, Option.bind_some]
      exact c1
    · rw [c2.atM (R := []) (F := [(81, 31)]) (by decide) (by decide), s1.atM (R := []) (F := [(81, 31)]) (by decide) (by decide), b2.atM (R := []) (F := [(81, 31)]) (by decide) (by decide), a2.atM (R := []) (F := [(81, 31)]) (by decide) (by decide), si_row, up1_eq]
    · rw [all.atM (R := []) (F := [(81, 1)]) (by decide) (by decide)]
      exact ev
