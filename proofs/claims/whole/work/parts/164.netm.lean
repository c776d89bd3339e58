/-! net: the best pair, the reference's loops -/
def nP (o : Option (Nat × Nat)) : Int32 := o.elim (-1) fun z => nI z.1
def nQ (o : Option (Nat × Nat)) : Int32 := o.elim (-1) fun z => nI z.2
def nK (A : Nat → Int32) (w : Nat → Nat → Nat) (c : Nat) (o : Option (Nat × Nat)) : Int32 := o.elim (1000000000 : Int32) fun z => nI (frC A w z.1 z.2 c)
theorem m_bestPair {h : pg_H} {A : Nat → Int32} {w : Nat → Nat → Nat} (L : Lay h) (M : pg_i h 83 = A) (K : ShOK A) (hw : wOK w) (W : Wt h A w) (G : LG h (nC A) (alw A) (cst A w)) {c : Nat} (hc : c < nC A) (wh : Int32) : F_X12_net_38 pg_fuel 81 (nI c) wh (-1) (-1) (1000000000 : Int32) 0 h = F_X12_net_38 1 81 (nI c) wh (nP (aB A w c (nC A) (nC A))) (nQ (aB A w c (nC A) (nC A))) (nK A w c (aB A w c (nC A) (nC A))) (nI (nC A)) h := by
  have kn : nC A < 13 := K.1.1.2
  have c12 : c < 12 := by omega
  have kE1 : A 1344 = nI (nC A) := K.1.1.1
  have bit : ∀ e, e < nC A → (pg_i h 95 c >>> (nI e &&& 31)) &&& (1 : Int32) = b01 (compQ A c e) := fun e he => by
    rw [(G c hc).1, bit13 _ (by omega)]
    unfold lbit alw
    rw [if_neg (show ¬ e = 12 by omega), decide_eq_true he, decide_eq_false (show ¬ e + 1 = 0 by omega), Bool.true_and, Bool.false_or, show e + 1 - 1 = e by omega]
  refine loopI (fun f a (_ : Unit) => F_X12_net_38 f 81 (nI c) wh (nP (aB A w c (nC A) a)) (nQ (aB A w c (nC A) a)) (nK A w c (aB A w c (nC A) a)) (nI a) h) (nC A) (fun _ _ => True) (fun o => o = F_X12_net_38 1 81 (nI c) wh (nP (aB A w c (nC A) (nC A))) (nQ (aB A w c (nC A) (nC A))) (nK A w c (aB A w c (nC A) (nC A))) (nI (nC A)) h) ?_ ?_ 0 () (Nat.zero_le _) trivial pg_fuel (by unfold pg_fuel; omega)
  · intro f a _ ha _
    refine ⟨(), ?_, trivial⟩
    show F_X12_net_38 (f + 1) 81 (nI c) wh (nP (aB A w c (nC A) a)) (nQ (aB A w c (nC A) a)) (nK A w c (aB A w c (nC A) a)) (nI a) h = F_X12_net_38 f 81 (nI c) wh (nP (rB A w c a (nC A) (aB A w c (nC A) a))) (nQ (rB A w c a (nC A) (aB A w c (nC A) a))) (nK A w c (rB A w c a (nC A) (aB A w c (nC A) a))) (nI (a + 1)) h
    rw [F_X12_net_38]
    unfold pg_let
    dsimp only
    rw [nc_81 L.kd, m_copiesA L M, kE1, Option.bind_some, if_pos (nI_lt ha (by omega)), nI_1]
    have o0 : okB A (aB A w c (nC A) a) := aB_ok
    generalize aB A w c (nC A) a = o at *
    have z := loopI (fun f2 b (_ : Unit) => F_X12_net_53 (F_X12_net_38 f) f2 81 (nI c) wh (nP (rB A w c a b o)) (nQ (rB A w c a b o)) (nK A w c (rB A w c a b o)) (nI a) (nI b) h) (nC A) (fun b _ => a < b) (fun z => z = F_X12_net_38 f 81 (nI c) wh (nP (rB A w c a (nC A) o)) (nQ (rB A w c a (nC A) o)) (nK A w c (rB A w c a (nC A) o)) (nI (a + 1)) h) ?_ ?_ (a + 1) () (by omega) (by omega) pg_fuel (by unfold pg_fuel; omega)
    · rw [rB_start] at z
      exact z
    · intro f2 b _ hb ab
      refine ⟨(), ?_, by omega⟩
      show F_X12_net_53 (F_X12_net_38 f) (f2 + 1) 81 (nI c) wh (nP (rB A w c a b o)) (nQ (rB A w c a b o)) (nK A w c (rB A w c a b o)) (nI a) (nI b) h = _
      have o1 : okB A (rB A w c a b o) := rB_ok o0
      have f125 : ∀ u v x, F_X12_net_125 (F_X12_net_53 (F_X12_net_38 f) f2) 81 (nI c) wh u v x (nI a) (nI b) h = F_X12_net_53 (F_X12_net_38 f) f2 81 (nI c) wh u v x (nI a) (nI (b + 1)) h := fun u v x => by
        unfold F_X12_net_125
        rw [nI_1]
      rw [F_X12_net_53, rB_succ ab]
      dsimp only
      rw [nc_81 L.kd, m_copiesA L M, kE1, Option.bind_some, if_pos (nI_lt hb (by omega)), nR_81_27 L.kd L.rd, Option.bind_some, na_95 L.kd c12, Option.bind_some, bit a ha, if_bb]
      simp only [f125]
      generalize rB A w c a b o = p at *
      have fb := frC_le K hw (show a < 12 by omega) (show b < 12 by omega) c12
      unfold bp
      cases qa : compQ A c a with
      | false => rw [if_neg (show ¬ false = true by decide), if_neg (show ¬ (false && compQ A c b) = true by rw [Bool.false_and]; decide)]
      | true =>
        rw [if_pos (show true = true from rfl), Option.bind_some, na_95 L.kd c12, Option.bind_some, bit b hb, if_bb]
        cases qb : compQ A c b with
        | false => rw [if_neg (show ¬ false = true by decide), if_neg (show ¬ (true && false) = true by decide)]
        | true =>
          rw [if_pos (show true = true from rfl), if_pos (show (true && true) = true from rfl), nc_81 L.kd, m_costFrom L M K W (show a < 12 by omega) (show b < 12 by omega) c12, Option.bind_some]
          cases p with
          | none =>
            rw [if_pos (show nI (frC A w a b c) < nK A w c none from nI_lt (b := 1000000000) (by omega) (by decide))]
            rfl
          | some z =>
            obtain ⟨z1, z2⟩ := o1 z rfl
            have zb := frC_le K hw (show z.1 < 12 by omega) (show z.2 < 12 by omega) c12
            show (if nI (frC A w a b c) < nI (frC A w z.1 z.2 c) then _ else _) = F_X12_net_53 _ f2 81 (nI c) wh (nP (if frC A w a b c < frC A w z.1 z.2 c then some (a, b) else some z)) (nQ (if frC A w a b c < frC A w z.1 z.2 c then some (a, b) else some z)) (nK A w c (if frC A w a b c < frC A w z.1 z.2 c then some (a, b) else some z)) (nI a) (nI (b + 1)) h
            by_cases lt : frC A w a b c < frC A w z.1 z.2 c
            · rw [if_pos (nI_lt lt (by omega)), if_pos lt]
              rfl
            · rw [if_neg (nI_nlt (by omega) (by omega)), if_neg lt]
    · intro f2 _ _
      show F_X12_net_53 (F_X12_net_38 f) (f2 + 1) 81 (nI c) wh (nP (rB A w c a (nC A) o)) (nQ (rB A w c a (nC A) o)) (nK A w c (rB A w c a (nC A) o)) (nI a) (nI (nC A)) h = _
      rw [F_X12_net_53]
      dsimp only
      rw [nc_81 L.kd, m_copiesA L M, kE1, Option.bind_some, if_neg Int32.lt_irrefl, nI_1]
  · intro f _ _
    show F_X12_net_38 (f + 1) 81 (nI c) wh _ _ _ (nI (nC A)) h = F_X12_net_38 (0 + 1) 81 (nI c) wh _ _ _ (nI (nC A)) h
    rw [F_X12_net_38, F_X12_net_38]
    dsimp only
    rw [nc_81 L.kd, m_copiesA L M, kE1, Option.bind_some, if_neg Int32.lt_irrefl, Option.bind_some, if_neg Int32.lt_irrefl]
