/-! net: the best pair, the class's loops -/
theorem frC_le {A : Nat → Int32} (K : ShOK A) {w : Nat → Nat → Nat} (hw : wOK w) {a b c : Nat} (ha : a < 12) (hb : b < 12) (hc : c < 12) : frC A w a b c ≤ 400000 := by
  obtain ⟨t0, t1, _, _⟩ := terms_le K
  have s1 := addS_le K hw (a := a) (b := b) (show c < 2 ^ 31 by omega)
  have s2 := leaS_le K hw (a := a) (b := b) (c := c) (show a < 2 ^ 31 by omega) (show b < 2 ^ 31 by omega)
  have := Nat.mul_le_mul (show tm A 0 ≤ 9 by omega) s1
  have := Nat.mul_le_mul (show tm A 1 ≤ 9 by omega) s2
  unfold frC
  omega
theorem rB_ok {A : Nat → Int32} {w : Nat → Nat → Nat} {c a i : Nat} {o : Option (Nat × Nat)} (k : okB A o) : okB A (rB A w c a i o) :=
  foldN_inv (fun o => okB A o) k (fun i x _ h => by
    by_cases q : a < i
    · rw [if_pos q]
      exact bp_ok q h
    · rw [if_neg q]
      exact h)
theorem aB_ok {A : Nat → Int32} {w : Nat → Nat → Nat} {c N i : Nat} : okB A (aB A w c N i) := foldN_inv (fun o => okB A o) (fun z h => by cases h) (fun i x _ h => rB_ok h)
theorem c_bestPair {h : pg_H} {A : Nat → Int32} {w : Nat → Nat → Nat} {R : Nat} {key : Nat → Nat} (L : Lay h) (C : CNum h 2 A) (K : ShOK A) (hw : wOK w) (S : RdS h A w R key) {c : Nat} (hc : c < nC A) : F_X4_bestPair h 50 2 (nI c) = some (kP (aB A w c 12 12)) := by
  have kn : nC A < 13 := K.1.1.2
  have c12 : c < 12 := by omega
  unfold F_X4_bestPair
  rw [nc_2 L.kd, c_companions L C K hc, Option.bind_some]
  refine loopI (fun f a (_ : Unit) => F_X4_bestPair_15 h f 50 2 (nI c) (nI (mk 12 (compQ A c))) (kP (aB A w c 12 a)) (kC A w c (aB A w c 12 a)) (nI a)) 12 (fun _ _ => True) (fun o => o = some (kP (aB A w c 12 12))) ?_ ?_ 0 () (Nat.zero_le _) trivial pg_fuel (by unfold pg_fuel; omega)
  · intro f a _ ha _
    refine ⟨(), ?_, trivial⟩
    show F_X4_bestPair_15 h (f + 1) 50 2 (nI c) (nI (mk 12 (compQ A c))) (kP (aB A w c 12 a)) (kC A w c (aB A w c 12 a)) (nI a) = F_X4_bestPair_15 h f 50 2 (nI c) (nI (mk 12 (compQ A c))) (kP (rB A w c a 12 (aB A w c 12 a))) (kC A w c (rB A w c a 12 (aB A w c 12 a))) (nI (a + 1))
    rw [F_X4_bestPair_15]
    unfold pg_let
    dsimp only
    rw [if_pos (show nI a < (12 : Int32) from nI_lt (b := 12) ha (by decide)), nI_1]
    have o0 : okB A (aB A w c 12 a) := aB_ok
    generalize aB A w c 12 a = o at *
    have z := loopI (fun f2 b (_ : Unit) => F_X4_bestPair_28 h (F_X4_bestPair_15 h f) f2 50 2 (nI c) (nI (mk 12 (compQ A c))) (kP (rB A w c a b o)) (kC A w c (rB A w c a b o)) (nI a) (nI b)) 12 (fun b _ => a < b) (fun z => z = F_X4_bestPair_15 h f 50 2 (nI c) (nI (mk 12 (compQ A c))) (kP (rB A w c a 12 o)) (kC A w c (rB A w c a 12 o)) (nI (a + 1))) ?_ ?_ (a + 1) () (by omega) (by omega) pg_fuel (by unfold pg_fuel; omega)
    · rw [rB_start] at z
      exact z
    · intro f2 b _ hb ab
      refine ⟨(), ?_, by omega⟩
      show F_X4_bestPair_28 h (F_X4_bestPair_15 h f) (f2 + 1) 50 2 (nI c) (nI (mk 12 (compQ A c))) (kP (rB A w c a b o)) (kC A w c (rB A w c a b o)) (nI a) (nI b) = _
      have o1 : okB A (rB A w c a b o) := rB_ok o0
      have f85 : ∀ u v, F_X4_bestPair_85 h (F_X4_bestPair_28 h (F_X4_bestPair_15 h f) f2) 50 2 (nI c) (nI (mk 12 (compQ A c))) u v (nI a) (nI b) = F_X4_bestPair_28 h (F_X4_bestPair_15 h f) f2 50 2 (nI c) (nI (mk 12 (compQ A c))) u v (nI a) (nI (b + 1)) := fun u v => by
        unfold F_X4_bestPair_85
        rw [nI_1]
      rw [F_X4_bestPair_28, rB_succ ab]
      unfold F_X4_bestPair_77 pg_let
      dsimp only
      rw [if_pos (show nI b < (12 : Int32) from nI_lt (b := 12) hb (by decide)), ix_shl a (by omega), ix_shl b (by omega), pair_mk ha hb]
      simp only [f85]
      generalize rB A w c a b o = p at *
      have fb := frC_le K hw ha hb c12
      unfold bp
      by_cases q : (compQ A c a && compQ A c b) = true
      · rw [if_pos ((pair_in ha hb).mpr q), if_pos q, nc_50 L.kd, c_costFrom L C K S ha hb c12, Option.bind_some]
        cases p with
        | none =>
          rw [if_pos (show kP none = 0 from rfl)]
          rfl
        | some z =>
          obtain ⟨z1, z2⟩ := o1 z rfl
          have zb := frC_le K hw (show z.1 < 12 by omega) (show z.2 < 12 by omega) c12
          rw [if_neg (show ¬ kP (some z) = 0 from pair_no0 (show z.1 < 12 by omega))]
          show (if nI (frC A w a b c) < nI (frC A w z.1 z.2 c) then _ else _) = F_X4_bestPair_28 h _ f2 50 2 (nI c) _ (kP (if frC A w a b c < frC A w z.1 z.2 c then some (a, b) else some z)) (kC A w c (if frC A w a b c < frC A w z.1 z.2 c then some (a, b) else some z)) (nI a) (nI (b + 1))
          by_cases lt : frC A w a b c < frC A w z.1 z.2 c
          · rw [if_pos (nI_lt lt (by omega)), if_pos lt]
            rfl
          · rw [if_neg (nI_nlt (by omega) (by omega)), if_neg lt]
      · rw [if_neg (fun y => q ((pair_in ha hb).mp y)), if_neg q]
    · intro f2 _ _
      show F_X4_bestPair_28 h (F_X4_bestPair_15 h f) (f2 + 1) 50 2 (nI c) (nI (mk 12 (compQ A c))) (kP (rB A w c a 12 o)) (kC A w c (rB A w c a 12 o)) (nI a) (nI 12) = _
      rw [F_X4_bestPair_28]
      dsimp only
      rw [if_neg (show ¬ nI 12 < (12 : Int32) by decide), nI_1]
  · intro f _ _
    show F_X4_bestPair_15 h (f + 1) 50 2 (nI c) (nI (mk 12 (compQ A c))) (kP (aB A w c 12 12)) (kC A w c (aB A w c 12 12)) (nI 12) = _
    rw [F_X4_bestPair_15]
    dsimp only
    rw [if_neg (show ¬ nI 12 < (12 : Int32) by decide)]
