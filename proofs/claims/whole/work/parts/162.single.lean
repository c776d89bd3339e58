/-! net: the cheapest single exemplar -/
def IsLow (A : Nat → Int32) (w : Nat → Nat → Nat) (c v : Nat) : Prop := (∀ f, f ≤ nC A → alw A f c = true → v ≤ cst A w f c) ∧ ∃ f, f ≤ nC A ∧ alw A f c = true ∧ v = cst A w f c
theorem IsLow.one {A : Nat → Int32} {w : Nat → Nat → Nat} {c v v' : Nat} (a : IsLow A w c v) (b : IsLow A w c v') : v = v' := by
  obtain ⟨a1, f, f1, f2, f3⟩ := a
  obtain ⟨b1, g, g1, g2, g3⟩ := b
  have := a1 g g1 g2
  have := b1 f f1 f2
  omega
theorem c_bestSingle {h : pg_H} {A : Nat → Int32} {w : Nat → Nat → Nat} {R : Nat} {key : Nat → Nat} (L : Lay h) (C : CNum h 2 A) (K : ShOK A) (hw : wOK w) (S : RdS h A w R key) {c : Nat} (hc : c < nC A) : ∃ v, F_X4_bestSingleCost h 50 2 (nI c) = some (nI v) ∧ IsLow A w c v := by
  have kC : nC A < 13 := K.1.1.2
  have c12 : c < 12 := by omega
  have al : ∀ e, alw A (e + 1) c = compQ A c e := fun e => by
    unfold alw
    rw [decide_eq_false (show ¬ e + 1 = 0 by omega), Bool.false_or, show e + 1 - 1 = e by omega]
  have cs : ∀ e, cst A w (e + 1) c = frC A w e e c := fun e => by
    unfold cst
    rw [if_neg (by omega), show e + 1 - 1 = e by omega]
  unfold F_X4_bestSingleCost
  rw [nc_2 L.kd, c_companions L C K hc, Option.bind_some, nc_50 L.kd, c_ownCost L C K S c12, Option.bind_some]
  refine loopI (fun f e (x : Nat) => F_X4_bestSingleCost_17 h f 50 2 (nI c) (nI (mk 12 (compQ A c))) (nI x) (nI e)) 12 (fun e x => x ≤ 400000 ∧ (∀ f, f ≤ nC A → f ≤ e → alw A f c = true → x ≤ cst A w f c) ∧ ∃ f, f ≤ nC A ∧ alw A f c = true ∧ x = cst A w f c) (fun o => ∃ v, o = some (nI v) ∧ IsLow A w c v) ?_ ?_ 0 (tm A 2 * ownS A w c) (Nat.zero_le _) ⟨?_, fun f _ f0 _ => ?_, 0, Nat.zero_le _, alw_0 A c, (if_pos rfl).symm⟩ pg_fuel (by unfold pg_fuel; omega)
  · intro f e x he ⟨x1, x2, x3⟩
    have f51 : ∀ y, F_X4_bestSingleCost_51 h (F_X4_bestSingleCost_17 h f) 50 2 (nI c) (nI (mk 12 (compQ A c))) y (nI e) = F_X4_bestSingleCost_17 h f 50 2 (nI c) (nI (mk 12 (compQ A c))) y (nI (e + 1)) := fun y => by
      unfold F_X4_bestSingleCost_51
      rw [nI_1]
    show ∃ x', F_X4_bestSingleCost_17 h (f + 1) 50 2 (nI c) (nI (mk 12 (compQ A c))) (nI x) (nI e) = F_X4_bestSingleCost_17 h f 50 2 (nI c) (nI (mk 12 (compQ A c))) (nI x') (nI (e + 1)) ∧ _
    rw [F_X4_bestSingleCost_17]
    unfold pg_let
    dsimp only
    rw [if_pos (show nI e < (12 : Int32) from nI_lt (b := 12) he (by decide)), bit12 _ he, if_b1]
    cases q : compQ A c e with
    | false =>
      rw [if_neg (by decide), f51]
      refine ⟨x, rfl, x1, fun g g1 g2 g3 => ?_, x3⟩
      by_cases ge : g = e + 1
      · rw [ge, al, q] at g3
        cases g3
      · exact x2 g g1 (by omega) g3
    | true =>
      have en := comp_lt q
      have fb := cst_le K hw (show e + 1 ≤ 12 by omega) c12
      rw [cs] at fb
      rw [if_pos rfl, nc_50 L.kd, ix_shl e (by omega), pow_pair he, c_costFrom L C K S he he c12, Option.bind_some, nI_min (by omega) (by omega), f51]
      refine ⟨min x (frC A w e e c), rfl, by omega, fun g g1 g2 g3 => ?_, ?_⟩
      · by_cases ge : g = e + 1
        · rw [ge, cs]
          omega
        · have := x2 g g1 (by omega) g3
          omega
      · by_cases lt : x ≤ frC A w e e c
        · obtain ⟨g, g1, g2, g3⟩ := x3
          exact ⟨g, g1, g2, by omega⟩
        · exact ⟨e + 1, by omega, by rw [al]; exact q, by rw [cs]; omega⟩
  · intro f x ⟨x1, x2, x3⟩
    refine ⟨x, ?_, fun g g1 g2 => x2 g g1 (by omega) g2, x3⟩
    show F_X4_bestSingleCost_17 h (f + 1) 50 2 (nI c) (nI (mk 12 (compQ A c))) (nI x) (nI 12) = _
    rw [F_X4_bestSingleCost_17]
    dsimp only
    rw [if_neg (show ¬ nI 12 < (12 : Int32) by decide)]
  · have := cst_le K hw (show 0 ≤ 12 by omega) c12
    unfold cst at this
    rw [if_pos rfl] at this
    exact this
  · have z : f = 0 := by omega
    rw [z]
    unfold cst
    rw [if_pos rfl]
    exact Nat.le_refl _
theorem m_bestSingle {h : pg_H} {A : Nat → Int32} {w : Nat → Nat → Nat} (L : Lay h) (K : ShOK A) (hw : wOK w) (G : LG h (nC A) (alw A) (cst A w)) {c : Nat} (hc : c < nC A) : ∃ v, F_X12_cheapestOf h 81 (nI c) (4095 : Int32) = some (nI v) ∧ IsLow A w c v := by
  have kC : nC A < 13 := K.1.1.2
  obtain ⟨b, b1, b2, b3, b4⟩ := m_cheapestOf L (show nC A ≤ 12 by omega) G (fun f c hf hc => cst_le K hw hf hc) hc (fun _ => true)
  have z := b3 0 (Nat.zero_le _) (alw_0 A c) (fun y => absurd rfl y)
  have zb := cst_le K hw (show 0 ≤ 12 by omega) (show c < 12 by omega)
  refine ⟨b, b1, fun f hf q => b3 f hf q (fun _ => rfl), ?_⟩
  obtain ⟨f, f1, f2, _, f3⟩ := b4 (by omega)
  exact ⟨f, f1, f2, f3⟩
