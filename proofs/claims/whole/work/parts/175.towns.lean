/-! towns -/
def tnQ (A : Nat → Int32) (k t s : Nat) : Bool := decide (st A s 1 = t) && (isInQ A (nI (st A s 0)) (nI k) && (decide (st A s 2 ≤ hd A k 1) && decide (hd A k 0 ≤ st A s 3)))
def tnN (A : Nat → Int32) (k n : Nat) : Nat := sumN n fun t => if anyN (nS A) (tnQ A k t) then 1 else 0
theorem stay_rg {A : Nat → Int32} (K : ShOK A) {i : Nat} (hi : i < nS A) : (A (36 + 4 * i) = nI (st A i 0) ∧ st A i 0 < 12) ∧ (A (36 + 4 * i + 1) = nI (st A i 1) ∧ st A i 1 < 32) ∧ (A (36 + 4 * i + 2) = nI (st A i 2) ∧ st A i 2 < 401) ∧ (A (36 + 4 * i + 3) = nI (st A i 3) ∧ st A i 3 < 401) := by
  have kC : nC A < 13 := K.1.1.2
  obtain ⟨q0, q1, q2, q3, _⟩ := K.2.2.1 i hi
  have z0 : cl A (36 + 4 * i) < nC A := q0.2
  exact ⟨⟨q0.1, by show cl A (36 + 4 * i) < 12; omega⟩, ⟨q1.1, q1.2⟩, ⟨q2.1, q2.2⟩, ⟨q3.1, q3.2⟩⟩
theorem hand_rg {A : Nat → Int32} (K : ShOK A) {k : Nat} (hk : k < nH A) : (A (196 + 8 * k) = nI (hd A k 0) ∧ hd A k 0 < 401) ∧ (A (196 + 8 * k + 1) = nI (hd A k 1) ∧ hd A k 1 < 401) := by
  obtain ⟨q0, q1, _⟩ := K.2.2.2.1 k hk
  exact ⟨⟨q0.1, q0.2⟩, ⟨q1.1, q1.2⟩⟩
theorem c_towns {h : pg_H} {A : Nat → Int32} (L : Lay h) (C : CNum h 2 A) (K : ShOK A) {k : Nat} (hk : k < nH A) : F_X11_towns h 1 (nI k) = some (nI (tnN A k 32)) := by
  have kS : nS A < 41 := K.1.2.1.2
  have kH : nH A < 13 := K.1.2.2.1.2
  obtain ⟨⟨h0, h0'⟩, h1, h1'⟩ := hand_rg K hk
  unfold F_X11_towns
  simp only [k_si, k_sl, k_sr, r_si, r_sl, i_sl, i_sr, l_si, l_sr, Option.bind_some, if_true, if_false, bind_eta2, if_bb, decide_eq_true_eq, pg_let, nR_1_0, nR_2_2, nc_2, nc_7, L.kd, L.rd, c_holds_7 C, if_pos (show 0 ≤ nI k ∧ nI k < nI (nH A) from (nI_in_iff (by omega) (by omega)).mpr hk), c_copiesWithHand L C K, c_at_7_0 C hk, c_at_7_1 C hk, h0, h1]
  refine loopI (fun f i (_ : Unit) => F_X11_towns_58 h f 1 (nI (mk 12 fun c => isInQ A (nI c) (nI k))) (nI (hd A k 0)) (nI (hd A k 1)) (nI (mk 32 fun t => anyN i (tnQ A k t))) (nI i)) (nS A) (fun _ _ => True) (fun o => o = some (nI (tnN A k 32))) ?_ ?_ 0 () (Nat.zero_le _) trivial pg_fuel (by unfold pg_fuel; omega)
  · intro f i _ hi _
    refine ⟨(), ?_, trivial⟩
    show F_X11_towns_58 h (f + 1) 1 (nI (mk 12 fun c => isInQ A (nI c) (nI k))) (nI (hd A k 0)) (nI (hd A k 1)) (nI (mk 32 fun t => anyN i (tnQ A k t))) (nI i) = F_X11_towns_58 h f 1 (nI (mk 12 fun c => isInQ A (nI c) (nI k))) (nI (hd A k 0)) (nI (hd A k 1)) (nI (mk 32 fun t => anyN i (tnQ A k t) || tnQ A k t i)) (nI (i + 1))
    obtain ⟨⟨s0, b0⟩, ⟨s1, b1⟩, ⟨s2, b2⟩, s3, b3⟩ := stay_rg K hi
    have f161 : ∀ m, F_X11_towns_161 h (F_X11_towns_58 h f) 1 (nI (mk 12 fun c => isInQ A (nI c) (nI k))) (nI (hd A k 0)) (nI (hd A k 1)) m (nI i) = F_X11_towns_58 h f 1 (nI (mk 12 fun c => isInQ A (nI c) (nI k))) (nI (hd A k 0)) (nI (hd A k 1)) m (nI (i + 1)) := fun m => by
      unfold F_X11_towns_161
      rw [nI_1]
    have no : (isInQ A (nI (st A i 0)) (nI k) && (decide (st A i 2 ≤ hd A k 1) && decide (hd A k 0 ≤ st A i 3))) = false → mk 32 (fun t => anyN i (tnQ A k t)) = mk 32 fun t => anyN i (tnQ A k t) || tnQ A k t i := fun z => mk_cong (fun t _ => by
      unfold tnQ
      rw [z, Bool.and_false, Bool.or_false])
    rw [F_X11_towns_58]
    dsimp only
    rw [nR_1_0 L.kd L.rd, Option.bind_some, nR_2_1 L.kd L.rd, Option.bind_some, nc_5 L.kd, c_size_5 C, Option.bind_some, if_pos (nI_lt hi (by omega)), Option.bind_some, nR_2_1 L.kd L.rd, Option.bind_some, nc_5 L.kd, c_at_5_0 C hi, Option.bind_some, s0, bit12 _ b0, if_b1]
    cases q0 : isInQ A (nI (st A i 0)) (nI k) with
    | false =>
      rw [if_neg (by decide)]
      unfold F_X11_towns_99
      rw [if_pos rfl, f161, no (by rw [q0]; rfl)]
    | true =>
      rw [if_pos rfl]
      unfold F_X11_towns_99 pg_let
      dsimp only
      rw [if_neg (show ¬ (1 : Int32) = 0 by decide), nR_1_0 L.kd L.rd, Option.bind_some, nR_2_1 L.kd L.rd, Option.bind_some, nc_5 L.kd, c_at_5_2 C hi, Option.bind_some, s2]
      by_cases q1 : st A i 2 ≤ hd A k 1
      · rw [if_neg (nI_nlt q1 (by omega)), Option.bind_some, nR_2_1 L.kd L.rd, Option.bind_some, nc_5 L.kd, c_at_5_3 C hi, Option.bind_some, s3]
        by_cases q2 : hd A k 0 ≤ st A i 3
        · rw [if_neg (nI_nlt q2 (by omega)), Option.bind_some, nR_2_1 L.kd L.rd, Option.bind_some, nc_5 L.kd, c_at_5_1 C hi, Option.bind_some, s1, ix_shl _ b1, f161, mk_pow b1, ix_or, mk_or]
          rw [show mk 32 (fun t => anyN i (tnQ A k t) || decide (t = st A i 1)) = mk 32 fun t => anyN i (tnQ A k t) || tnQ A k t i from mk_cong (fun t _ => by
            unfold tnQ
            rw [q0, decide_eq_true q1, decide_eq_true q2, decide_eq_decide.mpr (show t = st A i 1 ↔ st A i 1 = t from ⟨Eq.symm, Eq.symm⟩)]
            rw [Bool.and_true, Bool.and_true, Bool.and_true])]
        · rw [if_pos (nI_lt (by omega) (by omega)), f161, no (by rw [q0, decide_eq_false q2, Bool.and_false, Bool.and_false])]
      · rw [if_pos (nI_lt (by omega) (by omega)), f161, no (by rw [q0, decide_eq_false q1, Bool.false_and, Bool.and_false])]
  · intro f _ _
    show F_X11_towns_58 h (f + 1) 1 _ _ _ (nI (mk 32 fun t => anyN (nS A) (tnQ A k t))) (nI (nS A)) = _
    rw [F_X11_towns_58]
    dsimp only
    rw [nR_1_0 L.kd L.rd, Option.bind_some, nR_2_1 L.kd L.rd, Option.bind_some, nc_5 L.kd, c_size_5 C, Option.bind_some, if_neg Int32.lt_irrefl, bc32 (mk_lt 32 _), pc_mk, Option.bind_some]
    rfl
theorem m_towns {h : pg_H} {A : Nat → Int32} (L : Lay h) (M : pg_i h 83 = A) (K : ShOK A) {k : Nat} (hk : k < nH A) : F_X12_towns h 81 (nI k) = some (nI (tnN A k 32)) := by
  have kS : nS A < 41 := K.1.2.1.2
  have kH : nH A < 13 := K.1.2.2.1.2
  have kE : A 1345 = nI (nS A) := K.1.2.1.1
  obtain ⟨⟨h0, h0'⟩, h1, h1'⟩ := hand_rg K hk
  have k12 : k < 12 := by omega
  unfold F_X12_towns
  rw [nc_81 L.kd, m_isHand L M K, Option.bind_some, if_bb, if_pos (decide_eq_true ((nI_in_iff (by omega) (by omega)).mpr hk))]
  refine loopI (fun f t (_ : Unit) => F_X12_towns_14 h f 81 (nI k) (nI (tnN A k t)) (nI t)) 32 (fun _ _ => True) (fun o => o = some (nI (tnN A k 32))) ?_ ?_ 0 () (Nat.zero_le _) trivial pg_fuel (by unfold pg_fuel; omega)
  · intro f t _ ht _
    refine ⟨(), ?_, trivial⟩
    show F_X12_towns_14 h (f + 1) 81 (nI k) (nI (tnN A k t)) (nI t) = F_X12_towns_14 h f 81 (nI k) (nI (tnN A k t + if anyN (nS A) (tnQ A k t) then 1 else 0)) (nI (t + 1))
    rw [F_X12_towns_14]
    dsimp only
    rw [if_pos (show nI t < (32 : Int32) from nI_lt (b := 32) ht (by decide))]
    generalize tnN A k t = s
    refine loopI (fun f2 i (_ : Unit) => F_X12_towns_26 h (F_X12_towns_14 h f) f2 81 (nI k) (nI s) (nI t) (b01 (anyN i (tnQ A k t))) (nI i)) (nS A) (fun _ _ => True) (fun o => o = F_X12_towns_14 h f 81 (nI k) (nI (s + if anyN (nS A) (tnQ A k t) then 1 else 0)) (nI (t + 1))) ?_ ?_ 0 () (Nat.zero_le _) trivial pg_fuel (by unfold pg_fuel; omega)
    · intro f2 i _ hi _
      refine ⟨(), ?_, trivial⟩
      obtain ⟨⟨s0, b0⟩, ⟨s1, b1⟩, ⟨s2, b2⟩, s3, b3⟩ := stay_rg K hi
      have i40 : i < 40 := by omega
      have f107 : ∀ v, F_X12_towns_107 h (F_X12_towns_26 h (F_X12_towns_14 h f) f2) 81 (nI k) (nI s) (nI t) (nI i) v = F_X12_towns_26 h (F_X12_towns_14 h f) f2 81 (nI k) (nI s) (nI t) v (nI (i + 1)) := fun v => by
        unfold F_X12_towns_107
        rw [nI_1]
      have f102 : F_X12_towns_102 h (F_X12_towns_26 h (F_X12_towns_14 h f) f2) 81 (nI k) (nI s) (nI t) (nI i) = F_X12_towns_26 h (F_X12_towns_14 h f) f2 81 (nI k) (nI s) (nI t) (b01 true) (nI (i + 1)) := f107 1
      have f106 : F_X12_towns_106 h (F_X12_towns_26 h (F_X12_towns_14 h f) f2) 81 (nI k) (nI s) (nI t) (nI i) = F_X12_towns_26 h (F_X12_towns_14 h f) f2 81 (nI k) (nI s) (nI t) (b01 false) (nI (i + 1)) := f107 0
      show F_X12_towns_26 h (F_X12_towns_14 h f) (f2 + 1) 81 (nI k) (nI s) (nI t) (b01 (anyN i (tnQ A k t))) (nI i) = F_X12_towns_26 h (F_X12_towns_14 h f) f2 81 (nI k) (nI s) (nI t) (b01 (anyN i (tnQ A k t) || tnQ A k t i)) (nI (i + 1))
      rw [F_X12_towns_26]
      dsimp only
      rw [nR_81_3 L.kd L.rd, Option.bind_some, m_k_1345 L M, kE, Option.bind_some, if_pos (nI_lt hi (by omega)), if_bb, f102, f106]
      cases an : anyN i (tnQ A k t) with
      | true => rw [if_pos rfl, Bool.true_or]
      | false =>
        rw [if_neg (by decide), Bool.false_or, nc_81 L.kd, m_stay_1 L M i40, Option.bind_some, s1]
        unfold tnQ
        by_cases e1 : st A i 1 = t
        · rw [if_pos (congrArg nI e1), decide_eq_true e1, Bool.true_and, nc_81 L.kd, m_stay_2 L M i40, Option.bind_some, nc_81 L.kd, m_hand_1 L M k12, Option.bind_some, s2, h1]
          by_cases e2 : st A i 2 ≤ hd A k 1
          · rw [if_neg (nI_nlt e2 (by omega)), decide_eq_true e2, Bool.true_and, nc_81 L.kd, m_stay_3 L M i40, Option.bind_some, nc_81 L.kd, m_hand_0 L M k12, Option.bind_some, s3, h0]
            by_cases e3 : hd A k 0 ≤ st A i 3
            · rw [if_neg (nI_nlt e3 (by omega)), decide_eq_true e3, Bool.and_true, nc_81 L.kd, m_stay_0 L M i40, Option.bind_some, nc_81 L.kd, m_isIn L M K, Option.bind_some, if_bb, s0]
              cases isInQ A (nI (st A i 0)) (nI k) with
              | true => rw [if_pos rfl]
              | false => rw [if_neg (by decide)]
            · rw [if_pos (nI_lt (by omega) (by omega)), decide_eq_false e3, Bool.and_false]
          · rw [if_pos (nI_lt (by omega) (by omega)), decide_eq_false e2, Bool.false_and, Bool.and_false]
        · rw [if_neg (fun z => e1 ((nI_eq (by omega) (by omega)).mp z)), decide_eq_false e1, Bool.false_and]
    · intro f2 _ _
      have f126 : ∀ v u, F_X12_towns_126 h (F_X12_towns_14 h f) 81 (nI k) (nI t) v u = F_X12_towns_14 h f 81 (nI k) (u + v) (nI (t + 1)) := fun v u => by
        unfold F_X12_towns_126 pg_let
        rw [nI_1]
      show F_X12_towns_26 h (F_X12_towns_14 h f) (f2 + 1) 81 (nI k) (nI s) (nI t) (b01 (anyN (nS A) (tnQ A k t))) (nI (nS A)) = _
      rw [F_X12_towns_26]
      dsimp only
      rw [nR_81_3 L.kd L.rd, Option.bind_some, m_k_1345 L M, kE, Option.bind_some, if_neg Int32.lt_irrefl, if_bb, f126, f126]
      cases anyN (nS A) (tnQ A k t) with
      | true => rw [if_pos rfl, if_pos rfl, nI_1]
      | false =>
        rw [if_neg (by decide), if_neg (by decide)]
        rw [show (0 : Int32) = nI 0 from rfl, nI_add]
  · intro f _ _
    show F_X12_towns_14 h (f + 1) 81 (nI k) (nI (tnN A k 32)) (nI 32) = _
    rw [F_X12_towns_14]
    dsimp only
    rw [if_neg (show ¬ nI 32 < (32 : Int32) by decide)]
theorem sim_towns : Sim_towns Inv := by
  intro x1 q h hq I
  have L := I.1
  obtain ⟨C, K⟩ := I.sh
  have kH : nH (pg_i h 83) < 13 := K.1.2.2.1.2
  by_cases c0 : 0 ≤ x1 ∧ x1 < nI (nH (pg_i h 83))
  · obtain ⟨k, hk, rfl⟩ := in_nI c0 (by omega)
    exact ⟨nI (tnN (pg_i h 83) k 32), c_towns L C K hk, L, m_towns L rfl K hk, I.up, Few.rfl' h⟩
  · refine ⟨-1, ?_, L, ?_, I.up, Few.rfl' h⟩
    · unfold F_X11_towns
      rw [nR_1_0 L.kd L.rd, Option.bind_some, nR_2_2 L.kd L.rd, Option.bind_some, nc_7 L.kd, c_holds_7 C, Option.bind_some, if_bb, if_neg (by rw [decide_eq_false c0]; decide)]
    · unfold F_X12_towns
      rw [nc_81 L.kd, m_isHand L rfl K, Option.bind_some, if_bb, if_neg (by rw [decide_eq_false c0]; decide)]
