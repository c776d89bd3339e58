/-! CHAO: how many copies there were -/
def onN (A : Nat → Int32) (c : Nat) : Nat := sumN 6 fun l => if onQ A c l then 1 else 0
def chaoS (A : Nat → Int32) (c : Nat) (x : Nat × Nat × Nat) : Nat × Nat × Nat := (x.1 + (if 0 < onN A c then 1 else 0), x.2.1 + (if onN A c = 1 then 1 else 0), x.2.2 + (if onN A c = 2 then 1 else 0))
def chaoR (A : Nat → Int32) : Nat × Nat × Nat := foldN (nC A) (chaoS A) (0, 0, 0)
def chaoV (x : Nat × Nat × Nat) : Option Int32 := if 0 < nI x.2.2 then (if ((2 : Int32) * nI x.2.2) = 0 then none else some (nI x.1 + ((nI x.2.1 * nI x.2.1) / ((2 : Int32) * nI x.2.2)))) else (if (2 : Int32) = 0 then none else some (nI x.1 + ((nI x.2.1 * (nI x.2.1 - (1 : Int32))) / (2 : Int32))))
theorem onN_le (A : Nat → Int32) (c : Nat) : onN A c ≤ 6 := sumN_le (b := 1) (fun i _ => by cases onQ A c i <;> decide)
theorem chao_3 {n : Nat} (h : n ≤ 6) : ((0 < nI n) = (0 < n)) ∧ ((nI n = 1) = (n = 1)) ∧ ((nI n = 2) = (n = 2)) :=
  ⟨propext (nI_ltI (a := 0) (by decide) (by omega)), propext (nI_eq (b := 1) (by omega) (by decide)), propext (nI_eq (b := 2) (by omega) (by decide))⟩
theorem c_chao {h : pg_H} {A : Nat → Int32} (L : Lay h) (C : CNum h 2 A) (K : ShOK A) : F_X11_chao h 1 = chaoV (chaoR A) := by
  have kC : nC A < 13 := K.1.1.2
  unfold F_X11_chao
  have z := loopF (fun f i x => F_X11_chao_9 h f 1 (nI (x).1) (nI (x).2.1) (nI (x).2.2) (nI i)) (nC A) (fun i x => chaoS A i (x)) (chaoV (chaoR A)) (fun _ _ => True) ((0 : Nat), (0 : Nat), (0 : Nat)) ?_ (fun _ _ _ _ _ => trivial) ?_ trivial pg_fuel (by unfold pg_fuel; omega)
  · exact z
  · intro f i x hi _ _
    have q : Rg A (3 * i + 1) 64 := (K.2.1 i hi).2.1
    have q2 : cp A i 1 < 64 := q.2
    have e : F_J6_bitCount_0f7a4 (A (3 * i + 1)) = some (nI (onN A i)) := by
      rw [q.1, bc12 _ (show cl A (3 * i + 1) < 4096 by have := q.2; omega)]
      unfold pc onN
      rw [sumN_ext (n := 6) (by decide) (fun l h1 _ => by
        rw [Nat.testBit_lt_two_pow (Nat.lt_of_lt_of_le q.2 (Nat.pow_le_pow_right (n := 2) (i := 6) (by decide) h1))]
        rfl)]
      rfl
    obtain ⟨e1, e2, e3⟩ := chao_3 (onN_le A i)
    show F_X11_chao_9 h (f + 1) 1 (nI (x).1) (nI (x).2.1) (nI (x).2.2) (nI i) = F_X11_chao_9 h f 1 (nI ((chaoS A i (x))).1) (nI ((chaoS A i (x))).2.1) (nI ((chaoS A i (x))).2.2) (nI (i + 1))
    rw [F_X11_chao_9]
    dsimp only
    rw [gR_1_0 L, Option.bind_some, gR_2_0 L, Option.bind_some, c_rcv_3 C, c_size_3 C, Option.bind_some, if_pos (nI_lt hi (by omega)), Option.bind_some, gR_2_0 L, Option.bind_some, c_rcv_3 C, c_at_3_1 C hi, Option.bind_some, e, Option.bind_some]
    unfold F_X11_chao_53 F_X11_chao_67 F_X11_chao_81 pg_let chaoS
    simp only [e1, e2, e3, nI_1]
    clear e e1 e2 e3
    generalize onN A i = w
    rcases w with _ | _ | _ | w <;> simp [nI_1]
  · intro f _
    have hs : (foldN (nC A) (fun i x => chaoS A i (x)) ((0 : Nat), (0 : Nat), (0 : Nat))) = chaoR A := rfl
    rw [hs]
    show F_X11_chao_9 h (f + 1) 1 (nI ((chaoR A)).1) (nI ((chaoR A)).2.1) (nI ((chaoR A)).2.2) (nI (nC A)) = _
    rw [F_X11_chao_9]
    dsimp only
    rw [gR_1_0 L, Option.bind_some, gR_2_0 L, Option.bind_some, c_rcv_3 C, c_size_3 C, Option.bind_some, if_neg Int32.lt_irrefl]
    rfl
theorem m_chao {h : pg_H} {A : Nat → Int32} (L : Lay h) (M : pg_i h 83 = A) (K : ShOK A) : F_X12_chao h 81 = chaoV (chaoR A) := by
  have kC : nC A < 13 := K.1.1.2
  have kE : A 1344 = nI (nC A) := K.1.1.1
  have inner : ∀ (k : Nat → Int32 → Int32 → Int32 → Int32 → Option Int32) (a b d : Int32) (c : Nat), c < nC A → F_X12_chao_24 h k pg_fuel 81 a b d (nI c) 0 0 = F_X12_chao_69 h k 81 b d (nI c) (nI (onN A c)) (if 0 < onN A c then 1 else 0) a := by
    intro k a b d c hc
    have hO := onN_le A c
    unfold onN at hO ⊢
    obtain ⟨N, hN⟩ : ∃ N, N = 6 := ⟨6, rfl⟩
    rw [← hN] at hO ⊢
    have z := loopF (fun f i x => F_X12_chao_24 h k f 81 a b d (nI c) (nI x) (nI i)) (N) (fun i x => x + (if onQ A c i then 1 else 0)) (F_X12_chao_69 h k 81 b d (nI c) (nI (sumN N fun l => if onQ A c l then 1 else 0)) (if 0 < (sumN N fun l => if onQ A c l then 1 else 0) then 1 else 0) a) (fun _ _ => True) 0 ?_ (fun _ _ _ _ _ => trivial) ?_ trivial pg_fuel (by unfold pg_fuel; omega)
    · exact z
    · intro f i x hi _ _
      show F_X12_chao_24 h k (f + 1) 81 a b d (nI c) (nI x) (nI i) = F_X12_chao_24 h k f 81 a b d (nI c) (nI (x + (if onQ A c i then 1 else 0))) (nI (i + 1))
      rw [F_X12_chao_24]
      dsimp only
      rw [if_pos (show nI i < (6 : Int32) from nI_lt (b := 6) (by omega) (by decide)), rc_81 L, m_isOn L M K hc (by omega), Option.bind_some]
      unfold F_X12_chao_49 pg_let
      dsimp only
      rw [nI_1]
      cases onQ A c i with
      | false =>
        rw [if_pos (show b01 false = 0 from rfl), show (0 : Int32) = nI 0 from rfl, nI_add]
        rfl
      | true =>
        rw [if_neg (show ¬ b01 true = 0 by decide), nI_1]
        rfl
    · intro f _
      rw [show (foldN (N) (fun i x => x + (if onQ A c i then 1 else 0)) 0) = (sumN N fun l => if onQ A c l then 1 else 0) from foldN_sum]
      show F_X12_chao_24 h k (f + 1) 81 a b d (nI c) (nI ((sumN N fun l => if onQ A c l then 1 else 0))) (nI (N)) = _
      rw [F_X12_chao_24]
      dsimp only
      rw [if_neg (show ¬ nI N < (6 : Int32) from nI_nlt (b := 6) (by omega) (by omega))]
      generalize (sumN N fun l => if onQ A c l then 1 else 0) = w at *
      by_cases q : 0 < w
      · rw [if_pos (show (0 : Int32) < nI w from nI_lt (a := 0) q (by omega)), if_pos q]
      · rw [if_neg (show ¬ (0 : Int32) < nI w from nI_nlt (b := w) (a := 0) (by omega) (by decide)), if_neg q]
  unfold F_X12_chao
  have z := loopF (fun f i x => F_X12_chao_9 h f 81 (nI (x).1) (nI (x).2.1) (nI (x).2.2) (nI i)) (nC A) (fun i x => chaoS A i (x)) (chaoV (chaoR A)) (fun _ _ => True) ((0 : Nat), (0 : Nat), (0 : Nat)) ?_ (fun _ _ _ _ _ => trivial) ?_ trivial pg_fuel (by unfold pg_fuel; omega)
  · exact z
  · intro f i x hi _ _
    obtain ⟨e1, e2, e3⟩ := chao_3 (onN_le A i)
    show F_X12_chao_9 h (f + 1) 81 (nI (x).1) (nI (x).2.1) (nI (x).2.2) (nI i) = F_X12_chao_9 h f 81 (nI ((chaoS A i (x))).1) (nI ((chaoS A i (x))).2.1) (nI ((chaoS A i (x))).2.2) (nI (i + 1))
    rw [F_X12_chao_9]
    dsimp only
    rw [rc_81 L, m_copiesA L M, kE, Option.bind_some, if_pos (nI_lt hi (by omega)), inner _ _ _ _ i hi]
    unfold F_X12_chao_69 F_X12_chao_83 F_X12_chao_97 pg_let chaoS
    simp only [e2, e3, nI_1]
    clear e1 e2 e3
    generalize onN A i = w
    rcases w with _ | _ | _ | w <;> simp [nI_1]
  · intro f _
    have hs : (foldN (nC A) (fun i x => chaoS A i (x)) ((0 : Nat), (0 : Nat), (0 : Nat))) = chaoR A := rfl
    rw [hs]
    show F_X12_chao_9 h (f + 1) 81 (nI ((chaoR A)).1) (nI ((chaoR A)).2.1) (nI ((chaoR A)).2.2) (nI (nC A)) = _
    rw [F_X12_chao_9]
    dsimp only
    rw [rc_81 L, m_copiesA L M, kE, Option.bind_some, if_neg Int32.lt_irrefl]
    rfl
