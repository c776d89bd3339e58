/-! CHAO: how many copies there were -/
def onN (A : Nat → Int32) (c : Nat) : Nat := sumN 6 fun l => if onQ A c l then 1 else 0
def chaoS (A : Nat → Int32) (c : Nat) (x : Nat × Nat × Nat) : Nat × Nat × Nat := (x.1 + (if 0 < onN A c then 1 else 0), x.2.1 + (if onN A c = 1 then 1 else 0), x.2.2 + (if onN A c = 2 then 1 else 0))
def chaoR (A : Nat → Int32) : Nat × Nat × Nat := foldN (nC A) (chaoS A) (0, 0, 0)
def chaoV (x : Nat × Nat × Nat) : Option Int32 := if 0 < nI x.2.2 then (if ((2 : Int32) * nI x.2.2) = 0 then none else some (nI x.1 + ((nI x.2.1 * nI x.2.1) / ((2 : Int32) * nI x.2.2)))) else (if (2 : Int32) = 0 then none else some (nI x.1 + ((nI x.2.1 * (nI x.2.1 - (1 : Int32))) / (2 : Int32))))
theorem onN_le (A : Nat → Int32) (c : Nat) : onN A c ≤ 6 := sumN_le (b := 1) (fun i _ => by cases onQ A c i <;> decide)
theorem chao_3 {n : Nat} (h : n ≤ 6) : ((0 < nI n) = (0 < n)) ∧ ((nI n = 1) = (n = 1)) ∧ ((nI n = 2) = (n = 2)) :=
  ⟨propext (nI_ltI (a := 0) (by decide) (by omega)), propext (nI_eq (b := 1) (by omega) (by decide)), propext (nI_eq (b := 2) (by omega) (by decide))⟩
theorem c_chao {h : pg_H} {A : Nat → Int32} (L : Lay h) (C : CNum h 2 A) (K : ShOK A) : F_X11_chao h 1 = chaoV (chaoR A) := by
  have kC : nC A < 13 := K.1.1.2
  unfold F_X11_chao
  have z := loopF (fun f i x => F_X11_chao_9 h f 1 (nI (x).1) (nI (x).2.1) (nI (x).2.2) (nI i)) (nC A) (fun i x => chaoS A i (x)) (chaoV (chaoR A)) (fun _ _ => True) ((0 : Nat), (0 : Nat), (0 : Nat)) ?_ (fun _ _ _ _ _ => trivial) ?_ trivial pg_fuel (by unfold pg_fuel; omega)
  · exact z
  · intro f i x hi _ _
    have q : Rg A (3 * i + 1) 64 := (K.2.1 i hi).2.1
    have q2 : cp A i 1 < 64 := q.2
    have e : F_J6_bitCount_0f7a4 (A (3 * i + 1)) = some (nI (onN A i)) := by
      rw [q.1, bc12 _ (show cl A (3 * i + 1) < 4096 by have := q.2; omega)]
      unfold pc onN
      rw [sumN_ext (n := 6) (by decide) (fun l h1 _ => by
        rw [Nat.testBit_lt_two_pow (Nat.lt_of_lt_of_le q.2 (Nat.pow_le_pow_right (n := 2) (i := 6) (by decide) h1))]
        rfl)]
      rfl
    obtain ⟨e1, e2, e3⟩ := chao_3 (onN_le A i)
    show F_X11_chao_9 h (f + 1) 1 (nI (x).1) (nI (x).2.1) (nI (x).2.2) (nI i) = F_X11_chao_9 h f 1 (nI ((chaoS A i (x))).1) (nI ((chaoS A i (x))).2.1) (nI ((chaoS A i (x))).2.2) (nI (i + 1))
    rw [F_X11_chao_9]
    dsimp only
    rw [gR_1_0 L, Option.bind_some, gR_2_0 L, Option.bind_some, c_rcv_3 C, c_size_3 C, Option.bind_some, if_pos (nI_lt hi (by omega)), Option.bind_some, gR_2_0 L, Option.bind_some, c_rcv_3 C, c_at_3_1 C hi, Option.bind_some, e, Option.bind_some]
    unfold F_X11_chao_53 F_X11_chao_67 F_X11_chao_81 pg_let chaoS
    simp only [e1, e2, e3, nI_1]
    clear e e1 e2 e3
    generalize onN A i = w
    rcases w with _ | _ | _ | w <;> simp [nI_1]
  · intro f _
    have hs : (foldN (nC A) (fun i x => chaoS A i (x)) ((0 : Nat), (0 : Nat), (0 : Nat))) = chaoR A := rfl
    rw [hs]
    show F_X11_chao_9 h (f + 1) 1 (nI ((chaoR A)).1) (nI ((chaoR A)).2.1) (nI ((chaoR A)).2.2) (nI (nC A)) = _
    rw [F_X11_chao_9]
    dsimp only
    rw [gR_1_0 L, Option.bind_some, gR_2_0 L, Option.bind_some, c_rcv_3 C, c_size_3 C, Option.bind_some, if_neg Int32.lt_irrefl]
    rfl
