/-! FAMILIES, plain: what is reached, labels -/
def Rc (G : Nat → Bool) (N : Nat → Nat → Bool) (c j : Nat) : Prop := ∀ P : Nat → Prop, P c → (∀ a b, P a → G b = true → N a b = true → P b) → P j
section FAM
variable {G : Nat → Bool} {N : Nat → Nat → Bool} {lab : Nat → Nat}
theorem Rc.self {c : Nat} : Rc G N c c := fun _ p _ => p
theorem Rc.step {c a b : Nat} (r : Rc G N c a) (g : G b = true) (n : N a b = true) : Rc G N c b := fun P p s => s a b (r P p s) g n
theorem Rc.trans {a b c : Nat} (r : Rc G N a b) (s : Rc G N b c) : Rc G N a c := fun P p t => s P (r P p t) t
theorem Rc.symm (sy : ∀ a b, N a b = true → N b a = true) {a b : Nat} (g : G a = true) (r : Rc G N a b) : Rc G N b a :=
  (r (fun x => G x = true ∧ Rc G N x a) ⟨g, Rc.self⟩ (fun x y p q n => ⟨q, (Rc.self.step p.1 (sy x y n)).trans p.2⟩)).2
def IsLab (G : Nat → Bool) (N : Nat → Nat → Bool) (lab : Nat → Nat) : Prop := (∀ c, G c = true → G (lab c) = true ∧ lab c ≤ c ∧ Rc G N (lab c) c) ∧ ∀ a b, G a = true → G b = true → N a b = true → lab a = lab b
theorem IsLab.reach (I : IsLab G N lab) {c j : Nat} (g : G c = true) (r : Rc G N c j) : G j = true ∧ lab j = lab c :=
  r (fun x => G x = true ∧ lab x = lab c) ⟨g, rfl⟩ (fun a b p q n => ⟨q, (I.2 a b p.1 q n).symm.trans p.2⟩)
theorem IsLab.idem (I : IsLab G N lab) {c : Nat} (g : G c = true) : lab (lab c) = lab c := ((I.reach (I.1 c g).1 (I.1 c g).2.2).2).symm
def restB (G : Nat → Bool) (lab : Nat → Nat) (c : Nat) : Nat → Bool := fun x => G x && decide (c ≤ lab x)
theorem rest_reach (I : IsLab G N lab) {c j : Nat} (g : G c = true) (lc : lab c = c) : Rc (restB G lab c) N c j ↔ (G j && decide (lab j = c)) = true := by
  rw [Bool.and_eq_true, decide_eq_true_eq]
  constructor
  · intro r
    exact r (fun x => G x = true ∧ lab x = c) ⟨g, lc⟩ (fun a b p q n => by
      have q1 : G b = true := by
        unfold restB at q
        rw [Bool.and_eq_true] at q
        exact q.1
      exact ⟨q1, (I.2 a b p.1 q1 n).symm.trans p.2⟩)
  · rintro ⟨gj, lj⟩
    have r := (I.1 j gj).2.2
    rw [lj] at r
    exact (r (fun x => Rc (restB G lab c) N c x ∧ G x = true ∧ lab x = c) ⟨Rc.self, g, lc⟩ (fun a b p q n => by
      have e : lab b = c := (I.2 a b p.2.1 q n).symm.trans p.2.2
      refine ⟨p.1.step ?_ n, q, e⟩
      unfold restB
      rw [q, e, decide_eq_true (Nat.le_refl c)]
      rfl)).1
theorem all_reach (I : IsLab G N lab) (sy : ∀ a b, N a b = true → N b a = true) {c j : Nat} (g : G c = true) : Rc G N c j ↔ (G j && decide (lab j = lab c)) = true := by
  rw [Bool.and_eq_true, decide_eq_true_eq]
  constructor
  · exact fun r => I.reach g r
  · rintro ⟨gj, lj⟩
    have r := (I.1 j gj).2.2
    rw [lj] at r
    exact ((I.1 c g).2.2.symm sy (I.1 c g).1).trans r
theorem lab_one {lab2 : Nat → Nat} (I : IsLab G N lab) (J : IsLab G N lab2) {c : Nat} (g : G c = true) : lab c = lab2 c := by
  have a := (I.reach (J.1 c g).1 (J.1 c g).2.2).2
  have b := (J.reach (I.1 c g).1 (I.1 c g).2.2).2
  have a2 := (I.1 (lab2 c) (J.1 c g).1).2.1
  have b2 := (J.1 (lab c) (I.1 c g).1).2.1
  omega
def cntB (F : Nat → Bool) : Nat := sumN 12 fun j => if F j then 1 else 0
theorem cntB_lt {F F' : Nat → Bool} {n k : Nat} (hk : k < n) (sub : ∀ j, j < n → F j = true → F' j = true) (k0 : F k = false) (k1 : F' k = true) : (sumN n fun j => if F j then 1 else 0) < sumN n fun j => if F' j then 1 else 0 := by
  have le : ∀ m, m ≤ n → (sumN m fun j => if F j then 1 else 0) ≤ sumN m fun j => if F' j then 1 else 0 := fun m hm => sumN_mono (fun i hi => by
    cases q : F i with
    | false => rw [if_neg (by decide)]; exact Nat.zero_le _
    | true => rw [sub i (by omega) q]; exact Nat.le_refl _)
  have key : ∀ m, k < m → m ≤ n → (sumN m fun j => if F j then 1 else 0) < sumN m fun j => if F' j then 1 else 0 := by
    intro m
    induction m with
    | zero => intro q; omega
    | succ m ih =>
      intro hm hn
      show (sumN m fun j => if F j then 1 else 0) + (if F m then 1 else 0) < (sumN m fun j => if F' j then 1 else 0) + if F' m then 1 else 0
      by_cases e : k = m
      · subst e
        have := le k (by omega)
        rw [k0, k1, if_neg (by decide), if_pos rfl]
        omega
      · have a := ih (by omega) (by omega)
        have b : (if F m then 1 else 0) ≤ (if F' m then 1 else 0) := by
          cases q : F m with
          | false => rw [if_neg (by decide)]; exact Nat.zero_le _
          | true => rw [sub m (by omega) q]; exact Nat.le_refl _
        omega
  exact key n hk (Nat.le_refl n)
def nbr (G : Nat → Bool) (N : Nat → Nat → Bool) (F : Nat → Bool) (i : Nat) : Nat → Bool := fun j => F j || anyN i (fun a => F a && (N a j && G j))
theorem nbr_succ {F : Nat → Bool} {i j : Nat} : nbr G N F (i + 1) j = (nbr G N F i j || (F i && (N i j && G j))) := by
  unfold nbr
  show (F j || (anyN i (fun a => F a && (N a j && G j)) || (F i && (N i j && G j)))) = _
  rw [Bool.or_assoc]
theorem c_spread {h : pg_H} (L : Lay h) (hN : ∀ a, a < 12 → pg_i h 58 a = nI (mk 12 (N a))) (hG : ∀ j, G j = true → j < 12) {c : Nat} (hc : c < 12) :
    ∃ F : Nat → Bool, F_X4_spread h 50 (nI c) (nI (mk 12 G)) = some (nI (mk 12 F)) ∧ ∀ j, j < 12 → (F j = true ↔ Rc G N c j) := by
  unfold F_X4_spread pg_let
  dsimp only
  rw [ix_shl c (by omega), mk_pow hc]
  refine loopE (fun f r (F : Nat → Bool) => F_X4_spread_7 h f 50 (nI (mk 12 G)) (nI (mk 12 F)) (nI r)) 12 (fun r F => F c = true ∧ (∀ j, j < 12 → F j = true → Rc G N c j) ∧ r + 1 ≤ cntB F) (fun o => ∃ F : Nat → Bool, o = some (nI (mk 12 F)) ∧ ∀ j, j < 12 → (F j = true ↔ Rc G N c j)) ?_ ?_ 0 (fun i => decide (i = c)) (Nat.zero_le _) ⟨decide_eq_true rfl, fun j _ q => ?_, ?_⟩ pg_fuel (by unfold pg_fuel; omega)
  · intro f r F hr ⟨F1, F2, F3⟩
    have sub : ∀ j, j < 12 → F j = true → nbr G N F 12 j = true := fun j _ q => by
      unfold nbr
      rw [q, Bool.true_or]
    have z : F_X4_spread_7 h (f + 1) 50 (nI (mk 12 G)) (nI (mk 12 F)) (nI r) = if nI (mk 12 (nbr G N F 12)) = nI (mk 12 F) then some (nI (mk 12 (nbr G N F 12))) else F_X4_spread_7 h f 50 (nI (mk 12 G)) (nI (mk 12 (nbr G N F 12))) (nI (r + 1)) := by
      rw [F_X4_spread_7]
      dsimp only
      rw [if_pos (show nI r < (12 : Int32) from nI_lt (b := 12) hr (by decide))]
      have e0 : nI (mk 12 F) = nI (mk 12 (nbr G N F 0)) := congrArg nI (mk_cong (fun j _ => (Bool.or_false (F j)).symm))
      have key : ∀ V, V = nI (mk 12 (nbr G N F 0)) → F_X4_spread_20 h (F_X4_spread_7 h f) pg_fuel 50 (nI (mk 12 G)) V (nI r) (nI (mk 12 F)) (0 : Int32) = if nI (mk 12 (nbr G N F 12)) = nI (mk 12 F) then some (nI (mk 12 (nbr G N F 12))) else F_X4_spread_7 h f 50 (nI (mk 12 G)) (nI (mk 12 (nbr G N F 12))) (nI (r + 1)) := by
        rintro V rfl
        refine loopI (fun f2 i (_ : Unit) => F_X4_spread_20 h (F_X4_spread_7 h f) f2 50 (nI (mk 12 G)) (nI (mk 12 (nbr G N F i))) (nI r) (nI (mk 12 F)) (nI i)) 12 (fun _ _ => True) (fun o => o = if nI (mk 12 (nbr G N F 12)) = nI (mk 12 F) then some (nI (mk 12 (nbr G N F 12))) else F_X4_spread_7 h f 50 (nI (mk 12 G)) (nI (mk 12 (nbr G N F 12))) (nI (r + 1))) ?_ ?_ 0 () (Nat.zero_le _) trivial pg_fuel (by unfold pg_fuel; omega)
        · intro f2 i _ hi _
          refine ⟨(), ?_, trivial⟩
          show F_X4_spread_20 h (F_X4_spread_7 h f) (f2 + 1) 50 (nI (mk 12 G)) (nI (mk 12 (nbr G N F i))) (nI r) (nI (mk 12 F)) (nI i) = _
          have f52 : ∀ s t, F_X4_spread_52 h (F_X4_spread_20 h (F_X4_spread_7 h f) f2) 50 (nI (mk 12 G)) (nI r) (nI (mk 12 F)) (nI i) s t = F_X4_spread_20 h (F_X4_spread_7 h f) f2 50 (nI (mk 12 G)) (t ||| s) (nI r) (nI (mk 12 F)) (nI (i + 1)) := fun s t => by
            unfold F_X4_spread_52 pg_let
            rw [nI_1]
          rw [F_X4_spread_20]
          dsimp only
          rw [if_pos (show nI i < (12 : Int32) from nI_lt (b := 12) hi (by decide)), bit12 _ hi, if_b1]
          cases q : F i with
          | true =>
            rw [if_pos rfl, nR_50_7 L.kd L.rd, Option.bind_some, na_58 L.kd hi, Option.bind_some, f52, hN i hi, ix_and, mk_and, ix_or, mk_or]
            rw [show mk 12 (fun j => nbr G N F i j || (N i j && G j)) = mk 12 (nbr G N F (i + 1)) from mk_cong (fun j _ => by rw [nbr_succ, q, Bool.true_and])]
          | false =>
            rw [if_neg (by decide), f52, show (0 : Int32) = nI 0 from rfl, ix_or, Nat.or_zero]
            rw [show mk 12 (nbr G N F i) = mk 12 (nbr G N F (i + 1)) from mk_cong (fun j _ => by rw [nbr_succ, q, Bool.false_and, Bool.or_false])]
        · intro f2 _ _
          show F_X4_spread_20 h (F_X4_spread_7 h f) (f2 + 1) 50 (nI (mk 12 G)) (nI (mk 12 (nbr G N F 12))) (nI r) (nI (mk 12 F)) (nI 12) = _
          rw [F_X4_spread_20]
          dsimp only
          rw [if_neg (show ¬ nI 12 < (12 : Int32) by decide), nI_1]
      exact key _ e0
    rw [z]
    by_cases e : nI (mk 12 (nbr G N F 12)) = nI (mk 12 F)
    · right
      rw [if_pos e]
      have ej := nI_mk_eq.mp e
      refine ⟨nbr G N F 12, rfl, fun j hj => ⟨fun q => F2 j hj (by rw [← ej j hj]; exact q), fun q => ?_⟩⟩
      rw [ej j hj]
      refine (q (fun x => F x = true ∧ x < 12) ⟨F1, hc⟩ (fun a b p gb n => ⟨?_, hG b gb⟩)).1
      rw [← ej b (hG b gb)]
      unfold nbr
      rw [anyN_true.mpr ⟨a, p.2, by rw [p.1, n, gb]; rfl⟩, Bool.or_true]
    · left
      rw [if_neg e]
      refine ⟨nbr G N F 12, rfl, sub c hc F1, fun j hj q => ?_, ?_⟩
      · unfold nbr at q
        rw [Bool.or_eq_true] at q
        rcases q with q | q
        · exact F2 j hj q
        · obtain ⟨a, ha, q⟩ := anyN_true.mp q
          rw [Bool.and_eq_true, Bool.and_eq_true] at q
          exact (F2 a ha q.1).step q.2.2 q.2.1
      · have ne : ¬ ∀ j, j < 12 → nbr G N F 12 j = F j := fun z => e (nI_mk_eq.mpr z)
        have ex : ∃ j, j < 12 ∧ F j = false ∧ nbr G N F 12 j = true := by
          by_cases q : ∃ j, j < 12 ∧ F j = false ∧ nbr G N F 12 j = true
          · exact q
          · refine absurd (fun j hj => ?_) ne
            cases fj : F j with
            | true => exact sub j hj fj
            | false =>
              cases gj : nbr G N F 12 j with
              | false => rfl
              | true => exact absurd ⟨j, hj, fj, gj⟩ q
        obtain ⟨j, hj, j0, j1⟩ := ex
        have lt : cntB F < cntB (nbr G N F 12) := cntB_lt hj sub j0 j1
        omega
  · intro f F ⟨_, _, F3⟩
    have : cntB F ≤ 12 * 1 := sumN_le (fun i _ => by cases F i <;> decide)
    omega
  · have e := of_decide_eq_true q
    subst e
    exact Rc.self
  · have : cntB (fun i => decide (i = c)) = sumN 12 fun i => if i = c then 1 else 0 := sumN_cong (fun i _ => by
      by_cases e : i = c
      · rw [if_pos e]
        exact if_pos (decide_eq_true e)
      · rw [if_neg e]
        exact if_neg (fun z => e (of_decide_eq_true z)))
    rw [this, sumN_one hc]
    omega
end FAM
