/-! PIECES STAY where their rows stay -/
section PIECES
variable {S : List Nat} {T : List (Nat × Nat)} {h h' : pg_H}
theorem ScOK.ch (p : ScOK h) (a : Ch S T h h') (q : dis S T [80, 82] [(1, 11), (1, 12), (1, 13), (81, 0), (81, 6), (81, 11)]) : ScOK h' := by
  unfold ScOK
  rw [a.atM q (r := 1) (k := 11) (by decide), a.atM q (r := 1) (k := 12) (by decide), a.atM q (r := 1) (k := 13) (by decide), a.atM q (r := 81) (k := 0) (by decide), a.atM q (r := 81) (k := 6) (by decide), a.atM q (r := 81) (k := 11) (by decide), (a.rowM q (r := 80) (by decide)).1, (a.rowM q (r := 82) (by decide)).1]
  exact p
theorem TpOK.ch (p : TpOK h) (a : Ch S T h h') (q : dis S T [44, 87] [(43, 1), (81, 10)]) : TpOK h' := by
  unfold TpOK
  rw [a.atM q (r := 43) (k := 1) (by decide), a.atM q (r := 81) (k := 10) (by decide), (a.rowM q (r := 44) (by decide)).1, (a.rowM q (r := 87) (by decide)).1]
  exact p
theorem WOK.ch (p : WOK h) (a : Ch S T h h') (q : dis S T [77, 78, 79, 107, 108, 109] [(76, 3), (81, 44)]) : WOK h' := by
  unfold WOK RefOK
  rw [a.kk, a.rr, a.1, a.atM q (r := 76) (k := 3) (by decide), a.atM q (r := 81) (k := 44) (by decide), (a.rowM q (r := 77) (by decide)).1, (a.rowM q (r := 78) (by decide)).1, (a.rowM q (r := 79) (by decide)).1, (a.rowM q (r := 107) (by decide)).1, (a.rowM q (r := 108) (by decide)).1, (a.rowM q (r := 109) (by decide)).1]
  exact p
def lowST (S : List Nat) (T : List (Nat × Nat)) : Bool := (S.all fun r => decide (r < 110)) && T.all fun z => decide (z.1 < 110)
theorem Ch.high (a : Ch S T h h') (q : lowST S T) {r : Nat} (hr : 110 ≤ r) : pg_i h' r = pg_i h r := by
  unfold lowST at q
  rw [Bool.and_eq_true, List.all_eq_true, List.all_eq_true] at q
  refine Mod.row a r (fun k w => ?_)
  rcases w with w | w
  · have z := of_decide_eq_true (q.1 r w)
    omega
  · have z := of_decide_eq_true (q.2 _ w)
    dsimp only at z
    omega
theorem CText.same {r : Nat} {x : tX} (p : CText h r x) (s : sameT h h' r) (hn : h.1 ≤ h'.1) : CText h' r x := by
  obtain ⟨⟨p1, p2, p3, p4, p5⟩, p6⟩ := p
  obtain ⟨s1, s2, s3, s4⟩ := s
  refine ⟨⟨p1, by omega, by rw [s2]; exact p3, by rw [s2]; omega, by rw [s1]; exact p5⟩, fun g L t => p6 g L ?_⟩
  obtain ⟨t1, t2, t3, t4⟩ := t
  rw [s2] at t3 t4
  exact ⟨t1.trans s1, t2.trans s2, t3.trans s3, t4.trans s4⟩
theorem CText.ch {r : Nat} {x : tX} (p : CText h r x) (a : Ch S T h h') (q : lowST S T) : CText h' r x :=
  p.same ⟨by rw [a.kk], by rw [a.rr], by rw [a.kk], a.high q p.1.2.2.1⟩ (Nat.le_of_eq a.1.symm)
theorem TxAll.ch {b : Nat} {A : Nat → Int32} {X : Nat → tX} (p : TxAll h b A X) (a : Ch S T h h') (q : lowST S T) : TxAll h' b A X := fun t ht => by
  obtain ⟨p1, p2, p3⟩ := p t ht
  refine ⟨p1, ?_, p3⟩
  rw [a.rr]
  exact p2.ch a q
theorem MText.cong {A A' : Nat → Int32} {t : Nat} {x : tX} (p : MText A t x) (e : A' (1350 + t) = A (1350 + t)) (e2 : ∀ k, k < 400 → A' (1358 + 400 * t + k) = A (1358 + 400 * t + k) ∧ A' (4558 + 400 * t + k) = A (4558 + 400 * t + k)) : MText A' t x :=
  fun g L h1 h2 => p g L (h1.trans e) (fun k hk => ⟨(h2 k hk).1.trans (e2 k hk).1, (h2 k hk).2.trans (e2 k hk).2⟩)
theorem TxAll.cong {b : Nat} {A A' : Nat → Int32} {X : Nat → tX} (p : TxAll h b A X) (e : ∀ j, 1350 ≤ j → A' j = A j) (en : A' 1348 = A 1348) : TxAll h b A' X := fun t ht => by
  unfold nT cl at ht
  rw [en] at ht
  obtain ⟨p1, p2, p3⟩ := p t ht
  exact ⟨p1, p2, p3.cong (e _ (by omega)) (fun k _ => ⟨e _ (by omega), e _ (by omega)⟩)⟩
theorem ShX.ch {s : Nat} {A : Nat → Int32} {X : Nat → tX} (p : ShX h s A X) (a : Ch S T h h') (q : dis S T ((List.range 11).map fun i => s + 1 + i) [(s, 7), (s, 8)]) (q2 : lowST S T) : ShX h' s A X :=
  ⟨p.1.ch a q, p.2.1, p.2.2.ch a q2⟩
theorem ImOK.ch {k : Nat} {Y : Nat → tX} (p : ImOK h k Y) (a : Ch S T h h') (q : dis S T ([42, 85, 84] ++ (List.range 11).map fun i => (16 + 13 * k) + 1 + i) [(16 + 13 * k, 7), (16 + 13 * k, 8)]) (q2 : lowST S T) : ImOK h' k Y := by
  unfold ImOK
  rw [(a.rowM q (r := 42) (by simp)).1, (a.rowM q (r := 85) (by simp)).1, (a.rowM q (r := 84) (by simp)).1]
  refine ⟨p.1, ?_⟩
  rcases p.2 with z | ⟨z1, z2⟩
  · exact Or.inl z
  · refine Or.inr ⟨z1, z2.ch a ?_ q2⟩
    unfold dis at q ⊢
    rw [List.all_append, Bool.and_eq_true, Bool.and_eq_true] at q
    rw [Bool.and_eq_true]
    exact ⟨q.1.2, q.2⟩
theorem Rd.ch {A : Nat → Int32} {w : Nat → Nat → Nat} (p : Rd h A w) (a : Ch S T h h') (q : dis S T [51, 52, 53, 54, 55, 56, 57] [(50, 8)]) : Rd h' A w := by
  unfold Rd
  rw [a.atM q (r := 50) (k := 8) (by decide), (a.rowM q (r := 51) (by decide)).1, (a.rowM q (r := 52) (by decide)).1, (a.rowM q (r := 53) (by decide)).1, (a.rowM q (r := 54) (by decide)).1, (a.rowM q (r := 55) (by decide)).1, (a.rowM q (r := 56) (by decide)).1, (a.rowM q (r := 57) (by decide)).1]
  exact p
theorem Stm.ch {A : Nat → Int32} {w : Nat → Nat → Nat} (p : Stm h A w) (a : Ch S T h h') (q : dis S T [60, 66] [(59, 7), (59, 8)]) : Stm h' A w := by
  unfold Stm
  rw [a.atM q (r := 59) (k := 7) (by decide), a.atM q (r := 59) (k := 8) (by decide), (a.rowM q (r := 60) (by decide)).1, (a.rowM q (r := 66) (by decide)).1]
  exact p
theorem Grw.ch {A : Nat → Int32} {w : Nat → Nat → Nat} (p : Grw h A w) (a : Ch S T h h') (q : dis S T [97] [(81, 30)]) : Grw h' A w := by
  unfold Grw
  rw [a.atM q (r := 81) (k := 30) (by decide), (a.rowM q (r := 97) (by decide)).1]
  exact p
theorem ReadOK.ch {A : Nat → Int32} {w : Nat → Nat → Nat} (p : ReadOK h A w) (a : Ch S T h h') (q : dis S T [51, 52, 53, 54, 55, 56, 57] [(50, 8)]) (q2 : dis S T [] [(1, 14)]) : ReadOK h' A w := by
  unfold ReadOK
  rw [a.atM q2 (r := 1) (k := 14) (by decide)]
  exact p.imp id (fun z => ⟨z.1, z.2.ch a q⟩)
theorem StemOK.ch {A : Nat → Int32} {w : Nat → Nat → Nat} (p : StemOK h A w) (a : Ch S T h h') (q : dis S T [60, 66] [(59, 7), (59, 8)]) (q2 : dis S T [] [(1, 15)]) : StemOK h' A w := by
  unfold StemOK
  rw [a.atM q2 (r := 1) (k := 15) (by decide)]
  exact p.imp id (fun z => ⟨z.1, z.2.ch a q⟩)
theorem GrowOK.ch {A : Nat → Int32} {w : Nat → Nat → Nat} (p : GrowOK h A w) (a : Ch S T h h') (q : dis S T [97] [(81, 30)]) (q2 : dis S T [] [(81, 31), (81, 1)]) : GrowOK h' A w := by
  unfold GrowOK
  rw [a.atM q2 (r := 81) (k := 31) (by decide), a.atM q2 (r := 81) (k := 1) (by decide)]
  refine p.imp id (fun z => ?_)
  obtain ⟨g, v, z1, z2, z3, z4, z5⟩ := z
  exact ⟨g, v, z1, z2, z3, z4, fun e => (z5 e).ch a q⟩
/-- the reference goes on by a version: what was kept is old -/
theorem GrowOK.next {A A' : Nat → Int32} {w w' : Nat → Nat → Nat} (p : GrowOK h A w) (e1 : pg_i h' 81 31 = pg_i h 81 31) {v : Nat} (e2 : pg_i h 81 1 = nI v) (e3 : pg_i h' 81 1 = nI (v + 1)) (hv : v < 1000) : GrowOK h' A' w' := by
  unfold GrowOK
  rw [e1, e3]
  rcases p with z | ⟨g, v', z1, z2, z3, z4, z5⟩
  · exact Or.inl z
  · rw [e2] at z2
    have : v = v' := (nI_eq (by omega) (by omega)).mp z2
    subst this
    exact Or.inr ⟨g, v + 1, z1, rfl, by omega, by omega, fun e => by omega⟩
end PIECES
