/-! THE INVARIANT of class and reference, in one heap -/
theorem Ch.rowM {S : List Nat} {T : List (Nat × Nat)} {h h' : pg_H} (a : Ch S T h h') {R : List Nat} {F : List (Nat × Nat)} (q : dis S T R F) {r : Nat} (hr : r ∈ R) : pg_i h' r = pg_i h r ∧ pg_l h' r = pg_l h r := by
  unfold dis at q
  rw [Bool.and_eq_true, List.all_eq_true, List.all_eq_true] at q
  have z : dis S T [r] [] := by
    unfold dis
    rw [List.all_cons, List.all_nil, List.all_nil, q.1 r hr]
    rfl
  exact ⟨a.row z, a.rowl z⟩
theorem Ch.atM {S : List Nat} {T : List (Nat × Nat)} {h h' : pg_H} (a : Ch S T h h') {R : List Nat} {F : List (Nat × Nat)} (q : dis S T R F) {r k : Nat} (hr : (r, k) ∈ F) : pg_i h' r k = pg_i h r k := by
  unfold dis at q
  rw [Bool.and_eq_true, List.all_eq_true, List.all_eq_true] at q
  have z : dis S T [] [(r, k)] := by
    unfold dis
    rw [List.all_cons, List.all_nil, List.all_nil, q.2 _ hr]
    rfl
  exact (a.at z).1
