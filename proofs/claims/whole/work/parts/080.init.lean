/-! THE START: the heap behind both constructors is a closed term; where everything lies (wip/gen/lay.py) -/
def ini1 : Option pg_H := Option.bind (pg_new 11 16 pg_h0) fun v1 => pg_rcv 11 v1.2 v1.1 (F_X11_init v1.1 v1.2)
def ini2 : Option pg_H := Option.bind ini1 fun v2 => Option.bind (pg_new 12 46 v2) fun v3 => pg_rcv 12 v3.2 v3.1 (F_X12_init v3.1 v3.2)
def s0 : pg_H := ini2.getD pg_h0
def layK : List (Nat × Nat) := [(0, 0), (12, 16), (6, 9), (8, 4), (21, 36), (8, 4), (21, 160), (8, 4), (21, 96), (8, 4), (21, 48), (8, 4), (21, 1000), (21, 4), (25, 8), (24, 2), (6, 9), (8, 4), (21, 36), (8, 4), (21, 160), (8, 4), (21, 96), (8, 4), (21, 48), (8, 4), (21, 1000), (21, 4), (25, 8), (6, 9), (8, 4), (21, 36), (8, 4), (21, 160), (8, 4), (21, 96), (8, 4), (21, 48), (8, 4), (21, 1000), (21, 4), (25, 8), (23, 2), (9, 2), (21, 400), (4, 9), (21, 400), (1, 3), (21, 9), (22, 64), (5, 9), (21, 200), (21, 200), (21, 200), (21, 200), (21, 60), (21, 200), (21, 60), (21, 12), (7, 9), (21, 169), (22, 169), (22, 169), (21, 13), (21, 13), (21, 13), (21, 12), (3, 5), (2, 2), (22, 330), (2, 2), (22, 330), (2, 2), (22, 330), (21, 12), (21, 12), (11, 6), (21, 1728), (21, 12), (21, 12), (21, 7), (13, 46), (21, 7), (21, 7758), (21, 15516), (23, 2), (20, 114), (20, 400), (21, 5), (21, 401), (21, 401), (21, 401), (21, 9), (21, 200), (21, 156), (21, 12), (21, 4096), (21, 12), (23, 144), (21, 12), (22, 380), (22, 380), (22, 380), (21, 12), (21, 12), (22, 380), (23, 60), (21, 1728), (21, 12), (21, 12)]
def layR : List (Nat × Nat × Nat) := [(3, 0, 4), (2, 0, 3), (5, 0, 6), (2, 1, 5), (7, 0, 8), (2, 2, 7), (9, 0, 10), (2, 3, 9), (11, 0, 12), (2, 4, 11), (2, 5, 13), (2, 6, 14), (1, 0, 2), (1, 1, 15), (17, 0, 18), (16, 0, 17), (19, 0, 20), (16, 1, 19), (21, 0, 22), (16, 2, 21), (23, 0, 24), (16, 3, 23), (25, 0, 26), (16, 4, 25), (16, 5, 27), (16, 6, 28), (15, 0, 16), (30, 0, 31), (29, 0, 30), (32, 0, 33), (29, 1, 32), (34, 0, 35), (29, 2, 34), (36, 0, 37), (29, 3, 36), (38, 0, 39), (29, 4, 38), (29, 5, 40), (29, 6, 41), (15, 1, 29), (1, 2, 42), (1, 3, 43), (43, 0, 44), (1, 4, 45), (45, 0, 46), (45, 1, 43), (1, 5, 47), (47, 0, 48), (47, 1, 49), (1, 6, 50), (50, 0, 51), (50, 1, 52), (50, 2, 53), (50, 3, 54), (50, 4, 55), (50, 5, 56), (50, 6, 57), (50, 7, 58), (1, 7, 59), (59, 0, 60), (59, 1, 61), (59, 2, 62), (59, 3, 63), (59, 4, 64), (59, 5, 65), (59, 6, 66), (1, 8, 67), (67, 0, 68), (68, 0, 69), (67, 1, 70), (70, 0, 71), (67, 2, 72), (72, 0, 73), (67, 3, 74), (67, 4, 75), (1, 9, 76), (76, 0, 77), (76, 1, 78), (76, 2, 79), (1, 10, 80), (81, 2, 82), (81, 3, 83), (81, 4, 84), (81, 5, 85), (81, 7, 86), (81, 8, 87), (81, 9, 88), (81, 12, 89), (81, 13, 90), (81, 14, 91), (81, 22, 92), (81, 25, 93), (81, 26, 94), (81, 27, 95), (81, 28, 96), (81, 29, 97), (81, 32, 98), (81, 33, 99), (81, 34, 100), (81, 35, 101), (81, 36, 102), (81, 37, 103), (81, 38, 104), (81, 39, 105), (81, 40, 106), (81, 41, 107), (81, 42, 108), (81, 43, 109)]
def layI : List (Nat × Nat × Int32) := [(3, 1, 3), (3, 2, 12), (5, 1, 4), (5, 2, 40), (7, 1, 8), (7, 2, 12), (9, 1, 6), (9, 2, 8), (11, 1, 5), (11, 2, 200), (17, 1, 3), (17, 2, 12), (19, 1, 4), (19, 2, 40), (21, 1, 8), (21, 2, 12), (23, 1, 6), (23, 2, 8), (25, 1, 5), (25, 2, 200), (30, 1, 3), (30, 2, 12), (32, 1, 4), (32, 2, 40), (34, 1, 8), (34, 2, 12), (36, 1, 6), (36, 2, 8), (38, 1, 5), (38, 2, 200)]
/-- where everything lies: never changed -/
def Lay (h : pg_H) : Prop := 109 ≤ h.1 ∧ (∀ r, r < 110 → pg_k h r = layK.getD r (0, 0)) ∧ (∀ q ∈ layR, pg_r h q.1 q.2.1 = q.2.2) ∧ (∀ q ∈ layI, pg_i h q.1 q.2.1 = q.2.2) ∧ ∀ k, k < 114 → pg_i h 86 k = pg_bJ.getD k 0
set_option maxRecDepth 100000 in
theorem ini1_n : (ini1.map fun h => h.1) = some 80 := by decide +kernel
set_option maxRecDepth 100000 in
theorem ini2_n : (ini2.map fun h => h.1) = some 109 := by decide +kernel
set_option maxRecDepth 100000 in
theorem ini2_is : ini2.isSome = true := by decide +kernel
theorem ini2_s0 : ini2 = some s0 := by
  unfold s0
  cases h : ini2 with
  | none => have z := ini2_is; rw [h] at z; cases z
  | some x => rfl
set_option maxRecDepth 100000 in
theorem s0_k : ∀ r, r < 110 → pg_k s0 r = layK.getD r (0, 0) := by decide +kernel
set_option maxRecDepth 100000 in
theorem s0_r : ∀ q ∈ layR, pg_r s0 q.1 q.2.1 = q.2.2 := by decide +kernel
set_option maxRecDepth 100000 in
theorem s0_i : ∀ q ∈ layI, pg_i s0 q.1 q.2.1 = q.2.2 := by decide +kernel
set_option maxRecDepth 100000 in
theorem s0_n : s0.1 = 109 := by decide +kernel
set_option maxRecDepth 100000 in
theorem s0_s : s0.2.1 ≤ 100000 := by decide +kernel
set_option maxRecDepth 100000 in
theorem s0_w : ∀ k, k < 114 → pg_i s0 86 k = pg_bJ.getD k 0 := by decide +kernel
theorem s0_Lay : Lay s0 := ⟨Nat.le_of_eq s0_n.symm, s0_k, s0_r, s0_i, s0_w⟩
/-- the law behind its constructors -/
theorem law_from (sc : Nat × (Nat → Int32)) : F_L_law sc pg_lim pg_h0 = F_L_law_18 sc pg_fuel pg_lim 1 81 0 s0 := by
  have h2 := ini2_s0
  have hn := ini1_n
  unfold ini2 at h2
  obtain ⟨h1, e1, h2⟩ := Option.bind_eq_some_iff.mp h2
  rw [e1] at hn
  have hn : h1.1 = 80 := by injection hn
  have e1' := e1
  unfold ini1 at e1
  unfold F_L_law
  have a1 : pg_new 11 16 pg_h0 = some (1, pg_pu pg_h0 12 16) := rfl
  rw [a1, Option.bind_some] at e1 ⊢
  dsimp only at e1 ⊢
  rw [e1, Option.bind_some]
  have a2 : pg_new 12 46 h1 = some (81, pg_pu h1 13 46) := by
    unfold pg_new
    rw [if_pos (by rw [hn]; decide), hn]
  rw [a2, Option.bind_some] at h2 ⊢
  dsimp only at h2 ⊢
  rw [h2, Option.bind_some]
