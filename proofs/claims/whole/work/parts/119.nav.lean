/-! NAVIGATION UNDER KINDS AND REFERENCES ALONE (wip/gen/nav2.py): simp walks through heaps that were written over -/
def KD (k : Nat → Nat × Nat) : Prop := ∀ r, r < 110 → k r = layK.getD r (0, 0)
def RD (f : Nat → Nat → Nat) : Prop := ∀ q ∈ layR, f q.1 q.2.1 = q.2.2
theorem Lay.kd {h : pg_H} (L : Lay h) : KD (pg_k h) := L.2.1
theorem Lay.rd {h : pg_H} (L : Lay h) : RD (pg_r h) := L.2.2.1
theorem k_si {h : pg_H} {r k : Nat} {x : Int32} : pg_k (pg_si h r k x) = pg_k h := id rfl
theorem k_sl {h : pg_H} {r k : Nat} {x : Int64} : pg_k (pg_sl h r k x) = pg_k h := id rfl
theorem k_sr {h : pg_H} {r k : Nat} {x : Nat} : pg_k (pg_sr h r k x) = pg_k h := id rfl
theorem r_si {h : pg_H} {r k : Nat} {x : Int32} : pg_r (pg_si h r k x) = pg_r h := id rfl
theorem r_sl {h : pg_H} {r k : Nat} {x : Int64} : pg_r (pg_sl h r k x) = pg_r h := id rfl
theorem i_sl {h : pg_H} {r k : Nat} {x : Int64} : pg_i (pg_sl h r k x) = pg_i h := id rfl
theorem i_sr {h : pg_H} {r k : Nat} {x : Nat} : pg_i (pg_sr h r k x) = pg_i h := id rfl
theorem l_si {h : pg_H} {r k : Nat} {x : Int32} : pg_l (pg_si h r k x) = pg_l h := id rfl
theorem l_sr {h : pg_H} {r k : Nat} {x : Nat} : pg_l (pg_sr h r k x) = pg_l h := id rfl
theorem sr_row (h : pg_H) (r k : Nat) (x : Nat) : pg_r (pg_sr h r k x) r = up1 (pg_r h r) k x := by
  funext j
  exact pg_up2_at j
theorem sr_ne {h : pg_H} {r k r' : Nat} {x : Nat} (hr : r' ≠ r) : pg_r (pg_sr h r k x) r' = pg_r h r' := by
  funext j
  exact pg_up2_ne hr j
theorem N_rc {τ : Type} {h : pg_H} {r c : Nat} (D : KD (pg_k h)) (hr : r < 110) (hk : (layK.getD r (0, 0)).1 = c + 1) (G : Option τ) : pg_rcv c h r G = G := by
  unfold pg_rcv
  rw [D r hr, if_pos hk]
theorem N_gR {h : pg_H} {r c k v : Nat} (D : KD (pg_k h)) (R : RD (pg_r h)) (hr : r < 110) (hk : (layK.getD r (0, 0)).1 = c + 1) (hm : (r, k, v) ∈ layR) : pg_gR c k h r = some v := by
  unfold pg_gR
  rw [D r hr, if_pos hk, R _ hm]
theorem N_gI {h : pg_H} {r c k : Nat} (D : KD (pg_k h)) (hr : r < 110) (hk : (layK.getD r (0, 0)).1 = c + 1) : pg_gI c k h r = some (pg_i h r k) := by
  unfold pg_gI
  rw [D r hr, if_pos hk]
theorem N_pI {h : pg_H} {r c k : Nat} {x : Int32} (D : KD (pg_k h)) (hr : r < 110) (hk : (layK.getD r (0, 0)).1 = c + 1) : pg_pI c k h r x = some (pg_si h r k x) := by
  unfold pg_pI
  rw [D r hr, if_pos hk]
theorem N_gL {h : pg_H} {r c k : Nat} (D : KD (pg_k h)) (hr : r < 110) (hk : (layK.getD r (0, 0)).1 = c + 1) : pg_gL c k h r = some (pg_l h r k) := by
  unfold pg_gL
  rw [D r hr, if_pos hk]
theorem N_pL {h : pg_H} {r c k : Nat} {x : Int64} (D : KD (pg_k h)) (hr : r < 110) (hk : (layK.getD r (0, 0)).1 = c + 1) : pg_pL c k h r x = some (pg_sl h r k x) := by
  unfold pg_pL
  rw [D r hr, if_pos hk]
theorem N_pZ {h : pg_H} {r c k : Nat} {x : Int32} (D : KD (pg_k h)) (hr : r < 110) (hk : (layK.getD r (0, 0)).1 = c + 1) (hx : x = 0 ∨ x = 1) : pg_pZ c k h r x = some (pg_si h r k x) := by
  unfold pg_pZ
  rw [D r hr, if_pos ⟨hk, hx⟩]
theorem N_aI {h : pg_H} {r t n : Nat} {j : Nat} (D : KD (pg_k h)) (hr : r < 110) (hk : layK.getD r (0, 0) = (t, n)) (hn : n < 2 ^ 31) (hj : j < n) : pg_aI t h r (nI j) = some (pg_i h r j) := by
  unfold pg_aI
  rw [D r hr, hk, if_pos ⟨rfl, nI_in hj hn⟩, nI_clamp (by omega)]
theorem N_aL {h : pg_H} {r n : Nat} {j : Nat} (D : KD (pg_k h)) (hr : r < 110) (hk : layK.getD r (0, 0) = (22, n)) (hn : n < 2 ^ 31) (hj : j < n) : pg_aL h r (nI j) = some (pg_l h r j) := by
  unfold pg_aL
  rw [D r hr, hk, if_pos ⟨rfl, nI_in hj hn⟩, nI_clamp (by omega)]
theorem N_sI {h : pg_H} {r t n : Nat} {j : Nat} {x : Int32} (D : KD (pg_k h)) (hr : r < 110) (hk : layK.getD r (0, 0) = (t, n)) (hn : n < 2 ^ 31) (hj : j < n) : pg_sI t h r (nI j) x = some (pg_si h r j (pg_nar t x)) := by
  unfold pg_sI
  rw [D r hr, hk, if_pos ⟨rfl, nI_in hj hn⟩, nI_clamp (by omega)]
theorem N_sL {h : pg_H} {r n : Nat} {j : Nat} {x : Int64} (D : KD (pg_k h)) (hr : r < 110) (hk : layK.getD r (0, 0) = (22, n)) (hn : n < 2 ^ 31) (hj : j < n) : pg_sL h r (nI j) x = some (pg_sl h r j x) := by
  unfold pg_sL
  rw [D r hr, hk, if_pos ⟨rfl, nI_in hj hn⟩, nI_clamp (by omega)]
theorem N_len {h : pg_H} {r t n : Nat} (D : KD (pg_k h)) (hr : r < 110) (hk : layK.getD r (0, 0) = (t, n)) (h1 : 20 ≤ t) (h2 : t < 26) : pg_len h r = some (nI n) := by
  unfold pg_len
  rw [D r hr, hk, if_pos ⟨h1, h2⟩]
  rfl
theorem nar_21 (x : Int32) : pg_nar 21 x = x := rfl
theorem nar_20 (x : Int32) : pg_nar 20 x = x.toInt8.toInt32 := rfl
theorem nar_23 (x : Int32) : pg_nar 23 x = x &&& 1 := rfl
theorem nR_3_0 {h : pg_H} (D : KD (pg_k h)) (R : RD (pg_r h)) : pg_gR 7 0 h 3 = some 4 := N_gR D R (by decide) (by decide) (by decide)
theorem nR_2_0 {h : pg_H} (D : KD (pg_k h)) (R : RD (pg_r h)) : pg_gR 5 0 h 2 = some 3 := N_gR D R (by decide) (by decide) (by decide)
theorem nR_5_0 {h : pg_H} (D : KD (pg_k h)) (R : RD (pg_r h)) : pg_gR 7 0 h 5 = some 6 := N_gR D R (by decide) (by decide) (by decide)
theorem nR_2_1 {h : pg_H} (D : KD (pg_k h)) (R : RD (pg_r h)) : pg_gR 5 1 h 2 = some 5 := N_gR D R (by decide) (by decide) (by decide)
theorem nR_7_0 {h : pg_H} (D : KD (pg_k h)) (R : RD (pg_r h)) : pg_gR 7 0 h 7 = some 8 := N_gR D R (by decide) (by decide) (by decide)
theorem nR_2_2 {h : pg_H} (D : KD (pg_k h)) (R : RD (pg_r h)) : pg_gR 5 2 h 2 = some 7 := N_gR D R (by decide) (by decide) (by decide)
theorem nR_9_0 {h : pg_H} (D : KD (pg_k h)) (R : RD (pg_r h)) : pg_gR 7 0 h 9 = some 10 := N_gR D R (by decide) (by decide) (by decide)
theorem nR_2_3 {h : pg_H} (D : KD (pg_k h)) (R : RD (pg_r h)) : pg_gR 5 3 h 2 = some 9 := N_gR D R (by decide) (by decide) (by decide)
theorem nR_11_0 {h : pg_H} (D : KD (pg_k h)) (R : RD (pg_r h)) : pg_gR 7 0 h 11 = some 12 := N_gR D R (by decide) (by decide) (by decide)
theorem nR_2_4 {h : pg_H} (D : KD (pg_k h)) (R : RD (pg_r h)) : pg_gR 5 4 h 2 = some 11 := N_gR D R (by decide) (by decide) (by decide)
theorem nR_2_5 {h : pg_H} (D : KD (pg_k h)) (R : RD (pg_r h)) : pg_gR 5 5 h 2 = some 13 := N_gR D R (by decide) (by decide) (by decide)
theorem nR_2_6 {h : pg_H} (D : KD (pg_k h)) (R : RD (pg_r h)) : pg_gR 5 6 h 2 = some 14 := N_gR D R (by decide) (by decide) (by decide)
theorem nR_1_0 {h : pg_H} (D : KD (pg_k h)) (R : RD (pg_r h)) : pg_gR 11 0 h 1 = some 2 := N_gR D R (by decide) (by decide) (by decide)
theorem nR_1_1 {h : pg_H} (D : KD (pg_k h)) (R : RD (pg_r h)) : pg_gR 11 1 h 1 = some 15 := N_gR D R (by decide) (by decide) (by decide)
theorem nR_17_0 {h : pg_H} (D : KD (pg_k h)) (R : RD (pg_r h)) : pg_gR 7 0 h 17 = some 18 := N_gR D R (by decide) (by decide) (by decide)
theorem nR_16_0 {h : pg_H} (D : KD (pg_k h)) (R : RD (pg_r h)) : pg_gR 5 0 h 16 = some 17 := N_gR D R (by decide) (by decide) (by decide)
theorem nR_19_0 {h : pg_H} (D : KD (pg_k h)) (R : RD (pg_r h)) : pg_gR 7 0 h 19 = some 20 := N_gR D R (by decide) (by decide) (by decide)
theorem nR_16_1 {h : pg_H} (D : KD (pg_k h)) (R : RD (pg_r h)) : pg_gR 5 1 h 16 = some 19 := N_gR D R (by decide) (by decide) (by decide)
theorem nR_21_0 {h : pg_H} (D : KD (pg_k h)) (R : RD (pg_r h)) : pg_gR 7 0 h 21 = some 22 := N_gR D R (by decide) (by decide) (by decide)
theorem nR_16_2 {h : pg_H} (D : KD (pg_k h)) (R : RD (pg_r h)) : pg_gR 5 2 h 16 = some 21 := N_gR D R (by decide) (by decide) (by decide)
theorem nR_23_0 {h : pg_H} (D : KD (pg_k h)) (R : RD (pg_r h)) : pg_gR 7 0 h 23 = some 24 := N_gR D R (by decide) (by decide) (by decide)
theorem nR_16_3 {h : pg_H} (D : KD (pg_k h)) (R : RD (pg_r h)) : pg_gR 5 3 h 16 = some 23 := N_gR D R (by decide) (by decide) (by decide)
theorem nR_25_0 {h : pg_H} (D : KD (pg_k h)) (R : RD (pg_r h)) : pg_gR 7 0 h 25 = some 26 := N_gR D R (by decide) (by decide) (by decide)
theorem nR_16_4 {h : pg_H} (D : KD (pg_k h)) (R : RD (pg_r h)) : pg_gR 5 4 h 16 = some 25 := N_gR D R (by decide) (by decide) (by decide)
theorem nR_16_5 {h : pg_H} (D : KD (pg_k h)) (R : RD (pg_r h)) : pg_gR 5 5 h 16 = some 27 := N_gR D R (by decide) (by decide) (by decide)
theorem nR_16_6 {h : pg_H} (D : KD (pg_k h)) (R : RD (pg_r h)) : pg_gR 5 6 h 16 = some 28 := N_gR D R (by decide) (by decide) (by decide)
theorem nR_30_0 {h : pg_H} (D : KD (pg_k h)) (R : RD (pg_r h)) : pg_gR 7 0 h 30 = some 31 := N_gR D R (by decide) (by decide) (by decide)
theorem nR_29_0 {h : pg_H} (D : KD (pg_k h)) (R : RD (pg_r h)) : pg_gR 5 0 h 29 = some 30 := N_gR D R (by decide) (by decide) (by decide)
theorem nR_32_0 {h : pg_H} (D : KD (pg_k h)) (R : RD (pg_r h)) : pg_gR 7 0 h 32 = some 33 := N_gR D R (by decide) (by decide) (by decide)
theorem nR_29_1 {h : pg_H} (D : KD (pg_k h)) (R : RD (pg_r h)) : pg_gR 5 1 h 29 = some 32 := N_gR D R (by decide) (by decide) (by decide)
theorem nR_34_0 {h : pg_H} (D : KD (pg_k h)) (R : RD (pg_r h)) : pg_gR 7 0 h 34 = some 35 := N_gR D R (by decide) (by decide) (by decide)
theorem nR_29_2 {h : pg_H} (D : KD (pg_k h)) (R : RD (pg_r h)) : pg_gR 5 2 h 29 = some 34 := N_gR D R (by decide) (by decide) (by decide)
theorem nR_36_0 {h : pg_H} (D : KD (pg_k h)) (R : RD (pg_r h)) : pg_gR 7 0 h 36 = some 37 := N_gR D R (by decide) (by decide) (by decide)
theorem nR_29_3 {h : pg_H} (D : KD (pg_k h)) (R : RD (pg_r h)) : pg_gR 5 3 h 29 = some 36 := N_gR D R (by decide) (by decide) (by decide)
theorem nR_38_0 {h : pg_H} (D : KD (pg_k h)) (R : RD (pg_r h)) : pg_gR 7 0 h 38 = some 39 := N_gR D R (by decide) (by decide) (by decide)
theorem nR_29_4 {h : pg_H} (D : KD (pg_k h)) (R : RD (pg_r h)) : pg_gR 5 4 h 29 = some 38 := N_gR D R (by decide) (by decide) (by decide)
theorem nR_29_5 {h : pg_H} (D : KD (pg_k h)) (R : RD (pg_r h)) : pg_gR 5 5 h 29 = some 40 := N_gR D R (by decide) (by decide) (by decide)
theorem nR_29_6 {h : pg_H} (D : KD (pg_k h)) (R : RD (pg_r h)) : pg_gR 5 6 h 29 = some 41 := N_gR D R (by decide) (by decide) (by decide)
theorem nR_1_2 {h : pg_H} (D : KD (pg_k h)) (R : RD (pg_r h)) : pg_gR 11 2 h 1 = some 42 := N_gR D R (by decide) (by decide) (by decide)
theorem nR_1_3 {h : pg_H} (D : KD (pg_k h)) (R : RD (pg_r h)) : pg_gR 11 3 h 1 = some 43 := N_gR D R (by decide) (by decide) (by decide)
theorem nR_43_0 {h : pg_H} (D : KD (pg_k h)) (R : RD (pg_r h)) : pg_gR 8 0 h 43 = some 44 := N_gR D R (by decide) (by decide) (by decide)
theorem nR_1_4 {h : pg_H} (D : KD (pg_k h)) (R : RD (pg_r h)) : pg_gR 11 4 h 1 = some 45 := N_gR D R (by decide) (by decide) (by decide)
theorem nR_45_0 {h : pg_H} (D : KD (pg_k h)) (R : RD (pg_r h)) : pg_gR 3 0 h 45 = some 46 := N_gR D R (by decide) (by decide) (by decide)
theorem nR_45_1 {h : pg_H} (D : KD (pg_k h)) (R : RD (pg_r h)) : pg_gR 3 1 h 45 = some 43 := N_gR D R (by decide) (by decide) (by decide)
theorem nR_1_5 {h : pg_H} (D : KD (pg_k h)) (R : RD (pg_r h)) : pg_gR 11 5 h 1 = some 47 := N_gR D R (by decide) (by decide) (by decide)
theorem nR_47_0 {h : pg_H} (D : KD (pg_k h)) (R : RD (pg_r h)) : pg_gR 0 0 h 47 = some 48 := N_gR D R (by decide) (by decide) (by decide)
theorem nR_47_1 {h : pg_H} (D : KD (pg_k h)) (R : RD (pg_r h)) : pg_gR 0 1 h 47 = some 49 := N_gR D R (by decide) (by decide) (by decide)
theorem nR_1_6 {h : pg_H} (D : KD (pg_k h)) (R : RD (pg_r h)) : pg_gR 11 6 h 1 = some 50 := N_gR D R (by decide) (by decide) (by decide)
theorem nR_50_0 {h : pg_H} (D : KD (pg_k h)) (R : RD (pg_r h)) : pg_gR 4 0 h 50 = some 51 := N_gR D R (by decide) (by decide) (by decide)
theorem nR_50_1 {h : pg_H} (D : KD (pg_k h)) (R : RD (pg_r h)) : pg_gR 4 1 h 50 = some 52 := N_gR D R (by decide) (by decide) (by decide)
theorem nR_50_2 {h : pg_H} (D : KD (pg_k h)) (R : RD (pg_r h)) : pg_gR 4 2 h 50 = some 53 := N_gR D R (by decide) (by decide) (by decide)
theorem nR_50_3 {h : pg_H} (D : KD (pg_k h)) (R : RD (pg_r h)) : pg_gR 4 3 h 50 = some 54 := N_gR D R (by decide) (by decide) (by decide)
theorem nR_50_4 {h : pg_H} (D : KD (pg_k h)) (R : RD (pg_r h)) : pg_gR 4 4 h 50 = some 55 := N_gR D R (by decide) (by decide) (by decide)
theorem nR_50_5 {h : pg_H} (D : KD (pg_k h)) (R : RD (pg_r h)) : pg_gR 4 5 h 50 = some 56 := N_gR D R (by decide) (by decide) (by decide)
theorem nR_50_6 {h : pg_H} (D : KD (pg_k h)) (R : RD (pg_r h)) : pg_gR 4 6 h 50 = some 57 := N_gR D R (by decide) (by decide) (by decide)
theorem nR_50_7 {h : pg_H} (D : KD (pg_k h)) (R : RD (pg_r h)) : pg_gR 4 7 h 50 = some 58 := N_gR D R (by decide) (by decide) (by decide)
theorem nR_1_7 {h : pg_H} (D : KD (pg_k h)) (R : RD (pg_r h)) : pg_gR 11 7 h 1 = some 59 := N_gR D R (by decide) (by decide) (by decide)
theorem nR_59_0 {h : pg_H} (D : KD (pg_k h)) (R : RD (pg_r h)) : pg_gR 6 0 h 59 = some 60 := N_gR D R (by decide) (by decide) (by decide)
theorem nR_59_1 {h : pg_H} (D : KD (pg_k h)) (R : RD (pg_r h)) : pg_gR 6 1 h 59 = some 61 := N_gR D R (by decide) (by decide) (by decide)
theorem nR_59_2 {h : pg_H} (D : KD (pg_k h)) (R : RD (pg_r h)) : pg_gR 6 2 h 59 = some 62 := N_gR D R (by decide) (by decide) (by decide)
theorem nR_59_3 {h : pg_H} (D : KD (pg_k h)) (R : RD (pg_r h)) : pg_gR 6 3 h 59 = some 63 := N_gR D R (by decide) (by decide) (by decide)
theorem nR_59_4 {h : pg_H} (D : KD (pg_k h)) (R : RD (pg_r h)) : pg_gR 6 4 h 59 = some 64 := N_gR D R (by decide) (by decide) (by decide)
theorem nR_59_5 {h : pg_H} (D : KD (pg_k h)) (R : RD (pg_r h)) : pg_gR 6 5 h 59 = some 65 := N_gR D R (by decide) (by decide) (by decide)
theorem nR_59_6 {h : pg_H} (D : KD (pg_k h)) (R : RD (pg_r h)) : pg_gR 6 6 h 59 = some 66 := N_gR D R (by decide) (by decide) (by decide)
theorem nR_1_8 {h : pg_H} (D : KD (pg_k h)) (R : RD (pg_r h)) : pg_gR 11 8 h 1 = some 67 := N_gR D R (by decide) (by decide) (by decide)
theorem nR_67_0 {h : pg_H} (D : KD (pg_k h)) (R : RD (pg_r h)) : pg_gR 2 0 h 67 = some 68 := N_gR D R (by decide) (by decide) (by decide)
theorem nR_68_0 {h : pg_H} (D : KD (pg_k h)) (R : RD (pg_r h)) : pg_gR 1 0 h 68 = some 69 := N_gR D R (by decide) (by decide) (by decide)
theorem nR_67_1 {h : pg_H} (D : KD (pg_k h)) (R : RD (pg_r h)) : pg_gR 2 1 h 67 = some 70 := N_gR D R (by decide) (by decide) (by decide)
theorem nR_70_0 {h : pg_H} (D : KD (pg_k h)) (R : RD (pg_r h)) : pg_gR 1 0 h 70 = some 71 := N_gR D R (by decide) (by decide) (by decide)
theorem nR_67_2 {h : pg_H} (D : KD (pg_k h)) (R : RD (pg_r h)) : pg_gR 2 2 h 67 = some 72 := N_gR D R (by decide) (by decide) (by decide)
theorem nR_72_0 {h : pg_H} (D : KD (pg_k h)) (R : RD (pg_r h)) : pg_gR 1 0 h 72 = some 73 := N_gR D R (by decide) (by decide) (by decide)
theorem nR_67_3 {h : pg_H} (D : KD (pg_k h)) (R : RD (pg_r h)) : pg_gR 2 3 h 67 = some 74 := N_gR D R (by decide) (by decide) (by decide)
theorem nR_67_4 {h : pg_H} (D : KD (pg_k h)) (R : RD (pg_r h)) : pg_gR 2 4 h 67 = some 75 := N_gR D R (by decide) (by decide) (by decide)
theorem nR_1_9 {h : pg_H} (D : KD (pg_k h)) (R : RD (pg_r h)) : pg_gR 11 9 h 1 = some 76 := N_gR D R (by decide) (by decide) (by decide)
theorem nR_76_0 {h : pg_H} (D : KD (pg_k h)) (R : RD (pg_r h)) : pg_gR 10 0 h 76 = some 77 := N_gR D R (by decide) (by decide) (by decide)
theorem nR_76_1 {h : pg_H} (D : KD (pg_k h)) (R : RD (pg_r h)) : pg_gR 10 1 h 76 = some 78 := N_gR D R (by decide) (by decide) (by decide)
theorem nR_76_2 {h : pg_H} (D : KD (pg_k h)) (R : RD (pg_r h)) : pg_gR 10 2 h 76 = some 79 := N_gR D R (by decide) (by decide) (by decide)
theorem nR_1_10 {h : pg_H} (D : KD (pg_k h)) (R : RD (pg_r h)) : pg_gR 11 10 h 1 = some 80 := N_gR D R (by decide) (by decide) (by decide)
theorem nR_81_2 {h : pg_H} (D : KD (pg_k h)) (R : RD (pg_r h)) : pg_gR 12 2 h 81 = some 82 := N_gR D R (by decide) (by decide) (by decide)
theorem nR_81_3 {h : pg_H} (D : KD (pg_k h)) (R : RD (pg_r h)) : pg_gR 12 3 h 81 = some 83 := N_gR D R (by decide) (by decide) (by decide)
theorem nR_81_4 {h : pg_H} (D : KD (pg_k h)) (R : RD (pg_r h)) : pg_gR 12 4 h 81 = some 84 := N_gR D R (by decide) (by decide) (by decide)
theorem nR_81_5 {h : pg_H} (D : KD (pg_k h)) (R : RD (pg_r h)) : pg_gR 12 5 h 81 = some 85 := N_gR D R (by decide) (by decide) (by decide)
theorem nR_81_7 {h : pg_H} (D : KD (pg_k h)) (R : RD (pg_r h)) : pg_gR 12 7 h 81 = some 86 := N_gR D R (by decide) (by decide) (by decide)
theorem nR_81_8 {h : pg_H} (D : KD (pg_k h)) (R : RD (pg_r h)) : pg_gR 12 8 h 81 = some 87 := N_gR D R (by decide) (by decide) (by decide)
theorem nR_81_9 {h : pg_H} (D : KD (pg_k h)) (R : RD (pg_r h)) : pg_gR 12 9 h 81 = some 88 := N_gR D R (by decide) (by decide) (by decide)
theorem nR_81_12 {h : pg_H} (D : KD (pg_k h)) (R : RD (pg_r h)) : pg_gR 12 12 h 81 = some 89 := N_gR D R (by decide) (by decide) (by decide)
theorem nR_81_13 {h : pg_H} (D : KD (pg_k h)) (R : RD (pg_r h)) : pg_gR 12 13 h 81 = some 90 := N_gR D R (by decide) (by decide) (by decide)
theorem nR_81_14 {h : pg_H} (D : KD (pg_k h)) (R : RD (pg_r h)) : pg_gR 12 14 h 81 = some 91 := N_gR D R (by decide) (by decide) (by decide)
theorem nR_81_22 {h : pg_H} (D : KD (pg_k h)) (R : RD (pg_r h)) : pg_gR 12 22 h 81 = some 92 := N_gR D R (by decide) (by decide) (by decide)
theorem nR_81_25 {h : pg_H} (D : KD (pg_k h)) (R : RD (pg_r h)) : pg_gR 12 25 h 81 = some 93 := N_gR D R (by decide) (by decide) (by decide)
theorem nR_81_26 {h : pg_H} (D : KD (pg_k h)) (R : RD (pg_r h)) : pg_gR 12 26 h 81 = some 94 := N_gR D R (by decide) (by decide) (by decide)
theorem nR_81_27 {h : pg_H} (D : KD (pg_k h)) (R : RD (pg_r h)) : pg_gR 12 27 h 81 = some 95 := N_gR D R (by decide) (by decide) (by decide)
theorem nR_81_28 {h : pg_H} (D : KD (pg_k h)) (R : RD (pg_r h)) : pg_gR 12 28 h 81 = some 96 := N_gR D R (by decide) (by decide) (by decide)
theorem nR_81_29 {h : pg_H} (D : KD (pg_k h)) (R : RD (pg_r h)) : pg_gR 12 29 h 81 = some 97 := N_gR D R (by decide) (by decide) (by decide)
theorem nR_81_32 {h : pg_H} (D : KD (pg_k h)) (R : RD (pg_r h)) : pg_gR 12 32 h 81 = some 98 := N_gR D R (by decide) (by decide) (by decide)
theorem nR_81_33 {h : pg_H} (D : KD (pg_k h)) (R : RD (pg_r h)) : pg_gR 12 33 h 81 = some 99 := N_gR D R (by decide) (by decide) (by decide)
theorem nR_81_34 {h : pg_H} (D : KD (pg_k h)) (R : RD (pg_r h)) : pg_gR 12 34 h 81 = some 100 := N_gR D R (by decide) (by decide) (by decide)
theorem nR_81_35 {h : pg_H} (D : KD (pg_k h)) (R : RD (pg_r h)) : pg_gR 12 35 h 81 = some 101 := N_gR D R (by decide) (by decide) (by decide)
theorem nR_81_36 {h : pg_H} (D : KD (pg_k h)) (R : RD (pg_r h)) : pg_gR 12 36 h 81 = some 102 := N_gR D R (by decide) (by decide) (by decide)
theorem nR_81_37 {h : pg_H} (D : KD (pg_k h)) (R : RD (pg_r h)) : pg_gR 12 37 h 81 = some 103 := N_gR D R (by decide) (by decide) (by decide)
theorem nR_81_38 {h : pg_H} (D : KD (pg_k h)) (R : RD (pg_r h)) : pg_gR 12 38 h 81 = some 104 := N_gR D R (by decide) (by decide) (by decide)
theorem nR_81_39 {h : pg_H} (D : KD (pg_k h)) (R : RD (pg_r h)) : pg_gR 12 39 h 81 = some 105 := N_gR D R (by decide) (by decide) (by decide)
theorem nR_81_40 {h : pg_H} (D : KD (pg_k h)) (R : RD (pg_r h)) : pg_gR 12 40 h 81 = some 106 := N_gR D R (by decide) (by decide) (by decide)
theorem nR_81_41 {h : pg_H} (D : KD (pg_k h)) (R : RD (pg_r h)) : pg_gR 12 41 h 81 = some 107 := N_gR D R (by decide) (by decide) (by decide)
theorem nR_81_42 {h : pg_H} (D : KD (pg_k h)) (R : RD (pg_r h)) : pg_gR 12 42 h 81 = some 108 := N_gR D R (by decide) (by decide) (by decide)
theorem nR_81_43 {h : pg_H} (D : KD (pg_k h)) (R : RD (pg_r h)) : pg_gR 12 43 h 81 = some 109 := N_gR D R (by decide) (by decide) (by decide)
theorem nc_1 {τ : Type} {h : pg_H} (D : KD (pg_k h)) (G : Option τ) : pg_rcv 11 h 1 G = G := N_rc D (by decide) (by decide) G
theorem ng_1 {h : pg_H} {k : Nat} (D : KD (pg_k h)) : pg_gI 11 k h 1 = some (pg_i h 1 k) := N_gI D (by decide) (by decide)
theorem np_1 {h : pg_H} {k : Nat} {x : Int32} (D : KD (pg_k h)) : pg_pI 11 k h 1 x = some (pg_si h 1 k x) := N_pI D (by decide) (by decide)
theorem nz0_1 {h : pg_H} {k : Nat} (D : KD (pg_k h)) : pg_pZ 11 k h 1 (0 : Int32) = some (pg_si h 1 k 0) := N_pZ D (by decide) (by decide) (by decide)
theorem nz1_1 {h : pg_H} {k : Nat} (D : KD (pg_k h)) : pg_pZ 11 k h 1 (1 : Int32) = some (pg_si h 1 k 1) := N_pZ D (by decide) (by decide) (by decide)
theorem nzb_1 {h : pg_H} {k : Nat} {b : Bool} (D : KD (pg_k h)) : pg_pZ 11 k h 1 (b01 b) = some (pg_si h 1 k (b01 b)) := N_pZ D (by decide) (by decide) (b01_ok b)
theorem nc_2 {τ : Type} {h : pg_H} (D : KD (pg_k h)) (G : Option τ) : pg_rcv 5 h 2 G = G := N_rc D (by decide) (by decide) G
theorem ng_2 {h : pg_H} {k : Nat} (D : KD (pg_k h)) : pg_gI 5 k h 2 = some (pg_i h 2 k) := N_gI D (by decide) (by decide)
theorem np_2 {h : pg_H} {k : Nat} {x : Int32} (D : KD (pg_k h)) : pg_pI 5 k h 2 x = some (pg_si h 2 k x) := N_pI D (by decide) (by decide)
theorem nc_3 {τ : Type} {h : pg_H} (D : KD (pg_k h)) (G : Option τ) : pg_rcv 7 h 3 G = G := N_rc D (by decide) (by decide) G
theorem ng_3 {h : pg_H} {k : Nat} (D : KD (pg_k h)) : pg_gI 7 k h 3 = some (pg_i h 3 k) := N_gI D (by decide) (by decide)
theorem np_3 {h : pg_H} {k : Nat} {x : Int32} (D : KD (pg_k h)) : pg_pI 7 k h 3 x = some (pg_si h 3 k x) := N_pI D (by decide) (by decide)
theorem na_4 {h : pg_H} {j : Nat} (D : KD (pg_k h)) (hj : j < 36) : pg_aI 21 h 4 (nI j) = some (pg_i h 4 j) := N_aI D (by decide) (show _ = (21, 36) from by decide) (by decide) hj
theorem ns_4 {h : pg_H} {j : Nat} {x : Int32} (D : KD (pg_k h)) (hj : j < 36) : pg_sI 21 h 4 (nI j) x = some (pg_si h 4 j x) := N_sI D (by decide) (show _ = (21, 36) from by decide) (by decide) hj
theorem nl_4 {h : pg_H} (D : KD (pg_k h)) : pg_len h 4 = some (nI 36) := N_len D (by decide) (show _ = (21, 36) from by decide) (by decide) (by decide)
theorem nc_5 {τ : Type} {h : pg_H} (D : KD (pg_k h)) (G : Option τ) : pg_rcv 7 h 5 G = G := N_rc D (by decide) (by decide) G
theorem ng_5 {h : pg_H} {k : Nat} (D : KD (pg_k h)) : pg_gI 7 k h 5 = some (pg_i h 5 k) := N_gI D (by decide) (by decide)
theorem np_5 {h : pg_H} {k : Nat} {x : Int32} (D : KD (pg_k h)) : pg_pI 7 k h 5 x = some (pg_si h 5 k x) := N_pI D (by decide) (by decide)
theorem na_6 {h : pg_H} {j : Nat} (D : KD (pg_k h)) (hj : j < 160) : pg_aI 21 h 6 (nI j) = some (pg_i h 6 j) := N_aI D (by decide) (show _ = (21, 160) from by decide) (by decide) hj
theorem ns_6 {h : pg_H} {j : Nat} {x : Int32} (D : KD (pg_k h)) (hj : j < 160) : pg_sI 21 h 6 (nI j) x = some (pg_si h 6 j x) := N_sI D (by decide) (show _ = (21, 160) from by decide) (by decide) hj
theorem nl_6 {h : pg_H} (D : KD (pg_k h)) : pg_len h 6 = some (nI 160) := N_len D (by decide) (show _ = (21, 160) from by decide) (by decide) (by decide)
theorem nc_7 {τ : Type} {h : pg_H} (D : KD (pg_k h)) (G : Option τ) : pg_rcv 7 h 7 G = G := N_rc D (by decide) (by decide) G
theorem ng_7 {h : pg_H} {k : Nat} (D : KD (pg_k h)) : pg_gI 7 k h 7 = some (pg_i h 7 k) := N_gI D (by decide) (by decide)
theorem np_7 {h : pg_H} {k : Nat} {x : Int32} (D : KD (pg_k h)) : pg_pI 7 k h 7 x = some (pg_si h 7 k x) := N_pI D (by decide) (by decide)
theorem na_8 {h : pg_H} {j : Nat} (D : KD (pg_k h)) (hj : j < 96) : pg_aI 21 h 8 (nI j) = some (pg_i h 8 j) := N_aI D (by decide) (show _ = (21, 96) from by decide) (by decide) hj
theorem ns_8 {h : pg_H} {j : Nat} {x : Int32} (D : KD (pg_k h)) (hj : j < 96) : pg_sI 21 h 8 (nI j) x = some (pg_si h 8 j x) := N_sI D (by decide) (show _ = (21, 96) from by decide) (by decide) hj
theorem nl_8 {h : pg_H} (D : KD (pg_k h)) : pg_len h 8 = some (nI 96) := N_len D (by decide) (show _ = (21, 96) from by decide) (by decide) (by decide)
theorem nc_9 {τ : Type} {h : pg_H} (D : KD (pg_k h)) (G : Option τ) : pg_rcv 7 h 9 G = G := N_rc D (by decide) (by decide) G
theorem ng_9 {h : pg_H} {k : Nat} (D : KD (pg_k h)) : pg_gI 7 k h 9 = some (pg_i h 9 k) := N_gI D (by decide) (by decide)
theorem np_9 {h : pg_H} {k : Nat} {x : Int32} (D : KD (pg_k h)) : pg_pI 7 k h 9 x = some (pg_si h 9 k x) := N_pI D (by decide) (by decide)
theorem na_10 {h : pg_H} {j : Nat} (D : KD (pg_k h)) (hj : j < 48) : pg_aI 21 h 10 (nI j) = some (pg_i h 10 j) := N_aI D (by decide) (show _ = (21, 48) from by decide) (by decide) hj
theorem ns_10 {h : pg_H} {j : Nat} {x : Int32} (D : KD (pg_k h)) (hj : j < 48) : pg_sI 21 h 10 (nI j) x = some (pg_si h 10 j x) := N_sI D (by decide) (show _ = (21, 48) from by decide) (by decide) hj
theorem nl_10 {h : pg_H} (D : KD (pg_k h)) : pg_len h 10 = some (nI 48) := N_len D (by decide) (show _ = (21, 48) from by decide) (by decide) (by decide)
theorem nc_11 {τ : Type} {h : pg_H} (D : KD (pg_k h)) (G : Option τ) : pg_rcv 7 h 11 G = G := N_rc D (by decide) (by decide) G
theorem ng_11 {h : pg_H} {k : Nat} (D : KD (pg_k h)) : pg_gI 7 k h 11 = some (pg_i h 11 k) := N_gI D (by decide) (by decide)
theorem np_11 {h : pg_H} {k : Nat} {x : Int32} (D : KD (pg_k h)) : pg_pI 7 k h 11 x = some (pg_si h 11 k x) := N_pI D (by decide) (by decide)
theorem na_12 {h : pg_H} {j : Nat} (D : KD (pg_k h)) (hj : j < 1000) : pg_aI 21 h 12 (nI j) = some (pg_i h 12 j) := N_aI D (by decide) (show _ = (21, 1000) from by decide) (by decide) hj
theorem ns_12 {h : pg_H} {j : Nat} {x : Int32} (D : KD (pg_k h)) (hj : j < 1000) : pg_sI 21 h 12 (nI j) x = some (pg_si h 12 j x) := N_sI D (by decide) (show _ = (21, 1000) from by decide) (by decide) hj
theorem nl_12 {h : pg_H} (D : KD (pg_k h)) : pg_len h 12 = some (nI 1000) := N_len D (by decide) (show _ = (21, 1000) from by decide) (by decide) (by decide)
theorem na_13 {h : pg_H} {j : Nat} (D : KD (pg_k h)) (hj : j < 4) : pg_aI 21 h 13 (nI j) = some (pg_i h 13 j) := N_aI D (by decide) (show _ = (21, 4) from by decide) (by decide) hj
theorem ns_13 {h : pg_H} {j : Nat} {x : Int32} (D : KD (pg_k h)) (hj : j < 4) : pg_sI 21 h 13 (nI j) x = some (pg_si h 13 j x) := N_sI D (by decide) (show _ = (21, 4) from by decide) (by decide) hj
theorem nl_13 {h : pg_H} (D : KD (pg_k h)) : pg_len h 13 = some (nI 4) := N_len D (by decide) (show _ = (21, 4) from by decide) (by decide) (by decide)
theorem nc_16 {τ : Type} {h : pg_H} (D : KD (pg_k h)) (G : Option τ) : pg_rcv 5 h 16 G = G := N_rc D (by decide) (by decide) G
theorem ng_16 {h : pg_H} {k : Nat} (D : KD (pg_k h)) : pg_gI 5 k h 16 = some (pg_i h 16 k) := N_gI D (by decide) (by decide)
theorem np_16 {h : pg_H} {k : Nat} {x : Int32} (D : KD (pg_k h)) : pg_pI 5 k h 16 x = some (pg_si h 16 k x) := N_pI D (by decide) (by decide)
theorem nc_17 {τ : Type} {h : pg_H} (D : KD (pg_k h)) (G : Option τ) : pg_rcv 7 h 17 G = G := N_rc D (by decide) (by decide) G
theorem ng_17 {h : pg_H} {k : Nat} (D : KD (pg_k h)) : pg_gI 7 k h 17 = some (pg_i h 17 k) := N_gI D (by decide) (by decide)
theorem np_17 {h : pg_H} {k : Nat} {x : Int32} (D : KD (pg_k h)) : pg_pI 7 k h 17 x = some (pg_si h 17 k x) := N_pI D (by decide) (by decide)
theorem na_18 {h : pg_H} {j : Nat} (D : KD (pg_k h)) (hj : j < 36) : pg_aI 21 h 18 (nI j) = some (pg_i h 18 j) := N_aI D (by decide) (show _ = (21, 36) from by decide) (by decide) hj
theorem ns_18 {h : pg_H} {j : Nat} {x : Int32} (D : KD (pg_k h)) (hj : j < 36) : pg_sI 21 h 18 (nI j) x = some (pg_si h 18 j x) := N_sI D (by decide) (show _ = (21, 36) from by decide) (by decide) hj
theorem nl_18 {h : pg_H} (D : KD (pg_k h)) : pg_len h 18 = some (nI 36) := N_len D (by decide) (show _ = (21, 36) from by decide) (by decide) (by decide)
theorem nc_19 {τ : Type} {h : pg_H} (D : KD (pg_k h)) (G : Option τ) : pg_rcv 7 h 19 G = G := N_rc D (by decide) (by decide) G
theorem ng_19 {h : pg_H} {k : Nat} (D : KD (pg_k h)) : pg_gI 7 k h 19 = some (pg_i h 19 k) := N_gI D (by decide) (by decide)
theorem np_19 {h : pg_H} {k : Nat} {x : Int32} (D : KD (pg_k h)) : pg_pI 7 k h 19 x = some (pg_si h 19 k x) := N_pI D (by decide) (by decide)
theorem na_20 {h : pg_H} {j : Nat} (D : KD (pg_k h)) (hj : j < 160) : pg_aI 21 h 20 (nI j) = some (pg_i h 20 j) := N_aI D (by decide) (show _ = (21, 160) from by decide) (by decide) hj
theorem ns_20 {h : pg_H} {j : Nat} {x : Int32} (D : KD (pg_k h)) (hj : j < 160) : pg_sI 21 h 20 (nI j) x = some (pg_si h 20 j x) := N_sI D (by decide) (show _ = (21, 160) from by decide) (by decide) hj
theorem nl_20 {h : pg_H} (D : KD (pg_k h)) : pg_len h 20 = some (nI 160) := N_len D (by decide) (show _ = (21, 160) from by decide) (by decide) (by decide)
theorem nc_21 {τ : Type} {h : pg_H} (D : KD (pg_k h)) (G : Option τ) : pg_rcv 7 h 21 G = G := N_rc D (by decide) (by decide) G
theorem ng_21 {h : pg_H} {k : Nat} (D : KD (pg_k h)) : pg_gI 7 k h 21 = some (pg_i h 21 k) := N_gI D (by decide) (by decide)
theorem np_21 {h : pg_H} {k : Nat} {x : Int32} (D : KD (pg_k h)) : pg_pI 7 k h 21 x = some (pg_si h 21 k x) := N_pI D (by decide) (by decide)
theorem na_22 {h : pg_H} {j : Nat} (D : KD (pg_k h)) (hj : j < 96) : pg_aI 21 h 22 (nI j) = some (pg_i h 22 j) := N_aI D (by decide) (show _ = (21, 96) from by decide) (by decide) hj
theorem ns_22 {h : pg_H} {j : Nat} {x : Int32} (D : KD (pg_k h)) (hj : j < 96) : pg_sI 21 h 22 (nI j) x = some (pg_si h 22 j x) := N_sI D (by decide) (show _ = (21, 96) from by decide) (by decide) hj
theorem nl_22 {h : pg_H} (D : KD (pg_k h)) : pg_len h 22 = some (nI 96) := N_len D (by decide) (show _ = (21, 96) from by decide) (by decide) (by decide)
theorem nc_23 {τ : Type} {h : pg_H} (D : KD (pg_k h)) (G : Option τ) : pg_rcv 7 h 23 G = G := N_rc D (by decide) (by decide) G
theorem ng_23 {h : pg_H} {k : Nat} (D : KD (pg_k h)) : pg_gI 7 k h 23 = some (pg_i h 23 k) := N_gI D (by decide) (by decide)
theorem np_23 {h : pg_H} {k : Nat} {x : Int32} (D : KD (pg_k h)) : pg_pI 7 k h 23 x = some (pg_si h 23 k x) := N_pI D (by decide) (by decide)
theorem na_24 {h : pg_H} {j : Nat} (D : KD (pg_k h)) (hj : j < 48) : pg_aI 21 h 24 (nI j) = some (pg_i h 24 j) := N_aI D (by decide) (show _ = (21, 48) from by decide) (by decide) hj
theorem ns_24 {h : pg_H} {j : Nat} {x : Int32} (D : KD (pg_k h)) (hj : j < 48) : pg_sI 21 h 24 (nI j) x = some (pg_si h 24 j x) := N_sI D (by decide) (show _ = (21, 48) from by decide) (by decide) hj
theorem nl_24 {h : pg_H} (D : KD (pg_k h)) : pg_len h 24 = some (nI 48) := N_len D (by decide) (show _ = (21, 48) from by decide) (by decide) (by decide)
theorem nc_25 {τ : Type} {h : pg_H} (D : KD (pg_k h)) (G : Option τ) : pg_rcv 7 h 25 G = G := N_rc D (by decide) (by decide) G
theorem ng_25 {h : pg_H} {k : Nat} (D : KD (pg_k h)) : pg_gI 7 k h 25 = some (pg_i h 25 k) := N_gI D (by decide) (by decide)
theorem np_25 {h : pg_H} {k : Nat} {x : Int32} (D : KD (pg_k h)) : pg_pI 7 k h 25 x = some (pg_si h 25 k x) := N_pI D (by decide) (by decide)
theorem na_26 {h : pg_H} {j : Nat} (D : KD (pg_k h)) (hj : j < 1000) : pg_aI 21 h 26 (nI j) = some (pg_i h 26 j) := N_aI D (by decide) (show _ = (21, 1000) from by decide) (by decide) hj
theorem ns_26 {h : pg_H} {j : Nat} {x : Int32} (D : KD (pg_k h)) (hj : j < 1000) : pg_sI 21 h 26 (nI j) x = some (pg_si h 26 j x) := N_sI D (by decide) (show _ = (21, 1000) from by decide) (by decide) hj
theorem nl_26 {h : pg_H} (D : KD (pg_k h)) : pg_len h 26 = some (nI 1000) := N_len D (by decide) (show _ = (21, 1000) from by decide) (by decide) (by decide)
theorem na_27 {h : pg_H} {j : Nat} (D : KD (pg_k h)) (hj : j < 4) : pg_aI 21 h 27 (nI j) = some (pg_i h 27 j) := N_aI D (by decide) (show _ = (21, 4) from by decide) (by decide) hj
theorem ns_27 {h : pg_H} {j : Nat} {x : Int32} (D : KD (pg_k h)) (hj : j < 4) : pg_sI 21 h 27 (nI j) x = some (pg_si h 27 j x) := N_sI D (by decide) (show _ = (21, 4) from by decide) (by decide) hj
theorem nl_27 {h : pg_H} (D : KD (pg_k h)) : pg_len h 27 = some (nI 4) := N_len D (by decide) (show _ = (21, 4) from by decide) (by decide) (by decide)
theorem nc_29 {τ : Type} {h : pg_H} (D : KD (pg_k h)) (G : Option τ) : pg_rcv 5 h 29 G = G := N_rc D (by decide) (by decide) G
theorem ng_29 {h : pg_H} {k : Nat} (D : KD (pg_k h)) : pg_gI 5 k h 29 = some (pg_i h 29 k) := N_gI D (by decide) (by decide)
theorem np_29 {h : pg_H} {k : Nat} {x : Int32} (D : KD (pg_k h)) : pg_pI 5 k h 29 x = some (pg_si h 29 k x) := N_pI D (by decide) (by decide)
theorem nc_30 {τ : Type} {h : pg_H} (D : KD (pg_k h)) (G : Option τ) : pg_rcv 7 h 30 G = G := N_rc D (by decide) (by decide) G
theorem ng_30 {h : pg_H} {k : Nat} (D : KD (pg_k h)) : pg_gI 7 k h 30 = some (pg_i h 30 k) := N_gI D (by decide) (by decide)
theorem np_30 {h : pg_H} {k : Nat} {x : Int32} (D : KD (pg_k h)) : pg_pI 7 k h 30 x = some (pg_si h 30 k x) := N_pI D (by decide) (by decide)
theorem na_31 {h : pg_H} {j : Nat} (D : KD (pg_k h)) (hj : j < 36) : pg_aI 21 h 31 (nI j) = some (pg_i h 31 j) := N_aI D (by decide) (show _ = (21, 36) from by decide) (by decide) hj
theorem ns_31 {h : pg_H} {j : Nat} {x : Int32} (D : KD (pg_k h)) (hj : j < 36) : pg_sI 21 h 31 (nI j) x = some (pg_si h 31 j x) := N_sI D (by decide) (show _ = (21, 36) from by decide) (by decide) hj
theorem nl_31 {h : pg_H} (D : KD (pg_k h)) : pg_len h 31 = some (nI 36) := N_len D (by decide) (show _ = (21, 36) from by decide) (by decide) (by decide)
theorem nc_32 {τ : Type} {h : pg_H} (D : KD (pg_k h)) (G : Option τ) : pg_rcv 7 h 32 G = G := N_rc D (by decide) (by decide) G
theorem ng_32 {h : pg_H} {k : Nat} (D : KD (pg_k h)) : pg_gI 7 k h 32 = some (pg_i h 32 k) := N_gI D (by decide) (by decide)
theorem np_32 {h : pg_H} {k : Nat} {x : Int32} (D : KD (pg_k h)) : pg_pI 7 k h 32 x = some (pg_si h 32 k x) := N_pI D (by decide) (by decide)
theorem na_33 {h : pg_H} {j : Nat} (D : KD (pg_k h)) (hj : j < 160) : pg_aI 21 h 33 (nI j) = some (pg_i h 33 j) := N_aI D (by decide) (show _ = (21, 160) from by decide) (by decide) hj
theorem ns_33 {h : pg_H} {j : Nat} {x : Int32} (D : KD (pg_k h)) (hj : j < 160) : pg_sI 21 h 33 (nI j) x = some (pg_si h 33 j x) := N_sI D (by decide) (show _ = (21, 160) from by decide) (by decide) hj
theorem nl_33 {h : pg_H} (D : KD (pg_k h)) : pg_len h 33 = some (nI 160) := N_len D (by decide) (show _ = (21, 160) from by decide) (by decide) (by decide)
theorem nc_34 {τ : Type} {h : pg_H} (D : KD (pg_k h)) (G : Option τ) : pg_rcv 7 h 34 G = G := N_rc D (by decide) (by decide) G
theorem ng_34 {h : pg_H} {k : Nat} (D : KD (pg_k h)) : pg_gI 7 k h 34 = some (pg_i h 34 k) := N_gI D (by decide) (by decide)
theorem np_34 {h : pg_H} {k : Nat} {x : Int32} (D : KD (pg_k h)) : pg_pI 7 k h 34 x = some (pg_si h 34 k x) := N_pI D (by decide) (by decide)
theorem na_35 {h : pg_H} {j : Nat} (D : KD (pg_k h)) (hj : j < 96) : pg_aI 21 h 35 (nI j) = some (pg_i h 35 j) := N_aI D (by decide) (show _ = (21, 96) from by decide) (by decide) hj
theorem ns_35 {h : pg_H} {j : Nat} {x : Int32} (D : KD (pg_k h)) (hj : j < 96) : pg_sI 21 h 35 (nI j) x = some (pg_si h 35 j x) := N_sI D (by decide) (show _ = (21, 96) from by decide) (by decide) hj
theorem nl_35 {h : pg_H} (D : KD (pg_k h)) : pg_len h 35 = some (nI 96) := N_len D (by decide) (show _ = (21, 96) from by decide) (by decide) (by decide)
theorem nc_36 {τ : Type} {h : pg_H} (D : KD (pg_k h)) (G : Option τ) : pg_rcv 7 h 36 G = G := N_rc D (by decide) (by decide) G
theorem ng_36 {h : pg_H} {k : Nat} (D : KD (pg_k h)) : pg_gI 7 k h 36 = some (pg_i h 36 k) := N_gI D (by decide) (by decide)
theorem np_36 {h : pg_H} {k : Nat} {x : Int32} (D : KD (pg_k h)) : pg_pI 7 k h 36 x = some (pg_si h 36 k x) := N_pI D (by decide) (by decide)
theorem na_37 {h : pg_H} {j : Nat} (D : KD (pg_k h)) (hj : j < 48) : pg_aI 21 h 37 (nI j) = some (pg_i h 37 j) := N_aI D (by decide) (show _ = (21, 48) from by decide) (by decide) hj
theorem ns_37 {h : pg_H} {j : Nat} {x : Int32} (D : KD (pg_k h)) (hj : j < 48) : pg_sI 21 h 37 (nI j) x = some (pg_si h 37 j x) := N_sI D (by decide) (show _ = (21, 48) from by decide) (by decide) hj
theorem nl_37 {h : pg_H} (D : KD (pg_k h)) : pg_len h 37 = some (nI 48) := N_len D (by decide) (show _ = (21, 48) from by decide) (by decide) (by decide)
theorem nc_38 {τ : Type} {h : pg_H} (D : KD (pg_k h)) (G : Option τ) : pg_rcv 7 h 38 G = G := N_rc D (by decide) (by decide) G
theorem ng_38 {h : pg_H} {k : Nat} (D : KD (pg_k h)) : pg_gI 7 k h 38 = some (pg_i h 38 k) := N_gI D (by decide) (by decide)
theorem np_38 {h : pg_H} {k : Nat} {x : Int32} (D : KD (pg_k h)) : pg_pI 7 k h 38 x = some (pg_si h 38 k x) := N_pI D (by decide) (by decide)
theorem na_39 {h : pg_H} {j : Nat} (D : KD (pg_k h)) (hj : j < 1000) : pg_aI 21 h 39 (nI j) = some (pg_i h 39 j) := N_aI D (by decide) (show _ = (21, 1000) from by decide) (by decide) hj
theorem ns_39 {h : pg_H} {j : Nat} {x : Int32} (D : KD (pg_k h)) (hj : j < 1000) : pg_sI 21 h 39 (nI j) x = some (pg_si h 39 j x) := N_sI D (by decide) (show _ = (21, 1000) from by decide) (by decide) hj
theorem nl_39 {h : pg_H} (D : KD (pg_k h)) : pg_len h 39 = some (nI 1000) := N_len D (by decide) (show _ = (21, 1000) from by decide) (by decide) (by decide)
theorem na_40 {h : pg_H} {j : Nat} (D : KD (pg_k h)) (hj : j < 4) : pg_aI 21 h 40 (nI j) = some (pg_i h 40 j) := N_aI D (by decide) (show _ = (21, 4) from by decide) (by decide) hj
theorem ns_40 {h : pg_H} {j : Nat} {x : Int32} (D : KD (pg_k h)) (hj : j < 4) : pg_sI 21 h 40 (nI j) x = some (pg_si h 40 j x) := N_sI D (by decide) (show _ = (21, 4) from by decide) (by decide) hj
theorem nl_40 {h : pg_H} (D : KD (pg_k h)) : pg_len h 40 = some (nI 4) := N_len D (by decide) (show _ = (21, 4) from by decide) (by decide) (by decide)
theorem na_42 {h : pg_H} {j : Nat} (D : KD (pg_k h)) (hj : j < 2) : pg_aI 23 h 42 (nI j) = some (pg_i h 42 j) := N_aI D (by decide) (show _ = (23, 2) from by decide) (by decide) hj
theorem ns_42 {h : pg_H} {j : Nat} {x : Int32} (D : KD (pg_k h)) (hj : j < 2) : pg_sI 23 h 42 (nI j) x = some (pg_si h 42 j (x &&& 1)) := N_sI D (by decide) (show _ = (23, 2) from by decide) (by decide) hj
theorem nl_42 {h : pg_H} (D : KD (pg_k h)) : pg_len h 42 = some (nI 2) := N_len D (by decide) (show _ = (23, 2) from by decide) (by decide) (by decide)
theorem nc_43 {τ : Type} {h : pg_H} (D : KD (pg_k h)) (G : Option τ) : pg_rcv 8 h 43 G = G := N_rc D (by decide) (by decide) G
theorem ng_43 {h : pg_H} {k : Nat} (D : KD (pg_k h)) : pg_gI 8 k h 43 = some (pg_i h 43 k) := N_gI D (by decide) (by decide)
theorem np_43 {h : pg_H} {k : Nat} {x : Int32} (D : KD (pg_k h)) : pg_pI 8 k h 43 x = some (pg_si h 43 k x) := N_pI D (by decide) (by decide)
theorem na_44 {h : pg_H} {j : Nat} (D : KD (pg_k h)) (hj : j < 400) : pg_aI 21 h 44 (nI j) = some (pg_i h 44 j) := N_aI D (by decide) (show _ = (21, 400) from by decide) (by decide) hj
theorem ns_44 {h : pg_H} {j : Nat} {x : Int32} (D : KD (pg_k h)) (hj : j < 400) : pg_sI 21 h 44 (nI j) x = some (pg_si h 44 j x) := N_sI D (by decide) (show _ = (21, 400) from by decide) (by decide) hj
theorem nl_44 {h : pg_H} (D : KD (pg_k h)) : pg_len h 44 = some (nI 400) := N_len D (by decide) (show _ = (21, 400) from by decide) (by decide) (by decide)
theorem nc_45 {τ : Type} {h : pg_H} (D : KD (pg_k h)) (G : Option τ) : pg_rcv 3 h 45 G = G := N_rc D (by decide) (by decide) G
theorem ng_45 {h : pg_H} {k : Nat} (D : KD (pg_k h)) : pg_gI 3 k h 45 = some (pg_i h 45 k) := N_gI D (by decide) (by decide)
theorem np_45 {h : pg_H} {k : Nat} {x : Int32} (D : KD (pg_k h)) : pg_pI 3 k h 45 x = some (pg_si h 45 k x) := N_pI D (by decide) (by decide)
theorem na_46 {h : pg_H} {j : Nat} (D : KD (pg_k h)) (hj : j < 400) : pg_aI 21 h 46 (nI j) = some (pg_i h 46 j) := N_aI D (by decide) (show _ = (21, 400) from by decide) (by decide) hj
theorem ns_46 {h : pg_H} {j : Nat} {x : Int32} (D : KD (pg_k h)) (hj : j < 400) : pg_sI 21 h 46 (nI j) x = some (pg_si h 46 j x) := N_sI D (by decide) (show _ = (21, 400) from by decide) (by decide) hj
theorem nl_46 {h : pg_H} (D : KD (pg_k h)) : pg_len h 46 = some (nI 400) := N_len D (by decide) (show _ = (21, 400) from by decide) (by decide) (by decide)
theorem nc_47 {τ : Type} {h : pg_H} (D : KD (pg_k h)) (G : Option τ) : pg_rcv 0 h 47 G = G := N_rc D (by decide) (by decide) G
theorem ng_47 {h : pg_H} {k : Nat} (D : KD (pg_k h)) : pg_gI 0 k h 47 = some (pg_i h 47 k) := N_gI D (by decide) (by decide)
theorem np_47 {h : pg_H} {k : Nat} {x : Int32} (D : KD (pg_k h)) : pg_pI 0 k h 47 x = some (pg_si h 47 k x) := N_pI D (by decide) (by decide)
theorem nz0_47 {h : pg_H} {k : Nat} (D : KD (pg_k h)) : pg_pZ 0 k h 47 (0 : Int32) = some (pg_si h 47 k 0) := N_pZ D (by decide) (by decide) (by decide)
theorem nz1_47 {h : pg_H} {k : Nat} (D : KD (pg_k h)) : pg_pZ 0 k h 47 (1 : Int32) = some (pg_si h 47 k 1) := N_pZ D (by decide) (by decide) (by decide)
theorem nzb_47 {h : pg_H} {k : Nat} {b : Bool} (D : KD (pg_k h)) : pg_pZ 0 k h 47 (b01 b) = some (pg_si h 47 k (b01 b)) := N_pZ D (by decide) (by decide) (b01_ok b)
theorem na_48 {h : pg_H} {j : Nat} (D : KD (pg_k h)) (hj : j < 9) : pg_aI 21 h 48 (nI j) = some (pg_i h 48 j) := N_aI D (by decide) (show _ = (21, 9) from by decide) (by decide) hj
theorem ns_48 {h : pg_H} {j : Nat} {x : Int32} (D : KD (pg_k h)) (hj : j < 9) : pg_sI 21 h 48 (nI j) x = some (pg_si h 48 j x) := N_sI D (by decide) (show _ = (21, 9) from by decide) (by decide) hj
theorem nl_48 {h : pg_H} (D : KD (pg_k h)) : pg_len h 48 = some (nI 9) := N_len D (by decide) (show _ = (21, 9) from by decide) (by decide) (by decide)
theorem na_48_0 {h : pg_H} (D : KD (pg_k h)) : pg_aI 21 h 48 (0 : Int32) = some (pg_i h 48 0) := na_48 (j := 0) D (by decide)
theorem ns_48_0 {h : pg_H} {x : Int32} (D : KD (pg_k h)) : pg_sI 21 h 48 (0 : Int32) x = some (pg_si h 48 0 x) := ns_48 (j := 0) D (by decide)
theorem na_48_1 {h : pg_H} (D : KD (pg_k h)) : pg_aI 21 h 48 (1 : Int32) = some (pg_i h 48 1) := na_48 (j := 1) D (by decide)
theorem ns_48_1 {h : pg_H} {x : Int32} (D : KD (pg_k h)) : pg_sI 21 h 48 (1 : Int32) x = some (pg_si h 48 1 x) := ns_48 (j := 1) D (by decide)
theorem na_48_2 {h : pg_H} (D : KD (pg_k h)) : pg_aI 21 h 48 (2 : Int32) = some (pg_i h 48 2) := na_48 (j := 2) D (by decide)
theorem ns_48_2 {h : pg_H} {x : Int32} (D : KD (pg_k h)) : pg_sI 21 h 48 (2 : Int32) x = some (pg_si h 48 2 x) := ns_48 (j := 2) D (by decide)
theorem na_48_3 {h : pg_H} (D : KD (pg_k h)) : pg_aI 21 h 48 (3 : Int32) = some (pg_i h 48 3) := na_48 (j := 3) D (by decide)
theorem ns_48_3 {h : pg_H} {x : Int32} (D : KD (pg_k h)) : pg_sI 21 h 48 (3 : Int32) x = some (pg_si h 48 3 x) := ns_48 (j := 3) D (by decide)
theorem na_48_4 {h : pg_H} (D : KD (pg_k h)) : pg_aI 21 h 48 (4 : Int32) = some (pg_i h 48 4) := na_48 (j := 4) D (by decide)
theorem ns_48_4 {h : pg_H} {x : Int32} (D : KD (pg_k h)) : pg_sI 21 h 48 (4 : Int32) x = some (pg_si h 48 4 x) := ns_48 (j := 4) D (by decide)
theorem na_48_5 {h : pg_H} (D : KD (pg_k h)) : pg_aI 21 h 48 (5 : Int32) = some (pg_i h 48 5) := na_48 (j := 5) D (by decide)
theorem ns_48_5 {h : pg_H} {x : Int32} (D : KD (pg_k h)) : pg_sI 21 h 48 (5 : Int32) x = some (pg_si h 48 5 x) := ns_48 (j := 5) D (by decide)
theorem na_48_6 {h : pg_H} (D : KD (pg_k h)) : pg_aI 21 h 48 (6 : Int32) = some (pg_i h 48 6) := na_48 (j := 6) D (by decide)
theorem ns_48_6 {h : pg_H} {x : Int32} (D : KD (pg_k h)) : pg_sI 21 h 48 (6 : Int32) x = some (pg_si h 48 6 x) := ns_48 (j := 6) D (by decide)
theorem na_48_7 {h : pg_H} (D : KD (pg_k h)) : pg_aI 21 h 48 (7 : Int32) = some (pg_i h 48 7) := na_48 (j := 7) D (by decide)
theorem ns_48_7 {h : pg_H} {x : Int32} (D : KD (pg_k h)) : pg_sI 21 h 48 (7 : Int32) x = some (pg_si h 48 7 x) := ns_48 (j := 7) D (by decide)
theorem na_48_8 {h : pg_H} (D : KD (pg_k h)) : pg_aI 21 h 48 (8 : Int32) = some (pg_i h 48 8) := na_48 (j := 8) D (by decide)
theorem ns_48_8 {h : pg_H} {x : Int32} (D : KD (pg_k h)) : pg_sI 21 h 48 (8 : Int32) x = some (pg_si h 48 8 x) := ns_48 (j := 8) D (by decide)
theorem na_49 {h : pg_H} {j : Nat} (D : KD (pg_k h)) (hj : j < 64) : pg_aL h 49 (nI j) = some (pg_l h 49 j) := N_aL D (by decide) (show _ = (22, 64) from by decide) (by decide) hj
theorem ns_49 {h : pg_H} {j : Nat} {x : Int64} (D : KD (pg_k h)) (hj : j < 64) : pg_sL h 49 (nI j) x = some (pg_sl h 49 j x) := N_sL D (by decide) (show _ = (22, 64) from by decide) (by decide) hj
theorem nl_49 {h : pg_H} (D : KD (pg_k h)) : pg_len h 49 = some (nI 64) := N_len D (by decide) (show _ = (22, 64) from by decide) (by decide) (by decide)
theorem nc_50 {τ : Type} {h : pg_H} (D : KD (pg_k h)) (G : Option τ) : pg_rcv 4 h 50 G = G := N_rc D (by decide) (by decide) G
theorem ng_50 {h : pg_H} {k : Nat} (D : KD (pg_k h)) : pg_gI 4 k h 50 = some (pg_i h 50 k) := N_gI D (by decide) (by decide)
theorem np_50 {h : pg_H} {k : Nat} {x : Int32} (D : KD (pg_k h)) : pg_pI 4 k h 50 x = some (pg_si h 50 k x) := N_pI D (by decide) (by decide)
theorem na_51 {h : pg_H} {j : Nat} (D : KD (pg_k h)) (hj : j < 200) : pg_aI 21 h 51 (nI j) = some (pg_i h 51 j) := N_aI D (by decide) (show _ = (21, 200) from by decide) (by decide) hj
theorem ns_51 {h : pg_H} {j : Nat} {x : Int32} (D : KD (pg_k h)) (hj : j < 200) : pg_sI 21 h 51 (nI j) x = some (pg_si h 51 j x) := N_sI D (by decide) (show _ = (21, 200) from by decide) (by decide) hj
theorem nl_51 {h : pg_H} (D : KD (pg_k h)) : pg_len h 51 = some (nI 200) := N_len D (by decide) (show _ = (21, 200) from by decide) (by decide) (by decide)
theorem na_52 {h : pg_H} {j : Nat} (D : KD (pg_k h)) (hj : j < 200) : pg_aI 21 h 52 (nI j) = some (pg_i h 52 j) := N_aI D (by decide) (show _ = (21, 200) from by decide) (by decide) hj
theorem ns_52 {h : pg_H} {j : Nat} {x : Int32} (D : KD (pg_k h)) (hj : j < 200) : pg_sI 21 h 52 (nI j) x = some (pg_si h 52 j x) := N_sI D (by decide) (show _ = (21, 200) from by decide) (by decide) hj
theorem nl_52 {h : pg_H} (D : KD (pg_k h)) : pg_len h 52 = some (nI 200) := N_len D (by decide) (show _ = (21, 200) from by decide) (by decide) (by decide)
theorem na_53 {h : pg_H} {j : Nat} (D : KD (pg_k h)) (hj : j < 200) : pg_aI 21 h 53 (nI j) = some (pg_i h 53 j) := N_aI D (by decide) (show _ = (21, 200) from by decide) (by decide) hj
theorem ns_53 {h : pg_H} {j : Nat} {x : Int32} (D : KD (pg_k h)) (hj : j < 200) : pg_sI 21 h 53 (nI j) x = some (pg_si h 53 j x) := N_sI D (by decide) (show _ = (21, 200) from by decide) (by decide) hj
theorem nl_53 {h : pg_H} (D : KD (pg_k h)) : pg_len h 53 = some (nI 200) := N_len D (by decide) (show _ = (21, 200) from by decide) (by decide) (by decide)
theorem na_54 {h : pg_H} {j : Nat} (D : KD (pg_k h)) (hj : j < 200) : pg_aI 21 h 54 (nI j) = some (pg_i h 54 j) := N_aI D (by decide) (show _ = (21, 200) from by decide) (by decide) hj
theorem ns_54 {h : pg_H} {j : Nat} {x : Int32} (D : KD (pg_k h)) (hj : j < 200) : pg_sI 21 h 54 (nI j) x = some (pg_si h 54 j x) := N_sI D (by decide) (show _ = (21, 200) from by decide) (by decide) hj
theorem nl_54 {h : pg_H} (D : KD (pg_k h)) : pg_len h 54 = some (nI 200) := N_len D (by decide) (show _ = (21, 200) from by decide) (by decide) (by decide)
theorem na_55 {h : pg_H} {j : Nat} (D : KD (pg_k h)) (hj : j < 60) : pg_aI 21 h 55 (nI j) = some (pg_i h 55 j) := N_aI D (by decide) (show _ = (21, 60) from by decide) (by decide) hj
theorem ns_55 {h : pg_H} {j : Nat} {x : Int32} (D : KD (pg_k h)) (hj : j < 60) : pg_sI 21 h 55 (nI j) x = some (pg_si h 55 j x) := N_sI D (by decide) (show _ = (21, 60) from by decide) (by decide) hj
theorem nl_55 {h : pg_H} (D : KD (pg_k h)) : pg_len h 55 = some (nI 60) := N_len D (by decide) (show _ = (21, 60) from by decide) (by decide) (by decide)
theorem na_56 {h : pg_H} {j : Nat} (D : KD (pg_k h)) (hj : j < 200) : pg_aI 21 h 56 (nI j) = some (pg_i h 56 j) := N_aI D (by decide) (show _ = (21, 200) from by decide) (by decide) hj
theorem ns_56 {h : pg_H} {j : Nat} {x : Int32} (D : KD (pg_k h)) (hj : j < 200) : pg_sI 21 h 56 (nI j) x = some (pg_si h 56 j x) := N_sI D (by decide) (show _ = (21, 200) from by decide) (by decide) hj
theorem nl_56 {h : pg_H} (D : KD (pg_k h)) : pg_len h 56 = some (nI 200) := N_len D (by decide) (show _ = (21, 200) from by decide) (by decide) (by decide)
theorem na_57 {h : pg_H} {j : Nat} (D : KD (pg_k h)) (hj : j < 60) : pg_aI 21 h 57 (nI j) = some (pg_i h 57 j) := N_aI D (by decide) (show _ = (21, 60) from by decide) (by decide) hj
theorem ns_57 {h : pg_H} {j : Nat} {x : Int32} (D : KD (pg_k h)) (hj : j < 60) : pg_sI 21 h 57 (nI j) x = some (pg_si h 57 j x) := N_sI D (by decide) (show _ = (21, 60) from by decide) (by decide) hj
theorem nl_57 {h : pg_H} (D : KD (pg_k h)) : pg_len h 57 = some (nI 60) := N_len D (by decide) (show _ = (21, 60) from by decide) (by decide) (by decide)
theorem na_58 {h : pg_H} {j : Nat} (D : KD (pg_k h)) (hj : j < 12) : pg_aI 21 h 58 (nI j) = some (pg_i h 58 j) := N_aI D (by decide) (show _ = (21, 12) from by decide) (by decide) hj
theorem ns_58 {h : pg_H} {j : Nat} {x : Int32} (D : KD (pg_k h)) (hj : j < 12) : pg_sI 21 h 58 (nI j) x = some (pg_si h 58 j x) := N_sI D (by decide) (show _ = (21, 12) from by decide) (by decide) hj
theorem nl_58 {h : pg_H} (D : KD (pg_k h)) : pg_len h 58 = some (nI 12) := N_len D (by decide) (show _ = (21, 12) from by decide) (by decide) (by decide)
theorem nc_59 {τ : Type} {h : pg_H} (D : KD (pg_k h)) (G : Option τ) : pg_rcv 6 h 59 G = G := N_rc D (by decide) (by decide) G
theorem ng_59 {h : pg_H} {k : Nat} (D : KD (pg_k h)) : pg_gI 6 k h 59 = some (pg_i h 59 k) := N_gI D (by decide) (by decide)
theorem np_59 {h : pg_H} {k : Nat} {x : Int32} (D : KD (pg_k h)) : pg_pI 6 k h 59 x = some (pg_si h 59 k x) := N_pI D (by decide) (by decide)
theorem na_60 {h : pg_H} {j : Nat} (D : KD (pg_k h)) (hj : j < 169) : pg_aI 21 h 60 (nI j) = some (pg_i h 60 j) := N_aI D (by decide) (show _ = (21, 169) from by decide) (by decide) hj
theorem ns_60 {h : pg_H} {j : Nat} {x : Int32} (D : KD (pg_k h)) (hj : j < 169) : pg_sI 21 h 60 (nI j) x = some (pg_si h 60 j x) := N_sI D (by decide) (show _ = (21, 169) from by decide) (by decide) hj
theorem nl_60 {h : pg_H} (D : KD (pg_k h)) : pg_len h 60 = some (nI 169) := N_len D (by decide) (show _ = (21, 169) from by decide) (by decide) (by decide)
theorem na_61 {h : pg_H} {j : Nat} (D : KD (pg_k h)) (hj : j < 169) : pg_aL h 61 (nI j) = some (pg_l h 61 j) := N_aL D (by decide) (show _ = (22, 169) from by decide) (by decide) hj
theorem ns_61 {h : pg_H} {j : Nat} {x : Int64} (D : KD (pg_k h)) (hj : j < 169) : pg_sL h 61 (nI j) x = some (pg_sl h 61 j x) := N_sL D (by decide) (show _ = (22, 169) from by decide) (by decide) hj
theorem nl_61 {h : pg_H} (D : KD (pg_k h)) : pg_len h 61 = some (nI 169) := N_len D (by decide) (show _ = (22, 169) from by decide) (by decide) (by decide)
theorem na_62 {h : pg_H} {j : Nat} (D : KD (pg_k h)) (hj : j < 169) : pg_aL h 62 (nI j) = some (pg_l h 62 j) := N_aL D (by decide) (show _ = (22, 169) from by decide) (by decide) hj
theorem ns_62 {h : pg_H} {j : Nat} {x : Int64} (D : KD (pg_k h)) (hj : j < 169) : pg_sL h 62 (nI j) x = some (pg_sl h 62 j x) := N_sL D (by decide) (show _ = (22, 169) from by decide) (by decide) hj
theorem nl_62 {h : pg_H} (D : KD (pg_k h)) : pg_len h 62 = some (nI 169) := N_len D (by decide) (show _ = (22, 169) from by decide) (by decide) (by decide)
theorem na_63 {h : pg_H} {j : Nat} (D : KD (pg_k h)) (hj : j < 13) : pg_aI 21 h 63 (nI j) = some (pg_i h 63 j) := N_aI D (by decide) (show _ = (21, 13) from by decide) (by decide) hj
theorem ns_63 {h : pg_H} {j : Nat} {x : Int32} (D : KD (pg_k h)) (hj : j < 13) : pg_sI 21 h 63 (nI j) x = some (pg_si h 63 j x) := N_sI D (by decide) (show _ = (21, 13) from by decide) (by decide) hj
theorem nl_63 {h : pg_H} (D : KD (pg_k h)) : pg_len h 63 = some (nI 13) := N_len D (by decide) (show _ = (21, 13) from by decide) (by decide) (by decide)
theorem na_64 {h : pg_H} {j : Nat} (D : KD (pg_k h)) (hj : j < 13) : pg_aI 21 h 64 (nI j) = some (pg_i h 64 j) := N_aI D (by decide) (show _ = (21, 13) from by decide) (by decide) hj
theorem ns_64 {h : pg_H} {j : Nat} {x : Int32} (D : KD (pg_k h)) (hj : j < 13) : pg_sI 21 h 64 (nI j) x = some (pg_si h 64 j x) := N_sI D (by decide) (show _ = (21, 13) from by decide) (by decide) hj
theorem nl_64 {h : pg_H} (D : KD (pg_k h)) : pg_len h 64 = some (nI 13) := N_len D (by decide) (show _ = (21, 13) from by decide) (by decide) (by decide)
theorem na_65 {h : pg_H} {j : Nat} (D : KD (pg_k h)) (hj : j < 13) : pg_aI 21 h 65 (nI j) = some (pg_i h 65 j) := N_aI D (by decide) (show _ = (21, 13) from by decide) (by decide) hj
theorem ns_65 {h : pg_H} {j : Nat} {x : Int32} (D : KD (pg_k h)) (hj : j < 13) : pg_sI 21 h 65 (nI j) x = some (pg_si h 65 j x) := N_sI D (by decide) (show _ = (21, 13) from by decide) (by decide) hj
theorem nl_65 {h : pg_H} (D : KD (pg_k h)) : pg_len h 65 = some (nI 13) := N_len D (by decide) (show _ = (21, 13) from by decide) (by decide) (by decide)
theorem na_66 {h : pg_H} {j : Nat} (D : KD (pg_k h)) (hj : j < 12) : pg_aI 21 h 66 (nI j) = some (pg_i h 66 j) := N_aI D (by decide) (show _ = (21, 12) from by decide) (by decide) hj
theorem ns_66 {h : pg_H} {j : Nat} {x : Int32} (D : KD (pg_k h)) (hj : j < 12) : pg_sI 21 h 66 (nI j) x = some (pg_si h 66 j x) := N_sI D (by decide) (show _ = (21, 12) from by decide) (by decide) hj
theorem nl_66 {h : pg_H} (D : KD (pg_k h)) : pg_len h 66 = some (nI 12) := N_len D (by decide) (show _ = (21, 12) from by decide) (by decide) (by decide)
theorem nc_67 {τ : Type} {h : pg_H} (D : KD (pg_k h)) (G : Option τ) : pg_rcv 2 h 67 G = G := N_rc D (by decide) (by decide) G
theorem ng_67 {h : pg_H} {k : Nat} (D : KD (pg_k h)) : pg_gI 2 k h 67 = some (pg_i h 67 k) := N_gI D (by decide) (by decide)
theorem np_67 {h : pg_H} {k : Nat} {x : Int32} (D : KD (pg_k h)) : pg_pI 2 k h 67 x = some (pg_si h 67 k x) := N_pI D (by decide) (by decide)
theorem nc_68 {τ : Type} {h : pg_H} (D : KD (pg_k h)) (G : Option τ) : pg_rcv 1 h 68 G = G := N_rc D (by decide) (by decide) G
theorem ng_68 {h : pg_H} {k : Nat} (D : KD (pg_k h)) : pg_gI 1 k h 68 = some (pg_i h 68 k) := N_gI D (by decide) (by decide)
theorem np_68 {h : pg_H} {k : Nat} {x : Int32} (D : KD (pg_k h)) : pg_pI 1 k h 68 x = some (pg_si h 68 k x) := N_pI D (by decide) (by decide)
theorem na_69 {h : pg_H} {j : Nat} (D : KD (pg_k h)) (hj : j < 330) : pg_aL h 69 (nI j) = some (pg_l h 69 j) := N_aL D (by decide) (show _ = (22, 330) from by decide) (by decide) hj
theorem ns_69 {h : pg_H} {j : Nat} {x : Int64} (D : KD (pg_k h)) (hj : j < 330) : pg_sL h 69 (nI j) x = some (pg_sl h 69 j x) := N_sL D (by decide) (show _ = (22, 330) from by decide) (by decide) hj
theorem nl_69 {h : pg_H} (D : KD (pg_k h)) : pg_len h 69 = some (nI 330) := N_len D (by decide) (show _ = (22, 330) from by decide) (by decide) (by decide)
theorem nc_70 {τ : Type} {h : pg_H} (D : KD (pg_k h)) (G : Option τ) : pg_rcv 1 h 70 G = G := N_rc D (by decide) (by decide) G
theorem ng_70 {h : pg_H} {k : Nat} (D : KD (pg_k h)) : pg_gI 1 k h 70 = some (pg_i h 70 k) := N_gI D (by decide) (by decide)
theorem np_70 {h : pg_H} {k : Nat} {x : Int32} (D : KD (pg_k h)) : pg_pI 1 k h 70 x = some (pg_si h 70 k x) := N_pI D (by decide) (by decide)
theorem na_71 {h : pg_H} {j : Nat} (D : KD (pg_k h)) (hj : j < 330) : pg_aL h 71 (nI j) = some (pg_l h 71 j) := N_aL D (by decide) (show _ = (22, 330) from by decide) (by decide) hj
theorem ns_71 {h : pg_H} {j : Nat} {x : Int64} (D : KD (pg_k h)) (hj : j < 330) : pg_sL h 71 (nI j) x = some (pg_sl h 71 j x) := N_sL D (by decide) (show _ = (22, 330) from by decide) (by decide) hj
theorem nl_71 {h : pg_H} (D : KD (pg_k h)) : pg_len h 71 = some (nI 330) := N_len D (by decide) (show _ = (22, 330) from by decide) (by decide) (by decide)
theorem nc_72 {τ : Type} {h : pg_H} (D : KD (pg_k h)) (G : Option τ) : pg_rcv 1 h 72 G = G := N_rc D (by decide) (by decide) G
theorem ng_72 {h : pg_H} {k : Nat} (D : KD (pg_k h)) : pg_gI 1 k h 72 = some (pg_i h 72 k) := N_gI D (by decide) (by decide)
theorem np_72 {h : pg_H} {k : Nat} {x : Int32} (D : KD (pg_k h)) : pg_pI 1 k h 72 x = some (pg_si h 72 k x) := N_pI D (by decide) (by decide)
theorem na_73 {h : pg_H} {j : Nat} (D : KD (pg_k h)) (hj : j < 330) : pg_aL h 73 (nI j) = some (pg_l h 73 j) := N_aL D (by decide) (show _ = (22, 330) from by decide) (by decide) hj
theorem ns_73 {h : pg_H} {j : Nat} {x : Int64} (D : KD (pg_k h)) (hj : j < 330) : pg_sL h 73 (nI j) x = some (pg_sl h 73 j x) := N_sL D (by decide) (show _ = (22, 330) from by decide) (by decide) hj
theorem nl_73 {h : pg_H} (D : KD (pg_k h)) : pg_len h 73 = some (nI 330) := N_len D (by decide) (show _ = (22, 330) from by decide) (by decide) (by decide)
theorem na_74 {h : pg_H} {j : Nat} (D : KD (pg_k h)) (hj : j < 12) : pg_aI 21 h 74 (nI j) = some (pg_i h 74 j) := N_aI D (by decide) (show _ = (21, 12) from by decide) (by decide) hj
theorem ns_74 {h : pg_H} {j : Nat} {x : Int32} (D : KD (pg_k h)) (hj : j < 12) : pg_sI 21 h 74 (nI j) x = some (pg_si h 74 j x) := N_sI D (by decide) (show _ = (21, 12) from by decide) (by decide) hj
theorem nl_74 {h : pg_H} (D : KD (pg_k h)) : pg_len h 74 = some (nI 12) := N_len D (by decide) (show _ = (21, 12) from by decide) (by decide) (by decide)
theorem na_75 {h : pg_H} {j : Nat} (D : KD (pg_k h)) (hj : j < 12) : pg_aI 21 h 75 (nI j) = some (pg_i h 75 j) := N_aI D (by decide) (show _ = (21, 12) from by decide) (by decide) hj
theorem ns_75 {h : pg_H} {j : Nat} {x : Int32} (D : KD (pg_k h)) (hj : j < 12) : pg_sI 21 h 75 (nI j) x = some (pg_si h 75 j x) := N_sI D (by decide) (show _ = (21, 12) from by decide) (by decide) hj
theorem nl_75 {h : pg_H} (D : KD (pg_k h)) : pg_len h 75 = some (nI 12) := N_len D (by decide) (show _ = (21, 12) from by decide) (by decide) (by decide)
theorem nc_76 {τ : Type} {h : pg_H} (D : KD (pg_k h)) (G : Option τ) : pg_rcv 10 h 76 G = G := N_rc D (by decide) (by decide) G
theorem ng_76 {h : pg_H} {k : Nat} (D : KD (pg_k h)) : pg_gI 10 k h 76 = some (pg_i h 76 k) := N_gI D (by decide) (by decide)
theorem np_76 {h : pg_H} {k : Nat} {x : Int32} (D : KD (pg_k h)) : pg_pI 10 k h 76 x = some (pg_si h 76 k x) := N_pI D (by decide) (by decide)
theorem ngl_76 {h : pg_H} {k : Nat} (D : KD (pg_k h)) : pg_gL 10 k h 76 = some (pg_l h 76 k) := N_gL D (by decide) (by decide)
theorem npl_76 {h : pg_H} {k : Nat} {x : Int64} (D : KD (pg_k h)) : pg_pL 10 k h 76 x = some (pg_sl h 76 k x) := N_pL D (by decide) (by decide)
theorem na_77 {h : pg_H} {j : Nat} (D : KD (pg_k h)) (hj : j < 1728) : pg_aI 21 h 77 (nI j) = some (pg_i h 77 j) := N_aI D (by decide) (show _ = (21, 1728) from by decide) (by decide) hj
theorem ns_77 {h : pg_H} {j : Nat} {x : Int32} (D : KD (pg_k h)) (hj : j < 1728) : pg_sI 21 h 77 (nI j) x = some (pg_si h 77 j x) := N_sI D (by decide) (show _ = (21, 1728) from by decide) (by decide) hj
theorem nl_77 {h : pg_H} (D : KD (pg_k h)) : pg_len h 77 = some (nI 1728) := N_len D (by decide) (show _ = (21, 1728) from by decide) (by decide) (by decide)
theorem na_78 {h : pg_H} {j : Nat} (D : KD (pg_k h)) (hj : j < 12) : pg_aI 21 h 78 (nI j) = some (pg_i h 78 j) := N_aI D (by decide) (show _ = (21, 12) from by decide) (by decide) hj
theorem ns_78 {h : pg_H} {j : Nat} {x : Int32} (D : KD (pg_k h)) (hj : j < 12) : pg_sI 21 h 78 (nI j) x = some (pg_si h 78 j x) := N_sI D (by decide) (show _ = (21, 12) from by decide) (by decide) hj
theorem nl_78 {h : pg_H} (D : KD (pg_k h)) : pg_len h 78 = some (nI 12) := N_len D (by decide) (show _ = (21, 12) from by decide) (by decide) (by decide)
theorem na_79 {h : pg_H} {j : Nat} (D : KD (pg_k h)) (hj : j < 12) : pg_aI 21 h 79 (nI j) = some (pg_i h 79 j) := N_aI D (by decide) (show _ = (21, 12) from by decide) (by decide) hj
theorem ns_79 {h : pg_H} {j : Nat} {x : Int32} (D : KD (pg_k h)) (hj : j < 12) : pg_sI 21 h 79 (nI j) x = some (pg_si h 79 j x) := N_sI D (by decide) (show _ = (21, 12) from by decide) (by decide) hj
theorem nl_79 {h : pg_H} (D : KD (pg_k h)) : pg_len h 79 = some (nI 12) := N_len D (by decide) (show _ = (21, 12) from by decide) (by decide) (by decide)
theorem na_80 {h : pg_H} {j : Nat} (D : KD (pg_k h)) (hj : j < 7) : pg_aI 21 h 80 (nI j) = some (pg_i h 80 j) := N_aI D (by decide) (show _ = (21, 7) from by decide) (by decide) hj
theorem ns_80 {h : pg_H} {j : Nat} {x : Int32} (D : KD (pg_k h)) (hj : j < 7) : pg_sI 21 h 80 (nI j) x = some (pg_si h 80 j x) := N_sI D (by decide) (show _ = (21, 7) from by decide) (by decide) hj
theorem nl_80 {h : pg_H} (D : KD (pg_k h)) : pg_len h 80 = some (nI 7) := N_len D (by decide) (show _ = (21, 7) from by decide) (by decide) (by decide)
theorem na_80_1 {h : pg_H} (D : KD (pg_k h)) : pg_aI 21 h 80 (1 : Int32) = some (pg_i h 80 1) := na_80 (j := 1) D (by decide)
theorem ns_80_1 {h : pg_H} {x : Int32} (D : KD (pg_k h)) : pg_sI 21 h 80 (1 : Int32) x = some (pg_si h 80 1 x) := ns_80 (j := 1) D (by decide)
theorem na_80_2 {h : pg_H} (D : KD (pg_k h)) : pg_aI 21 h 80 (2 : Int32) = some (pg_i h 80 2) := na_80 (j := 2) D (by decide)
theorem ns_80_2 {h : pg_H} {x : Int32} (D : KD (pg_k h)) : pg_sI 21 h 80 (2 : Int32) x = some (pg_si h 80 2 x) := ns_80 (j := 2) D (by decide)
theorem na_80_3 {h : pg_H} (D : KD (pg_k h)) : pg_aI 21 h 80 (3 : Int32) = some (pg_i h 80 3) := na_80 (j := 3) D (by decide)
theorem ns_80_3 {h : pg_H} {x : Int32} (D : KD (pg_k h)) : pg_sI 21 h 80 (3 : Int32) x = some (pg_si h 80 3 x) := ns_80 (j := 3) D (by decide)
theorem na_80_4 {h : pg_H} (D : KD (pg_k h)) : pg_aI 21 h 80 (4 : Int32) = some (pg_i h 80 4) := na_80 (j := 4) D (by decide)
theorem ns_80_4 {h : pg_H} {x : Int32} (D : KD (pg_k h)) : pg_sI 21 h 80 (4 : Int32) x = some (pg_si h 80 4 x) := ns_80 (j := 4) D (by decide)
theorem na_80_5 {h : pg_H} (D : KD (pg_k h)) : pg_aI 21 h 80 (5 : Int32) = some (pg_i h 80 5) := na_80 (j := 5) D (by decide)
theorem ns_80_5 {h : pg_H} {x : Int32} (D : KD (pg_k h)) : pg_sI 21 h 80 (5 : Int32) x = some (pg_si h 80 5 x) := ns_80 (j := 5) D (by decide)
theorem na_80_6 {h : pg_H} (D : KD (pg_k h)) : pg_aI 21 h 80 (6 : Int32) = some (pg_i h 80 6) := na_80 (j := 6) D (by decide)
theorem ns_80_6 {h : pg_H} {x : Int32} (D : KD (pg_k h)) : pg_sI 21 h 80 (6 : Int32) x = some (pg_si h 80 6 x) := ns_80 (j := 6) D (by decide)
theorem nc_81 {τ : Type} {h : pg_H} (D : KD (pg_k h)) (G : Option τ) : pg_rcv 12 h 81 G = G := N_rc D (by decide) (by decide) G
theorem ng_81 {h : pg_H} {k : Nat} (D : KD (pg_k h)) : pg_gI 12 k h 81 = some (pg_i h 81 k) := N_gI D (by decide) (by decide)
theorem np_81 {h : pg_H} {k : Nat} {x : Int32} (D : KD (pg_k h)) : pg_pI 12 k h 81 x = some (pg_si h 81 k x) := N_pI D (by decide) (by decide)
theorem nz0_81 {h : pg_H} {k : Nat} (D : KD (pg_k h)) : pg_pZ 12 k h 81 (0 : Int32) = some (pg_si h 81 k 0) := N_pZ D (by decide) (by decide) (by decide)
theorem nz1_81 {h : pg_H} {k : Nat} (D : KD (pg_k h)) : pg_pZ 12 k h 81 (1 : Int32) = some (pg_si h 81 k 1) := N_pZ D (by decide) (by decide) (by decide)
theorem nzb_81 {h : pg_H} {k : Nat} {b : Bool} (D : KD (pg_k h)) : pg_pZ 12 k h 81 (b01 b) = some (pg_si h 81 k (b01 b)) := N_pZ D (by decide) (by decide) (b01_ok b)
theorem ngl_81 {h : pg_H} {k : Nat} (D : KD (pg_k h)) : pg_gL 12 k h 81 = some (pg_l h 81 k) := N_gL D (by decide) (by decide)
theorem npl_81 {h : pg_H} {k : Nat} {x : Int64} (D : KD (pg_k h)) : pg_pL 12 k h 81 x = some (pg_sl h 81 k x) := N_pL D (by decide) (by decide)
theorem na_82 {h : pg_H} {j : Nat} (D : KD (pg_k h)) (hj : j < 7) : pg_aI 21 h 82 (nI j) = some (pg_i h 82 j) := N_aI D (by decide) (show _ = (21, 7) from by decide) (by decide) hj
theorem ns_82 {h : pg_H} {j : Nat} {x : Int32} (D : KD (pg_k h)) (hj : j < 7) : pg_sI 21 h 82 (nI j) x = some (pg_si h 82 j x) := N_sI D (by decide) (show _ = (21, 7) from by decide) (by decide) hj
theorem nl_82 {h : pg_H} (D : KD (pg_k h)) : pg_len h 82 = some (nI 7) := N_len D (by decide) (show _ = (21, 7) from by decide) (by decide) (by decide)
theorem na_82_1 {h : pg_H} (D : KD (pg_k h)) : pg_aI 21 h 82 (1 : Int32) = some (pg_i h 82 1) := na_82 (j := 1) D (by decide)
theorem ns_82_1 {h : pg_H} {x : Int32} (D : KD (pg_k h)) : pg_sI 21 h 82 (1 : Int32) x = some (pg_si h 82 1 x) := ns_82 (j := 1) D (by decide)
theorem na_82_2 {h : pg_H} (D : KD (pg_k h)) : pg_aI 21 h 82 (2 : Int32) = some (pg_i h 82 2) := na_82 (j := 2) D (by decide)
theorem ns_82_2 {h : pg_H} {x : Int32} (D : KD (pg_k h)) : pg_sI 21 h 82 (2 : Int32) x = some (pg_si h 82 2 x) := ns_82 (j := 2) D (by decide)
theorem na_82_3 {h : pg_H} (D : KD (pg_k h)) : pg_aI 21 h 82 (3 : Int32) = some (pg_i h 82 3) := na_82 (j := 3) D (by decide)
theorem ns_82_3 {h : pg_H} {x : Int32} (D : KD (pg_k h)) : pg_sI 21 h 82 (3 : Int32) x = some (pg_si h 82 3 x) := ns_82 (j := 3) D (by decide)
theorem na_82_4 {h : pg_H} (D : KD (pg_k h)) : pg_aI 21 h 82 (4 : Int32) = some (pg_i h 82 4) := na_82 (j := 4) D (by decide)
theorem ns_82_4 {h : pg_H} {x : Int32} (D : KD (pg_k h)) : pg_sI 21 h 82 (4 : Int32) x = some (pg_si h 82 4 x) := ns_82 (j := 4) D (by decide)
theorem na_82_5 {h : pg_H} (D : KD (pg_k h)) : pg_aI 21 h 82 (5 : Int32) = some (pg_i h 82 5) := na_82 (j := 5) D (by decide)
theorem ns_82_5 {h : pg_H} {x : Int32} (D : KD (pg_k h)) : pg_sI 21 h 82 (5 : Int32) x = some (pg_si h 82 5 x) := ns_82 (j := 5) D (by decide)
theorem na_82_6 {h : pg_H} (D : KD (pg_k h)) : pg_aI 21 h 82 (6 : Int32) = some (pg_i h 82 6) := na_82 (j := 6) D (by decide)
theorem ns_82_6 {h : pg_H} {x : Int32} (D : KD (pg_k h)) : pg_sI 21 h 82 (6 : Int32) x = some (pg_si h 82 6 x) := ns_82 (j := 6) D (by decide)
theorem na_83 {h : pg_H} {j : Nat} (D : KD (pg_k h)) (hj : j < 7758) : pg_aI 21 h 83 (nI j) = some (pg_i h 83 j) := N_aI D (by decide) (show _ = (21, 7758) from by decide) (by decide) hj
theorem ns_83 {h : pg_H} {j : Nat} {x : Int32} (D : KD (pg_k h)) (hj : j < 7758) : pg_sI 21 h 83 (nI j) x = some (pg_si h 83 j x) := N_sI D (by decide) (show _ = (21, 7758) from by decide) (by decide) hj
theorem nl_83 {h : pg_H} (D : KD (pg_k h)) : pg_len h 83 = some (nI 7758) := N_len D (by decide) (show _ = (21, 7758) from by decide) (by decide) (by decide)
theorem na_83_1344 {h : pg_H} (D : KD (pg_k h)) : pg_aI 21 h 83 (1344 : Int32) = some (pg_i h 83 1344) := na_83 (j := 1344) D (by decide)
theorem ns_83_1344 {h : pg_H} {x : Int32} (D : KD (pg_k h)) : pg_sI 21 h 83 (1344 : Int32) x = some (pg_si h 83 1344 x) := ns_83 (j := 1344) D (by decide)
theorem na_83_1345 {h : pg_H} (D : KD (pg_k h)) : pg_aI 21 h 83 (1345 : Int32) = some (pg_i h 83 1345) := na_83 (j := 1345) D (by decide)
theorem ns_83_1345 {h : pg_H} {x : Int32} (D : KD (pg_k h)) : pg_sI 21 h 83 (1345 : Int32) x = some (pg_si h 83 1345 x) := ns_83 (j := 1345) D (by decide)
theorem na_83_1346 {h : pg_H} (D : KD (pg_k h)) : pg_aI 21 h 83 (1346 : Int32) = some (pg_i h 83 1346) := na_83 (j := 1346) D (by decide)
theorem ns_83_1346 {h : pg_H} {x : Int32} (D : KD (pg_k h)) : pg_sI 21 h 83 (1346 : Int32) x = some (pg_si h 83 1346 x) := ns_83 (j := 1346) D (by decide)
theorem na_83_1347 {h : pg_H} (D : KD (pg_k h)) : pg_aI 21 h 83 (1347 : Int32) = some (pg_i h 83 1347) := na_83 (j := 1347) D (by decide)
theorem ns_83_1347 {h : pg_H} {x : Int32} (D : KD (pg_k h)) : pg_sI 21 h 83 (1347 : Int32) x = some (pg_si h 83 1347 x) := ns_83 (j := 1347) D (by decide)
theorem na_83_1348 {h : pg_H} (D : KD (pg_k h)) : pg_aI 21 h 83 (1348 : Int32) = some (pg_i h 83 1348) := na_83 (j := 1348) D (by decide)
theorem ns_83_1348 {h : pg_H} {x : Int32} (D : KD (pg_k h)) : pg_sI 21 h 83 (1348 : Int32) x = some (pg_si h 83 1348 x) := ns_83 (j := 1348) D (by decide)
theorem na_83_1349 {h : pg_H} (D : KD (pg_k h)) : pg_aI 21 h 83 (1349 : Int32) = some (pg_i h 83 1349) := na_83 (j := 1349) D (by decide)
theorem ns_83_1349 {h : pg_H} {x : Int32} (D : KD (pg_k h)) : pg_sI 21 h 83 (1349 : Int32) x = some (pg_si h 83 1349 x) := ns_83 (j := 1349) D (by decide)
theorem na_84 {h : pg_H} {j : Nat} (D : KD (pg_k h)) (hj : j < 15516) : pg_aI 21 h 84 (nI j) = some (pg_i h 84 j) := N_aI D (by decide) (show _ = (21, 15516) from by decide) (by decide) hj
theorem ns_84 {h : pg_H} {j : Nat} {x : Int32} (D : KD (pg_k h)) (hj : j < 15516) : pg_sI 21 h 84 (nI j) x = some (pg_si h 84 j x) := N_sI D (by decide) (show _ = (21, 15516) from by decide) (by decide) hj
theorem nl_84 {h : pg_H} (D : KD (pg_k h)) : pg_len h 84 = some (nI 15516) := N_len D (by decide) (show _ = (21, 15516) from by decide) (by decide) (by decide)
theorem na_85 {h : pg_H} {j : Nat} (D : KD (pg_k h)) (hj : j < 2) : pg_aI 23 h 85 (nI j) = some (pg_i h 85 j) := N_aI D (by decide) (show _ = (23, 2) from by decide) (by decide) hj
theorem ns_85 {h : pg_H} {j : Nat} {x : Int32} (D : KD (pg_k h)) (hj : j < 2) : pg_sI 23 h 85 (nI j) x = some (pg_si h 85 j (x &&& 1)) := N_sI D (by decide) (show _ = (23, 2) from by decide) (by decide) hj
theorem nl_85 {h : pg_H} (D : KD (pg_k h)) : pg_len h 85 = some (nI 2) := N_len D (by decide) (show _ = (23, 2) from by decide) (by decide) (by decide)
theorem na_86 {h : pg_H} {j : Nat} (D : KD (pg_k h)) (hj : j < 114) : pg_aI 20 h 86 (nI j) = some (pg_i h 86 j) := N_aI D (by decide) (show _ = (20, 114) from by decide) (by decide) hj
theorem ns_86 {h : pg_H} {j : Nat} {x : Int32} (D : KD (pg_k h)) (hj : j < 114) : pg_sI 20 h 86 (nI j) x = some (pg_si h 86 j x.toInt8.toInt32) := N_sI D (by decide) (show _ = (20, 114) from by decide) (by decide) hj
theorem nl_86 {h : pg_H} (D : KD (pg_k h)) : pg_len h 86 = some (nI 114) := N_len D (by decide) (show _ = (20, 114) from by decide) (by decide) (by decide)
theorem na_87 {h : pg_H} {j : Nat} (D : KD (pg_k h)) (hj : j < 400) : pg_aI 20 h 87 (nI j) = some (pg_i h 87 j) := N_aI D (by decide) (show _ = (20, 400) from by decide) (by decide) hj
theorem ns_87 {h : pg_H} {j : Nat} {x : Int32} (D : KD (pg_k h)) (hj : j < 400) : pg_sI 20 h 87 (nI j) x = some (pg_si h 87 j x.toInt8.toInt32) := N_sI D (by decide) (show _ = (20, 400) from by decide) (by decide) hj
theorem nl_87 {h : pg_H} (D : KD (pg_k h)) : pg_len h 87 = some (nI 400) := N_len D (by decide) (show _ = (20, 400) from by decide) (by decide) (by decide)
theorem na_88 {h : pg_H} {j : Nat} (D : KD (pg_k h)) (hj : j < 5) : pg_aI 21 h 88 (nI j) = some (pg_i h 88 j) := N_aI D (by decide) (show _ = (21, 5) from by decide) (by decide) hj
theorem ns_88 {h : pg_H} {j : Nat} {x : Int32} (D : KD (pg_k h)) (hj : j < 5) : pg_sI 21 h 88 (nI j) x = some (pg_si h 88 j x) := N_sI D (by decide) (show _ = (21, 5) from by decide) (by decide) hj
theorem nl_88 {h : pg_H} (D : KD (pg_k h)) : pg_len h 88 = some (nI 5) := N_len D (by decide) (show _ = (21, 5) from by decide) (by decide) (by decide)
theorem na_88_0 {h : pg_H} (D : KD (pg_k h)) : pg_aI 21 h 88 (0 : Int32) = some (pg_i h 88 0) := na_88 (j := 0) D (by decide)
theorem ns_88_0 {h : pg_H} {x : Int32} (D : KD (pg_k h)) : pg_sI 21 h 88 (0 : Int32) x = some (pg_si h 88 0 x) := ns_88 (j := 0) D (by decide)
theorem na_88_1 {h : pg_H} (D : KD (pg_k h)) : pg_aI 21 h 88 (1 : Int32) = some (pg_i h 88 1) := na_88 (j := 1) D (by decide)
theorem ns_88_1 {h : pg_H} {x : Int32} (D : KD (pg_k h)) : pg_sI 21 h 88 (1 : Int32) x = some (pg_si h 88 1 x) := ns_88 (j := 1) D (by decide)
theorem na_88_2 {h : pg_H} (D : KD (pg_k h)) : pg_aI 21 h 88 (2 : Int32) = some (pg_i h 88 2) := na_88 (j := 2) D (by decide)
theorem ns_88_2 {h : pg_H} {x : Int32} (D : KD (pg_k h)) : pg_sI 21 h 88 (2 : Int32) x = some (pg_si h 88 2 x) := ns_88 (j := 2) D (by decide)
theorem na_88_3 {h : pg_H} (D : KD (pg_k h)) : pg_aI 21 h 88 (3 : Int32) = some (pg_i h 88 3) := na_88 (j := 3) D (by decide)
theorem ns_88_3 {h : pg_H} {x : Int32} (D : KD (pg_k h)) : pg_sI 21 h 88 (3 : Int32) x = some (pg_si h 88 3 x) := ns_88 (j := 3) D (by decide)
theorem na_88_4 {h : pg_H} (D : KD (pg_k h)) : pg_aI 21 h 88 (4 : Int32) = some (pg_i h 88 4) := na_88 (j := 4) D (by decide)
theorem ns_88_4 {h : pg_H} {x : Int32} (D : KD (pg_k h)) : pg_sI 21 h 88 (4 : Int32) x = some (pg_si h 88 4 x) := ns_88 (j := 4) D (by decide)
theorem na_89 {h : pg_H} {j : Nat} (D : KD (pg_k h)) (hj : j < 401) : pg_aI 21 h 89 (nI j) = some (pg_i h 89 j) := N_aI D (by decide) (show _ = (21, 401) from by decide) (by decide) hj
theorem ns_89 {h : pg_H} {j : Nat} {x : Int32} (D : KD (pg_k h)) (hj : j < 401) : pg_sI 21 h 89 (nI j) x = some (pg_si h 89 j x) := N_sI D (by decide) (show _ = (21, 401) from by decide) (by decide) hj
theorem nl_89 {h : pg_H} (D : KD (pg_k h)) : pg_len h 89 = some (nI 401) := N_len D (by decide) (show _ = (21, 401) from by decide) (by decide) (by decide)
theorem na_90 {h : pg_H} {j : Nat} (D : KD (pg_k h)) (hj : j < 401) : pg_aI 21 h 90 (nI j) = some (pg_i h 90 j) := N_aI D (by decide) (show _ = (21, 401) from by decide) (by decide) hj
theorem ns_90 {h : pg_H} {j : Nat} {x : Int32} (D : KD (pg_k h)) (hj : j < 401) : pg_sI 21 h 90 (nI j) x = some (pg_si h 90 j x) := N_sI D (by decide) (show _ = (21, 401) from by decide) (by decide) hj
theorem nl_90 {h : pg_H} (D : KD (pg_k h)) : pg_len h 90 = some (nI 401) := N_len D (by decide) (show _ = (21, 401) from by decide) (by decide) (by decide)
theorem na_91 {h : pg_H} {j : Nat} (D : KD (pg_k h)) (hj : j < 401) : pg_aI 21 h 91 (nI j) = some (pg_i h 91 j) := N_aI D (by decide) (show _ = (21, 401) from by decide) (by decide) hj
theorem ns_91 {h : pg_H} {j : Nat} {x : Int32} (D : KD (pg_k h)) (hj : j < 401) : pg_sI 21 h 91 (nI j) x = some (pg_si h 91 j x) := N_sI D (by decide) (show _ = (21, 401) from by decide) (by decide) hj
theorem nl_91 {h : pg_H} (D : KD (pg_k h)) : pg_len h 91 = some (nI 401) := N_len D (by decide) (show _ = (21, 401) from by decide) (by decide) (by decide)
theorem na_92 {h : pg_H} {j : Nat} (D : KD (pg_k h)) (hj : j < 9) : pg_aI 21 h 92 (nI j) = some (pg_i h 92 j) := N_aI D (by decide) (show _ = (21, 9) from by decide) (by decide) hj
theorem ns_92 {h : pg_H} {j : Nat} {x : Int32} (D : KD (pg_k h)) (hj : j < 9) : pg_sI 21 h 92 (nI j) x = some (pg_si h 92 j x) := N_sI D (by decide) (show _ = (21, 9) from by decide) (by decide) hj
theorem nl_92 {h : pg_H} (D : KD (pg_k h)) : pg_len h 92 = some (nI 9) := N_len D (by decide) (show _ = (21, 9) from by decide) (by decide) (by decide)
theorem na_92_0 {h : pg_H} (D : KD (pg_k h)) : pg_aI 21 h 92 (0 : Int32) = some (pg_i h 92 0) := na_92 (j := 0) D (by decide)
theorem ns_92_0 {h : pg_H} {x : Int32} (D : KD (pg_k h)) : pg_sI 21 h 92 (0 : Int32) x = some (pg_si h 92 0 x) := ns_92 (j := 0) D (by decide)
theorem na_92_1 {h : pg_H} (D : KD (pg_k h)) : pg_aI 21 h 92 (1 : Int32) = some (pg_i h 92 1) := na_92 (j := 1) D (by decide)
theorem ns_92_1 {h : pg_H} {x : Int32} (D : KD (pg_k h)) : pg_sI 21 h 92 (1 : Int32) x = some (pg_si h 92 1 x) := ns_92 (j := 1) D (by decide)
theorem na_92_2 {h : pg_H} (D : KD (pg_k h)) : pg_aI 21 h 92 (2 : Int32) = some (pg_i h 92 2) := na_92 (j := 2) D (by decide)
theorem ns_92_2 {h : pg_H} {x : Int32} (D : KD (pg_k h)) : pg_sI 21 h 92 (2 : Int32) x = some (pg_si h 92 2 x) := ns_92 (j := 2) D (by decide)
theorem na_92_3 {h : pg_H} (D : KD (pg_k h)) : pg_aI 21 h 92 (3 : Int32) = some (pg_i h 92 3) := na_92 (j := 3) D (by decide)
theorem ns_92_3 {h : pg_H} {x : Int32} (D : KD (pg_k h)) : pg_sI 21 h 92 (3 : Int32) x = some (pg_si h 92 3 x) := ns_92 (j := 3) D (by decide)
theorem na_92_4 {h : pg_H} (D : KD (pg_k h)) : pg_aI 21 h 92 (4 : Int32) = some (pg_i h 92 4) := na_92 (j := 4) D (by decide)
theorem ns_92_4 {h : pg_H} {x : Int32} (D : KD (pg_k h)) : pg_sI 21 h 92 (4 : Int32) x = some (pg_si h 92 4 x) := ns_92 (j := 4) D (by decide)
theorem na_92_5 {h : pg_H} (D : KD (pg_k h)) : pg_aI 21 h 92 (5 : Int32) = some (pg_i h 92 5) := na_92 (j := 5) D (by decide)
theorem ns_92_5 {h : pg_H} {x : Int32} (D : KD (pg_k h)) : pg_sI 21 h 92 (5 : Int32) x = some (pg_si h 92 5 x) := ns_92 (j := 5) D (by decide)
theorem na_92_6 {h : pg_H} (D : KD (pg_k h)) : pg_aI 21 h 92 (6 : Int32) = some (pg_i h 92 6) := na_92 (j := 6) D (by decide)
theorem ns_92_6 {h : pg_H} {x : Int32} (D : KD (pg_k h)) : pg_sI 21 h 92 (6 : Int32) x = some (pg_si h 92 6 x) := ns_92 (j := 6) D (by decide)
theorem na_92_7 {h : pg_H} (D : KD (pg_k h)) : pg_aI 21 h 92 (7 : Int32) = some (pg_i h 92 7) := na_92 (j := 7) D (by decide)
theorem ns_92_7 {h : pg_H} {x : Int32} (D : KD (pg_k h)) : pg_sI 21 h 92 (7 : Int32) x = some (pg_si h 92 7 x) := ns_92 (j := 7) D (by decide)
theorem na_92_8 {h : pg_H} (D : KD (pg_k h)) : pg_aI 21 h 92 (8 : Int32) = some (pg_i h 92 8) := na_92 (j := 8) D (by decide)
theorem ns_92_8 {h : pg_H} {x : Int32} (D : KD (pg_k h)) : pg_sI 21 h 92 (8 : Int32) x = some (pg_si h 92 8 x) := ns_92 (j := 8) D (by decide)
theorem na_93 {h : pg_H} {j : Nat} (D : KD (pg_k h)) (hj : j < 200) : pg_aI 21 h 93 (nI j) = some (pg_i h 93 j) := N_aI D (by decide) (show _ = (21, 200) from by decide) (by decide) hj
theorem ns_93 {h : pg_H} {j : Nat} {x : Int32} (D : KD (pg_k h)) (hj : j < 200) : pg_sI 21 h 93 (nI j) x = some (pg_si h 93 j x) := N_sI D (by decide) (show _ = (21, 200) from by decide) (by decide) hj
theorem nl_93 {h : pg_H} (D : KD (pg_k h)) : pg_len h 93 = some (nI 200) := N_len D (by decide) (show _ = (21, 200) from by decide) (by decide) (by decide)
theorem na_94 {h : pg_H} {j : Nat} (D : KD (pg_k h)) (hj : j < 156) : pg_aI 21 h 94 (nI j) = some (pg_i h 94 j) := N_aI D (by decide) (show _ = (21, 156) from by decide) (by decide) hj
theorem ns_94 {h : pg_H} {j : Nat} {x : Int32} (D : KD (pg_k h)) (hj : j < 156) : pg_sI 21 h 94 (nI j) x = some (pg_si h 94 j x) := N_sI D (by decide) (show _ = (21, 156) from by decide) (by decide) hj
theorem nl_94 {h : pg_H} (D : KD (pg_k h)) : pg_len h 94 = some (nI 156) := N_len D (by decide) (show _ = (21, 156) from by decide) (by decide) (by decide)
theorem na_95 {h : pg_H} {j : Nat} (D : KD (pg_k h)) (hj : j < 12) : pg_aI 21 h 95 (nI j) = some (pg_i h 95 j) := N_aI D (by decide) (show _ = (21, 12) from by decide) (by decide) hj
theorem ns_95 {h : pg_H} {j : Nat} {x : Int32} (D : KD (pg_k h)) (hj : j < 12) : pg_sI 21 h 95 (nI j) x = some (pg_si h 95 j x) := N_sI D (by decide) (show _ = (21, 12) from by decide) (by decide) hj
theorem nl_95 {h : pg_H} (D : KD (pg_k h)) : pg_len h 95 = some (nI 12) := N_len D (by decide) (show _ = (21, 12) from by decide) (by decide) (by decide)
theorem na_96 {h : pg_H} {j : Nat} (D : KD (pg_k h)) (hj : j < 4096) : pg_aI 21 h 96 (nI j) = some (pg_i h 96 j) := N_aI D (by decide) (show _ = (21, 4096) from by decide) (by decide) hj
theorem ns_96 {h : pg_H} {j : Nat} {x : Int32} (D : KD (pg_k h)) (hj : j < 4096) : pg_sI 21 h 96 (nI j) x = some (pg_si h 96 j x) := N_sI D (by decide) (show _ = (21, 4096) from by decide) (by decide) hj
theorem nl_96 {h : pg_H} (D : KD (pg_k h)) : pg_len h 96 = some (nI 4096) := N_len D (by decide) (show _ = (21, 4096) from by decide) (by decide) (by decide)
theorem na_97 {h : pg_H} {j : Nat} (D : KD (pg_k h)) (hj : j < 12) : pg_aI 21 h 97 (nI j) = some (pg_i h 97 j) := N_aI D (by decide) (show _ = (21, 12) from by decide) (by decide) hj
theorem ns_97 {h : pg_H} {j : Nat} {x : Int32} (D : KD (pg_k h)) (hj : j < 12) : pg_sI 21 h 97 (nI j) x = some (pg_si h 97 j x) := N_sI D (by decide) (show _ = (21, 12) from by decide) (by decide) hj
theorem nl_97 {h : pg_H} (D : KD (pg_k h)) : pg_len h 97 = some (nI 12) := N_len D (by decide) (show _ = (21, 12) from by decide) (by decide) (by decide)
theorem na_98 {h : pg_H} {j : Nat} (D : KD (pg_k h)) (hj : j < 144) : pg_aI 23 h 98 (nI j) = some (pg_i h 98 j) := N_aI D (by decide) (show _ = (23, 144) from by decide) (by decide) hj
theorem ns_98 {h : pg_H} {j : Nat} {x : Int32} (D : KD (pg_k h)) (hj : j < 144) : pg_sI 23 h 98 (nI j) x = some (pg_si h 98 j (x &&& 1)) := N_sI D (by decide) (show _ = (23, 144) from by decide) (by decide) hj
theorem nl_98 {h : pg_H} (D : KD (pg_k h)) : pg_len h 98 = some (nI 144) := N_len D (by decide) (show _ = (23, 144) from by decide) (by decide) (by decide)
theorem na_99 {h : pg_H} {j : Nat} (D : KD (pg_k h)) (hj : j < 12) : pg_aI 21 h 99 (nI j) = some (pg_i h 99 j) := N_aI D (by decide) (show _ = (21, 12) from by decide) (by decide) hj
theorem ns_99 {h : pg_H} {j : Nat} {x : Int32} (D : KD (pg_k h)) (hj : j < 12) : pg_sI 21 h 99 (nI j) x = some (pg_si h 99 j x) := N_sI D (by decide) (show _ = (21, 12) from by decide) (by decide) hj
theorem nl_99 {h : pg_H} (D : KD (pg_k h)) : pg_len h 99 = some (nI 12) := N_len D (by decide) (show _ = (21, 12) from by decide) (by decide) (by decide)
theorem na_100 {h : pg_H} {j : Nat} (D : KD (pg_k h)) (hj : j < 380) : pg_aL h 100 (nI j) = some (pg_l h 100 j) := N_aL D (by decide) (show _ = (22, 380) from by decide) (by decide) hj
theorem ns_100 {h : pg_H} {j : Nat} {x : Int64} (D : KD (pg_k h)) (hj : j < 380) : pg_sL h 100 (nI j) x = some (pg_sl h 100 j x) := N_sL D (by decide) (show _ = (22, 380) from by decide) (by decide) hj
theorem nl_100 {h : pg_H} (D : KD (pg_k h)) : pg_len h 100 = some (nI 380) := N_len D (by decide) (show _ = (22, 380) from by decide) (by decide) (by decide)
theorem na_101 {h : pg_H} {j : Nat} (D : KD (pg_k h)) (hj : j < 380) : pg_aL h 101 (nI j) = some (pg_l h 101 j) := N_aL D (by decide) (show _ = (22, 380) from by decide) (by decide) hj
theorem ns_101 {h : pg_H} {j : Nat} {x : Int64} (D : KD (pg_k h)) (hj : j < 380) : pg_sL h 101 (nI j) x = some (pg_sl h 101 j x) := N_sL D (by decide) (show _ = (22, 380) from by decide) (by decide) hj
theorem nl_101 {h : pg_H} (D : KD (pg_k h)) : pg_len h 101 = some (nI 380) := N_len D (by decide) (show _ = (22, 380) from by decide) (by decide) (by decide)
theorem na_102 {h : pg_H} {j : Nat} (D : KD (pg_k h)) (hj : j < 380) : pg_aL h 102 (nI j) = some (pg_l h 102 j) := N_aL D (by decide) (show _ = (22, 380) from by decide) (by decide) hj
theorem ns_102 {h : pg_H} {j : Nat} {x : Int64} (D : KD (pg_k h)) (hj : j < 380) : pg_sL h 102 (nI j) x = some (pg_sl h 102 j x) := N_sL D (by decide) (show _ = (22, 380) from by decide) (by decide) hj
theorem nl_102 {h : pg_H} (D : KD (pg_k h)) : pg_len h 102 = some (nI 380) := N_len D (by decide) (show _ = (22, 380) from by decide) (by decide) (by decide)
theorem na_103 {h : pg_H} {j : Nat} (D : KD (pg_k h)) (hj : j < 12) : pg_aI 21 h 103 (nI j) = some (pg_i h 103 j) := N_aI D (by decide) (show _ = (21, 12) from by decide) (by decide) hj
theorem ns_103 {h : pg_H} {j : Nat} {x : Int32} (D : KD (pg_k h)) (hj : j < 12) : pg_sI 21 h 103 (nI j) x = some (pg_si h 103 j x) := N_sI D (by decide) (show _ = (21, 12) from by decide) (by decide) hj
theorem nl_103 {h : pg_H} (D : KD (pg_k h)) : pg_len h 103 = some (nI 12) := N_len D (by decide) (show _ = (21, 12) from by decide) (by decide) (by decide)
theorem na_104 {h : pg_H} {j : Nat} (D : KD (pg_k h)) (hj : j < 12) : pg_aI 21 h 104 (nI j) = some (pg_i h 104 j) := N_aI D (by decide) (show _ = (21, 12) from by decide) (by decide) hj
theorem ns_104 {h : pg_H} {j : Nat} {x : Int32} (D : KD (pg_k h)) (hj : j < 12) : pg_sI 21 h 104 (nI j) x = some (pg_si h 104 j x) := N_sI D (by decide) (show _ = (21, 12) from by decide) (by decide) hj
theorem nl_104 {h : pg_H} (D : KD (pg_k h)) : pg_len h 104 = some (nI 12) := N_len D (by decide) (show _ = (21, 12) from by decide) (by decide) (by decide)
theorem na_105 {h : pg_H} {j : Nat} (D : KD (pg_k h)) (hj : j < 380) : pg_aL h 105 (nI j) = some (pg_l h 105 j) := N_aL D (by decide) (show _ = (22, 380) from by decide) (by decide) hj
theorem ns_105 {h : pg_H} {j : Nat} {x : Int64} (D : KD (pg_k h)) (hj : j < 380) : pg_sL h 105 (nI j) x = some (pg_sl h 105 j x) := N_sL D (by decide) (show _ = (22, 380) from by decide) (by decide) hj
theorem nl_105 {h : pg_H} (D : KD (pg_k h)) : pg_len h 105 = some (nI 380) := N_len D (by decide) (show _ = (22, 380) from by decide) (by decide) (by decide)
theorem na_106 {h : pg_H} {j : Nat} (D : KD (pg_k h)) (hj : j < 60) : pg_aI 23 h 106 (nI j) = some (pg_i h 106 j) := N_aI D (by decide) (show _ = (23, 60) from by decide) (by decide) hj
theorem ns_106 {h : pg_H} {j : Nat} {x : Int32} (D : KD (pg_k h)) (hj : j < 60) : pg_sI 23 h 106 (nI j) x = some (pg_si h 106 j (x &&& 1)) := N_sI D (by decide) (show _ = (23, 60) from by decide) (by decide) hj
theorem nl_106 {h : pg_H} (D : KD (pg_k h)) : pg_len h 106 = some (nI 60) := N_len D (by decide) (show _ = (23, 60) from by decide) (by decide) (by decide)
theorem na_107 {h : pg_H} {j : Nat} (D : KD (pg_k h)) (hj : j < 1728) : pg_aI 21 h 107 (nI j) = some (pg_i h 107 j) := N_aI D (by decide) (show _ = (21, 1728) from by decide) (by decide) hj
theorem ns_107 {h : pg_H} {j : Nat} {x : Int32} (D : KD (pg_k h)) (hj : j < 1728) : pg_sI 21 h 107 (nI j) x = some (pg_si h 107 j x) := N_sI D (by decide) (show _ = (21, 1728) from by decide) (by decide) hj
theorem nl_107 {h : pg_H} (D : KD (pg_k h)) : pg_len h 107 = some (nI 1728) := N_len D (by decide) (show _ = (21, 1728) from by decide) (by decide) (by decide)
theorem na_108 {h : pg_H} {j : Nat} (D : KD (pg_k h)) (hj : j < 12) : pg_aI 21 h 108 (nI j) = some (pg_i h 108 j) := N_aI D (by decide) (show _ = (21, 12) from by decide) (by decide) hj
theorem ns_108 {h : pg_H} {j : Nat} {x : Int32} (D : KD (pg_k h)) (hj : j < 12) : pg_sI 21 h 108 (nI j) x = some (pg_si h 108 j x) := N_sI D (by decide) (show _ = (21, 12) from by decide) (by decide) hj
theorem nl_108 {h : pg_H} (D : KD (pg_k h)) : pg_len h 108 = some (nI 12) := N_len D (by decide) (show _ = (21, 12) from by decide) (by decide) (by decide)
theorem na_109 {h : pg_H} {j : Nat} (D : KD (pg_k h)) (hj : j < 12) : pg_aI 21 h 109 (nI j) = some (pg_i h 109 j) := N_aI D (by decide) (show _ = (21, 12) from by decide) (by decide) hj
theorem ns_109 {h : pg_H} {j : Nat} {x : Int32} (D : KD (pg_k h)) (hj : j < 12) : pg_sI 21 h 109 (nI j) x = some (pg_si h 109 j x) := N_sI D (by decide) (show _ = (21, 12) from by decide) (by decide) hj
theorem nl_109 {h : pg_H} (D : KD (pg_k h)) : pg_len h 109 = some (nI 12) := N_len D (by decide) (show _ = (21, 12) from by decide) (by decide) (by decide)
/-! FRAMES: rows and places that a step may change -/
def Ch (S : List Nat) (T : List (Nat × Nat)) (h h' : pg_H) : Prop := Mod (fun r k => r ∈ S ∨ (r, k) ∈ T) h h'
def dis (S : List Nat) (T : List (Nat × Nat)) (R : List Nat) (F : List (Nat × Nat)) : Bool := (R.all fun r => !S.contains r && T.all fun z => z.1 != r) && F.all fun z => !S.contains z.1 && !T.contains z
theorem Ch.refl (S : List Nat) (T : List (Nat × Nat)) (h : pg_H) : Ch S T h h := Mod.refl _ h
theorem Ch.trans {S : List Nat} {T : List (Nat × Nat)} {h h1 h2 : pg_H} (a : Ch S T h h1) (b : Ch S T h1 h2) : Ch S T h h2 := Mod.trans a b
theorem Ch.mono {S S' : List Nat} {T T' : List (Nat × Nat)} {h h' : pg_H} (a : Ch S T h h') (q : (S.all fun r => S'.contains r) && (T.all fun z => S'.contains z.1 || T'.contains z)) : Ch S' T' h h' := by
  rw [Bool.and_eq_true, List.all_eq_true, List.all_eq_true] at q
  refine Mod.mono a (fun r k w => ?_)
  rcases w with w | w
  · exact Or.inl (List.contains_iff_mem.mp (q.1 r w))
  · have z := q.2 (r, k) w
    rw [Bool.or_eq_true] at z
    rcases z with z | z
    · exact Or.inl (List.contains_iff_mem.mp z)
    · exact Or.inr (List.contains_iff_mem.mp z)
theorem Ch.si {S : List Nat} {T : List (Nat × Nat)} {h : pg_H} {r k : Nat} (x : Int32) (q : r ∈ S ∨ (r, k) ∈ T) : Ch S T h (pg_si h r k x) := Mod.si x q
theorem Ch.sl {S : List Nat} {T : List (Nat × Nat)} {h : pg_H} {r k : Nat} (x : Int64) (q : r ∈ S ∨ (r, k) ∈ T) : Ch S T h (pg_sl h r k x) := Mod.sl x q
theorem Ch.asi {S : List Nat} {T : List (Nat × Nat)} {h h1 : pg_H} {r k : Nat} {x : Int32} (a : Ch S T h h1) (q : r ∈ S ∨ (r, k) ∈ T) : Ch S T h (pg_si h1 r k x) := a.trans (Ch.si x q)
theorem Ch.asl {S : List Nat} {T : List (Nat × Nat)} {h h1 : pg_H} {r k : Nat} {x : Int64} (a : Ch S T h h1) (q : r ∈ S ∨ (r, k) ∈ T) : Ch S T h (pg_sl h1 r k x) := a.trans (Ch.sl x q)
theorem Ch.kk {S : List Nat} {T : List (Nat × Nat)} {h h' : pg_H} (a : Ch S T h h') : pg_k h' = pg_k h := a.2.2.1
theorem Ch.rr {S : List Nat} {T : List (Nat × Nat)} {h h' : pg_H} (a : Ch S T h h') : pg_r h' = pg_r h := a.2.2.2.1
theorem Ch.row {S : List Nat} {T : List (Nat × Nat)} {h h' : pg_H} (a : Ch S T h h') {r : Nat} (q : dis S T [r] []) : pg_i h' r = pg_i h r := by
  unfold dis at q
  simp only [List.all_cons, List.all_nil, Bool.and_true, Bool.and_eq_true, Bool.not_eq_true', List.all_eq_true, bne_iff_ne] at q
  refine Mod.row a r (fun k w => ?_)
  rcases w with w | w
  · rw [List.contains_iff_mem.mpr w] at q
    exact absurd q.1 (by decide)
  · exact q.2 _ w rfl
theorem Ch.rowl {S : List Nat} {T : List (Nat × Nat)} {h h' : pg_H} (a : Ch S T h h') {r : Nat} (q : dis S T [r] []) : pg_l h' r = pg_l h r := by
  unfold dis at q
  simp only [List.all_cons, List.all_nil, Bool.and_true, Bool.and_eq_true, Bool.not_eq_true', List.all_eq_true, bne_iff_ne] at q
  refine Mod.rowl a r (fun k w => ?_)
  rcases w with w | w
  · rw [List.contains_iff_mem.mpr w] at q
    exact absurd q.1 (by decide)
  · exact q.2 _ w rfl
theorem Ch.at {S : List Nat} {T : List (Nat × Nat)} {h h' : pg_H} (a : Ch S T h h') {r k : Nat} (q : dis S T [] [(r, k)]) : pg_i h' r k = pg_i h r k ∧ pg_l h' r k = pg_l h r k := by
  unfold dis at q
  simp only [List.all_cons, List.all_nil, Bool.and_true, Bool.true_and, Bool.and_eq_true, Bool.not_eq_true'] at q
  refine a.2.2.2.2 r k (fun w => ?_)
  rcases w with w | w
  · rw [List.contains_iff_mem.mpr w] at q
    exact absurd q.1 (by decide)
  · rw [List.contains_iff_mem.mpr w] at q
    exact absurd q.2 (by decide)
theorem Ch.lay {S : List Nat} {T : List (Nat × Nat)} {h h' : pg_H} (a : Ch S T h h') (L : Lay h) (q : dis S T [86] (layI.map fun z => (z.1, z.2.1))) : Lay h' := by
  unfold dis at q
  rw [Bool.and_eq_true] at q
  obtain ⟨qa, qb⟩ := q
  refine Mod.lay a L (fun z hz w => ?_) (fun j w => ?_)
  · simp only [List.all_eq_true, List.mem_map, forall_exists_index, and_imp, Bool.and_eq_true, Bool.not_eq_true'] at qb
    have q1 := qb (z.1, z.2.1) z hz rfl
    rcases w with w | w
    · rw [List.contains_iff_mem.mpr w] at q1
      exact absurd q1.1 (by decide)
    · rw [List.contains_iff_mem.mpr w] at q1
      exact absurd q1.2 (by decide)
  · rw [List.all_eq_true] at qa
    have q1 := qa 86 (by simp)
    rw [Bool.and_eq_true, Bool.not_eq_true', List.all_eq_true] at q1
    rcases w with w | w
    · rw [List.contains_iff_mem.mpr w] at q1
      exact absurd q1.1 (by decide)
    · have := q1.2 _ w
      simp at this
theorem Ch.few {S : List Nat} {T : List (Nat × Nat)} {h h' : pg_H} (a : Ch S T h h') : Few h h' := Mod.few a
/-- a shelf's numbers stay -/
theorem CNum.ch {S : List Nat} {T : List (Nat × Nat)} {h h' : pg_H} {s : Nat} {A : Nat → Int32} (C : CNum h s A) (a : Ch S T h h') (q : dis S T ((List.range 11).map fun i => s + 1 + i) [(s, 7), (s, 8)]) : CNum h' s A := by
  have q' := q
  unfold dis at q'
  simp only [List.all_cons, List.all_nil, Bool.and_true, Bool.and_eq_true, Bool.not_eq_true', List.all_eq_true, List.mem_map, List.mem_range, forall_exists_index, and_imp, bne_iff_ne] at q'
  have rw1 : ∀ i, i < 11 → pg_i h' (s + 1 + i) = pg_i h (s + 1 + i) := fun i hi => by
    have z := q'.1 (s + 1 + i) i hi rfl
    refine Mod.row a _ (fun k w => ?_)
    rcases w with w | w
    · rw [List.contains_iff_mem.mpr w] at z
      exact absurd z.1 (by decide)
    · exact z.2 _ w rfl
  have fl : ∀ k, (k = 7 ∨ k = 8) → pg_i h' s k = pg_i h s k := fun k hk => by
    refine (a.2.2.2.2 s k (fun w => ?_)).1
    rcases w with w | w
    · have z := q'.2.1.1
      rw [List.contains_iff_mem.mpr w] at z
      cases z
    · rcases hk with e | e
      · subst e
        have z := q'.2.1.2
        rw [List.contains_iff_mem.mpr w] at z
        cases z
      · subst e
        have z := q'.2.2.2
        rw [List.contains_iff_mem.mpr w] at z
        cases z
  have tb : ∀ t w m n base, (∃ i, i < 10 ∧ t = s + 1 + i) → TR h t w m n base A → TR h' t w m n base A := fun t w m n base ⟨i, hi, e⟩ T => by
    subst e
    obtain ⟨⟨a1, a2, a3, a4, a5, a6, a7⟩, b⟩ := T
    refine ⟨⟨by rw [a.kk]; exact a1, by rw [a.kk]; exact a2, by rw [a.rr]; exact a3, ?_, ?_, ?_, a7⟩, ?_⟩
    · rw [rw1 i (by omega)]; exact a4
    · rw [rw1 i (by omega)]; exact a5
    · rw [rw1 i (by omega)]; exact a6
    · intro x y hx hy
      rw [show s + 1 + i + 1 = s + 1 + (i + 1) by omega, rw1 (i + 1) (by omega)]
      exact b x y hx hy
  obtain ⟨a1, a2, a3, a4, a5, a6, a7, a8⟩ := C
  refine ⟨tb _ _ _ _ _ ⟨0, by decide, rfl⟩ a1, tb _ _ _ _ _ ⟨2, by decide, rfl⟩ a2, tb _ _ _ _ _ ⟨4, by decide, rfl⟩ a3, tb _ _ _ _ _ ⟨6, by decide, rfl⟩ a4, tb _ _ _ _ _ ⟨8, by decide, rfl⟩ a5, fun j hj => ?_, ?_, ?_⟩
  · rw [show s + 11 = s + 1 + 10 from rfl, rw1 10 (by decide)]
    exact a6 j hj
  · rw [fl 7 (Or.inl rfl)]; exact a7
  · rw [fl 8 (Or.inr rfl)]; exact a8
/-- a loop by an invariant over any state -/
theorem loopI {ρ σ : Type} (F : Nat → Nat → σ → Option ρ) (N : Nat) (I : Nat → σ → Prop) (post : Option ρ → Prop)
    (h1 : ∀ f i x, i < N → I i x → ∃ x', F (f + 1) i x = F f (i + 1) x' ∧ I (i + 1) x')
    (h2 : ∀ f x, I N x → post (F (f + 1) N x)) (i : Nat) (s : σ) (hi : i ≤ N) (h0 : I i s) (f : Nat) (hf : N < f + i) : post (F f i s) := by
  have key : ∀ d i f x, i + d = N → d < f → I i x → post (F f i x) := by
    intro d
    induction d with
    | zero =>
      intro i f x hi hf hp
      obtain ⟨g, rfl⟩ : ∃ g, f = g + 1 := ⟨f - 1, by omega⟩
      have e : i = N := by omega
      subst e
      exact h2 g x hp
    | succ d ih =>
      intro i f x hi hf hp
      obtain ⟨g, rfl⟩ : ∃ g, f = g + 1 := ⟨f - 1, by omega⟩
      obtain ⟨x', e, q⟩ := h1 g i x (by omega) hp
      rw [e]
      exact ih (i + 1) g x' (by omega) (by omega) q
  exact key (N - i) i f s (by omega) (by omega) h0
/-- a loop that may end at any turn -/
theorem loopE {ρ σ : Type} (F : Nat → Nat → σ → Option ρ) (N : Nat) (I : Nat → σ → Prop) (post : Option ρ → Prop)
    (h1 : ∀ f i x, i < N → I i x → (∃ x', F (f + 1) i x = F f (i + 1) x' ∧ I (i + 1) x') ∨ post (F (f + 1) i x))
    (h2 : ∀ f x, I N x → post (F (f + 1) N x)) (i : Nat) (s : σ) (hi : i ≤ N) (h0 : I i s) (f : Nat) (hf : N < f + i) : post (F f i s) := by
  have key : ∀ d i f x, i + d = N → d < f → I i x → post (F f i x) := by
    intro d
    induction d with
    | zero =>
      intro i f x hi hf hp
      obtain ⟨g, rfl⟩ : ∃ g, f = g + 1 := ⟨f - 1, by omega⟩
      have e : i = N := by omega
      subst e
      exact h2 g x hp
    | succ d ih =>
      intro i f x hi hf hp
      obtain ⟨g, rfl⟩ : ∃ g, f = g + 1 := ⟨f - 1, by omega⟩
      rcases h1 g i x (by omega) hp with ⟨x', e, q⟩ | q
      · rw [e]
        exact ih (i + 1) g x' (by omega) (by omega) q
      · exact q
  exact key (N - i) i f s (by omega) (by omega) h0
theorem fuel_S : ∃ f, pg_fuel = f + 1 := ⟨pg_fuel - 1, by unfold pg_fuel; omega⟩
