/-! WHERE EVERYTHING LIES, a row each (wip/gen/nav.py) -/
theorem lay_rcv {τ : Type} {h : pg_H} {r c : Nat} (L : Lay h) (hr : r < 110) (hk : (layK.getD r (0, 0)).1 = c + 1) (G : Option τ) : pg_rcv c h r G = G := by
  unfold pg_rcv
  rw [lay_k L hr, if_pos hk]
theorem lay_gR {h : pg_H} {r c k v : Nat} (L : Lay h) (hr : r < 110) (hk : (layK.getD r (0, 0)).1 = c + 1) (hm : (r, k, v) ∈ layR) : pg_gR c k h r = some v := by
  unfold pg_gR
  rw [lay_k L hr, if_pos hk, L.2.2.1 _ hm]
theorem lay_gI {h : pg_H} {r c k : Nat} (L : Lay h) (hr : r < 110) (hk : (layK.getD r (0, 0)).1 = c + 1) : pg_gI c k h r = some (pg_i h r k) := by
  unfold pg_gI
  rw [lay_k L hr, if_pos hk]
theorem lay_pI {h : pg_H} {r c k : Nat} (x : Int32) (L : Lay h) (hr : r < 110) (hk : (layK.getD r (0, 0)).1 = c + 1) : pg_pI c k h r x = some (pg_si h r k x) := by
  unfold pg_pI
  rw [lay_k L hr, if_pos hk]
theorem lay_gL {h : pg_H} {r c k : Nat} (L : Lay h) (hr : r < 110) (hk : (layK.getD r (0, 0)).1 = c + 1) : pg_gL c k h r = some (pg_l h r k) := by
  unfold pg_gL
  rw [lay_k L hr, if_pos hk]
theorem lay_pL {h : pg_H} {r c k : Nat} (x : Int64) (L : Lay h) (hr : r < 110) (hk : (layK.getD r (0, 0)).1 = c + 1) : pg_pL c k h r x = some (pg_sl h r k x) := by
  unfold pg_pL
  rw [lay_k L hr, if_pos hk]
theorem lay_pZ {h : pg_H} {r c k : Nat} {x : Int32} (L : Lay h) (hr : r < 110) (hk : (layK.getD r (0, 0)).1 = c + 1) (hx : x = 0 ∨ x = 1) : pg_pZ c k h r x = some (pg_si h r k x) := by
  unfold pg_pZ
  rw [lay_k L hr, if_pos ⟨hk, hx⟩]
theorem lay_aI {h : pg_H} {r t n : Nat} {j : Nat} (L : Lay h) (hr : r < 110) (hk : layK.getD r (0, 0) = (t, n)) (hj : j < n) (hn : n < 2 ^ 31) : pg_aI t h r (nI j) = some (pg_i h r j) := by
  unfold pg_aI
  rw [lay_k L hr, hk, if_pos ⟨rfl, nI_in hj hn⟩, nI_clamp (by omega)]
theorem lay_aL {h : pg_H} {r n : Nat} {j : Nat} (L : Lay h) (hr : r < 110) (hk : layK.getD r (0, 0) = (22, n)) (hj : j < n) (hn : n < 2 ^ 31) : pg_aL h r (nI j) = some (pg_l h r j) := by
  unfold pg_aL
  rw [lay_k L hr, hk, if_pos ⟨rfl, nI_in hj hn⟩, nI_clamp (by omega)]
theorem lay_sI {h : pg_H} {r t n : Nat} {j : Nat} (x : Int32) (L : Lay h) (hr : r < 110) (hk : layK.getD r (0, 0) = (t, n)) (hj : j < n) (hn : n < 2 ^ 31) : pg_sI t h r (nI j) x = some (pg_si h r j (pg_nar t x)) := by
  unfold pg_sI
  rw [lay_k L hr, hk, if_pos ⟨rfl, nI_in hj hn⟩, nI_clamp (by omega)]
theorem lay_sL {h : pg_H} {r n : Nat} {j : Nat} (x : Int64) (L : Lay h) (hr : r < 110) (hk : layK.getD r (0, 0) = (22, n)) (hj : j < n) (hn : n < 2 ^ 31) : pg_sL h r (nI j) x = some (pg_sl h r j x) := by
  unfold pg_sL
  rw [lay_k L hr, hk, if_pos ⟨rfl, nI_in hj hn⟩, nI_clamp (by omega)]
theorem lay_len {h : pg_H} {r t n : Nat} (L : Lay h) (hr : r < 110) (hk : layK.getD r (0, 0) = (t, n)) (h1 : 20 ≤ t) (h2 : t < 26) : pg_len h r = some (nI n) := by
  unfold pg_len
  rw [lay_k L hr, hk, if_pos ⟨h1, h2⟩]
  rfl
/-- a place that isn't fixed changes -/
theorem Lay.si {h : pg_H} {r k : Nat} {x : Int32} (L : Lay h) (hn : ∀ q ∈ layI, ¬ (q.1 = r ∧ q.2.1 = k)) (h86 : 86 ≠ r) : Lay (pg_si h r k x) := by
  refine ⟨L.1, L.2.1, L.2.2.1, fun q hq => ?_, fun j hj => (pg_up2_ne h86 j).trans (L.2.2.2.2 j hj)⟩
  show pg_up2 (pg_i h) r k x q.1 q.2.1 = _
  by_cases e : q.1 = r
  · rw [e, pg_up2_at, if_neg (fun z => hn q hq ⟨e, z⟩), ← e]
    exact L.2.2.2.1 q hq
  · rw [pg_up2_ne e]
    exact L.2.2.2.1 q hq
theorem Lay.sl {h : pg_H} {r k : Nat} {x : Int64} (L : Lay h) : Lay (pg_sl h r k x) := L
/-- what Lay looks at is the same -/
theorem Lay.of {h h' : pg_H} (L : Lay h) (h1 : h.1 ≤ h'.1) (hk : ∀ r, r < 110 → pg_k h' r = pg_k h r) (hr : ∀ q ∈ layR, pg_r h' q.1 q.2.1 = pg_r h q.1 q.2.1) (hi : ∀ q ∈ layI, pg_i h' q.1 q.2.1 = pg_i h q.1 q.2.1) (h86 : ∀ j, pg_i h' 86 j = pg_i h 86 j) : Lay h' :=
  ⟨Nat.le_trans L.1 h1, fun r hr' => (hk r hr').trans (L.2.1 r hr'), fun q hq => (hr q hq).trans (L.2.2.1 q hq), fun q hq => (hi q hq).trans (L.2.2.2.1 q hq), fun j hj => (h86 j).trans (L.2.2.2.2 j hj)⟩
theorem si_nar {t : Nat} {x : Int32} (h1 : t ≠ 20) (h2 : t ≠ 23) : pg_nar t x = x := by
  unfold pg_nar
  rw [if_neg h1, if_neg h2]
theorem gR_3_0 {h : pg_H} (L : Lay h) : pg_gR 7 0 h 3 = some 4 := lay_gR L (by decide) (by decide) (by decide)
theorem gR_2_0 {h : pg_H} (L : Lay h) : pg_gR 5 0 h 2 = some 3 := lay_gR L (by decide) (by decide) (by decide)
theorem gR_5_0 {h : pg_H} (L : Lay h) : pg_gR 7 0 h 5 = some 6 := lay_gR L (by decide) (by decide) (by decide)
theorem gR_2_1 {h : pg_H} (L : Lay h) : pg_gR 5 1 h 2 = some 5 := lay_gR L (by decide) (by decide) (by decide)
theorem gR_7_0 {h : pg_H} (L : Lay h) : pg_gR 7 0 h 7 = some 8 := lay_gR L (by decide) (by decide) (by decide)
theorem gR_2_2 {h : pg_H} (L : Lay h) : pg_gR 5 2 h 2 = some 7 := lay_gR L (by decide) (by decide) (by decide)
theorem gR_9_0 {h : pg_H} (L : Lay h) : pg_gR 7 0 h 9 = some 10 := lay_gR L (by decide) (by decide) (by decide)
theorem gR_2_3 {h : pg_H} (L : Lay h) : pg_gR 5 3 h 2 = some 9 := lay_gR L (by decide) (by decide) (by decide)
theorem gR_11_0 {h : pg_H} (L : Lay h) : pg_gR 7 0 h 11 = some 12 := lay_gR L (by decide) (by decide) (by decide)
theorem gR_2_4 {h : pg_H} (L : Lay h) : pg_gR 5 4 h 2 = some 11 := lay_gR L (by decide) (by decide) (by decide)
theorem gR_2_5 {h : pg_H} (L : Lay h) : pg_gR 5 5 h 2 = some 13 := lay_gR L (by decide) (by decide) (by decide)
theorem gR_2_6 {h : pg_H} (L : Lay h) : pg_gR 5 6 h 2 = some 14 := lay_gR L (by decide) (by decide) (by decide)
theorem gR_1_0 {h : pg_H} (L : Lay h) : pg_gR 11 0 h 1 = some 2 := lay_gR L (by decide) (by decide) (by decide)
theorem gR_1_1 {h : pg_H} (L : Lay h) : pg_gR 11 1 h 1 = some 15 := lay_gR L (by decide) (by decide) (by decide)
theorem gR_17_0 {h : pg_H} (L : Lay h) : pg_gR 7 0 h 17 = some 18 := lay_gR L (by decide) (by decide) (by decide)
theorem gR_16_0 {h : pg_H} (L : Lay h) : pg_gR 5 0 h 16 = some 17 := lay_gR L (by decide) (by decide) (by decide)
theorem gR_19_0 {h : pg_H} (L : Lay h) : pg_gR 7 0 h 19 = some 20 := lay_gR L (by decide) (by decide) (by decide)
theorem gR_16_1 {h : pg_H} (L : Lay h) : pg_gR 5 1 h 16 = some 19 := lay_gR L (by decide) (by decide) (by decide)
theorem gR_21_0 {h : pg_H} (L : Lay h) : pg_gR 7 0 h 21 = some 22 := lay_gR L (by decide) (by decide) (by decide)
theorem gR_16_2 {h : pg_H} (L : Lay h) : pg_gR 5 2 h 16 = some 21 := lay_gR L (by decide) (by decide) (by decide)
theorem gR_23_0 {h : pg_H} (L : Lay h) : pg_gR 7 0 h 23 = some 24 := lay_gR L (by decide) (by decide) (by decide)
theorem gR_16_3 {h : pg_H} (L : Lay h) : pg_gR 5 3 h 16 = some 23 := lay_gR L (by decide) (by decide) (by decide)
theorem gR_25_0 {h : pg_H} (L : Lay h) : pg_gR 7 0 h 25 = some 26 := lay_gR L (by decide) (by decide) (by decide)
theorem gR_16_4 {h : pg_H} (L : Lay h) : pg_gR 5 4 h 16 = some 25 := lay_gR L (by decide) (by decide) (by decide)
theorem gR_16_5 {h : pg_H} (L : Lay h) : pg_gR 5 5 h 16 = some 27 := lay_gR L (by decide) (by decide) (by decide)
theorem gR_16_6 {h : pg_H} (L : Lay h) : pg_gR 5 6 h 16 = some 28 := lay_gR L (by decide) (by decide) (by decide)
theorem gR_30_0 {h : pg_H} (L : Lay h) : pg_gR 7 0 h 30 = some 31 := lay_gR L (by decide) (by decide) (by decide)
theorem gR_29_0 {h : pg_H} (L : Lay h) : pg_gR 5 0 h 29 = some 30 := lay_gR L (by decide) (by decide) (by decide)
theorem gR_32_0 {h : pg_H} (L : Lay h) : pg_gR 7 0 h 32 = some 33 := lay_gR L (by decide) (by decide) (by decide)
theorem gR_29_1 {h : pg_H} (L : Lay h) : pg_gR 5 1 h 29 = some 32 := lay_gR L (by decide) (by decide) (by decide)
theorem gR_34_0 {h : pg_H} (L : Lay h) : pg_gR 7 0 h 34 = some 35 := lay_gR L (by decide) (by decide) (by decide)
theorem gR_29_2 {h : pg_H} (L : Lay h) : pg_gR 5 2 h 29 = some 34 := lay_gR L (by decide) (by decide) (by decide)
theorem gR_36_0 {h : pg_H} (L : Lay h) : pg_gR 7 0 h 36 = some 37 := lay_gR L (by decide) (by decide) (by decide)
theorem gR_29_3 {h : pg_H} (L : Lay h) : pg_gR 5 3 h 29 = some 36 := lay_gR L (by decide) (by decide) (by decide)
theorem gR_38_0 {h : pg_H} (L : Lay h) : pg_gR 7 0 h 38 = some 39 := lay_gR L (by decide) (by decide) (by decide)
theorem gR_29_4 {h : pg_H} (L : Lay h) : pg_gR 5 4 h 29 = some 38 := lay_gR L (by decide) (by decide) (by decide)
theorem gR_29_5 {h : pg_H} (L : Lay h) : pg_gR 5 5 h 29 = some 40 := lay_gR L (by decide) (by decide) (by decide)
theorem gR_29_6 {h : pg_H} (L : Lay h) : pg_gR 5 6 h 29 = some 41 := lay_gR L (by decide) (by decide) (by decide)
theorem gR_1_2 {h : pg_H} (L : Lay h) : pg_gR 11 2 h 1 = some 42 := lay_gR L (by decide) (by decide) (by decide)
theorem gR_1_3 {h : pg_H} (L : Lay h) : pg_gR 11 3 h 1 = some 43 := lay_gR L (by decide) (by decide) (by decide)
theorem gR_43_0 {h : pg_H} (L : Lay h) : pg_gR 8 0 h 43 = some 44 := lay_gR L (by decide) (by decide) (by decide)
theorem gR_1_4 {h : pg_H} (L : Lay h) : pg_gR 11 4 h 1 = some 45 := lay_gR L (by decide) (by decide) (by decide)
theorem gR_45_0 {h : pg_H} (L : Lay h) : pg_gR 3 0 h 45 = some 46 := lay_gR L (by decide) (by decide) (by decide)
theorem gR_45_1 {h : pg_H} (L : Lay h) : pg_gR 3 1 h 45 = some 43 := lay_gR L (by decide) (by decide) (by decide)
theorem gR_1_5 {h : pg_H} (L : Lay h) : pg_gR 11 5 h 1 = some 47 := lay_gR L (by decide) (by decide) (by decide)
theorem gR_47_0 {h : pg_H} (L : Lay h) : pg_gR 0 0 h 47 = some 48 := lay_gR L (by decide) (by decide) (by decide)
theorem gR_47_1 {h : pg_H} (L : Lay h) : pg_gR 0 1 h 47 = some 49 := lay_gR L (by decide) (by decide) (by decide)
theorem gR_1_6 {h : pg_H} (L : Lay h) : pg_gR 11 6 h 1 = some 50 := lay_gR L (by decide) (by decide) (by decide)
theorem gR_50_0 {h : pg_H} (L : Lay h) : pg_gR 4 0 h 50 = some 51 := lay_gR L (by decide) (by decide) (by decide)
theorem gR_50_1 {h : pg_H} (L : Lay h) : pg_gR 4 1 h 50 = some 52 := lay_gR L (by decide) (by decide) (by decide)
theorem gR_50_2 {h : pg_H} (L : Lay h) : pg_gR 4 2 h 50 = some 53 := lay_gR L (by decide) (by decide) (by decide)
theorem gR_50_3 {h : pg_H} (L : Lay h) : pg_gR 4 3 h 50 = some 54 := lay_gR L (by decide) (by decide) (by decide)
theorem gR_50_4 {h : pg_H} (L : Lay h) : pg_gR 4 4 h 50 = some 55 := lay_gR L (by decide) (by decide) (by decide)
theorem gR_50_5 {h : pg_H} (L : Lay h) : pg_gR 4 5 h 50 = some 56 := lay_gR L (by decide) (by decide) (by decide)
theorem gR_50_6 {h : pg_H} (L : Lay h) : pg_gR 4 6 h 50 = some 57 := lay_gR L (by decide) (by decide) (by decide)
theorem gR_50_7 {h : pg_H} (L : Lay h) : pg_gR 4 7 h 50 = some 58 := lay_gR L (by decide) (by decide) (by decide)
theorem gR_1_7 {h : pg_H} (L : Lay h) : pg_gR 11 7 h 1 = some 59 := lay_gR L (by decide) (by decide) (by decide)
theorem gR_59_0 {h : pg_H} (L : Lay h) : pg_gR 6 0 h 59 = some 60 := lay_gR L (by decide) (by decide) (by decide)
theorem gR_59_1 {h : pg_H} (L : Lay h) : pg_gR 6 1 h 59 = some 61 := lay_gR L (by decide) (by decide) (by decide)
theorem gR_59_2 {h : pg_H} (L : Lay h) : pg_gR 6 2 h 59 = some 62 := lay_gR L (by decide) (by decide) (by decide)
theorem gR_59_3 {h : pg_H} (L : Lay h) : pg_gR 6 3 h 59 = some 63 := lay_gR L (by decide) (by decide) (by decide)
theorem gR_59_4 {h : pg_H} (L : Lay h) : pg_gR 6 4 h 59 = some 64 := lay_gR L (by decide) (by decide) (by decide)
theorem gR_59_5 {h : pg_H} (L : Lay h) : pg_gR 6 5 h 59 = some 65 := lay_gR L (by decide) (by decide) (by decide)
theorem gR_59_6 {h : pg_H} (L : Lay h) : pg_gR 6 6 h 59 = some 66 := lay_gR L (by decide) (by decide) (by decide)
theorem gR_1_8 {h : pg_H} (L : Lay h) : pg_gR 11 8 h 1 = some 67 := lay_gR L (by decide) (by decide) (by decide)
theorem gR_67_0 {h : pg_H} (L : Lay h) : pg_gR 2 0 h 67 = some 68 := lay_gR L (by decide) (by decide) (by decide)
theorem gR_68_0 {h : pg_H} (L : Lay h) : pg_gR 1 0 h 68 = some 69 := lay_gR L (by decide) (by decide) (by decide)
theorem gR_67_1 {h : pg_H} (L : Lay h) : pg_gR 2 1 h 67 = some 70 := lay_gR L (by decide) (by decide) (by decide)
theorem gR_70_0 {h : pg_H} (L : Lay h) : pg_gR 1 0 h 70 = some 71 := lay_gR L (by decide) (by decide) (by decide)
theorem gR_67_2 {h : pg_H} (L : Lay h) : pg_gR 2 2 h 67 = some 72 := lay_gR L (by decide) (by decide) (by decide)
theorem gR_72_0 {h : pg_H} (L : Lay h) : pg_gR 1 0 h 72 = some 73 := lay_gR L (by decide) (by decide) (by decide)
theorem gR_67_3 {h : pg_H} (L : Lay h) : pg_gR 2 3 h 67 = some 74 := lay_gR L (by decide) (by decide) (by decide)
theorem gR_67_4 {h : pg_H} (L : Lay h) : pg_gR 2 4 h 67 = some 75 := lay_gR L (by decide) (by decide) (by decide)
theorem gR_1_9 {h : pg_H} (L : Lay h) : pg_gR 11 9 h 1 = some 76 := lay_gR L (by decide) (by decide) (by decide)
theorem gR_76_0 {h : pg_H} (L : Lay h) : pg_gR 10 0 h 76 = some 77 := lay_gR L (by decide) (by decide) (by decide)
theorem gR_76_1 {h : pg_H} (L : Lay h) : pg_gR 10 1 h 76 = some 78 := lay_gR L (by decide) (by decide) (by decide)
theorem gR_76_2 {h : pg_H} (L : Lay h) : pg_gR 10 2 h 76 = some 79 := lay_gR L (by decide) (by decide) (by decide)
theorem gR_1_10 {h : pg_H} (L : Lay h) : pg_gR 11 10 h 1 = some 80 := lay_gR L (by decide) (by decide) (by decide)
theorem gR_81_2 {h : pg_H} (L : Lay h) : pg_gR 12 2 h 81 = some 82 := lay_gR L (by decide) (by decide) (by decide)
theorem gR_81_3 {h : pg_H} (L : Lay h) : pg_gR 12 3 h 81 = some 83 := lay_gR L (by decide) (by decide) (by decide)
theorem gR_81_4 {h : pg_H} (L : Lay h) : pg_gR 12 4 h 81 = some 84 := lay_gR L (by decide) (by decide) (by decide)
theorem gR_81_5 {h : pg_H} (L : Lay h) : pg_gR 12 5 h 81 = some 85 := lay_gR L (by decide) (by decide) (by decide)
theorem gR_81_7 {h : pg_H} (L : Lay h) : pg_gR 12 7 h 81 = some 86 := lay_gR L (by decide) (by decide) (by decide)
theorem gR_81_8 {h : pg_H} (L : Lay h) : pg_gR 12 8 h 81 = some 87 := lay_gR L (by decide) (by decide) (by decide)
theorem gR_81_9 {h : pg_H} (L : Lay h) : pg_gR 12 9 h 81 = some 88 := lay_gR L (by decide) (by decide) (by decide)
theorem gR_81_12 {h : pg_H} (L : Lay h) : pg_gR 12 12 h 81 = some 89 := lay_gR L (by decide) (by decide) (by decide)
theorem gR_81_13 {h : pg_H} (L : Lay h) : pg_gR 12 13 h 81 = some 90 := lay_gR L (by decide) (by decide) (by decide)
theorem gR_81_14 {h : pg_H} (L : Lay h) : pg_gR 12 14 h 81 = some 91 := lay_gR L (by decide) (by decide) (by decide)
theorem gR_81_22 {h : pg_H} (L : Lay h) : pg_gR 12 22 h 81 = some 92 := lay_gR L (by decide) (by decide) (by decide)
theorem gR_81_25 {h : pg_H} (L : Lay h) : pg_gR 12 25 h 81 = some 93 := lay_gR L (by decide) (by decide) (by decide)
theorem gR_81_26 {h : pg_H} (L : Lay h) : pg_gR 12 26 h 81 = some 94 := lay_gR L (by decide) (by decide) (by decide)
theorem gR_81_27 {h : pg_H} (L : Lay h) : pg_gR 12 27 h 81 = some 95 := lay_gR L (by decide) (by decide) (by decide)
theorem gR_81_28 {h : pg_H} (L : Lay h) : pg_gR 12 28 h 81 = some 96 := lay_gR L (by decide) (by decide) (by decide)
theorem gR_81_29 {h : pg_H} (L : Lay h) : pg_gR 12 29 h 81 = some 97 := lay_gR L (by decide) (by decide) (by decide)
theorem gR_81_32 {h : pg_H} (L : Lay h) : pg_gR 12 32 h 81 = some 98 := lay_gR L (by decide) (by decide) (by decide)
theorem gR_81_33 {h : pg_H} (L : Lay h) : pg_gR 12 33 h 81 = some 99 := lay_gR L (by decide) (by decide) (by decide)
theorem gR_81_34 {h : pg_H} (L : Lay h) : pg_gR 12 34 h 81 = some 100 := lay_gR L (by decide) (by decide) (by decide)
theorem gR_81_35 {h : pg_H} (L : Lay h) : pg_gR 12 35 h 81 = some 101 := lay_gR L (by decide) (by decide) (by decide)
theorem gR_81_36 {h : pg_H} (L : Lay h) : pg_gR 12 36 h 81 = some 102 := lay_gR L (by decide) (by decide) (by decide)
theorem gR_81_37 {h : pg_H} (L : Lay h) : pg_gR 12 37 h 81 = some 103 := lay_gR L (by decide) (by decide) (by decide)
theorem gR_81_38 {h : pg_H} (L : Lay h) : pg_gR 12 38 h 81 = some 104 := lay_gR L (by decide) (by decide) (by decide)
theorem gR_81_39 {h : pg_H} (L : Lay h) : pg_gR 12 39 h 81 = some 105 := lay_gR L (by decide) (by decide) (by decide)
theorem gR_81_40 {h : pg_H} (L : Lay h) : pg_gR 12 40 h 81 = some 106 := lay_gR L (by decide) (by decide) (by decide)
theorem gR_81_41 {h : pg_H} (L : Lay h) : pg_gR 12 41 h 81 = some 107 := lay_gR L (by decide) (by decide) (by decide)
theorem gR_81_42 {h : pg_H} (L : Lay h) : pg_gR 12 42 h 81 = some 108 := lay_gR L (by decide) (by decide) (by decide)
theorem gR_81_43 {h : pg_H} (L : Lay h) : pg_gR 12 43 h 81 = some 109 := lay_gR L (by decide) (by decide) (by decide)
theorem rc_1 {τ : Type} {h : pg_H} (L : Lay h) (G : Option τ) : pg_rcv 11 h 1 G = G := lay_rcv L (by decide) (by decide) G
theorem rc_2 {τ : Type} {h : pg_H} (L : Lay h) (G : Option τ) : pg_rcv 5 h 2 G = G := lay_rcv L (by decide) (by decide) G
theorem rc_3 {τ : Type} {h : pg_H} (L : Lay h) (G : Option τ) : pg_rcv 7 h 3 G = G := lay_rcv L (by decide) (by decide) G
theorem rc_5 {τ : Type} {h : pg_H} (L : Lay h) (G : Option τ) : pg_rcv 7 h 5 G = G := lay_rcv L (by decide) (by decide) G
theorem rc_7 {τ : Type} {h : pg_H} (L : Lay h) (G : Option τ) : pg_rcv 7 h 7 G = G := lay_rcv L (by decide) (by decide) G
theorem rc_9 {τ : Type} {h : pg_H} (L : Lay h) (G : Option τ) : pg_rcv 7 h 9 G = G := lay_rcv L (by decide) (by decide) G
theorem rc_11 {τ : Type} {h : pg_H} (L : Lay h) (G : Option τ) : pg_rcv 7 h 11 G = G := lay_rcv L (by decide) (by decide) G
theorem rc_16 {τ : Type} {h : pg_H} (L : Lay h) (G : Option τ) : pg_rcv 5 h 16 G = G := lay_rcv L (by decide) (by decide) G
theorem rc_17 {τ : Type} {h : pg_H} (L : Lay h) (G : Option τ) : pg_rcv 7 h 17 G = G := lay_rcv L (by decide) (by decide) G
theorem rc_19 {τ : Type} {h : pg_H} (L : Lay h) (G : Option τ) : pg_rcv 7 h 19 G = G := lay_rcv L (by decide) (by decide) G
theorem rc_21 {τ : Type} {h : pg_H} (L : Lay h) (G : Option τ) : pg_rcv 7 h 21 G = G := lay_rcv L (by decide) (by decide) G
theorem rc_23 {τ : Type} {h : pg_H} (L : Lay h) (G : Option τ) : pg_rcv 7 h 23 G = G := lay_rcv L (by decide) (by decide) G
theorem rc_25 {τ : Type} {h : pg_H} (L : Lay h) (G : Option τ) : pg_rcv 7 h 25 G = G := lay_rcv L (by decide) (by decide) G
theorem rc_29 {τ : Type} {h : pg_H} (L : Lay h) (G : Option τ) : pg_rcv 5 h 29 G = G := lay_rcv L (by decide) (by decide) G
theorem rc_30 {τ : Type} {h : pg_H} (L : Lay h) (G : Option τ) : pg_rcv 7 h 30 G = G := lay_rcv L (by decide) (by decide) G
theorem rc_32 {τ : Type} {h : pg_H} (L : Lay h) (G : Option τ) : pg_rcv 7 h 32 G = G := lay_rcv L (by decide) (by decide) G
theorem rc_34 {τ : Type} {h : pg_H} (L : Lay h) (G : Option τ) : pg_rcv 7 h 34 G = G := lay_rcv L (by decide) (by decide) G
theorem rc_36 {τ : Type} {h : pg_H} (L : Lay h) (G : Option τ) : pg_rcv 7 h 36 G = G := lay_rcv L (by decide) (by decide) G
theorem rc_38 {τ : Type} {h : pg_H} (L : Lay h) (G : Option τ) : pg_rcv 7 h 38 G = G := lay_rcv L (by decide) (by decide) G
theorem rc_43 {τ : Type} {h : pg_H} (L : Lay h) (G : Option τ) : pg_rcv 8 h 43 G = G := lay_rcv L (by decide) (by decide) G
theorem rc_45 {τ : Type} {h : pg_H} (L : Lay h) (G : Option τ) : pg_rcv 3 h 45 G = G := lay_rcv L (by decide) (by decide) G
theorem rc_47 {τ : Type} {h : pg_H} (L : Lay h) (G : Option τ) : pg_rcv 0 h 47 G = G := lay_rcv L (by decide) (by decide) G
theorem rc_50 {τ : Type} {h : pg_H} (L : Lay h) (G : Option τ) : pg_rcv 4 h 50 G = G := lay_rcv L (by decide) (by decide) G
theorem rc_59 {τ : Type} {h : pg_H} (L : Lay h) (G : Option τ) : pg_rcv 6 h 59 G = G := lay_rcv L (by decide) (by decide) G
theorem rc_67 {τ : Type} {h : pg_H} (L : Lay h) (G : Option τ) : pg_rcv 2 h 67 G = G := lay_rcv L (by decide) (by decide) G
theorem rc_68 {τ : Type} {h : pg_H} (L : Lay h) (G : Option τ) : pg_rcv 1 h 68 G = G := lay_rcv L (by decide) (by decide) G
theorem rc_70 {τ : Type} {h : pg_H} (L : Lay h) (G : Option τ) : pg_rcv 1 h 70 G = G := lay_rcv L (by decide) (by decide) G
theorem rc_72 {τ : Type} {h : pg_H} (L : Lay h) (G : Option τ) : pg_rcv 1 h 72 G = G := lay_rcv L (by decide) (by decide) G
theorem rc_76 {τ : Type} {h : pg_H} (L : Lay h) (G : Option τ) : pg_rcv 10 h 76 G = G := lay_rcv L (by decide) (by decide) G
theorem rc_81 {τ : Type} {h : pg_H} (L : Lay h) (G : Option τ) : pg_rcv 12 h 81 G = G := lay_rcv L (by decide) (by decide) G
