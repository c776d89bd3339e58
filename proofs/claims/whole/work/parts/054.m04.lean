def F_X11_cost (a0 : Nat) (a1 : Int32) (a2 : Int32) (h : pg_H) : Option (Int32 × pg_H) := (if a1 = (-1 : Int32) then Option.bind (pg_gR 11 0 h a0) fun v5 => Option.bind (pg_gR 5 0 h v5) fun v6 => Option.bind (pg_rcv 7 h v6 (F_X7_holds h v6 a2)) fun v7 => (if v7 = 0 then (some ((-1 : Int32), h)) else Option.bind (pg_rcv 11 h a0 (F_X11_freshReadings a0 h)) fun v8 => Option.bind (pg_gR 11 0 v8.2 a0) fun v9 => Option.bind (pg_rcv 4 v8.2 v8.1 (F_X4_ownCost v8.2 v8.1 v9 a2)) fun v10 => (some (v10, v8.2))) else Option.bind (pg_rcv 11 h a0 (F_X11_areTwoCopies h a0 a1 a2)) fun v1 => (if v1 = 0 then (some ((-1 : Int32), h)) else Option.bind (pg_rcv 11 h a0 (F_X11_freshReadings a0 h)) fun v2 => Option.bind (pg_gR 11 0 v2.2 a0) fun v3 => Option.bind (pg_rcv 4 v2.2 v2.1 (F_X4_costFrom v2.2 v2.1 v3 ((1 : Int32) <<< (a1 &&& 31)) a2)) fun v4 => (some (v4, v2.2))))
theorem e_X11_cost (l : Launch) (D : pg_D)  (a0 : Nat) (a1 : Int32) (a2 : Int32) (h : pg_H) : pg_EvF l D RX11 cX11_cost 3 (some FieldType.int) "cost" 6 159 pg_wI (F_X11_cost a0 a1 a2 h) 0 [(0, pR a0), (1, pI a1), (2, pI a2)] [] h := by
  unfold F_X11_cost
  refine pg_iload_n (i := 1) dX11_cost_0 rfl 1 rfl ?_
  refine pg_iconst dX11_cost_1 ci_m1 ?_
  refine pg_icmp_ne (tgt := 36) dX11_cost_2 rfl ?_ ?_
  · refine pg_aload_n (i := 0) dX11_cost_36 rfl 0 rfl ?_
    refine pg_iload_n (i := 1) dX11_cost_37 rfl 1 rfl ?_
    refine pg_iload_n (i := 2) dX11_cost_38 rfl 2 rfl ?_
    refine pg_callV_oI (As := [pI a1, pI a2]) (rs := []) dX11_cost_39 lk_RX11_226 vy_X11_areTwoCopies nd_X11_areTwoCopies (c_X11_areTwoCopies l D h a0 a1 a2) rfl rfl (Nat.le_of_ble_eq_true rfl) (by decide) (by decide) (fun v1 => ?_)
    refine pg_if_ne (tgt := 47) dX11_cost_42 rfl ?_ ?_
    · refine pg_aload_n (i := 0) dX11_cost_47 rfl 0 rfl ?_
      refine pg_callV_wR (As := []) (rs := []) dX11_cost_48 lk_RX11_148 vy_X11_freshReadings nd_X11_freshReadings (c_X11_freshReadings l D a0 h) rfl rfl (Nat.le_of_ble_eq_true rfl) (by decide) (by decide) (fun v2 => ?_)
      refine pg_aload_n (i := 0) dX11_cost_51 rfl 0 rfl ?_
      refine pg_getR dX11_cost_52 fl_RX11_10 rfl (fun v3 => ?_)
      refine pg_iconst dX11_cost_55 ci_1 ?_
      refine pg_iload_n (i := 1) dX11_cost_56 rfl 1 rfl ?_
      refine pg_ishl dX11_cost_57 ?_
      refine pg_iload_n (i := 2) dX11_cost_58 rfl 2 rfl ?_
      refine pg_callV_oI (As := [pR v3, pI ((1 : Int32) <<< (a1 &&& 31)), pI a2]) (rs := []) dX11_cost_59 lk_RX11_235 vy_X4_costFrom nd_X4_costFrom (c_X4_costFrom l D v2.2 v2.1 v3 ((1 : Int32) <<< (a1 &&& 31)) a2) rfl rfl (Nat.le_of_ble_eq_true rfl) (by decide) (by decide) (fun v4 => ?_)
      exact pg_iret dX11_cost_62 rfl rfl
    · refine pg_iconst dX11_cost_45 ci_m1 ?_
      exact pg_iret dX11_cost_46 rfl rfl
  · refine pg_aload_n (i := 0) dX11_cost_5 rfl 0 rfl ?_
    refine pg_getR dX11_cost_6 fl_RX11_10 rfl (fun v5 => ?_)
    refine pg_getR dX11_cost_9 fl_RX11_91 rfl (fun v6 => ?_)
    refine pg_iload_n (i := 2) dX11_cost_12 rfl 2 rfl ?_
    refine pg_callV_oI (As := [pI a2]) (rs := []) dX11_cost_13 lk_RX11_108 vy_X7_holds nd_X7_holds (c_X7_holds l D h v6 a2) rfl rfl (Nat.le_of_ble_eq_true rfl) (by decide) (by decide) (fun v7 => ?_)
    refine pg_if_eq (tgt := 34) dX11_cost_16 rfl ?_ ?_
    · refine pg_iconst dX11_cost_34 ci_m1 ?_
      exact pg_iret dX11_cost_35 rfl rfl
    · refine pg_aload_n (i := 0) dX11_cost_19 rfl 0 rfl ?_
      refine pg_callV_wR (As := []) (rs := []) dX11_cost_20 lk_RX11_148 vy_X11_freshReadings nd_X11_freshReadings (c_X11_freshReadings l D a0 h) rfl rfl (Nat.le_of_ble_eq_true rfl) (by decide) (by decide) (fun v8 => ?_)
      refine pg_aload_n (i := 0) dX11_cost_23 rfl 0 rfl ?_
      refine pg_getR dX11_cost_24 fl_RX11_10 rfl (fun v9 => ?_)
      refine pg_iload_n (i := 2) dX11_cost_27 rfl 2 rfl ?_
      refine pg_callV_oI (As := [pR v9, pI a2]) (rs := []) dX11_cost_28 lk_RX11_232 vy_X4_ownCost nd_X4_ownCost (c_X4_ownCost l D v8.2 v8.1 v9 a2) rfl rfl (Nat.le_of_ble_eq_true rfl) (by decide) (by decide) (fun v10 => ?_)
      refine pg_goto (tgt := 35) dX11_cost_31 rfl ?_
      exact pg_iret dX11_cost_35 rfl rfl
theorem c_X11_cost (l : Launch) (D : pg_D) (a0 : Nat) (a1 : Int32) (a2 : Int32) (h : pg_H) : ∀ x, F_X11_cost a0 a1 a2 h = some x → pg_Ct l D yX11_cost cX11_cost 3 (some FieldType.int) 6 159 [pR a0, pI a1, pI a2] h (pg_wI x) :=
  pg_Ct.of pn_RX11 (Nat.le_of_ble_eq_true rfl) (e_X11_cost l D a0 a1 a2 h)
def F_X11_freshStemma (a0 : Nat) (h : pg_H) : Option (Nat × pg_H) := Option.bind (pg_gI 11 15 h a0) fun v1 => (if v1 = 0 then Option.bind (pg_gR 11 7 h a0) fun v3 => Option.bind (pg_gR 11 0 h a0) fun v4 => Option.bind (pg_rcv 11 h a0 (F_X11_freshReadings a0 h)) fun v5 => Option.bind (pg_rcv 6 v5.2 v3 (F_X6_grow v3 v4 v5.1 v5.2)) fun v6 => Option.bind (pg_pZ 11 15 v6 a0 (1 : Int32)) fun v7 => Option.bind (pg_gR 11 7 v7 a0) fun v8 => (some (v8, v7)) else Option.bind (pg_gR 11 7 h a0) fun v2 => (some (v2, h)))
theorem e_X11_freshStemma (l : Launch) (D : pg_D)  (a0 : Nat) (h : pg_H) : pg_EvF l D RX11 cX11_freshStemma 1 (some (FieldType.object "SkyMargins$Stemma")) "freshStemma" 6 159 pg_wR (F_X11_freshStemma a0 h) 0 [(0, pR a0)] [] h := by
  unfold F_X11_freshStemma
  refine pg_aload_n (i := 0) dX11_freshStemma_0 rfl 0 rfl ?_
  refine pg_getI dX11_freshStemma_1 fl_RX11_366 rfl (fun v1 => ?_)
  refine pg_if_ne (tgt := 27) dX11_freshStemma_4 rfl ?_ ?_
  · refine pg_aload_n (i := 0) dX11_freshStemma_27 rfl 0 rfl ?_
    refine pg_getR dX11_freshStemma_28 fl_RX11_57 rfl (fun v2 => ?_)
    exact pg_aret dX11_freshStemma_31 rfl rfl rfl
  · refine pg_aload_n (i := 0) dX11_freshStemma_7 rfl 0 rfl ?_
    refine pg_getR dX11_freshStemma_8 fl_RX11_57 rfl (fun v3 => ?_)
    refine pg_aload_n (i := 0) dX11_freshStemma_11 rfl 0 rfl ?_
    refine pg_getR dX11_freshStemma_12 fl_RX11_10 rfl (fun v4 => ?_)
    refine pg_aload_n (i := 0) dX11_freshStemma_15 rfl 0 rfl ?_
    refine pg_callV_wR (As := []) (rs := [pR v4, pR v3]) dX11_freshStemma_16 lk_RX11_148 vy_X11_freshReadings nd_X11_freshReadings (c_X11_freshReadings l D a0 h) rfl rfl (Nat.le_of_ble_eq_true rfl) (by decide) (by decide) (fun v5 => ?_)
    refine pg_callV_wV (As := [pR v4, pR v5.1]) (rs := []) dX11_freshStemma_19 lk_RX11_373 vy_X6_grow nd_X6_grow (c_X6_grow l D v3 v4 v5.1 v5.2) rfl rfl (Nat.le_of_ble_eq_true rfl) (by decide) (by decide) (fun v6 => ?_)
    refine pg_aload_n (i := 0) dX11_freshStemma_22 rfl 0 rfl ?_
    refine pg_iconst dX11_freshStemma_23 ci_1 ?_
    refine pg_putZ dX11_freshStemma_24 fl_RX11_366 (fun z => by cases z) (fun v7 => ?_)
    refine pg_aload_n (i := 0) dX11_freshStemma_27 rfl 0 rfl ?_
    refine pg_getR dX11_freshStemma_28 fl_RX11_57 rfl (fun v8 => ?_)
    exact pg_aret dX11_freshStemma_31 rfl rfl rfl
theorem c_X11_freshStemma (l : Launch) (D : pg_D) (a0 : Nat) (h : pg_H) : ∀ x, F_X11_freshStemma a0 h = some x → pg_Ct l D yX11_freshStemma cX11_freshStemma 1 (some (FieldType.object "SkyMargins$Stemma")) 6 159 [pR a0] h (pg_wR x) :=
  pg_Ct.of pn_RX11 (Nat.le_of_ble_eq_true rfl) (e_X11_freshStemma l D a0 h)
def F_X11_tree (a0 : Nat) (h : pg_H) : Option (Int32 × pg_H) := Option.bind (pg_rcv 11 h a0 (F_X11_freshStemma a0 h)) fun v1 => Option.bind (pg_rcv 6 v1.2 v1.1 (F_X6_leastCost v1.2 v1.1)) fun v2 => (some (v2, v1.2))
theorem e_X11_tree (l : Launch) (D : pg_D)  (a0 : Nat) (h : pg_H) : pg_EvF l D RX11 cX11_tree 1 (some FieldType.int) "tree" 7 179 pg_wI (F_X11_tree a0 h) 0 [(0, pR a0)] [] h := by
  unfold F_X11_tree
  refine pg_aload_n (i := 0) dX11_tree_0 rfl 0 rfl ?_
  refine pg_callV_wR (As := []) (rs := []) dX11_tree_1 lk_RX11_239 vy_X11_freshStemma nd_X11_freshStemma (c_X11_freshStemma l D a0 h) rfl rfl (Nat.le_of_ble_eq_true rfl) (by decide) (by decide) (fun v1 => ?_)
  refine pg_callV_oI (As := []) (rs := []) dX11_tree_4 lk_RX11_243 vy_X6_leastCost nd_X6_leastCost (c_X6_leastCost l D v1.2 v1.1) rfl rfl (Nat.le_of_ble_eq_true rfl) (by decide) (by decide) (fun v2 => ?_)
  exact pg_iret dX11_tree_7 rfl rfl
theorem c_X11_tree (l : Launch) (D : pg_D) (a0 : Nat) (h : pg_H) : ∀ x, F_X11_tree a0 h = some x → pg_Ct l D yX11_tree cX11_tree 1 (some FieldType.int) 7 179 [pR a0] h (pg_wI x) :=
  pg_Ct.of pn_RX11 (Nat.le_of_ble_eq_true rfl) (e_X11_tree l D a0 h)
def F_X11_whose (a0 : Nat) (a1 : Int32) (h : pg_H) : Option (Int32 × pg_H) := Option.bind (pg_gR 11 0 h a0) fun v1 => Option.bind (pg_gR 5 0 h v1) fun v2 => Option.bind (pg_rcv 7 h v2 (F_X7_holds h v2 a1)) fun v3 => (if v3 = 0 then (some ((-1 : Int32), h)) else Option.bind (pg_rcv 11 h a0 (F_X11_freshStemma a0 h)) fun v4 => Option.bind (pg_rcv 6 v4.2 v4.1 (F_X6_exemplarOf v4.2 v4.1 a1)) fun v5 => (if v5 = (-1 : Int32) then (some ((100 : Int32), v4.2)) else (some (v5, v4.2))))
theorem e_X11_whose (l : Launch) (D : pg_D)  (a0 : Nat) (a1 : Int32) (h : pg_H) : pg_EvF l D RX11 cX11_whose 3 (some FieldType.int) "whose" 7 179 pg_wI (F_X11_whose a0 a1 h) 0 [(0, pR a0), (1, pI a1)] [] h := by
  unfold F_X11_whose
  refine pg_aload_n (i := 0) dX11_whose_0 rfl 0 rfl ?_
  refine pg_getR dX11_whose_1 fl_RX11_10 rfl (fun v1 => ?_)
  refine pg_getR dX11_whose_4 fl_RX11_91 rfl (fun v2 => ?_)
  refine pg_iload_n (i := 1) dX11_whose_7 rfl 1 rfl ?_
  refine pg_callV_oI (As := [pI a1]) (rs := []) dX11_whose_8 lk_RX11_108 vy_X7_holds nd_X7_holds (c_X7_holds l D h v2 a1) rfl rfl (Nat.le_of_ble_eq_true rfl) (by decide) (by decide) (fun v3 => ?_)
  refine pg_if_ne (tgt := 16) dX11_whose_11 rfl ?_ ?_
  · refine pg_aload_n (i := 0) dX11_whose_16 rfl 0 rfl ?_
    refine pg_callV_wR (As := []) (rs := []) dX11_whose_17 lk_RX11_239 vy_X11_freshStemma nd_X11_freshStemma (c_X11_freshStemma l D a0 h) rfl rfl (Nat.le_of_ble_eq_true rfl) (by decide) (by decide) (fun v4 => ?_)
    refine pg_iload_n (i := 1) dX11_whose_20 rfl 1 rfl ?_
    refine pg_callV_oI (As := [pI a1]) (rs := []) dX11_whose_21 lk_RX11_246 vy_X6_exemplarOf nd_X6_exemplarOf (c_X6_exemplarOf l D v4.2 v4.1 a1) rfl rfl (Nat.le_of_ble_eq_true rfl) (by decide) (by decide) (fun v5 => ?_)
    refine pg_istore_n (i := 2) (lv' := [(2, pI v5), (0, pR a0), (1, pI a1)]) dX11_whose_24 rfl (by decide) rfl ?_
    refine pg_iload_n (i := 2) dX11_whose_25 rfl 0 rfl ?_
    refine pg_iconst dX11_whose_26 ci_m1 ?_
    refine pg_icmp_ne (tgt := 35) dX11_whose_27 rfl ?_ ?_
    · refine pg_iload_n (i := 2) dX11_whose_35 rfl 0 rfl ?_
      exact pg_iret dX11_whose_36 rfl rfl
    · refine pg_bipush dX11_whose_30 cb_100 ?_
      refine pg_goto (tgt := 36) dX11_whose_32 rfl ?_
      exact pg_iret dX11_whose_36 rfl rfl
  · refine pg_iconst dX11_whose_14 ci_m1 ?_
    exact pg_iret dX11_whose_15 rfl rfl
theorem c_X11_whose (l : Launch) (D : pg_D) (a0 : Nat) (a1 : Int32) (h : pg_H) : ∀ x, F_X11_whose a0 a1 h = some x → pg_Ct l D yX11_whose cX11_whose 3 (some FieldType.int) 7 179 [pR a0, pI a1] h (pg_wI x) :=
  pg_Ct.of pn_RX11 (Nat.le_of_ble_eq_true rfl) (e_X11_whose l D a0 a1 h)
def F_X11_sure (a0 : Nat) (a1 : Int32) (h : pg_H) : Option (Int32 × pg_H) := Option.bind (pg_gR 11 0 h a0) fun v1 => Option.bind (pg_gR 5 0 h v1) fun v2 => Option.bind (pg_rcv 7 h v2 (F_X7_holds h v2 a1)) fun v3 => (if v3 = 0 then (some ((-1 : Int32), h)) else Option.bind (pg_rcv 11 h a0 (F_X11_freshStemma a0 h)) fun v4 => Option.bind (pg_rcv 6 v4.2 v4.1 (F_X6_isSure v4.1 a1 v4.2)) fun v5 => (if v5.1 = 0 then (some ((0 : Int32), v5.2)) else (some ((1 : Int32), v5.2))))
theorem e_X11_sure (l : Launch) (D : pg_D)  (a0 : Nat) (a1 : Int32) (h : pg_H) : pg_EvF l D RX11 cX11_sure 2 (some FieldType.int) "sure" 7 179 pg_wI (F_X11_sure a0 a1 h) 0 [(0, pR a0), (1, pI a1)] [] h := by
  unfold F_X11_sure
  refine pg_aload_n (i := 0) dX11_sure_0 rfl 0 rfl ?_
  refine pg_getR dX11_sure_1 fl_RX11_10 rfl (fun v1 => ?_)
  refine pg_getR dX11_sure_4 fl_RX11_91 rfl (fun v2 => ?_)
  refine pg_iload_n (i := 1) dX11_sure_7 rfl 1 rfl ?_
  refine pg_callV_oI (As := [pI a1]) (rs := []) dX11_sure_8 lk_RX11_108 vy_X7_holds nd_X7_holds (c_X7_holds l D h v2 a1) rfl rfl (Nat.le_of_ble_eq_true rfl) (by decide) (by decide) (fun v3 => ?_)
  refine pg_if_ne (tgt := 16) dX11_sure_11 rfl ?_ ?_
  · refine pg_aload_n (i := 0) dX11_sure_16 rfl 0 rfl ?_
    refine pg_callV_wR (As := []) (rs := []) dX11_sure_17 lk_RX11_239 vy_X11_freshStemma nd_X11_freshStemma (c_X11_freshStemma l D a0 h) rfl rfl (Nat.le_of_ble_eq_true rfl) (by decide) (by decide) (fun v4 => ?_)
    refine pg_iload_n (i := 1) dX11_sure_20 rfl 1 rfl ?_
    refine pg_callV_wI (As := [pI a1]) (rs := []) dX11_sure_21 lk_RX11_249 vy_X6_isSure nd_X6_isSure (c_X6_isSure l D v4.1 a1 v4.2) rfl rfl (Nat.le_of_ble_eq_true rfl) (by decide) (by decide) (fun v5 => ?_)
    refine pg_if_eq (tgt := 31) dX11_sure_24 rfl ?_ ?_
    · refine pg_iconst dX11_sure_31 ci_0 ?_
      exact pg_iret dX11_sure_32 rfl rfl
    · refine pg_iconst dX11_sure_27 ci_1 ?_
      refine pg_goto (tgt := 32) dX11_sure_28 rfl ?_
      exact pg_iret dX11_sure_32 rfl rfl
  · refine pg_iconst dX11_sure_14 ci_m1 ?_
    exact pg_iret dX11_sure_15 rfl rfl
theorem c_X11_sure (l : Launch) (D : pg_D) (a0 : Nat) (a1 : Int32) (h : pg_H) : ∀ x, F_X11_sure a0 a1 h = some x → pg_Ct l D yX11_sure cX11_sure 2 (some FieldType.int) 7 179 [pR a0, pI a1] h (pg_wI x) :=
  pg_Ct.of pn_RX11 (Nat.le_of_ble_eq_true rfl) (e_X11_sure l D a0 a1 h)
def F_X11_come_105 (k47 : Nat → Int32 → Int32 → Nat → Int32 → Int32 → pg_H → Option (Int32 × pg_H)) (a0 : Nat) (a1 : Int32) (a2 : Int32) (a3 : Nat) (a5 : Int32) (s0 : Int32) (s1 : Int32) (h : pg_H) : Option (Int32 × pg_H) := pg_let (s1 + s0) fun v1 => (k47 a0 a1 a2 a3 v1 (a5 + (1 : Int32)) h)
def F_X11_come_91 (k47 : Nat → Int32 → Int32 → Nat → Int32 → Int32 → pg_H → Option (Int32 × pg_H)) (a0 : Nat) (a1 : Int32) (a2 : Int32) (a3 : Nat) (a4 : Int32) (a5 : Int32) (s0 : Int32) (h : pg_H) : Option (Int32 × pg_H) := (if s0 = 0 then (F_X11_come_105 k47 a0 a1 a2 a3 a5 (0 : Int32) a4 h) else (F_X11_come_105 k47 a0 a1 a2 a3 a5 (1 : Int32) a4 h))
def F_X11_come_47  : Nat → Nat → Int32 → Int32 → Nat → Int32 → Int32 → pg_H → Option (Int32 × pg_H)
  | 0 => fun _ _ _ _ _ _ _ => none
  | n + 1 => fun a0 a1 a2 a3 a4 a5 h => Option.bind (pg_gR 11 0 h a0) fun v1 => Option.bind (pg_gR 5 0 h v1) fun v2 => Option.bind (pg_rcv 7 h v2 (F_X7_size h v2)) fun v3 => (if a5 < v3 then (if a2 = 0 then Option.bind (pg_rcv 6 h a3 (F_X6_comesOf h a3 a5 a1)) fun v5 => (F_X11_come_91 (F_X11_come_47 n) a0 a1 a2 a3 a4 a5 v5 h) else Option.bind (pg_rcv 6 h a3 (F_X6_exemplarOf h a3 a5)) fun v4 => (if v4 = a1 then (F_X11_come_91 (F_X11_come_47 n) a0 a1 a2 a3 a4 a5 (1 : Int32) h) else (F_X11_come_91 (F_X11_come_47 n) a0 a1 a2 a3 a4 a5 (0 : Int32) h))) else (some (a4, h)))
def F_X11_come (a0 : Nat) (a1 : Int32) (a2 : Int32) (h : pg_H) : Option (Int32 × pg_H) := Option.bind (pg_gR 11 0 h a0) fun v1 => Option.bind (pg_gR 5 0 h v1) fun v2 => Option.bind (pg_rcv 7 h v2 (F_X7_holds h v2 a1)) fun v3 => (if v3 = 0 then (some ((-1 : Int32), h)) else Option.bind (F_X11_within a2 (0 : Int32) (2 : Int32)) fun v4 => (if v4 = 0 then (some ((-1 : Int32), h)) else Option.bind (pg_rcv 11 h a0 (F_X11_freshStemma a0 h)) fun v5 => (if a2 = (2 : Int32) then Option.bind (pg_rcv 6 v5.2 v5.1 (F_X6_stepsFromNobody v5.2 v5.1 a1)) fun v6 => (some (v6, v5.2)) else (F_X11_come_47 pg_fuel a0 a1 a2 v5.1 (0 : Int32) (0 : Int32) v5.2))))
theorem e_X11_come_105 (l : Launch) (D : pg_D)  (k47 : Nat → Int32 → Int32 → Nat → Int32 → Int32 → pg_H → Option (Int32 × pg_H)) (hk47 : ∀ (a0 : Nat) (a1 : Int32) (a2 : Int32) (a3 : Nat) (a4 : Int32) (a5 : Int32) (h : pg_H), pg_EvF l D RX11 cX11_come 7 (some FieldType.int) "come" 7 179 pg_wI (k47 a0 a1 a2 a3 a4 a5 h) 47 [(0, pR a0), (1, pI a1), (2, pI a2), (3, pR a3), (4, pI a4), (5, pI a5)] [] h) (a0 : Nat) (a1 : Int32) (a2 : Int32) (a3 : Nat) (a5 : Int32) (s0 : Int32) (s1 : Int32) (h : pg_H) : pg_EvF l D RX11 cX11_come 7 (some FieldType.int) "come" 7 179 pg_wI (F_X11_come_105 k47 a0 a1 a2 a3 a5 s0 s1 h) 105 [(0, pR a0), (1, pI a1), (2, pI a2), (3, pR a3), (5, pI a5)] [pI s0, pI s1] h := by
  unfold F_X11_come_105
  refine pg_iadd dX11_come_105 ?_
  refine pg_letI (fun v1 => ?_)
  refine pg_istore (lv' := [(4, pI v1), (0, pR a0), (1, pI a1), (2, pI a2), (3, pR a3), (5, pI a5)]) dX11_come_106 (by decide) rfl ?_
  refine pg_iinc (lv' := [(5, pI (a5 + (1 : Int32))), (4, pI v1), (0, pR a0), (1, pI a1), (2, pI a2), (3, pR a3)]) dX11_come_108 5 rfl ci_1 (by decide) rfl ?_
  refine pg_goto (tgt := 47) dX11_come_111 rfl ?_
  exact pg_to (hk47 a0 a1 a2 a3 v1 (a5 + (1 : Int32)) h) [2, 3, 4, 5, 1, 0] rfl
theorem e_X11_come_91 (l : Launch) (D : pg_D)  (k47 : Nat → Int32 → Int32 → Nat → Int32 → Int32 → pg_H → Option (Int32 × pg_H)) (hk47 : ∀ (a0 : Nat) (a1 : Int32) (a2 : Int32) (a3 : Nat) (a4 : Int32) (a5 : Int32) (h : pg_H), pg_EvF l D RX11 cX11_come 7 (some FieldType.int) "come" 7 179 pg_wI (k47 a0 a1 a2 a3 a4 a5 h) 47 [(0, pR a0), (1, pI a1), (2, pI a2), (3, pR a3), (4, pI a4), (5, pI a5)] [] h) (a0 : Nat) (a1 : Int32) (a2 : Int32) (a3 : Nat) (a4 : Int32) (a5 : Int32) (s0 : Int32) (h : pg_H) : pg_EvF l D RX11 cX11_come 7 (some FieldType.int) "come" 7 179 pg_wI (F_X11_come_91 k47 a0 a1 a2 a3 a4 a5 s0 h) 91 [(0, pR a0), (1, pI a1), (2, pI a2), (3, pR a3), (4, pI a4), (5, pI a5)] [pI s0] h := by
  unfold F_X11_come_91
  refine pg_istore (lv' := [(6, pI s0), (0, pR a0), (1, pI a1), (2, pI a2), (3, pR a3), (4, pI a4), (5, pI a5)]) dX11_come_91 (by decide) rfl ?_
  refine pg_iload dX11_come_93 5 rfl ?_
  refine pg_iload dX11_come_95 0 rfl ?_
  refine pg_if_eq (tgt := 104) dX11_come_97 rfl ?_ ?_
  · refine pg_iconst dX11_come_104 ci_0 ?_
    exact pg_to (e_X11_come_105 l D k47 hk47 a0 a1 a2 a3 a5 (0 : Int32) a4 h) [1, 2, 3, 4, 6] rfl
  · refine pg_iconst dX11_come_100 ci_1 ?_
    refine pg_goto (tgt := 105) dX11_come_101 rfl ?_
    exact pg_to (e_X11_come_105 l D k47 hk47 a0 a1 a2 a3 a5 (1 : Int32) a4 h) [1, 2, 3, 4, 6] rfl
theorem e_X11_come_47 (l : Launch) (D : pg_D)   : ∀ (n : Nat) (a0 : Nat) (a1 : Int32) (a2 : Int32) (a3 : Nat) (a4 : Int32) (a5 : Int32) (h : pg_H), pg_EvF l D RX11 cX11_come 7 (some FieldType.int) "come" 7 179 pg_wI (F_X11_come_47 n a0 a1 a2 a3 a4 a5 h) 47 [(0, pR a0), (1, pI a1), (2, pI a2), (3, pR a3), (4, pI a4), (5, pI a5)] [] h := by
  intro n
  induction n with
  | zero => intro a0 a1 a2 a3 a4 a5 h; exact pg_none
  | succ n ih =>
    intro a0 a1 a2 a3 a4 a5 h
    rw [F_X11_come_47]
    refine pg_iload dX11_come_47 5 rfl ?_
    refine pg_aload_n (i := 0) dX11_come_49 rfl 0 rfl ?_
    refine pg_getR dX11_come_50 fl_RX11_10 rfl (fun v1 => ?_)
    refine pg_getR dX11_come_53 fl_RX11_91 rfl (fun v2 => ?_)
    refine pg_callV_oI (As := []) (rs := [pI a5]) dX11_come_56 lk_RX11_122 vy_X7_size nd_X7_size (c_X7_size l D h v2) rfl rfl (Nat.le_of_ble_eq_true rfl) (by decide) (by decide) (fun v3 => ?_)
    refine pg_icmp_ge (tgt := 114) dX11_come_59 rfl ?_ ?_
    · refine pg_iload dX11_come_114 4 rfl ?_
      exact pg_iret dX11_come_116 rfl rfl
    · refine pg_iload_n (i := 2) dX11_come_62 rfl 2 rfl ?_
      refine pg_if_ne (tgt := 76) dX11_come_63 rfl ?_ ?_
      · refine pg_aload_n (i := 3) dX11_come_76 rfl 3 rfl ?_
        refine pg_iload dX11_come_77 5 rfl ?_
        refine pg_callV_oI (As := [pI a5]) (rs := []) dX11_come_79 lk_RX11_246 vy_X6_exemplarOf nd_X6_exemplarOf (c_X6_exemplarOf l D h a3 a5) rfl rfl (Nat.le_of_ble_eq_true rfl) (by decide) (by decide) (fun v4 => ?_)
        refine pg_iload_n (i := 1) dX11_come_82 rfl 1 rfl ?_
        refine pg_icmp_ne (tgt := 90) dX11_come_83 rfl ?_ ?_
        · refine pg_iconst dX11_come_90 ci_0 ?_
          exact pg_to (e_X11_come_91 l D (F_X11_come_47 n) ih a0 a1 a2 a3 a4 a5 (0 : Int32) h) [0, 1, 2, 3, 4, 5] rfl
        · refine pg_iconst dX11_come_86 ci_1 ?_
          refine pg_goto (tgt := 91) dX11_come_87 rfl ?_
          exact pg_to (e_X11_come_91 l D (F_X11_come_47 n) ih a0 a1 a2 a3 a4 a5 (1 : Int32) h) [0, 1, 2, 3, 4, 5] rfl
      · refine pg_aload_n (i := 3) dX11_come_66 rfl 3 rfl ?_
        refine pg_iload dX11_come_67 5 rfl ?_
        refine pg_iload_n (i := 1) dX11_come_69 rfl 1 rfl ?_
        refine pg_callV_oI (As := [pI a5, pI a1]) (rs := []) dX11_come_70 lk_RX11_255 vy_X6_comesOf nd_X6_comesOf (c_X6_comesOf l D h a3 a5 a1) rfl rfl (Nat.le_of_ble_eq_true rfl) (by decide) (by decide) (fun v5 => ?_)
        refine pg_goto (tgt := 91) dX11_come_73 rfl ?_
        exact pg_to (e_X11_come_91 l D (F_X11_come_47 n) ih a0 a1 a2 a3 a4 a5 v5 h) [0, 1, 2, 3, 4, 5] rfl
theorem e_X11_come (l : Launch) (D : pg_D)  (a0 : Nat) (a1 : Int32) (a2 : Int32) (h : pg_H) : pg_EvF l D RX11 cX11_come 7 (some FieldType.int) "come" 7 179 pg_wI (F_X11_come a0 a1 a2 h) 0 [(0, pR a0), (1, pI a1), (2, pI a2)] [] h := by
  unfold F_X11_come
  refine pg_aload_n (i := 0) dX11_come_0 rfl 0 rfl ?_
  refine pg_getR dX11_come_1 fl_RX11_10 rfl (fun v1 => ?_)
  refine pg_getR dX11_come_4 fl_RX11_91 rfl (fun v2 => ?_)
  refine pg_iload_n (i := 1) dX11_come_7 rfl 1 rfl ?_
  refine pg_callV_oI (As := [pI a1]) (rs := []) dX11_come_8 lk_RX11_108 vy_X7_holds nd_X7_holds (c_X7_holds l D h v2 a1) rfl rfl (Nat.le_of_ble_eq_true rfl) (by decide) (by decide) (fun v3 => ?_)
  refine pg_if_eq (tgt := 23) dX11_come_11 rfl ?_ ?_
  · refine pg_iconst dX11_come_23 ci_m1 ?_
    exact pg_iret dX11_come_24 rfl rfl
  · refine pg_iload_n (i := 2) dX11_come_14 rfl 2 rfl ?_
    refine pg_iconst dX11_come_15 ci_0 ?_
    refine pg_iconst dX11_come_16 ci_2 ?_
    refine pg_callS_oI (As := [pI a2, pI (0 : Int32), pI (2 : Int32)]) (rs := []) dX11_come_17 lk_RX11_83 vy_X11_within nd_X11_within (c_X11_within l D a2 (0 : Int32) (2 : Int32) h) rfl rfl (Nat.le_of_ble_eq_true rfl) (by decide) (by decide) (fun v4 => ?_)
    refine pg_if_ne (tgt := 25) dX11_come_20 rfl ?_ ?_
    · refine pg_aload_n (i := 0) dX11_come_25 rfl 0 rfl ?_
      refine pg_callV_wR (As := []) (rs := []) dX11_come_26 lk_RX11_239 vy_X11_freshStemma nd_X11_freshStemma (c_X11_freshStemma l D a0 h) rfl rfl (Nat.le_of_ble_eq_true rfl) (by decide) (by decide) (fun v5 => ?_)
      refine pg_astore_n (i := 3) (lv' := [(3, pR v5.1), (0, pR a0), (1, pI a1), (2, pI a2)]) dX11_come_29 rfl (by decide) rfl ?_
      refine pg_iload_n (i := 2) dX11_come_30 rfl 3 rfl ?_
      refine pg_iconst dX11_come_31 ci_2 ?_
      refine pg_icmp_ne (tgt := 41) dX11_come_32 rfl ?_ ?_
      · refine pg_iconst dX11_come_41 ci_0 ?_
        refine pg_istore (lv' := [(4, pI (0 : Int32)), (3, pR v5.1), (0, pR a0), (1, pI a1), (2, pI a2)]) dX11_come_42 (by decide) rfl ?_
        refine pg_iconst dX11_come_44 ci_0 ?_
        refine pg_istore (lv' := [(5, pI (0 : Int32)), (4, pI (0 : Int32)), (3, pR v5.1), (0, pR a0), (1, pI a1), (2, pI a2)]) dX11_come_45 (by decide) rfl ?_
        exact pg_to (e_X11_come_47 l D pg_fuel a0 a1 a2 v5.1 (0 : Int32) (0 : Int32) v5.2) [3, 4, 5, 2, 1, 0] rfl
      · refine pg_aload_n (i := 3) dX11_come_35 rfl 0 rfl ?_
        refine pg_iload_n (i := 1) dX11_come_36 rfl 2 rfl ?_
        refine pg_callV_oI (As := [pI a1]) (rs := []) dX11_come_37 lk_RX11_252 vy_X6_stepsFromNobody nd_X6_stepsFromNobody (c_X6_stepsFromNobody l D v5.2 v5.1 a1) rfl rfl (Nat.le_of_ble_eq_true rfl) (by decide) (by decide) (fun v6 => ?_)
        exact pg_iret dX11_come_40 rfl rfl
    · refine pg_iconst dX11_come_23 ci_m1 ?_
      exact pg_iret dX11_come_24 rfl rfl
theorem c_X11_come (l : Launch) (D : pg_D) (a0 : Nat) (a1 : Int32) (a2 : Int32) (h : pg_H) : ∀ x, F_X11_come a0 a1 a2 h = some x → pg_Ct l D yX11_come cX11_come 7 (some FieldType.int) 7 179 [pR a0, pI a1, pI a2] h (pg_wI x) :=
  pg_Ct.of pn_RX11 (Nat.le_of_ble_eq_true rfl) (e_X11_come l D a0 a1 a2 h)
def F_J6_numberOfTrailingZeros_0f7a4_62 (a0 : Int32) (a1 : Int32) : Option Int32 := (if (4 : Int32) < a0 then pg_let (((a0).toUInt32 >>> (((2 : Int32)).toUInt32 &&& Int32.toUInt32 31)).toInt32) fun v1 => (some ((a1 + (2 : Int32)) + (((v1).toUInt32 >>> (((1 : Int32)).toUInt32 &&& Int32.toUInt32 31)).toInt32))) else (some (a1 + (((a0).toUInt32 >>> (((1 : Int32)).toUInt32 &&& Int32.toUInt32 31)).toInt32))))
def F_J6_numberOfTrailingZeros_0f7a4_49 (a0 : Int32) (a1 : Int32) : Option Int32 := (if (16 : Int32) < a0 then pg_let (((a0).toUInt32 >>> (((4 : Int32)).toUInt32 &&& Int32.toUInt32 31)).toInt32) fun v1 => (F_J6_numberOfTrailingZeros_0f7a4_62 v1 (a1 + (4 : Int32))) else (F_J6_numberOfTrailingZeros_0f7a4_62 a0 a1))
def F_J6_numberOfTrailingZeros_0f7a4_34 (a0 : Int32) (a1 : Int32) : Option Int32 := (if (256 : Int32) < a0 then pg_let (((a0).toUInt32 >>> (((8 : Int32)).toUInt32 &&& Int32.toUInt32 31)).toInt32) fun v1 => (F_J6_numberOfTrailingZeros_0f7a4_49 v1 (a1 + (8 : Int32))) else (F_J6_numberOfTrailingZeros_0f7a4_49 a0 a1))
def F_J6_numberOfTrailingZeros_0f7a4 (a0 : Int32) : Option Int32 := pg_let ((a0 ^^^ (-1 : Int32)) &&& (a0 - (1 : Int32))) fun v1 => (if 0 < v1 then (if (65536 : Int32) < v1 then pg_let (((v1).toUInt32 >>> (((16 : Int32)).toUInt32 &&& Int32.toUInt32 31)).toInt32) fun v2 => (F_J6_numberOfTrailingZeros_0f7a4_34 v2 ((1 : Int32) + (16 : Int32))) else (F_J6_numberOfTrailingZeros_0f7a4_34 v1 (1 : Int32))) else (some (v1 &&& (32 : Int32))))
theorem e_J6_numberOfTrailingZeros_0f7a4_62 (l : Launch) (D : pg_D)  (h : pg_H) (a0 : Int32) (a1 : Int32) : pg_EvF l D RJ6 cJ6_numberOfTrailingZeros_0f7a4 2 (some FieldType.int) "numberOfTrailingZeros" 0 0 (pg_oI h) (F_J6_numberOfTrailingZeros_0f7a4_62 a0 a1) 62 [(0, pI a0), (1, pI a1)] [] h := by
  unfold F_J6_numberOfTrailingZeros_0f7a4_62
  refine pg_iload_n (i := 0) dJ6_numberOfTrailingZeros_0f7a4_62 rfl 0 rfl ?_
  refine pg_iconst dJ6_numberOfTrailingZeros_0f7a4_63 ci_4 ?_
  refine pg_icmp_le (tgt := 74) dJ6_numberOfTrailingZeros_0f7a4_64 rfl ?_ ?_
  · refine pg_iload_n (i := 1) dJ6_numberOfTrailingZeros_0f7a4_74 rfl 1 rfl ?_
    refine pg_iload_n (i := 0) dJ6_numberOfTrailingZeros_0f7a4_75 rfl 0 rfl ?_
    refine pg_iconst dJ6_numberOfTrailingZeros_0f7a4_76 ci_1 ?_
    refine pg_iushr dJ6_numberOfTrailingZeros_0f7a4_77 ?_
    refine pg_iadd dJ6_numberOfTrailingZeros_0f7a4_78 ?_
    exact pg_iret dJ6_numberOfTrailingZeros_0f7a4_79 rfl rfl
  · refine pg_iinc (lv' := [(1, pI (a1 + (2 : Int32))), (0, pI a0)]) dJ6_numberOfTrailingZeros_0f7a4_67 1 rfl ci_2 (by decide) rfl ?_
    refine pg_iload_n (i := 0) dJ6_numberOfTrailingZeros_0f7a4_70 rfl 1 rfl ?_
    refine pg_iconst dJ6_numberOfTrailingZeros_0f7a4_71 ci_2 ?_
    refine pg_iushr dJ6_numberOfTrailingZeros_0f7a4_72 ?_
    refine pg_letI (fun v1 => ?_)
    refine pg_istore_n (i := 0) (lv' := [(0, pI v1), (1, pI (a1 + (2 : Int32)))]) dJ6_numberOfTrailingZeros_0f7a4_73 rfl (by decide) rfl ?_
    refine pg_iload_n (i := 1) dJ6_numberOfTrailingZeros_0f7a4_74 rfl 1 rfl ?_
    refine pg_iload_n (i := 0) dJ6_numberOfTrailingZeros_0f7a4_75 rfl 0 rfl ?_
    refine pg_iconst dJ6_numberOfTrailingZeros_0f7a4_76 ci_1 ?_
    refine pg_iushr dJ6_numberOfTrailingZeros_0f7a4_77 ?_
    refine pg_iadd dJ6_numberOfTrailingZeros_0f7a4_78 ?_
    exact pg_iret dJ6_numberOfTrailingZeros_0f7a4_79 rfl rfl
theorem e_J6_numberOfTrailingZeros_0f7a4_49 (l : Launch) (D : pg_D)  (h : pg_H) (a0 : Int32) (a1 : Int32) : pg_EvF l D RJ6 cJ6_numberOfTrailingZeros_0f7a4 2 (some FieldType.int) "numberOfTrailingZeros" 0 0 (pg_oI h) (F_J6_numberOfTrailingZeros_0f7a4_49 a0 a1) 49 [(0, pI a0), (1, pI a1)] [] h := by
  unfold F_J6_numberOfTrailingZeros_0f7a4_49
  refine pg_iload_n (i := 0) dJ6_numberOfTrailingZeros_0f7a4_49 rfl 0 rfl ?_
  refine pg_bipush dJ6_numberOfTrailingZeros_0f7a4_50 cb_16 ?_
  refine pg_icmp_le (tgt := 62) dJ6_numberOfTrailingZeros_0f7a4_52 rfl ?_ ?_
  · exact pg_to (e_J6_numberOfTrailingZeros_0f7a4_62 l D h a0 a1) [0, 1] rfl
  · refine pg_iinc (lv' := [(1, pI (a1 + (4 : Int32))), (0, pI a0)]) dJ6_numberOfTrailingZeros_0f7a4_55 1 rfl ci_4 (by decide) rfl ?_
    refine pg_iload_n (i := 0) dJ6_numberOfTrailingZeros_0f7a4_58 rfl 1 rfl ?_
    refine pg_iconst dJ6_numberOfTrailingZeros_0f7a4_59 ci_4 ?_
    refine pg_iushr dJ6_numberOfTrailingZeros_0f7a4_60 ?_
    refine pg_letI (fun v1 => ?_)
    refine pg_istore_n (i := 0) (lv' := [(0, pI v1), (1, pI (a1 + (4 : Int32)))]) dJ6_numberOfTrailingZeros_0f7a4_61 rfl (by decide) rfl ?_
    exact pg_to (e_J6_numberOfTrailingZeros_0f7a4_62 l D h v1 (a1 + (4 : Int32))) [0, 1] rfl
theorem e_J6_numberOfTrailingZeros_0f7a4_34 (l : Launch) (D : pg_D)  (h : pg_H) (a0 : Int32) (a1 : Int32) : pg_EvF l D RJ6 cJ6_numberOfTrailingZeros_0f7a4 2 (some FieldType.int) "numberOfTrailingZeros" 0 0 (pg_oI h) (F_J6_numberOfTrailingZeros_0f7a4_34 a0 a1) 34 [(0, pI a0), (1, pI a1)] [] h := by
  unfold F_J6_numberOfTrailingZeros_0f7a4_34
  refine pg_iload_n (i := 0) dJ6_numberOfTrailingZeros_0f7a4_34 rfl 0 rfl ?_
  refine pg_sipush dJ6_numberOfTrailingZeros_0f7a4_35 cs_256 ?_
  refine pg_icmp_le (tgt := 49) dJ6_numberOfTrailingZeros_0f7a4_38 rfl ?_ ?_
  · exact pg_to (e_J6_numberOfTrailingZeros_0f7a4_49 l D h a0 a1) [0, 1] rfl
  · refine pg_iinc (lv' := [(1, pI (a1 + (8 : Int32))), (0, pI a0)]) dJ6_numberOfTrailingZeros_0f7a4_41 1 rfl ci_8 (by decide) rfl ?_
    refine pg_iload_n (i := 0) dJ6_numberOfTrailingZeros_0f7a4_44 rfl 1 rfl ?_
    refine pg_bipush dJ6_numberOfTrailingZeros_0f7a4_45 cb_8 ?_
    refine pg_iushr dJ6_numberOfTrailingZeros_0f7a4_47 ?_
    refine pg_letI (fun v1 => ?_)
    refine pg_istore_n (i := 0) (lv' := [(0, pI v1), (1, pI (a1 + (8 : Int32)))]) dJ6_numberOfTrailingZeros_0f7a4_48 rfl (by decide) rfl ?_
    exact pg_to (e_J6_numberOfTrailingZeros_0f7a4_49 l D h v1 (a1 + (8 : Int32))) [0, 1] rfl
theorem e_J6_numberOfTrailingZeros_0f7a4 (l : Launch) (D : pg_D)  (a0 : Int32) (h : pg_H) : pg_EvF l D RJ6 cJ6_numberOfTrailingZeros_0f7a4 2 (some FieldType.int) "numberOfTrailingZeros" 0 0 (pg_oI h) (F_J6_numberOfTrailingZeros_0f7a4 a0) 0 [(0, pI a0)] [] h := by
  unfold F_J6_numberOfTrailingZeros_0f7a4
  refine pg_iload_n (i := 0) dJ6_numberOfTrailingZeros_0f7a4_0 rfl 0 rfl ?_
  refine pg_iconst dJ6_numberOfTrailingZeros_0f7a4_1 ci_m1 ?_
  refine pg_ixor dJ6_numberOfTrailingZeros_0f7a4_2 ?_
  refine pg_iload_n (i := 0) dJ6_numberOfTrailingZeros_0f7a4_3 rfl 0 rfl ?_
  refine pg_iconst dJ6_numberOfTrailingZeros_0f7a4_4 ci_1 ?_
  refine pg_isub dJ6_numberOfTrailingZeros_0f7a4_5 ?_
  refine pg_iand dJ6_numberOfTrailingZeros_0f7a4_6 ?_
  refine pg_letI (fun v1 => ?_)
  refine pg_istore_n (i := 0) (lv' := [(0, pI v1)]) dJ6_numberOfTrailingZeros_0f7a4_7 rfl (by decide) rfl ?_
  refine pg_iload_n (i := 0) dJ6_numberOfTrailingZeros_0f7a4_8 rfl 0 rfl ?_
  refine pg_if_gt (tgt := 17) dJ6_numberOfTrailingZeros_0f7a4_9 rfl ?_ ?_
  · refine pg_iconst dJ6_numberOfTrailingZeros_0f7a4_17 ci_1 ?_
    refine pg_istore_n (i := 1) (lv' := [(1, pI (1 : Int32)), (0, pI v1)]) dJ6_numberOfTrailingZeros_0f7a4_18 rfl (by decide) rfl ?_
    refine pg_iload_n (i := 0) dJ6_numberOfTrailingZeros_0f7a4_19 rfl 1 rfl ?_
    refine pg_ldcw (v := (65536 : Int32)) dJ6_numberOfTrailingZeros_0f7a4_20 kc_RJ6_264 ?_
    refine pg_icmp_le (tgt := 34) dJ6_numberOfTrailingZeros_0f7a4_23 rfl ?_ ?_
    · exact pg_to (e_J6_numberOfTrailingZeros_0f7a4_34 l D h v1 (1 : Int32)) [1, 0] rfl
    · refine pg_iinc (lv' := [(1, pI ((1 : Int32) + (16 : Int32))), (0, pI v1)]) dJ6_numberOfTrailingZeros_0f7a4_26 0 rfl ci_16 (by decide) rfl ?_
      refine pg_iload_n (i := 0) dJ6_numberOfTrailingZeros_0f7a4_29 rfl 1 rfl ?_
      refine pg_bipush dJ6_numberOfTrailingZeros_0f7a4_30 cb_16 ?_
      refine pg_iushr dJ6_numberOfTrailingZeros_0f7a4_32 ?_
      refine pg_letI (fun v2 => ?_)
      refine pg_istore_n (i := 0) (lv' := [(0, pI v2), (1, pI ((1 : Int32) + (16 : Int32)))]) dJ6_numberOfTrailingZeros_0f7a4_33 rfl (by decide) rfl ?_
      exact pg_to (e_J6_numberOfTrailingZeros_0f7a4_34 l D h v2 ((1 : Int32) + (16 : Int32))) [0, 1] rfl
  · refine pg_iload_n (i := 0) dJ6_numberOfTrailingZeros_0f7a4_12 rfl 0 rfl ?_
    refine pg_bipush dJ6_numberOfTrailingZeros_0f7a4_13 cb_32 ?_
    refine pg_iand dJ6_numberOfTrailingZeros_0f7a4_15 ?_
    exact pg_iret dJ6_numberOfTrailingZeros_0f7a4_16 rfl rfl
theorem c_J6_numberOfTrailingZeros_0f7a4 (l : Launch) (D : pg_D) (a0 : Int32) (h : pg_H) : ∀ x, F_J6_numberOfTrailingZeros_0f7a4 a0 = some x → pg_Ct l D yJ6_numberOfTrailingZeros_0f7a4 cJ6_numberOfTrailingZeros_0f7a4 2 (some FieldType.int) 0 0 [pI a0] h (pg_oI h x) :=
  pg_Ct.of pn_RJ6 (Nat.le_of_ble_eq_true rfl) (e_J6_numberOfTrailingZeros_0f7a4 l D a0 h)
def F_X11_net (a0 : Nat) (a1 : Int32) (a2 : Int32) (h : pg_H) : Option (Int32 × pg_H) := Option.bind (pg_gR 11 0 h a0) fun v1 => Option.bind (pg_gR 5 0 h v1) fun v2 => Option.bind (pg_rcv 7 h v2 (F_X7_holds h v2 a1)) fun v3 => (if v3 = 0 then (some ((-1000000 : Int32), h)) else Option.bind (F_X11_within a2 (0 : Int32) (3 : Int32)) fun v4 => (if v4 = 0 then (some ((-1000000 : Int32), h)) else Option.bind (pg_rcv 11 h a0 (F_X11_freshReadings a0 h)) fun v5 => Option.bind (pg_gR 11 0 v5.2 a0) fun v6 => Option.bind (pg_rcv 4 v5.2 v5.1 (F_X4_bestPair v5.2 v5.1 v6 a1)) fun v7 => (if v7 = 0 then (some ((-1000000 : Int32), v5.2)) else (if a2 = 0 then Option.bind (F_J6_numberOfTrailingZeros_0f7a4 v7) fun v13 => (some (v13, v5.2)) else (if a2 = (1 : Int32) then Option.bind (F_J6_numberOfLeadingZeros_0f7a4 v7) fun v12 => (some (((31 : Int32) - v12), v5.2)) else Option.bind (pg_gR 11 0 v5.2 a0) fun v8 => Option.bind (pg_rcv 4 v5.2 v5.1 (F_X4_costFrom v5.2 v5.1 v8 v7 a1)) fun v9 => (if a2 = (2 : Int32) then (some (v9, v5.2)) else Option.bind (pg_gR 11 0 v5.2 a0) fun v10 => Option.bind (pg_rcv 4 v5.2 v5.1 (F_X4_bestSingleCost v5.2 v5.1 v10 a1)) fun v11 => (some ((v11 - v9), v5.2))))))))
theorem e_X11_net (l : Launch) (D : pg_D)  (a0 : Nat) (a1 : Int32) (a2 : Int32) (h : pg_H) : pg_EvF l D RX11 cX11_net 6 (some FieldType.int) "net" 6 159 pg_wI (F_X11_net a0 a1 a2 h) 0 [(0, pR a0), (1, pI a1), (2, pI a2)] [] h := by
  unfold F_X11_net
  refine pg_aload_n (i := 0) dX11_net_0 rfl 0 rfl ?_
  refine pg_getR dX11_net_1 fl_RX11_10 rfl (fun v1 => ?_)
  refine pg_getR dX11_net_4 fl_RX11_91 rfl (fun v2 => ?_)
  refine pg_iload_n (i := 1) dX11_net_7 rfl 1 rfl ?_
  refine pg_callV_oI (As := [pI a1]) (rs := []) dX11_net_8 lk_RX11_108 vy_X7_holds nd_X7_holds (c_X7_holds l D h v2 a1) rfl rfl (Nat.le_of_ble_eq_true rfl) (by decide) (by decide) (fun v3 => ?_)
  refine pg_if_eq (tgt := 23) dX11_net_11 rfl ?_ ?_
  · refine pg_ldcw (v := (-1000000 : Int32)) dX11_net_23 kc_RX11_258 ?_
    exact pg_iret dX11_net_26 rfl rfl
  · refine pg_iload_n (i := 2) dX11_net_14 rfl 2 rfl ?_
    refine pg_iconst dX11_net_15 ci_0 ?_
    refine pg_iconst dX11_net_16 ci_3 ?_
    refine pg_callS_oI (As := [pI a2, pI (0 : Int32), pI (3 : Int32)]) (rs := []) dX11_net_17 lk_RX11_83 vy_X11_within nd_X11_within (c_X11_within l D a2 (0 : Int32) (3 : Int32) h) rfl rfl (Nat.le_of_ble_eq_true rfl) (by decide) (by decide) (fun v4 => ?_)
    refine pg_if_ne (tgt := 27) dX11_net_20 rfl ?_ ?_
    · refine pg_aload_n (i := 0) dX11_net_27 rfl 0 rfl ?_
      refine pg_callV_wR (As := []) (rs := []) dX11_net_28 lk_RX11_148 vy_X11_freshReadings nd_X11_freshReadings (c_X11_freshReadings l D a0 h) rfl rfl (Nat.le_of_ble_eq_true rfl) (by decide) (by decide) (fun v5 => ?_)
      refine pg_astore_n (i := 3) (lv' := [(3, pR v5.1), (0, pR a0), (1, pI a1), (2, pI a2)]) dX11_net_31 rfl (by decide) rfl ?_
      refine pg_aload_n (i := 3) dX11_net_32 rfl 0 rfl ?_
      refine pg_aload_n (i := 0) dX11_net_33 rfl 1 rfl ?_
      refine pg_getR dX11_net_34 fl_RX11_10 rfl (fun v6 => ?_)
      refine pg_iload_n (i := 1) dX11_net_37 rfl 2 rfl ?_
      refine pg_callV_oI (As := [pR v6, pI a1]) (rs := []) dX11_net_38 lk_RX11_259 vy_X4_bestPair nd_X4_bestPair (c_X4_bestPair l D v5.2 v5.1 v6 a1) rfl rfl (Nat.le_of_ble_eq_true rfl) (by decide) (by decide) (fun v7 => ?_)
      refine pg_istore (lv' := [(4, pI v7), (3, pR v5.1), (0, pR a0), (1, pI a1), (2, pI a2)]) dX11_net_41 (by decide) rfl ?_
      refine pg_iload dX11_net_43 0 rfl ?_
      refine pg_if_ne (tgt := 52) dX11_net_45 rfl ?_ ?_
      · refine pg_iload_n (i := 2) dX11_net_52 rfl 4 rfl ?_
        refine pg_if_ne (tgt := 62) dX11_net_53 rfl ?_ ?_
        · refine pg_iload_n (i := 2) dX11_net_62 rfl 4 rfl ?_
          refine pg_iconst dX11_net_63 ci_1 ?_
          refine pg_icmp_ne (tgt := 76) dX11_net_64 rfl ?_ ?_
          · refine pg_aload_n (i := 3) dX11_net_76 rfl 1 rfl ?_
            refine pg_aload_n (i := 0) dX11_net_77 rfl 2 rfl ?_
            refine pg_getR dX11_net_78 fl_RX11_10 rfl (fun v8 => ?_)
            refine pg_iload dX11_net_81 0 rfl ?_
            refine pg_iload_n (i := 1) dX11_net_83 rfl 3 rfl ?_
            refine pg_callV_oI (As := [pR v8, pI v7, pI a1]) (rs := []) dX11_net_84 lk_RX11_235 vy_X4_costFrom nd_X4_costFrom (c_X4_costFrom l D v5.2 v5.1 v8 v7 a1) rfl rfl (Nat.le_of_ble_eq_true rfl) (by decide) (by decide) (fun v9 => ?_)
            refine pg_istore (lv' := [(5, pI v9), (4, pI v7), (3, pR v5.1), (0, pR a0), (1, pI a1), (2, pI a2)]) dX11_net_87 (by decide) rfl ?_
            refine pg_iload_n (i := 2) dX11_net_89 rfl 5 rfl ?_
            refine pg_iconst dX11_net_90 ci_2 ?_
            refine pg_icmp_ne (tgt := 99) dX11_net_91 rfl ?_ ?_
            · refine pg_aload_n (i := 3) dX11_net_99 rfl 2 rfl ?_
              refine pg_aload_n (i := 0) dX11_net_100 rfl 3 rfl ?_
              refine pg_getR dX11_net_101 fl_RX11_10 rfl (fun v10 => ?_)
              refine pg_iload_n (i := 1) dX11_net_104 rfl 4 rfl ?_
              refine pg_callV_oI (As := [pR v10, pI a1]) (rs := []) dX11_net_105 lk_RX11_268 vy_X4_bestSingleCost nd_X4_bestSingleCost (c_X4_bestSingleCost l D v5.2 v5.1 v10 a1) rfl rfl (Nat.le_of_ble_eq_true rfl) (by decide) (by decide) (fun v11 => ?_)
              refine pg_iload dX11_net_108 0 rfl ?_
              refine pg_isub dX11_net_110 ?_
              exact pg_iret dX11_net_111 rfl rfl
            · refine pg_iload dX11_net_94 0 rfl ?_
              refine pg_goto (tgt := 111) dX11_net_96 rfl ?_
              exact pg_iret dX11_net_111 rfl rfl
          · refine pg_bipush dX11_net_67 cb_31 ?_
            refine pg_iload dX11_net_69 0 rfl ?_
            refine pg_callS_oI (As := [pI v7]) (rs := [pI (31 : Int32)]) dX11_net_71 lk_RX11_265 vy_J6_numberOfLeadingZeros_0f7a4 nd_J6_numberOfLeadingZeros_0f7a4 (c_J6_numberOfLeadingZeros_0f7a4 l D v7 v5.2) rfl rfl (Nat.le_of_ble_eq_true rfl) (by decide) (by decide) (fun v12 => ?_)
            refine pg_isub dX11_net_74 ?_
            exact pg_iret dX11_net_75 rfl rfl
        · refine pg_iload dX11_net_56 0 rfl ?_
          refine pg_callS_oI (As := [pI v7]) (rs := []) dX11_net_58 lk_RX11_262 vy_J6_numberOfTrailingZeros_0f7a4 nd_J6_numberOfTrailingZeros_0f7a4 (c_J6_numberOfTrailingZeros_0f7a4 l D v7 v5.2) rfl rfl (Nat.le_of_ble_eq_true rfl) (by decide) (by decide) (fun v13 => ?_)
          exact pg_iret dX11_net_61 rfl rfl
      · refine pg_ldcw (v := (-1000000 : Int32)) dX11_net_48 kc_RX11_258 ?_
        exact pg_iret dX11_net_51 rfl rfl
    · refine pg_ldcw (v := (-1000000 : Int32)) dX11_net_23 kc_RX11_258 ?_
      exact pg_iret dX11_net_26 rfl rfl
theorem c_X11_net (l : Launch) (D : pg_D) (a0 : Nat) (a1 : Int32) (a2 : Int32) (h : pg_H) : ∀ x, F_X11_net a0 a1 a2 h = some x → pg_Ct l D yX11_net cX11_net 6 (some FieldType.int) 6 159 [pR a0, pI a1, pI a2] h (pg_wI x) :=
  pg_Ct.of pn_RX11 (Nat.le_of_ble_eq_true rfl) (e_X11_net l D a0 a1 a2 h)
def F_X11_agree (a0 : Nat) (a1 : Int32) (a2 : Int32) (h : pg_H) : Option (Int32 × pg_H) := Option.bind (pg_rcv 11 h a0 (F_X11_areTwoCopies h a0 a1 a2)) fun v1 => (if v1 = 0 then (some ((-1 : Int32), h)) else Option.bind (pg_rcv 11 h a0 (F_X11_freshReadings a0 h)) fun v2 => Option.bind (pg_rcv 4 v2.2 v2.1 (F_X4_agreement v2.2 v2.1 a1 a2)) fun v3 => (some (v3, v2.2)))
theorem e_X11_agree (l : Launch) (D : pg_D)  (a0 : Nat) (a1 : Int32) (a2 : Int32) (h : pg_H) : pg_EvF l D RX11 cX11_agree 3 (some FieldType.int) "agree" 6 159 pg_wI (F_X11_agree a0 a1 a2 h) 0 [(0, pR a0), (1, pI a1), (2, pI a2)] [] h := by
  unfold F_X11_agree
  refine pg_aload_n (i := 0) dX11_agree_0 rfl 0 rfl ?_
  refine pg_iload_n (i := 1) dX11_agree_1 rfl 1 rfl ?_
  refine pg_iload_n (i := 2) dX11_agree_2 rfl 2 rfl ?_
  refine pg_callV_oI (As := [pI a1, pI a2]) (rs := []) dX11_agree_3 lk_RX11_226 vy_X11_areTwoCopies nd_X11_areTwoCopies (c_X11_areTwoCopies l D h a0 a1 a2) rfl rfl (Nat.le_of_ble_eq_true rfl) (by decide) (by decide) (fun v1 => ?_)
  refine pg_if_eq (tgt := 21) dX11_agree_6 rfl ?_ ?_
  · refine pg_iconst dX11_agree_21 ci_m1 ?_
    exact pg_iret dX11_agree_22 rfl rfl
  · refine pg_aload_n (i := 0) dX11_agree_9 rfl 0 rfl ?_
    refine pg_callV_wR (As := []) (rs := []) dX11_agree_10 lk_RX11_148 vy_X11_freshReadings nd_X11_freshReadings (c_X11_freshReadings l D a0 h) rfl rfl (Nat.le_of_ble_eq_true rfl) (by decide) (by decide) (fun v2 => ?_)
    refine pg_iload_n (i := 1) dX11_agree_13 rfl 1 rfl ?_
    refine pg_iload_n (i := 2) dX11_agree_14 rfl 2 rfl ?_
    refine pg_callV_oI (As := [pI a1, pI a2]) (rs := []) dX11_agree_15 lk_RX11_271 vy_X4_agreement nd_X4_agreement (c_X4_agreement l D v2.2 v2.1 a1 a2) rfl rfl (Nat.le_of_ble_eq_true rfl) (by decide) (by decide) (fun v3 => ?_)
    refine pg_goto (tgt := 22) dX11_agree_18 rfl ?_
    exact pg_iret dX11_agree_22 rfl rfl
theorem c_X11_agree (l : Launch) (D : pg_D) (a0 : Nat) (a1 : Int32) (a2 : Int32) (h : pg_H) : ∀ x, F_X11_agree a0 a1 a2 h = some x → pg_Ct l D yX11_agree cX11_agree 3 (some FieldType.int) 6 159 [pR a0, pI a1, pI a2] h (pg_wI x) :=
  pg_Ct.of pn_RX11 (Nat.le_of_ble_eq_true rfl) (e_X11_agree l D a0 a1 a2 h)
def F_X11_families (a0 : Nat) (h : pg_H) : Option (Int32 × pg_H) := Option.bind (pg_gR 11 0 h a0) fun v1 => Option.bind (pg_rcv 5 h v1 (F_X5_allCopies h v1)) fun v2 => Option.bind (pg_rcv 11 h a0 (F_X11_freshReadings a0 h)) fun v3 => Option.bind (pg_gR 11 0 v3.2 a0) fun v4 => Option.bind (pg_rcv 4 v3.2 v3.1 (F_X4_familiesOf v3.1 v4 v2 v2 v3.2)) fun v5 => (some (v5.1, v5.2))
theorem e_X11_families (l : Launch) (D : pg_D)  (a0 : Nat) (h : pg_H) : pg_EvF l D RX11 cX11_families 2 (some FieldType.int) "families" 6 159 pg_wI (F_X11_families a0 h) 0 [(0, pR a0)] [] h := by
  unfold F_X11_families
  refine pg_aload_n (i := 0) dX11_families_0 rfl 0 rfl ?_
  refine pg_getR dX11_families_1 fl_RX11_10 rfl (fun v1 => ?_)
  refine pg_callV_oI (As := []) (rs := []) dX11_families_4 lk_RX11_274 vy_X5_allCopies nd_X5_allCopies (c_X5_allCopies l D h v1) rfl rfl (Nat.le_of_ble_eq_true rfl) (by decide) (by decide) (fun v2 => ?_)
  refine pg_istore_n (i := 1) (lv' := [(1, pI v2), (0, pR a0)]) dX11_families_7 rfl (by decide) rfl ?_
  refine pg_aload_n (i := 0) dX11_families_8 rfl 1 rfl ?_
  refine pg_callV_wR (As := []) (rs := []) dX11_families_9 lk_RX11_148 vy_X11_freshReadings nd_X11_freshReadings (c_X11_freshReadings l D a0 h) rfl rfl (Nat.le_of_ble_eq_true rfl) (by decide) (by decide) (fun v3 => ?_)
  refine pg_aload_n (i := 0) dX11_families_12 rfl 1 rfl ?_
  refine pg_getR dX11_families_13 fl_RX11_10 rfl (fun v4 => ?_)
  refine pg_iload_n (i := 1) dX11_families_16 rfl 0 rfl ?_
  refine pg_iload_n (i := 1) dX11_families_17 rfl 0 rfl ?_
  refine pg_callV_wI (As := [pR v4, pI v2, pI v2]) (rs := []) dX11_families_18 lk_RX11_277 vy_X4_familiesOf nd_X4_familiesOf (c_X4_familiesOf l D v3.1 v4 v2 v2 v3.2) rfl rfl (Nat.le_of_ble_eq_true rfl) (by decide) (by decide) (fun v5 => ?_)
  exact pg_iret dX11_families_21 rfl rfl
theorem c_X11_families (l : Launch) (D : pg_D) (a0 : Nat) (h : pg_H) : ∀ x, F_X11_families a0 h = some x → pg_Ct l D yX11_families cX11_families 2 (some FieldType.int) 6 159 [pR a0] h (pg_wI x) :=
  pg_Ct.of pn_RX11 (Nat.le_of_ble_eq_true rfl) (e_X11_families l D a0 h)
def F_X11_family (a0 : Nat) (a1 : Int32) (h : pg_H) : Option (Int32 × pg_H) := Option.bind (pg_gR 11 0 h a0) fun v1 => Option.bind (pg_gR 5 0 h v1) fun v2 => Option.bind (pg_rcv 7 h v2 (F_X7_holds h v2 a1)) fun v3 => (if v3 = 0 then (some ((-1 : Int32), h)) else Option.bind (pg_rcv 11 h a0 (F_X11_freshReadings a0 h)) fun v4 => Option.bind (pg_gR 11 0 v4.2 a0) fun v5 => Option.bind (pg_gR 11 0 v4.2 a0) fun v6 => Option.bind (pg_rcv 5 v4.2 v6 (F_X5_allCopies v4.2 v6)) fun v7 => Option.bind (pg_rcv 4 v4.2 v4.1 (F_X4_familyOf v4.1 v5 a1 v7 v4.2)) fun v8 => Option.bind (F_J6_numberOfTrailingZeros_0f7a4 v8.1) fun v9 => (some (v9, v8.2)))
theorem e_X11_family (l : Launch) (D : pg_D)  (a0 : Nat) (a1 : Int32) (h : pg_H) : pg_EvF l D RX11 cX11_family 3 (some FieldType.int) "family" 6 159 pg_wI (F_X11_family a0 a1 h) 0 [(0, pR a0), (1, pI a1)] [] h := by
  unfold F_X11_family
  refine pg_aload_n (i := 0) dX11_family_0 rfl 0 rfl ?_
  refine pg_getR dX11_family_1 fl_RX11_10 rfl (fun v1 => ?_)
  refine pg_getR dX11_family_4 fl_RX11_91 rfl (fun v2 => ?_)
  refine pg_iload_n (i := 1) dX11_family_7 rfl 1 rfl ?_
  refine pg_callV_oI (As := [pI a1]) (rs := []) dX11_family_8 lk_RX11_108 vy_X7_holds nd_X7_holds (c_X7_holds l D h v2 a1) rfl rfl (Nat.le_of_ble_eq_true rfl) (by decide) (by decide) (fun v3 => ?_)
  refine pg_if_ne (tgt := 16) dX11_family_11 rfl ?_ ?_
  · refine pg_aload_n (i := 0) dX11_family_16 rfl 0 rfl ?_
    refine pg_callV_wR (As := []) (rs := []) dX11_family_17 lk_RX11_148 vy_X11_freshReadings nd_X11_freshReadings (c_X11_freshReadings l D a0 h) rfl rfl (Nat.le_of_ble_eq_true rfl) (by decide) (by decide) (fun v4 => ?_)
    refine pg_aload_n (i := 0) dX11_family_20 rfl 0 rfl ?_
    refine pg_getR dX11_family_21 fl_RX11_10 rfl (fun v5 => ?_)
    refine pg_iload_n (i := 1) dX11_family_24 rfl 1 rfl ?_
    refine pg_aload_n (i := 0) dX11_family_25 rfl 0 rfl ?_
    refine pg_getR dX11_family_26 fl_RX11_10 rfl (fun v6 => ?_)
    refine pg_callV_oI (As := []) (rs := [pI a1, pR v5, pR v4.1]) dX11_family_29 lk_RX11_274 vy_X5_allCopies nd_X5_allCopies (c_X5_allCopies l D v4.2 v6) rfl rfl (Nat.le_of_ble_eq_true rfl) (by decide) (by decide) (fun v7 => ?_)
    refine pg_callV_wI (As := [pR v5, pI a1, pI v7]) (rs := []) dX11_family_32 lk_RX11_280 vy_X4_familyOf nd_X4_familyOf (c_X4_familyOf l D v4.1 v5 a1 v7 v4.2) rfl rfl (Nat.le_of_ble_eq_true rfl) (by decide) (by decide) (fun v8 => ?_)
    refine pg_istore_n (i := 2) (lv' := [(2, pI v8.1), (0, pR a0), (1, pI a1)]) dX11_family_35 rfl (by decide) rfl ?_
    refine pg_iload_n (i := 2) dX11_family_36 rfl 0 rfl ?_
    refine pg_callS_oI (As := [pI v8.1]) (rs := []) dX11_family_37 lk_RX11_262 vy_J6_numberOfTrailingZeros_0f7a4 nd_J6_numberOfTrailingZeros_0f7a4 (c_J6_numberOfTrailingZeros_0f7a4 l D v8.1 v8.2) rfl rfl (Nat.le_of_ble_eq_true rfl) (by decide) (by decide) (fun v9 => ?_)
    exact pg_iret dX11_family_40 rfl rfl
  · refine pg_iconst dX11_family_14 ci_m1 ?_
    exact pg_iret dX11_family_15 rfl rfl
theorem c_X11_family (l : Launch) (D : pg_D) (a0 : Nat) (a1 : Int32) (h : pg_H) : ∀ x, F_X11_family a0 a1 h = some x → pg_Ct l D yX11_family cX11_family 3 (some FieldType.int) 6 159 [pR a0, pI a1] h (pg_wI x) :=
  pg_Ct.of pn_RX11 (Nat.le_of_ble_eq_true rfl) (e_X11_family l D a0 a1 h)
def F_X11_joins (a0 : Nat) (a1 : Int32) (h : pg_H) : Option (Int32 × pg_H) := Option.bind (pg_gR 11 0 h a0) fun v1 => Option.bind (pg_gR 5 0 h v1) fun v2 => Option.bind (pg_rcv 7 h v2 (F_X7_holds h v2 a1)) fun v3 => (if v3 = 0 then (some ((-1000000 : Int32), h)) else Option.bind (pg_gR 11 0 h a0) fun v4 => Option.bind (pg_rcv 5 h v4 (F_X5_allCopies h v4)) fun v5 => pg_let (v5 &&& (((1 : Int32) <<< (a1 &&& 31)) ^^^ (-1 : Int32))) fun v6 => Option.bind (pg_rcv 11 h a0 (F_X11_freshReadings a0 h)) fun v7 => Option.bind (pg_gR 11 0 v7.2 a0) fun v8 => Option.bind (pg_rcv 4 v7.2 v7.1 (F_X4_familiesOf v7.1 v8 v6 v6 v7.2)) fun v9 => Option.bind (pg_gR 11 0 v9.2 a0) fun v10 => Option.bind (pg_rcv 4 v9.2 v7.1 (F_X4_familiesOf v7.1 v10 v5 v6 v9.2)) fun v11 => (some ((v9.1 - v11.1), v11.2)))
theorem e_X11_joins (l : Launch) (D : pg_D)  (a0 : Nat) (a1 : Int32) (h : pg_H) : pg_EvF l D RX11 cX11_joins 5 (some FieldType.int) "joins" 6 159 pg_wI (F_X11_joins a0 a1 h) 0 [(0, pR a0), (1, pI a1)] [] h := by
  unfold F_X11_joins
  refine pg_aload_n (i := 0) dX11_joins_0 rfl 0 rfl ?_
  refine pg_getR dX11_joins_1 fl_RX11_10 rfl (fun v1 => ?_)
  refine pg_getR dX11_joins_4 fl_RX11_91 rfl (fun v2 => ?_)
  refine pg_iload_n (i := 1) dX11_joins_7 rfl 1 rfl ?_
  refine pg_callV_oI (As := [pI a1]) (rs := []) dX11_joins_8 lk_RX11_108 vy_X7_holds nd_X7_holds (c_X7_holds l D h v2 a1) rfl rfl (Nat.le_of_ble_eq_true rfl) (by decide) (by decide) (fun v3 => ?_)
  refine pg_if_ne (tgt := 18) dX11_joins_11 rfl ?_ ?_
  · refine pg_aload_n (i := 0) dX11_joins_18 rfl 0 rfl ?_
    refine pg_getR dX11_joins_19 fl_RX11_10 rfl (fun v4 => ?_)
    refine pg_callV_oI (As := []) (rs := []) dX11_joins_22 lk_RX11_274 vy_X5_allCopies nd_X5_allCopies (c_X5_allCopies l D h v4) rfl rfl (Nat.le_of_ble_eq_true rfl) (by decide) (by decide) (fun v5 => ?_)
    refine pg_istore_n (i := 2) (lv' := [(2, pI v5), (0, pR a0), (1, pI a1)]) dX11_joins_25 rfl (by decide) rfl ?_
    refine pg_iload_n (i := 2) dX11_joins_26 rfl 0 rfl ?_
    refine pg_iconst dX11_joins_27 ci_1 ?_
    refine pg_iload_n (i := 1) dX11_joins_28 rfl 2 rfl ?_
    refine pg_ishl dX11_joins_29 ?_
    refine pg_iconst dX11_joins_30 ci_m1 ?_
    refine pg_ixor dX11_joins_31 ?_
    refine pg_iand dX11_joins_32 ?_
    refine pg_letI (fun v6 => ?_)
    refine pg_istore_n (i := 3) (lv' := [(3, pI v6), (2, pI v5), (0, pR a0), (1, pI a1)]) dX11_joins_33 rfl (by decide) rfl ?_
    refine pg_aload_n (i := 0) dX11_joins_34 rfl 2 rfl ?_
    refine pg_callV_wR (As := []) (rs := []) dX11_joins_35 lk_RX11_148 vy_X11_freshReadings nd_X11_freshReadings (c_X11_freshReadings l D a0 h) rfl rfl (Nat.le_of_ble_eq_true rfl) (by decide) (by decide) (fun v7 => ?_)
    refine pg_astore (lv' := [(4, pR v7.1), (3, pI v6), (2, pI v5), (0, pR a0), (1, pI a1)]) dX11_joins_38 (by decide) rfl ?_
    refine pg_aload dX11_joins_40 0 rfl ?_
    refine pg_aload_n (i := 0) dX11_joins_42 rfl 3 rfl ?_
    refine pg_getR dX11_joins_43 fl_RX11_10 rfl (fun v8 => ?_)
    refine pg_iload_n (i := 3) dX11_joins_46 rfl 1 rfl ?_
    refine pg_iload_n (i := 3) dX11_joins_47 rfl 1 rfl ?_
    refine pg_callV_wI (As := [pR v8, pI v6, pI v6]) (rs := []) dX11_joins_48 lk_RX11_277 vy_X4_familiesOf nd_X4_familiesOf (c_X4_familiesOf l D v7.1 v8 v6 v6 v7.2) rfl rfl (Nat.le_of_ble_eq_true rfl) (by decide) (by decide) (fun v9 => ?_)
    refine pg_aload dX11_joins_51 0 rfl ?_
    refine pg_aload_n (i := 0) dX11_joins_53 rfl 3 rfl ?_
    refine pg_getR dX11_joins_54 fl_RX11_10 rfl (fun v10 => ?_)
    refine pg_iload_n (i := 2) dX11_joins_57 rfl 2 rfl ?_
    refine pg_iload_n (i := 3) dX11_joins_58 rfl 1 rfl ?_
    refine pg_callV_wI (As := [pR v10, pI v5, pI v6]) (rs := [pI v9.1]) dX11_joins_59 lk_RX11_277 vy_X4_familiesOf nd_X4_familiesOf (c_X4_familiesOf l D v7.1 v10 v5 v6 v9.2) rfl rfl (Nat.le_of_ble_eq_true rfl) (by decide) (by decide) (fun v11 => ?_)
    refine pg_isub dX11_joins_62 ?_
    exact pg_iret dX11_joins_63 rfl rfl
  · refine pg_ldcw (v := (-1000000 : Int32)) dX11_joins_14 kc_RX11_258 ?_
    exact pg_iret dX11_joins_17 rfl rfl
theorem c_X11_joins (l : Launch) (D : pg_D) (a0 : Nat) (a1 : Int32) (h : pg_H) : ∀ x, F_X11_joins a0 a1 h = some x → pg_Ct l D yX11_joins cX11_joins 5 (some FieldType.int) 6 159 [pR a0, pI a1] h (pg_wI x) :=
  pg_Ct.of pn_RX11 (Nat.le_of_ble_eq_true rfl) (e_X11_joins l D a0 a1 h)
def F_X11_times (a0 : Nat) (a1 : Int32) (a2 : Int32) (a3 : Int32) (h : pg_H) : Option (Int32 × pg_H) := Option.bind (pg_gR 11 0 h a0) fun v1 => Option.bind (pg_gR 5 3 h v1) fun v2 => Option.bind (pg_rcv 7 h v2 (F_X7_holds h v2 a1)) fun v3 => (if v3 = 0 then (some ((-1 : Int32), h)) else Option.bind (pg_gR 11 0 h a0) fun v4 => Option.bind (pg_gR 5 2 h v4) fun v5 => Option.bind (pg_rcv 7 h v5 (F_X7_holds h v5 a2)) fun v6 => (if v6 = 0 then (some ((-1 : Int32), h)) else Option.bind (pg_gR 11 0 h a0) fun v7 => Option.bind (pg_gR 5 2 h v7) fun v8 => Option.bind (pg_rcv 7 h v8 (F_X7_holds h v8 a3)) fun v9 => (if v9 = 0 then (some ((-1 : Int32), h)) else Option.bind (pg_gR 11 8 h a0) fun v10 => Option.bind (pg_gR 11 0 h a0) fun v11 => Option.bind (pg_rcv 2 h v10 (F_X2_timesAsLikely v10 v11 a1 a2 a3 h)) fun v12 => (some (v12.1, v12.2)))))
theorem e_X11_times (l : Launch) (D : pg_D)  (a0 : Nat) (a1 : Int32) (a2 : Int32) (a3 : Int32) (h : pg_H) : pg_EvF l D RX11 cX11_times 4 (some FieldType.int) "times" 5 131 pg_wI (F_X11_times a0 a1 a2 a3 h) 0 [(0, pR a0), (1, pI a1), (2, pI a2), (3, pI a3)] [] h := by
  unfold F_X11_times
  refine pg_aload_n (i := 0) dX11_times_0 rfl 0 rfl ?_
  refine pg_getR dX11_times_1 fl_RX11_10 rfl (fun v1 => ?_)
  refine pg_getR dX11_times_4 fl_RX11_128 rfl (fun v2 => ?_)
  refine pg_iload_n (i := 1) dX11_times_7 rfl 1 rfl ?_
  refine pg_callV_oI (As := [pI a1]) (rs := []) dX11_times_8 lk_RX11_108 vy_X7_holds nd_X7_holds (c_X7_holds l D h v2 a1) rfl rfl (Nat.le_of_ble_eq_true rfl) (by decide) (by decide) (fun v3 => ?_)
  refine pg_if_eq (tgt := 42) dX11_times_11 rfl ?_ ?_
  · refine pg_iconst dX11_times_42 ci_m1 ?_
    exact pg_iret dX11_times_43 rfl rfl
  · refine pg_aload_n (i := 0) dX11_times_14 rfl 0 rfl ?_
    refine pg_getR dX11_times_15 fl_RX11_10 rfl (fun v4 => ?_)
    refine pg_getR dX11_times_18 fl_RX11_125 rfl (fun v5 => ?_)
    refine pg_iload_n (i := 2) dX11_times_21 rfl 2 rfl ?_
    refine pg_callV_oI (As := [pI a2]) (rs := []) dX11_times_22 lk_RX11_108 vy_X7_holds nd_X7_holds (c_X7_holds l D h v5 a2) rfl rfl (Nat.le_of_ble_eq_true rfl) (by decide) (by decide) (fun v6 => ?_)
    refine pg_if_eq (tgt := 42) dX11_times_25 rfl ?_ ?_
    · refine pg_iconst dX11_times_42 ci_m1 ?_
      exact pg_iret dX11_times_43 rfl rfl
    · refine pg_aload_n (i := 0) dX11_times_28 rfl 0 rfl ?_
      refine pg_getR dX11_times_29 fl_RX11_10 rfl (fun v7 => ?_)
      refine pg_getR dX11_times_32 fl_RX11_125 rfl (fun v8 => ?_)
      refine pg_iload_n (i := 3) dX11_times_35 rfl 3 rfl ?_
      refine pg_callV_oI (As := [pI a3]) (rs := []) dX11_times_36 lk_RX11_108 vy_X7_holds nd_X7_holds (c_X7_holds l D h v8 a3) rfl rfl (Nat.le_of_ble_eq_true rfl) (by decide) (by decide) (fun v9 => ?_)
      refine pg_if_ne (tgt := 44) dX11_times_39 rfl ?_ ?_
      · refine pg_aload_n (i := 0) dX11_times_44 rfl 0 rfl ?_
        refine pg_getR dX11_times_45 fl_RX11_64 rfl (fun v10 => ?_)
        refine pg_aload_n (i := 0) dX11_times_48 rfl 0 rfl ?_
        refine pg_getR dX11_times_49 fl_RX11_10 rfl (fun v11 => ?_)
        refine pg_iload_n (i := 1) dX11_times_52 rfl 1 rfl ?_
        refine pg_iload_n (i := 2) dX11_times_53 rfl 2 rfl ?_
        refine pg_iload_n (i := 3) dX11_times_54 rfl 3 rfl ?_
        refine pg_callV_wI (As := [pR v11, pI a1, pI a2, pI a3]) (rs := []) dX11_times_55 lk_RX11_283 vy_X2_timesAsLikely nd_X2_timesAsLikely (c_X2_timesAsLikely l D v10 v11 a1 a2 a3 h) rfl rfl (Nat.le_of_ble_eq_true rfl) (by decide) (by decide) (fun v12 => ?_)
        exact pg_iret dX11_times_58 rfl rfl
      · refine pg_iconst dX11_times_42 ci_m1 ?_
        exact pg_iret dX11_times_43 rfl rfl
theorem c_X11_times (l : Launch) (D : pg_D) (a0 : Nat) (a1 : Int32) (a2 : Int32) (a3 : Int32) (h : pg_H) : ∀ x, F_X11_times a0 a1 a2 a3 h = some x → pg_Ct l D yX11_times cX11_times 4 (some FieldType.int) 5 131 [pR a0, pI a1, pI a2, pI a3] h (pg_wI x) :=
  pg_Ct.of pn_RX11 (Nat.le_of_ble_eq_true rfl) (e_X11_times l D a0 a1 a2 a3 h)
def F_X11_written (a0 : Nat) (a1 : Int32) (h : pg_H) : Option (Int32 × pg_H) := Option.bind (pg_gR 11 0 h a0) fun v1 => Option.bind (pg_gR 5 3 h v1) fun v2 => Option.bind (pg_rcv 7 h v2 (F_X7_holds h v2 a1)) fun v3 => (if v3 = 0 then (some ((-1 : Int32), h)) else Option.bind (pg_gR 11 0 h a0) fun v4 => Option.bind (pg_gR 5 2 h v4) fun v5 => Option.bind (pg_rcv 7 h v5 (F_X7_size h v5)) fun v6 => (if v6 = 0 then (some ((-1 : Int32), h)) else Option.bind (pg_gR 11 8 h a0) fun v7 => Option.bind (pg_gR 11 0 h a0) fun v8 => Option.bind (pg_rcv 2 h v7 (F_X2_likeliestHand v7 v8 a1 h)) fun v9 => (some (v9.1, v9.2))))
theorem e_X11_written (l : Launch) (D : pg_D)  (a0 : Nat) (a1 : Int32) (h : pg_H) : pg_EvF l D RX11 cX11_written 2 (some FieldType.int) "written" 5 131 pg_wI (F_X11_written a0 a1 h) 0 [(0, pR a0), (1, pI a1)] [] h := by
  unfold F_X11_written
  refine pg_aload_n (i := 0) dX11_written_0 rfl 0 rfl ?_
  refine pg_getR dX11_written_1 fl_RX11_10 rfl (fun v1 => ?_)
  refine pg_getR dX11_written_4 fl_RX11_128 rfl (fun v2 => ?_)
  refine pg_iload_n (i := 1) dX11_written_7 rfl 1 rfl ?_
  refine pg_callV_oI (As := [pI a1]) (rs := []) dX11_written_8 lk_RX11_108 vy_X7_holds nd_X7_holds (c_X7_holds l D h v2 a1) rfl rfl (Nat.le_of_ble_eq_true rfl) (by decide) (by decide) (fun v3 => ?_)
  refine pg_if_eq (tgt := 27) dX11_written_11 rfl ?_ ?_
  · refine pg_iconst dX11_written_27 ci_m1 ?_
    exact pg_iret dX11_written_28 rfl rfl
  · refine pg_aload_n (i := 0) dX11_written_14 rfl 0 rfl ?_
    refine pg_getR dX11_written_15 fl_RX11_10 rfl (fun v4 => ?_)
    refine pg_getR dX11_written_18 fl_RX11_125 rfl (fun v5 => ?_)
    refine pg_callV_oI (As := []) (rs := []) dX11_written_21 lk_RX11_122 vy_X7_size nd_X7_size (c_X7_size l D h v5) rfl rfl (Nat.le_of_ble_eq_true rfl) (by decide) (by decide) (fun v6 => ?_)
    refine pg_if_ne (tgt := 29) dX11_written_24 rfl ?_ ?_
    · refine pg_aload_n (i := 0) dX11_written_29 rfl 0 rfl ?_
      refine pg_getR dX11_written_30 fl_RX11_64 rfl (fun v7 => ?_)
      refine pg_aload_n (i := 0) dX11_written_33 rfl 0 rfl ?_
      refine pg_getR dX11_written_34 fl_RX11_10 rfl (fun v8 => ?_)
      refine pg_iload_n (i := 1) dX11_written_37 rfl 1 rfl ?_
      refine pg_callV_wI (As := [pR v8, pI a1]) (rs := []) dX11_written_38 lk_RX11_287 vy_X2_likeliestHand nd_X2_likeliestHand (c_X2_likeliestHand l D v7 v8 a1 h) rfl rfl (Nat.le_of_ble_eq_true rfl) (by decide) (by decide) (fun v9 => ?_)
      exact pg_iret dX11_written_41 rfl rfl
    · refine pg_iconst dX11_written_27 ci_m1 ?_
      exact pg_iret dX11_written_28 rfl rfl
theorem c_X11_written (l : Launch) (D : pg_D) (a0 : Nat) (a1 : Int32) (h : pg_H) : ∀ x, F_X11_written a0 a1 h = some x → pg_Ct l D yX11_written cX11_written 2 (some FieldType.int) 5 131 [pR a0, pI a1] h (pg_wI x) :=
  pg_Ct.of pn_RX11 (Nat.le_of_ble_eq_true rfl) (e_X11_written l D a0 a1 h)
def F_X11_towns_161 (h : pg_H) (k58 : Nat → Int32 → Int32 → Int32 → Int32 → Int32 → Option Int32) (a0 : Nat) (a2 : Int32) (a3 : Int32) (a4 : Int32) (a5 : Int32) (a6 : Int32) : Option Int32 := (k58 a0 a2 a3 a4 a5 (a6 + (1 : Int32)))
def F_X11_towns_99 (h : pg_H) (k58 : Nat → Int32 → Int32 → Int32 → Int32 → Int32 → Option Int32) (a0 : Nat) (a2 : Int32) (a3 : Int32) (a4 : Int32) (a5 : Int32) (a6 : Int32) (s0 : Int32) : Option Int32 := (if s0 = 0 then (F_X11_towns_161 h k58 a0 a2 a3 a4 a5 a6) else Option.bind (pg_gR 11 0 h a0) fun v1 => Option.bind (pg_gR 5 1 h v1) fun v2 => Option.bind (pg_rcv 7 h v2 (F_X7_at h v2 a6 (2 : Int32))) fun v3 => (if a4 < v3 then (F_X11_towns_161 h k58 a0 a2 a3 a4 a5 a6) else Option.bind (pg_gR 11 0 h a0) fun v4 => Option.bind (pg_gR 5 1 h v4) fun v5 => Option.bind (pg_rcv 7 h v5 (F_X7_at h v5 a6 (3 : Int32))) fun v6 => (if v6 < a3 then (F_X11_towns_161 h k58 a0 a2 a3 a4 a5 a6) else Option.bind (pg_gR 11 0 h a0) fun v7 => Option.bind (pg_gR 5 1 h v7) fun v8 => Option.bind (pg_rcv 7 h v8 (F_X7_at h v8 a6 (1 : Int32))) fun v9 => pg_let (a5 ||| ((1 : Int32) <<< (v9 &&& 31))) fun v10 => (F_X11_towns_161 h k58 a0 a2 a3 a4 v10 a6))))
def F_X11_towns_58 (h : pg_H) : Nat → Nat → Int32 → Int32 → Int32 → Int32 → Int32 → Option Int32
  | 0 => fun _ _ _ _ _ _ => none
  | n + 1 => fun a0 a2 a3 a4 a5 a6 => Option.bind (pg_gR 11 0 h a0) fun v1 => Option.bind (pg_gR 5 1 h v1) fun v2 => Option.bind (pg_rcv 7 h v2 (F_X7_size h v2)) fun v3 => (if a6 < v3 then Option.bind (pg_gR 11 0 h a0) fun v5 => Option.bind (pg_gR 5 1 h v5) fun v6 => Option.bind (pg_rcv 7 h v6 (F_X7_at h v6 a6 (0 : Int32))) fun v7 => (if ((a2 >>> (v7 &&& 31)) &&& (1 : Int32)) = (1 : Int32) then (F_X11_towns_99 h (F_X11_towns_58 h n) a0 a2 a3 a4 a5 a6 (1 : Int32)) else (F_X11_towns_99 h (F_X11_towns_58 h n) a0 a2 a3 a4 a5 a6 (0 : Int32))) else Option.bind (F_J6_bitCount_0f7a4 a5) fun v4 => (some v4))
def F_X11_towns (h : pg_H) (a0 : Nat) (a1 : Int32) : Option Int32 := Option.bind (pg_gR 11 0 h a0) fun v1 => Option.bind (pg_gR 5 2 h v1) fun v2 => Option.bind (pg_rcv 7 h v2 (F_X7_holds h v2 a1)) fun v3 => (if v3 = 0 then (some (-1 : Int32)) else Option.bind (pg_gR 11 0 h a0) fun v4 => Option.bind (pg_rcv 5 h v4 (F_X5_copiesWithHand h v4 a1)) fun v5 => Option.bind (pg_gR 11 0 h a0) fun v6 => Option.bind (pg_gR 5 2 h v6) fun v7 => Option.bind (pg_rcv 7 h v7 (F_X7_at h v7 a1 (0 : Int32))) fun v8 => Option.bind (pg_gR 11 0 h a0) fun v9 => Option.bind (pg_gR 5 2 h v9) fun v10 => Option.bind (pg_rcv 7 h v10 (F_X7_at h v10 a1 (1 : Int32))) fun v11 => (F_X11_towns_58 h pg_fuel a0 v5 v8 v11 (0 : Int32) (0 : Int32)))
theorem e_X11_towns_161 (l : Launch) (D : pg_D)  (h : pg_H) (k58 : Nat → Int32 → Int32 → Int32 → Int32 → Int32 → Option Int32) (hk58 : ∀ (a0 : Nat) (a2 : Int32) (a3 : Int32) (a4 : Int32) (a5 : Int32) (a6 : Int32), pg_EvF l D RX11 cX11_towns 8 (some FieldType.int) "towns" 2 45 (pg_oI h) (k58 a0 a2 a3 a4 a5 a6) 58 [(0, pR a0), (2, pI a2), (3, pI a3), (4, pI a4), (5, pI a5), (6, pI a6)] [] h) (a0 : Nat) (a2 : Int32) (a3 : Int32) (a4 : Int32) (a5 : Int32) (a6 : Int32) : pg_EvF l D RX11 cX11_towns 8 (some FieldType.int) "towns" 2 45 (pg_oI h) (F_X11_towns_161 h k58 a0 a2 a3 a4 a5 a6) 161 [(0, pR a0), (2, pI a2), (3, pI a3), (4, pI a4), (5, pI a5), (6, pI a6)] [] h := by
  unfold F_X11_towns_161
  refine pg_iinc (lv' := [(6, pI (a6 + (1 : Int32))), (0, pR a0), (2, pI a2), (3, pI a3), (4, pI a4), (5, pI a5)]) dX11_towns_161 5 rfl ci_1 (by decide) rfl ?_
  refine pg_goto (tgt := 58) dX11_towns_164 rfl ?_
  exact pg_to (hk58 a0 a2 a3 a4 a5 (a6 + (1 : Int32))) [1, 2, 3, 4, 5, 0] rfl
theorem e_X11_towns_99 (l : Launch) (D : pg_D)  (h : pg_H) (k58 : Nat → Int32 → Int32 → Int32 → Int32 → Int32 → Option Int32) (hk58 : ∀ (a0 : Nat) (a2 : Int32) (a3 : Int32) (a4 : Int32) (a5 : Int32) (a6 : Int32), pg_EvF l D RX11 cX11_towns 8 (some FieldType.int) "towns" 2 45 (pg_oI h) (k58 a0 a2 a3 a4 a5 a6) 58 [(0, pR a0), (2, pI a2), (3, pI a3), (4, pI a4), (5, pI a5), (6, pI a6)] [] h) (a0 : Nat) (a2 : Int32) (a3 : Int32) (a4 : Int32) (a5 : Int32) (a6 : Int32) (s0 : Int32) : pg_EvF l D RX11 cX11_towns 8 (some FieldType.int) "towns" 2 45 (pg_oI h) (F_X11_towns_99 h k58 a0 a2 a3 a4 a5 a6 s0) 99 [(0, pR a0), (2, pI a2), (3, pI a3), (4, pI a4), (5, pI a5), (6, pI a6)] [pI s0] h := by
  unfold F_X11_towns_99
  refine pg_istore (lv' := [(7, pI s0), (0, pR a0), (2, pI a2), (3, pI a3), (4, pI a4), (5, pI a5), (6, pI a6)]) dX11_towns_99 (by decide) rfl ?_
  refine pg_iload dX11_towns_101 0 rfl ?_
  refine pg_if_eq (tgt := 161) dX11_towns_103 rfl ?_ ?_
  · exact pg_to (e_X11_towns_161 l D h k58 hk58 a0 a2 a3 a4 a5 a6) [1, 2, 3, 4, 5, 6] rfl
  · refine pg_aload_n (i := 0) dX11_towns_106 rfl 1 rfl ?_
    refine pg_getR dX11_towns_107 fl_RX11_10 rfl (fun v1 => ?_)
    refine pg_getR dX11_towns_110 fl_RX11_119 rfl (fun v2 => ?_)
    refine pg_iload dX11_towns_113 6 rfl ?_
    refine pg_iconst dX11_towns_115 ci_2 ?_
    refine pg_callV_oI (As := [pI a6, pI (2 : Int32)]) (rs := []) dX11_towns_116 lk_RX11_156 vy_X7_at nd_X7_at (c_X7_at l D h v2 a6 (2 : Int32)) rfl rfl (Nat.le_of_ble_eq_true rfl) (by decide) (by decide) (fun v3 => ?_)
    refine pg_iload dX11_towns_119 4 rfl ?_
    refine pg_icmp_gt (tgt := 161) dX11_towns_121 rfl ?_ ?_
    · exact pg_to (e_X11_towns_161 l D h k58 hk58 a0 a2 a3 a4 a5 a6) [1, 2, 3, 4, 5, 6] rfl
    · refine pg_aload_n (i := 0) dX11_towns_124 rfl 1 rfl ?_
      refine pg_getR dX11_towns_125 fl_RX11_10 rfl (fun v4 => ?_)
      refine pg_getR dX11_towns_128 fl_RX11_119 rfl (fun v5 => ?_)
      refine pg_iload dX11_towns_131 6 rfl ?_
      refine pg_iconst dX11_towns_133 ci_3 ?_
      refine pg_callV_oI (As := [pI a6, pI (3 : Int32)]) (rs := []) dX11_towns_134 lk_RX11_156 vy_X7_at nd_X7_at (c_X7_at l D h v5 a6 (3 : Int32)) rfl rfl (Nat.le_of_ble_eq_true rfl) (by decide) (by decide) (fun v6 => ?_)
      refine pg_iload_n (i := 3) dX11_towns_137 rfl 3 rfl ?_
      refine pg_icmp_lt (tgt := 161) dX11_towns_138 rfl ?_ ?_
      · exact pg_to (e_X11_towns_161 l D h k58 hk58 a0 a2 a3 a4 a5 a6) [1, 2, 3, 4, 5, 6] rfl
      · refine pg_iload dX11_towns_141 5 rfl ?_
        refine pg_iconst dX11_towns_143 ci_1 ?_
        refine pg_aload_n (i := 0) dX11_towns_144 rfl 1 rfl ?_
        refine pg_getR dX11_towns_145 fl_RX11_10 rfl (fun v7 => ?_)
        refine pg_getR dX11_towns_148 fl_RX11_119 rfl (fun v8 => ?_)
        refine pg_iload dX11_towns_151 6 rfl ?_
        refine pg_iconst dX11_towns_153 ci_1 ?_
        refine pg_callV_oI (As := [pI a6, pI (1 : Int32)]) (rs := [pI (1 : Int32), pI a5]) dX11_towns_154 lk_RX11_156 vy_X7_at nd_X7_at (c_X7_at l D h v8 a6 (1 : Int32)) rfl rfl (Nat.le_of_ble_eq_true rfl) (by decide) (by decide) (fun v9 => ?_)
        refine pg_ishl dX11_towns_157 ?_
        refine pg_ior dX11_towns_158 ?_
        refine pg_letI (fun v10 => ?_)
        refine pg_istore (lv' := [(5, pI v10), (7, pI s0), (0, pR a0), (2, pI a2), (3, pI a3), (4, pI a4), (6, pI a6)]) dX11_towns_159 (by decide) rfl ?_
        exact pg_to (e_X11_towns_161 l D h k58 hk58 a0 a2 a3 a4 v10 a6) [2, 3, 4, 5, 0, 6] rfl
theorem e_X11_towns_58 (l : Launch) (D : pg_D)  (h : pg_H) : ∀ (n : Nat) (a0 : Nat) (a2 : Int32) (a3 : Int32) (a4 : Int32) (a5 : Int32) (a6 : Int32), pg_EvF l D RX11 cX11_towns 8 (some FieldType.int) "towns" 2 45 (pg_oI h) (F_X11_towns_58 h n a0 a2 a3 a4 a5 a6) 58 [(0, pR a0), (2, pI a2), (3, pI a3), (4, pI a4), (5, pI a5), (6, pI a6)] [] h := by
  intro n
  induction n with
  | zero => intro a0 a2 a3 a4 a5 a6; exact pg_none
  | succ n ih =>
    intro a0 a2 a3 a4 a5 a6
    rw [F_X11_towns_58]
    refine pg_iload dX11_towns_58 5 rfl ?_
    refine pg_aload_n (i := 0) dX11_towns_60 rfl 0 rfl ?_
    refine pg_getR dX11_towns_61 fl_RX11_10 rfl (fun v1 => ?_)
    refine pg_getR dX11_towns_64 fl_RX11_119 rfl (fun v2 => ?_)
    refine pg_callV_oI (As := []) (rs := [pI a6]) dX11_towns_67 lk_RX11_122 vy_X7_size nd_X7_size (c_X7_size l D h v2) rfl rfl (Nat.le_of_ble_eq_true rfl) (by decide) (by decide) (fun v3 => ?_)
    refine pg_icmp_ge (tgt := 167) dX11_towns_70 rfl ?_ ?_
    · refine pg_iload dX11_towns_167 4 rfl ?_
      refine pg_callS_oI (As := [pI a5]) (rs := []) dX11_towns_169 lk_RX11_210 vy_J6_bitCount_0f7a4 nd_J6_bitCount_0f7a4 (c_J6_bitCount_0f7a4 l D a5 h) rfl rfl (Nat.le_of_ble_eq_true rfl) (by decide) (by decide) (fun v4 => ?_)
      exact pg_iret dX11_towns_172 rfl rfl
    · refine pg_iload_n (i := 2) dX11_towns_73 rfl 1 rfl ?_
      refine pg_aload_n (i := 0) dX11_towns_74 rfl 0 rfl ?_
      refine pg_getR dX11_towns_75 fl_RX11_10 rfl (fun v5 => ?_)
      refine pg_getR dX11_towns_78 fl_RX11_119 rfl (fun v6 => ?_)
      refine pg_iload dX11_towns_81 5 rfl ?_
      refine pg_iconst dX11_towns_83 ci_0 ?_
      refine pg_callV_oI (As := [pI a6, pI (0 : Int32)]) (rs := [pI a2]) dX11_towns_84 lk_RX11_156 vy_X7_at nd_X7_at (c_X7_at l D h v6 a6 (0 : Int32)) rfl rfl (Nat.le_of_ble_eq_true rfl) (by decide) (by decide) (fun v7 => ?_)
      refine pg_ishr dX11_towns_87 ?_
      refine pg_iconst dX11_towns_88 ci_1 ?_
      refine pg_iand dX11_towns_89 ?_
      refine pg_iconst dX11_towns_90 ci_1 ?_
      refine pg_icmp_ne (tgt := 98) dX11_towns_91 rfl ?_ ?_
      · refine pg_iconst dX11_towns_98 ci_0 ?_
        exact pg_to (e_X11_towns_99 l D h (F_X11_towns_58 h n) ih a0 a2 a3 a4 a5 a6 (0 : Int32)) [0, 1, 2, 3, 4, 5] rfl
      · refine pg_iconst dX11_towns_94 ci_1 ?_
        refine pg_goto (tgt := 99) dX11_towns_95 rfl ?_
        exact pg_to (e_X11_towns_99 l D h (F_X11_towns_58 h n) ih a0 a2 a3 a4 a5 a6 (1 : Int32)) [0, 1, 2, 3, 4, 5] rfl
theorem e_X11_towns (l : Launch) (D : pg_D)  (h : pg_H) (a0 : Nat) (a1 : Int32) : pg_EvF l D RX11 cX11_towns 8 (some FieldType.int) "towns" 2 45 (pg_oI h) (F_X11_towns h a0 a1) 0 [(0, pR a0), (1, pI a1)] [] h := by
  unfold F_X11_towns
  refine pg_aload_n (i := 0) dX11_towns_0 rfl 0 rfl ?_
  refine pg_getR dX11_towns_1 fl_RX11_10 rfl (fun v1 => ?_)
  refine pg_getR dX11_towns_4 fl_RX11_125 rfl (fun v2 => ?_)
  refine pg_iload_n (i := 1) dX11_towns_7 rfl 1 rfl ?_
  refine pg_callV_oI (As := [pI a1]) (rs := []) dX11_towns_8 lk_RX11_108 vy_X7_holds nd_X7_holds (c_X7_holds l D h v2 a1) rfl rfl (Nat.le_of_ble_eq_true rfl) (by decide) (by decide) (fun v3 => ?_)
  refine pg_if_ne (tgt := 16) dX11_towns_11 rfl ?_ ?_
  · refine pg_aload_n (i := 0) dX11_towns_16 rfl 0 rfl ?_
    refine pg_getR dX11_towns_17 fl_RX11_10 rfl (fun v4 => ?_)
    refine pg_iload_n (i := 1) dX11_towns_20 rfl 1 rfl ?_
    refine pg_callV_oI (As := [pI a1]) (rs := []) dX11_towns_21 lk_RX11_290 vy_X5_copiesWithHand nd_X5_copiesWithHand (c_X5_copiesWithHand l D h v4 a1) rfl rfl (Nat.le_of_ble_eq_true rfl) (by decide) (by decide) (fun v5 => ?_)
    refine pg_istore_n (i := 2) (lv' := [(2, pI v5), (0, pR a0), (1, pI a1)]) dX11_towns_24 rfl (by decide) rfl ?_
    refine pg_aload_n (i := 0) dX11_towns_25 rfl 1 rfl ?_
    refine pg_getR dX11_towns_26 fl_RX11_10 rfl (fun v6 => ?_)
    refine pg_getR dX11_towns_29 fl_RX11_125 rfl (fun v7 => ?_)
    refine pg_iload_n (i := 1) dX11_towns_32 rfl 2 rfl ?_
    refine pg_iconst dX11_towns_33 ci_0 ?_
    refine pg_callV_oI (As := [pI a1, pI (0 : Int32)]) (rs := []) dX11_towns_34 lk_RX11_156 vy_X7_at nd_X7_at (c_X7_at l D h v7 a1 (0 : Int32)) rfl rfl (Nat.le_of_ble_eq_true rfl) (by decide) (by decide) (fun v8 => ?_)
    refine pg_istore_n (i := 3) (lv' := [(3, pI v8), (2, pI v5), (0, pR a0), (1, pI a1)]) dX11_towns_37 rfl (by decide) rfl ?_
    refine pg_aload_n (i := 0) dX11_towns_38 rfl 2 rfl ?_
    refine pg_getR dX11_towns_39 fl_RX11_10 rfl (fun v9 => ?_)
    refine pg_getR dX11_towns_42 fl_RX11_125 rfl (fun v10 => ?_)
    refine pg_iload_n (i := 1) dX11_towns_45 rfl 3 rfl ?_
    refine pg_iconst dX11_towns_46 ci_1 ?_
    refine pg_callV_oI (As := [pI a1, pI (1 : Int32)]) (rs := []) dX11_towns_47 lk_RX11_156 vy_X7_at nd_X7_at (c_X7_at l D h v10 a1 (1 : Int32)) rfl rfl (Nat.le_of_ble_eq_true rfl) (by decide) (by decide) (fun v11 => ?_)
    refine pg_istore (lv' := [(4, pI v11), (3, pI v8), (2, pI v5), (0, pR a0), (1, pI a1)]) dX11_towns_50 (by decide) rfl ?_
    refine pg_iconst dX11_towns_52 ci_0 ?_
    refine pg_istore (lv' := [(5, pI (0 : Int32)), (4, pI v11), (3, pI v8), (2, pI v5), (0, pR a0), (1, pI a1)]) dX11_towns_53 (by decide) rfl ?_
    refine pg_iconst dX11_towns_55 ci_0 ?_
    refine pg_istore (lv' := [(6, pI (0 : Int32)), (5, pI (0 : Int32)), (4, pI v11), (3, pI v8), (2, pI v5), (0, pR a0), (1, pI a1)]) dX11_towns_56 (by decide) rfl ?_
    exact pg_to (e_X11_towns_58 l D h pg_fuel a0 v5 v8 v11 (0 : Int32) (0 : Int32)) [5, 4, 3, 2, 1, 0] rfl
  · refine pg_iconst dX11_towns_14 ci_m1 ?_
    exact pg_iret dX11_towns_15 rfl rfl
theorem c_X11_towns (l : Launch) (D : pg_D) (h : pg_H) (a0 : Nat) (a1 : Int32)  : ∀ x, F_X11_towns h a0 a1 = some x → pg_Ct l D yX11_towns cX11_towns 8 (some FieldType.int) 2 45 [pR a0, pI a1] h (pg_oI h x) :=
  pg_Ct.of pn_RX11 (Nat.le_of_ble_eq_true rfl) (e_X11_towns l D h a0 a1)
def F_X11_firstYearByTree_8 (h : pg_H) : Nat → Nat → Nat → Int32 → Int32 → Int32 → Option Int32
  | 0 => fun _ _ _ _ _ => none
  | n + 1 => fun a0 a1 a3 a4 a5 => (if a5 < (12 : Int32) then (if a4 = (-1 : Int32) then (some a3) else Option.bind (pg_gR 11 0 h a0) fun v1 => Option.bind (pg_rcv 5 h v1 (F_X5_firstYear h v1 a4)) fun v2 => pg_let (if a3 < v2 then v2 else a3) fun v3 => Option.bind (pg_rcv 6 h a1 (F_X6_exemplarOf h a1 a4)) fun v4 => (F_X11_firstYearByTree_8 h n a0 a1 v3 v4 (a5 + (1 : Int32)))) else (some a3))
def F_X11_firstYearByTree (h : pg_H) (a0 : Nat) (a1 : Nat) (a2 : Int32) : Option Int32 := (F_X11_firstYearByTree_8 h pg_fuel a0 a1 (0 : Int32) a2 (0 : Int32))
theorem e_X11_firstYearByTree_8 (l : Launch) (D : pg_D)  (h : pg_H) : ∀ (n : Nat) (a0 : Nat) (a1 : Nat) (a3 : Int32) (a4 : Int32) (a5 : Int32), pg_EvF l D RX11 cX11_firstYearByTree 6 (some FieldType.int) "firstYearByTree" 3 73 (pg_oI h) (F_X11_firstYearByTree_8 h n a0 a1 a3 a4 a5) 8 [(0, pR a0), (1, pR a1), (3, pI a3), (4, pI a4), (5, pI a5)] [] h := by
  intro n
  induction n with
  | zero => intro a0 a1 a3 a4 a5; exact pg_none
  | succ n ih =>
    intro a0 a1 a3 a4 a5
    rw [F_X11_firstYearByTree_8]
    refine pg_iload dX11_firstYearByTree_8 4 rfl ?_
    refine pg_bipush dX11_firstYearByTree_10 cb_12 ?_
    refine pg_icmp_ge (tgt := 49) dX11_firstYearByTree_12 rfl ?_ ?_
    · refine pg_iload_n (i := 3) dX11_firstYearByTree_49 rfl 2 rfl ?_
      exact pg_iret dX11_firstYearByTree_50 rfl rfl
    · refine pg_iload dX11_firstYearByTree_15 3 rfl ?_
      refine pg_iconst dX11_firstYearByTree_17 ci_m1 ?_
      refine pg_icmp_eq (tgt := 49) dX11_firstYearByTree_18 rfl ?_ ?_
      · refine pg_iload_n (i := 3) dX11_firstYearByTree_49 rfl 2 rfl ?_
        exact pg_iret dX11_firstYearByTree_50 rfl rfl
      · refine pg_iload_n (i := 3) dX11_firstYearByTree_21 rfl 2 rfl ?_
        refine pg_aload_n (i := 0) dX11_firstYearByTree_22 rfl 0 rfl ?_
        refine pg_getR dX11_firstYearByTree_23 fl_RX11_10 rfl (fun v1 => ?_)
        refine pg_iload dX11_firstYearByTree_26 3 rfl ?_
        refine pg_callV_oI (As := [pI a4]) (rs := [pI a3]) dX11_firstYearByTree_28 lk_RX11_293 vy_X5_firstYear nd_X5_firstYear (c_X5_firstYear l D h v1 a4) rfl rfl (Nat.le_of_ble_eq_true rfl) (by decide) (by decide) (fun v2 => ?_)
        refine pg_mmax dX11_firstYearByTree_31 pw5_67 pw_max1 pw_math pw_max2 (Nat.le_of_ble_eq_true rfl) (by decide) (by decide) ?_
        refine pg_letI (fun v3 => ?_)
        refine pg_istore_n (i := 3) (lv' := [(3, pI v3), (0, pR a0), (1, pR a1), (4, pI a4), (5, pI a5)]) dX11_firstYearByTree_34 rfl (by decide) rfl ?_
        refine pg_aload_n (i := 1) dX11_firstYearByTree_35 rfl 2 rfl ?_
        refine pg_iload dX11_firstYearByTree_36 3 rfl ?_
        refine pg_callV_oI (As := [pI a4]) (rs := []) dX11_firstYearByTree_38 lk_RX11_246 vy_X6_exemplarOf nd_X6_exemplarOf (c_X6_exemplarOf l D h a1 a4) rfl rfl (Nat.le_of_ble_eq_true rfl) (by decide) (by decide) (fun v4 => ?_)
        refine pg_istore (lv' := [(4, pI v4), (3, pI v3), (0, pR a0), (1, pR a1), (5, pI a5)]) dX11_firstYearByTree_41 (by decide) rfl ?_
        refine pg_iinc (lv' := [(5, pI (a5 + (1 : Int32))), (4, pI v4), (3, pI v3), (0, pR a0), (1, pR a1)]) dX11_firstYearByTree_43 4 rfl ci_1 (by decide) rfl ?_
        refine pg_goto (tgt := 8) dX11_firstYearByTree_46 rfl ?_
        exact pg_to (ih a0 a1 v3 v4 (a5 + (1 : Int32))) [3, 4, 2, 1, 0] rfl
theorem e_X11_firstYearByTree (l : Launch) (D : pg_D)  (h : pg_H) (a0 : Nat) (a1 : Nat) (a2 : Int32) : pg_EvF l D RX11 cX11_firstYearByTree 6 (some FieldType.int) "firstYearByTree" 3 73 (pg_oI h) (F_X11_firstYearByTree h a0 a1 a2) 0 [(0, pR a0), (1, pR a1), (2, pI a2)] [] h := by
  unfold F_X11_firstYearByTree
  refine pg_iconst dX11_firstYearByTree_0 ci_0 ?_
  refine pg_istore_n (i := 3) (lv' := [(3, pI (0 : Int32)), (0, pR a0), (1, pR a1), (2, pI a2)]) dX11_firstYearByTree_1 rfl (by decide) rfl ?_
  refine pg_iload_n (i := 2) dX11_firstYearByTree_2 rfl 3 rfl ?_
  refine pg_istore (lv' := [(4, pI a2), (3, pI (0 : Int32)), (0, pR a0), (1, pR a1), (2, pI a2)]) dX11_firstYearByTree_3 (by decide) rfl ?_
  refine pg_iconst dX11_firstYearByTree_5 ci_0 ?_
  refine pg_istore (lv' := [(5, pI (0 : Int32)), (4, pI a2), (3, pI (0 : Int32)), (0, pR a0), (1, pR a1), (2, pI a2)]) dX11_firstYearByTree_6 (by decide) rfl ?_
  exact pg_to (e_X11_firstYearByTree_8 l D h pg_fuel a0 a1 (0 : Int32) a2 (0 : Int32)) [3, 4, 2, 1, 0] rfl
theorem c_X11_firstYearByTree (l : Launch) (D : pg_D) (h : pg_H) (a0 : Nat) (a1 : Nat) (a2 : Int32)  : ∀ x, F_X11_firstYearByTree h a0 a1 a2 = some x → pg_Ct l D yX11_firstYearByTree cX11_firstYearByTree 6 (some FieldType.int) 3 73 [pR a0, pR a1, pI a2] h (pg_oI h x) :=
  pg_Ct.of pn_RX11 (Nat.le_of_ble_eq_true rfl) (e_X11_firstYearByTree l D h a0 a1 a2)
def F_X11_lastYearByTree_51 (h : pg_H) (k12 : Nat → Nat → Int32 → Int32 → Int32 → Option Int32) (a0 : Nat) (a1 : Nat) (a2 : Int32) (a3 : Int32) (a4 : Int32) : Option Int32 := (k12 a0 a1 a2 a3 (a4 + (1 : Int32)))
def F_X11_lastYearByTree_12 (h : pg_H) : Nat → Nat → Nat → Int32 → Int32 → Int32 → Option Int32
  | 0 => fun _ _ _ _ _ => none
  | n + 1 => fun a0 a1 a2 a3 a4 => Option.bind (pg_gR 11 0 h a0) fun v1 => Option.bind (pg_gR 5 0 h v1) fun v2 => Option.bind (pg_rcv 7 h v2 (F_X7_size h v2)) fun v3 => (if a4 < v3 then Option.bind (pg_rcv 6 h a1 (F_X6_comesOf h a1 a4 a2)) fun v4 => (if v4 = 0 then (F_X11_lastYearByTree_51 h (F_X11_lastYearByTree_12 h n) a0 a1 a2 a3 a4) else Option.bind (pg_gR 11 0 h a0) fun v5 => Option.bind (pg_rcv 5 h v5 (F_X5_lastYear h v5 a4)) fun v6 => pg_let (if v6 < a3 then v6 else a3) fun v7 => (F_X11_lastYearByTree_51 h (F_X11_lastYearByTree_12 h n) a0 a1 a2 v7 a4)) else (some a3))
def F_X11_lastYearByTree (h : pg_H) (a0 : Nat) (a1 : Nat) (a2 : Int32) : Option Int32 := Option.bind (pg_gR 11 0 h a0) fun v1 => Option.bind (pg_rcv 5 h v1 (F_X5_lastYear h v1 a2)) fun v2 => (F_X11_lastYearByTree_12 h pg_fuel a0 a1 a2 v2 (0 : Int32))
theorem e_X11_lastYearByTree_51 (l : Launch) (D : pg_D)  (h : pg_H) (k12 : Nat → Nat → Int32 → Int32 → Int32 → Option Int32) (hk12 : ∀ (a0 : Nat) (a1 : Nat) (a2 : Int32) (a3 : Int32) (a4 : Int32), pg_EvF l D RX11 cX11_lastYearByTree 5 (some FieldType.int) "lastYearByTree" 3 72 (pg_oI h) (k12 a0 a1 a2 a3 a4) 12 [(0, pR a0), (1, pR a1), (2, pI a2), (3, pI a3), (4, pI a4)] [] h) (a0 : Nat) (a1 : Nat) (a2 : Int32) (a3 : Int32) (a4 : Int32) : pg_EvF l D RX11 cX11_lastYearByTree 5 (some FieldType.int) "lastYearByTree" 3 72 (pg_oI h) (F_X11_lastYearByTree_51 h k12 a0 a1 a2 a3 a4) 51 [(0, pR a0), (1, pR a1), (2, pI a2), (3, pI a3), (4, pI a4)] [] h := by
  unfold F_X11_lastYearByTree_51
  refine pg_iinc (lv' := [(4, pI (a4 + (1 : Int32))), (0, pR a0), (1, pR a1), (2, pI a2), (3, pI a3)]) dX11_lastYearByTree_51 4 rfl ci_1 (by decide) rfl ?_
  refine pg_goto (tgt := 12) dX11_lastYearByTree_54 rfl ?_
  exact pg_to (hk12 a0 a1 a2 a3 (a4 + (1 : Int32))) [1, 2, 3, 4, 0] rfl
theorem e_X11_lastYearByTree_12 (l : Launch) (D : pg_D)  (h : pg_H) : ∀ (n : Nat) (a0 : Nat) (a1 : Nat) (a2 : Int32) (a3 : Int32) (a4 : Int32), pg_EvF l D RX11 cX11_lastYearByTree 5 (some FieldType.int) "lastYearByTree" 3 72 (pg_oI h) (F_X11_lastYearByTree_12 h n a0 a1 a2 a3 a4) 12 [(0, pR a0), (1, pR a1), (2, pI a2), (3, pI a3), (4, pI a4)] [] h := by
  intro n
  induction n with
  | zero => intro a0 a1 a2 a3 a4; exact pg_none
  | succ n ih =>
    intro a0 a1 a2 a3 a4
    rw [F_X11_lastYearByTree_12]
    refine pg_iload dX11_lastYearByTree_12 4 rfl ?_
    refine pg_aload_n (i := 0) dX11_lastYearByTree_14 rfl 0 rfl ?_
    refine pg_getR dX11_lastYearByTree_15 fl_RX11_10 rfl (fun v1 => ?_)
    refine pg_getR dX11_lastYearByTree_18 fl_RX11_91 rfl (fun v2 => ?_)
    refine pg_callV_oI (As := []) (rs := [pI a4]) dX11_lastYearByTree_21 lk_RX11_122 vy_X7_size nd_X7_size (c_X7_size l D h v2) rfl rfl (Nat.le_of_ble_eq_true rfl) (by decide) (by decide) (fun v3 => ?_)
    refine pg_icmp_ge (tgt := 57) dX11_lastYearByTree_24 rfl ?_ ?_
    · refine pg_iload_n (i := 3) dX11_lastYearByTree_57 rfl 3 rfl ?_
      exact pg_iret dX11_lastYearByTree_58 rfl rfl
    · refine pg_aload_n (i := 1) dX11_lastYearByTree_27 rfl 1 rfl ?_
      refine pg_iload dX11_lastYearByTree_28 4 rfl ?_
      refine pg_iload_n (i := 2) dX11_lastYearByTree_30 rfl 2 rfl ?_
      refine pg_callV_oI (As := [pI a4, pI a2]) (rs := []) dX11_lastYearByTree_31 lk_RX11_255 vy_X6_comesOf nd_X6_comesOf (c_X6_comesOf l D h a1 a4 a2) rfl rfl (Nat.le_of_ble_eq_true rfl) (by decide) (by decide) (fun v4 => ?_)
      refine pg_if_eq (tgt := 51) dX11_lastYearByTree_34 rfl ?_ ?_
      · exact pg_to (e_X11_lastYearByTree_51 l D h (F_X11_lastYearByTree_12 h n) ih a0 a1 a2 a3 a4) [0, 1, 2, 3, 4] rfl
      · refine pg_iload_n (i := 3) dX11_lastYearByTree_37 rfl 3 rfl ?_
        refine pg_aload_n (i := 0) dX11_lastYearByTree_38 rfl 0 rfl ?_
        refine pg_getR dX11_lastYearByTree_39 fl_RX11_10 rfl (fun v5 => ?_)
        refine pg_iload dX11_lastYearByTree_42 4 rfl ?_
        refine pg_callV_oI (As := [pI a4]) (rs := [pI a3]) dX11_lastYearByTree_44 lk_RX11_296 vy_X5_lastYear nd_X5_lastYear (c_X5_lastYear l D h v5 a4) rfl rfl (Nat.le_of_ble_eq_true rfl) (by decide) (by decide) (fun v6 => ?_)
        refine pg_mmin dX11_lastYearByTree_47 pw5_72 pw_min1 pw_math pw_min2 (Nat.le_of_ble_eq_true rfl) (by decide) (by decide) ?_
        refine pg_letI (fun v7 => ?_)
        refine pg_istore_n (i := 3) (lv' := [(3, pI v7), (0, pR a0), (1, pR a1), (2, pI a2), (4, pI a4)]) dX11_lastYearByTree_50 rfl (by decide) rfl ?_
        exact pg_to (e_X11_lastYearByTree_51 l D h (F_X11_lastYearByTree_12 h n) ih a0 a1 a2 v7 a4) [1, 2, 3, 0, 4] rfl
theorem e_X11_lastYearByTree (l : Launch) (D : pg_D)  (h : pg_H) (a0 : Nat) (a1 : Nat) (a2 : Int32) : pg_EvF l D RX11 cX11_lastYearByTree 5 (some FieldType.int) "lastYearByTree" 3 72 (pg_oI h) (F_X11_lastYearByTree h a0 a1 a2) 0 [(0, pR a0), (1, pR a1), (2, pI a2)] [] h := by
  unfold F_X11_lastYearByTree
  refine pg_aload_n (i := 0) dX11_lastYearByTree_0 rfl 0 rfl ?_
  refine pg_getR dX11_lastYearByTree_1 fl_RX11_10 rfl (fun v1 => ?_)
  refine pg_iload_n (i := 2) dX11_lastYearByTree_4 rfl 2 rfl ?_
  refine pg_callV_oI (As := [pI a2]) (rs := []) dX11_lastYearByTree_5 lk_RX11_296 vy_X5_lastYear nd_X5_lastYear (c_X5_lastYear l D h v1 a2) rfl rfl (Nat.le_of_ble_eq_true rfl) (by decide) (by decide) (fun v2 => ?_)
  refine pg_istore_n (i := 3) (lv' := [(3, pI v2), (0, pR a0), (1, pR a1), (2, pI a2)]) dX11_lastYearByTree_8 rfl (by decide) rfl ?_
  refine pg_iconst dX11_lastYearByTree_9 ci_0 ?_
  refine pg_istore (lv' := [(4, pI (0 : Int32)), (3, pI v2), (0, pR a0), (1, pR a1), (2, pI a2)]) dX11_lastYearByTree_10 (by decide) rfl ?_
  exact pg_to (e_X11_lastYearByTree_12 l D h pg_fuel a0 a1 a2 v2 (0 : Int32)) [2, 3, 4, 1, 0] rfl
theorem c_X11_lastYearByTree (l : Launch) (D : pg_D) (h : pg_H) (a0 : Nat) (a1 : Nat) (a2 : Int32)  : ∀ x, F_X11_lastYearByTree h a0 a1 a2 = some x → pg_Ct l D yX11_lastYearByTree cX11_lastYearByTree 5 (some FieldType.int) 3 72 [pR a0, pR a1, pI a2] h (pg_oI h x) :=
  pg_Ct.of pn_RX11 (Nat.le_of_ble_eq_true rfl) (e_X11_lastYearByTree l D h a0 a1 a2)
def F_X11_dates (a0 : Nat) (a1 : Int32) (a2 : Int32) (h : pg_H) : Option (Int32 × pg_H) := Option.bind (pg_gR 11 0 h a0) fun v1 => Option.bind (pg_gR 5 0 h v1) fun v2 => Option.bind (pg_rcv 7 h v2 (F_X7_holds h v2 a1)) fun v3 => (if v3 = 0 then (some ((-1 : Int32), h)) else Option.bind (F_X11_within a2 (0 : Int32) (3 : Int32)) fun v4 => (if v4 = 0 then (some ((-1 : Int32), h)) else (if a2 < (2 : Int32) then (if a2 = 0 then Option.bind (pg_gR 11 0 h a0) fun v10 => Option.bind (pg_rcv 5 h v10 (F_X5_firstYear h v10 a1)) fun v11 => (some (v11, h)) else Option.bind (pg_gR 11 0 h a0) fun v8 => Option.bind (pg_rcv 5 h v8 (F_X5_lastYear h v8 a1)) fun v9 => (some (v9, h))) else Option.bind (pg_rcv 11 h a0 (F_X11_freshStemma a0 h)) fun v5 => (if a2 = (2 : Int32) then Option.bind (pg_rcv 11 v5.2 a0 (F_X11_firstYearByTree v5.2 a0 v5.1 a1)) fun v7 => (some (v7, v5.2)) else Option.bind (pg_rcv 11 v5.2 a0 (F_X11_lastYearByTree v5.2 a0 v5.1 a1)) fun v6 => (some (v6, v5.2))))))
theorem e_X11_dates (l : Launch) (D : pg_D)  (a0 : Nat) (a1 : Int32) (a2 : Int32) (h : pg_H) : pg_EvF l D RX11 cX11_dates 4 (some FieldType.int) "dates" 7 179 pg_wI (F_X11_dates a0 a1 a2 h) 0 [(0, pR a0), (1, pI a1), (2, pI a2)] [] h := by
  unfold F_X11_dates
  refine pg_aload_n (i := 0) dX11_dates_0 rfl 0 rfl ?_
  refine pg_getR dX11_dates_1 fl_RX11_10 rfl (fun v1 => ?_)
  refine pg_getR dX11_dates_4 fl_RX11_91 rfl (fun v2 => ?_)
  refine pg_iload_n (i := 1) dX11_dates_7 rfl 1 rfl ?_
  refine pg_callV_oI (As := [pI a1]) (rs := []) dX11_dates_8 lk_RX11_108 vy_X7_holds nd_X7_holds (c_X7_holds l D h v2 a1) rfl rfl (Nat.le_of_ble_eq_true rfl) (by decide) (by decide) (fun v3 => ?_)
  refine pg_if_eq (tgt := 23) dX11_dates_11 rfl ?_ ?_
  · refine pg_iconst dX11_dates_23 ci_m1 ?_
    exact pg_iret dX11_dates_24 rfl rfl
  · refine pg_iload_n (i := 2) dX11_dates_14 rfl 2 rfl ?_
    refine pg_iconst dX11_dates_15 ci_0 ?_
    refine pg_iconst dX11_dates_16 ci_3 ?_
    refine pg_callS_oI (As := [pI a2, pI (0 : Int32), pI (3 : Int32)]) (rs := []) dX11_dates_17 lk_RX11_83 vy_X11_within nd_X11_within (c_X11_within l D a2 (0 : Int32) (3 : Int32) h) rfl rfl (Nat.le_of_ble_eq_true rfl) (by decide) (by decide) (fun v4 => ?_)
    refine pg_if_ne (tgt := 25) dX11_dates_20 rfl ?_ ?_
    · refine pg_iload_n (i := 2) dX11_dates_25 rfl 2 rfl ?_
      refine pg_iconst dX11_dates_26 ci_2 ?_
      refine pg_icmp_ge (tgt := 54) dX11_dates_27 rfl ?_ ?_
      · refine pg_aload_n (i := 0) dX11_dates_54 rfl 0 rfl ?_
        refine pg_callV_wR (As := []) (rs := []) dX11_dates_55 lk_RX11_239 vy_X11_freshStemma nd_X11_freshStemma (c_X11_freshStemma l D a0 h) rfl rfl (Nat.le_of_ble_eq_true rfl) (by decide) (by decide) (fun v5 => ?_)
        refine pg_astore_n (i := 3) (lv' := [(3, pR v5.1), (0, pR a0), (1, pI a1), (2, pI a2)]) dX11_dates_58 rfl (by decide) rfl ?_
        refine pg_iload_n (i := 2) dX11_dates_59 rfl 3 rfl ?_
        refine pg_iconst dX11_dates_60 ci_2 ?_
        refine pg_icmp_ne (tgt := 73) dX11_dates_61 rfl ?_ ?_
        · refine pg_aload_n (i := 0) dX11_dates_73 rfl 1 rfl ?_
          refine pg_aload_n (i := 3) dX11_dates_74 rfl 0 rfl ?_
          refine pg_iload_n (i := 1) dX11_dates_75 rfl 2 rfl ?_
          refine pg_callV_oI (As := [pR v5.1, pI a1]) (rs := []) dX11_dates_76 lk_RX11_303 vy_X11_lastYearByTree nd_X11_lastYearByTree (c_X11_lastYearByTree l D v5.2 a0 v5.1 a1) rfl rfl (Nat.le_of_ble_eq_true rfl) (by decide) (by decide) (fun v6 => ?_)
          exact pg_iret dX11_dates_79 rfl rfl
        · refine pg_aload_n (i := 0) dX11_dates_64 rfl 1 rfl ?_
          refine pg_aload_n (i := 3) dX11_dates_65 rfl 0 rfl ?_
          refine pg_iload_n (i := 1) dX11_dates_66 rfl 2 rfl ?_
          refine pg_callV_oI (As := [pR v5.1, pI a1]) (rs := []) dX11_dates_67 lk_RX11_299 vy_X11_firstYearByTree nd_X11_firstYearByTree (c_X11_firstYearByTree l D v5.2 a0 v5.1 a1) rfl rfl (Nat.le_of_ble_eq_true rfl) (by decide) (by decide) (fun v7 => ?_)
          refine pg_goto (tgt := 79) dX11_dates_70 rfl ?_
          exact pg_iret dX11_dates_79 rfl rfl
      · refine pg_iload_n (i := 2) dX11_dates_30 rfl 2 rfl ?_
        refine pg_if_ne (tgt := 45) dX11_dates_31 rfl ?_ ?_
        · refine pg_aload_n (i := 0) dX11_dates_45 rfl 0 rfl ?_
          refine pg_getR dX11_dates_46 fl_RX11_10 rfl (fun v8 => ?_)
          refine pg_iload_n (i := 1) dX11_dates_49 rfl 1 rfl ?_
          refine pg_callV_oI (As := [pI a1]) (rs := []) dX11_dates_50 lk_RX11_296 vy_X5_lastYear nd_X5_lastYear (c_X5_lastYear l D h v8 a1) rfl rfl (Nat.le_of_ble_eq_true rfl) (by decide) (by decide) (fun v9 => ?_)
          exact pg_iret dX11_dates_53 rfl rfl
        · refine pg_aload_n (i := 0) dX11_dates_34 rfl 0 rfl ?_
          refine pg_getR dX11_dates_35 fl_RX11_10 rfl (fun v10 => ?_)
          refine pg_iload_n (i := 1) dX11_dates_38 rfl 1 rfl ?_
          refine pg_callV_oI (As := [pI a1]) (rs := []) dX11_dates_39 lk_RX11_293 vy_X5_firstYear nd_X5_firstYear (c_X5_firstYear l D h v10 a1) rfl rfl (Nat.le_of_ble_eq_true rfl) (by decide) (by decide) (fun v11 => ?_)
          refine pg_goto (tgt := 53) dX11_dates_42 rfl ?_
          exact pg_iret dX11_dates_53 rfl rfl
    · refine pg_iconst dX11_dates_23 ci_m1 ?_
      exact pg_iret dX11_dates_24 rfl rfl
theorem c_X11_dates (l : Launch) (D : pg_D) (a0 : Nat) (a1 : Int32) (a2 : Int32) (h : pg_H) : ∀ x, F_X11_dates a0 a1 a2 h = some x → pg_Ct l D yX11_dates cX11_dates 4 (some FieldType.int) 7 179 [pR a0, pI a1, pI a2] h (pg_wI x) :=
  pg_Ct.of pn_RX11 (Nat.le_of_ble_eq_true rfl) (e_X11_dates l D a0 a1 a2 h)
def F_X11_read (a0 : Nat) (a1 : Int32) (a2 : Int32) (h : pg_H) : Option (Int32 × pg_H) := Option.bind (pg_gR 11 0 h a0) fun v1 => Option.bind (pg_gR 5 0 h v1) fun v2 => Option.bind (pg_rcv 7 h v2 (F_X7_holds h v2 a1)) fun v3 => (if v3 = 0 then (some ((-1 : Int32), h)) else Option.bind (F_X11_within a2 (1 : Int32) (12 : Int32)) fun v4 => (if v4 = 0 then (some ((-1 : Int32), h)) else Option.bind (pg_gR 11 8 h a0) fun v5 => Option.bind (pg_gR 11 0 h a0) fun v6 => Option.bind (pg_gR 11 5 h a0) fun v7 => Option.bind (pg_rcv 2 h v5 (F_X2_chanceRead v5 v6 v7 a1 a2 h)) fun v8 => (some (v8.1, v8.2))))
theorem e_X11_read (l : Launch) (D : pg_D)  (a0 : Nat) (a1 : Int32) (a2 : Int32) (h : pg_H) : pg_EvF l D RX11 cX11_read 3 (some FieldType.int) "read" 5 139 pg_wI (F_X11_read a0 a1 a2 h) 0 [(0, pR a0), (1, pI a1), (2, pI a2)] [] h := by
  unfold F_X11_read
  refine pg_aload_n (i := 0) dX11_read_0 rfl 0 rfl ?_
  refine pg_getR dX11_read_1 fl_RX11_10 rfl (fun v1 => ?_)
  refine pg_getR dX11_read_4 fl_RX11_91 rfl (fun v2 => ?_)
  refine pg_iload_n (i := 1) dX11_read_7 rfl 1 rfl ?_
  refine pg_callV_oI (As := [pI a1]) (rs := []) dX11_read_8 lk_RX11_108 vy_X7_holds nd_X7_holds (c_X7_holds l D h v2 a1) rfl rfl (Nat.le_of_ble_eq_true rfl) (by decide) (by decide) (fun v3 => ?_)
  refine pg_if_eq (tgt := 24) dX11_read_11 rfl ?_ ?_
  · refine pg_iconst dX11_read_24 ci_m1 ?_
    exact pg_iret dX11_read_25 rfl rfl
  · refine pg_iload_n (i := 2) dX11_read_14 rfl 2 rfl ?_
    refine pg_iconst dX11_read_15 ci_1 ?_
    refine pg_bipush dX11_read_16 cb_12 ?_
    refine pg_callS_oI (As := [pI a2, pI (1 : Int32), pI (12 : Int32)]) (rs := []) dX11_read_18 lk_RX11_83 vy_X11_within nd_X11_within (c_X11_within l D a2 (1 : Int32) (12 : Int32) h) rfl rfl (Nat.le_of_ble_eq_true rfl) (by decide) (by decide) (fun v4 => ?_)
    refine pg_if_ne (tgt := 26) dX11_read_21 rfl ?_ ?_
    · refine pg_aload_n (i := 0) dX11_read_26 rfl 0 rfl ?_
      refine pg_getR dX11_read_27 fl_RX11_64 rfl (fun v5 => ?_)
      refine pg_aload_n (i := 0) dX11_read_30 rfl 0 rfl ?_
      refine pg_getR dX11_read_31 fl_RX11_10 rfl (fun v6 => ?_)
      refine pg_aload_n (i := 0) dX11_read_34 rfl 0 rfl ?_
      refine pg_getR dX11_read_35 fl_RX11_43 rfl (fun v7 => ?_)
      refine pg_iload_n (i := 1) dX11_read_38 rfl 1 rfl ?_
      refine pg_iload_n (i := 2) dX11_read_39 rfl 2 rfl ?_
      refine pg_callV_wI (As := [pR v6, pR v7, pI a1, pI a2]) (rs := []) dX11_read_40 lk_RX11_306 vy_X2_chanceRead nd_X2_chanceRead (c_X2_chanceRead l D v5 v6 v7 a1 a2 h) rfl rfl (Nat.le_of_ble_eq_true rfl) (by decide) (by decide) (fun v8 => ?_)
      exact pg_iret dX11_read_43 rfl rfl
    · refine pg_iconst dX11_read_24 ci_m1 ?_
      exact pg_iret dX11_read_25 rfl rfl
theorem c_X11_read (l : Launch) (D : pg_D) (a0 : Nat) (a1 : Int32) (a2 : Int32) (h : pg_H) : ∀ x, F_X11_read a0 a1 a2 h = some x → pg_Ct l D yX11_read cX11_read 3 (some FieldType.int) 5 139 [pR a0, pI a1, pI a2] h (pg_wI x) :=
  pg_Ct.of pn_RX11 (Nat.le_of_ble_eq_true rfl) (e_X11_read l D a0 a1 a2 h)
def F_X11_stops (h : pg_H) (a0 : Nat) (a1 : Int32) (a2 : Int32) : Option Int32 := Option.bind (pg_gR 11 0 h a0) fun v1 => Option.bind (pg_gR 5 0 h v1) fun v2 => Option.bind (pg_rcv 7 h v2 (F_X7_holds h v2 a1)) fun v3 => (if v3 = 0 then (some (-1 : Int32)) else Option.bind (F_X11_within a2 (0 : Int32) (1 : Int32)) fun v4 => (if v4 = 0 then (some (-1 : Int32)) else Option.bind (pg_gR 11 0 h a0) fun v5 => Option.bind (pg_rcv 5 h v5 (F_X5_chaptersWritten h v5 a1)) fun v6 => (if a2 = 0 then Option.bind (F_J6_bitCount_0f7a4 v6) fun v8 => (some v8) else Option.bind (F_X11_lastBit v6) fun v7 => (some v7))))
theorem e_X11_stops (l : Launch) (D : pg_D)  (h : pg_H) (a0 : Nat) (a1 : Int32) (a2 : Int32) : pg_EvF l D RX11 cX11_stops 4 (some FieldType.int) "stops" 3 73 (pg_oI h) (F_X11_stops h a0 a1 a2) 0 [(0, pR a0), (1, pI a1), (2, pI a2)] [] h := by
  unfold F_X11_stops
  refine pg_aload_n (i := 0) dX11_stops_0 rfl 0 rfl ?_
  refine pg_getR dX11_stops_1 fl_RX11_10 rfl (fun v1 => ?_)
  refine pg_getR dX11_stops_4 fl_RX11_91 rfl (fun v2 => ?_)
  refine pg_iload_n (i := 1) dX11_stops_7 rfl 1 rfl ?_
  refine pg_callV_oI (As := [pI a1]) (rs := []) dX11_stops_8 lk_RX11_108 vy_X7_holds nd_X7_holds (c_X7_holds l D h v2 a1) rfl rfl (Nat.le_of_ble_eq_true rfl) (by decide) (by decide) (fun v3 => ?_)
  refine pg_if_eq (tgt := 23) dX11_stops_11 rfl ?_ ?_
  · refine pg_iconst dX11_stops_23 ci_m1 ?_
    exact pg_iret dX11_stops_24 rfl rfl
  · refine pg_iload_n (i := 2) dX11_stops_14 rfl 2 rfl ?_
    refine pg_iconst dX11_stops_15 ci_0 ?_
    refine pg_iconst dX11_stops_16 ci_1 ?_
    refine pg_callS_oI (As := [pI a2, pI (0 : Int32), pI (1 : Int32)]) (rs := []) dX11_stops_17 lk_RX11_83 vy_X11_within nd_X11_within (c_X11_within l D a2 (0 : Int32) (1 : Int32) h) rfl rfl (Nat.le_of_ble_eq_true rfl) (by decide) (by decide) (fun v4 => ?_)
    refine pg_if_ne (tgt := 25) dX11_stops_20 rfl ?_ ?_
    · refine pg_aload_n (i := 0) dX11_stops_25 rfl 0 rfl ?_
      refine pg_getR dX11_stops_26 fl_RX11_10 rfl (fun v5 => ?_)
      refine pg_iload_n (i := 1) dX11_stops_29 rfl 1 rfl ?_
      refine pg_callV_oI (As := [pI a1]) (rs := []) dX11_stops_30 lk_RX11_310 vy_X5_chaptersWritten nd_X5_chaptersWritten (c_X5_chaptersWritten l D h v5 a1) rfl rfl (Nat.le_of_ble_eq_true rfl) (by decide) (by decide) (fun v6 => ?_)
      refine pg_istore_n (i := 3) (lv' := [(3, pI v6), (0, pR a0), (1, pI a1), (2, pI a2)]) dX11_stops_33 rfl (by decide) rfl ?_
      refine pg_iload_n (i := 2) dX11_stops_34 rfl 3 rfl ?_
      refine pg_if_ne (tgt := 45) dX11_stops_35 rfl ?_ ?_
      · refine pg_iload_n (i := 3) dX11_stops_45 rfl 0 rfl ?_
        refine pg_callS_oI (As := [pI v6]) (rs := []) dX11_stops_46 lk_RX11_313 vy_X11_lastBit nd_X11_lastBit (c_X11_lastBit l D v6 h) rfl rfl (Nat.le_of_ble_eq_true rfl) (by decide) (by decide) (fun v7 => ?_)
        exact pg_iret dX11_stops_49 rfl rfl
      · refine pg_iload_n (i := 3) dX11_stops_38 rfl 0 rfl ?_
        refine pg_callS_oI (As := [pI v6]) (rs := []) dX11_stops_39 lk_RX11_210 vy_J6_bitCount_0f7a4 nd_J6_bitCount_0f7a4 (c_J6_bitCount_0f7a4 l D v6 h) rfl rfl (Nat.le_of_ble_eq_true rfl) (by decide) (by decide) (fun v8 => ?_)
        refine pg_goto (tgt := 49) dX11_stops_42 rfl ?_
        exact pg_iret dX11_stops_49 rfl rfl
    · refine pg_iconst dX11_stops_23 ci_m1 ?_
      exact pg_iret dX11_stops_24 rfl rfl
theorem c_X11_stops (l : Launch) (D : pg_D) (h : pg_H) (a0 : Nat) (a1 : Int32) (a2 : Int32)  : ∀ x, F_X11_stops h a0 a1 a2 = some x → pg_Ct l D yX11_stops cX11_stops 4 (some FieldType.int) 3 73 [pR a0, pI a1, pI a2] h (pg_oI h x) :=
  pg_Ct.of pn_RX11 (Nat.le_of_ble_eq_true rfl) (e_X11_stops l D h a0 a1 a2)
def F_X11_many_36 (h : pg_H) : Nat → Nat → Int32 → Int32 → Int32 → Int32 → Int32 → Int32 → Option Int32
  | 0 => fun _ _ _ _ _ _ _ => none
  | n + 1 => fun a0 a1 a2 a3 a4 a5 a6 => Option.bind (pg_gR 11 0 h a0) fun v1 => Option.bind (pg_gR 5 0 h v1) fun v2 => Option.bind (pg_rcv 7 h v2 (F_X7_size h v2)) fun v3 => (if a6 < v3 then Option.bind (pg_gR 11 0 h a0) fun v4 => Option.bind (pg_gR 5 0 h v4) fun v5 => Option.bind (pg_rcv 7 h v5 (F_X7_at h v5 a6 (1 : Int32))) fun v6 => pg_let ((v6 >>> (a1 &&& 31)) &&& (1 : Int32)) fun v7 => pg_let ((v6 >>> (a2 &&& 31)) &&& (1 : Int32)) fun v8 => pg_let (a3 + v7) fun v9 => pg_let (a4 + v8) fun v10 => pg_let (a5 + (v7 &&& v8)) fun v11 => (F_X11_many_36 h n a0 a1 a2 v9 v10 v11 (a6 + (1 : Int32))) else (if a5 = 0 then (some (-1 : Int32)) else (if a5 = 0 then none else (some ((a3 * a4) / a5)))))
def F_X11_many (h : pg_H) (a0 : Nat) (a1 : Int32) (a2 : Int32) : Option Int32 := Option.bind (F_X11_within a1 (0 : Int32) (5 : Int32)) fun v1 => (if v1 = 0 then (some (-1 : Int32)) else Option.bind (F_X11_within a2 (0 : Int32) (5 : Int32)) fun v2 => (if v2 = 0 then (some (-1 : Int32)) else (if a1 = a2 then (some (-1 : Int32)) else (F_X11_many_36 h pg_fuel a0 a1 a2 (0 : Int32) (0 : Int32) (0 : Int32) (0 : Int32)))))
theorem e_X11_many_36 (l : Launch) (D : pg_D)  (h : pg_H) : ∀ (n : Nat) (a0 : Nat) (a1 : Int32) (a2 : Int32) (a3 : Int32) (a4 : Int32) (a5 : Int32) (a6 : Int32), pg_EvF l D RX11 cX11_many 10 (some FieldType.int) "many" 1 22 (pg_oI h) (F_X11_many_36 h n a0 a1 a2 a3 a4 a5 a6) 36 [(0, pR a0), (1, pI a1), (2, pI a2), (3, pI a3), (4, pI a4), (5, pI a5), (6, pI a6)] [] h := by
  intro n
  induction n with
  | zero => intro a0 a1 a2 a3 a4 a5 a6; exact pg_none
  | succ n ih =>
    intro a0 a1 a2 a3 a4 a5 a6
    rw [F_X11_many_36]
    refine pg_iload dX11_many_36 6 rfl ?_
    refine pg_aload_n (i := 0) dX11_many_38 rfl 0 rfl ?_
    refine pg_getR dX11_many_39 fl_RX11_10 rfl (fun v1 => ?_)
    refine pg_getR dX11_many_42 fl_RX11_91 rfl (fun v2 => ?_)
    refine pg_callV_oI (As := []) (rs := [pI a6]) dX11_many_45 lk_RX11_122 vy_X7_size nd_X7_size (c_X7_size l D h v2) rfl rfl (Nat.le_of_ble_eq_true rfl) (by decide) (by decide) (fun v3 => ?_)
    refine pg_icmp_ge (tgt := 110) dX11_many_48 rfl ?_ ?_
    · refine pg_iload dX11_many_110 5 rfl ?_
      refine pg_if_ne (tgt := 119) dX11_many_112 rfl ?_ ?_
      · refine pg_iload_n (i := 3) dX11_many_119 rfl 3 rfl ?_
        refine pg_iload dX11_many_120 4 rfl ?_
        refine pg_imul dX11_many_122 ?_
        refine pg_iload dX11_many_123 5 rfl ?_
        refine pg_idiv dX11_many_125 ?_
        exact pg_iret dX11_many_126 rfl rfl
      · refine pg_iconst dX11_many_115 ci_m1 ?_
        refine pg_goto (tgt := 126) dX11_many_116 rfl ?_
        exact pg_iret dX11_many_126 rfl rfl
    · refine pg_aload_n (i := 0) dX11_many_51 rfl 0 rfl ?_
      refine pg_getR dX11_many_52 fl_RX11_10 rfl (fun v4 => ?_)
      refine pg_getR dX11_many_55 fl_RX11_91 rfl (fun v5 => ?_)
      refine pg_iload dX11_many_58 6 rfl ?_
      refine pg_iconst dX11_many_60 ci_1 ?_
      refine pg_callV_oI (As := [pI a6, pI (1 : Int32)]) (rs := []) dX11_many_61 lk_RX11_156 vy_X7_at nd_X7_at (c_X7_at l D h v5 a6 (1 : Int32)) rfl rfl (Nat.le_of_ble_eq_true rfl) (by decide) (by decide) (fun v6 => ?_)
      refine pg_istore (lv' := [(7, pI v6), (0, pR a0), (1, pI a1), (2, pI a2), (3, pI a3), (4, pI a4), (5, pI a5), (6, pI a6)]) dX11_many_64 (by decide) rfl ?_
      refine pg_iload dX11_many_66 0 rfl ?_
      refine pg_iload_n (i := 1) dX11_many_68 rfl 2 rfl ?_
      refine pg_ishr dX11_many_69 ?_
      refine pg_iconst dX11_many_70 ci_1 ?_
      refine pg_iand dX11_many_71 ?_
      refine pg_letI (fun v7 => ?_)
      refine pg_istore (lv' := [(8, pI v7), (7, pI v6), (0, pR a0), (1, pI a1), (2, pI a2), (3, pI a3), (4, pI a4), (5, pI a5), (6, pI a6)]) dX11_many_72 (by decide) rfl ?_
      refine pg_iload dX11_many_74 1 rfl ?_
      refine pg_iload_n (i := 2) dX11_many_76 rfl 4 rfl ?_
      refine pg_ishr dX11_many_77 ?_
      refine pg_iconst dX11_many_78 ci_1 ?_
      refine pg_iand dX11_many_79 ?_
      refine pg_letI (fun v8 => ?_)
      refine pg_istore (lv' := [(9, pI v8), (8, pI v7), (7, pI v6), (0, pR a0), (1, pI a1), (2, pI a2), (3, pI a3), (4, pI a4), (5, pI a5), (6, pI a6)]) dX11_many_80 (by decide) rfl ?_
      refine pg_iload_n (i := 3) dX11_many_82 rfl 6 rfl ?_
      refine pg_iload dX11_many_83 1 rfl ?_
      refine pg_iadd dX11_many_85 ?_
      refine pg_letI (fun v9 => ?_)
      refine pg_istore_n (i := 3) (lv' := [(3, pI v9), (9, pI v8), (8, pI v7), (7, pI v6), (0, pR a0), (1, pI a1), (2, pI a2), (4, pI a4), (5, pI a5), (6, pI a6)]) dX11_many_86 rfl (by decide) rfl ?_
      refine pg_iload dX11_many_87 7 rfl ?_
      refine pg_iload dX11_many_89 1 rfl ?_
      refine pg_iadd dX11_many_91 ?_
      refine pg_letI (fun v10 => ?_)
      refine pg_istore (lv' := [(4, pI v10), (3, pI v9), (9, pI v8), (8, pI v7), (7, pI v6), (0, pR a0), (1, pI a1), (2, pI a2), (5, pI a5), (6, pI a6)]) dX11_many_92 (by decide) rfl ?_
      refine pg_iload dX11_many_94 8 rfl ?_
      refine pg_iload dX11_many_96 3 rfl ?_
      refine pg_iload dX11_many_98 2 rfl ?_
      refine pg_iand dX11_many_100 ?_
      refine pg_iadd dX11_many_101 ?_
      refine pg_letI (fun v11 => ?_)
      refine pg_istore (lv' := [(5, pI v11), (4, pI v10), (3, pI v9), (9, pI v8), (8, pI v7), (7, pI v6), (0, pR a0), (1, pI a1), (2, pI a2), (6, pI a6)]) dX11_many_102 (by decide) rfl ?_
      refine pg_iinc (lv' := [(6, pI (a6 + (1 : Int32))), (5, pI v11), (4, pI v10), (3, pI v9), (9, pI v8), (8, pI v7), (7, pI v6), (0, pR a0), (1, pI a1), (2, pI a2)]) dX11_many_104 9 rfl ci_1 (by decide) rfl ?_
      refine pg_goto (tgt := 36) dX11_many_107 rfl ?_
      exact pg_to (ih a0 a1 a2 v9 v10 v11 (a6 + (1 : Int32))) [7, 8, 9, 3, 2, 1, 0] rfl
theorem e_X11_many (l : Launch) (D : pg_D)  (h : pg_H) (a0 : Nat) (a1 : Int32) (a2 : Int32) : pg_EvF l D RX11 cX11_many 10 (some FieldType.int) "many" 1 22 (pg_oI h) (F_X11_many h a0 a1 a2) 0 [(0, pR a0), (1, pI a1), (2, pI a2)] [] h := by
  unfold F_X11_many
  refine pg_iload_n (i := 1) dX11_many_0 rfl 1 rfl ?_
  refine pg_iconst dX11_many_1 ci_0 ?_
  refine pg_iconst dX11_many_2 ci_5 ?_
  refine pg_callS_oI (As := [pI a1, pI (0 : Int32), pI (5 : Int32)]) (rs := []) dX11_many_3 lk_RX11_83 vy_X11_within nd_X11_within (c_X11_within l D a1 (0 : Int32) (5 : Int32) h) rfl rfl (Nat.le_of_ble_eq_true rfl) (by decide) (by decide) (fun v1 => ?_)
  refine pg_if_eq (tgt := 23) dX11_many_6 rfl ?_ ?_
  · refine pg_iconst dX11_many_23 ci_m1 ?_
    exact pg_iret dX11_many_24 rfl rfl
  · refine pg_iload_n (i := 2) dX11_many_9 rfl 2 rfl ?_
    refine pg_iconst dX11_many_10 ci_0 ?_
    refine pg_iconst dX11_many_11 ci_5 ?_
    refine pg_callS_oI (As := [pI a2, pI (0 : Int32), pI (5 : Int32)]) (rs := []) dX11_many_12 lk_RX11_83 vy_X11_within nd_X11_within (c_X11_within l D a2 (0 : Int32) (5 : Int32) h) rfl rfl (Nat.le_of_ble_eq_true rfl) (by decide) (by decide) (fun v2 => ?_)
    refine pg_if_eq (tgt := 23) dX11_many_15 rfl ?_ ?_
    · refine pg_iconst dX11_many_23 ci_m1 ?_
      exact pg_iret dX11_many_24 rfl rfl
    · refine pg_iload_n (i := 1) dX11_many_18 rfl 1 rfl ?_
      refine pg_iload_n (i := 2) dX11_many_19 rfl 2 rfl ?_
      refine pg_icmp_ne (tgt := 25) dX11_many_20 rfl ?_ ?_
      · refine pg_iconst dX11_many_25 ci_0 ?_
        refine pg_istore_n (i := 3) (lv' := [(3, pI (0 : Int32)), (0, pR a0), (1, pI a1), (2, pI a2)]) dX11_many_26 rfl (by decide) rfl ?_
        refine pg_iconst dX11_many_27 ci_0 ?_
        refine pg_istore (lv' := [(4, pI (0 : Int32)), (3, pI (0 : Int32)), (0, pR a0), (1, pI a1), (2, pI a2)]) dX11_many_28 (by decide) rfl ?_
        refine pg_iconst dX11_many_30 ci_0 ?_
        refine pg_istore (lv' := [(5, pI (0 : Int32)), (4, pI (0 : Int32)), (3, pI (0 : Int32)), (0, pR a0), (1, pI a1), (2, pI a2)]) dX11_many_31 (by decide) rfl ?_
        refine pg_iconst dX11_many_33 ci_0 ?_
        refine pg_istore (lv' := [(6, pI (0 : Int32)), (5, pI (0 : Int32)), (4, pI (0 : Int32)), (3, pI (0 : Int32)), (0, pR a0), (1, pI a1), (2, pI a2)]) dX11_many_34 (by decide) rfl ?_
        exact pg_to (e_X11_many_36 l D h pg_fuel a0 a1 a2 (0 : Int32) (0 : Int32) (0 : Int32) (0 : Int32)) [4, 5, 6, 3, 2, 1, 0] rfl
      · refine pg_iconst dX11_many_23 ci_m1 ?_
        exact pg_iret dX11_many_24 rfl rfl
theorem c_X11_many (l : Launch) (D : pg_D) (h : pg_H) (a0 : Nat) (a1 : Int32) (a2 : Int32)  : ∀ x, F_X11_many h a0 a1 a2 = some x → pg_Ct l D yX11_many cX11_many 10 (some FieldType.int) 1 22 [pR a0, pI a1, pI a2] h (pg_oI h x) :=
  pg_Ct.of pn_RX11 (Nat.le_of_ble_eq_true rfl) (e_X11_many l D h a0 a1 a2)
def F_X11_chao_81 (h : pg_H) (k9 : Nat → Int32 → Int32 → Int32 → Int32 → Option Int32) (a0 : Nat) (a1 : Int32) (a2 : Int32) (a4 : Int32) (s0 : Int32) (s1 : Int32) : Option Int32 := pg_let (s1 + s0) fun v1 => (k9 a0 a1 a2 v1 (a4 + (1 : Int32)))
def F_X11_chao_67 (h : pg_H) (k9 : Nat → Int32 → Int32 → Int32 → Int32 → Option Int32) (a0 : Nat) (a1 : Int32) (a3 : Int32) (a4 : Int32) (a5 : Int32) (s0 : Int32) (s1 : Int32) : Option Int32 := pg_let (s1 + s0) fun v1 => (if a5 = (2 : Int32) then (F_X11_chao_81 h k9 a0 a1 v1 a4 (1 : Int32) a3) else (F_X11_chao_81 h k9 a0 a1 v1 a4 (0 : Int32) a3))
def F_X11_chao_53 (h : pg_H) (k9 : Nat → Int32 → Int32 → Int32 → Int32 → Option Int32) (a0 : Nat) (a2 : Int32) (a3 : Int32) (a4 : Int32) (a5 : Int32) (s0 : Int32) (s1 : Int32) : Option Int32 := pg_let (s1 + s0) fun v1 => (if a5 = (1 : Int32) then (F_X11_chao_67 h k9 a0 v1 a3 a4 a5 (1 : Int32) a2) else (F_X11_chao_67 h k9 a0 v1 a3 a4 a5 (0 : Int32) a2))
def F_X11_chao_9 (h : pg_H) : Nat → Nat → Int32 → Int32 → Int32 → Int32 → Option Int32
  | 0 => fun _ _ _ _ _ => none
  | n + 1 => fun a0 a1 a2 a3 a4 => Option.bind (pg_gR 11 0 h a0) fun v1 => Option.bind (pg_gR 5 0 h v1) fun v2 => Option.bind (pg_rcv 7 h v2 (F_X7_size h v2)) fun v3 => (if a4 < v3 then Option.bind (pg_gR 11 0 h a0) fun v4 => Option.bind (pg_gR 5 0 h v4) fun v5 => Option.bind (pg_rcv 7 h v5 (F_X7_at h v5 a4 (1 : Int32))) fun v6 => Option.bind (F_J6_bitCount_0f7a4 v6) fun v7 => (if 0 < v7 then (F_X11_chao_53 h (F_X11_chao_9 h n) a0 a2 a3 a4 v7 (1 : Int32) a1) else (F_X11_chao_53 h (F_X11_chao_9 h n) a0 a2 a3 a4 v7 (0 : Int32) a1)) else (if 0 < a3 then (if ((2 : Int32) * a3) = 0 then none else (some (a1 + ((a2 * a2) / ((2 : Int32) * a3))))) else (if (2 : Int32) = 0 then none else (some (a1 + ((a2 * (a2 - (1 : Int32))) / (2 : Int32)))))))
def F_X11_chao (h : pg_H) (a0 : Nat) : Option Int32 := (F_X11_chao_9 h pg_fuel a0 (0 : Int32) (0 : Int32) (0 : Int32) (0 : Int32))
theorem e_X11_chao_81 (l : Launch) (D : pg_D)  (h : pg_H) (k9 : Nat → Int32 → Int32 → Int32 → Int32 → Option Int32) (hk9 : ∀ (a0 : Nat) (a1 : Int32) (a2 : Int32) (a3 : Int32) (a4 : Int32), pg_EvF l D RX11 cX11_chao 6 (some FieldType.int) "chao" 1 22 (pg_oI h) (k9 a0 a1 a2 a3 a4) 9 [(0, pR a0), (1, pI a1), (2, pI a2), (3, pI a3), (4, pI a4)] [] h) (a0 : Nat) (a1 : Int32) (a2 : Int32) (a4 : Int32) (s0 : Int32) (s1 : Int32) : pg_EvF l D RX11 cX11_chao 6 (some FieldType.int) "chao" 1 22 (pg_oI h) (F_X11_chao_81 h k9 a0 a1 a2 a4 s0 s1) 81 [(0, pR a0), (1, pI a1), (2, pI a2), (4, pI a4)] [pI s0, pI s1] h := by
  unfold F_X11_chao_81
  refine pg_iadd dX11_chao_81 ?_
  refine pg_letI (fun v1 => ?_)
  refine pg_istore_n (i := 3) (lv' := [(3, pI v1), (0, pR a0), (1, pI a1), (2, pI a2), (4, pI a4)]) dX11_chao_82 rfl (by decide) rfl ?_
  refine pg_iinc (lv' := [(4, pI (a4 + (1 : Int32))), (3, pI v1), (0, pR a0), (1, pI a1), (2, pI a2)]) dX11_chao_83 4 rfl ci_1 (by decide) rfl ?_
  refine pg_goto (tgt := 9) dX11_chao_86 rfl ?_
  exact pg_to (hk9 a0 a1 a2 v1 (a4 + (1 : Int32))) [2, 3, 4, 1, 0] rfl
theorem e_X11_chao_67 (l : Launch) (D : pg_D)  (h : pg_H) (k9 : Nat → Int32 → Int32 → Int32 → Int32 → Option Int32) (hk9 : ∀ (a0 : Nat) (a1 : Int32) (a2 : Int32) (a3 : Int32) (a4 : Int32), pg_EvF l D RX11 cX11_chao 6 (some FieldType.int) "chao" 1 22 (pg_oI h) (k9 a0 a1 a2 a3 a4) 9 [(0, pR a0), (1, pI a1), (2, pI a2), (3, pI a3), (4, pI a4)] [] h) (a0 : Nat) (a1 : Int32) (a3 : Int32) (a4 : Int32) (a5 : Int32) (s0 : Int32) (s1 : Int32) : pg_EvF l D RX11 cX11_chao 6 (some FieldType.int) "chao" 1 22 (pg_oI h) (F_X11_chao_67 h k9 a0 a1 a3 a4 a5 s0 s1) 67 [(0, pR a0), (1, pI a1), (3, pI a3), (4, pI a4), (5, pI a5)] [pI s0, pI s1] h := by
  unfold F_X11_chao_67
  refine pg_iadd dX11_chao_67 ?_
  refine pg_letI (fun v1 => ?_)
  refine pg_istore_n (i := 2) (lv' := [(2, pI v1), (0, pR a0), (1, pI a1), (3, pI a3), (4, pI a4), (5, pI a5)]) dX11_chao_68 rfl (by decide) rfl ?_
  refine pg_iload_n (i := 3) dX11_chao_69 rfl 3 rfl ?_
  refine pg_iload dX11_chao_70 5 rfl ?_
  refine pg_iconst dX11_chao_72 ci_2 ?_
  refine pg_icmp_ne (tgt := 80) dX11_chao_73 rfl ?_ ?_
  · refine pg_iconst dX11_chao_80 ci_0 ?_
    exact pg_to (e_X11_chao_81 l D h k9 hk9 a0 a1 v1 a4 (0 : Int32) a3) [1, 2, 0, 4] rfl
  · refine pg_iconst dX11_chao_76 ci_1 ?_
    refine pg_goto (tgt := 81) dX11_chao_77 rfl ?_
    exact pg_to (e_X11_chao_81 l D h k9 hk9 a0 a1 v1 a4 (1 : Int32) a3) [1, 2, 0, 4] rfl
theorem e_X11_chao_53 (l : Launch) (D : pg_D)  (h : pg_H) (k9 : Nat → Int32 → Int32 → Int32 → Int32 → Option Int32) (hk9 : ∀ (a0 : Nat) (a1 : Int32) (a2 : Int32) (a3 : Int32) (a4 : Int32), pg_EvF l D RX11 cX11_chao 6 (some FieldType.int) "chao" 1 22 (pg_oI h) (k9 a0 a1 a2 a3 a4) 9 [(0, pR a0), (1, pI a1), (2, pI a2), (3, pI a3), (4, pI a4)] [] h) (a0 : Nat) (a2 : Int32) (a3 : Int32) (a4 : Int32) (a5 : Int32) (s0 : Int32) (s1 : Int32) : pg_EvF l D RX11 cX11_chao 6 (some FieldType.int) "chao" 1 22 (pg_oI h) (F_X11_chao_53 h k9 a0 a2 a3 a4 a5 s0 s1) 53 [(0, pR a0), (2, pI a2), (3, pI a3), (4, pI a4), (5, pI a5)] [pI s0, pI s1] h := by
  unfold F_X11_chao_53
  refine pg_iadd dX11_chao_53 ?_
  refine pg_letI (fun v1 => ?_)
  refine pg_istore_n (i := 1) (lv' := [(1, pI v1), (0, pR a0), (2, pI a2), (3, pI a3), (4, pI a4), (5, pI a5)]) dX11_chao_54 rfl (by decide) rfl ?_
  refine pg_iload_n (i := 2) dX11_chao_55 rfl 2 rfl ?_
  refine pg_iload dX11_chao_56 5 rfl ?_
  refine pg_iconst dX11_chao_58 ci_1 ?_
  refine pg_icmp_ne (tgt := 66) dX11_chao_59 rfl ?_ ?_
  · refine pg_iconst dX11_chao_66 ci_0 ?_
    exact pg_to (e_X11_chao_67 l D h k9 hk9 a0 v1 a3 a4 a5 (0 : Int32) a2) [1, 0, 3, 4, 5] rfl
  · refine pg_iconst dX11_chao_62 ci_1 ?_
    refine pg_goto (tgt := 67) dX11_chao_63 rfl ?_
    exact pg_to (e_X11_chao_67 l D h k9 hk9 a0 v1 a3 a4 a5 (1 : Int32) a2) [1, 0, 3, 4, 5] rfl
theorem e_X11_chao_9 (l : Launch) (D : pg_D)  (h : pg_H) : ∀ (n : Nat) (a0 : Nat) (a1 : Int32) (a2 : Int32) (a3 : Int32) (a4 : Int32), pg_EvF l D RX11 cX11_chao 6 (some FieldType.int) "chao" 1 22 (pg_oI h) (F_X11_chao_9 h n a0 a1 a2 a3 a4) 9 [(0, pR a0), (1, pI a1), (2, pI a2), (3, pI a3), (4, pI a4)] [] h := by
  intro n
  induction n with
  | zero => intro a0 a1 a2 a3 a4; exact pg_none
  | succ n ih =>
    intro a0 a1 a2 a3 a4
    rw [F_X11_chao_9]
    refine pg_iload dX11_chao_9 4 rfl ?_
    refine pg_aload_n (i := 0) dX11_chao_11 rfl 0 rfl ?_
    refine pg_getR dX11_chao_12 fl_RX11_10 rfl (fun v1 => ?_)
    refine pg_getR dX11_chao_15 fl_RX11_91 rfl (fun v2 => ?_)
    refine pg_callV_oI (As := []) (rs := [pI a4]) dX11_chao_18 lk_RX11_122 vy_X7_size nd_X7_size (c_X7_size l D h v2) rfl rfl (Nat.le_of_ble_eq_true rfl) (by decide) (by decide) (fun v3 => ?_)
    refine pg_icmp_ge (tgt := 89) dX11_chao_21 rfl ?_ ?_
    · refine pg_iload_n (i := 3) dX11_chao_89 rfl 3 rfl ?_
      refine pg_if_le (tgt := 105) dX11_chao_90 rfl ?_ ?_
      · refine pg_iload_n (i := 1) dX11_chao_105 rfl 1 rfl ?_
        refine pg_iload_n (i := 2) dX11_chao_106 rfl 2 rfl ?_
        refine pg_iload_n (i := 2) dX11_chao_107 rfl 2 rfl ?_
        refine pg_iconst dX11_chao_108 ci_1 ?_
        refine pg_isub dX11_chao_109 ?_
        refine pg_imul dX11_chao_110 ?_
        refine pg_iconst dX11_chao_111 ci_2 ?_
        refine pg_idiv dX11_chao_112 ?_
        refine pg_iadd dX11_chao_113 ?_
        exact pg_iret dX11_chao_114 rfl rfl
      · refine pg_iload_n (i := 1) dX11_chao_93 rfl 1 rfl ?_
        refine pg_iload_n (i := 2) dX11_chao_94 rfl 2 rfl ?_
        refine pg_iload_n (i := 2) dX11_chao_95 rfl 2 rfl ?_
        refine pg_imul dX11_chao_96 ?_
        refine pg_iconst dX11_chao_97 ci_2 ?_
        refine pg_iload_n (i := 3) dX11_chao_98 rfl 3 rfl ?_
        refine pg_imul dX11_chao_99 ?_
        refine pg_idiv dX11_chao_100 ?_
        refine pg_iadd dX11_chao_101 ?_
        refine pg_goto (tgt := 114) dX11_chao_102 rfl ?_
        exact pg_iret dX11_chao_114 rfl rfl
    · refine pg_aload_n (i := 0) dX11_chao_24 rfl 0 rfl ?_
      refine pg_getR dX11_chao_25 fl_RX11_10 rfl (fun v4 => ?_)
      refine pg_getR dX11_chao_28 fl_RX11_91 rfl (fun v5 => ?_)
      refine pg_iload dX11_chao_31 4 rfl ?_
      refine pg_iconst dX11_chao_33 ci_1 ?_
      refine pg_callV_oI (As := [pI a4, pI (1 : Int32)]) (rs := []) dX11_chao_34 lk_RX11_156 vy_X7_at nd_X7_at (c_X7_at l D h v5 a4 (1 : Int32)) rfl rfl (Nat.le_of_ble_eq_true rfl) (by decide) (by decide) (fun v6 => ?_)
      refine pg_callS_oI (As := [pI v6]) (rs := []) dX11_chao_37 lk_RX11_210 vy_J6_bitCount_0f7a4 nd_J6_bitCount_0f7a4 (c_J6_bitCount_0f7a4 l D v6 h) rfl rfl (Nat.le_of_ble_eq_true rfl) (by decide) (by decide) (fun v7 => ?_)
      refine pg_istore (lv' := [(5, pI v7), (0, pR a0), (1, pI a1), (2, pI a2), (3, pI a3), (4, pI a4)]) dX11_chao_40 (by decide) rfl ?_
      refine pg_iload_n (i := 1) dX11_chao_42 rfl 2 rfl ?_
      refine pg_iload dX11_chao_43 0 rfl ?_
      refine pg_if_le (tgt := 52) dX11_chao_45 rfl ?_ ?_
      · refine pg_iconst dX11_chao_52 ci_0 ?_
        exact pg_to (e_X11_chao_53 l D h (F_X11_chao_9 h n) ih a0 a2 a3 a4 v7 (0 : Int32) a1) [1, 3, 4, 5, 0] rfl
      · refine pg_iconst dX11_chao_48 ci_1 ?_
        refine pg_goto (tgt := 53) dX11_chao_49 rfl ?_
        exact pg_to (e_X11_chao_53 l D h (F_X11_chao_9 h n) ih a0 a2 a3 a4 v7 (1 : Int32) a1) [1, 3, 4, 5, 0] rfl
theorem e_X11_chao (l : Launch) (D : pg_D)  (h : pg_H) (a0 : Nat) : pg_EvF l D RX11 cX11_chao 6 (some FieldType.int) "chao" 1 22 (pg_oI h) (F_X11_chao h a0) 0 [(0, pR a0)] [] h := by
  unfold F_X11_chao
  refine pg_iconst dX11_chao_0 ci_0 ?_
  refine pg_istore_n (i := 1) (lv' := [(1, pI (0 : Int32)), (0, pR a0)]) dX11_chao_1 rfl (by decide) rfl ?_
  refine pg_iconst dX11_chao_2 ci_0 ?_
  refine pg_istore_n (i := 2) (lv' := [(2, pI (0 : Int32)), (1, pI (0 : Int32)), (0, pR a0)]) dX11_chao_3 rfl (by decide) rfl ?_
  refine pg_iconst dX11_chao_4 ci_0 ?_
  refine pg_istore_n (i := 3) (lv' := [(3, pI (0 : Int32)), (2, pI (0 : Int32)), (1, pI (0 : Int32)), (0, pR a0)]) dX11_chao_5 rfl (by decide) rfl ?_
  refine pg_iconst dX11_chao_6 ci_0 ?_
  refine pg_istore (lv' := [(4, pI (0 : Int32)), (3, pI (0 : Int32)), (2, pI (0 : Int32)), (1, pI (0 : Int32)), (0, pR a0)]) dX11_chao_7 (by decide) rfl ?_
  exact pg_to (e_X11_chao_9 l D h pg_fuel a0 (0 : Int32) (0 : Int32) (0 : Int32) (0 : Int32)) [4, 3, 2, 1, 0] rfl
theorem c_X11_chao (l : Launch) (D : pg_D) (h : pg_H) (a0 : Nat)  : ∀ x, F_X11_chao h a0 = some x → pg_Ct l D yX11_chao cX11_chao 6 (some FieldType.int) 1 22 [pR a0] h (pg_oI h x) :=
  pg_Ct.of pn_RX11 (Nat.le_of_ble_eq_true rfl) (e_X11_chao l D h a0)
def F_X11_placesStruck_43 (k5 : Nat → Nat → Int64 → Int32 → pg_H → Option (Int64 × pg_H)) (a0 : Nat) (a1 : Nat) (a4 : Int32) (s0 : Int64) (s1 : Int64) (h : pg_H) : Option (Int64 × pg_H) := pg_let (s1 ||| s0) fun v1 => (k5 a0 a1 v1 (a4 + (1 : Int32)) h)
def F_X11_placesStruck_5  : Nat → Nat → Nat → Int64 → Int32 → pg_H → Option (Int64 × pg_H)
  | 0 => fun _ _ _ _ _ => none
  | n + 1 => fun a0 a1 a2 a4 h => (if a4 < (60 : Int32) then Option.bind (pg_gR 11 5 h a0) fun v1 => Option.bind (pg_rcv 0 h v1 (F_X0_askOfPlace v1 a4 h)) fun v2 => Option.bind (pg_gR 11 5 v2 a0) fun v3 => Option.bind (pg_rcv 0 v2 v3 (F_X0_holdsIn v3 a1 (6 : Int32) v2)) fun v4 => (if v4.1 = 0 then (F_X11_placesStruck_43 (F_X11_placesStruck_5 n) a0 a1 a4 (0 : Int64) a2 v4.2) else (F_X11_placesStruck_43 (F_X11_placesStruck_5 n) a0 a1 a4 ((1 : Int64) <<< ((a4).toInt64 &&& 63)) a2 v4.2)) else (some (a2, h)))
def F_X11_placesStruck (a0 : Nat) (a1 : Nat) (h : pg_H) : Option (Int64 × pg_H) := (F_X11_placesStruck_5 pg_fuel a0 a1 (0 : Int64) (0 : Int32) h)
theorem e_X11_placesStruck_43 (l : Launch) (D : pg_D)  (k5 : Nat → Nat → Int64 → Int32 → pg_H → Option (Int64 × pg_H)) (hk5 : ∀ (a0 : Nat) (a1 : Nat) (a2 : Int64) (a4 : Int32) (h : pg_H), pg_EvF l D RX11 cX11_placesStruck 5 (some FieldType.long) "placesStruck" 4 108 pg_wL (k5 a0 a1 a2 a4 h) 5 [(0, pR a0), (1, pR a1), (2, pL a2), (4, pI a4)] [] h) (a0 : Nat) (a1 : Nat) (a4 : Int32) (s0 : Int64) (s1 : Int64) (h : pg_H) : pg_EvF l D RX11 cX11_placesStruck 5 (some FieldType.long) "placesStruck" 4 108 pg_wL (F_X11_placesStruck_43 k5 a0 a1 a4 s0 s1 h) 43 [(0, pR a0), (1, pR a1), (4, pI a4)] [pL s0, pL s1] h := by
  unfold F_X11_placesStruck_43
  refine pg_lor dX11_placesStruck_43 ?_
  refine pg_letL (fun v1 => ?_)
  refine pg_lstore_n (i := 2) (lv' := [(2, pL v1), (0, pR a0), (1, pR a1), (4, pI a4)]) dX11_placesStruck_44 rfl (by decide) rfl ?_
  refine pg_iinc (lv' := [(4, pI (a4 + (1 : Int32))), (2, pL v1), (0, pR a0), (1, pR a1)]) dX11_placesStruck_45 3 rfl ci_1 (by decide) rfl ?_
  refine pg_goto (tgt := 5) dX11_placesStruck_48 rfl ?_
  exact pg_to (hk5 a0 a1 v1 (a4 + (1 : Int32)) h) [2, 3, 1, 0] rfl
theorem e_X11_placesStruck_5 (l : Launch) (D : pg_D)   : ∀ (n : Nat) (a0 : Nat) (a1 : Nat) (a2 : Int64) (a4 : Int32) (h : pg_H), pg_EvF l D RX11 cX11_placesStruck 5 (some FieldType.long) "placesStruck" 4 108 pg_wL (F_X11_placesStruck_5 n a0 a1 a2 a4 h) 5 [(0, pR a0), (1, pR a1), (2, pL a2), (4, pI a4)] [] h := by
  intro n
  induction n with
  | zero => intro a0 a1 a2 a4 h; exact pg_none
  | succ n ih =>
    intro a0 a1 a2 a4 h
    rw [F_X11_placesStruck_5]
    refine pg_iload dX11_placesStruck_5 3 rfl ?_
    refine pg_bipush dX11_placesStruck_7 cb_60 ?_
    refine pg_icmp_ge (tgt := 51) dX11_placesStruck_9 rfl ?_ ?_
    · refine pg_lload_n (i := 2) dX11_placesStruck_51 rfl 2 rfl ?_
      exact pg_lret dX11_placesStruck_52 rfl rfl
    · refine pg_aload_n (i := 0) dX11_placesStruck_12 rfl 0 rfl ?_
      refine pg_getR dX11_placesStruck_13 fl_RX11_43 rfl (fun v1 => ?_)
      refine pg_iload dX11_placesStruck_16 3 rfl ?_
      refine pg_callV_wV (As := [pI a4]) (rs := []) dX11_placesStruck_18 lk_RX11_388 vy_X0_askOfPlace nd_X0_askOfPlace (c_X0_askOfPlace l D v1 a4 h) rfl rfl (Nat.le_of_ble_eq_true rfl) (by decide) (by decide) (fun v2 => ?_)
      refine pg_lload_n (i := 2) dX11_placesStruck_21 rfl 2 rfl ?_
      refine pg_aload_n (i := 0) dX11_placesStruck_22 rfl 0 rfl ?_
      refine pg_getR dX11_placesStruck_23 fl_RX11_43 rfl (fun v3 => ?_)
      refine pg_aload_n (i := 1) dX11_placesStruck_26 rfl 1 rfl ?_
      refine pg_bipush dX11_placesStruck_27 cb_6 ?_
      refine pg_callV_wI (As := [pR a1, pI (6 : Int32)]) (rs := [pL a2]) dX11_placesStruck_29 lk_RX11_328 vy_X0_holdsIn nd_X0_holdsIn (c_X0_holdsIn l D v3 a1 (6 : Int32) v2) rfl rfl (Nat.le_of_ble_eq_true rfl) (by decide) (by decide) (fun v4 => ?_)
      refine pg_if_eq (tgt := 42) dX11_placesStruck_32 rfl ?_ ?_
      · refine pg_lconst dX11_placesStruck_42 cl_0 ?_
        exact pg_to (e_X11_placesStruck_43 l D (F_X11_placesStruck_5 n) ih a0 a1 a4 (0 : Int64) a2 v4.2) [0, 1, 3] rfl
      · refine pg_lconst dX11_placesStruck_35 cl_1 ?_
        refine pg_iload dX11_placesStruck_36 3 rfl ?_
        refine pg_lshl dX11_placesStruck_38 ?_
        refine pg_goto (tgt := 43) dX11_placesStruck_39 rfl ?_
        exact pg_to (e_X11_placesStruck_43 l D (F_X11_placesStruck_5 n) ih a0 a1 a4 ((1 : Int64) <<< ((a4).toInt64 &&& 63)) a2 v4.2) [0, 1, 3] rfl
theorem e_X11_placesStruck (l : Launch) (D : pg_D)  (a0 : Nat) (a1 : Nat) (h : pg_H) : pg_EvF l D RX11 cX11_placesStruck 5 (some FieldType.long) "placesStruck" 4 108 pg_wL (F_X11_placesStruck a0 a1 h) 0 [(0, pR a0), (1, pR a1)] [] h := by
  unfold F_X11_placesStruck
  refine pg_lconst dX11_placesStruck_0 cl_0 ?_
  refine pg_lstore_n (i := 2) (lv' := [(2, pL (0 : Int64)), (0, pR a0), (1, pR a1)]) dX11_placesStruck_1 rfl (by decide) rfl ?_
  refine pg_iconst dX11_placesStruck_2 ci_0 ?_
  refine pg_istore (lv' := [(4, pI (0 : Int32)), (2, pL (0 : Int64)), (0, pR a0), (1, pR a1)]) dX11_placesStruck_3 (by decide) rfl ?_
  exact pg_to (e_X11_placesStruck_5 l D pg_fuel a0 a1 (0 : Int64) (0 : Int32) h) [2, 3, 1, 0] rfl
theorem c_X11_placesStruck (l : Launch) (D : pg_D) (a0 : Nat) (a1 : Nat) (h : pg_H) : ∀ x, F_X11_placesStruck a0 a1 h = some x → pg_Ct l D yX11_placesStruck cX11_placesStruck 5 (some FieldType.long) 4 108 [pR a0, pR a1] h (pg_wL x) :=
  pg_Ct.of pn_RX11 (Nat.le_of_ble_eq_true rfl) (e_X11_placesStruck l D a0 a1 h)
def F_J13_bitCount_95d88 (a0 : Int64) : Option Int32 := pg_let (a0 - ((((a0).toUInt64 >>> (((1 : Int32)).toInt64.toUInt64 &&& Int64.toUInt64 63)).toInt64) &&& (6148914691236517205 : Int64))) fun v1 => pg_let ((v1 &&& (3689348814741910323 : Int64)) + ((((v1).toUInt64 >>> (((2 : Int32)).toInt64.toUInt64 &&& Int64.toUInt64 63)).toInt64) &&& (3689348814741910323 : Int64))) fun v2 => pg_let ((v2 + (((v2).toUInt64 >>> (((4 : Int32)).toInt64.toUInt64 &&& Int64.toUInt64 63)).toInt64)) &&& (1085102592571150095 : Int64)) fun v3 => pg_let (v3 + (((v3).toUInt64 >>> (((8 : Int32)).toInt64.toUInt64 &&& Int64.toUInt64 63)).toInt64)) fun v4 => pg_let (v4 + (((v4).toUInt64 >>> (((16 : Int32)).toInt64.toUInt64 &&& Int64.toUInt64 63)).toInt64)) fun v5 => pg_let (v5 + (((v5).toUInt64 >>> (((32 : Int32)).toInt64.toUInt64 &&& Int64.toUInt64 63)).toInt64)) fun v6 => (some ((v6).toInt32 &&& (127 : Int32)))
theorem e_J13_bitCount_95d88 (l : Launch) (D : pg_D)  (a0 : Int64) (h : pg_H) : pg_EvF l D RJ13 cJ13_bitCount_95d88 2 (some FieldType.int) "bitCount" 0 0 (pg_oI h) (F_J13_bitCount_95d88 a0) 0 [(0, pL a0)] [] h := by
  unfold F_J13_bitCount_95d88
  refine pg_lload_n (i := 0) dJ13_bitCount_95d88_0 rfl 0 rfl ?_
  refine pg_lload_n (i := 0) dJ13_bitCount_95d88_1 rfl 0 rfl ?_
  refine pg_iconst dJ13_bitCount_95d88_2 ci_1 ?_
  refine pg_lushr dJ13_bitCount_95d88_3 ?_
  refine pg_ldc2 (v := (6148914691236517205 : Int64)) dJ13_bitCount_95d88_4 kc_RJ13_314 ?_
  refine pg_land dJ13_bitCount_95d88_7 ?_
  refine pg_lsub dJ13_bitCount_95d88_8 ?_
  refine pg_letL (fun v1 => ?_)
  refine pg_lstore_n (i := 0) (lv' := [(0, pL v1)]) dJ13_bitCount_95d88_9 rfl (by decide) rfl ?_
  refine pg_lload_n (i := 0) dJ13_bitCount_95d88_10 rfl 0 rfl ?_
  refine pg_ldc2 (v := (3689348814741910323 : Int64)) dJ13_bitCount_95d88_11 kc_RJ13_316 ?_
  refine pg_land dJ13_bitCount_95d88_14 ?_
  refine pg_lload_n (i := 0) dJ13_bitCount_95d88_15 rfl 0 rfl ?_
  refine pg_iconst dJ13_bitCount_95d88_16 ci_2 ?_
  refine pg_lushr dJ13_bitCount_95d88_17 ?_
  refine pg_ldc2 (v := (3689348814741910323 : Int64)) dJ13_bitCount_95d88_18 kc_RJ13_316 ?_
  refine pg_land dJ13_bitCount_95d88_21 ?_
  refine pg_ladd dJ13_bitCount_95d88_22 ?_
  refine pg_letL (fun v2 => ?_)
  refine pg_lstore_n (i := 0) (lv' := [(0, pL v2)]) dJ13_bitCount_95d88_23 rfl (by decide) rfl ?_
  refine pg_lload_n (i := 0) dJ13_bitCount_95d88_24 rfl 0 rfl ?_
  refine pg_lload_n (i := 0) dJ13_bitCount_95d88_25 rfl 0 rfl ?_
  refine pg_iconst dJ13_bitCount_95d88_26 ci_4 ?_
  refine pg_lushr dJ13_bitCount_95d88_27 ?_
  refine pg_ladd dJ13_bitCount_95d88_28 ?_
  refine pg_ldc2 (v := (1085102592571150095 : Int64)) dJ13_bitCount_95d88_29 kc_RJ13_318 ?_
  refine pg_land dJ13_bitCount_95d88_32 ?_
  refine pg_letL (fun v3 => ?_)
  refine pg_lstore_n (i := 0) (lv' := [(0, pL v3)]) dJ13_bitCount_95d88_33 rfl (by decide) rfl ?_
  refine pg_lload_n (i := 0) dJ13_bitCount_95d88_34 rfl 0 rfl ?_
  refine pg_lload_n (i := 0) dJ13_bitCount_95d88_35 rfl 0 rfl ?_
  refine pg_bipush dJ13_bitCount_95d88_36 cb_8 ?_
  refine pg_lushr dJ13_bitCount_95d88_38 ?_
  refine pg_ladd dJ13_bitCount_95d88_39 ?_
  refine pg_letL (fun v4 => ?_)
  refine pg_lstore_n (i := 0) (lv' := [(0, pL v4)]) dJ13_bitCount_95d88_40 rfl (by decide) rfl ?_
  refine pg_lload_n (i := 0) dJ13_bitCount_95d88_41 rfl 0 rfl ?_
  refine pg_lload_n (i := 0) dJ13_bitCount_95d88_42 rfl 0 rfl ?_
  refine pg_bipush dJ13_bitCount_95d88_43 cb_16 ?_
  refine pg_lushr dJ13_bitCount_95d88_45 ?_
  refine pg_ladd dJ13_bitCount_95d88_46 ?_
  refine pg_letL (fun v5 => ?_)
  refine pg_lstore_n (i := 0) (lv' := [(0, pL v5)]) dJ13_bitCount_95d88_47 rfl (by decide) rfl ?_
  refine pg_lload_n (i := 0) dJ13_bitCount_95d88_48 rfl 0 rfl ?_
  refine pg_lload_n (i := 0) dJ13_bitCount_95d88_49 rfl 0 rfl ?_
  refine pg_bipush dJ13_bitCount_95d88_50 cb_32 ?_
  refine pg_lushr dJ13_bitCount_95d88_52 ?_
  refine pg_ladd dJ13_bitCount_95d88_53 ?_
  refine pg_letL (fun v6 => ?_)
  refine pg_lstore_n (i := 0) (lv' := [(0, pL v6)]) dJ13_bitCount_95d88_54 rfl (by decide) rfl ?_
  refine pg_lload_n (i := 0) dJ13_bitCount_95d88_55 rfl 0 rfl ?_
  refine pg_l2i dJ13_bitCount_95d88_56 ?_
  refine pg_bipush dJ13_bitCount_95d88_57 cb_127 ?_
  refine pg_iand dJ13_bitCount_95d88_59 ?_
  exact pg_iret dJ13_bitCount_95d88_60 rfl rfl
theorem c_J13_bitCount_95d88 (l : Launch) (D : pg_D) (a0 : Int64) (h : pg_H) : ∀ x, F_J13_bitCount_95d88 a0 = some x → pg_Ct l D yJ13_bitCount_95d88 cJ13_bitCount_95d88 2 (some FieldType.int) 0 0 [pL a0] h (pg_oI h x) :=
  pg_Ct.of pn_RJ13 (Nat.le_of_ble_eq_true rfl) (e_J13_bitCount_95d88 l D a0 h)
def F_X11_toldOfCensor_86 (h : pg_H) (a4 : Int32) (s0 : Int32) : Option Int32 := (if s0 = a4 then (some (1 : Int32)) else (some (0 : Int32)))
def F_X11_toldOfCensor_52 (h : pg_H) (s0 : Int64) : Option Int32 := Option.bind (F_J13_bitCount_95d88 s0) fun v1 => (some v1)
def F_X11_toldOfCensor (h : pg_H) (a0 : Nat) (a1 : Int32) (a2 : Int64) (a4 : Int32) : Option Int32 := (if a4 = 0 then (some (1 : Int32)) else Option.bind (pg_gR 11 0 h a0) fun v1 => Option.bind (pg_rcv 5 h v1 (F_X5_placesOfKind h v1 a1 (2 : Int32))) fun v2 => pg_let (v2 &&& a2) fun v3 => Option.bind (pg_gR 11 0 h a0) fun v4 => Option.bind (pg_rcv 5 h v4 (F_X5_placesOfKind h v4 a1 (3 : Int32))) fun v5 => pg_let (v5 &&& a2) fun v6 => (if (3 : Int32) < a4 then (if a4 = (4 : Int32) then (F_X11_toldOfCensor_52 h v3) else (F_X11_toldOfCensor_52 h v6)) else pg_let (v3 ||| v6) fun v7 => (if v7 = a2 then (F_X11_toldOfCensor_86 h a4 (1 : Int32)) else (if v7 = (0 : Int64) then (F_X11_toldOfCensor_86 h a4 (3 : Int32)) else (F_X11_toldOfCensor_86 h a4 (2 : Int32))))))
theorem e_X11_toldOfCensor_86 (l : Launch) (D : pg_D)  (h : pg_H) (a4 : Int32) (s0 : Int32) : pg_EvF l D RX11 cX11_toldOfCensor 12 (some FieldType.int) "toldOfCensor" 2 48 (pg_oI h) (F_X11_toldOfCensor_86 h a4 s0) 86 [(4, pI a4)] [pI s0] h := by
  unfold F_X11_toldOfCensor_86
  refine pg_istore (lv' := [(11, pI s0), (4, pI a4)]) dX11_toldOfCensor_86 (by decide) rfl ?_
  refine pg_iload dX11_toldOfCensor_88 0 rfl ?_
  refine pg_iload dX11_toldOfCensor_90 1 rfl ?_
  refine pg_icmp_ne (tgt := 99) dX11_toldOfCensor_92 rfl ?_ ?_
  · refine pg_iconst dX11_toldOfCensor_99 ci_0 ?_
    exact pg_iret dX11_toldOfCensor_100 rfl rfl
  · refine pg_iconst dX11_toldOfCensor_95 ci_1 ?_
    refine pg_goto (tgt := 100) dX11_toldOfCensor_96 rfl ?_
    exact pg_iret dX11_toldOfCensor_100 rfl rfl
theorem e_X11_toldOfCensor_52 (l : Launch) (D : pg_D)  (h : pg_H) (s0 : Int64) : pg_EvF l D RX11 cX11_toldOfCensor 12 (some FieldType.int) "toldOfCensor" 2 48 (pg_oI h) (F_X11_toldOfCensor_52 h s0) 52 [] [pL s0] h := by
  unfold F_X11_toldOfCensor_52
  refine pg_callS_oI (As := [pL s0]) (rs := []) dX11_toldOfCensor_52 lk_RX11_395 vy_J13_bitCount_95d88 nd_J13_bitCount_95d88 (c_J13_bitCount_95d88 l D s0 h) rfl rfl (Nat.le_of_ble_eq_true rfl) (by decide) (by decide) (fun v1 => ?_)
  exact pg_iret dX11_toldOfCensor_55 rfl rfl
theorem e_X11_toldOfCensor (l : Launch) (D : pg_D)  (h : pg_H) (a0 : Nat) (a1 : Int32) (a2 : Int64) (a4 : Int32) : pg_EvF l D RX11 cX11_toldOfCensor 12 (some FieldType.int) "toldOfCensor" 2 48 (pg_oI h) (F_X11_toldOfCensor h a0 a1 a2 a4) 0 [(0, pR a0), (1, pI a1), (2, pL a2), (4, pI a4)] [] h := by
  unfold F_X11_toldOfCensor
  refine pg_iload dX11_toldOfCensor_0 3 rfl ?_
  refine pg_if_ne (tgt := 7) dX11_toldOfCensor_2 rfl ?_ ?_
  · refine pg_aload_n (i := 0) dX11_toldOfCensor_7 rfl 0 rfl ?_
    refine pg_getR dX11_toldOfCensor_8 fl_RX11_10 rfl (fun v1 => ?_)
    refine pg_iload_n (i := 1) dX11_toldOfCensor_11 rfl 1 rfl ?_
    refine pg_iconst dX11_toldOfCensor_12 ci_2 ?_
    refine pg_callV_oL (As := [pI a1, pI (2 : Int32)]) (rs := []) dX11_toldOfCensor_13 lk_RX11_391 vy_X5_placesOfKind nd_X5_placesOfKind (c_X5_placesOfKind l D h v1 a1 (2 : Int32)) rfl rfl (Nat.le_of_ble_eq_true rfl) (by decide) (by decide) (fun v2 => ?_)
    refine pg_lload_n (i := 2) dX11_toldOfCensor_16 rfl 2 rfl ?_
    refine pg_land dX11_toldOfCensor_17 ?_
    refine pg_letL (fun v3 => ?_)
    refine pg_lstore (lv' := [(5, pL v3), (0, pR a0), (1, pI a1), (2, pL a2), (4, pI a4)]) dX11_toldOfCensor_18 (by decide) rfl ?_
    refine pg_aload_n (i := 0) dX11_toldOfCensor_20 rfl 1 rfl ?_
    refine pg_getR dX11_toldOfCensor_21 fl_RX11_10 rfl (fun v4 => ?_)
    refine pg_iload_n (i := 1) dX11_toldOfCensor_24 rfl 2 rfl ?_
    refine pg_iconst dX11_toldOfCensor_25 ci_3 ?_
    refine pg_callV_oL (As := [pI a1, pI (3 : Int32)]) (rs := []) dX11_toldOfCensor_26 lk_RX11_391 vy_X5_placesOfKind nd_X5_placesOfKind (c_X5_placesOfKind l D h v4 a1 (3 : Int32)) rfl rfl (Nat.le_of_ble_eq_true rfl) (by decide) (by decide) (fun v5 => ?_)
    refine pg_lload_n (i := 2) dX11_toldOfCensor_29 rfl 3 rfl ?_
    refine pg_land dX11_toldOfCensor_30 ?_
    refine pg_letL (fun v6 => ?_)
    refine pg_lstore (lv' := [(7, pL v6), (5, pL v3), (0, pR a0), (1, pI a1), (2, pL a2), (4, pI a4)]) dX11_toldOfCensor_31 (by decide) rfl ?_
    refine pg_iload dX11_toldOfCensor_33 5 rfl ?_
    refine pg_iconst dX11_toldOfCensor_35 ci_3 ?_
    refine pg_icmp_le (tgt := 56) dX11_toldOfCensor_36 rfl ?_ ?_
    · refine pg_lload dX11_toldOfCensor_56 1 rfl ?_
      refine pg_lload dX11_toldOfCensor_58 0 rfl ?_
      refine pg_lor dX11_toldOfCensor_60 ?_
      refine pg_letL (fun v7 => ?_)
      refine pg_lstore (lv' := [(9, pL v7), (7, pL v6), (5, pL v3), (0, pR a0), (1, pI a1), (2, pL a2), (4, pI a4)]) dX11_toldOfCensor_61 (by decide) rfl ?_
      refine pg_lload dX11_toldOfCensor_63 0 rfl ?_
      refine pg_lload_n (i := 2) dX11_toldOfCensor_65 rfl 5 rfl ?_
      refine pg_lcmp_ne (tgt := 74) dX11_toldOfCensor_66 dX11_toldOfCensor_67 rfl ?_ ?_
      · refine pg_lload dX11_toldOfCensor_74 0 rfl ?_
        refine pg_lconst dX11_toldOfCensor_76 cl_0 ?_
        refine pg_lcmp_eq (tgt := 85) dX11_toldOfCensor_77 dX11_toldOfCensor_78 rfl ?_ ?_
        · refine pg_iconst dX11_toldOfCensor_85 ci_3 ?_
          exact pg_to (e_X11_toldOfCensor_86 l D h a4 (3 : Int32)) [6] rfl
        · refine pg_iconst dX11_toldOfCensor_81 ci_2 ?_
          refine pg_goto (tgt := 86) dX11_toldOfCensor_82 rfl ?_
          exact pg_to (e_X11_toldOfCensor_86 l D h a4 (2 : Int32)) [6] rfl
      · refine pg_iconst dX11_toldOfCensor_70 ci_1 ?_
        refine pg_goto (tgt := 86) dX11_toldOfCensor_71 rfl ?_
        exact pg_to (e_X11_toldOfCensor_86 l D h a4 (1 : Int32)) [6] rfl
    · refine pg_iload dX11_toldOfCensor_39 5 rfl ?_
      refine pg_iconst dX11_toldOfCensor_41 ci_4 ?_
      refine pg_icmp_ne (tgt := 50) dX11_toldOfCensor_42 rfl ?_ ?_
      · refine pg_lload dX11_toldOfCensor_50 0 rfl ?_
        exact pg_to (e_X11_toldOfCensor_52 l D h v6) [] rfl
      · refine pg_lload dX11_toldOfCensor_45 1 rfl ?_
        refine pg_goto (tgt := 52) dX11_toldOfCensor_47 rfl ?_
        exact pg_to (e_X11_toldOfCensor_52 l D h v3) [] rfl
  · refine pg_iconst dX11_toldOfCensor_5 ci_1 ?_
    exact pg_iret dX11_toldOfCensor_6 rfl rfl
theorem c_X11_toldOfCensor (l : Launch) (D : pg_D) (h : pg_H) (a0 : Nat) (a1 : Int32) (a2 : Int64) (a4 : Int32)  : ∀ x, F_X11_toldOfCensor h a0 a1 a2 a4 = some x → pg_Ct l D yX11_toldOfCensor cX11_toldOfCensor 12 (some FieldType.int) 2 48 [pR a0, pI a1, pL a2, pI a4] h (pg_oI h x) :=
  pg_Ct.of pn_RX11 (Nat.le_of_ble_eq_true rfl) (e_X11_toldOfCensor l D h a0 a1 a2 a4)
def F_X11_censor_126 (k50 : Nat → Int32 → Int32 → Int64 → Int32 → Int32 → pg_H → Option (Int32 × pg_H)) (a0 : Nat) (a1 : Int32) (a3 : Int32) (a5 : Int64) (a8 : Int32) (s0 : Int32) (s1 : Int32) (h : pg_H) : Option (Int32 × pg_H) := pg_let (s1 + s0) fun v1 => (k50 a0 a1 a3 a5 v1 (a8 + (1 : Int32)) h)
def F_X11_censor_104 (k50 : Nat → Int32 → Int32 → Int64 → Int32 → Int32 → pg_H → Option (Int32 × pg_H)) (a0 : Nat) (a1 : Int32) (a3 : Int32) (a5 : Int64) (a7 : Int32) (a8 : Int32) (s0 : Int32) (h : pg_H) : Option (Int32 × pg_H) := (if s0 = 0 then (F_X11_censor_126 k50 a0 a1 a3 a5 a8 (0 : Int32) a7 h) else Option.bind (pg_rcv 11 h a0 (F_X11_toldOfCensor h a0 a8 a5 a3)) fun v1 => (F_X11_censor_126 k50 a0 a1 a3 a5 a8 v1 a7 h))
def F_X11_censor_103 (k50 : Nat → Int32 → Int32 → Int64 → Int32 → Int32 → pg_H → Option (Int32 × pg_H)) (a0 : Nat) (a1 : Int32) (a3 : Int32) (a5 : Int64) (a7 : Int32) (a8 : Int32) (h : pg_H) : Option (Int32 × pg_H) := (F_X11_censor_104 k50 a0 a1 a3 a5 a7 a8 (0 : Int32) h)
def F_X11_censor_50  : Nat → Nat → Int32 → Int32 → Int64 → Int32 → Int32 → pg_H → Option (Int32 × pg_H)
  | 0 => fun _ _ _ _ _ _ _ => none
  | n + 1 => fun a0 a1 a3 a5 a7 a8 h => Option.bind (pg_gR 11 0 h a0) fun v1 => Option.bind (pg_gR 5 0 h v1) fun v2 => Option.bind (pg_rcv 7 h v2 (F_X7_size h v2)) fun v3 => (if a8 < v3 then Option.bind (pg_gR 11 0 h a0) fun v4 => Option.bind (pg_gR 5 0 h v4) fun v5 => Option.bind (pg_rcv 7 h v5 (F_X7_at h v5 a8 (0 : Int32))) fun v6 => (if v6 = a1 then Option.bind (pg_gR 11 0 h a0) fun v7 => Option.bind (pg_gR 5 0 h v7) fun v8 => Option.bind (pg_rcv 7 h v8 (F_X7_at h v8 a8 (2 : Int32))) fun v9 => (if v9 = (1 : Int32) then (F_X11_censor_104 (F_X11_censor_50 n) a0 a1 a3 a5 a7 a8 (1 : Int32) h) else (F_X11_censor_103 (F_X11_censor_50 n) a0 a1 a3 a5 a7 a8 h)) else (F_X11_censor_103 (F_X11_censor_50 n) a0 a1 a3 a5 a7 a8 h)) else (some (a7, h)))
def F_X11_censor (a0 : Nat) (a1 : Int32) (a2 : Int32) (a3 : Int32) (h : pg_H) : Option (Int32 × pg_H) := Option.bind (pg_gR 11 0 h a0) fun v1 => Option.bind (pg_rcv 5 h v1 (F_X5_textOf h v1 a2)) fun v2 => Option.bind (F_X11_within a1 (0 : Int32) (7 : Int32)) fun v3 => (if v3 = 0 then (some ((-1 : Int32), h)) else (if v2 = 0 then (some ((-1 : Int32), h)) else Option.bind (F_X11_within a3 (0 : Int32) (5 : Int32)) fun v4 => (if v4 = 0 then (some ((-1 : Int32), h)) else Option.bind (pg_rcv 11 h a0 (F_X11_placesStruck a0 v2 h)) fun v5 => (F_X11_censor_50 pg_fuel a0 a1 a3 v5.1 (0 : Int32) (0 : Int32) v5.2))))
theorem e_X11_censor_126 (l : Launch) (D : pg_D)  (k50 : Nat → Int32 → Int32 → Int64 → Int32 → Int32 → pg_H → Option (Int32 × pg_H)) (hk50 : ∀ (a0 : Nat) (a1 : Int32) (a3 : Int32) (a5 : Int64) (a7 : Int32) (a8 : Int32) (h : pg_H), pg_EvF l D RX11 cX11_censor 10 (some FieldType.int) "censor" 5 132 pg_wI (k50 a0 a1 a3 a5 a7 a8 h) 50 [(0, pR a0), (1, pI a1), (3, pI a3), (5, pL a5), (7, pI a7), (8, pI a8)] [] h) (a0 : Nat) (a1 : Int32) (a3 : Int32) (a5 : Int64) (a8 : Int32) (s0 : Int32) (s1 : Int32) (h : pg_H) : pg_EvF l D RX11 cX11_censor 10 (some FieldType.int) "censor" 5 132 pg_wI (F_X11_censor_126 k50 a0 a1 a3 a5 a8 s0 s1 h) 126 [(0, pR a0), (1, pI a1), (3, pI a3), (5, pL a5), (8, pI a8)] [pI s0, pI s1] h := by
  unfold F_X11_censor_126
  refine pg_iadd dX11_censor_126 ?_
  refine pg_letI (fun v1 => ?_)
  refine pg_istore (lv' := [(7, pI v1), (0, pR a0), (1, pI a1), (3, pI a3), (5, pL a5), (8, pI a8)]) dX11_censor_127 (by decide) rfl ?_
  refine pg_iinc (lv' := [(8, pI (a8 + (1 : Int32))), (7, pI v1), (0, pR a0), (1, pI a1), (3, pI a3), (5, pL a5)]) dX11_censor_129 5 rfl ci_1 (by decide) rfl ?_
  refine pg_goto (tgt := 50) dX11_censor_132 rfl ?_
  exact pg_to (hk50 a0 a1 a3 a5 v1 (a8 + (1 : Int32)) h) [2, 3, 4, 5, 1, 0] rfl
theorem e_X11_censor_104 (l : Launch) (D : pg_D)  (k50 : Nat → Int32 → Int32 → Int64 → Int32 → Int32 → pg_H → Option (Int32 × pg_H)) (hk50 : ∀ (a0 : Nat) (a1 : Int32) (a3 : Int32) (a5 : Int64) (a7 : Int32) (a8 : Int32) (h : pg_H), pg_EvF l D RX11 cX11_censor 10 (some FieldType.int) "censor" 5 132 pg_wI (k50 a0 a1 a3 a5 a7 a8 h) 50 [(0, pR a0), (1, pI a1), (3, pI a3), (5, pL a5), (7, pI a7), (8, pI a8)] [] h) (a0 : Nat) (a1 : Int32) (a3 : Int32) (a5 : Int64) (a7 : Int32) (a8 : Int32) (s0 : Int32) (h : pg_H) : pg_EvF l D RX11 cX11_censor 10 (some FieldType.int) "censor" 5 132 pg_wI (F_X11_censor_104 k50 a0 a1 a3 a5 a7 a8 s0 h) 104 [(0, pR a0), (1, pI a1), (3, pI a3), (5, pL a5), (7, pI a7), (8, pI a8)] [pI s0] h := by
  unfold F_X11_censor_104
  refine pg_istore (lv' := [(9, pI s0), (0, pR a0), (1, pI a1), (3, pI a3), (5, pL a5), (7, pI a7), (8, pI a8)]) dX11_censor_104 (by decide) rfl ?_
  refine pg_iload dX11_censor_106 5 rfl ?_
  refine pg_iload dX11_censor_108 0 rfl ?_
  refine pg_if_eq (tgt := 125) dX11_censor_110 rfl ?_ ?_
  · refine pg_iconst dX11_censor_125 ci_0 ?_
    exact pg_to (e_X11_censor_126 l D k50 hk50 a0 a1 a3 a5 a8 (0 : Int32) a7 h) [1, 2, 3, 4, 6] rfl
  · refine pg_aload_n (i := 0) dX11_censor_113 rfl 1 rfl ?_
    refine pg_iload dX11_censor_114 6 rfl ?_
    refine pg_lload dX11_censor_116 4 rfl ?_
    refine pg_iload_n (i := 3) dX11_censor_118 rfl 3 rfl ?_
    refine pg_callV_oI (As := [pI a8, pL a5, pI a3]) (rs := [pI a7]) dX11_censor_119 lk_RX11_320 vy_X11_toldOfCensor nd_X11_toldOfCensor (c_X11_toldOfCensor l D h a0 a8 a5 a3) rfl rfl (Nat.le_of_ble_eq_true rfl) (by decide) (by decide) (fun v1 => ?_)
    refine pg_goto (tgt := 126) dX11_censor_122 rfl ?_
    exact pg_to (e_X11_censor_126 l D k50 hk50 a0 a1 a3 a5 a8 v1 a7 h) [1, 2, 3, 4, 6] rfl
theorem e_X11_censor_103 (l : Launch) (D : pg_D)  (k50 : Nat → Int32 → Int32 → Int64 → Int32 → Int32 → pg_H → Option (Int32 × pg_H)) (hk50 : ∀ (a0 : Nat) (a1 : Int32) (a3 : Int32) (a5 : Int64) (a7 : Int32) (a8 : Int32) (h : pg_H), pg_EvF l D RX11 cX11_censor 10 (some FieldType.int) "censor" 5 132 pg_wI (k50 a0 a1 a3 a5 a7 a8 h) 50 [(0, pR a0), (1, pI a1), (3, pI a3), (5, pL a5), (7, pI a7), (8, pI a8)] [] h) (a0 : Nat) (a1 : Int32) (a3 : Int32) (a5 : Int64) (a7 : Int32) (a8 : Int32) (h : pg_H) : pg_EvF l D RX11 cX11_censor 10 (some FieldType.int) "censor" 5 132 pg_wI (F_X11_censor_103 k50 a0 a1 a3 a5 a7 a8 h) 103 [(0, pR a0), (1, pI a1), (3, pI a3), (5, pL a5), (7, pI a7), (8, pI a8)] [] h := by
  unfold F_X11_censor_103
  refine pg_iconst dX11_censor_103 ci_0 ?_
  exact pg_to (e_X11_censor_104 l D k50 hk50 a0 a1 a3 a5 a7 a8 (0 : Int32) h) [0, 1, 2, 3, 4, 5] rfl
theorem e_X11_censor_50 (l : Launch) (D : pg_D)   : ∀ (n : Nat) (a0 : Nat) (a1 : Int32) (a3 : Int32) (a5 : Int64) (a7 : Int32) (a8 : Int32) (h : pg_H), pg_EvF l D RX11 cX11_censor 10 (some FieldType.int) "censor" 5 132 pg_wI (F_X11_censor_50 n a0 a1 a3 a5 a7 a8 h) 50 [(0, pR a0), (1, pI a1), (3, pI a3), (5, pL a5), (7, pI a7), (8, pI a8)] [] h := by
  intro n
  induction n with
  | zero => intro a0 a1 a3 a5 a7 a8 h; exact pg_none
  | succ n ih =>
    intro a0 a1 a3 a5 a7 a8 h
    rw [F_X11_censor_50]
    refine pg_iload dX11_censor_50 5 rfl ?_
    refine pg_aload_n (i := 0) dX11_censor_52 rfl 0 rfl ?_
    refine pg_getR dX11_censor_53 fl_RX11_10 rfl (fun v1 => ?_)
    refine pg_getR dX11_censor_56 fl_RX11_91 rfl (fun v2 => ?_)
    refine pg_callV_oI (As := []) (rs := [pI a8]) dX11_censor_59 lk_RX11_122 vy_X7_size nd_X7_size (c_X7_size l D h v2) rfl rfl (Nat.le_of_ble_eq_true rfl) (by decide) (by decide) (fun v3 => ?_)
    refine pg_icmp_ge (tgt := 135) dX11_censor_62 rfl ?_ ?_
    · refine pg_iload dX11_censor_135 4 rfl ?_
      exact pg_iret dX11_censor_137 rfl rfl
    · refine pg_aload_n (i := 0) dX11_censor_65 rfl 0 rfl ?_
      refine pg_getR dX11_censor_66 fl_RX11_10 rfl (fun v4 => ?_)
      refine pg_getR dX11_censor_69 fl_RX11_91 rfl (fun v5 => ?_)
      refine pg_iload dX11_censor_72 5 rfl ?_
      refine pg_iconst dX11_censor_74 ci_0 ?_
      refine pg_callV_oI (As := [pI a8, pI (0 : Int32)]) (rs := []) dX11_censor_75 lk_RX11_156 vy_X7_at nd_X7_at (c_X7_at l D h v5 a8 (0 : Int32)) rfl rfl (Nat.le_of_ble_eq_true rfl) (by decide) (by decide) (fun v6 => ?_)
      refine pg_iload_n (i := 1) dX11_censor_78 rfl 1 rfl ?_
      refine pg_icmp_ne (tgt := 103) dX11_censor_79 rfl ?_ ?_
      · exact pg_to (e_X11_censor_103 l D (F_X11_censor_50 n) ih a0 a1 a3 a5 a7 a8 h) [0, 1, 2, 3, 4, 5] rfl
      · refine pg_aload_n (i := 0) dX11_censor_82 rfl 0 rfl ?_
        refine pg_getR dX11_censor_83 fl_RX11_10 rfl (fun v7 => ?_)
        refine pg_getR dX11_censor_86 fl_RX11_91 rfl (fun v8 => ?_)
        refine pg_iload dX11_censor_89 5 rfl ?_
        refine pg_iconst dX11_censor_91 ci_2 ?_
        refine pg_callV_oI (As := [pI a8, pI (2 : Int32)]) (rs := []) dX11_censor_92 lk_RX11_156 vy_X7_at nd_X7_at (c_X7_at l D h v8 a8 (2 : Int32)) rfl rfl (Nat.le_of_ble_eq_true rfl) (by decide) (by decide) (fun v9 => ?_)
        refine pg_iconst dX11_censor_95 ci_1 ?_
        refine pg_icmp_ne (tgt := 103) dX11_censor_96 rfl ?_ ?_
        · exact pg_to (e_X11_censor_103 l D (F_X11_censor_50 n) ih a0 a1 a3 a5 a7 a8 h) [0, 1, 2, 3, 4, 5] rfl
        · refine pg_iconst dX11_censor_99 ci_1 ?_
          refine pg_goto (tgt := 104) dX11_censor_100 rfl ?_
          exact pg_to (e_X11_censor_104 l D (F_X11_censor_50 n) ih a0 a1 a3 a5 a7 a8 (1 : Int32) h) [0, 1, 2, 3, 4, 5] rfl
theorem e_X11_censor (l : Launch) (D : pg_D)  (a0 : Nat) (a1 : Int32) (a2 : Int32) (a3 : Int32) (h : pg_H) : pg_EvF l D RX11 cX11_censor 10 (some FieldType.int) "censor" 5 132 pg_wI (F_X11_censor a0 a1 a2 a3 h) 0 [(0, pR a0), (1, pI a1), (2, pI a2), (3, pI a3)] [] h := by
  unfold F_X11_censor
  refine pg_aload_n (i := 0) dX11_censor_0 rfl 0 rfl ?_
  refine pg_getR dX11_censor_1 fl_RX11_10 rfl (fun v1 => ?_)
  refine pg_iload_n (i := 2) dX11_censor_4 rfl 2 rfl ?_
  refine pg_callV_oR (As := [pI a2]) (rs := []) dX11_censor_5 lk_RX11_200 vy_X5_textOf nd_X5_textOf (c_X5_textOf l D h v1 a2) rfl rfl (Nat.le_of_ble_eq_true rfl) (by decide) (by decide) (fun v2 => ?_)
  refine pg_astore (lv' := [(4, pR v2), (0, pR a0), (1, pI a1), (2, pI a2), (3, pI a3)]) dX11_censor_8 (by decide) rfl ?_
  refine pg_iload_n (i := 1) dX11_censor_10 rfl 2 rfl ?_
  refine pg_iconst dX11_censor_11 ci_0 ?_
  refine pg_bipush dX11_censor_12 cb_7 ?_
  refine pg_callS_oI (As := [pI a1, pI (0 : Int32), pI (7 : Int32)]) (rs := []) dX11_censor_14 lk_RX11_83 vy_X11_within nd_X11_within (c_X11_within l D a1 (0 : Int32) (7 : Int32) h) rfl rfl (Nat.le_of_ble_eq_true rfl) (by decide) (by decide) (fun v3 => ?_)
  refine pg_if_eq (tgt := 34) dX11_censor_17 rfl ?_ ?_
  · refine pg_iconst dX11_censor_34 ci_m1 ?_
    exact pg_iret dX11_censor_35 rfl rfl
  · refine pg_aload dX11_censor_20 0 rfl ?_
    refine pg_ifnull (tgt := 34) dX11_censor_22 rfl ?_ ?_
    · refine pg_iconst dX11_censor_34 ci_m1 ?_
      exact pg_iret dX11_censor_35 rfl rfl
    · refine pg_iload_n (i := 3) dX11_censor_25 rfl 4 rfl ?_
      refine pg_iconst dX11_censor_26 ci_0 ?_
      refine pg_iconst dX11_censor_27 ci_5 ?_
      refine pg_callS_oI (As := [pI a3, pI (0 : Int32), pI (5 : Int32)]) (rs := []) dX11_censor_28 lk_RX11_83 vy_X11_within nd_X11_within (c_X11_within l D a3 (0 : Int32) (5 : Int32) h) rfl rfl (Nat.le_of_ble_eq_true rfl) (by decide) (by decide) (fun v4 => ?_)
      refine pg_if_ne (tgt := 36) dX11_censor_31 rfl ?_ ?_
      · refine pg_aload_n (i := 0) dX11_censor_36 rfl 1 rfl ?_
        refine pg_aload dX11_censor_37 0 rfl ?_
        refine pg_callV_wL (As := [pR v2]) (rs := []) dX11_censor_39 lk_RX11_316 vy_X11_placesStruck nd_X11_placesStruck (c_X11_placesStruck l D a0 v2 h) rfl rfl (Nat.le_of_ble_eq_true rfl) (by decide) (by decide) (fun v5 => ?_)
        refine pg_lstore (lv' := [(5, pL v5.1), (4, pR v2), (0, pR a0), (1, pI a1), (2, pI a2), (3, pI a3)]) dX11_censor_42 (by decide) rfl ?_
        refine pg_iconst dX11_censor_44 ci_0 ?_
        refine pg_istore (lv' := [(7, pI (0 : Int32)), (5, pL v5.1), (4, pR v2), (0, pR a0), (1, pI a1), (2, pI a2), (3, pI a3)]) dX11_censor_45 (by decide) rfl ?_
        refine pg_iconst dX11_censor_47 ci_0 ?_
        refine pg_istore (lv' := [(8, pI (0 : Int32)), (7, pI (0 : Int32)), (5, pL v5.1), (4, pR v2), (0, pR a0), (1, pI a1), (2, pI a2), (3, pI a3)]) dX11_censor_48 (by decide) rfl ?_
        exact pg_to (e_X11_censor_50 l D pg_fuel a0 a1 a3 v5.1 (0 : Int32) (0 : Int32) v5.2) [4, 5, 7, 2, 1, 0] rfl
      · refine pg_iconst dX11_censor_34 ci_m1 ?_
        exact pg_iret dX11_censor_35 rfl rfl
theorem c_X11_censor (l : Launch) (D : pg_D) (a0 : Nat) (a1 : Int32) (a2 : Int32) (a3 : Int32) (h : pg_H) : ∀ x, F_X11_censor a0 a1 a2 a3 h = some x → pg_Ct l D yX11_censor cX11_censor 10 (some FieldType.int) 5 132 [pR a0, pI a1, pI a2, pI a3] h (pg_wI x) :=
  pg_Ct.of pn_RX11 (Nat.le_of_ble_eq_true rfl) (e_X11_censor l D a0 a1 a2 a3 h)
def F_X11_late_129 (k46 : Nat → Int32 → Nat → Nat → Int32 → Int32 → pg_H → Option (Int32 × pg_H)) (a0 : Nat) (a2 : Int32) (a3 : Nat) (a4 : Nat) (a5 : Int32) (a6 : Int32) (h : pg_H) : Option (Int32 × pg_H) := (k46 a0 a2 a3 a4 a5 (a6 + (1 : Int32)) h)
def F_X11_late_126 (k46 : Nat → Int32 → Nat → Nat → Int32 → Int32 → pg_H → Option (Int32 × pg_H)) (a0 : Nat) (a2 : Int32) (a3 : Nat) (a4 : Nat) (a6 : Int32) (s0 : Int32) (s1 : Int32) (h : pg_H) : Option (Int32 × pg_H) := pg_let (s1 + s0) fun v1 => (F_X11_late_129 k46 a0 a2 a3 a4 v1 a6 h)
def F_X11_late_83 (k46 : Nat → Int32 → Nat → Nat → Int32 → Int32 → pg_H → Option (Int32 × pg_H)) (a0 : Nat) (a2 : Int32) (a3 : Nat) (a4 : Nat) (a5 : Int32) (a6 : Int32) (h : pg_H) : Option (Int32 × pg_H) := Option.bind (pg_gR 11 5 h a0) fun v1 => Option.bind (pg_gR 11 0 h a0) fun v2 => Option.bind (pg_gR 11 0 h a0) fun v3 => Option.bind (pg_rcv 4 h a4 (F_X4_sharedOf h a4 v3 a6)) fun v4 => Option.bind (pg_rcv 0 h v1 (F_X0_askOfNote v1 v2 a6 v4 h)) fun v5 => Option.bind (pg_gR 11 5 v5 a0) fun v6 => Option.bind (pg_rcv 0 v5 v6 (F_X0_holdsIn v6 a3 (5 : Int32) v5)) fun v7 => (if v7.1 = 0 then (F_X11_late_126 k46 a0 a2 a3 a4 a6 (0 : Int32) a5 v7.2) else (F_X11_late_126 k46 a0 a2 a3 a4 a6 (1 : Int32) a5 v7.2))
def F_X11_late_46  : Nat → Nat → Int32 → Nat → Nat → Int32 → Int32 → pg_H → Option (Int32 × pg_H)
  | 0 => fun _ _ _ _ _ _ _ => none
  | n + 1 => fun a0 a2 a3 a4 a5 a6 h => Option.bind (pg_gR 11 0 h a0) fun v1 => Option.bind (pg_gR 5 4 h v1) fun v2 => Option.bind (pg_rcv 7 h v2 (F_X7_size h v2)) fun v3 => (if a6 < v3 then (if a2 = (-1 : Int32) then (F_X11_late_83 (F_X11_late_46 n) a0 a2 a3 a4 a5 a6 h) else Option.bind (pg_gR 11 0 h a0) fun v4 => Option.bind (pg_gR 5 4 h v4) fun v5 => Option.bind (pg_rcv 7 h v5 (F_X7_at h v5 a6 (0 : Int32))) fun v6 => (if v6 = a2 then (F_X11_late_83 (F_X11_late_46 n) a0 a2 a3 a4 a5 a6 h) else (F_X11_late_129 (F_X11_late_46 n) a0 a2 a3 a4 a5 a6 h))) else (some (a5, h)))
def F_X11_late_34 (a0 : Nat) (a2 : Int32) (a3 : Nat) (h : pg_H) : Option (Int32 × pg_H) := Option.bind (pg_rcv 11 h a0 (F_X11_freshReadings a0 h)) fun v1 => (F_X11_late_46 pg_fuel a0 a2 a3 v1.1 (0 : Int32) (0 : Int32) v1.2)
def F_X11_late (a0 : Nat) (a1 : Int32) (a2 : Int32) (h : pg_H) : Option (Int32 × pg_H) := Option.bind (pg_gR 11 0 h a0) fun v1 => Option.bind (pg_rcv 5 h v1 (F_X5_textOf h v1 a1)) fun v2 => (if v2 = 0 then (some ((-1 : Int32), h)) else (if a2 = (-1 : Int32) then (F_X11_late_34 a0 a2 v2 h) else Option.bind (pg_gR 11 0 h a0) fun v3 => Option.bind (pg_gR 5 0 h v3) fun v4 => Option.bind (pg_rcv 7 h v4 (F_X7_holds h v4 a2)) fun v5 => (if v5 = 0 then (some ((-1 : Int32), h)) else (F_X11_late_34 a0 a2 v2 h))))
theorem e_X11_late_129 (l : Launch) (D : pg_D)  (k46 : Nat → Int32 → Nat → Nat → Int32 → Int32 → pg_H → Option (Int32 × pg_H)) (hk46 : ∀ (a0 : Nat) (a2 : Int32) (a3 : Nat) (a4 : Nat) (a5 : Int32) (a6 : Int32) (h : pg_H), pg_EvF l D RX11 cX11_late 7 (some FieldType.int) "late" 6 159 pg_wI (k46 a0 a2 a3 a4 a5 a6 h) 46 [(0, pR a0), (2, pI a2), (3, pR a3), (4, pR a4), (5, pI a5), (6, pI a6)] [] h) (a0 : Nat) (a2 : Int32) (a3 : Nat) (a4 : Nat) (a5 : Int32) (a6 : Int32) (h : pg_H) : pg_EvF l D RX11 cX11_late 7 (some FieldType.int) "late" 6 159 pg_wI (F_X11_late_129 k46 a0 a2 a3 a4 a5 a6 h) 129 [(0, pR a0), (2, pI a2), (3, pR a3), (4, pR a4), (5, pI a5), (6, pI a6)] [] h := by
  unfold F_X11_late_129
  refine pg_iinc (lv' := [(6, pI (a6 + (1 : Int32))), (0, pR a0), (2, pI a2), (3, pR a3), (4, pR a4), (5, pI a5)]) dX11_late_129 5 rfl ci_1 (by decide) rfl ?_
  refine pg_goto (tgt := 46) dX11_late_132 rfl ?_
  exact pg_to (hk46 a0 a2 a3 a4 a5 (a6 + (1 : Int32)) h) [1, 2, 3, 4, 5, 0] rfl
theorem e_X11_late_126 (l : Launch) (D : pg_D)  (k46 : Nat → Int32 → Nat → Nat → Int32 → Int32 → pg_H → Option (Int32 × pg_H)) (hk46 : ∀ (a0 : Nat) (a2 : Int32) (a3 : Nat) (a4 : Nat) (a5 : Int32) (a6 : Int32) (h : pg_H), pg_EvF l D RX11 cX11_late 7 (some FieldType.int) "late" 6 159 pg_wI (k46 a0 a2 a3 a4 a5 a6 h) 46 [(0, pR a0), (2, pI a2), (3, pR a3), (4, pR a4), (5, pI a5), (6, pI a6)] [] h) (a0 : Nat) (a2 : Int32) (a3 : Nat) (a4 : Nat) (a6 : Int32) (s0 : Int32) (s1 : Int32) (h : pg_H) : pg_EvF l D RX11 cX11_late 7 (some FieldType.int) "late" 6 159 pg_wI (F_X11_late_126 k46 a0 a2 a3 a4 a6 s0 s1 h) 126 [(0, pR a0), (2, pI a2), (3, pR a3), (4, pR a4), (6, pI a6)] [pI s0, pI s1] h := by
  unfold F_X11_late_126
  refine pg_iadd dX11_late_126 ?_
  refine pg_letI (fun v1 => ?_)
  refine pg_istore (lv' := [(5, pI v1), (0, pR a0), (2, pI a2), (3, pR a3), (4, pR a4), (6, pI a6)]) dX11_late_127 (by decide) rfl ?_
  exact pg_to (e_X11_late_129 l D k46 hk46 a0 a2 a3 a4 v1 a6 h) [1, 2, 3, 4, 0, 5] rfl
theorem e_X11_late_83 (l : Launch) (D : pg_D)  (k46 : Nat → Int32 → Nat → Nat → Int32 → Int32 → pg_H → Option (Int32 × pg_H)) (hk46 : ∀ (a0 : Nat) (a2 : Int32) (a3 : Nat) (a4 : Nat) (a5 : Int32) (a6 : Int32) (h : pg_H), pg_EvF l D RX11 cX11_late 7 (some FieldType.int) "late" 6 159 pg_wI (k46 a0 a2 a3 a4 a5 a6 h) 46 [(0, pR a0), (2, pI a2), (3, pR a3), (4, pR a4), (5, pI a5), (6, pI a6)] [] h) (a0 : Nat) (a2 : Int32) (a3 : Nat) (a4 : Nat) (a5 : Int32) (a6 : Int32) (h : pg_H) : pg_EvF l D RX11 cX11_late 7 (some FieldType.int) "late" 6 159 pg_wI (F_X11_late_83 k46 a0 a2 a3 a4 a5 a6 h) 83 [(0, pR a0), (2, pI a2), (3, pR a3), (4, pR a4), (5, pI a5), (6, pI a6)] [] h := by
  unfold F_X11_late_83
  refine pg_aload_n (i := 0) dX11_late_83 rfl 0 rfl ?_
  refine pg_getR dX11_late_84 fl_RX11_43 rfl (fun v1 => ?_)
  refine pg_aload_n (i := 0) dX11_late_87 rfl 0 rfl ?_
  refine pg_getR dX11_late_88 fl_RX11_10 rfl (fun v2 => ?_)
  refine pg_iload dX11_late_91 5 rfl ?_
  refine pg_aload dX11_late_93 3 rfl ?_
  refine pg_aload_n (i := 0) dX11_late_95 rfl 0 rfl ?_
  refine pg_getR dX11_late_96 fl_RX11_10 rfl (fun v3 => ?_)
  refine pg_iload dX11_late_99 5 rfl ?_
  refine pg_callV_oI (As := [pR v3, pI a6]) (rs := [pI a6, pR v2, pR v1]) dX11_late_101 lk_RX11_152 vy_X4_sharedOf nd_X4_sharedOf (c_X4_sharedOf l D h a4 v3 a6) rfl rfl (Nat.le_of_ble_eq_true rfl) (by decide) (by decide) (fun v4 => ?_)
  refine pg_callV_wV (As := [pR v2, pI a6, pI v4]) (rs := []) dX11_late_104 lk_RX11_324 vy_X0_askOfNote nd_X0_askOfNote (c_X0_askOfNote l D v1 v2 a6 v4 h) rfl rfl (Nat.le_of_ble_eq_true rfl) (by decide) (by decide) (fun v5 => ?_)
  refine pg_iload dX11_late_107 4 rfl ?_
  refine pg_aload_n (i := 0) dX11_late_109 rfl 0 rfl ?_
  refine pg_getR dX11_late_110 fl_RX11_43 rfl (fun v6 => ?_)
  refine pg_aload_n (i := 3) dX11_late_113 rfl 2 rfl ?_
  refine pg_iconst dX11_late_114 ci_5 ?_
  refine pg_callV_wI (As := [pR a3, pI (5 : Int32)]) (rs := [pI a5]) dX11_late_115 lk_RX11_328 vy_X0_holdsIn nd_X0_holdsIn (c_X0_holdsIn l D v6 a3 (5 : Int32) v5) rfl rfl (Nat.le_of_ble_eq_true rfl) (by decide) (by decide) (fun v7 => ?_)
  refine pg_if_eq (tgt := 125) dX11_late_118 rfl ?_ ?_
  · refine pg_iconst dX11_late_125 ci_0 ?_
    exact pg_to (e_X11_late_126 l D k46 hk46 a0 a2 a3 a4 a6 (0 : Int32) a5 v7.2) [0, 1, 2, 3, 5] rfl
  · refine pg_iconst dX11_late_121 ci_1 ?_
    refine pg_goto (tgt := 126) dX11_late_122 rfl ?_
    exact pg_to (e_X11_late_126 l D k46 hk46 a0 a2 a3 a4 a6 (1 : Int32) a5 v7.2) [0, 1, 2, 3, 5] rfl
theorem e_X11_late_46 (l : Launch) (D : pg_D)   : ∀ (n : Nat) (a0 : Nat) (a2 : Int32) (a3 : Nat) (a4 : Nat) (a5 : Int32) (a6 : Int32) (h : pg_H), pg_EvF l D RX11 cX11_late 7 (some FieldType.int) "late" 6 159 pg_wI (F_X11_late_46 n a0 a2 a3 a4 a5 a6 h) 46 [(0, pR a0), (2, pI a2), (3, pR a3), (4, pR a4), (5, pI a5), (6, pI a6)] [] h := by
  intro n
  induction n with
  | zero => intro a0 a2 a3 a4 a5 a6 h; exact pg_none
  | succ n ih =>
    intro a0 a2 a3 a4 a5 a6 h
    rw [F_X11_late_46]
    refine pg_iload dX11_late_46 5 rfl ?_
    refine pg_aload_n (i := 0) dX11_late_48 rfl 0 rfl ?_
    refine pg_getR dX11_late_49 fl_RX11_10 rfl (fun v1 => ?_)
    refine pg_getR dX11_late_52 fl_RX11_145 rfl (fun v2 => ?_)
    refine pg_callV_oI (As := []) (rs := [pI a6]) dX11_late_55 lk_RX11_122 vy_X7_size nd_X7_size (c_X7_size l D h v2) rfl rfl (Nat.le_of_ble_eq_true rfl) (by decide) (by decide) (fun v3 => ?_)
    refine pg_icmp_ge (tgt := 135) dX11_late_58 rfl ?_ ?_
    · refine pg_iload dX11_late_135 4 rfl ?_
      exact pg_iret dX11_late_137 rfl rfl
    · refine pg_iload_n (i := 2) dX11_late_61 rfl 1 rfl ?_
      refine pg_iconst dX11_late_62 ci_m1 ?_
      refine pg_icmp_eq (tgt := 83) dX11_late_63 rfl ?_ ?_
      · exact pg_to (e_X11_late_83 l D (F_X11_late_46 n) ih a0 a2 a3 a4 a5 a6 h) [0, 1, 2, 3, 4, 5] rfl
      · refine pg_aload_n (i := 0) dX11_late_66 rfl 0 rfl ?_
        refine pg_getR dX11_late_67 fl_RX11_10 rfl (fun v4 => ?_)
        refine pg_getR dX11_late_70 fl_RX11_145 rfl (fun v5 => ?_)
        refine pg_iload dX11_late_73 5 rfl ?_
        refine pg_iconst dX11_late_75 ci_0 ?_
        refine pg_callV_oI (As := [pI a6, pI (0 : Int32)]) (rs := []) dX11_late_76 lk_RX11_156 vy_X7_at nd_X7_at (c_X7_at l D h v5 a6 (0 : Int32)) rfl rfl (Nat.le_of_ble_eq_true rfl) (by decide) (by decide) (fun v6 => ?_)
        refine pg_iload_n (i := 2) dX11_late_79 rfl 1 rfl ?_
        refine pg_icmp_ne (tgt := 129) dX11_late_80 rfl ?_ ?_
        · exact pg_to (e_X11_late_129 l D (F_X11_late_46 n) ih a0 a2 a3 a4 a5 a6 h) [0, 1, 2, 3, 4, 5] rfl
        · exact pg_to (e_X11_late_83 l D (F_X11_late_46 n) ih a0 a2 a3 a4 a5 a6 h) [0, 1, 2, 3, 4, 5] rfl
theorem e_X11_late_34 (l : Launch) (D : pg_D)  (a0 : Nat) (a2 : Int32) (a3 : Nat) (h : pg_H) : pg_EvF l D RX11 cX11_late 7 (some FieldType.int) "late" 6 159 pg_wI (F_X11_late_34 a0 a2 a3 h) 34 [(0, pR a0), (2, pI a2), (3, pR a3)] [] h := by
  unfold F_X11_late_34
  refine pg_aload_n (i := 0) dX11_late_34 rfl 0 rfl ?_
  refine pg_callV_wR (As := []) (rs := []) dX11_late_35 lk_RX11_148 vy_X11_freshReadings nd_X11_freshReadings (c_X11_freshReadings l D a0 h) rfl rfl (Nat.le_of_ble_eq_true rfl) (by decide) (by decide) (fun v1 => ?_)
  refine pg_astore (lv' := [(4, pR v1.1), (0, pR a0), (2, pI a2), (3, pR a3)]) dX11_late_38 (by decide) rfl ?_
  refine pg_iconst dX11_late_40 ci_0 ?_
  refine pg_istore (lv' := [(5, pI (0 : Int32)), (4, pR v1.1), (0, pR a0), (2, pI a2), (3, pR a3)]) dX11_late_41 (by decide) rfl ?_
  refine pg_iconst dX11_late_43 ci_0 ?_
  refine pg_istore (lv' := [(6, pI (0 : Int32)), (5, pI (0 : Int32)), (4, pR v1.1), (0, pR a0), (2, pI a2), (3, pR a3)]) dX11_late_44 (by decide) rfl ?_
  exact pg_to (e_X11_late_46 l D pg_fuel a0 a2 a3 v1.1 (0 : Int32) (0 : Int32) v1.2) [3, 4, 5, 2, 1, 0] rfl
theorem e_X11_late (l : Launch) (D : pg_D)  (a0 : Nat) (a1 : Int32) (a2 : Int32) (h : pg_H) : pg_EvF l D RX11 cX11_late 7 (some FieldType.int) "late" 6 159 pg_wI (F_X11_late a0 a1 a2 h) 0 [(0, pR a0), (1, pI a1), (2, pI a2)] [] h := by
  unfold F_X11_late
  refine pg_aload_n (i := 0) dX11_late_0 rfl 0 rfl ?_
  refine pg_getR dX11_late_1 fl_RX11_10 rfl (fun v1 => ?_)
  refine pg_iload_n (i := 1) dX11_late_4 rfl 1 rfl ?_
  refine pg_callV_oR (As := [pI a1]) (rs := []) dX11_late_5 lk_RX11_200 vy_X5_textOf nd_X5_textOf (c_X5_textOf l D h v1 a1) rfl rfl (Nat.le_of_ble_eq_true rfl) (by decide) (by decide) (fun v2 => ?_)
  refine pg_astore_n (i := 3) (lv' := [(3, pR v2), (0, pR a0), (1, pI a1), (2, pI a2)]) dX11_late_8 rfl (by decide) rfl ?_
  refine pg_aload_n (i := 3) dX11_late_9 rfl 0 rfl ?_
  refine pg_ifnull (tgt := 32) dX11_late_10 rfl ?_ ?_
  · refine pg_iconst dX11_late_32 ci_m1 ?_
    exact pg_iret dX11_late_33 rfl rfl
  · refine pg_iload_n (i := 2) dX11_late_13 rfl 3 rfl ?_
    refine pg_iconst dX11_late_14 ci_m1 ?_
    refine pg_icmp_eq (tgt := 34) dX11_late_15 rfl ?_ ?_
    · exact pg_to (e_X11_late_34 l D a0 a2 v2 h) [1, 3, 0] rfl
    · refine pg_aload_n (i := 0) dX11_late_18 rfl 1 rfl ?_
      refine pg_getR dX11_late_19 fl_RX11_10 rfl (fun v3 => ?_)
      refine pg_getR dX11_late_22 fl_RX11_91 rfl (fun v4 => ?_)
      refine pg_iload_n (i := 2) dX11_late_25 rfl 3 rfl ?_
      refine pg_callV_oI (As := [pI a2]) (rs := []) dX11_late_26 lk_RX11_108 vy_X7_holds nd_X7_holds (c_X7_holds l D h v4 a2) rfl rfl (Nat.le_of_ble_eq_true rfl) (by decide) (by decide) (fun v5 => ?_)
      refine pg_if_ne (tgt := 34) dX11_late_29 rfl ?_ ?_
      · exact pg_to (e_X11_late_34 l D a0 a2 v2 h) [1, 3, 0] rfl
      · refine pg_iconst dX11_late_32 ci_m1 ?_
        exact pg_iret dX11_late_33 rfl rfl
theorem c_X11_late (l : Launch) (D : pg_D) (a0 : Nat) (a1 : Int32) (a2 : Int32) (h : pg_H) : ∀ x, F_X11_late a0 a1 a2 h = some x → pg_Ct l D yX11_late cX11_late 7 (some FieldType.int) 6 159 [pR a0, pI a1, pI a2] h (pg_wI x) :=
  pg_Ct.of pn_RX11 (Nat.le_of_ble_eq_true rfl) (e_X11_late l D a0 a1 a2 h)
def F_X11_next_81 (h : pg_H) (k27 : Nat → Int32 → Int32 → Int32 → Int32 → Int32 → Option Int32) (a0 : Nat) (a1 : Int32) (a2 : Int32) (a3 : Int32) (a4 : Int32) (a5 : Int32) : Option Int32 := (k27 a0 a1 a2 a3 a4 (a5 + (1 : Int32)))
def F_X11_next_27 (h : pg_H) : Nat → Nat → Int32 → Int32 → Int32 → Int32 → Int32 → Option Int32
  | 0 => fun _ _ _ _ _ _ => none
  | n + 1 => fun a0 a1 a2 a3 a4 a5 => Option.bind (pg_gR 11 0 h a0) fun v1 => Option.bind (pg_gR 5 0 h v1) fun v2 => Option.bind (pg_rcv 7 h v2 (F_X7_size h v2)) fun v3 => (if a5 < v3 then (if ((a2 >>> (a5 &&& 31)) &&& (1 : Int32)) = 0 then Option.bind (pg_gR 11 0 h a0) fun v4 => Option.bind (pg_rcv 5 h v4 (F_X5_companions h v4 a5)) fun v5 => Option.bind (F_J6_bitCount_0f7a4 (v5 &&& a2)) fun v6 => (if a4 < v6 then (F_X11_next_81 h (F_X11_next_27 h n) a0 a1 a2 a5 v6 a5) else (F_X11_next_81 h (F_X11_next_27 h n) a0 a1 a2 a3 a4 a5)) else (F_X11_next_81 h (F_X11_next_27 h n) a0 a1 a2 a3 a4 a5)) else (if a1 = 0 then (some a3) else (some a4)))
def F_X11_next (h : pg_H) (a0 : Nat) (a1 : Int32) : Option Int32 := Option.bind (F_X11_within a1 (0 : Int32) (1 : Int32)) fun v1 => (if v1 = 0 then (some (-1 : Int32)) else Option.bind (pg_gR 11 0 h a0) fun v2 => Option.bind (pg_rcv 5 h v2 (F_X5_copiesLookedAt h v2)) fun v3 => (F_X11_next_27 h pg_fuel a0 a1 v3 (-1 : Int32) (-1 : Int32) (0 : Int32)))
theorem e_X11_next_81 (l : Launch) (D : pg_D)  (h : pg_H) (k27 : Nat → Int32 → Int32 → Int32 → Int32 → Int32 → Option Int32) (hk27 : ∀ (a0 : Nat) (a1 : Int32) (a2 : Int32) (a3 : Int32) (a4 : Int32) (a5 : Int32), pg_EvF l D RX11 cX11_next 7 (some FieldType.int) "next" 3 73 (pg_oI h) (k27 a0 a1 a2 a3 a4 a5) 27 [(0, pR a0), (1, pI a1), (2, pI a2), (3, pI a3), (4, pI a4), (5, pI a5)] [] h) (a0 : Nat) (a1 : Int32) (a2 : Int32) (a3 : Int32) (a4 : Int32) (a5 : Int32) : pg_EvF l D RX11 cX11_next 7 (some FieldType.int) "next" 3 73 (pg_oI h) (F_X11_next_81 h k27 a0 a1 a2 a3 a4 a5) 81 [(0, pR a0), (1, pI a1), (2, pI a2), (3, pI a3), (4, pI a4), (5, pI a5)] [] h := by
  unfold F_X11_next_81
  refine pg_iinc (lv' := [(5, pI (a5 + (1 : Int32))), (0, pR a0), (1, pI a1), (2, pI a2), (3, pI a3), (4, pI a4)]) dX11_next_81 5 rfl ci_1 (by decide) rfl ?_
  refine pg_goto (tgt := 27) dX11_next_84 rfl ?_
  exact pg_to (hk27 a0 a1 a2 a3 a4 (a5 + (1 : Int32))) [1, 2, 3, 4, 5, 0] rfl
theorem e_X11_next_27 (l : Launch) (D : pg_D)  (h : pg_H) : ∀ (n : Nat) (a0 : Nat) (a1 : Int32) (a2 : Int32) (a3 : Int32) (a4 : Int32) (a5 : Int32), pg_EvF l D RX11 cX11_next 7 (some FieldType.int) "next" 3 73 (pg_oI h) (F_X11_next_27 h n a0 a1 a2 a3 a4 a5) 27 [(0, pR a0), (1, pI a1), (2, pI a2), (3, pI a3), (4, pI a4), (5, pI a5)] [] h := by
  intro n
  induction n with
  | zero => intro a0 a1 a2 a3 a4 a5; exact pg_none
  | succ n ih =>
    intro a0 a1 a2 a3 a4 a5
    rw [F_X11_next_27]
    refine pg_iload dX11_next_27 5 rfl ?_
    refine pg_aload_n (i := 0) dX11_next_29 rfl 0 rfl ?_
    refine pg_getR dX11_next_30 fl_RX11_10 rfl (fun v1 => ?_)
    refine pg_getR dX11_next_33 fl_RX11_91 rfl (fun v2 => ?_)
    refine pg_callV_oI (As := []) (rs := [pI a5]) dX11_next_36 lk_RX11_122 vy_X7_size nd_X7_size (c_X7_size l D h v2) rfl rfl (Nat.le_of_ble_eq_true rfl) (by decide) (by decide) (fun v3 => ?_)
    refine pg_icmp_ge (tgt := 87) dX11_next_39 rfl ?_ ?_
    · refine pg_iload_n (i := 1) dX11_next_87 rfl 1 rfl ?_
      refine pg_if_ne (tgt := 95) dX11_next_88 rfl ?_ ?_
      · refine pg_iload dX11_next_95 4 rfl ?_
        exact pg_iret dX11_next_97 rfl rfl
      · refine pg_iload_n (i := 3) dX11_next_91 rfl 3 rfl ?_
        refine pg_goto (tgt := 97) dX11_next_92 rfl ?_
        exact pg_iret dX11_next_97 rfl rfl
    · refine pg_iload_n (i := 2) dX11_next_42 rfl 2 rfl ?_
      refine pg_iload dX11_next_43 5 rfl ?_
      refine pg_ishr dX11_next_45 ?_
      refine pg_iconst dX11_next_46 ci_1 ?_
      refine pg_iand dX11_next_47 ?_
      refine pg_if_ne (tgt := 81) dX11_next_48 rfl ?_ ?_
      · exact pg_to (e_X11_next_81 l D h (F_X11_next_27 h n) ih a0 a1 a2 a3 a4 a5) [0, 1, 2, 3, 4, 5] rfl
      · refine pg_aload_n (i := 0) dX11_next_51 rfl 0 rfl ?_
        refine pg_getR dX11_next_52 fl_RX11_10 rfl (fun v4 => ?_)
        refine pg_iload dX11_next_55 5 rfl ?_
        refine pg_callV_oI (As := [pI a5]) (rs := []) dX11_next_57 lk_RX11_229 vy_X5_companions nd_X5_companions (c_X5_companions l D h v4 a5) rfl rfl (Nat.le_of_ble_eq_true rfl) (by decide) (by decide) (fun v5 => ?_)
        refine pg_iload_n (i := 2) dX11_next_60 rfl 2 rfl ?_
        refine pg_iand dX11_next_61 ?_
        refine pg_callS_oI (As := [pI (v5 &&& a2)]) (rs := []) dX11_next_62 lk_RX11_210 vy_J6_bitCount_0f7a4 nd_J6_bitCount_0f7a4 (c_J6_bitCount_0f7a4 l D (v5 &&& a2) h) rfl rfl (Nat.le_of_ble_eq_true rfl) (by decide) (by decide) (fun v6 => ?_)
        refine pg_istore (lv' := [(6, pI v6), (0, pR a0), (1, pI a1), (2, pI a2), (3, pI a3), (4, pI a4), (5, pI a5)]) dX11_next_65 (by decide) rfl ?_
        refine pg_iload dX11_next_67 0 rfl ?_
        refine pg_iload dX11_next_69 5 rfl ?_
        refine pg_icmp_le (tgt := 81) dX11_next_71 rfl ?_ ?_
        · exact pg_to (e_X11_next_81 l D h (F_X11_next_27 h n) ih a0 a1 a2 a3 a4 a5) [1, 2, 3, 4, 5, 6] rfl
        · refine pg_iload dX11_next_74 0 rfl ?_
          refine pg_istore (lv' := [(4, pI v6), (6, pI v6), (0, pR a0), (1, pI a1), (2, pI a2), (3, pI a3), (5, pI a5)]) dX11_next_76 (by decide) rfl ?_
          refine pg_iload dX11_next_78 6 rfl ?_
          refine pg_istore_n (i := 3) (lv' := [(3, pI a5), (4, pI v6), (6, pI v6), (0, pR a0), (1, pI a1), (2, pI a2), (5, pI a5)]) dX11_next_80 rfl (by decide) rfl ?_
          exact pg_to (e_X11_next_81 l D h (F_X11_next_27 h n) ih a0 a1 a2 a5 v6 a5) [3, 4, 5, 0, 1, 6] rfl
theorem e_X11_next (l : Launch) (D : pg_D)  (h : pg_H) (a0 : Nat) (a1 : Int32) : pg_EvF l D RX11 cX11_next 7 (some FieldType.int) "next" 3 73 (pg_oI h) (F_X11_next h a0 a1) 0 [(0, pR a0), (1, pI a1)] [] h := by
  unfold F_X11_next
  refine pg_iload_n (i := 1) dX11_next_0 rfl 1 rfl ?_
  refine pg_iconst dX11_next_1 ci_0 ?_
  refine pg_iconst dX11_next_2 ci_1 ?_
  refine pg_callS_oI (As := [pI a1, pI (0 : Int32), pI (1 : Int32)]) (rs := []) dX11_next_3 lk_RX11_83 vy_X11_within nd_X11_within (c_X11_within l D a1 (0 : Int32) (1 : Int32) h) rfl rfl (Nat.le_of_ble_eq_true rfl) (by decide) (by decide) (fun v1 => ?_)
  refine pg_if_ne (tgt := 11) dX11_next_6 rfl ?_ ?_
  · refine pg_aload_n (i := 0) dX11_next_11 rfl 0 rfl ?_
    refine pg_getR dX11_next_12 fl_RX11_10 rfl (fun v2 => ?_)
    refine pg_callV_oI (As := []) (rs := []) dX11_next_15 lk_RX11_332 vy_X5_copiesLookedAt nd_X5_copiesLookedAt (c_X5_copiesLookedAt l D h v2) rfl rfl (Nat.le_of_ble_eq_true rfl) (by decide) (by decide) (fun v3 => ?_)
    refine pg_istore_n (i := 2) (lv' := [(2, pI v3), (0, pR a0), (1, pI a1)]) dX11_next_18 rfl (by decide) rfl ?_
    refine pg_iconst dX11_next_19 ci_m1 ?_
    refine pg_istore_n (i := 3) (lv' := [(3, pI (-1 : Int32)), (2, pI v3), (0, pR a0), (1, pI a1)]) dX11_next_20 rfl (by decide) rfl ?_
    refine pg_iconst dX11_next_21 ci_m1 ?_
    refine pg_istore (lv' := [(4, pI (-1 : Int32)), (3, pI (-1 : Int32)), (2, pI v3), (0, pR a0), (1, pI a1)]) dX11_next_22 (by decide) rfl ?_
    refine pg_iconst dX11_next_24 ci_0 ?_
    refine pg_istore (lv' := [(5, pI (0 : Int32)), (4, pI (-1 : Int32)), (3, pI (-1 : Int32)), (2, pI v3), (0, pR a0), (1, pI a1)]) dX11_next_25 (by decide) rfl ?_
    exact pg_to (e_X11_next_27 l D h pg_fuel a0 a1 v3 (-1 : Int32) (-1 : Int32) (0 : Int32)) [4, 5, 3, 2, 1, 0] rfl
  · refine pg_iconst dX11_next_9 ci_m1 ?_
    exact pg_iret dX11_next_10 rfl rfl
theorem c_X11_next (l : Launch) (D : pg_D) (h : pg_H) (a0 : Nat) (a1 : Int32)  : ∀ x, F_X11_next h a0 a1 = some x → pg_Ct l D yX11_next cX11_next 7 (some FieldType.int) 3 73 [pR a0, pI a1] h (pg_oI h x) :=
  pg_Ct.of pn_RX11 (Nat.le_of_ble_eq_true rfl) (e_X11_next l D h a0 a1)
def F_X11_run (a0 : Nat) (a1 : Int32) (h : pg_H) : Option (Int32 × pg_H) := Option.bind (F_X11_within a1 (0 : Int32) (1000000 : Int32)) fun v1 => (if v1 = 0 then Option.bind (pg_rcv 11 h a0 (F_X11_refuse a0 (-1 : Int32) h)) fun v8 => (some (v8.1, v8.2)) else Option.bind (pg_gR 11 9 h a0) fun v2 => Option.bind (pg_gR 11 0 h a0) fun v3 => Option.bind (pg_rcv 11 h a0 (F_X11_freshStemma a0 h)) fun v4 => Option.bind (pg_gR 11 5 v4.2 a0) fun v5 => Option.bind (pg_rcv 10 v4.2 v2 (F_X10_draw v2 v3 v4.1 v5 a1 v4.2)) fun v6 => Option.bind (pg_rcv 11 v6.2 a0 (F_X11_accept a0 v6.1 v6.2)) fun v7 => (some (v7.1, v7.2)))
theorem e_X11_run (l : Launch) (D : pg_D)  (a0 : Nat) (a1 : Int32) (h : pg_H) : pg_EvF l D RX11 cX11_run 2 (some FieldType.int) "run" 7 179 pg_wI (F_X11_run a0 a1 h) 0 [(0, pR a0), (1, pI a1)] [] h := by
  unfold F_X11_run
  refine pg_iload_n (i := 1) dX11_run_0 rfl 1 rfl ?_
  refine pg_iconst dX11_run_1 ci_0 ?_
  refine pg_ldcw (v := (1000000 : Int32)) dX11_run_2 kc_RX11_335 ?_
  refine pg_callS_oI (As := [pI a1, pI (0 : Int32), pI (1000000 : Int32)]) (rs := []) dX11_run_5 lk_RX11_83 vy_X11_within nd_X11_within (c_X11_within l D a1 (0 : Int32) (1000000 : Int32) h) rfl rfl (Nat.le_of_ble_eq_true rfl) (by decide) (by decide) (fun v1 => ?_)
  refine pg_if_ne (tgt := 17) dX11_run_8 rfl ?_ ?_
  · refine pg_aload_n (i := 0) dX11_run_17 rfl 0 rfl ?_
    refine pg_aload_n (i := 0) dX11_run_18 rfl 0 rfl ?_
    refine pg_getR dX11_run_19 fl_RX11_71 rfl (fun v2 => ?_)
    refine pg_aload_n (i := 0) dX11_run_22 rfl 0 rfl ?_
    refine pg_getR dX11_run_23 fl_RX11_10 rfl (fun v3 => ?_)
    refine pg_aload_n (i := 0) dX11_run_26 rfl 0 rfl ?_
    refine pg_callV_wR (As := []) (rs := [pR v3, pR v2, pR a0]) dX11_run_27 lk_RX11_239 vy_X11_freshStemma nd_X11_freshStemma (c_X11_freshStemma l D a0 h) rfl rfl (Nat.le_of_ble_eq_true rfl) (by decide) (by decide) (fun v4 => ?_)
    refine pg_aload_n (i := 0) dX11_run_30 rfl 0 rfl ?_
    refine pg_getR dX11_run_31 fl_RX11_43 rfl (fun v5 => ?_)
    refine pg_iload_n (i := 1) dX11_run_34 rfl 1 rfl ?_
    refine pg_callV_wI (As := [pR v3, pR v4.1, pR v5, pI a1]) (rs := [pR a0]) dX11_run_35 lk_RX11_336 vy_X10_draw nd_X10_draw (c_X10_draw l D v2 v3 v4.1 v5 a1 v4.2) rfl rfl (Nat.le_of_ble_eq_true rfl) (by decide) (by decide) (fun v6 => ?_)
    refine pg_callV_wI (As := [pI v6.1]) (rs := []) dX11_run_38 lk_RX11_112 vy_X11_accept nd_X11_accept (c_X11_accept l D a0 v6.1 v6.2) rfl rfl (Nat.le_of_ble_eq_true rfl) (by decide) (by decide) (fun v7 => ?_)
    exact pg_iret dX11_run_41 rfl rfl
  · refine pg_aload_n (i := 0) dX11_run_11 rfl 0 rfl ?_
    refine pg_iconst dX11_run_12 ci_m1 ?_
    refine pg_callV_wI (As := [pI (-1 : Int32)]) (rs := []) dX11_run_13 lk_RX11_87 vy_X11_refuse nd_X11_refuse (c_X11_refuse l D a0 (-1 : Int32) h) rfl rfl (Nat.le_of_ble_eq_true rfl) (by decide) (by decide) (fun v8 => ?_)
    exact pg_iret dX11_run_16 rfl rfl
theorem c_X11_run (l : Launch) (D : pg_D) (a0 : Nat) (a1 : Int32) (h : pg_H) : ∀ x, F_X11_run a0 a1 h = some x → pg_Ct l D yX11_run cX11_run 2 (some FieldType.int) 7 179 [pR a0, pI a1] h (pg_wI x) :=
  pg_Ct.of pn_RX11 (Nat.le_of_ble_eq_true rfl) (e_X11_run l D a0 a1 h)
def F_X11_world (h : pg_H) (a0 : Nat) (a1 : Int32) (a2 : Int32) : Option Int32 := Option.bind (pg_gR 11 9 h a0) fun v1 => Option.bind (pg_rcv 10 h v1 (F_X10_hasCopy h v1 a1)) fun v2 => (if v2 = 0 then (some (-1 : Int32)) else Option.bind (F_X11_within a2 (0 : Int32) (2 : Int32)) fun v3 => (if v3 = 0 then (some (-1 : Int32)) else (if a2 = 0 then Option.bind (pg_gR 11 9 h a0) fun v8 => Option.bind (pg_rcv 10 h v8 (F_X10_notesOf h v8 a1)) fun v9 => (some v9) else (if a2 = (1 : Int32) then Option.bind (pg_gR 11 9 h a0) fun v6 => Option.bind (pg_rcv 10 h v6 (F_X10_notesCopied h v6 a1)) fun v7 => (some v7) else Option.bind (pg_gR 11 9 h a0) fun v4 => Option.bind (pg_rcv 10 h v4 (F_X10_holdersOfFirst h v4 a1)) fun v5 => (some v5)))))
theorem e_X11_world (l : Launch) (D : pg_D)  (h : pg_H) (a0 : Nat) (a1 : Int32) (a2 : Int32) : pg_EvF l D RX11 cX11_world 3 (some FieldType.int) "world" 4 89 (pg_oI h) (F_X11_world h a0 a1 a2) 0 [(0, pR a0), (1, pI a1), (2, pI a2)] [] h := by
  unfold F_X11_world
  refine pg_aload_n (i := 0) dX11_world_0 rfl 0 rfl ?_
  refine pg_getR dX11_world_1 fl_RX11_71 rfl (fun v1 => ?_)
  refine pg_iload_n (i := 1) dX11_world_4 rfl 1 rfl ?_
  refine pg_callV_oI (As := [pI a1]) (rs := []) dX11_world_5 lk_RX11_340 vy_X10_hasCopy nd_X10_hasCopy (c_X10_hasCopy l D h v1 a1) rfl rfl (Nat.le_of_ble_eq_true rfl) (by decide) (by decide) (fun v2 => ?_)
  refine pg_if_eq (tgt := 20) dX11_world_8 rfl ?_ ?_
  · refine pg_iconst dX11_world_20 ci_m1 ?_
    exact pg_iret dX11_world_21 rfl rfl
  · refine pg_iload_n (i := 2) dX11_world_11 rfl 2 rfl ?_
    refine pg_iconst dX11_world_12 ci_0 ?_
    refine pg_iconst dX11_world_13 ci_2 ?_
    refine pg_callS_oI (As := [pI a2, pI (0 : Int32), pI (2 : Int32)]) (rs := []) dX11_world_14 lk_RX11_83 vy_X11_within nd_X11_within (c_X11_within l D a2 (0 : Int32) (2 : Int32) h) rfl rfl (Nat.le_of_ble_eq_true rfl) (by decide) (by decide) (fun v3 => ?_)
    refine pg_if_ne (tgt := 22) dX11_world_17 rfl ?_ ?_
    · refine pg_iload_n (i := 2) dX11_world_22 rfl 2 rfl ?_
      refine pg_if_ne (tgt := 35) dX11_world_23 rfl ?_ ?_
      · refine pg_iload_n (i := 2) dX11_world_35 rfl 2 rfl ?_
        refine pg_iconst dX11_world_36 ci_1 ?_
        refine pg_icmp_ne (tgt := 51) dX11_world_37 rfl ?_ ?_
        · refine pg_aload_n (i := 0) dX11_world_51 rfl 0 rfl ?_
          refine pg_getR dX11_world_52 fl_RX11_71 rfl (fun v4 => ?_)
          refine pg_iload_n (i := 1) dX11_world_55 rfl 1 rfl ?_
          refine pg_callV_oI (As := [pI a1]) (rs := []) dX11_world_56 lk_RX11_349 vy_X10_holdersOfFirst nd_X10_holdersOfFirst (c_X10_holdersOfFirst l D h v4 a1) rfl rfl (Nat.le_of_ble_eq_true rfl) (by decide) (by decide) (fun v5 => ?_)
          exact pg_iret dX11_world_59 rfl rfl
        · refine pg_aload_n (i := 0) dX11_world_40 rfl 0 rfl ?_
          refine pg_getR dX11_world_41 fl_RX11_71 rfl (fun v6 => ?_)
          refine pg_iload_n (i := 1) dX11_world_44 rfl 1 rfl ?_
          refine pg_callV_oI (As := [pI a1]) (rs := []) dX11_world_45 lk_RX11_346 vy_X10_notesCopied nd_X10_notesCopied (c_X10_notesCopied l D h v6 a1) rfl rfl (Nat.le_of_ble_eq_true rfl) (by decide) (by decide) (fun v7 => ?_)
          refine pg_goto (tgt := 59) dX11_world_48 rfl ?_
          exact pg_iret dX11_world_59 rfl rfl
      · refine pg_aload_n (i := 0) dX11_world_26 rfl 0 rfl ?_
        refine pg_getR dX11_world_27 fl_RX11_71 rfl (fun v8 => ?_)
        refine pg_iload_n (i := 1) dX11_world_30 rfl 1 rfl ?_
        refine pg_callV_oI (As := [pI a1]) (rs := []) dX11_world_31 lk_RX11_343 vy_X10_notesOf nd_X10_notesOf (c_X10_notesOf l D h v8 a1) rfl rfl (Nat.le_of_ble_eq_true rfl) (by decide) (by decide) (fun v9 => ?_)
        exact pg_iret dX11_world_34 rfl rfl
    · refine pg_iconst dX11_world_20 ci_m1 ?_
      exact pg_iret dX11_world_21 rfl rfl
theorem c_X11_world (l : Launch) (D : pg_D) (h : pg_H) (a0 : Nat) (a1 : Int32) (a2 : Int32)  : ∀ x, F_X11_world h a0 a1 a2 = some x → pg_Ct l D yX11_world cX11_world 3 (some FieldType.int) 4 89 [pR a0, pI a1, pI a2] h (pg_oI h x) :=
  pg_Ct.of pn_RX11 (Nat.le_of_ble_eq_true rfl) (e_X11_world l D h a0 a1 a2)
def F_X11_image (a0 : Nat) (a1 : Int32) (h : pg_H) : Option (Int32 × pg_H) := Option.bind (F_X11_within a1 (0 : Int32) (1 : Int32)) fun v1 => (if v1 = 0 then Option.bind (pg_rcv 11 h a0 (F_X11_refuse a0 (-1 : Int32) h)) fun v9 => (some (v9.1, v9.2)) else Option.bind (pg_gR 11 1 h a0) fun v2 => Option.bind (pg_aR 24 h v2 a1) fun v3 => Option.bind (pg_gR 11 0 h a0) fun v4 => Option.bind (pg_rcv 5 h v3 (F_X5_takeFrom v3 v4 h)) fun v5 => Option.bind (pg_gR 11 2 v5 a0) fun v6 => Option.bind (pg_sI 23 v5 v6 a1 (1 : Int32)) fun v7 => Option.bind (pg_rcv 11 v7 a0 (F_X11_accept a0 (0 : Int32) v7)) fun v8 => (some (v8.1, v8.2)))
theorem e_X11_image (l : Launch) (D : pg_D)  (a0 : Nat) (a1 : Int32) (h : pg_H) : pg_EvF l D RX11 cX11_image 2 (some FieldType.int) "image" 3 103 pg_wI (F_X11_image a0 a1 h) 0 [(0, pR a0), (1, pI a1)] [] h := by
  unfold F_X11_image
  refine pg_iload_n (i := 1) dX11_image_0 rfl 1 rfl ?_
  refine pg_iconst dX11_image_1 ci_0 ?_
  refine pg_iconst dX11_image_2 ci_1 ?_
  refine pg_callS_oI (As := [pI a1, pI (0 : Int32), pI (1 : Int32)]) (rs := []) dX11_image_3 lk_RX11_83 vy_X11_within nd_X11_within (c_X11_within l D a1 (0 : Int32) (1 : Int32) h) rfl rfl (Nat.le_of_ble_eq_true rfl) (by decide) (by decide) (fun v1 => ?_)
  refine pg_if_ne (tgt := 15) dX11_image_6 rfl ?_ ?_
  · refine pg_aload_n (i := 0) dX11_image_15 rfl 0 rfl ?_
    refine pg_getR dX11_image_16 fl_RX11_16 rfl (fun v2 => ?_)
    refine pg_iload_n (i := 1) dX11_image_19 rfl 1 rfl ?_
    refine pg_aaload24 dX11_image_20 (fun v3 => ?_)
    refine pg_aload_n (i := 0) dX11_image_21 rfl 0 rfl ?_
    refine pg_getR dX11_image_22 fl_RX11_10 rfl (fun v4 => ?_)
    refine pg_callV_wV (As := [pR v4]) (rs := []) dX11_image_25 lk_RX11_352 vy_X5_takeFrom nd_X5_takeFrom (c_X5_takeFrom l D v3 v4 h) rfl rfl (Nat.le_of_ble_eq_true rfl) (by decide) (by decide) (fun v5 => ?_)
    refine pg_aload_n (i := 0) dX11_image_28 rfl 0 rfl ?_
    refine pg_getR dX11_image_29 fl_RX11_20 rfl (fun v6 => ?_)
    refine pg_iload_n (i := 1) dX11_image_32 rfl 1 rfl ?_
    refine pg_iconst dX11_image_33 ci_1 ?_
    refine pg_zastore dX11_image_34 (fun v7 => ?_)
    refine pg_aload_n (i := 0) dX11_image_35 rfl 0 rfl ?_
    refine pg_iconst dX11_image_36 ci_0 ?_
    refine pg_callV_wI (As := [pI (0 : Int32)]) (rs := []) dX11_image_37 lk_RX11_112 vy_X11_accept nd_X11_accept (c_X11_accept l D a0 (0 : Int32) v7) rfl rfl (Nat.le_of_ble_eq_true rfl) (by decide) (by decide) (fun v8 => ?_)
    exact pg_iret dX11_image_40 rfl rfl
  · refine pg_aload_n (i := 0) dX11_image_9 rfl 0 rfl ?_
    refine pg_iconst dX11_image_10 ci_m1 ?_
    refine pg_callV_wI (As := [pI (-1 : Int32)]) (rs := []) dX11_image_11 lk_RX11_87 vy_X11_refuse nd_X11_refuse (c_X11_refuse l D a0 (-1 : Int32) h) rfl rfl (Nat.le_of_ble_eq_true rfl) (by decide) (by decide) (fun v9 => ?_)
    exact pg_iret dX11_image_14 rfl rfl
theorem c_X11_image (l : Launch) (D : pg_D) (a0 : Nat) (a1 : Int32) (h : pg_H) : ∀ x, F_X11_image a0 a1 h = some x → pg_Ct l D yX11_image cX11_image 2 (some FieldType.int) 3 103 [pR a0, pI a1] h (pg_wI x) :=
  pg_Ct.of pn_RX11 (Nat.le_of_ble_eq_true rfl) (e_X11_image l D a0 a1 h)
def F_X11_back (a0 : Nat) (a1 : Int32) (h : pg_H) : Option (Int32 × pg_H) := Option.bind (F_X11_within a1 (0 : Int32) (1 : Int32)) fun v1 => (if v1 = 0 then Option.bind (pg_rcv 11 h a0 (F_X11_refuse a0 (-1 : Int32) h)) fun v10 => (some (v10.1, v10.2)) else Option.bind (pg_gR 11 2 h a0) fun v2 => Option.bind (pg_aI 23 h v2 a1) fun v3 => (if v3 = 0 then Option.bind (pg_rcv 11 h a0 (F_X11_refuse a0 (-2 : Int32) h)) fun v9 => (some (v9.1, v9.2)) else Option.bind (pg_gR 11 0 h a0) fun v4 => Option.bind (pg_gR 11 1 h a0) fun v5 => Option.bind (pg_aR 24 h v5 a1) fun v6 => Option.bind (pg_rcv 5 h v4 (F_X5_takeFrom v4 v6 h)) fun v7 => Option.bind (pg_rcv 11 v7 a0 (F_X11_changed a0 (0 : Int32) v7)) fun v8 => (some (v8.1, v8.2))))
theorem e_X11_back (l : Launch) (D : pg_D)  (a0 : Nat) (a1 : Int32) (h : pg_H) : pg_EvF l D RX11 cX11_back 2 (some FieldType.int) "back" 3 103 pg_wI (F_X11_back a0 a1 h) 0 [(0, pR a0), (1, pI a1)] [] h := by
  unfold F_X11_back
  refine pg_iload_n (i := 1) dX11_back_0 rfl 1 rfl ?_
  refine pg_iconst dX11_back_1 ci_0 ?_
  refine pg_iconst dX11_back_2 ci_1 ?_
  refine pg_callS_oI (As := [pI a1, pI (0 : Int32), pI (1 : Int32)]) (rs := []) dX11_back_3 lk_RX11_83 vy_X11_within nd_X11_within (c_X11_within l D a1 (0 : Int32) (1 : Int32) h) rfl rfl (Nat.le_of_ble_eq_true rfl) (by decide) (by decide) (fun v1 => ?_)
  refine pg_if_ne (tgt := 15) dX11_back_6 rfl ?_ ?_
  · refine pg_aload_n (i := 0) dX11_back_15 rfl 0 rfl ?_
    refine pg_getR dX11_back_16 fl_RX11_20 rfl (fun v2 => ?_)
    refine pg_iload_n (i := 1) dX11_back_19 rfl 1 rfl ?_
    refine pg_zaload dX11_back_20 (fun v3 => ?_)
    refine pg_if_ne (tgt := 31) dX11_back_21 rfl ?_ ?_
    · refine pg_aload_n (i := 0) dX11_back_31 rfl 0 rfl ?_
      refine pg_getR dX11_back_32 fl_RX11_10 rfl (fun v4 => ?_)
      refine pg_aload_n (i := 0) dX11_back_35 rfl 0 rfl ?_
      refine pg_getR dX11_back_36 fl_RX11_16 rfl (fun v5 => ?_)
      refine pg_iload_n (i := 1) dX11_back_39 rfl 1 rfl ?_
      refine pg_aaload24 dX11_back_40 (fun v6 => ?_)
      refine pg_callV_wV (As := [pR v6]) (rs := []) dX11_back_41 lk_RX11_352 vy_X5_takeFrom nd_X5_takeFrom (c_X5_takeFrom l D v4 v6 h) rfl rfl (Nat.le_of_ble_eq_true rfl) (by decide) (by decide) (fun v7 => ?_)
      refine pg_aload_n (i := 0) dX11_back_44 rfl 0 rfl ?_
      refine pg_iconst dX11_back_45 ci_0 ?_
      refine pg_callV_wI (As := [pI (0 : Int32)]) (rs := []) dX11_back_46 lk_RX11_105 vy_X11_changed nd_X11_changed (c_X11_changed l D a0 (0 : Int32) v7) rfl rfl (Nat.le_of_ble_eq_true rfl) (by decide) (by decide) (fun v8 => ?_)
      exact pg_iret dX11_back_49 rfl rfl
    · refine pg_aload_n (i := 0) dX11_back_24 rfl 0 rfl ?_
      refine pg_bipush dX11_back_25 cb_m2 ?_
      refine pg_callV_wI (As := [pI (-2 : Int32)]) (rs := []) dX11_back_27 lk_RX11_87 vy_X11_refuse nd_X11_refuse (c_X11_refuse l D a0 (-2 : Int32) h) rfl rfl (Nat.le_of_ble_eq_true rfl) (by decide) (by decide) (fun v9 => ?_)
      exact pg_iret dX11_back_30 rfl rfl
  · refine pg_aload_n (i := 0) dX11_back_9 rfl 0 rfl ?_
    refine pg_iconst dX11_back_10 ci_m1 ?_
    refine pg_callV_wI (As := [pI (-1 : Int32)]) (rs := []) dX11_back_11 lk_RX11_87 vy_X11_refuse nd_X11_refuse (c_X11_refuse l D a0 (-1 : Int32) h) rfl rfl (Nat.le_of_ble_eq_true rfl) (by decide) (by decide) (fun v10 => ?_)
    exact pg_iret dX11_back_14 rfl rfl
theorem c_X11_back (l : Launch) (D : pg_D) (a0 : Nat) (a1 : Int32) (h : pg_H) : ∀ x, F_X11_back a0 a1 h = some x → pg_Ct l D yX11_back cX11_back 2 (some FieldType.int) 3 103 [pR a0, pI a1] h (pg_wI x) :=
  pg_Ct.of pn_RX11 (Nat.le_of_ble_eq_true rfl) (e_X11_back l D a0 a1 h)
def F_X11_count (h : pg_H) (a0 : Nat) (a1 : Int32) : Option Int32 := (if a1 = (0 : Int32) then Option.bind (pg_gR 11 0 h a0) fun v1 => Option.bind (pg_gR 5 0 h v1) fun v2 => Option.bind (pg_rcv 7 h v2 (F_X7_size h v2)) fun v3 => (some v3) else (if a1 = (1 : Int32) then Option.bind (pg_gR 11 0 h a0) fun v4 => Option.bind (pg_gR 5 1 h v4) fun v5 => Option.bind (pg_rcv 7 h v5 (F_X7_size h v5)) fun v6 => (some v6) else (if a1 = (2 : Int32) then Option.bind (pg_gR 11 0 h a0) fun v7 => Option.bind (pg_gR 5 2 h v7) fun v8 => Option.bind (pg_rcv 7 h v8 (F_X7_size h v8)) fun v9 => (some v9) else (if a1 = (3 : Int32) then Option.bind (pg_gR 11 0 h a0) fun v10 => Option.bind (pg_gR 5 4 h v10) fun v11 => Option.bind (pg_rcv 7 h v11 (F_X7_size h v11)) fun v12 => (some v12) else (if a1 = (4 : Int32) then Option.bind (pg_gR 11 0 h a0) fun v13 => Option.bind (pg_gI 5 7 h v13) fun v14 => (some v14) else (if a1 = (5 : Int32) then Option.bind (pg_gR 11 0 h a0) fun v15 => Option.bind (pg_rcv 5 h v15 (F_X5_copiesLookedAt h v15)) fun v16 => Option.bind (F_J6_bitCount_0f7a4 v16) fun v17 => (some v17) else (if a1 = (6 : Int32) then Option.bind (pg_gR 11 0 h a0) fun v18 => Option.bind (pg_rcv 5 h v18 (F_X5_notesWritten h v18)) fun v19 => (some v19) else (if a1 = (7 : Int32) then Option.bind (pg_gR 11 3 h a0) fun v20 => Option.bind (pg_rcv 8 h v20 (F_X8_size h v20)) fun v21 => (some v21) else (if a1 = (8 : Int32) then Option.bind (pg_gR 11 10 h a0) fun v22 => Option.bind (pg_aI 21 h v22 (1 : Int32)) fun v23 => (some v23) else (if a1 = (9 : Int32) then Option.bind (pg_gR 11 10 h a0) fun v24 => Option.bind (pg_aI 21 h v24 (2 : Int32)) fun v25 => (some v25) else (if a1 = (10 : Int32) then Option.bind (pg_gR 11 10 h a0) fun v26 => Option.bind (pg_aI 21 h v26 (3 : Int32)) fun v27 => (some v27) else (if a1 = (11 : Int32) then Option.bind (pg_gR 11 10 h a0) fun v28 => Option.bind (pg_aI 21 h v28 (5 : Int32)) fun v29 => (some v29) else (if a1 = (12 : Int32) then Option.bind (pg_gR 11 10 h a0) fun v30 => Option.bind (pg_aI 21 h v30 (6 : Int32)) fun v31 => (some v31) else (if a1 = (13 : Int32) then Option.bind (pg_gR 11 0 h a0) fun v32 => Option.bind (pg_gI 5 8 h v32) fun v33 => (some v33) else (some (-1 : Int32))))))))))))))))
theorem e_X11_count (l : Launch) (D : pg_D)  (h : pg_H) (a0 : Nat) (a1 : Int32) : pg_EvF l D RX11 cX11_count 2 (some FieldType.int) "count" 2 44 (pg_oI h) (F_X11_count h a0 a1) 0 [(0, pR a0), (1, pI a1)] [] h := by
  unfold F_X11_count
  refine pg_iload_n (i := 1) dX11_count_0 rfl 1 rfl ?_
  refine pg_ite (fun hc0 => ?_) (fun hn0 => ?_)
  · refine pg_swIn (tgt := 72) (j := 0) dX11_count_1 (by rw [hc0]; decide) (by decide) rfl rfl ?_
    refine pg_aload_n (i := 0) dX11_count_72 rfl 0 rfl ?_
    refine pg_getR dX11_count_73 fl_RX11_10 rfl (fun v1 => ?_)
    refine pg_getR dX11_count_76 fl_RX11_91 rfl (fun v2 => ?_)
    refine pg_callV_oI (As := []) (rs := []) dX11_count_79 lk_RX11_122 vy_X7_size nd_X7_size (c_X7_size l D h v2) rfl rfl (Nat.le_of_ble_eq_true rfl) (by decide) (by decide) (fun v3 => ?_)
    exact pg_iret dX11_count_82 rfl rfl
  refine pg_ite (fun hc1 => ?_) (fun hn1 => ?_)
  · refine pg_swIn (tgt := 83) (j := 1) dX11_count_1 (by rw [hc1]; decide) (by decide) rfl rfl ?_
    refine pg_aload_n (i := 0) dX11_count_83 rfl 0 rfl ?_
    refine pg_getR dX11_count_84 fl_RX11_10 rfl (fun v4 => ?_)
    refine pg_getR dX11_count_87 fl_RX11_119 rfl (fun v5 => ?_)
    refine pg_callV_oI (As := []) (rs := []) dX11_count_90 lk_RX11_122 vy_X7_size nd_X7_size (c_X7_size l D h v5) rfl rfl (Nat.le_of_ble_eq_true rfl) (by decide) (by decide) (fun v6 => ?_)
    exact pg_iret dX11_count_93 rfl rfl
  refine pg_ite (fun hc2 => ?_) (fun hn2 => ?_)
  · refine pg_swIn (tgt := 94) (j := 2) dX11_count_1 (by rw [hc2]; decide) (by decide) rfl rfl ?_
    refine pg_aload_n (i := 0) dX11_count_94 rfl 0 rfl ?_
    refine pg_getR dX11_count_95 fl_RX11_10 rfl (fun v7 => ?_)
    refine pg_getR dX11_count_98 fl_RX11_125 rfl (fun v8 => ?_)
    refine pg_callV_oI (As := []) (rs := []) dX11_count_101 lk_RX11_122 vy_X7_size nd_X7_size (c_X7_size l D h v8) rfl rfl (Nat.le_of_ble_eq_true rfl) (by decide) (by decide) (fun v9 => ?_)
    exact pg_iret dX11_count_104 rfl rfl
  refine pg_ite (fun hc3 => ?_) (fun hn3 => ?_)
  · refine pg_swIn (tgt := 105) (j := 3) dX11_count_1 (by rw [hc3]; decide) (by decide) rfl rfl ?_
    refine pg_aload_n (i := 0) dX11_count_105 rfl 0 rfl ?_
    refine pg_getR dX11_count_106 fl_RX11_10 rfl (fun v10 => ?_)
    refine pg_getR dX11_count_109 fl_RX11_145 rfl (fun v11 => ?_)
    refine pg_callV_oI (As := []) (rs := []) dX11_count_112 lk_RX11_122 vy_X7_size nd_X7_size (c_X7_size l D h v11) rfl rfl (Nat.le_of_ble_eq_true rfl) (by decide) (by decide) (fun v12 => ?_)
    exact pg_iret dX11_count_115 rfl rfl
  refine pg_ite (fun hc4 => ?_) (fun hn4 => ?_)
  · refine pg_swIn (tgt := 116) (j := 4) dX11_count_1 (by rw [hc4]; decide) (by decide) rfl rfl ?_
    refine pg_aload_n (i := 0) dX11_count_116 rfl 0 rfl ?_
    refine pg_getR dX11_count_117 fl_RX11_10 rfl (fun v13 => ?_)
    refine pg_getI dX11_count_120 fl_RX11_186 rfl (fun v14 => ?_)
    exact pg_iret dX11_count_123 rfl rfl
  refine pg_ite (fun hc5 => ?_) (fun hn5 => ?_)
  · refine pg_swIn (tgt := 124) (j := 5) dX11_count_1 (by rw [hc5]; decide) (by decide) rfl rfl ?_
    refine pg_aload_n (i := 0) dX11_count_124 rfl 0 rfl ?_
    refine pg_getR dX11_count_125 fl_RX11_10 rfl (fun v15 => ?_)
    refine pg_callV_oI (As := []) (rs := []) dX11_count_128 lk_RX11_332 vy_X5_copiesLookedAt nd_X5_copiesLookedAt (c_X5_copiesLookedAt l D h v15) rfl rfl (Nat.le_of_ble_eq_true rfl) (by decide) (by decide) (fun v16 => ?_)
    refine pg_callS_oI (As := [pI v16]) (rs := []) dX11_count_131 lk_RX11_210 vy_J6_bitCount_0f7a4 nd_J6_bitCount_0f7a4 (c_J6_bitCount_0f7a4 l D v16 h) rfl rfl (Nat.le_of_ble_eq_true rfl) (by decide) (by decide) (fun v17 => ?_)
    exact pg_iret dX11_count_134 rfl rfl
  refine pg_ite (fun hc6 => ?_) (fun hn6 => ?_)
  · refine pg_swIn (tgt := 135) (j := 6) dX11_count_1 (by rw [hc6]; decide) (by decide) rfl rfl ?_
    refine pg_aload_n (i := 0) dX11_count_135 rfl 0 rfl ?_
    refine pg_getR dX11_count_136 fl_RX11_10 rfl (fun v18 => ?_)
    refine pg_callV_oI (As := []) (rs := []) dX11_count_139 lk_RX11_356 vy_X5_notesWritten nd_X5_notesWritten (c_X5_notesWritten l D h v18) rfl rfl (Nat.le_of_ble_eq_true rfl) (by decide) (by decide) (fun v19 => ?_)
    exact pg_iret dX11_count_142 rfl rfl
  refine pg_ite (fun hc7 => ?_) (fun hn7 => ?_)
  · refine pg_swIn (tgt := 143) (j := 7) dX11_count_1 (by rw [hc7]; decide) (by decide) rfl rfl ?_
    refine pg_aload_n (i := 0) dX11_count_143 rfl 0 rfl ?_
    refine pg_getR dX11_count_144 fl_RX11_27 rfl (fun v20 => ?_)
    refine pg_callV_oI (As := []) (rs := []) dX11_count_147 lk_RX11_176 vy_X8_size nd_X8_size (c_X8_size l D h v20) rfl rfl (Nat.le_of_ble_eq_true rfl) (by decide) (by decide) (fun v21 => ?_)
    exact pg_iret dX11_count_150 rfl rfl
  refine pg_ite (fun hc8 => ?_) (fun hn8 => ?_)
  · refine pg_swIn (tgt := 151) (j := 8) dX11_count_1 (by rw [hc8]; decide) (by decide) rfl rfl ?_
    refine pg_aload_n (i := 0) dX11_count_151 rfl 0 rfl ?_
    refine pg_getR dX11_count_152 fl_RX11_75 rfl (fun v22 => ?_)
    refine pg_iconst dX11_count_155 ci_1 ?_
    refine pg_iaload dX11_count_156 (fun v23 => ?_)
    exact pg_iret dX11_count_157 rfl rfl
  refine pg_ite (fun hc9 => ?_) (fun hn9 => ?_)
  · refine pg_swIn (tgt := 158) (j := 9) dX11_count_1 (by rw [hc9]; decide) (by decide) rfl rfl ?_
    refine pg_aload_n (i := 0) dX11_count_158 rfl 0 rfl ?_
    refine pg_getR dX11_count_159 fl_RX11_75 rfl (fun v24 => ?_)
    refine pg_iconst dX11_count_162 ci_2 ?_
    refine pg_iaload dX11_count_163 (fun v25 => ?_)
    exact pg_iret dX11_count_164 rfl rfl
  refine pg_ite (fun hc10 => ?_) (fun hn10 => ?_)
  · refine pg_swIn (tgt := 165) (j := 10) dX11_count_1 (by rw [hc10]; decide) (by decide) rfl rfl ?_
    refine pg_aload_n (i := 0) dX11_count_165 rfl 0 rfl ?_
    refine pg_getR dX11_count_166 fl_RX11_75 rfl (fun v26 => ?_)
    refine pg_iconst dX11_count_169 ci_3 ?_
    refine pg_iaload dX11_count_170 (fun v27 => ?_)
    exact pg_iret dX11_count_171 rfl rfl
  refine pg_ite (fun hc11 => ?_) (fun hn11 => ?_)
  · refine pg_swIn (tgt := 172) (j := 11) dX11_count_1 (by rw [hc11]; decide) (by decide) rfl rfl ?_
    refine pg_aload_n (i := 0) dX11_count_172 rfl 0 rfl ?_
    refine pg_getR dX11_count_173 fl_RX11_75 rfl (fun v28 => ?_)
    refine pg_iconst dX11_count_176 ci_5 ?_
    refine pg_iaload dX11_count_177 (fun v29 => ?_)
    exact pg_iret dX11_count_178 rfl rfl
  refine pg_ite (fun hc12 => ?_) (fun hn12 => ?_)
  · refine pg_swIn (tgt := 179) (j := 12) dX11_count_1 (by rw [hc12]; decide) (by decide) rfl rfl ?_
    refine pg_aload_n (i := 0) dX11_count_179 rfl 0 rfl ?_
    refine pg_getR dX11_count_180 fl_RX11_75 rfl (fun v30 => ?_)
    refine pg_bipush dX11_count_183 cb_6 ?_
    refine pg_iaload dX11_count_185 (fun v31 => ?_)
    exact pg_iret dX11_count_186 rfl rfl
  refine pg_ite (fun hc13 => ?_) (fun hn13 => ?_)
  · refine pg_swIn (tgt := 187) (j := 13) dX11_count_1 (by rw [hc13]; decide) (by decide) rfl rfl ?_
    refine pg_aload_n (i := 0) dX11_count_187 rfl 0 rfl ?_
    refine pg_getR dX11_count_188 fl_RX11_10 rfl (fun v32 => ?_)
    refine pg_getI dX11_count_191 fl_RX11_204 rfl (fun v33 => ?_)
    exact pg_iret dX11_count_194 rfl rfl
  refine pg_swOut (tgt := 195) dX11_count_1 (pg_swR (lo := 0) (n := 14) (by decide) (fun j hj => ?_)) rfl ?_
  · match j, hj with
    | 0, _ => exact pg_ne hn0 (by decide)
    | 1, _ => exact pg_ne hn1 (by decide)
    | 2, _ => exact pg_ne hn2 (by decide)
    | 3, _ => exact pg_ne hn3 (by decide)
    | 4, _ => exact pg_ne hn4 (by decide)
    | 5, _ => exact pg_ne hn5 (by decide)
    | 6, _ => exact pg_ne hn6 (by decide)
    | 7, _ => exact pg_ne hn7 (by decide)
    | 8, _ => exact pg_ne hn8 (by decide)
    | 9, _ => exact pg_ne hn9 (by decide)
    | 10, _ => exact pg_ne hn10 (by decide)
    | 11, _ => exact pg_ne hn11 (by decide)
    | 12, _ => exact pg_ne hn12 (by decide)
    | 13, _ => exact pg_ne hn13 (by decide)
    | q + 14, hj => exact absurd hj (by omega)
  · refine pg_iconst dX11_count_195 ci_m1 ?_
    exact pg_iret dX11_count_196 rfl rfl
theorem c_X11_count (l : Launch) (D : pg_D) (h : pg_H) (a0 : Nat) (a1 : Int32)  : ∀ x, F_X11_count h a0 a1 = some x → pg_Ct l D yX11_count cX11_count 2 (some FieldType.int) 2 44 [pR a0, pI a1] h (pg_oI h x) :=
  pg_Ct.of pn_RX11 (Nat.le_of_ble_eq_true rfl) (e_X11_count l D h a0 a1)
def F_X11_status (h : pg_H) (a0 : Nat) : Option Int32 := Option.bind (pg_gI 11 11 h a0) fun v1 => (some v1)
theorem e_X11_status (l : Launch) (D : pg_D)  (h : pg_H) (a0 : Nat) : pg_EvF l D RX11 cX11_status 1 (some FieldType.int) "status" 0 0 (pg_oI h) (F_X11_status h a0) 0 [(0, pR a0)] [] h := by
  unfold F_X11_status
  refine pg_aload_n (i := 0) dX11_status_0 rfl 0 rfl ?_
  refine pg_getI dX11_status_1 fl_RX11_359 rfl (fun v1 => ?_)
  exact pg_iret dX11_status_4 rfl rfl
theorem c_X11_status (l : Launch) (D : pg_D) (h : pg_H) (a0 : Nat)  : ∀ x, F_X11_status h a0 = some x → pg_Ct l D yX11_status cX11_status 1 (some FieldType.int) 0 0 [pR a0] h (pg_oI h x) :=
  pg_Ct.of pn_RX11 (Nat.le_of_ble_eq_true rfl) (e_X11_status l D h a0)
def F_X12_lies (a0 : Int32) (a1 : Int32) (a2 : Int32) : Option Int32 := (if a0 < a1 then (some (0 : Int32)) else (if a2 < a0 then (some (0 : Int32)) else (some (1 : Int32))))
theorem e_X12_lies (l : Launch) (D : pg_D)  (a0 : Int32) (a1 : Int32) (a2 : Int32) (h : pg_H) : pg_EvF l D RX12 cX12_lies 3 (some FieldType.boolean) "lies" 0 0 (pg_oI h) (F_X12_lies a0 a1 a2) 0 [(0, pI a0), (1, pI a1), (2, pI a2)] [] h := by
  unfold F_X12_lies
  refine pg_iload_n (i := 0) dX12_lies_0 rfl 0 rfl ?_
  refine pg_iload_n (i := 1) dX12_lies_1 rfl 1 rfl ?_
  refine pg_icmp_lt (tgt := 14) dX12_lies_2 rfl ?_ ?_
  · refine pg_iconst dX12_lies_14 ci_0 ?_
    exact pg_zret dX12_lies_15 rfl (Or.inl rfl) rfl
  · refine pg_iload_n (i := 0) dX12_lies_5 rfl 0 rfl ?_
    refine pg_iload_n (i := 2) dX12_lies_6 rfl 2 rfl ?_
    refine pg_icmp_gt (tgt := 14) dX12_lies_7 rfl ?_ ?_
    · refine pg_iconst dX12_lies_14 ci_0 ?_
      exact pg_zret dX12_lies_15 rfl (Or.inl rfl) rfl
    · refine pg_iconst dX12_lies_10 ci_1 ?_
      refine pg_goto (tgt := 15) dX12_lies_11 rfl ?_
      exact pg_zret dX12_lies_15 rfl (Or.inr rfl) rfl
theorem c_X12_lies (l : Launch) (D : pg_D) (a0 : Int32) (a1 : Int32) (a2 : Int32) (h : pg_H) : ∀ x, F_X12_lies a0 a1 a2 = some x → pg_Ct l D yX12_lies cX12_lies 3 (some FieldType.boolean) 0 0 [pI a0, pI a1, pI a2] h (pg_oI h x) :=
  pg_Ct.of pn_RX12 (Nat.le_of_ble_eq_true rfl) (e_X12_lies l D a0 a1 a2 h)
def F_X12_refuses (a0 : Nat) (a1 : Int32) (h : pg_H) : Option (Int32 × pg_H) := Option.bind (pg_pI 12 0 h a0 a1) fun v1 => Option.bind (pg_gR 12 2 v1 a0) fun v2 => pg_let (-a1) fun v3 => Option.bind (pg_aI 21 v1 v2 v3) fun v4 => Option.bind (pg_sI 21 v1 v2 v3 (v4 + (1 : Int32))) fun v5 => (some (a1, v5))
theorem e_X12_refuses (l : Launch) (D : pg_D)  (a0 : Nat) (a1 : Int32) (h : pg_H) : pg_EvF l D RX12 cX12_refuses 2 (some FieldType.int) "refuses" 0 0 pg_wI (F_X12_refuses a0 a1 h) 0 [(0, pR a0), (1, pI a1)] [] h := by
  unfold F_X12_refuses
  refine pg_aload_n (i := 0) dX12_refuses_0 rfl 0 rfl ?_
  refine pg_iload_n (i := 1) dX12_refuses_1 rfl 1 rfl ?_
  refine pg_putI dX12_refuses_2 fl_RX12_3 (fun z => by cases z) (fun v1 => ?_)
  refine pg_aload_n (i := 0) dX12_refuses_5 rfl 0 rfl ?_
  refine pg_getR dX12_refuses_6 fl_RX12_7 rfl (fun v2 => ?_)
  refine pg_iload_n (i := 1) dX12_refuses_9 rfl 1 rfl ?_
  refine pg_ineg dX12_refuses_10 ?_
  refine pg_letI (fun v3 => ?_)
  refine pg_dup2 dX12_refuses_11 rfl rfl ?_
  refine pg_iaload dX12_refuses_12 (fun v4 => ?_)
  refine pg_iconst dX12_refuses_13 ci_1 ?_
  refine pg_iadd dX12_refuses_14 ?_
  refine pg_iastore dX12_refuses_15 (fun v5 => ?_)
  refine pg_iload_n (i := 1) dX12_refuses_16 rfl 1 rfl ?_
  exact pg_iret dX12_refuses_17 rfl rfl
theorem c_X12_refuses (l : Launch) (D : pg_D) (a0 : Nat) (a1 : Int32) (h : pg_H) : ∀ x, F_X12_refuses a0 a1 h = some x → pg_Ct l D yX12_refuses cX12_refuses 2 (some FieldType.int) 0 0 [pR a0, pI a1] h (pg_wI x) :=
  pg_Ct.of pn_RX12 (Nat.le_of_ble_eq_true rfl) (e_X12_refuses l D a0 a1 h)
def F_X12_good (a0 : Nat) (a1 : Int32) (h : pg_H) : Option (Int32 × pg_H) := Option.bind (pg_pI 12 0 h a0 (0 : Int32)) fun v1 => Option.bind (pg_gI 12 1 v1 a0) fun v2 => Option.bind (pg_pI 12 1 v1 a0 (v2 + (1 : Int32))) fun v3 => (some (a1, v3))
theorem e_X12_good (l : Launch) (D : pg_D)  (a0 : Nat) (a1 : Int32) (h : pg_H) : pg_EvF l D RX12 cX12_good 2 (some FieldType.int) "good" 0 0 pg_wI (F_X12_good a0 a1 h) 0 [(0, pR a0), (1, pI a1)] [] h := by
  unfold F_X12_good
  refine pg_aload_n (i := 0) dX12_good_0 rfl 0 rfl ?_
  refine pg_iconst dX12_good_1 ci_0 ?_
  refine pg_putI dX12_good_2 fl_RX12_3 (fun z => by cases z) (fun v1 => ?_)
  refine pg_aload_n (i := 0) dX12_good_5 rfl 0 rfl ?_
  refine pg_dup dX12_good_6 rfl ?_
  refine pg_getI dX12_good_7 fl_RX12_11 rfl (fun v2 => ?_)
  refine pg_iconst dX12_good_10 ci_1 ?_
  refine pg_iadd dX12_good_11 ?_
  refine pg_putI dX12_good_12 fl_RX12_11 (fun z => by cases z) (fun v3 => ?_)
  refine pg_iload_n (i := 1) dX12_good_15 rfl 1 rfl ?_
  exact pg_iret dX12_good_16 rfl rfl
theorem c_X12_good (l : Launch) (D : pg_D) (a0 : Nat) (a1 : Int32) (h : pg_H) : ∀ x, F_X12_good a0 a1 h = some x → pg_Ct l D yX12_good cX12_good 2 (some FieldType.int) 0 0 [pR a0, pI a1] h (pg_wI x) :=
  pg_Ct.of pn_RX12 (Nat.le_of_ble_eq_true rfl) (e_X12_good l D a0 a1 h)
