def F_X12_joins (a0 : Nat) (a1 : Int32) (h : pg_H) : Option (Int32 × pg_H) := Option.bind (pg_rcv 12 h a0 (F_X12_isCopy h a0 a1)) fun v1 => (if v1 = 0 then (some ((-1000000 : Int32), h)) else Option.bind (pg_rcv 12 h a0 (F_X12_joinsAll a0 a1 h)) fun v2 => Option.bind (pg_rcv 12 v2 a0 (F_X12_familiesBut v2 a0 a1)) fun v3 => Option.bind (pg_rcv 12 v2 a0 (F_X12_joinsAll a0 (-1 : Int32) v2)) fun v4 => Option.bind (pg_rcv 12 v4 a0 (F_X12_familiesBut v4 a0 a1)) fun v5 => (some ((v3 - v5), v4)))
theorem e_X12_joins (l : Launch) (D : pg_D)  (a0 : Nat) (a1 : Int32) (h : pg_H) : pg_EvF l D RX12 cX12_joins 3 (some FieldType.int) "joins" 1307 33980 pg_wI (F_X12_joins a0 a1 h) 0 [(0, pR a0), (1, pI a1)] [] h := by
  unfold F_X12_joins
  refine pg_aload_n (i := 0) dX12_joins_0 rfl 0 rfl ?_
  refine pg_iload_n (i := 1) dX12_joins_1 rfl 1 rfl ?_
  refine pg_callV_oI (As := [pI a1]) (rs := []) dX12_joins_2 lk_RX12_128 vy_X12_isCopy nd_X12_isCopy (c_X12_isCopy l D h a0 a1) rfl rfl (Nat.le_of_ble_eq_true rfl) (by decide) (by decide) (fun v1 => ?_)
  refine pg_if_ne (tgt := 12) dX12_joins_5 rfl ?_ ?_
  · refine pg_aload_n (i := 0) dX12_joins_12 rfl 0 rfl ?_
    refine pg_iload_n (i := 1) dX12_joins_13 rfl 1 rfl ?_
    refine pg_callV_wV (As := [pI a1]) (rs := []) dX12_joins_14 lk_RX12_359 vy_X12_joinsAll nd_X12_joinsAll (c_X12_joinsAll l D a0 a1 h) rfl rfl (Nat.le_of_ble_eq_true rfl) (by decide) (by decide) (fun v2 => ?_)
    refine pg_aload_n (i := 0) dX12_joins_17 rfl 0 rfl ?_
    refine pg_iload_n (i := 1) dX12_joins_18 rfl 1 rfl ?_
    refine pg_callV_oI (As := [pI a1]) (rs := []) dX12_joins_19 lk_RX12_362 vy_X12_familiesBut nd_X12_familiesBut (c_X12_familiesBut l D v2 a0 a1) rfl rfl (Nat.le_of_ble_eq_true rfl) (by decide) (by decide) (fun v3 => ?_)
    refine pg_istore_n (i := 2) (lv' := [(2, pI v3), (0, pR a0), (1, pI a1)]) dX12_joins_22 rfl (by decide) rfl ?_
    refine pg_aload_n (i := 0) dX12_joins_23 rfl 1 rfl ?_
    refine pg_iconst dX12_joins_24 ci_m1 ?_
    refine pg_callV_wV (As := [pI (-1 : Int32)]) (rs := []) dX12_joins_25 lk_RX12_359 vy_X12_joinsAll nd_X12_joinsAll (c_X12_joinsAll l D a0 (-1 : Int32) v2) rfl rfl (Nat.le_of_ble_eq_true rfl) (by decide) (by decide) (fun v4 => ?_)
    refine pg_iload_n (i := 2) dX12_joins_28 rfl 0 rfl ?_
    refine pg_aload_n (i := 0) dX12_joins_29 rfl 1 rfl ?_
    refine pg_iload_n (i := 1) dX12_joins_30 rfl 2 rfl ?_
    refine pg_callV_oI (As := [pI a1]) (rs := [pI v3]) dX12_joins_31 lk_RX12_362 vy_X12_familiesBut nd_X12_familiesBut (c_X12_familiesBut l D v4 a0 a1) rfl rfl (Nat.le_of_ble_eq_true rfl) (by decide) (by decide) (fun v5 => ?_)
    refine pg_isub dX12_joins_34 ?_
    exact pg_iret dX12_joins_35 rfl rfl
  · refine pg_ldcw (v := (-1000000 : Int32)) dX12_joins_8 kc_RX12_355 ?_
    exact pg_iret dX12_joins_11 rfl rfl
theorem c_X12_joins (l : Launch) (D : pg_D) (a0 : Nat) (a1 : Int32) (h : pg_H) : ∀ x, F_X12_joins a0 a1 h = some x → pg_Ct l D yX12_joins cX12_joins 3 (some FieldType.int) 1307 33980 [pR a0, pI a1] h (pg_wI x) :=
  pg_Ct.of pn_RX12 (Nat.le_of_ble_eq_true rfl) (e_X12_joins l D a0 a1 h)
def F_X12_be_20 (k2 : Nat → Int64 → Int32 → pg_H → Option pg_H) (a0 : Nat) (a1 : Int64) (a3 : Int32) (s0 : Int64) (s1 : Int32) (s2 : Nat) (h : pg_H) : Option pg_H := Option.bind (pg_sL h s2 s1 s0) fun v1 => (k2 a0 a1 (a3 + (1 : Int32)) v1)
def F_X12_be_2  : Nat → Nat → Int64 → Int32 → pg_H → Option pg_H
  | 0 => fun _ _ _ _ => none
  | n + 1 => fun a0 a1 a3 h => (if a3 < (380 : Int32) then (if a3 = 0 then (F_X12_be_20 (F_X12_be_2 n) a0 a1 a3 a1 a3 a0 h) else (F_X12_be_20 (F_X12_be_2 n) a0 a1 a3 (0 : Int64) a3 a0 h)) else (some h))
def F_X12_be (a0 : Nat) (a1 : Int64) (h : pg_H) : Option pg_H := (F_X12_be_2 pg_fuel a0 a1 (0 : Int32) h)
theorem e_X12_be_20 (l : Launch) (D : pg_D)  (k2 : Nat → Int64 → Int32 → pg_H → Option pg_H) (hk2 : ∀ (a0 : Nat) (a1 : Int64) (a3 : Int32) (h : pg_H), pg_EvF l D RX12 cX12_be 4 none "be" 0 0 pg_wV (k2 a0 a1 a3 h) 2 [(0, pR a0), (1, pL a1), (3, pI a3)] [] h) (a0 : Nat) (a1 : Int64) (a3 : Int32) (s0 : Int64) (s1 : Int32) (s2 : Nat) (h : pg_H) : pg_EvF l D RX12 cX12_be 4 none "be" 0 0 pg_wV (F_X12_be_20 k2 a0 a1 a3 s0 s1 s2 h) 20 [(0, pR a0), (1, pL a1), (3, pI a3)] [pL s0, pI s1, pR s2] h := by
  unfold F_X12_be_20
  refine pg_lastore dX12_be_20 (fun v1 => ?_)
  refine pg_iinc (lv' := [(3, pI (a3 + (1 : Int32))), (0, pR a0), (1, pL a1)]) dX12_be_21 2 rfl ci_1 (by decide) rfl ?_
  refine pg_goto (tgt := 2) dX12_be_24 rfl ?_
  exact pg_to (hk2 a0 a1 (a3 + (1 : Int32)) v1) [1, 2, 0] rfl
theorem e_X12_be_2 (l : Launch) (D : pg_D)   : ∀ (n : Nat) (a0 : Nat) (a1 : Int64) (a3 : Int32) (h : pg_H), pg_EvF l D RX12 cX12_be 4 none "be" 0 0 pg_wV (F_X12_be_2 n a0 a1 a3 h) 2 [(0, pR a0), (1, pL a1), (3, pI a3)] [] h := by
  intro n
  induction n with
  | zero => intro a0 a1 a3 h; exact pg_none
  | succ n ih =>
    intro a0 a1 a3 h
    rw [F_X12_be_2]
    refine pg_iload_n (i := 3) dX12_be_2 rfl 2 rfl ?_
    refine pg_sipush dX12_be_3 cs_380 ?_
    refine pg_icmp_ge (tgt := 27) dX12_be_6 rfl ?_ ?_
    · exact pg_vret dX12_be_27 rfl rfl
    · refine pg_aload_n (i := 0) dX12_be_9 rfl 0 rfl ?_
      refine pg_iload_n (i := 3) dX12_be_10 rfl 2 rfl ?_
      refine pg_iload_n (i := 3) dX12_be_11 rfl 2 rfl ?_
      refine pg_if_ne (tgt := 19) dX12_be_12 rfl ?_ ?_
      · refine pg_lconst dX12_be_19 cl_0 ?_
        exact pg_to (e_X12_be_20 l D (F_X12_be_2 n) ih a0 a1 a3 (0 : Int64) a3 a0 h) [0, 1, 2] rfl
      · refine pg_lload_n (i := 1) dX12_be_15 rfl 1 rfl ?_
        refine pg_goto (tgt := 20) dX12_be_16 rfl ?_
        exact pg_to (e_X12_be_20 l D (F_X12_be_2 n) ih a0 a1 a3 a1 a3 a0 h) [0, 1, 2] rfl
theorem e_X12_be (l : Launch) (D : pg_D)  (a0 : Nat) (a1 : Int64) (h : pg_H) : pg_EvF l D RX12 cX12_be 4 none "be" 0 0 pg_wV (F_X12_be a0 a1 h) 0 [(0, pR a0), (1, pL a1)] [] h := by
  unfold F_X12_be
  refine pg_iconst dX12_be_0 ci_0 ?_
  refine pg_istore_n (i := 3) (lv' := [(3, pI (0 : Int32)), (0, pR a0), (1, pL a1)]) dX12_be_1 rfl (by decide) rfl ?_
  exact pg_to (e_X12_be_2 l D pg_fuel a0 a1 (0 : Int32) h) [1, 2, 0] rfl
theorem c_X12_be (l : Launch) (D : pg_D) (a0 : Nat) (a1 : Int64) (h : pg_H) : ∀ x, F_X12_be a0 a1 h = some x → pg_Ct l D yX12_be cX12_be 4 none 0 0 [pR a0, pL a1] h (pg_wV x) :=
  pg_Ct.of pn_RX12 (Nat.le_of_ble_eq_true rfl) (e_X12_be l D a0 a1 h)
def F_X12_makes_13 (k2 : Nat → Int32 → Int32 → Int32 → pg_H → Option pg_H) : Nat → Nat → Int32 → Int32 → Int32 → Int64 → Int32 → pg_H → Option pg_H
  | 0 => fun _ _ _ _ _ _ _ => none
  | n + 1 => fun a0 a1 a2 a3 a4 a6 h => (if a6 < (380 : Int32) then Option.bind (pg_aL h a0 a6) fun v1 => pg_let ((v1 * (a1).toInt64) + a4) fun v2 => (if (100000000 : Int64) = 0 then none else Option.bind (pg_sL h a0 a6 (v2 - v2 / (100000000 : Int64) * (100000000 : Int64))) fun v3 => (if (100000000 : Int64) = 0 then none else pg_let (v2 / (100000000 : Int64)) fun v4 => (F_X12_makes_13 k2 n a0 a1 a2 a3 v4 (a6 + (1 : Int32)) v3))) else (k2 a0 a1 a2 (a3 + (1 : Int32)) h))
def F_X12_makes_2  : Nat → Nat → Int32 → Int32 → Int32 → pg_H → Option pg_H
  | 0 => fun _ _ _ _ _ => none
  | n + 1 => fun a0 a1 a2 a3 h => (if a3 < a2 then (F_X12_makes_13 (F_X12_makes_2 n) pg_fuel a0 a1 a2 a3 (0 : Int64) (0 : Int32) h) else (some h))
def F_X12_makes (a0 : Nat) (a1 : Int32) (a2 : Int32) (h : pg_H) : Option pg_H := (F_X12_makes_2 pg_fuel a0 a1 a2 (0 : Int32) h)
theorem e_X12_makes_13 (l : Launch) (D : pg_D)  (k2 : Nat → Int32 → Int32 → Int32 → pg_H → Option pg_H) (hk2 : ∀ (a0 : Nat) (a1 : Int32) (a2 : Int32) (a3 : Int32) (h : pg_H), pg_EvF l D RX12 cX12_makes 9 none "makes" 0 0 pg_wV (k2 a0 a1 a2 a3 h) 2 [(0, pR a0), (1, pI a1), (2, pI a2), (3, pI a3)] [] h) : ∀ (n : Nat) (a0 : Nat) (a1 : Int32) (a2 : Int32) (a3 : Int32) (a4 : Int64) (a6 : Int32) (h : pg_H), pg_EvF l D RX12 cX12_makes 9 none "makes" 0 0 pg_wV (F_X12_makes_13 k2 n a0 a1 a2 a3 a4 a6 h) 13 [(0, pR a0), (1, pI a1), (2, pI a2), (3, pI a3), (4, pL a4), (6, pI a6)] [] h := by
  intro n
  induction n with
  | zero => intro a0 a1 a2 a3 a4 a6 h; exact pg_none
  | succ n ih =>
    intro a0 a1 a2 a3 a4 a6 h
    rw [F_X12_makes_13]
    refine pg_iload dX12_makes_13 5 rfl ?_
    refine pg_sipush dX12_makes_15 cs_380 ?_
    refine pg_icmp_ge (tgt := 57) dX12_makes_18 rfl ?_ ?_
    · refine pg_iinc (lv' := [(3, pI (a3 + (1 : Int32))), (0, pR a0), (1, pI a1), (2, pI a2), (4, pL a4), (6, pI a6)]) dX12_makes_57 3 rfl ci_1 (by decide) rfl ?_
      refine pg_goto (tgt := 2) dX12_makes_60 rfl ?_
      exact pg_to (hk2 a0 a1 a2 (a3 + (1 : Int32)) h) [1, 2, 3, 0] rfl
    · refine pg_aload_n (i := 0) dX12_makes_21 rfl 0 rfl ?_
      refine pg_iload dX12_makes_22 5 rfl ?_
      refine pg_laload dX12_makes_24 (fun v1 => ?_)
      refine pg_iload_n (i := 1) dX12_makes_25 rfl 1 rfl ?_
      refine pg_i2l dX12_makes_26 ?_
      refine pg_lmul dX12_makes_27 ?_
      refine pg_lload dX12_makes_28 4 rfl ?_
      refine pg_ladd dX12_makes_30 ?_
      refine pg_letL (fun v2 => ?_)
      refine pg_lstore (lv' := [(7, pL v2), (0, pR a0), (1, pI a1), (2, pI a2), (3, pI a3), (4, pL a4), (6, pI a6)]) dX12_makes_31 (by decide) rfl ?_
      refine pg_aload_n (i := 0) dX12_makes_33 rfl 1 rfl ?_
      refine pg_iload dX12_makes_34 6 rfl ?_
      refine pg_lload dX12_makes_36 0 rfl ?_
      refine pg_ldc2 (v := (100000000 : Int64)) dX12_makes_38 kc_RX12_365 ?_
      refine pg_lrem dX12_makes_41 ?_
      refine pg_lastore dX12_makes_42 (fun v3 => ?_)
      refine pg_lload dX12_makes_43 0 rfl ?_
      refine pg_ldc2 (v := (100000000 : Int64)) dX12_makes_45 kc_RX12_365 ?_
      refine pg_ldiv dX12_makes_48 ?_
      refine pg_letL (fun v4 => ?_)
      refine pg_lstore (lv' := [(4, pL v4), (7, pL v2), (0, pR a0), (1, pI a1), (2, pI a2), (3, pI a3), (6, pI a6)]) dX12_makes_49 (by decide) rfl ?_
      refine pg_iinc (lv' := [(6, pI (a6 + (1 : Int32))), (4, pL v4), (7, pL v2), (0, pR a0), (1, pI a1), (2, pI a2), (3, pI a3)]) dX12_makes_51 6 rfl ci_1 (by decide) rfl ?_
      refine pg_goto (tgt := 13) dX12_makes_54 rfl ?_
      exact pg_to (ih a0 a1 a2 a3 v4 (a6 + (1 : Int32)) v3) [3, 4, 5, 6, 1, 0] rfl
theorem e_X12_makes_2 (l : Launch) (D : pg_D)   : ∀ (n : Nat) (a0 : Nat) (a1 : Int32) (a2 : Int32) (a3 : Int32) (h : pg_H), pg_EvF l D RX12 cX12_makes 9 none "makes" 0 0 pg_wV (F_X12_makes_2 n a0 a1 a2 a3 h) 2 [(0, pR a0), (1, pI a1), (2, pI a2), (3, pI a3)] [] h := by
  intro n
  induction n with
  | zero => intro a0 a1 a2 a3 h; exact pg_none
  | succ n ih =>
    intro a0 a1 a2 a3 h
    rw [F_X12_makes_2]
    refine pg_iload_n (i := 3) dX12_makes_2 rfl 3 rfl ?_
    refine pg_iload_n (i := 2) dX12_makes_3 rfl 2 rfl ?_
    refine pg_icmp_ge (tgt := 63) dX12_makes_4 rfl ?_ ?_
    · exact pg_vret dX12_makes_63 rfl rfl
    · refine pg_lconst dX12_makes_7 cl_0 ?_
      refine pg_lstore (lv' := [(4, pL (0 : Int64)), (0, pR a0), (1, pI a1), (2, pI a2), (3, pI a3)]) dX12_makes_8 (by decide) rfl ?_
      refine pg_iconst dX12_makes_10 ci_0 ?_
      refine pg_istore (lv' := [(6, pI (0 : Int32)), (4, pL (0 : Int64)), (0, pR a0), (1, pI a1), (2, pI a2), (3, pI a3)]) dX12_makes_11 (by decide) rfl ?_
      exact pg_to (e_X12_makes_13 l D (F_X12_makes_2 n) ih pg_fuel a0 a1 a2 a3 (0 : Int64) (0 : Int32) h) [2, 3, 4, 5, 1, 0] rfl
theorem e_X12_makes (l : Launch) (D : pg_D)  (a0 : Nat) (a1 : Int32) (a2 : Int32) (h : pg_H) : pg_EvF l D RX12 cX12_makes 9 none "makes" 0 0 pg_wV (F_X12_makes a0 a1 a2 h) 0 [(0, pR a0), (1, pI a1), (2, pI a2)] [] h := by
  unfold F_X12_makes
  refine pg_iconst dX12_makes_0 ci_0 ?_
  refine pg_istore_n (i := 3) (lv' := [(3, pI (0 : Int32)), (0, pR a0), (1, pI a1), (2, pI a2)]) dX12_makes_1 rfl (by decide) rfl ?_
  exact pg_to (e_X12_makes_2 l D pg_fuel a0 a1 a2 (0 : Int32) h) [1, 2, 3, 0] rfl
theorem c_X12_makes (l : Launch) (D : pg_D) (a0 : Nat) (a1 : Int32) (a2 : Int32) (h : pg_H) : ∀ x, F_X12_makes a0 a1 a2 h = some x → pg_Ct l D yX12_makes cX12_makes 9 none 0 0 [pR a0, pI a1, pI a2] h (pg_wV x) :=
  pg_Ct.of pn_RX12 (Nat.le_of_ble_eq_true rfl) (e_X12_makes l D a0 a1 a2 h)
def F_X12_adds_5  : Nat → Nat → Nat → Int64 → Int32 → pg_H → Option pg_H
  | 0 => fun _ _ _ _ _ => none
  | n + 1 => fun a0 a1 a2 a4 h => (if a4 < (380 : Int32) then Option.bind (pg_aL h a0 a4) fun v1 => Option.bind (pg_aL h a1 a4) fun v2 => pg_let ((v1 + v2) + a2) fun v3 => (if (100000000 : Int64) = 0 then none else Option.bind (pg_sL h a0 a4 (v3 - v3 / (100000000 : Int64) * (100000000 : Int64))) fun v4 => (if (100000000 : Int64) = 0 then none else pg_let (v3 / (100000000 : Int64)) fun v5 => (F_X12_adds_5 n a0 a1 v5 (a4 + (1 : Int32)) v4))) else (some h))
def F_X12_adds (a0 : Nat) (a1 : Nat) (h : pg_H) : Option pg_H := (F_X12_adds_5 pg_fuel a0 a1 (0 : Int64) (0 : Int32) h)
theorem e_X12_adds_5 (l : Launch) (D : pg_D)   : ∀ (n : Nat) (a0 : Nat) (a1 : Nat) (a2 : Int64) (a4 : Int32) (h : pg_H), pg_EvF l D RX12 cX12_adds 7 none "adds" 0 0 pg_wV (F_X12_adds_5 n a0 a1 a2 a4 h) 5 [(0, pR a0), (1, pR a1), (2, pL a2), (4, pI a4)] [] h := by
  intro n
  induction n with
  | zero => intro a0 a1 a2 a4 h; exact pg_none
  | succ n ih =>
    intro a0 a1 a2 a4 h
    rw [F_X12_adds_5]
    refine pg_iload dX12_adds_5 3 rfl ?_
    refine pg_sipush dX12_adds_7 cs_380 ?_
    refine pg_icmp_ge (tgt := 49) dX12_adds_10 rfl ?_ ?_
    · exact pg_vret dX12_adds_49 rfl rfl
    · refine pg_aload_n (i := 0) dX12_adds_13 rfl 0 rfl ?_
      refine pg_iload dX12_adds_14 3 rfl ?_
      refine pg_laload dX12_adds_16 (fun v1 => ?_)
      refine pg_aload_n (i := 1) dX12_adds_17 rfl 1 rfl ?_
      refine pg_iload dX12_adds_18 3 rfl ?_
      refine pg_laload dX12_adds_20 (fun v2 => ?_)
      refine pg_ladd dX12_adds_21 ?_
      refine pg_lload_n (i := 2) dX12_adds_22 rfl 2 rfl ?_
      refine pg_ladd dX12_adds_23 ?_
      refine pg_letL (fun v3 => ?_)
      refine pg_lstore (lv' := [(5, pL v3), (0, pR a0), (1, pR a1), (2, pL a2), (4, pI a4)]) dX12_adds_24 (by decide) rfl ?_
      refine pg_aload_n (i := 0) dX12_adds_26 rfl 1 rfl ?_
      refine pg_iload dX12_adds_27 4 rfl ?_
      refine pg_lload dX12_adds_29 0 rfl ?_
      refine pg_ldc2 (v := (100000000 : Int64)) dX12_adds_31 kc_RX12_365 ?_
      refine pg_lrem dX12_adds_34 ?_
      refine pg_lastore dX12_adds_35 (fun v4 => ?_)
      refine pg_lload dX12_adds_36 0 rfl ?_
      refine pg_ldc2 (v := (100000000 : Int64)) dX12_adds_38 kc_RX12_365 ?_
      refine pg_ldiv dX12_adds_41 ?_
      refine pg_letL (fun v5 => ?_)
      refine pg_lstore_n (i := 2) (lv' := [(2, pL v5), (5, pL v3), (0, pR a0), (1, pR a1), (4, pI a4)]) dX12_adds_42 rfl (by decide) rfl ?_
      refine pg_iinc (lv' := [(4, pI (a4 + (1 : Int32))), (2, pL v5), (5, pL v3), (0, pR a0), (1, pR a1)]) dX12_adds_43 4 rfl ci_1 (by decide) rfl ?_
      refine pg_goto (tgt := 5) dX12_adds_46 rfl ?_
      exact pg_to (ih a0 a1 v5 (a4 + (1 : Int32)) v4) [3, 4, 1, 0] rfl
theorem e_X12_adds (l : Launch) (D : pg_D)  (a0 : Nat) (a1 : Nat) (h : pg_H) : pg_EvF l D RX12 cX12_adds 7 none "adds" 0 0 pg_wV (F_X12_adds a0 a1 h) 0 [(0, pR a0), (1, pR a1)] [] h := by
  unfold F_X12_adds
  refine pg_lconst dX12_adds_0 cl_0 ?_
  refine pg_lstore_n (i := 2) (lv' := [(2, pL (0 : Int64)), (0, pR a0), (1, pR a1)]) dX12_adds_1 rfl (by decide) rfl ?_
  refine pg_iconst dX12_adds_2 ci_0 ?_
  refine pg_istore (lv' := [(4, pI (0 : Int32)), (2, pL (0 : Int64)), (0, pR a0), (1, pR a1)]) dX12_adds_3 (by decide) rfl ?_
  exact pg_to (e_X12_adds_5 l D pg_fuel a0 a1 (0 : Int64) (0 : Int32) h) [2, 3, 1, 0] rfl
theorem c_X12_adds (l : Launch) (D : pg_D) (a0 : Nat) (a1 : Nat) (h : pg_H) : ∀ x, F_X12_adds a0 a1 h = some x → pg_Ct l D yX12_adds cX12_adds 7 none 0 0 [pR a0, pR a1] h (pg_wV x) :=
  pg_Ct.of pn_RX12 (Nat.le_of_ble_eq_true rfl) (e_X12_adds l D a0 a1 h)
def F_X12_order_4 (h : pg_H) : Nat → Nat → Nat → Int32 → Option Int32
  | 0 => fun _ _ _ => none
  | n + 1 => fun a0 a1 a2 => (if a2 < 0 then (some (0 : Int32)) else Option.bind (pg_aL h a0 a2) fun v1 => Option.bind (pg_aL h a1 a2) fun v2 => (if v1 = v2 then (F_X12_order_4 h n a0 a1 (a2 + (-1 : Int32))) else Option.bind (pg_aL h a0 a2) fun v3 => Option.bind (pg_aL h a1 a2) fun v4 => (if v3 < v4 then (some (-1 : Int32)) else (some (1 : Int32)))))
def F_X12_order (h : pg_H) (a0 : Nat) (a1 : Nat) : Option Int32 := (F_X12_order_4 h pg_fuel a0 a1 (379 : Int32))
theorem e_X12_order_4 (l : Launch) (D : pg_D)  (h : pg_H) : ∀ (n : Nat) (a0 : Nat) (a1 : Nat) (a2 : Int32), pg_EvF l D RX12 cX12_order 3 (some FieldType.int) "order" 0 0 (pg_oI h) (F_X12_order_4 h n a0 a1 a2) 4 [(0, pR a0), (1, pR a1), (2, pI a2)] [] h := by
  intro n
  induction n with
  | zero => intro a0 a1 a2; exact pg_none
  | succ n ih =>
    intro a0 a1 a2
    rw [F_X12_order_4]
    refine pg_iload_n (i := 2) dX12_order_4 rfl 2 rfl ?_
    refine pg_if_lt (tgt := 40) dX12_order_5 rfl ?_ ?_
    · refine pg_iconst dX12_order_40 ci_0 ?_
      exact pg_iret dX12_order_41 rfl rfl
    · refine pg_aload_n (i := 0) dX12_order_8 rfl 0 rfl ?_
      refine pg_iload_n (i := 2) dX12_order_9 rfl 2 rfl ?_
      refine pg_laload dX12_order_10 (fun v1 => ?_)
      refine pg_aload_n (i := 1) dX12_order_11 rfl 1 rfl ?_
      refine pg_iload_n (i := 2) dX12_order_12 rfl 2 rfl ?_
      refine pg_laload dX12_order_13 (fun v2 => ?_)
      refine pg_lcmp_eq (tgt := 34) dX12_order_14 dX12_order_15 rfl ?_ ?_
      · refine pg_iinc (lv' := [(2, pI (a2 + (-1 : Int32))), (0, pR a0), (1, pR a1)]) dX12_order_34 2 rfl ci_m1 (by decide) rfl ?_
        refine pg_goto (tgt := 4) dX12_order_37 rfl ?_
        exact pg_to (ih a0 a1 (a2 + (-1 : Int32))) [1, 2, 0] rfl
      · refine pg_aload_n (i := 0) dX12_order_18 rfl 0 rfl ?_
        refine pg_iload_n (i := 2) dX12_order_19 rfl 2 rfl ?_
        refine pg_laload dX12_order_20 (fun v3 => ?_)
        refine pg_aload_n (i := 1) dX12_order_21 rfl 1 rfl ?_
        refine pg_iload_n (i := 2) dX12_order_22 rfl 2 rfl ?_
        refine pg_laload dX12_order_23 (fun v4 => ?_)
        refine pg_lcmp_ge (tgt := 32) dX12_order_24 dX12_order_25 rfl ?_ ?_
        · refine pg_iconst dX12_order_32 ci_1 ?_
          exact pg_iret dX12_order_33 rfl rfl
        · refine pg_iconst dX12_order_28 ci_m1 ?_
          refine pg_goto (tgt := 33) dX12_order_29 rfl ?_
          exact pg_iret dX12_order_33 rfl rfl
theorem e_X12_order (l : Launch) (D : pg_D)  (h : pg_H) (a0 : Nat) (a1 : Nat) : pg_EvF l D RX12 cX12_order 3 (some FieldType.int) "order" 0 0 (pg_oI h) (F_X12_order h a0 a1) 0 [(0, pR a0), (1, pR a1)] [] h := by
  unfold F_X12_order
  refine pg_sipush dX12_order_0 cs_379 ?_
  refine pg_istore_n (i := 2) (lv' := [(2, pI (379 : Int32)), (0, pR a0), (1, pR a1)]) dX12_order_3 rfl (by decide) rfl ?_
  exact pg_to (e_X12_order_4 l D h pg_fuel a0 a1 (379 : Int32)) [1, 2, 0] rfl
theorem c_X12_order (l : Launch) (D : pg_D) (h : pg_H) (a0 : Nat) (a1 : Nat)  : ∀ x, F_X12_order h a0 a1 = some x → pg_Ct l D yX12_order cX12_order 3 (some FieldType.int) 0 0 [pR a0, pR a1] h (pg_oI h x) :=
  pg_Ct.of pn_RX12 (Nat.le_of_ble_eq_true rfl) (e_X12_order l D h a0 a1)
def F_X12_quotient_81 (k5 : Nat → Int32 → Int32 → pg_H → Option (Int32 × pg_H)) (a0 : Nat) (a1 : Int32) (a2 : Int32) (h : pg_H) : Option (Int32 × pg_H) := (k5 a0 a1 a2 h)
def F_X12_quotient_21 (k5 : Nat → Int32 → Int32 → pg_H → Option (Int32 × pg_H)) : Nat → Nat → Int32 → Int32 → Int32 → Int32 → pg_H → Option (Int32 × pg_H)
  | 0 => fun _ _ _ _ _ _ => none
  | n + 1 => fun a0 a1 a2 a3 a4 h => (if a4 < (380 : Int32) then Option.bind (pg_gR 12 36 h a0) fun v7 => Option.bind (pg_gR 12 35 h a0) fun v8 => Option.bind (pg_aL h v8 a4) fun v9 => Option.bind (pg_sL h v7 a4 v9) fun v10 => (F_X12_quotient_21 k5 n a0 a1 a2 a3 (a4 + (1 : Int32)) v10) else Option.bind (pg_gR 12 36 h a0) fun v1 => Option.bind (F_X12_makes v1 a3 (1 : Int32) h) fun v2 => Option.bind (pg_gR 12 36 v2 a0) fun v3 => Option.bind (pg_gR 12 34 v2 a0) fun v4 => Option.bind (F_X12_order v2 v3 v4) fun v5 => (if 0 < v5 then pg_let (a3 - (1 : Int32)) fun v6 => (F_X12_quotient_81 k5 a0 a1 v6 v2) else (F_X12_quotient_81 k5 a0 a3 a2 v2)))
def F_X12_quotient_5  : Nat → Nat → Int32 → Int32 → pg_H → Option (Int32 × pg_H)
  | 0 => fun _ _ _ _ => none
  | n + 1 => fun a0 a1 a2 h => (if a1 < a2 then (if (2 : Int32) = 0 then none else pg_let (((a1 + a2) + (1 : Int32)) / (2 : Int32)) fun v1 => (F_X12_quotient_21 (F_X12_quotient_5 n) pg_fuel a0 a1 a2 v1 (0 : Int32) h)) else (some (a1, h)))
def F_X12_quotient (a0 : Nat) (h : pg_H) : Option (Int32 × pg_H) := (F_X12_quotient_5 pg_fuel a0 (0 : Int32) (1000000 : Int32) h)
theorem e_X12_quotient_81 (l : Launch) (D : pg_D)  (k5 : Nat → Int32 → Int32 → pg_H → Option (Int32 × pg_H)) (hk5 : ∀ (a0 : Nat) (a1 : Int32) (a2 : Int32) (h : pg_H), pg_EvF l D RX12 cX12_quotient 5 (some FieldType.int) "quotient" 1 28 pg_wI (k5 a0 a1 a2 h) 5 [(0, pR a0), (1, pI a1), (2, pI a2)] [] h) (a0 : Nat) (a1 : Int32) (a2 : Int32) (h : pg_H) : pg_EvF l D RX12 cX12_quotient 5 (some FieldType.int) "quotient" 1 28 pg_wI (F_X12_quotient_81 k5 a0 a1 a2 h) 81 [(0, pR a0), (1, pI a1), (2, pI a2)] [] h := by
  unfold F_X12_quotient_81
  refine pg_goto (tgt := 5) dX12_quotient_81 rfl ?_
  exact pg_to (hk5 a0 a1 a2 h) [0, 1, 2] rfl
theorem e_X12_quotient_21 (l : Launch) (D : pg_D)  (k5 : Nat → Int32 → Int32 → pg_H → Option (Int32 × pg_H)) (hk5 : ∀ (a0 : Nat) (a1 : Int32) (a2 : Int32) (h : pg_H), pg_EvF l D RX12 cX12_quotient 5 (some FieldType.int) "quotient" 1 28 pg_wI (k5 a0 a1 a2 h) 5 [(0, pR a0), (1, pI a1), (2, pI a2)] [] h) : ∀ (n : Nat) (a0 : Nat) (a1 : Int32) (a2 : Int32) (a3 : Int32) (a4 : Int32) (h : pg_H), pg_EvF l D RX12 cX12_quotient 5 (some FieldType.int) "quotient" 1 28 pg_wI (F_X12_quotient_21 k5 n a0 a1 a2 a3 a4 h) 21 [(0, pR a0), (1, pI a1), (2, pI a2), (3, pI a3), (4, pI a4)] [] h := by
  intro n
  induction n with
  | zero => intro a0 a1 a2 a3 a4 h; exact pg_none
  | succ n ih =>
    intro a0 a1 a2 a3 a4 h
    rw [F_X12_quotient_21]
    refine pg_iload dX12_quotient_21 4 rfl ?_
    refine pg_sipush dX12_quotient_23 cs_380 ?_
    refine pg_icmp_ge (tgt := 49) dX12_quotient_26 rfl ?_ ?_
    · refine pg_aload_n (i := 0) dX12_quotient_49 rfl 0 rfl ?_
      refine pg_getR dX12_quotient_50 fl_RX12_86 rfl (fun v1 => ?_)
      refine pg_iload_n (i := 3) dX12_quotient_53 rfl 3 rfl ?_
      refine pg_iconst dX12_quotient_54 ci_1 ?_
      refine pg_callS_wV (As := [pR v1, pI a3, pI (1 : Int32)]) (rs := []) dX12_quotient_55 lk_RX12_367 vy_X12_makes nd_X12_makes (c_X12_makes l D v1 a3 (1 : Int32) h) rfl rfl (Nat.le_of_ble_eq_true rfl) (by decide) (by decide) (fun v2 => ?_)
      refine pg_aload_n (i := 0) dX12_quotient_58 rfl 0 rfl ?_
      refine pg_getR dX12_quotient_59 fl_RX12_86 rfl (fun v3 => ?_)
      refine pg_aload_n (i := 0) dX12_quotient_62 rfl 0 rfl ?_
      refine pg_getR dX12_quotient_63 fl_RX12_79 rfl (fun v4 => ?_)
      refine pg_callS_oI (As := [pR v3, pR v4]) (rs := []) dX12_quotient_66 lk_RX12_371 vy_X12_order nd_X12_order (c_X12_order l D v2 v3 v4) rfl rfl (Nat.le_of_ble_eq_true rfl) (by decide) (by decide) (fun v5 => ?_)
      refine pg_if_gt (tgt := 77) dX12_quotient_69 rfl ?_ ?_
      · refine pg_iload_n (i := 3) dX12_quotient_77 rfl 3 rfl ?_
        refine pg_iconst dX12_quotient_78 ci_1 ?_
        refine pg_isub dX12_quotient_79 ?_
        refine pg_letI (fun v6 => ?_)
        refine pg_istore_n (i := 2) (lv' := [(2, pI v6), (0, pR a0), (1, pI a1), (3, pI a3), (4, pI a4)]) dX12_quotient_80 rfl (by decide) rfl ?_
        exact pg_to (e_X12_quotient_81 l D k5 hk5 a0 a1 v6 v2) [1, 2, 0] rfl
      · refine pg_iload_n (i := 3) dX12_quotient_72 rfl 3 rfl ?_
        refine pg_istore_n (i := 1) (lv' := [(1, pI a3), (0, pR a0), (2, pI a2), (3, pI a3), (4, pI a4)]) dX12_quotient_73 rfl (by decide) rfl ?_
        refine pg_goto (tgt := 81) dX12_quotient_74 rfl ?_
        exact pg_to (e_X12_quotient_81 l D k5 hk5 a0 a3 a2 v2) [1, 0, 2] rfl
    · refine pg_aload_n (i := 0) dX12_quotient_29 rfl 0 rfl ?_
      refine pg_getR dX12_quotient_30 fl_RX12_86 rfl (fun v7 => ?_)
      refine pg_iload dX12_quotient_33 4 rfl ?_
      refine pg_aload_n (i := 0) dX12_quotient_35 rfl 0 rfl ?_
      refine pg_getR dX12_quotient_36 fl_RX12_83 rfl (fun v8 => ?_)
      refine pg_iload dX12_quotient_39 4 rfl ?_
      refine pg_laload dX12_quotient_41 (fun v9 => ?_)
      refine pg_lastore dX12_quotient_42 (fun v10 => ?_)
      refine pg_iinc (lv' := [(4, pI (a4 + (1 : Int32))), (0, pR a0), (1, pI a1), (2, pI a2), (3, pI a3)]) dX12_quotient_43 4 rfl ci_1 (by decide) rfl ?_
      refine pg_goto (tgt := 21) dX12_quotient_46 rfl ?_
      exact pg_to (ih a0 a1 a2 a3 (a4 + (1 : Int32)) v10) [1, 2, 3, 4, 0] rfl
theorem e_X12_quotient_5 (l : Launch) (D : pg_D)   : ∀ (n : Nat) (a0 : Nat) (a1 : Int32) (a2 : Int32) (h : pg_H), pg_EvF l D RX12 cX12_quotient 5 (some FieldType.int) "quotient" 1 28 pg_wI (F_X12_quotient_5 n a0 a1 a2 h) 5 [(0, pR a0), (1, pI a1), (2, pI a2)] [] h := by
  intro n
  induction n with
  | zero => intro a0 a1 a2 h; exact pg_none
  | succ n ih =>
    intro a0 a1 a2 h
    rw [F_X12_quotient_5]
    refine pg_iload_n (i := 1) dX12_quotient_5 rfl 1 rfl ?_
    refine pg_iload_n (i := 2) dX12_quotient_6 rfl 2 rfl ?_
    refine pg_icmp_ge (tgt := 84) dX12_quotient_7 rfl ?_ ?_
    · refine pg_iload_n (i := 1) dX12_quotient_84 rfl 1 rfl ?_
      exact pg_iret dX12_quotient_85 rfl rfl
    · refine pg_iload_n (i := 1) dX12_quotient_10 rfl 1 rfl ?_
      refine pg_iload_n (i := 2) dX12_quotient_11 rfl 2 rfl ?_
      refine pg_iadd dX12_quotient_12 ?_
      refine pg_iconst dX12_quotient_13 ci_1 ?_
      refine pg_iadd dX12_quotient_14 ?_
      refine pg_iconst dX12_quotient_15 ci_2 ?_
      refine pg_idiv dX12_quotient_16 ?_
      refine pg_letI (fun v1 => ?_)
      refine pg_istore_n (i := 3) (lv' := [(3, pI v1), (0, pR a0), (1, pI a1), (2, pI a2)]) dX12_quotient_17 rfl (by decide) rfl ?_
      refine pg_iconst dX12_quotient_18 ci_0 ?_
      refine pg_istore (lv' := [(4, pI (0 : Int32)), (3, pI v1), (0, pR a0), (1, pI a1), (2, pI a2)]) dX12_quotient_19 (by decide) rfl ?_
      exact pg_to (e_X12_quotient_21 l D (F_X12_quotient_5 n) ih pg_fuel a0 a1 a2 v1 (0 : Int32) h) [2, 3, 4, 1, 0] rfl
theorem e_X12_quotient (l : Launch) (D : pg_D)  (a0 : Nat) (h : pg_H) : pg_EvF l D RX12 cX12_quotient 5 (some FieldType.int) "quotient" 1 28 pg_wI (F_X12_quotient a0 h) 0 [(0, pR a0)] [] h := by
  unfold F_X12_quotient
  refine pg_iconst dX12_quotient_0 ci_0 ?_
  refine pg_istore_n (i := 1) (lv' := [(1, pI (0 : Int32)), (0, pR a0)]) dX12_quotient_1 rfl (by decide) rfl ?_
  refine pg_ldc (v := (1000000 : Int32)) dX12_quotient_2 kc_RX12_181 ?_
  refine pg_istore_n (i := 2) (lv' := [(2, pI (1000000 : Int32)), (1, pI (0 : Int32)), (0, pR a0)]) dX12_quotient_4 rfl (by decide) rfl ?_
  exact pg_to (e_X12_quotient_5 l D pg_fuel a0 (0 : Int32) (1000000 : Int32) h) [2, 1, 0] rfl
theorem c_X12_quotient (l : Launch) (D : pg_D) (a0 : Nat) (h : pg_H) : ∀ x, F_X12_quotient a0 h = some x → pg_Ct l D yX12_quotient cX12_quotient 5 (some FieldType.int) 1 28 [pR a0] h (pg_wI x) :=
  pg_Ct.of pn_RX12 (Nat.le_of_ble_eq_true rfl) (e_X12_quotient l D a0 h)
def F_X12_formsOf_5 (h : pg_H) : Nat → Nat → Int32 → Int32 → Int32 → Option Int32
  | 0 => fun _ _ _ _ => none
  | n + 1 => fun a0 a1 a2 a3 => (if a3 < (6 : Int32) then Option.bind (pg_rcv 12 h a0 (F_X12_handOf h a0 a1 ((2 : Int32) + a3))) fun v1 => pg_let (a2 + v1) fun v2 => (F_X12_formsOf_5 h n a0 a1 v2 (a3 + (1 : Int32))) else (some a2))
def F_X12_formsOf (h : pg_H) (a0 : Nat) (a1 : Int32) : Option Int32 := (F_X12_formsOf_5 h pg_fuel a0 a1 (6 : Int32) (0 : Int32))
theorem e_X12_formsOf_5 (l : Launch) (D : pg_D)  (h : pg_H) : ∀ (n : Nat) (a0 : Nat) (a1 : Int32) (a2 : Int32) (a3 : Int32), pg_EvF l D RX12 cX12_formsOf 4 (some FieldType.int) "formsOf" 1 22 (pg_oI h) (F_X12_formsOf_5 h n a0 a1 a2 a3) 5 [(0, pR a0), (1, pI a1), (2, pI a2), (3, pI a3)] [] h := by
  intro n
  induction n with
  | zero => intro a0 a1 a2 a3; exact pg_none
  | succ n ih =>
    intro a0 a1 a2 a3
    rw [F_X12_formsOf_5]
    refine pg_iload_n (i := 3) dX12_formsOf_5 rfl 3 rfl ?_
    refine pg_bipush dX12_formsOf_6 cb_6 ?_
    refine pg_icmp_ge (tgt := 28) dX12_formsOf_8 rfl ?_ ?_
    · refine pg_iload_n (i := 2) dX12_formsOf_28 rfl 2 rfl ?_
      exact pg_iret dX12_formsOf_29 rfl rfl
    · refine pg_iload_n (i := 2) dX12_formsOf_11 rfl 2 rfl ?_
      refine pg_aload_n (i := 0) dX12_formsOf_12 rfl 0 rfl ?_
      refine pg_iload_n (i := 1) dX12_formsOf_13 rfl 1 rfl ?_
      refine pg_iconst dX12_formsOf_14 ci_2 ?_
      refine pg_iload_n (i := 3) dX12_formsOf_15 rfl 3 rfl ?_
      refine pg_iadd dX12_formsOf_16 ?_
      refine pg_callV_oI (As := [pI a1, pI ((2 : Int32) + a3)]) (rs := [pI a2]) dX12_formsOf_17 lk_RX12_375 vy_X12_handOf nd_X12_handOf (c_X12_handOf l D h a0 a1 ((2 : Int32) + a3)) rfl rfl (Nat.le_of_ble_eq_true rfl) (by decide) (by decide) (fun v1 => ?_)
      refine pg_iadd dX12_formsOf_20 ?_
      refine pg_letI (fun v2 => ?_)
      refine pg_istore_n (i := 2) (lv' := [(2, pI v2), (0, pR a0), (1, pI a1), (3, pI a3)]) dX12_formsOf_21 rfl (by decide) rfl ?_
      refine pg_iinc (lv' := [(3, pI (a3 + (1 : Int32))), (2, pI v2), (0, pR a0), (1, pI a1)]) dX12_formsOf_22 3 rfl ci_1 (by decide) rfl ?_
      refine pg_goto (tgt := 5) dX12_formsOf_25 rfl ?_
      exact pg_to (ih a0 a1 v2 (a3 + (1 : Int32))) [2, 3, 1, 0] rfl
theorem e_X12_formsOf (l : Launch) (D : pg_D)  (h : pg_H) (a0 : Nat) (a1 : Int32) : pg_EvF l D RX12 cX12_formsOf 4 (some FieldType.int) "formsOf" 1 22 (pg_oI h) (F_X12_formsOf h a0 a1) 0 [(0, pR a0), (1, pI a1)] [] h := by
  unfold F_X12_formsOf
  refine pg_bipush dX12_formsOf_0 cb_6 ?_
  refine pg_istore_n (i := 2) (lv' := [(2, pI (6 : Int32)), (0, pR a0), (1, pI a1)]) dX12_formsOf_2 rfl (by decide) rfl ?_
  refine pg_iconst dX12_formsOf_3 ci_0 ?_
  refine pg_istore_n (i := 3) (lv' := [(3, pI (0 : Int32)), (2, pI (6 : Int32)), (0, pR a0), (1, pI a1)]) dX12_formsOf_4 rfl (by decide) rfl ?_
  exact pg_to (e_X12_formsOf_5 l D h pg_fuel a0 a1 (6 : Int32) (0 : Int32)) [2, 3, 1, 0] rfl
theorem c_X12_formsOf (l : Launch) (D : pg_D) (h : pg_H) (a0 : Nat) (a1 : Int32)  : ∀ x, F_X12_formsOf h a0 a1 = some x → pg_Ct l D yX12_formsOf cX12_formsOf 4 (some FieldType.int) 1 22 [pR a0, pI a1] h (pg_oI h x) :=
  pg_Ct.of pn_RX12 (Nat.le_of_ble_eq_true rfl) (e_X12_formsOf l D h a0 a1)
def F_X12_likens_19  : Nat → Nat → Int32 → Int32 → Int32 → Int32 → pg_H → Option pg_H
  | 0 => fun _ _ _ _ _ _ => none
  | n + 1 => fun a0 a1 a2 a3 a4 h => (if a4 < (6 : Int32) then Option.bind (pg_gR 12 3 h a0) fun v1 => Option.bind (pg_aI 21 h v1 (((292 : Int32) + ((6 : Int32) * a1)) + a4)) fun v2 => Option.bind (pg_gR 12 34 h a0) fun v3 => Option.bind (pg_rcv 12 h a0 (F_X12_handOf h a0 a2 ((2 : Int32) + a4))) fun v4 => Option.bind (F_X12_makes v3 (v4 + (1 : Int32)) v2 h) fun v5 => Option.bind (pg_gR 12 34 v5 a0) fun v6 => Option.bind (pg_rcv 12 v5 a0 (F_X12_formsOf v5 a0 a3)) fun v7 => Option.bind (F_X12_makes v6 v7 v2 v5) fun v8 => Option.bind (pg_gR 12 35 v8 a0) fun v9 => Option.bind (pg_rcv 12 v8 a0 (F_X12_handOf v8 a0 a3 ((2 : Int32) + a4))) fun v10 => Option.bind (F_X12_makes v9 (v10 + (1 : Int32)) v2 v8) fun v11 => Option.bind (pg_gR 12 35 v11 a0) fun v12 => Option.bind (pg_rcv 12 v11 a0 (F_X12_formsOf v11 a0 a2)) fun v13 => Option.bind (F_X12_makes v12 v13 v2 v11) fun v14 => (F_X12_likens_19 n a0 a1 a2 a3 (a4 + (1 : Int32)) v14) else (some h))
def F_X12_likens (a0 : Nat) (a1 : Int32) (a2 : Int32) (a3 : Int32) (h : pg_H) : Option pg_H := Option.bind (pg_gR 12 34 h a0) fun v1 => Option.bind (F_X12_be v1 (1 : Int64) h) fun v2 => Option.bind (pg_gR 12 35 v2 a0) fun v3 => Option.bind (F_X12_be v3 (1 : Int64) v2) fun v4 => (F_X12_likens_19 pg_fuel a0 a1 a2 a3 (0 : Int32) v4)
theorem e_X12_likens_19 (l : Launch) (D : pg_D)   : ∀ (n : Nat) (a0 : Nat) (a1 : Int32) (a2 : Int32) (a3 : Int32) (a4 : Int32) (h : pg_H), pg_EvF l D RX12 cX12_likens 6 none "likens" 2 45 pg_wV (F_X12_likens_19 n a0 a1 a2 a3 a4 h) 19 [(0, pR a0), (1, pI a1), (2, pI a2), (3, pI a3), (4, pI a4)] [] h := by
  intro n
  induction n with
  | zero => intro a0 a1 a2 a3 a4 h; exact pg_none
  | succ n ih =>
    intro a0 a1 a2 a3 a4 h
    rw [F_X12_likens_19]
    refine pg_iload dX12_likens_19 4 rfl ?_
    refine pg_bipush dX12_likens_21 cb_6 ?_
    refine pg_icmp_ge (tgt := 118) dX12_likens_23 rfl ?_ ?_
    · exact pg_vret dX12_likens_118 rfl rfl
    · refine pg_aload_n (i := 0) dX12_likens_26 rfl 0 rfl ?_
      refine pg_getR dX12_likens_27 fl_RX12_20 rfl (fun v1 => ?_)
      refine pg_sipush dX12_likens_30 cs_292 ?_
      refine pg_bipush dX12_likens_33 cb_6 ?_
      refine pg_iload_n (i := 1) dX12_likens_35 rfl 1 rfl ?_
      refine pg_imul dX12_likens_36 ?_
      refine pg_iadd dX12_likens_37 ?_
      refine pg_iload dX12_likens_38 4 rfl ?_
      refine pg_iadd dX12_likens_40 ?_
      refine pg_iaload dX12_likens_41 (fun v2 => ?_)
      refine pg_istore (lv' := [(5, pI v2), (0, pR a0), (1, pI a1), (2, pI a2), (3, pI a3), (4, pI a4)]) dX12_likens_42 (by decide) rfl ?_
      refine pg_aload_n (i := 0) dX12_likens_44 rfl 1 rfl ?_
      refine pg_getR dX12_likens_45 fl_RX12_79 rfl (fun v3 => ?_)
      refine pg_aload_n (i := 0) dX12_likens_48 rfl 1 rfl ?_
      refine pg_iload_n (i := 2) dX12_likens_49 rfl 3 rfl ?_
      refine pg_iconst dX12_likens_50 ci_2 ?_
      refine pg_iload dX12_likens_51 5 rfl ?_
      refine pg_iadd dX12_likens_53 ?_
      refine pg_callV_oI (As := [pI a2, pI ((2 : Int32) + a4)]) (rs := [pR v3]) dX12_likens_54 lk_RX12_375 vy_X12_handOf nd_X12_handOf (c_X12_handOf l D h a0 a2 ((2 : Int32) + a4)) rfl rfl (Nat.le_of_ble_eq_true rfl) (by decide) (by decide) (fun v4 => ?_)
      refine pg_iconst dX12_likens_57 ci_1 ?_
      refine pg_iadd dX12_likens_58 ?_
      refine pg_iload dX12_likens_59 0 rfl ?_
      refine pg_callS_wV (As := [pR v3, pI (v4 + (1 : Int32)), pI v2]) (rs := []) dX12_likens_61 lk_RX12_367 vy_X12_makes nd_X12_makes (c_X12_makes l D v3 (v4 + (1 : Int32)) v2 h) rfl rfl (Nat.le_of_ble_eq_true rfl) (by decide) (by decide) (fun v5 => ?_)
      refine pg_aload_n (i := 0) dX12_likens_64 rfl 1 rfl ?_
      refine pg_getR dX12_likens_65 fl_RX12_79 rfl (fun v6 => ?_)
      refine pg_aload_n (i := 0) dX12_likens_68 rfl 1 rfl ?_
      refine pg_iload_n (i := 3) dX12_likens_69 rfl 4 rfl ?_
      refine pg_callV_oI (As := [pI a3]) (rs := [pR v6]) dX12_likens_70 lk_RX12_382 vy_X12_formsOf nd_X12_formsOf (c_X12_formsOf l D v5 a0 a3) rfl rfl (Nat.le_of_ble_eq_true rfl) (by decide) (by decide) (fun v7 => ?_)
      refine pg_iload dX12_likens_73 0 rfl ?_
      refine pg_callS_wV (As := [pR v6, pI v7, pI v2]) (rs := []) dX12_likens_75 lk_RX12_367 vy_X12_makes nd_X12_makes (c_X12_makes l D v6 v7 v2 v5) rfl rfl (Nat.le_of_ble_eq_true rfl) (by decide) (by decide) (fun v8 => ?_)
      refine pg_aload_n (i := 0) dX12_likens_78 rfl 1 rfl ?_
      refine pg_getR dX12_likens_79 fl_RX12_83 rfl (fun v9 => ?_)
      refine pg_aload_n (i := 0) dX12_likens_82 rfl 1 rfl ?_
      refine pg_iload_n (i := 3) dX12_likens_83 rfl 4 rfl ?_
      refine pg_iconst dX12_likens_84 ci_2 ?_
      refine pg_iload dX12_likens_85 5 rfl ?_
      refine pg_iadd dX12_likens_87 ?_
      refine pg_callV_oI (As := [pI a3, pI ((2 : Int32) + a4)]) (rs := [pR v9]) dX12_likens_88 lk_RX12_375 vy_X12_handOf nd_X12_handOf (c_X12_handOf l D v8 a0 a3 ((2 : Int32) + a4)) rfl rfl (Nat.le_of_ble_eq_true rfl) (by decide) (by decide) (fun v10 => ?_)
      refine pg_iconst dX12_likens_91 ci_1 ?_
      refine pg_iadd dX12_likens_92 ?_
      refine pg_iload dX12_likens_93 0 rfl ?_
      refine pg_callS_wV (As := [pR v9, pI (v10 + (1 : Int32)), pI v2]) (rs := []) dX12_likens_95 lk_RX12_367 vy_X12_makes nd_X12_makes (c_X12_makes l D v9 (v10 + (1 : Int32)) v2 v8) rfl rfl (Nat.le_of_ble_eq_true rfl) (by decide) (by decide) (fun v11 => ?_)
      refine pg_aload_n (i := 0) dX12_likens_98 rfl 1 rfl ?_
      refine pg_getR dX12_likens_99 fl_RX12_83 rfl (fun v12 => ?_)
      refine pg_aload_n (i := 0) dX12_likens_102 rfl 1 rfl ?_
      refine pg_iload_n (i := 2) dX12_likens_103 rfl 3 rfl ?_
      refine pg_callV_oI (As := [pI a2]) (rs := [pR v12]) dX12_likens_104 lk_RX12_382 vy_X12_formsOf nd_X12_formsOf (c_X12_formsOf l D v11 a0 a2) rfl rfl (Nat.le_of_ble_eq_true rfl) (by decide) (by decide) (fun v13 => ?_)
      refine pg_iload dX12_likens_107 0 rfl ?_
      refine pg_callS_wV (As := [pR v12, pI v13, pI v2]) (rs := []) dX12_likens_109 lk_RX12_367 vy_X12_makes nd_X12_makes (c_X12_makes l D v12 v13 v2 v11) rfl rfl (Nat.le_of_ble_eq_true rfl) (by decide) (by decide) (fun v14 => ?_)
      refine pg_iinc (lv' := [(4, pI (a4 + (1 : Int32))), (5, pI v2), (0, pR a0), (1, pI a1), (2, pI a2), (3, pI a3)]) dX12_likens_112 5 rfl ci_1 (by decide) rfl ?_
      refine pg_goto (tgt := 19) dX12_likens_115 rfl ?_
      exact pg_to (ih a0 a1 a2 a3 (a4 + (1 : Int32)) v14) [2, 3, 4, 5, 0] rfl
theorem e_X12_likens (l : Launch) (D : pg_D)  (a0 : Nat) (a1 : Int32) (a2 : Int32) (a3 : Int32) (h : pg_H) : pg_EvF l D RX12 cX12_likens 6 none "likens" 2 45 pg_wV (F_X12_likens a0 a1 a2 a3 h) 0 [(0, pR a0), (1, pI a1), (2, pI a2), (3, pI a3)] [] h := by
  unfold F_X12_likens
  refine pg_aload_n (i := 0) dX12_likens_0 rfl 0 rfl ?_
  refine pg_getR dX12_likens_1 fl_RX12_79 rfl (fun v1 => ?_)
  refine pg_lconst dX12_likens_4 cl_1 ?_
  refine pg_callS_wV (As := [pR v1, pL (1 : Int64)]) (rs := []) dX12_likens_5 lk_RX12_378 vy_X12_be nd_X12_be (c_X12_be l D v1 (1 : Int64) h) rfl rfl (Nat.le_of_ble_eq_true rfl) (by decide) (by decide) (fun v2 => ?_)
  refine pg_aload_n (i := 0) dX12_likens_8 rfl 0 rfl ?_
  refine pg_getR dX12_likens_9 fl_RX12_83 rfl (fun v3 => ?_)
  refine pg_lconst dX12_likens_12 cl_1 ?_
  refine pg_callS_wV (As := [pR v3, pL (1 : Int64)]) (rs := []) dX12_likens_13 lk_RX12_378 vy_X12_be nd_X12_be (c_X12_be l D v3 (1 : Int64) v2) rfl rfl (Nat.le_of_ble_eq_true rfl) (by decide) (by decide) (fun v4 => ?_)
  refine pg_iconst dX12_likens_16 ci_0 ?_
  refine pg_istore (lv' := [(4, pI (0 : Int32)), (0, pR a0), (1, pI a1), (2, pI a2), (3, pI a3)]) dX12_likens_17 (by decide) rfl ?_
  exact pg_to (e_X12_likens_19 l D pg_fuel a0 a1 a2 a3 (0 : Int32) v4) [1, 2, 3, 4, 0] rfl
theorem c_X12_likens (l : Launch) (D : pg_D) (a0 : Nat) (a1 : Int32) (a2 : Int32) (a3 : Int32) (h : pg_H) : ∀ x, F_X12_likens a0 a1 a2 a3 h = some x → pg_Ct l D yX12_likens cX12_likens 6 none 2 45 [pR a0, pI a1, pI a2, pI a3] h (pg_wV x) :=
  pg_Ct.of pn_RX12 (Nat.le_of_ble_eq_true rfl) (e_X12_likens l D a0 a1 a2 a3 h)
def F_X12_times (a0 : Nat) (a1 : Int32) (a2 : Int32) (a3 : Int32) (h : pg_H) : Option (Int32 × pg_H) := Option.bind (F_X12_lies a1 (0 : Int32) (7 : Int32)) fun v1 => (if v1 = 0 then (some ((-1 : Int32), h)) else Option.bind (pg_rcv 12 h a0 (F_X12_isHand h a0 a2)) fun v2 => (if v2 = 0 then (some ((-1 : Int32), h)) else Option.bind (pg_rcv 12 h a0 (F_X12_isHand h a0 a3)) fun v3 => (if v3 = 0 then (some ((-1 : Int32), h)) else Option.bind (pg_rcv 12 h a0 (F_X12_likens a0 a1 a2 a3 h)) fun v4 => Option.bind (pg_rcv 12 v4 a0 (F_X12_quotient a0 v4)) fun v5 => (some (v5.1, v5.2)))))
theorem e_X12_times (l : Launch) (D : pg_D)  (a0 : Nat) (a1 : Int32) (a2 : Int32) (a3 : Int32) (h : pg_H) : pg_EvF l D RX12 cX12_times 4 (some FieldType.int) "times" 3 70 pg_wI (F_X12_times a0 a1 a2 a3 h) 0 [(0, pR a0), (1, pI a1), (2, pI a2), (3, pI a3)] [] h := by
  unfold F_X12_times
  refine pg_iload_n (i := 1) dX12_times_0 rfl 1 rfl ?_
  refine pg_iconst dX12_times_1 ci_0 ?_
  refine pg_bipush dX12_times_2 cb_7 ?_
  refine pg_callS_oI (As := [pI a1, pI (0 : Int32), pI (7 : Int32)]) (rs := []) dX12_times_4 lk_RX12_113 vy_X12_lies nd_X12_lies (c_X12_lies l D a1 (0 : Int32) (7 : Int32) h) rfl rfl (Nat.le_of_ble_eq_true rfl) (by decide) (by decide) (fun v1 => ?_)
  refine pg_if_eq (tgt := 26) dX12_times_7 rfl ?_ ?_
  · refine pg_iconst dX12_times_26 ci_m1 ?_
    exact pg_iret dX12_times_27 rfl rfl
  · refine pg_aload_n (i := 0) dX12_times_10 rfl 0 rfl ?_
    refine pg_iload_n (i := 2) dX12_times_11 rfl 2 rfl ?_
    refine pg_callV_oI (As := [pI a2]) (rs := []) dX12_times_12 lk_RX12_140 vy_X12_isHand nd_X12_isHand (c_X12_isHand l D h a0 a2) rfl rfl (Nat.le_of_ble_eq_true rfl) (by decide) (by decide) (fun v2 => ?_)
    refine pg_if_eq (tgt := 26) dX12_times_15 rfl ?_ ?_
    · refine pg_iconst dX12_times_26 ci_m1 ?_
      exact pg_iret dX12_times_27 rfl rfl
    · refine pg_aload_n (i := 0) dX12_times_18 rfl 0 rfl ?_
      refine pg_iload_n (i := 3) dX12_times_19 rfl 3 rfl ?_
      refine pg_callV_oI (As := [pI a3]) (rs := []) dX12_times_20 lk_RX12_140 vy_X12_isHand nd_X12_isHand (c_X12_isHand l D h a0 a3) rfl rfl (Nat.le_of_ble_eq_true rfl) (by decide) (by decide) (fun v3 => ?_)
      refine pg_if_ne (tgt := 28) dX12_times_23 rfl ?_ ?_
      · refine pg_aload_n (i := 0) dX12_times_28 rfl 0 rfl ?_
        refine pg_iload_n (i := 1) dX12_times_29 rfl 1 rfl ?_
        refine pg_iload_n (i := 2) dX12_times_30 rfl 2 rfl ?_
        refine pg_iload_n (i := 3) dX12_times_31 rfl 3 rfl ?_
        refine pg_callV_wV (As := [pI a1, pI a2, pI a3]) (rs := []) dX12_times_32 lk_RX12_385 vy_X12_likens nd_X12_likens (c_X12_likens l D a0 a1 a2 a3 h) rfl rfl (Nat.le_of_ble_eq_true rfl) (by decide) (by decide) (fun v4 => ?_)
        refine pg_aload_n (i := 0) dX12_times_35 rfl 0 rfl ?_
        refine pg_callV_wI (As := []) (rs := []) dX12_times_36 lk_RX12_389 vy_X12_quotient nd_X12_quotient (c_X12_quotient l D a0 v4) rfl rfl (Nat.le_of_ble_eq_true rfl) (by decide) (by decide) (fun v5 => ?_)
        exact pg_iret dX12_times_39 rfl rfl
      · refine pg_iconst dX12_times_26 ci_m1 ?_
        exact pg_iret dX12_times_27 rfl rfl
theorem c_X12_times (l : Launch) (D : pg_D) (a0 : Nat) (a1 : Int32) (a2 : Int32) (a3 : Int32) (h : pg_H) : ∀ x, F_X12_times a0 a1 a2 a3 h = some x → pg_Ct l D yX12_times cX12_times 4 (some FieldType.int) 3 70 [pR a0, pI a1, pI a2, pI a3] h (pg_wI x) :=
  pg_Ct.of pn_RX12 (Nat.le_of_ble_eq_true rfl) (e_X12_times l D a0 a1 a2 a3 h)
def F_X12_written_62 (k27 : Nat → Int32 → Int32 → Int32 → pg_H → Option (Int32 × pg_H)) (a0 : Nat) (a1 : Int32) (a2 : Int32) (a3 : Int32) (h : pg_H) : Option (Int32 × pg_H) := (k27 a0 a1 a2 (a3 + (1 : Int32)) h)
def F_X12_written_27  : Nat → Nat → Int32 → Int32 → Int32 → pg_H → Option (Int32 × pg_H)
  | 0 => fun _ _ _ _ _ => none
  | n + 1 => fun a0 a1 a2 a3 h => Option.bind (pg_gR 12 3 h a0) fun v1 => Option.bind (pg_aI 21 h v1 (1346 : Int32)) fun v2 => (if a3 < v2 then Option.bind (pg_rcv 12 h a0 (F_X12_likens a0 a1 a3 a2 h)) fun v3 => Option.bind (pg_gR 12 34 v3 a0) fun v4 => Option.bind (pg_gR 12 35 v3 a0) fun v5 => Option.bind (F_X12_order v3 v4 v5) fun v6 => (if 0 < v6 then (F_X12_written_62 (F_X12_written_27 n) a0 a1 a3 a3 v3) else (F_X12_written_62 (F_X12_written_27 n) a0 a1 a2 a3 v3)) else (some (a2, h)))
def F_X12_written (a0 : Nat) (a1 : Int32) (h : pg_H) : Option (Int32 × pg_H) := Option.bind (F_X12_lies a1 (0 : Int32) (7 : Int32)) fun v1 => (if v1 = 0 then (some ((-1 : Int32), h)) else Option.bind (pg_gR 12 3 h a0) fun v2 => Option.bind (pg_aI 21 h v2 (1346 : Int32)) fun v3 => (if v3 = 0 then (some ((-1 : Int32), h)) else (F_X12_written_27 pg_fuel a0 a1 (0 : Int32) (1 : Int32) h)))
theorem e_X12_written_62 (l : Launch) (D : pg_D)  (k27 : Nat → Int32 → Int32 → Int32 → pg_H → Option (Int32 × pg_H)) (hk27 : ∀ (a0 : Nat) (a1 : Int32) (a2 : Int32) (a3 : Int32) (h : pg_H), pg_EvF l D RX12 cX12_written 4 (some FieldType.int) "written" 3 70 pg_wI (k27 a0 a1 a2 a3 h) 27 [(0, pR a0), (1, pI a1), (2, pI a2), (3, pI a3)] [] h) (a0 : Nat) (a1 : Int32) (a2 : Int32) (a3 : Int32) (h : pg_H) : pg_EvF l D RX12 cX12_written 4 (some FieldType.int) "written" 3 70 pg_wI (F_X12_written_62 k27 a0 a1 a2 a3 h) 62 [(0, pR a0), (1, pI a1), (2, pI a2), (3, pI a3)] [] h := by
  unfold F_X12_written_62
  refine pg_iinc (lv' := [(3, pI (a3 + (1 : Int32))), (0, pR a0), (1, pI a1), (2, pI a2)]) dX12_written_62 3 rfl ci_1 (by decide) rfl ?_
  refine pg_goto (tgt := 27) dX12_written_65 rfl ?_
  exact pg_to (hk27 a0 a1 a2 (a3 + (1 : Int32)) h) [1, 2, 3, 0] rfl
theorem e_X12_written_27 (l : Launch) (D : pg_D)   : ∀ (n : Nat) (a0 : Nat) (a1 : Int32) (a2 : Int32) (a3 : Int32) (h : pg_H), pg_EvF l D RX12 cX12_written 4 (some FieldType.int) "written" 3 70 pg_wI (F_X12_written_27 n a0 a1 a2 a3 h) 27 [(0, pR a0), (1, pI a1), (2, pI a2), (3, pI a3)] [] h := by
  intro n
  induction n with
  | zero => intro a0 a1 a2 a3 h; exact pg_none
  | succ n ih =>
    intro a0 a1 a2 a3 h
    rw [F_X12_written_27]
    refine pg_iload_n (i := 3) dX12_written_27 rfl 3 rfl ?_
    refine pg_aload_n (i := 0) dX12_written_28 rfl 0 rfl ?_
    refine pg_getR dX12_written_29 fl_RX12_20 rfl (fun v1 => ?_)
    refine pg_sipush dX12_written_32 cs_1346 ?_
    refine pg_iaload dX12_written_35 (fun v2 => ?_)
    refine pg_icmp_ge (tgt := 68) dX12_written_36 rfl ?_ ?_
    · refine pg_iload_n (i := 2) dX12_written_68 rfl 2 rfl ?_
      exact pg_iret dX12_written_69 rfl rfl
    · refine pg_aload_n (i := 0) dX12_written_39 rfl 0 rfl ?_
      refine pg_iload_n (i := 1) dX12_written_40 rfl 1 rfl ?_
      refine pg_iload_n (i := 3) dX12_written_41 rfl 3 rfl ?_
      refine pg_iload_n (i := 2) dX12_written_42 rfl 2 rfl ?_
      refine pg_callV_wV (As := [pI a1, pI a3, pI a2]) (rs := []) dX12_written_43 lk_RX12_385 vy_X12_likens nd_X12_likens (c_X12_likens l D a0 a1 a3 a2 h) rfl rfl (Nat.le_of_ble_eq_true rfl) (by decide) (by decide) (fun v3 => ?_)
      refine pg_aload_n (i := 0) dX12_written_46 rfl 0 rfl ?_
      refine pg_getR dX12_written_47 fl_RX12_79 rfl (fun v4 => ?_)
      refine pg_aload_n (i := 0) dX12_written_50 rfl 0 rfl ?_
      refine pg_getR dX12_written_51 fl_RX12_83 rfl (fun v5 => ?_)
      refine pg_callS_oI (As := [pR v4, pR v5]) (rs := []) dX12_written_54 lk_RX12_371 vy_X12_order nd_X12_order (c_X12_order l D v3 v4 v5) rfl rfl (Nat.le_of_ble_eq_true rfl) (by decide) (by decide) (fun v6 => ?_)
      refine pg_if_le (tgt := 62) dX12_written_57 rfl ?_ ?_
      · exact pg_to (e_X12_written_62 l D (F_X12_written_27 n) ih a0 a1 a2 a3 v3) [0, 1, 2, 3] rfl
      · refine pg_iload_n (i := 3) dX12_written_60 rfl 3 rfl ?_
        refine pg_istore_n (i := 2) (lv' := [(2, pI a3), (0, pR a0), (1, pI a1), (3, pI a3)]) dX12_written_61 rfl (by decide) rfl ?_
        exact pg_to (e_X12_written_62 l D (F_X12_written_27 n) ih a0 a1 a3 a3 v3) [1, 2, 0, 3] rfl
theorem e_X12_written (l : Launch) (D : pg_D)  (a0 : Nat) (a1 : Int32) (h : pg_H) : pg_EvF l D RX12 cX12_written 4 (some FieldType.int) "written" 3 70 pg_wI (F_X12_written a0 a1 h) 0 [(0, pR a0), (1, pI a1)] [] h := by
  unfold F_X12_written
  refine pg_iload_n (i := 1) dX12_written_0 rfl 1 rfl ?_
  refine pg_iconst dX12_written_1 ci_0 ?_
  refine pg_bipush dX12_written_2 cb_7 ?_
  refine pg_callS_oI (As := [pI a1, pI (0 : Int32), pI (7 : Int32)]) (rs := []) dX12_written_4 lk_RX12_113 vy_X12_lies nd_X12_lies (c_X12_lies l D a1 (0 : Int32) (7 : Int32) h) rfl rfl (Nat.le_of_ble_eq_true rfl) (by decide) (by decide) (fun v1 => ?_)
  refine pg_if_eq (tgt := 21) dX12_written_7 rfl ?_ ?_
  · refine pg_iconst dX12_written_21 ci_m1 ?_
    exact pg_iret dX12_written_22 rfl rfl
  · refine pg_aload_n (i := 0) dX12_written_10 rfl 0 rfl ?_
    refine pg_getR dX12_written_11 fl_RX12_20 rfl (fun v2 => ?_)
    refine pg_sipush dX12_written_14 cs_1346 ?_
    refine pg_iaload dX12_written_17 (fun v3 => ?_)
    refine pg_if_ne (tgt := 23) dX12_written_18 rfl ?_ ?_
    · refine pg_iconst dX12_written_23 ci_0 ?_
      refine pg_istore_n (i := 2) (lv' := [(2, pI (0 : Int32)), (0, pR a0), (1, pI a1)]) dX12_written_24 rfl (by decide) rfl ?_
      refine pg_iconst dX12_written_25 ci_1 ?_
      refine pg_istore_n (i := 3) (lv' := [(3, pI (1 : Int32)), (2, pI (0 : Int32)), (0, pR a0), (1, pI a1)]) dX12_written_26 rfl (by decide) rfl ?_
      exact pg_to (e_X12_written_27 l D pg_fuel a0 a1 (0 : Int32) (1 : Int32) h) [2, 3, 1, 0] rfl
    · refine pg_iconst dX12_written_21 ci_m1 ?_
      exact pg_iret dX12_written_22 rfl rfl
theorem c_X12_written (l : Launch) (D : pg_D) (a0 : Nat) (a1 : Int32) (h : pg_H) : ∀ x, F_X12_written a0 a1 h = some x → pg_Ct l D yX12_written cX12_written 4 (some FieldType.int) 3 70 [pR a0, pI a1] h (pg_wI x) :=
  pg_Ct.of pn_RX12 (Nat.le_of_ble_eq_true rfl) (e_X12_written l D a0 a1 h)
def F_X12_isIn_49 (h : pg_H) (k5 : Nat → Int32 → Int32 → Int32 → Int32 → Option Int32) (a0 : Nat) (a1 : Int32) (a2 : Int32) (a4 : Int32) (s0 : Int32) : Option Int32 := (k5 a0 a1 a2 s0 (a4 + (1 : Int32)))
def F_X12_isIn_44 (h : pg_H) (k5 : Nat → Int32 → Int32 → Int32 → Int32 → Option Int32) (a0 : Nat) (a1 : Int32) (a2 : Int32) (a4 : Int32) : Option Int32 := (F_X12_isIn_49 h k5 a0 a1 a2 a4 (1 : Int32))
def F_X12_isIn_48 (h : pg_H) (k5 : Nat → Int32 → Int32 → Int32 → Int32 → Option Int32) (a0 : Nat) (a1 : Int32) (a2 : Int32) (a4 : Int32) : Option Int32 := (F_X12_isIn_49 h k5 a0 a1 a2 a4 (0 : Int32))
def F_X12_isIn_5 (h : pg_H) : Nat → Nat → Int32 → Int32 → Int32 → Int32 → Option Int32
  | 0 => fun _ _ _ _ _ => none
  | n + 1 => fun a0 a1 a2 a3 a4 => Option.bind (pg_gR 12 3 h a0) fun v1 => Option.bind (pg_aI 21 h v1 (1347 : Int32)) fun v2 => (if a4 < v2 then (if a3 = 0 then Option.bind (pg_rcv 12 h a0 (F_X12_noteOf h a0 a4 (0 : Int32))) fun v3 => (if v3 = a1 then Option.bind (pg_rcv 12 h a0 (F_X12_noteOf h a0 a4 (3 : Int32))) fun v4 => (if v4 = a2 then (F_X12_isIn_44 h (F_X12_isIn_5 h n) a0 a1 a2 a4) else (F_X12_isIn_48 h (F_X12_isIn_5 h n) a0 a1 a2 a4)) else (F_X12_isIn_48 h (F_X12_isIn_5 h n) a0 a1 a2 a4)) else (F_X12_isIn_44 h (F_X12_isIn_5 h n) a0 a1 a2 a4)) else (if a3 = 0 ∨ a3 = 1 then some a3 else none))
def F_X12_isIn (h : pg_H) (a0 : Nat) (a1 : Int32) (a2 : Int32) : Option Int32 := (F_X12_isIn_5 h pg_fuel a0 a1 a2 (0 : Int32) (0 : Int32))
theorem e_X12_isIn_49 (l : Launch) (D : pg_D)  (h : pg_H) (k5 : Nat → Int32 → Int32 → Int32 → Int32 → Option Int32) (hk5 : ∀ (a0 : Nat) (a1 : Int32) (a2 : Int32) (a3 : Int32) (a4 : Int32), pg_EvF l D RX12 cX12_isIn 5 (some FieldType.boolean) "isIn" 1 22 (pg_oI h) (k5 a0 a1 a2 a3 a4) 5 [(0, pR a0), (1, pI a1), (2, pI a2), (3, pI a3), (4, pI a4)] [] h) (a0 : Nat) (a1 : Int32) (a2 : Int32) (a4 : Int32) (s0 : Int32) : pg_EvF l D RX12 cX12_isIn 5 (some FieldType.boolean) "isIn" 1 22 (pg_oI h) (F_X12_isIn_49 h k5 a0 a1 a2 a4 s0) 49 [(0, pR a0), (1, pI a1), (2, pI a2), (4, pI a4)] [pI s0] h := by
  unfold F_X12_isIn_49
  refine pg_istore_n (i := 3) (lv' := [(3, pI s0), (0, pR a0), (1, pI a1), (2, pI a2), (4, pI a4)]) dX12_isIn_49 rfl (by decide) rfl ?_
  refine pg_iinc (lv' := [(4, pI (a4 + (1 : Int32))), (3, pI s0), (0, pR a0), (1, pI a1), (2, pI a2)]) dX12_isIn_50 4 rfl ci_1 (by decide) rfl ?_
  refine pg_goto (tgt := 5) dX12_isIn_53 rfl ?_
  exact pg_to (hk5 a0 a1 a2 s0 (a4 + (1 : Int32))) [2, 3, 4, 1, 0] rfl
theorem e_X12_isIn_44 (l : Launch) (D : pg_D)  (h : pg_H) (k5 : Nat → Int32 → Int32 → Int32 → Int32 → Option Int32) (hk5 : ∀ (a0 : Nat) (a1 : Int32) (a2 : Int32) (a3 : Int32) (a4 : Int32), pg_EvF l D RX12 cX12_isIn 5 (some FieldType.boolean) "isIn" 1 22 (pg_oI h) (k5 a0 a1 a2 a3 a4) 5 [(0, pR a0), (1, pI a1), (2, pI a2), (3, pI a3), (4, pI a4)] [] h) (a0 : Nat) (a1 : Int32) (a2 : Int32) (a4 : Int32) : pg_EvF l D RX12 cX12_isIn 5 (some FieldType.boolean) "isIn" 1 22 (pg_oI h) (F_X12_isIn_44 h k5 a0 a1 a2 a4) 44 [(0, pR a0), (1, pI a1), (2, pI a2), (4, pI a4)] [] h := by
  unfold F_X12_isIn_44
  refine pg_iconst dX12_isIn_44 ci_1 ?_
  refine pg_goto (tgt := 49) dX12_isIn_45 rfl ?_
  exact pg_to (e_X12_isIn_49 l D h k5 hk5 a0 a1 a2 a4 (1 : Int32)) [0, 1, 2, 3] rfl
theorem e_X12_isIn_48 (l : Launch) (D : pg_D)  (h : pg_H) (k5 : Nat → Int32 → Int32 → Int32 → Int32 → Option Int32) (hk5 : ∀ (a0 : Nat) (a1 : Int32) (a2 : Int32) (a3 : Int32) (a4 : Int32), pg_EvF l D RX12 cX12_isIn 5 (some FieldType.boolean) "isIn" 1 22 (pg_oI h) (k5 a0 a1 a2 a3 a4) 5 [(0, pR a0), (1, pI a1), (2, pI a2), (3, pI a3), (4, pI a4)] [] h) (a0 : Nat) (a1 : Int32) (a2 : Int32) (a4 : Int32) : pg_EvF l D RX12 cX12_isIn 5 (some FieldType.boolean) "isIn" 1 22 (pg_oI h) (F_X12_isIn_48 h k5 a0 a1 a2 a4) 48 [(0, pR a0), (1, pI a1), (2, pI a2), (4, pI a4)] [] h := by
  unfold F_X12_isIn_48
  refine pg_iconst dX12_isIn_48 ci_0 ?_
  exact pg_to (e_X12_isIn_49 l D h k5 hk5 a0 a1 a2 a4 (0 : Int32)) [0, 1, 2, 3] rfl
theorem e_X12_isIn_5 (l : Launch) (D : pg_D)  (h : pg_H) : ∀ (n : Nat) (a0 : Nat) (a1 : Int32) (a2 : Int32) (a3 : Int32) (a4 : Int32), pg_EvF l D RX12 cX12_isIn 5 (some FieldType.boolean) "isIn" 1 22 (pg_oI h) (F_X12_isIn_5 h n a0 a1 a2 a3 a4) 5 [(0, pR a0), (1, pI a1), (2, pI a2), (3, pI a3), (4, pI a4)] [] h := by
  intro n
  induction n with
  | zero => intro a0 a1 a2 a3 a4; exact pg_none
  | succ n ih =>
    intro a0 a1 a2 a3 a4
    rw [F_X12_isIn_5]
    refine pg_iload dX12_isIn_5 4 rfl ?_
    refine pg_aload_n (i := 0) dX12_isIn_7 rfl 0 rfl ?_
    refine pg_getR dX12_isIn_8 fl_RX12_20 rfl (fun v1 => ?_)
    refine pg_sipush dX12_isIn_11 cs_1347 ?_
    refine pg_iaload dX12_isIn_14 (fun v2 => ?_)
    refine pg_icmp_ge (tgt := 56) dX12_isIn_15 rfl ?_ ?_
    · refine pg_iload_n (i := 3) dX12_isIn_56 rfl 3 rfl ?_
      exact pg_zretq dX12_isIn_57 rfl rfl
    · refine pg_iload_n (i := 3) dX12_isIn_18 rfl 3 rfl ?_
      refine pg_if_ne (tgt := 44) dX12_isIn_19 rfl ?_ ?_
      · exact pg_to (e_X12_isIn_44 l D h (F_X12_isIn_5 h n) ih a0 a1 a2 a4) [0, 1, 2, 4] rfl
      · refine pg_aload_n (i := 0) dX12_isIn_22 rfl 0 rfl ?_
        refine pg_iload dX12_isIn_23 4 rfl ?_
        refine pg_iconst dX12_isIn_25 ci_0 ?_
        refine pg_callV_oI (As := [pI a4, pI (0 : Int32)]) (rs := []) dX12_isIn_26 lk_RX12_143 vy_X12_noteOf nd_X12_noteOf (c_X12_noteOf l D h a0 a4 (0 : Int32)) rfl rfl (Nat.le_of_ble_eq_true rfl) (by decide) (by decide) (fun v3 => ?_)
        refine pg_iload_n (i := 1) dX12_isIn_29 rfl 1 rfl ?_
        refine pg_icmp_ne (tgt := 48) dX12_isIn_30 rfl ?_ ?_
        · exact pg_to (e_X12_isIn_48 l D h (F_X12_isIn_5 h n) ih a0 a1 a2 a4) [0, 1, 2, 4] rfl
        · refine pg_aload_n (i := 0) dX12_isIn_33 rfl 0 rfl ?_
          refine pg_iload dX12_isIn_34 4 rfl ?_
          refine pg_iconst dX12_isIn_36 ci_3 ?_
          refine pg_callV_oI (As := [pI a4, pI (3 : Int32)]) (rs := []) dX12_isIn_37 lk_RX12_143 vy_X12_noteOf nd_X12_noteOf (c_X12_noteOf l D h a0 a4 (3 : Int32)) rfl rfl (Nat.le_of_ble_eq_true rfl) (by decide) (by decide) (fun v4 => ?_)
          refine pg_iload_n (i := 2) dX12_isIn_40 rfl 2 rfl ?_
          refine pg_icmp_ne (tgt := 48) dX12_isIn_41 rfl ?_ ?_
          · exact pg_to (e_X12_isIn_48 l D h (F_X12_isIn_5 h n) ih a0 a1 a2 a4) [0, 1, 2, 4] rfl
          · exact pg_to (e_X12_isIn_44 l D h (F_X12_isIn_5 h n) ih a0 a1 a2 a4) [0, 1, 2, 4] rfl
theorem e_X12_isIn (l : Launch) (D : pg_D)  (h : pg_H) (a0 : Nat) (a1 : Int32) (a2 : Int32) : pg_EvF l D RX12 cX12_isIn 5 (some FieldType.boolean) "isIn" 1 22 (pg_oI h) (F_X12_isIn h a0 a1 a2) 0 [(0, pR a0), (1, pI a1), (2, pI a2)] [] h := by
  unfold F_X12_isIn
  refine pg_iconst dX12_isIn_0 ci_0 ?_
  refine pg_istore_n (i := 3) (lv' := [(3, pI (0 : Int32)), (0, pR a0), (1, pI a1), (2, pI a2)]) dX12_isIn_1 rfl (by decide) rfl ?_
  refine pg_iconst dX12_isIn_2 ci_0 ?_
  refine pg_istore (lv' := [(4, pI (0 : Int32)), (3, pI (0 : Int32)), (0, pR a0), (1, pI a1), (2, pI a2)]) dX12_isIn_3 (by decide) rfl ?_
  exact pg_to (e_X12_isIn_5 l D h pg_fuel a0 a1 a2 (0 : Int32) (0 : Int32)) [2, 3, 4, 1, 0] rfl
theorem c_X12_isIn (l : Launch) (D : pg_D) (h : pg_H) (a0 : Nat) (a1 : Int32) (a2 : Int32)  : ∀ x, F_X12_isIn h a0 a1 a2 = some x → pg_Ct l D yX12_isIn cX12_isIn 5 (some FieldType.boolean) 1 22 [pR a0, pI a1, pI a2] h (pg_oI h x) :=
  pg_Ct.of pn_RX12 (Nat.le_of_ble_eq_true rfl) (e_X12_isIn l D h a0 a1 a2)
def F_X12_towns_126 (h : pg_H) (k14 : Nat → Int32 → Int32 → Int32 → Option Int32) (a0 : Nat) (a1 : Int32) (a3 : Int32) (s0 : Int32) (s1 : Int32) : Option Int32 := pg_let (s1 + s0) fun v1 => (k14 a0 a1 v1 (a3 + (1 : Int32)))
def F_X12_towns_107 (h : pg_H) (k26 : Nat → Int32 → Int32 → Int32 → Int32 → Int32 → Option Int32) (a0 : Nat) (a1 : Int32) (a2 : Int32) (a3 : Int32) (a5 : Int32) (s0 : Int32) : Option Int32 := (k26 a0 a1 a2 a3 s0 (a5 + (1 : Int32)))
def F_X12_towns_102 (h : pg_H) (k26 : Nat → Int32 → Int32 → Int32 → Int32 → Int32 → Option Int32) (a0 : Nat) (a1 : Int32) (a2 : Int32) (a3 : Int32) (a5 : Int32) : Option Int32 := (F_X12_towns_107 h k26 a0 a1 a2 a3 a5 (1 : Int32))
def F_X12_towns_106 (h : pg_H) (k26 : Nat → Int32 → Int32 → Int32 → Int32 → Int32 → Option Int32) (a0 : Nat) (a1 : Int32) (a2 : Int32) (a3 : Int32) (a5 : Int32) : Option Int32 := (F_X12_towns_107 h k26 a0 a1 a2 a3 a5 (0 : Int32))
def F_X12_towns_26 (h : pg_H) (k14 : Nat → Int32 → Int32 → Int32 → Option Int32) : Nat → Nat → Int32 → Int32 → Int32 → Int32 → Int32 → Option Int32
  | 0 => fun _ _ _ _ _ _ => none
  | n + 1 => fun a0 a1 a2 a3 a4 a5 => Option.bind (pg_gR 12 3 h a0) fun v1 => Option.bind (pg_aI 21 h v1 (1345 : Int32)) fun v2 => (if a5 < v2 then (if a4 = 0 then Option.bind (pg_rcv 12 h a0 (F_X12_stayOf h a0 a5 (1 : Int32))) fun v3 => (if v3 = a3 then Option.bind (pg_rcv 12 h a0 (F_X12_stayOf h a0 a5 (2 : Int32))) fun v4 => Option.bind (pg_rcv 12 h a0 (F_X12_handOf h a0 a1 (1 : Int32))) fun v5 => (if v5 < v4 then (F_X12_towns_106 h (F_X12_towns_26 h k14 n) a0 a1 a2 a3 a5) else Option.bind (pg_rcv 12 h a0 (F_X12_stayOf h a0 a5 (3 : Int32))) fun v6 => Option.bind (pg_rcv 12 h a0 (F_X12_handOf h a0 a1 (0 : Int32))) fun v7 => (if v6 < v7 then (F_X12_towns_106 h (F_X12_towns_26 h k14 n) a0 a1 a2 a3 a5) else Option.bind (pg_rcv 12 h a0 (F_X12_stayOf h a0 a5 (0 : Int32))) fun v8 => Option.bind (pg_rcv 12 h a0 (F_X12_isIn h a0 v8 a1)) fun v9 => (if v9 = 0 then (F_X12_towns_106 h (F_X12_towns_26 h k14 n) a0 a1 a2 a3 a5) else (F_X12_towns_102 h (F_X12_towns_26 h k14 n) a0 a1 a2 a3 a5)))) else (F_X12_towns_106 h (F_X12_towns_26 h k14 n) a0 a1 a2 a3 a5)) else (F_X12_towns_102 h (F_X12_towns_26 h k14 n) a0 a1 a2 a3 a5)) else (if a4 = 0 then (F_X12_towns_126 h k14 a0 a1 a3 (0 : Int32) a2) else (F_X12_towns_126 h k14 a0 a1 a3 (1 : Int32) a2)))
def F_X12_towns_14 (h : pg_H) : Nat → Nat → Int32 → Int32 → Int32 → Option Int32
  | 0 => fun _ _ _ _ => none
  | n + 1 => fun a0 a1 a2 a3 => (if a3 < (32 : Int32) then (F_X12_towns_26 h (F_X12_towns_14 h n) pg_fuel a0 a1 a2 a3 (0 : Int32) (0 : Int32)) else (some a2))
def F_X12_towns (h : pg_H) (a0 : Nat) (a1 : Int32) : Option Int32 := Option.bind (pg_rcv 12 h a0 (F_X12_isHand h a0 a1)) fun v1 => (if v1 = 0 then (some (-1 : Int32)) else (F_X12_towns_14 h pg_fuel a0 a1 (0 : Int32) (0 : Int32)))
theorem e_X12_towns_126 (l : Launch) (D : pg_D)  (h : pg_H) (k14 : Nat → Int32 → Int32 → Int32 → Option Int32) (hk14 : ∀ (a0 : Nat) (a1 : Int32) (a2 : Int32) (a3 : Int32), pg_EvF l D RX12 cX12_towns 6 (some FieldType.int) "towns" 2 46 (pg_oI h) (k14 a0 a1 a2 a3) 14 [(0, pR a0), (1, pI a1), (2, pI a2), (3, pI a3)] [] h) (a0 : Nat) (a1 : Int32) (a3 : Int32) (s0 : Int32) (s1 : Int32) : pg_EvF l D RX12 cX12_towns 6 (some FieldType.int) "towns" 2 46 (pg_oI h) (F_X12_towns_126 h k14 a0 a1 a3 s0 s1) 126 [(0, pR a0), (1, pI a1), (3, pI a3)] [pI s0, pI s1] h := by
  unfold F_X12_towns_126
  refine pg_iadd dX12_towns_126 ?_
  refine pg_letI (fun v1 => ?_)
  refine pg_istore_n (i := 2) (lv' := [(2, pI v1), (0, pR a0), (1, pI a1), (3, pI a3)]) dX12_towns_127 rfl (by decide) rfl ?_
  refine pg_iinc (lv' := [(3, pI (a3 + (1 : Int32))), (2, pI v1), (0, pR a0), (1, pI a1)]) dX12_towns_128 3 rfl ci_1 (by decide) rfl ?_
  refine pg_goto (tgt := 14) dX12_towns_131 rfl ?_
  exact pg_to (hk14 a0 a1 v1 (a3 + (1 : Int32))) [2, 3, 1, 0] rfl
theorem e_X12_towns_107 (l : Launch) (D : pg_D)  (h : pg_H) (k26 : Nat → Int32 → Int32 → Int32 → Int32 → Int32 → Option Int32) (hk26 : ∀ (a0 : Nat) (a1 : Int32) (a2 : Int32) (a3 : Int32) (a4 : Int32) (a5 : Int32), pg_EvF l D RX12 cX12_towns 6 (some FieldType.int) "towns" 2 46 (pg_oI h) (k26 a0 a1 a2 a3 a4 a5) 26 [(0, pR a0), (1, pI a1), (2, pI a2), (3, pI a3), (4, pI a4), (5, pI a5)] [] h) (a0 : Nat) (a1 : Int32) (a2 : Int32) (a3 : Int32) (a5 : Int32) (s0 : Int32) : pg_EvF l D RX12 cX12_towns 6 (some FieldType.int) "towns" 2 46 (pg_oI h) (F_X12_towns_107 h k26 a0 a1 a2 a3 a5 s0) 107 [(0, pR a0), (1, pI a1), (2, pI a2), (3, pI a3), (5, pI a5)] [pI s0] h := by
  unfold F_X12_towns_107
  refine pg_istore (lv' := [(4, pI s0), (0, pR a0), (1, pI a1), (2, pI a2), (3, pI a3), (5, pI a5)]) dX12_towns_107 (by decide) rfl ?_
  refine pg_iinc (lv' := [(5, pI (a5 + (1 : Int32))), (4, pI s0), (0, pR a0), (1, pI a1), (2, pI a2), (3, pI a3)]) dX12_towns_109 5 rfl ci_1 (by decide) rfl ?_
  refine pg_goto (tgt := 26) dX12_towns_112 rfl ?_
  exact pg_to (hk26 a0 a1 a2 a3 s0 (a5 + (1 : Int32))) [2, 3, 4, 5, 1, 0] rfl
theorem e_X12_towns_102 (l : Launch) (D : pg_D)  (h : pg_H) (k26 : Nat → Int32 → Int32 → Int32 → Int32 → Int32 → Option Int32) (hk26 : ∀ (a0 : Nat) (a1 : Int32) (a2 : Int32) (a3 : Int32) (a4 : Int32) (a5 : Int32), pg_EvF l D RX12 cX12_towns 6 (some FieldType.int) "towns" 2 46 (pg_oI h) (k26 a0 a1 a2 a3 a4 a5) 26 [(0, pR a0), (1, pI a1), (2, pI a2), (3, pI a3), (4, pI a4), (5, pI a5)] [] h) (a0 : Nat) (a1 : Int32) (a2 : Int32) (a3 : Int32) (a5 : Int32) : pg_EvF l D RX12 cX12_towns 6 (some FieldType.int) "towns" 2 46 (pg_oI h) (F_X12_towns_102 h k26 a0 a1 a2 a3 a5) 102 [(0, pR a0), (1, pI a1), (2, pI a2), (3, pI a3), (5, pI a5)] [] h := by
  unfold F_X12_towns_102
  refine pg_iconst dX12_towns_102 ci_1 ?_
  refine pg_goto (tgt := 107) dX12_towns_103 rfl ?_
  exact pg_to (e_X12_towns_107 l D h k26 hk26 a0 a1 a2 a3 a5 (1 : Int32)) [0, 1, 2, 3, 4] rfl
theorem e_X12_towns_106 (l : Launch) (D : pg_D)  (h : pg_H) (k26 : Nat → Int32 → Int32 → Int32 → Int32 → Int32 → Option Int32) (hk26 : ∀ (a0 : Nat) (a1 : Int32) (a2 : Int32) (a3 : Int32) (a4 : Int32) (a5 : Int32), pg_EvF l D RX12 cX12_towns 6 (some FieldType.int) "towns" 2 46 (pg_oI h) (k26 a0 a1 a2 a3 a4 a5) 26 [(0, pR a0), (1, pI a1), (2, pI a2), (3, pI a3), (4, pI a4), (5, pI a5)] [] h) (a0 : Nat) (a1 : Int32) (a2 : Int32) (a3 : Int32) (a5 : Int32) : pg_EvF l D RX12 cX12_towns 6 (some FieldType.int) "towns" 2 46 (pg_oI h) (F_X12_towns_106 h k26 a0 a1 a2 a3 a5) 106 [(0, pR a0), (1, pI a1), (2, pI a2), (3, pI a3), (5, pI a5)] [] h := by
  unfold F_X12_towns_106
  refine pg_iconst dX12_towns_106 ci_0 ?_
  exact pg_to (e_X12_towns_107 l D h k26 hk26 a0 a1 a2 a3 a5 (0 : Int32)) [0, 1, 2, 3, 4] rfl
theorem e_X12_towns_26 (l : Launch) (D : pg_D)  (h : pg_H) (k14 : Nat → Int32 → Int32 → Int32 → Option Int32) (hk14 : ∀ (a0 : Nat) (a1 : Int32) (a2 : Int32) (a3 : Int32), pg_EvF l D RX12 cX12_towns 6 (some FieldType.int) "towns" 2 46 (pg_oI h) (k14 a0 a1 a2 a3) 14 [(0, pR a0), (1, pI a1), (2, pI a2), (3, pI a3)] [] h) : ∀ (n : Nat) (a0 : Nat) (a1 : Int32) (a2 : Int32) (a3 : Int32) (a4 : Int32) (a5 : Int32), pg_EvF l D RX12 cX12_towns 6 (some FieldType.int) "towns" 2 46 (pg_oI h) (F_X12_towns_26 h k14 n a0 a1 a2 a3 a4 a5) 26 [(0, pR a0), (1, pI a1), (2, pI a2), (3, pI a3), (4, pI a4), (5, pI a5)] [] h := by
  intro n
  induction n with
  | zero => intro a0 a1 a2 a3 a4 a5; exact pg_none
  | succ n ih =>
    intro a0 a1 a2 a3 a4 a5
    rw [F_X12_towns_26]
    refine pg_iload dX12_towns_26 5 rfl ?_
    refine pg_aload_n (i := 0) dX12_towns_28 rfl 0 rfl ?_
    refine pg_getR dX12_towns_29 fl_RX12_20 rfl (fun v1 => ?_)
    refine pg_sipush dX12_towns_32 cs_1345 ?_
    refine pg_iaload dX12_towns_35 (fun v2 => ?_)
    refine pg_icmp_ge (tgt := 115) dX12_towns_36 rfl ?_ ?_
    · refine pg_iload_n (i := 2) dX12_towns_115 rfl 2 rfl ?_
      refine pg_iload dX12_towns_116 4 rfl ?_
      refine pg_if_eq (tgt := 125) dX12_towns_118 rfl ?_ ?_
      · refine pg_iconst dX12_towns_125 ci_0 ?_
        exact pg_to (e_X12_towns_126 l D h k14 hk14 a0 a1 a3 (0 : Int32) a2) [0, 1, 3] rfl
      · refine pg_iconst dX12_towns_121 ci_1 ?_
        refine pg_goto (tgt := 126) dX12_towns_122 rfl ?_
        exact pg_to (e_X12_towns_126 l D h k14 hk14 a0 a1 a3 (1 : Int32) a2) [0, 1, 3] rfl
    · refine pg_iload dX12_towns_39 4 rfl ?_
      refine pg_if_ne (tgt := 102) dX12_towns_41 rfl ?_ ?_
      · exact pg_to (e_X12_towns_102 l D h (F_X12_towns_26 h k14 n) ih a0 a1 a2 a3 a5) [0, 1, 2, 3, 5] rfl
      · refine pg_aload_n (i := 0) dX12_towns_44 rfl 0 rfl ?_
        refine pg_iload dX12_towns_45 5 rfl ?_
        refine pg_iconst dX12_towns_47 ci_1 ?_
        refine pg_callV_oI (As := [pI a5, pI (1 : Int32)]) (rs := []) dX12_towns_48 lk_RX12_311 vy_X12_stayOf nd_X12_stayOf (c_X12_stayOf l D h a0 a5 (1 : Int32)) rfl rfl (Nat.le_of_ble_eq_true rfl) (by decide) (by decide) (fun v3 => ?_)
        refine pg_iload_n (i := 3) dX12_towns_51 rfl 3 rfl ?_
        refine pg_icmp_ne (tgt := 106) dX12_towns_52 rfl ?_ ?_
        · exact pg_to (e_X12_towns_106 l D h (F_X12_towns_26 h k14 n) ih a0 a1 a2 a3 a5) [0, 1, 2, 3, 5] rfl
        · refine pg_aload_n (i := 0) dX12_towns_55 rfl 0 rfl ?_
          refine pg_iload dX12_towns_56 5 rfl ?_
          refine pg_iconst dX12_towns_58 ci_2 ?_
          refine pg_callV_oI (As := [pI a5, pI (2 : Int32)]) (rs := []) dX12_towns_59 lk_RX12_311 vy_X12_stayOf nd_X12_stayOf (c_X12_stayOf l D h a0 a5 (2 : Int32)) rfl rfl (Nat.le_of_ble_eq_true rfl) (by decide) (by decide) (fun v4 => ?_)
          refine pg_aload_n (i := 0) dX12_towns_62 rfl 0 rfl ?_
          refine pg_iload_n (i := 1) dX12_towns_63 rfl 1 rfl ?_
          refine pg_iconst dX12_towns_64 ci_1 ?_
          refine pg_callV_oI (As := [pI a1, pI (1 : Int32)]) (rs := [pI v4]) dX12_towns_65 lk_RX12_375 vy_X12_handOf nd_X12_handOf (c_X12_handOf l D h a0 a1 (1 : Int32)) rfl rfl (Nat.le_of_ble_eq_true rfl) (by decide) (by decide) (fun v5 => ?_)
          refine pg_icmp_gt (tgt := 106) dX12_towns_68 rfl ?_ ?_
          · exact pg_to (e_X12_towns_106 l D h (F_X12_towns_26 h k14 n) ih a0 a1 a2 a3 a5) [0, 1, 2, 3, 5] rfl
          · refine pg_aload_n (i := 0) dX12_towns_71 rfl 0 rfl ?_
            refine pg_iload dX12_towns_72 5 rfl ?_
            refine pg_iconst dX12_towns_74 ci_3 ?_
            refine pg_callV_oI (As := [pI a5, pI (3 : Int32)]) (rs := []) dX12_towns_75 lk_RX12_311 vy_X12_stayOf nd_X12_stayOf (c_X12_stayOf l D h a0 a5 (3 : Int32)) rfl rfl (Nat.le_of_ble_eq_true rfl) (by decide) (by decide) (fun v6 => ?_)
            refine pg_aload_n (i := 0) dX12_towns_78 rfl 0 rfl ?_
            refine pg_iload_n (i := 1) dX12_towns_79 rfl 1 rfl ?_
            refine pg_iconst dX12_towns_80 ci_0 ?_
            refine pg_callV_oI (As := [pI a1, pI (0 : Int32)]) (rs := [pI v6]) dX12_towns_81 lk_RX12_375 vy_X12_handOf nd_X12_handOf (c_X12_handOf l D h a0 a1 (0 : Int32)) rfl rfl (Nat.le_of_ble_eq_true rfl) (by decide) (by decide) (fun v7 => ?_)
            refine pg_icmp_lt (tgt := 106) dX12_towns_84 rfl ?_ ?_
            · exact pg_to (e_X12_towns_106 l D h (F_X12_towns_26 h k14 n) ih a0 a1 a2 a3 a5) [0, 1, 2, 3, 5] rfl
            · refine pg_aload_n (i := 0) dX12_towns_87 rfl 0 rfl ?_
              refine pg_aload_n (i := 0) dX12_towns_88 rfl 0 rfl ?_
              refine pg_iload dX12_towns_89 5 rfl ?_
              refine pg_iconst dX12_towns_91 ci_0 ?_
              refine pg_callV_oI (As := [pI a5, pI (0 : Int32)]) (rs := [pR a0]) dX12_towns_92 lk_RX12_311 vy_X12_stayOf nd_X12_stayOf (c_X12_stayOf l D h a0 a5 (0 : Int32)) rfl rfl (Nat.le_of_ble_eq_true rfl) (by decide) (by decide) (fun v8 => ?_)
              refine pg_iload_n (i := 1) dX12_towns_95 rfl 1 rfl ?_
              refine pg_callV_oI (As := [pI v8, pI a1]) (rs := []) dX12_towns_96 lk_RX12_392 vy_X12_isIn nd_X12_isIn (c_X12_isIn l D h a0 v8 a1) rfl rfl (Nat.le_of_ble_eq_true rfl) (by decide) (by decide) (fun v9 => ?_)
              refine pg_if_eq (tgt := 106) dX12_towns_99 rfl ?_ ?_
              · exact pg_to (e_X12_towns_106 l D h (F_X12_towns_26 h k14 n) ih a0 a1 a2 a3 a5) [0, 1, 2, 3, 5] rfl
              · exact pg_to (e_X12_towns_102 l D h (F_X12_towns_26 h k14 n) ih a0 a1 a2 a3 a5) [0, 1, 2, 3, 5] rfl
theorem e_X12_towns_14 (l : Launch) (D : pg_D)  (h : pg_H) : ∀ (n : Nat) (a0 : Nat) (a1 : Int32) (a2 : Int32) (a3 : Int32), pg_EvF l D RX12 cX12_towns 6 (some FieldType.int) "towns" 2 46 (pg_oI h) (F_X12_towns_14 h n a0 a1 a2 a3) 14 [(0, pR a0), (1, pI a1), (2, pI a2), (3, pI a3)] [] h := by
  intro n
  induction n with
  | zero => intro a0 a1 a2 a3; exact pg_none
  | succ n ih =>
    intro a0 a1 a2 a3
    rw [F_X12_towns_14]
    refine pg_iload_n (i := 3) dX12_towns_14 rfl 3 rfl ?_
    refine pg_bipush dX12_towns_15 cb_32 ?_
    refine pg_icmp_ge (tgt := 134) dX12_towns_17 rfl ?_ ?_
    · refine pg_iload_n (i := 2) dX12_towns_134 rfl 2 rfl ?_
      exact pg_iret dX12_towns_135 rfl rfl
    · refine pg_iconst dX12_towns_20 ci_0 ?_
      refine pg_istore (lv' := [(4, pI (0 : Int32)), (0, pR a0), (1, pI a1), (2, pI a2), (3, pI a3)]) dX12_towns_21 (by decide) rfl ?_
      refine pg_iconst dX12_towns_23 ci_0 ?_
      refine pg_istore (lv' := [(5, pI (0 : Int32)), (4, pI (0 : Int32)), (0, pR a0), (1, pI a1), (2, pI a2), (3, pI a3)]) dX12_towns_24 (by decide) rfl ?_
      exact pg_to (e_X12_towns_26 l D h (F_X12_towns_14 h n) ih pg_fuel a0 a1 a2 a3 (0 : Int32) (0 : Int32)) [2, 3, 4, 5, 1, 0] rfl
theorem e_X12_towns (l : Launch) (D : pg_D)  (h : pg_H) (a0 : Nat) (a1 : Int32) : pg_EvF l D RX12 cX12_towns 6 (some FieldType.int) "towns" 2 46 (pg_oI h) (F_X12_towns h a0 a1) 0 [(0, pR a0), (1, pI a1)] [] h := by
  unfold F_X12_towns
  refine pg_aload_n (i := 0) dX12_towns_0 rfl 0 rfl ?_
  refine pg_iload_n (i := 1) dX12_towns_1 rfl 1 rfl ?_
  refine pg_callV_oI (As := [pI a1]) (rs := []) dX12_towns_2 lk_RX12_140 vy_X12_isHand nd_X12_isHand (c_X12_isHand l D h a0 a1) rfl rfl (Nat.le_of_ble_eq_true rfl) (by decide) (by decide) (fun v1 => ?_)
  refine pg_if_ne (tgt := 10) dX12_towns_5 rfl ?_ ?_
  · refine pg_iconst dX12_towns_10 ci_0 ?_
    refine pg_istore_n (i := 2) (lv' := [(2, pI (0 : Int32)), (0, pR a0), (1, pI a1)]) dX12_towns_11 rfl (by decide) rfl ?_
    refine pg_iconst dX12_towns_12 ci_0 ?_
    refine pg_istore_n (i := 3) (lv' := [(3, pI (0 : Int32)), (2, pI (0 : Int32)), (0, pR a0), (1, pI a1)]) dX12_towns_13 rfl (by decide) rfl ?_
    exact pg_to (e_X12_towns_14 l D h pg_fuel a0 a1 (0 : Int32) (0 : Int32)) [2, 3, 1, 0] rfl
  · refine pg_iconst dX12_towns_8 ci_m1 ?_
    exact pg_iret dX12_towns_9 rfl rfl
theorem c_X12_towns (l : Launch) (D : pg_D) (h : pg_H) (a0 : Nat) (a1 : Int32)  : ∀ x, F_X12_towns h a0 a1 = some x → pg_Ct l D yX12_towns cX12_towns 6 (some FieldType.int) 2 46 [pR a0, pI a1] h (pg_oI h x) :=
  pg_Ct.of pn_RX12 (Nat.le_of_ble_eq_true rfl) (e_X12_towns l D h a0 a1)
def F_X12_fromOf_109 (h : pg_H) (k67 : Nat → Int32 → Int32 → Int32 → Option Int32) (a0 : Nat) (a1 : Int32) (a3 : Int32) (a4 : Int32) : Option Int32 := (k67 a0 a1 a3 (a4 + (1 : Int32)))
def F_X12_fromOf_67 (h : pg_H) : Nat → Nat → Int32 → Int32 → Int32 → Option Int32
  | 0 => fun _ _ _ _ => none
  | n + 1 => fun a0 a1 a3 a4 => Option.bind (pg_gR 12 3 h a0) fun v1 => Option.bind (pg_aI 21 h v1 (1346 : Int32)) fun v2 => (if a4 < v2 then Option.bind (pg_rcv 12 h a0 (F_X12_isIn h a0 a1 a4)) fun v3 => (if v3 = 0 then (F_X12_fromOf_109 h (F_X12_fromOf_67 h n) a0 a1 a3 a4) else Option.bind (pg_rcv 12 h a0 (F_X12_handOf h a0 a4 (0 : Int32))) fun v4 => (if a3 < v4 then Option.bind (pg_rcv 12 h a0 (F_X12_handOf h a0 a4 (0 : Int32))) fun v5 => (F_X12_fromOf_109 h (F_X12_fromOf_67 h n) a0 a1 v5 a4) else (F_X12_fromOf_109 h (F_X12_fromOf_67 h n) a0 a1 a3 a4))) else (some a3))
def F_X12_fromOf_63 (h : pg_H) (a0 : Nat) (a1 : Int32) (s0 : Int32) : Option Int32 := (F_X12_fromOf_67 h pg_fuel a0 a1 s0 (0 : Int32))
def F_X12_fromOf_45 (h : pg_H) (k6 : Nat → Int32 → Int32 → Int32 → Option Int32) (a0 : Nat) (a1 : Int32) (a2 : Int32) (a3 : Int32) : Option Int32 := (k6 a0 a1 a2 (a3 + (1 : Int32)))
def F_X12_fromOf_6 (h : pg_H) : Nat → Nat → Int32 → Int32 → Int32 → Option Int32
  | 0 => fun _ _ _ _ => none
  | n + 1 => fun a0 a1 a2 a3 => Option.bind (pg_gR 12 3 h a0) fun v1 => Option.bind (pg_aI 21 h v1 (1345 : Int32)) fun v2 => (if a3 < v2 then Option.bind (pg_rcv 12 h a0 (F_X12_stayOf h a0 a3 (0 : Int32))) fun v3 => (if v3 = a1 then Option.bind (pg_rcv 12 h a0 (F_X12_stayOf h a0 a3 (2 : Int32))) fun v4 => (if v4 < a2 then Option.bind (pg_rcv 12 h a0 (F_X12_stayOf h a0 a3 (2 : Int32))) fun v5 => (F_X12_fromOf_45 h (F_X12_fromOf_6 h n) a0 a1 v5 a3) else (F_X12_fromOf_45 h (F_X12_fromOf_6 h n) a0 a1 a2 a3)) else (F_X12_fromOf_45 h (F_X12_fromOf_6 h n) a0 a1 a2 a3)) else (if a2 = (401 : Int32) then (F_X12_fromOf_63 h a0 a1 (0 : Int32)) else (F_X12_fromOf_63 h a0 a1 a2)))
def F_X12_fromOf (h : pg_H) (a0 : Nat) (a1 : Int32) : Option Int32 := (F_X12_fromOf_6 h pg_fuel a0 a1 (401 : Int32) (0 : Int32))
theorem e_X12_fromOf_109 (l : Launch) (D : pg_D)  (h : pg_H) (k67 : Nat → Int32 → Int32 → Int32 → Option Int32) (hk67 : ∀ (a0 : Nat) (a1 : Int32) (a3 : Int32) (a4 : Int32), pg_EvF l D RX12 cX12_fromOf 5 (some FieldType.int) "fromOf" 2 46 (pg_oI h) (k67 a0 a1 a3 a4) 67 [(0, pR a0), (1, pI a1), (3, pI a3), (4, pI a4)] [] h) (a0 : Nat) (a1 : Int32) (a3 : Int32) (a4 : Int32) : pg_EvF l D RX12 cX12_fromOf 5 (some FieldType.int) "fromOf" 2 46 (pg_oI h) (F_X12_fromOf_109 h k67 a0 a1 a3 a4) 109 [(0, pR a0), (1, pI a1), (3, pI a3), (4, pI a4)] [] h := by
  unfold F_X12_fromOf_109
  refine pg_iinc (lv' := [(4, pI (a4 + (1 : Int32))), (0, pR a0), (1, pI a1), (3, pI a3)]) dX12_fromOf_109 3 rfl ci_1 (by decide) rfl ?_
  refine pg_goto (tgt := 67) dX12_fromOf_112 rfl ?_
  exact pg_to (hk67 a0 a1 a3 (a4 + (1 : Int32))) [1, 2, 3, 0] rfl
theorem e_X12_fromOf_67 (l : Launch) (D : pg_D)  (h : pg_H) : ∀ (n : Nat) (a0 : Nat) (a1 : Int32) (a3 : Int32) (a4 : Int32), pg_EvF l D RX12 cX12_fromOf 5 (some FieldType.int) "fromOf" 2 46 (pg_oI h) (F_X12_fromOf_67 h n a0 a1 a3 a4) 67 [(0, pR a0), (1, pI a1), (3, pI a3), (4, pI a4)] [] h := by
  intro n
  induction n with
  | zero => intro a0 a1 a3 a4; exact pg_none
  | succ n ih =>
    intro a0 a1 a3 a4
    rw [F_X12_fromOf_67]
    refine pg_iload dX12_fromOf_67 3 rfl ?_
    refine pg_aload_n (i := 0) dX12_fromOf_69 rfl 0 rfl ?_
    refine pg_getR dX12_fromOf_70 fl_RX12_20 rfl (fun v1 => ?_)
    refine pg_sipush dX12_fromOf_73 cs_1346 ?_
    refine pg_iaload dX12_fromOf_76 (fun v2 => ?_)
    refine pg_icmp_ge (tgt := 115) dX12_fromOf_77 rfl ?_ ?_
    · refine pg_iload_n (i := 3) dX12_fromOf_115 rfl 2 rfl ?_
      exact pg_iret dX12_fromOf_116 rfl rfl
    · refine pg_aload_n (i := 0) dX12_fromOf_80 rfl 0 rfl ?_
      refine pg_iload_n (i := 1) dX12_fromOf_81 rfl 1 rfl ?_
      refine pg_iload dX12_fromOf_82 3 rfl ?_
      refine pg_callV_oI (As := [pI a1, pI a4]) (rs := []) dX12_fromOf_84 lk_RX12_392 vy_X12_isIn nd_X12_isIn (c_X12_isIn l D h a0 a1 a4) rfl rfl (Nat.le_of_ble_eq_true rfl) (by decide) (by decide) (fun v3 => ?_)
      refine pg_if_eq (tgt := 109) dX12_fromOf_87 rfl ?_ ?_
      · exact pg_to (e_X12_fromOf_109 l D h (F_X12_fromOf_67 h n) ih a0 a1 a3 a4) [0, 1, 2, 3] rfl
      · refine pg_aload_n (i := 0) dX12_fromOf_90 rfl 0 rfl ?_
        refine pg_iload dX12_fromOf_91 3 rfl ?_
        refine pg_iconst dX12_fromOf_93 ci_0 ?_
        refine pg_callV_oI (As := [pI a4, pI (0 : Int32)]) (rs := []) dX12_fromOf_94 lk_RX12_375 vy_X12_handOf nd_X12_handOf (c_X12_handOf l D h a0 a4 (0 : Int32)) rfl rfl (Nat.le_of_ble_eq_true rfl) (by decide) (by decide) (fun v4 => ?_)
        refine pg_iload_n (i := 3) dX12_fromOf_97 rfl 2 rfl ?_
        refine pg_icmp_le (tgt := 109) dX12_fromOf_98 rfl ?_ ?_
        · exact pg_to (e_X12_fromOf_109 l D h (F_X12_fromOf_67 h n) ih a0 a1 a3 a4) [0, 1, 2, 3] rfl
        · refine pg_aload_n (i := 0) dX12_fromOf_101 rfl 0 rfl ?_
          refine pg_iload dX12_fromOf_102 3 rfl ?_
          refine pg_iconst dX12_fromOf_104 ci_0 ?_
          refine pg_callV_oI (As := [pI a4, pI (0 : Int32)]) (rs := []) dX12_fromOf_105 lk_RX12_375 vy_X12_handOf nd_X12_handOf (c_X12_handOf l D h a0 a4 (0 : Int32)) rfl rfl (Nat.le_of_ble_eq_true rfl) (by decide) (by decide) (fun v5 => ?_)
          refine pg_istore_n (i := 3) (lv' := [(3, pI v5), (0, pR a0), (1, pI a1), (4, pI a4)]) dX12_fromOf_108 rfl (by decide) rfl ?_
          exact pg_to (e_X12_fromOf_109 l D h (F_X12_fromOf_67 h n) ih a0 a1 v5 a4) [1, 2, 0, 3] rfl
theorem e_X12_fromOf_63 (l : Launch) (D : pg_D)  (h : pg_H) (a0 : Nat) (a1 : Int32) (s0 : Int32) : pg_EvF l D RX12 cX12_fromOf 5 (some FieldType.int) "fromOf" 2 46 (pg_oI h) (F_X12_fromOf_63 h a0 a1 s0) 63 [(0, pR a0), (1, pI a1)] [pI s0] h := by
  unfold F_X12_fromOf_63
  refine pg_istore_n (i := 3) (lv' := [(3, pI s0), (0, pR a0), (1, pI a1)]) dX12_fromOf_63 rfl (by decide) rfl ?_
  refine pg_iconst dX12_fromOf_64 ci_0 ?_
  refine pg_istore (lv' := [(4, pI (0 : Int32)), (3, pI s0), (0, pR a0), (1, pI a1)]) dX12_fromOf_65 (by decide) rfl ?_
  exact pg_to (e_X12_fromOf_67 l D h pg_fuel a0 a1 s0 (0 : Int32)) [2, 3, 1, 0] rfl
theorem e_X12_fromOf_45 (l : Launch) (D : pg_D)  (h : pg_H) (k6 : Nat → Int32 → Int32 → Int32 → Option Int32) (hk6 : ∀ (a0 : Nat) (a1 : Int32) (a2 : Int32) (a3 : Int32), pg_EvF l D RX12 cX12_fromOf 5 (some FieldType.int) "fromOf" 2 46 (pg_oI h) (k6 a0 a1 a2 a3) 6 [(0, pR a0), (1, pI a1), (2, pI a2), (3, pI a3)] [] h) (a0 : Nat) (a1 : Int32) (a2 : Int32) (a3 : Int32) : pg_EvF l D RX12 cX12_fromOf 5 (some FieldType.int) "fromOf" 2 46 (pg_oI h) (F_X12_fromOf_45 h k6 a0 a1 a2 a3) 45 [(0, pR a0), (1, pI a1), (2, pI a2), (3, pI a3)] [] h := by
  unfold F_X12_fromOf_45
  refine pg_iinc (lv' := [(3, pI (a3 + (1 : Int32))), (0, pR a0), (1, pI a1), (2, pI a2)]) dX12_fromOf_45 3 rfl ci_1 (by decide) rfl ?_
  refine pg_goto (tgt := 6) dX12_fromOf_48 rfl ?_
  exact pg_to (hk6 a0 a1 a2 (a3 + (1 : Int32))) [1, 2, 3, 0] rfl
theorem e_X12_fromOf_6 (l : Launch) (D : pg_D)  (h : pg_H) : ∀ (n : Nat) (a0 : Nat) (a1 : Int32) (a2 : Int32) (a3 : Int32), pg_EvF l D RX12 cX12_fromOf 5 (some FieldType.int) "fromOf" 2 46 (pg_oI h) (F_X12_fromOf_6 h n a0 a1 a2 a3) 6 [(0, pR a0), (1, pI a1), (2, pI a2), (3, pI a3)] [] h := by
  intro n
  induction n with
  | zero => intro a0 a1 a2 a3; exact pg_none
  | succ n ih =>
    intro a0 a1 a2 a3
    rw [F_X12_fromOf_6]
    refine pg_iload_n (i := 3) dX12_fromOf_6 rfl 3 rfl ?_
    refine pg_aload_n (i := 0) dX12_fromOf_7 rfl 0 rfl ?_
    refine pg_getR dX12_fromOf_8 fl_RX12_20 rfl (fun v1 => ?_)
    refine pg_sipush dX12_fromOf_11 cs_1345 ?_
    refine pg_iaload dX12_fromOf_14 (fun v2 => ?_)
    refine pg_icmp_ge (tgt := 51) dX12_fromOf_15 rfl ?_ ?_
    · refine pg_iload_n (i := 2) dX12_fromOf_51 rfl 2 rfl ?_
      refine pg_sipush dX12_fromOf_52 cs_401 ?_
      refine pg_icmp_ne (tgt := 62) dX12_fromOf_55 rfl ?_ ?_
      · refine pg_iload_n (i := 2) dX12_fromOf_62 rfl 2 rfl ?_
        exact pg_to (e_X12_fromOf_63 l D h a0 a1 a2) [0, 1] rfl
      · refine pg_iconst dX12_fromOf_58 ci_0 ?_
        refine pg_goto (tgt := 63) dX12_fromOf_59 rfl ?_
        exact pg_to (e_X12_fromOf_63 l D h a0 a1 (0 : Int32)) [0, 1] rfl
    · refine pg_aload_n (i := 0) dX12_fromOf_18 rfl 0 rfl ?_
      refine pg_iload_n (i := 3) dX12_fromOf_19 rfl 3 rfl ?_
      refine pg_iconst dX12_fromOf_20 ci_0 ?_
      refine pg_callV_oI (As := [pI a3, pI (0 : Int32)]) (rs := []) dX12_fromOf_21 lk_RX12_311 vy_X12_stayOf nd_X12_stayOf (c_X12_stayOf l D h a0 a3 (0 : Int32)) rfl rfl (Nat.le_of_ble_eq_true rfl) (by decide) (by decide) (fun v3 => ?_)
      refine pg_iload_n (i := 1) dX12_fromOf_24 rfl 1 rfl ?_
      refine pg_icmp_ne (tgt := 45) dX12_fromOf_25 rfl ?_ ?_
      · exact pg_to (e_X12_fromOf_45 l D h (F_X12_fromOf_6 h n) ih a0 a1 a2 a3) [0, 1, 2, 3] rfl
      · refine pg_aload_n (i := 0) dX12_fromOf_28 rfl 0 rfl ?_
        refine pg_iload_n (i := 3) dX12_fromOf_29 rfl 3 rfl ?_
        refine pg_iconst dX12_fromOf_30 ci_2 ?_
        refine pg_callV_oI (As := [pI a3, pI (2 : Int32)]) (rs := []) dX12_fromOf_31 lk_RX12_311 vy_X12_stayOf nd_X12_stayOf (c_X12_stayOf l D h a0 a3 (2 : Int32)) rfl rfl (Nat.le_of_ble_eq_true rfl) (by decide) (by decide) (fun v4 => ?_)
        refine pg_iload_n (i := 2) dX12_fromOf_34 rfl 2 rfl ?_
        refine pg_icmp_ge (tgt := 45) dX12_fromOf_35 rfl ?_ ?_
        · exact pg_to (e_X12_fromOf_45 l D h (F_X12_fromOf_6 h n) ih a0 a1 a2 a3) [0, 1, 2, 3] rfl
        · refine pg_aload_n (i := 0) dX12_fromOf_38 rfl 0 rfl ?_
          refine pg_iload_n (i := 3) dX12_fromOf_39 rfl 3 rfl ?_
          refine pg_iconst dX12_fromOf_40 ci_2 ?_
          refine pg_callV_oI (As := [pI a3, pI (2 : Int32)]) (rs := []) dX12_fromOf_41 lk_RX12_311 vy_X12_stayOf nd_X12_stayOf (c_X12_stayOf l D h a0 a3 (2 : Int32)) rfl rfl (Nat.le_of_ble_eq_true rfl) (by decide) (by decide) (fun v5 => ?_)
          refine pg_istore_n (i := 2) (lv' := [(2, pI v5), (0, pR a0), (1, pI a1), (3, pI a3)]) dX12_fromOf_44 rfl (by decide) rfl ?_
          exact pg_to (e_X12_fromOf_45 l D h (F_X12_fromOf_6 h n) ih a0 a1 v5 a3) [1, 2, 0, 3] rfl
theorem e_X12_fromOf (l : Launch) (D : pg_D)  (h : pg_H) (a0 : Nat) (a1 : Int32) : pg_EvF l D RX12 cX12_fromOf 5 (some FieldType.int) "fromOf" 2 46 (pg_oI h) (F_X12_fromOf h a0 a1) 0 [(0, pR a0), (1, pI a1)] [] h := by
  unfold F_X12_fromOf
  refine pg_sipush dX12_fromOf_0 cs_401 ?_
  refine pg_istore_n (i := 2) (lv' := [(2, pI (401 : Int32)), (0, pR a0), (1, pI a1)]) dX12_fromOf_3 rfl (by decide) rfl ?_
  refine pg_iconst dX12_fromOf_4 ci_0 ?_
  refine pg_istore_n (i := 3) (lv' := [(3, pI (0 : Int32)), (2, pI (401 : Int32)), (0, pR a0), (1, pI a1)]) dX12_fromOf_5 rfl (by decide) rfl ?_
  exact pg_to (e_X12_fromOf_6 l D h pg_fuel a0 a1 (401 : Int32) (0 : Int32)) [2, 3, 1, 0] rfl
theorem c_X12_fromOf (l : Launch) (D : pg_D) (h : pg_H) (a0 : Nat) (a1 : Int32)  : ∀ x, F_X12_fromOf h a0 a1 = some x → pg_Ct l D yX12_fromOf cX12_fromOf 5 (some FieldType.int) 2 46 [pR a0, pI a1] h (pg_oI h x) :=
  pg_Ct.of pn_RX12 (Nat.le_of_ble_eq_true rfl) (e_X12_fromOf l D h a0 a1)
def F_X12_toOf_107 (h : pg_H) (k65 : Nat → Int32 → Int32 → Int32 → Option Int32) (a0 : Nat) (a1 : Int32) (a3 : Int32) (a4 : Int32) : Option Int32 := (k65 a0 a1 a3 (a4 + (1 : Int32)))
def F_X12_toOf_65 (h : pg_H) : Nat → Nat → Int32 → Int32 → Int32 → Option Int32
  | 0 => fun _ _ _ _ => none
  | n + 1 => fun a0 a1 a3 a4 => Option.bind (pg_gR 12 3 h a0) fun v1 => Option.bind (pg_aI 21 h v1 (1346 : Int32)) fun v2 => (if a4 < v2 then Option.bind (pg_rcv 12 h a0 (F_X12_isIn h a0 a1 a4)) fun v3 => (if v3 = 0 then (F_X12_toOf_107 h (F_X12_toOf_65 h n) a0 a1 a3 a4) else Option.bind (pg_rcv 12 h a0 (F_X12_handOf h a0 a4 (1 : Int32))) fun v4 => (if v4 < a3 then Option.bind (pg_rcv 12 h a0 (F_X12_handOf h a0 a4 (1 : Int32))) fun v5 => (F_X12_toOf_107 h (F_X12_toOf_65 h n) a0 a1 v5 a4) else (F_X12_toOf_107 h (F_X12_toOf_65 h n) a0 a1 a3 a4))) else (some a3))
def F_X12_toOf_61 (h : pg_H) (a0 : Nat) (a1 : Int32) (s0 : Int32) : Option Int32 := (F_X12_toOf_65 h pg_fuel a0 a1 s0 (0 : Int32))
def F_X12_toOf_43 (h : pg_H) (k4 : Nat → Int32 → Int32 → Int32 → Option Int32) (a0 : Nat) (a1 : Int32) (a2 : Int32) (a3 : Int32) : Option Int32 := (k4 a0 a1 a2 (a3 + (1 : Int32)))
def F_X12_toOf_4 (h : pg_H) : Nat → Nat → Int32 → Int32 → Int32 → Option Int32
  | 0 => fun _ _ _ _ => none
  | n + 1 => fun a0 a1 a2 a3 => Option.bind (pg_gR 12 3 h a0) fun v1 => Option.bind (pg_aI 21 h v1 (1345 : Int32)) fun v2 => (if a3 < v2 then Option.bind (pg_rcv 12 h a0 (F_X12_stayOf h a0 a3 (0 : Int32))) fun v3 => (if v3 = a1 then Option.bind (pg_rcv 12 h a0 (F_X12_stayOf h a0 a3 (3 : Int32))) fun v4 => (if a2 < v4 then Option.bind (pg_rcv 12 h a0 (F_X12_stayOf h a0 a3 (3 : Int32))) fun v5 => (F_X12_toOf_43 h (F_X12_toOf_4 h n) a0 a1 v5 a3) else (F_X12_toOf_43 h (F_X12_toOf_4 h n) a0 a1 a2 a3)) else (F_X12_toOf_43 h (F_X12_toOf_4 h n) a0 a1 a2 a3)) else (if a2 = (-1 : Int32) then (F_X12_toOf_61 h a0 a1 (400 : Int32)) else (F_X12_toOf_61 h a0 a1 a2)))
def F_X12_toOf (h : pg_H) (a0 : Nat) (a1 : Int32) : Option Int32 := (F_X12_toOf_4 h pg_fuel a0 a1 (-1 : Int32) (0 : Int32))
theorem e_X12_toOf_107 (l : Launch) (D : pg_D)  (h : pg_H) (k65 : Nat → Int32 → Int32 → Int32 → Option Int32) (hk65 : ∀ (a0 : Nat) (a1 : Int32) (a3 : Int32) (a4 : Int32), pg_EvF l D RX12 cX12_toOf 5 (some FieldType.int) "toOf" 2 46 (pg_oI h) (k65 a0 a1 a3 a4) 65 [(0, pR a0), (1, pI a1), (3, pI a3), (4, pI a4)] [] h) (a0 : Nat) (a1 : Int32) (a3 : Int32) (a4 : Int32) : pg_EvF l D RX12 cX12_toOf 5 (some FieldType.int) "toOf" 2 46 (pg_oI h) (F_X12_toOf_107 h k65 a0 a1 a3 a4) 107 [(0, pR a0), (1, pI a1), (3, pI a3), (4, pI a4)] [] h := by
  unfold F_X12_toOf_107
  refine pg_iinc (lv' := [(4, pI (a4 + (1 : Int32))), (0, pR a0), (1, pI a1), (3, pI a3)]) dX12_toOf_107 3 rfl ci_1 (by decide) rfl ?_
  refine pg_goto (tgt := 65) dX12_toOf_110 rfl ?_
  exact pg_to (hk65 a0 a1 a3 (a4 + (1 : Int32))) [1, 2, 3, 0] rfl
theorem e_X12_toOf_65 (l : Launch) (D : pg_D)  (h : pg_H) : ∀ (n : Nat) (a0 : Nat) (a1 : Int32) (a3 : Int32) (a4 : Int32), pg_EvF l D RX12 cX12_toOf 5 (some FieldType.int) "toOf" 2 46 (pg_oI h) (F_X12_toOf_65 h n a0 a1 a3 a4) 65 [(0, pR a0), (1, pI a1), (3, pI a3), (4, pI a4)] [] h := by
  intro n
  induction n with
  | zero => intro a0 a1 a3 a4; exact pg_none
  | succ n ih =>
    intro a0 a1 a3 a4
    rw [F_X12_toOf_65]
    refine pg_iload dX12_toOf_65 3 rfl ?_
    refine pg_aload_n (i := 0) dX12_toOf_67 rfl 0 rfl ?_
    refine pg_getR dX12_toOf_68 fl_RX12_20 rfl (fun v1 => ?_)
    refine pg_sipush dX12_toOf_71 cs_1346 ?_
    refine pg_iaload dX12_toOf_74 (fun v2 => ?_)
    refine pg_icmp_ge (tgt := 113) dX12_toOf_75 rfl ?_ ?_
    · refine pg_iload_n (i := 3) dX12_toOf_113 rfl 2 rfl ?_
      exact pg_iret dX12_toOf_114 rfl rfl
    · refine pg_aload_n (i := 0) dX12_toOf_78 rfl 0 rfl ?_
      refine pg_iload_n (i := 1) dX12_toOf_79 rfl 1 rfl ?_
      refine pg_iload dX12_toOf_80 3 rfl ?_
      refine pg_callV_oI (As := [pI a1, pI a4]) (rs := []) dX12_toOf_82 lk_RX12_392 vy_X12_isIn nd_X12_isIn (c_X12_isIn l D h a0 a1 a4) rfl rfl (Nat.le_of_ble_eq_true rfl) (by decide) (by decide) (fun v3 => ?_)
      refine pg_if_eq (tgt := 107) dX12_toOf_85 rfl ?_ ?_
      · exact pg_to (e_X12_toOf_107 l D h (F_X12_toOf_65 h n) ih a0 a1 a3 a4) [0, 1, 2, 3] rfl
      · refine pg_aload_n (i := 0) dX12_toOf_88 rfl 0 rfl ?_
        refine pg_iload dX12_toOf_89 3 rfl ?_
        refine pg_iconst dX12_toOf_91 ci_1 ?_
        refine pg_callV_oI (As := [pI a4, pI (1 : Int32)]) (rs := []) dX12_toOf_92 lk_RX12_375 vy_X12_handOf nd_X12_handOf (c_X12_handOf l D h a0 a4 (1 : Int32)) rfl rfl (Nat.le_of_ble_eq_true rfl) (by decide) (by decide) (fun v4 => ?_)
        refine pg_iload_n (i := 3) dX12_toOf_95 rfl 2 rfl ?_
        refine pg_icmp_ge (tgt := 107) dX12_toOf_96 rfl ?_ ?_
        · exact pg_to (e_X12_toOf_107 l D h (F_X12_toOf_65 h n) ih a0 a1 a3 a4) [0, 1, 2, 3] rfl
        · refine pg_aload_n (i := 0) dX12_toOf_99 rfl 0 rfl ?_
          refine pg_iload dX12_toOf_100 3 rfl ?_
          refine pg_iconst dX12_toOf_102 ci_1 ?_
          refine pg_callV_oI (As := [pI a4, pI (1 : Int32)]) (rs := []) dX12_toOf_103 lk_RX12_375 vy_X12_handOf nd_X12_handOf (c_X12_handOf l D h a0 a4 (1 : Int32)) rfl rfl (Nat.le_of_ble_eq_true rfl) (by decide) (by decide) (fun v5 => ?_)
          refine pg_istore_n (i := 3) (lv' := [(3, pI v5), (0, pR a0), (1, pI a1), (4, pI a4)]) dX12_toOf_106 rfl (by decide) rfl ?_
          exact pg_to (e_X12_toOf_107 l D h (F_X12_toOf_65 h n) ih a0 a1 v5 a4) [1, 2, 0, 3] rfl
theorem e_X12_toOf_61 (l : Launch) (D : pg_D)  (h : pg_H) (a0 : Nat) (a1 : Int32) (s0 : Int32) : pg_EvF l D RX12 cX12_toOf 5 (some FieldType.int) "toOf" 2 46 (pg_oI h) (F_X12_toOf_61 h a0 a1 s0) 61 [(0, pR a0), (1, pI a1)] [pI s0] h := by
  unfold F_X12_toOf_61
  refine pg_istore_n (i := 3) (lv' := [(3, pI s0), (0, pR a0), (1, pI a1)]) dX12_toOf_61 rfl (by decide) rfl ?_
  refine pg_iconst dX12_toOf_62 ci_0 ?_
  refine pg_istore (lv' := [(4, pI (0 : Int32)), (3, pI s0), (0, pR a0), (1, pI a1)]) dX12_toOf_63 (by decide) rfl ?_
  exact pg_to (e_X12_toOf_65 l D h pg_fuel a0 a1 s0 (0 : Int32)) [2, 3, 1, 0] rfl
theorem e_X12_toOf_43 (l : Launch) (D : pg_D)  (h : pg_H) (k4 : Nat → Int32 → Int32 → Int32 → Option Int32) (hk4 : ∀ (a0 : Nat) (a1 : Int32) (a2 : Int32) (a3 : Int32), pg_EvF l D RX12 cX12_toOf 5 (some FieldType.int) "toOf" 2 46 (pg_oI h) (k4 a0 a1 a2 a3) 4 [(0, pR a0), (1, pI a1), (2, pI a2), (3, pI a3)] [] h) (a0 : Nat) (a1 : Int32) (a2 : Int32) (a3 : Int32) : pg_EvF l D RX12 cX12_toOf 5 (some FieldType.int) "toOf" 2 46 (pg_oI h) (F_X12_toOf_43 h k4 a0 a1 a2 a3) 43 [(0, pR a0), (1, pI a1), (2, pI a2), (3, pI a3)] [] h := by
  unfold F_X12_toOf_43
  refine pg_iinc (lv' := [(3, pI (a3 + (1 : Int32))), (0, pR a0), (1, pI a1), (2, pI a2)]) dX12_toOf_43 3 rfl ci_1 (by decide) rfl ?_
  refine pg_goto (tgt := 4) dX12_toOf_46 rfl ?_
  exact pg_to (hk4 a0 a1 a2 (a3 + (1 : Int32))) [1, 2, 3, 0] rfl
theorem e_X12_toOf_4 (l : Launch) (D : pg_D)  (h : pg_H) : ∀ (n : Nat) (a0 : Nat) (a1 : Int32) (a2 : Int32) (a3 : Int32), pg_EvF l D RX12 cX12_toOf 5 (some FieldType.int) "toOf" 2 46 (pg_oI h) (F_X12_toOf_4 h n a0 a1 a2 a3) 4 [(0, pR a0), (1, pI a1), (2, pI a2), (3, pI a3)] [] h := by
  intro n
  induction n with
  | zero => intro a0 a1 a2 a3; exact pg_none
  | succ n ih =>
    intro a0 a1 a2 a3
    rw [F_X12_toOf_4]
    refine pg_iload_n (i := 3) dX12_toOf_4 rfl 3 rfl ?_
    refine pg_aload_n (i := 0) dX12_toOf_5 rfl 0 rfl ?_
    refine pg_getR dX12_toOf_6 fl_RX12_20 rfl (fun v1 => ?_)
    refine pg_sipush dX12_toOf_9 cs_1345 ?_
    refine pg_iaload dX12_toOf_12 (fun v2 => ?_)
    refine pg_icmp_ge (tgt := 49) dX12_toOf_13 rfl ?_ ?_
    · refine pg_iload_n (i := 2) dX12_toOf_49 rfl 2 rfl ?_
      refine pg_iconst dX12_toOf_50 ci_m1 ?_
      refine pg_icmp_ne (tgt := 60) dX12_toOf_51 rfl ?_ ?_
      · refine pg_iload_n (i := 2) dX12_toOf_60 rfl 2 rfl ?_
        exact pg_to (e_X12_toOf_61 l D h a0 a1 a2) [0, 1] rfl
      · refine pg_sipush dX12_toOf_54 cs_400 ?_
        refine pg_goto (tgt := 61) dX12_toOf_57 rfl ?_
        exact pg_to (e_X12_toOf_61 l D h a0 a1 (400 : Int32)) [0, 1] rfl
    · refine pg_aload_n (i := 0) dX12_toOf_16 rfl 0 rfl ?_
      refine pg_iload_n (i := 3) dX12_toOf_17 rfl 3 rfl ?_
      refine pg_iconst dX12_toOf_18 ci_0 ?_
      refine pg_callV_oI (As := [pI a3, pI (0 : Int32)]) (rs := []) dX12_toOf_19 lk_RX12_311 vy_X12_stayOf nd_X12_stayOf (c_X12_stayOf l D h a0 a3 (0 : Int32)) rfl rfl (Nat.le_of_ble_eq_true rfl) (by decide) (by decide) (fun v3 => ?_)
      refine pg_iload_n (i := 1) dX12_toOf_22 rfl 1 rfl ?_
      refine pg_icmp_ne (tgt := 43) dX12_toOf_23 rfl ?_ ?_
      · exact pg_to (e_X12_toOf_43 l D h (F_X12_toOf_4 h n) ih a0 a1 a2 a3) [0, 1, 2, 3] rfl
      · refine pg_aload_n (i := 0) dX12_toOf_26 rfl 0 rfl ?_
        refine pg_iload_n (i := 3) dX12_toOf_27 rfl 3 rfl ?_
        refine pg_iconst dX12_toOf_28 ci_3 ?_
        refine pg_callV_oI (As := [pI a3, pI (3 : Int32)]) (rs := []) dX12_toOf_29 lk_RX12_311 vy_X12_stayOf nd_X12_stayOf (c_X12_stayOf l D h a0 a3 (3 : Int32)) rfl rfl (Nat.le_of_ble_eq_true rfl) (by decide) (by decide) (fun v4 => ?_)
        refine pg_iload_n (i := 2) dX12_toOf_32 rfl 2 rfl ?_
        refine pg_icmp_le (tgt := 43) dX12_toOf_33 rfl ?_ ?_
        · exact pg_to (e_X12_toOf_43 l D h (F_X12_toOf_4 h n) ih a0 a1 a2 a3) [0, 1, 2, 3] rfl
        · refine pg_aload_n (i := 0) dX12_toOf_36 rfl 0 rfl ?_
          refine pg_iload_n (i := 3) dX12_toOf_37 rfl 3 rfl ?_
          refine pg_iconst dX12_toOf_38 ci_3 ?_
          refine pg_callV_oI (As := [pI a3, pI (3 : Int32)]) (rs := []) dX12_toOf_39 lk_RX12_311 vy_X12_stayOf nd_X12_stayOf (c_X12_stayOf l D h a0 a3 (3 : Int32)) rfl rfl (Nat.le_of_ble_eq_true rfl) (by decide) (by decide) (fun v5 => ?_)
          refine pg_istore_n (i := 2) (lv' := [(2, pI v5), (0, pR a0), (1, pI a1), (3, pI a3)]) dX12_toOf_42 rfl (by decide) rfl ?_
          exact pg_to (e_X12_toOf_43 l D h (F_X12_toOf_4 h n) ih a0 a1 v5 a3) [1, 2, 0, 3] rfl
theorem e_X12_toOf (l : Launch) (D : pg_D)  (h : pg_H) (a0 : Nat) (a1 : Int32) : pg_EvF l D RX12 cX12_toOf 5 (some FieldType.int) "toOf" 2 46 (pg_oI h) (F_X12_toOf h a0 a1) 0 [(0, pR a0), (1, pI a1)] [] h := by
  unfold F_X12_toOf
  refine pg_iconst dX12_toOf_0 ci_m1 ?_
  refine pg_istore_n (i := 2) (lv' := [(2, pI (-1 : Int32)), (0, pR a0), (1, pI a1)]) dX12_toOf_1 rfl (by decide) rfl ?_
  refine pg_iconst dX12_toOf_2 ci_0 ?_
  refine pg_istore_n (i := 3) (lv' := [(3, pI (0 : Int32)), (2, pI (-1 : Int32)), (0, pR a0), (1, pI a1)]) dX12_toOf_3 rfl (by decide) rfl ?_
  exact pg_to (e_X12_toOf_4 l D h pg_fuel a0 a1 (-1 : Int32) (0 : Int32)) [2, 3, 1, 0] rfl
theorem c_X12_toOf (l : Launch) (D : pg_D) (h : pg_H) (a0 : Nat) (a1 : Int32)  : ∀ x, F_X12_toOf h a0 a1 = some x → pg_Ct l D yX12_toOf cX12_toOf 5 (some FieldType.int) 2 46 [pR a0, pI a1] h (pg_oI h x) :=
  pg_Ct.of pn_RX12 (Nat.le_of_ble_eq_true rfl) (e_X12_toOf l D h a0 a1)
def F_X12_dates_141 (k68 : Nat → Int32 → Int32 → Int32 → Int32 → pg_H → Option (Int32 × pg_H)) (a0 : Nat) (a1 : Int32) (a2 : Int32) (a3 : Int32) (a4 : Int32) (h : pg_H) : Option (Int32 × pg_H) := (k68 a0 a1 a2 a3 (a4 + (1 : Int32)) h)
def F_X12_dates_109 (k68 : Nat → Int32 → Int32 → Int32 → Int32 → pg_H → Option (Int32 × pg_H)) (a0 : Nat) (a1 : Int32) (a2 : Int32) (a3 : Int32) (a4 : Int32) (h : pg_H) : Option (Int32 × pg_H) := (if a2 = (3 : Int32) then Option.bind (pg_rcv 12 h a0 (F_X12_comesOf h a0 a4 a1)) fun v1 => (if v1 = 0 then (F_X12_dates_141 k68 a0 a1 a2 a3 a4 h) else Option.bind (pg_rcv 12 h a0 (F_X12_toOf h a0 a4)) fun v2 => (if v2 < a3 then Option.bind (pg_rcv 12 h a0 (F_X12_toOf h a0 a4)) fun v3 => (F_X12_dates_141 k68 a0 a1 a2 v3 a4 h) else (F_X12_dates_141 k68 a0 a1 a2 a3 a4 h))) else (F_X12_dates_141 k68 a0 a1 a2 a3 a4 h))
def F_X12_dates_68  : Nat → Nat → Int32 → Int32 → Int32 → Int32 → pg_H → Option (Int32 × pg_H)
  | 0 => fun _ _ _ _ _ _ => none
  | n + 1 => fun a0 a1 a2 a3 a4 h => Option.bind (pg_rcv 12 h a0 (F_X12_copies h a0)) fun v1 => (if a4 < v1 then (if a2 = (2 : Int32) then Option.bind (pg_rcv 12 h a0 (F_X12_comesOf h a0 a1 a4)) fun v2 => (if v2 = 0 then (F_X12_dates_109 (F_X12_dates_68 n) a0 a1 a2 a3 a4 h) else Option.bind (pg_rcv 12 h a0 (F_X12_fromOf h a0 a4)) fun v3 => (if a3 < v3 then Option.bind (pg_rcv 12 h a0 (F_X12_fromOf h a0 a4)) fun v4 => (F_X12_dates_109 (F_X12_dates_68 n) a0 a1 a2 v4 a4 h) else (F_X12_dates_109 (F_X12_dates_68 n) a0 a1 a2 a3 a4 h))) else (F_X12_dates_109 (F_X12_dates_68 n) a0 a1 a2 a3 a4 h)) else (some (a3, h)))
def F_X12_dates_64 (a0 : Nat) (a1 : Int32) (a2 : Int32) (s0 : Int32) (h : pg_H) : Option (Int32 × pg_H) := (F_X12_dates_68 pg_fuel a0 a1 a2 s0 (0 : Int32) h)
def F_X12_dates (a0 : Nat) (a1 : Int32) (a2 : Int32) (h : pg_H) : Option (Int32 × pg_H) := Option.bind (pg_rcv 12 h a0 (F_X12_isCopy h a0 a1)) fun v1 => (if v1 = 0 then (some ((-1 : Int32), h)) else Option.bind (F_X12_lies a2 (0 : Int32) (3 : Int32)) fun v2 => (if v2 = 0 then (some ((-1 : Int32), h)) else (if a2 < (2 : Int32) then (if a2 = 0 then Option.bind (pg_rcv 12 h a0 (F_X12_fromOf h a0 a1)) fun v7 => (some (v7, h)) else Option.bind (pg_rcv 12 h a0 (F_X12_toOf h a0 a1)) fun v6 => (some (v6, h))) else Option.bind (pg_rcv 12 h a0 (F_X12_grows a0 h)) fun v3 => (if a2 = (2 : Int32) then Option.bind (pg_rcv 12 v3 a0 (F_X12_fromOf v3 a0 a1)) fun v5 => (F_X12_dates_64 a0 a1 a2 v5 v3) else Option.bind (pg_rcv 12 v3 a0 (F_X12_toOf v3 a0 a1)) fun v4 => (F_X12_dates_64 a0 a1 a2 v4 v3)))))
theorem e_X12_dates_141 (l : Launch) (D : pg_D)  (k68 : Nat → Int32 → Int32 → Int32 → Int32 → pg_H → Option (Int32 × pg_H)) (hk68 : ∀ (a0 : Nat) (a1 : Int32) (a2 : Int32) (a3 : Int32) (a4 : Int32) (h : pg_H), pg_EvF l D RX12 cX12_dates 5 (some FieldType.int) "dates" 1308 34003 pg_wI (k68 a0 a1 a2 a3 a4 h) 68 [(0, pR a0), (1, pI a1), (2, pI a2), (3, pI a3), (4, pI a4)] [] h) (a0 : Nat) (a1 : Int32) (a2 : Int32) (a3 : Int32) (a4 : Int32) (h : pg_H) : pg_EvF l D RX12 cX12_dates 5 (some FieldType.int) "dates" 1308 34003 pg_wI (F_X12_dates_141 k68 a0 a1 a2 a3 a4 h) 141 [(0, pR a0), (1, pI a1), (2, pI a2), (3, pI a3), (4, pI a4)] [] h := by
  unfold F_X12_dates_141
  refine pg_iinc (lv' := [(4, pI (a4 + (1 : Int32))), (0, pR a0), (1, pI a1), (2, pI a2), (3, pI a3)]) dX12_dates_141 4 rfl ci_1 (by decide) rfl ?_
  refine pg_goto (tgt := 68) dX12_dates_144 rfl ?_
  exact pg_to (hk68 a0 a1 a2 a3 (a4 + (1 : Int32)) h) [1, 2, 3, 4, 0] rfl
theorem e_X12_dates_109 (l : Launch) (D : pg_D)  (k68 : Nat → Int32 → Int32 → Int32 → Int32 → pg_H → Option (Int32 × pg_H)) (hk68 : ∀ (a0 : Nat) (a1 : Int32) (a2 : Int32) (a3 : Int32) (a4 : Int32) (h : pg_H), pg_EvF l D RX12 cX12_dates 5 (some FieldType.int) "dates" 1308 34003 pg_wI (k68 a0 a1 a2 a3 a4 h) 68 [(0, pR a0), (1, pI a1), (2, pI a2), (3, pI a3), (4, pI a4)] [] h) (a0 : Nat) (a1 : Int32) (a2 : Int32) (a3 : Int32) (a4 : Int32) (h : pg_H) : pg_EvF l D RX12 cX12_dates 5 (some FieldType.int) "dates" 1308 34003 pg_wI (F_X12_dates_109 k68 a0 a1 a2 a3 a4 h) 109 [(0, pR a0), (1, pI a1), (2, pI a2), (3, pI a3), (4, pI a4)] [] h := by
  unfold F_X12_dates_109
  refine pg_iload_n (i := 2) dX12_dates_109 rfl 2 rfl ?_
  refine pg_iconst dX12_dates_110 ci_3 ?_
  refine pg_icmp_ne (tgt := 141) dX12_dates_111 rfl ?_ ?_
  · exact pg_to (e_X12_dates_141 l D k68 hk68 a0 a1 a2 a3 a4 h) [0, 1, 2, 3, 4] rfl
  · refine pg_aload_n (i := 0) dX12_dates_114 rfl 0 rfl ?_
    refine pg_iload dX12_dates_115 4 rfl ?_
    refine pg_iload_n (i := 1) dX12_dates_117 rfl 1 rfl ?_
    refine pg_callV_oI (As := [pI a4, pI a1]) (rs := []) dX12_dates_118 lk_RX12_352 vy_X12_comesOf nd_X12_comesOf (c_X12_comesOf l D h a0 a4 a1) rfl rfl (Nat.le_of_ble_eq_true rfl) (by decide) (by decide) (fun v1 => ?_)
    refine pg_if_eq (tgt := 141) dX12_dates_121 rfl ?_ ?_
    · exact pg_to (e_X12_dates_141 l D k68 hk68 a0 a1 a2 a3 a4 h) [0, 1, 2, 3, 4] rfl
    · refine pg_aload_n (i := 0) dX12_dates_124 rfl 0 rfl ?_
      refine pg_iload dX12_dates_125 4 rfl ?_
      refine pg_callV_oI (As := [pI a4]) (rs := []) dX12_dates_127 lk_RX12_398 vy_X12_toOf nd_X12_toOf (c_X12_toOf l D h a0 a4) rfl rfl (Nat.le_of_ble_eq_true rfl) (by decide) (by decide) (fun v2 => ?_)
      refine pg_iload_n (i := 3) dX12_dates_130 rfl 3 rfl ?_
      refine pg_icmp_ge (tgt := 141) dX12_dates_131 rfl ?_ ?_
      · exact pg_to (e_X12_dates_141 l D k68 hk68 a0 a1 a2 a3 a4 h) [0, 1, 2, 3, 4] rfl
      · refine pg_aload_n (i := 0) dX12_dates_134 rfl 0 rfl ?_
        refine pg_iload dX12_dates_135 4 rfl ?_
        refine pg_callV_oI (As := [pI a4]) (rs := []) dX12_dates_137 lk_RX12_398 vy_X12_toOf nd_X12_toOf (c_X12_toOf l D h a0 a4) rfl rfl (Nat.le_of_ble_eq_true rfl) (by decide) (by decide) (fun v3 => ?_)
        refine pg_istore_n (i := 3) (lv' := [(3, pI v3), (0, pR a0), (1, pI a1), (2, pI a2), (4, pI a4)]) dX12_dates_140 rfl (by decide) rfl ?_
        exact pg_to (e_X12_dates_141 l D k68 hk68 a0 a1 a2 v3 a4 h) [1, 2, 3, 0, 4] rfl
theorem e_X12_dates_68 (l : Launch) (D : pg_D)   : ∀ (n : Nat) (a0 : Nat) (a1 : Int32) (a2 : Int32) (a3 : Int32) (a4 : Int32) (h : pg_H), pg_EvF l D RX12 cX12_dates 5 (some FieldType.int) "dates" 1308 34003 pg_wI (F_X12_dates_68 n a0 a1 a2 a3 a4 h) 68 [(0, pR a0), (1, pI a1), (2, pI a2), (3, pI a3), (4, pI a4)] [] h := by
  intro n
  induction n with
  | zero => intro a0 a1 a2 a3 a4 h; exact pg_none
  | succ n ih =>
    intro a0 a1 a2 a3 a4 h
    rw [F_X12_dates_68]
    refine pg_iload dX12_dates_68 4 rfl ?_
    refine pg_aload_n (i := 0) dX12_dates_70 rfl 0 rfl ?_
    refine pg_callV_oI (As := []) (rs := [pI a4]) dX12_dates_71 lk_RX12_124 vy_X12_copies nd_X12_copies (c_X12_copies l D h a0) rfl rfl (Nat.le_of_ble_eq_true rfl) (by decide) (by decide) (fun v1 => ?_)
    refine pg_icmp_ge (tgt := 147) dX12_dates_74 rfl ?_ ?_
    · refine pg_iload_n (i := 3) dX12_dates_147 rfl 3 rfl ?_
      exact pg_iret dX12_dates_148 rfl rfl
    · refine pg_iload_n (i := 2) dX12_dates_77 rfl 2 rfl ?_
      refine pg_iconst dX12_dates_78 ci_2 ?_
      refine pg_icmp_ne (tgt := 109) dX12_dates_79 rfl ?_ ?_
      · exact pg_to (e_X12_dates_109 l D (F_X12_dates_68 n) ih a0 a1 a2 a3 a4 h) [0, 1, 2, 3, 4] rfl
      · refine pg_aload_n (i := 0) dX12_dates_82 rfl 0 rfl ?_
        refine pg_iload_n (i := 1) dX12_dates_83 rfl 1 rfl ?_
        refine pg_iload dX12_dates_84 4 rfl ?_
        refine pg_callV_oI (As := [pI a1, pI a4]) (rs := []) dX12_dates_86 lk_RX12_352 vy_X12_comesOf nd_X12_comesOf (c_X12_comesOf l D h a0 a1 a4) rfl rfl (Nat.le_of_ble_eq_true rfl) (by decide) (by decide) (fun v2 => ?_)
        refine pg_if_eq (tgt := 109) dX12_dates_89 rfl ?_ ?_
        · exact pg_to (e_X12_dates_109 l D (F_X12_dates_68 n) ih a0 a1 a2 a3 a4 h) [0, 1, 2, 3, 4] rfl
        · refine pg_aload_n (i := 0) dX12_dates_92 rfl 0 rfl ?_
          refine pg_iload dX12_dates_93 4 rfl ?_
          refine pg_callV_oI (As := [pI a4]) (rs := []) dX12_dates_95 lk_RX12_395 vy_X12_fromOf nd_X12_fromOf (c_X12_fromOf l D h a0 a4) rfl rfl (Nat.le_of_ble_eq_true rfl) (by decide) (by decide) (fun v3 => ?_)
          refine pg_iload_n (i := 3) dX12_dates_98 rfl 3 rfl ?_
          refine pg_icmp_le (tgt := 109) dX12_dates_99 rfl ?_ ?_
          · exact pg_to (e_X12_dates_109 l D (F_X12_dates_68 n) ih a0 a1 a2 a3 a4 h) [0, 1, 2, 3, 4] rfl
          · refine pg_aload_n (i := 0) dX12_dates_102 rfl 0 rfl ?_
            refine pg_iload dX12_dates_103 4 rfl ?_
            refine pg_callV_oI (As := [pI a4]) (rs := []) dX12_dates_105 lk_RX12_395 vy_X12_fromOf nd_X12_fromOf (c_X12_fromOf l D h a0 a4) rfl rfl (Nat.le_of_ble_eq_true rfl) (by decide) (by decide) (fun v4 => ?_)
            refine pg_istore_n (i := 3) (lv' := [(3, pI v4), (0, pR a0), (1, pI a1), (2, pI a2), (4, pI a4)]) dX12_dates_108 rfl (by decide) rfl ?_
            exact pg_to (e_X12_dates_109 l D (F_X12_dates_68 n) ih a0 a1 a2 v4 a4 h) [1, 2, 3, 0, 4] rfl
theorem e_X12_dates_64 (l : Launch) (D : pg_D)  (a0 : Nat) (a1 : Int32) (a2 : Int32) (s0 : Int32) (h : pg_H) : pg_EvF l D RX12 cX12_dates 5 (some FieldType.int) "dates" 1308 34003 pg_wI (F_X12_dates_64 a0 a1 a2 s0 h) 64 [(0, pR a0), (1, pI a1), (2, pI a2)] [pI s0] h := by
  unfold F_X12_dates_64
  refine pg_istore_n (i := 3) (lv' := [(3, pI s0), (0, pR a0), (1, pI a1), (2, pI a2)]) dX12_dates_64 rfl (by decide) rfl ?_
  refine pg_iconst dX12_dates_65 ci_0 ?_
  refine pg_istore (lv' := [(4, pI (0 : Int32)), (3, pI s0), (0, pR a0), (1, pI a1), (2, pI a2)]) dX12_dates_66 (by decide) rfl ?_
  exact pg_to (e_X12_dates_68 l D pg_fuel a0 a1 a2 s0 (0 : Int32) h) [2, 3, 4, 1, 0] rfl
theorem e_X12_dates (l : Launch) (D : pg_D)  (a0 : Nat) (a1 : Int32) (a2 : Int32) (h : pg_H) : pg_EvF l D RX12 cX12_dates 5 (some FieldType.int) "dates" 1308 34003 pg_wI (F_X12_dates a0 a1 a2 h) 0 [(0, pR a0), (1, pI a1), (2, pI a2)] [] h := by
  unfold F_X12_dates
  refine pg_aload_n (i := 0) dX12_dates_0 rfl 0 rfl ?_
  refine pg_iload_n (i := 1) dX12_dates_1 rfl 1 rfl ?_
  refine pg_callV_oI (As := [pI a1]) (rs := []) dX12_dates_2 lk_RX12_128 vy_X12_isCopy nd_X12_isCopy (c_X12_isCopy l D h a0 a1) rfl rfl (Nat.le_of_ble_eq_true rfl) (by decide) (by decide) (fun v1 => ?_)
  refine pg_if_eq (tgt := 17) dX12_dates_5 rfl ?_ ?_
  · refine pg_iconst dX12_dates_17 ci_m1 ?_
    exact pg_iret dX12_dates_18 rfl rfl
  · refine pg_iload_n (i := 2) dX12_dates_8 rfl 2 rfl ?_
    refine pg_iconst dX12_dates_9 ci_0 ?_
    refine pg_iconst dX12_dates_10 ci_3 ?_
    refine pg_callS_oI (As := [pI a2, pI (0 : Int32), pI (3 : Int32)]) (rs := []) dX12_dates_11 lk_RX12_113 vy_X12_lies nd_X12_lies (c_X12_lies l D a2 (0 : Int32) (3 : Int32) h) rfl rfl (Nat.le_of_ble_eq_true rfl) (by decide) (by decide) (fun v2 => ?_)
    refine pg_if_ne (tgt := 19) dX12_dates_14 rfl ?_ ?_
    · refine pg_iload_n (i := 2) dX12_dates_19 rfl 2 rfl ?_
      refine pg_iconst dX12_dates_20 ci_2 ?_
      refine pg_icmp_ge (tgt := 42) dX12_dates_21 rfl ?_ ?_
      · refine pg_aload_n (i := 0) dX12_dates_42 rfl 0 rfl ?_
        refine pg_callV_wV (As := []) (rs := []) dX12_dates_43 lk_RX12_346 vy_X12_grows nd_X12_grows (c_X12_grows l D a0 h) rfl rfl (Nat.le_of_ble_eq_true rfl) (by decide) (by decide) (fun v3 => ?_)
        refine pg_iload_n (i := 2) dX12_dates_46 rfl 2 rfl ?_
        refine pg_iconst dX12_dates_47 ci_2 ?_
        refine pg_icmp_ne (tgt := 59) dX12_dates_48 rfl ?_ ?_
        · refine pg_aload_n (i := 0) dX12_dates_59 rfl 0 rfl ?_
          refine pg_iload_n (i := 1) dX12_dates_60 rfl 1 rfl ?_
          refine pg_callV_oI (As := [pI a1]) (rs := []) dX12_dates_61 lk_RX12_398 vy_X12_toOf nd_X12_toOf (c_X12_toOf l D v3 a0 a1) rfl rfl (Nat.le_of_ble_eq_true rfl) (by decide) (by decide) (fun v4 => ?_)
          exact pg_to (e_X12_dates_64 l D a0 a1 a2 v4 v3) [0, 1, 2] rfl
        · refine pg_aload_n (i := 0) dX12_dates_51 rfl 0 rfl ?_
          refine pg_iload_n (i := 1) dX12_dates_52 rfl 1 rfl ?_
          refine pg_callV_oI (As := [pI a1]) (rs := []) dX12_dates_53 lk_RX12_395 vy_X12_fromOf nd_X12_fromOf (c_X12_fromOf l D v3 a0 a1) rfl rfl (Nat.le_of_ble_eq_true rfl) (by decide) (by decide) (fun v5 => ?_)
          refine pg_goto (tgt := 64) dX12_dates_56 rfl ?_
          exact pg_to (e_X12_dates_64 l D a0 a1 a2 v5 v3) [0, 1, 2] rfl
      · refine pg_iload_n (i := 2) dX12_dates_24 rfl 2 rfl ?_
        refine pg_if_ne (tgt := 36) dX12_dates_25 rfl ?_ ?_
        · refine pg_aload_n (i := 0) dX12_dates_36 rfl 0 rfl ?_
          refine pg_iload_n (i := 1) dX12_dates_37 rfl 1 rfl ?_
          refine pg_callV_oI (As := [pI a1]) (rs := []) dX12_dates_38 lk_RX12_398 vy_X12_toOf nd_X12_toOf (c_X12_toOf l D h a0 a1) rfl rfl (Nat.le_of_ble_eq_true rfl) (by decide) (by decide) (fun v6 => ?_)
          exact pg_iret dX12_dates_41 rfl rfl
        · refine pg_aload_n (i := 0) dX12_dates_28 rfl 0 rfl ?_
          refine pg_iload_n (i := 1) dX12_dates_29 rfl 1 rfl ?_
          refine pg_callV_oI (As := [pI a1]) (rs := []) dX12_dates_30 lk_RX12_395 vy_X12_fromOf nd_X12_fromOf (c_X12_fromOf l D h a0 a1) rfl rfl (Nat.le_of_ble_eq_true rfl) (by decide) (by decide) (fun v7 => ?_)
          refine pg_goto (tgt := 41) dX12_dates_33 rfl ?_
          exact pg_iret dX12_dates_41 rfl rfl
    · refine pg_iconst dX12_dates_17 ci_m1 ?_
      exact pg_iret dX12_dates_18 rfl rfl
theorem c_X12_dates (l : Launch) (D : pg_D) (a0 : Nat) (a1 : Int32) (a2 : Int32) (h : pg_H) : ∀ x, F_X12_dates a0 a1 a2 h = some x → pg_Ct l D yX12_dates cX12_dates 5 (some FieldType.int) 1308 34003 [pR a0, pI a1, pI a2] h (pg_wI x) :=
  pg_Ct.of pn_RX12 (Nat.le_of_ble_eq_true rfl) (e_X12_dates l D a0 a1 a2 h)
def F_X12_isNoted_61 (h : pg_H) (k5 : Nat → Int32 → Int32 → Int32 → Int32 → Option Int32) (a0 : Nat) (a1 : Int32) (a2 : Int32) (a4 : Int32) (s0 : Int32) : Option Int32 := (k5 a0 a1 a2 s0 (a4 + (1 : Int32)))
def F_X12_isNoted_56 (h : pg_H) (k5 : Nat → Int32 → Int32 → Int32 → Int32 → Option Int32) (a0 : Nat) (a1 : Int32) (a2 : Int32) (a4 : Int32) : Option Int32 := (F_X12_isNoted_61 h k5 a0 a1 a2 a4 (1 : Int32))
def F_X12_isNoted_60 (h : pg_H) (k5 : Nat → Int32 → Int32 → Int32 → Int32 → Option Int32) (a0 : Nat) (a1 : Int32) (a2 : Int32) (a4 : Int32) : Option Int32 := (F_X12_isNoted_61 h k5 a0 a1 a2 a4 (0 : Int32))
def F_X12_isNoted_5 (h : pg_H) : Nat → Nat → Int32 → Int32 → Int32 → Int32 → Option Int32
  | 0 => fun _ _ _ _ _ => none
  | n + 1 => fun a0 a1 a2 a3 a4 => Option.bind (pg_gR 12 3 h a0) fun v1 => Option.bind (pg_aI 21 h v1 (1347 : Int32)) fun v2 => (if a4 < v2 then (if a3 = 0 then Option.bind (pg_rcv 12 h a0 (F_X12_noteOf h a0 a4 (0 : Int32))) fun v3 => (if v3 = a1 then Option.bind (pg_rcv 12 h a0 (F_X12_noteOf h a0 a4 (4 : Int32))) fun v4 => (if v4 = 0 then Option.bind (pg_rcv 12 h a0 (F_X12_noteOf h a0 a4 (1 : Int32))) fun v5 => (if (5 : Int32) = 0 then none else (if (v5 / (5 : Int32)) = a2 then (F_X12_isNoted_56 h (F_X12_isNoted_5 h n) a0 a1 a2 a4) else (F_X12_isNoted_60 h (F_X12_isNoted_5 h n) a0 a1 a2 a4))) else (F_X12_isNoted_60 h (F_X12_isNoted_5 h n) a0 a1 a2 a4)) else (F_X12_isNoted_60 h (F_X12_isNoted_5 h n) a0 a1 a2 a4)) else (F_X12_isNoted_56 h (F_X12_isNoted_5 h n) a0 a1 a2 a4)) else (if a3 = 0 ∨ a3 = 1 then some a3 else none))
def F_X12_isNoted (h : pg_H) (a0 : Nat) (a1 : Int32) (a2 : Int32) : Option Int32 := (F_X12_isNoted_5 h pg_fuel a0 a1 a2 (0 : Int32) (0 : Int32))
theorem e_X12_isNoted_61 (l : Launch) (D : pg_D)  (h : pg_H) (k5 : Nat → Int32 → Int32 → Int32 → Int32 → Option Int32) (hk5 : ∀ (a0 : Nat) (a1 : Int32) (a2 : Int32) (a3 : Int32) (a4 : Int32), pg_EvF l D RX12 cX12_isNoted 5 (some FieldType.boolean) "isNoted" 1 22 (pg_oI h) (k5 a0 a1 a2 a3 a4) 5 [(0, pR a0), (1, pI a1), (2, pI a2), (3, pI a3), (4, pI a4)] [] h) (a0 : Nat) (a1 : Int32) (a2 : Int32) (a4 : Int32) (s0 : Int32) : pg_EvF l D RX12 cX12_isNoted 5 (some FieldType.boolean) "isNoted" 1 22 (pg_oI h) (F_X12_isNoted_61 h k5 a0 a1 a2 a4 s0) 61 [(0, pR a0), (1, pI a1), (2, pI a2), (4, pI a4)] [pI s0] h := by
  unfold F_X12_isNoted_61
  refine pg_istore_n (i := 3) (lv' := [(3, pI s0), (0, pR a0), (1, pI a1), (2, pI a2), (4, pI a4)]) dX12_isNoted_61 rfl (by decide) rfl ?_
  refine pg_iinc (lv' := [(4, pI (a4 + (1 : Int32))), (3, pI s0), (0, pR a0), (1, pI a1), (2, pI a2)]) dX12_isNoted_62 4 rfl ci_1 (by decide) rfl ?_
  refine pg_goto (tgt := 5) dX12_isNoted_65 rfl ?_
  exact pg_to (hk5 a0 a1 a2 s0 (a4 + (1 : Int32))) [2, 3, 4, 1, 0] rfl
theorem e_X12_isNoted_56 (l : Launch) (D : pg_D)  (h : pg_H) (k5 : Nat → Int32 → Int32 → Int32 → Int32 → Option Int32) (hk5 : ∀ (a0 : Nat) (a1 : Int32) (a2 : Int32) (a3 : Int32) (a4 : Int32), pg_EvF l D RX12 cX12_isNoted 5 (some FieldType.boolean) "isNoted" 1 22 (pg_oI h) (k5 a0 a1 a2 a3 a4) 5 [(0, pR a0), (1, pI a1), (2, pI a2), (3, pI a3), (4, pI a4)] [] h) (a0 : Nat) (a1 : Int32) (a2 : Int32) (a4 : Int32) : pg_EvF l D RX12 cX12_isNoted 5 (some FieldType.boolean) "isNoted" 1 22 (pg_oI h) (F_X12_isNoted_56 h k5 a0 a1 a2 a4) 56 [(0, pR a0), (1, pI a1), (2, pI a2), (4, pI a4)] [] h := by
  unfold F_X12_isNoted_56
  refine pg_iconst dX12_isNoted_56 ci_1 ?_
  refine pg_goto (tgt := 61) dX12_isNoted_57 rfl ?_
  exact pg_to (e_X12_isNoted_61 l D h k5 hk5 a0 a1 a2 a4 (1 : Int32)) [0, 1, 2, 3] rfl
theorem e_X12_isNoted_60 (l : Launch) (D : pg_D)  (h : pg_H) (k5 : Nat → Int32 → Int32 → Int32 → Int32 → Option Int32) (hk5 : ∀ (a0 : Nat) (a1 : Int32) (a2 : Int32) (a3 : Int32) (a4 : Int32), pg_EvF l D RX12 cX12_isNoted 5 (some FieldType.boolean) "isNoted" 1 22 (pg_oI h) (k5 a0 a1 a2 a3 a4) 5 [(0, pR a0), (1, pI a1), (2, pI a2), (3, pI a3), (4, pI a4)] [] h) (a0 : Nat) (a1 : Int32) (a2 : Int32) (a4 : Int32) : pg_EvF l D RX12 cX12_isNoted 5 (some FieldType.boolean) "isNoted" 1 22 (pg_oI h) (F_X12_isNoted_60 h k5 a0 a1 a2 a4) 60 [(0, pR a0), (1, pI a1), (2, pI a2), (4, pI a4)] [] h := by
  unfold F_X12_isNoted_60
  refine pg_iconst dX12_isNoted_60 ci_0 ?_
  exact pg_to (e_X12_isNoted_61 l D h k5 hk5 a0 a1 a2 a4 (0 : Int32)) [0, 1, 2, 3] rfl
theorem e_X12_isNoted_5 (l : Launch) (D : pg_D)  (h : pg_H) : ∀ (n : Nat) (a0 : Nat) (a1 : Int32) (a2 : Int32) (a3 : Int32) (a4 : Int32), pg_EvF l D RX12 cX12_isNoted 5 (some FieldType.boolean) "isNoted" 1 22 (pg_oI h) (F_X12_isNoted_5 h n a0 a1 a2 a3 a4) 5 [(0, pR a0), (1, pI a1), (2, pI a2), (3, pI a3), (4, pI a4)] [] h := by
  intro n
  induction n with
  | zero => intro a0 a1 a2 a3 a4; exact pg_none
  | succ n ih =>
    intro a0 a1 a2 a3 a4
    rw [F_X12_isNoted_5]
    refine pg_iload dX12_isNoted_5 4 rfl ?_
    refine pg_aload_n (i := 0) dX12_isNoted_7 rfl 0 rfl ?_
    refine pg_getR dX12_isNoted_8 fl_RX12_20 rfl (fun v1 => ?_)
    refine pg_sipush dX12_isNoted_11 cs_1347 ?_
    refine pg_iaload dX12_isNoted_14 (fun v2 => ?_)
    refine pg_icmp_ge (tgt := 68) dX12_isNoted_15 rfl ?_ ?_
    · refine pg_iload_n (i := 3) dX12_isNoted_68 rfl 3 rfl ?_
      exact pg_zretq dX12_isNoted_69 rfl rfl
    · refine pg_iload_n (i := 3) dX12_isNoted_18 rfl 3 rfl ?_
      refine pg_if_ne (tgt := 56) dX12_isNoted_19 rfl ?_ ?_
      · exact pg_to (e_X12_isNoted_56 l D h (F_X12_isNoted_5 h n) ih a0 a1 a2 a4) [0, 1, 2, 4] rfl
      · refine pg_aload_n (i := 0) dX12_isNoted_22 rfl 0 rfl ?_
        refine pg_iload dX12_isNoted_23 4 rfl ?_
        refine pg_iconst dX12_isNoted_25 ci_0 ?_
        refine pg_callV_oI (As := [pI a4, pI (0 : Int32)]) (rs := []) dX12_isNoted_26 lk_RX12_143 vy_X12_noteOf nd_X12_noteOf (c_X12_noteOf l D h a0 a4 (0 : Int32)) rfl rfl (Nat.le_of_ble_eq_true rfl) (by decide) (by decide) (fun v3 => ?_)
        refine pg_iload_n (i := 1) dX12_isNoted_29 rfl 1 rfl ?_
        refine pg_icmp_ne (tgt := 60) dX12_isNoted_30 rfl ?_ ?_
        · exact pg_to (e_X12_isNoted_60 l D h (F_X12_isNoted_5 h n) ih a0 a1 a2 a4) [0, 1, 2, 4] rfl
        · refine pg_aload_n (i := 0) dX12_isNoted_33 rfl 0 rfl ?_
          refine pg_iload dX12_isNoted_34 4 rfl ?_
          refine pg_iconst dX12_isNoted_36 ci_4 ?_
          refine pg_callV_oI (As := [pI a4, pI (4 : Int32)]) (rs := []) dX12_isNoted_37 lk_RX12_143 vy_X12_noteOf nd_X12_noteOf (c_X12_noteOf l D h a0 a4 (4 : Int32)) rfl rfl (Nat.le_of_ble_eq_true rfl) (by decide) (by decide) (fun v4 => ?_)
          refine pg_if_ne (tgt := 60) dX12_isNoted_40 rfl ?_ ?_
          · exact pg_to (e_X12_isNoted_60 l D h (F_X12_isNoted_5 h n) ih a0 a1 a2 a4) [0, 1, 2, 4] rfl
          · refine pg_aload_n (i := 0) dX12_isNoted_43 rfl 0 rfl ?_
            refine pg_iload dX12_isNoted_44 4 rfl ?_
            refine pg_iconst dX12_isNoted_46 ci_1 ?_
            refine pg_callV_oI (As := [pI a4, pI (1 : Int32)]) (rs := []) dX12_isNoted_47 lk_RX12_143 vy_X12_noteOf nd_X12_noteOf (c_X12_noteOf l D h a0 a4 (1 : Int32)) rfl rfl (Nat.le_of_ble_eq_true rfl) (by decide) (by decide) (fun v5 => ?_)
            refine pg_iconst dX12_isNoted_50 ci_5 ?_
            refine pg_idiv dX12_isNoted_51 ?_
            refine pg_iload_n (i := 2) dX12_isNoted_52 rfl 2 rfl ?_
            refine pg_icmp_ne (tgt := 60) dX12_isNoted_53 rfl ?_ ?_
            · exact pg_to (e_X12_isNoted_60 l D h (F_X12_isNoted_5 h n) ih a0 a1 a2 a4) [0, 1, 2, 4] rfl
            · exact pg_to (e_X12_isNoted_56 l D h (F_X12_isNoted_5 h n) ih a0 a1 a2 a4) [0, 1, 2, 4] rfl
theorem e_X12_isNoted (l : Launch) (D : pg_D)  (h : pg_H) (a0 : Nat) (a1 : Int32) (a2 : Int32) : pg_EvF l D RX12 cX12_isNoted 5 (some FieldType.boolean) "isNoted" 1 22 (pg_oI h) (F_X12_isNoted h a0 a1 a2) 0 [(0, pR a0), (1, pI a1), (2, pI a2)] [] h := by
  unfold F_X12_isNoted
  refine pg_iconst dX12_isNoted_0 ci_0 ?_
  refine pg_istore_n (i := 3) (lv' := [(3, pI (0 : Int32)), (0, pR a0), (1, pI a1), (2, pI a2)]) dX12_isNoted_1 rfl (by decide) rfl ?_
  refine pg_iconst dX12_isNoted_2 ci_0 ?_
  refine pg_istore (lv' := [(4, pI (0 : Int32)), (3, pI (0 : Int32)), (0, pR a0), (1, pI a1), (2, pI a2)]) dX12_isNoted_3 (by decide) rfl ?_
  exact pg_to (e_X12_isNoted_5 l D h pg_fuel a0 a1 a2 (0 : Int32) (0 : Int32)) [2, 3, 4, 1, 0] rfl
theorem c_X12_isNoted (l : Launch) (D : pg_D) (h : pg_H) (a0 : Nat) (a1 : Int32) (a2 : Int32)  : ∀ x, F_X12_isNoted h a0 a1 a2 = some x → pg_Ct l D yX12_isNoted cX12_isNoted 5 (some FieldType.boolean) 1 22 [pR a0, pI a1, pI a2] h (pg_oI h x) :=
  pg_Ct.of pn_RX12 (Nat.le_of_ble_eq_true rfl) (e_X12_isNoted l D h a0 a1 a2)
def F_X12_stops_54 (h : pg_H) (k27 : Nat → Int32 → Int32 → Int32 → Int32 → Int32 → Option Int32) (a0 : Nat) (a1 : Int32) (a2 : Int32) (a3 : Int32) (a4 : Int32) (a5 : Int32) : Option Int32 := (k27 a0 a1 a2 a3 a4 (a5 + (1 : Int32)))
def F_X12_stops_27 (h : pg_H) : Nat → Nat → Int32 → Int32 → Int32 → Int32 → Int32 → Option Int32
  | 0 => fun _ _ _ _ _ _ => none
  | n + 1 => fun a0 a1 a2 a3 a4 a5 => (if a5 < (12 : Int32) then Option.bind (pg_rcv 12 h a0 (F_X12_isNoted h a0 a1 a5)) fun v1 => (if v1 = 0 then (F_X12_stops_54 h (F_X12_stops_27 h n) a0 a1 a2 a3 a4 a5) else (F_X12_stops_54 h (F_X12_stops_27 h n) a0 a1 a2 (a3 + (1 : Int32)) a5 a5)) else (if a2 = 0 then (some a3) else (some a4)))
def F_X12_stops (h : pg_H) (a0 : Nat) (a1 : Int32) (a2 : Int32) : Option Int32 := Option.bind (pg_rcv 12 h a0 (F_X12_isCopy h a0 a1)) fun v1 => (if v1 = 0 then (some (-1 : Int32)) else Option.bind (F_X12_lies a2 (0 : Int32) (1 : Int32)) fun v2 => (if v2 = 0 then (some (-1 : Int32)) else (F_X12_stops_27 h pg_fuel a0 a1 a2 (0 : Int32) (-1 : Int32) (0 : Int32))))
theorem e_X12_stops_54 (l : Launch) (D : pg_D)  (h : pg_H) (k27 : Nat → Int32 → Int32 → Int32 → Int32 → Int32 → Option Int32) (hk27 : ∀ (a0 : Nat) (a1 : Int32) (a2 : Int32) (a3 : Int32) (a4 : Int32) (a5 : Int32), pg_EvF l D RX12 cX12_stops 6 (some FieldType.int) "stops" 2 46 (pg_oI h) (k27 a0 a1 a2 a3 a4 a5) 27 [(0, pR a0), (1, pI a1), (2, pI a2), (3, pI a3), (4, pI a4), (5, pI a5)] [] h) (a0 : Nat) (a1 : Int32) (a2 : Int32) (a3 : Int32) (a4 : Int32) (a5 : Int32) : pg_EvF l D RX12 cX12_stops 6 (some FieldType.int) "stops" 2 46 (pg_oI h) (F_X12_stops_54 h k27 a0 a1 a2 a3 a4 a5) 54 [(0, pR a0), (1, pI a1), (2, pI a2), (3, pI a3), (4, pI a4), (5, pI a5)] [] h := by
  unfold F_X12_stops_54
  refine pg_iinc (lv' := [(5, pI (a5 + (1 : Int32))), (0, pR a0), (1, pI a1), (2, pI a2), (3, pI a3), (4, pI a4)]) dX12_stops_54 5 rfl ci_1 (by decide) rfl ?_
  refine pg_goto (tgt := 27) dX12_stops_57 rfl ?_
  exact pg_to (hk27 a0 a1 a2 a3 a4 (a5 + (1 : Int32))) [1, 2, 3, 4, 5, 0] rfl
theorem e_X12_stops_27 (l : Launch) (D : pg_D)  (h : pg_H) : ∀ (n : Nat) (a0 : Nat) (a1 : Int32) (a2 : Int32) (a3 : Int32) (a4 : Int32) (a5 : Int32), pg_EvF l D RX12 cX12_stops 6 (some FieldType.int) "stops" 2 46 (pg_oI h) (F_X12_stops_27 h n a0 a1 a2 a3 a4 a5) 27 [(0, pR a0), (1, pI a1), (2, pI a2), (3, pI a3), (4, pI a4), (5, pI a5)] [] h := by
  intro n
  induction n with
  | zero => intro a0 a1 a2 a3 a4 a5; exact pg_none
  | succ n ih =>
    intro a0 a1 a2 a3 a4 a5
    rw [F_X12_stops_27]
    refine pg_iload dX12_stops_27 5 rfl ?_
    refine pg_bipush dX12_stops_29 cb_12 ?_
    refine pg_icmp_ge (tgt := 60) dX12_stops_31 rfl ?_ ?_
    · refine pg_iload_n (i := 2) dX12_stops_60 rfl 2 rfl ?_
      refine pg_if_ne (tgt := 68) dX12_stops_61 rfl ?_ ?_
      · refine pg_iload dX12_stops_68 4 rfl ?_
        exact pg_iret dX12_stops_70 rfl rfl
      · refine pg_iload_n (i := 3) dX12_stops_64 rfl 3 rfl ?_
        refine pg_goto (tgt := 70) dX12_stops_65 rfl ?_
        exact pg_iret dX12_stops_70 rfl rfl
    · refine pg_aload_n (i := 0) dX12_stops_34 rfl 0 rfl ?_
      refine pg_iload_n (i := 1) dX12_stops_35 rfl 1 rfl ?_
      refine pg_iload dX12_stops_36 5 rfl ?_
      refine pg_callV_oI (As := [pI a1, pI a5]) (rs := []) dX12_stops_38 lk_RX12_401 vy_X12_isNoted nd_X12_isNoted (c_X12_isNoted l D h a0 a1 a5) rfl rfl (Nat.le_of_ble_eq_true rfl) (by decide) (by decide) (fun v1 => ?_)
      refine pg_if_ne (tgt := 47) dX12_stops_41 rfl ?_ ?_
      · refine pg_iinc (lv' := [(3, pI (a3 + (1 : Int32))), (0, pR a0), (1, pI a1), (2, pI a2), (4, pI a4), (5, pI a5)]) dX12_stops_47 3 rfl ci_1 (by decide) rfl ?_
        refine pg_iload dX12_stops_50 5 rfl ?_
        refine pg_istore (lv' := [(4, pI a5), (3, pI (a3 + (1 : Int32))), (0, pR a0), (1, pI a1), (2, pI a2), (5, pI a5)]) dX12_stops_52 (by decide) rfl ?_
        exact pg_to (e_X12_stops_54 l D h (F_X12_stops_27 h n) ih a0 a1 a2 (a3 + (1 : Int32)) a5 a5) [2, 3, 4, 1, 0, 5] rfl
      · refine pg_goto (tgt := 54) dX12_stops_44 rfl ?_
        exact pg_to (e_X12_stops_54 l D h (F_X12_stops_27 h n) ih a0 a1 a2 a3 a4 a5) [0, 1, 2, 3, 4, 5] rfl
theorem e_X12_stops (l : Launch) (D : pg_D)  (h : pg_H) (a0 : Nat) (a1 : Int32) (a2 : Int32) : pg_EvF l D RX12 cX12_stops 6 (some FieldType.int) "stops" 2 46 (pg_oI h) (F_X12_stops h a0 a1 a2) 0 [(0, pR a0), (1, pI a1), (2, pI a2)] [] h := by
  unfold F_X12_stops
  refine pg_aload_n (i := 0) dX12_stops_0 rfl 0 rfl ?_
  refine pg_iload_n (i := 1) dX12_stops_1 rfl 1 rfl ?_
  refine pg_callV_oI (As := [pI a1]) (rs := []) dX12_stops_2 lk_RX12_128 vy_X12_isCopy nd_X12_isCopy (c_X12_isCopy l D h a0 a1) rfl rfl (Nat.le_of_ble_eq_true rfl) (by decide) (by decide) (fun v1 => ?_)
  refine pg_if_eq (tgt := 17) dX12_stops_5 rfl ?_ ?_
  · refine pg_iconst dX12_stops_17 ci_m1 ?_
    exact pg_iret dX12_stops_18 rfl rfl
  · refine pg_iload_n (i := 2) dX12_stops_8 rfl 2 rfl ?_
    refine pg_iconst dX12_stops_9 ci_0 ?_
    refine pg_iconst dX12_stops_10 ci_1 ?_
    refine pg_callS_oI (As := [pI a2, pI (0 : Int32), pI (1 : Int32)]) (rs := []) dX12_stops_11 lk_RX12_113 vy_X12_lies nd_X12_lies (c_X12_lies l D a2 (0 : Int32) (1 : Int32) h) rfl rfl (Nat.le_of_ble_eq_true rfl) (by decide) (by decide) (fun v2 => ?_)
    refine pg_if_ne (tgt := 19) dX12_stops_14 rfl ?_ ?_
    · refine pg_iconst dX12_stops_19 ci_0 ?_
      refine pg_istore_n (i := 3) (lv' := [(3, pI (0 : Int32)), (0, pR a0), (1, pI a1), (2, pI a2)]) dX12_stops_20 rfl (by decide) rfl ?_
      refine pg_iconst dX12_stops_21 ci_m1 ?_
      refine pg_istore (lv' := [(4, pI (-1 : Int32)), (3, pI (0 : Int32)), (0, pR a0), (1, pI a1), (2, pI a2)]) dX12_stops_22 (by decide) rfl ?_
      refine pg_iconst dX12_stops_24 ci_0 ?_
      refine pg_istore (lv' := [(5, pI (0 : Int32)), (4, pI (-1 : Int32)), (3, pI (0 : Int32)), (0, pR a0), (1, pI a1), (2, pI a2)]) dX12_stops_25 (by decide) rfl ?_
      exact pg_to (e_X12_stops_27 l D h pg_fuel a0 a1 a2 (0 : Int32) (-1 : Int32) (0 : Int32)) [3, 4, 5, 2, 1, 0] rfl
    · refine pg_iconst dX12_stops_17 ci_m1 ?_
      exact pg_iret dX12_stops_18 rfl rfl
theorem c_X12_stops (l : Launch) (D : pg_D) (h : pg_H) (a0 : Nat) (a1 : Int32) (a2 : Int32)  : ∀ x, F_X12_stops h a0 a1 a2 = some x → pg_Ct l D yX12_stops cX12_stops 6 (some FieldType.int) 2 46 [pR a0, pI a1, pI a2] h (pg_oI h x) :=
  pg_Ct.of pn_RX12 (Nat.le_of_ble_eq_true rfl) (e_X12_stops l D h a0 a1 a2)
def F_X12_chanceOf_125 (k65 : Nat → Int32 → Int32 → Int32 → pg_H → Option pg_H) (a0 : Nat) (a1 : Int32) (a2 : Int32) (a3 : Int32) (s0 : Int32) (s1 : Nat) (h : pg_H) : Option pg_H := Option.bind (F_X12_makes s1 s0 (1 : Int32) h) fun v1 => (k65 a0 a1 a2 (a3 + (1 : Int32)) v1)
def F_X12_chanceOf_65  : Nat → Nat → Int32 → Int32 → Int32 → pg_H → Option pg_H
  | 0 => fun _ _ _ _ _ => none
  | n + 1 => fun a0 a1 a2 a3 h => (if a3 < (12 : Int32) then Option.bind (pg_rcv 12 h a0 (F_X12_isNoted h a0 a1 a3)) fun v1 => Option.bind (pg_gR 12 39 h a0) fun v2 => (if a3 < a2 then (if v1 = 0 then Option.bind (pg_gR 12 38 h a0) fun v3 => Option.bind (pg_aI 21 h v3 a3) fun v4 => (F_X12_chanceOf_125 (F_X12_chanceOf_65 n) a0 a1 a2 a3 ((100 : Int32) - v4) v2 h) else Option.bind (pg_gR 12 38 h a0) fun v5 => Option.bind (pg_aI 21 h v5 a3) fun v6 => (F_X12_chanceOf_125 (F_X12_chanceOf_65 n) a0 a1 a2 a3 v6 v2 h)) else (if v1 = 0 then (F_X12_chanceOf_125 (F_X12_chanceOf_65 n) a0 a1 a2 a3 (100 : Int32) v2 h) else (F_X12_chanceOf_125 (F_X12_chanceOf_65 n) a0 a1 a2 a3 (0 : Int32) v2 h))) else (some h))
def F_X12_chanceOf_53 (k10 : Nat → Int32 → Int32 → Int32 → pg_H → Option pg_H) (a0 : Nat) (a1 : Int32) (a2 : Int32) (a3 : Int32) (s0 : Int32) (s1 : Nat) (h : pg_H) : Option pg_H := Option.bind (F_X12_makes s1 s0 (1 : Int32) h) fun v1 => (k10 a0 a1 a2 (a3 + (1 : Int32)) v1)
def F_X12_chanceOf_10  : Nat → Nat → Int32 → Int32 → Int32 → pg_H → Option pg_H
  | 0 => fun _ _ _ _ _ => none
  | n + 1 => fun a0 a1 a2 a3 h => (if a3 < (12 : Int32) then Option.bind (pg_gR 12 39 h a0) fun v1 => (if a3 < a2 then Option.bind (pg_gR 12 37 h a0) fun v4 => Option.bind (pg_aI 21 h v4 a3) fun v5 => (F_X12_chanceOf_53 (F_X12_chanceOf_10 n) a0 a1 a2 a3 v5 v1 h) else (if a3 = a2 then Option.bind (pg_gR 12 37 h a0) fun v2 => Option.bind (pg_aI 21 h v2 a3) fun v3 => (F_X12_chanceOf_53 (F_X12_chanceOf_10 n) a0 a1 a2 a3 ((100 : Int32) - v3) v1 h) else (F_X12_chanceOf_53 (F_X12_chanceOf_10 n) a0 a1 a2 a3 (100 : Int32) v1 h))) else (F_X12_chanceOf_65 pg_fuel a0 a1 a2 (0 : Int32) h))
def F_X12_chanceOf (a0 : Nat) (a1 : Int32) (a2 : Int32) (h : pg_H) : Option pg_H := Option.bind (pg_gR 12 39 h a0) fun v1 => Option.bind (F_X12_be v1 (1 : Int64) h) fun v2 => (F_X12_chanceOf_10 pg_fuel a0 a1 a2 (1 : Int32) v2)
theorem e_X12_chanceOf_125 (l : Launch) (D : pg_D)  (k65 : Nat → Int32 → Int32 → Int32 → pg_H → Option pg_H) (hk65 : ∀ (a0 : Nat) (a1 : Int32) (a2 : Int32) (a3 : Int32) (h : pg_H), pg_EvF l D RX12 cX12_chanceOf 5 none "chanceOf" 2 46 pg_wV (k65 a0 a1 a2 a3 h) 65 [(0, pR a0), (1, pI a1), (2, pI a2), (3, pI a3)] [] h) (a0 : Nat) (a1 : Int32) (a2 : Int32) (a3 : Int32) (s0 : Int32) (s1 : Nat) (h : pg_H) : pg_EvF l D RX12 cX12_chanceOf 5 none "chanceOf" 2 46 pg_wV (F_X12_chanceOf_125 k65 a0 a1 a2 a3 s0 s1 h) 125 [(0, pR a0), (1, pI a1), (2, pI a2), (3, pI a3)] [pI s0, pR s1] h := by
  unfold F_X12_chanceOf_125
  refine pg_iconst dX12_chanceOf_125 ci_1 ?_
  refine pg_callS_wV (As := [pR s1, pI s0, pI (1 : Int32)]) (rs := []) dX12_chanceOf_126 lk_RX12_367 vy_X12_makes nd_X12_makes (c_X12_makes l D s1 s0 (1 : Int32) h) rfl rfl (Nat.le_of_ble_eq_true rfl) (by decide) (by decide) (fun v1 => ?_)
  refine pg_iinc (lv' := [(3, pI (a3 + (1 : Int32))), (0, pR a0), (1, pI a1), (2, pI a2)]) dX12_chanceOf_129 3 rfl ci_1 (by decide) rfl ?_
  refine pg_goto (tgt := 65) dX12_chanceOf_132 rfl ?_
  exact pg_to (hk65 a0 a1 a2 (a3 + (1 : Int32)) v1) [1, 2, 3, 0] rfl
theorem e_X12_chanceOf_65 (l : Launch) (D : pg_D)   : ∀ (n : Nat) (a0 : Nat) (a1 : Int32) (a2 : Int32) (a3 : Int32) (h : pg_H), pg_EvF l D RX12 cX12_chanceOf 5 none "chanceOf" 2 46 pg_wV (F_X12_chanceOf_65 n a0 a1 a2 a3 h) 65 [(0, pR a0), (1, pI a1), (2, pI a2), (3, pI a3)] [] h := by
  intro n
  induction n with
  | zero => intro a0 a1 a2 a3 h; exact pg_none
  | succ n ih =>
    intro a0 a1 a2 a3 h
    rw [F_X12_chanceOf_65]
    refine pg_iload_n (i := 3) dX12_chanceOf_65 rfl 3 rfl ?_
    refine pg_bipush dX12_chanceOf_66 cb_12 ?_
    refine pg_icmp_ge (tgt := 135) dX12_chanceOf_68 rfl ?_ ?_
    · exact pg_vret dX12_chanceOf_135 rfl rfl
    · refine pg_aload_n (i := 0) dX12_chanceOf_71 rfl 0 rfl ?_
      refine pg_iload_n (i := 1) dX12_chanceOf_72 rfl 1 rfl ?_
      refine pg_iload_n (i := 3) dX12_chanceOf_73 rfl 3 rfl ?_
      refine pg_callV_oI (As := [pI a1, pI a3]) (rs := []) dX12_chanceOf_74 lk_RX12_401 vy_X12_isNoted nd_X12_isNoted (c_X12_isNoted l D h a0 a1 a3) rfl rfl (Nat.le_of_ble_eq_true rfl) (by decide) (by decide) (fun v1 => ?_)
      refine pg_istore (lv' := [(4, pI v1), (0, pR a0), (1, pI a1), (2, pI a2), (3, pI a3)]) dX12_chanceOf_77 (by decide) rfl ?_
      refine pg_aload_n (i := 0) dX12_chanceOf_79 rfl 1 rfl ?_
      refine pg_getR dX12_chanceOf_80 fl_RX12_95 rfl (fun v2 => ?_)
      refine pg_iload_n (i := 3) dX12_chanceOf_83 rfl 4 rfl ?_
      refine pg_iload_n (i := 2) dX12_chanceOf_84 rfl 3 rfl ?_
      refine pg_icmp_ge (tgt := 114) dX12_chanceOf_85 rfl ?_ ?_
      · refine pg_iload dX12_chanceOf_114 0 rfl ?_
        refine pg_if_eq (tgt := 123) dX12_chanceOf_116 rfl ?_ ?_
        · refine pg_bipush dX12_chanceOf_123 cb_100 ?_
          exact pg_to (e_X12_chanceOf_125 l D (F_X12_chanceOf_65 n) ih a0 a1 a2 a3 (100 : Int32) v2 h) [1, 2, 3, 4] rfl
        · refine pg_iconst dX12_chanceOf_119 ci_0 ?_
          refine pg_goto (tgt := 125) dX12_chanceOf_120 rfl ?_
          exact pg_to (e_X12_chanceOf_125 l D (F_X12_chanceOf_65 n) ih a0 a1 a2 a3 (0 : Int32) v2 h) [1, 2, 3, 4] rfl
      · refine pg_iload dX12_chanceOf_88 0 rfl ?_
        refine pg_if_eq (tgt := 102) dX12_chanceOf_90 rfl ?_ ?_
        · refine pg_bipush dX12_chanceOf_102 cb_100 ?_
          refine pg_aload_n (i := 0) dX12_chanceOf_104 rfl 1 rfl ?_
          refine pg_getR dX12_chanceOf_105 fl_RX12_92 rfl (fun v3 => ?_)
          refine pg_iload_n (i := 3) dX12_chanceOf_108 rfl 4 rfl ?_
          refine pg_iaload dX12_chanceOf_109 (fun v4 => ?_)
          refine pg_isub dX12_chanceOf_110 ?_
          refine pg_goto (tgt := 125) dX12_chanceOf_111 rfl ?_
          exact pg_to (e_X12_chanceOf_125 l D (F_X12_chanceOf_65 n) ih a0 a1 a2 a3 ((100 : Int32) - v4) v2 h) [1, 2, 3, 4] rfl
        · refine pg_aload_n (i := 0) dX12_chanceOf_93 rfl 1 rfl ?_
          refine pg_getR dX12_chanceOf_94 fl_RX12_92 rfl (fun v5 => ?_)
          refine pg_iload_n (i := 3) dX12_chanceOf_97 rfl 4 rfl ?_
          refine pg_iaload dX12_chanceOf_98 (fun v6 => ?_)
          refine pg_goto (tgt := 125) dX12_chanceOf_99 rfl ?_
          exact pg_to (e_X12_chanceOf_125 l D (F_X12_chanceOf_65 n) ih a0 a1 a2 a3 v6 v2 h) [1, 2, 3, 4] rfl
theorem e_X12_chanceOf_53 (l : Launch) (D : pg_D)  (k10 : Nat → Int32 → Int32 → Int32 → pg_H → Option pg_H) (hk10 : ∀ (a0 : Nat) (a1 : Int32) (a2 : Int32) (a3 : Int32) (h : pg_H), pg_EvF l D RX12 cX12_chanceOf 5 none "chanceOf" 2 46 pg_wV (k10 a0 a1 a2 a3 h) 10 [(0, pR a0), (1, pI a1), (2, pI a2), (3, pI a3)] [] h) (a0 : Nat) (a1 : Int32) (a2 : Int32) (a3 : Int32) (s0 : Int32) (s1 : Nat) (h : pg_H) : pg_EvF l D RX12 cX12_chanceOf 5 none "chanceOf" 2 46 pg_wV (F_X12_chanceOf_53 k10 a0 a1 a2 a3 s0 s1 h) 53 [(0, pR a0), (1, pI a1), (2, pI a2), (3, pI a3)] [pI s0, pR s1] h := by
  unfold F_X12_chanceOf_53
  refine pg_iconst dX12_chanceOf_53 ci_1 ?_
  refine pg_callS_wV (As := [pR s1, pI s0, pI (1 : Int32)]) (rs := []) dX12_chanceOf_54 lk_RX12_367 vy_X12_makes nd_X12_makes (c_X12_makes l D s1 s0 (1 : Int32) h) rfl rfl (Nat.le_of_ble_eq_true rfl) (by decide) (by decide) (fun v1 => ?_)
  refine pg_iinc (lv' := [(3, pI (a3 + (1 : Int32))), (0, pR a0), (1, pI a1), (2, pI a2)]) dX12_chanceOf_57 3 rfl ci_1 (by decide) rfl ?_
  refine pg_goto (tgt := 10) dX12_chanceOf_60 rfl ?_
  exact pg_to (hk10 a0 a1 a2 (a3 + (1 : Int32)) v1) [1, 2, 3, 0] rfl
theorem e_X12_chanceOf_10 (l : Launch) (D : pg_D)   : ∀ (n : Nat) (a0 : Nat) (a1 : Int32) (a2 : Int32) (a3 : Int32) (h : pg_H), pg_EvF l D RX12 cX12_chanceOf 5 none "chanceOf" 2 46 pg_wV (F_X12_chanceOf_10 n a0 a1 a2 a3 h) 10 [(0, pR a0), (1, pI a1), (2, pI a2), (3, pI a3)] [] h := by
  intro n
  induction n with
  | zero => intro a0 a1 a2 a3 h; exact pg_none
  | succ n ih =>
    intro a0 a1 a2 a3 h
    rw [F_X12_chanceOf_10]
    refine pg_iload_n (i := 3) dX12_chanceOf_10 rfl 3 rfl ?_
    refine pg_bipush dX12_chanceOf_11 cb_12 ?_
    refine pg_icmp_ge (tgt := 63) dX12_chanceOf_13 rfl ?_ ?_
    · refine pg_iconst dX12_chanceOf_63 ci_0 ?_
      refine pg_istore_n (i := 3) (lv' := [(3, pI (0 : Int32)), (0, pR a0), (1, pI a1), (2, pI a2)]) dX12_chanceOf_64 rfl (by decide) rfl ?_
      exact pg_to (e_X12_chanceOf_65 l D pg_fuel a0 a1 a2 (0 : Int32) h) [1, 2, 3, 0] rfl
    · refine pg_aload_n (i := 0) dX12_chanceOf_16 rfl 0 rfl ?_
      refine pg_getR dX12_chanceOf_17 fl_RX12_95 rfl (fun v1 => ?_)
      refine pg_iload_n (i := 3) dX12_chanceOf_20 rfl 3 rfl ?_
      refine pg_iload_n (i := 2) dX12_chanceOf_21 rfl 2 rfl ?_
      refine pg_icmp_ge (tgt := 34) dX12_chanceOf_22 rfl ?_ ?_
      · refine pg_iload_n (i := 3) dX12_chanceOf_34 rfl 3 rfl ?_
        refine pg_iload_n (i := 2) dX12_chanceOf_35 rfl 2 rfl ?_
        refine pg_icmp_ne (tgt := 51) dX12_chanceOf_36 rfl ?_ ?_
        · refine pg_bipush dX12_chanceOf_51 cb_100 ?_
          exact pg_to (e_X12_chanceOf_53 l D (F_X12_chanceOf_10 n) ih a0 a1 a2 a3 (100 : Int32) v1 h) [0, 1, 2, 3] rfl
        · refine pg_bipush dX12_chanceOf_39 cb_100 ?_
          refine pg_aload_n (i := 0) dX12_chanceOf_41 rfl 0 rfl ?_
          refine pg_getR dX12_chanceOf_42 fl_RX12_89 rfl (fun v2 => ?_)
          refine pg_iload_n (i := 3) dX12_chanceOf_45 rfl 3 rfl ?_
          refine pg_iaload dX12_chanceOf_46 (fun v3 => ?_)
          refine pg_isub dX12_chanceOf_47 ?_
          refine pg_goto (tgt := 53) dX12_chanceOf_48 rfl ?_
          exact pg_to (e_X12_chanceOf_53 l D (F_X12_chanceOf_10 n) ih a0 a1 a2 a3 ((100 : Int32) - v3) v1 h) [0, 1, 2, 3] rfl
      · refine pg_aload_n (i := 0) dX12_chanceOf_25 rfl 0 rfl ?_
        refine pg_getR dX12_chanceOf_26 fl_RX12_89 rfl (fun v4 => ?_)
        refine pg_iload_n (i := 3) dX12_chanceOf_29 rfl 3 rfl ?_
        refine pg_iaload dX12_chanceOf_30 (fun v5 => ?_)
        refine pg_goto (tgt := 53) dX12_chanceOf_31 rfl ?_
        exact pg_to (e_X12_chanceOf_53 l D (F_X12_chanceOf_10 n) ih a0 a1 a2 a3 v5 v1 h) [0, 1, 2, 3] rfl
theorem e_X12_chanceOf (l : Launch) (D : pg_D)  (a0 : Nat) (a1 : Int32) (a2 : Int32) (h : pg_H) : pg_EvF l D RX12 cX12_chanceOf 5 none "chanceOf" 2 46 pg_wV (F_X12_chanceOf a0 a1 a2 h) 0 [(0, pR a0), (1, pI a1), (2, pI a2)] [] h := by
  unfold F_X12_chanceOf
  refine pg_aload_n (i := 0) dX12_chanceOf_0 rfl 0 rfl ?_
  refine pg_getR dX12_chanceOf_1 fl_RX12_95 rfl (fun v1 => ?_)
  refine pg_lconst dX12_chanceOf_4 cl_1 ?_
  refine pg_callS_wV (As := [pR v1, pL (1 : Int64)]) (rs := []) dX12_chanceOf_5 lk_RX12_378 vy_X12_be nd_X12_be (c_X12_be l D v1 (1 : Int64) h) rfl rfl (Nat.le_of_ble_eq_true rfl) (by decide) (by decide) (fun v2 => ?_)
  refine pg_iconst dX12_chanceOf_8 ci_1 ?_
  refine pg_istore_n (i := 3) (lv' := [(3, pI (1 : Int32)), (0, pR a0), (1, pI a1), (2, pI a2)]) dX12_chanceOf_9 rfl (by decide) rfl ?_
  exact pg_to (e_X12_chanceOf_10 l D pg_fuel a0 a1 a2 (1 : Int32) v2) [1, 2, 3, 0] rfl
theorem c_X12_chanceOf (l : Launch) (D : pg_D) (a0 : Nat) (a1 : Int32) (a2 : Int32) (h : pg_H) : ∀ x, F_X12_chanceOf a0 a1 a2 h = some x → pg_Ct l D yX12_chanceOf cX12_chanceOf 5 none 2 46 [pR a0, pI a1, pI a2] h (pg_wV x) :=
  pg_Ct.of pn_RX12 (Nat.le_of_ble_eq_true rfl) (e_X12_chanceOf l D a0 a1 a2 h)
def F_X12_read_119 (k80 : Nat → Int32 → Int32 → Int32 → pg_H → Option (Int32 × pg_H)) (a0 : Nat) (a1 : Int32) (a2 : Int32) (a3 : Int32) (h : pg_H) : Option (Int32 × pg_H) := (k80 a0 a1 a2 (a3 + (1 : Int32)) h)
def F_X12_read_80  : Nat → Nat → Int32 → Int32 → Int32 → pg_H → Option (Int32 × pg_H)
  | 0 => fun _ _ _ _ _ => none
  | n + 1 => fun a0 a1 a2 a3 h => (if (12 : Int32) < a3 then Option.bind (pg_gR 12 36 h a0) fun v1 => Option.bind (F_X12_be v1 (0 : Int64) h) fun v2 => Option.bind (pg_gR 12 35 v2 a0) fun v3 => Option.bind (pg_gR 12 36 v2 a0) fun v4 => Option.bind (F_X12_order v2 v3 v4) fun v5 => (if v5 = 0 then (some ((-1 : Int32), v2)) else Option.bind (pg_gR 12 34 v2 a0) fun v6 => Option.bind (F_X12_makes v6 (1000000 : Int32) (1 : Int32) v2) fun v7 => Option.bind (pg_rcv 12 v7 a0 (F_X12_quotient a0 v7)) fun v8 => (some (v8.1, v8.2))) else Option.bind (pg_rcv 12 h a0 (F_X12_chanceOf a0 a1 a3 h)) fun v9 => Option.bind (pg_gR 12 35 v9 a0) fun v10 => Option.bind (pg_gR 12 39 v9 a0) fun v11 => Option.bind (F_X12_adds v10 v11 v9) fun v12 => (if a3 < a2 then (F_X12_read_119 (F_X12_read_80 n) a0 a1 a2 a3 v12) else Option.bind (pg_gR 12 34 v12 a0) fun v13 => Option.bind (pg_gR 12 39 v12 a0) fun v14 => Option.bind (F_X12_adds v13 v14 v12) fun v15 => (F_X12_read_119 (F_X12_read_80 n) a0 a1 a2 a3 v15)))
def F_X12_read_22  : Nat → Nat → Int32 → Int32 → Int32 → pg_H → Option (Int32 × pg_H)
  | 0 => fun _ _ _ _ _ => none
  | n + 1 => fun a0 a1 a2 a3 h => (if a3 < (12 : Int32) then Option.bind (pg_rcv 12 h a0 (F_X12_asksCopy a0 a1 a3 h)) fun v5 => Option.bind (pg_gR 12 37 v5 a0) fun v6 => Option.bind (pg_rcv 12 v5 a0 (F_X12_hundredth a0 (2 : Int32) v5)) fun v7 => Option.bind (pg_sI 21 v7.2 v6 a3 v7.1) fun v8 => Option.bind (pg_gR 12 38 v8 a0) fun v9 => Option.bind (pg_rcv 12 v8 a0 (F_X12_hundredth a0 (3 : Int32) v8)) fun v10 => Option.bind (pg_sI 21 v10.2 v9 a3 v10.1) fun v11 => (F_X12_read_22 n a0 a1 a2 (a3 + (1 : Int32)) v11) else Option.bind (pg_gR 12 34 h a0) fun v1 => Option.bind (F_X12_be v1 (0 : Int64) h) fun v2 => Option.bind (pg_gR 12 35 v2 a0) fun v3 => Option.bind (F_X12_be v3 (0 : Int64) v2) fun v4 => (F_X12_read_80 pg_fuel a0 a1 a2 (1 : Int32) v4))
def F_X12_read (a0 : Nat) (a1 : Int32) (a2 : Int32) (h : pg_H) : Option (Int32 × pg_H) := Option.bind (pg_rcv 12 h a0 (F_X12_isCopy h a0 a1)) fun v1 => (if v1 = 0 then (some ((-1 : Int32), h)) else Option.bind (F_X12_lies a2 (1 : Int32) (12 : Int32)) fun v2 => (if v2 = 0 then (some ((-1 : Int32), h)) else (F_X12_read_22 pg_fuel a0 a1 a2 (0 : Int32) h)))
theorem e_X12_read_119 (l : Launch) (D : pg_D)  (k80 : Nat → Int32 → Int32 → Int32 → pg_H → Option (Int32 × pg_H)) (hk80 : ∀ (a0 : Nat) (a1 : Int32) (a2 : Int32) (a3 : Int32) (h : pg_H), pg_EvF l D RX12 cX12_read 4 (some FieldType.int) "read" 1305 33934 pg_wI (k80 a0 a1 a2 a3 h) 80 [(0, pR a0), (1, pI a1), (2, pI a2), (3, pI a3)] [] h) (a0 : Nat) (a1 : Int32) (a2 : Int32) (a3 : Int32) (h : pg_H) : pg_EvF l D RX12 cX12_read 4 (some FieldType.int) "read" 1305 33934 pg_wI (F_X12_read_119 k80 a0 a1 a2 a3 h) 119 [(0, pR a0), (1, pI a1), (2, pI a2), (3, pI a3)] [] h := by
  unfold F_X12_read_119
  refine pg_iinc (lv' := [(3, pI (a3 + (1 : Int32))), (0, pR a0), (1, pI a1), (2, pI a2)]) dX12_read_119 3 rfl ci_1 (by decide) rfl ?_
  refine pg_goto (tgt := 80) dX12_read_122 rfl ?_
  exact pg_to (hk80 a0 a1 a2 (a3 + (1 : Int32)) h) [1, 2, 3, 0] rfl
theorem e_X12_read_80 (l : Launch) (D : pg_D)   : ∀ (n : Nat) (a0 : Nat) (a1 : Int32) (a2 : Int32) (a3 : Int32) (h : pg_H), pg_EvF l D RX12 cX12_read 4 (some FieldType.int) "read" 1305 33934 pg_wI (F_X12_read_80 n a0 a1 a2 a3 h) 80 [(0, pR a0), (1, pI a1), (2, pI a2), (3, pI a3)] [] h := by
  intro n
  induction n with
  | zero => intro a0 a1 a2 a3 h; exact pg_none
  | succ n ih =>
    intro a0 a1 a2 a3 h
    rw [F_X12_read_80]
    refine pg_iload_n (i := 3) dX12_read_80 rfl 3 rfl ?_
    refine pg_bipush dX12_read_81 cb_12 ?_
    refine pg_icmp_gt (tgt := 125) dX12_read_83 rfl ?_ ?_
    · refine pg_aload_n (i := 0) dX12_read_125 rfl 0 rfl ?_
      refine pg_getR dX12_read_126 fl_RX12_86 rfl (fun v1 => ?_)
      refine pg_lconst dX12_read_129 cl_0 ?_
      refine pg_callS_wV (As := [pR v1, pL (0 : Int64)]) (rs := []) dX12_read_130 lk_RX12_378 vy_X12_be nd_X12_be (c_X12_be l D v1 (0 : Int64) h) rfl rfl (Nat.le_of_ble_eq_true rfl) (by decide) (by decide) (fun v2 => ?_)
      refine pg_aload_n (i := 0) dX12_read_133 rfl 0 rfl ?_
      refine pg_getR dX12_read_134 fl_RX12_83 rfl (fun v3 => ?_)
      refine pg_aload_n (i := 0) dX12_read_137 rfl 0 rfl ?_
      refine pg_getR dX12_read_138 fl_RX12_86 rfl (fun v4 => ?_)
      refine pg_callS_oI (As := [pR v3, pR v4]) (rs := []) dX12_read_141 lk_RX12_371 vy_X12_order nd_X12_order (c_X12_order l D v2 v3 v4) rfl rfl (Nat.le_of_ble_eq_true rfl) (by decide) (by decide) (fun v5 => ?_)
      refine pg_if_ne (tgt := 149) dX12_read_144 rfl ?_ ?_
      · refine pg_aload_n (i := 0) dX12_read_149 rfl 0 rfl ?_
        refine pg_getR dX12_read_150 fl_RX12_79 rfl (fun v6 => ?_)
        refine pg_ldc (v := (1000000 : Int32)) dX12_read_153 kc_RX12_181 ?_
        refine pg_iconst dX12_read_155 ci_1 ?_
        refine pg_callS_wV (As := [pR v6, pI (1000000 : Int32), pI (1 : Int32)]) (rs := []) dX12_read_156 lk_RX12_367 vy_X12_makes nd_X12_makes (c_X12_makes l D v6 (1000000 : Int32) (1 : Int32) v2) rfl rfl (Nat.le_of_ble_eq_true rfl) (by decide) (by decide) (fun v7 => ?_)
        refine pg_aload_n (i := 0) dX12_read_159 rfl 0 rfl ?_
        refine pg_callV_wI (As := []) (rs := []) dX12_read_160 lk_RX12_389 vy_X12_quotient nd_X12_quotient (c_X12_quotient l D a0 v7) rfl rfl (Nat.le_of_ble_eq_true rfl) (by decide) (by decide) (fun v8 => ?_)
        exact pg_iret dX12_read_163 rfl rfl
      · refine pg_iconst dX12_read_147 ci_m1 ?_
        exact pg_iret dX12_read_148 rfl rfl
    · refine pg_aload_n (i := 0) dX12_read_86 rfl 0 rfl ?_
      refine pg_iload_n (i := 1) dX12_read_87 rfl 1 rfl ?_
      refine pg_iload_n (i := 3) dX12_read_88 rfl 3 rfl ?_
      refine pg_callV_wV (As := [pI a1, pI a3]) (rs := []) dX12_read_89 lk_RX12_410 vy_X12_chanceOf nd_X12_chanceOf (c_X12_chanceOf l D a0 a1 a3 h) rfl rfl (Nat.le_of_ble_eq_true rfl) (by decide) (by decide) (fun v9 => ?_)
      refine pg_aload_n (i := 0) dX12_read_92 rfl 0 rfl ?_
      refine pg_getR dX12_read_93 fl_RX12_83 rfl (fun v10 => ?_)
      refine pg_aload_n (i := 0) dX12_read_96 rfl 0 rfl ?_
      refine pg_getR dX12_read_97 fl_RX12_95 rfl (fun v11 => ?_)
      refine pg_callS_wV (As := [pR v10, pR v11]) (rs := []) dX12_read_100 lk_RX12_413 vy_X12_adds nd_X12_adds (c_X12_adds l D v10 v11 v9) rfl rfl (Nat.le_of_ble_eq_true rfl) (by decide) (by decide) (fun v12 => ?_)
      refine pg_iload_n (i := 3) dX12_read_103 rfl 3 rfl ?_
      refine pg_iload_n (i := 2) dX12_read_104 rfl 2 rfl ?_
      refine pg_icmp_lt (tgt := 119) dX12_read_105 rfl ?_ ?_
      · exact pg_to (e_X12_read_119 l D (F_X12_read_80 n) ih a0 a1 a2 a3 v12) [0, 1, 2, 3] rfl
      · refine pg_aload_n (i := 0) dX12_read_108 rfl 0 rfl ?_
        refine pg_getR dX12_read_109 fl_RX12_79 rfl (fun v13 => ?_)
        refine pg_aload_n (i := 0) dX12_read_112 rfl 0 rfl ?_
        refine pg_getR dX12_read_113 fl_RX12_95 rfl (fun v14 => ?_)
        refine pg_callS_wV (As := [pR v13, pR v14]) (rs := []) dX12_read_116 lk_RX12_413 vy_X12_adds nd_X12_adds (c_X12_adds l D v13 v14 v12) rfl rfl (Nat.le_of_ble_eq_true rfl) (by decide) (by decide) (fun v15 => ?_)
        exact pg_to (e_X12_read_119 l D (F_X12_read_80 n) ih a0 a1 a2 a3 v15) [0, 1, 2, 3] rfl
theorem e_X12_read_22 (l : Launch) (D : pg_D)   : ∀ (n : Nat) (a0 : Nat) (a1 : Int32) (a2 : Int32) (a3 : Int32) (h : pg_H), pg_EvF l D RX12 cX12_read 4 (some FieldType.int) "read" 1305 33934 pg_wI (F_X12_read_22 n a0 a1 a2 a3 h) 22 [(0, pR a0), (1, pI a1), (2, pI a2), (3, pI a3)] [] h := by
  intro n
  induction n with
  | zero => intro a0 a1 a2 a3 h; exact pg_none
  | succ n ih =>
    intro a0 a1 a2 a3 h
    rw [F_X12_read_22]
    refine pg_iload_n (i := 3) dX12_read_22 rfl 3 rfl ?_
    refine pg_bipush dX12_read_23 cb_12 ?_
    refine pg_icmp_ge (tgt := 62) dX12_read_25 rfl ?_ ?_
    · refine pg_aload_n (i := 0) dX12_read_62 rfl 0 rfl ?_
      refine pg_getR dX12_read_63 fl_RX12_79 rfl (fun v1 => ?_)
      refine pg_lconst dX12_read_66 cl_0 ?_
      refine pg_callS_wV (As := [pR v1, pL (0 : Int64)]) (rs := []) dX12_read_67 lk_RX12_378 vy_X12_be nd_X12_be (c_X12_be l D v1 (0 : Int64) h) rfl rfl (Nat.le_of_ble_eq_true rfl) (by decide) (by decide) (fun v2 => ?_)
      refine pg_aload_n (i := 0) dX12_read_70 rfl 0 rfl ?_
      refine pg_getR dX12_read_71 fl_RX12_83 rfl (fun v3 => ?_)
      refine pg_lconst dX12_read_74 cl_0 ?_
      refine pg_callS_wV (As := [pR v3, pL (0 : Int64)]) (rs := []) dX12_read_75 lk_RX12_378 vy_X12_be nd_X12_be (c_X12_be l D v3 (0 : Int64) v2) rfl rfl (Nat.le_of_ble_eq_true rfl) (by decide) (by decide) (fun v4 => ?_)
      refine pg_iconst dX12_read_78 ci_1 ?_
      refine pg_istore_n (i := 3) (lv' := [(3, pI (1 : Int32)), (0, pR a0), (1, pI a1), (2, pI a2)]) dX12_read_79 rfl (by decide) rfl ?_
      exact pg_to (e_X12_read_80 l D pg_fuel a0 a1 a2 (1 : Int32) v4) [1, 2, 3, 0] rfl
    · refine pg_aload_n (i := 0) dX12_read_28 rfl 0 rfl ?_
      refine pg_iload_n (i := 1) dX12_read_29 rfl 1 rfl ?_
      refine pg_iload_n (i := 3) dX12_read_30 rfl 3 rfl ?_
      refine pg_callV_wV (As := [pI a1, pI a3]) (rs := []) dX12_read_31 lk_RX12_404 vy_X12_asksCopy nd_X12_asksCopy (c_X12_asksCopy l D a0 a1 a3 h) rfl rfl (Nat.le_of_ble_eq_true rfl) (by decide) (by decide) (fun v5 => ?_)
      refine pg_aload_n (i := 0) dX12_read_34 rfl 0 rfl ?_
      refine pg_getR dX12_read_35 fl_RX12_89 rfl (fun v6 => ?_)
      refine pg_iload_n (i := 3) dX12_read_38 rfl 3 rfl ?_
      refine pg_aload_n (i := 0) dX12_read_39 rfl 0 rfl ?_
      refine pg_iconst dX12_read_40 ci_2 ?_
      refine pg_callV_wI (As := [pI (2 : Int32)]) (rs := [pI a3, pR v6]) dX12_read_41 lk_RX12_407 vy_X12_hundredth nd_X12_hundredth (c_X12_hundredth l D a0 (2 : Int32) v5) rfl rfl (Nat.le_of_ble_eq_true rfl) (by decide) (by decide) (fun v7 => ?_)
      refine pg_iastore dX12_read_44 (fun v8 => ?_)
      refine pg_aload_n (i := 0) dX12_read_45 rfl 0 rfl ?_
      refine pg_getR dX12_read_46 fl_RX12_92 rfl (fun v9 => ?_)
      refine pg_iload_n (i := 3) dX12_read_49 rfl 3 rfl ?_
      refine pg_aload_n (i := 0) dX12_read_50 rfl 0 rfl ?_
      refine pg_iconst dX12_read_51 ci_3 ?_
      refine pg_callV_wI (As := [pI (3 : Int32)]) (rs := [pI a3, pR v9]) dX12_read_52 lk_RX12_407 vy_X12_hundredth nd_X12_hundredth (c_X12_hundredth l D a0 (3 : Int32) v8) rfl rfl (Nat.le_of_ble_eq_true rfl) (by decide) (by decide) (fun v10 => ?_)
      refine pg_iastore dX12_read_55 (fun v11 => ?_)
      refine pg_iinc (lv' := [(3, pI (a3 + (1 : Int32))), (0, pR a0), (1, pI a1), (2, pI a2)]) dX12_read_56 3 rfl ci_1 (by decide) rfl ?_
      refine pg_goto (tgt := 22) dX12_read_59 rfl ?_
      exact pg_to (ih a0 a1 a2 (a3 + (1 : Int32)) v11) [1, 2, 3, 0] rfl
theorem e_X12_read (l : Launch) (D : pg_D)  (a0 : Nat) (a1 : Int32) (a2 : Int32) (h : pg_H) : pg_EvF l D RX12 cX12_read 4 (some FieldType.int) "read" 1305 33934 pg_wI (F_X12_read a0 a1 a2 h) 0 [(0, pR a0), (1, pI a1), (2, pI a2)] [] h := by
  unfold F_X12_read
  refine pg_aload_n (i := 0) dX12_read_0 rfl 0 rfl ?_
  refine pg_iload_n (i := 1) dX12_read_1 rfl 1 rfl ?_
  refine pg_callV_oI (As := [pI a1]) (rs := []) dX12_read_2 lk_RX12_128 vy_X12_isCopy nd_X12_isCopy (c_X12_isCopy l D h a0 a1) rfl rfl (Nat.le_of_ble_eq_true rfl) (by decide) (by decide) (fun v1 => ?_)
  refine pg_if_eq (tgt := 18) dX12_read_5 rfl ?_ ?_
  · refine pg_iconst dX12_read_18 ci_m1 ?_
    exact pg_iret dX12_read_19 rfl rfl
  · refine pg_iload_n (i := 2) dX12_read_8 rfl 2 rfl ?_
    refine pg_iconst dX12_read_9 ci_1 ?_
    refine pg_bipush dX12_read_10 cb_12 ?_
    refine pg_callS_oI (As := [pI a2, pI (1 : Int32), pI (12 : Int32)]) (rs := []) dX12_read_12 lk_RX12_113 vy_X12_lies nd_X12_lies (c_X12_lies l D a2 (1 : Int32) (12 : Int32) h) rfl rfl (Nat.le_of_ble_eq_true rfl) (by decide) (by decide) (fun v2 => ?_)
    refine pg_if_ne (tgt := 20) dX12_read_15 rfl ?_ ?_
    · refine pg_iconst dX12_read_20 ci_0 ?_
      refine pg_istore_n (i := 3) (lv' := [(3, pI (0 : Int32)), (0, pR a0), (1, pI a1), (2, pI a2)]) dX12_read_21 rfl (by decide) rfl ?_
      exact pg_to (e_X12_read_22 l D pg_fuel a0 a1 a2 (0 : Int32) h) [1, 2, 3, 0] rfl
    · refine pg_iconst dX12_read_18 ci_m1 ?_
      exact pg_iret dX12_read_19 rfl rfl
theorem c_X12_read (l : Launch) (D : pg_D) (a0 : Nat) (a1 : Int32) (a2 : Int32) (h : pg_H) : ∀ x, F_X12_read a0 a1 a2 h = some x → pg_Ct l D yX12_read cX12_read 4 (some FieldType.int) 1305 33934 [pR a0, pI a1, pI a2] h (pg_wI x) :=
  pg_Ct.of pn_RX12 (Nat.le_of_ble_eq_true rfl) (e_X12_read l D a0 a1 a2 h)
def F_X12_isOn (h : pg_H) (a0 : Nat) (a1 : Int32) (a2 : Int32) : Option Int32 := Option.bind (pg_rcv 12 h a0 (F_X12_copyOf h a0 a1 (1 : Int32))) fun v1 => (if ((v1 >>> (a2 &&& 31)) &&& (1 : Int32)) = (1 : Int32) then (some (1 : Int32)) else (some (0 : Int32)))
theorem e_X12_isOn (l : Launch) (D : pg_D)  (h : pg_H) (a0 : Nat) (a1 : Int32) (a2 : Int32) : pg_EvF l D RX12 cX12_isOn 3 (some FieldType.boolean) "isOn" 1 22 (pg_oI h) (F_X12_isOn h a0 a1 a2) 0 [(0, pR a0), (1, pI a1), (2, pI a2)] [] h := by
  unfold F_X12_isOn
  refine pg_aload_n (i := 0) dX12_isOn_0 rfl 0 rfl ?_
  refine pg_iload_n (i := 1) dX12_isOn_1 rfl 1 rfl ?_
  refine pg_iconst dX12_isOn_2 ci_1 ?_
  refine pg_callV_oI (As := [pI a1, pI (1 : Int32)]) (rs := []) dX12_isOn_3 lk_RX12_299 vy_X12_copyOf nd_X12_copyOf (c_X12_copyOf l D h a0 a1 (1 : Int32)) rfl rfl (Nat.le_of_ble_eq_true rfl) (by decide) (by decide) (fun v1 => ?_)
  refine pg_iload_n (i := 2) dX12_isOn_6 rfl 2 rfl ?_
  refine pg_ishr dX12_isOn_7 ?_
  refine pg_iconst dX12_isOn_8 ci_1 ?_
  refine pg_iand dX12_isOn_9 ?_
  refine pg_iconst dX12_isOn_10 ci_1 ?_
  refine pg_icmp_ne (tgt := 18) dX12_isOn_11 rfl ?_ ?_
  · refine pg_iconst dX12_isOn_18 ci_0 ?_
    exact pg_zret dX12_isOn_19 rfl (Or.inl rfl) rfl
  · refine pg_iconst dX12_isOn_14 ci_1 ?_
    refine pg_goto (tgt := 19) dX12_isOn_15 rfl ?_
    exact pg_zret dX12_isOn_19 rfl (Or.inr rfl) rfl
theorem c_X12_isOn (l : Launch) (D : pg_D) (h : pg_H) (a0 : Nat) (a1 : Int32) (a2 : Int32)  : ∀ x, F_X12_isOn h a0 a1 a2 = some x → pg_Ct l D yX12_isOn cX12_isOn 3 (some FieldType.boolean) 1 22 [pR a0, pI a1, pI a2] h (pg_oI h x) :=
  pg_Ct.of pn_RX12 (Nat.le_of_ble_eq_true rfl) (e_X12_isOn l D h a0 a1 a2)
def F_X12_many_110 (h : pg_H) (k36 : Nat → Int32 → Int32 → Int32 → Int32 → Int32 → Int32 → Option Int32) (a0 : Nat) (a1 : Int32) (a2 : Int32) (a3 : Int32) (a4 : Int32) (a6 : Int32) (s0 : Int32) (s1 : Int32) : Option Int32 := pg_let (s1 + s0) fun v1 => (k36 a0 a1 a2 a3 a4 v1 (a6 + (1 : Int32)))
def F_X12_many_109 (h : pg_H) (k36 : Nat → Int32 → Int32 → Int32 → Int32 → Int32 → Int32 → Option Int32) (a0 : Nat) (a1 : Int32) (a2 : Int32) (a3 : Int32) (a4 : Int32) (a6 : Int32) (s0 : Int32) : Option Int32 := (F_X12_many_110 h k36 a0 a1 a2 a3 a4 a6 (0 : Int32) s0)
def F_X12_many_80 (h : pg_H) (k36 : Nat → Int32 → Int32 → Int32 → Int32 → Int32 → Int32 → Option Int32) (a0 : Nat) (a1 : Int32) (a2 : Int32) (a3 : Int32) (a5 : Int32) (a6 : Int32) (s0 : Int32) (s1 : Int32) : Option Int32 := pg_let (s1 + s0) fun v1 => Option.bind (pg_rcv 12 h a0 (F_X12_isOn h a0 a6 a1)) fun v2 => (if v2 = 0 then (F_X12_many_109 h k36 a0 a1 a2 a3 v1 a6 a5) else Option.bind (pg_rcv 12 h a0 (F_X12_isOn h a0 a6 a2)) fun v3 => (if v3 = 0 then (F_X12_many_109 h k36 a0 a1 a2 a3 v1 a6 a5) else (F_X12_many_110 h k36 a0 a1 a2 a3 v1 a6 (1 : Int32) a5)))
def F_X12_many_61 (h : pg_H) (k36 : Nat → Int32 → Int32 → Int32 → Int32 → Int32 → Int32 → Option Int32) (a0 : Nat) (a1 : Int32) (a2 : Int32) (a4 : Int32) (a5 : Int32) (a6 : Int32) (s0 : Int32) (s1 : Int32) : Option Int32 := pg_let (s1 + s0) fun v1 => Option.bind (pg_rcv 12 h a0 (F_X12_isOn h a0 a6 a2)) fun v2 => (if v2 = 0 then (F_X12_many_80 h k36 a0 a1 a2 v1 a5 a6 (0 : Int32) a4) else (F_X12_many_80 h k36 a0 a1 a2 v1 a5 a6 (1 : Int32) a4))
def F_X12_many_36 (h : pg_H) : Nat → Nat → Int32 → Int32 → Int32 → Int32 → Int32 → Int32 → Option Int32
  | 0 => fun _ _ _ _ _ _ _ => none
  | n + 1 => fun a0 a1 a2 a3 a4 a5 a6 => Option.bind (pg_rcv 12 h a0 (F_X12_copies h a0)) fun v1 => (if a6 < v1 then Option.bind (pg_rcv 12 h a0 (F_X12_isOn h a0 a6 a1)) fun v2 => (if v2 = 0 then (F_X12_many_61 h (F_X12_many_36 h n) a0 a1 a2 a4 a5 a6 (0 : Int32) a3) else (F_X12_many_61 h (F_X12_many_36 h n) a0 a1 a2 a4 a5 a6 (1 : Int32) a3)) else (if a5 = 0 then (some (-1 : Int32)) else (if a5 = 0 then none else (some ((a3 * a4) / a5)))))
def F_X12_many (h : pg_H) (a0 : Nat) (a1 : Int32) (a2 : Int32) : Option Int32 := Option.bind (F_X12_lies a1 (0 : Int32) (5 : Int32)) fun v1 => (if v1 = 0 then (some (-1 : Int32)) else Option.bind (F_X12_lies a2 (0 : Int32) (5 : Int32)) fun v2 => (if v2 = 0 then (some (-1 : Int32)) else (if a1 = a2 then (some (-1 : Int32)) else (F_X12_many_36 h pg_fuel a0 a1 a2 (0 : Int32) (0 : Int32) (0 : Int32) (0 : Int32)))))
theorem e_X12_many_110 (l : Launch) (D : pg_D)  (h : pg_H) (k36 : Nat → Int32 → Int32 → Int32 → Int32 → Int32 → Int32 → Option Int32) (hk36 : ∀ (a0 : Nat) (a1 : Int32) (a2 : Int32) (a3 : Int32) (a4 : Int32) (a5 : Int32) (a6 : Int32), pg_EvF l D RX12 cX12_many 7 (some FieldType.int) "many" 2 44 (pg_oI h) (k36 a0 a1 a2 a3 a4 a5 a6) 36 [(0, pR a0), (1, pI a1), (2, pI a2), (3, pI a3), (4, pI a4), (5, pI a5), (6, pI a6)] [] h) (a0 : Nat) (a1 : Int32) (a2 : Int32) (a3 : Int32) (a4 : Int32) (a6 : Int32) (s0 : Int32) (s1 : Int32) : pg_EvF l D RX12 cX12_many 7 (some FieldType.int) "many" 2 44 (pg_oI h) (F_X12_many_110 h k36 a0 a1 a2 a3 a4 a6 s0 s1) 110 [(0, pR a0), (1, pI a1), (2, pI a2), (3, pI a3), (4, pI a4), (6, pI a6)] [pI s0, pI s1] h := by
  unfold F_X12_many_110
  refine pg_iadd dX12_many_110 ?_
  refine pg_letI (fun v1 => ?_)
  refine pg_istore (lv' := [(5, pI v1), (0, pR a0), (1, pI a1), (2, pI a2), (3, pI a3), (4, pI a4), (6, pI a6)]) dX12_many_111 (by decide) rfl ?_
  refine pg_iinc (lv' := [(6, pI (a6 + (1 : Int32))), (5, pI v1), (0, pR a0), (1, pI a1), (2, pI a2), (3, pI a3), (4, pI a4)]) dX12_many_113 6 rfl ci_1 (by decide) rfl ?_
  refine pg_goto (tgt := 36) dX12_many_116 rfl ?_
  exact pg_to (hk36 a0 a1 a2 a3 a4 v1 (a6 + (1 : Int32))) [2, 3, 4, 5, 6, 1, 0] rfl
theorem e_X12_many_109 (l : Launch) (D : pg_D)  (h : pg_H) (k36 : Nat → Int32 → Int32 → Int32 → Int32 → Int32 → Int32 → Option Int32) (hk36 : ∀ (a0 : Nat) (a1 : Int32) (a2 : Int32) (a3 : Int32) (a4 : Int32) (a5 : Int32) (a6 : Int32), pg_EvF l D RX12 cX12_many 7 (some FieldType.int) "many" 2 44 (pg_oI h) (k36 a0 a1 a2 a3 a4 a5 a6) 36 [(0, pR a0), (1, pI a1), (2, pI a2), (3, pI a3), (4, pI a4), (5, pI a5), (6, pI a6)] [] h) (a0 : Nat) (a1 : Int32) (a2 : Int32) (a3 : Int32) (a4 : Int32) (a6 : Int32) (s0 : Int32) : pg_EvF l D RX12 cX12_many 7 (some FieldType.int) "many" 2 44 (pg_oI h) (F_X12_many_109 h k36 a0 a1 a2 a3 a4 a6 s0) 109 [(0, pR a0), (1, pI a1), (2, pI a2), (3, pI a3), (4, pI a4), (6, pI a6)] [pI s0] h := by
  unfold F_X12_many_109
  refine pg_iconst dX12_many_109 ci_0 ?_
  exact pg_to (e_X12_many_110 l D h k36 hk36 a0 a1 a2 a3 a4 a6 (0 : Int32) s0) [0, 1, 2, 3, 4, 5] rfl
theorem e_X12_many_80 (l : Launch) (D : pg_D)  (h : pg_H) (k36 : Nat → Int32 → Int32 → Int32 → Int32 → Int32 → Int32 → Option Int32) (hk36 : ∀ (a0 : Nat) (a1 : Int32) (a2 : Int32) (a3 : Int32) (a4 : Int32) (a5 : Int32) (a6 : Int32), pg_EvF l D RX12 cX12_many 7 (some FieldType.int) "many" 2 44 (pg_oI h) (k36 a0 a1 a2 a3 a4 a5 a6) 36 [(0, pR a0), (1, pI a1), (2, pI a2), (3, pI a3), (4, pI a4), (5, pI a5), (6, pI a6)] [] h) (a0 : Nat) (a1 : Int32) (a2 : Int32) (a3 : Int32) (a5 : Int32) (a6 : Int32) (s0 : Int32) (s1 : Int32) : pg_EvF l D RX12 cX12_many 7 (some FieldType.int) "many" 2 44 (pg_oI h) (F_X12_many_80 h k36 a0 a1 a2 a3 a5 a6 s0 s1) 80 [(0, pR a0), (1, pI a1), (2, pI a2), (3, pI a3), (5, pI a5), (6, pI a6)] [pI s0, pI s1] h := by
  unfold F_X12_many_80
  refine pg_iadd dX12_many_80 ?_
  refine pg_letI (fun v1 => ?_)
  refine pg_istore (lv' := [(4, pI v1), (0, pR a0), (1, pI a1), (2, pI a2), (3, pI a3), (5, pI a5), (6, pI a6)]) dX12_many_81 (by decide) rfl ?_
  refine pg_iload dX12_many_83 5 rfl ?_
  refine pg_aload_n (i := 0) dX12_many_85 rfl 1 rfl ?_
  refine pg_iload dX12_many_86 6 rfl ?_
  refine pg_iload_n (i := 1) dX12_many_88 rfl 2 rfl ?_
  refine pg_callV_oI (As := [pI a6, pI a1]) (rs := [pI a5]) dX12_many_89 lk_RX12_417 vy_X12_isOn nd_X12_isOn (c_X12_isOn l D h a0 a6 a1) rfl rfl (Nat.le_of_ble_eq_true rfl) (by decide) (by decide) (fun v2 => ?_)
  refine pg_if_eq (tgt := 109) dX12_many_92 rfl ?_ ?_
  · exact pg_to (e_X12_many_109 l D h k36 hk36 a0 a1 a2 a3 v1 a6 a5) [1, 2, 3, 4, 0, 6] rfl
  · refine pg_aload_n (i := 0) dX12_many_95 rfl 1 rfl ?_
    refine pg_iload dX12_many_96 6 rfl ?_
    refine pg_iload_n (i := 2) dX12_many_98 rfl 3 rfl ?_
    refine pg_callV_oI (As := [pI a6, pI a2]) (rs := [pI a5]) dX12_many_99 lk_RX12_417 vy_X12_isOn nd_X12_isOn (c_X12_isOn l D h a0 a6 a2) rfl rfl (Nat.le_of_ble_eq_true rfl) (by decide) (by decide) (fun v3 => ?_)
    refine pg_if_eq (tgt := 109) dX12_many_102 rfl ?_ ?_
    · exact pg_to (e_X12_many_109 l D h k36 hk36 a0 a1 a2 a3 v1 a6 a5) [1, 2, 3, 4, 0, 6] rfl
    · refine pg_iconst dX12_many_105 ci_1 ?_
      refine pg_goto (tgt := 110) dX12_many_106 rfl ?_
      exact pg_to (e_X12_many_110 l D h k36 hk36 a0 a1 a2 a3 v1 a6 (1 : Int32) a5) [1, 2, 3, 4, 0, 6] rfl
theorem e_X12_many_61 (l : Launch) (D : pg_D)  (h : pg_H) (k36 : Nat → Int32 → Int32 → Int32 → Int32 → Int32 → Int32 → Option Int32) (hk36 : ∀ (a0 : Nat) (a1 : Int32) (a2 : Int32) (a3 : Int32) (a4 : Int32) (a5 : Int32) (a6 : Int32), pg_EvF l D RX12 cX12_many 7 (some FieldType.int) "many" 2 44 (pg_oI h) (k36 a0 a1 a2 a3 a4 a5 a6) 36 [(0, pR a0), (1, pI a1), (2, pI a2), (3, pI a3), (4, pI a4), (5, pI a5), (6, pI a6)] [] h) (a0 : Nat) (a1 : Int32) (a2 : Int32) (a4 : Int32) (a5 : Int32) (a6 : Int32) (s0 : Int32) (s1 : Int32) : pg_EvF l D RX12 cX12_many 7 (some FieldType.int) "many" 2 44 (pg_oI h) (F_X12_many_61 h k36 a0 a1 a2 a4 a5 a6 s0 s1) 61 [(0, pR a0), (1, pI a1), (2, pI a2), (4, pI a4), (5, pI a5), (6, pI a6)] [pI s0, pI s1] h := by
  unfold F_X12_many_61
  refine pg_iadd dX12_many_61 ?_
  refine pg_letI (fun v1 => ?_)
  refine pg_istore_n (i := 3) (lv' := [(3, pI v1), (0, pR a0), (1, pI a1), (2, pI a2), (4, pI a4), (5, pI a5), (6, pI a6)]) dX12_many_62 rfl (by decide) rfl ?_
  refine pg_iload dX12_many_63 4 rfl ?_
  refine pg_aload_n (i := 0) dX12_many_65 rfl 1 rfl ?_
  refine pg_iload dX12_many_66 6 rfl ?_
  refine pg_iload_n (i := 2) dX12_many_68 rfl 3 rfl ?_
  refine pg_callV_oI (As := [pI a6, pI a2]) (rs := [pI a4]) dX12_many_69 lk_RX12_417 vy_X12_isOn nd_X12_isOn (c_X12_isOn l D h a0 a6 a2) rfl rfl (Nat.le_of_ble_eq_true rfl) (by decide) (by decide) (fun v2 => ?_)
  refine pg_if_eq (tgt := 79) dX12_many_72 rfl ?_ ?_
  · refine pg_iconst dX12_many_79 ci_0 ?_
    exact pg_to (e_X12_many_80 l D h k36 hk36 a0 a1 a2 v1 a5 a6 (0 : Int32) a4) [1, 2, 3, 0, 5, 6] rfl
  · refine pg_iconst dX12_many_75 ci_1 ?_
    refine pg_goto (tgt := 80) dX12_many_76 rfl ?_
    exact pg_to (e_X12_many_80 l D h k36 hk36 a0 a1 a2 v1 a5 a6 (1 : Int32) a4) [1, 2, 3, 0, 5, 6] rfl
theorem e_X12_many_36 (l : Launch) (D : pg_D)  (h : pg_H) : ∀ (n : Nat) (a0 : Nat) (a1 : Int32) (a2 : Int32) (a3 : Int32) (a4 : Int32) (a5 : Int32) (a6 : Int32), pg_EvF l D RX12 cX12_many 7 (some FieldType.int) "many" 2 44 (pg_oI h) (F_X12_many_36 h n a0 a1 a2 a3 a4 a5 a6) 36 [(0, pR a0), (1, pI a1), (2, pI a2), (3, pI a3), (4, pI a4), (5, pI a5), (6, pI a6)] [] h := by
  intro n
  induction n with
  | zero => intro a0 a1 a2 a3 a4 a5 a6; exact pg_none
  | succ n ih =>
    intro a0 a1 a2 a3 a4 a5 a6
    rw [F_X12_many_36]
    refine pg_iload dX12_many_36 6 rfl ?_
    refine pg_aload_n (i := 0) dX12_many_38 rfl 0 rfl ?_
    refine pg_callV_oI (As := []) (rs := [pI a6]) dX12_many_39 lk_RX12_124 vy_X12_copies nd_X12_copies (c_X12_copies l D h a0) rfl rfl (Nat.le_of_ble_eq_true rfl) (by decide) (by decide) (fun v1 => ?_)
    refine pg_icmp_ge (tgt := 119) dX12_many_42 rfl ?_ ?_
    · refine pg_iload dX12_many_119 5 rfl ?_
      refine pg_if_ne (tgt := 128) dX12_many_121 rfl ?_ ?_
      · refine pg_iload_n (i := 3) dX12_many_128 rfl 3 rfl ?_
        refine pg_iload dX12_many_129 4 rfl ?_
        refine pg_imul dX12_many_131 ?_
        refine pg_iload dX12_many_132 5 rfl ?_
        refine pg_idiv dX12_many_134 ?_
        exact pg_iret dX12_many_135 rfl rfl
      · refine pg_iconst dX12_many_124 ci_m1 ?_
        refine pg_goto (tgt := 135) dX12_many_125 rfl ?_
        exact pg_iret dX12_many_135 rfl rfl
    · refine pg_iload_n (i := 3) dX12_many_45 rfl 3 rfl ?_
      refine pg_aload_n (i := 0) dX12_many_46 rfl 0 rfl ?_
      refine pg_iload dX12_many_47 6 rfl ?_
      refine pg_iload_n (i := 1) dX12_many_49 rfl 1 rfl ?_
      refine pg_callV_oI (As := [pI a6, pI a1]) (rs := [pI a3]) dX12_many_50 lk_RX12_417 vy_X12_isOn nd_X12_isOn (c_X12_isOn l D h a0 a6 a1) rfl rfl (Nat.le_of_ble_eq_true rfl) (by decide) (by decide) (fun v2 => ?_)
      refine pg_if_eq (tgt := 60) dX12_many_53 rfl ?_ ?_
      · refine pg_iconst dX12_many_60 ci_0 ?_
        exact pg_to (e_X12_many_61 l D h (F_X12_many_36 h n) ih a0 a1 a2 a4 a5 a6 (0 : Int32) a3) [0, 1, 2, 4, 5, 6] rfl
      · refine pg_iconst dX12_many_56 ci_1 ?_
        refine pg_goto (tgt := 61) dX12_many_57 rfl ?_
        exact pg_to (e_X12_many_61 l D h (F_X12_many_36 h n) ih a0 a1 a2 a4 a5 a6 (1 : Int32) a3) [0, 1, 2, 4, 5, 6] rfl
theorem e_X12_many (l : Launch) (D : pg_D)  (h : pg_H) (a0 : Nat) (a1 : Int32) (a2 : Int32) : pg_EvF l D RX12 cX12_many 7 (some FieldType.int) "many" 2 44 (pg_oI h) (F_X12_many h a0 a1 a2) 0 [(0, pR a0), (1, pI a1), (2, pI a2)] [] h := by
  unfold F_X12_many
  refine pg_iload_n (i := 1) dX12_many_0 rfl 1 rfl ?_
  refine pg_iconst dX12_many_1 ci_0 ?_
  refine pg_iconst dX12_many_2 ci_5 ?_
  refine pg_callS_oI (As := [pI a1, pI (0 : Int32), pI (5 : Int32)]) (rs := []) dX12_many_3 lk_RX12_113 vy_X12_lies nd_X12_lies (c_X12_lies l D a1 (0 : Int32) (5 : Int32) h) rfl rfl (Nat.le_of_ble_eq_true rfl) (by decide) (by decide) (fun v1 => ?_)
  refine pg_if_eq (tgt := 23) dX12_many_6 rfl ?_ ?_
  · refine pg_iconst dX12_many_23 ci_m1 ?_
    exact pg_iret dX12_many_24 rfl rfl
  · refine pg_iload_n (i := 2) dX12_many_9 rfl 2 rfl ?_
    refine pg_iconst dX12_many_10 ci_0 ?_
    refine pg_iconst dX12_many_11 ci_5 ?_
    refine pg_callS_oI (As := [pI a2, pI (0 : Int32), pI (5 : Int32)]) (rs := []) dX12_many_12 lk_RX12_113 vy_X12_lies nd_X12_lies (c_X12_lies l D a2 (0 : Int32) (5 : Int32) h) rfl rfl (Nat.le_of_ble_eq_true rfl) (by decide) (by decide) (fun v2 => ?_)
    refine pg_if_eq (tgt := 23) dX12_many_15 rfl ?_ ?_
    · refine pg_iconst dX12_many_23 ci_m1 ?_
      exact pg_iret dX12_many_24 rfl rfl
    · refine pg_iload_n (i := 1) dX12_many_18 rfl 1 rfl ?_
      refine pg_iload_n (i := 2) dX12_many_19 rfl 2 rfl ?_
      refine pg_icmp_ne (tgt := 25) dX12_many_20 rfl ?_ ?_
      · refine pg_iconst dX12_many_25 ci_0 ?_
        refine pg_istore_n (i := 3) (lv' := [(3, pI (0 : Int32)), (0, pR a0), (1, pI a1), (2, pI a2)]) dX12_many_26 rfl (by decide) rfl ?_
        refine pg_iconst dX12_many_27 ci_0 ?_
        refine pg_istore (lv' := [(4, pI (0 : Int32)), (3, pI (0 : Int32)), (0, pR a0), (1, pI a1), (2, pI a2)]) dX12_many_28 (by decide) rfl ?_
        refine pg_iconst dX12_many_30 ci_0 ?_
        refine pg_istore (lv' := [(5, pI (0 : Int32)), (4, pI (0 : Int32)), (3, pI (0 : Int32)), (0, pR a0), (1, pI a1), (2, pI a2)]) dX12_many_31 (by decide) rfl ?_
        refine pg_iconst dX12_many_33 ci_0 ?_
        refine pg_istore (lv' := [(6, pI (0 : Int32)), (5, pI (0 : Int32)), (4, pI (0 : Int32)), (3, pI (0 : Int32)), (0, pR a0), (1, pI a1), (2, pI a2)]) dX12_many_34 (by decide) rfl ?_
        exact pg_to (e_X12_many_36 l D h pg_fuel a0 a1 a2 (0 : Int32) (0 : Int32) (0 : Int32) (0 : Int32)) [4, 5, 6, 3, 2, 1, 0] rfl
      · refine pg_iconst dX12_many_23 ci_m1 ?_
        exact pg_iret dX12_many_24 rfl rfl
theorem c_X12_many (l : Launch) (D : pg_D) (h : pg_H) (a0 : Nat) (a1 : Int32) (a2 : Int32)  : ∀ x, F_X12_many h a0 a1 a2 = some x → pg_Ct l D yX12_many cX12_many 7 (some FieldType.int) 2 44 [pR a0, pI a1, pI a2] h (pg_oI h x) :=
  pg_Ct.of pn_RX12 (Nat.le_of_ble_eq_true rfl) (e_X12_many l D h a0 a1 a2)
def F_X12_chao_97 (h : pg_H) (k9 : Nat → Int32 → Int32 → Int32 → Int32 → Option Int32) (a0 : Nat) (a1 : Int32) (a2 : Int32) (a4 : Int32) (s0 : Int32) (s1 : Int32) : Option Int32 := pg_let (s1 + s0) fun v1 => (k9 a0 a1 a2 v1 (a4 + (1 : Int32)))
def F_X12_chao_83 (h : pg_H) (k9 : Nat → Int32 → Int32 → Int32 → Int32 → Option Int32) (a0 : Nat) (a1 : Int32) (a3 : Int32) (a4 : Int32) (a5 : Int32) (s0 : Int32) (s1 : Int32) : Option Int32 := pg_let (s1 + s0) fun v1 => (if a5 = (2 : Int32) then (F_X12_chao_97 h k9 a0 a1 v1 a4 (1 : Int32) a3) else (F_X12_chao_97 h k9 a0 a1 v1 a4 (0 : Int32) a3))
def F_X12_chao_69 (h : pg_H) (k9 : Nat → Int32 → Int32 → Int32 → Int32 → Option Int32) (a0 : Nat) (a2 : Int32) (a3 : Int32) (a4 : Int32) (a5 : Int32) (s0 : Int32) (s1 : Int32) : Option Int32 := pg_let (s1 + s0) fun v1 => (if a5 = (1 : Int32) then (F_X12_chao_83 h k9 a0 v1 a3 a4 a5 (1 : Int32) a2) else (F_X12_chao_83 h k9 a0 v1 a3 a4 a5 (0 : Int32) a2))
def F_X12_chao_49 (h : pg_H) (k24 : Nat → Int32 → Int32 → Int32 → Int32 → Int32 → Int32 → Option Int32) (a0 : Nat) (a1 : Int32) (a2 : Int32) (a3 : Int32) (a4 : Int32) (a6 : Int32) (s0 : Int32) (s1 : Int32) : Option Int32 := pg_let (s1 + s0) fun v1 => (k24 a0 a1 a2 a3 a4 v1 (a6 + (1 : Int32)))
def F_X12_chao_24 (h : pg_H) (k9 : Nat → Int32 → Int32 → Int32 → Int32 → Option Int32) : Nat → Nat → Int32 → Int32 → Int32 → Int32 → Int32 → Int32 → Option Int32
  | 0 => fun _ _ _ _ _ _ _ => none
  | n + 1 => fun a0 a1 a2 a3 a4 a5 a6 => (if a6 < (6 : Int32) then Option.bind (pg_rcv 12 h a0 (F_X12_isOn h a0 a4 a6)) fun v1 => (if v1 = 0 then (F_X12_chao_49 h (F_X12_chao_24 h k9 n) a0 a1 a2 a3 a4 a6 (0 : Int32) a5) else (F_X12_chao_49 h (F_X12_chao_24 h k9 n) a0 a1 a2 a3 a4 a6 (1 : Int32) a5)) else (if 0 < a5 then (F_X12_chao_69 h k9 a0 a2 a3 a4 a5 (1 : Int32) a1) else (F_X12_chao_69 h k9 a0 a2 a3 a4 a5 (0 : Int32) a1)))
def F_X12_chao_9 (h : pg_H) : Nat → Nat → Int32 → Int32 → Int32 → Int32 → Option Int32
  | 0 => fun _ _ _ _ _ => none
  | n + 1 => fun a0 a1 a2 a3 a4 => Option.bind (pg_rcv 12 h a0 (F_X12_copies h a0)) fun v1 => (if a4 < v1 then (F_X12_chao_24 h (F_X12_chao_9 h n) pg_fuel a0 a1 a2 a3 a4 (0 : Int32) (0 : Int32)) else (if 0 < a3 then (if ((2 : Int32) * a3) = 0 then none else (some (a1 + ((a2 * a2) / ((2 : Int32) * a3))))) else (if (2 : Int32) = 0 then none else (some (a1 + ((a2 * (a2 - (1 : Int32))) / (2 : Int32)))))))
def F_X12_chao (h : pg_H) (a0 : Nat) : Option Int32 := (F_X12_chao_9 h pg_fuel a0 (0 : Int32) (0 : Int32) (0 : Int32) (0 : Int32))
theorem e_X12_chao_97 (l : Launch) (D : pg_D)  (h : pg_H) (k9 : Nat → Int32 → Int32 → Int32 → Int32 → Option Int32) (hk9 : ∀ (a0 : Nat) (a1 : Int32) (a2 : Int32) (a3 : Int32) (a4 : Int32), pg_EvF l D RX12 cX12_chao 7 (some FieldType.int) "chao" 2 44 (pg_oI h) (k9 a0 a1 a2 a3 a4) 9 [(0, pR a0), (1, pI a1), (2, pI a2), (3, pI a3), (4, pI a4)] [] h) (a0 : Nat) (a1 : Int32) (a2 : Int32) (a4 : Int32) (s0 : Int32) (s1 : Int32) : pg_EvF l D RX12 cX12_chao 7 (some FieldType.int) "chao" 2 44 (pg_oI h) (F_X12_chao_97 h k9 a0 a1 a2 a4 s0 s1) 97 [(0, pR a0), (1, pI a1), (2, pI a2), (4, pI a4)] [pI s0, pI s1] h := by
  unfold F_X12_chao_97
  refine pg_iadd dX12_chao_97 ?_
  refine pg_letI (fun v1 => ?_)
  refine pg_istore_n (i := 3) (lv' := [(3, pI v1), (0, pR a0), (1, pI a1), (2, pI a2), (4, pI a4)]) dX12_chao_98 rfl (by decide) rfl ?_
  refine pg_iinc (lv' := [(4, pI (a4 + (1 : Int32))), (3, pI v1), (0, pR a0), (1, pI a1), (2, pI a2)]) dX12_chao_99 4 rfl ci_1 (by decide) rfl ?_
  refine pg_goto (tgt := 9) dX12_chao_102 rfl ?_
  exact pg_to (hk9 a0 a1 a2 v1 (a4 + (1 : Int32))) [2, 3, 4, 1, 0] rfl
theorem e_X12_chao_83 (l : Launch) (D : pg_D)  (h : pg_H) (k9 : Nat → Int32 → Int32 → Int32 → Int32 → Option Int32) (hk9 : ∀ (a0 : Nat) (a1 : Int32) (a2 : Int32) (a3 : Int32) (a4 : Int32), pg_EvF l D RX12 cX12_chao 7 (some FieldType.int) "chao" 2 44 (pg_oI h) (k9 a0 a1 a2 a3 a4) 9 [(0, pR a0), (1, pI a1), (2, pI a2), (3, pI a3), (4, pI a4)] [] h) (a0 : Nat) (a1 : Int32) (a3 : Int32) (a4 : Int32) (a5 : Int32) (s0 : Int32) (s1 : Int32) : pg_EvF l D RX12 cX12_chao 7 (some FieldType.int) "chao" 2 44 (pg_oI h) (F_X12_chao_83 h k9 a0 a1 a3 a4 a5 s0 s1) 83 [(0, pR a0), (1, pI a1), (3, pI a3), (4, pI a4), (5, pI a5)] [pI s0, pI s1] h := by
  unfold F_X12_chao_83
  refine pg_iadd dX12_chao_83 ?_
  refine pg_letI (fun v1 => ?_)
  refine pg_istore_n (i := 2) (lv' := [(2, pI v1), (0, pR a0), (1, pI a1), (3, pI a3), (4, pI a4), (5, pI a5)]) dX12_chao_84 rfl (by decide) rfl ?_
  refine pg_iload_n (i := 3) dX12_chao_85 rfl 3 rfl ?_
  refine pg_iload dX12_chao_86 5 rfl ?_
  refine pg_iconst dX12_chao_88 ci_2 ?_
  refine pg_icmp_ne (tgt := 96) dX12_chao_89 rfl ?_ ?_
  · refine pg_iconst dX12_chao_96 ci_0 ?_
    exact pg_to (e_X12_chao_97 l D h k9 hk9 a0 a1 v1 a4 (0 : Int32) a3) [1, 2, 0, 4] rfl
  · refine pg_iconst dX12_chao_92 ci_1 ?_
    refine pg_goto (tgt := 97) dX12_chao_93 rfl ?_
    exact pg_to (e_X12_chao_97 l D h k9 hk9 a0 a1 v1 a4 (1 : Int32) a3) [1, 2, 0, 4] rfl
theorem e_X12_chao_69 (l : Launch) (D : pg_D)  (h : pg_H) (k9 : Nat → Int32 → Int32 → Int32 → Int32 → Option Int32) (hk9 : ∀ (a0 : Nat) (a1 : Int32) (a2 : Int32) (a3 : Int32) (a4 : Int32), pg_EvF l D RX12 cX12_chao 7 (some FieldType.int) "chao" 2 44 (pg_oI h) (k9 a0 a1 a2 a3 a4) 9 [(0, pR a0), (1, pI a1), (2, pI a2), (3, pI a3), (4, pI a4)] [] h) (a0 : Nat) (a2 : Int32) (a3 : Int32) (a4 : Int32) (a5 : Int32) (s0 : Int32) (s1 : Int32) : pg_EvF l D RX12 cX12_chao 7 (some FieldType.int) "chao" 2 44 (pg_oI h) (F_X12_chao_69 h k9 a0 a2 a3 a4 a5 s0 s1) 69 [(0, pR a0), (2, pI a2), (3, pI a3), (4, pI a4), (5, pI a5)] [pI s0, pI s1] h := by
  unfold F_X12_chao_69
  refine pg_iadd dX12_chao_69 ?_
  refine pg_letI (fun v1 => ?_)
  refine pg_istore_n (i := 1) (lv' := [(1, pI v1), (0, pR a0), (2, pI a2), (3, pI a3), (4, pI a4), (5, pI a5)]) dX12_chao_70 rfl (by decide) rfl ?_
  refine pg_iload_n (i := 2) dX12_chao_71 rfl 2 rfl ?_
  refine pg_iload dX12_chao_72 5 rfl ?_
  refine pg_iconst dX12_chao_74 ci_1 ?_
  refine pg_icmp_ne (tgt := 82) dX12_chao_75 rfl ?_ ?_
  · refine pg_iconst dX12_chao_82 ci_0 ?_
    exact pg_to (e_X12_chao_83 l D h k9 hk9 a0 v1 a3 a4 a5 (0 : Int32) a2) [1, 0, 3, 4, 5] rfl
  · refine pg_iconst dX12_chao_78 ci_1 ?_
    refine pg_goto (tgt := 83) dX12_chao_79 rfl ?_
    exact pg_to (e_X12_chao_83 l D h k9 hk9 a0 v1 a3 a4 a5 (1 : Int32) a2) [1, 0, 3, 4, 5] rfl
theorem e_X12_chao_49 (l : Launch) (D : pg_D)  (h : pg_H) (k24 : Nat → Int32 → Int32 → Int32 → Int32 → Int32 → Int32 → Option Int32) (hk24 : ∀ (a0 : Nat) (a1 : Int32) (a2 : Int32) (a3 : Int32) (a4 : Int32) (a5 : Int32) (a6 : Int32), pg_EvF l D RX12 cX12_chao 7 (some FieldType.int) "chao" 2 44 (pg_oI h) (k24 a0 a1 a2 a3 a4 a5 a6) 24 [(0, pR a0), (1, pI a1), (2, pI a2), (3, pI a3), (4, pI a4), (5, pI a5), (6, pI a6)] [] h) (a0 : Nat) (a1 : Int32) (a2 : Int32) (a3 : Int32) (a4 : Int32) (a6 : Int32) (s0 : Int32) (s1 : Int32) : pg_EvF l D RX12 cX12_chao 7 (some FieldType.int) "chao" 2 44 (pg_oI h) (F_X12_chao_49 h k24 a0 a1 a2 a3 a4 a6 s0 s1) 49 [(0, pR a0), (1, pI a1), (2, pI a2), (3, pI a3), (4, pI a4), (6, pI a6)] [pI s0, pI s1] h := by
  unfold F_X12_chao_49
  refine pg_iadd dX12_chao_49 ?_
  refine pg_letI (fun v1 => ?_)
  refine pg_istore (lv' := [(5, pI v1), (0, pR a0), (1, pI a1), (2, pI a2), (3, pI a3), (4, pI a4), (6, pI a6)]) dX12_chao_50 (by decide) rfl ?_
  refine pg_iinc (lv' := [(6, pI (a6 + (1 : Int32))), (5, pI v1), (0, pR a0), (1, pI a1), (2, pI a2), (3, pI a3), (4, pI a4)]) dX12_chao_52 6 rfl ci_1 (by decide) rfl ?_
  refine pg_goto (tgt := 24) dX12_chao_55 rfl ?_
  exact pg_to (hk24 a0 a1 a2 a3 a4 v1 (a6 + (1 : Int32))) [2, 3, 4, 5, 6, 1, 0] rfl
theorem e_X12_chao_24 (l : Launch) (D : pg_D)  (h : pg_H) (k9 : Nat → Int32 → Int32 → Int32 → Int32 → Option Int32) (hk9 : ∀ (a0 : Nat) (a1 : Int32) (a2 : Int32) (a3 : Int32) (a4 : Int32), pg_EvF l D RX12 cX12_chao 7 (some FieldType.int) "chao" 2 44 (pg_oI h) (k9 a0 a1 a2 a3 a4) 9 [(0, pR a0), (1, pI a1), (2, pI a2), (3, pI a3), (4, pI a4)] [] h) : ∀ (n : Nat) (a0 : Nat) (a1 : Int32) (a2 : Int32) (a3 : Int32) (a4 : Int32) (a5 : Int32) (a6 : Int32), pg_EvF l D RX12 cX12_chao 7 (some FieldType.int) "chao" 2 44 (pg_oI h) (F_X12_chao_24 h k9 n a0 a1 a2 a3 a4 a5 a6) 24 [(0, pR a0), (1, pI a1), (2, pI a2), (3, pI a3), (4, pI a4), (5, pI a5), (6, pI a6)] [] h := by
  intro n
  induction n with
  | zero => intro a0 a1 a2 a3 a4 a5 a6; exact pg_none
  | succ n ih =>
    intro a0 a1 a2 a3 a4 a5 a6
    rw [F_X12_chao_24]
    refine pg_iload dX12_chao_24 6 rfl ?_
    refine pg_bipush dX12_chao_26 cb_6 ?_
    refine pg_icmp_ge (tgt := 58) dX12_chao_28 rfl ?_ ?_
    · refine pg_iload_n (i := 1) dX12_chao_58 rfl 1 rfl ?_
      refine pg_iload dX12_chao_59 5 rfl ?_
      refine pg_if_le (tgt := 68) dX12_chao_61 rfl ?_ ?_
      · refine pg_iconst dX12_chao_68 ci_0 ?_
        exact pg_to (e_X12_chao_69 l D h k9 hk9 a0 a2 a3 a4 a5 (0 : Int32) a1) [0, 2, 3, 4, 5] rfl
      · refine pg_iconst dX12_chao_64 ci_1 ?_
        refine pg_goto (tgt := 69) dX12_chao_65 rfl ?_
        exact pg_to (e_X12_chao_69 l D h k9 hk9 a0 a2 a3 a4 a5 (1 : Int32) a1) [0, 2, 3, 4, 5] rfl
    · refine pg_iload dX12_chao_31 5 rfl ?_
      refine pg_aload_n (i := 0) dX12_chao_33 rfl 0 rfl ?_
      refine pg_iload dX12_chao_34 4 rfl ?_
      refine pg_iload dX12_chao_36 6 rfl ?_
      refine pg_callV_oI (As := [pI a4, pI a6]) (rs := [pI a5]) dX12_chao_38 lk_RX12_417 vy_X12_isOn nd_X12_isOn (c_X12_isOn l D h a0 a4 a6) rfl rfl (Nat.le_of_ble_eq_true rfl) (by decide) (by decide) (fun v1 => ?_)
      refine pg_if_eq (tgt := 48) dX12_chao_41 rfl ?_ ?_
      · refine pg_iconst dX12_chao_48 ci_0 ?_
        exact pg_to (e_X12_chao_49 l D h (F_X12_chao_24 h k9 n) ih a0 a1 a2 a3 a4 a6 (0 : Int32) a5) [0, 1, 2, 3, 4, 6] rfl
      · refine pg_iconst dX12_chao_44 ci_1 ?_
        refine pg_goto (tgt := 49) dX12_chao_45 rfl ?_
        exact pg_to (e_X12_chao_49 l D h (F_X12_chao_24 h k9 n) ih a0 a1 a2 a3 a4 a6 (1 : Int32) a5) [0, 1, 2, 3, 4, 6] rfl
theorem e_X12_chao_9 (l : Launch) (D : pg_D)  (h : pg_H) : ∀ (n : Nat) (a0 : Nat) (a1 : Int32) (a2 : Int32) (a3 : Int32) (a4 : Int32), pg_EvF l D RX12 cX12_chao 7 (some FieldType.int) "chao" 2 44 (pg_oI h) (F_X12_chao_9 h n a0 a1 a2 a3 a4) 9 [(0, pR a0), (1, pI a1), (2, pI a2), (3, pI a3), (4, pI a4)] [] h := by
  intro n
  induction n with
  | zero => intro a0 a1 a2 a3 a4; exact pg_none
  | succ n ih =>
    intro a0 a1 a2 a3 a4
    rw [F_X12_chao_9]
    refine pg_iload dX12_chao_9 4 rfl ?_
    refine pg_aload_n (i := 0) dX12_chao_11 rfl 0 rfl ?_
    refine pg_callV_oI (As := []) (rs := [pI a4]) dX12_chao_12 lk_RX12_124 vy_X12_copies nd_X12_copies (c_X12_copies l D h a0) rfl rfl (Nat.le_of_ble_eq_true rfl) (by decide) (by decide) (fun v1 => ?_)
    refine pg_icmp_ge (tgt := 105) dX12_chao_15 rfl ?_ ?_
    · refine pg_iload_n (i := 1) dX12_chao_105 rfl 1 rfl ?_
      refine pg_iload_n (i := 3) dX12_chao_106 rfl 3 rfl ?_
      refine pg_if_le (tgt := 120) dX12_chao_107 rfl ?_ ?_
      · refine pg_iload_n (i := 2) dX12_chao_120 rfl 2 rfl ?_
        refine pg_iload_n (i := 2) dX12_chao_121 rfl 2 rfl ?_
        refine pg_iconst dX12_chao_122 ci_1 ?_
        refine pg_isub dX12_chao_123 ?_
        refine pg_imul dX12_chao_124 ?_
        refine pg_iconst dX12_chao_125 ci_2 ?_
        refine pg_idiv dX12_chao_126 ?_
        refine pg_iadd dX12_chao_127 ?_
        exact pg_iret dX12_chao_128 rfl rfl
      · refine pg_iload_n (i := 2) dX12_chao_110 rfl 2 rfl ?_
        refine pg_iload_n (i := 2) dX12_chao_111 rfl 2 rfl ?_
        refine pg_imul dX12_chao_112 ?_
        refine pg_iconst dX12_chao_113 ci_2 ?_
        refine pg_iload_n (i := 3) dX12_chao_114 rfl 3 rfl ?_
        refine pg_imul dX12_chao_115 ?_
        refine pg_idiv dX12_chao_116 ?_
        refine pg_goto (tgt := 127) dX12_chao_117 rfl ?_
        refine pg_iadd dX12_chao_127 ?_
        exact pg_iret dX12_chao_128 rfl rfl
    · refine pg_iconst dX12_chao_18 ci_0 ?_
      refine pg_istore (lv' := [(5, pI (0 : Int32)), (0, pR a0), (1, pI a1), (2, pI a2), (3, pI a3), (4, pI a4)]) dX12_chao_19 (by decide) rfl ?_
      refine pg_iconst dX12_chao_21 ci_0 ?_
      refine pg_istore (lv' := [(6, pI (0 : Int32)), (5, pI (0 : Int32)), (0, pR a0), (1, pI a1), (2, pI a2), (3, pI a3), (4, pI a4)]) dX12_chao_22 (by decide) rfl ?_
      exact pg_to (e_X12_chao_24 l D h (F_X12_chao_9 h n) ih pg_fuel a0 a1 a2 a3 a4 (0 : Int32) (0 : Int32)) [2, 3, 4, 5, 6, 1, 0] rfl
theorem e_X12_chao (l : Launch) (D : pg_D)  (h : pg_H) (a0 : Nat) : pg_EvF l D RX12 cX12_chao 7 (some FieldType.int) "chao" 2 44 (pg_oI h) (F_X12_chao h a0) 0 [(0, pR a0)] [] h := by
  unfold F_X12_chao
  refine pg_iconst dX12_chao_0 ci_0 ?_
  refine pg_istore_n (i := 1) (lv' := [(1, pI (0 : Int32)), (0, pR a0)]) dX12_chao_1 rfl (by decide) rfl ?_
  refine pg_iconst dX12_chao_2 ci_0 ?_
  refine pg_istore_n (i := 2) (lv' := [(2, pI (0 : Int32)), (1, pI (0 : Int32)), (0, pR a0)]) dX12_chao_3 rfl (by decide) rfl ?_
  refine pg_iconst dX12_chao_4 ci_0 ?_
  refine pg_istore_n (i := 3) (lv' := [(3, pI (0 : Int32)), (2, pI (0 : Int32)), (1, pI (0 : Int32)), (0, pR a0)]) dX12_chao_5 rfl (by decide) rfl ?_
  refine pg_iconst dX12_chao_6 ci_0 ?_
  refine pg_istore (lv' := [(4, pI (0 : Int32)), (3, pI (0 : Int32)), (2, pI (0 : Int32)), (1, pI (0 : Int32)), (0, pR a0)]) dX12_chao_7 (by decide) rfl ?_
  exact pg_to (e_X12_chao_9 l D h pg_fuel a0 (0 : Int32) (0 : Int32) (0 : Int32) (0 : Int32)) [4, 3, 2, 1, 0] rfl
theorem c_X12_chao (l : Launch) (D : pg_D) (h : pg_H) (a0 : Nat)  : ∀ x, F_X12_chao h a0 = some x → pg_Ct l D yX12_chao cX12_chao 7 (some FieldType.int) 2 44 [pR a0] h (pg_oI h x) :=
  pg_Ct.of pn_RX12 (Nat.le_of_ble_eq_true rfl) (e_X12_chao l D h a0)
def F_X12_isStruck (a0 : Nat) (a1 : Int32) (a2 : Int32) (h : pg_H) : Option (Int32 × pg_H) := Option.bind (pg_rcv 12 h a0 (F_X12_bare a0 h)) fun v1 => Option.bind (pg_gR 12 22 v1 a0) fun v2 => Option.bind (pg_sI 21 v1 v2 (0 : Int32) a2) fun v3 => Option.bind (pg_gR 12 22 v3 a0) fun v4 => (if (5 : Int32) = 0 then none else Option.bind (pg_sI 21 v3 v4 (1 : Int32) (a2 / (5 : Int32))) fun v5 => Option.bind (pg_rcv 12 v5 a0 (F_X12_asks a0 a1 (7 : Int32) v5)) fun v6 => Option.bind (pg_gI 12 24 v6 a0) fun v7 => (if v7 = 0 ∨ v7 = 1 then some (v7, v6) else none))
theorem e_X12_isStruck (l : Launch) (D : pg_D)  (a0 : Nat) (a1 : Int32) (a2 : Int32) (h : pg_H) : pg_EvF l D RX12 cX12_isStruck 3 (some FieldType.boolean) "isStruck" 1304 33913 pg_wI (F_X12_isStruck a0 a1 a2 h) 0 [(0, pR a0), (1, pI a1), (2, pI a2)] [] h := by
  unfold F_X12_isStruck
  refine pg_aload_n (i := 0) dX12_isStruck_0 rfl 0 rfl ?_
  refine pg_callV_wV (As := []) (rs := []) dX12_isStruck_1 lk_RX12_296 vy_X12_bare nd_X12_bare (c_X12_bare l D a0 h) rfl rfl (Nat.le_of_ble_eq_true rfl) (by decide) (by decide) (fun v1 => ?_)
  refine pg_aload_n (i := 0) dX12_isStruck_4 rfl 0 rfl ?_
  refine pg_getR dX12_isStruck_5 fl_RX12_52 rfl (fun v2 => ?_)
  refine pg_iconst dX12_isStruck_8 ci_0 ?_
  refine pg_iload_n (i := 2) dX12_isStruck_9 rfl 2 rfl ?_
  refine pg_iastore dX12_isStruck_10 (fun v3 => ?_)
  refine pg_aload_n (i := 0) dX12_isStruck_11 rfl 0 rfl ?_
  refine pg_getR dX12_isStruck_12 fl_RX12_52 rfl (fun v4 => ?_)
  refine pg_iconst dX12_isStruck_15 ci_1 ?_
  refine pg_iload_n (i := 2) dX12_isStruck_16 rfl 2 rfl ?_
  refine pg_iconst dX12_isStruck_17 ci_5 ?_
  refine pg_idiv dX12_isStruck_18 ?_
  refine pg_iastore dX12_isStruck_19 (fun v5 => ?_)
  refine pg_aload_n (i := 0) dX12_isStruck_20 rfl 0 rfl ?_
  refine pg_iload_n (i := 1) dX12_isStruck_21 rfl 1 rfl ?_
  refine pg_bipush dX12_isStruck_22 cb_7 ?_
  refine pg_callV_wV (As := [pI a1, pI (7 : Int32)]) (rs := []) dX12_isStruck_24 lk_RX12_302 vy_X12_asks nd_X12_asks (c_X12_asks l D a0 a1 (7 : Int32) v5) rfl rfl (Nat.le_of_ble_eq_true rfl) (by decide) (by decide) (fun v6 => ?_)
  refine pg_aload_n (i := 0) dX12_isStruck_27 rfl 0 rfl ?_
  refine pg_getI dX12_isStruck_28 fl_RX12_293 rfl (fun v7 => ?_)
  exact pg_zretq dX12_isStruck_31 rfl rfl
theorem c_X12_isStruck (l : Launch) (D : pg_D) (a0 : Nat) (a1 : Int32) (a2 : Int32) (h : pg_H) : ∀ x, F_X12_isStruck a0 a1 a2 h = some x → pg_Ct l D yX12_isStruck cX12_isStruck 3 (some FieldType.boolean) 1304 33913 [pR a0, pI a1, pI a2] h (pg_wI x) :=
  pg_Ct.of pn_RX12 (Nat.le_of_ble_eq_true rfl) (e_X12_isStruck l D a0 a1 a2 h)
def F_X12_censor_298 (k88 : Nat → Int32 → Int32 → Int32 → Int32 → Int32 → pg_H → Option (Int32 × pg_H)) (a0 : Nat) (a1 : Int32) (a3 : Int32) (a4 : Int32) (a5 : Int32) (a6 : Int32) (h : pg_H) : Option (Int32 × pg_H) := (k88 a0 a1 a3 a4 a5 (a6 + (1 : Int32)) h)
def F_X12_censor_295 (k88 : Nat → Int32 → Int32 → Int32 → Int32 → Int32 → pg_H → Option (Int32 × pg_H)) (a0 : Nat) (a1 : Int32) (a3 : Int32) (a4 : Int32) (a6 : Int32) (s0 : Int32) (s1 : Int32) (h : pg_H) : Option (Int32 × pg_H) := pg_let (s1 + s0) fun v1 => (F_X12_censor_298 k88 a0 a1 a3 a4 v1 a6 h)
def F_X12_censor_252 (k88 : Nat → Int32 → Int32 → Int32 → Int32 → Int32 → pg_H → Option (Int32 × pg_H)) (a0 : Nat) (a1 : Int32) (a3 : Int32) (a4 : Int32) (a5 : Int32) (a6 : Int32) (a7 : Int32) (a8 : Int32) (s0 : Int32) (h : pg_H) : Option (Int32 × pg_H) := (if a3 = 0 then (F_X12_censor_295 k88 a0 a1 a3 a4 a6 (1 : Int32) a5 h) else (if a3 = (4 : Int32) then (F_X12_censor_295 k88 a0 a1 a3 a4 a6 a7 a5 h) else (if a3 = (5 : Int32) then (F_X12_censor_295 k88 a0 a1 a3 a4 a6 a8 a5 h) else (if s0 = a3 then (F_X12_censor_295 k88 a0 a1 a3 a4 a6 (1 : Int32) a5 h) else (F_X12_censor_295 k88 a0 a1 a3 a4 a6 (0 : Int32) a5 h)))))
def F_X12_censor_225 (k133 : Nat → Int32 → Int32 → Int32 → Int32 → Int32 → Int32 → Int32 → Int32 → Int32 → pg_H → Option (Int32 × pg_H)) (a0 : Nat) (a1 : Int32) (a3 : Int32) (a4 : Int32) (a5 : Int32) (a6 : Int32) (a7 : Int32) (a8 : Int32) (a9 : Int32) (a10 : Int32) (h : pg_H) : Option (Int32 × pg_H) := (k133 a0 a1 a3 a4 a5 a6 a7 a8 a9 (a10 + (1 : Int32)) h)
def F_X12_censor_222 (k133 : Nat → Int32 → Int32 → Int32 → Int32 → Int32 → Int32 → Int32 → Int32 → Int32 → pg_H → Option (Int32 × pg_H)) (a0 : Nat) (a1 : Int32) (a3 : Int32) (a4 : Int32) (a5 : Int32) (a6 : Int32) (a7 : Int32) (a8 : Int32) (a10 : Int32) (s0 : Int32) (s1 : Int32) (h : pg_H) : Option (Int32 × pg_H) := pg_let (s1 + s0) fun v1 => (F_X12_censor_225 k133 a0 a1 a3 a4 a5 a6 a7 a8 v1 a10 h)
def F_X12_censor_217 (k133 : Nat → Int32 → Int32 → Int32 → Int32 → Int32 → Int32 → Int32 → Int32 → Int32 → pg_H → Option (Int32 × pg_H)) (a0 : Nat) (a1 : Int32) (a3 : Int32) (a4 : Int32) (a5 : Int32) (a6 : Int32) (a7 : Int32) (a8 : Int32) (a10 : Int32) (s0 : Int32) (h : pg_H) : Option (Int32 × pg_H) := (F_X12_censor_222 k133 a0 a1 a3 a4 a5 a6 a7 a8 a10 (1 : Int32) s0 h)
def F_X12_censor_202 (k133 : Nat → Int32 → Int32 → Int32 → Int32 → Int32 → Int32 → Int32 → Int32 → Int32 → pg_H → Option (Int32 × pg_H)) (a0 : Nat) (a1 : Int32) (a3 : Int32) (a4 : Int32) (a5 : Int32) (a6 : Int32) (a7 : Int32) (a9 : Int32) (a10 : Int32) (a11 : Int32) (a12 : Int32) (s0 : Int32) (s1 : Int32) (h : pg_H) : Option (Int32 × pg_H) := pg_let (s1 + s0) fun v1 => (if a11 = 0 then (if a12 = 0 then (F_X12_censor_222 k133 a0 a1 a3 a4 a5 a6 a7 v1 a10 (0 : Int32) a9 h) else (F_X12_censor_217 k133 a0 a1 a3 a4 a5 a6 a7 v1 a10 a9 h)) else (F_X12_censor_217 k133 a0 a1 a3 a4 a5 a6 a7 v1 a10 a9 h))
def F_X12_censor_187 (k133 : Nat → Int32 → Int32 → Int32 → Int32 → Int32 → Int32 → Int32 → Int32 → Int32 → pg_H → Option (Int32 × pg_H)) (a0 : Nat) (a1 : Int32) (a3 : Int32) (a4 : Int32) (a5 : Int32) (a6 : Int32) (a8 : Int32) (a9 : Int32) (a10 : Int32) (a11 : Int32) (a12 : Int32) (s0 : Int32) (s1 : Int32) (h : pg_H) : Option (Int32 × pg_H) := pg_let (s1 + s0) fun v1 => (if a12 = 0 then (F_X12_censor_202 k133 a0 a1 a3 a4 a5 a6 v1 a9 a10 a11 a12 (0 : Int32) a8 h) else (F_X12_censor_202 k133 a0 a1 a3 a4 a5 a6 v1 a9 a10 a11 a12 (1 : Int32) a8 h))
def F_X12_censor_133 (k88 : Nat → Int32 → Int32 → Int32 → Int32 → Int32 → pg_H → Option (Int32 × pg_H)) : Nat → Nat → Int32 → Int32 → Int32 → Int32 → Int32 → Int32 → Int32 → Int32 → Int32 → pg_H → Option (Int32 × pg_H)
  | 0 => fun _ _ _ _ _ _ _ _ _ _ _ => none
  | n + 1 => fun a0 a1 a3 a4 a5 a6 a7 a8 a9 a10 h => (if a10 < (60 : Int32) then Option.bind (pg_gR 12 40 h a0) fun v1 => Option.bind (pg_aI 23 h v1 a10) fun v2 => (if v2 = 0 then (F_X12_censor_225 (F_X12_censor_133 k88 n) a0 a1 a3 a4 a5 a6 a7 a8 a9 a10 h) else Option.bind (pg_rcv 12 h a0 (F_X12_hasKind h a0 a6 a10 (2 : Int32))) fun v3 => Option.bind (pg_rcv 12 h a0 (F_X12_hasKind h a0 a6 a10 (3 : Int32))) fun v4 => (if v3 = 0 then (F_X12_censor_187 (F_X12_censor_133 k88 n) a0 a1 a3 a4 a5 a6 a8 a9 a10 v3 v4 (0 : Int32) a7 h) else (F_X12_censor_187 (F_X12_censor_133 k88 n) a0 a1 a3 a4 a5 a6 a8 a9 a10 v3 v4 (1 : Int32) a7 h))) else (if a9 = a4 then (F_X12_censor_252 k88 a0 a1 a3 a4 a5 a6 a7 a8 (1 : Int32) h) else (if 0 < a9 then (F_X12_censor_252 k88 a0 a1 a3 a4 a5 a6 a7 a8 (2 : Int32) h) else (F_X12_censor_252 k88 a0 a1 a3 a4 a5 a6 a7 a8 (3 : Int32) h))))
def F_X12_censor_88  : Nat → Nat → Int32 → Int32 → Int32 → Int32 → Int32 → pg_H → Option (Int32 × pg_H)
  | 0 => fun _ _ _ _ _ _ _ => none
  | n + 1 => fun a0 a1 a3 a4 a5 a6 h => Option.bind (pg_rcv 12 h a0 (F_X12_copies h a0)) fun v1 => (if a6 < v1 then Option.bind (pg_rcv 12 h a0 (F_X12_copyOf h a0 a6 (0 : Int32))) fun v2 => (if v2 = a1 then Option.bind (pg_rcv 12 h a0 (F_X12_copyOf h a0 a6 (2 : Int32))) fun v3 => (if v3 = 0 then (F_X12_censor_298 (F_X12_censor_88 n) a0 a1 a3 a4 a5 a6 h) else (F_X12_censor_133 (F_X12_censor_88 n) pg_fuel a0 a1 a3 a4 a5 a6 (0 : Int32) (0 : Int32) (0 : Int32) (0 : Int32) h)) else (F_X12_censor_298 (F_X12_censor_88 n) a0 a1 a3 a4 a5 a6 h)) else (some (a5, h)))
def F_X12_censor_73 (k35 : Nat → Int32 → Int32 → Int32 → Int32 → Int32 → pg_H → Option (Int32 × pg_H)) (a0 : Nat) (a1 : Int32) (a2 : Int32) (a3 : Int32) (a5 : Int32) (s0 : Int32) (s1 : Int32) (h : pg_H) : Option (Int32 × pg_H) := pg_let (s1 + s0) fun v1 => (k35 a0 a1 a2 a3 v1 (a5 + (1 : Int32)) h)
def F_X12_censor_35  : Nat → Nat → Int32 → Int32 → Int32 → Int32 → Int32 → pg_H → Option (Int32 × pg_H)
  | 0 => fun _ _ _ _ _ _ _ => none
  | n + 1 => fun a0 a1 a2 a3 a4 a5 h => (if a5 < (60 : Int32) then Option.bind (pg_gR 12 40 h a0) fun v1 => Option.bind (pg_rcv 12 h a0 (F_X12_isStruck a0 a2 a5 h)) fun v2 => Option.bind (pg_sI 23 v2.2 v1 a5 v2.1) fun v3 => Option.bind (pg_gR 12 40 v3 a0) fun v4 => Option.bind (pg_aI 23 v3 v4 a5) fun v5 => (if v5 = 0 then (F_X12_censor_73 (F_X12_censor_35 n) a0 a1 a2 a3 a5 (0 : Int32) a4 v3) else (F_X12_censor_73 (F_X12_censor_35 n) a0 a1 a2 a3 a5 (1 : Int32) a4 v3)) else (F_X12_censor_88 pg_fuel a0 a1 a3 a4 (0 : Int32) (0 : Int32) h))
def F_X12_censor (a0 : Nat) (a1 : Int32) (a2 : Int32) (a3 : Int32) (h : pg_H) : Option (Int32 × pg_H) := Option.bind (F_X12_lies a1 (0 : Int32) (7 : Int32)) fun v1 => (if v1 = 0 then (some ((-1 : Int32), h)) else Option.bind (pg_rcv 12 h a0 (F_X12_isText h a0 a2)) fun v2 => (if v2 = 0 then (some ((-1 : Int32), h)) else Option.bind (F_X12_lies a3 (0 : Int32) (5 : Int32)) fun v3 => (if v3 = 0 then (some ((-1 : Int32), h)) else (F_X12_censor_35 pg_fuel a0 a1 a2 a3 (0 : Int32) (0 : Int32) h))))
theorem e_X12_censor_298 (l : Launch) (D : pg_D)  (k88 : Nat → Int32 → Int32 → Int32 → Int32 → Int32 → pg_H → Option (Int32 × pg_H)) (hk88 : ∀ (a0 : Nat) (a1 : Int32) (a3 : Int32) (a4 : Int32) (a5 : Int32) (a6 : Int32) (h : pg_H), pg_EvF l D RX12 cX12_censor 13 (some FieldType.int) "censor" 1305 33935 pg_wI (k88 a0 a1 a3 a4 a5 a6 h) 88 [(0, pR a0), (1, pI a1), (3, pI a3), (4, pI a4), (5, pI a5), (6, pI a6)] [] h) (a0 : Nat) (a1 : Int32) (a3 : Int32) (a4 : Int32) (a5 : Int32) (a6 : Int32) (h : pg_H) : pg_EvF l D RX12 cX12_censor 13 (some FieldType.int) "censor" 1305 33935 pg_wI (F_X12_censor_298 k88 a0 a1 a3 a4 a5 a6 h) 298 [(0, pR a0), (1, pI a1), (3, pI a3), (4, pI a4), (5, pI a5), (6, pI a6)] [] h := by
  unfold F_X12_censor_298
  refine pg_iinc (lv' := [(6, pI (a6 + (1 : Int32))), (0, pR a0), (1, pI a1), (3, pI a3), (4, pI a4), (5, pI a5)]) dX12_censor_298 5 rfl ci_1 (by decide) rfl ?_
  refine pg_goto (tgt := 88) dX12_censor_301 rfl ?_
  exact pg_to (hk88 a0 a1 a3 a4 a5 (a6 + (1 : Int32)) h) [1, 2, 3, 4, 5, 0] rfl
theorem e_X12_censor_295 (l : Launch) (D : pg_D)  (k88 : Nat → Int32 → Int32 → Int32 → Int32 → Int32 → pg_H → Option (Int32 × pg_H)) (hk88 : ∀ (a0 : Nat) (a1 : Int32) (a3 : Int32) (a4 : Int32) (a5 : Int32) (a6 : Int32) (h : pg_H), pg_EvF l D RX12 cX12_censor 13 (some FieldType.int) "censor" 1305 33935 pg_wI (k88 a0 a1 a3 a4 a5 a6 h) 88 [(0, pR a0), (1, pI a1), (3, pI a3), (4, pI a4), (5, pI a5), (6, pI a6)] [] h) (a0 : Nat) (a1 : Int32) (a3 : Int32) (a4 : Int32) (a6 : Int32) (s0 : Int32) (s1 : Int32) (h : pg_H) : pg_EvF l D RX12 cX12_censor 13 (some FieldType.int) "censor" 1305 33935 pg_wI (F_X12_censor_295 k88 a0 a1 a3 a4 a6 s0 s1 h) 295 [(0, pR a0), (1, pI a1), (3, pI a3), (4, pI a4), (6, pI a6)] [pI s0, pI s1] h := by
  unfold F_X12_censor_295
  refine pg_iadd dX12_censor_295 ?_
  refine pg_letI (fun v1 => ?_)
  refine pg_istore (lv' := [(5, pI v1), (0, pR a0), (1, pI a1), (3, pI a3), (4, pI a4), (6, pI a6)]) dX12_censor_296 (by decide) rfl ?_
  exact pg_to (e_X12_censor_298 l D k88 hk88 a0 a1 a3 a4 v1 a6 h) [1, 2, 3, 4, 0, 5] rfl
theorem e_X12_censor_252 (l : Launch) (D : pg_D)  (k88 : Nat → Int32 → Int32 → Int32 → Int32 → Int32 → pg_H → Option (Int32 × pg_H)) (hk88 : ∀ (a0 : Nat) (a1 : Int32) (a3 : Int32) (a4 : Int32) (a5 : Int32) (a6 : Int32) (h : pg_H), pg_EvF l D RX12 cX12_censor 13 (some FieldType.int) "censor" 1305 33935 pg_wI (k88 a0 a1 a3 a4 a5 a6 h) 88 [(0, pR a0), (1, pI a1), (3, pI a3), (4, pI a4), (5, pI a5), (6, pI a6)] [] h) (a0 : Nat) (a1 : Int32) (a3 : Int32) (a4 : Int32) (a5 : Int32) (a6 : Int32) (a7 : Int32) (a8 : Int32) (s0 : Int32) (h : pg_H) : pg_EvF l D RX12 cX12_censor 13 (some FieldType.int) "censor" 1305 33935 pg_wI (F_X12_censor_252 k88 a0 a1 a3 a4 a5 a6 a7 a8 s0 h) 252 [(0, pR a0), (1, pI a1), (3, pI a3), (4, pI a4), (5, pI a5), (6, pI a6), (7, pI a7), (8, pI a8)] [pI s0] h := by
  unfold F_X12_censor_252
  refine pg_istore (lv' := [(10, pI s0), (0, pR a0), (1, pI a1), (3, pI a3), (4, pI a4), (5, pI a5), (6, pI a6), (7, pI a7), (8, pI a8)]) dX12_censor_252 (by decide) rfl ?_
  refine pg_iload dX12_censor_254 5 rfl ?_
  refine pg_iload_n (i := 3) dX12_censor_256 rfl 3 rfl ?_
  refine pg_if_ne (tgt := 264) dX12_censor_257 rfl ?_ ?_
  · refine pg_iload_n (i := 3) dX12_censor_264 rfl 3 rfl ?_
    refine pg_iconst dX12_censor_265 ci_4 ?_
    refine pg_icmp_ne (tgt := 274) dX12_censor_266 rfl ?_ ?_
    · refine pg_iload_n (i := 3) dX12_censor_274 rfl 3 rfl ?_
      refine pg_iconst dX12_censor_275 ci_5 ?_
      refine pg_icmp_ne (tgt := 284) dX12_censor_276 rfl ?_ ?_
      · refine pg_iload dX12_censor_284 0 rfl ?_
        refine pg_iload_n (i := 3) dX12_censor_286 rfl 3 rfl ?_
        refine pg_icmp_ne (tgt := 294) dX12_censor_287 rfl ?_ ?_
        · refine pg_iconst dX12_censor_294 ci_0 ?_
          exact pg_to (e_X12_censor_295 l D k88 hk88 a0 a1 a3 a4 a6 (0 : Int32) a5 h) [1, 2, 3, 4, 6] rfl
        · refine pg_iconst dX12_censor_290 ci_1 ?_
          refine pg_goto (tgt := 295) dX12_censor_291 rfl ?_
          exact pg_to (e_X12_censor_295 l D k88 hk88 a0 a1 a3 a4 a6 (1 : Int32) a5 h) [1, 2, 3, 4, 6] rfl
      · refine pg_iload dX12_censor_279 8 rfl ?_
        refine pg_goto (tgt := 295) dX12_censor_281 rfl ?_
        exact pg_to (e_X12_censor_295 l D k88 hk88 a0 a1 a3 a4 a6 a8 a5 h) [1, 2, 3, 4, 6] rfl
    · refine pg_iload dX12_censor_269 7 rfl ?_
      refine pg_goto (tgt := 295) dX12_censor_271 rfl ?_
      exact pg_to (e_X12_censor_295 l D k88 hk88 a0 a1 a3 a4 a6 a7 a5 h) [1, 2, 3, 4, 6] rfl
  · refine pg_iconst dX12_censor_260 ci_1 ?_
    refine pg_goto (tgt := 295) dX12_censor_261 rfl ?_
    exact pg_to (e_X12_censor_295 l D k88 hk88 a0 a1 a3 a4 a6 (1 : Int32) a5 h) [1, 2, 3, 4, 6] rfl
theorem e_X12_censor_225 (l : Launch) (D : pg_D)  (k133 : Nat → Int32 → Int32 → Int32 → Int32 → Int32 → Int32 → Int32 → Int32 → Int32 → pg_H → Option (Int32 × pg_H)) (hk133 : ∀ (a0 : Nat) (a1 : Int32) (a3 : Int32) (a4 : Int32) (a5 : Int32) (a6 : Int32) (a7 : Int32) (a8 : Int32) (a9 : Int32) (a10 : Int32) (h : pg_H), pg_EvF l D RX12 cX12_censor 13 (some FieldType.int) "censor" 1305 33935 pg_wI (k133 a0 a1 a3 a4 a5 a6 a7 a8 a9 a10 h) 133 [(0, pR a0), (1, pI a1), (3, pI a3), (4, pI a4), (5, pI a5), (6, pI a6), (7, pI a7), (8, pI a8), (9, pI a9), (10, pI a10)] [] h) (a0 : Nat) (a1 : Int32) (a3 : Int32) (a4 : Int32) (a5 : Int32) (a6 : Int32) (a7 : Int32) (a8 : Int32) (a9 : Int32) (a10 : Int32) (h : pg_H) : pg_EvF l D RX12 cX12_censor 13 (some FieldType.int) "censor" 1305 33935 pg_wI (F_X12_censor_225 k133 a0 a1 a3 a4 a5 a6 a7 a8 a9 a10 h) 225 [(0, pR a0), (1, pI a1), (3, pI a3), (4, pI a4), (5, pI a5), (6, pI a6), (7, pI a7), (8, pI a8), (9, pI a9), (10, pI a10)] [] h := by
  unfold F_X12_censor_225
  refine pg_iinc (lv' := [(10, pI (a10 + (1 : Int32))), (0, pR a0), (1, pI a1), (3, pI a3), (4, pI a4), (5, pI a5), (6, pI a6), (7, pI a7), (8, pI a8), (9, pI a9)]) dX12_censor_225 9 rfl ci_1 (by decide) rfl ?_
  refine pg_goto (tgt := 133) dX12_censor_228 rfl ?_
  exact pg_to (hk133 a0 a1 a3 a4 a5 a6 a7 a8 a9 (a10 + (1 : Int32)) h) [1, 2, 3, 4, 5, 6, 7, 8, 9, 0] rfl
theorem e_X12_censor_222 (l : Launch) (D : pg_D)  (k133 : Nat → Int32 → Int32 → Int32 → Int32 → Int32 → Int32 → Int32 → Int32 → Int32 → pg_H → Option (Int32 × pg_H)) (hk133 : ∀ (a0 : Nat) (a1 : Int32) (a3 : Int32) (a4 : Int32) (a5 : Int32) (a6 : Int32) (a7 : Int32) (a8 : Int32) (a9 : Int32) (a10 : Int32) (h : pg_H), pg_EvF l D RX12 cX12_censor 13 (some FieldType.int) "censor" 1305 33935 pg_wI (k133 a0 a1 a3 a4 a5 a6 a7 a8 a9 a10 h) 133 [(0, pR a0), (1, pI a1), (3, pI a3), (4, pI a4), (5, pI a5), (6, pI a6), (7, pI a7), (8, pI a8), (9, pI a9), (10, pI a10)] [] h) (a0 : Nat) (a1 : Int32) (a3 : Int32) (a4 : Int32) (a5 : Int32) (a6 : Int32) (a7 : Int32) (a8 : Int32) (a10 : Int32) (s0 : Int32) (s1 : Int32) (h : pg_H) : pg_EvF l D RX12 cX12_censor 13 (some FieldType.int) "censor" 1305 33935 pg_wI (F_X12_censor_222 k133 a0 a1 a3 a4 a5 a6 a7 a8 a10 s0 s1 h) 222 [(0, pR a0), (1, pI a1), (3, pI a3), (4, pI a4), (5, pI a5), (6, pI a6), (7, pI a7), (8, pI a8), (10, pI a10)] [pI s0, pI s1] h := by
  unfold F_X12_censor_222
  refine pg_iadd dX12_censor_222 ?_
  refine pg_letI (fun v1 => ?_)
  refine pg_istore (lv' := [(9, pI v1), (0, pR a0), (1, pI a1), (3, pI a3), (4, pI a4), (5, pI a5), (6, pI a6), (7, pI a7), (8, pI a8), (10, pI a10)]) dX12_censor_223 (by decide) rfl ?_
  exact pg_to (e_X12_censor_225 l D k133 hk133 a0 a1 a3 a4 a5 a6 a7 a8 v1 a10 h) [1, 2, 3, 4, 5, 6, 7, 8, 0, 9] rfl
theorem e_X12_censor_217 (l : Launch) (D : pg_D)  (k133 : Nat → Int32 → Int32 → Int32 → Int32 → Int32 → Int32 → Int32 → Int32 → Int32 → pg_H → Option (Int32 × pg_H)) (hk133 : ∀ (a0 : Nat) (a1 : Int32) (a3 : Int32) (a4 : Int32) (a5 : Int32) (a6 : Int32) (a7 : Int32) (a8 : Int32) (a9 : Int32) (a10 : Int32) (h : pg_H), pg_EvF l D RX12 cX12_censor 13 (some FieldType.int) "censor" 1305 33935 pg_wI (k133 a0 a1 a3 a4 a5 a6 a7 a8 a9 a10 h) 133 [(0, pR a0), (1, pI a1), (3, pI a3), (4, pI a4), (5, pI a5), (6, pI a6), (7, pI a7), (8, pI a8), (9, pI a9), (10, pI a10)] [] h) (a0 : Nat) (a1 : Int32) (a3 : Int32) (a4 : Int32) (a5 : Int32) (a6 : Int32) (a7 : Int32) (a8 : Int32) (a10 : Int32) (s0 : Int32) (h : pg_H) : pg_EvF l D RX12 cX12_censor 13 (some FieldType.int) "censor" 1305 33935 pg_wI (F_X12_censor_217 k133 a0 a1 a3 a4 a5 a6 a7 a8 a10 s0 h) 217 [(0, pR a0), (1, pI a1), (3, pI a3), (4, pI a4), (5, pI a5), (6, pI a6), (7, pI a7), (8, pI a8), (10, pI a10)] [pI s0] h := by
  unfold F_X12_censor_217
  refine pg_iconst dX12_censor_217 ci_1 ?_
  refine pg_goto (tgt := 222) dX12_censor_218 rfl ?_
  exact pg_to (e_X12_censor_222 l D k133 hk133 a0 a1 a3 a4 a5 a6 a7 a8 a10 (1 : Int32) s0 h) [0, 1, 2, 3, 4, 5, 6, 7, 8] rfl
theorem e_X12_censor_202 (l : Launch) (D : pg_D)  (k133 : Nat → Int32 → Int32 → Int32 → Int32 → Int32 → Int32 → Int32 → Int32 → Int32 → pg_H → Option (Int32 × pg_H)) (hk133 : ∀ (a0 : Nat) (a1 : Int32) (a3 : Int32) (a4 : Int32) (a5 : Int32) (a6 : Int32) (a7 : Int32) (a8 : Int32) (a9 : Int32) (a10 : Int32) (h : pg_H), pg_EvF l D RX12 cX12_censor 13 (some FieldType.int) "censor" 1305 33935 pg_wI (k133 a0 a1 a3 a4 a5 a6 a7 a8 a9 a10 h) 133 [(0, pR a0), (1, pI a1), (3, pI a3), (4, pI a4), (5, pI a5), (6, pI a6), (7, pI a7), (8, pI a8), (9, pI a9), (10, pI a10)] [] h) (a0 : Nat) (a1 : Int32) (a3 : Int32) (a4 : Int32) (a5 : Int32) (a6 : Int32) (a7 : Int32) (a9 : Int32) (a10 : Int32) (a11 : Int32) (a12 : Int32) (s0 : Int32) (s1 : Int32) (h : pg_H) : pg_EvF l D RX12 cX12_censor 13 (some FieldType.int) "censor" 1305 33935 pg_wI (F_X12_censor_202 k133 a0 a1 a3 a4 a5 a6 a7 a9 a10 a11 a12 s0 s1 h) 202 [(0, pR a0), (1, pI a1), (3, pI a3), (4, pI a4), (5, pI a5), (6, pI a6), (7, pI a7), (9, pI a9), (10, pI a10), (11, pI a11), (12, pI a12)] [pI s0, pI s1] h := by
  unfold F_X12_censor_202
  refine pg_iadd dX12_censor_202 ?_
  refine pg_letI (fun v1 => ?_)
  refine pg_istore (lv' := [(8, pI v1), (0, pR a0), (1, pI a1), (3, pI a3), (4, pI a4), (5, pI a5), (6, pI a6), (7, pI a7), (9, pI a9), (10, pI a10), (11, pI a11), (12, pI a12)]) dX12_censor_203 (by decide) rfl ?_
  refine pg_iload dX12_censor_205 8 rfl ?_
  refine pg_iload dX12_censor_207 10 rfl ?_
  refine pg_if_ne (tgt := 217) dX12_censor_209 rfl ?_ ?_
  · exact pg_to (e_X12_censor_217 l D k133 hk133 a0 a1 a3 a4 a5 a6 a7 v1 a10 a9 h) [1, 2, 3, 4, 5, 6, 7, 0, 9] rfl
  · refine pg_iload dX12_censor_212 11 rfl ?_
    refine pg_if_eq (tgt := 221) dX12_censor_214 rfl ?_ ?_
    · refine pg_iconst dX12_censor_221 ci_0 ?_
      exact pg_to (e_X12_censor_222 l D k133 hk133 a0 a1 a3 a4 a5 a6 a7 v1 a10 (0 : Int32) a9 h) [1, 2, 3, 4, 5, 6, 7, 0, 9] rfl
    · exact pg_to (e_X12_censor_217 l D k133 hk133 a0 a1 a3 a4 a5 a6 a7 v1 a10 a9 h) [1, 2, 3, 4, 5, 6, 7, 0, 9] rfl
theorem e_X12_censor_187 (l : Launch) (D : pg_D)  (k133 : Nat → Int32 → Int32 → Int32 → Int32 → Int32 → Int32 → Int32 → Int32 → Int32 → pg_H → Option (Int32 × pg_H)) (hk133 : ∀ (a0 : Nat) (a1 : Int32) (a3 : Int32) (a4 : Int32) (a5 : Int32) (a6 : Int32) (a7 : Int32) (a8 : Int32) (a9 : Int32) (a10 : Int32) (h : pg_H), pg_EvF l D RX12 cX12_censor 13 (some FieldType.int) "censor" 1305 33935 pg_wI (k133 a0 a1 a3 a4 a5 a6 a7 a8 a9 a10 h) 133 [(0, pR a0), (1, pI a1), (3, pI a3), (4, pI a4), (5, pI a5), (6, pI a6), (7, pI a7), (8, pI a8), (9, pI a9), (10, pI a10)] [] h) (a0 : Nat) (a1 : Int32) (a3 : Int32) (a4 : Int32) (a5 : Int32) (a6 : Int32) (a8 : Int32) (a9 : Int32) (a10 : Int32) (a11 : Int32) (a12 : Int32) (s0 : Int32) (s1 : Int32) (h : pg_H) : pg_EvF l D RX12 cX12_censor 13 (some FieldType.int) "censor" 1305 33935 pg_wI (F_X12_censor_187 k133 a0 a1 a3 a4 a5 a6 a8 a9 a10 a11 a12 s0 s1 h) 187 [(0, pR a0), (1, pI a1), (3, pI a3), (4, pI a4), (5, pI a5), (6, pI a6), (8, pI a8), (9, pI a9), (10, pI a10), (11, pI a11), (12, pI a12)] [pI s0, pI s1] h := by
  unfold F_X12_censor_187
  refine pg_iadd dX12_censor_187 ?_
  refine pg_letI (fun v1 => ?_)
  refine pg_istore (lv' := [(7, pI v1), (0, pR a0), (1, pI a1), (3, pI a3), (4, pI a4), (5, pI a5), (6, pI a6), (8, pI a8), (9, pI a9), (10, pI a10), (11, pI a11), (12, pI a12)]) dX12_censor_188 (by decide) rfl ?_
  refine pg_iload dX12_censor_190 7 rfl ?_
  refine pg_iload dX12_censor_192 11 rfl ?_
  refine pg_if_eq (tgt := 201) dX12_censor_194 rfl ?_ ?_
  · refine pg_iconst dX12_censor_201 ci_0 ?_
    exact pg_to (e_X12_censor_202 l D k133 hk133 a0 a1 a3 a4 a5 a6 v1 a9 a10 a11 a12 (0 : Int32) a8 h) [1, 2, 3, 4, 5, 6, 0, 8, 9, 10, 11] rfl
  · refine pg_iconst dX12_censor_197 ci_1 ?_
    refine pg_goto (tgt := 202) dX12_censor_198 rfl ?_
    exact pg_to (e_X12_censor_202 l D k133 hk133 a0 a1 a3 a4 a5 a6 v1 a9 a10 a11 a12 (1 : Int32) a8 h) [1, 2, 3, 4, 5, 6, 0, 8, 9, 10, 11] rfl
theorem e_X12_censor_133 (l : Launch) (D : pg_D)  (k88 : Nat → Int32 → Int32 → Int32 → Int32 → Int32 → pg_H → Option (Int32 × pg_H)) (hk88 : ∀ (a0 : Nat) (a1 : Int32) (a3 : Int32) (a4 : Int32) (a5 : Int32) (a6 : Int32) (h : pg_H), pg_EvF l D RX12 cX12_censor 13 (some FieldType.int) "censor" 1305 33935 pg_wI (k88 a0 a1 a3 a4 a5 a6 h) 88 [(0, pR a0), (1, pI a1), (3, pI a3), (4, pI a4), (5, pI a5), (6, pI a6)] [] h) : ∀ (n : Nat) (a0 : Nat) (a1 : Int32) (a3 : Int32) (a4 : Int32) (a5 : Int32) (a6 : Int32) (a7 : Int32) (a8 : Int32) (a9 : Int32) (a10 : Int32) (h : pg_H), pg_EvF l D RX12 cX12_censor 13 (some FieldType.int) "censor" 1305 33935 pg_wI (F_X12_censor_133 k88 n a0 a1 a3 a4 a5 a6 a7 a8 a9 a10 h) 133 [(0, pR a0), (1, pI a1), (3, pI a3), (4, pI a4), (5, pI a5), (6, pI a6), (7, pI a7), (8, pI a8), (9, pI a9), (10, pI a10)] [] h := by
  intro n
  induction n with
  | zero => intro a0 a1 a3 a4 a5 a6 a7 a8 a9 a10 h; exact pg_none
  | succ n ih =>
    intro a0 a1 a3 a4 a5 a6 a7 a8 a9 a10 h
    rw [F_X12_censor_133]
    refine pg_iload dX12_censor_133 9 rfl ?_
    refine pg_bipush dX12_censor_135 cb_60 ?_
    refine pg_icmp_ge (tgt := 231) dX12_censor_137 rfl ?_ ?_
    · refine pg_iload dX12_censor_231 8 rfl ?_
      refine pg_iload dX12_censor_233 3 rfl ?_
      refine pg_icmp_ne (tgt := 242) dX12_censor_235 rfl ?_ ?_
      · refine pg_iload dX12_censor_242 8 rfl ?_
        refine pg_if_le (tgt := 251) dX12_censor_244 rfl ?_ ?_
        · refine pg_iconst dX12_censor_251 ci_3 ?_
          exact pg_to (e_X12_censor_252 l D k88 hk88 a0 a1 a3 a4 a5 a6 a7 a8 (3 : Int32) h) [0, 1, 2, 3, 4, 5, 6, 7] rfl
        · refine pg_iconst dX12_censor_247 ci_2 ?_
          refine pg_goto (tgt := 252) dX12_censor_248 rfl ?_
          exact pg_to (e_X12_censor_252 l D k88 hk88 a0 a1 a3 a4 a5 a6 a7 a8 (2 : Int32) h) [0, 1, 2, 3, 4, 5, 6, 7] rfl
      · refine pg_iconst dX12_censor_238 ci_1 ?_
        refine pg_goto (tgt := 252) dX12_censor_239 rfl ?_
        exact pg_to (e_X12_censor_252 l D k88 hk88 a0 a1 a3 a4 a5 a6 a7 a8 (1 : Int32) h) [0, 1, 2, 3, 4, 5, 6, 7] rfl
    · refine pg_aload_n (i := 0) dX12_censor_140 rfl 0 rfl ?_
      refine pg_getR dX12_censor_141 fl_RX12_98 rfl (fun v1 => ?_)
      refine pg_iload dX12_censor_144 9 rfl ?_
      refine pg_zaload dX12_censor_146 (fun v2 => ?_)
      refine pg_if_ne (tgt := 153) dX12_censor_147 rfl ?_ ?_
      · refine pg_aload_n (i := 0) dX12_censor_153 rfl 0 rfl ?_
        refine pg_iload dX12_censor_154 5 rfl ?_
        refine pg_iload dX12_censor_156 9 rfl ?_
        refine pg_iconst dX12_censor_158 ci_2 ?_
        refine pg_callV_oI (As := [pI a6, pI a10, pI (2 : Int32)]) (rs := []) dX12_censor_159 lk_RX12_149 vy_X12_hasKind nd_X12_hasKind (c_X12_hasKind l D h a0 a6 a10 (2 : Int32)) rfl rfl (Nat.le_of_ble_eq_true rfl) (by decide) (by decide) (fun v3 => ?_)
        refine pg_istore (lv' := [(11, pI v3), (0, pR a0), (1, pI a1), (3, pI a3), (4, pI a4), (5, pI a5), (6, pI a6), (7, pI a7), (8, pI a8), (9, pI a9), (10, pI a10)]) dX12_censor_162 (by decide) rfl ?_
        refine pg_aload_n (i := 0) dX12_censor_164 rfl 1 rfl ?_
        refine pg_iload dX12_censor_165 6 rfl ?_
        refine pg_iload dX12_censor_167 10 rfl ?_
        refine pg_iconst dX12_censor_169 ci_3 ?_
        refine pg_callV_oI (As := [pI a6, pI a10, pI (3 : Int32)]) (rs := []) dX12_censor_170 lk_RX12_149 vy_X12_hasKind nd_X12_hasKind (c_X12_hasKind l D h a0 a6 a10 (3 : Int32)) rfl rfl (Nat.le_of_ble_eq_true rfl) (by decide) (by decide) (fun v4 => ?_)
        refine pg_istore (lv' := [(12, pI v4), (11, pI v3), (0, pR a0), (1, pI a1), (3, pI a3), (4, pI a4), (5, pI a5), (6, pI a6), (7, pI a7), (8, pI a8), (9, pI a9), (10, pI a10)]) dX12_censor_173 (by decide) rfl ?_
        refine pg_iload dX12_censor_175 8 rfl ?_
        refine pg_iload dX12_censor_177 1 rfl ?_
        refine pg_if_eq (tgt := 186) dX12_censor_179 rfl ?_ ?_
        · refine pg_iconst dX12_censor_186 ci_0 ?_
          exact pg_to (e_X12_censor_187 l D (F_X12_censor_133 k88 n) ih a0 a1 a3 a4 a5 a6 a8 a9 a10 v3 v4 (0 : Int32) a7 h) [2, 3, 4, 5, 6, 7, 9, 10, 11, 1, 0] rfl
        · refine pg_iconst dX12_censor_182 ci_1 ?_
          refine pg_goto (tgt := 187) dX12_censor_183 rfl ?_
          exact pg_to (e_X12_censor_187 l D (F_X12_censor_133 k88 n) ih a0 a1 a3 a4 a5 a6 a8 a9 a10 v3 v4 (1 : Int32) a7 h) [2, 3, 4, 5, 6, 7, 9, 10, 11, 1, 0] rfl
      · refine pg_goto (tgt := 225) dX12_censor_150 rfl ?_
        exact pg_to (e_X12_censor_225 l D (F_X12_censor_133 k88 n) ih a0 a1 a3 a4 a5 a6 a7 a8 a9 a10 h) [0, 1, 2, 3, 4, 5, 6, 7, 8, 9] rfl
theorem e_X12_censor_88 (l : Launch) (D : pg_D)   : ∀ (n : Nat) (a0 : Nat) (a1 : Int32) (a3 : Int32) (a4 : Int32) (a5 : Int32) (a6 : Int32) (h : pg_H), pg_EvF l D RX12 cX12_censor 13 (some FieldType.int) "censor" 1305 33935 pg_wI (F_X12_censor_88 n a0 a1 a3 a4 a5 a6 h) 88 [(0, pR a0), (1, pI a1), (3, pI a3), (4, pI a4), (5, pI a5), (6, pI a6)] [] h := by
  intro n
  induction n with
  | zero => intro a0 a1 a3 a4 a5 a6 h; exact pg_none
  | succ n ih =>
    intro a0 a1 a3 a4 a5 a6 h
    rw [F_X12_censor_88]
    refine pg_iload dX12_censor_88 5 rfl ?_
    refine pg_aload_n (i := 0) dX12_censor_90 rfl 0 rfl ?_
    refine pg_callV_oI (As := []) (rs := [pI a6]) dX12_censor_91 lk_RX12_124 vy_X12_copies nd_X12_copies (c_X12_copies l D h a0) rfl rfl (Nat.le_of_ble_eq_true rfl) (by decide) (by decide) (fun v1 => ?_)
    refine pg_icmp_ge (tgt := 304) dX12_censor_94 rfl ?_ ?_
    · refine pg_iload dX12_censor_304 4 rfl ?_
      exact pg_iret dX12_censor_306 rfl rfl
    · refine pg_aload_n (i := 0) dX12_censor_97 rfl 0 rfl ?_
      refine pg_iload dX12_censor_98 5 rfl ?_
      refine pg_iconst dX12_censor_100 ci_0 ?_
      refine pg_callV_oI (As := [pI a6, pI (0 : Int32)]) (rs := []) dX12_censor_101 lk_RX12_299 vy_X12_copyOf nd_X12_copyOf (c_X12_copyOf l D h a0 a6 (0 : Int32)) rfl rfl (Nat.le_of_ble_eq_true rfl) (by decide) (by decide) (fun v2 => ?_)
      refine pg_iload_n (i := 1) dX12_censor_104 rfl 1 rfl ?_
      refine pg_icmp_ne (tgt := 298) dX12_censor_105 rfl ?_ ?_
      · exact pg_to (e_X12_censor_298 l D (F_X12_censor_88 n) ih a0 a1 a3 a4 a5 a6 h) [0, 1, 2, 3, 4, 5] rfl
      · refine pg_aload_n (i := 0) dX12_censor_108 rfl 0 rfl ?_
        refine pg_iload dX12_censor_109 5 rfl ?_
        refine pg_iconst dX12_censor_111 ci_2 ?_
        refine pg_callV_oI (As := [pI a6, pI (2 : Int32)]) (rs := []) dX12_censor_112 lk_RX12_299 vy_X12_copyOf nd_X12_copyOf (c_X12_copyOf l D h a0 a6 (2 : Int32)) rfl rfl (Nat.le_of_ble_eq_true rfl) (by decide) (by decide) (fun v3 => ?_)
        refine pg_if_ne (tgt := 121) dX12_censor_115 rfl ?_ ?_
        · refine pg_iconst dX12_censor_121 ci_0 ?_
          refine pg_istore (lv' := [(7, pI (0 : Int32)), (0, pR a0), (1, pI a1), (3, pI a3), (4, pI a4), (5, pI a5), (6, pI a6)]) dX12_censor_122 (by decide) rfl ?_
          refine pg_iconst dX12_censor_124 ci_0 ?_
          refine pg_istore (lv' := [(8, pI (0 : Int32)), (7, pI (0 : Int32)), (0, pR a0), (1, pI a1), (3, pI a3), (4, pI a4), (5, pI a5), (6, pI a6)]) dX12_censor_125 (by decide) rfl ?_
          refine pg_iconst dX12_censor_127 ci_0 ?_
          refine pg_istore (lv' := [(9, pI (0 : Int32)), (8, pI (0 : Int32)), (7, pI (0 : Int32)), (0, pR a0), (1, pI a1), (3, pI a3), (4, pI a4), (5, pI a5), (6, pI a6)]) dX12_censor_128 (by decide) rfl ?_
          refine pg_iconst dX12_censor_130 ci_0 ?_
          refine pg_istore (lv' := [(10, pI (0 : Int32)), (9, pI (0 : Int32)), (8, pI (0 : Int32)), (7, pI (0 : Int32)), (0, pR a0), (1, pI a1), (3, pI a3), (4, pI a4), (5, pI a5), (6, pI a6)]) dX12_censor_131 (by decide) rfl ?_
          exact pg_to (e_X12_censor_133 l D (F_X12_censor_88 n) ih pg_fuel a0 a1 a3 a4 a5 a6 (0 : Int32) (0 : Int32) (0 : Int32) (0 : Int32) h) [4, 5, 6, 7, 8, 9, 3, 2, 1, 0] rfl
        · refine pg_goto (tgt := 298) dX12_censor_118 rfl ?_
          exact pg_to (e_X12_censor_298 l D (F_X12_censor_88 n) ih a0 a1 a3 a4 a5 a6 h) [0, 1, 2, 3, 4, 5] rfl
theorem e_X12_censor_73 (l : Launch) (D : pg_D)  (k35 : Nat → Int32 → Int32 → Int32 → Int32 → Int32 → pg_H → Option (Int32 × pg_H)) (hk35 : ∀ (a0 : Nat) (a1 : Int32) (a2 : Int32) (a3 : Int32) (a4 : Int32) (a5 : Int32) (h : pg_H), pg_EvF l D RX12 cX12_censor 13 (some FieldType.int) "censor" 1305 33935 pg_wI (k35 a0 a1 a2 a3 a4 a5 h) 35 [(0, pR a0), (1, pI a1), (2, pI a2), (3, pI a3), (4, pI a4), (5, pI a5)] [] h) (a0 : Nat) (a1 : Int32) (a2 : Int32) (a3 : Int32) (a5 : Int32) (s0 : Int32) (s1 : Int32) (h : pg_H) : pg_EvF l D RX12 cX12_censor 13 (some FieldType.int) "censor" 1305 33935 pg_wI (F_X12_censor_73 k35 a0 a1 a2 a3 a5 s0 s1 h) 73 [(0, pR a0), (1, pI a1), (2, pI a2), (3, pI a3), (5, pI a5)] [pI s0, pI s1] h := by
  unfold F_X12_censor_73
  refine pg_iadd dX12_censor_73 ?_
  refine pg_letI (fun v1 => ?_)
  refine pg_istore (lv' := [(4, pI v1), (0, pR a0), (1, pI a1), (2, pI a2), (3, pI a3), (5, pI a5)]) dX12_censor_74 (by decide) rfl ?_
  refine pg_iinc (lv' := [(5, pI (a5 + (1 : Int32))), (4, pI v1), (0, pR a0), (1, pI a1), (2, pI a2), (3, pI a3)]) dX12_censor_76 5 rfl ci_1 (by decide) rfl ?_
  refine pg_goto (tgt := 35) dX12_censor_79 rfl ?_
  exact pg_to (hk35 a0 a1 a2 a3 v1 (a5 + (1 : Int32)) h) [2, 3, 4, 5, 1, 0] rfl
theorem e_X12_censor_35 (l : Launch) (D : pg_D)   : ∀ (n : Nat) (a0 : Nat) (a1 : Int32) (a2 : Int32) (a3 : Int32) (a4 : Int32) (a5 : Int32) (h : pg_H), pg_EvF l D RX12 cX12_censor 13 (some FieldType.int) "censor" 1305 33935 pg_wI (F_X12_censor_35 n a0 a1 a2 a3 a4 a5 h) 35 [(0, pR a0), (1, pI a1), (2, pI a2), (3, pI a3), (4, pI a4), (5, pI a5)] [] h := by
  intro n
  induction n with
  | zero => intro a0 a1 a2 a3 a4 a5 h; exact pg_none
  | succ n ih =>
    intro a0 a1 a2 a3 a4 a5 h
    rw [F_X12_censor_35]
    refine pg_iload dX12_censor_35 5 rfl ?_
    refine pg_bipush dX12_censor_37 cb_60 ?_
    refine pg_icmp_ge (tgt := 82) dX12_censor_39 rfl ?_ ?_
    · refine pg_iconst dX12_censor_82 ci_0 ?_
      refine pg_istore (lv' := [(5, pI (0 : Int32)), (0, pR a0), (1, pI a1), (2, pI a2), (3, pI a3), (4, pI a4)]) dX12_censor_83 (by decide) rfl ?_
      refine pg_iconst dX12_censor_85 ci_0 ?_
      refine pg_istore (lv' := [(6, pI (0 : Int32)), (5, pI (0 : Int32)), (0, pR a0), (1, pI a1), (2, pI a2), (3, pI a3), (4, pI a4)]) dX12_censor_86 (by decide) rfl ?_
      exact pg_to (e_X12_censor_88 l D pg_fuel a0 a1 a3 a4 (0 : Int32) (0 : Int32) h) [2, 3, 5, 6, 1, 0] rfl
    · refine pg_aload_n (i := 0) dX12_censor_42 rfl 0 rfl ?_
      refine pg_getR dX12_censor_43 fl_RX12_98 rfl (fun v1 => ?_)
      refine pg_iload dX12_censor_46 5 rfl ?_
      refine pg_aload_n (i := 0) dX12_censor_48 rfl 0 rfl ?_
      refine pg_iload_n (i := 2) dX12_censor_49 rfl 2 rfl ?_
      refine pg_iload dX12_censor_50 5 rfl ?_
      refine pg_callV_wI (As := [pI a2, pI a5]) (rs := [pI a5, pR v1]) dX12_censor_52 lk_RX12_420 vy_X12_isStruck nd_X12_isStruck (c_X12_isStruck l D a0 a2 a5 h) rfl rfl (Nat.le_of_ble_eq_true rfl) (by decide) (by decide) (fun v2 => ?_)
      refine pg_zastore dX12_censor_55 (fun v3 => ?_)
      refine pg_iload dX12_censor_56 4 rfl ?_
      refine pg_aload_n (i := 0) dX12_censor_58 rfl 0 rfl ?_
      refine pg_getR dX12_censor_59 fl_RX12_98 rfl (fun v4 => ?_)
      refine pg_iload dX12_censor_62 5 rfl ?_
      refine pg_zaload dX12_censor_64 (fun v5 => ?_)
      refine pg_if_eq (tgt := 72) dX12_censor_65 rfl ?_ ?_
      · refine pg_iconst dX12_censor_72 ci_0 ?_
        exact pg_to (e_X12_censor_73 l D (F_X12_censor_35 n) ih a0 a1 a2 a3 a5 (0 : Int32) a4 v3) [0, 1, 2, 3, 5] rfl
      · refine pg_iconst dX12_censor_68 ci_1 ?_
        refine pg_goto (tgt := 73) dX12_censor_69 rfl ?_
        exact pg_to (e_X12_censor_73 l D (F_X12_censor_35 n) ih a0 a1 a2 a3 a5 (1 : Int32) a4 v3) [0, 1, 2, 3, 5] rfl
theorem e_X12_censor (l : Launch) (D : pg_D)  (a0 : Nat) (a1 : Int32) (a2 : Int32) (a3 : Int32) (h : pg_H) : pg_EvF l D RX12 cX12_censor 13 (some FieldType.int) "censor" 1305 33935 pg_wI (F_X12_censor a0 a1 a2 a3 h) 0 [(0, pR a0), (1, pI a1), (2, pI a2), (3, pI a3)] [] h := by
  unfold F_X12_censor
  refine pg_iload_n (i := 1) dX12_censor_0 rfl 1 rfl ?_
  refine pg_iconst dX12_censor_1 ci_0 ?_
  refine pg_bipush dX12_censor_2 cb_7 ?_
  refine pg_callS_oI (As := [pI a1, pI (0 : Int32), pI (7 : Int32)]) (rs := []) dX12_censor_4 lk_RX12_113 vy_X12_lies nd_X12_lies (c_X12_lies l D a1 (0 : Int32) (7 : Int32) h) rfl rfl (Nat.le_of_ble_eq_true rfl) (by decide) (by decide) (fun v1 => ?_)
  refine pg_if_eq (tgt := 27) dX12_censor_7 rfl ?_ ?_
  · refine pg_iconst dX12_censor_27 ci_m1 ?_
    exact pg_iret dX12_censor_28 rfl rfl
  · refine pg_aload_n (i := 0) dX12_censor_10 rfl 0 rfl ?_
    refine pg_iload_n (i := 2) dX12_censor_11 rfl 2 rfl ?_
    refine pg_callV_oI (As := [pI a2]) (rs := []) dX12_censor_12 lk_RX12_239 vy_X12_isText nd_X12_isText (c_X12_isText l D h a0 a2) rfl rfl (Nat.le_of_ble_eq_true rfl) (by decide) (by decide) (fun v2 => ?_)
    refine pg_if_eq (tgt := 27) dX12_censor_15 rfl ?_ ?_
    · refine pg_iconst dX12_censor_27 ci_m1 ?_
      exact pg_iret dX12_censor_28 rfl rfl
    · refine pg_iload_n (i := 3) dX12_censor_18 rfl 3 rfl ?_
      refine pg_iconst dX12_censor_19 ci_0 ?_
      refine pg_iconst dX12_censor_20 ci_5 ?_
      refine pg_callS_oI (As := [pI a3, pI (0 : Int32), pI (5 : Int32)]) (rs := []) dX12_censor_21 lk_RX12_113 vy_X12_lies nd_X12_lies (c_X12_lies l D a3 (0 : Int32) (5 : Int32) h) rfl rfl (Nat.le_of_ble_eq_true rfl) (by decide) (by decide) (fun v3 => ?_)
      refine pg_if_ne (tgt := 29) dX12_censor_24 rfl ?_ ?_
      · refine pg_iconst dX12_censor_29 ci_0 ?_
        refine pg_istore (lv' := [(4, pI (0 : Int32)), (0, pR a0), (1, pI a1), (2, pI a2), (3, pI a3)]) dX12_censor_30 (by decide) rfl ?_
        refine pg_iconst dX12_censor_32 ci_0 ?_
        refine pg_istore (lv' := [(5, pI (0 : Int32)), (4, pI (0 : Int32)), (0, pR a0), (1, pI a1), (2, pI a2), (3, pI a3)]) dX12_censor_33 (by decide) rfl ?_
        exact pg_to (e_X12_censor_35 l D pg_fuel a0 a1 a2 a3 (0 : Int32) (0 : Int32) h) [2, 3, 4, 5, 1, 0] rfl
      · refine pg_iconst dX12_censor_27 ci_m1 ?_
        exact pg_iret dX12_censor_28 rfl rfl
theorem c_X12_censor (l : Launch) (D : pg_D) (a0 : Nat) (a1 : Int32) (a2 : Int32) (a3 : Int32) (h : pg_H) : ∀ x, F_X12_censor a0 a1 a2 a3 h = some x → pg_Ct l D yX12_censor cX12_censor 13 (some FieldType.int) 1305 33935 [pR a0, pI a1, pI a2, pI a3] h (pg_wI x) :=
  pg_Ct.of pn_RX12 (Nat.le_of_ble_eq_true rfl) (e_X12_censor l D a0 a1 a2 a3 h)
def F_X12_late_193 (k28 : Nat → Int32 → Int32 → Int32 → Int32 → pg_H → Option (Int32 × pg_H)) (a0 : Nat) (a1 : Int32) (a2 : Int32) (a3 : Int32) (a4 : Int32) (h : pg_H) : Option (Int32 × pg_H) := (k28 a0 a1 a2 a3 (a4 + (1 : Int32)) h)
def F_X12_late_191 (k28 : Nat → Int32 → Int32 → Int32 → Int32 → pg_H → Option (Int32 × pg_H)) (a0 : Nat) (a1 : Int32) (a2 : Int32) (a4 : Int32) (s0 : Int32) (s1 : Int32) (h : pg_H) : Option (Int32 × pg_H) := pg_let (s1 + s0) fun v1 => (F_X12_late_193 k28 a0 a1 a2 v1 a4 h)
def F_X12_late_143 (k28 : Nat → Int32 → Int32 → Int32 → Int32 → pg_H → Option (Int32 × pg_H)) (a0 : Nat) (a1 : Int32) (a2 : Int32) (a3 : Int32) (a4 : Int32) (s0 : Int32) (s1 : Int32) (s2 : Nat) (h : pg_H) : Option (Int32 × pg_H) := Option.bind (pg_sI 21 h s2 s1 s0) fun v1 => Option.bind (pg_gR 12 22 v1 a0) fun v2 => Option.bind (pg_rcv 12 v1 a0 (F_X12_noteOf v1 a0 a4 (3 : Int32))) fun v3 => Option.bind (pg_sI 21 v1 v2 (5 : Int32) v3) fun v4 => Option.bind (pg_gR 12 22 v4 a0) fun v5 => Option.bind (pg_rcv 12 v4 a0 (F_X12_noteOf v4 a0 a4 (4 : Int32))) fun v6 => Option.bind (pg_sI 21 v4 v5 (6 : Int32) v6) fun v7 => Option.bind (pg_rcv 12 v7 a0 (F_X12_asks a0 a1 (6 : Int32) v7)) fun v8 => Option.bind (pg_gI 12 24 v8 a0) fun v9 => (if v9 = 0 then (F_X12_late_191 k28 a0 a1 a2 a4 (0 : Int32) a3 v8) else (F_X12_late_191 k28 a0 a1 a2 a4 (1 : Int32) a3 v8))
def F_X12_late_60 (k28 : Nat → Int32 → Int32 → Int32 → Int32 → pg_H → Option (Int32 × pg_H)) (a0 : Nat) (a1 : Int32) (a2 : Int32) (a3 : Int32) (a4 : Int32) (h : pg_H) : Option (Int32 × pg_H) := Option.bind (pg_rcv 12 h a0 (F_X12_noteOf h a0 a4 (0 : Int32))) fun v1 => Option.bind (pg_rcv 12 h a0 (F_X12_noteOf h a0 a4 (1 : Int32))) fun v2 => (if (5 : Int32) = 0 then none else Option.bind (pg_rcv 12 h a0 (F_X12_asksCopy a0 v1 (v2 / (5 : Int32)) h)) fun v3 => Option.bind (pg_gR 12 22 v3 a0) fun v4 => Option.bind (pg_rcv 12 v3 a0 (F_X12_noteOf v3 a0 a4 (1 : Int32))) fun v5 => Option.bind (pg_sI 21 v3 v4 (0 : Int32) v5) fun v6 => Option.bind (pg_gR 12 22 v6 a0) fun v7 => Option.bind (pg_rcv 12 v6 a0 (F_X12_noteOf v6 a0 a4 (2 : Int32))) fun v8 => Option.bind (pg_sI 21 v6 v7 (2 : Int32) v8) fun v9 => Option.bind (pg_gR 12 22 v9 a0) fun v10 => Option.bind (pg_rcv 12 v9 a0 (F_X12_noteOf v9 a0 a4 (4 : Int32))) fun v11 => (if v11 = 0 then Option.bind (pg_rcv 12 v9 a0 (F_X12_noteOf v9 a0 a4 (1 : Int32))) fun v12 => Option.bind (pg_rcv 12 v9 a0 (F_X12_noteOf v9 a0 a4 (2 : Int32))) fun v13 => Option.bind (pg_rcv 12 v9 a0 (F_X12_sharedBy v9 a0 v12 v13)) fun v14 => (F_X12_late_143 k28 a0 a1 a2 a3 a4 v14 (3 : Int32) v10 v9) else (F_X12_late_143 k28 a0 a1 a2 a3 a4 (0 : Int32) (3 : Int32) v10 v9)))
def F_X12_late_28  : Nat → Nat → Int32 → Int32 → Int32 → Int32 → pg_H → Option (Int32 × pg_H)
  | 0 => fun _ _ _ _ _ _ => none
  | n + 1 => fun a0 a1 a2 a3 a4 h => Option.bind (pg_gR 12 3 h a0) fun v1 => Option.bind (pg_aI 21 h v1 (1347 : Int32)) fun v2 => (if a4 < v2 then (if a2 = (-1 : Int32) then (F_X12_late_60 (F_X12_late_28 n) a0 a1 a2 a3 a4 h) else Option.bind (pg_rcv 12 h a0 (F_X12_noteOf h a0 a4 (0 : Int32))) fun v3 => (if v3 = a2 then (F_X12_late_60 (F_X12_late_28 n) a0 a1 a2 a3 a4 h) else (F_X12_late_193 (F_X12_late_28 n) a0 a1 a2 a3 a4 h))) else (some (a3, h)))
def F_X12_late_23 (a0 : Nat) (a1 : Int32) (a2 : Int32) (h : pg_H) : Option (Int32 × pg_H) := (F_X12_late_28 pg_fuel a0 a1 a2 (0 : Int32) (0 : Int32) h)
def F_X12_late (a0 : Nat) (a1 : Int32) (a2 : Int32) (h : pg_H) : Option (Int32 × pg_H) := Option.bind (pg_rcv 12 h a0 (F_X12_isText h a0 a1)) fun v1 => (if v1 = 0 then (some ((-1 : Int32), h)) else (if a2 = (-1 : Int32) then (F_X12_late_23 a0 a1 a2 h) else Option.bind (pg_rcv 12 h a0 (F_X12_isCopy h a0 a2)) fun v2 => (if v2 = 0 then (some ((-1 : Int32), h)) else (F_X12_late_23 a0 a1 a2 h))))
theorem e_X12_late_193 (l : Launch) (D : pg_D)  (k28 : Nat → Int32 → Int32 → Int32 → Int32 → pg_H → Option (Int32 × pg_H)) (hk28 : ∀ (a0 : Nat) (a1 : Int32) (a2 : Int32) (a3 : Int32) (a4 : Int32) (h : pg_H), pg_EvF l D RX12 cX12_late 5 (some FieldType.int) "late" 1304 33913 pg_wI (k28 a0 a1 a2 a3 a4 h) 28 [(0, pR a0), (1, pI a1), (2, pI a2), (3, pI a3), (4, pI a4)] [] h) (a0 : Nat) (a1 : Int32) (a2 : Int32) (a3 : Int32) (a4 : Int32) (h : pg_H) : pg_EvF l D RX12 cX12_late 5 (some FieldType.int) "late" 1304 33913 pg_wI (F_X12_late_193 k28 a0 a1 a2 a3 a4 h) 193 [(0, pR a0), (1, pI a1), (2, pI a2), (3, pI a3), (4, pI a4)] [] h := by
  unfold F_X12_late_193
  refine pg_iinc (lv' := [(4, pI (a4 + (1 : Int32))), (0, pR a0), (1, pI a1), (2, pI a2), (3, pI a3)]) dX12_late_193 4 rfl ci_1 (by decide) rfl ?_
  refine pg_goto (tgt := 28) dX12_late_196 rfl ?_
  exact pg_to (hk28 a0 a1 a2 a3 (a4 + (1 : Int32)) h) [1, 2, 3, 4, 0] rfl
theorem e_X12_late_191 (l : Launch) (D : pg_D)  (k28 : Nat → Int32 → Int32 → Int32 → Int32 → pg_H → Option (Int32 × pg_H)) (hk28 : ∀ (a0 : Nat) (a1 : Int32) (a2 : Int32) (a3 : Int32) (a4 : Int32) (h : pg_H), pg_EvF l D RX12 cX12_late 5 (some FieldType.int) "late" 1304 33913 pg_wI (k28 a0 a1 a2 a3 a4 h) 28 [(0, pR a0), (1, pI a1), (2, pI a2), (3, pI a3), (4, pI a4)] [] h) (a0 : Nat) (a1 : Int32) (a2 : Int32) (a4 : Int32) (s0 : Int32) (s1 : Int32) (h : pg_H) : pg_EvF l D RX12 cX12_late 5 (some FieldType.int) "late" 1304 33913 pg_wI (F_X12_late_191 k28 a0 a1 a2 a4 s0 s1 h) 191 [(0, pR a0), (1, pI a1), (2, pI a2), (4, pI a4)] [pI s0, pI s1] h := by
  unfold F_X12_late_191
  refine pg_iadd dX12_late_191 ?_
  refine pg_letI (fun v1 => ?_)
  refine pg_istore_n (i := 3) (lv' := [(3, pI v1), (0, pR a0), (1, pI a1), (2, pI a2), (4, pI a4)]) dX12_late_192 rfl (by decide) rfl ?_
  exact pg_to (e_X12_late_193 l D k28 hk28 a0 a1 a2 v1 a4 h) [1, 2, 3, 0, 4] rfl
theorem e_X12_late_143 (l : Launch) (D : pg_D)  (k28 : Nat → Int32 → Int32 → Int32 → Int32 → pg_H → Option (Int32 × pg_H)) (hk28 : ∀ (a0 : Nat) (a1 : Int32) (a2 : Int32) (a3 : Int32) (a4 : Int32) (h : pg_H), pg_EvF l D RX12 cX12_late 5 (some FieldType.int) "late" 1304 33913 pg_wI (k28 a0 a1 a2 a3 a4 h) 28 [(0, pR a0), (1, pI a1), (2, pI a2), (3, pI a3), (4, pI a4)] [] h) (a0 : Nat) (a1 : Int32) (a2 : Int32) (a3 : Int32) (a4 : Int32) (s0 : Int32) (s1 : Int32) (s2 : Nat) (h : pg_H) : pg_EvF l D RX12 cX12_late 5 (some FieldType.int) "late" 1304 33913 pg_wI (F_X12_late_143 k28 a0 a1 a2 a3 a4 s0 s1 s2 h) 143 [(0, pR a0), (1, pI a1), (2, pI a2), (3, pI a3), (4, pI a4)] [pI s0, pI s1, pR s2] h := by
  unfold F_X12_late_143
  refine pg_iastore dX12_late_143 (fun v1 => ?_)
  refine pg_aload_n (i := 0) dX12_late_144 rfl 0 rfl ?_
  refine pg_getR dX12_late_145 fl_RX12_52 rfl (fun v2 => ?_)
  refine pg_iconst dX12_late_148 ci_5 ?_
  refine pg_aload_n (i := 0) dX12_late_149 rfl 0 rfl ?_
  refine pg_iload dX12_late_150 4 rfl ?_
  refine pg_iconst dX12_late_152 ci_3 ?_
  refine pg_callV_oI (As := [pI a4, pI (3 : Int32)]) (rs := [pI (5 : Int32), pR v2]) dX12_late_153 lk_RX12_143 vy_X12_noteOf nd_X12_noteOf (c_X12_noteOf l D v1 a0 a4 (3 : Int32)) rfl rfl (Nat.le_of_ble_eq_true rfl) (by decide) (by decide) (fun v3 => ?_)
  refine pg_iastore dX12_late_156 (fun v4 => ?_)
  refine pg_aload_n (i := 0) dX12_late_157 rfl 0 rfl ?_
  refine pg_getR dX12_late_158 fl_RX12_52 rfl (fun v5 => ?_)
  refine pg_bipush dX12_late_161 cb_6 ?_
  refine pg_aload_n (i := 0) dX12_late_163 rfl 0 rfl ?_
  refine pg_iload dX12_late_164 4 rfl ?_
  refine pg_iconst dX12_late_166 ci_4 ?_
  refine pg_callV_oI (As := [pI a4, pI (4 : Int32)]) (rs := [pI (6 : Int32), pR v5]) dX12_late_167 lk_RX12_143 vy_X12_noteOf nd_X12_noteOf (c_X12_noteOf l D v4 a0 a4 (4 : Int32)) rfl rfl (Nat.le_of_ble_eq_true rfl) (by decide) (by decide) (fun v6 => ?_)
  refine pg_iastore dX12_late_170 (fun v7 => ?_)
  refine pg_aload_n (i := 0) dX12_late_171 rfl 0 rfl ?_
  refine pg_iload_n (i := 1) dX12_late_172 rfl 1 rfl ?_
  refine pg_bipush dX12_late_173 cb_6 ?_
  refine pg_callV_wV (As := [pI a1, pI (6 : Int32)]) (rs := []) dX12_late_175 lk_RX12_302 vy_X12_asks nd_X12_asks (c_X12_asks l D a0 a1 (6 : Int32) v7) rfl rfl (Nat.le_of_ble_eq_true rfl) (by decide) (by decide) (fun v8 => ?_)
  refine pg_iload_n (i := 3) dX12_late_178 rfl 3 rfl ?_
  refine pg_aload_n (i := 0) dX12_late_179 rfl 0 rfl ?_
  refine pg_getI dX12_late_180 fl_RX12_293 rfl (fun v9 => ?_)
  refine pg_if_eq (tgt := 190) dX12_late_183 rfl ?_ ?_
  · refine pg_iconst dX12_late_190 ci_0 ?_
    exact pg_to (e_X12_late_191 l D k28 hk28 a0 a1 a2 a4 (0 : Int32) a3 v8) [0, 1, 2, 4] rfl
  · refine pg_iconst dX12_late_186 ci_1 ?_
    refine pg_goto (tgt := 191) dX12_late_187 rfl ?_
    exact pg_to (e_X12_late_191 l D k28 hk28 a0 a1 a2 a4 (1 : Int32) a3 v8) [0, 1, 2, 4] rfl
theorem e_X12_late_60 (l : Launch) (D : pg_D)  (k28 : Nat → Int32 → Int32 → Int32 → Int32 → pg_H → Option (Int32 × pg_H)) (hk28 : ∀ (a0 : Nat) (a1 : Int32) (a2 : Int32) (a3 : Int32) (a4 : Int32) (h : pg_H), pg_EvF l D RX12 cX12_late 5 (some FieldType.int) "late" 1304 33913 pg_wI (k28 a0 a1 a2 a3 a4 h) 28 [(0, pR a0), (1, pI a1), (2, pI a2), (3, pI a3), (4, pI a4)] [] h) (a0 : Nat) (a1 : Int32) (a2 : Int32) (a3 : Int32) (a4 : Int32) (h : pg_H) : pg_EvF l D RX12 cX12_late 5 (some FieldType.int) "late" 1304 33913 pg_wI (F_X12_late_60 k28 a0 a1 a2 a3 a4 h) 60 [(0, pR a0), (1, pI a1), (2, pI a2), (3, pI a3), (4, pI a4)] [] h := by
  unfold F_X12_late_60
  refine pg_aload_n (i := 0) dX12_late_60 rfl 0 rfl ?_
  refine pg_aload_n (i := 0) dX12_late_61 rfl 0 rfl ?_
  refine pg_iload dX12_late_62 4 rfl ?_
  refine pg_iconst dX12_late_64 ci_0 ?_
  refine pg_callV_oI (As := [pI a4, pI (0 : Int32)]) (rs := [pR a0]) dX12_late_65 lk_RX12_143 vy_X12_noteOf nd_X12_noteOf (c_X12_noteOf l D h a0 a4 (0 : Int32)) rfl rfl (Nat.le_of_ble_eq_true rfl) (by decide) (by decide) (fun v1 => ?_)
  refine pg_aload_n (i := 0) dX12_late_68 rfl 0 rfl ?_
  refine pg_iload dX12_late_69 4 rfl ?_
  refine pg_iconst dX12_late_71 ci_1 ?_
  refine pg_callV_oI (As := [pI a4, pI (1 : Int32)]) (rs := [pI v1, pR a0]) dX12_late_72 lk_RX12_143 vy_X12_noteOf nd_X12_noteOf (c_X12_noteOf l D h a0 a4 (1 : Int32)) rfl rfl (Nat.le_of_ble_eq_true rfl) (by decide) (by decide) (fun v2 => ?_)
  refine pg_iconst dX12_late_75 ci_5 ?_
  refine pg_idiv dX12_late_76 ?_
  refine pg_callV_wV (As := [pI v1, pI (v2 / (5 : Int32))]) (rs := []) dX12_late_77 lk_RX12_404 vy_X12_asksCopy nd_X12_asksCopy (c_X12_asksCopy l D a0 v1 (v2 / (5 : Int32)) h) rfl rfl (Nat.le_of_ble_eq_true rfl) (by decide) (by decide) (fun v3 => ?_)
  refine pg_aload_n (i := 0) dX12_late_80 rfl 0 rfl ?_
  refine pg_getR dX12_late_81 fl_RX12_52 rfl (fun v4 => ?_)
  refine pg_iconst dX12_late_84 ci_0 ?_
  refine pg_aload_n (i := 0) dX12_late_85 rfl 0 rfl ?_
  refine pg_iload dX12_late_86 4 rfl ?_
  refine pg_iconst dX12_late_88 ci_1 ?_
  refine pg_callV_oI (As := [pI a4, pI (1 : Int32)]) (rs := [pI (0 : Int32), pR v4]) dX12_late_89 lk_RX12_143 vy_X12_noteOf nd_X12_noteOf (c_X12_noteOf l D v3 a0 a4 (1 : Int32)) rfl rfl (Nat.le_of_ble_eq_true rfl) (by decide) (by decide) (fun v5 => ?_)
  refine pg_iastore dX12_late_92 (fun v6 => ?_)
  refine pg_aload_n (i := 0) dX12_late_93 rfl 0 rfl ?_
  refine pg_getR dX12_late_94 fl_RX12_52 rfl (fun v7 => ?_)
  refine pg_iconst dX12_late_97 ci_2 ?_
  refine pg_aload_n (i := 0) dX12_late_98 rfl 0 rfl ?_
  refine pg_iload dX12_late_99 4 rfl ?_
  refine pg_iconst dX12_late_101 ci_2 ?_
  refine pg_callV_oI (As := [pI a4, pI (2 : Int32)]) (rs := [pI (2 : Int32), pR v7]) dX12_late_102 lk_RX12_143 vy_X12_noteOf nd_X12_noteOf (c_X12_noteOf l D v6 a0 a4 (2 : Int32)) rfl rfl (Nat.le_of_ble_eq_true rfl) (by decide) (by decide) (fun v8 => ?_)
  refine pg_iastore dX12_late_105 (fun v9 => ?_)
  refine pg_aload_n (i := 0) dX12_late_106 rfl 0 rfl ?_
  refine pg_getR dX12_late_107 fl_RX12_52 rfl (fun v10 => ?_)
  refine pg_iconst dX12_late_110 ci_3 ?_
  refine pg_aload_n (i := 0) dX12_late_111 rfl 0 rfl ?_
  refine pg_iload dX12_late_112 4 rfl ?_
  refine pg_iconst dX12_late_114 ci_4 ?_
  refine pg_callV_oI (As := [pI a4, pI (4 : Int32)]) (rs := [pI (3 : Int32), pR v10]) dX12_late_115 lk_RX12_143 vy_X12_noteOf nd_X12_noteOf (c_X12_noteOf l D v9 a0 a4 (4 : Int32)) rfl rfl (Nat.le_of_ble_eq_true rfl) (by decide) (by decide) (fun v11 => ?_)
  refine pg_if_ne (tgt := 142) dX12_late_118 rfl ?_ ?_
  · refine pg_iconst dX12_late_142 ci_0 ?_
    exact pg_to (e_X12_late_143 l D k28 hk28 a0 a1 a2 a3 a4 (0 : Int32) (3 : Int32) v10 v9) [0, 1, 2, 3, 4] rfl
  · refine pg_aload_n (i := 0) dX12_late_121 rfl 0 rfl ?_
    refine pg_aload_n (i := 0) dX12_late_122 rfl 0 rfl ?_
    refine pg_iload dX12_late_123 4 rfl ?_
    refine pg_iconst dX12_late_125 ci_1 ?_
    refine pg_callV_oI (As := [pI a4, pI (1 : Int32)]) (rs := [pR a0, pI (3 : Int32), pR v10]) dX12_late_126 lk_RX12_143 vy_X12_noteOf nd_X12_noteOf (c_X12_noteOf l D v9 a0 a4 (1 : Int32)) rfl rfl (Nat.le_of_ble_eq_true rfl) (by decide) (by decide) (fun v12 => ?_)
    refine pg_aload_n (i := 0) dX12_late_129 rfl 0 rfl ?_
    refine pg_iload dX12_late_130 4 rfl ?_
    refine pg_iconst dX12_late_132 ci_2 ?_
    refine pg_callV_oI (As := [pI a4, pI (2 : Int32)]) (rs := [pI v12, pR a0, pI (3 : Int32), pR v10]) dX12_late_133 lk_RX12_143 vy_X12_noteOf nd_X12_noteOf (c_X12_noteOf l D v9 a0 a4 (2 : Int32)) rfl rfl (Nat.le_of_ble_eq_true rfl) (by decide) (by decide) (fun v13 => ?_)
    refine pg_callV_oI (As := [pI v12, pI v13]) (rs := [pI (3 : Int32), pR v10]) dX12_late_136 lk_RX12_160 vy_X12_sharedBy nd_X12_sharedBy (c_X12_sharedBy l D v9 a0 v12 v13) rfl rfl (Nat.le_of_ble_eq_true rfl) (by decide) (by decide) (fun v14 => ?_)
    refine pg_goto (tgt := 143) dX12_late_139 rfl ?_
    exact pg_to (e_X12_late_143 l D k28 hk28 a0 a1 a2 a3 a4 v14 (3 : Int32) v10 v9) [0, 1, 2, 3, 4] rfl
theorem e_X12_late_28 (l : Launch) (D : pg_D)   : ∀ (n : Nat) (a0 : Nat) (a1 : Int32) (a2 : Int32) (a3 : Int32) (a4 : Int32) (h : pg_H), pg_EvF l D RX12 cX12_late 5 (some FieldType.int) "late" 1304 33913 pg_wI (F_X12_late_28 n a0 a1 a2 a3 a4 h) 28 [(0, pR a0), (1, pI a1), (2, pI a2), (3, pI a3), (4, pI a4)] [] h := by
  intro n
  induction n with
  | zero => intro a0 a1 a2 a3 a4 h; exact pg_none
  | succ n ih =>
    intro a0 a1 a2 a3 a4 h
    rw [F_X12_late_28]
    refine pg_iload dX12_late_28 4 rfl ?_
    refine pg_aload_n (i := 0) dX12_late_30 rfl 0 rfl ?_
    refine pg_getR dX12_late_31 fl_RX12_20 rfl (fun v1 => ?_)
    refine pg_sipush dX12_late_34 cs_1347 ?_
    refine pg_iaload dX12_late_37 (fun v2 => ?_)
    refine pg_icmp_ge (tgt := 199) dX12_late_38 rfl ?_ ?_
    · refine pg_iload_n (i := 3) dX12_late_199 rfl 3 rfl ?_
      exact pg_iret dX12_late_200 rfl rfl
    · refine pg_iload_n (i := 2) dX12_late_41 rfl 2 rfl ?_
      refine pg_iconst dX12_late_42 ci_m1 ?_
      refine pg_icmp_eq (tgt := 60) dX12_late_43 rfl ?_ ?_
      · exact pg_to (e_X12_late_60 l D (F_X12_late_28 n) ih a0 a1 a2 a3 a4 h) [0, 1, 2, 3, 4] rfl
      · refine pg_aload_n (i := 0) dX12_late_46 rfl 0 rfl ?_
        refine pg_iload dX12_late_47 4 rfl ?_
        refine pg_iconst dX12_late_49 ci_0 ?_
        refine pg_callV_oI (As := [pI a4, pI (0 : Int32)]) (rs := []) dX12_late_50 lk_RX12_143 vy_X12_noteOf nd_X12_noteOf (c_X12_noteOf l D h a0 a4 (0 : Int32)) rfl rfl (Nat.le_of_ble_eq_true rfl) (by decide) (by decide) (fun v3 => ?_)
        refine pg_iload_n (i := 2) dX12_late_53 rfl 2 rfl ?_
        refine pg_icmp_eq (tgt := 60) dX12_late_54 rfl ?_ ?_
        · exact pg_to (e_X12_late_60 l D (F_X12_late_28 n) ih a0 a1 a2 a3 a4 h) [0, 1, 2, 3, 4] rfl
        · refine pg_goto (tgt := 193) dX12_late_57 rfl ?_
          exact pg_to (e_X12_late_193 l D (F_X12_late_28 n) ih a0 a1 a2 a3 a4 h) [0, 1, 2, 3, 4] rfl
theorem e_X12_late_23 (l : Launch) (D : pg_D)  (a0 : Nat) (a1 : Int32) (a2 : Int32) (h : pg_H) : pg_EvF l D RX12 cX12_late 5 (some FieldType.int) "late" 1304 33913 pg_wI (F_X12_late_23 a0 a1 a2 h) 23 [(0, pR a0), (1, pI a1), (2, pI a2)] [] h := by
  unfold F_X12_late_23
  refine pg_iconst dX12_late_23 ci_0 ?_
  refine pg_istore_n (i := 3) (lv' := [(3, pI (0 : Int32)), (0, pR a0), (1, pI a1), (2, pI a2)]) dX12_late_24 rfl (by decide) rfl ?_
  refine pg_iconst dX12_late_25 ci_0 ?_
  refine pg_istore (lv' := [(4, pI (0 : Int32)), (3, pI (0 : Int32)), (0, pR a0), (1, pI a1), (2, pI a2)]) dX12_late_26 (by decide) rfl ?_
  exact pg_to (e_X12_late_28 l D pg_fuel a0 a1 a2 (0 : Int32) (0 : Int32) h) [2, 3, 4, 1, 0] rfl
theorem e_X12_late (l : Launch) (D : pg_D)  (a0 : Nat) (a1 : Int32) (a2 : Int32) (h : pg_H) : pg_EvF l D RX12 cX12_late 5 (some FieldType.int) "late" 1304 33913 pg_wI (F_X12_late a0 a1 a2 h) 0 [(0, pR a0), (1, pI a1), (2, pI a2)] [] h := by
  unfold F_X12_late
  refine pg_aload_n (i := 0) dX12_late_0 rfl 0 rfl ?_
  refine pg_iload_n (i := 1) dX12_late_1 rfl 1 rfl ?_
  refine pg_callV_oI (As := [pI a1]) (rs := []) dX12_late_2 lk_RX12_239 vy_X12_isText nd_X12_isText (c_X12_isText l D h a0 a1) rfl rfl (Nat.le_of_ble_eq_true rfl) (by decide) (by decide) (fun v1 => ?_)
  refine pg_if_eq (tgt := 21) dX12_late_5 rfl ?_ ?_
  · refine pg_iconst dX12_late_21 ci_m1 ?_
    exact pg_iret dX12_late_22 rfl rfl
  · refine pg_iload_n (i := 2) dX12_late_8 rfl 2 rfl ?_
    refine pg_iconst dX12_late_9 ci_m1 ?_
    refine pg_icmp_eq (tgt := 23) dX12_late_10 rfl ?_ ?_
    · exact pg_to (e_X12_late_23 l D a0 a1 a2 h) [0, 1, 2] rfl
    · refine pg_aload_n (i := 0) dX12_late_13 rfl 0 rfl ?_
      refine pg_iload_n (i := 2) dX12_late_14 rfl 2 rfl ?_
      refine pg_callV_oI (As := [pI a2]) (rs := []) dX12_late_15 lk_RX12_128 vy_X12_isCopy nd_X12_isCopy (c_X12_isCopy l D h a0 a2) rfl rfl (Nat.le_of_ble_eq_true rfl) (by decide) (by decide) (fun v2 => ?_)
      refine pg_if_ne (tgt := 23) dX12_late_18 rfl ?_ ?_
      · exact pg_to (e_X12_late_23 l D a0 a1 a2 h) [0, 1, 2] rfl
      · refine pg_iconst dX12_late_21 ci_m1 ?_
        exact pg_iret dX12_late_22 rfl rfl
theorem c_X12_late (l : Launch) (D : pg_D) (a0 : Nat) (a1 : Int32) (a2 : Int32) (h : pg_H) : ∀ x, F_X12_late a0 a1 a2 h = some x → pg_Ct l D yX12_late cX12_late 5 (some FieldType.int) 1304 33913 [pR a0, pI a1, pI a2] h (pg_wI x) :=
  pg_Ct.of pn_RX12 (Nat.le_of_ble_eq_true rfl) (e_X12_late l D a0 a1 a2 h)
