def F_X0_init (a0 : Nat) (h : pg_H) : Option pg_H := (if a0 = 0 then none else Option.bind (pg_newA 21 h (9 : Int32)) fun v1 => Option.bind (pg_pR 0 0 v1.2 a0 v1.1) fun v2 => Option.bind (pg_newA 22 v2 (64 : Int32)) fun v3 => Option.bind (pg_pR 0 1 v3.2 a0 v3.1) fun v4 => (some v4))
theorem e_X0_init (l : Launch) (D : pg_D)  (a0 : Nat) (h : pg_H) : pg_EvF l D RX0 cX0_init 1 none "<init>" 1 20 pg_wV (F_X0_init a0 h) 0 [(0, pR a0)] [] h := by
  unfold F_X0_init
  refine pg_aload_n (i := 0) dX0_init_0 rfl 0 rfl ?_
  refine pg_objInit dX0_init_1 pw1_174 pw_obj1 pw_obj2 (Nat.le_of_ble_eq_true rfl) (by decide) (by decide) ?_
  refine pg_aload_n (i := 0) dX0_init_4 rfl 0 rfl ?_
  refine pg_bipush dX0_init_5 cb_9 ?_
  refine pg_newI dX0_init_7 pw_arr_int (fun v1 => ?_)
  refine pg_putR dX0_init_9 fl_RX0_9 rfl (fun _ => ⟨rfl, fp_RX0_9⟩) (fun v2 => ?_)
  refine pg_aload_n (i := 0) dX0_init_12 rfl 0 rfl ?_
  refine pg_bipush dX0_init_13 cb_64 ?_
  refine pg_newL dX0_init_15 pw_arr_long (fun v3 => ?_)
  refine pg_putR dX0_init_17 fl_RX0_15 rfl (fun _ => ⟨rfl, fp_RX0_15⟩) (fun v4 => ?_)
  exact pg_vret dX0_init_20 rfl rfl
theorem c_X0_init (l : Launch) (D : pg_D) (a0 : Nat) (h : pg_H) : ∀ x, F_X0_init a0 h = some x → pg_Ct l D yX0_init cX0_init 1 none 1 20 [pR a0] h (pg_wV x) :=
  pg_Ct.of pn_RX0 (Nat.le_of_ble_eq_true rfl) (e_X0_init l D a0 h)
def F_J7_fill_53178_5  : Nat → Nat → Int32 → Int32 → Int32 → pg_H → Option pg_H
  | 0 => fun _ _ _ _ _ => none
  | n + 1 => fun a0 a1 a2 a3 h => (if a2 < a3 then Option.bind (pg_sI 21 h a0 a2 a1) fun v1 => (F_J7_fill_53178_5 n a0 a1 (a2 + (1 : Int32)) a3 v1) else (some h))
def F_J7_fill_53178 (a0 : Nat) (a1 : Int32) (h : pg_H) : Option pg_H := Option.bind (pg_len h a0) fun v1 => (F_J7_fill_53178_5 pg_fuel a0 a1 (0 : Int32) v1 h)
theorem e_J7_fill_53178_5 (l : Launch) (D : pg_D)   : ∀ (n : Nat) (a0 : Nat) (a1 : Int32) (a2 : Int32) (a3 : Int32) (h : pg_H), pg_EvF l D RJ7 cJ7_fill_53178 4 none "fill" 0 0 pg_wV (F_J7_fill_53178_5 n a0 a1 a2 a3 h) 5 [(0, pR a0), (1, pI a1), (2, pI a2), (3, pI a3)] [] h := by
  intro n
  induction n with
  | zero => intro a0 a1 a2 a3 h; exact pg_none
  | succ n ih =>
    intro a0 a1 a2 a3 h
    rw [F_J7_fill_53178_5]
    refine pg_iload_n (i := 2) dJ7_fill_53178_5 rfl 2 rfl ?_
    refine pg_iload_n (i := 3) dJ7_fill_53178_6 rfl 3 rfl ?_
    refine pg_icmp_ge (tgt := 20) dJ7_fill_53178_7 rfl ?_ ?_
    · exact pg_vret dJ7_fill_53178_20 rfl rfl
    · refine pg_aload_n (i := 0) dJ7_fill_53178_10 rfl 0 rfl ?_
      refine pg_iload_n (i := 2) dJ7_fill_53178_11 rfl 2 rfl ?_
      refine pg_iload_n (i := 1) dJ7_fill_53178_12 rfl 1 rfl ?_
      refine pg_iastore dJ7_fill_53178_13 (fun v1 => ?_)
      refine pg_iinc (lv' := [(2, pI (a2 + (1 : Int32))), (0, pR a0), (1, pI a1), (3, pI a3)]) dJ7_fill_53178_14 2 rfl ci_1 (by decide) rfl ?_
      refine pg_goto (tgt := 5) dJ7_fill_53178_17 rfl ?_
      exact pg_to (ih a0 a1 (a2 + (1 : Int32)) a3 v1) [1, 2, 0, 3] rfl
theorem e_J7_fill_53178 (l : Launch) (D : pg_D)  (a0 : Nat) (a1 : Int32) (h : pg_H) : pg_EvF l D RJ7 cJ7_fill_53178 4 none "fill" 0 0 pg_wV (F_J7_fill_53178 a0 a1 h) 0 [(0, pR a0), (1, pI a1)] [] h := by
  unfold F_J7_fill_53178
  refine pg_iconst dJ7_fill_53178_0 ci_0 ?_
  refine pg_istore_n (i := 2) (lv' := [(2, pI (0 : Int32)), (0, pR a0), (1, pI a1)]) dJ7_fill_53178_1 rfl (by decide) rfl ?_
  refine pg_aload_n (i := 0) dJ7_fill_53178_2 rfl 1 rfl ?_
  refine pg_alen dJ7_fill_53178_3 (fun v1 => ?_)
  refine pg_istore_n (i := 3) (lv' := [(3, pI v1), (2, pI (0 : Int32)), (0, pR a0), (1, pI a1)]) dJ7_fill_53178_4 rfl (by decide) rfl ?_
  exact pg_to (e_J7_fill_53178_5 l D pg_fuel a0 a1 (0 : Int32) v1 h) [2, 3, 1, 0] rfl
theorem c_J7_fill_53178 (l : Launch) (D : pg_D) (a0 : Nat) (a1 : Int32) (h : pg_H) : ∀ x, F_J7_fill_53178 a0 a1 h = some x → pg_Ct l D yJ7_fill_53178 cJ7_fill_53178 4 none 0 0 [pR a0, pI a1] h (pg_wV x) :=
  pg_Ct.of pn_RJ7 (Nat.le_of_ble_eq_true rfl) (e_J7_fill_53178 l D a0 a1 h)
def F_X0_askOfPlace (a0 : Nat) (a1 : Int32) (h : pg_H) : Option pg_H := Option.bind (pg_gR 0 0 h a0) fun v1 => Option.bind (F_J7_fill_53178 v1 (0 : Int32) h) fun v2 => Option.bind (pg_gR 0 0 v2 a0) fun v3 => Option.bind (pg_sI 21 v2 v3 (0 : Int32) a1) fun v4 => Option.bind (pg_gR 0 0 v4 a0) fun v5 => (if (5 : Int32) = 0 then none else Option.bind (pg_sI 21 v4 v5 (1 : Int32) (a1 / (5 : Int32))) fun v6 => (some v6))
theorem e_X0_askOfPlace (l : Launch) (D : pg_D)  (a0 : Nat) (a1 : Int32) (h : pg_H) : pg_EvF l D RX0 cX0_askOfPlace 2 none "askOfPlace" 1 23 pg_wV (F_X0_askOfPlace a0 a1 h) 0 [(0, pR a0), (1, pI a1)] [] h := by
  unfold F_X0_askOfPlace
  refine pg_aload_n (i := 0) dX0_askOfPlace_0 rfl 0 rfl ?_
  refine pg_getR dX0_askOfPlace_1 fl_RX0_9 rfl (fun v1 => ?_)
  refine pg_iconst dX0_askOfPlace_4 ci_0 ?_
  refine pg_callS_wV (As := [pR v1, pI (0 : Int32)]) (rs := []) dX0_askOfPlace_5 lk_RX0_19 vy_J7_fill_53178 nd_J7_fill_53178 (c_J7_fill_53178 l D v1 (0 : Int32) h) rfl rfl (Nat.le_of_ble_eq_true rfl) (by decide) (by decide) (fun v2 => ?_)
  refine pg_aload_n (i := 0) dX0_askOfPlace_8 rfl 0 rfl ?_
  refine pg_getR dX0_askOfPlace_9 fl_RX0_9 rfl (fun v3 => ?_)
  refine pg_iconst dX0_askOfPlace_12 ci_0 ?_
  refine pg_iload_n (i := 1) dX0_askOfPlace_13 rfl 1 rfl ?_
  refine pg_iastore dX0_askOfPlace_14 (fun v4 => ?_)
  refine pg_aload_n (i := 0) dX0_askOfPlace_15 rfl 0 rfl ?_
  refine pg_getR dX0_askOfPlace_16 fl_RX0_9 rfl (fun v5 => ?_)
  refine pg_iconst dX0_askOfPlace_19 ci_1 ?_
  refine pg_iload_n (i := 1) dX0_askOfPlace_20 rfl 1 rfl ?_
  refine pg_iconst dX0_askOfPlace_21 ci_5 ?_
  refine pg_idiv dX0_askOfPlace_22 ?_
  refine pg_iastore dX0_askOfPlace_23 (fun v6 => ?_)
  exact pg_vret dX0_askOfPlace_24 rfl rfl
theorem c_X0_askOfPlace (l : Launch) (D : pg_D) (a0 : Nat) (a1 : Int32) (h : pg_H) : ∀ x, F_X0_askOfPlace a0 a1 h = some x → pg_Ct l D yX0_askOfPlace cX0_askOfPlace 2 none 1 23 [pR a0, pI a1] h (pg_wV x) :=
  pg_Ct.of pn_RX0 (Nat.le_of_ble_eq_true rfl) (e_X0_askOfPlace l D a0 a1 h)
def F_X0_askOfWording (a0 : Nat) (a1 : Int32) (a2 : Int32) (a3 : Int32) (h : pg_H) : Option pg_H := Option.bind (pg_rcv 0 h a0 (F_X0_askOfPlace a0 a1 h)) fun v1 => Option.bind (pg_gR 0 0 v1 a0) fun v2 => Option.bind (pg_sI 21 v1 v2 (2 : Int32) a2) fun v3 => Option.bind (pg_gR 0 0 v3 a0) fun v4 => Option.bind (pg_sI 21 v3 v4 (3 : Int32) a3) fun v5 => (some v5)
theorem e_X0_askOfWording (l : Launch) (D : pg_D)  (a0 : Nat) (a1 : Int32) (a2 : Int32) (a3 : Int32) (h : pg_H) : pg_EvF l D RX0 cX0_askOfWording 4 none "askOfWording" 2 44 pg_wV (F_X0_askOfWording a0 a1 a2 a3 h) 0 [(0, pR a0), (1, pI a1), (2, pI a2), (3, pI a3)] [] h := by
  unfold F_X0_askOfWording
  refine pg_aload_n (i := 0) dX0_askOfWording_0 rfl 0 rfl ?_
  refine pg_iload_n (i := 1) dX0_askOfWording_1 rfl 1 rfl ?_
  refine pg_callV_wV (As := [pI a1]) (rs := []) dX0_askOfWording_2 lk_RX0_25 vy_X0_askOfPlace nd_X0_askOfPlace (c_X0_askOfPlace l D a0 a1 h) rfl rfl (Nat.le_of_ble_eq_true rfl) (by decide) (by decide) (fun v1 => ?_)
  refine pg_aload_n (i := 0) dX0_askOfWording_5 rfl 0 rfl ?_
  refine pg_getR dX0_askOfWording_6 fl_RX0_9 rfl (fun v2 => ?_)
  refine pg_iconst dX0_askOfWording_9 ci_2 ?_
  refine pg_iload_n (i := 2) dX0_askOfWording_10 rfl 2 rfl ?_
  refine pg_iastore dX0_askOfWording_11 (fun v3 => ?_)
  refine pg_aload_n (i := 0) dX0_askOfWording_12 rfl 0 rfl ?_
  refine pg_getR dX0_askOfWording_13 fl_RX0_9 rfl (fun v4 => ?_)
  refine pg_iconst dX0_askOfWording_16 ci_3 ?_
  refine pg_iload_n (i := 3) dX0_askOfWording_17 rfl 3 rfl ?_
  refine pg_iastore dX0_askOfWording_18 (fun v5 => ?_)
  exact pg_vret dX0_askOfWording_19 rfl rfl
theorem c_X0_askOfWording (l : Launch) (D : pg_D) (a0 : Nat) (a1 : Int32) (a2 : Int32) (a3 : Int32) (h : pg_H) : ∀ x, F_X0_askOfWording a0 a1 a2 a3 h = some x → pg_Ct l D yX0_askOfWording cX0_askOfWording 4 none 2 44 [pR a0, pI a1, pI a2, pI a3] h (pg_wV x) :=
  pg_Ct.of pn_RX0 (Nat.le_of_ble_eq_true rfl) (e_X0_askOfWording l D a0 a1 a2 a3 h)
def F_X7_at (h : pg_H) (a0 : Nat) (a1 : Int32) (a2 : Int32) : Option Int32 := (if a1 < 0 then (some (0 : Int32)) else Option.bind (pg_gI 7 3 h a0) fun v1 => (if a1 < v1 then (if a2 < 0 then (some (0 : Int32)) else Option.bind (pg_gI 7 1 h a0) fun v2 => (if a2 < v2 then Option.bind (pg_gR 7 0 h a0) fun v3 => Option.bind (pg_gI 7 1 h a0) fun v4 => Option.bind (pg_aI 21 h v3 ((a1 * v4) + a2)) fun v5 => (some v5) else (some (0 : Int32)))) else (some (0 : Int32))))
theorem e_X7_at (l : Launch) (D : pg_D)  (h : pg_H) (a0 : Nat) (a1 : Int32) (a2 : Int32) : pg_EvF l D RX7 cX7_at 3 (some FieldType.int) "at" 0 0 (pg_oI h) (F_X7_at h a0 a1 a2) 0 [(0, pR a0), (1, pI a1), (2, pI a2)] [] h := by
  unfold F_X7_at
  refine pg_iload_n (i := 1) dX7_at_0 rfl 1 rfl ?_
  refine pg_if_lt (tgt := 24) dX7_at_1 rfl ?_ ?_
  · refine pg_iconst dX7_at_24 ci_0 ?_
    exact pg_iret dX7_at_25 rfl rfl
  · refine pg_iload_n (i := 1) dX7_at_4 rfl 1 rfl ?_
    refine pg_aload_n (i := 0) dX7_at_5 rfl 0 rfl ?_
    refine pg_getI dX7_at_6 fl_RX7_28 rfl (fun v1 => ?_)
    refine pg_icmp_ge (tgt := 24) dX7_at_9 rfl ?_ ?_
    · refine pg_iconst dX7_at_24 ci_0 ?_
      exact pg_iret dX7_at_25 rfl rfl
    · refine pg_iload_n (i := 2) dX7_at_12 rfl 2 rfl ?_
      refine pg_if_lt (tgt := 24) dX7_at_13 rfl ?_ ?_
      · refine pg_iconst dX7_at_24 ci_0 ?_
        exact pg_iret dX7_at_25 rfl rfl
      · refine pg_iload_n (i := 2) dX7_at_16 rfl 2 rfl ?_
        refine pg_aload_n (i := 0) dX7_at_17 rfl 0 rfl ?_
        refine pg_getI dX7_at_18 fl_RX7_21 rfl (fun v2 => ?_)
        refine pg_icmp_lt (tgt := 26) dX7_at_21 rfl ?_ ?_
        · refine pg_aload_n (i := 0) dX7_at_26 rfl 0 rfl ?_
          refine pg_getR dX7_at_27 fl_RX7_24 rfl (fun v3 => ?_)
          refine pg_iload_n (i := 1) dX7_at_30 rfl 1 rfl ?_
          refine pg_aload_n (i := 0) dX7_at_31 rfl 0 rfl ?_
          refine pg_getI dX7_at_32 fl_RX7_21 rfl (fun v4 => ?_)
          refine pg_imul dX7_at_35 ?_
          refine pg_iload_n (i := 2) dX7_at_36 rfl 2 rfl ?_
          refine pg_iadd dX7_at_37 ?_
          refine pg_iaload dX7_at_38 (fun v5 => ?_)
          exact pg_iret dX7_at_39 rfl rfl
        · refine pg_iconst dX7_at_24 ci_0 ?_
          exact pg_iret dX7_at_25 rfl rfl
theorem c_X7_at (l : Launch) (D : pg_D) (h : pg_H) (a0 : Nat) (a1 : Int32) (a2 : Int32)  : ∀ x, F_X7_at h a0 a1 a2 = some x → pg_Ct l D yX7_at cX7_at 3 (some FieldType.int) 0 0 [pR a0, pI a1, pI a2] h (pg_oI h x) :=
  pg_Ct.of pn_RX7 (Nat.le_of_ble_eq_true rfl) (e_X7_at l D h a0 a1 a2)
def F_X0_askOfCopy (a0 : Nat) (a1 : Nat) (a2 : Int32) (h : pg_H) : Option pg_H := Option.bind (pg_gR 0 0 h a0) fun v1 => Option.bind (pg_gR 5 0 h a1) fun v2 => Option.bind (pg_rcv 7 h v2 (F_X7_at h v2 a2 (0 : Int32))) fun v3 => Option.bind (pg_sI 21 h v1 (4 : Int32) v3) fun v4 => Option.bind (pg_gR 0 0 v4 a0) fun v5 => Option.bind (pg_gR 5 0 v4 a1) fun v6 => Option.bind (pg_rcv 7 v4 v6 (F_X7_at v4 v6 a2 (1 : Int32))) fun v7 => Option.bind (pg_sI 21 v4 v5 (7 : Int32) v7) fun v8 => Option.bind (pg_gR 0 0 v8 a0) fun v9 => Option.bind (pg_gR 5 0 v8 a1) fun v10 => Option.bind (pg_rcv 7 v8 v10 (F_X7_at v8 v10 a2 (2 : Int32))) fun v11 => Option.bind (pg_sI 21 v8 v9 (8 : Int32) v11) fun v12 => (some v12)
theorem e_X0_askOfCopy (l : Launch) (D : pg_D)  (a0 : Nat) (a1 : Nat) (a2 : Int32) (h : pg_H) : pg_EvF l D RX0 cX0_askOfCopy 3 none "askOfCopy" 1 22 pg_wV (F_X0_askOfCopy a0 a1 a2 h) 0 [(0, pR a0), (1, pR a1), (2, pI a2)] [] h := by
  unfold F_X0_askOfCopy
  refine pg_aload_n (i := 0) dX0_askOfCopy_0 rfl 0 rfl ?_
  refine pg_getR dX0_askOfCopy_1 fl_RX0_9 rfl (fun v1 => ?_)
  refine pg_iconst dX0_askOfCopy_4 ci_4 ?_
  refine pg_aload_n (i := 1) dX0_askOfCopy_5 rfl 1 rfl ?_
  refine pg_getR dX0_askOfCopy_6 fl_RX0_49 rfl (fun v2 => ?_)
  refine pg_iload_n (i := 2) dX0_askOfCopy_9 rfl 2 rfl ?_
  refine pg_iconst dX0_askOfCopy_10 ci_0 ?_
  refine pg_callV_oI (As := [pI a2, pI (0 : Int32)]) (rs := [pI (4 : Int32), pR v1]) dX0_askOfCopy_11 lk_RX0_35 vy_X7_at nd_X7_at (c_X7_at l D h v2 a2 (0 : Int32)) rfl rfl (Nat.le_of_ble_eq_true rfl) (by decide) (by decide) (fun v3 => ?_)
  refine pg_iastore dX0_askOfCopy_14 (fun v4 => ?_)
  refine pg_aload_n (i := 0) dX0_askOfCopy_15 rfl 0 rfl ?_
  refine pg_getR dX0_askOfCopy_16 fl_RX0_9 rfl (fun v5 => ?_)
  refine pg_bipush dX0_askOfCopy_19 cb_7 ?_
  refine pg_aload_n (i := 1) dX0_askOfCopy_21 rfl 1 rfl ?_
  refine pg_getR dX0_askOfCopy_22 fl_RX0_49 rfl (fun v6 => ?_)
  refine pg_iload_n (i := 2) dX0_askOfCopy_25 rfl 2 rfl ?_
  refine pg_iconst dX0_askOfCopy_26 ci_1 ?_
  refine pg_callV_oI (As := [pI a2, pI (1 : Int32)]) (rs := [pI (7 : Int32), pR v5]) dX0_askOfCopy_27 lk_RX0_35 vy_X7_at nd_X7_at (c_X7_at l D v4 v6 a2 (1 : Int32)) rfl rfl (Nat.le_of_ble_eq_true rfl) (by decide) (by decide) (fun v7 => ?_)
  refine pg_iastore dX0_askOfCopy_30 (fun v8 => ?_)
  refine pg_aload_n (i := 0) dX0_askOfCopy_31 rfl 0 rfl ?_
  refine pg_getR dX0_askOfCopy_32 fl_RX0_9 rfl (fun v9 => ?_)
  refine pg_bipush dX0_askOfCopy_35 cb_8 ?_
  refine pg_aload_n (i := 1) dX0_askOfCopy_37 rfl 1 rfl ?_
  refine pg_getR dX0_askOfCopy_38 fl_RX0_49 rfl (fun v10 => ?_)
  refine pg_iload_n (i := 2) dX0_askOfCopy_41 rfl 2 rfl ?_
  refine pg_iconst dX0_askOfCopy_42 ci_2 ?_
  refine pg_callV_oI (As := [pI a2, pI (2 : Int32)]) (rs := [pI (8 : Int32), pR v9]) dX0_askOfCopy_43 lk_RX0_35 vy_X7_at nd_X7_at (c_X7_at l D v8 v10 a2 (2 : Int32)) rfl rfl (Nat.le_of_ble_eq_true rfl) (by decide) (by decide) (fun v11 => ?_)
  refine pg_iastore dX0_askOfCopy_46 (fun v12 => ?_)
  exact pg_vret dX0_askOfCopy_47 rfl rfl
theorem c_X0_askOfCopy (l : Launch) (D : pg_D) (a0 : Nat) (a1 : Nat) (a2 : Int32) (h : pg_H) : ∀ x, F_X0_askOfCopy a0 a1 a2 h = some x → pg_Ct l D yX0_askOfCopy cX0_askOfCopy 3 none 1 22 [pR a0, pR a1, pI a2] h (pg_wV x) :=
  pg_Ct.of pn_RX0 (Nat.le_of_ble_eq_true rfl) (e_X0_askOfCopy l D a0 a1 a2 h)
def F_X0_askOfNote (a0 : Nat) (a1 : Nat) (a2 : Int32) (a3 : Int32) (h : pg_H) : Option pg_H := Option.bind (pg_gR 5 4 h a1) fun v1 => Option.bind (pg_rcv 7 h v1 (F_X7_at h v1 a2 (1 : Int32))) fun v2 => Option.bind (pg_gR 5 4 h a1) fun v3 => Option.bind (pg_rcv 7 h v3 (F_X7_at h v3 a2 (2 : Int32))) fun v4 => Option.bind (pg_rcv 0 h a0 (F_X0_askOfWording a0 v2 v4 a3 h)) fun v5 => Option.bind (pg_gR 0 0 v5 a0) fun v6 => Option.bind (pg_gR 5 4 v5 a1) fun v7 => Option.bind (pg_rcv 7 v5 v7 (F_X7_at v5 v7 a2 (3 : Int32))) fun v8 => Option.bind (pg_sI 21 v5 v6 (5 : Int32) v8) fun v9 => Option.bind (pg_gR 0 0 v9 a0) fun v10 => Option.bind (pg_gR 5 4 v9 a1) fun v11 => Option.bind (pg_rcv 7 v9 v11 (F_X7_at v9 v11 a2 (4 : Int32))) fun v12 => Option.bind (pg_sI 21 v9 v10 (6 : Int32) v12) fun v13 => Option.bind (pg_gR 5 4 v13 a1) fun v14 => Option.bind (pg_rcv 7 v13 v14 (F_X7_at v13 v14 a2 (0 : Int32))) fun v15 => Option.bind (pg_rcv 0 v13 a0 (F_X0_askOfCopy a0 a1 v15 v13)) fun v16 => (some v16)
theorem e_X0_askOfNote (l : Launch) (D : pg_D)  (a0 : Nat) (a1 : Nat) (a2 : Int32) (a3 : Int32) (h : pg_H) : pg_EvF l D RX0 cX0_askOfNote 4 none "askOfNote" 3 67 pg_wV (F_X0_askOfNote a0 a1 a2 a3 h) 0 [(0, pR a0), (1, pR a1), (2, pI a2), (3, pI a3)] [] h := by
  unfold F_X0_askOfNote
  refine pg_aload_n (i := 0) dX0_askOfNote_0 rfl 0 rfl ?_
  refine pg_aload_n (i := 1) dX0_askOfNote_1 rfl 1 rfl ?_
  refine pg_getR dX0_askOfNote_2 fl_RX0_29 rfl (fun v1 => ?_)
  refine pg_iload_n (i := 2) dX0_askOfNote_5 rfl 2 rfl ?_
  refine pg_iconst dX0_askOfNote_6 ci_1 ?_
  refine pg_callV_oI (As := [pI a2, pI (1 : Int32)]) (rs := [pR a0]) dX0_askOfNote_7 lk_RX0_35 vy_X7_at nd_X7_at (c_X7_at l D h v1 a2 (1 : Int32)) rfl rfl (Nat.le_of_ble_eq_true rfl) (by decide) (by decide) (fun v2 => ?_)
  refine pg_aload_n (i := 1) dX0_askOfNote_10 rfl 1 rfl ?_
  refine pg_getR dX0_askOfNote_11 fl_RX0_29 rfl (fun v3 => ?_)
  refine pg_iload_n (i := 2) dX0_askOfNote_14 rfl 2 rfl ?_
  refine pg_iconst dX0_askOfNote_15 ci_2 ?_
  refine pg_callV_oI (As := [pI a2, pI (2 : Int32)]) (rs := [pI v2, pR a0]) dX0_askOfNote_16 lk_RX0_35 vy_X7_at nd_X7_at (c_X7_at l D h v3 a2 (2 : Int32)) rfl rfl (Nat.le_of_ble_eq_true rfl) (by decide) (by decide) (fun v4 => ?_)
  refine pg_iload_n (i := 3) dX0_askOfNote_19 rfl 3 rfl ?_
  refine pg_callV_wV (As := [pI v2, pI v4, pI a3]) (rs := []) dX0_askOfNote_20 lk_RX0_41 vy_X0_askOfWording nd_X0_askOfWording (c_X0_askOfWording l D a0 v2 v4 a3 h) rfl rfl (Nat.le_of_ble_eq_true rfl) (by decide) (by decide) (fun v5 => ?_)
  refine pg_aload_n (i := 0) dX0_askOfNote_23 rfl 0 rfl ?_
  refine pg_getR dX0_askOfNote_24 fl_RX0_9 rfl (fun v6 => ?_)
  refine pg_iconst dX0_askOfNote_27 ci_5 ?_
  refine pg_aload_n (i := 1) dX0_askOfNote_28 rfl 1 rfl ?_
  refine pg_getR dX0_askOfNote_29 fl_RX0_29 rfl (fun v7 => ?_)
  refine pg_iload_n (i := 2) dX0_askOfNote_32 rfl 2 rfl ?_
  refine pg_iconst dX0_askOfNote_33 ci_3 ?_
  refine pg_callV_oI (As := [pI a2, pI (3 : Int32)]) (rs := [pI (5 : Int32), pR v6]) dX0_askOfNote_34 lk_RX0_35 vy_X7_at nd_X7_at (c_X7_at l D v5 v7 a2 (3 : Int32)) rfl rfl (Nat.le_of_ble_eq_true rfl) (by decide) (by decide) (fun v8 => ?_)
  refine pg_iastore dX0_askOfNote_37 (fun v9 => ?_)
  refine pg_aload_n (i := 0) dX0_askOfNote_38 rfl 0 rfl ?_
  refine pg_getR dX0_askOfNote_39 fl_RX0_9 rfl (fun v10 => ?_)
  refine pg_bipush dX0_askOfNote_42 cb_6 ?_
  refine pg_aload_n (i := 1) dX0_askOfNote_44 rfl 1 rfl ?_
  refine pg_getR dX0_askOfNote_45 fl_RX0_29 rfl (fun v11 => ?_)
  refine pg_iload_n (i := 2) dX0_askOfNote_48 rfl 2 rfl ?_
  refine pg_iconst dX0_askOfNote_49 ci_4 ?_
  refine pg_callV_oI (As := [pI a2, pI (4 : Int32)]) (rs := [pI (6 : Int32), pR v10]) dX0_askOfNote_50 lk_RX0_35 vy_X7_at nd_X7_at (c_X7_at l D v9 v11 a2 (4 : Int32)) rfl rfl (Nat.le_of_ble_eq_true rfl) (by decide) (by decide) (fun v12 => ?_)
  refine pg_iastore dX0_askOfNote_53 (fun v13 => ?_)
  refine pg_aload_n (i := 0) dX0_askOfNote_54 rfl 0 rfl ?_
  refine pg_aload_n (i := 1) dX0_askOfNote_55 rfl 1 rfl ?_
  refine pg_aload_n (i := 1) dX0_askOfNote_56 rfl 1 rfl ?_
  refine pg_getR dX0_askOfNote_57 fl_RX0_29 rfl (fun v14 => ?_)
  refine pg_iload_n (i := 2) dX0_askOfNote_60 rfl 2 rfl ?_
  refine pg_iconst dX0_askOfNote_61 ci_0 ?_
  refine pg_callV_oI (As := [pI a2, pI (0 : Int32)]) (rs := [pR a1, pR a0]) dX0_askOfNote_62 lk_RX0_35 vy_X7_at nd_X7_at (c_X7_at l D v13 v14 a2 (0 : Int32)) rfl rfl (Nat.le_of_ble_eq_true rfl) (by decide) (by decide) (fun v15 => ?_)
  refine pg_callV_wV (As := [pR a1, pI v15]) (rs := []) dX0_askOfNote_65 lk_RX0_45 vy_X0_askOfCopy nd_X0_askOfCopy (c_X0_askOfCopy l D a0 a1 v15 v13) rfl rfl (Nat.le_of_ble_eq_true rfl) (by decide) (by decide) (fun v16 => ?_)
  exact pg_vret dX0_askOfNote_68 rfl rfl
theorem c_X0_askOfNote (l : Launch) (D : pg_D) (a0 : Nat) (a1 : Nat) (a2 : Int32) (a3 : Int32) (h : pg_H) : ∀ x, F_X0_askOfNote a0 a1 a2 a3 h = some x → pg_Ct l D yX0_askOfNote cX0_askOfNote 4 none 3 67 [pR a0, pR a1, pI a2, pI a3] h (pg_wV x) :=
  pg_Ct.of pn_RX0 (Nat.le_of_ble_eq_true rfl) (e_X0_askOfNote l D a0 a1 a2 a3 h)
def F_X0_askOfChapter (a0 : Nat) (a1 : Nat) (a2 : Int32) (a3 : Int32) (h : pg_H) : Option pg_H := Option.bind (pg_gR 0 0 h a0) fun v1 => Option.bind (F_J7_fill_53178 v1 (0 : Int32) h) fun v2 => Option.bind (pg_gR 0 0 v2 a0) fun v3 => Option.bind (pg_sI 21 v2 v3 (1 : Int32) a3) fun v4 => Option.bind (pg_rcv 0 v4 a0 (F_X0_askOfCopy a0 a1 a2 v4)) fun v5 => (some v5)
theorem e_X0_askOfChapter (l : Launch) (D : pg_D)  (a0 : Nat) (a1 : Nat) (a2 : Int32) (a3 : Int32) (h : pg_H) : pg_EvF l D RX0 cX0_askOfChapter 4 none "askOfChapter" 2 44 pg_wV (F_X0_askOfChapter a0 a1 a2 a3 h) 0 [(0, pR a0), (1, pR a1), (2, pI a2), (3, pI a3)] [] h := by
  unfold F_X0_askOfChapter
  refine pg_aload_n (i := 0) dX0_askOfChapter_0 rfl 0 rfl ?_
  refine pg_getR dX0_askOfChapter_1 fl_RX0_9 rfl (fun v1 => ?_)
  refine pg_iconst dX0_askOfChapter_4 ci_0 ?_
  refine pg_callS_wV (As := [pR v1, pI (0 : Int32)]) (rs := []) dX0_askOfChapter_5 lk_RX0_19 vy_J7_fill_53178 nd_J7_fill_53178 (c_J7_fill_53178 l D v1 (0 : Int32) h) rfl rfl (Nat.le_of_ble_eq_true rfl) (by decide) (by decide) (fun v2 => ?_)
  refine pg_aload_n (i := 0) dX0_askOfChapter_8 rfl 0 rfl ?_
  refine pg_getR dX0_askOfChapter_9 fl_RX0_9 rfl (fun v3 => ?_)
  refine pg_iconst dX0_askOfChapter_12 ci_1 ?_
  refine pg_iload_n (i := 3) dX0_askOfChapter_13 rfl 3 rfl ?_
  refine pg_iastore dX0_askOfChapter_14 (fun v4 => ?_)
  refine pg_aload_n (i := 0) dX0_askOfChapter_15 rfl 0 rfl ?_
  refine pg_aload_n (i := 1) dX0_askOfChapter_16 rfl 1 rfl ?_
  refine pg_iload_n (i := 2) dX0_askOfChapter_17 rfl 2 rfl ?_
  refine pg_callV_wV (As := [pR a1, pI a2]) (rs := []) dX0_askOfChapter_18 lk_RX0_45 vy_X0_askOfCopy nd_X0_askOfCopy (c_X0_askOfCopy l D a0 a1 a2 v4) rfl rfl (Nat.le_of_ble_eq_true rfl) (by decide) (by decide) (fun v5 => ?_)
  exact pg_vret dX0_askOfChapter_21 rfl rfl
theorem c_X0_askOfChapter (l : Launch) (D : pg_D) (a0 : Nat) (a1 : Nat) (a2 : Int32) (a3 : Int32) (h : pg_H) : ∀ x, F_X0_askOfChapter a0 a1 a2 a3 h = some x → pg_Ct l D yX0_askOfChapter cX0_askOfChapter 4 none 2 44 [pR a0, pR a1, pI a2, pI a3] h (pg_wV x) :=
  pg_Ct.of pn_RX0 (Nat.le_of_ble_eq_true rfl) (e_X0_askOfChapter l D a0 a1 a2 a3 h)
def F_X9_length (h : pg_H) (a0 : Nat) : Option Int32 := Option.bind (pg_gR 9 0 h a0) fun v1 => Option.bind (pg_len h v1) fun v2 => (some v2)
theorem e_X9_length (l : Launch) (D : pg_D)  (h : pg_H) (a0 : Nat) : pg_EvF l D RX9 cX9_length 1 (some FieldType.int) "length" 0 0 (pg_oI h) (F_X9_length h a0) 0 [(0, pR a0)] [] h := by
  unfold F_X9_length
  refine pg_aload_n (i := 0) dX9_length_0 rfl 0 rfl ?_
  refine pg_getR dX9_length_1 fl_RX9_22 rfl (fun v1 => ?_)
  refine pg_alen dX9_length_4 (fun v2 => ?_)
  exact pg_iret dX9_length_5 rfl rfl
theorem c_X9_length (l : Launch) (D : pg_D) (h : pg_H) (a0 : Nat)  : ∀ x, F_X9_length h a0 = some x → pg_Ct l D yX9_length cX9_length 1 (some FieldType.int) 0 0 [pR a0] h (pg_oI h x) :=
  pg_Ct.of pn_RX9 (Nat.le_of_ble_eq_true rfl) (e_X9_length l D h a0)
def F_X9_codeAt (h : pg_H) (a0 : Nat) (a1 : Int32) : Option Int32 := (if a1 < 0 then (some (0 : Int32)) else Option.bind (pg_gR 9 0 h a0) fun v1 => Option.bind (pg_len h v1) fun v2 => (if a1 < v2 then Option.bind (pg_gR 9 0 h a0) fun v3 => Option.bind (pg_aI 21 h v3 a1) fun v4 => (some v4) else (some (0 : Int32))))
theorem e_X9_codeAt (l : Launch) (D : pg_D)  (h : pg_H) (a0 : Nat) (a1 : Int32) : pg_EvF l D RX9 cX9_codeAt 2 (some FieldType.int) "codeAt" 0 0 (pg_oI h) (F_X9_codeAt h a0 a1) 0 [(0, pR a0), (1, pI a1)] [] h := by
  unfold F_X9_codeAt
  refine pg_iload_n (i := 1) dX9_codeAt_0 rfl 1 rfl ?_
  refine pg_if_lt (tgt := 22) dX9_codeAt_1 rfl ?_ ?_
  · refine pg_iconst dX9_codeAt_22 ci_0 ?_
    exact pg_iret dX9_codeAt_23 rfl rfl
  · refine pg_iload_n (i := 1) dX9_codeAt_4 rfl 1 rfl ?_
    refine pg_aload_n (i := 0) dX9_codeAt_5 rfl 0 rfl ?_
    refine pg_getR dX9_codeAt_6 fl_RX9_22 rfl (fun v1 => ?_)
    refine pg_alen dX9_codeAt_9 (fun v2 => ?_)
    refine pg_icmp_ge (tgt := 22) dX9_codeAt_10 rfl ?_ ?_
    · refine pg_iconst dX9_codeAt_22 ci_0 ?_
      exact pg_iret dX9_codeAt_23 rfl rfl
    · refine pg_aload_n (i := 0) dX9_codeAt_13 rfl 0 rfl ?_
      refine pg_getR dX9_codeAt_14 fl_RX9_22 rfl (fun v3 => ?_)
      refine pg_iload_n (i := 1) dX9_codeAt_17 rfl 1 rfl ?_
      refine pg_iaload dX9_codeAt_18 (fun v4 => ?_)
      refine pg_goto (tgt := 23) dX9_codeAt_19 rfl ?_
      exact pg_iret dX9_codeAt_23 rfl rfl
theorem c_X9_codeAt (l : Launch) (D : pg_D) (h : pg_H) (a0 : Nat) (a1 : Int32)  : ∀ x, F_X9_codeAt h a0 a1 = some x → pg_Ct l D yX9_codeAt cX9_codeAt 2 (some FieldType.int) 0 0 [pR a0, pI a1] h (pg_oI h x) :=
  pg_Ct.of pn_RX9 (Nat.le_of_ble_eq_true rfl) (e_X9_codeAt l D h a0 a1)
def F_X0_askedOf (h : pg_H) (a0 : Nat) (a1 : Int32) : Option Int32 := (if a1 < 0 then (some (0 : Int32)) else (if a1 < (9 : Int32) then Option.bind (pg_gR 0 0 h a0) fun v1 => Option.bind (pg_aI 21 h v1 a1) fun v2 => (some v2) else (some (0 : Int32))))
theorem e_X0_askedOf (l : Launch) (D : pg_D)  (h : pg_H) (a0 : Nat) (a1 : Int32) : pg_EvF l D RX0 cX0_askedOf 2 (some FieldType.int) "askedOf" 0 0 (pg_oI h) (F_X0_askedOf h a0 a1) 0 [(0, pR a0), (1, pI a1)] [] h := by
  unfold F_X0_askedOf
  refine pg_iload_n (i := 1) dX0_askedOf_0 rfl 1 rfl ?_
  refine pg_if_lt (tgt := 19) dX0_askedOf_1 rfl ?_ ?_
  · refine pg_iconst dX0_askedOf_19 ci_0 ?_
    exact pg_iret dX0_askedOf_20 rfl rfl
  · refine pg_iload_n (i := 1) dX0_askedOf_4 rfl 1 rfl ?_
    refine pg_bipush dX0_askedOf_5 cb_9 ?_
    refine pg_icmp_ge (tgt := 19) dX0_askedOf_7 rfl ?_ ?_
    · refine pg_iconst dX0_askedOf_19 ci_0 ?_
      exact pg_iret dX0_askedOf_20 rfl rfl
    · refine pg_aload_n (i := 0) dX0_askedOf_10 rfl 0 rfl ?_
      refine pg_getR dX0_askedOf_11 fl_RX0_9 rfl (fun v1 => ?_)
      refine pg_iload_n (i := 1) dX0_askedOf_14 rfl 1 rfl ?_
      refine pg_iaload dX0_askedOf_15 (fun v2 => ?_)
      refine pg_goto (tgt := 20) dX0_askedOf_16 rfl ?_
      exact pg_iret dX0_askedOf_20 rfl rfl
theorem c_X0_askedOf (l : Launch) (D : pg_D) (h : pg_H) (a0 : Nat) (a1 : Int32)  : ∀ x, F_X0_askedOf h a0 a1 = some x → pg_Ct l D yX0_askedOf cX0_askedOf 2 (some FieldType.int) 0 0 [pR a0, pI a1] h (pg_oI h x) :=
  pg_Ct.of pn_RX0 (Nat.le_of_ble_eq_true rfl) (e_X0_askedOf l D h a0 a1)
def F_X0_combined_179 (a6 : Int64) (s0 : Int32) (s1 : Nat) (h : pg_H) : Option (Int64 × pg_H) := Option.bind (pg_pZ 0 2 h s1 s0) fun v1 => (some (a6, v1))
def F_X0_combined_174 (a6 : Int64) (s0 : Nat) (h : pg_H) : Option (Int64 × pg_H) := (F_X0_combined_179 a6 (1 : Int32) s0 h)
def F_X0_combined_155 (a0 : Nat) (a6 : Int64) (h : pg_H) : Option (Int64 × pg_H) := (if (1000000000 : Int64) < a6 then (F_X0_combined_174 a6 a0 h) else (if a6 < (-1000000000 : Int64) then (F_X0_combined_174 a6 a0 h) else (F_X0_combined_179 a6 (0 : Int32) a0 h)))
def F_X0_combined_102 (a0 : Nat) (s0 : Int64) (h : pg_H) : Option (Int64 × pg_H) := (F_X0_combined_155 a0 s0 h)
def F_X0_combined_119 (a0 : Nat) (s0 : Int64) (h : pg_H) : Option (Int64 × pg_H) := (F_X0_combined_155 a0 s0 h)
def F_X0_combined_136 (a0 : Nat) (s0 : Int64) (h : pg_H) : Option (Int64 × pg_H) := (F_X0_combined_155 a0 s0 h)
def F_X0_combined_153 (a0 : Nat) (s0 : Int64) (h : pg_H) : Option (Int64 × pg_H) := (F_X0_combined_155 a0 s0 h)
def F_X0_combined_20 (a0 : Nat) (a1 : Int32) (a2 : Int64) (a4 : Int64) (h : pg_H) : Option (Int64 × pg_H) := (if a1 = (4 : Int32) then pg_let (a2 + a4) fun v1 => (F_X0_combined_155 a0 v1 h) else (if a1 = (5 : Int32) then pg_let (a2 - a4) fun v2 => (F_X0_combined_155 a0 v2 h) else (if a1 = (6 : Int32) then pg_let (a2 * a4) fun v3 => (F_X0_combined_155 a0 v3 h) else (if a1 = (7 : Int32) then (if a4 = (0 : Int64) then (F_X0_combined_102 a0 (0 : Int64) h) else (if a4 = 0 then none else (F_X0_combined_102 a0 (a2 / a4) h))) else (if a1 = (8 : Int32) then (if a2 < a4 then (F_X0_combined_119 a0 (1 : Int64) h) else (F_X0_combined_119 a0 (0 : Int64) h)) else (if a1 = (9 : Int32) then (if a4 < a2 then (F_X0_combined_136 a0 (1 : Int64) h) else (F_X0_combined_136 a0 (0 : Int64) h)) else (if a2 = a4 then (F_X0_combined_153 a0 (1 : Int64) h) else (F_X0_combined_153 a0 (0 : Int64) h))))))))
def F_X0_combined (a0 : Nat) (a1 : Int32) (a2 : Int64) (a4 : Int64) (h : pg_H) : Option (Int64 × pg_H) := (if a1 = (7 : Int32) then (if a4 = (0 : Int64) then Option.bind (pg_pZ 0 2 h a0 (1 : Int32)) fun v1 => (some ((0 : Int64), v1)) else (F_X0_combined_20 a0 a1 a2 a4 h)) else (F_X0_combined_20 a0 a1 a2 a4 h))
theorem e_X0_combined_179 (l : Launch) (D : pg_D)  (a6 : Int64) (s0 : Int32) (s1 : Nat) (h : pg_H) : pg_EvF l D RX0 cX0_combined 8 (some FieldType.long) "combined" 0 0 pg_wL (F_X0_combined_179 a6 s0 s1 h) 179 [(6, pL a6)] [pI s0, pR s1] h := by
  unfold F_X0_combined_179
  refine pg_putZ dX0_combined_179 fl_RX0_70 (fun z => by cases z) (fun v1 => ?_)
  refine pg_lload dX0_combined_182 0 rfl ?_
  exact pg_lret dX0_combined_184 rfl rfl
theorem e_X0_combined_174 (l : Launch) (D : pg_D)  (a6 : Int64) (s0 : Nat) (h : pg_H) : pg_EvF l D RX0 cX0_combined 8 (some FieldType.long) "combined" 0 0 pg_wL (F_X0_combined_174 a6 s0 h) 174 [(6, pL a6)] [pR s0] h := by
  unfold F_X0_combined_174
  refine pg_iconst dX0_combined_174 ci_1 ?_
  refine pg_goto (tgt := 179) dX0_combined_175 rfl ?_
  exact pg_to (e_X0_combined_179 l D a6 (1 : Int32) s0 h) [0] rfl
theorem e_X0_combined_155 (l : Launch) (D : pg_D)  (a0 : Nat) (a6 : Int64) (h : pg_H) : pg_EvF l D RX0 cX0_combined 8 (some FieldType.long) "combined" 0 0 pg_wL (F_X0_combined_155 a0 a6 h) 155 [(0, pR a0), (6, pL a6)] [] h := by
  unfold F_X0_combined_155
  refine pg_aload_n (i := 0) dX0_combined_155 rfl 0 rfl ?_
  refine pg_lload dX0_combined_156 1 rfl ?_
  refine pg_ldc2 (v := (1000000000 : Int64)) dX0_combined_158 kc_RX0_94 ?_
  refine pg_lcmp_gt (tgt := 174) dX0_combined_161 dX0_combined_162 rfl ?_ ?_
  · exact pg_to (e_X0_combined_174 l D a6 a0 h) [1] rfl
  · refine pg_lload dX0_combined_165 1 rfl ?_
    refine pg_ldc2 (v := (-1000000000 : Int64)) dX0_combined_167 kc_RX0_96 ?_
    refine pg_lcmp_ge (tgt := 178) dX0_combined_170 dX0_combined_171 rfl ?_ ?_
    · refine pg_iconst dX0_combined_178 ci_0 ?_
      exact pg_to (e_X0_combined_179 l D a6 (0 : Int32) a0 h) [1] rfl
    · exact pg_to (e_X0_combined_174 l D a6 a0 h) [1] rfl
theorem e_X0_combined_102 (l : Launch) (D : pg_D)  (a0 : Nat) (s0 : Int64) (h : pg_H) : pg_EvF l D RX0 cX0_combined 8 (some FieldType.long) "combined" 0 0 pg_wL (F_X0_combined_102 a0 s0 h) 102 [(0, pR a0)] [pL s0] h := by
  unfold F_X0_combined_102
  refine pg_lstore (lv' := [(6, pL s0), (0, pR a0)]) dX0_combined_102 (by decide) rfl ?_
  refine pg_goto (tgt := 155) dX0_combined_104 rfl ?_
  exact pg_to (e_X0_combined_155 l D a0 s0 h) [1, 0] rfl
theorem e_X0_combined_119 (l : Launch) (D : pg_D)  (a0 : Nat) (s0 : Int64) (h : pg_H) : pg_EvF l D RX0 cX0_combined 8 (some FieldType.long) "combined" 0 0 pg_wL (F_X0_combined_119 a0 s0 h) 119 [(0, pR a0)] [pL s0] h := by
  unfold F_X0_combined_119
  refine pg_lstore (lv' := [(6, pL s0), (0, pR a0)]) dX0_combined_119 (by decide) rfl ?_
  refine pg_goto (tgt := 155) dX0_combined_121 rfl ?_
  exact pg_to (e_X0_combined_155 l D a0 s0 h) [1, 0] rfl
theorem e_X0_combined_136 (l : Launch) (D : pg_D)  (a0 : Nat) (s0 : Int64) (h : pg_H) : pg_EvF l D RX0 cX0_combined 8 (some FieldType.long) "combined" 0 0 pg_wL (F_X0_combined_136 a0 s0 h) 136 [(0, pR a0)] [pL s0] h := by
  unfold F_X0_combined_136
  refine pg_lstore (lv' := [(6, pL s0), (0, pR a0)]) dX0_combined_136 (by decide) rfl ?_
  refine pg_goto (tgt := 155) dX0_combined_138 rfl ?_
  exact pg_to (e_X0_combined_155 l D a0 s0 h) [1, 0] rfl
theorem e_X0_combined_153 (l : Launch) (D : pg_D)  (a0 : Nat) (s0 : Int64) (h : pg_H) : pg_EvF l D RX0 cX0_combined 8 (some FieldType.long) "combined" 0 0 pg_wL (F_X0_combined_153 a0 s0 h) 153 [(0, pR a0)] [pL s0] h := by
  unfold F_X0_combined_153
  refine pg_lstore (lv' := [(6, pL s0), (0, pR a0)]) dX0_combined_153 (by decide) rfl ?_
  exact pg_to (e_X0_combined_155 l D a0 s0 h) [1, 0] rfl
theorem e_X0_combined_20 (l : Launch) (D : pg_D)  (a0 : Nat) (a1 : Int32) (a2 : Int64) (a4 : Int64) (h : pg_H) : pg_EvF l D RX0 cX0_combined 8 (some FieldType.long) "combined" 0 0 pg_wL (F_X0_combined_20 a0 a1 a2 a4 h) 20 [(0, pR a0), (1, pI a1), (2, pL a2), (4, pL a4)] [] h := by
  unfold F_X0_combined_20
  refine pg_iload_n (i := 1) dX0_combined_20 rfl 1 rfl ?_
  refine pg_ite (fun hc0 => ?_) (fun hn0 => ?_)
  · refine pg_swIn (tgt := 60) (j := 0) dX0_combined_21 (by rw [hc0]; decide) (by decide) rfl rfl ?_
    refine pg_lload_n (i := 2) dX0_combined_60 rfl 2 rfl ?_
    refine pg_lload dX0_combined_61 3 rfl ?_
    refine pg_ladd dX0_combined_63 ?_
    refine pg_letL (fun v1 => ?_)
    refine pg_lstore (lv' := [(6, pL v1), (0, pR a0), (1, pI a1), (2, pL a2), (4, pL a4)]) dX0_combined_64 (by decide) rfl ?_
    refine pg_goto (tgt := 155) dX0_combined_66 rfl ?_
    exact pg_to (e_X0_combined_155 l D a0 v1 h) [1, 0] rfl
  refine pg_ite (fun hc1 => ?_) (fun hn1 => ?_)
  · refine pg_swIn (tgt := 69) (j := 1) dX0_combined_21 (by rw [hc1]; decide) (by decide) rfl rfl ?_
    refine pg_lload_n (i := 2) dX0_combined_69 rfl 2 rfl ?_
    refine pg_lload dX0_combined_70 3 rfl ?_
    refine pg_lsub dX0_combined_72 ?_
    refine pg_letL (fun v2 => ?_)
    refine pg_lstore (lv' := [(6, pL v2), (0, pR a0), (1, pI a1), (2, pL a2), (4, pL a4)]) dX0_combined_73 (by decide) rfl ?_
    refine pg_goto (tgt := 155) dX0_combined_75 rfl ?_
    exact pg_to (e_X0_combined_155 l D a0 v2 h) [1, 0] rfl
  refine pg_ite (fun hc2 => ?_) (fun hn2 => ?_)
  · refine pg_swIn (tgt := 78) (j := 2) dX0_combined_21 (by rw [hc2]; decide) (by decide) rfl rfl ?_
    refine pg_lload_n (i := 2) dX0_combined_78 rfl 2 rfl ?_
    refine pg_lload dX0_combined_79 3 rfl ?_
    refine pg_lmul dX0_combined_81 ?_
    refine pg_letL (fun v3 => ?_)
    refine pg_lstore (lv' := [(6, pL v3), (0, pR a0), (1, pI a1), (2, pL a2), (4, pL a4)]) dX0_combined_82 (by decide) rfl ?_
    refine pg_goto (tgt := 155) dX0_combined_84 rfl ?_
    exact pg_to (e_X0_combined_155 l D a0 v3 h) [1, 0] rfl
  refine pg_ite (fun hc3 => ?_) (fun hn3 => ?_)
  · refine pg_swIn (tgt := 87) (j := 3) dX0_combined_21 (by rw [hc3]; decide) (by decide) rfl rfl ?_
    refine pg_lload dX0_combined_87 3 rfl ?_
    refine pg_lconst dX0_combined_89 cl_0 ?_
    refine pg_lcmp_ne (tgt := 98) dX0_combined_90 dX0_combined_91 rfl ?_ ?_
    · refine pg_lload_n (i := 2) dX0_combined_98 rfl 2 rfl ?_
      refine pg_lload dX0_combined_99 3 rfl ?_
      refine pg_ldiv dX0_combined_101 ?_
      exact pg_to (e_X0_combined_102 l D a0 (a2 / a4) h) [0] rfl
    · refine pg_lconst dX0_combined_94 cl_0 ?_
      refine pg_goto (tgt := 102) dX0_combined_95 rfl ?_
      exact pg_to (e_X0_combined_102 l D a0 (0 : Int64) h) [0] rfl
  refine pg_ite (fun hc4 => ?_) (fun hn4 => ?_)
  · refine pg_swIn (tgt := 107) (j := 4) dX0_combined_21 (by rw [hc4]; decide) (by decide) rfl rfl ?_
    refine pg_lload_n (i := 2) dX0_combined_107 rfl 2 rfl ?_
    refine pg_lload dX0_combined_108 3 rfl ?_
    refine pg_lcmp_ge (tgt := 118) dX0_combined_110 dX0_combined_111 rfl ?_ ?_
    · refine pg_lconst dX0_combined_118 cl_0 ?_
      exact pg_to (e_X0_combined_119 l D a0 (0 : Int64) h) [0] rfl
    · refine pg_lconst dX0_combined_114 cl_1 ?_
      refine pg_goto (tgt := 119) dX0_combined_115 rfl ?_
      exact pg_to (e_X0_combined_119 l D a0 (1 : Int64) h) [0] rfl
  refine pg_ite (fun hc5 => ?_) (fun hn5 => ?_)
  · refine pg_swIn (tgt := 124) (j := 5) dX0_combined_21 (by rw [hc5]; decide) (by decide) rfl rfl ?_
    refine pg_lload_n (i := 2) dX0_combined_124 rfl 2 rfl ?_
    refine pg_lload dX0_combined_125 3 rfl ?_
    refine pg_lcmp_le (tgt := 135) dX0_combined_127 dX0_combined_128 rfl ?_ ?_
    · refine pg_lconst dX0_combined_135 cl_0 ?_
      exact pg_to (e_X0_combined_136 l D a0 (0 : Int64) h) [0] rfl
    · refine pg_lconst dX0_combined_131 cl_1 ?_
      refine pg_goto (tgt := 136) dX0_combined_132 rfl ?_
      exact pg_to (e_X0_combined_136 l D a0 (1 : Int64) h) [0] rfl
  refine pg_swOut (tgt := 141) dX0_combined_21 (pg_swR (lo := 4) (n := 6) (by decide) (fun j hj => ?_)) rfl ?_
  · match j, hj with
    | 0, _ => exact pg_ne hn0 (by decide)
    | 1, _ => exact pg_ne hn1 (by decide)
    | 2, _ => exact pg_ne hn2 (by decide)
    | 3, _ => exact pg_ne hn3 (by decide)
    | 4, _ => exact pg_ne hn4 (by decide)
    | 5, _ => exact pg_ne hn5 (by decide)
    | q + 6, hj => exact absurd hj (by omega)
  · refine pg_lload_n (i := 2) dX0_combined_141 rfl 2 rfl ?_
    refine pg_lload dX0_combined_142 3 rfl ?_
    refine pg_lcmp_ne (tgt := 152) dX0_combined_144 dX0_combined_145 rfl ?_ ?_
    · refine pg_lconst dX0_combined_152 cl_0 ?_
      exact pg_to (e_X0_combined_153 l D a0 (0 : Int64) h) [0] rfl
    · refine pg_lconst dX0_combined_148 cl_1 ?_
      refine pg_goto (tgt := 153) dX0_combined_149 rfl ?_
      exact pg_to (e_X0_combined_153 l D a0 (1 : Int64) h) [0] rfl
theorem e_X0_combined (l : Launch) (D : pg_D)  (a0 : Nat) (a1 : Int32) (a2 : Int64) (a4 : Int64) (h : pg_H) : pg_EvF l D RX0 cX0_combined 8 (some FieldType.long) "combined" 0 0 pg_wL (F_X0_combined a0 a1 a2 a4 h) 0 [(0, pR a0), (1, pI a1), (2, pL a2), (4, pL a4)] [] h := by
  unfold F_X0_combined
  refine pg_iload_n (i := 1) dX0_combined_0 rfl 1 rfl ?_
  refine pg_bipush dX0_combined_1 cb_7 ?_
  refine pg_icmp_ne (tgt := 20) dX0_combined_3 rfl ?_ ?_
  · exact pg_to (e_X0_combined_20 l D a0 a1 a2 a4 h) [0, 1, 2, 3] rfl
  · refine pg_lload dX0_combined_6 3 rfl ?_
    refine pg_lconst dX0_combined_8 cl_0 ?_
    refine pg_lcmp_ne (tgt := 20) dX0_combined_9 dX0_combined_10 rfl ?_ ?_
    · exact pg_to (e_X0_combined_20 l D a0 a1 a2 a4 h) [0, 1, 2, 3] rfl
    · refine pg_aload_n (i := 0) dX0_combined_13 rfl 0 rfl ?_
      refine pg_iconst dX0_combined_14 ci_1 ?_
      refine pg_putZ dX0_combined_15 fl_RX0_70 (fun z => by cases z) (fun v1 => ?_)
      refine pg_lconst dX0_combined_18 cl_0 ?_
      exact pg_lret dX0_combined_19 rfl rfl
theorem c_X0_combined (l : Launch) (D : pg_D) (a0 : Nat) (a1 : Int32) (a2 : Int64) (a4 : Int64) (h : pg_H) : ∀ x, F_X0_combined a0 a1 a2 a4 h = some x → pg_Ct l D yX0_combined cX0_combined 8 (some FieldType.long) 0 0 [pR a0, pI a1, pL a2, pL a4] h (pg_wL x) :=
  pg_Ct.of pn_RX0 (Nat.le_of_ble_eq_true rfl) (e_X0_combined l D a0 a1 a2 a4 h)
def F_X0_work_279 (a0 : Nat) (a4 : Int32) (h : pg_H) : Option (Int64 × pg_H) := (if 0 < a4 then Option.bind (pg_gR 0 1 h a0) fun v1 => Option.bind (pg_aL h v1 (a4 - (1 : Int32))) fun v2 => (some (v2, h)) else (some ((0 : Int64), h)))
def F_X0_work_276 (k11 : Nat → Nat → Int32 → Int32 → Int32 → pg_H → Option (Int64 × pg_H)) (a0 : Nat) (a1 : Nat) (a3 : Int32) (a4 : Int32) (a5 : Int32) (h : pg_H) : Option (Int64 × pg_H) := (k11 a0 a1 a3 a4 a5 h)
def F_X0_work_127 (k11 : Nat → Nat → Int32 → Int32 → Int32 → pg_H → Option (Int64 × pg_H)) (a0 : Nat) (a1 : Nat) (a3 : Int32) (a4 : Int32) (a5 : Int32) (s0 : Int64) (s1 : Int32) (s2 : Nat) (h : pg_H) : Option (Int64 × pg_H) := Option.bind (pg_sL h s2 s1 s0) fun v1 => (F_X0_work_276 k11 a0 a1 a3 (a4 + (1 : Int32)) a5 v1)
def F_X0_work_96 (k11 : Nat → Nat → Int32 → Int32 → Int32 → pg_H → Option (Int64 × pg_H)) (a0 : Nat) (a1 : Nat) (a3 : Int32) (a4 : Int32) (a5 : Int32) (a6 : Int32) (a7 : Int32) (h : pg_H) : Option (Int64 × pg_H) := (if a4 < (64 : Int32) then Option.bind (pg_gR 0 1 h a0) fun v1 => (if a6 = 0 then (F_X0_work_127 k11 a0 a1 a3 a4 a5 (a7).toInt64 a4 v1 h) else Option.bind (pg_rcv 0 h a0 (F_X0_askedOf h a0 a7)) fun v2 => (F_X0_work_127 k11 a0 a1 a3 a4 a5 (v2).toInt64 a4 v1 h)) else (F_X0_work_276 k11 a0 a1 a3 a4 a5 h))
def F_X0_work_208 (k11 : Nat → Nat → Int32 → Int32 → Int32 → pg_H → Option (Int64 × pg_H)) (a0 : Nat) (a1 : Nat) (a3 : Int32) (a5 : Int32) (s0 : Int32) (h : pg_H) : Option (Int64 × pg_H) := (F_X0_work_276 k11 a0 a1 a3 s0 a5 h)
def F_X0_work_188 (k11 : Nat → Nat → Int32 → Int32 → Int32 → pg_H → Option (Int64 × pg_H)) (a0 : Nat) (a1 : Nat) (a3 : Int32) (a4 : Int32) (a10 : Int32) (s0 : Int32) (h : pg_H) : Option (Int64 × pg_H) := (if a10 = 0 then (F_X0_work_208 k11 a0 a1 a3 s0 (if (0 : Int32) < (a4 - (1 : Int32)) then (a4 - (1 : Int32)) else (0 : Int32)) h) else (F_X0_work_208 k11 a0 a1 a3 s0 a4 h))
def F_X0_work_169 (k11 : Nat → Nat → Int32 → Int32 → Int32 → pg_H → Option (Int64 × pg_H)) (a0 : Nat) (a1 : Nat) (a3 : Int32) (a4 : Int32) (a5 : Int32) (a7 : Int32) (s0 : Int32) (h : pg_H) : Option (Int64 × pg_H) := (if s0 = 0 then (F_X0_work_188 k11 a0 a1 a3 a4 s0 a5 h) else (F_X0_work_188 k11 a0 a1 a3 a4 s0 (if a5 < a7 then a7 else a5) h))
def F_X0_work_159 (k11 : Nat → Nat → Int32 → Int32 → Int32 → pg_H → Option (Int64 × pg_H)) (a0 : Nat) (a1 : Nat) (a3 : Int32) (a4 : Int32) (a5 : Int32) (a7 : Int32) (s0 : Int32) (s1 : Int64) (h : pg_H) : Option (Int64 × pg_H) := (if s1 = (s0).toInt64 then (F_X0_work_169 k11 a0 a1 a3 a4 a5 a7 (1 : Int32) h) else (F_X0_work_169 k11 a0 a1 a3 a4 a5 a7 (0 : Int32) h))
def F_X0_work_146 (k11 : Nat → Nat → Int32 → Int32 → Int32 → pg_H → Option (Int64 × pg_H)) (a0 : Nat) (a1 : Nat) (a3 : Int32) (a4 : Int32) (a5 : Int32) (a6 : Int32) (a7 : Int32) (a8 : Int64) (h : pg_H) : Option (Int64 × pg_H) := (if a6 = (2 : Int32) then (F_X0_work_159 k11 a0 a1 a3 a4 a5 a7 (1 : Int32) a8 h) else (F_X0_work_159 k11 a0 a1 a3 a4 a5 a7 (0 : Int32) a8 h))
def F_X0_work_82 (k11 : Nat → Nat → Int32 → Int32 → Int32 → pg_H → Option (Int64 × pg_H)) (a0 : Nat) (a1 : Nat) (a3 : Int32) (a4 : Int32) (a6 : Int32) (a7 : Int32) (a8 : Int64) (s0 : Int32) (s1 : Int32) (h : pg_H) : Option (Int64 × pg_H) := pg_let (s1 + s0) fun v1 => (if a6 = 0 then (F_X0_work_96 k11 a0 a1 a3 a4 v1 a6 a7 h) else (if a6 = (1 : Int32) then (F_X0_work_96 k11 a0 a1 a3 a4 v1 a6 a7 h) else (if a6 = (2 : Int32) then (F_X0_work_146 k11 a0 a1 a3 a4 v1 a6 a7 a8 h) else (if a6 = (3 : Int32) then (F_X0_work_146 k11 a0 a1 a3 a4 v1 a6 a7 a8 h) else (if a6 = (11 : Int32) then (if 0 < a4 then Option.bind (pg_gR 0 1 h a0) fun v7 => Option.bind (pg_sL h v7 (a4 - (1 : Int32)) ((1 : Int64) - a8)) fun v8 => (F_X0_work_276 k11 a0 a1 a3 a4 v1 v8) else (F_X0_work_276 k11 a0 a1 a3 a4 v1 h)) else (if (1 : Int32) < a4 then Option.bind (pg_gR 0 1 h a0) fun v2 => Option.bind (pg_gR 0 1 h a0) fun v3 => Option.bind (pg_aL h v3 ((a4 + (-1 : Int32)) - (1 : Int32))) fun v4 => Option.bind (pg_rcv 0 h a0 (F_X0_combined a0 a6 v4 a8 h)) fun v5 => Option.bind (pg_sL v5.2 v2 ((a4 + (-1 : Int32)) - (1 : Int32)) v5.1) fun v6 => (F_X0_work_276 k11 a0 a1 a3 (a4 + (-1 : Int32)) v1 v6) else (F_X0_work_276 k11 a0 a1 a3 a4 v1 h)))))))
def F_X0_work_67 (k11 : Nat → Nat → Int32 → Int32 → Int32 → pg_H → Option (Int64 × pg_H)) (a0 : Nat) (a1 : Nat) (a3 : Int32) (a4 : Int32) (a5 : Int32) (a6 : Int32) (a7 : Int32) (s0 : Int64) (h : pg_H) : Option (Int64 × pg_H) := (if a6 < (4 : Int32) then (F_X0_work_82 k11 a0 a1 a3 a4 a6 a7 s0 (2 : Int32) a5 h) else (F_X0_work_82 k11 a0 a1 a3 a4 a6 a7 s0 (1 : Int32) a5 h))
def F_X0_work_66 (k11 : Nat → Nat → Int32 → Int32 → Int32 → pg_H → Option (Int64 × pg_H)) (a0 : Nat) (a1 : Nat) (a3 : Int32) (a4 : Int32) (a5 : Int32) (a6 : Int32) (a7 : Int32) (h : pg_H) : Option (Int64 × pg_H) := (F_X0_work_67 k11 a0 a1 a3 a4 a5 a6 a7 (0 : Int64) h)
def F_X0_work_11  : Nat → Nat → Nat → Int32 → Int32 → Int32 → pg_H → Option (Int64 × pg_H)
  | 0 => fun _ _ _ _ _ _ => none
  | n + 1 => fun a0 a1 a3 a4 a5 h => (if a5 < a3 then Option.bind (pg_gI 0 2 h a0) fun v1 => (if v1 = 0 then Option.bind (pg_rcv 9 h a1 (F_X9_codeAt h a1 a5)) fun v2 => Option.bind (pg_rcv 9 h a1 (F_X9_codeAt h a1 (a5 + (1 : Int32)))) fun v3 => (if 0 < a4 then (if (64 : Int32) < a4 then (F_X0_work_66 (F_X0_work_11 n) a0 a1 a3 a4 a5 v2 v3 h) else Option.bind (pg_gR 0 1 h a0) fun v4 => Option.bind (pg_aL h v4 (a4 - (1 : Int32))) fun v5 => (F_X0_work_67 (F_X0_work_11 n) a0 a1 a3 a4 a5 v2 v3 v5 h)) else (F_X0_work_66 (F_X0_work_11 n) a0 a1 a3 a4 a5 v2 v3 h)) else (F_X0_work_279 a0 a4 h)) else (F_X0_work_279 a0 a4 h))
def F_X0_work (a0 : Nat) (a1 : Nat) (a2 : Int32) (a3 : Int32) (h : pg_H) : Option (Int64 × pg_H) := Option.bind (pg_pZ 0 2 h a0 (0 : Int32)) fun v1 => (F_X0_work_11 pg_fuel a0 a1 a3 (0 : Int32) a2 v1)
theorem e_X0_work_279 (l : Launch) (D : pg_D)  (a0 : Nat) (a4 : Int32) (h : pg_H) : pg_EvF l D RX0 cX0_work 11 (some FieldType.long) "work" 1 30 pg_wL (F_X0_work_279 a0 a4 h) 279 [(0, pR a0), (4, pI a4)] [] h := by
  unfold F_X0_work_279
  refine pg_iload dX0_work_279 1 rfl ?_
  refine pg_if_le (tgt := 296) dX0_work_281 rfl ?_ ?_
  · refine pg_lconst dX0_work_296 cl_0 ?_
    exact pg_lret dX0_work_297 rfl rfl
  · refine pg_aload_n (i := 0) dX0_work_284 rfl 0 rfl ?_
    refine pg_getR dX0_work_285 fl_RX0_15 rfl (fun v1 => ?_)
    refine pg_iload dX0_work_288 1 rfl ?_
    refine pg_iconst dX0_work_290 ci_1 ?_
    refine pg_isub dX0_work_291 ?_
    refine pg_laload dX0_work_292 (fun v2 => ?_)
    refine pg_goto (tgt := 297) dX0_work_293 rfl ?_
    exact pg_lret dX0_work_297 rfl rfl
theorem e_X0_work_276 (l : Launch) (D : pg_D)  (k11 : Nat → Nat → Int32 → Int32 → Int32 → pg_H → Option (Int64 × pg_H)) (hk11 : ∀ (a0 : Nat) (a1 : Nat) (a3 : Int32) (a4 : Int32) (a5 : Int32) (h : pg_H), pg_EvF l D RX0 cX0_work 11 (some FieldType.long) "work" 1 30 pg_wL (k11 a0 a1 a3 a4 a5 h) 11 [(0, pR a0), (1, pR a1), (3, pI a3), (4, pI a4), (5, pI a5)] [] h) (a0 : Nat) (a1 : Nat) (a3 : Int32) (a4 : Int32) (a5 : Int32) (h : pg_H) : pg_EvF l D RX0 cX0_work 11 (some FieldType.long) "work" 1 30 pg_wL (F_X0_work_276 k11 a0 a1 a3 a4 a5 h) 276 [(0, pR a0), (1, pR a1), (3, pI a3), (4, pI a4), (5, pI a5)] [] h := by
  unfold F_X0_work_276
  refine pg_goto (tgt := 11) dX0_work_276 rfl ?_
  exact pg_to (hk11 a0 a1 a3 a4 a5 h) [0, 1, 2, 3, 4] rfl
theorem e_X0_work_127 (l : Launch) (D : pg_D)  (k11 : Nat → Nat → Int32 → Int32 → Int32 → pg_H → Option (Int64 × pg_H)) (hk11 : ∀ (a0 : Nat) (a1 : Nat) (a3 : Int32) (a4 : Int32) (a5 : Int32) (h : pg_H), pg_EvF l D RX0 cX0_work 11 (some FieldType.long) "work" 1 30 pg_wL (k11 a0 a1 a3 a4 a5 h) 11 [(0, pR a0), (1, pR a1), (3, pI a3), (4, pI a4), (5, pI a5)] [] h) (a0 : Nat) (a1 : Nat) (a3 : Int32) (a4 : Int32) (a5 : Int32) (s0 : Int64) (s1 : Int32) (s2 : Nat) (h : pg_H) : pg_EvF l D RX0 cX0_work 11 (some FieldType.long) "work" 1 30 pg_wL (F_X0_work_127 k11 a0 a1 a3 a4 a5 s0 s1 s2 h) 127 [(0, pR a0), (1, pR a1), (3, pI a3), (4, pI a4), (5, pI a5)] [pL s0, pI s1, pR s2] h := by
  unfold F_X0_work_127
  refine pg_lastore dX0_work_127 (fun v1 => ?_)
  refine pg_iinc (lv' := [(4, pI (a4 + (1 : Int32))), (0, pR a0), (1, pR a1), (3, pI a3), (5, pI a5)]) dX0_work_128 3 rfl ci_1 (by decide) rfl ?_
  refine pg_goto (tgt := 276) dX0_work_131 rfl ?_
  exact pg_to (e_X0_work_276 l D k11 hk11 a0 a1 a3 (a4 + (1 : Int32)) a5 v1) [1, 2, 3, 0, 4] rfl
theorem e_X0_work_96 (l : Launch) (D : pg_D)  (k11 : Nat → Nat → Int32 → Int32 → Int32 → pg_H → Option (Int64 × pg_H)) (hk11 : ∀ (a0 : Nat) (a1 : Nat) (a3 : Int32) (a4 : Int32) (a5 : Int32) (h : pg_H), pg_EvF l D RX0 cX0_work 11 (some FieldType.long) "work" 1 30 pg_wL (k11 a0 a1 a3 a4 a5 h) 11 [(0, pR a0), (1, pR a1), (3, pI a3), (4, pI a4), (5, pI a5)] [] h) (a0 : Nat) (a1 : Nat) (a3 : Int32) (a4 : Int32) (a5 : Int32) (a6 : Int32) (a7 : Int32) (h : pg_H) : pg_EvF l D RX0 cX0_work 11 (some FieldType.long) "work" 1 30 pg_wL (F_X0_work_96 k11 a0 a1 a3 a4 a5 a6 a7 h) 96 [(0, pR a0), (1, pR a1), (3, pI a3), (4, pI a4), (5, pI a5), (6, pI a6), (7, pI a7)] [] h := by
  unfold F_X0_work_96
  refine pg_iload dX0_work_96 3 rfl ?_
  refine pg_bipush dX0_work_98 cb_64 ?_
  refine pg_icmp_ge (tgt := 276) dX0_work_100 rfl ?_ ?_
  · exact pg_to (e_X0_work_276 l D k11 hk11 a0 a1 a3 a4 a5 h) [0, 1, 2, 3, 4] rfl
  · refine pg_aload_n (i := 0) dX0_work_103 rfl 0 rfl ?_
    refine pg_getR dX0_work_104 fl_RX0_15 rfl (fun v1 => ?_)
    refine pg_iload dX0_work_107 3 rfl ?_
    refine pg_iload dX0_work_109 5 rfl ?_
    refine pg_if_ne (tgt := 120) dX0_work_111 rfl ?_ ?_
    · refine pg_aload_n (i := 0) dX0_work_120 rfl 0 rfl ?_
      refine pg_iload dX0_work_121 6 rfl ?_
      refine pg_callV_oI (As := [pI a7]) (rs := [pI a4, pR v1]) dX0_work_123 lk_RX0_87 vy_X0_askedOf nd_X0_askedOf (c_X0_askedOf l D h a0 a7) rfl rfl (Nat.le_of_ble_eq_true rfl) (by decide) (by decide) (fun v2 => ?_)
      refine pg_i2l dX0_work_126 ?_
      exact pg_to (e_X0_work_127 l D k11 hk11 a0 a1 a3 a4 a5 (v2).toInt64 a4 v1 h) [0, 1, 2, 3, 4] rfl
    · refine pg_iload dX0_work_114 6 rfl ?_
      refine pg_i2l dX0_work_116 ?_
      refine pg_goto (tgt := 127) dX0_work_117 rfl ?_
      exact pg_to (e_X0_work_127 l D k11 hk11 a0 a1 a3 a4 a5 (a7).toInt64 a4 v1 h) [0, 1, 2, 3, 4] rfl
theorem e_X0_work_208 (l : Launch) (D : pg_D)  (k11 : Nat → Nat → Int32 → Int32 → Int32 → pg_H → Option (Int64 × pg_H)) (hk11 : ∀ (a0 : Nat) (a1 : Nat) (a3 : Int32) (a4 : Int32) (a5 : Int32) (h : pg_H), pg_EvF l D RX0 cX0_work 11 (some FieldType.long) "work" 1 30 pg_wL (k11 a0 a1 a3 a4 a5 h) 11 [(0, pR a0), (1, pR a1), (3, pI a3), (4, pI a4), (5, pI a5)] [] h) (a0 : Nat) (a1 : Nat) (a3 : Int32) (a5 : Int32) (s0 : Int32) (h : pg_H) : pg_EvF l D RX0 cX0_work 11 (some FieldType.long) "work" 1 30 pg_wL (F_X0_work_208 k11 a0 a1 a3 a5 s0 h) 208 [(0, pR a0), (1, pR a1), (3, pI a3), (5, pI a5)] [pI s0] h := by
  unfold F_X0_work_208
  refine pg_istore (lv' := [(4, pI s0), (0, pR a0), (1, pR a1), (3, pI a3), (5, pI a5)]) dX0_work_208 (by decide) rfl ?_
  refine pg_goto (tgt := 276) dX0_work_210 rfl ?_
  exact pg_to (e_X0_work_276 l D k11 hk11 a0 a1 a3 s0 a5 h) [1, 2, 3, 0, 4] rfl
theorem e_X0_work_188 (l : Launch) (D : pg_D)  (k11 : Nat → Nat → Int32 → Int32 → Int32 → pg_H → Option (Int64 × pg_H)) (hk11 : ∀ (a0 : Nat) (a1 : Nat) (a3 : Int32) (a4 : Int32) (a5 : Int32) (h : pg_H), pg_EvF l D RX0 cX0_work 11 (some FieldType.long) "work" 1 30 pg_wL (k11 a0 a1 a3 a4 a5 h) 11 [(0, pR a0), (1, pR a1), (3, pI a3), (4, pI a4), (5, pI a5)] [] h) (a0 : Nat) (a1 : Nat) (a3 : Int32) (a4 : Int32) (a10 : Int32) (s0 : Int32) (h : pg_H) : pg_EvF l D RX0 cX0_work 11 (some FieldType.long) "work" 1 30 pg_wL (F_X0_work_188 k11 a0 a1 a3 a4 a10 s0 h) 188 [(0, pR a0), (1, pR a1), (3, pI a3), (4, pI a4), (10, pI a10)] [pI s0] h := by
  unfold F_X0_work_188
  refine pg_istore (lv' := [(5, pI s0), (0, pR a0), (1, pR a1), (3, pI a3), (4, pI a4), (10, pI a10)]) dX0_work_188 (by decide) rfl ?_
  refine pg_iload dX0_work_190 5 rfl ?_
  refine pg_if_eq (tgt := 200) dX0_work_192 rfl ?_ ?_
  · refine pg_iconst dX0_work_200 ci_0 ?_
    refine pg_iload dX0_work_201 4 rfl ?_
    refine pg_iconst dX0_work_203 ci_1 ?_
    refine pg_isub dX0_work_204 ?_
    refine pg_mmax dX0_work_205 pw3_30 pw_max1 pw_math pw_max2 (Nat.le_of_ble_eq_true rfl) (by decide) (by decide) ?_
    exact pg_to (e_X0_work_208 l D k11 hk11 a0 a1 a3 s0 (if (0 : Int32) < (a4 - (1 : Int32)) then (a4 - (1 : Int32)) else (0 : Int32)) h) [1, 2, 3, 0] rfl
  · refine pg_iload dX0_work_195 4 rfl ?_
    refine pg_goto (tgt := 208) dX0_work_197 rfl ?_
    exact pg_to (e_X0_work_208 l D k11 hk11 a0 a1 a3 s0 a4 h) [1, 2, 3, 0] rfl
theorem e_X0_work_169 (l : Launch) (D : pg_D)  (k11 : Nat → Nat → Int32 → Int32 → Int32 → pg_H → Option (Int64 × pg_H)) (hk11 : ∀ (a0 : Nat) (a1 : Nat) (a3 : Int32) (a4 : Int32) (a5 : Int32) (h : pg_H), pg_EvF l D RX0 cX0_work 11 (some FieldType.long) "work" 1 30 pg_wL (k11 a0 a1 a3 a4 a5 h) 11 [(0, pR a0), (1, pR a1), (3, pI a3), (4, pI a4), (5, pI a5)] [] h) (a0 : Nat) (a1 : Nat) (a3 : Int32) (a4 : Int32) (a5 : Int32) (a7 : Int32) (s0 : Int32) (h : pg_H) : pg_EvF l D RX0 cX0_work 11 (some FieldType.long) "work" 1 30 pg_wL (F_X0_work_169 k11 a0 a1 a3 a4 a5 a7 s0 h) 169 [(0, pR a0), (1, pR a1), (3, pI a3), (4, pI a4), (5, pI a5), (7, pI a7)] [pI s0] h := by
  unfold F_X0_work_169
  refine pg_istore (lv' := [(10, pI s0), (0, pR a0), (1, pR a1), (3, pI a3), (4, pI a4), (5, pI a5), (7, pI a7)]) dX0_work_169 (by decide) rfl ?_
  refine pg_iload dX0_work_171 0 rfl ?_
  refine pg_if_eq (tgt := 186) dX0_work_173 rfl ?_ ?_
  · refine pg_iload dX0_work_186 5 rfl ?_
    exact pg_to (e_X0_work_188 l D k11 hk11 a0 a1 a3 a4 s0 a5 h) [1, 2, 3, 4, 0] rfl
  · refine pg_iload dX0_work_176 5 rfl ?_
    refine pg_iload dX0_work_178 6 rfl ?_
    refine pg_mmax dX0_work_180 pw3_30 pw_max1 pw_math pw_max2 (Nat.le_of_ble_eq_true rfl) (by decide) (by decide) ?_
    refine pg_goto (tgt := 188) dX0_work_183 rfl ?_
    exact pg_to (e_X0_work_188 l D k11 hk11 a0 a1 a3 a4 s0 (if a5 < a7 then a7 else a5) h) [1, 2, 3, 4, 0] rfl
theorem e_X0_work_159 (l : Launch) (D : pg_D)  (k11 : Nat → Nat → Int32 → Int32 → Int32 → pg_H → Option (Int64 × pg_H)) (hk11 : ∀ (a0 : Nat) (a1 : Nat) (a3 : Int32) (a4 : Int32) (a5 : Int32) (h : pg_H), pg_EvF l D RX0 cX0_work 11 (some FieldType.long) "work" 1 30 pg_wL (k11 a0 a1 a3 a4 a5 h) 11 [(0, pR a0), (1, pR a1), (3, pI a3), (4, pI a4), (5, pI a5)] [] h) (a0 : Nat) (a1 : Nat) (a3 : Int32) (a4 : Int32) (a5 : Int32) (a7 : Int32) (s0 : Int32) (s1 : Int64) (h : pg_H) : pg_EvF l D RX0 cX0_work 11 (some FieldType.long) "work" 1 30 pg_wL (F_X0_work_159 k11 a0 a1 a3 a4 a5 a7 s0 s1 h) 159 [(0, pR a0), (1, pR a1), (3, pI a3), (4, pI a4), (5, pI a5), (7, pI a7)] [pI s0, pL s1] h := by
  unfold F_X0_work_159
  refine pg_i2l dX0_work_159 ?_
  refine pg_lcmp_ne (tgt := 168) dX0_work_160 dX0_work_161 rfl ?_ ?_
  · refine pg_iconst dX0_work_168 ci_0 ?_
    exact pg_to (e_X0_work_169 l D k11 hk11 a0 a1 a3 a4 a5 a7 (0 : Int32) h) [0, 1, 2, 3, 4, 5] rfl
  · refine pg_iconst dX0_work_164 ci_1 ?_
    refine pg_goto (tgt := 169) dX0_work_165 rfl ?_
    exact pg_to (e_X0_work_169 l D k11 hk11 a0 a1 a3 a4 a5 a7 (1 : Int32) h) [0, 1, 2, 3, 4, 5] rfl
theorem e_X0_work_146 (l : Launch) (D : pg_D)  (k11 : Nat → Nat → Int32 → Int32 → Int32 → pg_H → Option (Int64 × pg_H)) (hk11 : ∀ (a0 : Nat) (a1 : Nat) (a3 : Int32) (a4 : Int32) (a5 : Int32) (h : pg_H), pg_EvF l D RX0 cX0_work 11 (some FieldType.long) "work" 1 30 pg_wL (k11 a0 a1 a3 a4 a5 h) 11 [(0, pR a0), (1, pR a1), (3, pI a3), (4, pI a4), (5, pI a5)] [] h) (a0 : Nat) (a1 : Nat) (a3 : Int32) (a4 : Int32) (a5 : Int32) (a6 : Int32) (a7 : Int32) (a8 : Int64) (h : pg_H) : pg_EvF l D RX0 cX0_work 11 (some FieldType.long) "work" 1 30 pg_wL (F_X0_work_146 k11 a0 a1 a3 a4 a5 a6 a7 a8 h) 146 [(0, pR a0), (1, pR a1), (3, pI a3), (4, pI a4), (5, pI a5), (6, pI a6), (7, pI a7), (8, pL a8)] [] h := by
  unfold F_X0_work_146
  refine pg_lload dX0_work_146 7 rfl ?_
  refine pg_iload dX0_work_148 5 rfl ?_
  refine pg_iconst dX0_work_150 ci_2 ?_
  refine pg_icmp_ne (tgt := 158) dX0_work_151 rfl ?_ ?_
  · refine pg_iconst dX0_work_158 ci_0 ?_
    exact pg_to (e_X0_work_159 l D k11 hk11 a0 a1 a3 a4 a5 a7 (0 : Int32) a8 h) [0, 1, 2, 3, 4, 6] rfl
  · refine pg_iconst dX0_work_154 ci_1 ?_
    refine pg_goto (tgt := 159) dX0_work_155 rfl ?_
    exact pg_to (e_X0_work_159 l D k11 hk11 a0 a1 a3 a4 a5 a7 (1 : Int32) a8 h) [0, 1, 2, 3, 4, 6] rfl
theorem e_X0_work_82 (l : Launch) (D : pg_D)  (k11 : Nat → Nat → Int32 → Int32 → Int32 → pg_H → Option (Int64 × pg_H)) (hk11 : ∀ (a0 : Nat) (a1 : Nat) (a3 : Int32) (a4 : Int32) (a5 : Int32) (h : pg_H), pg_EvF l D RX0 cX0_work 11 (some FieldType.long) "work" 1 30 pg_wL (k11 a0 a1 a3 a4 a5 h) 11 [(0, pR a0), (1, pR a1), (3, pI a3), (4, pI a4), (5, pI a5)] [] h) (a0 : Nat) (a1 : Nat) (a3 : Int32) (a4 : Int32) (a6 : Int32) (a7 : Int32) (a8 : Int64) (s0 : Int32) (s1 : Int32) (h : pg_H) : pg_EvF l D RX0 cX0_work 11 (some FieldType.long) "work" 1 30 pg_wL (F_X0_work_82 k11 a0 a1 a3 a4 a6 a7 a8 s0 s1 h) 82 [(0, pR a0), (1, pR a1), (3, pI a3), (4, pI a4), (6, pI a6), (7, pI a7), (8, pL a8)] [pI s0, pI s1] h := by
  unfold F_X0_work_82
  refine pg_iadd dX0_work_82 ?_
  refine pg_letI (fun v1 => ?_)
  refine pg_istore (lv' := [(5, pI v1), (0, pR a0), (1, pR a1), (3, pI a3), (4, pI a4), (6, pI a6), (7, pI a7), (8, pL a8)]) dX0_work_83 (by decide) rfl ?_
  refine pg_iload dX0_work_85 5 rfl ?_
  refine pg_if_eq (tgt := 96) dX0_work_87 rfl ?_ ?_
  · exact pg_to (e_X0_work_96 l D k11 hk11 a0 a1 a3 a4 v1 a6 a7 h) [1, 2, 3, 4, 0, 5, 6] rfl
  · refine pg_iload dX0_work_90 5 rfl ?_
    refine pg_iconst dX0_work_92 ci_1 ?_
    refine pg_icmp_ne (tgt := 134) dX0_work_93 rfl ?_ ?_
    · refine pg_iload dX0_work_134 5 rfl ?_
      refine pg_iconst dX0_work_136 ci_2 ?_
      refine pg_icmp_eq (tgt := 146) dX0_work_137 rfl ?_ ?_
      · exact pg_to (e_X0_work_146 l D k11 hk11 a0 a1 a3 a4 v1 a6 a7 a8 h) [1, 2, 3, 4, 0, 5, 6, 7] rfl
      · refine pg_iload dX0_work_140 5 rfl ?_
        refine pg_iconst dX0_work_142 ci_3 ?_
        refine pg_icmp_ne (tgt := 213) dX0_work_143 rfl ?_ ?_
        · refine pg_iload dX0_work_213 5 rfl ?_
          refine pg_bipush dX0_work_215 cb_11 ?_
          refine pg_icmp_ne (tgt := 241) dX0_work_217 rfl ?_ ?_
          · refine pg_iload dX0_work_241 4 rfl ?_
            refine pg_iconst dX0_work_243 ci_1 ?_
            refine pg_icmp_le (tgt := 276) dX0_work_244 rfl ?_ ?_
            · exact pg_to (e_X0_work_276 l D k11 hk11 a0 a1 a3 a4 v1 h) [1, 2, 3, 4, 0] rfl
            · refine pg_iinc (lv' := [(4, pI (a4 + (-1 : Int32))), (5, pI v1), (0, pR a0), (1, pR a1), (3, pI a3), (6, pI a6), (7, pI a7), (8, pL a8)]) dX0_work_247 4 rfl ci_m1 (by decide) rfl ?_
              refine pg_aload_n (i := 0) dX0_work_250 rfl 2 rfl ?_
              refine pg_getR dX0_work_251 fl_RX0_15 rfl (fun v2 => ?_)
              refine pg_iload dX0_work_254 0 rfl ?_
              refine pg_iconst dX0_work_256 ci_1 ?_
              refine pg_isub dX0_work_257 ?_
              refine pg_aload_n (i := 0) dX0_work_258 rfl 2 rfl ?_
              refine pg_iload dX0_work_259 5 rfl ?_
              refine pg_aload_n (i := 0) dX0_work_261 rfl 2 rfl ?_
              refine pg_getR dX0_work_262 fl_RX0_15 rfl (fun v3 => ?_)
              refine pg_iload dX0_work_265 0 rfl ?_
              refine pg_iconst dX0_work_267 ci_1 ?_
              refine pg_isub dX0_work_268 ?_
              refine pg_laload dX0_work_269 (fun v4 => ?_)
              refine pg_lload dX0_work_270 7 rfl ?_
              refine pg_callV_wL (As := [pI a6, pL v4, pL a8]) (rs := [pI ((a4 + (-1 : Int32)) - (1 : Int32)), pR v2]) dX0_work_272 lk_RX0_90 vy_X0_combined nd_X0_combined (c_X0_combined l D a0 a6 v4 a8 h) rfl rfl (Nat.le_of_ble_eq_true rfl) (by decide) (by decide) (fun v5 => ?_)
              refine pg_lastore dX0_work_275 (fun v6 => ?_)
              exact pg_to (e_X0_work_276 l D k11 hk11 a0 a1 a3 (a4 + (-1 : Int32)) v1 v6) [2, 3, 4, 0, 1] rfl
          · refine pg_iload dX0_work_220 4 rfl ?_
            refine pg_if_le (tgt := 276) dX0_work_222 rfl ?_ ?_
            · exact pg_to (e_X0_work_276 l D k11 hk11 a0 a1 a3 a4 v1 h) [1, 2, 3, 4, 0] rfl
            · refine pg_aload_n (i := 0) dX0_work_225 rfl 1 rfl ?_
              refine pg_getR dX0_work_226 fl_RX0_15 rfl (fun v7 => ?_)
              refine pg_iload dX0_work_229 4 rfl ?_
              refine pg_iconst dX0_work_231 ci_1 ?_
              refine pg_isub dX0_work_232 ?_
              refine pg_lconst dX0_work_233 cl_1 ?_
              refine pg_lload dX0_work_234 7 rfl ?_
              refine pg_lsub dX0_work_236 ?_
              refine pg_lastore dX0_work_237 (fun v8 => ?_)
              refine pg_goto (tgt := 276) dX0_work_238 rfl ?_
              exact pg_to (e_X0_work_276 l D k11 hk11 a0 a1 a3 a4 v1 v8) [1, 2, 3, 4, 0] rfl
        · exact pg_to (e_X0_work_146 l D k11 hk11 a0 a1 a3 a4 v1 a6 a7 a8 h) [1, 2, 3, 4, 0, 5, 6, 7] rfl
    · exact pg_to (e_X0_work_96 l D k11 hk11 a0 a1 a3 a4 v1 a6 a7 h) [1, 2, 3, 4, 0, 5, 6] rfl
theorem e_X0_work_67 (l : Launch) (D : pg_D)  (k11 : Nat → Nat → Int32 → Int32 → Int32 → pg_H → Option (Int64 × pg_H)) (hk11 : ∀ (a0 : Nat) (a1 : Nat) (a3 : Int32) (a4 : Int32) (a5 : Int32) (h : pg_H), pg_EvF l D RX0 cX0_work 11 (some FieldType.long) "work" 1 30 pg_wL (k11 a0 a1 a3 a4 a5 h) 11 [(0, pR a0), (1, pR a1), (3, pI a3), (4, pI a4), (5, pI a5)] [] h) (a0 : Nat) (a1 : Nat) (a3 : Int32) (a4 : Int32) (a5 : Int32) (a6 : Int32) (a7 : Int32) (s0 : Int64) (h : pg_H) : pg_EvF l D RX0 cX0_work 11 (some FieldType.long) "work" 1 30 pg_wL (F_X0_work_67 k11 a0 a1 a3 a4 a5 a6 a7 s0 h) 67 [(0, pR a0), (1, pR a1), (3, pI a3), (4, pI a4), (5, pI a5), (6, pI a6), (7, pI a7)] [pL s0] h := by
  unfold F_X0_work_67
  refine pg_lstore (lv' := [(8, pL s0), (0, pR a0), (1, pR a1), (3, pI a3), (4, pI a4), (5, pI a5), (6, pI a6), (7, pI a7)]) dX0_work_67 (by decide) rfl ?_
  refine pg_iload dX0_work_69 5 rfl ?_
  refine pg_iload dX0_work_71 6 rfl ?_
  refine pg_iconst dX0_work_73 ci_4 ?_
  refine pg_icmp_ge (tgt := 81) dX0_work_74 rfl ?_ ?_
  · refine pg_iconst dX0_work_81 ci_1 ?_
    exact pg_to (e_X0_work_82 l D k11 hk11 a0 a1 a3 a4 a6 a7 s0 (1 : Int32) a5 h) [1, 2, 3, 4, 6, 7, 0] rfl
  · refine pg_iconst dX0_work_77 ci_2 ?_
    refine pg_goto (tgt := 82) dX0_work_78 rfl ?_
    exact pg_to (e_X0_work_82 l D k11 hk11 a0 a1 a3 a4 a6 a7 s0 (2 : Int32) a5 h) [1, 2, 3, 4, 6, 7, 0] rfl
theorem e_X0_work_66 (l : Launch) (D : pg_D)  (k11 : Nat → Nat → Int32 → Int32 → Int32 → pg_H → Option (Int64 × pg_H)) (hk11 : ∀ (a0 : Nat) (a1 : Nat) (a3 : Int32) (a4 : Int32) (a5 : Int32) (h : pg_H), pg_EvF l D RX0 cX0_work 11 (some FieldType.long) "work" 1 30 pg_wL (k11 a0 a1 a3 a4 a5 h) 11 [(0, pR a0), (1, pR a1), (3, pI a3), (4, pI a4), (5, pI a5)] [] h) (a0 : Nat) (a1 : Nat) (a3 : Int32) (a4 : Int32) (a5 : Int32) (a6 : Int32) (a7 : Int32) (h : pg_H) : pg_EvF l D RX0 cX0_work 11 (some FieldType.long) "work" 1 30 pg_wL (F_X0_work_66 k11 a0 a1 a3 a4 a5 a6 a7 h) 66 [(0, pR a0), (1, pR a1), (3, pI a3), (4, pI a4), (5, pI a5), (6, pI a6), (7, pI a7)] [] h := by
  unfold F_X0_work_66
  refine pg_lconst dX0_work_66 cl_0 ?_
  exact pg_to (e_X0_work_67 l D k11 hk11 a0 a1 a3 a4 a5 a6 a7 (0 : Int64) h) [0, 1, 2, 3, 4, 5, 6] rfl
theorem e_X0_work_11 (l : Launch) (D : pg_D)   : ∀ (n : Nat) (a0 : Nat) (a1 : Nat) (a3 : Int32) (a4 : Int32) (a5 : Int32) (h : pg_H), pg_EvF l D RX0 cX0_work 11 (some FieldType.long) "work" 1 30 pg_wL (F_X0_work_11 n a0 a1 a3 a4 a5 h) 11 [(0, pR a0), (1, pR a1), (3, pI a3), (4, pI a4), (5, pI a5)] [] h := by
  intro n
  induction n with
  | zero => intro a0 a1 a3 a4 a5 h; exact pg_none
  | succ n ih =>
    intro a0 a1 a3 a4 a5 h
    rw [F_X0_work_11]
    refine pg_iload dX0_work_11 4 rfl ?_
    refine pg_iload_n (i := 3) dX0_work_13 rfl 2 rfl ?_
    refine pg_icmp_ge (tgt := 279) dX0_work_14 rfl ?_ ?_
    · exact pg_to (e_X0_work_279 l D a0 a4 h) [0, 3] rfl
    · refine pg_aload_n (i := 0) dX0_work_17 rfl 0 rfl ?_
      refine pg_getI dX0_work_18 fl_RX0_70 rfl (fun v1 => ?_)
      refine pg_if_ne (tgt := 279) dX0_work_21 rfl ?_ ?_
      · exact pg_to (e_X0_work_279 l D a0 a4 h) [0, 3] rfl
      · refine pg_aload_n (i := 1) dX0_work_24 rfl 1 rfl ?_
        refine pg_iload dX0_work_25 4 rfl ?_
        refine pg_callV_oI (As := [pI a5]) (rs := []) dX0_work_27 lk_RX0_58 vy_X9_codeAt nd_X9_codeAt (c_X9_codeAt l D h a1 a5) rfl rfl (Nat.le_of_ble_eq_true rfl) (by decide) (by decide) (fun v2 => ?_)
        refine pg_istore (lv' := [(6, pI v2), (0, pR a0), (1, pR a1), (3, pI a3), (4, pI a4), (5, pI a5)]) dX0_work_30 (by decide) rfl ?_
        refine pg_aload_n (i := 1) dX0_work_32 rfl 2 rfl ?_
        refine pg_iload dX0_work_33 5 rfl ?_
        refine pg_iconst dX0_work_35 ci_1 ?_
        refine pg_iadd dX0_work_36 ?_
        refine pg_callV_oI (As := [pI (a5 + (1 : Int32))]) (rs := []) dX0_work_37 lk_RX0_58 vy_X9_codeAt nd_X9_codeAt (c_X9_codeAt l D h a1 (a5 + (1 : Int32))) rfl rfl (Nat.le_of_ble_eq_true rfl) (by decide) (by decide) (fun v3 => ?_)
        refine pg_istore (lv' := [(7, pI v3), (6, pI v2), (0, pR a0), (1, pR a1), (3, pI a3), (4, pI a4), (5, pI a5)]) dX0_work_40 (by decide) rfl ?_
        refine pg_iload dX0_work_42 5 rfl ?_
        refine pg_if_le (tgt := 66) dX0_work_44 rfl ?_ ?_
        · exact pg_to (e_X0_work_66 l D (F_X0_work_11 n) ih a0 a1 a3 a4 a5 v2 v3 h) [2, 3, 4, 5, 6, 1, 0] rfl
        · refine pg_iload dX0_work_47 5 rfl ?_
          refine pg_bipush dX0_work_49 cb_64 ?_
          refine pg_icmp_gt (tgt := 66) dX0_work_51 rfl ?_ ?_
          · exact pg_to (e_X0_work_66 l D (F_X0_work_11 n) ih a0 a1 a3 a4 a5 v2 v3 h) [2, 3, 4, 5, 6, 1, 0] rfl
          · refine pg_aload_n (i := 0) dX0_work_54 rfl 2 rfl ?_
            refine pg_getR dX0_work_55 fl_RX0_15 rfl (fun v4 => ?_)
            refine pg_iload dX0_work_58 5 rfl ?_
            refine pg_iconst dX0_work_60 ci_1 ?_
            refine pg_isub dX0_work_61 ?_
            refine pg_laload dX0_work_62 (fun v5 => ?_)
            refine pg_goto (tgt := 67) dX0_work_63 rfl ?_
            exact pg_to (e_X0_work_67 l D (F_X0_work_11 n) ih a0 a1 a3 a4 a5 v2 v3 v5 h) [2, 3, 4, 5, 6, 1, 0] rfl
theorem e_X0_work (l : Launch) (D : pg_D)  (a0 : Nat) (a1 : Nat) (a2 : Int32) (a3 : Int32) (h : pg_H) : pg_EvF l D RX0 cX0_work 11 (some FieldType.long) "work" 1 30 pg_wL (F_X0_work a0 a1 a2 a3 h) 0 [(0, pR a0), (1, pR a1), (2, pI a2), (3, pI a3)] [] h := by
  unfold F_X0_work
  refine pg_iconst dX0_work_0 ci_0 ?_
  refine pg_istore (lv' := [(4, pI (0 : Int32)), (0, pR a0), (1, pR a1), (2, pI a2), (3, pI a3)]) dX0_work_1 (by decide) rfl ?_
  refine pg_iload_n (i := 2) dX0_work_3 rfl 3 rfl ?_
  refine pg_istore (lv' := [(5, pI a2), (4, pI (0 : Int32)), (0, pR a0), (1, pR a1), (2, pI a2), (3, pI a3)]) dX0_work_4 (by decide) rfl ?_
  refine pg_aload_n (i := 0) dX0_work_6 rfl 2 rfl ?_
  refine pg_iconst dX0_work_7 ci_0 ?_
  refine pg_putZ dX0_work_8 fl_RX0_70 (fun z => by cases z) (fun v1 => ?_)
  exact pg_to (e_X0_work_11 l D pg_fuel a0 a1 a3 (0 : Int32) a2 v1) [2, 3, 5, 1, 0] rfl
theorem c_X0_work (l : Launch) (D : pg_D) (a0 : Nat) (a1 : Nat) (a2 : Int32) (a3 : Int32) (h : pg_H) : ∀ x, F_X0_work a0 a1 a2 a3 h = some x → pg_Ct l D yX0_work cX0_work 11 (some FieldType.long) 1 30 [pR a0, pR a1, pI a2, pI a3] h (pg_wL x) :=
  pg_Ct.of pn_RX0 (Nat.le_of_ble_eq_true rfl) (e_X0_work l D a0 a1 a2 a3 h)
def F_X0_passes (a0 : Nat) (a1 : Nat) (a2 : Int32) (a3 : Int32) (h : pg_H) : Option (Int32 × pg_H) := (if a2 < a3 then Option.bind (pg_rcv 0 h a0 (F_X0_work a0 a1 a2 a3 h)) fun v1 => (if v1.1 = (1 : Int64) then Option.bind (pg_gI 0 2 v1.2 a0) fun v2 => (if v2 = 0 then (some ((1 : Int32), v1.2)) else (some ((0 : Int32), v1.2))) else (some ((0 : Int32), v1.2))) else (some ((1 : Int32), h)))
theorem e_X0_passes (l : Launch) (D : pg_D)  (a0 : Nat) (a1 : Nat) (a2 : Int32) (a3 : Int32) (h : pg_H) : pg_EvF l D RX0 cX0_passes 4 (some FieldType.boolean) "passes" 2 60 pg_wI (F_X0_passes a0 a1 a2 a3 h) 0 [(0, pR a0), (1, pR a1), (2, pI a2), (3, pI a3)] [] h := by
  unfold F_X0_passes
  refine pg_iload_n (i := 2) dX0_passes_0 rfl 2 rfl ?_
  refine pg_iload_n (i := 3) dX0_passes_1 rfl 3 rfl ?_
  refine pg_icmp_ge (tgt := 24) dX0_passes_2 rfl ?_ ?_
  · refine pg_iconst dX0_passes_24 ci_1 ?_
    refine pg_goto (tgt := 29) dX0_passes_25 rfl ?_
    exact pg_zret dX0_passes_29 rfl (Or.inr rfl) rfl
  · refine pg_aload_n (i := 0) dX0_passes_5 rfl 0 rfl ?_
    refine pg_aload_n (i := 1) dX0_passes_6 rfl 1 rfl ?_
    refine pg_iload_n (i := 2) dX0_passes_7 rfl 2 rfl ?_
    refine pg_iload_n (i := 3) dX0_passes_8 rfl 3 rfl ?_
    refine pg_callV_wL (As := [pR a1, pI a2, pI a3]) (rs := []) dX0_passes_9 lk_RX0_66 vy_X0_work nd_X0_work (c_X0_work l D a0 a1 a2 a3 h) rfl rfl (Nat.le_of_ble_eq_true rfl) (by decide) (by decide) (fun v1 => ?_)
    refine pg_lconst dX0_passes_12 cl_1 ?_
    refine pg_lcmp_ne (tgt := 28) dX0_passes_13 dX0_passes_14 rfl ?_ ?_
    · refine pg_iconst dX0_passes_28 ci_0 ?_
      exact pg_zret dX0_passes_29 rfl (Or.inl rfl) rfl
    · refine pg_aload_n (i := 0) dX0_passes_17 rfl 0 rfl ?_
      refine pg_getI dX0_passes_18 fl_RX0_70 rfl (fun v2 => ?_)
      refine pg_if_ne (tgt := 28) dX0_passes_21 rfl ?_ ?_
      · refine pg_iconst dX0_passes_28 ci_0 ?_
        exact pg_zret dX0_passes_29 rfl (Or.inl rfl) rfl
      · refine pg_iconst dX0_passes_24 ci_1 ?_
        refine pg_goto (tgt := 29) dX0_passes_25 rfl ?_
        exact pg_zret dX0_passes_29 rfl (Or.inr rfl) rfl
theorem c_X0_passes (l : Launch) (D : pg_D) (a0 : Nat) (a1 : Nat) (a2 : Int32) (a3 : Int32) (h : pg_H) : ∀ x, F_X0_passes a0 a1 a2 a3 h = some x → pg_Ct l D yX0_passes cX0_passes 4 (some FieldType.boolean) 2 60 [pR a0, pR a1, pI a2, pI a3] h (pg_wI x) :=
  pg_Ct.of pn_RX0 (Nat.le_of_ble_eq_true rfl) (e_X0_passes l D a0 a1 a2 a3 h)
def F_X0_told_109 (k20 : Nat → Nat → Int32 → Int32 → Int32 → Int32 → pg_H → Option (Int32 × pg_H)) (a0 : Nat) (a1 : Nat) (a2 : Int32) (a4 : Int32) (a5 : Int32) (a6 : Int32) (a8 : Int32) (h : pg_H) : Option (Int32 × pg_H) := pg_let (if (a6 + (3 : Int32)) < a8 then a8 else (a6 + (3 : Int32))) fun v1 => (k20 a0 a1 a2 a4 a5 v1 h)
def F_X0_told_107 (k20 : Nat → Nat → Int32 → Int32 → Int32 → Int32 → pg_H → Option (Int32 × pg_H)) (a0 : Nat) (a1 : Nat) (a2 : Int32) (a5 : Int32) (a6 : Int32) (a8 : Int32) (s0 : Int32) (h : pg_H) : Option (Int32 × pg_H) := (F_X0_told_109 k20 a0 a1 a2 s0 a5 a6 a8 h)
def F_X0_told_20  : Nat → Nat → Nat → Int32 → Int32 → Int32 → Int32 → pg_H → Option (Int32 × pg_H)
  | 0 => fun _ _ _ _ _ _ _ => none
  | n + 1 => fun a0 a1 a2 a4 a5 a6 h => (if a6 < a5 then Option.bind (pg_rcv 9 h a1 (F_X9_codeAt h a1 (a6 + (1 : Int32)))) fun v1 => Option.bind (pg_rcv 9 h a1 (F_X9_codeAt h a1 (a6 + (2 : Int32)))) fun v2 => Option.bind (pg_rcv 9 h a1 (F_X9_codeAt h a1 a6)) fun v3 => (if v3 = a2 then Option.bind (pg_rcv 0 h a0 (F_X0_passes a0 a1 v1 v2 h)) fun v4 => (if v4.1 = 0 then (F_X0_told_109 (F_X0_told_20 n) a0 a1 a2 a4 a5 a6 v2 v4.2) else Option.bind (pg_rcv 0 v4.2 a0 (F_X0_work a0 a1 (a6 + (3 : Int32)) v1 v4.2)) fun v5 => Option.bind (pg_gI 0 2 v5.2 a0) fun v6 => (if v6 = 0 then (F_X0_told_107 (F_X0_told_20 n) a0 a1 a2 a5 a6 v2 ((if (if v5.1 < (100 : Int64) then v5.1 else (100 : Int64)) < (0 : Int64) then (0 : Int64) else (if v5.1 < (100 : Int64) then v5.1 else (100 : Int64)))).toInt32 v5.2) else (F_X0_told_107 (F_X0_told_20 n) a0 a1 a2 a5 a6 v2 a4 v5.2))) else (F_X0_told_109 (F_X0_told_20 n) a0 a1 a2 a4 a5 a6 v2 h)) else (some (a4, h)))
def F_X0_told_15 (a0 : Nat) (a1 : Nat) (a2 : Int32) (a4 : Int32) (s0 : Int32) (h : pg_H) : Option (Int32 × pg_H) := (F_X0_told_20 pg_fuel a0 a1 a2 a4 s0 (0 : Int32) h)
def F_X0_told (a0 : Nat) (a1 : Nat) (a2 : Int32) (a3 : Int32) (h : pg_H) : Option (Int32 × pg_H) := (if a1 = 0 then (F_X0_told_15 a0 a1 a2 a3 (0 : Int32) h) else Option.bind (pg_rcv 9 h a1 (F_X9_length h a1)) fun v1 => (F_X0_told_15 a0 a1 a2 a3 v1 h))
theorem e_X0_told_109 (l : Launch) (D : pg_D)  (k20 : Nat → Nat → Int32 → Int32 → Int32 → Int32 → pg_H → Option (Int32 × pg_H)) (hk20 : ∀ (a0 : Nat) (a1 : Nat) (a2 : Int32) (a4 : Int32) (a5 : Int32) (a6 : Int32) (h : pg_H), pg_EvF l D RX0 cX0_told 11 (some FieldType.int) "told" 3 83 pg_wI (k20 a0 a1 a2 a4 a5 a6 h) 20 [(0, pR a0), (1, pR a1), (2, pI a2), (4, pI a4), (5, pI a5), (6, pI a6)] [] h) (a0 : Nat) (a1 : Nat) (a2 : Int32) (a4 : Int32) (a5 : Int32) (a6 : Int32) (a8 : Int32) (h : pg_H) : pg_EvF l D RX0 cX0_told 11 (some FieldType.int) "told" 3 83 pg_wI (F_X0_told_109 k20 a0 a1 a2 a4 a5 a6 a8 h) 109 [(0, pR a0), (1, pR a1), (2, pI a2), (4, pI a4), (5, pI a5), (6, pI a6), (8, pI a8)] [] h := by
  unfold F_X0_told_109
  refine pg_iload dX0_told_109 5 rfl ?_
  refine pg_iconst dX0_told_111 ci_3 ?_
  refine pg_iadd dX0_told_112 ?_
  refine pg_iload dX0_told_113 6 rfl ?_
  refine pg_mmax dX0_told_115 pw3_30 pw_max1 pw_math pw_max2 (Nat.le_of_ble_eq_true rfl) (by decide) (by decide) ?_
  refine pg_letI (fun v1 => ?_)
  refine pg_istore (lv' := [(6, pI v1), (0, pR a0), (1, pR a1), (2, pI a2), (4, pI a4), (5, pI a5), (8, pI a8)]) dX0_told_118 (by decide) rfl ?_
  refine pg_goto (tgt := 20) dX0_told_120 rfl ?_
  exact pg_to (hk20 a0 a1 a2 a4 a5 v1 h) [1, 2, 3, 4, 5, 0] rfl
theorem e_X0_told_107 (l : Launch) (D : pg_D)  (k20 : Nat → Nat → Int32 → Int32 → Int32 → Int32 → pg_H → Option (Int32 × pg_H)) (hk20 : ∀ (a0 : Nat) (a1 : Nat) (a2 : Int32) (a4 : Int32) (a5 : Int32) (a6 : Int32) (h : pg_H), pg_EvF l D RX0 cX0_told 11 (some FieldType.int) "told" 3 83 pg_wI (k20 a0 a1 a2 a4 a5 a6 h) 20 [(0, pR a0), (1, pR a1), (2, pI a2), (4, pI a4), (5, pI a5), (6, pI a6)] [] h) (a0 : Nat) (a1 : Nat) (a2 : Int32) (a5 : Int32) (a6 : Int32) (a8 : Int32) (s0 : Int32) (h : pg_H) : pg_EvF l D RX0 cX0_told 11 (some FieldType.int) "told" 3 83 pg_wI (F_X0_told_107 k20 a0 a1 a2 a5 a6 a8 s0 h) 107 [(0, pR a0), (1, pR a1), (2, pI a2), (5, pI a5), (6, pI a6), (8, pI a8)] [pI s0] h := by
  unfold F_X0_told_107
  refine pg_istore (lv' := [(4, pI s0), (0, pR a0), (1, pR a1), (2, pI a2), (5, pI a5), (6, pI a6), (8, pI a8)]) dX0_told_107 (by decide) rfl ?_
  exact pg_to (e_X0_told_109 l D k20 hk20 a0 a1 a2 s0 a5 a6 a8 h) [1, 2, 3, 0, 4, 5, 6] rfl
theorem e_X0_told_20 (l : Launch) (D : pg_D)   : ∀ (n : Nat) (a0 : Nat) (a1 : Nat) (a2 : Int32) (a4 : Int32) (a5 : Int32) (a6 : Int32) (h : pg_H), pg_EvF l D RX0 cX0_told 11 (some FieldType.int) "told" 3 83 pg_wI (F_X0_told_20 n a0 a1 a2 a4 a5 a6 h) 20 [(0, pR a0), (1, pR a1), (2, pI a2), (4, pI a4), (5, pI a5), (6, pI a6)] [] h := by
  intro n
  induction n with
  | zero => intro a0 a1 a2 a4 a5 a6 h; exact pg_none
  | succ n ih =>
    intro a0 a1 a2 a4 a5 a6 h
    rw [F_X0_told_20]
    refine pg_iload dX0_told_20 5 rfl ?_
    refine pg_iload dX0_told_22 4 rfl ?_
    refine pg_icmp_ge (tgt := 123) dX0_told_24 rfl ?_ ?_
    · refine pg_iload dX0_told_123 3 rfl ?_
      exact pg_iret dX0_told_125 rfl rfl
    · refine pg_aload_n (i := 1) dX0_told_27 rfl 1 rfl ?_
      refine pg_iload dX0_told_28 5 rfl ?_
      refine pg_iconst dX0_told_30 ci_1 ?_
      refine pg_iadd dX0_told_31 ?_
      refine pg_callV_oI (As := [pI (a6 + (1 : Int32))]) (rs := []) dX0_told_32 lk_RX0_58 vy_X9_codeAt nd_X9_codeAt (c_X9_codeAt l D h a1 (a6 + (1 : Int32))) rfl rfl (Nat.le_of_ble_eq_true rfl) (by decide) (by decide) (fun v1 => ?_)
      refine pg_istore (lv' := [(7, pI v1), (0, pR a0), (1, pR a1), (2, pI a2), (4, pI a4), (5, pI a5), (6, pI a6)]) dX0_told_35 (by decide) rfl ?_
      refine pg_aload_n (i := 1) dX0_told_37 rfl 2 rfl ?_
      refine pg_iload dX0_told_38 6 rfl ?_
      refine pg_iconst dX0_told_40 ci_2 ?_
      refine pg_iadd dX0_told_41 ?_
      refine pg_callV_oI (As := [pI (a6 + (2 : Int32))]) (rs := []) dX0_told_42 lk_RX0_58 vy_X9_codeAt nd_X9_codeAt (c_X9_codeAt l D h a1 (a6 + (2 : Int32))) rfl rfl (Nat.le_of_ble_eq_true rfl) (by decide) (by decide) (fun v2 => ?_)
      refine pg_istore (lv' := [(8, pI v2), (7, pI v1), (0, pR a0), (1, pR a1), (2, pI a2), (4, pI a4), (5, pI a5), (6, pI a6)]) dX0_told_45 (by decide) rfl ?_
      refine pg_aload_n (i := 1) dX0_told_47 rfl 3 rfl ?_
      refine pg_iload dX0_told_48 7 rfl ?_
      refine pg_callV_oI (As := [pI a6]) (rs := []) dX0_told_50 lk_RX0_58 vy_X9_codeAt nd_X9_codeAt (c_X9_codeAt l D h a1 a6) rfl rfl (Nat.le_of_ble_eq_true rfl) (by decide) (by decide) (fun v3 => ?_)
      refine pg_iload_n (i := 2) dX0_told_53 rfl 4 rfl ?_
      refine pg_icmp_ne (tgt := 109) dX0_told_54 rfl ?_ ?_
      · exact pg_to (e_X0_told_109 l D (F_X0_told_20 n) ih a0 a1 a2 a4 a5 a6 v2 h) [2, 3, 4, 5, 6, 7, 0] rfl
      · refine pg_aload_n (i := 0) dX0_told_57 rfl 2 rfl ?_
        refine pg_aload_n (i := 1) dX0_told_58 rfl 3 rfl ?_
        refine pg_iload dX0_told_59 1 rfl ?_
        refine pg_iload dX0_told_61 0 rfl ?_
        refine pg_callV_wI (As := [pR a1, pI v1, pI v2]) (rs := []) dX0_told_63 lk_RX0_62 vy_X0_passes nd_X0_passes (c_X0_passes l D a0 a1 v1 v2 h) rfl rfl (Nat.le_of_ble_eq_true rfl) (by decide) (by decide) (fun v4 => ?_)
        refine pg_if_eq (tgt := 109) dX0_told_66 rfl ?_ ?_
        · exact pg_to (e_X0_told_109 l D (F_X0_told_20 n) ih a0 a1 a2 a4 a5 a6 v2 v4.2) [2, 3, 4, 5, 6, 7, 0] rfl
        · refine pg_aload_n (i := 0) dX0_told_69 rfl 2 rfl ?_
          refine pg_aload_n (i := 1) dX0_told_70 rfl 3 rfl ?_
          refine pg_iload dX0_told_71 7 rfl ?_
          refine pg_iconst dX0_told_73 ci_3 ?_
          refine pg_iadd dX0_told_74 ?_
          refine pg_iload dX0_told_75 1 rfl ?_
          refine pg_callV_wL (As := [pR a1, pI (a6 + (3 : Int32)), pI v1]) (rs := []) dX0_told_77 lk_RX0_66 vy_X0_work nd_X0_work (c_X0_work l D a0 a1 (a6 + (3 : Int32)) v1 v4.2) rfl rfl (Nat.le_of_ble_eq_true rfl) (by decide) (by decide) (fun v5 => ?_)
          refine pg_lstore (lv' := [(9, pL v5.1), (8, pI v2), (7, pI v1), (0, pR a0), (1, pR a1), (2, pI a2), (4, pI a4), (5, pI a5), (6, pI a6)]) dX0_told_80 (by decide) rfl ?_
          refine pg_aload_n (i := 0) dX0_told_82 rfl 3 rfl ?_
          refine pg_getI dX0_told_83 fl_RX0_70 rfl (fun v6 => ?_)
          refine pg_if_eq (tgt := 94) dX0_told_86 rfl ?_ ?_
          · refine pg_lconst dX0_told_94 cl_0 ?_
            refine pg_ldc2 (v := (100 : Int64)) dX0_told_95 kc_RX0_74 ?_
            refine pg_lload dX0_told_98 0 rfl ?_
            refine pg_mminL dX0_told_100 pw3_38 pw_minL1 pw_math pw_minL2 (Nat.le_of_ble_eq_true rfl) (by decide) (by decide) ?_
            refine pg_mmaxL dX0_told_103 pw3_41 pw_maxL1 pw_math pw_maxL2 (Nat.le_of_ble_eq_true rfl) (by decide) (by decide) ?_
            refine pg_l2i dX0_told_106 ?_
            exact pg_to (e_X0_told_107 l D (F_X0_told_20 n) ih a0 a1 a2 a5 a6 v2 ((if (if v5.1 < (100 : Int64) then v5.1 else (100 : Int64)) < (0 : Int64) then (0 : Int64) else (if v5.1 < (100 : Int64) then v5.1 else (100 : Int64)))).toInt32 v5.2) [3, 4, 5, 7, 8, 1] rfl
          · refine pg_iload dX0_told_89 6 rfl ?_
            refine pg_goto (tgt := 107) dX0_told_91 rfl ?_
            exact pg_to (e_X0_told_107 l D (F_X0_told_20 n) ih a0 a1 a2 a5 a6 v2 a4 v5.2) [3, 4, 5, 7, 8, 1] rfl
theorem e_X0_told_15 (l : Launch) (D : pg_D)  (a0 : Nat) (a1 : Nat) (a2 : Int32) (a4 : Int32) (s0 : Int32) (h : pg_H) : pg_EvF l D RX0 cX0_told 11 (some FieldType.int) "told" 3 83 pg_wI (F_X0_told_15 a0 a1 a2 a4 s0 h) 15 [(0, pR a0), (1, pR a1), (2, pI a2), (4, pI a4)] [pI s0] h := by
  unfold F_X0_told_15
  refine pg_istore (lv' := [(5, pI s0), (0, pR a0), (1, pR a1), (2, pI a2), (4, pI a4)]) dX0_told_15 (by decide) rfl ?_
  refine pg_iconst dX0_told_17 ci_0 ?_
  refine pg_istore (lv' := [(6, pI (0 : Int32)), (5, pI s0), (0, pR a0), (1, pR a1), (2, pI a2), (4, pI a4)]) dX0_told_18 (by decide) rfl ?_
  exact pg_to (e_X0_told_20 l D pg_fuel a0 a1 a2 a4 s0 (0 : Int32) h) [2, 3, 4, 5, 1, 0] rfl
theorem e_X0_told (l : Launch) (D : pg_D)  (a0 : Nat) (a1 : Nat) (a2 : Int32) (a3 : Int32) (h : pg_H) : pg_EvF l D RX0 cX0_told 11 (some FieldType.int) "told" 3 83 pg_wI (F_X0_told a0 a1 a2 a3 h) 0 [(0, pR a0), (1, pR a1), (2, pI a2), (3, pI a3)] [] h := by
  unfold F_X0_told
  refine pg_iload_n (i := 3) dX0_told_0 rfl 3 rfl ?_
  refine pg_istore (lv' := [(4, pI a3), (0, pR a0), (1, pR a1), (2, pI a2), (3, pI a3)]) dX0_told_1 (by decide) rfl ?_
  refine pg_aload_n (i := 1) dX0_told_3 rfl 2 rfl ?_
  refine pg_ifnonnull (tgt := 11) dX0_told_4 rfl ?_ ?_
  · refine pg_aload_n (i := 1) dX0_told_11 rfl 2 rfl ?_
    refine pg_callV_oI (As := []) (rs := []) dX0_told_12 lk_RX0_52 vy_X9_length nd_X9_length (c_X9_length l D h a1) rfl rfl (Nat.le_of_ble_eq_true rfl) (by decide) (by decide) (fun v1 => ?_)
    exact pg_to (e_X0_told_15 l D a0 a1 a2 a3 v1 h) [1, 2, 3, 0] rfl
  · refine pg_iconst dX0_told_7 ci_0 ?_
    refine pg_goto (tgt := 15) dX0_told_8 rfl ?_
    exact pg_to (e_X0_told_15 l D a0 a1 a2 a3 (0 : Int32) h) [1, 2, 3, 0] rfl
theorem c_X0_told (l : Launch) (D : pg_D) (a0 : Nat) (a1 : Nat) (a2 : Int32) (a3 : Int32) (h : pg_H) : ∀ x, F_X0_told a0 a1 a2 a3 h = some x → pg_Ct l D yX0_told cX0_told 11 (some FieldType.int) 3 83 [pR a0, pR a1, pI a2, pI a3] h (pg_wI x) :=
  pg_Ct.of pn_RX0 (Nat.le_of_ble_eq_true rfl) (e_X0_told l D a0 a1 a2 a3 h)
def F_X0_holdsIn_62 (k16 : Nat → Nat → Int32 → Int32 → Int32 → pg_H → Option (Int32 × pg_H)) (a0 : Nat) (a1 : Nat) (a2 : Int32) (a3 : Int32) (a4 : Int32) (a5 : Int32) (h : pg_H) : Option (Int32 × pg_H) := pg_let (if (a4 + (3 : Int32)) < a5 then a5 else (a4 + (3 : Int32))) fun v1 => (k16 a0 a1 a2 a3 v1 h)
def F_X0_holdsIn_16  : Nat → Nat → Nat → Int32 → Int32 → Int32 → pg_H → Option (Int32 × pg_H)
  | 0 => fun _ _ _ _ _ _ => none
  | n + 1 => fun a0 a1 a2 a3 a4 h => (if a4 < a3 then Option.bind (pg_rcv 9 h a1 (F_X9_codeAt h a1 (a4 + (2 : Int32)))) fun v1 => Option.bind (pg_rcv 9 h a1 (F_X9_codeAt h a1 a4)) fun v2 => (if v2 = a2 then Option.bind (pg_rcv 9 h a1 (F_X9_codeAt h a1 (a4 + (1 : Int32)))) fun v3 => Option.bind (pg_rcv 0 h a0 (F_X0_passes a0 a1 v3 v1 h)) fun v4 => (if v4.1 = 0 then (F_X0_holdsIn_62 (F_X0_holdsIn_16 n) a0 a1 a2 a3 a4 v1 v4.2) else (some ((1 : Int32), v4.2))) else (F_X0_holdsIn_62 (F_X0_holdsIn_16 n) a0 a1 a2 a3 a4 v1 h)) else (some ((0 : Int32), h)))
def F_X0_holdsIn_12 (a0 : Nat) (a1 : Nat) (a2 : Int32) (s0 : Int32) (h : pg_H) : Option (Int32 × pg_H) := (F_X0_holdsIn_16 pg_fuel a0 a1 a2 s0 (0 : Int32) h)
def F_X0_holdsIn (a0 : Nat) (a1 : Nat) (a2 : Int32) (h : pg_H) : Option (Int32 × pg_H) := (if a1 = 0 then (F_X0_holdsIn_12 a0 a1 a2 (0 : Int32) h) else Option.bind (pg_rcv 9 h a1 (F_X9_length h a1)) fun v1 => (F_X0_holdsIn_12 a0 a1 a2 v1 h))
theorem e_X0_holdsIn_62 (l : Launch) (D : pg_D)  (k16 : Nat → Nat → Int32 → Int32 → Int32 → pg_H → Option (Int32 × pg_H)) (hk16 : ∀ (a0 : Nat) (a1 : Nat) (a2 : Int32) (a3 : Int32) (a4 : Int32) (h : pg_H), pg_EvF l D RX0 cX0_holdsIn 6 (some FieldType.boolean) "holdsIn" 3 83 pg_wI (k16 a0 a1 a2 a3 a4 h) 16 [(0, pR a0), (1, pR a1), (2, pI a2), (3, pI a3), (4, pI a4)] [] h) (a0 : Nat) (a1 : Nat) (a2 : Int32) (a3 : Int32) (a4 : Int32) (a5 : Int32) (h : pg_H) : pg_EvF l D RX0 cX0_holdsIn 6 (some FieldType.boolean) "holdsIn" 3 83 pg_wI (F_X0_holdsIn_62 k16 a0 a1 a2 a3 a4 a5 h) 62 [(0, pR a0), (1, pR a1), (2, pI a2), (3, pI a3), (4, pI a4), (5, pI a5)] [] h := by
  unfold F_X0_holdsIn_62
  refine pg_iload dX0_holdsIn_62 4 rfl ?_
  refine pg_iconst dX0_holdsIn_64 ci_3 ?_
  refine pg_iadd dX0_holdsIn_65 ?_
  refine pg_iload dX0_holdsIn_66 5 rfl ?_
  refine pg_mmax dX0_holdsIn_68 pw3_30 pw_max1 pw_math pw_max2 (Nat.le_of_ble_eq_true rfl) (by decide) (by decide) ?_
  refine pg_letI (fun v1 => ?_)
  refine pg_istore (lv' := [(4, pI v1), (0, pR a0), (1, pR a1), (2, pI a2), (3, pI a3), (5, pI a5)]) dX0_holdsIn_71 (by decide) rfl ?_
  refine pg_goto (tgt := 16) dX0_holdsIn_73 rfl ?_
  exact pg_to (hk16 a0 a1 a2 a3 v1 h) [1, 2, 3, 4, 0] rfl
theorem e_X0_holdsIn_16 (l : Launch) (D : pg_D)   : ∀ (n : Nat) (a0 : Nat) (a1 : Nat) (a2 : Int32) (a3 : Int32) (a4 : Int32) (h : pg_H), pg_EvF l D RX0 cX0_holdsIn 6 (some FieldType.boolean) "holdsIn" 3 83 pg_wI (F_X0_holdsIn_16 n a0 a1 a2 a3 a4 h) 16 [(0, pR a0), (1, pR a1), (2, pI a2), (3, pI a3), (4, pI a4)] [] h := by
  intro n
  induction n with
  | zero => intro a0 a1 a2 a3 a4 h; exact pg_none
  | succ n ih =>
    intro a0 a1 a2 a3 a4 h
    rw [F_X0_holdsIn_16]
    refine pg_iload dX0_holdsIn_16 4 rfl ?_
    refine pg_iload_n (i := 3) dX0_holdsIn_18 rfl 3 rfl ?_
    refine pg_icmp_ge (tgt := 76) dX0_holdsIn_19 rfl ?_ ?_
    · refine pg_iconst dX0_holdsIn_76 ci_0 ?_
      exact pg_zret dX0_holdsIn_77 rfl (Or.inl rfl) rfl
    · refine pg_aload_n (i := 1) dX0_holdsIn_22 rfl 1 rfl ?_
      refine pg_iload dX0_holdsIn_23 4 rfl ?_
      refine pg_iconst dX0_holdsIn_25 ci_2 ?_
      refine pg_iadd dX0_holdsIn_26 ?_
      refine pg_callV_oI (As := [pI (a4 + (2 : Int32))]) (rs := []) dX0_holdsIn_27 lk_RX0_58 vy_X9_codeAt nd_X9_codeAt (c_X9_codeAt l D h a1 (a4 + (2 : Int32))) rfl rfl (Nat.le_of_ble_eq_true rfl) (by decide) (by decide) (fun v1 => ?_)
      refine pg_istore (lv' := [(5, pI v1), (0, pR a0), (1, pR a1), (2, pI a2), (3, pI a3), (4, pI a4)]) dX0_holdsIn_30 (by decide) rfl ?_
      refine pg_aload_n (i := 1) dX0_holdsIn_32 rfl 2 rfl ?_
      refine pg_iload dX0_holdsIn_33 5 rfl ?_
      refine pg_callV_oI (As := [pI a4]) (rs := []) dX0_holdsIn_35 lk_RX0_58 vy_X9_codeAt nd_X9_codeAt (c_X9_codeAt l D h a1 a4) rfl rfl (Nat.le_of_ble_eq_true rfl) (by decide) (by decide) (fun v2 => ?_)
      refine pg_iload_n (i := 2) dX0_holdsIn_38 rfl 3 rfl ?_
      refine pg_icmp_ne (tgt := 62) dX0_holdsIn_39 rfl ?_ ?_
      · exact pg_to (e_X0_holdsIn_62 l D (F_X0_holdsIn_16 n) ih a0 a1 a2 a3 a4 v1 h) [1, 2, 3, 4, 5, 0] rfl
      · refine pg_aload_n (i := 0) dX0_holdsIn_42 rfl 1 rfl ?_
        refine pg_aload_n (i := 1) dX0_holdsIn_43 rfl 2 rfl ?_
        refine pg_aload_n (i := 1) dX0_holdsIn_44 rfl 2 rfl ?_
        refine pg_iload dX0_holdsIn_45 5 rfl ?_
        refine pg_iconst dX0_holdsIn_47 ci_1 ?_
        refine pg_iadd dX0_holdsIn_48 ?_
        refine pg_callV_oI (As := [pI (a4 + (1 : Int32))]) (rs := [pR a1, pR a0]) dX0_holdsIn_49 lk_RX0_58 vy_X9_codeAt nd_X9_codeAt (c_X9_codeAt l D h a1 (a4 + (1 : Int32))) rfl rfl (Nat.le_of_ble_eq_true rfl) (by decide) (by decide) (fun v3 => ?_)
        refine pg_iload dX0_holdsIn_52 0 rfl ?_
        refine pg_callV_wI (As := [pR a1, pI v3, pI v1]) (rs := []) dX0_holdsIn_54 lk_RX0_62 vy_X0_passes nd_X0_passes (c_X0_passes l D a0 a1 v3 v1 h) rfl rfl (Nat.le_of_ble_eq_true rfl) (by decide) (by decide) (fun v4 => ?_)
        refine pg_if_eq (tgt := 62) dX0_holdsIn_57 rfl ?_ ?_
        · exact pg_to (e_X0_holdsIn_62 l D (F_X0_holdsIn_16 n) ih a0 a1 a2 a3 a4 v1 v4.2) [1, 2, 3, 4, 5, 0] rfl
        · refine pg_iconst dX0_holdsIn_60 ci_1 ?_
          exact pg_zret dX0_holdsIn_61 rfl (Or.inr rfl) rfl
theorem e_X0_holdsIn_12 (l : Launch) (D : pg_D)  (a0 : Nat) (a1 : Nat) (a2 : Int32) (s0 : Int32) (h : pg_H) : pg_EvF l D RX0 cX0_holdsIn 6 (some FieldType.boolean) "holdsIn" 3 83 pg_wI (F_X0_holdsIn_12 a0 a1 a2 s0 h) 12 [(0, pR a0), (1, pR a1), (2, pI a2)] [pI s0] h := by
  unfold F_X0_holdsIn_12
  refine pg_istore_n (i := 3) (lv' := [(3, pI s0), (0, pR a0), (1, pR a1), (2, pI a2)]) dX0_holdsIn_12 rfl (by decide) rfl ?_
  refine pg_iconst dX0_holdsIn_13 ci_0 ?_
  refine pg_istore (lv' := [(4, pI (0 : Int32)), (3, pI s0), (0, pR a0), (1, pR a1), (2, pI a2)]) dX0_holdsIn_14 (by decide) rfl ?_
  exact pg_to (e_X0_holdsIn_16 l D pg_fuel a0 a1 a2 s0 (0 : Int32) h) [2, 3, 4, 1, 0] rfl
theorem e_X0_holdsIn (l : Launch) (D : pg_D)  (a0 : Nat) (a1 : Nat) (a2 : Int32) (h : pg_H) : pg_EvF l D RX0 cX0_holdsIn 6 (some FieldType.boolean) "holdsIn" 3 83 pg_wI (F_X0_holdsIn a0 a1 a2 h) 0 [(0, pR a0), (1, pR a1), (2, pI a2)] [] h := by
  unfold F_X0_holdsIn
  refine pg_aload_n (i := 1) dX0_holdsIn_0 rfl 1 rfl ?_
  refine pg_ifnonnull (tgt := 8) dX0_holdsIn_1 rfl ?_ ?_
  · refine pg_aload_n (i := 1) dX0_holdsIn_8 rfl 1 rfl ?_
    refine pg_callV_oI (As := []) (rs := []) dX0_holdsIn_9 lk_RX0_52 vy_X9_length nd_X9_length (c_X9_length l D h a1) rfl rfl (Nat.le_of_ble_eq_true rfl) (by decide) (by decide) (fun v1 => ?_)
    exact pg_to (e_X0_holdsIn_12 l D a0 a1 a2 v1 h) [0, 1, 2] rfl
  · refine pg_iconst dX0_holdsIn_4 ci_0 ?_
    refine pg_goto (tgt := 12) dX0_holdsIn_5 rfl ?_
    exact pg_to (e_X0_holdsIn_12 l D a0 a1 a2 (0 : Int32) h) [0, 1, 2] rfl
theorem c_X0_holdsIn (l : Launch) (D : pg_D) (a0 : Nat) (a1 : Nat) (a2 : Int32) (h : pg_H) : ∀ x, F_X0_holdsIn a0 a1 a2 h = some x → pg_Ct l D yX0_holdsIn cX0_holdsIn 6 (some FieldType.boolean) 3 83 [pR a0, pR a1, pI a2] h (pg_wI x) :=
  pg_Ct.of pn_RX0 (Nat.le_of_ble_eq_true rfl) (e_X0_holdsIn l D a0 a1 a2 h)
def F_X1_init (a0 : Nat) (h : pg_H) : Option pg_H := (if a0 = 0 then none else Option.bind (pg_newA 22 h (330 : Int32)) fun v1 => Option.bind (pg_pR 1 0 v1.2 a0 v1.1) fun v2 => (some v2))
theorem e_X1_init (l : Launch) (D : pg_D)  (a0 : Nat) (h : pg_H) : pg_EvF l D RX1 cX1_init 1 none "<init>" 1 20 pg_wV (F_X1_init a0 h) 0 [(0, pR a0)] [] h := by
  unfold F_X1_init
  refine pg_aload_n (i := 0) dX1_init_0 rfl 0 rfl ?_
  refine pg_objInit dX1_init_1 pw2_25 pw_obj1 pw_obj2 (Nat.le_of_ble_eq_true rfl) (by decide) (by decide) ?_
  refine pg_aload_n (i := 0) dX1_init_4 rfl 0 rfl ?_
  refine pg_sipush dX1_init_5 cs_330 ?_
  refine pg_newL dX1_init_8 pw_arr_long (fun v1 => ?_)
  refine pg_putR dX1_init_10 fl_RX1_9 rfl (fun _ => ⟨rfl, fp_RX1_9⟩) (fun v2 => ?_)
  exact pg_vret dX1_init_13 rfl rfl
theorem c_X1_init (l : Launch) (D : pg_D) (a0 : Nat) (h : pg_H) : ∀ x, F_X1_init a0 h = some x → pg_Ct l D yX1_init cX1_init 1 none 1 20 [pR a0] h (pg_wV x) :=
  pg_Ct.of pn_RX1 (Nat.le_of_ble_eq_true rfl) (e_X1_init l D a0 h)
def F_X1_become_49 (s0 : Int32) (s1 : Nat) (h : pg_H) : Option pg_H := Option.bind (pg_pI 1 1 h s1 s0) fun v1 => (some v1)
def F_X1_become (a0 : Nat) (a1 : Int32) (h : pg_H) : Option pg_H := Option.bind (pg_pI 1 1 h a0 (0 : Int32)) fun v1 => (if 0 < a1 then Option.bind (pg_gR 1 0 v1 a0) fun v2 => Option.bind (pg_sL v1 v2 (0 : Int32) ((a1).toInt64 &&& (1073741823 : Int64))) fun v3 => Option.bind (pg_gR 1 0 v3 a0) fun v4 => Option.bind (pg_sL v3 v4 (1 : Int32) ((a1 >>> ((30 : Int32) &&& 31))).toInt64) fun v5 => Option.bind (pg_gR 1 0 v5 a0) fun v6 => Option.bind (pg_aL v5 v6 (1 : Int32)) fun v7 => (if (0 : Int64) < v7 then (F_X1_become_49 (2 : Int32) a0 v5) else (F_X1_become_49 (1 : Int32) a0 v5)) else (some v1))
theorem e_X1_become_49 (l : Launch) (D : pg_D)  (s0 : Int32) (s1 : Nat) (h : pg_H) : pg_EvF l D RX1 cX1_become 2 none "become" 0 0 pg_wV (F_X1_become_49 s0 s1 h) 49 [] [pI s0, pR s1] h := by
  unfold F_X1_become_49
  refine pg_putI dX1_become_49 fl_RX1_13 (fun z => by cases z) (fun v1 => ?_)
  exact pg_vret dX1_become_52 rfl rfl
theorem e_X1_become (l : Launch) (D : pg_D)  (a0 : Nat) (a1 : Int32) (h : pg_H) : pg_EvF l D RX1 cX1_become 2 none "become" 0 0 pg_wV (F_X1_become a0 a1 h) 0 [(0, pR a0), (1, pI a1)] [] h := by
  unfold F_X1_become
  refine pg_aload_n (i := 0) dX1_become_0 rfl 0 rfl ?_
  refine pg_iconst dX1_become_1 ci_0 ?_
  refine pg_putI dX1_become_2 fl_RX1_13 (fun z => by cases z) (fun v1 => ?_)
  refine pg_iload_n (i := 1) dX1_become_5 rfl 1 rfl ?_
  refine pg_if_le (tgt := 52) dX1_become_6 rfl ?_ ?_
  · exact pg_vret dX1_become_52 rfl rfl
  · refine pg_aload_n (i := 0) dX1_become_9 rfl 0 rfl ?_
    refine pg_getR dX1_become_10 fl_RX1_9 rfl (fun v2 => ?_)
    refine pg_iconst dX1_become_13 ci_0 ?_
    refine pg_iload_n (i := 1) dX1_become_14 rfl 1 rfl ?_
    refine pg_i2l dX1_become_15 ?_
    refine pg_ldc2 (v := (1073741823 : Int64)) dX1_become_16 kc_RX1_17 ?_
    refine pg_land dX1_become_19 ?_
    refine pg_lastore dX1_become_20 (fun v3 => ?_)
    refine pg_aload_n (i := 0) dX1_become_21 rfl 0 rfl ?_
    refine pg_getR dX1_become_22 fl_RX1_9 rfl (fun v4 => ?_)
    refine pg_iconst dX1_become_25 ci_1 ?_
    refine pg_iload_n (i := 1) dX1_become_26 rfl 1 rfl ?_
    refine pg_bipush dX1_become_27 cb_30 ?_
    refine pg_ishr dX1_become_29 ?_
    refine pg_i2l dX1_become_30 ?_
    refine pg_lastore dX1_become_31 (fun v5 => ?_)
    refine pg_aload_n (i := 0) dX1_become_32 rfl 0 rfl ?_
    refine pg_aload_n (i := 0) dX1_become_33 rfl 0 rfl ?_
    refine pg_getR dX1_become_34 fl_RX1_9 rfl (fun v6 => ?_)
    refine pg_iconst dX1_become_37 ci_1 ?_
    refine pg_laload dX1_become_38 (fun v7 => ?_)
    refine pg_lconst dX1_become_39 cl_0 ?_
    refine pg_lcmp_le (tgt := 48) dX1_become_40 dX1_become_41 rfl ?_ ?_
    · refine pg_iconst dX1_become_48 ci_1 ?_
      exact pg_to (e_X1_become_49 l D (1 : Int32) a0 v5) [] rfl
    · refine pg_iconst dX1_become_44 ci_2 ?_
      refine pg_goto (tgt := 49) dX1_become_45 rfl ?_
      exact pg_to (e_X1_become_49 l D (2 : Int32) a0 v5) [] rfl
theorem c_X1_become (l : Launch) (D : pg_D) (a0 : Nat) (a1 : Int32) (h : pg_H) : ∀ x, F_X1_become a0 a1 h = some x → pg_Ct l D yX1_become cX1_become 2 none 0 0 [pR a0, pI a1] h (pg_wV x) :=
  pg_Ct.of pn_RX1 (Nat.le_of_ble_eq_true rfl) (e_X1_become l D a0 a1 h)
def F_X1_takeFrom (a0 : Nat) (a1 : Nat) (h : pg_H) : Option pg_H := Option.bind (pg_gI 1 1 h a1) fun v1 => Option.bind (pg_pI 1 1 h a0 v1) fun v2 => Option.bind (pg_gR 1 0 v2 a1) fun v3 => Option.bind (pg_gR 1 0 v2 a0) fun v4 => Option.bind (pg_gI 1 1 v2 a0) fun v5 => Option.bind (pg_cpyL v2 v3 (0 : Int32) v4 (0 : Int32) (if (330 : Int32) < v5 then (330 : Int32) else v5)) fun v6 => (some v6)
theorem e_X1_takeFrom (l : Launch) (D : pg_D)  (a0 : Nat) (a1 : Nat) (h : pg_H) : pg_EvF l D RX1 cX1_takeFrom 2 none "takeFrom" 1 60 pg_wV (F_X1_takeFrom a0 a1 h) 0 [(0, pR a0), (1, pR a1)] [] h := by
  unfold F_X1_takeFrom
  refine pg_aload_n (i := 0) dX1_takeFrom_0 rfl 0 rfl ?_
  refine pg_aload_n (i := 1) dX1_takeFrom_1 rfl 1 rfl ?_
  refine pg_getI dX1_takeFrom_2 fl_RX1_13 rfl (fun v1 => ?_)
  refine pg_putI dX1_takeFrom_5 fl_RX1_13 (fun z => by cases z) (fun v2 => ?_)
  refine pg_aload_n (i := 1) dX1_takeFrom_8 rfl 1 rfl ?_
  refine pg_getR dX1_takeFrom_9 fl_RX1_9 rfl (fun v3 => ?_)
  refine pg_iconst dX1_takeFrom_12 ci_0 ?_
  refine pg_aload_n (i := 0) dX1_takeFrom_13 rfl 0 rfl ?_
  refine pg_getR dX1_takeFrom_14 fl_RX1_9 rfl (fun v4 => ?_)
  refine pg_iconst dX1_takeFrom_17 ci_0 ?_
  refine pg_aload_n (i := 0) dX1_takeFrom_18 rfl 0 rfl ?_
  refine pg_getI dX1_takeFrom_19 fl_RX1_13 rfl (fun v5 => ?_)
  refine pg_sipush dX1_takeFrom_22 cs_330 ?_
  refine pg_mmin dX1_takeFrom_25 pw5_21 pw_min1 pw_math pw_min2 (Nat.le_of_ble_eq_true rfl) (by decide) (by decide) ?_
  refine pg_acopyL dX1_takeFrom_28 pw5_22 pw_acp1 pw_acp2 pw_acp3 (Nat.le_of_ble_eq_true rfl) (by decide) (by decide) (fun v6 => ?_)
  exact pg_vret dX1_takeFrom_31 rfl rfl
theorem c_X1_takeFrom (l : Launch) (D : pg_D) (a0 : Nat) (a1 : Nat) (h : pg_H) : ∀ x, F_X1_takeFrom a0 a1 h = some x → pg_Ct l D yX1_takeFrom cX1_takeFrom 2 none 1 60 [pR a0, pR a1] h (pg_wV x) :=
  pg_Ct.of pn_RX1 (Nat.le_of_ble_eq_true rfl) (e_X1_takeFrom l D a0 a1 h)
def F_X1_isZero (h : pg_H) (a0 : Nat) : Option Int32 := Option.bind (pg_gI 1 1 h a0) fun v1 => (if v1 = 0 then (some (1 : Int32)) else (some (0 : Int32)))
theorem e_X1_isZero (l : Launch) (D : pg_D)  (h : pg_H) (a0 : Nat) : pg_EvF l D RX1 cX1_isZero 1 (some FieldType.boolean) "isZero" 0 0 (pg_oI h) (F_X1_isZero h a0) 0 [(0, pR a0)] [] h := by
  unfold F_X1_isZero
  refine pg_aload_n (i := 0) dX1_isZero_0 rfl 0 rfl ?_
  refine pg_getI dX1_isZero_1 fl_RX1_13 rfl (fun v1 => ?_)
  refine pg_if_ne (tgt := 11) dX1_isZero_4 rfl ?_ ?_
  · refine pg_iconst dX1_isZero_11 ci_0 ?_
    exact pg_zret dX1_isZero_12 rfl (Or.inl rfl) rfl
  · refine pg_iconst dX1_isZero_7 ci_1 ?_
    refine pg_goto (tgt := 12) dX1_isZero_8 rfl ?_
    exact pg_zret dX1_isZero_12 rfl (Or.inr rfl) rfl
theorem c_X1_isZero (l : Launch) (D : pg_D) (h : pg_H) (a0 : Nat)  : ∀ x, F_X1_isZero h a0 = some x → pg_Ct l D yX1_isZero cX1_isZero 1 (some FieldType.boolean) 0 0 [pR a0] h (pg_oI h x) :=
  pg_Ct.of pn_RX1 (Nat.le_of_ble_eq_true rfl) (e_X1_isZero l D h a0)
def F_X1_multiply_75  : Nat → Nat → Int64 → Int32 → pg_H → Option pg_H
  | 0 => fun _ _ _ _ => none
  | n + 1 => fun a0 a3 a5 h => (if a5 < (2 : Int32) then (if (0 : Int64) < a3 then Option.bind (pg_gI 1 1 h a0) fun v1 => (if v1 < (330 : Int32) then Option.bind (pg_gR 1 0 h a0) fun v2 => Option.bind (pg_gI 1 1 h a0) fun v3 => Option.bind (pg_sL h v2 v3 (a3 &&& (1073741823 : Int64))) fun v4 => pg_let (a3 >>> (((30 : Int32)).toInt64 &&& 63)) fun v5 => Option.bind (pg_gI 1 1 v4 a0) fun v6 => Option.bind (pg_pI 1 1 v4 a0 (v6 + (1 : Int32))) fun v7 => (F_X1_multiply_75 n a0 v5 (a5 + (1 : Int32)) v7) else (some h)) else (some h)) else (some h))
def F_X1_multiply_72 (a0 : Nat) (a3 : Int64) (h : pg_H) : Option pg_H := (F_X1_multiply_75 pg_fuel a0 a3 (0 : Int32) h)
def F_X1_multiply_17  : Nat → Nat → Int64 → Int64 → Int32 → pg_H → Option pg_H
  | 0 => fun _ _ _ _ _ => none
  | n + 1 => fun a0 a1 a3 a5 h => Option.bind (pg_gI 1 1 h a0) fun v1 => (if a5 < v1 then (if a5 < (330 : Int32) then Option.bind (pg_gR 1 0 h a0) fun v2 => Option.bind (pg_aL h v2 a5) fun v3 => pg_let ((v3 * a1) + a3) fun v4 => Option.bind (pg_gR 1 0 h a0) fun v5 => Option.bind (pg_sL h v5 a5 (v4 &&& (1073741823 : Int64))) fun v6 => pg_let (v4 >>> (((30 : Int32)).toInt64 &&& 63)) fun v7 => (F_X1_multiply_17 n a0 a1 v7 (a5 + (1 : Int32)) v6) else (F_X1_multiply_72 a0 a3 h)) else (F_X1_multiply_72 a0 a3 h))
def F_X1_multiply (a0 : Nat) (a1 : Int64) (h : pg_H) : Option pg_H := (if (0 : Int64) < a1 then (F_X1_multiply_17 pg_fuel a0 a1 (0 : Int64) (0 : Int32) h) else Option.bind (pg_pI 1 1 h a0 (0 : Int32)) fun v1 => (some v1))
theorem e_X1_multiply_75 (l : Launch) (D : pg_D)   : ∀ (n : Nat) (a0 : Nat) (a3 : Int64) (a5 : Int32) (h : pg_H), pg_EvF l D RX1 cX1_multiply 8 none "multiply" 0 0 pg_wV (F_X1_multiply_75 n a0 a3 a5 h) 75 [(0, pR a0), (3, pL a3), (5, pI a5)] [] h := by
  intro n
  induction n with
  | zero => intro a0 a3 a5 h; exact pg_none
  | succ n ih =>
    intro a0 a3 a5 h
    rw [F_X1_multiply_75]
    refine pg_iload dX1_multiply_75 2 rfl ?_
    refine pg_iconst dX1_multiply_77 ci_2 ?_
    refine pg_icmp_ge (tgt := 132) dX1_multiply_78 rfl ?_ ?_
    · exact pg_vret dX1_multiply_132 rfl rfl
    · refine pg_lload_n (i := 3) dX1_multiply_81 rfl 1 rfl ?_
      refine pg_lconst dX1_multiply_82 cl_0 ?_
      refine pg_lcmp_le (tgt := 132) dX1_multiply_83 dX1_multiply_84 rfl ?_ ?_
      · exact pg_vret dX1_multiply_132 rfl rfl
      · refine pg_aload_n (i := 0) dX1_multiply_87 rfl 0 rfl ?_
        refine pg_getI dX1_multiply_88 fl_RX1_13 rfl (fun v1 => ?_)
        refine pg_sipush dX1_multiply_91 cs_330 ?_
        refine pg_icmp_ge (tgt := 132) dX1_multiply_94 rfl ?_ ?_
        · exact pg_vret dX1_multiply_132 rfl rfl
        · refine pg_aload_n (i := 0) dX1_multiply_97 rfl 0 rfl ?_
          refine pg_getR dX1_multiply_98 fl_RX1_9 rfl (fun v2 => ?_)
          refine pg_aload_n (i := 0) dX1_multiply_101 rfl 0 rfl ?_
          refine pg_getI dX1_multiply_102 fl_RX1_13 rfl (fun v3 => ?_)
          refine pg_lload_n (i := 3) dX1_multiply_105 rfl 1 rfl ?_
          refine pg_ldc2 (v := (1073741823 : Int64)) dX1_multiply_106 kc_RX1_17 ?_
          refine pg_land dX1_multiply_109 ?_
          refine pg_lastore dX1_multiply_110 (fun v4 => ?_)
          refine pg_lload_n (i := 3) dX1_multiply_111 rfl 1 rfl ?_
          refine pg_bipush dX1_multiply_112 cb_30 ?_
          refine pg_lshr dX1_multiply_114 ?_
          refine pg_letL (fun v5 => ?_)
          refine pg_lstore_n (i := 3) (lv' := [(3, pL v5), (0, pR a0), (5, pI a5)]) dX1_multiply_115 rfl (by decide) rfl ?_
          refine pg_aload_n (i := 0) dX1_multiply_116 rfl 1 rfl ?_
          refine pg_dup dX1_multiply_117 rfl ?_
          refine pg_getI dX1_multiply_118 fl_RX1_13 rfl (fun v6 => ?_)
          refine pg_iconst dX1_multiply_121 ci_1 ?_
          refine pg_iadd dX1_multiply_122 ?_
          refine pg_putI dX1_multiply_123 fl_RX1_13 (fun z => by cases z) (fun v7 => ?_)
          refine pg_iinc (lv' := [(5, pI (a5 + (1 : Int32))), (3, pL v5), (0, pR a0)]) dX1_multiply_126 2 rfl ci_1 (by decide) rfl ?_
          refine pg_goto (tgt := 75) dX1_multiply_129 rfl ?_
          exact pg_to (ih a0 v5 (a5 + (1 : Int32)) v7) [2, 1, 0] rfl
theorem e_X1_multiply_72 (l : Launch) (D : pg_D)  (a0 : Nat) (a3 : Int64) (h : pg_H) : pg_EvF l D RX1 cX1_multiply 8 none "multiply" 0 0 pg_wV (F_X1_multiply_72 a0 a3 h) 72 [(0, pR a0), (3, pL a3)] [] h := by
  unfold F_X1_multiply_72
  refine pg_iconst dX1_multiply_72 ci_0 ?_
  refine pg_istore (lv' := [(5, pI (0 : Int32)), (0, pR a0), (3, pL a3)]) dX1_multiply_73 (by decide) rfl ?_
  exact pg_to (e_X1_multiply_75 l D pg_fuel a0 a3 (0 : Int32) h) [1, 2, 0] rfl
theorem e_X1_multiply_17 (l : Launch) (D : pg_D)   : ∀ (n : Nat) (a0 : Nat) (a1 : Int64) (a3 : Int64) (a5 : Int32) (h : pg_H), pg_EvF l D RX1 cX1_multiply 8 none "multiply" 0 0 pg_wV (F_X1_multiply_17 n a0 a1 a3 a5 h) 17 [(0, pR a0), (1, pL a1), (3, pL a3), (5, pI a5)] [] h := by
  intro n
  induction n with
  | zero => intro a0 a1 a3 a5 h; exact pg_none
  | succ n ih =>
    intro a0 a1 a3 a5 h
    rw [F_X1_multiply_17]
    refine pg_iload dX1_multiply_17 3 rfl ?_
    refine pg_aload_n (i := 0) dX1_multiply_19 rfl 0 rfl ?_
    refine pg_getI dX1_multiply_20 fl_RX1_13 rfl (fun v1 => ?_)
    refine pg_icmp_ge (tgt := 72) dX1_multiply_23 rfl ?_ ?_
    · exact pg_to (e_X1_multiply_72 l D a0 a3 h) [0, 2] rfl
    · refine pg_iload dX1_multiply_26 3 rfl ?_
      refine pg_sipush dX1_multiply_28 cs_330 ?_
      refine pg_icmp_ge (tgt := 72) dX1_multiply_31 rfl ?_ ?_
      · exact pg_to (e_X1_multiply_72 l D a0 a3 h) [0, 2] rfl
      · refine pg_aload_n (i := 0) dX1_multiply_34 rfl 0 rfl ?_
        refine pg_getR dX1_multiply_35 fl_RX1_9 rfl (fun v2 => ?_)
        refine pg_iload dX1_multiply_38 3 rfl ?_
        refine pg_laload dX1_multiply_40 (fun v3 => ?_)
        refine pg_lload_n (i := 1) dX1_multiply_41 rfl 1 rfl ?_
        refine pg_lmul dX1_multiply_42 ?_
        refine pg_lload_n (i := 3) dX1_multiply_43 rfl 2 rfl ?_
        refine pg_ladd dX1_multiply_44 ?_
        refine pg_letL (fun v4 => ?_)
        refine pg_lstore (lv' := [(6, pL v4), (0, pR a0), (1, pL a1), (3, pL a3), (5, pI a5)]) dX1_multiply_45 (by decide) rfl ?_
        refine pg_aload_n (i := 0) dX1_multiply_47 rfl 1 rfl ?_
        refine pg_getR dX1_multiply_48 fl_RX1_9 rfl (fun v5 => ?_)
        refine pg_iload dX1_multiply_51 4 rfl ?_
        refine pg_lload dX1_multiply_53 0 rfl ?_
        refine pg_ldc2 (v := (1073741823 : Int64)) dX1_multiply_55 kc_RX1_17 ?_
        refine pg_land dX1_multiply_58 ?_
        refine pg_lastore dX1_multiply_59 (fun v6 => ?_)
        refine pg_lload dX1_multiply_60 0 rfl ?_
        refine pg_bipush dX1_multiply_62 cb_30 ?_
        refine pg_lshr dX1_multiply_64 ?_
        refine pg_letL (fun v7 => ?_)
        refine pg_lstore_n (i := 3) (lv' := [(3, pL v7), (6, pL v4), (0, pR a0), (1, pL a1), (5, pI a5)]) dX1_multiply_65 rfl (by decide) rfl ?_
        refine pg_iinc (lv' := [(5, pI (a5 + (1 : Int32))), (3, pL v7), (6, pL v4), (0, pR a0), (1, pL a1)]) dX1_multiply_66 4 rfl ci_1 (by decide) rfl ?_
        refine pg_goto (tgt := 17) dX1_multiply_69 rfl ?_
        exact pg_to (ih a0 a1 v7 (a5 + (1 : Int32)) v6) [3, 4, 1, 0] rfl
theorem e_X1_multiply (l : Launch) (D : pg_D)  (a0 : Nat) (a1 : Int64) (h : pg_H) : pg_EvF l D RX1 cX1_multiply 8 none "multiply" 0 0 pg_wV (F_X1_multiply a0 a1 h) 0 [(0, pR a0), (1, pL a1)] [] h := by
  unfold F_X1_multiply
  refine pg_lload_n (i := 1) dX1_multiply_0 rfl 1 rfl ?_
  refine pg_lconst dX1_multiply_1 cl_0 ?_
  refine pg_lcmp_gt (tgt := 12) dX1_multiply_2 dX1_multiply_3 rfl ?_ ?_
  · refine pg_lconst dX1_multiply_12 cl_0 ?_
    refine pg_lstore_n (i := 3) (lv' := [(3, pL (0 : Int64)), (0, pR a0), (1, pL a1)]) dX1_multiply_13 rfl (by decide) rfl ?_
    refine pg_iconst dX1_multiply_14 ci_0 ?_
    refine pg_istore (lv' := [(5, pI (0 : Int32)), (3, pL (0 : Int64)), (0, pR a0), (1, pL a1)]) dX1_multiply_15 (by decide) rfl ?_
    exact pg_to (e_X1_multiply_17 l D pg_fuel a0 a1 (0 : Int64) (0 : Int32) h) [2, 3, 1, 0] rfl
  · refine pg_aload_n (i := 0) dX1_multiply_6 rfl 0 rfl ?_
    refine pg_iconst dX1_multiply_7 ci_0 ?_
    refine pg_putI dX1_multiply_8 fl_RX1_13 (fun z => by cases z) (fun v1 => ?_)
    exact pg_vret dX1_multiply_11 rfl rfl
theorem c_X1_multiply (l : Launch) (D : pg_D) (a0 : Nat) (a1 : Int64) (h : pg_H) : ∀ x, F_X1_multiply a0 a1 h = some x → pg_Ct l D yX1_multiply cX1_multiply 8 none 0 0 [pR a0, pL a1] h (pg_wV x) :=
  pg_Ct.of pn_RX1 (Nat.le_of_ble_eq_true rfl) (e_X1_multiply l D a0 a1 h)
def F_X1_multiplyOften_29 (k5 : Nat → Int32 → Int32 → Int64 → Int32 → pg_H → Option pg_H) (a0 : Nat) (a1 : Int32) (a2 : Int32) (a3 : Int64) (a5 : Int32) (h : pg_H) : Option pg_H := pg_let (a3 * (a1).toInt64) fun v1 => (k5 a0 a1 a2 v1 (a5 + (1 : Int32)) h)
def F_X1_multiplyOften_5  : Nat → Nat → Int32 → Int32 → Int64 → Int32 → pg_H → Option pg_H
  | 0 => fun _ _ _ _ _ _ => none
  | n + 1 => fun a0 a1 a2 a3 a5 h => (if a5 < a2 then (if (2147483647 : Int64) < (a3 * (a1).toInt64) then Option.bind (pg_rcv 1 h a0 (F_X1_multiply a0 a3 h)) fun v2 => (F_X1_multiplyOften_29 (F_X1_multiplyOften_5 n) a0 a1 a2 (1 : Int64) a5 v2) else (F_X1_multiplyOften_29 (F_X1_multiplyOften_5 n) a0 a1 a2 a3 a5 h)) else Option.bind (pg_rcv 1 h a0 (F_X1_multiply a0 a3 h)) fun v1 => (some v1))
def F_X1_multiplyOften (a0 : Nat) (a1 : Int32) (a2 : Int32) (h : pg_H) : Option pg_H := (F_X1_multiplyOften_5 pg_fuel a0 a1 a2 (1 : Int64) (0 : Int32) h)
theorem e_X1_multiplyOften_29 (l : Launch) (D : pg_D)  (k5 : Nat → Int32 → Int32 → Int64 → Int32 → pg_H → Option pg_H) (hk5 : ∀ (a0 : Nat) (a1 : Int32) (a2 : Int32) (a3 : Int64) (a5 : Int32) (h : pg_H), pg_EvF l D RX1 cX1_multiplyOften 6 none "multiplyOften" 1 27 pg_wV (k5 a0 a1 a2 a3 a5 h) 5 [(0, pR a0), (1, pI a1), (2, pI a2), (3, pL a3), (5, pI a5)] [] h) (a0 : Nat) (a1 : Int32) (a2 : Int32) (a3 : Int64) (a5 : Int32) (h : pg_H) : pg_EvF l D RX1 cX1_multiplyOften 6 none "multiplyOften" 1 27 pg_wV (F_X1_multiplyOften_29 k5 a0 a1 a2 a3 a5 h) 29 [(0, pR a0), (1, pI a1), (2, pI a2), (3, pL a3), (5, pI a5)] [] h := by
  unfold F_X1_multiplyOften_29
  refine pg_lload_n (i := 3) dX1_multiplyOften_29 rfl 3 rfl ?_
  refine pg_iload_n (i := 1) dX1_multiplyOften_30 rfl 1 rfl ?_
  refine pg_i2l dX1_multiplyOften_31 ?_
  refine pg_lmul dX1_multiplyOften_32 ?_
  refine pg_letL (fun v1 => ?_)
  refine pg_lstore_n (i := 3) (lv' := [(3, pL v1), (0, pR a0), (1, pI a1), (2, pI a2), (5, pI a5)]) dX1_multiplyOften_33 rfl (by decide) rfl ?_
  refine pg_iinc (lv' := [(5, pI (a5 + (1 : Int32))), (3, pL v1), (0, pR a0), (1, pI a1), (2, pI a2)]) dX1_multiplyOften_34 4 rfl ci_1 (by decide) rfl ?_
  refine pg_goto (tgt := 5) dX1_multiplyOften_37 rfl ?_
  exact pg_to (hk5 a0 a1 a2 v1 (a5 + (1 : Int32)) h) [2, 3, 4, 1, 0] rfl
theorem e_X1_multiplyOften_5 (l : Launch) (D : pg_D)   : ∀ (n : Nat) (a0 : Nat) (a1 : Int32) (a2 : Int32) (a3 : Int64) (a5 : Int32) (h : pg_H), pg_EvF l D RX1 cX1_multiplyOften 6 none "multiplyOften" 1 27 pg_wV (F_X1_multiplyOften_5 n a0 a1 a2 a3 a5 h) 5 [(0, pR a0), (1, pI a1), (2, pI a2), (3, pL a3), (5, pI a5)] [] h := by
  intro n
  induction n with
  | zero => intro a0 a1 a2 a3 a5 h; exact pg_none
  | succ n ih =>
    intro a0 a1 a2 a3 a5 h
    rw [F_X1_multiplyOften_5]
    refine pg_iload dX1_multiplyOften_5 4 rfl ?_
    refine pg_iload_n (i := 2) dX1_multiplyOften_7 rfl 2 rfl ?_
    refine pg_icmp_ge (tgt := 40) dX1_multiplyOften_8 rfl ?_ ?_
    · refine pg_aload_n (i := 0) dX1_multiplyOften_40 rfl 0 rfl ?_
      refine pg_lload_n (i := 3) dX1_multiplyOften_41 rfl 3 rfl ?_
      refine pg_callV_wV (As := [pL a3]) (rs := []) dX1_multiplyOften_42 lk_RX1_33 vy_X1_multiply nd_X1_multiply (c_X1_multiply l D a0 a3 h) rfl rfl (Nat.le_of_ble_eq_true rfl) (by decide) (by decide) (fun v1 => ?_)
      exact pg_vret dX1_multiplyOften_45 rfl rfl
    · refine pg_lload_n (i := 3) dX1_multiplyOften_11 rfl 3 rfl ?_
      refine pg_iload_n (i := 1) dX1_multiplyOften_12 rfl 1 rfl ?_
      refine pg_i2l dX1_multiplyOften_13 ?_
      refine pg_lmul dX1_multiplyOften_14 ?_
      refine pg_ldc2 (v := (2147483647 : Int64)) dX1_multiplyOften_15 kc_RX1_31 ?_
      refine pg_lcmp_le (tgt := 29) dX1_multiplyOften_18 dX1_multiplyOften_19 rfl ?_ ?_
      · exact pg_to (e_X1_multiplyOften_29 l D (F_X1_multiplyOften_5 n) ih a0 a1 a2 a3 a5 h) [0, 1, 2, 3, 4] rfl
      · refine pg_aload_n (i := 0) dX1_multiplyOften_22 rfl 0 rfl ?_
        refine pg_lload_n (i := 3) dX1_multiplyOften_23 rfl 3 rfl ?_
        refine pg_callV_wV (As := [pL a3]) (rs := []) dX1_multiplyOften_24 lk_RX1_33 vy_X1_multiply nd_X1_multiply (c_X1_multiply l D a0 a3 h) rfl rfl (Nat.le_of_ble_eq_true rfl) (by decide) (by decide) (fun v2 => ?_)
        refine pg_lconst dX1_multiplyOften_27 cl_1 ?_
        refine pg_lstore_n (i := 3) (lv' := [(3, pL (1 : Int64)), (0, pR a0), (1, pI a1), (2, pI a2), (5, pI a5)]) dX1_multiplyOften_28 rfl (by decide) rfl ?_
        exact pg_to (e_X1_multiplyOften_29 l D (F_X1_multiplyOften_5 n) ih a0 a1 a2 (1 : Int64) a5 v2) [1, 2, 3, 0, 4] rfl
theorem e_X1_multiplyOften (l : Launch) (D : pg_D)  (a0 : Nat) (a1 : Int32) (a2 : Int32) (h : pg_H) : pg_EvF l D RX1 cX1_multiplyOften 6 none "multiplyOften" 1 27 pg_wV (F_X1_multiplyOften a0 a1 a2 h) 0 [(0, pR a0), (1, pI a1), (2, pI a2)] [] h := by
  unfold F_X1_multiplyOften
  refine pg_lconst dX1_multiplyOften_0 cl_1 ?_
  refine pg_lstore_n (i := 3) (lv' := [(3, pL (1 : Int64)), (0, pR a0), (1, pI a1), (2, pI a2)]) dX1_multiplyOften_1 rfl (by decide) rfl ?_
  refine pg_iconst dX1_multiplyOften_2 ci_0 ?_
  refine pg_istore (lv' := [(5, pI (0 : Int32)), (3, pL (1 : Int64)), (0, pR a0), (1, pI a1), (2, pI a2)]) dX1_multiplyOften_3 (by decide) rfl ?_
  exact pg_to (e_X1_multiplyOften_5 l D pg_fuel a0 a1 a2 (1 : Int64) (0 : Int32) h) [2, 3, 4, 1, 0] rfl
theorem c_X1_multiplyOften (l : Launch) (D : pg_D) (a0 : Nat) (a1 : Int32) (a2 : Int32) (h : pg_H) : ∀ x, F_X1_multiplyOften a0 a1 a2 h = some x → pg_Ct l D yX1_multiplyOften cX1_multiplyOften 6 none 1 27 [pR a0, pI a1, pI a2] h (pg_wV x) :=
  pg_Ct.of pn_RX1 (Nat.le_of_ble_eq_true rfl) (e_X1_multiplyOften l D a0 a1 a2 h)
def F_X1_add_71 (k24 : Nat → Nat → Int64 → Int32 → Int32 → pg_H → Option pg_H) (a0 : Nat) (a1 : Nat) (a2 : Int64) (a4 : Int32) (a5 : Int32) (s0 : Int64) (s1 : Int64) (h : pg_H) : Option pg_H := pg_let ((s1 + s0) + a2) fun v1 => Option.bind (pg_gR 1 0 h a0) fun v2 => Option.bind (pg_sL h v2 a5 (v1 &&& (1073741823 : Int64))) fun v3 => pg_let (v1 >>> (((30 : Int32)).toInt64 &&& 63)) fun v4 => (k24 a0 a1 v4 a4 (a5 + (1 : Int32)) v3)
def F_X1_add_51 (k24 : Nat → Nat → Int64 → Int32 → Int32 → pg_H → Option pg_H) (a0 : Nat) (a1 : Nat) (a2 : Int64) (a4 : Int32) (a5 : Int32) (s0 : Int64) (h : pg_H) : Option pg_H := Option.bind (pg_gI 1 1 h a1) fun v1 => (if a5 < v1 then Option.bind (pg_gR 1 0 h a1) fun v2 => Option.bind (pg_aL h v2 a5) fun v3 => (F_X1_add_71 k24 a0 a1 a2 a4 a5 v3 s0 h) else (F_X1_add_71 k24 a0 a1 a2 a4 a5 (0 : Int64) s0 h))
def F_X1_add_24  : Nat → Nat → Nat → Int64 → Int32 → Int32 → pg_H → Option pg_H
  | 0 => fun _ _ _ _ _ _ => none
  | n + 1 => fun a0 a1 a2 a4 a5 h => (if a5 < a4 then Option.bind (pg_gI 1 1 h a0) fun v8 => (if a5 < v8 then Option.bind (pg_gR 1 0 h a0) fun v9 => Option.bind (pg_aL h v9 a5) fun v10 => (F_X1_add_51 (F_X1_add_24 n) a0 a1 a2 a4 a5 v10 h) else (F_X1_add_51 (F_X1_add_24 n) a0 a1 a2 a4 a5 (0 : Int64) h)) else Option.bind (pg_pI 1 1 h a0 a4) fun v1 => (if (0 : Int64) < a2 then Option.bind (pg_gI 1 1 v1 a0) fun v2 => (if v2 < (330 : Int32) then Option.bind (pg_gR 1 0 v1 a0) fun v3 => Option.bind (pg_gI 1 1 v1 a0) fun v4 => Option.bind (pg_sL v1 v3 v4 a2) fun v5 => Option.bind (pg_gI 1 1 v5 a0) fun v6 => Option.bind (pg_pI 1 1 v5 a0 (v6 + (1 : Int32))) fun v7 => (some v7) else (some v1)) else (some v1)))
def F_X1_add (a0 : Nat) (a1 : Nat) (h : pg_H) : Option pg_H := Option.bind (pg_gI 1 1 h a0) fun v1 => Option.bind (pg_gI 1 1 h a1) fun v2 => pg_let (if (330 : Int32) < (if v1 < v2 then v2 else v1) then (330 : Int32) else (if v1 < v2 then v2 else v1)) fun v3 => (F_X1_add_24 pg_fuel a0 a1 (0 : Int64) v3 (0 : Int32) h)
theorem e_X1_add_71 (l : Launch) (D : pg_D)  (k24 : Nat → Nat → Int64 → Int32 → Int32 → pg_H → Option pg_H) (hk24 : ∀ (a0 : Nat) (a1 : Nat) (a2 : Int64) (a4 : Int32) (a5 : Int32) (h : pg_H), pg_EvF l D RX1 cX1_add 8 none "add" 1 30 pg_wV (k24 a0 a1 a2 a4 a5 h) 24 [(0, pR a0), (1, pR a1), (2, pL a2), (4, pI a4), (5, pI a5)] [] h) (a0 : Nat) (a1 : Nat) (a2 : Int64) (a4 : Int32) (a5 : Int32) (s0 : Int64) (s1 : Int64) (h : pg_H) : pg_EvF l D RX1 cX1_add 8 none "add" 1 30 pg_wV (F_X1_add_71 k24 a0 a1 a2 a4 a5 s0 s1 h) 71 [(0, pR a0), (1, pR a1), (2, pL a2), (4, pI a4), (5, pI a5)] [pL s0, pL s1] h := by
  unfold F_X1_add_71
  refine pg_ladd dX1_add_71 ?_
  refine pg_lload_n (i := 2) dX1_add_72 rfl 2 rfl ?_
  refine pg_ladd dX1_add_73 ?_
  refine pg_letL (fun v1 => ?_)
  refine pg_lstore (lv' := [(6, pL v1), (0, pR a0), (1, pR a1), (2, pL a2), (4, pI a4), (5, pI a5)]) dX1_add_74 (by decide) rfl ?_
  refine pg_aload_n (i := 0) dX1_add_76 rfl 1 rfl ?_
  refine pg_getR dX1_add_77 fl_RX1_9 rfl (fun v2 => ?_)
  refine pg_iload dX1_add_80 5 rfl ?_
  refine pg_lload dX1_add_82 0 rfl ?_
  refine pg_ldc2 (v := (1073741823 : Int64)) dX1_add_84 kc_RX1_17 ?_
  refine pg_land dX1_add_87 ?_
  refine pg_lastore dX1_add_88 (fun v3 => ?_)
  refine pg_lload dX1_add_89 0 rfl ?_
  refine pg_bipush dX1_add_91 cb_30 ?_
  refine pg_lshr dX1_add_93 ?_
  refine pg_letL (fun v4 => ?_)
  refine pg_lstore_n (i := 2) (lv' := [(2, pL v4), (6, pL v1), (0, pR a0), (1, pR a1), (4, pI a4), (5, pI a5)]) dX1_add_94 rfl (by decide) rfl ?_
  refine pg_iinc (lv' := [(5, pI (a5 + (1 : Int32))), (2, pL v4), (6, pL v1), (0, pR a0), (1, pR a1), (4, pI a4)]) dX1_add_95 5 rfl ci_1 (by decide) rfl ?_
  refine pg_goto (tgt := 24) dX1_add_98 rfl ?_
  exact pg_to (hk24 a0 a1 v4 a4 (a5 + (1 : Int32)) v3) [3, 4, 1, 5, 0] rfl
theorem e_X1_add_51 (l : Launch) (D : pg_D)  (k24 : Nat → Nat → Int64 → Int32 → Int32 → pg_H → Option pg_H) (hk24 : ∀ (a0 : Nat) (a1 : Nat) (a2 : Int64) (a4 : Int32) (a5 : Int32) (h : pg_H), pg_EvF l D RX1 cX1_add 8 none "add" 1 30 pg_wV (k24 a0 a1 a2 a4 a5 h) 24 [(0, pR a0), (1, pR a1), (2, pL a2), (4, pI a4), (5, pI a5)] [] h) (a0 : Nat) (a1 : Nat) (a2 : Int64) (a4 : Int32) (a5 : Int32) (s0 : Int64) (h : pg_H) : pg_EvF l D RX1 cX1_add 8 none "add" 1 30 pg_wV (F_X1_add_51 k24 a0 a1 a2 a4 a5 s0 h) 51 [(0, pR a0), (1, pR a1), (2, pL a2), (4, pI a4), (5, pI a5)] [pL s0] h := by
  unfold F_X1_add_51
  refine pg_iload dX1_add_51 4 rfl ?_
  refine pg_aload_n (i := 1) dX1_add_53 rfl 1 rfl ?_
  refine pg_getI dX1_add_54 fl_RX1_13 rfl (fun v1 => ?_)
  refine pg_icmp_ge (tgt := 70) dX1_add_57 rfl ?_ ?_
  · refine pg_lconst dX1_add_70 cl_0 ?_
    exact pg_to (e_X1_add_71 l D k24 hk24 a0 a1 a2 a4 a5 (0 : Int64) s0 h) [0, 1, 2, 3, 4] rfl
  · refine pg_aload_n (i := 1) dX1_add_60 rfl 1 rfl ?_
    refine pg_getR dX1_add_61 fl_RX1_9 rfl (fun v2 => ?_)
    refine pg_iload dX1_add_64 4 rfl ?_
    refine pg_laload dX1_add_66 (fun v3 => ?_)
    refine pg_goto (tgt := 71) dX1_add_67 rfl ?_
    exact pg_to (e_X1_add_71 l D k24 hk24 a0 a1 a2 a4 a5 v3 s0 h) [0, 1, 2, 3, 4] rfl
theorem e_X1_add_24 (l : Launch) (D : pg_D)   : ∀ (n : Nat) (a0 : Nat) (a1 : Nat) (a2 : Int64) (a4 : Int32) (a5 : Int32) (h : pg_H), pg_EvF l D RX1 cX1_add 8 none "add" 1 30 pg_wV (F_X1_add_24 n a0 a1 a2 a4 a5 h) 24 [(0, pR a0), (1, pR a1), (2, pL a2), (4, pI a4), (5, pI a5)] [] h := by
  intro n
  induction n with
  | zero => intro a0 a1 a2 a4 a5 h; exact pg_none
  | succ n ih =>
    intro a0 a1 a2 a4 a5 h
    rw [F_X1_add_24]
    refine pg_iload dX1_add_24 4 rfl ?_
    refine pg_iload dX1_add_26 3 rfl ?_
    refine pg_icmp_ge (tgt := 101) dX1_add_28 rfl ?_ ?_
    · refine pg_aload_n (i := 0) dX1_add_101 rfl 0 rfl ?_
      refine pg_iload dX1_add_102 3 rfl ?_
      refine pg_putI dX1_add_104 fl_RX1_13 (fun z => by cases z) (fun v1 => ?_)
      refine pg_lload_n (i := 2) dX1_add_107 rfl 2 rfl ?_
      refine pg_lconst dX1_add_108 cl_0 ?_
      refine pg_lcmp_le (tgt := 143) dX1_add_109 dX1_add_110 rfl ?_ ?_
      · exact pg_vret dX1_add_143 rfl rfl
      · refine pg_aload_n (i := 0) dX1_add_113 rfl 0 rfl ?_
        refine pg_getI dX1_add_114 fl_RX1_13 rfl (fun v2 => ?_)
        refine pg_sipush dX1_add_117 cs_330 ?_
        refine pg_icmp_ge (tgt := 143) dX1_add_120 rfl ?_ ?_
        · exact pg_vret dX1_add_143 rfl rfl
        · refine pg_aload_n (i := 0) dX1_add_123 rfl 0 rfl ?_
          refine pg_getR dX1_add_124 fl_RX1_9 rfl (fun v3 => ?_)
          refine pg_aload_n (i := 0) dX1_add_127 rfl 0 rfl ?_
          refine pg_getI dX1_add_128 fl_RX1_13 rfl (fun v4 => ?_)
          refine pg_lload_n (i := 2) dX1_add_131 rfl 2 rfl ?_
          refine pg_lastore dX1_add_132 (fun v5 => ?_)
          refine pg_aload_n (i := 0) dX1_add_133 rfl 0 rfl ?_
          refine pg_dup dX1_add_134 rfl ?_
          refine pg_getI dX1_add_135 fl_RX1_13 rfl (fun v6 => ?_)
          refine pg_iconst dX1_add_138 ci_1 ?_
          refine pg_iadd dX1_add_139 ?_
          refine pg_putI dX1_add_140 fl_RX1_13 (fun z => by cases z) (fun v7 => ?_)
          exact pg_vret dX1_add_143 rfl rfl
    · refine pg_iload dX1_add_31 4 rfl ?_
      refine pg_aload_n (i := 0) dX1_add_33 rfl 0 rfl ?_
      refine pg_getI dX1_add_34 fl_RX1_13 rfl (fun v8 => ?_)
      refine pg_icmp_ge (tgt := 50) dX1_add_37 rfl ?_ ?_
      · refine pg_lconst dX1_add_50 cl_0 ?_
        exact pg_to (e_X1_add_51 l D (F_X1_add_24 n) ih a0 a1 a2 a4 a5 (0 : Int64) h) [0, 1, 2, 3, 4] rfl
      · refine pg_aload_n (i := 0) dX1_add_40 rfl 0 rfl ?_
        refine pg_getR dX1_add_41 fl_RX1_9 rfl (fun v9 => ?_)
        refine pg_iload dX1_add_44 4 rfl ?_
        refine pg_laload dX1_add_46 (fun v10 => ?_)
        refine pg_goto (tgt := 51) dX1_add_47 rfl ?_
        exact pg_to (e_X1_add_51 l D (F_X1_add_24 n) ih a0 a1 a2 a4 a5 v10 h) [0, 1, 2, 3, 4] rfl
theorem e_X1_add (l : Launch) (D : pg_D)  (a0 : Nat) (a1 : Nat) (h : pg_H) : pg_EvF l D RX1 cX1_add 8 none "add" 1 30 pg_wV (F_X1_add a0 a1 h) 0 [(0, pR a0), (1, pR a1)] [] h := by
  unfold F_X1_add
  refine pg_lconst dX1_add_0 cl_0 ?_
  refine pg_lstore_n (i := 2) (lv' := [(2, pL (0 : Int64)), (0, pR a0), (1, pR a1)]) dX1_add_1 rfl (by decide) rfl ?_
  refine pg_aload_n (i := 0) dX1_add_2 rfl 1 rfl ?_
  refine pg_getI dX1_add_3 fl_RX1_13 rfl (fun v1 => ?_)
  refine pg_aload_n (i := 1) dX1_add_6 rfl 2 rfl ?_
  refine pg_getI dX1_add_7 fl_RX1_13 rfl (fun v2 => ?_)
  refine pg_mmax dX1_add_10 pw5_113 pw_max1 pw_math pw_max2 (Nat.le_of_ble_eq_true rfl) (by decide) (by decide) ?_
  refine pg_sipush dX1_add_13 cs_330 ?_
  refine pg_mmin dX1_add_16 pw5_21 pw_min1 pw_math pw_min2 (Nat.le_of_ble_eq_true rfl) (by decide) (by decide) ?_
  refine pg_letI (fun v3 => ?_)
  refine pg_istore (lv' := [(4, pI v3), (2, pL (0 : Int64)), (0, pR a0), (1, pR a1)]) dX1_add_19 (by decide) rfl ?_
  refine pg_iconst dX1_add_21 ci_0 ?_
  refine pg_istore (lv' := [(5, pI (0 : Int32)), (4, pI v3), (2, pL (0 : Int64)), (0, pR a0), (1, pR a1)]) dX1_add_22 (by decide) rfl ?_
  exact pg_to (e_X1_add_24 l D pg_fuel a0 a1 (0 : Int64) v3 (0 : Int32) h) [3, 4, 2, 1, 0] rfl
theorem c_X1_add (l : Launch) (D : pg_D) (a0 : Nat) (a1 : Nat) (h : pg_H) : ∀ x, F_X1_add a0 a1 h = some x → pg_Ct l D yX1_add cX1_add 8 none 1 30 [pR a0, pR a1] h (pg_wV x) :=
  pg_Ct.of pn_RX1 (Nat.le_of_ble_eq_true rfl) (e_X1_add l D a0 a1 h)
def F_X1_isMoreThan_41 (h : pg_H) : Nat → Nat → Nat → Int32 → Option Int32
  | 0 => fun _ _ _ => none
  | n + 1 => fun a0 a1 a2 => (if a2 < 0 then (some (0 : Int32)) else Option.bind (pg_gR 1 0 h a0) fun v1 => Option.bind (pg_aL h v1 a2) fun v2 => Option.bind (pg_gR 1 0 h a1) fun v3 => Option.bind (pg_aL h v3 a2) fun v4 => (if v2 = v4 then (F_X1_isMoreThan_41 h n a0 a1 (a2 + (-1 : Int32))) else Option.bind (pg_gR 1 0 h a0) fun v5 => Option.bind (pg_aL h v5 a2) fun v6 => Option.bind (pg_gR 1 0 h a1) fun v7 => Option.bind (pg_aL h v7 a2) fun v8 => (if v8 < v6 then (some (1 : Int32)) else (some (0 : Int32)))))
def F_X1_isMoreThan (h : pg_H) (a0 : Nat) (a1 : Nat) : Option Int32 := Option.bind (pg_gI 1 1 h a0) fun v1 => Option.bind (pg_gI 1 1 h a1) fun v2 => (if v1 = v2 then Option.bind (pg_gI 1 1 h a0) fun v3 => pg_let ((if (330 : Int32) < v3 then (330 : Int32) else v3) - (1 : Int32)) fun v4 => (F_X1_isMoreThan_41 h pg_fuel a0 a1 v4) else Option.bind (pg_gI 1 1 h a0) fun v5 => Option.bind (pg_gI 1 1 h a1) fun v6 => (if v6 < v5 then (some (1 : Int32)) else (some (0 : Int32))))
theorem e_X1_isMoreThan_41 (l : Launch) (D : pg_D)  (h : pg_H) : ∀ (n : Nat) (a0 : Nat) (a1 : Nat) (a2 : Int32), pg_EvF l D RX1 cX1_isMoreThan 3 (some FieldType.boolean) "isMoreThan" 1 30 (pg_oI h) (F_X1_isMoreThan_41 h n a0 a1 a2) 41 [(0, pR a0), (1, pR a1), (2, pI a2)] [] h := by
  intro n
  induction n with
  | zero => intro a0 a1 a2; exact pg_none
  | succ n ih =>
    intro a0 a1 a2
    rw [F_X1_isMoreThan_41]
    refine pg_iload_n (i := 2) dX1_isMoreThan_41 rfl 2 rfl ?_
    refine pg_if_lt (tgt := 89) dX1_isMoreThan_42 rfl ?_ ?_
    · refine pg_iconst dX1_isMoreThan_89 ci_0 ?_
      exact pg_zret dX1_isMoreThan_90 rfl (Or.inl rfl) rfl
    · refine pg_aload_n (i := 0) dX1_isMoreThan_45 rfl 0 rfl ?_
      refine pg_getR dX1_isMoreThan_46 fl_RX1_9 rfl (fun v1 => ?_)
      refine pg_iload_n (i := 2) dX1_isMoreThan_49 rfl 2 rfl ?_
      refine pg_laload dX1_isMoreThan_50 (fun v2 => ?_)
      refine pg_aload_n (i := 1) dX1_isMoreThan_51 rfl 1 rfl ?_
      refine pg_getR dX1_isMoreThan_52 fl_RX1_9 rfl (fun v3 => ?_)
      refine pg_iload_n (i := 2) dX1_isMoreThan_55 rfl 2 rfl ?_
      refine pg_laload dX1_isMoreThan_56 (fun v4 => ?_)
      refine pg_lcmp_eq (tgt := 83) dX1_isMoreThan_57 dX1_isMoreThan_58 rfl ?_ ?_
      · refine pg_iinc (lv' := [(2, pI (a2 + (-1 : Int32))), (0, pR a0), (1, pR a1)]) dX1_isMoreThan_83 2 rfl ci_m1 (by decide) rfl ?_
        refine pg_goto (tgt := 41) dX1_isMoreThan_86 rfl ?_
        exact pg_to (ih a0 a1 (a2 + (-1 : Int32))) [1, 2, 0] rfl
      · refine pg_aload_n (i := 0) dX1_isMoreThan_61 rfl 0 rfl ?_
        refine pg_getR dX1_isMoreThan_62 fl_RX1_9 rfl (fun v5 => ?_)
        refine pg_iload_n (i := 2) dX1_isMoreThan_65 rfl 2 rfl ?_
        refine pg_laload dX1_isMoreThan_66 (fun v6 => ?_)
        refine pg_aload_n (i := 1) dX1_isMoreThan_67 rfl 1 rfl ?_
        refine pg_getR dX1_isMoreThan_68 fl_RX1_9 rfl (fun v7 => ?_)
        refine pg_iload_n (i := 2) dX1_isMoreThan_71 rfl 2 rfl ?_
        refine pg_laload dX1_isMoreThan_72 (fun v8 => ?_)
        refine pg_lcmp_le (tgt := 81) dX1_isMoreThan_73 dX1_isMoreThan_74 rfl ?_ ?_
        · refine pg_iconst dX1_isMoreThan_81 ci_0 ?_
          exact pg_zret dX1_isMoreThan_82 rfl (Or.inl rfl) rfl
        · refine pg_iconst dX1_isMoreThan_77 ci_1 ?_
          refine pg_goto (tgt := 82) dX1_isMoreThan_78 rfl ?_
          exact pg_zret dX1_isMoreThan_82 rfl (Or.inr rfl) rfl
theorem e_X1_isMoreThan (l : Launch) (D : pg_D)  (h : pg_H) (a0 : Nat) (a1 : Nat) : pg_EvF l D RX1 cX1_isMoreThan 3 (some FieldType.boolean) "isMoreThan" 1 30 (pg_oI h) (F_X1_isMoreThan h a0 a1) 0 [(0, pR a0), (1, pR a1)] [] h := by
  unfold F_X1_isMoreThan
  refine pg_aload_n (i := 0) dX1_isMoreThan_0 rfl 0 rfl ?_
  refine pg_getI dX1_isMoreThan_1 fl_RX1_13 rfl (fun v1 => ?_)
  refine pg_aload_n (i := 1) dX1_isMoreThan_4 rfl 1 rfl ?_
  refine pg_getI dX1_isMoreThan_5 fl_RX1_13 rfl (fun v2 => ?_)
  refine pg_icmp_eq (tgt := 28) dX1_isMoreThan_8 rfl ?_ ?_
  · refine pg_aload_n (i := 0) dX1_isMoreThan_28 rfl 0 rfl ?_
    refine pg_getI dX1_isMoreThan_29 fl_RX1_13 rfl (fun v3 => ?_)
    refine pg_sipush dX1_isMoreThan_32 cs_330 ?_
    refine pg_mmin dX1_isMoreThan_35 pw5_21 pw_min1 pw_math pw_min2 (Nat.le_of_ble_eq_true rfl) (by decide) (by decide) ?_
    refine pg_iconst dX1_isMoreThan_38 ci_1 ?_
    refine pg_isub dX1_isMoreThan_39 ?_
    refine pg_letI (fun v4 => ?_)
    refine pg_istore_n (i := 2) (lv' := [(2, pI v4), (0, pR a0), (1, pR a1)]) dX1_isMoreThan_40 rfl (by decide) rfl ?_
    exact pg_to (e_X1_isMoreThan_41 l D h pg_fuel a0 a1 v4) [1, 2, 0] rfl
  · refine pg_aload_n (i := 0) dX1_isMoreThan_11 rfl 0 rfl ?_
    refine pg_getI dX1_isMoreThan_12 fl_RX1_13 rfl (fun v5 => ?_)
    refine pg_aload_n (i := 1) dX1_isMoreThan_15 rfl 1 rfl ?_
    refine pg_getI dX1_isMoreThan_16 fl_RX1_13 rfl (fun v6 => ?_)
    refine pg_icmp_le (tgt := 26) dX1_isMoreThan_19 rfl ?_ ?_
    · refine pg_iconst dX1_isMoreThan_26 ci_0 ?_
      exact pg_zret dX1_isMoreThan_27 rfl (Or.inl rfl) rfl
    · refine pg_iconst dX1_isMoreThan_22 ci_1 ?_
      refine pg_goto (tgt := 27) dX1_isMoreThan_23 rfl ?_
      exact pg_zret dX1_isMoreThan_27 rfl (Or.inr rfl) rfl
theorem c_X1_isMoreThan (l : Launch) (D : pg_D) (h : pg_H) (a0 : Nat) (a1 : Nat)  : ∀ x, F_X1_isMoreThan h a0 a1 = some x → pg_Ct l D yX1_isMoreThan cX1_isMoreThan 3 (some FieldType.boolean) 1 30 [pR a0, pR a1] h (pg_oI h x) :=
  pg_Ct.of pn_RX1 (Nat.le_of_ble_eq_true rfl) (e_X1_isMoreThan l D h a0 a1)
def F_X2_init (a0 : Nat) (h : pg_H) : Option pg_H := (if a0 = 0 then none else Option.bind (pg_new 1 2 h) fun v1 => Option.bind (pg_rcv 1 v1.2 v1.1 (F_X1_init v1.1 v1.2)) fun v2 => Option.bind (pg_pR 2 0 v2 a0 v1.1) fun v3 => Option.bind (pg_new 1 2 v3) fun v4 => Option.bind (pg_rcv 1 v4.2 v4.1 (F_X1_init v4.1 v4.2)) fun v5 => Option.bind (pg_pR 2 1 v5 a0 v4.1) fun v6 => Option.bind (pg_new 1 2 v6) fun v7 => Option.bind (pg_rcv 1 v7.2 v7.1 (F_X1_init v7.1 v7.2)) fun v8 => Option.bind (pg_pR 2 2 v8 a0 v7.1) fun v9 => Option.bind (pg_newA 21 v9 (12 : Int32)) fun v10 => Option.bind (pg_pR 2 3 v10.2 a0 v10.1) fun v11 => Option.bind (pg_newA 21 v11 (12 : Int32)) fun v12 => Option.bind (pg_pR 2 4 v12.2 a0 v12.1) fun v13 => (some v13))
theorem e_X2_init (l : Launch) (D : pg_D)  (a0 : Nat) (h : pg_H) : pg_EvF l D RX2 cX2_init 1 none "<init>" 2 40 pg_wV (F_X2_init a0 h) 0 [(0, pR a0)] [] h := by
  unfold F_X2_init
  refine pg_aload_n (i := 0) dX2_init_0 rfl 0 rfl ?_
  refine pg_objInit dX2_init_1 pw2_19 pw_obj1 pw_obj2 (Nat.le_of_ble_eq_true rfl) (by decide) (by decide) ?_
  refine pg_aload_n (i := 0) dX2_init_4 rfl 0 rfl ?_
  refine pg_newO (q := (RX1, TX1, 2)) dX2_init_5 (by decide) rfl rfl pw2_20 pw2_21 pw1_11 (fun v1 => ?_)
  refine pg_dup dX2_init_8 rfl ?_
  refine pg_callI_wV (As := []) (rs := [pR v1.1, pR a0]) dX2_init_9 lk_RX2_11 vy_X1_init nd_X1_init (c_X1_init l D v1.1 v1.2) rfl rfl (Nat.le_of_ble_eq_true rfl) (by decide) (by decide) (fun v2 => ?_)
  refine pg_putR dX2_init_12 fl_RX2_12 rfl (fun _ => ⟨rfl, fp_RX2_12⟩) (fun v3 => ?_)
  refine pg_aload_n (i := 0) dX2_init_15 rfl 0 rfl ?_
  refine pg_newO (q := (RX1, TX1, 2)) dX2_init_16 (by decide) rfl rfl pw2_20 pw2_21 pw1_11 (fun v4 => ?_)
  refine pg_dup dX2_init_19 rfl ?_
  refine pg_callI_wV (As := []) (rs := [pR v4.1, pR a0]) dX2_init_20 lk_RX2_11 vy_X1_init nd_X1_init (c_X1_init l D v4.1 v4.2) rfl rfl (Nat.le_of_ble_eq_true rfl) (by decide) (by decide) (fun v5 => ?_)
  refine pg_putR dX2_init_23 fl_RX2_18 rfl (fun _ => ⟨rfl, fp_RX2_18⟩) (fun v6 => ?_)
  refine pg_aload_n (i := 0) dX2_init_26 rfl 0 rfl ?_
  refine pg_newO (q := (RX1, TX1, 2)) dX2_init_27 (by decide) rfl rfl pw2_20 pw2_21 pw1_11 (fun v7 => ?_)
  refine pg_dup dX2_init_30 rfl ?_
  refine pg_callI_wV (As := []) (rs := [pR v7.1, pR a0]) dX2_init_31 lk_RX2_11 vy_X1_init nd_X1_init (c_X1_init l D v7.1 v7.2) rfl rfl (Nat.le_of_ble_eq_true rfl) (by decide) (by decide) (fun v8 => ?_)
  refine pg_putR dX2_init_34 fl_RX2_21 rfl (fun _ => ⟨rfl, fp_RX2_21⟩) (fun v9 => ?_)
  refine pg_aload_n (i := 0) dX2_init_37 rfl 0 rfl ?_
  refine pg_bipush dX2_init_38 cb_12 ?_
  refine pg_newI dX2_init_40 pw_arr_int (fun v10 => ?_)
  refine pg_putR dX2_init_42 fl_RX2_24 rfl (fun _ => ⟨rfl, fp_RX2_24⟩) (fun v11 => ?_)
  refine pg_aload_n (i := 0) dX2_init_45 rfl 0 rfl ?_
  refine pg_bipush dX2_init_46 cb_12 ?_
  refine pg_newI dX2_init_48 pw_arr_int (fun v12 => ?_)
  refine pg_putR dX2_init_50 fl_RX2_28 rfl (fun _ => ⟨rfl, fp_RX2_28⟩) (fun v13 => ?_)
  exact pg_vret dX2_init_53 rfl rfl
theorem c_X2_init (l : Launch) (D : pg_D) (a0 : Nat) (h : pg_H) : ∀ x, F_X2_init a0 h = some x → pg_Ct l D yX2_init cX2_init 1 none 2 40 [pR a0] h (pg_wV x) :=
  pg_Ct.of pn_RX2 (Nat.le_of_ble_eq_true rfl) (e_X2_init l D a0 h)
def F_X2_commonFactor_7  : Nat → Int32 → Int32 → Int32 → Option Int32
  | 0 => fun _ _ _ => none
  | n + 1 => fun a2 a3 a4 => (if a4 < (64 : Int32) then (if a3 = 0 then (some a2) else (if a3 = 0 then none else pg_let (a2 - a2 / a3 * a3) fun v1 => (F_X2_commonFactor_7 n a3 v1 (a4 + (1 : Int32))))) else (some a2))
def F_X2_commonFactor (a0 : Int32) (a1 : Int32) : Option Int32 := (F_X2_commonFactor_7 pg_fuel a0 a1 (0 : Int32))
theorem e_X2_commonFactor_7 (l : Launch) (D : pg_D)  (h : pg_H) : ∀ (n : Nat) (a2 : Int32) (a3 : Int32) (a4 : Int32), pg_EvF l D RX2 cX2_commonFactor 6 (some FieldType.int) "commonFactor" 0 0 (pg_oI h) (F_X2_commonFactor_7 n a2 a3 a4) 7 [(2, pI a2), (3, pI a3), (4, pI a4)] [] h := by
  intro n
  induction n with
  | zero => intro a2 a3 a4; exact pg_none
  | succ n ih =>
    intro a2 a3 a4
    rw [F_X2_commonFactor_7]
    refine pg_iload dX2_commonFactor_7 2 rfl ?_
    refine pg_bipush dX2_commonFactor_9 cb_64 ?_
    refine pg_icmp_ge (tgt := 34) dX2_commonFactor_11 rfl ?_ ?_
    · refine pg_iload_n (i := 2) dX2_commonFactor_34 rfl 0 rfl ?_
      exact pg_iret dX2_commonFactor_35 rfl rfl
    · refine pg_iload_n (i := 3) dX2_commonFactor_14 rfl 1 rfl ?_
      refine pg_if_eq (tgt := 34) dX2_commonFactor_15 rfl ?_ ?_
      · refine pg_iload_n (i := 2) dX2_commonFactor_34 rfl 0 rfl ?_
        exact pg_iret dX2_commonFactor_35 rfl rfl
      · refine pg_iload_n (i := 2) dX2_commonFactor_18 rfl 0 rfl ?_
        refine pg_iload_n (i := 3) dX2_commonFactor_19 rfl 1 rfl ?_
        refine pg_irem dX2_commonFactor_20 ?_
        refine pg_letI (fun v1 => ?_)
        refine pg_istore (lv' := [(5, pI v1), (2, pI a2), (3, pI a3), (4, pI a4)]) dX2_commonFactor_21 (by decide) rfl ?_
        refine pg_iload_n (i := 3) dX2_commonFactor_23 rfl 2 rfl ?_
        refine pg_istore_n (i := 2) (lv' := [(2, pI a3), (5, pI v1), (3, pI a3), (4, pI a4)]) dX2_commonFactor_24 rfl (by decide) rfl ?_
        refine pg_iload dX2_commonFactor_25 1 rfl ?_
        refine pg_istore_n (i := 3) (lv' := [(3, pI v1), (2, pI a3), (5, pI v1), (4, pI a4)]) dX2_commonFactor_27 rfl (by decide) rfl ?_
        refine pg_iinc (lv' := [(4, pI (a4 + (1 : Int32))), (3, pI v1), (2, pI a3), (5, pI v1)]) dX2_commonFactor_28 3 rfl ci_1 (by decide) rfl ?_
        refine pg_goto (tgt := 7) dX2_commonFactor_31 rfl ?_
        exact pg_to (ih a3 v1 (a4 + (1 : Int32))) [2, 1, 0] rfl
theorem e_X2_commonFactor (l : Launch) (D : pg_D)  (a0 : Int32) (a1 : Int32) (h : pg_H) : pg_EvF l D RX2 cX2_commonFactor 6 (some FieldType.int) "commonFactor" 0 0 (pg_oI h) (F_X2_commonFactor a0 a1) 0 [(0, pI a0), (1, pI a1)] [] h := by
  unfold F_X2_commonFactor
  refine pg_iload_n (i := 0) dX2_commonFactor_0 rfl 0 rfl ?_
  refine pg_istore_n (i := 2) (lv' := [(2, pI a0), (0, pI a0), (1, pI a1)]) dX2_commonFactor_1 rfl (by decide) rfl ?_
  refine pg_iload_n (i := 1) dX2_commonFactor_2 rfl 2 rfl ?_
  refine pg_istore_n (i := 3) (lv' := [(3, pI a1), (2, pI a0), (0, pI a0), (1, pI a1)]) dX2_commonFactor_3 rfl (by decide) rfl ?_
  refine pg_iconst dX2_commonFactor_4 ci_0 ?_
  refine pg_istore (lv' := [(4, pI (0 : Int32)), (3, pI a1), (2, pI a0), (0, pI a0), (1, pI a1)]) dX2_commonFactor_5 (by decide) rfl ?_
  exact pg_to (e_X2_commonFactor_7 l D h pg_fuel a0 a1 (0 : Int32)) [2, 1, 0] rfl
theorem c_X2_commonFactor (l : Launch) (D : pg_D) (a0 : Int32) (a1 : Int32) (h : pg_H) : ∀ x, F_X2_commonFactor a0 a1 = some x → pg_Ct l D yX2_commonFactor cX2_commonFactor 6 (some FieldType.int) 0 0 [pI a0, pI a1] h (pg_oI h x) :=
  pg_Ct.of pn_RX2 (Nat.le_of_ble_eq_true rfl) (e_X2_commonFactor l D a0 a1 h)
def F_X2_weighFactor (a0 : Nat) (a1 : Int32) (a2 : Int32) (a3 : Int32) (h : pg_H) : Option pg_H := Option.bind (F_X2_commonFactor a1 a2) fun v1 => (if 0 < v1 then Option.bind (pg_gR 2 0 h a0) fun v2 => (if v1 = 0 then none else Option.bind (pg_rcv 1 h v2 (F_X1_multiplyOften v2 (a1 / v1) a3 h)) fun v3 => Option.bind (pg_gR 2 1 v3 a0) fun v4 => (if v1 = 0 then none else Option.bind (pg_rcv 1 v3 v4 (F_X1_multiplyOften v4 (a2 / v1) a3 v3)) fun v5 => (some v5))) else (some h))
theorem e_X2_weighFactor (l : Launch) (D : pg_D)  (a0 : Nat) (a1 : Int32) (a2 : Int32) (a3 : Int32) (h : pg_H) : pg_EvF l D RX2 cX2_weighFactor 5 none "weighFactor" 2 52 pg_wV (F_X2_weighFactor a0 a1 a2 a3 h) 0 [(0, pR a0), (1, pI a1), (2, pI a2), (3, pI a3)] [] h := by
  unfold F_X2_weighFactor
  refine pg_iload_n (i := 1) dX2_weighFactor_0 rfl 1 rfl ?_
  refine pg_iload_n (i := 2) dX2_weighFactor_1 rfl 2 rfl ?_
  refine pg_callS_oI (As := [pI a1, pI a2]) (rs := []) dX2_weighFactor_2 lk_RX2_69 vy_X2_commonFactor nd_X2_commonFactor (c_X2_commonFactor l D a1 a2 h) rfl rfl (Nat.le_of_ble_eq_true rfl) (by decide) (by decide) (fun v1 => ?_)
  refine pg_istore (lv' := [(4, pI v1), (0, pR a0), (1, pI a1), (2, pI a2), (3, pI a3)]) dX2_weighFactor_5 (by decide) rfl ?_
  refine pg_iload dX2_weighFactor_7 0 rfl ?_
  refine pg_if_le (tgt := 36) dX2_weighFactor_9 rfl ?_ ?_
  · exact pg_vret dX2_weighFactor_36 rfl rfl
  · refine pg_aload_n (i := 0) dX2_weighFactor_12 rfl 1 rfl ?_
    refine pg_getR dX2_weighFactor_13 fl_RX2_12 rfl (fun v2 => ?_)
    refine pg_iload_n (i := 1) dX2_weighFactor_16 rfl 2 rfl ?_
    refine pg_iload dX2_weighFactor_17 0 rfl ?_
    refine pg_idiv dX2_weighFactor_19 ?_
    refine pg_iload_n (i := 3) dX2_weighFactor_20 rfl 4 rfl ?_
    refine pg_callV_wV (As := [pI (a1 / v1), pI a3]) (rs := []) dX2_weighFactor_21 lk_RX2_72 vy_X1_multiplyOften nd_X1_multiplyOften (c_X1_multiplyOften l D v2 (a1 / v1) a3 h) rfl rfl (Nat.le_of_ble_eq_true rfl) (by decide) (by decide) (fun v3 => ?_)
    refine pg_aload_n (i := 0) dX2_weighFactor_24 rfl 1 rfl ?_
    refine pg_getR dX2_weighFactor_25 fl_RX2_18 rfl (fun v4 => ?_)
    refine pg_iload_n (i := 2) dX2_weighFactor_28 rfl 3 rfl ?_
    refine pg_iload dX2_weighFactor_29 0 rfl ?_
    refine pg_idiv dX2_weighFactor_31 ?_
    refine pg_iload_n (i := 3) dX2_weighFactor_32 rfl 4 rfl ?_
    refine pg_callV_wV (As := [pI (a2 / v1), pI a3]) (rs := []) dX2_weighFactor_33 lk_RX2_72 vy_X1_multiplyOften nd_X1_multiplyOften (c_X1_multiplyOften l D v4 (a2 / v1) a3 v3) rfl rfl (Nat.le_of_ble_eq_true rfl) (by decide) (by decide) (fun v5 => ?_)
    exact pg_vret dX2_weighFactor_36 rfl rfl
theorem c_X2_weighFactor (l : Launch) (D : pg_D) (a0 : Nat) (a1 : Int32) (a2 : Int32) (a3 : Int32) (h : pg_H) : ∀ x, F_X2_weighFactor a0 a1 a2 a3 h = some x → pg_Ct l D yX2_weighFactor cX2_weighFactor 5 none 2 52 [pR a0, pI a1, pI a2, pI a3] h (pg_wV x) :=
  pg_Ct.of pn_RX2 (Nat.le_of_ble_eq_true rfl) (e_X2_weighFactor l D a0 a1 a2 a3 h)
def F_X2_weigh_30  : Nat → Nat → Nat → Int32 → Int32 → Int32 → Int32 → Int32 → Int32 → Int32 → pg_H → Option pg_H
  | 0 => fun _ _ _ _ _ _ _ _ _ _ => none
  | n + 1 => fun a0 a1 a2 a3 a4 a5 a6 a7 a8 h => (if a8 < (6 : Int32) then Option.bind (pg_gR 5 3 h a1) fun v2 => Option.bind (pg_rcv 7 h v2 (F_X7_at h v2 a2 a8)) fun v3 => Option.bind (pg_gR 5 2 h a1) fun v4 => Option.bind (pg_rcv 7 h v4 (F_X7_at h v4 a3 ((2 : Int32) + a8))) fun v5 => Option.bind (pg_gR 5 2 h a1) fun v6 => Option.bind (pg_rcv 7 h v6 (F_X7_at h v6 a4 ((2 : Int32) + a8))) fun v7 => Option.bind (pg_rcv 2 h a0 (F_X2_weighFactor a0 (v5 + (1 : Int32)) (v7 + (1 : Int32)) v3 h)) fun v8 => pg_let (a5 + v3) fun v9 => pg_let (a6 + v5) fun v10 => pg_let (a7 + v7) fun v11 => (F_X2_weigh_30 n a0 a1 a2 a3 a4 v9 v10 v11 (a8 + (1 : Int32)) v8) else Option.bind (pg_rcv 2 h a0 (F_X2_weighFactor a0 a7 a6 a5 h)) fun v1 => (some v1))
def F_X2_weigh (a0 : Nat) (a1 : Nat) (a2 : Int32) (a3 : Int32) (a4 : Int32) (h : pg_H) : Option pg_H := Option.bind (pg_gR 2 0 h a0) fun v1 => Option.bind (pg_rcv 1 h v1 (F_X1_become v1 (1 : Int32) h)) fun v2 => Option.bind (pg_gR 2 1 v2 a0) fun v3 => Option.bind (pg_rcv 1 v2 v3 (F_X1_become v3 (1 : Int32) v2)) fun v4 => (F_X2_weigh_30 pg_fuel a0 a1 a2 a3 a4 (0 : Int32) (6 : Int32) (6 : Int32) (0 : Int32) v4)
theorem e_X2_weigh_30 (l : Launch) (D : pg_D)   : ∀ (n : Nat) (a0 : Nat) (a1 : Nat) (a2 : Int32) (a3 : Int32) (a4 : Int32) (a5 : Int32) (a6 : Int32) (a7 : Int32) (a8 : Int32) (h : pg_H), pg_EvF l D RX2 cX2_weigh 12 none "weigh" 3 76 pg_wV (F_X2_weigh_30 n a0 a1 a2 a3 a4 a5 a6 a7 a8 h) 30 [(0, pR a0), (1, pR a1), (2, pI a2), (3, pI a3), (4, pI a4), (5, pI a5), (6, pI a6), (7, pI a7), (8, pI a8)] [] h := by
  intro n
  induction n with
  | zero => intro a0 a1 a2 a3 a4 a5 a6 a7 a8 h; exact pg_none
  | succ n ih =>
    intro a0 a1 a2 a3 a4 a5 a6 a7 a8 h
    rw [F_X2_weigh_30]
    refine pg_iload dX2_weigh_30 8 rfl ?_
    refine pg_bipush dX2_weigh_32 cb_6 ?_
    refine pg_icmp_ge (tgt := 119) dX2_weigh_34 rfl ?_ ?_
    · refine pg_aload_n (i := 0) dX2_weigh_119 rfl 0 rfl ?_
      refine pg_iload dX2_weigh_120 7 rfl ?_
      refine pg_iload dX2_weigh_122 6 rfl ?_
      refine pg_iload dX2_weigh_124 5 rfl ?_
      refine pg_callV_wV (As := [pI a7, pI a6, pI a5]) (rs := []) dX2_weigh_126 lk_RX2_65 vy_X2_weighFactor nd_X2_weighFactor (c_X2_weighFactor l D a0 a7 a6 a5 h) rfl rfl (Nat.le_of_ble_eq_true rfl) (by decide) (by decide) (fun v1 => ?_)
      exact pg_vret dX2_weigh_129 rfl rfl
    · refine pg_aload_n (i := 1) dX2_weigh_37 rfl 1 rfl ?_
      refine pg_getR dX2_weigh_38 fl_RX2_58 rfl (fun v2 => ?_)
      refine pg_iload_n (i := 2) dX2_weigh_41 rfl 2 rfl ?_
      refine pg_iload dX2_weigh_42 8 rfl ?_
      refine pg_callV_oI (As := [pI a2, pI a8]) (rs := []) dX2_weigh_44 lk_RX2_61 vy_X7_at nd_X7_at (c_X7_at l D h v2 a2 a8) rfl rfl (Nat.le_of_ble_eq_true rfl) (by decide) (by decide) (fun v3 => ?_)
      refine pg_istore (lv' := [(9, pI v3), (0, pR a0), (1, pR a1), (2, pI a2), (3, pI a3), (4, pI a4), (5, pI a5), (6, pI a6), (7, pI a7), (8, pI a8)]) dX2_weigh_47 (by decide) rfl ?_
      refine pg_aload_n (i := 1) dX2_weigh_49 rfl 2 rfl ?_
      refine pg_getR dX2_weigh_50 fl_RX2_39 rfl (fun v4 => ?_)
      refine pg_iload_n (i := 3) dX2_weigh_53 rfl 4 rfl ?_
      refine pg_iconst dX2_weigh_54 ci_2 ?_
      refine pg_iload dX2_weigh_55 9 rfl ?_
      refine pg_iadd dX2_weigh_57 ?_
      refine pg_callV_oI (As := [pI a3, pI ((2 : Int32) + a8)]) (rs := []) dX2_weigh_58 lk_RX2_61 vy_X7_at nd_X7_at (c_X7_at l D h v4 a3 ((2 : Int32) + a8)) rfl rfl (Nat.le_of_ble_eq_true rfl) (by decide) (by decide) (fun v5 => ?_)
      refine pg_istore (lv' := [(10, pI v5), (9, pI v3), (0, pR a0), (1, pR a1), (2, pI a2), (3, pI a3), (4, pI a4), (5, pI a5), (6, pI a6), (7, pI a7), (8, pI a8)]) dX2_weigh_61 (by decide) rfl ?_
      refine pg_aload_n (i := 1) dX2_weigh_63 rfl 3 rfl ?_
      refine pg_getR dX2_weigh_64 fl_RX2_39 rfl (fun v6 => ?_)
      refine pg_iload dX2_weigh_67 6 rfl ?_
      refine pg_iconst dX2_weigh_69 ci_2 ?_
      refine pg_iload dX2_weigh_70 10 rfl ?_
      refine pg_iadd dX2_weigh_72 ?_
      refine pg_callV_oI (As := [pI a4, pI ((2 : Int32) + a8)]) (rs := []) dX2_weigh_73 lk_RX2_61 vy_X7_at nd_X7_at (c_X7_at l D h v6 a4 ((2 : Int32) + a8)) rfl rfl (Nat.le_of_ble_eq_true rfl) (by decide) (by decide) (fun v7 => ?_)
      refine pg_istore (lv' := [(11, pI v7), (10, pI v5), (9, pI v3), (0, pR a0), (1, pR a1), (2, pI a2), (3, pI a3), (4, pI a4), (5, pI a5), (6, pI a6), (7, pI a7), (8, pI a8)]) dX2_weigh_76 (by decide) rfl ?_
      refine pg_aload_n (i := 0) dX2_weigh_78 rfl 3 rfl ?_
      refine pg_iload dX2_weigh_79 1 rfl ?_
      refine pg_iconst dX2_weigh_81 ci_1 ?_
      refine pg_iadd dX2_weigh_82 ?_
      refine pg_iload dX2_weigh_83 0 rfl ?_
      refine pg_iconst dX2_weigh_85 ci_1 ?_
      refine pg_iadd dX2_weigh_86 ?_
      refine pg_iload dX2_weigh_87 2 rfl ?_
      refine pg_callV_wV (As := [pI (v5 + (1 : Int32)), pI (v7 + (1 : Int32)), pI v3]) (rs := []) dX2_weigh_89 lk_RX2_65 vy_X2_weighFactor nd_X2_weighFactor (c_X2_weighFactor l D a0 (v5 + (1 : Int32)) (v7 + (1 : Int32)) v3 h) rfl rfl (Nat.le_of_ble_eq_true rfl) (by decide) (by decide) (fun v8 => ?_)
      refine pg_iload dX2_weigh_92 8 rfl ?_
      refine pg_iload dX2_weigh_94 2 rfl ?_
      refine pg_iadd dX2_weigh_96 ?_
      refine pg_letI (fun v9 => ?_)
      refine pg_istore (lv' := [(5, pI v9), (11, pI v7), (10, pI v5), (9, pI v3), (0, pR a0), (1, pR a1), (2, pI a2), (3, pI a3), (4, pI a4), (6, pI a6), (7, pI a7), (8, pI a8)]) dX2_weigh_97 (by decide) rfl ?_
      refine pg_iload dX2_weigh_99 9 rfl ?_
      refine pg_iload dX2_weigh_101 2 rfl ?_
      refine pg_iadd dX2_weigh_103 ?_
      refine pg_letI (fun v10 => ?_)
      refine pg_istore (lv' := [(6, pI v10), (5, pI v9), (11, pI v7), (10, pI v5), (9, pI v3), (0, pR a0), (1, pR a1), (2, pI a2), (3, pI a3), (4, pI a4), (7, pI a7), (8, pI a8)]) dX2_weigh_104 (by decide) rfl ?_
      refine pg_iload dX2_weigh_106 10 rfl ?_
      refine pg_iload dX2_weigh_108 2 rfl ?_
      refine pg_iadd dX2_weigh_110 ?_
      refine pg_letI (fun v11 => ?_)
      refine pg_istore (lv' := [(7, pI v11), (6, pI v10), (5, pI v9), (11, pI v7), (10, pI v5), (9, pI v3), (0, pR a0), (1, pR a1), (2, pI a2), (3, pI a3), (4, pI a4), (8, pI a8)]) dX2_weigh_111 (by decide) rfl ?_
      refine pg_iinc (lv' := [(8, pI (a8 + (1 : Int32))), (7, pI v11), (6, pI v10), (5, pI v9), (11, pI v7), (10, pI v5), (9, pI v3), (0, pR a0), (1, pR a1), (2, pI a2), (3, pI a3), (4, pI a4)]) dX2_weigh_113 11 rfl ci_1 (by decide) rfl ?_
      refine pg_goto (tgt := 30) dX2_weigh_116 rfl ?_
      exact pg_to (ih a0 a1 a2 a3 a4 v9 v10 v11 (a8 + (1 : Int32)) v8) [7, 8, 9, 10, 11, 3, 2, 1, 0] rfl
theorem e_X2_weigh (l : Launch) (D : pg_D)  (a0 : Nat) (a1 : Nat) (a2 : Int32) (a3 : Int32) (a4 : Int32) (h : pg_H) : pg_EvF l D RX2 cX2_weigh 12 none "weigh" 3 76 pg_wV (F_X2_weigh a0 a1 a2 a3 a4 h) 0 [(0, pR a0), (1, pR a1), (2, pI a2), (3, pI a3), (4, pI a4)] [] h := by
  unfold F_X2_weigh
  refine pg_iconst dX2_weigh_0 ci_0 ?_
  refine pg_istore (lv' := [(5, pI (0 : Int32)), (0, pR a0), (1, pR a1), (2, pI a2), (3, pI a3), (4, pI a4)]) dX2_weigh_1 (by decide) rfl ?_
  refine pg_bipush dX2_weigh_3 cb_6 ?_
  refine pg_istore (lv' := [(6, pI (6 : Int32)), (5, pI (0 : Int32)), (0, pR a0), (1, pR a1), (2, pI a2), (3, pI a3), (4, pI a4)]) dX2_weigh_5 (by decide) rfl ?_
  refine pg_bipush dX2_weigh_7 cb_6 ?_
  refine pg_istore (lv' := [(7, pI (6 : Int32)), (6, pI (6 : Int32)), (5, pI (0 : Int32)), (0, pR a0), (1, pR a1), (2, pI a2), (3, pI a3), (4, pI a4)]) dX2_weigh_9 (by decide) rfl ?_
  refine pg_aload_n (i := 0) dX2_weigh_11 rfl 3 rfl ?_
  refine pg_getR dX2_weigh_12 fl_RX2_12 rfl (fun v1 => ?_)
  refine pg_iconst dX2_weigh_15 ci_1 ?_
  refine pg_callV_wV (As := [pI (1 : Int32)]) (rs := []) dX2_weigh_16 lk_RX2_54 vy_X1_become nd_X1_become (c_X1_become l D v1 (1 : Int32) h) rfl rfl (Nat.le_of_ble_eq_true rfl) (by decide) (by decide) (fun v2 => ?_)
  refine pg_aload_n (i := 0) dX2_weigh_19 rfl 3 rfl ?_
  refine pg_getR dX2_weigh_20 fl_RX2_18 rfl (fun v3 => ?_)
  refine pg_iconst dX2_weigh_23 ci_1 ?_
  refine pg_callV_wV (As := [pI (1 : Int32)]) (rs := []) dX2_weigh_24 lk_RX2_54 vy_X1_become nd_X1_become (c_X1_become l D v3 (1 : Int32) v2) rfl rfl (Nat.le_of_ble_eq_true rfl) (by decide) (by decide) (fun v4 => ?_)
  refine pg_iconst dX2_weigh_27 ci_0 ?_
  refine pg_istore (lv' := [(8, pI (0 : Int32)), (7, pI (6 : Int32)), (6, pI (6 : Int32)), (5, pI (0 : Int32)), (0, pR a0), (1, pR a1), (2, pI a2), (3, pI a3), (4, pI a4)]) dX2_weigh_28 (by decide) rfl ?_
  exact pg_to (e_X2_weigh_30 l D pg_fuel a0 a1 a2 a3 a4 (0 : Int32) (6 : Int32) (6 : Int32) (0 : Int32) v4) [4, 5, 6, 7, 8, 3, 2, 1, 0] rfl
theorem c_X2_weigh (l : Launch) (D : pg_D) (a0 : Nat) (a1 : Nat) (a2 : Int32) (a3 : Int32) (a4 : Int32) (h : pg_H) : ∀ x, F_X2_weigh a0 a1 a2 a3 a4 h = some x → pg_Ct l D yX2_weigh cX2_weigh 12 none 3 76 [pR a0, pR a1, pI a2, pI a3, pI a4] h (pg_wV x) :=
  pg_Ct.of pn_RX2 (Nat.le_of_ble_eq_true rfl) (e_X2_weigh l D a0 a1 a2 a3 a4 h)
def F_X2_topThroughBottom_73 (k7 : Nat → Int32 → Int32 → Int32 → pg_H → Option (Int32 × pg_H)) (a0 : Nat) (a1 : Int32) (a2 : Int32) (a3 : Int32) (h : pg_H) : Option (Int32 × pg_H) := (k7 a0 a1 a2 (a3 + (1 : Int32)) h)
def F_X2_topThroughBottom_7  : Nat → Nat → Int32 → Int32 → Int32 → pg_H → Option (Int32 × pg_H)
  | 0 => fun _ _ _ _ _ => none
  | n + 1 => fun a0 a1 a2 a3 h => (if a3 < (32 : Int32) then (if a1 < a2 then (if (2 : Int32) = 0 then none else pg_let (((a1 + a2) + (1 : Int32)) / (2 : Int32)) fun v1 => Option.bind (pg_gR 2 2 h a0) fun v2 => Option.bind (pg_gR 2 1 h a0) fun v3 => Option.bind (pg_rcv 1 h v2 (F_X1_takeFrom v2 v3 h)) fun v4 => Option.bind (pg_gR 2 2 v4 a0) fun v5 => Option.bind (pg_rcv 1 v4 v5 (F_X1_multiply v5 (v1).toInt64 v4)) fun v6 => Option.bind (pg_gR 2 2 v6 a0) fun v7 => Option.bind (pg_gR 2 0 v6 a0) fun v8 => Option.bind (pg_rcv 1 v6 v7 (F_X1_isMoreThan v6 v7 v8)) fun v9 => (if v9 = 0 then (F_X2_topThroughBottom_73 (F_X2_topThroughBottom_7 n) a0 v1 a2 a3 v6) else pg_let (v1 - (1 : Int32)) fun v10 => (F_X2_topThroughBottom_73 (F_X2_topThroughBottom_7 n) a0 a1 v10 a3 v6))) else (some (a1, h))) else (some (a1, h)))
def F_X2_topThroughBottom (a0 : Nat) (h : pg_H) : Option (Int32 × pg_H) := (F_X2_topThroughBottom_7 pg_fuel a0 (0 : Int32) (1000000 : Int32) (0 : Int32) h)
theorem e_X2_topThroughBottom_73 (l : Launch) (D : pg_D)  (k7 : Nat → Int32 → Int32 → Int32 → pg_H → Option (Int32 × pg_H)) (hk7 : ∀ (a0 : Nat) (a1 : Int32) (a2 : Int32) (a3 : Int32) (h : pg_H), pg_EvF l D RX2 cX2_topThroughBottom 5 (some FieldType.int) "topThroughBottom" 2 81 pg_wI (k7 a0 a1 a2 a3 h) 7 [(0, pR a0), (1, pI a1), (2, pI a2), (3, pI a3)] [] h) (a0 : Nat) (a1 : Int32) (a2 : Int32) (a3 : Int32) (h : pg_H) : pg_EvF l D RX2 cX2_topThroughBottom 5 (some FieldType.int) "topThroughBottom" 2 81 pg_wI (F_X2_topThroughBottom_73 k7 a0 a1 a2 a3 h) 73 [(0, pR a0), (1, pI a1), (2, pI a2), (3, pI a3)] [] h := by
  unfold F_X2_topThroughBottom_73
  refine pg_iinc (lv' := [(3, pI (a3 + (1 : Int32))), (0, pR a0), (1, pI a1), (2, pI a2)]) dX2_topThroughBottom_73 3 rfl ci_1 (by decide) rfl ?_
  refine pg_goto (tgt := 7) dX2_topThroughBottom_76 rfl ?_
  exact pg_to (hk7 a0 a1 a2 (a3 + (1 : Int32)) h) [1, 2, 3, 0] rfl
theorem e_X2_topThroughBottom_7 (l : Launch) (D : pg_D)   : ∀ (n : Nat) (a0 : Nat) (a1 : Int32) (a2 : Int32) (a3 : Int32) (h : pg_H), pg_EvF l D RX2 cX2_topThroughBottom 5 (some FieldType.int) "topThroughBottom" 2 81 pg_wI (F_X2_topThroughBottom_7 n a0 a1 a2 a3 h) 7 [(0, pR a0), (1, pI a1), (2, pI a2), (3, pI a3)] [] h := by
  intro n
  induction n with
  | zero => intro a0 a1 a2 a3 h; exact pg_none
  | succ n ih =>
    intro a0 a1 a2 a3 h
    rw [F_X2_topThroughBottom_7]
    refine pg_iload_n (i := 3) dX2_topThroughBottom_7 rfl 3 rfl ?_
    refine pg_bipush dX2_topThroughBottom_8 cb_32 ?_
    refine pg_icmp_ge (tgt := 79) dX2_topThroughBottom_10 rfl ?_ ?_
    · refine pg_iload_n (i := 1) dX2_topThroughBottom_79 rfl 1 rfl ?_
      exact pg_iret dX2_topThroughBottom_80 rfl rfl
    · refine pg_iload_n (i := 1) dX2_topThroughBottom_13 rfl 1 rfl ?_
      refine pg_iload_n (i := 2) dX2_topThroughBottom_14 rfl 2 rfl ?_
      refine pg_icmp_ge (tgt := 79) dX2_topThroughBottom_15 rfl ?_ ?_
      · refine pg_iload_n (i := 1) dX2_topThroughBottom_79 rfl 1 rfl ?_
        exact pg_iret dX2_topThroughBottom_80 rfl rfl
      · refine pg_iload_n (i := 1) dX2_topThroughBottom_18 rfl 1 rfl ?_
        refine pg_iload_n (i := 2) dX2_topThroughBottom_19 rfl 2 rfl ?_
        refine pg_iadd dX2_topThroughBottom_20 ?_
        refine pg_iconst dX2_topThroughBottom_21 ci_1 ?_
        refine pg_iadd dX2_topThroughBottom_22 ?_
        refine pg_iconst dX2_topThroughBottom_23 ci_2 ?_
        refine pg_idiv dX2_topThroughBottom_24 ?_
        refine pg_letI (fun v1 => ?_)
        refine pg_istore (lv' := [(4, pI v1), (0, pR a0), (1, pI a1), (2, pI a2), (3, pI a3)]) dX2_topThroughBottom_25 (by decide) rfl ?_
        refine pg_aload_n (i := 0) dX2_topThroughBottom_27 rfl 1 rfl ?_
        refine pg_getR dX2_topThroughBottom_28 fl_RX2_21 rfl (fun v2 => ?_)
        refine pg_aload_n (i := 0) dX2_topThroughBottom_31 rfl 1 rfl ?_
        refine pg_getR dX2_topThroughBottom_32 fl_RX2_18 rfl (fun v3 => ?_)
        refine pg_callV_wV (As := [pR v3]) (rs := []) dX2_topThroughBottom_35 lk_RX2_77 vy_X1_takeFrom nd_X1_takeFrom (c_X1_takeFrom l D v2 v3 h) rfl rfl (Nat.le_of_ble_eq_true rfl) (by decide) (by decide) (fun v4 => ?_)
        refine pg_aload_n (i := 0) dX2_topThroughBottom_38 rfl 1 rfl ?_
        refine pg_getR dX2_topThroughBottom_39 fl_RX2_21 rfl (fun v5 => ?_)
        refine pg_iload dX2_topThroughBottom_42 0 rfl ?_
        refine pg_i2l dX2_topThroughBottom_44 ?_
        refine pg_callV_wV (As := [pL (v1).toInt64]) (rs := []) dX2_topThroughBottom_45 lk_RX2_81 vy_X1_multiply nd_X1_multiply (c_X1_multiply l D v5 (v1).toInt64 v4) rfl rfl (Nat.le_of_ble_eq_true rfl) (by decide) (by decide) (fun v6 => ?_)
        refine pg_aload_n (i := 0) dX2_topThroughBottom_48 rfl 1 rfl ?_
        refine pg_getR dX2_topThroughBottom_49 fl_RX2_21 rfl (fun v7 => ?_)
        refine pg_aload_n (i := 0) dX2_topThroughBottom_52 rfl 1 rfl ?_
        refine pg_getR dX2_topThroughBottom_53 fl_RX2_12 rfl (fun v8 => ?_)
        refine pg_callV_oI (As := [pR v8]) (rs := []) dX2_topThroughBottom_56 lk_RX2_50 vy_X1_isMoreThan nd_X1_isMoreThan (c_X1_isMoreThan l D v6 v7 v8) rfl rfl (Nat.le_of_ble_eq_true rfl) (by decide) (by decide) (fun v9 => ?_)
        refine pg_if_eq (tgt := 70) dX2_topThroughBottom_59 rfl ?_ ?_
        · refine pg_iload dX2_topThroughBottom_70 0 rfl ?_
          refine pg_istore_n (i := 1) (lv' := [(1, pI v1), (4, pI v1), (0, pR a0), (2, pI a2), (3, pI a3)]) dX2_topThroughBottom_72 rfl (by decide) rfl ?_
          exact pg_to (e_X2_topThroughBottom_73 l D (F_X2_topThroughBottom_7 n) ih a0 v1 a2 a3 v6) [2, 0, 3, 4] rfl
        · refine pg_iload dX2_topThroughBottom_62 0 rfl ?_
          refine pg_iconst dX2_topThroughBottom_64 ci_1 ?_
          refine pg_isub dX2_topThroughBottom_65 ?_
          refine pg_letI (fun v10 => ?_)
          refine pg_istore_n (i := 2) (lv' := [(2, pI v10), (4, pI v1), (0, pR a0), (1, pI a1), (3, pI a3)]) dX2_topThroughBottom_66 rfl (by decide) rfl ?_
          refine pg_goto (tgt := 73) dX2_topThroughBottom_67 rfl ?_
          exact pg_to (e_X2_topThroughBottom_73 l D (F_X2_topThroughBottom_7 n) ih a0 a1 v10 a3 v6) [2, 3, 0, 4] rfl
theorem e_X2_topThroughBottom (l : Launch) (D : pg_D)  (a0 : Nat) (h : pg_H) : pg_EvF l D RX2 cX2_topThroughBottom 5 (some FieldType.int) "topThroughBottom" 2 81 pg_wI (F_X2_topThroughBottom a0 h) 0 [(0, pR a0)] [] h := by
  unfold F_X2_topThroughBottom
  refine pg_iconst dX2_topThroughBottom_0 ci_0 ?_
  refine pg_istore_n (i := 1) (lv' := [(1, pI (0 : Int32)), (0, pR a0)]) dX2_topThroughBottom_1 rfl (by decide) rfl ?_
  refine pg_ldc (v := (1000000 : Int32)) dX2_topThroughBottom_2 kc_RX2_76 ?_
  refine pg_istore_n (i := 2) (lv' := [(2, pI (1000000 : Int32)), (1, pI (0 : Int32)), (0, pR a0)]) dX2_topThroughBottom_4 rfl (by decide) rfl ?_
  refine pg_iconst dX2_topThroughBottom_5 ci_0 ?_
  refine pg_istore_n (i := 3) (lv' := [(3, pI (0 : Int32)), (2, pI (1000000 : Int32)), (1, pI (0 : Int32)), (0, pR a0)]) dX2_topThroughBottom_6 rfl (by decide) rfl ?_
  exact pg_to (e_X2_topThroughBottom_7 l D pg_fuel a0 (0 : Int32) (1000000 : Int32) (0 : Int32) h) [3, 2, 1, 0] rfl
theorem c_X2_topThroughBottom (l : Launch) (D : pg_D) (a0 : Nat) (h : pg_H) : ∀ x, F_X2_topThroughBottom a0 h = some x → pg_Ct l D yX2_topThroughBottom cX2_topThroughBottom 5 (some FieldType.int) 2 81 [pR a0] h (pg_wI x) :=
  pg_Ct.of pn_RX2 (Nat.le_of_ble_eq_true rfl) (e_X2_topThroughBottom l D a0 h)
def F_X2_timesAsLikely (a0 : Nat) (a1 : Nat) (a2 : Int32) (a3 : Int32) (a4 : Int32) (h : pg_H) : Option (Int32 × pg_H) := Option.bind (pg_rcv 2 h a0 (F_X2_weigh a0 a1 a2 a3 a4 h)) fun v1 => Option.bind (pg_rcv 2 v1 a0 (F_X2_topThroughBottom a0 v1)) fun v2 => (some (v2.1, v2.2))
theorem e_X2_timesAsLikely (l : Launch) (D : pg_D)  (a0 : Nat) (a1 : Nat) (a2 : Int32) (a3 : Int32) (a4 : Int32) (h : pg_H) : pg_EvF l D RX2 cX2_timesAsLikely 5 (some FieldType.int) "timesAsLikely" 4 107 pg_wI (F_X2_timesAsLikely a0 a1 a2 a3 a4 h) 0 [(0, pR a0), (1, pR a1), (2, pI a2), (3, pI a3), (4, pI a4)] [] h := by
  unfold F_X2_timesAsLikely
  refine pg_aload_n (i := 0) dX2_timesAsLikely_0 rfl 0 rfl ?_
  refine pg_aload_n (i := 1) dX2_timesAsLikely_1 rfl 1 rfl ?_
  refine pg_iload_n (i := 2) dX2_timesAsLikely_2 rfl 2 rfl ?_
  refine pg_iload_n (i := 3) dX2_timesAsLikely_3 rfl 3 rfl ?_
  refine pg_iload dX2_timesAsLikely_4 4 rfl ?_
  refine pg_callV_wV (As := [pR a1, pI a2, pI a3, pI a4]) (rs := []) dX2_timesAsLikely_6 lk_RX2_31 vy_X2_weigh nd_X2_weigh (c_X2_weigh l D a0 a1 a2 a3 a4 h) rfl rfl (Nat.le_of_ble_eq_true rfl) (by decide) (by decide) (fun v1 => ?_)
  refine pg_aload_n (i := 0) dX2_timesAsLikely_9 rfl 0 rfl ?_
  refine pg_callV_wI (As := []) (rs := []) dX2_timesAsLikely_10 lk_RX2_35 vy_X2_topThroughBottom nd_X2_topThroughBottom (c_X2_topThroughBottom l D a0 v1) rfl rfl (Nat.le_of_ble_eq_true rfl) (by decide) (by decide) (fun v2 => ?_)
  exact pg_iret dX2_timesAsLikely_13 rfl rfl
theorem c_X2_timesAsLikely (l : Launch) (D : pg_D) (a0 : Nat) (a1 : Nat) (a2 : Int32) (a3 : Int32) (a4 : Int32) (h : pg_H) : ∀ x, F_X2_timesAsLikely a0 a1 a2 a3 a4 h = some x → pg_Ct l D yX2_timesAsLikely cX2_timesAsLikely 5 (some FieldType.int) 4 107 [pR a0, pR a1, pI a2, pI a3, pI a4] h (pg_wI x) :=
  pg_Ct.of pn_RX2 (Nat.le_of_ble_eq_true rfl) (e_X2_timesAsLikely l D a0 a1 a2 a3 a4 h)
def F_X7_size (h : pg_H) (a0 : Nat) : Option Int32 := Option.bind (pg_gI 7 3 h a0) fun v1 => (some v1)
theorem e_X7_size (l : Launch) (D : pg_D)  (h : pg_H) (a0 : Nat) : pg_EvF l D RX7 cX7_size 1 (some FieldType.int) "size" 0 0 (pg_oI h) (F_X7_size h a0) 0 [(0, pR a0)] [] h := by
  unfold F_X7_size
  refine pg_aload_n (i := 0) dX7_size_0 rfl 0 rfl ?_
  refine pg_getI dX7_size_1 fl_RX7_28 rfl (fun v1 => ?_)
  exact pg_iret dX7_size_4 rfl rfl
theorem c_X7_size (l : Launch) (D : pg_D) (h : pg_H) (a0 : Nat)  : ∀ x, F_X7_size h a0 = some x → pg_Ct l D yX7_size cX7_size 1 (some FieldType.int) 0 0 [pR a0] h (pg_oI h x) :=
  pg_Ct.of pn_RX7 (Nat.le_of_ble_eq_true rfl) (e_X7_size l D h a0)
def F_X2_likeliestHand_46 (k5 : Nat → Nat → Int32 → Int32 → Int32 → pg_H → Option (Int32 × pg_H)) (a0 : Nat) (a1 : Nat) (a2 : Int32) (a4 : Int32) (s0 : Int32) (h : pg_H) : Option (Int32 × pg_H) := (k5 a0 a1 a2 s0 (a4 + (1 : Int32)) h)
def F_X2_likeliestHand_5  : Nat → Nat → Nat → Int32 → Int32 → Int32 → pg_H → Option (Int32 × pg_H)
  | 0 => fun _ _ _ _ _ _ => none
  | n + 1 => fun a0 a1 a2 a3 a4 h => Option.bind (pg_gR 5 2 h a1) fun v1 => Option.bind (pg_rcv 7 h v1 (F_X7_size h v1)) fun v2 => (if a4 < v2 then Option.bind (pg_rcv 2 h a0 (F_X2_weigh a0 a1 a2 a4 a3 h)) fun v3 => Option.bind (pg_gR 2 0 v3 a0) fun v4 => Option.bind (pg_gR 2 1 v3 a0) fun v5 => Option.bind (pg_rcv 1 v3 v4 (F_X1_isMoreThan v3 v4 v5)) fun v6 => (if v6 = 0 then (F_X2_likeliestHand_46 (F_X2_likeliestHand_5 n) a0 a1 a2 a4 a3 v3) else (F_X2_likeliestHand_46 (F_X2_likeliestHand_5 n) a0 a1 a2 a4 a4 v3)) else (some (a3, h)))
def F_X2_likeliestHand (a0 : Nat) (a1 : Nat) (a2 : Int32) (h : pg_H) : Option (Int32 × pg_H) := (F_X2_likeliestHand_5 pg_fuel a0 a1 a2 (0 : Int32) (1 : Int32) h)
theorem e_X2_likeliestHand_46 (l : Launch) (D : pg_D)  (k5 : Nat → Nat → Int32 → Int32 → Int32 → pg_H → Option (Int32 × pg_H)) (hk5 : ∀ (a0 : Nat) (a1 : Nat) (a2 : Int32) (a3 : Int32) (a4 : Int32) (h : pg_H), pg_EvF l D RX2 cX2_likeliestHand 5 (some FieldType.int) "likeliestHand" 4 107 pg_wI (k5 a0 a1 a2 a3 a4 h) 5 [(0, pR a0), (1, pR a1), (2, pI a2), (3, pI a3), (4, pI a4)] [] h) (a0 : Nat) (a1 : Nat) (a2 : Int32) (a4 : Int32) (s0 : Int32) (h : pg_H) : pg_EvF l D RX2 cX2_likeliestHand 5 (some FieldType.int) "likeliestHand" 4 107 pg_wI (F_X2_likeliestHand_46 k5 a0 a1 a2 a4 s0 h) 46 [(0, pR a0), (1, pR a1), (2, pI a2), (4, pI a4)] [pI s0] h := by
  unfold F_X2_likeliestHand_46
  refine pg_istore_n (i := 3) (lv' := [(3, pI s0), (0, pR a0), (1, pR a1), (2, pI a2), (4, pI a4)]) dX2_likeliestHand_46 rfl (by decide) rfl ?_
  refine pg_iinc (lv' := [(4, pI (a4 + (1 : Int32))), (3, pI s0), (0, pR a0), (1, pR a1), (2, pI a2)]) dX2_likeliestHand_47 4 rfl ci_1 (by decide) rfl ?_
  refine pg_goto (tgt := 5) dX2_likeliestHand_50 rfl ?_
  exact pg_to (hk5 a0 a1 a2 s0 (a4 + (1 : Int32)) h) [2, 3, 4, 1, 0] rfl
theorem e_X2_likeliestHand_5 (l : Launch) (D : pg_D)   : ∀ (n : Nat) (a0 : Nat) (a1 : Nat) (a2 : Int32) (a3 : Int32) (a4 : Int32) (h : pg_H), pg_EvF l D RX2 cX2_likeliestHand 5 (some FieldType.int) "likeliestHand" 4 107 pg_wI (F_X2_likeliestHand_5 n a0 a1 a2 a3 a4 h) 5 [(0, pR a0), (1, pR a1), (2, pI a2), (3, pI a3), (4, pI a4)] [] h := by
  intro n
  induction n with
  | zero => intro a0 a1 a2 a3 a4 h; exact pg_none
  | succ n ih =>
    intro a0 a1 a2 a3 a4 h
    rw [F_X2_likeliestHand_5]
    refine pg_iload dX2_likeliestHand_5 4 rfl ?_
    refine pg_aload_n (i := 1) dX2_likeliestHand_7 rfl 1 rfl ?_
    refine pg_getR dX2_likeliestHand_8 fl_RX2_39 rfl (fun v1 => ?_)
    refine pg_callV_oI (As := []) (rs := [pI a4]) dX2_likeliestHand_11 lk_RX2_45 vy_X7_size nd_X7_size (c_X7_size l D h v1) rfl rfl (Nat.le_of_ble_eq_true rfl) (by decide) (by decide) (fun v2 => ?_)
    refine pg_icmp_ge (tgt := 53) dX2_likeliestHand_14 rfl ?_ ?_
    · refine pg_iload_n (i := 3) dX2_likeliestHand_53 rfl 3 rfl ?_
      exact pg_iret dX2_likeliestHand_54 rfl rfl
    · refine pg_aload_n (i := 0) dX2_likeliestHand_17 rfl 0 rfl ?_
      refine pg_aload_n (i := 1) dX2_likeliestHand_18 rfl 1 rfl ?_
      refine pg_iload_n (i := 2) dX2_likeliestHand_19 rfl 2 rfl ?_
      refine pg_iload dX2_likeliestHand_20 4 rfl ?_
      refine pg_iload_n (i := 3) dX2_likeliestHand_22 rfl 3 rfl ?_
      refine pg_callV_wV (As := [pR a1, pI a2, pI a4, pI a3]) (rs := []) dX2_likeliestHand_23 lk_RX2_31 vy_X2_weigh nd_X2_weigh (c_X2_weigh l D a0 a1 a2 a4 a3 h) rfl rfl (Nat.le_of_ble_eq_true rfl) (by decide) (by decide) (fun v3 => ?_)
      refine pg_aload_n (i := 0) dX2_likeliestHand_26 rfl 0 rfl ?_
      refine pg_getR dX2_likeliestHand_27 fl_RX2_12 rfl (fun v4 => ?_)
      refine pg_aload_n (i := 0) dX2_likeliestHand_30 rfl 0 rfl ?_
      refine pg_getR dX2_likeliestHand_31 fl_RX2_18 rfl (fun v5 => ?_)
      refine pg_callV_oI (As := [pR v5]) (rs := []) dX2_likeliestHand_34 lk_RX2_50 vy_X1_isMoreThan nd_X1_isMoreThan (c_X1_isMoreThan l D v3 v4 v5) rfl rfl (Nat.le_of_ble_eq_true rfl) (by decide) (by decide) (fun v6 => ?_)
      refine pg_if_eq (tgt := 45) dX2_likeliestHand_37 rfl ?_ ?_
      · refine pg_iload_n (i := 3) dX2_likeliestHand_45 rfl 3 rfl ?_
        exact pg_to (e_X2_likeliestHand_46 l D (F_X2_likeliestHand_5 n) ih a0 a1 a2 a4 a3 v3) [0, 1, 2, 4] rfl
      · refine pg_iload dX2_likeliestHand_40 4 rfl ?_
        refine pg_goto (tgt := 46) dX2_likeliestHand_42 rfl ?_
        exact pg_to (e_X2_likeliestHand_46 l D (F_X2_likeliestHand_5 n) ih a0 a1 a2 a4 a4 v3) [0, 1, 2, 4] rfl
theorem e_X2_likeliestHand (l : Launch) (D : pg_D)  (a0 : Nat) (a1 : Nat) (a2 : Int32) (h : pg_H) : pg_EvF l D RX2 cX2_likeliestHand 5 (some FieldType.int) "likeliestHand" 4 107 pg_wI (F_X2_likeliestHand a0 a1 a2 h) 0 [(0, pR a0), (1, pR a1), (2, pI a2)] [] h := by
  unfold F_X2_likeliestHand
  refine pg_iconst dX2_likeliestHand_0 ci_0 ?_
  refine pg_istore_n (i := 3) (lv' := [(3, pI (0 : Int32)), (0, pR a0), (1, pR a1), (2, pI a2)]) dX2_likeliestHand_1 rfl (by decide) rfl ?_
  refine pg_iconst dX2_likeliestHand_2 ci_1 ?_
  refine pg_istore (lv' := [(4, pI (1 : Int32)), (3, pI (0 : Int32)), (0, pR a0), (1, pR a1), (2, pI a2)]) dX2_likeliestHand_3 (by decide) rfl ?_
  exact pg_to (e_X2_likeliestHand_5 l D pg_fuel a0 a1 a2 (0 : Int32) (1 : Int32) h) [2, 3, 4, 1, 0] rfl
theorem c_X2_likeliestHand (l : Launch) (D : pg_D) (a0 : Nat) (a1 : Nat) (a2 : Int32) (h : pg_H) : ∀ x, F_X2_likeliestHand a0 a1 a2 h = some x → pg_Ct l D yX2_likeliestHand cX2_likeliestHand 5 (some FieldType.int) 4 107 [pR a0, pR a1, pI a2] h (pg_wI x) :=
  pg_Ct.of pn_RX2 (Nat.le_of_ble_eq_true rfl) (e_X2_likeliestHand l D a0 a1 a2 h)
def F_X5_textOf (h : pg_H) (a0 : Nat) (a1 : Int32) : Option Nat := (if a1 < 0 then (some (0 : Nat)) else Option.bind (pg_gI 5 7 h a0) fun v1 => (if a1 < v1 then (if a1 < (8 : Int32) then Option.bind (pg_gR 5 6 h a0) fun v2 => Option.bind (pg_aR 25 h v2 a1) fun v3 => (some v3) else (some (0 : Nat))) else (some (0 : Nat))))
theorem e_X5_textOf (l : Launch) (D : pg_D)  (h : pg_H) (a0 : Nat) (a1 : Int32) : pg_EvF l D RX5 cX5_textOf 2 (some (FieldType.object "SkyMargins$Text")) "textOf" 0 0 (pg_oR h) (F_X5_textOf h a0 a1) 0 [(0, pR a0), (1, pI a1)] [] h := by
  unfold F_X5_textOf
  refine pg_iload_n (i := 1) dX5_textOf_0 rfl 1 rfl ?_
  refine pg_if_lt (tgt := 27) dX5_textOf_1 rfl ?_ ?_
  · refine pg_null dX5_textOf_27 ?_
    exact pg_aret dX5_textOf_28 rfl rfl rfl
  · refine pg_iload_n (i := 1) dX5_textOf_4 rfl 1 rfl ?_
    refine pg_aload_n (i := 0) dX5_textOf_5 rfl 0 rfl ?_
    refine pg_getI dX5_textOf_6 fl_RX5_60 rfl (fun v1 => ?_)
    refine pg_icmp_ge (tgt := 27) dX5_textOf_9 rfl ?_ ?_
    · refine pg_null dX5_textOf_27 ?_
      exact pg_aret dX5_textOf_28 rfl rfl rfl
    · refine pg_iload_n (i := 1) dX5_textOf_12 rfl 1 rfl ?_
      refine pg_bipush dX5_textOf_13 cb_8 ?_
      refine pg_icmp_ge (tgt := 27) dX5_textOf_15 rfl ?_ ?_
      · refine pg_null dX5_textOf_27 ?_
        exact pg_aret dX5_textOf_28 rfl rfl rfl
      · refine pg_aload_n (i := 0) dX5_textOf_18 rfl 0 rfl ?_
        refine pg_getR dX5_textOf_19 fl_RX5_38 rfl (fun v2 => ?_)
        refine pg_iload_n (i := 1) dX5_textOf_22 rfl 1 rfl ?_
        refine pg_aaload25 dX5_textOf_23 (fun v3 => ?_)
        refine pg_goto (tgt := 28) dX5_textOf_24 rfl ?_
        exact pg_aret dX5_textOf_28 rfl rfl rfl
theorem c_X5_textOf (l : Launch) (D : pg_D) (h : pg_H) (a0 : Nat) (a1 : Int32)  : ∀ x, F_X5_textOf h a0 a1 = some x → pg_Ct l D yX5_textOf cX5_textOf 2 (some (FieldType.object "SkyMargins$Text")) 0 0 [pR a0, pI a1] h (pg_oR h x) :=
  pg_Ct.of pn_RX5 (Nat.le_of_ble_eq_true rfl) (e_X5_textOf l D h a0 a1)
def F_X5_textUsed (h : pg_H) (a0 : Nat) : Option Nat := Option.bind (pg_gI 5 8 h a0) fun v1 => Option.bind (pg_rcv 5 h a0 (F_X5_textOf h a0 v1)) fun v2 => (some v2)
theorem e_X5_textUsed (l : Launch) (D : pg_D)  (h : pg_H) (a0 : Nat) : pg_EvF l D RX5 cX5_textUsed 1 (some (FieldType.object "SkyMargins$Text")) "textUsed" 1 21 (pg_oR h) (F_X5_textUsed h a0) 0 [(0, pR a0)] [] h := by
  unfold F_X5_textUsed
  refine pg_aload_n (i := 0) dX5_textUsed_0 rfl 0 rfl ?_
  refine pg_aload_n (i := 0) dX5_textUsed_1 rfl 0 rfl ?_
  refine pg_getI dX5_textUsed_2 fl_RX5_42 rfl (fun v1 => ?_)
  refine pg_callV_oR (As := [pI v1]) (rs := []) dX5_textUsed_5 lk_RX5_63 vy_X5_textOf nd_X5_textOf (c_X5_textOf l D h a0 v1) rfl rfl (Nat.le_of_ble_eq_true rfl) (by decide) (by decide) (fun v2 => ?_)
  exact pg_aret dX5_textUsed_8 rfl rfl rfl
theorem c_X5_textUsed (l : Launch) (D : pg_D) (h : pg_H) (a0 : Nat)  : ∀ x, F_X5_textUsed h a0 = some x → pg_Ct l D yX5_textUsed cX5_textUsed 1 (some (FieldType.object "SkyMargins$Text")) 1 21 [pR a0] h (pg_oR h x) :=
  pg_Ct.of pn_RX5 (Nat.le_of_ble_eq_true rfl) (e_X5_textUsed l D h a0)
def F_X5_placesOfKind_74 (h : pg_H) (k5 : Nat → Int32 → Int32 → Int64 → Int32 → Option Int64) (a0 : Nat) (a1 : Int32) (a2 : Int32) (a5 : Int32) (s0 : Int64) (s1 : Int64) : Option Int64 := pg_let (s1 ||| s0) fun v1 => (k5 a0 a1 a2 v1 (a5 + (1 : Int32)))
def F_X5_placesOfKind_50 (h : pg_H) (k5 : Nat → Int32 → Int32 → Int64 → Int32 → Option Int64) (a0 : Nat) (a1 : Int32) (a2 : Int32) (a3 : Int64) (a5 : Int32) (s0 : Int32) : Option Int64 := (if s0 = 0 then (F_X5_placesOfKind_74 h k5 a0 a1 a2 a5 (0 : Int64) a3) else Option.bind (pg_gR 5 4 h a0) fun v1 => Option.bind (pg_rcv 7 h v1 (F_X7_at h v1 a5 (1 : Int32))) fun v2 => (F_X5_placesOfKind_74 h k5 a0 a1 a2 a5 ((1 : Int64) <<< ((v2).toInt64 &&& 63)) a3))
def F_X5_placesOfKind_49 (h : pg_H) (k5 : Nat → Int32 → Int32 → Int64 → Int32 → Option Int64) (a0 : Nat) (a1 : Int32) (a2 : Int32) (a3 : Int64) (a5 : Int32) : Option Int64 := (F_X5_placesOfKind_50 h k5 a0 a1 a2 a3 a5 (0 : Int32))
def F_X5_placesOfKind_5 (h : pg_H) : Nat → Nat → Int32 → Int32 → Int64 → Int32 → Option Int64
  | 0 => fun _ _ _ _ _ => none
  | n + 1 => fun a0 a1 a2 a3 a5 => Option.bind (pg_gR 5 4 h a0) fun v1 => Option.bind (pg_rcv 7 h v1 (F_X7_size h v1)) fun v2 => (if a5 < v2 then Option.bind (pg_gR 5 4 h a0) fun v3 => Option.bind (pg_rcv 7 h v3 (F_X7_at h v3 a5 (0 : Int32))) fun v4 => (if v4 = a1 then Option.bind (pg_gR 5 4 h a0) fun v5 => Option.bind (pg_rcv 7 h v5 (F_X7_at h v5 a5 (4 : Int32))) fun v6 => (if v6 = a2 then (F_X5_placesOfKind_50 h (F_X5_placesOfKind_5 h n) a0 a1 a2 a3 a5 (1 : Int32)) else (F_X5_placesOfKind_49 h (F_X5_placesOfKind_5 h n) a0 a1 a2 a3 a5)) else (F_X5_placesOfKind_49 h (F_X5_placesOfKind_5 h n) a0 a1 a2 a3 a5)) else (some a3))
def F_X5_placesOfKind (h : pg_H) (a0 : Nat) (a1 : Int32) (a2 : Int32) : Option Int64 := (F_X5_placesOfKind_5 h pg_fuel a0 a1 a2 (0 : Int64) (0 : Int32))
theorem e_X5_placesOfKind_74 (l : Launch) (D : pg_D)  (h : pg_H) (k5 : Nat → Int32 → Int32 → Int64 → Int32 → Option Int64) (hk5 : ∀ (a0 : Nat) (a1 : Int32) (a2 : Int32) (a3 : Int64) (a5 : Int32), pg_EvF l D RX5 cX5_placesOfKind 7 (some FieldType.long) "placesOfKind" 1 22 (pg_oL h) (k5 a0 a1 a2 a3 a5) 5 [(0, pR a0), (1, pI a1), (2, pI a2), (3, pL a3), (5, pI a5)] [] h) (a0 : Nat) (a1 : Int32) (a2 : Int32) (a5 : Int32) (s0 : Int64) (s1 : Int64) : pg_EvF l D RX5 cX5_placesOfKind 7 (some FieldType.long) "placesOfKind" 1 22 (pg_oL h) (F_X5_placesOfKind_74 h k5 a0 a1 a2 a5 s0 s1) 74 [(0, pR a0), (1, pI a1), (2, pI a2), (5, pI a5)] [pL s0, pL s1] h := by
  unfold F_X5_placesOfKind_74
  refine pg_lor dX5_placesOfKind_74 ?_
  refine pg_letL (fun v1 => ?_)
  refine pg_lstore_n (i := 3) (lv' := [(3, pL v1), (0, pR a0), (1, pI a1), (2, pI a2), (5, pI a5)]) dX5_placesOfKind_75 rfl (by decide) rfl ?_
  refine pg_iinc (lv' := [(5, pI (a5 + (1 : Int32))), (3, pL v1), (0, pR a0), (1, pI a1), (2, pI a2)]) dX5_placesOfKind_76 4 rfl ci_1 (by decide) rfl ?_
  refine pg_goto (tgt := 5) dX5_placesOfKind_79 rfl ?_
  exact pg_to (hk5 a0 a1 a2 v1 (a5 + (1 : Int32))) [2, 3, 4, 1, 0] rfl
theorem e_X5_placesOfKind_50 (l : Launch) (D : pg_D)  (h : pg_H) (k5 : Nat → Int32 → Int32 → Int64 → Int32 → Option Int64) (hk5 : ∀ (a0 : Nat) (a1 : Int32) (a2 : Int32) (a3 : Int64) (a5 : Int32), pg_EvF l D RX5 cX5_placesOfKind 7 (some FieldType.long) "placesOfKind" 1 22 (pg_oL h) (k5 a0 a1 a2 a3 a5) 5 [(0, pR a0), (1, pI a1), (2, pI a2), (3, pL a3), (5, pI a5)] [] h) (a0 : Nat) (a1 : Int32) (a2 : Int32) (a3 : Int64) (a5 : Int32) (s0 : Int32) : pg_EvF l D RX5 cX5_placesOfKind 7 (some FieldType.long) "placesOfKind" 1 22 (pg_oL h) (F_X5_placesOfKind_50 h k5 a0 a1 a2 a3 a5 s0) 50 [(0, pR a0), (1, pI a1), (2, pI a2), (3, pL a3), (5, pI a5)] [pI s0] h := by
  unfold F_X5_placesOfKind_50
  refine pg_istore (lv' := [(6, pI s0), (0, pR a0), (1, pI a1), (2, pI a2), (3, pL a3), (5, pI a5)]) dX5_placesOfKind_50 (by decide) rfl ?_
  refine pg_lload_n (i := 3) dX5_placesOfKind_52 rfl 4 rfl ?_
  refine pg_iload dX5_placesOfKind_53 0 rfl ?_
  refine pg_if_eq (tgt := 73) dX5_placesOfKind_55 rfl ?_ ?_
  · refine pg_lconst dX5_placesOfKind_73 cl_0 ?_
    exact pg_to (e_X5_placesOfKind_74 l D h k5 hk5 a0 a1 a2 a5 (0 : Int64) a3) [1, 2, 3, 5] rfl
  · refine pg_lconst dX5_placesOfKind_58 cl_1 ?_
    refine pg_aload_n (i := 0) dX5_placesOfKind_59 rfl 1 rfl ?_
    refine pg_getR dX5_placesOfKind_60 fl_RX5_29 rfl (fun v1 => ?_)
    refine pg_iload dX5_placesOfKind_63 5 rfl ?_
    refine pg_iconst dX5_placesOfKind_65 ci_1 ?_
    refine pg_callV_oI (As := [pI a5, pI (1 : Int32)]) (rs := [pL (1 : Int64), pL a3]) dX5_placesOfKind_66 lk_RX5_70 vy_X7_at nd_X7_at (c_X7_at l D h v1 a5 (1 : Int32)) rfl rfl (Nat.le_of_ble_eq_true rfl) (by decide) (by decide) (fun v2 => ?_)
    refine pg_lshl dX5_placesOfKind_69 ?_
    refine pg_goto (tgt := 74) dX5_placesOfKind_70 rfl ?_
    exact pg_to (e_X5_placesOfKind_74 l D h k5 hk5 a0 a1 a2 a5 ((1 : Int64) <<< ((v2).toInt64 &&& 63)) a3) [1, 2, 3, 5] rfl
theorem e_X5_placesOfKind_49 (l : Launch) (D : pg_D)  (h : pg_H) (k5 : Nat → Int32 → Int32 → Int64 → Int32 → Option Int64) (hk5 : ∀ (a0 : Nat) (a1 : Int32) (a2 : Int32) (a3 : Int64) (a5 : Int32), pg_EvF l D RX5 cX5_placesOfKind 7 (some FieldType.long) "placesOfKind" 1 22 (pg_oL h) (k5 a0 a1 a2 a3 a5) 5 [(0, pR a0), (1, pI a1), (2, pI a2), (3, pL a3), (5, pI a5)] [] h) (a0 : Nat) (a1 : Int32) (a2 : Int32) (a3 : Int64) (a5 : Int32) : pg_EvF l D RX5 cX5_placesOfKind 7 (some FieldType.long) "placesOfKind" 1 22 (pg_oL h) (F_X5_placesOfKind_49 h k5 a0 a1 a2 a3 a5) 49 [(0, pR a0), (1, pI a1), (2, pI a2), (3, pL a3), (5, pI a5)] [] h := by
  unfold F_X5_placesOfKind_49
  refine pg_iconst dX5_placesOfKind_49 ci_0 ?_
  exact pg_to (e_X5_placesOfKind_50 l D h k5 hk5 a0 a1 a2 a3 a5 (0 : Int32)) [0, 1, 2, 3, 4] rfl
theorem e_X5_placesOfKind_5 (l : Launch) (D : pg_D)  (h : pg_H) : ∀ (n : Nat) (a0 : Nat) (a1 : Int32) (a2 : Int32) (a3 : Int64) (a5 : Int32), pg_EvF l D RX5 cX5_placesOfKind 7 (some FieldType.long) "placesOfKind" 1 22 (pg_oL h) (F_X5_placesOfKind_5 h n a0 a1 a2 a3 a5) 5 [(0, pR a0), (1, pI a1), (2, pI a2), (3, pL a3), (5, pI a5)] [] h := by
  intro n
  induction n with
  | zero => intro a0 a1 a2 a3 a5; exact pg_none
  | succ n ih =>
    intro a0 a1 a2 a3 a5
    rw [F_X5_placesOfKind_5]
    refine pg_iload dX5_placesOfKind_5 4 rfl ?_
    refine pg_aload_n (i := 0) dX5_placesOfKind_7 rfl 0 rfl ?_
    refine pg_getR dX5_placesOfKind_8 fl_RX5_29 rfl (fun v1 => ?_)
    refine pg_callV_oI (As := []) (rs := [pI a5]) dX5_placesOfKind_11 lk_RX5_67 vy_X7_size nd_X7_size (c_X7_size l D h v1) rfl rfl (Nat.le_of_ble_eq_true rfl) (by decide) (by decide) (fun v2 => ?_)
    refine pg_icmp_ge (tgt := 82) dX5_placesOfKind_14 rfl ?_ ?_
    · refine pg_lload_n (i := 3) dX5_placesOfKind_82 rfl 3 rfl ?_
      exact pg_lret dX5_placesOfKind_83 rfl rfl
    · refine pg_aload_n (i := 0) dX5_placesOfKind_17 rfl 0 rfl ?_
      refine pg_getR dX5_placesOfKind_18 fl_RX5_29 rfl (fun v3 => ?_)
      refine pg_iload dX5_placesOfKind_21 4 rfl ?_
      refine pg_iconst dX5_placesOfKind_23 ci_0 ?_
      refine pg_callV_oI (As := [pI a5, pI (0 : Int32)]) (rs := []) dX5_placesOfKind_24 lk_RX5_70 vy_X7_at nd_X7_at (c_X7_at l D h v3 a5 (0 : Int32)) rfl rfl (Nat.le_of_ble_eq_true rfl) (by decide) (by decide) (fun v4 => ?_)
      refine pg_iload_n (i := 1) dX5_placesOfKind_27 rfl 1 rfl ?_
      refine pg_icmp_ne (tgt := 49) dX5_placesOfKind_28 rfl ?_ ?_
      · exact pg_to (e_X5_placesOfKind_49 l D h (F_X5_placesOfKind_5 h n) ih a0 a1 a2 a3 a5) [0, 1, 2, 3, 4] rfl
      · refine pg_aload_n (i := 0) dX5_placesOfKind_31 rfl 0 rfl ?_
        refine pg_getR dX5_placesOfKind_32 fl_RX5_29 rfl (fun v5 => ?_)
        refine pg_iload dX5_placesOfKind_35 4 rfl ?_
        refine pg_iconst dX5_placesOfKind_37 ci_4 ?_
        refine pg_callV_oI (As := [pI a5, pI (4 : Int32)]) (rs := []) dX5_placesOfKind_38 lk_RX5_70 vy_X7_at nd_X7_at (c_X7_at l D h v5 a5 (4 : Int32)) rfl rfl (Nat.le_of_ble_eq_true rfl) (by decide) (by decide) (fun v6 => ?_)
        refine pg_iload_n (i := 2) dX5_placesOfKind_41 rfl 2 rfl ?_
        refine pg_icmp_ne (tgt := 49) dX5_placesOfKind_42 rfl ?_ ?_
        · exact pg_to (e_X5_placesOfKind_49 l D h (F_X5_placesOfKind_5 h n) ih a0 a1 a2 a3 a5) [0, 1, 2, 3, 4] rfl
        · refine pg_iconst dX5_placesOfKind_45 ci_1 ?_
          refine pg_goto (tgt := 50) dX5_placesOfKind_46 rfl ?_
          exact pg_to (e_X5_placesOfKind_50 l D h (F_X5_placesOfKind_5 h n) ih a0 a1 a2 a3 a5 (1 : Int32)) [0, 1, 2, 3, 4] rfl
theorem e_X5_placesOfKind (l : Launch) (D : pg_D)  (h : pg_H) (a0 : Nat) (a1 : Int32) (a2 : Int32) : pg_EvF l D RX5 cX5_placesOfKind 7 (some FieldType.long) "placesOfKind" 1 22 (pg_oL h) (F_X5_placesOfKind h a0 a1 a2) 0 [(0, pR a0), (1, pI a1), (2, pI a2)] [] h := by
  unfold F_X5_placesOfKind
  refine pg_lconst dX5_placesOfKind_0 cl_0 ?_
  refine pg_lstore_n (i := 3) (lv' := [(3, pL (0 : Int64)), (0, pR a0), (1, pI a1), (2, pI a2)]) dX5_placesOfKind_1 rfl (by decide) rfl ?_
  refine pg_iconst dX5_placesOfKind_2 ci_0 ?_
  refine pg_istore (lv' := [(5, pI (0 : Int32)), (3, pL (0 : Int64)), (0, pR a0), (1, pI a1), (2, pI a2)]) dX5_placesOfKind_3 (by decide) rfl ?_
  exact pg_to (e_X5_placesOfKind_5 l D h pg_fuel a0 a1 a2 (0 : Int64) (0 : Int32)) [2, 3, 4, 1, 0] rfl
theorem c_X5_placesOfKind (l : Launch) (D : pg_D) (h : pg_H) (a0 : Nat) (a1 : Int32) (a2 : Int32)  : ∀ x, F_X5_placesOfKind h a0 a1 a2 = some x → pg_Ct l D yX5_placesOfKind cX5_placesOfKind 7 (some FieldType.long) 1 22 [pR a0, pI a1, pI a2] h (pg_oL h x) :=
  pg_Ct.of pn_RX5 (Nat.le_of_ble_eq_true rfl) (e_X5_placesOfKind l D h a0 a1 a2)
def F_X5_chaptersWritten_13 (h : pg_H) : Nat → Int64 → Int32 → Int32 → Option Int32
  | 0 => fun _ _ _ => none
  | n + 1 => fun a2 a4 a5 => (if a5 < (60 : Int32) then (if (5 : Int32) = 0 then none else pg_let (a4 ||| ((((a2 >>> ((a5).toInt64 &&& 63)) &&& (1 : Int64))).toInt32 <<< ((a5 / (5 : Int32)) &&& 31))) fun v1 => (F_X5_chaptersWritten_13 h n a2 v1 (a5 + (1 : Int32)))) else (some a4))
def F_X5_chaptersWritten (h : pg_H) (a0 : Nat) (a1 : Int32) : Option Int32 := Option.bind (pg_rcv 5 h a0 (F_X5_placesOfKind h a0 a1 (0 : Int32))) fun v1 => (F_X5_chaptersWritten_13 h pg_fuel v1 (0 : Int32) (0 : Int32))
theorem e_X5_chaptersWritten_13 (l : Launch) (D : pg_D)  (h : pg_H) : ∀ (n : Nat) (a2 : Int64) (a4 : Int32) (a5 : Int32), pg_EvF l D RX5 cX5_chaptersWritten 6 (some FieldType.int) "chaptersWritten" 2 48 (pg_oI h) (F_X5_chaptersWritten_13 h n a2 a4 a5) 13 [(2, pL a2), (4, pI a4), (5, pI a5)] [] h := by
  intro n
  induction n with
  | zero => intro a2 a4 a5; exact pg_none
  | succ n ih =>
    intro a2 a4 a5
    rw [F_X5_chaptersWritten_13]
    refine pg_iload dX5_chaptersWritten_13 2 rfl ?_
    refine pg_bipush dX5_chaptersWritten_15 cb_60 ?_
    refine pg_icmp_ge (tgt := 43) dX5_chaptersWritten_17 rfl ?_ ?_
    · refine pg_iload dX5_chaptersWritten_43 1 rfl ?_
      exact pg_iret dX5_chaptersWritten_45 rfl rfl
    · refine pg_iload dX5_chaptersWritten_20 1 rfl ?_
      refine pg_lload_n (i := 2) dX5_chaptersWritten_22 rfl 0 rfl ?_
      refine pg_iload dX5_chaptersWritten_23 2 rfl ?_
      refine pg_lshr dX5_chaptersWritten_25 ?_
      refine pg_lconst dX5_chaptersWritten_26 cl_1 ?_
      refine pg_land dX5_chaptersWritten_27 ?_
      refine pg_l2i dX5_chaptersWritten_28 ?_
      refine pg_iload dX5_chaptersWritten_29 2 rfl ?_
      refine pg_iconst dX5_chaptersWritten_31 ci_5 ?_
      refine pg_idiv dX5_chaptersWritten_32 ?_
      refine pg_ishl dX5_chaptersWritten_33 ?_
      refine pg_ior dX5_chaptersWritten_34 ?_
      refine pg_letI (fun v1 => ?_)
      refine pg_istore (lv' := [(4, pI v1), (2, pL a2), (5, pI a5)]) dX5_chaptersWritten_35 (by decide) rfl ?_
      refine pg_iinc (lv' := [(5, pI (a5 + (1 : Int32))), (4, pI v1), (2, pL a2)]) dX5_chaptersWritten_37 2 rfl ci_1 (by decide) rfl ?_
      refine pg_goto (tgt := 13) dX5_chaptersWritten_40 rfl ?_
      exact pg_to (ih a2 v1 (a5 + (1 : Int32))) [2, 1, 0] rfl
theorem e_X5_chaptersWritten (l : Launch) (D : pg_D)  (h : pg_H) (a0 : Nat) (a1 : Int32) : pg_EvF l D RX5 cX5_chaptersWritten 6 (some FieldType.int) "chaptersWritten" 2 48 (pg_oI h) (F_X5_chaptersWritten h a0 a1) 0 [(0, pR a0), (1, pI a1)] [] h := by
  unfold F_X5_chaptersWritten
  refine pg_aload_n (i := 0) dX5_chaptersWritten_0 rfl 0 rfl ?_
  refine pg_iload_n (i := 1) dX5_chaptersWritten_1 rfl 1 rfl ?_
  refine pg_iconst dX5_chaptersWritten_2 ci_0 ?_
  refine pg_callV_oL (As := [pI a1, pI (0 : Int32)]) (rs := []) dX5_chaptersWritten_3 lk_RX5_82 vy_X5_placesOfKind nd_X5_placesOfKind (c_X5_placesOfKind l D h a0 a1 (0 : Int32)) rfl rfl (Nat.le_of_ble_eq_true rfl) (by decide) (by decide) (fun v1 => ?_)
  refine pg_lstore_n (i := 2) (lv' := [(2, pL v1), (0, pR a0), (1, pI a1)]) dX5_chaptersWritten_6 rfl (by decide) rfl ?_
  refine pg_iconst dX5_chaptersWritten_7 ci_0 ?_
  refine pg_istore (lv' := [(4, pI (0 : Int32)), (2, pL v1), (0, pR a0), (1, pI a1)]) dX5_chaptersWritten_8 (by decide) rfl ?_
  refine pg_iconst dX5_chaptersWritten_10 ci_0 ?_
  refine pg_istore (lv' := [(5, pI (0 : Int32)), (4, pI (0 : Int32)), (2, pL v1), (0, pR a0), (1, pI a1)]) dX5_chaptersWritten_11 (by decide) rfl ?_
  exact pg_to (e_X5_chaptersWritten_13 l D h pg_fuel v1 (0 : Int32) (0 : Int32)) [2, 1, 0] rfl
theorem c_X5_chaptersWritten (l : Launch) (D : pg_D) (h : pg_H) (a0 : Nat) (a1 : Int32)  : ∀ x, F_X5_chaptersWritten h a0 a1 = some x → pg_Ct l D yX5_chaptersWritten cX5_chaptersWritten 6 (some FieldType.int) 2 48 [pR a0, pI a1] h (pg_oI h x) :=
  pg_Ct.of pn_RX5 (Nat.le_of_ble_eq_true rfl) (e_X5_chaptersWritten l D h a0 a1)
def F_J6_numberOfLeadingZeros_0f7a4_61 (a0 : Int32) (a1 : Int32) : Option Int32 := (if a0 < (4 : Int32) then (some (a1 - (((a0).toUInt32 >>> (((1 : Int32)).toUInt32 &&& Int32.toUInt32 31)).toInt32))) else pg_let (((a0).toUInt32 >>> (((2 : Int32)).toUInt32 &&& Int32.toUInt32 31)).toInt32) fun v1 => (some ((a1 + (-2 : Int32)) - (((v1).toUInt32 >>> (((1 : Int32)).toUInt32 &&& Int32.toUInt32 31)).toInt32))))
def F_J6_numberOfLeadingZeros_0f7a4_48 (a0 : Int32) (a1 : Int32) : Option Int32 := (if a0 < (16 : Int32) then (F_J6_numberOfLeadingZeros_0f7a4_61 a0 a1) else pg_let (((a0).toUInt32 >>> (((4 : Int32)).toUInt32 &&& Int32.toUInt32 31)).toInt32) fun v1 => (F_J6_numberOfLeadingZeros_0f7a4_61 v1 (a1 + (-4 : Int32))))
def F_J6_numberOfLeadingZeros_0f7a4_33 (a0 : Int32) (a1 : Int32) : Option Int32 := (if a0 < (256 : Int32) then (F_J6_numberOfLeadingZeros_0f7a4_48 a0 a1) else pg_let (((a0).toUInt32 >>> (((8 : Int32)).toUInt32 &&& Int32.toUInt32 31)).toInt32) fun v1 => (F_J6_numberOfLeadingZeros_0f7a4_48 v1 (a1 + (-8 : Int32))))
def F_J6_numberOfLeadingZeros_0f7a4 (a0 : Int32) : Option Int32 := (if 0 < a0 then (if a0 < (65536 : Int32) then (F_J6_numberOfLeadingZeros_0f7a4_33 a0 (31 : Int32)) else pg_let (((a0).toUInt32 >>> (((16 : Int32)).toUInt32 &&& Int32.toUInt32 31)).toInt32) fun v1 => (F_J6_numberOfLeadingZeros_0f7a4_33 v1 ((31 : Int32) + (-16 : Int32)))) else (if a0 = 0 then (some (32 : Int32)) else (some (0 : Int32))))
theorem e_J6_numberOfLeadingZeros_0f7a4_61 (l : Launch) (D : pg_D)  (h : pg_H) (a0 : Int32) (a1 : Int32) : pg_EvF l D RJ6 cJ6_numberOfLeadingZeros_0f7a4 2 (some FieldType.int) "numberOfLeadingZeros" 0 0 (pg_oI h) (F_J6_numberOfLeadingZeros_0f7a4_61 a0 a1) 61 [(0, pI a0), (1, pI a1)] [] h := by
  unfold F_J6_numberOfLeadingZeros_0f7a4_61
  refine pg_iload_n (i := 0) dJ6_numberOfLeadingZeros_0f7a4_61 rfl 0 rfl ?_
  refine pg_iconst dJ6_numberOfLeadingZeros_0f7a4_62 ci_4 ?_
  refine pg_icmp_lt (tgt := 73) dJ6_numberOfLeadingZeros_0f7a4_63 rfl ?_ ?_
  · refine pg_iload_n (i := 1) dJ6_numberOfLeadingZeros_0f7a4_73 rfl 1 rfl ?_
    refine pg_iload_n (i := 0) dJ6_numberOfLeadingZeros_0f7a4_74 rfl 0 rfl ?_
    refine pg_iconst dJ6_numberOfLeadingZeros_0f7a4_75 ci_1 ?_
    refine pg_iushr dJ6_numberOfLeadingZeros_0f7a4_76 ?_
    refine pg_isub dJ6_numberOfLeadingZeros_0f7a4_77 ?_
    exact pg_iret dJ6_numberOfLeadingZeros_0f7a4_78 rfl rfl
  · refine pg_iinc (lv' := [(1, pI (a1 + (-2 : Int32))), (0, pI a0)]) dJ6_numberOfLeadingZeros_0f7a4_66 1 rfl ci_m2 (by decide) rfl ?_
    refine pg_iload_n (i := 0) dJ6_numberOfLeadingZeros_0f7a4_69 rfl 1 rfl ?_
    refine pg_iconst dJ6_numberOfLeadingZeros_0f7a4_70 ci_2 ?_
    refine pg_iushr dJ6_numberOfLeadingZeros_0f7a4_71 ?_
    refine pg_letI (fun v1 => ?_)
    refine pg_istore_n (i := 0) (lv' := [(0, pI v1), (1, pI (a1 + (-2 : Int32)))]) dJ6_numberOfLeadingZeros_0f7a4_72 rfl (by decide) rfl ?_
    refine pg_iload_n (i := 1) dJ6_numberOfLeadingZeros_0f7a4_73 rfl 1 rfl ?_
    refine pg_iload_n (i := 0) dJ6_numberOfLeadingZeros_0f7a4_74 rfl 0 rfl ?_
    refine pg_iconst dJ6_numberOfLeadingZeros_0f7a4_75 ci_1 ?_
    refine pg_iushr dJ6_numberOfLeadingZeros_0f7a4_76 ?_
    refine pg_isub dJ6_numberOfLeadingZeros_0f7a4_77 ?_
    exact pg_iret dJ6_numberOfLeadingZeros_0f7a4_78 rfl rfl
theorem e_J6_numberOfLeadingZeros_0f7a4_48 (l : Launch) (D : pg_D)  (h : pg_H) (a0 : Int32) (a1 : Int32) : pg_EvF l D RJ6 cJ6_numberOfLeadingZeros_0f7a4 2 (some FieldType.int) "numberOfLeadingZeros" 0 0 (pg_oI h) (F_J6_numberOfLeadingZeros_0f7a4_48 a0 a1) 48 [(0, pI a0), (1, pI a1)] [] h := by
  unfold F_J6_numberOfLeadingZeros_0f7a4_48
  refine pg_iload_n (i := 0) dJ6_numberOfLeadingZeros_0f7a4_48 rfl 0 rfl ?_
  refine pg_bipush dJ6_numberOfLeadingZeros_0f7a4_49 cb_16 ?_
  refine pg_icmp_lt (tgt := 61) dJ6_numberOfLeadingZeros_0f7a4_51 rfl ?_ ?_
  · exact pg_to (e_J6_numberOfLeadingZeros_0f7a4_61 l D h a0 a1) [0, 1] rfl
  · refine pg_iinc (lv' := [(1, pI (a1 + (-4 : Int32))), (0, pI a0)]) dJ6_numberOfLeadingZeros_0f7a4_54 1 rfl ci_m4 (by decide) rfl ?_
    refine pg_iload_n (i := 0) dJ6_numberOfLeadingZeros_0f7a4_57 rfl 1 rfl ?_
    refine pg_iconst dJ6_numberOfLeadingZeros_0f7a4_58 ci_4 ?_
    refine pg_iushr dJ6_numberOfLeadingZeros_0f7a4_59 ?_
    refine pg_letI (fun v1 => ?_)
    refine pg_istore_n (i := 0) (lv' := [(0, pI v1), (1, pI (a1 + (-4 : Int32)))]) dJ6_numberOfLeadingZeros_0f7a4_60 rfl (by decide) rfl ?_
    exact pg_to (e_J6_numberOfLeadingZeros_0f7a4_61 l D h v1 (a1 + (-4 : Int32))) [0, 1] rfl
theorem e_J6_numberOfLeadingZeros_0f7a4_33 (l : Launch) (D : pg_D)  (h : pg_H) (a0 : Int32) (a1 : Int32) : pg_EvF l D RJ6 cJ6_numberOfLeadingZeros_0f7a4 2 (some FieldType.int) "numberOfLeadingZeros" 0 0 (pg_oI h) (F_J6_numberOfLeadingZeros_0f7a4_33 a0 a1) 33 [(0, pI a0), (1, pI a1)] [] h := by
  unfold F_J6_numberOfLeadingZeros_0f7a4_33
  refine pg_iload_n (i := 0) dJ6_numberOfLeadingZeros_0f7a4_33 rfl 0 rfl ?_
  refine pg_sipush dJ6_numberOfLeadingZeros_0f7a4_34 cs_256 ?_
  refine pg_icmp_lt (tgt := 48) dJ6_numberOfLeadingZeros_0f7a4_37 rfl ?_ ?_
  · exact pg_to (e_J6_numberOfLeadingZeros_0f7a4_48 l D h a0 a1) [0, 1] rfl
  · refine pg_iinc (lv' := [(1, pI (a1 + (-8 : Int32))), (0, pI a0)]) dJ6_numberOfLeadingZeros_0f7a4_40 1 rfl ci_m8 (by decide) rfl ?_
    refine pg_iload_n (i := 0) dJ6_numberOfLeadingZeros_0f7a4_43 rfl 1 rfl ?_
    refine pg_bipush dJ6_numberOfLeadingZeros_0f7a4_44 cb_8 ?_
    refine pg_iushr dJ6_numberOfLeadingZeros_0f7a4_46 ?_
    refine pg_letI (fun v1 => ?_)
    refine pg_istore_n (i := 0) (lv' := [(0, pI v1), (1, pI (a1 + (-8 : Int32)))]) dJ6_numberOfLeadingZeros_0f7a4_47 rfl (by decide) rfl ?_
    exact pg_to (e_J6_numberOfLeadingZeros_0f7a4_48 l D h v1 (a1 + (-8 : Int32))) [0, 1] rfl
theorem e_J6_numberOfLeadingZeros_0f7a4 (l : Launch) (D : pg_D)  (a0 : Int32) (h : pg_H) : pg_EvF l D RJ6 cJ6_numberOfLeadingZeros_0f7a4 2 (some FieldType.int) "numberOfLeadingZeros" 0 0 (pg_oI h) (F_J6_numberOfLeadingZeros_0f7a4 a0) 0 [(0, pI a0)] [] h := by
  unfold F_J6_numberOfLeadingZeros_0f7a4
  refine pg_iload_n (i := 0) dJ6_numberOfLeadingZeros_0f7a4_0 rfl 0 rfl ?_
  refine pg_if_gt (tgt := 15) dJ6_numberOfLeadingZeros_0f7a4_1 rfl ?_ ?_
  · refine pg_bipush dJ6_numberOfLeadingZeros_0f7a4_15 cb_31 ?_
    refine pg_istore_n (i := 1) (lv' := [(1, pI (31 : Int32)), (0, pI a0)]) dJ6_numberOfLeadingZeros_0f7a4_17 rfl (by decide) rfl ?_
    refine pg_iload_n (i := 0) dJ6_numberOfLeadingZeros_0f7a4_18 rfl 1 rfl ?_
    refine pg_ldcw (v := (65536 : Int32)) dJ6_numberOfLeadingZeros_0f7a4_19 kc_RJ6_264 ?_
    refine pg_icmp_lt (tgt := 33) dJ6_numberOfLeadingZeros_0f7a4_22 rfl ?_ ?_
    · exact pg_to (e_J6_numberOfLeadingZeros_0f7a4_33 l D h a0 (31 : Int32)) [1, 0] rfl
    · refine pg_iinc (lv' := [(1, pI ((31 : Int32) + (-16 : Int32))), (0, pI a0)]) dJ6_numberOfLeadingZeros_0f7a4_25 0 rfl ci_m16 (by decide) rfl ?_
      refine pg_iload_n (i := 0) dJ6_numberOfLeadingZeros_0f7a4_28 rfl 1 rfl ?_
      refine pg_bipush dJ6_numberOfLeadingZeros_0f7a4_29 cb_16 ?_
      refine pg_iushr dJ6_numberOfLeadingZeros_0f7a4_31 ?_
      refine pg_letI (fun v1 => ?_)
      refine pg_istore_n (i := 0) (lv' := [(0, pI v1), (1, pI ((31 : Int32) + (-16 : Int32)))]) dJ6_numberOfLeadingZeros_0f7a4_32 rfl (by decide) rfl ?_
      exact pg_to (e_J6_numberOfLeadingZeros_0f7a4_33 l D h v1 ((31 : Int32) + (-16 : Int32))) [0, 1] rfl
  · refine pg_iload_n (i := 0) dJ6_numberOfLeadingZeros_0f7a4_4 rfl 0 rfl ?_
    refine pg_if_ne (tgt := 13) dJ6_numberOfLeadingZeros_0f7a4_5 rfl ?_ ?_
    · refine pg_iconst dJ6_numberOfLeadingZeros_0f7a4_13 ci_0 ?_
      exact pg_iret dJ6_numberOfLeadingZeros_0f7a4_14 rfl rfl
    · refine pg_bipush dJ6_numberOfLeadingZeros_0f7a4_8 cb_32 ?_
      refine pg_goto (tgt := 14) dJ6_numberOfLeadingZeros_0f7a4_10 rfl ?_
      exact pg_iret dJ6_numberOfLeadingZeros_0f7a4_14 rfl rfl
theorem c_J6_numberOfLeadingZeros_0f7a4 (l : Launch) (D : pg_D) (a0 : Int32) (h : pg_H) : ∀ x, F_J6_numberOfLeadingZeros_0f7a4 a0 = some x → pg_Ct l D yJ6_numberOfLeadingZeros_0f7a4 cJ6_numberOfLeadingZeros_0f7a4 2 (some FieldType.int) 0 0 [pI a0] h (pg_oI h x) :=
  pg_Ct.of pn_RJ6 (Nat.le_of_ble_eq_true rfl) (e_J6_numberOfLeadingZeros_0f7a4 l D a0 h)
def F_X11_lastBit (a0 : Int32) : Option Int32 := Option.bind (F_J6_numberOfLeadingZeros_0f7a4 a0) fun v1 => (some ((31 : Int32) - v1))
theorem e_X11_lastBit (l : Launch) (D : pg_D)  (a0 : Int32) (h : pg_H) : pg_EvF l D RX11 cX11_lastBit 1 (some FieldType.int) "lastBit" 1 21 (pg_oI h) (F_X11_lastBit a0) 0 [(0, pI a0)] [] h := by
  unfold F_X11_lastBit
  refine pg_bipush dX11_lastBit_0 cb_31 ?_
  refine pg_iload_n (i := 0) dX11_lastBit_2 rfl 0 rfl ?_
  refine pg_callS_oI (As := [pI a0]) (rs := [pI (31 : Int32)]) dX11_lastBit_3 lk_RX11_265 vy_J6_numberOfLeadingZeros_0f7a4 nd_J6_numberOfLeadingZeros_0f7a4 (c_J6_numberOfLeadingZeros_0f7a4 l D a0 h) rfl rfl (Nat.le_of_ble_eq_true rfl) (by decide) (by decide) (fun v1 => ?_)
  refine pg_isub dX11_lastBit_6 ?_
  exact pg_iret dX11_lastBit_7 rfl rfl
theorem c_X11_lastBit (l : Launch) (D : pg_D) (a0 : Int32) (h : pg_H) : ∀ x, F_X11_lastBit a0 = some x → pg_Ct l D yX11_lastBit cX11_lastBit 1 (some FieldType.int) 1 21 [pI a0] h (pg_oI h x) :=
  pg_Ct.of pn_RX11 (Nat.le_of_ble_eq_true rfl) (e_X11_lastBit l D a0 h)
def F_X2_weighRead_128 (k10 : Nat → Int32 → Int32 → Int32 → pg_H → Option pg_H) (a0 : Nat) (a1 : Int32) (a2 : Int32) (a3 : Int32) (h : pg_H) : Option pg_H := (k10 a0 a1 a2 (a3 + (1 : Int32)) h)
def F_X2_weighRead_125 (k10 : Nat → Int32 → Int32 → Int32 → pg_H → Option pg_H) (a0 : Nat) (a1 : Int32) (a2 : Int32) (a3 : Int32) (s0 : Int64) (s1 : Nat) (h : pg_H) : Option pg_H := Option.bind (pg_rcv 1 h s1 (F_X1_multiply s1 s0 h)) fun v1 => (F_X2_weighRead_128 k10 a0 a1 a2 a3 v1)
def F_X2_weighRead_101 (k10 : Nat → Int32 → Int32 → Int32 → pg_H → Option pg_H) (a0 : Nat) (a1 : Int32) (a2 : Int32) (a3 : Int32) (s0 : Int32) (h : pg_H) : Option pg_H := Option.bind (pg_gR 2 2 h a0) fun v1 => (if a3 < a1 then Option.bind (pg_gR 2 3 h a0) fun v2 => Option.bind (pg_aI 21 h v2 a3) fun v3 => (F_X2_weighRead_125 k10 a0 a1 a2 a3 (v3).toInt64 v1 h) else (F_X2_weighRead_125 k10 a0 a1 a2 a3 (s0).toInt64 v1 h))
def F_X2_weighRead_75 (k10 : Nat → Int32 → Int32 → Int32 → pg_H → Option pg_H) (a0 : Nat) (a1 : Int32) (a2 : Int32) (a3 : Int32) (s0 : Int64) (s1 : Nat) (h : pg_H) : Option pg_H := Option.bind (pg_rcv 1 h s1 (F_X1_multiply s1 s0 h)) fun v1 => (if 0 < a3 then (if a3 = a1 then Option.bind (pg_gR 2 3 v1 a0) fun v2 => Option.bind (pg_aI 21 v1 v2 a3) fun v3 => (F_X2_weighRead_101 k10 a0 a1 a2 a3 ((100 : Int32) - v3) v1) else (F_X2_weighRead_101 k10 a0 a1 a2 a3 (100 : Int32) v1)) else (F_X2_weighRead_128 k10 a0 a1 a2 a3 v1))
def F_X2_weighRead_55 (k10 : Nat → Int32 → Int32 → Int32 → pg_H → Option pg_H) (a0 : Nat) (a1 : Int32) (a2 : Int32) (a3 : Int32) (s0 : Int32) (h : pg_H) : Option pg_H := Option.bind (pg_gR 2 2 h a0) fun v1 => (if a3 < a1 then (F_X2_weighRead_75 k10 a0 a1 a2 a3 (s0).toInt64 v1 h) else (F_X2_weighRead_75 k10 a0 a1 a2 a3 (100 : Int64) v1 h))
def F_X2_weighRead_30 (k10 : Nat → Int32 → Int32 → Int32 → pg_H → Option pg_H) (a0 : Nat) (a1 : Int32) (a2 : Int32) (a3 : Int32) (s0 : Int32) (h : pg_H) : Option pg_H := (if s0 = 0 then Option.bind (pg_gR 2 4 h a0) fun v1 => Option.bind (pg_aI 21 h v1 a3) fun v2 => (F_X2_weighRead_55 k10 a0 a1 a2 a3 ((100 : Int32) - v2) h) else Option.bind (pg_gR 2 4 h a0) fun v3 => Option.bind (pg_aI 21 h v3 a3) fun v4 => (F_X2_weighRead_55 k10 a0 a1 a2 a3 v4 h))
def F_X2_weighRead_10  : Nat → Nat → Int32 → Int32 → Int32 → pg_H → Option pg_H
  | 0 => fun _ _ _ _ _ => none
  | n + 1 => fun a0 a1 a2 a3 h => (if a3 < (12 : Int32) then (if ((a2 >>> (a3 &&& 31)) &&& (1 : Int32)) = (1 : Int32) then (F_X2_weighRead_30 (F_X2_weighRead_10 n) a0 a1 a2 a3 (1 : Int32) h) else (F_X2_weighRead_30 (F_X2_weighRead_10 n) a0 a1 a2 a3 (0 : Int32) h)) else (some h))
def F_X2_weighRead (a0 : Nat) (a1 : Int32) (a2 : Int32) (h : pg_H) : Option pg_H := Option.bind (pg_gR 2 2 h a0) fun v1 => Option.bind (pg_rcv 1 h v1 (F_X1_become v1 (1 : Int32) h)) fun v2 => (F_X2_weighRead_10 pg_fuel a0 a1 a2 (0 : Int32) v2)
theorem e_X2_weighRead_128 (l : Launch) (D : pg_D)  (k10 : Nat → Int32 → Int32 → Int32 → pg_H → Option pg_H) (hk10 : ∀ (a0 : Nat) (a1 : Int32) (a2 : Int32) (a3 : Int32) (h : pg_H), pg_EvF l D RX2 cX2_weighRead 7 none "weighRead" 1 27 pg_wV (k10 a0 a1 a2 a3 h) 10 [(0, pR a0), (1, pI a1), (2, pI a2), (3, pI a3)] [] h) (a0 : Nat) (a1 : Int32) (a2 : Int32) (a3 : Int32) (h : pg_H) : pg_EvF l D RX2 cX2_weighRead 7 none "weighRead" 1 27 pg_wV (F_X2_weighRead_128 k10 a0 a1 a2 a3 h) 128 [(0, pR a0), (1, pI a1), (2, pI a2), (3, pI a3)] [] h := by
  unfold F_X2_weighRead_128
  refine pg_iinc (lv' := [(3, pI (a3 + (1 : Int32))), (0, pR a0), (1, pI a1), (2, pI a2)]) dX2_weighRead_128 3 rfl ci_1 (by decide) rfl ?_
  refine pg_goto (tgt := 10) dX2_weighRead_131 rfl ?_
  exact pg_to (hk10 a0 a1 a2 (a3 + (1 : Int32)) h) [1, 2, 3, 0] rfl
theorem e_X2_weighRead_125 (l : Launch) (D : pg_D)  (k10 : Nat → Int32 → Int32 → Int32 → pg_H → Option pg_H) (hk10 : ∀ (a0 : Nat) (a1 : Int32) (a2 : Int32) (a3 : Int32) (h : pg_H), pg_EvF l D RX2 cX2_weighRead 7 none "weighRead" 1 27 pg_wV (k10 a0 a1 a2 a3 h) 10 [(0, pR a0), (1, pI a1), (2, pI a2), (3, pI a3)] [] h) (a0 : Nat) (a1 : Int32) (a2 : Int32) (a3 : Int32) (s0 : Int64) (s1 : Nat) (h : pg_H) : pg_EvF l D RX2 cX2_weighRead 7 none "weighRead" 1 27 pg_wV (F_X2_weighRead_125 k10 a0 a1 a2 a3 s0 s1 h) 125 [(0, pR a0), (1, pI a1), (2, pI a2), (3, pI a3)] [pL s0, pR s1] h := by
  unfold F_X2_weighRead_125
  refine pg_callV_wV (As := [pL s0]) (rs := []) dX2_weighRead_125 lk_RX2_81 vy_X1_multiply nd_X1_multiply (c_X1_multiply l D s1 s0 h) rfl rfl (Nat.le_of_ble_eq_true rfl) (by decide) (by decide) (fun v1 => ?_)
  exact pg_to (e_X2_weighRead_128 l D k10 hk10 a0 a1 a2 a3 v1) [0, 1, 2, 3] rfl
theorem e_X2_weighRead_101 (l : Launch) (D : pg_D)  (k10 : Nat → Int32 → Int32 → Int32 → pg_H → Option pg_H) (hk10 : ∀ (a0 : Nat) (a1 : Int32) (a2 : Int32) (a3 : Int32) (h : pg_H), pg_EvF l D RX2 cX2_weighRead 7 none "weighRead" 1 27 pg_wV (k10 a0 a1 a2 a3 h) 10 [(0, pR a0), (1, pI a1), (2, pI a2), (3, pI a3)] [] h) (a0 : Nat) (a1 : Int32) (a2 : Int32) (a3 : Int32) (s0 : Int32) (h : pg_H) : pg_EvF l D RX2 cX2_weighRead 7 none "weighRead" 1 27 pg_wV (F_X2_weighRead_101 k10 a0 a1 a2 a3 s0 h) 101 [(0, pR a0), (1, pI a1), (2, pI a2), (3, pI a3)] [pI s0] h := by
  unfold F_X2_weighRead_101
  refine pg_istore (lv' := [(6, pI s0), (0, pR a0), (1, pI a1), (2, pI a2), (3, pI a3)]) dX2_weighRead_101 (by decide) rfl ?_
  refine pg_aload_n (i := 0) dX2_weighRead_103 rfl 1 rfl ?_
  refine pg_getR dX2_weighRead_104 fl_RX2_21 rfl (fun v1 => ?_)
  refine pg_iload_n (i := 3) dX2_weighRead_107 rfl 4 rfl ?_
  refine pg_iload_n (i := 1) dX2_weighRead_108 rfl 2 rfl ?_
  refine pg_icmp_ge (tgt := 122) dX2_weighRead_109 rfl ?_ ?_
  · refine pg_iload dX2_weighRead_122 0 rfl ?_
    refine pg_i2l dX2_weighRead_124 ?_
    exact pg_to (e_X2_weighRead_125 l D k10 hk10 a0 a1 a2 a3 (s0).toInt64 v1 h) [1, 2, 3, 4] rfl
  · refine pg_aload_n (i := 0) dX2_weighRead_112 rfl 1 rfl ?_
    refine pg_getR dX2_weighRead_113 fl_RX2_24 rfl (fun v2 => ?_)
    refine pg_iload_n (i := 3) dX2_weighRead_116 rfl 4 rfl ?_
    refine pg_iaload dX2_weighRead_117 (fun v3 => ?_)
    refine pg_i2l dX2_weighRead_118 ?_
    refine pg_goto (tgt := 125) dX2_weighRead_119 rfl ?_
    exact pg_to (e_X2_weighRead_125 l D k10 hk10 a0 a1 a2 a3 (v3).toInt64 v1 h) [1, 2, 3, 4] rfl
theorem e_X2_weighRead_75 (l : Launch) (D : pg_D)  (k10 : Nat → Int32 → Int32 → Int32 → pg_H → Option pg_H) (hk10 : ∀ (a0 : Nat) (a1 : Int32) (a2 : Int32) (a3 : Int32) (h : pg_H), pg_EvF l D RX2 cX2_weighRead 7 none "weighRead" 1 27 pg_wV (k10 a0 a1 a2 a3 h) 10 [(0, pR a0), (1, pI a1), (2, pI a2), (3, pI a3)] [] h) (a0 : Nat) (a1 : Int32) (a2 : Int32) (a3 : Int32) (s0 : Int64) (s1 : Nat) (h : pg_H) : pg_EvF l D RX2 cX2_weighRead 7 none "weighRead" 1 27 pg_wV (F_X2_weighRead_75 k10 a0 a1 a2 a3 s0 s1 h) 75 [(0, pR a0), (1, pI a1), (2, pI a2), (3, pI a3)] [pL s0, pR s1] h := by
  unfold F_X2_weighRead_75
  refine pg_callV_wV (As := [pL s0]) (rs := []) dX2_weighRead_75 lk_RX2_81 vy_X1_multiply nd_X1_multiply (c_X1_multiply l D s1 s0 h) rfl rfl (Nat.le_of_ble_eq_true rfl) (by decide) (by decide) (fun v1 => ?_)
  refine pg_iload_n (i := 3) dX2_weighRead_78 rfl 3 rfl ?_
  refine pg_if_le (tgt := 128) dX2_weighRead_79 rfl ?_ ?_
  · exact pg_to (e_X2_weighRead_128 l D k10 hk10 a0 a1 a2 a3 v1) [0, 1, 2, 3] rfl
  · refine pg_iload_n (i := 3) dX2_weighRead_82 rfl 3 rfl ?_
    refine pg_iload_n (i := 1) dX2_weighRead_83 rfl 1 rfl ?_
    refine pg_icmp_ne (tgt := 99) dX2_weighRead_84 rfl ?_ ?_
    · refine pg_bipush dX2_weighRead_99 cb_100 ?_
      exact pg_to (e_X2_weighRead_101 l D k10 hk10 a0 a1 a2 a3 (100 : Int32) v1) [0, 1, 2, 3] rfl
    · refine pg_bipush dX2_weighRead_87 cb_100 ?_
      refine pg_aload_n (i := 0) dX2_weighRead_89 rfl 0 rfl ?_
      refine pg_getR dX2_weighRead_90 fl_RX2_24 rfl (fun v2 => ?_)
      refine pg_iload_n (i := 3) dX2_weighRead_93 rfl 3 rfl ?_
      refine pg_iaload dX2_weighRead_94 (fun v3 => ?_)
      refine pg_isub dX2_weighRead_95 ?_
      refine pg_goto (tgt := 101) dX2_weighRead_96 rfl ?_
      exact pg_to (e_X2_weighRead_101 l D k10 hk10 a0 a1 a2 a3 ((100 : Int32) - v3) v1) [0, 1, 2, 3] rfl
theorem e_X2_weighRead_55 (l : Launch) (D : pg_D)  (k10 : Nat → Int32 → Int32 → Int32 → pg_H → Option pg_H) (hk10 : ∀ (a0 : Nat) (a1 : Int32) (a2 : Int32) (a3 : Int32) (h : pg_H), pg_EvF l D RX2 cX2_weighRead 7 none "weighRead" 1 27 pg_wV (k10 a0 a1 a2 a3 h) 10 [(0, pR a0), (1, pI a1), (2, pI a2), (3, pI a3)] [] h) (a0 : Nat) (a1 : Int32) (a2 : Int32) (a3 : Int32) (s0 : Int32) (h : pg_H) : pg_EvF l D RX2 cX2_weighRead 7 none "weighRead" 1 27 pg_wV (F_X2_weighRead_55 k10 a0 a1 a2 a3 s0 h) 55 [(0, pR a0), (1, pI a1), (2, pI a2), (3, pI a3)] [pI s0] h := by
  unfold F_X2_weighRead_55
  refine pg_istore (lv' := [(5, pI s0), (0, pR a0), (1, pI a1), (2, pI a2), (3, pI a3)]) dX2_weighRead_55 (by decide) rfl ?_
  refine pg_aload_n (i := 0) dX2_weighRead_57 rfl 1 rfl ?_
  refine pg_getR dX2_weighRead_58 fl_RX2_21 rfl (fun v1 => ?_)
  refine pg_iload_n (i := 3) dX2_weighRead_61 rfl 4 rfl ?_
  refine pg_iload_n (i := 1) dX2_weighRead_62 rfl 2 rfl ?_
  refine pg_icmp_ge (tgt := 72) dX2_weighRead_63 rfl ?_ ?_
  · refine pg_ldc2 (v := (100 : Int64)) dX2_weighRead_72 kc_RX2_123 ?_
    exact pg_to (e_X2_weighRead_75 l D k10 hk10 a0 a1 a2 a3 (100 : Int64) v1 h) [1, 2, 3, 4] rfl
  · refine pg_iload dX2_weighRead_66 0 rfl ?_
    refine pg_i2l dX2_weighRead_68 ?_
    refine pg_goto (tgt := 75) dX2_weighRead_69 rfl ?_
    exact pg_to (e_X2_weighRead_75 l D k10 hk10 a0 a1 a2 a3 (s0).toInt64 v1 h) [1, 2, 3, 4] rfl
theorem e_X2_weighRead_30 (l : Launch) (D : pg_D)  (k10 : Nat → Int32 → Int32 → Int32 → pg_H → Option pg_H) (hk10 : ∀ (a0 : Nat) (a1 : Int32) (a2 : Int32) (a3 : Int32) (h : pg_H), pg_EvF l D RX2 cX2_weighRead 7 none "weighRead" 1 27 pg_wV (k10 a0 a1 a2 a3 h) 10 [(0, pR a0), (1, pI a1), (2, pI a2), (3, pI a3)] [] h) (a0 : Nat) (a1 : Int32) (a2 : Int32) (a3 : Int32) (s0 : Int32) (h : pg_H) : pg_EvF l D RX2 cX2_weighRead 7 none "weighRead" 1 27 pg_wV (F_X2_weighRead_30 k10 a0 a1 a2 a3 s0 h) 30 [(0, pR a0), (1, pI a1), (2, pI a2), (3, pI a3)] [pI s0] h := by
  unfold F_X2_weighRead_30
  refine pg_istore (lv' := [(4, pI s0), (0, pR a0), (1, pI a1), (2, pI a2), (3, pI a3)]) dX2_weighRead_30 (by decide) rfl ?_
  refine pg_iload dX2_weighRead_32 0 rfl ?_
  refine pg_if_eq (tgt := 46) dX2_weighRead_34 rfl ?_ ?_
  · refine pg_bipush dX2_weighRead_46 cb_100 ?_
    refine pg_aload_n (i := 0) dX2_weighRead_48 rfl 1 rfl ?_
    refine pg_getR dX2_weighRead_49 fl_RX2_28 rfl (fun v1 => ?_)
    refine pg_iload_n (i := 3) dX2_weighRead_52 rfl 4 rfl ?_
    refine pg_iaload dX2_weighRead_53 (fun v2 => ?_)
    refine pg_isub dX2_weighRead_54 ?_
    exact pg_to (e_X2_weighRead_55 l D k10 hk10 a0 a1 a2 a3 ((100 : Int32) - v2) h) [1, 2, 3, 4] rfl
  · refine pg_aload_n (i := 0) dX2_weighRead_37 rfl 1 rfl ?_
    refine pg_getR dX2_weighRead_38 fl_RX2_28 rfl (fun v3 => ?_)
    refine pg_iload_n (i := 3) dX2_weighRead_41 rfl 4 rfl ?_
    refine pg_iaload dX2_weighRead_42 (fun v4 => ?_)
    refine pg_goto (tgt := 55) dX2_weighRead_43 rfl ?_
    exact pg_to (e_X2_weighRead_55 l D k10 hk10 a0 a1 a2 a3 v4 h) [1, 2, 3, 4] rfl
theorem e_X2_weighRead_10 (l : Launch) (D : pg_D)   : ∀ (n : Nat) (a0 : Nat) (a1 : Int32) (a2 : Int32) (a3 : Int32) (h : pg_H), pg_EvF l D RX2 cX2_weighRead 7 none "weighRead" 1 27 pg_wV (F_X2_weighRead_10 n a0 a1 a2 a3 h) 10 [(0, pR a0), (1, pI a1), (2, pI a2), (3, pI a3)] [] h := by
  intro n
  induction n with
  | zero => intro a0 a1 a2 a3 h; exact pg_none
  | succ n ih =>
    intro a0 a1 a2 a3 h
    rw [F_X2_weighRead_10]
    refine pg_iload_n (i := 3) dX2_weighRead_10 rfl 3 rfl ?_
    refine pg_bipush dX2_weighRead_11 cb_12 ?_
    refine pg_icmp_ge (tgt := 134) dX2_weighRead_13 rfl ?_ ?_
    · exact pg_vret dX2_weighRead_134 rfl rfl
    · refine pg_iload_n (i := 2) dX2_weighRead_16 rfl 2 rfl ?_
      refine pg_iload_n (i := 3) dX2_weighRead_17 rfl 3 rfl ?_
      refine pg_ishr dX2_weighRead_18 ?_
      refine pg_iconst dX2_weighRead_19 ci_1 ?_
      refine pg_iand dX2_weighRead_20 ?_
      refine pg_iconst dX2_weighRead_21 ci_1 ?_
      refine pg_icmp_ne (tgt := 29) dX2_weighRead_22 rfl ?_ ?_
      · refine pg_iconst dX2_weighRead_29 ci_0 ?_
        exact pg_to (e_X2_weighRead_30 l D (F_X2_weighRead_10 n) ih a0 a1 a2 a3 (0 : Int32) h) [0, 1, 2, 3] rfl
      · refine pg_iconst dX2_weighRead_25 ci_1 ?_
        refine pg_goto (tgt := 30) dX2_weighRead_26 rfl ?_
        exact pg_to (e_X2_weighRead_30 l D (F_X2_weighRead_10 n) ih a0 a1 a2 a3 (1 : Int32) h) [0, 1, 2, 3] rfl
theorem e_X2_weighRead (l : Launch) (D : pg_D)  (a0 : Nat) (a1 : Int32) (a2 : Int32) (h : pg_H) : pg_EvF l D RX2 cX2_weighRead 7 none "weighRead" 1 27 pg_wV (F_X2_weighRead a0 a1 a2 h) 0 [(0, pR a0), (1, pI a1), (2, pI a2)] [] h := by
  unfold F_X2_weighRead
  refine pg_aload_n (i := 0) dX2_weighRead_0 rfl 0 rfl ?_
  refine pg_getR dX2_weighRead_1 fl_RX2_21 rfl (fun v1 => ?_)
  refine pg_iconst dX2_weighRead_4 ci_1 ?_
  refine pg_callV_wV (As := [pI (1 : Int32)]) (rs := []) dX2_weighRead_5 lk_RX2_54 vy_X1_become nd_X1_become (c_X1_become l D v1 (1 : Int32) h) rfl rfl (Nat.le_of_ble_eq_true rfl) (by decide) (by decide) (fun v2 => ?_)
  refine pg_iconst dX2_weighRead_8 ci_0 ?_
  refine pg_istore_n (i := 3) (lv' := [(3, pI (0 : Int32)), (0, pR a0), (1, pI a1), (2, pI a2)]) dX2_weighRead_9 rfl (by decide) rfl ?_
  exact pg_to (e_X2_weighRead_10 l D pg_fuel a0 a1 a2 (0 : Int32) v2) [1, 2, 3, 0] rfl
theorem c_X2_weighRead (l : Launch) (D : pg_D) (a0 : Nat) (a1 : Int32) (a2 : Int32) (h : pg_H) : ∀ x, F_X2_weighRead a0 a1 a2 h = some x → pg_Ct l D yX2_weighRead cX2_weighRead 7 none 1 27 [pR a0, pI a1, pI a2] h (pg_wV x) :=
  pg_Ct.of pn_RX2 (Nat.le_of_ble_eq_true rfl) (e_X2_weighRead l D a0 a1 a2 h)
def F_X2_chanceRead_140 (k96 : Nat → Int32 → Int32 → Int32 → pg_H → Option (Int32 × pg_H)) (a0 : Nat) (a4 : Int32) (a5 : Int32) (a6 : Int32) (h : pg_H) : Option (Int32 × pg_H) := (k96 a0 a4 a5 (a6 + (1 : Int32)) h)
def F_X2_chanceRead_96  : Nat → Nat → Int32 → Int32 → Int32 → pg_H → Option (Int32 × pg_H)
  | 0 => fun _ _ _ _ _ => none
  | n + 1 => fun a0 a4 a5 a6 h => (if (12 : Int32) < a6 then Option.bind (pg_gR 2 1 h a0) fun v1 => Option.bind (pg_rcv 1 h v1 (F_X1_isZero h v1)) fun v2 => (if v2 = 0 then Option.bind (pg_gR 2 0 h a0) fun v3 => Option.bind (pg_rcv 1 h v3 (F_X1_multiply v3 (1000000 : Int64) h)) fun v4 => Option.bind (pg_rcv 2 v4 a0 (F_X2_topThroughBottom a0 v4)) fun v5 => (some (v5.1, v5.2)) else (some ((-1 : Int32), h))) else Option.bind (pg_rcv 2 h a0 (F_X2_weighRead a0 a6 a5 h)) fun v6 => Option.bind (pg_gR 2 1 v6 a0) fun v7 => Option.bind (pg_gR 2 2 v6 a0) fun v8 => Option.bind (pg_rcv 1 v6 v7 (F_X1_add v7 v8 v6)) fun v9 => (if a6 < a4 then (F_X2_chanceRead_140 (F_X2_chanceRead_96 n) a0 a4 a5 a6 v9) else Option.bind (pg_gR 2 0 v9 a0) fun v10 => Option.bind (pg_gR 2 2 v9 a0) fun v11 => Option.bind (pg_rcv 1 v9 v10 (F_X1_add v10 v11 v9)) fun v12 => (F_X2_chanceRead_140 (F_X2_chanceRead_96 n) a0 a4 a5 a6 v12)))
def F_X2_chanceRead_3  : Nat → Nat → Nat → Nat → Int32 → Int32 → Int32 → pg_H → Option (Int32 × pg_H)
  | 0 => fun _ _ _ _ _ _ _ => none
  | n + 1 => fun a0 a1 a2 a3 a4 a5 h => (if a5 < (12 : Int32) then Option.bind (pg_rcv 0 h a2 (F_X0_askOfChapter a2 a1 a3 a5 h)) fun v8 => Option.bind (pg_gR 2 3 v8 a0) fun v9 => Option.bind (pg_rcv 5 v8 a1 (F_X5_textUsed v8 a1)) fun v10 => Option.bind (pg_rcv 0 v8 a2 (F_X0_told a2 v10 (1 : Int32) (50 : Int32) v8)) fun v11 => Option.bind (pg_sI 21 v11.2 v9 a5 v11.1) fun v12 => Option.bind (pg_gR 2 4 v12 a0) fun v13 => Option.bind (pg_rcv 5 v12 a1 (F_X5_textUsed v12 a1)) fun v14 => Option.bind (pg_rcv 0 v12 a2 (F_X0_told a2 v14 (2 : Int32) (50 : Int32) v12)) fun v15 => Option.bind (pg_sI 21 v15.2 v13 a5 v15.1) fun v16 => (F_X2_chanceRead_3 n a0 a1 a2 a3 a4 (a5 + (1 : Int32)) v16) else Option.bind (pg_rcv 5 h a1 (F_X5_chaptersWritten h a1 a3)) fun v1 => Option.bind (pg_gR 2 0 h a0) fun v2 => Option.bind (pg_rcv 1 h v2 (F_X1_become v2 (0 : Int32) h)) fun v3 => Option.bind (pg_gR 2 1 v3 a0) fun v4 => Option.bind (pg_rcv 1 v3 v4 (F_X1_become v4 (0 : Int32) v3)) fun v5 => Option.bind (F_X11_lastBit v1) fun v6 => pg_let (if (1 : Int32) < (v6 + (1 : Int32)) then (v6 + (1 : Int32)) else (1 : Int32)) fun v7 => (F_X2_chanceRead_96 pg_fuel a0 a4 v1 v7 v5))
def F_X2_chanceRead (a0 : Nat) (a1 : Nat) (a2 : Nat) (a3 : Int32) (a4 : Int32) (h : pg_H) : Option (Int32 × pg_H) := (F_X2_chanceRead_3 pg_fuel a0 a1 a2 a3 a4 (0 : Int32) h)
theorem e_X2_chanceRead_140 (l : Launch) (D : pg_D)  (k96 : Nat → Int32 → Int32 → Int32 → pg_H → Option (Int32 × pg_H)) (hk96 : ∀ (a0 : Nat) (a4 : Int32) (a5 : Int32) (a6 : Int32) (h : pg_H), pg_EvF l D RX2 cX2_chanceRead 7 (some FieldType.int) "chanceRead" 4 113 pg_wI (k96 a0 a4 a5 a6 h) 96 [(0, pR a0), (4, pI a4), (5, pI a5), (6, pI a6)] [] h) (a0 : Nat) (a4 : Int32) (a5 : Int32) (a6 : Int32) (h : pg_H) : pg_EvF l D RX2 cX2_chanceRead 7 (some FieldType.int) "chanceRead" 4 113 pg_wI (F_X2_chanceRead_140 k96 a0 a4 a5 a6 h) 140 [(0, pR a0), (4, pI a4), (5, pI a5), (6, pI a6)] [] h := by
  unfold F_X2_chanceRead_140
  refine pg_iinc (lv' := [(6, pI (a6 + (1 : Int32))), (0, pR a0), (4, pI a4), (5, pI a5)]) dX2_chanceRead_140 3 rfl ci_1 (by decide) rfl ?_
  refine pg_goto (tgt := 96) dX2_chanceRead_143 rfl ?_
  exact pg_to (hk96 a0 a4 a5 (a6 + (1 : Int32)) h) [1, 2, 3, 0] rfl
theorem e_X2_chanceRead_96 (l : Launch) (D : pg_D)   : ∀ (n : Nat) (a0 : Nat) (a4 : Int32) (a5 : Int32) (a6 : Int32) (h : pg_H), pg_EvF l D RX2 cX2_chanceRead 7 (some FieldType.int) "chanceRead" 4 113 pg_wI (F_X2_chanceRead_96 n a0 a4 a5 a6 h) 96 [(0, pR a0), (4, pI a4), (5, pI a5), (6, pI a6)] [] h := by
  intro n
  induction n with
  | zero => intro a0 a4 a5 a6 h; exact pg_none
  | succ n ih =>
    intro a0 a4 a5 a6 h
    rw [F_X2_chanceRead_96]
    refine pg_iload dX2_chanceRead_96 3 rfl ?_
    refine pg_bipush dX2_chanceRead_98 cb_12 ?_
    refine pg_icmp_gt (tgt := 146) dX2_chanceRead_100 rfl ?_ ?_
    · refine pg_aload_n (i := 0) dX2_chanceRead_146 rfl 0 rfl ?_
      refine pg_getR dX2_chanceRead_147 fl_RX2_18 rfl (fun v1 => ?_)
      refine pg_callV_oI (As := []) (rs := []) dX2_chanceRead_150 lk_RX2_117 vy_X1_isZero nd_X1_isZero (c_X1_isZero l D h v1) rfl rfl (Nat.le_of_ble_eq_true rfl) (by decide) (by decide) (fun v2 => ?_)
      refine pg_if_eq (tgt := 158) dX2_chanceRead_153 rfl ?_ ?_
      · refine pg_aload_n (i := 0) dX2_chanceRead_158 rfl 0 rfl ?_
        refine pg_getR dX2_chanceRead_159 fl_RX2_12 rfl (fun v3 => ?_)
        refine pg_ldc2 (v := (1000000 : Int64)) dX2_chanceRead_162 kc_RX2_121 ?_
        refine pg_callV_wV (As := [pL (1000000 : Int64)]) (rs := []) dX2_chanceRead_165 lk_RX2_81 vy_X1_multiply nd_X1_multiply (c_X1_multiply l D v3 (1000000 : Int64) h) rfl rfl (Nat.le_of_ble_eq_true rfl) (by decide) (by decide) (fun v4 => ?_)
        refine pg_aload_n (i := 0) dX2_chanceRead_168 rfl 0 rfl ?_
        refine pg_callV_wI (As := []) (rs := []) dX2_chanceRead_169 lk_RX2_35 vy_X2_topThroughBottom nd_X2_topThroughBottom (c_X2_topThroughBottom l D a0 v4) rfl rfl (Nat.le_of_ble_eq_true rfl) (by decide) (by decide) (fun v5 => ?_)
        exact pg_iret dX2_chanceRead_172 rfl rfl
      · refine pg_iconst dX2_chanceRead_156 ci_m1 ?_
        exact pg_iret dX2_chanceRead_157 rfl rfl
    · refine pg_aload_n (i := 0) dX2_chanceRead_103 rfl 0 rfl ?_
      refine pg_iload dX2_chanceRead_104 3 rfl ?_
      refine pg_iload dX2_chanceRead_106 2 rfl ?_
      refine pg_callV_wV (As := [pI a6, pI a5]) (rs := []) dX2_chanceRead_108 lk_RX2_111 vy_X2_weighRead nd_X2_weighRead (c_X2_weighRead l D a0 a6 a5 h) rfl rfl (Nat.le_of_ble_eq_true rfl) (by decide) (by decide) (fun v6 => ?_)
      refine pg_aload_n (i := 0) dX2_chanceRead_111 rfl 0 rfl ?_
      refine pg_getR dX2_chanceRead_112 fl_RX2_18 rfl (fun v7 => ?_)
      refine pg_aload_n (i := 0) dX2_chanceRead_115 rfl 0 rfl ?_
      refine pg_getR dX2_chanceRead_116 fl_RX2_21 rfl (fun v8 => ?_)
      refine pg_callV_wV (As := [pR v8]) (rs := []) dX2_chanceRead_119 lk_RX2_114 vy_X1_add nd_X1_add (c_X1_add l D v7 v8 v6) rfl rfl (Nat.le_of_ble_eq_true rfl) (by decide) (by decide) (fun v9 => ?_)
      refine pg_iload dX2_chanceRead_122 3 rfl ?_
      refine pg_iload dX2_chanceRead_124 1 rfl ?_
      refine pg_icmp_lt (tgt := 140) dX2_chanceRead_126 rfl ?_ ?_
      · exact pg_to (e_X2_chanceRead_140 l D (F_X2_chanceRead_96 n) ih a0 a4 a5 a6 v9) [0, 1, 2, 3] rfl
      · refine pg_aload_n (i := 0) dX2_chanceRead_129 rfl 0 rfl ?_
        refine pg_getR dX2_chanceRead_130 fl_RX2_12 rfl (fun v10 => ?_)
        refine pg_aload_n (i := 0) dX2_chanceRead_133 rfl 0 rfl ?_
        refine pg_getR dX2_chanceRead_134 fl_RX2_21 rfl (fun v11 => ?_)
        refine pg_callV_wV (As := [pR v11]) (rs := []) dX2_chanceRead_137 lk_RX2_114 vy_X1_add nd_X1_add (c_X1_add l D v10 v11 v9) rfl rfl (Nat.le_of_ble_eq_true rfl) (by decide) (by decide) (fun v12 => ?_)
        exact pg_to (e_X2_chanceRead_140 l D (F_X2_chanceRead_96 n) ih a0 a4 a5 a6 v12) [0, 1, 2, 3] rfl
theorem e_X2_chanceRead_3 (l : Launch) (D : pg_D)   : ∀ (n : Nat) (a0 : Nat) (a1 : Nat) (a2 : Nat) (a3 : Int32) (a4 : Int32) (a5 : Int32) (h : pg_H), pg_EvF l D RX2 cX2_chanceRead 7 (some FieldType.int) "chanceRead" 4 113 pg_wI (F_X2_chanceRead_3 n a0 a1 a2 a3 a4 a5 h) 3 [(0, pR a0), (1, pR a1), (2, pR a2), (3, pI a3), (4, pI a4), (5, pI a5)] [] h := by
  intro n
  induction n with
  | zero => intro a0 a1 a2 a3 a4 a5 h; exact pg_none
  | succ n ih =>
    intro a0 a1 a2 a3 a4 a5 h
    rw [F_X2_chanceRead_3]
    refine pg_iload dX2_chanceRead_3 5 rfl ?_
    refine pg_bipush dX2_chanceRead_5 cb_12 ?_
    refine pg_icmp_ge (tgt := 60) dX2_chanceRead_7 rfl ?_ ?_
    · refine pg_aload_n (i := 1) dX2_chanceRead_60 rfl 1 rfl ?_
      refine pg_iload_n (i := 3) dX2_chanceRead_61 rfl 3 rfl ?_
      refine pg_callV_oI (As := [pI a3]) (rs := []) dX2_chanceRead_62 lk_RX2_99 vy_X5_chaptersWritten nd_X5_chaptersWritten (c_X5_chaptersWritten l D h a1 a3) rfl rfl (Nat.le_of_ble_eq_true rfl) (by decide) (by decide) (fun v1 => ?_)
      refine pg_istore (lv' := [(5, pI v1), (0, pR a0), (1, pR a1), (2, pR a2), (3, pI a3), (4, pI a4)]) dX2_chanceRead_65 (by decide) rfl ?_
      refine pg_aload_n (i := 0) dX2_chanceRead_67 rfl 1 rfl ?_
      refine pg_getR dX2_chanceRead_68 fl_RX2_12 rfl (fun v2 => ?_)
      refine pg_iconst dX2_chanceRead_71 ci_0 ?_
      refine pg_callV_wV (As := [pI (0 : Int32)]) (rs := []) dX2_chanceRead_72 lk_RX2_54 vy_X1_become nd_X1_become (c_X1_become l D v2 (0 : Int32) h) rfl rfl (Nat.le_of_ble_eq_true rfl) (by decide) (by decide) (fun v3 => ?_)
      refine pg_aload_n (i := 0) dX2_chanceRead_75 rfl 1 rfl ?_
      refine pg_getR dX2_chanceRead_76 fl_RX2_18 rfl (fun v4 => ?_)
      refine pg_iconst dX2_chanceRead_79 ci_0 ?_
      refine pg_callV_wV (As := [pI (0 : Int32)]) (rs := []) dX2_chanceRead_80 lk_RX2_54 vy_X1_become nd_X1_become (c_X1_become l D v4 (0 : Int32) v3) rfl rfl (Nat.le_of_ble_eq_true rfl) (by decide) (by decide) (fun v5 => ?_)
      refine pg_iconst dX2_chanceRead_83 ci_1 ?_
      refine pg_iload dX2_chanceRead_84 0 rfl ?_
      refine pg_callS_oI (As := [pI v1]) (rs := [pI (1 : Int32)]) dX2_chanceRead_86 lk_RX2_103 vy_X11_lastBit nd_X11_lastBit (c_X11_lastBit l D v1 v5) rfl rfl (Nat.le_of_ble_eq_true rfl) (by decide) (by decide) (fun v6 => ?_)
      refine pg_iconst dX2_chanceRead_89 ci_1 ?_
      refine pg_iadd dX2_chanceRead_90 ?_
      refine pg_mmax dX2_chanceRead_91 pw5_103 pw_max1 pw_math pw_max2 (Nat.le_of_ble_eq_true rfl) (by decide) (by decide) ?_
      refine pg_letI (fun v7 => ?_)
      refine pg_istore (lv' := [(6, pI v7), (5, pI v1), (0, pR a0), (1, pR a1), (2, pR a2), (3, pI a3), (4, pI a4)]) dX2_chanceRead_94 (by decide) rfl ?_
      exact pg_to (e_X2_chanceRead_96 l D pg_fuel a0 a4 v1 v7 v5) [2, 6, 1, 0] rfl
    · refine pg_aload_n (i := 2) dX2_chanceRead_10 rfl 2 rfl ?_
      refine pg_aload_n (i := 1) dX2_chanceRead_11 rfl 1 rfl ?_
      refine pg_iload_n (i := 3) dX2_chanceRead_12 rfl 3 rfl ?_
      refine pg_iload dX2_chanceRead_13 5 rfl ?_
      refine pg_callV_wV (As := [pR a1, pI a3, pI a5]) (rs := []) dX2_chanceRead_15 lk_RX2_85 vy_X0_askOfChapter nd_X0_askOfChapter (c_X0_askOfChapter l D a2 a1 a3 a5 h) rfl rfl (Nat.le_of_ble_eq_true rfl) (by decide) (by decide) (fun v8 => ?_)
      refine pg_aload_n (i := 0) dX2_chanceRead_18 rfl 0 rfl ?_
      refine pg_getR dX2_chanceRead_19 fl_RX2_24 rfl (fun v9 => ?_)
      refine pg_iload dX2_chanceRead_22 5 rfl ?_
      refine pg_aload_n (i := 2) dX2_chanceRead_24 rfl 2 rfl ?_
      refine pg_aload_n (i := 1) dX2_chanceRead_25 rfl 1 rfl ?_
      refine pg_callV_oR (As := []) (rs := [pR a2, pI a5, pR v9]) dX2_chanceRead_26 lk_RX2_91 vy_X5_textUsed nd_X5_textUsed (c_X5_textUsed l D v8 a1) rfl rfl (Nat.le_of_ble_eq_true rfl) (by decide) (by decide) (fun v10 => ?_)
      refine pg_iconst dX2_chanceRead_29 ci_1 ?_
      refine pg_bipush dX2_chanceRead_30 cb_50 ?_
      refine pg_callV_wI (As := [pR v10, pI (1 : Int32), pI (50 : Int32)]) (rs := [pI a5, pR v9]) dX2_chanceRead_32 lk_RX2_95 vy_X0_told nd_X0_told (c_X0_told l D a2 v10 (1 : Int32) (50 : Int32) v8) rfl rfl (Nat.le_of_ble_eq_true rfl) (by decide) (by decide) (fun v11 => ?_)
      refine pg_iastore dX2_chanceRead_35 (fun v12 => ?_)
      refine pg_aload_n (i := 0) dX2_chanceRead_36 rfl 0 rfl ?_
      refine pg_getR dX2_chanceRead_37 fl_RX2_28 rfl (fun v13 => ?_)
      refine pg_iload dX2_chanceRead_40 5 rfl ?_
      refine pg_aload_n (i := 2) dX2_chanceRead_42 rfl 2 rfl ?_
      refine pg_aload_n (i := 1) dX2_chanceRead_43 rfl 1 rfl ?_
      refine pg_callV_oR (As := []) (rs := [pR a2, pI a5, pR v13]) dX2_chanceRead_44 lk_RX2_91 vy_X5_textUsed nd_X5_textUsed (c_X5_textUsed l D v12 a1) rfl rfl (Nat.le_of_ble_eq_true rfl) (by decide) (by decide) (fun v14 => ?_)
      refine pg_iconst dX2_chanceRead_47 ci_2 ?_
      refine pg_bipush dX2_chanceRead_48 cb_50 ?_
      refine pg_callV_wI (As := [pR v14, pI (2 : Int32), pI (50 : Int32)]) (rs := [pI a5, pR v13]) dX2_chanceRead_50 lk_RX2_95 vy_X0_told nd_X0_told (c_X0_told l D a2 v14 (2 : Int32) (50 : Int32) v12) rfl rfl (Nat.le_of_ble_eq_true rfl) (by decide) (by decide) (fun v15 => ?_)
      refine pg_iastore dX2_chanceRead_53 (fun v16 => ?_)
      refine pg_iinc (lv' := [(5, pI (a5 + (1 : Int32))), (0, pR a0), (1, pR a1), (2, pR a2), (3, pI a3), (4, pI a4)]) dX2_chanceRead_54 5 rfl ci_1 (by decide) rfl ?_
      refine pg_goto (tgt := 3) dX2_chanceRead_57 rfl ?_
      exact pg_to (ih a0 a1 a2 a3 a4 (a5 + (1 : Int32)) v16) [1, 2, 3, 4, 5, 0] rfl
theorem e_X2_chanceRead (l : Launch) (D : pg_D)  (a0 : Nat) (a1 : Nat) (a2 : Nat) (a3 : Int32) (a4 : Int32) (h : pg_H) : pg_EvF l D RX2 cX2_chanceRead 7 (some FieldType.int) "chanceRead" 4 113 pg_wI (F_X2_chanceRead a0 a1 a2 a3 a4 h) 0 [(0, pR a0), (1, pR a1), (2, pR a2), (3, pI a3), (4, pI a4)] [] h := by
  unfold F_X2_chanceRead
  refine pg_iconst dX2_chanceRead_0 ci_0 ?_
  refine pg_istore (lv' := [(5, pI (0 : Int32)), (0, pR a0), (1, pR a1), (2, pR a2), (3, pI a3), (4, pI a4)]) dX2_chanceRead_1 (by decide) rfl ?_
  exact pg_to (e_X2_chanceRead_3 l D pg_fuel a0 a1 a2 a3 a4 (0 : Int32) h) [1, 2, 3, 4, 5, 0] rfl
theorem c_X2_chanceRead (l : Launch) (D : pg_D) (a0 : Nat) (a1 : Nat) (a2 : Nat) (a3 : Int32) (a4 : Int32) (h : pg_H) : ∀ x, F_X2_chanceRead a0 a1 a2 a3 a4 h = some x → pg_Ct l D yX2_chanceRead cX2_chanceRead 7 (some FieldType.int) 4 113 [pR a0, pR a1, pR a2, pI a3, pI a4] h (pg_wI x) :=
  pg_Ct.of pn_RX2 (Nat.le_of_ble_eq_true rfl) (e_X2_chanceRead l D a0 a1 a2 a3 a4 h)
