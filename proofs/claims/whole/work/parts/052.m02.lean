def F_X4_bestPair_85 (h : pg_H) (k28 : Nat → Nat → Int32 → Int32 → Int32 → Int32 → Int32 → Int32 → Option Int32) (a0 : Nat) (a1 : Nat) (a2 : Int32) (a3 : Int32) (a4 : Int32) (a5 : Int32) (a6 : Int32) (a7 : Int32) : Option Int32 := (k28 a0 a1 a2 a3 a4 a5 a6 (a7 + (1 : Int32)))
def F_X4_bestPair_77 (h : pg_H) (k28 : Nat → Nat → Int32 → Int32 → Int32 → Int32 → Int32 → Int32 → Option Int32) (a0 : Nat) (a1 : Nat) (a2 : Int32) (a3 : Int32) (a6 : Int32) (a7 : Int32) (a8 : Int32) (a9 : Int32) : Option Int32 := (F_X4_bestPair_85 h k28 a0 a1 a2 a3 a8 a9 a6 a7)
def F_X4_bestPair_28 (h : pg_H) (k15 : Nat → Nat → Int32 → Int32 → Int32 → Int32 → Int32 → Option Int32) : Nat → Nat → Nat → Int32 → Int32 → Int32 → Int32 → Int32 → Int32 → Option Int32
  | 0 => fun _ _ _ _ _ _ _ _ => none
  | n + 1 => fun a0 a1 a2 a3 a4 a5 a6 a7 => (if a7 < (12 : Int32) then pg_let (((1 : Int32) <<< (a6 &&& 31)) ||| ((1 : Int32) <<< (a7 &&& 31))) fun v1 => (if (a3 &&& v1) = v1 then Option.bind (pg_rcv 4 h a0 (F_X4_costFrom h a0 a1 v1 a2)) fun v2 => (if a4 = 0 then (F_X4_bestPair_77 h (F_X4_bestPair_28 h k15 n) a0 a1 a2 a3 a6 a7 v1 v2) else (if v2 < a5 then (F_X4_bestPair_77 h (F_X4_bestPair_28 h k15 n) a0 a1 a2 a3 a6 a7 v1 v2) else (F_X4_bestPair_85 h (F_X4_bestPair_28 h k15 n) a0 a1 a2 a3 a4 a5 a6 a7))) else (F_X4_bestPair_85 h (F_X4_bestPair_28 h k15 n) a0 a1 a2 a3 a4 a5 a6 a7)) else (k15 a0 a1 a2 a3 a4 a5 (a6 + (1 : Int32))))
def F_X4_bestPair_15 (h : pg_H) : Nat → Nat → Nat → Int32 → Int32 → Int32 → Int32 → Int32 → Option Int32
  | 0 => fun _ _ _ _ _ _ _ => none
  | n + 1 => fun a0 a1 a2 a3 a4 a5 a6 => (if a6 < (12 : Int32) then pg_let (a6 + (1 : Int32)) fun v1 => (F_X4_bestPair_28 h (F_X4_bestPair_15 h n) pg_fuel a0 a1 a2 a3 a4 a5 a6 v1) else (some a4))
def F_X4_bestPair (h : pg_H) (a0 : Nat) (a1 : Nat) (a2 : Int32) : Option Int32 := Option.bind (pg_rcv 5 h a1 (F_X5_companions h a1 a2)) fun v1 => (F_X4_bestPair_15 h pg_fuel a0 a1 a2 v1 (0 : Int32) (0 : Int32) (0 : Int32))
theorem e_X4_bestPair_85 (l : Launch) (D : pg_D)  (h : pg_H) (k28 : Nat → Nat → Int32 → Int32 → Int32 → Int32 → Int32 → Int32 → Option Int32) (hk28 : ∀ (a0 : Nat) (a1 : Nat) (a2 : Int32) (a3 : Int32) (a4 : Int32) (a5 : Int32) (a6 : Int32) (a7 : Int32), pg_EvF l D RX4 cX4_bestPair 10 (some FieldType.int) "bestPair" 3 73 (pg_oI h) (k28 a0 a1 a2 a3 a4 a5 a6 a7) 28 [(0, pR a0), (1, pR a1), (2, pI a2), (3, pI a3), (4, pI a4), (5, pI a5), (6, pI a6), (7, pI a7)] [] h) (a0 : Nat) (a1 : Nat) (a2 : Int32) (a3 : Int32) (a4 : Int32) (a5 : Int32) (a6 : Int32) (a7 : Int32) : pg_EvF l D RX4 cX4_bestPair 10 (some FieldType.int) "bestPair" 3 73 (pg_oI h) (F_X4_bestPair_85 h k28 a0 a1 a2 a3 a4 a5 a6 a7) 85 [(0, pR a0), (1, pR a1), (2, pI a2), (3, pI a3), (4, pI a4), (5, pI a5), (6, pI a6), (7, pI a7)] [] h := by
  unfold F_X4_bestPair_85
  refine pg_iinc (lv' := [(7, pI (a7 + (1 : Int32))), (0, pR a0), (1, pR a1), (2, pI a2), (3, pI a3), (4, pI a4), (5, pI a5), (6, pI a6)]) dX4_bestPair_85 7 rfl ci_1 (by decide) rfl ?_
  refine pg_goto (tgt := 28) dX4_bestPair_88 rfl ?_
  exact pg_to (hk28 a0 a1 a2 a3 a4 a5 a6 (a7 + (1 : Int32))) [1, 2, 3, 4, 5, 6, 7, 0] rfl
theorem e_X4_bestPair_77 (l : Launch) (D : pg_D)  (h : pg_H) (k28 : Nat → Nat → Int32 → Int32 → Int32 → Int32 → Int32 → Int32 → Option Int32) (hk28 : ∀ (a0 : Nat) (a1 : Nat) (a2 : Int32) (a3 : Int32) (a4 : Int32) (a5 : Int32) (a6 : Int32) (a7 : Int32), pg_EvF l D RX4 cX4_bestPair 10 (some FieldType.int) "bestPair" 3 73 (pg_oI h) (k28 a0 a1 a2 a3 a4 a5 a6 a7) 28 [(0, pR a0), (1, pR a1), (2, pI a2), (3, pI a3), (4, pI a4), (5, pI a5), (6, pI a6), (7, pI a7)] [] h) (a0 : Nat) (a1 : Nat) (a2 : Int32) (a3 : Int32) (a6 : Int32) (a7 : Int32) (a8 : Int32) (a9 : Int32) : pg_EvF l D RX4 cX4_bestPair 10 (some FieldType.int) "bestPair" 3 73 (pg_oI h) (F_X4_bestPair_77 h k28 a0 a1 a2 a3 a6 a7 a8 a9) 77 [(0, pR a0), (1, pR a1), (2, pI a2), (3, pI a3), (6, pI a6), (7, pI a7), (8, pI a8), (9, pI a9)] [] h := by
  unfold F_X4_bestPair_77
  refine pg_iload dX4_bestPair_77 6 rfl ?_
  refine pg_istore (lv' := [(4, pI a8), (0, pR a0), (1, pR a1), (2, pI a2), (3, pI a3), (6, pI a6), (7, pI a7), (8, pI a8), (9, pI a9)]) dX4_bestPair_79 (by decide) rfl ?_
  refine pg_iload dX4_bestPair_81 8 rfl ?_
  refine pg_istore (lv' := [(5, pI a9), (4, pI a8), (0, pR a0), (1, pR a1), (2, pI a2), (3, pI a3), (6, pI a6), (7, pI a7), (8, pI a8), (9, pI a9)]) dX4_bestPair_83 (by decide) rfl ?_
  exact pg_to (e_X4_bestPair_85 l D h k28 hk28 a0 a1 a2 a3 a8 a9 a6 a7) [2, 3, 4, 5, 1, 0, 6, 7] rfl
theorem e_X4_bestPair_28 (l : Launch) (D : pg_D)  (h : pg_H) (k15 : Nat → Nat → Int32 → Int32 → Int32 → Int32 → Int32 → Option Int32) (hk15 : ∀ (a0 : Nat) (a1 : Nat) (a2 : Int32) (a3 : Int32) (a4 : Int32) (a5 : Int32) (a6 : Int32), pg_EvF l D RX4 cX4_bestPair 10 (some FieldType.int) "bestPair" 3 73 (pg_oI h) (k15 a0 a1 a2 a3 a4 a5 a6) 15 [(0, pR a0), (1, pR a1), (2, pI a2), (3, pI a3), (4, pI a4), (5, pI a5), (6, pI a6)] [] h) : ∀ (n : Nat) (a0 : Nat) (a1 : Nat) (a2 : Int32) (a3 : Int32) (a4 : Int32) (a5 : Int32) (a6 : Int32) (a7 : Int32), pg_EvF l D RX4 cX4_bestPair 10 (some FieldType.int) "bestPair" 3 73 (pg_oI h) (F_X4_bestPair_28 h k15 n a0 a1 a2 a3 a4 a5 a6 a7) 28 [(0, pR a0), (1, pR a1), (2, pI a2), (3, pI a3), (4, pI a4), (5, pI a5), (6, pI a6), (7, pI a7)] [] h := by
  intro n
  induction n with
  | zero => intro a0 a1 a2 a3 a4 a5 a6 a7; exact pg_none
  | succ n ih =>
    intro a0 a1 a2 a3 a4 a5 a6 a7
    rw [F_X4_bestPair_28]
    refine pg_iload dX4_bestPair_28 7 rfl ?_
    refine pg_bipush dX4_bestPair_30 cb_12 ?_
    refine pg_icmp_ge (tgt := 91) dX4_bestPair_32 rfl ?_ ?_
    · refine pg_iinc (lv' := [(6, pI (a6 + (1 : Int32))), (0, pR a0), (1, pR a1), (2, pI a2), (3, pI a3), (4, pI a4), (5, pI a5), (7, pI a7)]) dX4_bestPair_91 6 rfl ci_1 (by decide) rfl ?_
      refine pg_goto (tgt := 15) dX4_bestPair_94 rfl ?_
      exact pg_to (hk15 a0 a1 a2 a3 a4 a5 (a6 + (1 : Int32))) [1, 2, 3, 4, 5, 6, 0] rfl
    · refine pg_iconst dX4_bestPair_35 ci_1 ?_
      refine pg_iload dX4_bestPair_36 6 rfl ?_
      refine pg_ishl dX4_bestPair_38 ?_
      refine pg_iconst dX4_bestPair_39 ci_1 ?_
      refine pg_iload dX4_bestPair_40 7 rfl ?_
      refine pg_ishl dX4_bestPair_42 ?_
      refine pg_ior dX4_bestPair_43 ?_
      refine pg_letI (fun v1 => ?_)
      refine pg_istore (lv' := [(8, pI v1), (0, pR a0), (1, pR a1), (2, pI a2), (3, pI a3), (4, pI a4), (5, pI a5), (6, pI a6), (7, pI a7)]) dX4_bestPair_44 (by decide) rfl ?_
      refine pg_iload_n (i := 3) dX4_bestPair_46 rfl 4 rfl ?_
      refine pg_iload dX4_bestPair_47 0 rfl ?_
      refine pg_iand dX4_bestPair_49 ?_
      refine pg_iload dX4_bestPair_50 0 rfl ?_
      refine pg_icmp_ne (tgt := 85) dX4_bestPair_52 rfl ?_ ?_
      · exact pg_to (e_X4_bestPair_85 l D h (F_X4_bestPair_28 h k15 n) ih a0 a1 a2 a3 a4 a5 a6 a7) [1, 2, 3, 4, 5, 6, 7, 8] rfl
      · refine pg_aload_n (i := 0) dX4_bestPair_55 rfl 1 rfl ?_
        refine pg_aload_n (i := 1) dX4_bestPair_56 rfl 2 rfl ?_
        refine pg_iload dX4_bestPair_57 0 rfl ?_
        refine pg_iload_n (i := 2) dX4_bestPair_59 rfl 3 rfl ?_
        refine pg_callV_oI (As := [pR a1, pI v1, pI a2]) (rs := []) dX4_bestPair_60 lk_RX4_96 vy_X4_costFrom nd_X4_costFrom (c_X4_costFrom l D h a0 a1 v1 a2) rfl rfl (Nat.le_of_ble_eq_true rfl) (by decide) (by decide) (fun v2 => ?_)
        refine pg_istore (lv' := [(9, pI v2), (8, pI v1), (0, pR a0), (1, pR a1), (2, pI a2), (3, pI a3), (4, pI a4), (5, pI a5), (6, pI a6), (7, pI a7)]) dX4_bestPair_63 (by decide) rfl ?_
        refine pg_iload dX4_bestPair_65 6 rfl ?_
        refine pg_if_eq (tgt := 77) dX4_bestPair_67 rfl ?_ ?_
        · exact pg_to (e_X4_bestPair_77 l D h (F_X4_bestPair_28 h k15 n) ih a0 a1 a2 a3 a6 a7 v1 v2) [2, 3, 4, 5, 8, 9, 1, 0] rfl
        · refine pg_iload dX4_bestPair_70 0 rfl ?_
          refine pg_iload dX4_bestPair_72 7 rfl ?_
          refine pg_icmp_ge (tgt := 85) dX4_bestPair_74 rfl ?_ ?_
          · exact pg_to (e_X4_bestPair_85 l D h (F_X4_bestPair_28 h k15 n) ih a0 a1 a2 a3 a4 a5 a6 a7) [2, 3, 4, 5, 6, 7, 8, 9] rfl
          · exact pg_to (e_X4_bestPair_77 l D h (F_X4_bestPair_28 h k15 n) ih a0 a1 a2 a3 a6 a7 v1 v2) [2, 3, 4, 5, 8, 9, 1, 0] rfl
theorem e_X4_bestPair_15 (l : Launch) (D : pg_D)  (h : pg_H) : ∀ (n : Nat) (a0 : Nat) (a1 : Nat) (a2 : Int32) (a3 : Int32) (a4 : Int32) (a5 : Int32) (a6 : Int32), pg_EvF l D RX4 cX4_bestPair 10 (some FieldType.int) "bestPair" 3 73 (pg_oI h) (F_X4_bestPair_15 h n a0 a1 a2 a3 a4 a5 a6) 15 [(0, pR a0), (1, pR a1), (2, pI a2), (3, pI a3), (4, pI a4), (5, pI a5), (6, pI a6)] [] h := by
  intro n
  induction n with
  | zero => intro a0 a1 a2 a3 a4 a5 a6; exact pg_none
  | succ n ih =>
    intro a0 a1 a2 a3 a4 a5 a6
    rw [F_X4_bestPair_15]
    refine pg_iload dX4_bestPair_15 6 rfl ?_
    refine pg_bipush dX4_bestPair_17 cb_12 ?_
    refine pg_icmp_ge (tgt := 97) dX4_bestPair_19 rfl ?_ ?_
    · refine pg_iload dX4_bestPair_97 4 rfl ?_
      exact pg_iret dX4_bestPair_99 rfl rfl
    · refine pg_iload dX4_bestPair_22 6 rfl ?_
      refine pg_iconst dX4_bestPair_24 ci_1 ?_
      refine pg_iadd dX4_bestPair_25 ?_
      refine pg_letI (fun v1 => ?_)
      refine pg_istore (lv' := [(7, pI v1), (0, pR a0), (1, pR a1), (2, pI a2), (3, pI a3), (4, pI a4), (5, pI a5), (6, pI a6)]) dX4_bestPair_26 (by decide) rfl ?_
      exact pg_to (e_X4_bestPair_28 l D h (F_X4_bestPair_15 h n) ih pg_fuel a0 a1 a2 a3 a4 a5 a6 v1) [1, 2, 3, 4, 5, 6, 7, 0] rfl
theorem e_X4_bestPair (l : Launch) (D : pg_D)  (h : pg_H) (a0 : Nat) (a1 : Nat) (a2 : Int32) : pg_EvF l D RX4 cX4_bestPair 10 (some FieldType.int) "bestPair" 3 73 (pg_oI h) (F_X4_bestPair h a0 a1 a2) 0 [(0, pR a0), (1, pR a1), (2, pI a2)] [] h := by
  unfold F_X4_bestPair
  refine pg_aload_n (i := 1) dX4_bestPair_0 rfl 1 rfl ?_
  refine pg_iload_n (i := 2) dX4_bestPair_1 rfl 2 rfl ?_
  refine pg_callV_oI (As := [pI a2]) (rs := []) dX4_bestPair_2 lk_RX4_93 vy_X5_companions nd_X5_companions (c_X5_companions l D h a1 a2) rfl rfl (Nat.le_of_ble_eq_true rfl) (by decide) (by decide) (fun v1 => ?_)
  refine pg_istore_n (i := 3) (lv' := [(3, pI v1), (0, pR a0), (1, pR a1), (2, pI a2)]) dX4_bestPair_5 rfl (by decide) rfl ?_
  refine pg_iconst dX4_bestPair_6 ci_0 ?_
  refine pg_istore (lv' := [(4, pI (0 : Int32)), (3, pI v1), (0, pR a0), (1, pR a1), (2, pI a2)]) dX4_bestPair_7 (by decide) rfl ?_
  refine pg_iconst dX4_bestPair_9 ci_0 ?_
  refine pg_istore (lv' := [(5, pI (0 : Int32)), (4, pI (0 : Int32)), (3, pI v1), (0, pR a0), (1, pR a1), (2, pI a2)]) dX4_bestPair_10 (by decide) rfl ?_
  refine pg_iconst dX4_bestPair_12 ci_0 ?_
  refine pg_istore (lv' := [(6, pI (0 : Int32)), (5, pI (0 : Int32)), (4, pI (0 : Int32)), (3, pI v1), (0, pR a0), (1, pR a1), (2, pI a2)]) dX4_bestPair_13 (by decide) rfl ?_
  exact pg_to (e_X4_bestPair_15 l D h pg_fuel a0 a1 a2 v1 (0 : Int32) (0 : Int32) (0 : Int32)) [4, 5, 6, 3, 2, 1, 0] rfl
theorem c_X4_bestPair (l : Launch) (D : pg_D) (h : pg_H) (a0 : Nat) (a1 : Nat) (a2 : Int32)  : ∀ x, F_X4_bestPair h a0 a1 a2 = some x → pg_Ct l D yX4_bestPair cX4_bestPair 10 (some FieldType.int) 3 73 [pR a0, pR a1, pI a2] h (pg_oI h x) :=
  pg_Ct.of pn_RX4 (Nat.le_of_ble_eq_true rfl) (e_X4_bestPair l D h a0 a1 a2)
def F_X4_bestSingleCost_51 (h : pg_H) (k17 : Nat → Nat → Int32 → Int32 → Int32 → Int32 → Option Int32) (a0 : Nat) (a1 : Nat) (a2 : Int32) (a3 : Int32) (a4 : Int32) (a5 : Int32) : Option Int32 := (k17 a0 a1 a2 a3 a4 (a5 + (1 : Int32)))
def F_X4_bestSingleCost_17 (h : pg_H) : Nat → Nat → Nat → Int32 → Int32 → Int32 → Int32 → Option Int32
  | 0 => fun _ _ _ _ _ _ => none
  | n + 1 => fun a0 a1 a2 a3 a4 a5 => (if a5 < (12 : Int32) then (if ((a3 >>> (a5 &&& 31)) &&& (1 : Int32)) = (1 : Int32) then Option.bind (pg_rcv 4 h a0 (F_X4_costFrom h a0 a1 ((1 : Int32) <<< (a5 &&& 31)) a2)) fun v1 => pg_let (if v1 < a4 then v1 else a4) fun v2 => (F_X4_bestSingleCost_51 h (F_X4_bestSingleCost_17 h n) a0 a1 a2 a3 v2 a5) else (F_X4_bestSingleCost_51 h (F_X4_bestSingleCost_17 h n) a0 a1 a2 a3 a4 a5)) else (some a4))
def F_X4_bestSingleCost (h : pg_H) (a0 : Nat) (a1 : Nat) (a2 : Int32) : Option Int32 := Option.bind (pg_rcv 5 h a1 (F_X5_companions h a1 a2)) fun v1 => Option.bind (pg_rcv 4 h a0 (F_X4_ownCost h a0 a1 a2)) fun v2 => (F_X4_bestSingleCost_17 h pg_fuel a0 a1 a2 v1 v2 (0 : Int32))
theorem e_X4_bestSingleCost_51 (l : Launch) (D : pg_D)  (h : pg_H) (k17 : Nat → Nat → Int32 → Int32 → Int32 → Int32 → Option Int32) (hk17 : ∀ (a0 : Nat) (a1 : Nat) (a2 : Int32) (a3 : Int32) (a4 : Int32) (a5 : Int32), pg_EvF l D RX4 cX4_bestSingleCost 6 (some FieldType.int) "bestSingleCost" 3 73 (pg_oI h) (k17 a0 a1 a2 a3 a4 a5) 17 [(0, pR a0), (1, pR a1), (2, pI a2), (3, pI a3), (4, pI a4), (5, pI a5)] [] h) (a0 : Nat) (a1 : Nat) (a2 : Int32) (a3 : Int32) (a4 : Int32) (a5 : Int32) : pg_EvF l D RX4 cX4_bestSingleCost 6 (some FieldType.int) "bestSingleCost" 3 73 (pg_oI h) (F_X4_bestSingleCost_51 h k17 a0 a1 a2 a3 a4 a5) 51 [(0, pR a0), (1, pR a1), (2, pI a2), (3, pI a3), (4, pI a4), (5, pI a5)] [] h := by
  unfold F_X4_bestSingleCost_51
  refine pg_iinc (lv' := [(5, pI (a5 + (1 : Int32))), (0, pR a0), (1, pR a1), (2, pI a2), (3, pI a3), (4, pI a4)]) dX4_bestSingleCost_51 5 rfl ci_1 (by decide) rfl ?_
  refine pg_goto (tgt := 17) dX4_bestSingleCost_54 rfl ?_
  exact pg_to (hk17 a0 a1 a2 a3 a4 (a5 + (1 : Int32))) [1, 2, 3, 4, 5, 0] rfl
theorem e_X4_bestSingleCost_17 (l : Launch) (D : pg_D)  (h : pg_H) : ∀ (n : Nat) (a0 : Nat) (a1 : Nat) (a2 : Int32) (a3 : Int32) (a4 : Int32) (a5 : Int32), pg_EvF l D RX4 cX4_bestSingleCost 6 (some FieldType.int) "bestSingleCost" 3 73 (pg_oI h) (F_X4_bestSingleCost_17 h n a0 a1 a2 a3 a4 a5) 17 [(0, pR a0), (1, pR a1), (2, pI a2), (3, pI a3), (4, pI a4), (5, pI a5)] [] h := by
  intro n
  induction n with
  | zero => intro a0 a1 a2 a3 a4 a5; exact pg_none
  | succ n ih =>
    intro a0 a1 a2 a3 a4 a5
    rw [F_X4_bestSingleCost_17]
    refine pg_iload dX4_bestSingleCost_17 5 rfl ?_
    refine pg_bipush dX4_bestSingleCost_19 cb_12 ?_
    refine pg_icmp_ge (tgt := 57) dX4_bestSingleCost_21 rfl ?_ ?_
    · refine pg_iload dX4_bestSingleCost_57 4 rfl ?_
      exact pg_iret dX4_bestSingleCost_59 rfl rfl
    · refine pg_iload_n (i := 3) dX4_bestSingleCost_24 rfl 3 rfl ?_
      refine pg_iload dX4_bestSingleCost_25 5 rfl ?_
      refine pg_ishr dX4_bestSingleCost_27 ?_
      refine pg_iconst dX4_bestSingleCost_28 ci_1 ?_
      refine pg_iand dX4_bestSingleCost_29 ?_
      refine pg_iconst dX4_bestSingleCost_30 ci_1 ?_
      refine pg_icmp_ne (tgt := 51) dX4_bestSingleCost_31 rfl ?_ ?_
      · exact pg_to (e_X4_bestSingleCost_51 l D h (F_X4_bestSingleCost_17 h n) ih a0 a1 a2 a3 a4 a5) [0, 1, 2, 3, 4, 5] rfl
      · refine pg_iload dX4_bestSingleCost_34 4 rfl ?_
        refine pg_aload_n (i := 0) dX4_bestSingleCost_36 rfl 0 rfl ?_
        refine pg_aload_n (i := 1) dX4_bestSingleCost_37 rfl 1 rfl ?_
        refine pg_iconst dX4_bestSingleCost_38 ci_1 ?_
        refine pg_iload dX4_bestSingleCost_39 5 rfl ?_
        refine pg_ishl dX4_bestSingleCost_41 ?_
        refine pg_iload_n (i := 2) dX4_bestSingleCost_42 rfl 2 rfl ?_
        refine pg_callV_oI (As := [pR a1, pI ((1 : Int32) <<< (a5 &&& 31)), pI a2]) (rs := [pI a4]) dX4_bestSingleCost_43 lk_RX4_96 vy_X4_costFrom nd_X4_costFrom (c_X4_costFrom l D h a0 a1 ((1 : Int32) <<< (a5 &&& 31)) a2) rfl rfl (Nat.le_of_ble_eq_true rfl) (by decide) (by decide) (fun v1 => ?_)
        refine pg_mmin dX4_bestSingleCost_46 pw4_179 pw_min1 pw_math pw_min2 (Nat.le_of_ble_eq_true rfl) (by decide) (by decide) ?_
        refine pg_letI (fun v2 => ?_)
        refine pg_istore (lv' := [(4, pI v2), (0, pR a0), (1, pR a1), (2, pI a2), (3, pI a3), (5, pI a5)]) dX4_bestSingleCost_49 (by decide) rfl ?_
        exact pg_to (e_X4_bestSingleCost_51 l D h (F_X4_bestSingleCost_17 h n) ih a0 a1 a2 a3 v2 a5) [1, 2, 3, 4, 0, 5] rfl
theorem e_X4_bestSingleCost (l : Launch) (D : pg_D)  (h : pg_H) (a0 : Nat) (a1 : Nat) (a2 : Int32) : pg_EvF l D RX4 cX4_bestSingleCost 6 (some FieldType.int) "bestSingleCost" 3 73 (pg_oI h) (F_X4_bestSingleCost h a0 a1 a2) 0 [(0, pR a0), (1, pR a1), (2, pI a2)] [] h := by
  unfold F_X4_bestSingleCost
  refine pg_aload_n (i := 1) dX4_bestSingleCost_0 rfl 1 rfl ?_
  refine pg_iload_n (i := 2) dX4_bestSingleCost_1 rfl 2 rfl ?_
  refine pg_callV_oI (As := [pI a2]) (rs := []) dX4_bestSingleCost_2 lk_RX4_93 vy_X5_companions nd_X5_companions (c_X5_companions l D h a1 a2) rfl rfl (Nat.le_of_ble_eq_true rfl) (by decide) (by decide) (fun v1 => ?_)
  refine pg_istore_n (i := 3) (lv' := [(3, pI v1), (0, pR a0), (1, pR a1), (2, pI a2)]) dX4_bestSingleCost_5 rfl (by decide) rfl ?_
  refine pg_aload_n (i := 0) dX4_bestSingleCost_6 rfl 1 rfl ?_
  refine pg_aload_n (i := 1) dX4_bestSingleCost_7 rfl 2 rfl ?_
  refine pg_iload_n (i := 2) dX4_bestSingleCost_8 rfl 3 rfl ?_
  refine pg_callV_oI (As := [pR a1, pI a2]) (rs := []) dX4_bestSingleCost_9 lk_RX4_100 vy_X4_ownCost nd_X4_ownCost (c_X4_ownCost l D h a0 a1 a2) rfl rfl (Nat.le_of_ble_eq_true rfl) (by decide) (by decide) (fun v2 => ?_)
  refine pg_istore (lv' := [(4, pI v2), (3, pI v1), (0, pR a0), (1, pR a1), (2, pI a2)]) dX4_bestSingleCost_12 (by decide) rfl ?_
  refine pg_iconst dX4_bestSingleCost_14 ci_0 ?_
  refine pg_istore (lv' := [(5, pI (0 : Int32)), (4, pI v2), (3, pI v1), (0, pR a0), (1, pR a1), (2, pI a2)]) dX4_bestSingleCost_15 (by decide) rfl ?_
  exact pg_to (e_X4_bestSingleCost_17 l D h pg_fuel a0 a1 a2 v1 v2 (0 : Int32)) [3, 4, 5, 2, 1, 0] rfl
theorem c_X4_bestSingleCost (l : Launch) (D : pg_D) (h : pg_H) (a0 : Nat) (a1 : Nat) (a2 : Int32)  : ∀ x, F_X4_bestSingleCost h a0 a1 a2 = some x → pg_Ct l D yX4_bestSingleCost cX4_bestSingleCost 6 (some FieldType.int) 3 73 [pR a0, pR a1, pI a2] h (pg_oI h x) :=
  pg_Ct.of pn_RX4 (Nat.le_of_ble_eq_true rfl) (e_X4_bestSingleCost l D h a0 a1 a2)
def F_X4_agreement_49 (h : pg_H) (k14 : Nat → Int32 → Int32 → Int32 → Option Int32) (a0 : Nat) (a3 : Int32) (a5 : Int32) (s0 : Int32) (s1 : Int32) : Option Int32 := pg_let (s1 + s0) fun v1 => (k14 a0 a3 v1 (a5 + (1 : Int32)))
def F_X4_agreement_14 (h : pg_H) : Nat → Nat → Int32 → Int32 → Int32 → Option Int32
  | 0 => fun _ _ _ _ => none
  | n + 1 => fun a0 a3 a4 a5 => Option.bind (pg_gI 4 8 h a0) fun v1 => (if a5 < v1 then Option.bind (pg_gR 4 2 h a0) fun v2 => Option.bind (pg_aI 21 h v2 a5) fun v3 => (if (v3 &&& a3) = a3 then Option.bind (pg_gR 4 3 h a0) fun v4 => Option.bind (pg_aI 21 h v4 a5) fun v5 => (F_X4_agreement_49 h (F_X4_agreement_14 h n) a0 a3 a5 v5 a4) else (F_X4_agreement_49 h (F_X4_agreement_14 h n) a0 a3 a5 (0 : Int32) a4)) else (some a4))
def F_X4_agreement (h : pg_H) (a0 : Nat) (a1 : Int32) (a2 : Int32) : Option Int32 := pg_let (((1 : Int32) <<< (a1 &&& 31)) ||| ((1 : Int32) <<< (a2 &&& 31))) fun v1 => (F_X4_agreement_14 h pg_fuel a0 v1 (0 : Int32) (0 : Int32))
theorem e_X4_agreement_49 (l : Launch) (D : pg_D)  (h : pg_H) (k14 : Nat → Int32 → Int32 → Int32 → Option Int32) (hk14 : ∀ (a0 : Nat) (a3 : Int32) (a4 : Int32) (a5 : Int32), pg_EvF l D RX4 cX4_agreement 6 (some FieldType.int) "agreement" 0 0 (pg_oI h) (k14 a0 a3 a4 a5) 14 [(0, pR a0), (3, pI a3), (4, pI a4), (5, pI a5)] [] h) (a0 : Nat) (a3 : Int32) (a5 : Int32) (s0 : Int32) (s1 : Int32) : pg_EvF l D RX4 cX4_agreement 6 (some FieldType.int) "agreement" 0 0 (pg_oI h) (F_X4_agreement_49 h k14 a0 a3 a5 s0 s1) 49 [(0, pR a0), (3, pI a3), (5, pI a5)] [pI s0, pI s1] h := by
  unfold F_X4_agreement_49
  refine pg_iadd dX4_agreement_49 ?_
  refine pg_letI (fun v1 => ?_)
  refine pg_istore (lv' := [(4, pI v1), (0, pR a0), (3, pI a3), (5, pI a5)]) dX4_agreement_50 (by decide) rfl ?_
  refine pg_iinc (lv' := [(5, pI (a5 + (1 : Int32))), (4, pI v1), (0, pR a0), (3, pI a3)]) dX4_agreement_52 3 rfl ci_1 (by decide) rfl ?_
  refine pg_goto (tgt := 14) dX4_agreement_55 rfl ?_
  exact pg_to (hk14 a0 a3 v1 (a5 + (1 : Int32))) [2, 3, 1, 0] rfl
theorem e_X4_agreement_14 (l : Launch) (D : pg_D)  (h : pg_H) : ∀ (n : Nat) (a0 : Nat) (a3 : Int32) (a4 : Int32) (a5 : Int32), pg_EvF l D RX4 cX4_agreement 6 (some FieldType.int) "agreement" 0 0 (pg_oI h) (F_X4_agreement_14 h n a0 a3 a4 a5) 14 [(0, pR a0), (3, pI a3), (4, pI a4), (5, pI a5)] [] h := by
  intro n
  induction n with
  | zero => intro a0 a3 a4 a5; exact pg_none
  | succ n ih =>
    intro a0 a3 a4 a5
    rw [F_X4_agreement_14]
    refine pg_iload dX4_agreement_14 3 rfl ?_
    refine pg_aload_n (i := 0) dX4_agreement_16 rfl 0 rfl ?_
    refine pg_getI dX4_agreement_17 fl_RX4_36 rfl (fun v1 => ?_)
    refine pg_icmp_ge (tgt := 58) dX4_agreement_20 rfl ?_ ?_
    · refine pg_iload dX4_agreement_58 2 rfl ?_
      exact pg_iret dX4_agreement_60 rfl rfl
    · refine pg_iload dX4_agreement_23 2 rfl ?_
      refine pg_aload_n (i := 0) dX4_agreement_25 rfl 0 rfl ?_
      refine pg_getR dX4_agreement_26 fl_RX4_18 rfl (fun v2 => ?_)
      refine pg_iload dX4_agreement_29 3 rfl ?_
      refine pg_iaload dX4_agreement_31 (fun v3 => ?_)
      refine pg_iload_n (i := 3) dX4_agreement_32 rfl 1 rfl ?_
      refine pg_iand dX4_agreement_33 ?_
      refine pg_iload_n (i := 3) dX4_agreement_34 rfl 1 rfl ?_
      refine pg_icmp_ne (tgt := 48) dX4_agreement_35 rfl ?_ ?_
      · refine pg_iconst dX4_agreement_48 ci_0 ?_
        exact pg_to (e_X4_agreement_49 l D h (F_X4_agreement_14 h n) ih a0 a3 a5 (0 : Int32) a4) [0, 1, 3] rfl
      · refine pg_aload_n (i := 0) dX4_agreement_38 rfl 0 rfl ?_
        refine pg_getR dX4_agreement_39 fl_RX4_21 rfl (fun v4 => ?_)
        refine pg_iload dX4_agreement_42 3 rfl ?_
        refine pg_iaload dX4_agreement_44 (fun v5 => ?_)
        refine pg_goto (tgt := 49) dX4_agreement_45 rfl ?_
        exact pg_to (e_X4_agreement_49 l D h (F_X4_agreement_14 h n) ih a0 a3 a5 v5 a4) [0, 1, 3] rfl
theorem e_X4_agreement (l : Launch) (D : pg_D)  (h : pg_H) (a0 : Nat) (a1 : Int32) (a2 : Int32) : pg_EvF l D RX4 cX4_agreement 6 (some FieldType.int) "agreement" 0 0 (pg_oI h) (F_X4_agreement h a0 a1 a2) 0 [(0, pR a0), (1, pI a1), (2, pI a2)] [] h := by
  unfold F_X4_agreement
  refine pg_iconst dX4_agreement_0 ci_1 ?_
  refine pg_iload_n (i := 1) dX4_agreement_1 rfl 1 rfl ?_
  refine pg_ishl dX4_agreement_2 ?_
  refine pg_iconst dX4_agreement_3 ci_1 ?_
  refine pg_iload_n (i := 2) dX4_agreement_4 rfl 2 rfl ?_
  refine pg_ishl dX4_agreement_5 ?_
  refine pg_ior dX4_agreement_6 ?_
  refine pg_letI (fun v1 => ?_)
  refine pg_istore_n (i := 3) (lv' := [(3, pI v1), (0, pR a0), (1, pI a1), (2, pI a2)]) dX4_agreement_7 rfl (by decide) rfl ?_
  refine pg_iconst dX4_agreement_8 ci_0 ?_
  refine pg_istore (lv' := [(4, pI (0 : Int32)), (3, pI v1), (0, pR a0), (1, pI a1), (2, pI a2)]) dX4_agreement_9 (by decide) rfl ?_
  refine pg_iconst dX4_agreement_11 ci_0 ?_
  refine pg_istore (lv' := [(5, pI (0 : Int32)), (4, pI (0 : Int32)), (3, pI v1), (0, pR a0), (1, pI a1), (2, pI a2)]) dX4_agreement_12 (by decide) rfl ?_
  exact pg_to (e_X4_agreement_14 l D h pg_fuel a0 v1 (0 : Int32) (0 : Int32)) [3, 2, 1, 0] rfl
theorem c_X4_agreement (l : Launch) (D : pg_D) (h : pg_H) (a0 : Nat) (a1 : Int32) (a2 : Int32)  : ∀ x, F_X4_agreement h a0 a1 a2 = some x → pg_Ct l D yX4_agreement cX4_agreement 6 (some FieldType.int) 0 0 [pR a0, pI a1, pI a2] h (pg_oI h x) :=
  pg_Ct.of pn_RX4 (Nat.le_of_ble_eq_true rfl) (e_X4_agreement l D h a0 a1 a2)
def F_X4_findNear_81 (k33 : Nat → Nat → Int32 → Int32 → Int32 → pg_H → Option pg_H) (a0 : Nat) (a1 : Nat) (a2 : Int32) (a3 : Int32) (a4 : Int32) (h : pg_H) : Option pg_H := (k33 a0 a1 a2 a3 (a4 + (1 : Int32)) h)
def F_X4_findNear_33 (k23 : Nat → Nat → Int32 → Int32 → pg_H → Option pg_H) : Nat → Nat → Nat → Int32 → Int32 → Int32 → pg_H → Option pg_H
  | 0 => fun _ _ _ _ _ _ => none
  | n + 1 => fun a0 a1 a2 a3 a4 h => (if a4 < a2 then Option.bind (pg_rcv 4 h a0 (F_X4_agreement h a0 a3 a4)) fun v1 => Option.bind (pg_gR 5 5 h a1) fun v2 => Option.bind (pg_aI 21 h v2 (3 : Int32)) fun v3 => (if v1 < v3 then (F_X4_findNear_81 (F_X4_findNear_33 k23 n) a0 a1 a2 a3 a4 h) else Option.bind (pg_gR 4 7 h a0) fun v4 => Option.bind (pg_aI 21 h v4 a3) fun v5 => Option.bind (pg_sI 21 h v4 a3 (v5 ||| ((1 : Int32) <<< (a4 &&& 31)))) fun v6 => Option.bind (pg_gR 4 7 v6 a0) fun v7 => Option.bind (pg_aI 21 v6 v7 a4) fun v8 => Option.bind (pg_sI 21 v6 v7 a4 (v8 ||| ((1 : Int32) <<< (a3 &&& 31)))) fun v9 => (F_X4_findNear_81 (F_X4_findNear_33 k23 n) a0 a1 a2 a3 a4 v9)) else (k23 a0 a1 a2 (a3 + (1 : Int32)) h))
def F_X4_findNear_23  : Nat → Nat → Nat → Int32 → Int32 → pg_H → Option pg_H
  | 0 => fun _ _ _ _ _ => none
  | n + 1 => fun a0 a1 a2 a3 h => (if a3 < a2 then pg_let (a3 + (1 : Int32)) fun v1 => (F_X4_findNear_33 (F_X4_findNear_23 n) pg_fuel a0 a1 a2 a3 v1 h) else (some h))
def F_X4_findNear (a0 : Nat) (a1 : Nat) (h : pg_H) : Option pg_H := Option.bind (pg_gR 4 7 h a0) fun v1 => Option.bind (F_J7_fill_53178 v1 (0 : Int32) h) fun v2 => Option.bind (pg_gR 5 0 v2 a1) fun v3 => Option.bind (pg_rcv 7 v2 v3 (F_X7_size v2 v3)) fun v4 => pg_let (if (12 : Int32) < v4 then (12 : Int32) else v4) fun v5 => (F_X4_findNear_23 pg_fuel a0 a1 v5 (0 : Int32) v2)
theorem e_X4_findNear_81 (l : Launch) (D : pg_D)  (k33 : Nat → Nat → Int32 → Int32 → Int32 → pg_H → Option pg_H) (hk33 : ∀ (a0 : Nat) (a1 : Nat) (a2 : Int32) (a3 : Int32) (a4 : Int32) (h : pg_H), pg_EvF l D RX4 cX4_findNear 5 none "findNear" 1 30 pg_wV (k33 a0 a1 a2 a3 a4 h) 33 [(0, pR a0), (1, pR a1), (2, pI a2), (3, pI a3), (4, pI a4)] [] h) (a0 : Nat) (a1 : Nat) (a2 : Int32) (a3 : Int32) (a4 : Int32) (h : pg_H) : pg_EvF l D RX4 cX4_findNear 5 none "findNear" 1 30 pg_wV (F_X4_findNear_81 k33 a0 a1 a2 a3 a4 h) 81 [(0, pR a0), (1, pR a1), (2, pI a2), (3, pI a3), (4, pI a4)] [] h := by
  unfold F_X4_findNear_81
  refine pg_iinc (lv' := [(4, pI (a4 + (1 : Int32))), (0, pR a0), (1, pR a1), (2, pI a2), (3, pI a3)]) dX4_findNear_81 4 rfl ci_1 (by decide) rfl ?_
  refine pg_goto (tgt := 33) dX4_findNear_84 rfl ?_
  exact pg_to (hk33 a0 a1 a2 a3 (a4 + (1 : Int32)) h) [1, 2, 3, 4, 0] rfl
theorem e_X4_findNear_33 (l : Launch) (D : pg_D)  (k23 : Nat → Nat → Int32 → Int32 → pg_H → Option pg_H) (hk23 : ∀ (a0 : Nat) (a1 : Nat) (a2 : Int32) (a3 : Int32) (h : pg_H), pg_EvF l D RX4 cX4_findNear 5 none "findNear" 1 30 pg_wV (k23 a0 a1 a2 a3 h) 23 [(0, pR a0), (1, pR a1), (2, pI a2), (3, pI a3)] [] h) : ∀ (n : Nat) (a0 : Nat) (a1 : Nat) (a2 : Int32) (a3 : Int32) (a4 : Int32) (h : pg_H), pg_EvF l D RX4 cX4_findNear 5 none "findNear" 1 30 pg_wV (F_X4_findNear_33 k23 n a0 a1 a2 a3 a4 h) 33 [(0, pR a0), (1, pR a1), (2, pI a2), (3, pI a3), (4, pI a4)] [] h := by
  intro n
  induction n with
  | zero => intro a0 a1 a2 a3 a4 h; exact pg_none
  | succ n ih =>
    intro a0 a1 a2 a3 a4 h
    rw [F_X4_findNear_33]
    refine pg_iload dX4_findNear_33 4 rfl ?_
    refine pg_iload_n (i := 2) dX4_findNear_35 rfl 2 rfl ?_
    refine pg_icmp_ge (tgt := 87) dX4_findNear_36 rfl ?_ ?_
    · refine pg_iinc (lv' := [(3, pI (a3 + (1 : Int32))), (0, pR a0), (1, pR a1), (2, pI a2), (4, pI a4)]) dX4_findNear_87 3 rfl ci_1 (by decide) rfl ?_
      refine pg_goto (tgt := 23) dX4_findNear_90 rfl ?_
      exact pg_to (hk23 a0 a1 a2 (a3 + (1 : Int32)) h) [1, 2, 3, 0] rfl
    · refine pg_aload_n (i := 0) dX4_findNear_39 rfl 0 rfl ?_
      refine pg_iload_n (i := 3) dX4_findNear_40 rfl 3 rfl ?_
      refine pg_iload dX4_findNear_41 4 rfl ?_
      refine pg_callV_oI (As := [pI a3, pI a4]) (rs := []) dX4_findNear_43 lk_RX4_119 vy_X4_agreement nd_X4_agreement (c_X4_agreement l D h a0 a3 a4) rfl rfl (Nat.le_of_ble_eq_true rfl) (by decide) (by decide) (fun v1 => ?_)
      refine pg_aload_n (i := 1) dX4_findNear_46 rfl 1 rfl ?_
      refine pg_getR dX4_findNear_47 fl_RX4_90 rfl (fun v2 => ?_)
      refine pg_iconst dX4_findNear_50 ci_3 ?_
      refine pg_iaload dX4_findNear_51 (fun v3 => ?_)
      refine pg_icmp_lt (tgt := 81) dX4_findNear_52 rfl ?_ ?_
      · exact pg_to (e_X4_findNear_81 l D (F_X4_findNear_33 k23 n) ih a0 a1 a2 a3 a4 h) [0, 1, 2, 3, 4] rfl
      · refine pg_aload_n (i := 0) dX4_findNear_55 rfl 0 rfl ?_
        refine pg_getR dX4_findNear_56 fl_RX4_33 rfl (fun v4 => ?_)
        refine pg_iload_n (i := 3) dX4_findNear_59 rfl 3 rfl ?_
        refine pg_dup2 dX4_findNear_60 rfl rfl ?_
        refine pg_iaload dX4_findNear_61 (fun v5 => ?_)
        refine pg_iconst dX4_findNear_62 ci_1 ?_
        refine pg_iload dX4_findNear_63 4 rfl ?_
        refine pg_ishl dX4_findNear_65 ?_
        refine pg_ior dX4_findNear_66 ?_
        refine pg_iastore dX4_findNear_67 (fun v6 => ?_)
        refine pg_aload_n (i := 0) dX4_findNear_68 rfl 0 rfl ?_
        refine pg_getR dX4_findNear_69 fl_RX4_33 rfl (fun v7 => ?_)
        refine pg_iload dX4_findNear_72 4 rfl ?_
        refine pg_dup2 dX4_findNear_74 rfl rfl ?_
        refine pg_iaload dX4_findNear_75 (fun v8 => ?_)
        refine pg_iconst dX4_findNear_76 ci_1 ?_
        refine pg_iload_n (i := 3) dX4_findNear_77 rfl 3 rfl ?_
        refine pg_ishl dX4_findNear_78 ?_
        refine pg_ior dX4_findNear_79 ?_
        refine pg_iastore dX4_findNear_80 (fun v9 => ?_)
        exact pg_to (e_X4_findNear_81 l D (F_X4_findNear_33 k23 n) ih a0 a1 a2 a3 a4 v9) [0, 1, 2, 3, 4] rfl
theorem e_X4_findNear_23 (l : Launch) (D : pg_D)   : ∀ (n : Nat) (a0 : Nat) (a1 : Nat) (a2 : Int32) (a3 : Int32) (h : pg_H), pg_EvF l D RX4 cX4_findNear 5 none "findNear" 1 30 pg_wV (F_X4_findNear_23 n a0 a1 a2 a3 h) 23 [(0, pR a0), (1, pR a1), (2, pI a2), (3, pI a3)] [] h := by
  intro n
  induction n with
  | zero => intro a0 a1 a2 a3 h; exact pg_none
  | succ n ih =>
    intro a0 a1 a2 a3 h
    rw [F_X4_findNear_23]
    refine pg_iload_n (i := 3) dX4_findNear_23 rfl 3 rfl ?_
    refine pg_iload_n (i := 2) dX4_findNear_24 rfl 2 rfl ?_
    refine pg_icmp_ge (tgt := 93) dX4_findNear_25 rfl ?_ ?_
    · exact pg_vret dX4_findNear_93 rfl rfl
    · refine pg_iload_n (i := 3) dX4_findNear_28 rfl 3 rfl ?_
      refine pg_iconst dX4_findNear_29 ci_1 ?_
      refine pg_iadd dX4_findNear_30 ?_
      refine pg_letI (fun v1 => ?_)
      refine pg_istore (lv' := [(4, pI v1), (0, pR a0), (1, pR a1), (2, pI a2), (3, pI a3)]) dX4_findNear_31 (by decide) rfl ?_
      exact pg_to (e_X4_findNear_33 l D (F_X4_findNear_23 n) ih pg_fuel a0 a1 a2 a3 v1 h) [1, 2, 3, 4, 0] rfl
theorem e_X4_findNear (l : Launch) (D : pg_D)  (a0 : Nat) (a1 : Nat) (h : pg_H) : pg_EvF l D RX4 cX4_findNear 5 none "findNear" 1 30 pg_wV (F_X4_findNear a0 a1 h) 0 [(0, pR a0), (1, pR a1)] [] h := by
  unfold F_X4_findNear
  refine pg_aload_n (i := 0) dX4_findNear_0 rfl 0 rfl ?_
  refine pg_getR dX4_findNear_1 fl_RX4_33 rfl (fun v1 => ?_)
  refine pg_iconst dX4_findNear_4 ci_0 ?_
  refine pg_callS_wV (As := [pR v1, pI (0 : Int32)]) (rs := []) dX4_findNear_5 lk_RX4_40 vy_J7_fill_53178 nd_J7_fill_53178 (c_J7_fill_53178 l D v1 (0 : Int32) h) rfl rfl (Nat.le_of_ble_eq_true rfl) (by decide) (by decide) (fun v2 => ?_)
  refine pg_aload_n (i := 1) dX4_findNear_8 rfl 1 rfl ?_
  refine pg_getR dX4_findNear_9 fl_RX4_116 rfl (fun v3 => ?_)
  refine pg_callV_oI (As := []) (rs := []) dX4_findNear_12 lk_RX4_52 vy_X7_size nd_X7_size (c_X7_size l D v2 v3) rfl rfl (Nat.le_of_ble_eq_true rfl) (by decide) (by decide) (fun v4 => ?_)
  refine pg_bipush dX4_findNear_15 cb_12 ?_
  refine pg_mmin dX4_findNear_17 pw4_179 pw_min1 pw_math pw_min2 (Nat.le_of_ble_eq_true rfl) (by decide) (by decide) ?_
  refine pg_letI (fun v5 => ?_)
  refine pg_istore_n (i := 2) (lv' := [(2, pI v5), (0, pR a0), (1, pR a1)]) dX4_findNear_20 rfl (by decide) rfl ?_
  refine pg_iconst dX4_findNear_21 ci_0 ?_
  refine pg_istore_n (i := 3) (lv' := [(3, pI (0 : Int32)), (2, pI v5), (0, pR a0), (1, pR a1)]) dX4_findNear_22 rfl (by decide) rfl ?_
  exact pg_to (e_X4_findNear_23 l D pg_fuel a0 a1 v5 (0 : Int32) v2) [2, 3, 1, 0] rfl
theorem c_X4_findNear (l : Launch) (D : pg_D) (a0 : Nat) (a1 : Nat) (h : pg_H) : ∀ x, F_X4_findNear a0 a1 h = some x → pg_Ct l D yX4_findNear cX4_findNear 5 none 1 30 [pR a0, pR a1] h (pg_wV x) :=
  pg_Ct.of pn_RX4 (Nat.le_of_ble_eq_true rfl) (e_X4_findNear l D a0 a1 h)
def F_X4_spread_52 (h : pg_H) (k20 : Nat → Int32 → Int32 → Int32 → Int32 → Int32 → Option Int32) (a0 : Nat) (a2 : Int32) (a4 : Int32) (a5 : Int32) (a6 : Int32) (s0 : Int32) (s1 : Int32) : Option Int32 := pg_let (s1 ||| s0) fun v1 => (k20 a0 a2 v1 a4 a5 (a6 + (1 : Int32)))
def F_X4_spread_20 (h : pg_H) (k7 : Nat → Int32 → Int32 → Int32 → Option Int32) : Nat → Nat → Int32 → Int32 → Int32 → Int32 → Int32 → Option Int32
  | 0 => fun _ _ _ _ _ _ => none
  | n + 1 => fun a0 a2 a3 a4 a5 a6 => (if a6 < (12 : Int32) then (if ((a5 >>> (a6 &&& 31)) &&& (1 : Int32)) = (1 : Int32) then Option.bind (pg_gR 4 7 h a0) fun v1 => Option.bind (pg_aI 21 h v1 a6) fun v2 => (F_X4_spread_52 h (F_X4_spread_20 h k7 n) a0 a2 a4 a5 a6 (v2 &&& a2) a3) else (F_X4_spread_52 h (F_X4_spread_20 h k7 n) a0 a2 a4 a5 a6 (0 : Int32) a3)) else (if a3 = a5 then (some a3) else (k7 a0 a2 a3 (a4 + (1 : Int32)))))
def F_X4_spread_7 (h : pg_H) : Nat → Nat → Int32 → Int32 → Int32 → Option Int32
  | 0 => fun _ _ _ _ => none
  | n + 1 => fun a0 a2 a3 a4 => (if a4 < (12 : Int32) then (F_X4_spread_20 h (F_X4_spread_7 h n) pg_fuel a0 a2 a3 a4 a3 (0 : Int32)) else (some a3))
def F_X4_spread (h : pg_H) (a0 : Nat) (a1 : Int32) (a2 : Int32) : Option Int32 := pg_let ((1 : Int32) <<< (a1 &&& 31)) fun v1 => (F_X4_spread_7 h pg_fuel a0 a2 v1 (0 : Int32))
theorem e_X4_spread_52 (l : Launch) (D : pg_D)  (h : pg_H) (k20 : Nat → Int32 → Int32 → Int32 → Int32 → Int32 → Option Int32) (hk20 : ∀ (a0 : Nat) (a2 : Int32) (a3 : Int32) (a4 : Int32) (a5 : Int32) (a6 : Int32), pg_EvF l D RX4 cX4_spread 7 (some FieldType.int) "spread" 0 0 (pg_oI h) (k20 a0 a2 a3 a4 a5 a6) 20 [(0, pR a0), (2, pI a2), (3, pI a3), (4, pI a4), (5, pI a5), (6, pI a6)] [] h) (a0 : Nat) (a2 : Int32) (a4 : Int32) (a5 : Int32) (a6 : Int32) (s0 : Int32) (s1 : Int32) : pg_EvF l D RX4 cX4_spread 7 (some FieldType.int) "spread" 0 0 (pg_oI h) (F_X4_spread_52 h k20 a0 a2 a4 a5 a6 s0 s1) 52 [(0, pR a0), (2, pI a2), (4, pI a4), (5, pI a5), (6, pI a6)] [pI s0, pI s1] h := by
  unfold F_X4_spread_52
  refine pg_ior dX4_spread_52 ?_
  refine pg_letI (fun v1 => ?_)
  refine pg_istore_n (i := 3) (lv' := [(3, pI v1), (0, pR a0), (2, pI a2), (4, pI a4), (5, pI a5), (6, pI a6)]) dX4_spread_53 rfl (by decide) rfl ?_
  refine pg_iinc (lv' := [(6, pI (a6 + (1 : Int32))), (3, pI v1), (0, pR a0), (2, pI a2), (4, pI a4), (5, pI a5)]) dX4_spread_54 5 rfl ci_1 (by decide) rfl ?_
  refine pg_goto (tgt := 20) dX4_spread_57 rfl ?_
  exact pg_to (hk20 a0 a2 v1 a4 a5 (a6 + (1 : Int32))) [2, 3, 1, 4, 5, 0] rfl
theorem e_X4_spread_20 (l : Launch) (D : pg_D)  (h : pg_H) (k7 : Nat → Int32 → Int32 → Int32 → Option Int32) (hk7 : ∀ (a0 : Nat) (a2 : Int32) (a3 : Int32) (a4 : Int32), pg_EvF l D RX4 cX4_spread 7 (some FieldType.int) "spread" 0 0 (pg_oI h) (k7 a0 a2 a3 a4) 7 [(0, pR a0), (2, pI a2), (3, pI a3), (4, pI a4)] [] h) : ∀ (n : Nat) (a0 : Nat) (a2 : Int32) (a3 : Int32) (a4 : Int32) (a5 : Int32) (a6 : Int32), pg_EvF l D RX4 cX4_spread 7 (some FieldType.int) "spread" 0 0 (pg_oI h) (F_X4_spread_20 h k7 n a0 a2 a3 a4 a5 a6) 20 [(0, pR a0), (2, pI a2), (3, pI a3), (4, pI a4), (5, pI a5), (6, pI a6)] [] h := by
  intro n
  induction n with
  | zero => intro a0 a2 a3 a4 a5 a6; exact pg_none
  | succ n ih =>
    intro a0 a2 a3 a4 a5 a6
    rw [F_X4_spread_20]
    refine pg_iload dX4_spread_20 5 rfl ?_
    refine pg_bipush dX4_spread_22 cb_12 ?_
    refine pg_icmp_ge (tgt := 60) dX4_spread_24 rfl ?_ ?_
    · refine pg_iload_n (i := 3) dX4_spread_60 rfl 2 rfl ?_
      refine pg_iload dX4_spread_61 4 rfl ?_
      refine pg_icmp_ne (tgt := 69) dX4_spread_63 rfl ?_ ?_
      · refine pg_iinc (lv' := [(4, pI (a4 + (1 : Int32))), (0, pR a0), (2, pI a2), (3, pI a3), (5, pI a5), (6, pI a6)]) dX4_spread_69 3 rfl ci_1 (by decide) rfl ?_
        refine pg_goto (tgt := 7) dX4_spread_72 rfl ?_
        exact pg_to (hk7 a0 a2 a3 (a4 + (1 : Int32))) [1, 2, 3, 0] rfl
      · refine pg_goto (tgt := 75) dX4_spread_66 rfl ?_
        refine pg_iload_n (i := 3) dX4_spread_75 rfl 2 rfl ?_
        exact pg_iret dX4_spread_76 rfl rfl
    · refine pg_iload_n (i := 3) dX4_spread_27 rfl 2 rfl ?_
      refine pg_iload dX4_spread_28 4 rfl ?_
      refine pg_iload dX4_spread_30 5 rfl ?_
      refine pg_ishr dX4_spread_32 ?_
      refine pg_iconst dX4_spread_33 ci_1 ?_
      refine pg_iand dX4_spread_34 ?_
      refine pg_iconst dX4_spread_35 ci_1 ?_
      refine pg_icmp_ne (tgt := 51) dX4_spread_36 rfl ?_ ?_
      · refine pg_iconst dX4_spread_51 ci_0 ?_
        exact pg_to (e_X4_spread_52 l D h (F_X4_spread_20 h k7 n) ih a0 a2 a4 a5 a6 (0 : Int32) a3) [0, 1, 3, 4, 5] rfl
      · refine pg_aload_n (i := 0) dX4_spread_39 rfl 0 rfl ?_
        refine pg_getR dX4_spread_40 fl_RX4_33 rfl (fun v1 => ?_)
        refine pg_iload dX4_spread_43 5 rfl ?_
        refine pg_iaload dX4_spread_45 (fun v2 => ?_)
        refine pg_iload_n (i := 2) dX4_spread_46 rfl 1 rfl ?_
        refine pg_iand dX4_spread_47 ?_
        refine pg_goto (tgt := 52) dX4_spread_48 rfl ?_
        exact pg_to (e_X4_spread_52 l D h (F_X4_spread_20 h k7 n) ih a0 a2 a4 a5 a6 (v2 &&& a2) a3) [0, 1, 3, 4, 5] rfl
theorem e_X4_spread_7 (l : Launch) (D : pg_D)  (h : pg_H) : ∀ (n : Nat) (a0 : Nat) (a2 : Int32) (a3 : Int32) (a4 : Int32), pg_EvF l D RX4 cX4_spread 7 (some FieldType.int) "spread" 0 0 (pg_oI h) (F_X4_spread_7 h n a0 a2 a3 a4) 7 [(0, pR a0), (2, pI a2), (3, pI a3), (4, pI a4)] [] h := by
  intro n
  induction n with
  | zero => intro a0 a2 a3 a4; exact pg_none
  | succ n ih =>
    intro a0 a2 a3 a4
    rw [F_X4_spread_7]
    refine pg_iload dX4_spread_7 3 rfl ?_
    refine pg_bipush dX4_spread_9 cb_12 ?_
    refine pg_icmp_ge (tgt := 75) dX4_spread_11 rfl ?_ ?_
    · refine pg_iload_n (i := 3) dX4_spread_75 rfl 2 rfl ?_
      exact pg_iret dX4_spread_76 rfl rfl
    · refine pg_iload_n (i := 3) dX4_spread_14 rfl 2 rfl ?_
      refine pg_istore (lv' := [(5, pI a3), (0, pR a0), (2, pI a2), (3, pI a3), (4, pI a4)]) dX4_spread_15 (by decide) rfl ?_
      refine pg_iconst dX4_spread_17 ci_0 ?_
      refine pg_istore (lv' := [(6, pI (0 : Int32)), (5, pI a3), (0, pR a0), (2, pI a2), (3, pI a3), (4, pI a4)]) dX4_spread_18 (by decide) rfl ?_
      exact pg_to (e_X4_spread_20 l D h (F_X4_spread_7 h n) ih pg_fuel a0 a2 a3 a4 a3 (0 : Int32)) [2, 3, 4, 5, 1, 0] rfl
theorem e_X4_spread (l : Launch) (D : pg_D)  (h : pg_H) (a0 : Nat) (a1 : Int32) (a2 : Int32) : pg_EvF l D RX4 cX4_spread 7 (some FieldType.int) "spread" 0 0 (pg_oI h) (F_X4_spread h a0 a1 a2) 0 [(0, pR a0), (1, pI a1), (2, pI a2)] [] h := by
  unfold F_X4_spread
  refine pg_iconst dX4_spread_0 ci_1 ?_
  refine pg_iload_n (i := 1) dX4_spread_1 rfl 1 rfl ?_
  refine pg_ishl dX4_spread_2 ?_
  refine pg_letI (fun v1 => ?_)
  refine pg_istore_n (i := 3) (lv' := [(3, pI v1), (0, pR a0), (1, pI a1), (2, pI a2)]) dX4_spread_3 rfl (by decide) rfl ?_
  refine pg_iconst dX4_spread_4 ci_0 ?_
  refine pg_istore (lv' := [(4, pI (0 : Int32)), (3, pI v1), (0, pR a0), (1, pI a1), (2, pI a2)]) dX4_spread_5 (by decide) rfl ?_
  exact pg_to (e_X4_spread_7 l D h pg_fuel a0 a2 v1 (0 : Int32)) [2, 4, 1, 0] rfl
theorem c_X4_spread (l : Launch) (D : pg_D) (h : pg_H) (a0 : Nat) (a1 : Int32) (a2 : Int32)  : ∀ x, F_X4_spread h a0 a1 a2 = some x → pg_Ct l D yX4_spread cX4_spread 7 (some FieldType.int) 0 0 [pR a0, pI a1, pI a2] h (pg_oI h x) :=
  pg_Ct.of pn_RX4 (Nat.le_of_ble_eq_true rfl) (e_X4_spread l D h a0 a1 a2)
def F_X4_familiesOf_68 (k14 : Nat → Int32 → Int32 → Int32 → Int32 → pg_H → Option (Int32 × pg_H)) (a0 : Nat) (a3 : Int32) (a4 : Int32) (a5 : Int32) (a6 : Int32) (h : pg_H) : Option (Int32 × pg_H) := (k14 a0 a3 a4 a5 (a6 + (1 : Int32)) h)
def F_X4_familiesOf_65 (k14 : Nat → Int32 → Int32 → Int32 → Int32 → pg_H → Option (Int32 × pg_H)) (a0 : Nat) (a3 : Int32) (a4 : Int32) (a6 : Int32) (s0 : Int32) (s1 : Int32) (h : pg_H) : Option (Int32 × pg_H) := pg_let (s1 + s0) fun v1 => (F_X4_familiesOf_68 k14 a0 a3 a4 v1 a6 h)
def F_X4_familiesOf_14  : Nat → Nat → Int32 → Int32 → Int32 → Int32 → pg_H → Option (Int32 × pg_H)
  | 0 => fun _ _ _ _ _ _ => none
  | n + 1 => fun a0 a3 a4 a5 a6 h => (if a6 < (12 : Int32) then (if ((a4 >>> (a6 &&& 31)) &&& (1 : Int32)) = (1 : Int32) then Option.bind (pg_rcv 4 h a0 (F_X4_spread h a0 a6 a4)) fun v1 => pg_let (a4 &&& (v1 ^^^ (-1 : Int32))) fun v2 => (if (v1 &&& a3) = 0 then (F_X4_familiesOf_65 (F_X4_familiesOf_14 n) a0 a3 v2 a6 (0 : Int32) a5 h) else (F_X4_familiesOf_65 (F_X4_familiesOf_14 n) a0 a3 v2 a6 (1 : Int32) a5 h)) else (F_X4_familiesOf_68 (F_X4_familiesOf_14 n) a0 a3 a4 a5 a6 h)) else (some (a5, h)))
def F_X4_familiesOf (a0 : Nat) (a1 : Nat) (a2 : Int32) (a3 : Int32) (h : pg_H) : Option (Int32 × pg_H) := Option.bind (pg_rcv 4 h a0 (F_X4_findNear a0 a1 h)) fun v1 => (F_X4_familiesOf_14 pg_fuel a0 a3 a2 (0 : Int32) (0 : Int32) v1)
theorem e_X4_familiesOf_68 (l : Launch) (D : pg_D)  (k14 : Nat → Int32 → Int32 → Int32 → Int32 → pg_H → Option (Int32 × pg_H)) (hk14 : ∀ (a0 : Nat) (a3 : Int32) (a4 : Int32) (a5 : Int32) (a6 : Int32) (h : pg_H), pg_EvF l D RX4 cX4_familiesOf 8 (some FieldType.int) "familiesOf" 2 54 pg_wI (k14 a0 a3 a4 a5 a6 h) 14 [(0, pR a0), (3, pI a3), (4, pI a4), (5, pI a5), (6, pI a6)] [] h) (a0 : Nat) (a3 : Int32) (a4 : Int32) (a5 : Int32) (a6 : Int32) (h : pg_H) : pg_EvF l D RX4 cX4_familiesOf 8 (some FieldType.int) "familiesOf" 2 54 pg_wI (F_X4_familiesOf_68 k14 a0 a3 a4 a5 a6 h) 68 [(0, pR a0), (3, pI a3), (4, pI a4), (5, pI a5), (6, pI a6)] [] h := by
  unfold F_X4_familiesOf_68
  refine pg_iinc (lv' := [(6, pI (a6 + (1 : Int32))), (0, pR a0), (3, pI a3), (4, pI a4), (5, pI a5)]) dX4_familiesOf_68 4 rfl ci_1 (by decide) rfl ?_
  refine pg_goto (tgt := 14) dX4_familiesOf_71 rfl ?_
  exact pg_to (hk14 a0 a3 a4 a5 (a6 + (1 : Int32)) h) [1, 2, 3, 4, 0] rfl
theorem e_X4_familiesOf_65 (l : Launch) (D : pg_D)  (k14 : Nat → Int32 → Int32 → Int32 → Int32 → pg_H → Option (Int32 × pg_H)) (hk14 : ∀ (a0 : Nat) (a3 : Int32) (a4 : Int32) (a5 : Int32) (a6 : Int32) (h : pg_H), pg_EvF l D RX4 cX4_familiesOf 8 (some FieldType.int) "familiesOf" 2 54 pg_wI (k14 a0 a3 a4 a5 a6 h) 14 [(0, pR a0), (3, pI a3), (4, pI a4), (5, pI a5), (6, pI a6)] [] h) (a0 : Nat) (a3 : Int32) (a4 : Int32) (a6 : Int32) (s0 : Int32) (s1 : Int32) (h : pg_H) : pg_EvF l D RX4 cX4_familiesOf 8 (some FieldType.int) "familiesOf" 2 54 pg_wI (F_X4_familiesOf_65 k14 a0 a3 a4 a6 s0 s1 h) 65 [(0, pR a0), (3, pI a3), (4, pI a4), (6, pI a6)] [pI s0, pI s1] h := by
  unfold F_X4_familiesOf_65
  refine pg_iadd dX4_familiesOf_65 ?_
  refine pg_letI (fun v1 => ?_)
  refine pg_istore (lv' := [(5, pI v1), (0, pR a0), (3, pI a3), (4, pI a4), (6, pI a6)]) dX4_familiesOf_66 (by decide) rfl ?_
  exact pg_to (e_X4_familiesOf_68 l D k14 hk14 a0 a3 a4 v1 a6 h) [1, 2, 3, 0, 4] rfl
theorem e_X4_familiesOf_14 (l : Launch) (D : pg_D)   : ∀ (n : Nat) (a0 : Nat) (a3 : Int32) (a4 : Int32) (a5 : Int32) (a6 : Int32) (h : pg_H), pg_EvF l D RX4 cX4_familiesOf 8 (some FieldType.int) "familiesOf" 2 54 pg_wI (F_X4_familiesOf_14 n a0 a3 a4 a5 a6 h) 14 [(0, pR a0), (3, pI a3), (4, pI a4), (5, pI a5), (6, pI a6)] [] h := by
  intro n
  induction n with
  | zero => intro a0 a3 a4 a5 a6 h; exact pg_none
  | succ n ih =>
    intro a0 a3 a4 a5 a6 h
    rw [F_X4_familiesOf_14]
    refine pg_iload dX4_familiesOf_14 4 rfl ?_
    refine pg_bipush dX4_familiesOf_16 cb_12 ?_
    refine pg_icmp_ge (tgt := 74) dX4_familiesOf_18 rfl ?_ ?_
    · refine pg_iload dX4_familiesOf_74 3 rfl ?_
      exact pg_iret dX4_familiesOf_76 rfl rfl
    · refine pg_iload dX4_familiesOf_21 2 rfl ?_
      refine pg_iload dX4_familiesOf_23 4 rfl ?_
      refine pg_ishr dX4_familiesOf_25 ?_
      refine pg_iconst dX4_familiesOf_26 ci_1 ?_
      refine pg_iand dX4_familiesOf_27 ?_
      refine pg_iconst dX4_familiesOf_28 ci_1 ?_
      refine pg_icmp_ne (tgt := 68) dX4_familiesOf_29 rfl ?_ ?_
      · exact pg_to (e_X4_familiesOf_68 l D (F_X4_familiesOf_14 n) ih a0 a3 a4 a5 a6 h) [0, 1, 2, 3, 4] rfl
      · refine pg_aload_n (i := 0) dX4_familiesOf_32 rfl 0 rfl ?_
        refine pg_iload dX4_familiesOf_33 4 rfl ?_
        refine pg_iload dX4_familiesOf_35 2 rfl ?_
        refine pg_callV_oI (As := [pI a6, pI a4]) (rs := []) dX4_familiesOf_37 lk_RX4_113 vy_X4_spread nd_X4_spread (c_X4_spread l D h a0 a6 a4) rfl rfl (Nat.le_of_ble_eq_true rfl) (by decide) (by decide) (fun v1 => ?_)
        refine pg_istore (lv' := [(7, pI v1), (0, pR a0), (3, pI a3), (4, pI a4), (5, pI a5), (6, pI a6)]) dX4_familiesOf_40 (by decide) rfl ?_
        refine pg_iload dX4_familiesOf_42 3 rfl ?_
        refine pg_iload dX4_familiesOf_44 0 rfl ?_
        refine pg_iconst dX4_familiesOf_46 ci_m1 ?_
        refine pg_ixor dX4_familiesOf_47 ?_
        refine pg_iand dX4_familiesOf_48 ?_
        refine pg_letI (fun v2 => ?_)
        refine pg_istore (lv' := [(4, pI v2), (7, pI v1), (0, pR a0), (3, pI a3), (5, pI a5), (6, pI a6)]) dX4_familiesOf_49 (by decide) rfl ?_
        refine pg_iload dX4_familiesOf_51 4 rfl ?_
        refine pg_iload dX4_familiesOf_53 1 rfl ?_
        refine pg_iload_n (i := 3) dX4_familiesOf_55 rfl 3 rfl ?_
        refine pg_iand dX4_familiesOf_56 ?_
        refine pg_if_eq (tgt := 64) dX4_familiesOf_57 rfl ?_ ?_
        · refine pg_iconst dX4_familiesOf_64 ci_0 ?_
          exact pg_to (e_X4_familiesOf_65 l D (F_X4_familiesOf_14 n) ih a0 a3 v2 a6 (0 : Int32) a5 h) [2, 3, 0, 5] rfl
        · refine pg_iconst dX4_familiesOf_60 ci_1 ?_
          refine pg_goto (tgt := 65) dX4_familiesOf_61 rfl ?_
          exact pg_to (e_X4_familiesOf_65 l D (F_X4_familiesOf_14 n) ih a0 a3 v2 a6 (1 : Int32) a5 h) [2, 3, 0, 5] rfl
theorem e_X4_familiesOf (l : Launch) (D : pg_D)  (a0 : Nat) (a1 : Nat) (a2 : Int32) (a3 : Int32) (h : pg_H) : pg_EvF l D RX4 cX4_familiesOf 8 (some FieldType.int) "familiesOf" 2 54 pg_wI (F_X4_familiesOf a0 a1 a2 a3 h) 0 [(0, pR a0), (1, pR a1), (2, pI a2), (3, pI a3)] [] h := by
  unfold F_X4_familiesOf
  refine pg_aload_n (i := 0) dX4_familiesOf_0 rfl 0 rfl ?_
  refine pg_aload_n (i := 1) dX4_familiesOf_1 rfl 1 rfl ?_
  refine pg_callV_wV (As := [pR a1]) (rs := []) dX4_familiesOf_2 lk_RX4_109 vy_X4_findNear nd_X4_findNear (c_X4_findNear l D a0 a1 h) rfl rfl (Nat.le_of_ble_eq_true rfl) (by decide) (by decide) (fun v1 => ?_)
  refine pg_iload_n (i := 2) dX4_familiesOf_5 rfl 2 rfl ?_
  refine pg_istore (lv' := [(4, pI a2), (0, pR a0), (1, pR a1), (2, pI a2), (3, pI a3)]) dX4_familiesOf_6 (by decide) rfl ?_
  refine pg_iconst dX4_familiesOf_8 ci_0 ?_
  refine pg_istore (lv' := [(5, pI (0 : Int32)), (4, pI a2), (0, pR a0), (1, pR a1), (2, pI a2), (3, pI a3)]) dX4_familiesOf_9 (by decide) rfl ?_
  refine pg_iconst dX4_familiesOf_11 ci_0 ?_
  refine pg_istore (lv' := [(6, pI (0 : Int32)), (5, pI (0 : Int32)), (4, pI a2), (0, pR a0), (1, pR a1), (2, pI a2), (3, pI a3)]) dX4_familiesOf_12 (by decide) rfl ?_
  exact pg_to (e_X4_familiesOf_14 l D pg_fuel a0 a3 a2 (0 : Int32) (0 : Int32) v1) [3, 6, 2, 1, 0] rfl
theorem c_X4_familiesOf (l : Launch) (D : pg_D) (a0 : Nat) (a1 : Nat) (a2 : Int32) (a3 : Int32) (h : pg_H) : ∀ x, F_X4_familiesOf a0 a1 a2 a3 h = some x → pg_Ct l D yX4_familiesOf cX4_familiesOf 8 (some FieldType.int) 2 54 [pR a0, pR a1, pI a2, pI a3] h (pg_wI x) :=
  pg_Ct.of pn_RX4 (Nat.le_of_ble_eq_true rfl) (e_X4_familiesOf l D a0 a1 a2 a3 h)
def F_X4_familyOf (a0 : Nat) (a1 : Nat) (a2 : Int32) (a3 : Int32) (h : pg_H) : Option (Int32 × pg_H) := Option.bind (pg_rcv 4 h a0 (F_X4_findNear a0 a1 h)) fun v1 => Option.bind (pg_rcv 4 v1 a0 (F_X4_spread v1 a0 a2 a3)) fun v2 => (some (v2, v1))
theorem e_X4_familyOf (l : Launch) (D : pg_D)  (a0 : Nat) (a1 : Nat) (a2 : Int32) (a3 : Int32) (h : pg_H) : pg_EvF l D RX4 cX4_familyOf 4 (some FieldType.int) "familyOf" 2 54 pg_wI (F_X4_familyOf a0 a1 a2 a3 h) 0 [(0, pR a0), (1, pR a1), (2, pI a2), (3, pI a3)] [] h := by
  unfold F_X4_familyOf
  refine pg_aload_n (i := 0) dX4_familyOf_0 rfl 0 rfl ?_
  refine pg_aload_n (i := 1) dX4_familyOf_1 rfl 1 rfl ?_
  refine pg_callV_wV (As := [pR a1]) (rs := []) dX4_familyOf_2 lk_RX4_109 vy_X4_findNear nd_X4_findNear (c_X4_findNear l D a0 a1 h) rfl rfl (Nat.le_of_ble_eq_true rfl) (by decide) (by decide) (fun v1 => ?_)
  refine pg_aload_n (i := 0) dX4_familyOf_5 rfl 0 rfl ?_
  refine pg_iload_n (i := 2) dX4_familyOf_6 rfl 2 rfl ?_
  refine pg_iload_n (i := 3) dX4_familyOf_7 rfl 3 rfl ?_
  refine pg_callV_oI (As := [pI a2, pI a3]) (rs := []) dX4_familyOf_8 lk_RX4_113 vy_X4_spread nd_X4_spread (c_X4_spread l D v1 a0 a2 a3) rfl rfl (Nat.le_of_ble_eq_true rfl) (by decide) (by decide) (fun v2 => ?_)
  exact pg_iret dX4_familyOf_11 rfl rfl
theorem c_X4_familyOf (l : Launch) (D : pg_D) (a0 : Nat) (a1 : Nat) (a2 : Int32) (a3 : Int32) (h : pg_H) : ∀ x, F_X4_familyOf a0 a1 a2 a3 h = some x → pg_Ct l D yX4_familyOf cX4_familyOf 4 (some FieldType.int) 2 54 [pR a0, pR a1, pI a2, pI a3] h (pg_wI x) :=
  pg_Ct.of pn_RX4 (Nat.le_of_ble_eq_true rfl) (e_X4_familyOf l D a0 a1 a2 a3 h)
def F_X7_init (a0 : Nat) (a1 : Int32) (a2 : Int32) (h : pg_H) : Option pg_H := (if a0 = 0 then none else Option.bind (pg_pI 7 2 h a0 (if a1 < (0 : Int32) then (0 : Int32) else a1)) fun v1 => Option.bind (pg_pI 7 1 v1 a0 (if a2 < (0 : Int32) then (0 : Int32) else a2)) fun v2 => Option.bind (pg_gI 7 2 v2 a0) fun v3 => Option.bind (pg_gI 7 1 v2 a0) fun v4 => Option.bind (pg_newA 21 v2 (v3 * v4)) fun v5 => Option.bind (pg_pR 7 0 v5.2 a0 v5.1) fun v6 => (some v6))
theorem e_X7_init (l : Launch) (D : pg_D)  (a0 : Nat) (a1 : Int32) (a2 : Int32) (h : pg_H) : pg_EvF l D RX7 cX7_init 3 none "<init>" 1 30 pg_wV (F_X7_init a0 a1 a2 h) 0 [(0, pR a0), (1, pI a1), (2, pI a2)] [] h := by
  unfold F_X7_init
  refine pg_aload_n (i := 0) dX7_init_0 rfl 0 rfl ?_
  refine pg_objInit dX7_init_1 pw1_42 pw_obj1 pw_obj2 (Nat.le_of_ble_eq_true rfl) (by decide) (by decide) ?_
  refine pg_aload_n (i := 0) dX7_init_4 rfl 0 rfl ?_
  refine pg_iload_n (i := 1) dX7_init_5 rfl 1 rfl ?_
  refine pg_iconst dX7_init_6 ci_0 ?_
  refine pg_mmax dX7_init_7 pw1_43 pw_max1 pw_math pw_max2 (Nat.le_of_ble_eq_true rfl) (by decide) (by decide) ?_
  refine pg_putI dX7_init_10 fl_RX7_15 (fun _ => ⟨rfl, fp_RX7_15⟩) (fun v1 => ?_)
  refine pg_aload_n (i := 0) dX7_init_13 rfl 0 rfl ?_
  refine pg_iload_n (i := 2) dX7_init_14 rfl 2 rfl ?_
  refine pg_iconst dX7_init_15 ci_0 ?_
  refine pg_mmax dX7_init_16 pw1_43 pw_max1 pw_math pw_max2 (Nat.le_of_ble_eq_true rfl) (by decide) (by decide) ?_
  refine pg_putI dX7_init_19 fl_RX7_21 (fun _ => ⟨rfl, fp_RX7_21⟩) (fun v2 => ?_)
  refine pg_aload_n (i := 0) dX7_init_22 rfl 0 rfl ?_
  refine pg_aload_n (i := 0) dX7_init_23 rfl 0 rfl ?_
  refine pg_getI dX7_init_24 fl_RX7_15 rfl (fun v3 => ?_)
  refine pg_aload_n (i := 0) dX7_init_27 rfl 0 rfl ?_
  refine pg_getI dX7_init_28 fl_RX7_21 rfl (fun v4 => ?_)
  refine pg_imul dX7_init_31 ?_
  refine pg_newI dX7_init_32 pw_arr_int (fun v5 => ?_)
  refine pg_putR dX7_init_34 fl_RX7_24 rfl (fun _ => ⟨rfl, fp_RX7_24⟩) (fun v6 => ?_)
  exact pg_vret dX7_init_37 rfl rfl
theorem c_X7_init (l : Launch) (D : pg_D) (a0 : Nat) (a1 : Int32) (a2 : Int32) (h : pg_H) : ∀ x, F_X7_init a0 a1 a2 h = some x → pg_Ct l D yX7_init cX7_init 3 none 1 30 [pR a0, pI a1, pI a2] h (pg_wV x) :=
  pg_Ct.of pn_RX7 (Nat.le_of_ble_eq_true rfl) (e_X7_init l D a0 a1 a2 h)
def F_X7_holds (h : pg_H) (a0 : Nat) (a1 : Int32) : Option Int32 := (if a1 < 0 then (some (0 : Int32)) else Option.bind (pg_gI 7 3 h a0) fun v1 => (if a1 < v1 then (some (1 : Int32)) else (some (0 : Int32))))
theorem e_X7_holds (l : Launch) (D : pg_D)  (h : pg_H) (a0 : Nat) (a1 : Int32) : pg_EvF l D RX7 cX7_holds 2 (some FieldType.boolean) "holds" 0 0 (pg_oI h) (F_X7_holds h a0 a1) 0 [(0, pR a0), (1, pI a1)] [] h := by
  unfold F_X7_holds
  refine pg_iload_n (i := 1) dX7_holds_0 rfl 1 rfl ?_
  refine pg_if_lt (tgt := 16) dX7_holds_1 rfl ?_ ?_
  · refine pg_iconst dX7_holds_16 ci_0 ?_
    exact pg_zret dX7_holds_17 rfl (Or.inl rfl) rfl
  · refine pg_iload_n (i := 1) dX7_holds_4 rfl 1 rfl ?_
    refine pg_aload_n (i := 0) dX7_holds_5 rfl 0 rfl ?_
    refine pg_getI dX7_holds_6 fl_RX7_28 rfl (fun v1 => ?_)
    refine pg_icmp_ge (tgt := 16) dX7_holds_9 rfl ?_ ?_
    · refine pg_iconst dX7_holds_16 ci_0 ?_
      exact pg_zret dX7_holds_17 rfl (Or.inl rfl) rfl
    · refine pg_iconst dX7_holds_12 ci_1 ?_
      refine pg_goto (tgt := 17) dX7_holds_13 rfl ?_
      exact pg_zret dX7_holds_17 rfl (Or.inr rfl) rfl
theorem c_X7_holds (l : Launch) (D : pg_D) (h : pg_H) (a0 : Nat) (a1 : Int32)  : ∀ x, F_X7_holds h a0 a1 = some x → pg_Ct l D yX7_holds cX7_holds 2 (some FieldType.boolean) 0 0 [pR a0, pI a1] h (pg_oI h x) :=
  pg_Ct.of pn_RX7 (Nat.le_of_ble_eq_true rfl) (e_X7_holds l D h a0 a1)
def F_X7_put (a0 : Nat) (a1 : Int32) (a2 : Int32) (a3 : Int32) (h : pg_H) : Option (Int32 × pg_H) := Option.bind (pg_rcv 7 h a0 (F_X7_holds h a0 a1)) fun v1 => (if v1 = 0 then (some ((0 : Int32), h)) else (if a2 < 0 then (some ((0 : Int32), h)) else Option.bind (pg_gI 7 1 h a0) fun v2 => (if a2 < v2 then Option.bind (pg_gI 7 1 h a0) fun v3 => pg_let ((a1 * v3) + a2) fun v4 => Option.bind (pg_gR 7 0 h a0) fun v5 => Option.bind (pg_aI 21 h v5 v4) fun v6 => Option.bind (pg_gR 7 0 h a0) fun v7 => Option.bind (pg_sI 21 h v7 v4 a3) fun v8 => (some (v6, v8)) else (some ((0 : Int32), h)))))
theorem e_X7_put (l : Launch) (D : pg_D)  (a0 : Nat) (a1 : Int32) (a2 : Int32) (a3 : Int32) (h : pg_H) : pg_EvF l D RX7 cX7_put 6 (some FieldType.int) "put" 1 21 pg_wI (F_X7_put a0 a1 a2 a3 h) 0 [(0, pR a0), (1, pI a1), (2, pI a2), (3, pI a3)] [] h := by
  unfold F_X7_put
  refine pg_aload_n (i := 0) dX7_put_0 rfl 0 rfl ?_
  refine pg_iload_n (i := 1) dX7_put_1 rfl 1 rfl ?_
  refine pg_callV_oI (As := [pI a1]) (rs := []) dX7_put_2 lk_RX7_35 vy_X7_holds nd_X7_holds (c_X7_holds l D h a0 a1) rfl rfl (Nat.le_of_ble_eq_true rfl) (by decide) (by decide) (fun v1 => ?_)
  refine pg_if_eq (tgt := 20) dX7_put_5 rfl ?_ ?_
  · refine pg_iconst dX7_put_20 ci_0 ?_
    exact pg_iret dX7_put_21 rfl rfl
  · refine pg_iload_n (i := 2) dX7_put_8 rfl 2 rfl ?_
    refine pg_if_lt (tgt := 20) dX7_put_9 rfl ?_ ?_
    · refine pg_iconst dX7_put_20 ci_0 ?_
      exact pg_iret dX7_put_21 rfl rfl
    · refine pg_iload_n (i := 2) dX7_put_12 rfl 2 rfl ?_
      refine pg_aload_n (i := 0) dX7_put_13 rfl 0 rfl ?_
      refine pg_getI dX7_put_14 fl_RX7_21 rfl (fun v2 => ?_)
      refine pg_icmp_lt (tgt := 22) dX7_put_17 rfl ?_ ?_
      · refine pg_iload_n (i := 1) dX7_put_22 rfl 1 rfl ?_
        refine pg_aload_n (i := 0) dX7_put_23 rfl 0 rfl ?_
        refine pg_getI dX7_put_24 fl_RX7_21 rfl (fun v3 => ?_)
        refine pg_imul dX7_put_27 ?_
        refine pg_iload_n (i := 2) dX7_put_28 rfl 2 rfl ?_
        refine pg_iadd dX7_put_29 ?_
        refine pg_letI (fun v4 => ?_)
        refine pg_istore (lv' := [(4, pI v4), (0, pR a0), (1, pI a1), (2, pI a2), (3, pI a3)]) dX7_put_30 (by decide) rfl ?_
        refine pg_aload_n (i := 0) dX7_put_32 rfl 1 rfl ?_
        refine pg_getR dX7_put_33 fl_RX7_24 rfl (fun v5 => ?_)
        refine pg_iload dX7_put_36 0 rfl ?_
        refine pg_iaload dX7_put_38 (fun v6 => ?_)
        refine pg_istore (lv' := [(5, pI v6), (4, pI v4), (0, pR a0), (1, pI a1), (2, pI a2), (3, pI a3)]) dX7_put_39 (by decide) rfl ?_
        refine pg_aload_n (i := 0) dX7_put_41 rfl 2 rfl ?_
        refine pg_getR dX7_put_42 fl_RX7_24 rfl (fun v7 => ?_)
        refine pg_iload dX7_put_45 1 rfl ?_
        refine pg_iload_n (i := 3) dX7_put_47 rfl 5 rfl ?_
        refine pg_iastore dX7_put_48 (fun v8 => ?_)
        refine pg_iload dX7_put_49 0 rfl ?_
        exact pg_iret dX7_put_51 rfl rfl
      · refine pg_iconst dX7_put_20 ci_0 ?_
        exact pg_iret dX7_put_21 rfl rfl
theorem c_X7_put (l : Launch) (D : pg_D) (a0 : Nat) (a1 : Int32) (a2 : Int32) (a3 : Int32) (h : pg_H) : ∀ x, F_X7_put a0 a1 a2 a3 h = some x → pg_Ct l D yX7_put cX7_put 6 (some FieldType.int) 1 21 [pR a0, pI a1, pI a2, pI a3] h (pg_wI x) :=
  pg_Ct.of pn_RX7 (Nat.le_of_ble_eq_true rfl) (e_X7_put l D a0 a1 a2 a3 h)
def F_X7_open_30  : Nat → Nat → Int32 → Int32 → pg_H → Option (Int32 × pg_H)
  | 0 => fun _ _ _ _ => none
  | n + 1 => fun a0 a1 a2 h => Option.bind (pg_gI 7 1 h a0) fun v1 => (if a2 < v1 then Option.bind (pg_rcv 7 h a0 (F_X7_put a0 a1 a2 (0 : Int32) h)) fun v2 => (F_X7_open_30 n a0 a1 (a2 + (1 : Int32)) v2.2) else (some (a1, h)))
def F_X7_open (a0 : Nat) (h : pg_H) : Option (Int32 × pg_H) := Option.bind (pg_gI 7 3 h a0) fun v1 => Option.bind (pg_gI 7 2 h a0) fun v2 => (if v1 < v2 then Option.bind (pg_gI 7 3 h a0) fun v3 => Option.bind (pg_gI 7 3 h a0) fun v4 => Option.bind (pg_pI 7 3 h a0 (v4 + (1 : Int32))) fun v5 => (F_X7_open_30 pg_fuel a0 v3 (0 : Int32) v5) else (some ((-1 : Int32), h)))
theorem e_X7_open_30 (l : Launch) (D : pg_D)   : ∀ (n : Nat) (a0 : Nat) (a1 : Int32) (a2 : Int32) (h : pg_H), pg_EvF l D RX7 cX7_open 3 (some FieldType.int) "open" 2 46 pg_wI (F_X7_open_30 n a0 a1 a2 h) 30 [(0, pR a0), (1, pI a1), (2, pI a2)] [] h := by
  intro n
  induction n with
  | zero => intro a0 a1 a2 h; exact pg_none
  | succ n ih =>
    intro a0 a1 a2 h
    rw [F_X7_open_30]
    refine pg_iload_n (i := 2) dX7_open_30 rfl 2 rfl ?_
    refine pg_aload_n (i := 0) dX7_open_31 rfl 0 rfl ?_
    refine pg_getI dX7_open_32 fl_RX7_21 rfl (fun v1 => ?_)
    refine pg_icmp_ge (tgt := 52) dX7_open_35 rfl ?_ ?_
    · refine pg_iload_n (i := 1) dX7_open_52 rfl 1 rfl ?_
      exact pg_iret dX7_open_53 rfl rfl
    · refine pg_aload_n (i := 0) dX7_open_38 rfl 0 rfl ?_
      refine pg_iload_n (i := 1) dX7_open_39 rfl 1 rfl ?_
      refine pg_iload_n (i := 2) dX7_open_40 rfl 2 rfl ?_
      refine pg_iconst dX7_open_41 ci_0 ?_
      refine pg_callV_wI (As := [pI a1, pI a2, pI (0 : Int32)]) (rs := []) dX7_open_42 lk_RX7_31 vy_X7_put nd_X7_put (c_X7_put l D a0 a1 a2 (0 : Int32) h) rfl rfl (Nat.le_of_ble_eq_true rfl) (by decide) (by decide) (fun v2 => ?_)
      refine pg_pop dX7_open_45 rfl ?_
      refine pg_iinc (lv' := [(2, pI (a2 + (1 : Int32))), (0, pR a0), (1, pI a1)]) dX7_open_46 2 rfl ci_1 (by decide) rfl ?_
      refine pg_goto (tgt := 30) dX7_open_49 rfl ?_
      exact pg_to (ih a0 a1 (a2 + (1 : Int32)) v2.2) [1, 2, 0] rfl
theorem e_X7_open (l : Launch) (D : pg_D)  (a0 : Nat) (h : pg_H) : pg_EvF l D RX7 cX7_open 3 (some FieldType.int) "open" 2 46 pg_wI (F_X7_open a0 h) 0 [(0, pR a0)] [] h := by
  unfold F_X7_open
  refine pg_aload_n (i := 0) dX7_open_0 rfl 0 rfl ?_
  refine pg_getI dX7_open_1 fl_RX7_28 rfl (fun v1 => ?_)
  refine pg_aload_n (i := 0) dX7_open_4 rfl 0 rfl ?_
  refine pg_getI dX7_open_5 fl_RX7_15 rfl (fun v2 => ?_)
  refine pg_icmp_lt (tgt := 13) dX7_open_8 rfl ?_ ?_
  · refine pg_aload_n (i := 0) dX7_open_13 rfl 0 rfl ?_
    refine pg_getI dX7_open_14 fl_RX7_28 rfl (fun v3 => ?_)
    refine pg_istore_n (i := 1) (lv' := [(1, pI v3), (0, pR a0)]) dX7_open_17 rfl (by decide) rfl ?_
    refine pg_aload_n (i := 0) dX7_open_18 rfl 1 rfl ?_
    refine pg_dup dX7_open_19 rfl ?_
    refine pg_getI dX7_open_20 fl_RX7_28 rfl (fun v4 => ?_)
    refine pg_iconst dX7_open_23 ci_1 ?_
    refine pg_iadd dX7_open_24 ?_
    refine pg_putI dX7_open_25 fl_RX7_28 (fun z => by cases z) (fun v5 => ?_)
    refine pg_iconst dX7_open_28 ci_0 ?_
    refine pg_istore_n (i := 2) (lv' := [(2, pI (0 : Int32)), (1, pI v3), (0, pR a0)]) dX7_open_29 rfl (by decide) rfl ?_
    exact pg_to (e_X7_open_30 l D pg_fuel a0 v3 (0 : Int32) v5) [2, 1, 0] rfl
  · refine pg_iconst dX7_open_11 ci_m1 ?_
    exact pg_iret dX7_open_12 rfl rfl
theorem c_X7_open (l : Launch) (D : pg_D) (a0 : Nat) (h : pg_H) : ∀ x, F_X7_open a0 h = some x → pg_Ct l D yX7_open cX7_open 3 (some FieldType.int) 2 46 [pR a0] h (pg_wI x) :=
  pg_Ct.of pn_RX7 (Nat.le_of_ble_eq_true rfl) (e_X7_open l D a0 h)
def F_X5_init_117  : Nat → Nat → Int32 → pg_H → Option pg_H
  | 0 => fun _ _ _ => none
  | n + 1 => fun a0 a1 h => (if a1 < (8 : Int32) then Option.bind (pg_gR 5 3 h a0) fun v1 => Option.bind (pg_rcv 7 h v1 (F_X7_open v1 h)) fun v2 => (F_X5_init_117 n a0 (a1 + (1 : Int32)) v2.2) else (some h))
def F_X5_init (a0 : Nat) (h : pg_H) : Option pg_H := (if a0 = 0 then none else Option.bind (pg_new 7 4 h) fun v1 => Option.bind (pg_rcv 7 v1.2 v1.1 (F_X7_init v1.1 (12 : Int32) (3 : Int32) v1.2)) fun v2 => Option.bind (pg_pR 5 0 v2 a0 v1.1) fun v3 => Option.bind (pg_new 7 4 v3) fun v4 => Option.bind (pg_rcv 7 v4.2 v4.1 (F_X7_init v4.1 (40 : Int32) (4 : Int32) v4.2)) fun v5 => Option.bind (pg_pR 5 1 v5 a0 v4.1) fun v6 => Option.bind (pg_new 7 4 v6) fun v7 => Option.bind (pg_rcv 7 v7.2 v7.1 (F_X7_init v7.1 (12 : Int32) (8 : Int32) v7.2)) fun v8 => Option.bind (pg_pR 5 2 v8 a0 v7.1) fun v9 => Option.bind (pg_new 7 4 v9) fun v10 => Option.bind (pg_rcv 7 v10.2 v10.1 (F_X7_init v10.1 (8 : Int32) (6 : Int32) v10.2)) fun v11 => Option.bind (pg_pR 5 3 v11 a0 v10.1) fun v12 => Option.bind (pg_new 7 4 v12) fun v13 => Option.bind (pg_rcv 7 v13.2 v13.1 (F_X7_init v13.1 (200 : Int32) (5 : Int32) v13.2)) fun v14 => Option.bind (pg_pR 5 4 v14 a0 v13.1) fun v15 => Option.bind (pg_newA 21 v15 (4 : Int32)) fun v16 => Option.bind (pg_sI 21 v16.2 v16.1 (0 : Int32) (3 : Int32)) fun v17 => Option.bind (pg_sI 21 v17 v16.1 (1 : Int32) (1 : Int32)) fun v18 => Option.bind (pg_sI 21 v18 v16.1 (2 : Int32) (2 : Int32)) fun v19 => Option.bind (pg_sI 21 v19 v16.1 (3 : Int32) (20 : Int32)) fun v20 => Option.bind (pg_pR 5 5 v20 a0 v16.1) fun v21 => Option.bind (pg_newA 25 v21 (8 : Int32)) fun v22 => Option.bind (pg_pR 5 6 v22.2 a0 v22.1) fun v23 => Option.bind (pg_pI 5 8 v23 a0 (-1 : Int32)) fun v24 => (F_X5_init_117 pg_fuel a0 (0 : Int32) v24))
theorem e_X5_init_117 (l : Launch) (D : pg_D)   : ∀ (n : Nat) (a0 : Nat) (a1 : Int32) (h : pg_H), pg_EvF l D RX5 cX5_init 2 none "<init>" 3 68 pg_wV (F_X5_init_117 n a0 a1 h) 117 [(0, pR a0), (1, pI a1)] [] h := by
  intro n
  induction n with
  | zero => intro a0 a1 h; exact pg_none
  | succ n ih =>
    intro a0 a1 h
    rw [F_X5_init_117]
    refine pg_iload_n (i := 1) dX5_init_117 rfl 1 rfl ?_
    refine pg_bipush dX5_init_118 cb_8 ?_
    refine pg_icmp_ge (tgt := 137) dX5_init_120 rfl ?_ ?_
    · exact pg_vret dX5_init_137 rfl rfl
    · refine pg_aload_n (i := 0) dX5_init_123 rfl 0 rfl ?_
      refine pg_getR dX5_init_124 fl_RX5_26 rfl (fun v1 => ?_)
      refine pg_callV_wI (As := []) (rs := []) dX5_init_127 lk_RX5_46 vy_X7_open nd_X7_open (c_X7_open l D v1 h) rfl rfl (Nat.le_of_ble_eq_true rfl) (by decide) (by decide) (fun v2 => ?_)
      refine pg_pop dX5_init_130 rfl ?_
      refine pg_iinc (lv' := [(1, pI (a1 + (1 : Int32))), (0, pR a0)]) dX5_init_131 1 rfl ci_1 (by decide) rfl ?_
      refine pg_goto (tgt := 117) dX5_init_134 rfl ?_
      exact pg_to (ih a0 (a1 + (1 : Int32)) v2.2) [1, 0] rfl
theorem e_X5_init (l : Launch) (D : pg_D)  (a0 : Nat) (h : pg_H) : pg_EvF l D RX5 cX5_init 2 none "<init>" 3 68 pg_wV (F_X5_init a0 h) 0 [(0, pR a0)] [] h := by
  unfold F_X5_init
  refine pg_aload_n (i := 0) dX5_init_0 rfl 0 rfl ?_
  refine pg_objInit dX5_init_1 pw1_36 pw_obj1 pw_obj2 (Nat.le_of_ble_eq_true rfl) (by decide) (by decide) ?_
  refine pg_aload_n (i := 0) dX5_init_4 rfl 0 rfl ?_
  refine pg_newO (q := (RX7, TX7, 4)) dX5_init_5 (by decide) rfl rfl pw1_37 pw1_38 pw1_3 (fun v1 => ?_)
  refine pg_dup dX5_init_8 rfl ?_
  refine pg_bipush dX5_init_9 cb_12 ?_
  refine pg_iconst dX5_init_11 ci_3 ?_
  refine pg_callI_wV (As := [pI (12 : Int32), pI (3 : Int32)]) (rs := [pR v1.1, pR a0]) dX5_init_12 lk_RX5_11 vy_X7_init nd_X7_init (c_X7_init l D v1.1 (12 : Int32) (3 : Int32) v1.2) rfl rfl (Nat.le_of_ble_eq_true rfl) (by decide) (by decide) (fun v2 => ?_)
  refine pg_putR dX5_init_15 fl_RX5_14 rfl (fun _ => ⟨rfl, fp_RX5_14⟩) (fun v3 => ?_)
  refine pg_aload_n (i := 0) dX5_init_18 rfl 0 rfl ?_
  refine pg_newO (q := (RX7, TX7, 4)) dX5_init_19 (by decide) rfl rfl pw1_37 pw1_38 pw1_3 (fun v4 => ?_)
  refine pg_dup dX5_init_22 rfl ?_
  refine pg_bipush dX5_init_23 cb_40 ?_
  refine pg_iconst dX5_init_25 ci_4 ?_
  refine pg_callI_wV (As := [pI (40 : Int32), pI (4 : Int32)]) (rs := [pR v4.1, pR a0]) dX5_init_26 lk_RX5_11 vy_X7_init nd_X7_init (c_X7_init l D v4.1 (40 : Int32) (4 : Int32) v4.2) rfl rfl (Nat.le_of_ble_eq_true rfl) (by decide) (by decide) (fun v5 => ?_)
  refine pg_putR dX5_init_29 fl_RX5_20 rfl (fun _ => ⟨rfl, fp_RX5_20⟩) (fun v6 => ?_)
  refine pg_aload_n (i := 0) dX5_init_32 rfl 0 rfl ?_
  refine pg_newO (q := (RX7, TX7, 4)) dX5_init_33 (by decide) rfl rfl pw1_37 pw1_38 pw1_3 (fun v7 => ?_)
  refine pg_dup dX5_init_36 rfl ?_
  refine pg_bipush dX5_init_37 cb_12 ?_
  refine pg_bipush dX5_init_39 cb_8 ?_
  refine pg_callI_wV (As := [pI (12 : Int32), pI (8 : Int32)]) (rs := [pR v7.1, pR a0]) dX5_init_41 lk_RX5_11 vy_X7_init nd_X7_init (c_X7_init l D v7.1 (12 : Int32) (8 : Int32) v7.2) rfl rfl (Nat.le_of_ble_eq_true rfl) (by decide) (by decide) (fun v8 => ?_)
  refine pg_putR dX5_init_44 fl_RX5_23 rfl (fun _ => ⟨rfl, fp_RX5_23⟩) (fun v9 => ?_)
  refine pg_aload_n (i := 0) dX5_init_47 rfl 0 rfl ?_
  refine pg_newO (q := (RX7, TX7, 4)) dX5_init_48 (by decide) rfl rfl pw1_37 pw1_38 pw1_3 (fun v10 => ?_)
  refine pg_dup dX5_init_51 rfl ?_
  refine pg_bipush dX5_init_52 cb_8 ?_
  refine pg_bipush dX5_init_54 cb_6 ?_
  refine pg_callI_wV (As := [pI (8 : Int32), pI (6 : Int32)]) (rs := [pR v10.1, pR a0]) dX5_init_56 lk_RX5_11 vy_X7_init nd_X7_init (c_X7_init l D v10.1 (8 : Int32) (6 : Int32) v10.2) rfl rfl (Nat.le_of_ble_eq_true rfl) (by decide) (by decide) (fun v11 => ?_)
  refine pg_putR dX5_init_59 fl_RX5_26 rfl (fun _ => ⟨rfl, fp_RX5_26⟩) (fun v12 => ?_)
  refine pg_aload_n (i := 0) dX5_init_62 rfl 0 rfl ?_
  refine pg_newO (q := (RX7, TX7, 4)) dX5_init_63 (by decide) rfl rfl pw1_37 pw1_38 pw1_3 (fun v13 => ?_)
  refine pg_dup dX5_init_66 rfl ?_
  refine pg_sipush dX5_init_67 cs_200 ?_
  refine pg_iconst dX5_init_70 ci_5 ?_
  refine pg_callI_wV (As := [pI (200 : Int32), pI (5 : Int32)]) (rs := [pR v13.1, pR a0]) dX5_init_71 lk_RX5_11 vy_X7_init nd_X7_init (c_X7_init l D v13.1 (200 : Int32) (5 : Int32) v13.2) rfl rfl (Nat.le_of_ble_eq_true rfl) (by decide) (by decide) (fun v14 => ?_)
  refine pg_putR dX5_init_74 fl_RX5_29 rfl (fun _ => ⟨rfl, fp_RX5_29⟩) (fun v15 => ?_)
  refine pg_aload_n (i := 0) dX5_init_77 rfl 0 rfl ?_
  refine pg_iconst dX5_init_78 ci_4 ?_
  refine pg_newI dX5_init_79 pw_arr_int (fun v16 => ?_)
  refine pg_dup dX5_init_81 rfl ?_
  refine pg_iconst dX5_init_82 ci_0 ?_
  refine pg_iconst dX5_init_83 ci_3 ?_
  refine pg_iastore dX5_init_84 (fun v17 => ?_)
  refine pg_dup dX5_init_85 rfl ?_
  refine pg_iconst dX5_init_86 ci_1 ?_
  refine pg_iconst dX5_init_87 ci_1 ?_
  refine pg_iastore dX5_init_88 (fun v18 => ?_)
  refine pg_dup dX5_init_89 rfl ?_
  refine pg_iconst dX5_init_90 ci_2 ?_
  refine pg_iconst dX5_init_91 ci_2 ?_
  refine pg_iastore dX5_init_92 (fun v19 => ?_)
  refine pg_dup dX5_init_93 rfl ?_
  refine pg_iconst dX5_init_94 ci_3 ?_
  refine pg_bipush dX5_init_95 cb_20 ?_
  refine pg_iastore dX5_init_97 (fun v20 => ?_)
  refine pg_putR dX5_init_98 fl_RX5_32 rfl (fun _ => ⟨rfl, fp_RX5_32⟩) (fun v21 => ?_)
  refine pg_aload_n (i := 0) dX5_init_101 rfl 0 rfl ?_
  refine pg_bipush dX5_init_102 cb_8 ?_
  refine pg_newR25 dX5_init_104 pw1_60 (fun v22 => ?_)
  refine pg_putR dX5_init_107 fl_RX5_38 rfl (fun _ => ⟨rfl, fp_RX5_38⟩) (fun v23 => ?_)
  refine pg_aload_n (i := 0) dX5_init_110 rfl 0 rfl ?_
  refine pg_iconst dX5_init_111 ci_m1 ?_
  refine pg_putI dX5_init_112 fl_RX5_42 (fun z => by cases z) (fun v24 => ?_)
  refine pg_iconst dX5_init_115 ci_0 ?_
  refine pg_istore_n (i := 1) (lv' := [(1, pI (0 : Int32)), (0, pR a0)]) dX5_init_116 rfl (by decide) rfl ?_
  exact pg_to (e_X5_init_117 l D pg_fuel a0 (0 : Int32) v24) [1, 0] rfl
theorem c_X5_init (l : Launch) (D : pg_D) (a0 : Nat) (h : pg_H) : ∀ x, F_X5_init a0 h = some x → pg_Ct l D yX5_init cX5_init 2 none 3 68 [pR a0] h (pg_wV x) :=
  pg_Ct.of pn_RX5 (Nat.le_of_ble_eq_true rfl) (e_X5_init l D a0 h)
def F_X7_takeFrom (a0 : Nat) (a1 : Nat) (h : pg_H) : Option pg_H := Option.bind (pg_gI 7 3 h a1) fun v1 => Option.bind (pg_gI 7 2 h a0) fun v2 => Option.bind (pg_pI 7 3 h a0 (if v2 < v1 then v2 else v1)) fun v3 => Option.bind (pg_gR 7 0 v3 a1) fun v4 => Option.bind (pg_gR 7 0 v3 a0) fun v5 => Option.bind (pg_gR 7 0 v3 a0) fun v6 => Option.bind (pg_len v3 v6) fun v7 => Option.bind (pg_gR 7 0 v3 a1) fun v8 => Option.bind (pg_len v3 v8) fun v9 => Option.bind (pg_cpyI v3 v4 (0 : Int32) v5 (0 : Int32) (if v9 < v7 then v9 else v7)) fun v10 => (some v10)
theorem e_X7_takeFrom (l : Launch) (D : pg_D)  (a0 : Nat) (a1 : Nat) (h : pg_H) : pg_EvF l D RX7 cX7_takeFrom 2 none "takeFrom" 1 60 pg_wV (F_X7_takeFrom a0 a1 h) 0 [(0, pR a0), (1, pR a1)] [] h := by
  unfold F_X7_takeFrom
  refine pg_aload_n (i := 0) dX7_takeFrom_0 rfl 0 rfl ?_
  refine pg_aload_n (i := 1) dX7_takeFrom_1 rfl 1 rfl ?_
  refine pg_getI dX7_takeFrom_2 fl_RX7_28 rfl (fun v1 => ?_)
  refine pg_aload_n (i := 0) dX7_takeFrom_5 rfl 0 rfl ?_
  refine pg_getI dX7_takeFrom_6 fl_RX7_15 rfl (fun v2 => ?_)
  refine pg_mmin dX7_takeFrom_9 pw6_10 pw_min1 pw_math pw_min2 (Nat.le_of_ble_eq_true rfl) (by decide) (by decide) ?_
  refine pg_putI dX7_takeFrom_12 fl_RX7_28 (fun z => by cases z) (fun v3 => ?_)
  refine pg_aload_n (i := 1) dX7_takeFrom_15 rfl 1 rfl ?_
  refine pg_getR dX7_takeFrom_16 fl_RX7_24 rfl (fun v4 => ?_)
  refine pg_iconst dX7_takeFrom_19 ci_0 ?_
  refine pg_aload_n (i := 0) dX7_takeFrom_20 rfl 0 rfl ?_
  refine pg_getR dX7_takeFrom_21 fl_RX7_24 rfl (fun v5 => ?_)
  refine pg_iconst dX7_takeFrom_24 ci_0 ?_
  refine pg_aload_n (i := 0) dX7_takeFrom_25 rfl 0 rfl ?_
  refine pg_getR dX7_takeFrom_26 fl_RX7_24 rfl (fun v6 => ?_)
  refine pg_alen dX7_takeFrom_29 (fun v7 => ?_)
  refine pg_aload_n (i := 1) dX7_takeFrom_30 rfl 1 rfl ?_
  refine pg_getR dX7_takeFrom_31 fl_RX7_24 rfl (fun v8 => ?_)
  refine pg_alen dX7_takeFrom_34 (fun v9 => ?_)
  refine pg_mmin dX7_takeFrom_35 pw6_10 pw_min1 pw_math pw_min2 (Nat.le_of_ble_eq_true rfl) (by decide) (by decide) ?_
  refine pg_acopyI dX7_takeFrom_38 pw6_11 pw_acp1 pw_acp2 pw_acp3 (Nat.le_of_ble_eq_true rfl) (by decide) (by decide) (fun v10 => ?_)
  exact pg_vret dX7_takeFrom_41 rfl rfl
theorem c_X7_takeFrom (l : Launch) (D : pg_D) (a0 : Nat) (a1 : Nat) (h : pg_H) : ∀ x, F_X7_takeFrom a0 a1 h = some x → pg_Ct l D yX7_takeFrom cX7_takeFrom 2 none 1 60 [pR a0, pR a1] h (pg_wV x) :=
  pg_Ct.of pn_RX7 (Nat.le_of_ble_eq_true rfl) (e_X7_takeFrom l D a0 a1 h)
def F_X5_takeFrom_75  : Nat → Nat → Nat → Int32 → pg_H → Option pg_H
  | 0 => fun _ _ _ _ => none
  | n + 1 => fun a0 a1 a2 h => (if a2 < (8 : Int32) then Option.bind (pg_gR 5 6 h a0) fun v5 => Option.bind (pg_gR 5 6 h a1) fun v6 => Option.bind (pg_aR 25 h v6 a2) fun v7 => Option.bind (pg_sR 25 9 h v5 a2 v7) fun v8 => (F_X5_takeFrom_75 n a0 a1 (a2 + (1 : Int32)) v8) else Option.bind (pg_gI 5 7 h a1) fun v1 => Option.bind (pg_pI 5 7 h a0 v1) fun v2 => Option.bind (pg_gI 5 8 v2 a1) fun v3 => Option.bind (pg_pI 5 8 v2 a0 v3) fun v4 => (some v4))
def F_X5_takeFrom (a0 : Nat) (a1 : Nat) (h : pg_H) : Option pg_H := Option.bind (pg_gR 5 0 h a0) fun v1 => Option.bind (pg_gR 5 0 h a1) fun v2 => Option.bind (pg_rcv 7 h v1 (F_X7_takeFrom v1 v2 h)) fun v3 => Option.bind (pg_gR 5 1 v3 a0) fun v4 => Option.bind (pg_gR 5 1 v3 a1) fun v5 => Option.bind (pg_rcv 7 v3 v4 (F_X7_takeFrom v4 v5 v3)) fun v6 => Option.bind (pg_gR 5 2 v6 a0) fun v7 => Option.bind (pg_gR 5 2 v6 a1) fun v8 => Option.bind (pg_rcv 7 v6 v7 (F_X7_takeFrom v7 v8 v6)) fun v9 => Option.bind (pg_gR 5 3 v9 a0) fun v10 => Option.bind (pg_gR 5 3 v9 a1) fun v11 => Option.bind (pg_rcv 7 v9 v10 (F_X7_takeFrom v10 v11 v9)) fun v12 => Option.bind (pg_gR 5 4 v12 a0) fun v13 => Option.bind (pg_gR 5 4 v12 a1) fun v14 => Option.bind (pg_rcv 7 v12 v13 (F_X7_takeFrom v13 v14 v12)) fun v15 => Option.bind (pg_gR 5 5 v15 a1) fun v16 => Option.bind (pg_gR 5 5 v15 a0) fun v17 => Option.bind (pg_gR 5 5 v15 a0) fun v18 => Option.bind (pg_len v15 v18) fun v19 => Option.bind (pg_cpyI v15 v16 (0 : Int32) v17 (0 : Int32) v19) fun v20 => (F_X5_takeFrom_75 pg_fuel a0 a1 (0 : Int32) v20)
theorem e_X5_takeFrom_75 (l : Launch) (D : pg_D)   : ∀ (n : Nat) (a0 : Nat) (a1 : Nat) (a2 : Int32) (h : pg_H), pg_EvF l D RX5 cX5_takeFrom 3 none "takeFrom" 2 81 pg_wV (F_X5_takeFrom_75 n a0 a1 a2 h) 75 [(0, pR a0), (1, pR a1), (2, pI a2)] [] h := by
  intro n
  induction n with
  | zero => intro a0 a1 a2 h; exact pg_none
  | succ n ih =>
    intro a0 a1 a2 h
    rw [F_X5_takeFrom_75]
    refine pg_iload_n (i := 2) dX5_takeFrom_75 rfl 2 rfl ?_
    refine pg_bipush dX5_takeFrom_76 cb_8 ?_
    refine pg_icmp_ge (tgt := 99) dX5_takeFrom_78 rfl ?_ ?_
    · refine pg_aload_n (i := 0) dX5_takeFrom_99 rfl 0 rfl ?_
      refine pg_aload_n (i := 1) dX5_takeFrom_100 rfl 1 rfl ?_
      refine pg_getI dX5_takeFrom_101 fl_RX5_60 rfl (fun v1 => ?_)
      refine pg_putI dX5_takeFrom_104 fl_RX5_60 (fun z => by cases z) (fun v2 => ?_)
      refine pg_aload_n (i := 0) dX5_takeFrom_107 rfl 0 rfl ?_
      refine pg_aload_n (i := 1) dX5_takeFrom_108 rfl 1 rfl ?_
      refine pg_getI dX5_takeFrom_109 fl_RX5_42 rfl (fun v3 => ?_)
      refine pg_putI dX5_takeFrom_112 fl_RX5_42 (fun z => by cases z) (fun v4 => ?_)
      exact pg_vret dX5_takeFrom_115 rfl rfl
    · refine pg_aload_n (i := 0) dX5_takeFrom_81 rfl 0 rfl ?_
      refine pg_getR dX5_takeFrom_82 fl_RX5_38 rfl (fun v5 => ?_)
      refine pg_iload_n (i := 2) dX5_takeFrom_85 rfl 2 rfl ?_
      refine pg_aload_n (i := 1) dX5_takeFrom_86 rfl 1 rfl ?_
      refine pg_getR dX5_takeFrom_87 fl_RX5_38 rfl (fun v6 => ?_)
      refine pg_iload_n (i := 2) dX5_takeFrom_90 rfl 2 rfl ?_
      refine pg_aaload25 dX5_takeFrom_91 (fun v7 => ?_)
      refine pg_aastore25 dX5_takeFrom_92 (fun v8 => ?_)
      refine pg_iinc (lv' := [(2, pI (a2 + (1 : Int32))), (0, pR a0), (1, pR a1)]) dX5_takeFrom_93 2 rfl ci_1 (by decide) rfl ?_
      refine pg_goto (tgt := 75) dX5_takeFrom_96 rfl ?_
      exact pg_to (ih a0 a1 (a2 + (1 : Int32)) v8) [1, 2, 0] rfl
theorem e_X5_takeFrom (l : Launch) (D : pg_D)  (a0 : Nat) (a1 : Nat) (h : pg_H) : pg_EvF l D RX5 cX5_takeFrom 3 none "takeFrom" 2 81 pg_wV (F_X5_takeFrom a0 a1 h) 0 [(0, pR a0), (1, pR a1)] [] h := by
  unfold F_X5_takeFrom
  refine pg_aload_n (i := 0) dX5_takeFrom_0 rfl 0 rfl ?_
  refine pg_getR dX5_takeFrom_1 fl_RX5_14 rfl (fun v1 => ?_)
  refine pg_aload_n (i := 1) dX5_takeFrom_4 rfl 1 rfl ?_
  refine pg_getR dX5_takeFrom_5 fl_RX5_14 rfl (fun v2 => ?_)
  refine pg_callV_wV (As := [pR v2]) (rs := []) dX5_takeFrom_8 lk_RX5_50 vy_X7_takeFrom nd_X7_takeFrom (c_X7_takeFrom l D v1 v2 h) rfl rfl (Nat.le_of_ble_eq_true rfl) (by decide) (by decide) (fun v3 => ?_)
  refine pg_aload_n (i := 0) dX5_takeFrom_11 rfl 0 rfl ?_
  refine pg_getR dX5_takeFrom_12 fl_RX5_20 rfl (fun v4 => ?_)
  refine pg_aload_n (i := 1) dX5_takeFrom_15 rfl 1 rfl ?_
  refine pg_getR dX5_takeFrom_16 fl_RX5_20 rfl (fun v5 => ?_)
  refine pg_callV_wV (As := [pR v5]) (rs := []) dX5_takeFrom_19 lk_RX5_50 vy_X7_takeFrom nd_X7_takeFrom (c_X7_takeFrom l D v4 v5 v3) rfl rfl (Nat.le_of_ble_eq_true rfl) (by decide) (by decide) (fun v6 => ?_)
  refine pg_aload_n (i := 0) dX5_takeFrom_22 rfl 0 rfl ?_
  refine pg_getR dX5_takeFrom_23 fl_RX5_23 rfl (fun v7 => ?_)
  refine pg_aload_n (i := 1) dX5_takeFrom_26 rfl 1 rfl ?_
  refine pg_getR dX5_takeFrom_27 fl_RX5_23 rfl (fun v8 => ?_)
  refine pg_callV_wV (As := [pR v8]) (rs := []) dX5_takeFrom_30 lk_RX5_50 vy_X7_takeFrom nd_X7_takeFrom (c_X7_takeFrom l D v7 v8 v6) rfl rfl (Nat.le_of_ble_eq_true rfl) (by decide) (by decide) (fun v9 => ?_)
  refine pg_aload_n (i := 0) dX5_takeFrom_33 rfl 0 rfl ?_
  refine pg_getR dX5_takeFrom_34 fl_RX5_26 rfl (fun v10 => ?_)
  refine pg_aload_n (i := 1) dX5_takeFrom_37 rfl 1 rfl ?_
  refine pg_getR dX5_takeFrom_38 fl_RX5_26 rfl (fun v11 => ?_)
  refine pg_callV_wV (As := [pR v11]) (rs := []) dX5_takeFrom_41 lk_RX5_50 vy_X7_takeFrom nd_X7_takeFrom (c_X7_takeFrom l D v10 v11 v9) rfl rfl (Nat.le_of_ble_eq_true rfl) (by decide) (by decide) (fun v12 => ?_)
  refine pg_aload_n (i := 0) dX5_takeFrom_44 rfl 0 rfl ?_
  refine pg_getR dX5_takeFrom_45 fl_RX5_29 rfl (fun v13 => ?_)
  refine pg_aload_n (i := 1) dX5_takeFrom_48 rfl 1 rfl ?_
  refine pg_getR dX5_takeFrom_49 fl_RX5_29 rfl (fun v14 => ?_)
  refine pg_callV_wV (As := [pR v14]) (rs := []) dX5_takeFrom_52 lk_RX5_50 vy_X7_takeFrom nd_X7_takeFrom (c_X7_takeFrom l D v13 v14 v12) rfl rfl (Nat.le_of_ble_eq_true rfl) (by decide) (by decide) (fun v15 => ?_)
  refine pg_aload_n (i := 1) dX5_takeFrom_55 rfl 1 rfl ?_
  refine pg_getR dX5_takeFrom_56 fl_RX5_32 rfl (fun v16 => ?_)
  refine pg_iconst dX5_takeFrom_59 ci_0 ?_
  refine pg_aload_n (i := 0) dX5_takeFrom_60 rfl 0 rfl ?_
  refine pg_getR dX5_takeFrom_61 fl_RX5_32 rfl (fun v17 => ?_)
  refine pg_iconst dX5_takeFrom_64 ci_0 ?_
  refine pg_aload_n (i := 0) dX5_takeFrom_65 rfl 0 rfl ?_
  refine pg_getR dX5_takeFrom_66 fl_RX5_32 rfl (fun v18 => ?_)
  refine pg_alen dX5_takeFrom_69 (fun v19 => ?_)
  refine pg_acopyI dX5_takeFrom_70 pw6_12 pw_acp1 pw_acp2 pw_acp3 (Nat.le_of_ble_eq_true rfl) (by decide) (by decide) (fun v20 => ?_)
  refine pg_iconst dX5_takeFrom_73 ci_0 ?_
  refine pg_istore_n (i := 2) (lv' := [(2, pI (0 : Int32)), (0, pR a0), (1, pR a1)]) dX5_takeFrom_74 rfl (by decide) rfl ?_
  exact pg_to (e_X5_takeFrom_75 l D pg_fuel a0 a1 (0 : Int32) v20) [1, 2, 0] rfl
theorem c_X5_takeFrom (l : Launch) (D : pg_D) (a0 : Nat) (a1 : Nat) (h : pg_H) : ∀ x, F_X5_takeFrom a0 a1 h = some x → pg_Ct l D yX5_takeFrom cX5_takeFrom 3 none 2 81 [pR a0, pR a1] h (pg_wV x) :=
  pg_Ct.of pn_RX5 (Nat.le_of_ble_eq_true rfl) (e_X5_takeFrom l D a0 a1 h)
def F_X5_addText (a0 : Nat) (a1 : Nat) (h : pg_H) : Option (Int32 × pg_H) := Option.bind (pg_gI 5 7 h a0) fun v1 => (if v1 < 0 then (some ((-1 : Int32), h)) else Option.bind (pg_gI 5 7 h a0) fun v2 => (if v2 < (8 : Int32) then Option.bind (pg_gR 5 6 h a0) fun v3 => Option.bind (pg_gI 5 7 h a0) fun v4 => Option.bind (pg_sR 25 9 h v3 v4 a1) fun v5 => Option.bind (pg_gI 5 7 v5 a0) fun v6 => Option.bind (pg_pI 5 7 v5 a0 (v6 + (1 : Int32))) fun v7 => Option.bind (pg_gI 5 7 v7 a0) fun v8 => (some ((v8 - (1 : Int32)), v7)) else (some ((-1 : Int32), h))))
theorem e_X5_addText (l : Launch) (D : pg_D)  (a0 : Nat) (a1 : Nat) (h : pg_H) : pg_EvF l D RX5 cX5_addText 2 (some FieldType.int) "addText" 0 0 pg_wI (F_X5_addText a0 a1 h) 0 [(0, pR a0), (1, pR a1)] [] h := by
  unfold F_X5_addText
  refine pg_aload_n (i := 0) dX5_addText_0 rfl 0 rfl ?_
  refine pg_getI dX5_addText_1 fl_RX5_60 rfl (fun v1 => ?_)
  refine pg_if_lt (tgt := 16) dX5_addText_4 rfl ?_ ?_
  · refine pg_iconst dX5_addText_16 ci_m1 ?_
    exact pg_iret dX5_addText_17 rfl rfl
  · refine pg_aload_n (i := 0) dX5_addText_7 rfl 0 rfl ?_
    refine pg_getI dX5_addText_8 fl_RX5_60 rfl (fun v2 => ?_)
    refine pg_bipush dX5_addText_11 cb_8 ?_
    refine pg_icmp_lt (tgt := 18) dX5_addText_13 rfl ?_ ?_
    · refine pg_aload_n (i := 0) dX5_addText_18 rfl 0 rfl ?_
      refine pg_getR dX5_addText_19 fl_RX5_38 rfl (fun v3 => ?_)
      refine pg_aload_n (i := 0) dX5_addText_22 rfl 0 rfl ?_
      refine pg_getI dX5_addText_23 fl_RX5_60 rfl (fun v4 => ?_)
      refine pg_aload_n (i := 1) dX5_addText_26 rfl 1 rfl ?_
      refine pg_aastore25 dX5_addText_27 (fun v5 => ?_)
      refine pg_aload_n (i := 0) dX5_addText_28 rfl 0 rfl ?_
      refine pg_dup dX5_addText_29 rfl ?_
      refine pg_getI dX5_addText_30 fl_RX5_60 rfl (fun v6 => ?_)
      refine pg_iconst dX5_addText_33 ci_1 ?_
      refine pg_iadd dX5_addText_34 ?_
      refine pg_putI dX5_addText_35 fl_RX5_60 (fun z => by cases z) (fun v7 => ?_)
      refine pg_aload_n (i := 0) dX5_addText_38 rfl 0 rfl ?_
      refine pg_getI dX5_addText_39 fl_RX5_60 rfl (fun v8 => ?_)
      refine pg_iconst dX5_addText_42 ci_1 ?_
      refine pg_isub dX5_addText_43 ?_
      exact pg_iret dX5_addText_44 rfl rfl
    · refine pg_iconst dX5_addText_16 ci_m1 ?_
      exact pg_iret dX5_addText_17 rfl rfl
theorem c_X5_addText (l : Launch) (D : pg_D) (a0 : Nat) (a1 : Nat) (h : pg_H) : ∀ x, F_X5_addText a0 a1 h = some x → pg_Ct l D yX5_addText cX5_addText 2 (some FieldType.int) 0 0 [pR a0, pR a1] h (pg_wI x) :=
  pg_Ct.of pn_RX5 (Nat.le_of_ble_eq_true rfl) (e_X5_addText l D a0 a1 h)
def F_X5_copiesLookedAt_4 (h : pg_H) : Nat → Nat → Int32 → Int32 → Option Int32
  | 0 => fun _ _ _ => none
  | n + 1 => fun a0 a1 a2 => Option.bind (pg_gR 5 0 h a0) fun v1 => Option.bind (pg_rcv 7 h v1 (F_X7_size h v1)) fun v2 => (if a2 < v2 then Option.bind (pg_gR 5 0 h a0) fun v3 => Option.bind (pg_rcv 7 h v3 (F_X7_at h v3 a2 (2 : Int32))) fun v4 => pg_let (a1 ||| (v4 <<< (a2 &&& 31))) fun v5 => (F_X5_copiesLookedAt_4 h n a0 v5 (a2 + (1 : Int32))) else (some a1))
def F_X5_copiesLookedAt (h : pg_H) (a0 : Nat) : Option Int32 := (F_X5_copiesLookedAt_4 h pg_fuel a0 (0 : Int32) (0 : Int32))
theorem e_X5_copiesLookedAt_4 (l : Launch) (D : pg_D)  (h : pg_H) : ∀ (n : Nat) (a0 : Nat) (a1 : Int32) (a2 : Int32), pg_EvF l D RX5 cX5_copiesLookedAt 3 (some FieldType.int) "copiesLookedAt" 1 22 (pg_oI h) (F_X5_copiesLookedAt_4 h n a0 a1 a2) 4 [(0, pR a0), (1, pI a1), (2, pI a2)] [] h := by
  intro n
  induction n with
  | zero => intro a0 a1 a2; exact pg_none
  | succ n ih =>
    intro a0 a1 a2
    rw [F_X5_copiesLookedAt_4]
    refine pg_iload_n (i := 2) dX5_copiesLookedAt_4 rfl 2 rfl ?_
    refine pg_aload_n (i := 0) dX5_copiesLookedAt_5 rfl 0 rfl ?_
    refine pg_getR dX5_copiesLookedAt_6 fl_RX5_14 rfl (fun v1 => ?_)
    refine pg_callV_oI (As := []) (rs := [pI a2]) dX5_copiesLookedAt_9 lk_RX5_67 vy_X7_size nd_X7_size (c_X7_size l D h v1) rfl rfl (Nat.le_of_ble_eq_true rfl) (by decide) (by decide) (fun v2 => ?_)
    refine pg_icmp_ge (tgt := 35) dX5_copiesLookedAt_12 rfl ?_ ?_
    · refine pg_iload_n (i := 1) dX5_copiesLookedAt_35 rfl 1 rfl ?_
      exact pg_iret dX5_copiesLookedAt_36 rfl rfl
    · refine pg_iload_n (i := 1) dX5_copiesLookedAt_15 rfl 1 rfl ?_
      refine pg_aload_n (i := 0) dX5_copiesLookedAt_16 rfl 0 rfl ?_
      refine pg_getR dX5_copiesLookedAt_17 fl_RX5_14 rfl (fun v3 => ?_)
      refine pg_iload_n (i := 2) dX5_copiesLookedAt_20 rfl 2 rfl ?_
      refine pg_iconst dX5_copiesLookedAt_21 ci_2 ?_
      refine pg_callV_oI (As := [pI a2, pI (2 : Int32)]) (rs := [pI a1]) dX5_copiesLookedAt_22 lk_RX5_70 vy_X7_at nd_X7_at (c_X7_at l D h v3 a2 (2 : Int32)) rfl rfl (Nat.le_of_ble_eq_true rfl) (by decide) (by decide) (fun v4 => ?_)
      refine pg_iload_n (i := 2) dX5_copiesLookedAt_25 rfl 2 rfl ?_
      refine pg_ishl dX5_copiesLookedAt_26 ?_
      refine pg_ior dX5_copiesLookedAt_27 ?_
      refine pg_letI (fun v5 => ?_)
      refine pg_istore_n (i := 1) (lv' := [(1, pI v5), (0, pR a0), (2, pI a2)]) dX5_copiesLookedAt_28 rfl (by decide) rfl ?_
      refine pg_iinc (lv' := [(2, pI (a2 + (1 : Int32))), (1, pI v5), (0, pR a0)]) dX5_copiesLookedAt_29 2 rfl ci_1 (by decide) rfl ?_
      refine pg_goto (tgt := 4) dX5_copiesLookedAt_32 rfl ?_
      exact pg_to (ih a0 v5 (a2 + (1 : Int32))) [2, 1, 0] rfl
theorem e_X5_copiesLookedAt (l : Launch) (D : pg_D)  (h : pg_H) (a0 : Nat) : pg_EvF l D RX5 cX5_copiesLookedAt 3 (some FieldType.int) "copiesLookedAt" 1 22 (pg_oI h) (F_X5_copiesLookedAt h a0) 0 [(0, pR a0)] [] h := by
  unfold F_X5_copiesLookedAt
  refine pg_iconst dX5_copiesLookedAt_0 ci_0 ?_
  refine pg_istore_n (i := 1) (lv' := [(1, pI (0 : Int32)), (0, pR a0)]) dX5_copiesLookedAt_1 rfl (by decide) rfl ?_
  refine pg_iconst dX5_copiesLookedAt_2 ci_0 ?_
  refine pg_istore_n (i := 2) (lv' := [(2, pI (0 : Int32)), (1, pI (0 : Int32)), (0, pR a0)]) dX5_copiesLookedAt_3 rfl (by decide) rfl ?_
  exact pg_to (e_X5_copiesLookedAt_4 l D h pg_fuel a0 (0 : Int32) (0 : Int32)) [2, 1, 0] rfl
theorem c_X5_copiesLookedAt (l : Launch) (D : pg_D) (h : pg_H) (a0 : Nat)  : ∀ x, F_X5_copiesLookedAt h a0 = some x → pg_Ct l D yX5_copiesLookedAt cX5_copiesLookedAt 3 (some FieldType.int) 1 22 [pR a0] h (pg_oI h x) :=
  pg_Ct.of pn_RX5 (Nat.le_of_ble_eq_true rfl) (e_X5_copiesLookedAt l D h a0)
def F_X5_isHandOrUnknown (h : pg_H) (a0 : Nat) (a1 : Int32) : Option Int32 := (if a1 = (-1 : Int32) then (some (1 : Int32)) else Option.bind (pg_gR 5 2 h a0) fun v1 => Option.bind (pg_rcv 7 h v1 (F_X7_holds h v1 a1)) fun v2 => (if v2 = 0 then (some (0 : Int32)) else (some (1 : Int32))))
theorem e_X5_isHandOrUnknown (l : Launch) (D : pg_D)  (h : pg_H) (a0 : Nat) (a1 : Int32) : pg_EvF l D RX5 cX5_isHandOrUnknown 2 (some FieldType.boolean) "isHandOrUnknown" 1 21 (pg_oI h) (F_X5_isHandOrUnknown h a0 a1) 0 [(0, pR a0), (1, pI a1)] [] h := by
  unfold F_X5_isHandOrUnknown
  refine pg_iload_n (i := 1) dX5_isHandOrUnknown_0 rfl 1 rfl ?_
  refine pg_iconst dX5_isHandOrUnknown_1 ci_m1 ?_
  refine pg_icmp_eq (tgt := 16) dX5_isHandOrUnknown_2 rfl ?_ ?_
  · refine pg_iconst dX5_isHandOrUnknown_16 ci_1 ?_
    refine pg_goto (tgt := 21) dX5_isHandOrUnknown_17 rfl ?_
    exact pg_zret dX5_isHandOrUnknown_21 rfl (Or.inr rfl) rfl
  · refine pg_aload_n (i := 0) dX5_isHandOrUnknown_5 rfl 0 rfl ?_
    refine pg_getR dX5_isHandOrUnknown_6 fl_RX5_23 rfl (fun v1 => ?_)
    refine pg_iload_n (i := 1) dX5_isHandOrUnknown_9 rfl 1 rfl ?_
    refine pg_callV_oI (As := [pI a1]) (rs := []) dX5_isHandOrUnknown_10 lk_RX5_74 vy_X7_holds nd_X7_holds (c_X7_holds l D h v1 a1) rfl rfl (Nat.le_of_ble_eq_true rfl) (by decide) (by decide) (fun v2 => ?_)
    refine pg_if_eq (tgt := 20) dX5_isHandOrUnknown_13 rfl ?_ ?_
    · refine pg_iconst dX5_isHandOrUnknown_20 ci_0 ?_
      exact pg_zret dX5_isHandOrUnknown_21 rfl (Or.inl rfl) rfl
    · refine pg_iconst dX5_isHandOrUnknown_16 ci_1 ?_
      refine pg_goto (tgt := 21) dX5_isHandOrUnknown_17 rfl ?_
      exact pg_zret dX5_isHandOrUnknown_21 rfl (Or.inr rfl) rfl
theorem c_X5_isHandOrUnknown (l : Launch) (D : pg_D) (h : pg_H) (a0 : Nat) (a1 : Int32)  : ∀ x, F_X5_isHandOrUnknown h a0 a1 = some x → pg_Ct l D yX5_isHandOrUnknown cX5_isHandOrUnknown 2 (some FieldType.boolean) 1 21 [pR a0, pI a1] h (pg_oI h x) :=
  pg_Ct.of pn_RX5 (Nat.le_of_ble_eq_true rfl) (e_X5_isHandOrUnknown l D h a0 a1)
def F_X5_hasNote_74 (h : pg_H) (k3 : Nat → Int32 → Int32 → Int32 → Int32 → Int32 → Option Int32) (a0 : Nat) (a1 : Int32) (a2 : Int32) (a3 : Int32) (a4 : Int32) (a5 : Int32) : Option Int32 := (k3 a0 a1 a2 a3 a4 (a5 + (1 : Int32)))
def F_X5_hasNote_3 (h : pg_H) : Nat → Nat → Int32 → Int32 → Int32 → Int32 → Int32 → Option Int32
  | 0 => fun _ _ _ _ _ _ => none
  | n + 1 => fun a0 a1 a2 a3 a4 a5 => Option.bind (pg_gR 5 4 h a0) fun v1 => Option.bind (pg_rcv 7 h v1 (F_X7_size h v1)) fun v2 => (if a5 < v2 then Option.bind (pg_gR 5 4 h a0) fun v3 => Option.bind (pg_rcv 7 h v3 (F_X7_at h v3 a5 (1 : Int32))) fun v4 => (if v4 = a2 then Option.bind (pg_gR 5 4 h a0) fun v5 => Option.bind (pg_rcv 7 h v5 (F_X7_at h v5 a5 (0 : Int32))) fun v6 => (if v6 = a1 then Option.bind (pg_gR 5 4 h a0) fun v7 => Option.bind (pg_rcv 7 h v7 (F_X7_at h v7 a5 (2 : Int32))) fun v8 => (if v8 = a3 then Option.bind (pg_gR 5 4 h a0) fun v9 => Option.bind (pg_rcv 7 h v9 (F_X7_at h v9 a5 (4 : Int32))) fun v10 => (if v10 = a4 then (some (1 : Int32)) else (F_X5_hasNote_74 h (F_X5_hasNote_3 h n) a0 a1 a2 a3 a4 a5)) else (F_X5_hasNote_74 h (F_X5_hasNote_3 h n) a0 a1 a2 a3 a4 a5)) else (F_X5_hasNote_74 h (F_X5_hasNote_3 h n) a0 a1 a2 a3 a4 a5)) else (F_X5_hasNote_74 h (F_X5_hasNote_3 h n) a0 a1 a2 a3 a4 a5)) else (some (0 : Int32)))
def F_X5_hasNote (h : pg_H) (a0 : Nat) (a1 : Int32) (a2 : Int32) (a3 : Int32) (a4 : Int32) : Option Int32 := (F_X5_hasNote_3 h pg_fuel a0 a1 a2 a3 a4 (0 : Int32))
theorem e_X5_hasNote_74 (l : Launch) (D : pg_D)  (h : pg_H) (k3 : Nat → Int32 → Int32 → Int32 → Int32 → Int32 → Option Int32) (hk3 : ∀ (a0 : Nat) (a1 : Int32) (a2 : Int32) (a3 : Int32) (a4 : Int32) (a5 : Int32), pg_EvF l D RX5 cX5_hasNote 6 (some FieldType.boolean) "hasNote" 1 22 (pg_oI h) (k3 a0 a1 a2 a3 a4 a5) 3 [(0, pR a0), (1, pI a1), (2, pI a2), (3, pI a3), (4, pI a4), (5, pI a5)] [] h) (a0 : Nat) (a1 : Int32) (a2 : Int32) (a3 : Int32) (a4 : Int32) (a5 : Int32) : pg_EvF l D RX5 cX5_hasNote 6 (some FieldType.boolean) "hasNote" 1 22 (pg_oI h) (F_X5_hasNote_74 h k3 a0 a1 a2 a3 a4 a5) 74 [(0, pR a0), (1, pI a1), (2, pI a2), (3, pI a3), (4, pI a4), (5, pI a5)] [] h := by
  unfold F_X5_hasNote_74
  refine pg_iinc (lv' := [(5, pI (a5 + (1 : Int32))), (0, pR a0), (1, pI a1), (2, pI a2), (3, pI a3), (4, pI a4)]) dX5_hasNote_74 5 rfl ci_1 (by decide) rfl ?_
  refine pg_goto (tgt := 3) dX5_hasNote_77 rfl ?_
  exact pg_to (hk3 a0 a1 a2 a3 a4 (a5 + (1 : Int32))) [1, 2, 3, 4, 5, 0] rfl
theorem e_X5_hasNote_3 (l : Launch) (D : pg_D)  (h : pg_H) : ∀ (n : Nat) (a0 : Nat) (a1 : Int32) (a2 : Int32) (a3 : Int32) (a4 : Int32) (a5 : Int32), pg_EvF l D RX5 cX5_hasNote 6 (some FieldType.boolean) "hasNote" 1 22 (pg_oI h) (F_X5_hasNote_3 h n a0 a1 a2 a3 a4 a5) 3 [(0, pR a0), (1, pI a1), (2, pI a2), (3, pI a3), (4, pI a4), (5, pI a5)] [] h := by
  intro n
  induction n with
  | zero => intro a0 a1 a2 a3 a4 a5; exact pg_none
  | succ n ih =>
    intro a0 a1 a2 a3 a4 a5
    rw [F_X5_hasNote_3]
    refine pg_iload dX5_hasNote_3 5 rfl ?_
    refine pg_aload_n (i := 0) dX5_hasNote_5 rfl 0 rfl ?_
    refine pg_getR dX5_hasNote_6 fl_RX5_29 rfl (fun v1 => ?_)
    refine pg_callV_oI (As := []) (rs := [pI a5]) dX5_hasNote_9 lk_RX5_67 vy_X7_size nd_X7_size (c_X7_size l D h v1) rfl rfl (Nat.le_of_ble_eq_true rfl) (by decide) (by decide) (fun v2 => ?_)
    refine pg_icmp_ge (tgt := 80) dX5_hasNote_12 rfl ?_ ?_
    · refine pg_iconst dX5_hasNote_80 ci_0 ?_
      exact pg_zret dX5_hasNote_81 rfl (Or.inl rfl) rfl
    · refine pg_aload_n (i := 0) dX5_hasNote_15 rfl 0 rfl ?_
      refine pg_getR dX5_hasNote_16 fl_RX5_29 rfl (fun v3 => ?_)
      refine pg_iload dX5_hasNote_19 5 rfl ?_
      refine pg_iconst dX5_hasNote_21 ci_1 ?_
      refine pg_callV_oI (As := [pI a5, pI (1 : Int32)]) (rs := []) dX5_hasNote_22 lk_RX5_70 vy_X7_at nd_X7_at (c_X7_at l D h v3 a5 (1 : Int32)) rfl rfl (Nat.le_of_ble_eq_true rfl) (by decide) (by decide) (fun v4 => ?_)
      refine pg_iload_n (i := 2) dX5_hasNote_25 rfl 2 rfl ?_
      refine pg_icmp_ne (tgt := 74) dX5_hasNote_26 rfl ?_ ?_
      · exact pg_to (e_X5_hasNote_74 l D h (F_X5_hasNote_3 h n) ih a0 a1 a2 a3 a4 a5) [0, 1, 2, 3, 4, 5] rfl
      · refine pg_aload_n (i := 0) dX5_hasNote_29 rfl 0 rfl ?_
        refine pg_getR dX5_hasNote_30 fl_RX5_29 rfl (fun v5 => ?_)
        refine pg_iload dX5_hasNote_33 5 rfl ?_
        refine pg_iconst dX5_hasNote_35 ci_0 ?_
        refine pg_callV_oI (As := [pI a5, pI (0 : Int32)]) (rs := []) dX5_hasNote_36 lk_RX5_70 vy_X7_at nd_X7_at (c_X7_at l D h v5 a5 (0 : Int32)) rfl rfl (Nat.le_of_ble_eq_true rfl) (by decide) (by decide) (fun v6 => ?_)
        refine pg_iload_n (i := 1) dX5_hasNote_39 rfl 1 rfl ?_
        refine pg_icmp_ne (tgt := 74) dX5_hasNote_40 rfl ?_ ?_
        · exact pg_to (e_X5_hasNote_74 l D h (F_X5_hasNote_3 h n) ih a0 a1 a2 a3 a4 a5) [0, 1, 2, 3, 4, 5] rfl
        · refine pg_aload_n (i := 0) dX5_hasNote_43 rfl 0 rfl ?_
          refine pg_getR dX5_hasNote_44 fl_RX5_29 rfl (fun v7 => ?_)
          refine pg_iload dX5_hasNote_47 5 rfl ?_
          refine pg_iconst dX5_hasNote_49 ci_2 ?_
          refine pg_callV_oI (As := [pI a5, pI (2 : Int32)]) (rs := []) dX5_hasNote_50 lk_RX5_70 vy_X7_at nd_X7_at (c_X7_at l D h v7 a5 (2 : Int32)) rfl rfl (Nat.le_of_ble_eq_true rfl) (by decide) (by decide) (fun v8 => ?_)
          refine pg_iload_n (i := 3) dX5_hasNote_53 rfl 3 rfl ?_
          refine pg_icmp_ne (tgt := 74) dX5_hasNote_54 rfl ?_ ?_
          · exact pg_to (e_X5_hasNote_74 l D h (F_X5_hasNote_3 h n) ih a0 a1 a2 a3 a4 a5) [0, 1, 2, 3, 4, 5] rfl
          · refine pg_aload_n (i := 0) dX5_hasNote_57 rfl 0 rfl ?_
            refine pg_getR dX5_hasNote_58 fl_RX5_29 rfl (fun v9 => ?_)
            refine pg_iload dX5_hasNote_61 5 rfl ?_
            refine pg_iconst dX5_hasNote_63 ci_4 ?_
            refine pg_callV_oI (As := [pI a5, pI (4 : Int32)]) (rs := []) dX5_hasNote_64 lk_RX5_70 vy_X7_at nd_X7_at (c_X7_at l D h v9 a5 (4 : Int32)) rfl rfl (Nat.le_of_ble_eq_true rfl) (by decide) (by decide) (fun v10 => ?_)
            refine pg_iload dX5_hasNote_67 4 rfl ?_
            refine pg_icmp_ne (tgt := 74) dX5_hasNote_69 rfl ?_ ?_
            · exact pg_to (e_X5_hasNote_74 l D h (F_X5_hasNote_3 h n) ih a0 a1 a2 a3 a4 a5) [0, 1, 2, 3, 4, 5] rfl
            · refine pg_iconst dX5_hasNote_72 ci_1 ?_
              exact pg_zret dX5_hasNote_73 rfl (Or.inr rfl) rfl
theorem e_X5_hasNote (l : Launch) (D : pg_D)  (h : pg_H) (a0 : Nat) (a1 : Int32) (a2 : Int32) (a3 : Int32) (a4 : Int32) : pg_EvF l D RX5 cX5_hasNote 6 (some FieldType.boolean) "hasNote" 1 22 (pg_oI h) (F_X5_hasNote h a0 a1 a2 a3 a4) 0 [(0, pR a0), (1, pI a1), (2, pI a2), (3, pI a3), (4, pI a4)] [] h := by
  unfold F_X5_hasNote
  refine pg_iconst dX5_hasNote_0 ci_0 ?_
  refine pg_istore (lv' := [(5, pI (0 : Int32)), (0, pR a0), (1, pI a1), (2, pI a2), (3, pI a3), (4, pI a4)]) dX5_hasNote_1 (by decide) rfl ?_
  exact pg_to (e_X5_hasNote_3 l D h pg_fuel a0 a1 a2 a3 a4 (0 : Int32)) [1, 2, 3, 4, 5, 0] rfl
theorem c_X5_hasNote (l : Launch) (D : pg_D) (h : pg_H) (a0 : Nat) (a1 : Int32) (a2 : Int32) (a3 : Int32) (a4 : Int32)  : ∀ x, F_X5_hasNote h a0 a1 a2 a3 a4 = some x → pg_Ct l D yX5_hasNote cX5_hasNote 6 (some FieldType.boolean) 1 22 [pR a0, pI a1, pI a2, pI a3, pI a4] h (pg_oI h x) :=
  pg_Ct.of pn_RX5 (Nat.le_of_ble_eq_true rfl) (e_X5_hasNote l D h a0 a1 a2 a3 a4)
def F_X5_addNote (a0 : Nat) (a1 : Int32) (a2 : Int32) (a3 : Int32) (a4 : Int32) (a5 : Int32) (h : pg_H) : Option (Int32 × pg_H) := Option.bind (pg_gR 5 4 h a0) fun v1 => Option.bind (pg_rcv 7 h v1 (F_X7_open v1 h)) fun v2 => Option.bind (pg_gR 5 4 v2.2 a0) fun v3 => Option.bind (pg_rcv 7 v2.2 v3 (F_X7_put v3 v2.1 (0 : Int32) a1 v2.2)) fun v4 => Option.bind (pg_gR 5 4 v4.2 a0) fun v5 => Option.bind (pg_rcv 7 v4.2 v5 (F_X7_put v5 v2.1 (1 : Int32) a2 v4.2)) fun v6 => Option.bind (pg_gR 5 4 v6.2 a0) fun v7 => Option.bind (pg_rcv 7 v6.2 v7 (F_X7_put v7 v2.1 (2 : Int32) a3 v6.2)) fun v8 => Option.bind (pg_gR 5 4 v8.2 a0) fun v9 => Option.bind (pg_rcv 7 v8.2 v9 (F_X7_put v9 v2.1 (3 : Int32) a4 v8.2)) fun v10 => Option.bind (pg_gR 5 4 v10.2 a0) fun v11 => Option.bind (pg_rcv 7 v10.2 v11 (F_X7_put v11 v2.1 (4 : Int32) a5 v10.2)) fun v12 => (some (v2.1, v12.2))
theorem e_X5_addNote (l : Launch) (D : pg_D)  (a0 : Nat) (a1 : Int32) (a2 : Int32) (a3 : Int32) (a4 : Int32) (a5 : Int32) (h : pg_H) : pg_EvF l D RX5 cX5_addNote 7 (some FieldType.int) "addNote" 3 68 pg_wI (F_X5_addNote a0 a1 a2 a3 a4 a5 h) 0 [(0, pR a0), (1, pI a1), (2, pI a2), (3, pI a3), (4, pI a4), (5, pI a5)] [] h := by
  unfold F_X5_addNote
  refine pg_aload_n (i := 0) dX5_addNote_0 rfl 0 rfl ?_
  refine pg_getR dX5_addNote_1 fl_RX5_29 rfl (fun v1 => ?_)
  refine pg_callV_wI (As := []) (rs := []) dX5_addNote_4 lk_RX5_46 vy_X7_open nd_X7_open (c_X7_open l D v1 h) rfl rfl (Nat.le_of_ble_eq_true rfl) (by decide) (by decide) (fun v2 => ?_)
  refine pg_istore (lv' := [(6, pI v2.1), (0, pR a0), (1, pI a1), (2, pI a2), (3, pI a3), (4, pI a4), (5, pI a5)]) dX5_addNote_7 (by decide) rfl ?_
  refine pg_aload_n (i := 0) dX5_addNote_9 rfl 1 rfl ?_
  refine pg_getR dX5_addNote_10 fl_RX5_29 rfl (fun v3 => ?_)
  refine pg_iload dX5_addNote_13 0 rfl ?_
  refine pg_iconst dX5_addNote_15 ci_0 ?_
  refine pg_iload_n (i := 1) dX5_addNote_16 rfl 2 rfl ?_
  refine pg_callV_wI (As := [pI v2.1, pI (0 : Int32), pI a1]) (rs := []) dX5_addNote_17 lk_RX5_78 vy_X7_put nd_X7_put (c_X7_put l D v3 v2.1 (0 : Int32) a1 v2.2) rfl rfl (Nat.le_of_ble_eq_true rfl) (by decide) (by decide) (fun v4 => ?_)
  refine pg_pop dX5_addNote_20 rfl ?_
  refine pg_aload_n (i := 0) dX5_addNote_21 rfl 1 rfl ?_
  refine pg_getR dX5_addNote_22 fl_RX5_29 rfl (fun v5 => ?_)
  refine pg_iload dX5_addNote_25 0 rfl ?_
  refine pg_iconst dX5_addNote_27 ci_1 ?_
  refine pg_iload_n (i := 2) dX5_addNote_28 rfl 3 rfl ?_
  refine pg_callV_wI (As := [pI v2.1, pI (1 : Int32), pI a2]) (rs := []) dX5_addNote_29 lk_RX5_78 vy_X7_put nd_X7_put (c_X7_put l D v5 v2.1 (1 : Int32) a2 v4.2) rfl rfl (Nat.le_of_ble_eq_true rfl) (by decide) (by decide) (fun v6 => ?_)
  refine pg_pop dX5_addNote_32 rfl ?_
  refine pg_aload_n (i := 0) dX5_addNote_33 rfl 1 rfl ?_
  refine pg_getR dX5_addNote_34 fl_RX5_29 rfl (fun v7 => ?_)
  refine pg_iload dX5_addNote_37 0 rfl ?_
  refine pg_iconst dX5_addNote_39 ci_2 ?_
  refine pg_iload_n (i := 3) dX5_addNote_40 rfl 4 rfl ?_
  refine pg_callV_wI (As := [pI v2.1, pI (2 : Int32), pI a3]) (rs := []) dX5_addNote_41 lk_RX5_78 vy_X7_put nd_X7_put (c_X7_put l D v7 v2.1 (2 : Int32) a3 v6.2) rfl rfl (Nat.le_of_ble_eq_true rfl) (by decide) (by decide) (fun v8 => ?_)
  refine pg_pop dX5_addNote_44 rfl ?_
  refine pg_aload_n (i := 0) dX5_addNote_45 rfl 1 rfl ?_
  refine pg_getR dX5_addNote_46 fl_RX5_29 rfl (fun v9 => ?_)
  refine pg_iload dX5_addNote_49 0 rfl ?_
  refine pg_iconst dX5_addNote_51 ci_3 ?_
  refine pg_iload dX5_addNote_52 5 rfl ?_
  refine pg_callV_wI (As := [pI v2.1, pI (3 : Int32), pI a4]) (rs := []) dX5_addNote_54 lk_RX5_78 vy_X7_put nd_X7_put (c_X7_put l D v9 v2.1 (3 : Int32) a4 v8.2) rfl rfl (Nat.le_of_ble_eq_true rfl) (by decide) (by decide) (fun v10 => ?_)
  refine pg_pop dX5_addNote_57 rfl ?_
  refine pg_aload_n (i := 0) dX5_addNote_58 rfl 1 rfl ?_
  refine pg_getR dX5_addNote_59 fl_RX5_29 rfl (fun v11 => ?_)
  refine pg_iload dX5_addNote_62 0 rfl ?_
  refine pg_iconst dX5_addNote_64 ci_4 ?_
  refine pg_iload dX5_addNote_65 6 rfl ?_
  refine pg_callV_wI (As := [pI v2.1, pI (4 : Int32), pI a5]) (rs := []) dX5_addNote_67 lk_RX5_78 vy_X7_put nd_X7_put (c_X7_put l D v11 v2.1 (4 : Int32) a5 v10.2) rfl rfl (Nat.le_of_ble_eq_true rfl) (by decide) (by decide) (fun v12 => ?_)
  refine pg_pop dX5_addNote_70 rfl ?_
  refine pg_iload dX5_addNote_71 0 rfl ?_
  exact pg_iret dX5_addNote_73 rfl rfl
theorem c_X5_addNote (l : Launch) (D : pg_D) (a0 : Nat) (a1 : Int32) (a2 : Int32) (a3 : Int32) (a4 : Int32) (a5 : Int32) (h : pg_H) : ∀ x, F_X5_addNote a0 a1 a2 a3 a4 a5 h = some x → pg_Ct l D yX5_addNote cX5_addNote 7 (some FieldType.int) 3 68 [pR a0, pI a1, pI a2, pI a3, pI a4, pI a5] h (pg_wI x) :=
  pg_Ct.of pn_RX5 (Nat.le_of_ble_eq_true rfl) (e_X5_addNote l D a0 a1 a2 a3 a4 a5 h)
def F_X5_notesWritten_33 (h : pg_H) (k4 : Nat → Int32 → Int32 → Option Int32) (a0 : Nat) (a2 : Int32) (s0 : Int32) (s1 : Int32) : Option Int32 := pg_let (s1 + s0) fun v1 => (k4 a0 v1 (a2 + (1 : Int32)))
def F_X5_notesWritten_4 (h : pg_H) : Nat → Nat → Int32 → Int32 → Option Int32
  | 0 => fun _ _ _ => none
  | n + 1 => fun a0 a1 a2 => Option.bind (pg_gR 5 4 h a0) fun v1 => Option.bind (pg_rcv 7 h v1 (F_X7_size h v1)) fun v2 => (if a2 < v2 then Option.bind (pg_gR 5 4 h a0) fun v3 => Option.bind (pg_rcv 7 h v3 (F_X7_at h v3 a2 (4 : Int32))) fun v4 => (if v4 = 0 then (F_X5_notesWritten_33 h (F_X5_notesWritten_4 h n) a0 a2 (1 : Int32) a1) else (F_X5_notesWritten_33 h (F_X5_notesWritten_4 h n) a0 a2 (0 : Int32) a1)) else (some a1))
def F_X5_notesWritten (h : pg_H) (a0 : Nat) : Option Int32 := (F_X5_notesWritten_4 h pg_fuel a0 (0 : Int32) (0 : Int32))
theorem e_X5_notesWritten_33 (l : Launch) (D : pg_D)  (h : pg_H) (k4 : Nat → Int32 → Int32 → Option Int32) (hk4 : ∀ (a0 : Nat) (a1 : Int32) (a2 : Int32), pg_EvF l D RX5 cX5_notesWritten 3 (some FieldType.int) "notesWritten" 1 22 (pg_oI h) (k4 a0 a1 a2) 4 [(0, pR a0), (1, pI a1), (2, pI a2)] [] h) (a0 : Nat) (a2 : Int32) (s0 : Int32) (s1 : Int32) : pg_EvF l D RX5 cX5_notesWritten 3 (some FieldType.int) "notesWritten" 1 22 (pg_oI h) (F_X5_notesWritten_33 h k4 a0 a2 s0 s1) 33 [(0, pR a0), (2, pI a2)] [pI s0, pI s1] h := by
  unfold F_X5_notesWritten_33
  refine pg_iadd dX5_notesWritten_33 ?_
  refine pg_letI (fun v1 => ?_)
  refine pg_istore_n (i := 1) (lv' := [(1, pI v1), (0, pR a0), (2, pI a2)]) dX5_notesWritten_34 rfl (by decide) rfl ?_
  refine pg_iinc (lv' := [(2, pI (a2 + (1 : Int32))), (1, pI v1), (0, pR a0)]) dX5_notesWritten_35 2 rfl ci_1 (by decide) rfl ?_
  refine pg_goto (tgt := 4) dX5_notesWritten_38 rfl ?_
  exact pg_to (hk4 a0 v1 (a2 + (1 : Int32))) [2, 1, 0] rfl
theorem e_X5_notesWritten_4 (l : Launch) (D : pg_D)  (h : pg_H) : ∀ (n : Nat) (a0 : Nat) (a1 : Int32) (a2 : Int32), pg_EvF l D RX5 cX5_notesWritten 3 (some FieldType.int) "notesWritten" 1 22 (pg_oI h) (F_X5_notesWritten_4 h n a0 a1 a2) 4 [(0, pR a0), (1, pI a1), (2, pI a2)] [] h := by
  intro n
  induction n with
  | zero => intro a0 a1 a2; exact pg_none
  | succ n ih =>
    intro a0 a1 a2
    rw [F_X5_notesWritten_4]
    refine pg_iload_n (i := 2) dX5_notesWritten_4 rfl 2 rfl ?_
    refine pg_aload_n (i := 0) dX5_notesWritten_5 rfl 0 rfl ?_
    refine pg_getR dX5_notesWritten_6 fl_RX5_29 rfl (fun v1 => ?_)
    refine pg_callV_oI (As := []) (rs := [pI a2]) dX5_notesWritten_9 lk_RX5_67 vy_X7_size nd_X7_size (c_X7_size l D h v1) rfl rfl (Nat.le_of_ble_eq_true rfl) (by decide) (by decide) (fun v2 => ?_)
    refine pg_icmp_ge (tgt := 41) dX5_notesWritten_12 rfl ?_ ?_
    · refine pg_iload_n (i := 1) dX5_notesWritten_41 rfl 1 rfl ?_
      exact pg_iret dX5_notesWritten_42 rfl rfl
    · refine pg_iload_n (i := 1) dX5_notesWritten_15 rfl 1 rfl ?_
      refine pg_aload_n (i := 0) dX5_notesWritten_16 rfl 0 rfl ?_
      refine pg_getR dX5_notesWritten_17 fl_RX5_29 rfl (fun v3 => ?_)
      refine pg_iload_n (i := 2) dX5_notesWritten_20 rfl 2 rfl ?_
      refine pg_iconst dX5_notesWritten_21 ci_4 ?_
      refine pg_callV_oI (As := [pI a2, pI (4 : Int32)]) (rs := [pI a1]) dX5_notesWritten_22 lk_RX5_70 vy_X7_at nd_X7_at (c_X7_at l D h v3 a2 (4 : Int32)) rfl rfl (Nat.le_of_ble_eq_true rfl) (by decide) (by decide) (fun v4 => ?_)
      refine pg_if_ne (tgt := 32) dX5_notesWritten_25 rfl ?_ ?_
      · refine pg_iconst dX5_notesWritten_32 ci_0 ?_
        exact pg_to (e_X5_notesWritten_33 l D h (F_X5_notesWritten_4 h n) ih a0 a2 (0 : Int32) a1) [0, 2] rfl
      · refine pg_iconst dX5_notesWritten_28 ci_1 ?_
        refine pg_goto (tgt := 33) dX5_notesWritten_29 rfl ?_
        exact pg_to (e_X5_notesWritten_33 l D h (F_X5_notesWritten_4 h n) ih a0 a2 (1 : Int32) a1) [0, 2] rfl
theorem e_X5_notesWritten (l : Launch) (D : pg_D)  (h : pg_H) (a0 : Nat) : pg_EvF l D RX5 cX5_notesWritten 3 (some FieldType.int) "notesWritten" 1 22 (pg_oI h) (F_X5_notesWritten h a0) 0 [(0, pR a0)] [] h := by
  unfold F_X5_notesWritten
  refine pg_iconst dX5_notesWritten_0 ci_0 ?_
  refine pg_istore_n (i := 1) (lv' := [(1, pI (0 : Int32)), (0, pR a0)]) dX5_notesWritten_1 rfl (by decide) rfl ?_
  refine pg_iconst dX5_notesWritten_2 ci_0 ?_
  refine pg_istore_n (i := 2) (lv' := [(2, pI (0 : Int32)), (1, pI (0 : Int32)), (0, pR a0)]) dX5_notesWritten_3 rfl (by decide) rfl ?_
  exact pg_to (e_X5_notesWritten_4 l D h pg_fuel a0 (0 : Int32) (0 : Int32)) [2, 1, 0] rfl
theorem c_X5_notesWritten (l : Launch) (D : pg_D) (h : pg_H) (a0 : Nat)  : ∀ x, F_X5_notesWritten h a0 = some x → pg_Ct l D yX5_notesWritten cX5_notesWritten 3 (some FieldType.int) 1 22 [pR a0] h (pg_oI h x) :=
  pg_Ct.of pn_RX5 (Nat.le_of_ble_eq_true rfl) (e_X5_notesWritten l D h a0)
def F_X5_copiesWithHand_44 (h : pg_H) (k4 : Nat → Int32 → Int32 → Int32 → Option Int32) (a0 : Nat) (a1 : Int32) (a3 : Int32) (s0 : Int32) (s1 : Int32) : Option Int32 := pg_let (s1 ||| s0) fun v1 => (k4 a0 a1 v1 (a3 + (1 : Int32)))
def F_X5_copiesWithHand_4 (h : pg_H) : Nat → Nat → Int32 → Int32 → Int32 → Option Int32
  | 0 => fun _ _ _ _ => none
  | n + 1 => fun a0 a1 a2 a3 => Option.bind (pg_gR 5 4 h a0) fun v1 => Option.bind (pg_rcv 7 h v1 (F_X7_size h v1)) fun v2 => (if a3 < v2 then Option.bind (pg_gR 5 4 h a0) fun v3 => Option.bind (pg_rcv 7 h v3 (F_X7_at h v3 a3 (3 : Int32))) fun v4 => (if v4 = a1 then Option.bind (pg_gR 5 4 h a0) fun v5 => Option.bind (pg_rcv 7 h v5 (F_X7_at h v5 a3 (0 : Int32))) fun v6 => (F_X5_copiesWithHand_44 h (F_X5_copiesWithHand_4 h n) a0 a1 a3 ((1 : Int32) <<< (v6 &&& 31)) a2) else (F_X5_copiesWithHand_44 h (F_X5_copiesWithHand_4 h n) a0 a1 a3 (0 : Int32) a2)) else (some a2))
def F_X5_copiesWithHand (h : pg_H) (a0 : Nat) (a1 : Int32) : Option Int32 := (F_X5_copiesWithHand_4 h pg_fuel a0 a1 (0 : Int32) (0 : Int32))
theorem e_X5_copiesWithHand_44 (l : Launch) (D : pg_D)  (h : pg_H) (k4 : Nat → Int32 → Int32 → Int32 → Option Int32) (hk4 : ∀ (a0 : Nat) (a1 : Int32) (a2 : Int32) (a3 : Int32), pg_EvF l D RX5 cX5_copiesWithHand 4 (some FieldType.int) "copiesWithHand" 1 22 (pg_oI h) (k4 a0 a1 a2 a3) 4 [(0, pR a0), (1, pI a1), (2, pI a2), (3, pI a3)] [] h) (a0 : Nat) (a1 : Int32) (a3 : Int32) (s0 : Int32) (s1 : Int32) : pg_EvF l D RX5 cX5_copiesWithHand 4 (some FieldType.int) "copiesWithHand" 1 22 (pg_oI h) (F_X5_copiesWithHand_44 h k4 a0 a1 a3 s0 s1) 44 [(0, pR a0), (1, pI a1), (3, pI a3)] [pI s0, pI s1] h := by
  unfold F_X5_copiesWithHand_44
  refine pg_ior dX5_copiesWithHand_44 ?_
  refine pg_letI (fun v1 => ?_)
  refine pg_istore_n (i := 2) (lv' := [(2, pI v1), (0, pR a0), (1, pI a1), (3, pI a3)]) dX5_copiesWithHand_45 rfl (by decide) rfl ?_
  refine pg_iinc (lv' := [(3, pI (a3 + (1 : Int32))), (2, pI v1), (0, pR a0), (1, pI a1)]) dX5_copiesWithHand_46 3 rfl ci_1 (by decide) rfl ?_
  refine pg_goto (tgt := 4) dX5_copiesWithHand_49 rfl ?_
  exact pg_to (hk4 a0 a1 v1 (a3 + (1 : Int32))) [2, 3, 1, 0] rfl
theorem e_X5_copiesWithHand_4 (l : Launch) (D : pg_D)  (h : pg_H) : ∀ (n : Nat) (a0 : Nat) (a1 : Int32) (a2 : Int32) (a3 : Int32), pg_EvF l D RX5 cX5_copiesWithHand 4 (some FieldType.int) "copiesWithHand" 1 22 (pg_oI h) (F_X5_copiesWithHand_4 h n a0 a1 a2 a3) 4 [(0, pR a0), (1, pI a1), (2, pI a2), (3, pI a3)] [] h := by
  intro n
  induction n with
  | zero => intro a0 a1 a2 a3; exact pg_none
  | succ n ih =>
    intro a0 a1 a2 a3
    rw [F_X5_copiesWithHand_4]
    refine pg_iload_n (i := 3) dX5_copiesWithHand_4 rfl 3 rfl ?_
    refine pg_aload_n (i := 0) dX5_copiesWithHand_5 rfl 0 rfl ?_
    refine pg_getR dX5_copiesWithHand_6 fl_RX5_29 rfl (fun v1 => ?_)
    refine pg_callV_oI (As := []) (rs := [pI a3]) dX5_copiesWithHand_9 lk_RX5_67 vy_X7_size nd_X7_size (c_X7_size l D h v1) rfl rfl (Nat.le_of_ble_eq_true rfl) (by decide) (by decide) (fun v2 => ?_)
    refine pg_icmp_ge (tgt := 52) dX5_copiesWithHand_12 rfl ?_ ?_
    · refine pg_iload_n (i := 2) dX5_copiesWithHand_52 rfl 2 rfl ?_
      exact pg_iret dX5_copiesWithHand_53 rfl rfl
    · refine pg_iload_n (i := 2) dX5_copiesWithHand_15 rfl 2 rfl ?_
      refine pg_aload_n (i := 0) dX5_copiesWithHand_16 rfl 0 rfl ?_
      refine pg_getR dX5_copiesWithHand_17 fl_RX5_29 rfl (fun v3 => ?_)
      refine pg_iload_n (i := 3) dX5_copiesWithHand_20 rfl 3 rfl ?_
      refine pg_iconst dX5_copiesWithHand_21 ci_3 ?_
      refine pg_callV_oI (As := [pI a3, pI (3 : Int32)]) (rs := [pI a2]) dX5_copiesWithHand_22 lk_RX5_70 vy_X7_at nd_X7_at (c_X7_at l D h v3 a3 (3 : Int32)) rfl rfl (Nat.le_of_ble_eq_true rfl) (by decide) (by decide) (fun v4 => ?_)
      refine pg_iload_n (i := 1) dX5_copiesWithHand_25 rfl 1 rfl ?_
      refine pg_icmp_ne (tgt := 43) dX5_copiesWithHand_26 rfl ?_ ?_
      · refine pg_iconst dX5_copiesWithHand_43 ci_0 ?_
        exact pg_to (e_X5_copiesWithHand_44 l D h (F_X5_copiesWithHand_4 h n) ih a0 a1 a3 (0 : Int32) a2) [0, 1, 3] rfl
      · refine pg_iconst dX5_copiesWithHand_29 ci_1 ?_
        refine pg_aload_n (i := 0) dX5_copiesWithHand_30 rfl 0 rfl ?_
        refine pg_getR dX5_copiesWithHand_31 fl_RX5_29 rfl (fun v5 => ?_)
        refine pg_iload_n (i := 3) dX5_copiesWithHand_34 rfl 3 rfl ?_
        refine pg_iconst dX5_copiesWithHand_35 ci_0 ?_
        refine pg_callV_oI (As := [pI a3, pI (0 : Int32)]) (rs := [pI (1 : Int32), pI a2]) dX5_copiesWithHand_36 lk_RX5_70 vy_X7_at nd_X7_at (c_X7_at l D h v5 a3 (0 : Int32)) rfl rfl (Nat.le_of_ble_eq_true rfl) (by decide) (by decide) (fun v6 => ?_)
        refine pg_ishl dX5_copiesWithHand_39 ?_
        refine pg_goto (tgt := 44) dX5_copiesWithHand_40 rfl ?_
        exact pg_to (e_X5_copiesWithHand_44 l D h (F_X5_copiesWithHand_4 h n) ih a0 a1 a3 ((1 : Int32) <<< (v6 &&& 31)) a2) [0, 1, 3] rfl
theorem e_X5_copiesWithHand (l : Launch) (D : pg_D)  (h : pg_H) (a0 : Nat) (a1 : Int32) : pg_EvF l D RX5 cX5_copiesWithHand 4 (some FieldType.int) "copiesWithHand" 1 22 (pg_oI h) (F_X5_copiesWithHand h a0 a1) 0 [(0, pR a0), (1, pI a1)] [] h := by
  unfold F_X5_copiesWithHand
  refine pg_iconst dX5_copiesWithHand_0 ci_0 ?_
  refine pg_istore_n (i := 2) (lv' := [(2, pI (0 : Int32)), (0, pR a0), (1, pI a1)]) dX5_copiesWithHand_1 rfl (by decide) rfl ?_
  refine pg_iconst dX5_copiesWithHand_2 ci_0 ?_
  refine pg_istore_n (i := 3) (lv' := [(3, pI (0 : Int32)), (2, pI (0 : Int32)), (0, pR a0), (1, pI a1)]) dX5_copiesWithHand_3 rfl (by decide) rfl ?_
  exact pg_to (e_X5_copiesWithHand_4 l D h pg_fuel a0 a1 (0 : Int32) (0 : Int32)) [2, 3, 1, 0] rfl
theorem c_X5_copiesWithHand (l : Launch) (D : pg_D) (h : pg_H) (a0 : Nat) (a1 : Int32)  : ∀ x, F_X5_copiesWithHand h a0 a1 = some x → pg_Ct l D yX5_copiesWithHand cX5_copiesWithHand 4 (some FieldType.int) 1 22 [pR a0, pI a1] h (pg_oI h x) :=
  pg_Ct.of pn_RX5 (Nat.le_of_ble_eq_true rfl) (e_X5_copiesWithHand l D h a0 a1)
def F_X5_handsIn_66 (h : pg_H) (k4 : Nat → Int32 → Int32 → Int32 → Option Int32) (a0 : Nat) (a1 : Int32) (a3 : Int32) (s0 : Int32) (s1 : Int32) : Option Int32 := pg_let (s1 ||| s0) fun v1 => (k4 a0 a1 v1 (a3 + (1 : Int32)))
def F_X5_handsIn_50 (h : pg_H) (k4 : Nat → Int32 → Int32 → Int32 → Option Int32) (a0 : Nat) (a1 : Int32) (a2 : Int32) (a3 : Int32) (a4 : Int32) (s0 : Int32) : Option Int32 := (if s0 = 0 then (F_X5_handsIn_66 h k4 a0 a1 a3 (0 : Int32) a2) else (F_X5_handsIn_66 h k4 a0 a1 a3 ((1 : Int32) <<< (a4 &&& 31)) a2))
def F_X5_handsIn_49 (h : pg_H) (k4 : Nat → Int32 → Int32 → Int32 → Option Int32) (a0 : Nat) (a1 : Int32) (a2 : Int32) (a3 : Int32) (a4 : Int32) : Option Int32 := (F_X5_handsIn_50 h k4 a0 a1 a2 a3 a4 (0 : Int32))
def F_X5_handsIn_4 (h : pg_H) : Nat → Nat → Int32 → Int32 → Int32 → Option Int32
  | 0 => fun _ _ _ _ => none
  | n + 1 => fun a0 a1 a2 a3 => Option.bind (pg_gR 5 4 h a0) fun v1 => Option.bind (pg_rcv 7 h v1 (F_X7_size h v1)) fun v2 => (if a3 < v2 then Option.bind (pg_gR 5 4 h a0) fun v3 => Option.bind (pg_rcv 7 h v3 (F_X7_at h v3 a3 (3 : Int32))) fun v4 => Option.bind (pg_gR 5 4 h a0) fun v5 => Option.bind (pg_rcv 7 h v5 (F_X7_at h v5 a3 (0 : Int32))) fun v6 => (if v6 = a1 then (if v4 = (-1 : Int32) then (F_X5_handsIn_49 h (F_X5_handsIn_4 h n) a0 a1 a2 a3 v4) else (F_X5_handsIn_50 h (F_X5_handsIn_4 h n) a0 a1 a2 a3 v4 (1 : Int32))) else (F_X5_handsIn_49 h (F_X5_handsIn_4 h n) a0 a1 a2 a3 v4)) else (some a2))
def F_X5_handsIn (h : pg_H) (a0 : Nat) (a1 : Int32) : Option Int32 := (F_X5_handsIn_4 h pg_fuel a0 a1 (0 : Int32) (0 : Int32))
theorem e_X5_handsIn_66 (l : Launch) (D : pg_D)  (h : pg_H) (k4 : Nat → Int32 → Int32 → Int32 → Option Int32) (hk4 : ∀ (a0 : Nat) (a1 : Int32) (a2 : Int32) (a3 : Int32), pg_EvF l D RX5 cX5_handsIn 6 (some FieldType.int) "handsIn" 1 22 (pg_oI h) (k4 a0 a1 a2 a3) 4 [(0, pR a0), (1, pI a1), (2, pI a2), (3, pI a3)] [] h) (a0 : Nat) (a1 : Int32) (a3 : Int32) (s0 : Int32) (s1 : Int32) : pg_EvF l D RX5 cX5_handsIn 6 (some FieldType.int) "handsIn" 1 22 (pg_oI h) (F_X5_handsIn_66 h k4 a0 a1 a3 s0 s1) 66 [(0, pR a0), (1, pI a1), (3, pI a3)] [pI s0, pI s1] h := by
  unfold F_X5_handsIn_66
  refine pg_ior dX5_handsIn_66 ?_
  refine pg_letI (fun v1 => ?_)
  refine pg_istore_n (i := 2) (lv' := [(2, pI v1), (0, pR a0), (1, pI a1), (3, pI a3)]) dX5_handsIn_67 rfl (by decide) rfl ?_
  refine pg_iinc (lv' := [(3, pI (a3 + (1 : Int32))), (2, pI v1), (0, pR a0), (1, pI a1)]) dX5_handsIn_68 3 rfl ci_1 (by decide) rfl ?_
  refine pg_goto (tgt := 4) dX5_handsIn_71 rfl ?_
  exact pg_to (hk4 a0 a1 v1 (a3 + (1 : Int32))) [2, 3, 1, 0] rfl
theorem e_X5_handsIn_50 (l : Launch) (D : pg_D)  (h : pg_H) (k4 : Nat → Int32 → Int32 → Int32 → Option Int32) (hk4 : ∀ (a0 : Nat) (a1 : Int32) (a2 : Int32) (a3 : Int32), pg_EvF l D RX5 cX5_handsIn 6 (some FieldType.int) "handsIn" 1 22 (pg_oI h) (k4 a0 a1 a2 a3) 4 [(0, pR a0), (1, pI a1), (2, pI a2), (3, pI a3)] [] h) (a0 : Nat) (a1 : Int32) (a2 : Int32) (a3 : Int32) (a4 : Int32) (s0 : Int32) : pg_EvF l D RX5 cX5_handsIn 6 (some FieldType.int) "handsIn" 1 22 (pg_oI h) (F_X5_handsIn_50 h k4 a0 a1 a2 a3 a4 s0) 50 [(0, pR a0), (1, pI a1), (2, pI a2), (3, pI a3), (4, pI a4)] [pI s0] h := by
  unfold F_X5_handsIn_50
  refine pg_istore (lv' := [(5, pI s0), (0, pR a0), (1, pI a1), (2, pI a2), (3, pI a3), (4, pI a4)]) dX5_handsIn_50 (by decide) rfl ?_
  refine pg_iload_n (i := 2) dX5_handsIn_52 rfl 3 rfl ?_
  refine pg_iload dX5_handsIn_53 0 rfl ?_
  refine pg_if_eq (tgt := 65) dX5_handsIn_55 rfl ?_ ?_
  · refine pg_iconst dX5_handsIn_65 ci_0 ?_
    exact pg_to (e_X5_handsIn_66 l D h k4 hk4 a0 a1 a3 (0 : Int32) a2) [1, 2, 4] rfl
  · refine pg_iconst dX5_handsIn_58 ci_1 ?_
    refine pg_iload dX5_handsIn_59 5 rfl ?_
    refine pg_ishl dX5_handsIn_61 ?_
    refine pg_goto (tgt := 66) dX5_handsIn_62 rfl ?_
    exact pg_to (e_X5_handsIn_66 l D h k4 hk4 a0 a1 a3 ((1 : Int32) <<< (a4 &&& 31)) a2) [1, 2, 4] rfl
theorem e_X5_handsIn_49 (l : Launch) (D : pg_D)  (h : pg_H) (k4 : Nat → Int32 → Int32 → Int32 → Option Int32) (hk4 : ∀ (a0 : Nat) (a1 : Int32) (a2 : Int32) (a3 : Int32), pg_EvF l D RX5 cX5_handsIn 6 (some FieldType.int) "handsIn" 1 22 (pg_oI h) (k4 a0 a1 a2 a3) 4 [(0, pR a0), (1, pI a1), (2, pI a2), (3, pI a3)] [] h) (a0 : Nat) (a1 : Int32) (a2 : Int32) (a3 : Int32) (a4 : Int32) : pg_EvF l D RX5 cX5_handsIn 6 (some FieldType.int) "handsIn" 1 22 (pg_oI h) (F_X5_handsIn_49 h k4 a0 a1 a2 a3 a4) 49 [(0, pR a0), (1, pI a1), (2, pI a2), (3, pI a3), (4, pI a4)] [] h := by
  unfold F_X5_handsIn_49
  refine pg_iconst dX5_handsIn_49 ci_0 ?_
  exact pg_to (e_X5_handsIn_50 l D h k4 hk4 a0 a1 a2 a3 a4 (0 : Int32)) [0, 1, 2, 3, 4] rfl
theorem e_X5_handsIn_4 (l : Launch) (D : pg_D)  (h : pg_H) : ∀ (n : Nat) (a0 : Nat) (a1 : Int32) (a2 : Int32) (a3 : Int32), pg_EvF l D RX5 cX5_handsIn 6 (some FieldType.int) "handsIn" 1 22 (pg_oI h) (F_X5_handsIn_4 h n a0 a1 a2 a3) 4 [(0, pR a0), (1, pI a1), (2, pI a2), (3, pI a3)] [] h := by
  intro n
  induction n with
  | zero => intro a0 a1 a2 a3; exact pg_none
  | succ n ih =>
    intro a0 a1 a2 a3
    rw [F_X5_handsIn_4]
    refine pg_iload_n (i := 3) dX5_handsIn_4 rfl 3 rfl ?_
    refine pg_aload_n (i := 0) dX5_handsIn_5 rfl 0 rfl ?_
    refine pg_getR dX5_handsIn_6 fl_RX5_29 rfl (fun v1 => ?_)
    refine pg_callV_oI (As := []) (rs := [pI a3]) dX5_handsIn_9 lk_RX5_67 vy_X7_size nd_X7_size (c_X7_size l D h v1) rfl rfl (Nat.le_of_ble_eq_true rfl) (by decide) (by decide) (fun v2 => ?_)
    refine pg_icmp_ge (tgt := 74) dX5_handsIn_12 rfl ?_ ?_
    · refine pg_iload_n (i := 2) dX5_handsIn_74 rfl 2 rfl ?_
      exact pg_iret dX5_handsIn_75 rfl rfl
    · refine pg_aload_n (i := 0) dX5_handsIn_15 rfl 0 rfl ?_
      refine pg_getR dX5_handsIn_16 fl_RX5_29 rfl (fun v3 => ?_)
      refine pg_iload_n (i := 3) dX5_handsIn_19 rfl 3 rfl ?_
      refine pg_iconst dX5_handsIn_20 ci_3 ?_
      refine pg_callV_oI (As := [pI a3, pI (3 : Int32)]) (rs := []) dX5_handsIn_21 lk_RX5_70 vy_X7_at nd_X7_at (c_X7_at l D h v3 a3 (3 : Int32)) rfl rfl (Nat.le_of_ble_eq_true rfl) (by decide) (by decide) (fun v4 => ?_)
      refine pg_istore (lv' := [(4, pI v4), (0, pR a0), (1, pI a1), (2, pI a2), (3, pI a3)]) dX5_handsIn_24 (by decide) rfl ?_
      refine pg_aload_n (i := 0) dX5_handsIn_26 rfl 1 rfl ?_
      refine pg_getR dX5_handsIn_27 fl_RX5_29 rfl (fun v5 => ?_)
      refine pg_iload_n (i := 3) dX5_handsIn_30 rfl 4 rfl ?_
      refine pg_iconst dX5_handsIn_31 ci_0 ?_
      refine pg_callV_oI (As := [pI a3, pI (0 : Int32)]) (rs := []) dX5_handsIn_32 lk_RX5_70 vy_X7_at nd_X7_at (c_X7_at l D h v5 a3 (0 : Int32)) rfl rfl (Nat.le_of_ble_eq_true rfl) (by decide) (by decide) (fun v6 => ?_)
      refine pg_iload_n (i := 1) dX5_handsIn_35 rfl 2 rfl ?_
      refine pg_icmp_ne (tgt := 49) dX5_handsIn_36 rfl ?_ ?_
      · exact pg_to (e_X5_handsIn_49 l D h (F_X5_handsIn_4 h n) ih a0 a1 a2 a3 v4) [1, 2, 3, 4, 0] rfl
      · refine pg_iload dX5_handsIn_39 0 rfl ?_
        refine pg_iconst dX5_handsIn_41 ci_m1 ?_
        refine pg_icmp_eq (tgt := 49) dX5_handsIn_42 rfl ?_ ?_
        · exact pg_to (e_X5_handsIn_49 l D h (F_X5_handsIn_4 h n) ih a0 a1 a2 a3 v4) [1, 2, 3, 4, 0] rfl
        · refine pg_iconst dX5_handsIn_45 ci_1 ?_
          refine pg_goto (tgt := 50) dX5_handsIn_46 rfl ?_
          exact pg_to (e_X5_handsIn_50 l D h (F_X5_handsIn_4 h n) ih a0 a1 a2 a3 v4 (1 : Int32)) [1, 2, 3, 4, 0] rfl
theorem e_X5_handsIn (l : Launch) (D : pg_D)  (h : pg_H) (a0 : Nat) (a1 : Int32) : pg_EvF l D RX5 cX5_handsIn 6 (some FieldType.int) "handsIn" 1 22 (pg_oI h) (F_X5_handsIn h a0 a1) 0 [(0, pR a0), (1, pI a1)] [] h := by
  unfold F_X5_handsIn
  refine pg_iconst dX5_handsIn_0 ci_0 ?_
  refine pg_istore_n (i := 2) (lv' := [(2, pI (0 : Int32)), (0, pR a0), (1, pI a1)]) dX5_handsIn_1 rfl (by decide) rfl ?_
  refine pg_iconst dX5_handsIn_2 ci_0 ?_
  refine pg_istore_n (i := 3) (lv' := [(3, pI (0 : Int32)), (2, pI (0 : Int32)), (0, pR a0), (1, pI a1)]) dX5_handsIn_3 rfl (by decide) rfl ?_
  exact pg_to (e_X5_handsIn_4 l D h pg_fuel a0 a1 (0 : Int32) (0 : Int32)) [2, 3, 1, 0] rfl
theorem c_X5_handsIn (l : Launch) (D : pg_D) (h : pg_H) (a0 : Nat) (a1 : Int32)  : ∀ x, F_X5_handsIn h a0 a1 = some x → pg_Ct l D yX5_handsIn cX5_handsIn 6 (some FieldType.int) 1 22 [pR a0, pI a1] h (pg_oI h x) :=
  pg_Ct.of pn_RX5 (Nat.le_of_ble_eq_true rfl) (e_X5_handsIn l D h a0 a1)
def F_X5_firstYear_122 (h : pg_H) (k64 : Nat → Int32 → Int32 → Int32 → Int32 → Option Int32) (a0 : Nat) (a1 : Int32) (a2 : Int32) (a4 : Int32) (a5 : Int32) : Option Int32 := (k64 a0 a1 a2 a4 (a5 + (1 : Int32)))
def F_X5_firstYear_120 (h : pg_H) (k64 : Nat → Int32 → Int32 → Int32 → Int32 → Option Int32) (a0 : Nat) (a1 : Int32) (a2 : Int32) (a5 : Int32) (s0 : Int32) : Option Int32 := (F_X5_firstYear_122 h k64 a0 a1 a2 s0 a5)
def F_X5_firstYear_64 (h : pg_H) : Nat → Nat → Int32 → Int32 → Int32 → Int32 → Option Int32
  | 0 => fun _ _ _ _ _ => none
  | n + 1 => fun a0 a1 a2 a4 a5 => Option.bind (pg_gR 5 1 h a0) fun v1 => Option.bind (pg_rcv 7 h v1 (F_X7_size h v1)) fun v2 => (if a5 < v2 then Option.bind (pg_gR 5 1 h a0) fun v3 => Option.bind (pg_rcv 7 h v3 (F_X7_at h v3 a5 (0 : Int32))) fun v4 => (if v4 = a1 then Option.bind (pg_gR 5 1 h a0) fun v5 => Option.bind (pg_rcv 7 h v5 (F_X7_at h v5 a5 (2 : Int32))) fun v6 => (if a4 = (-1 : Int32) then (F_X5_firstYear_120 h (F_X5_firstYear_64 h n) a0 a1 a2 a5 v6) else (F_X5_firstYear_120 h (F_X5_firstYear_64 h n) a0 a1 a2 a5 (if v6 < a4 then v6 else a4))) else (F_X5_firstYear_122 h (F_X5_firstYear_64 h n) a0 a1 a2 a4 a5)) else (some (if a2 < a4 then a4 else a2)))
def F_X5_firstYear_48 (h : pg_H) (k11 : Nat → Int32 → Int32 → Int32 → Int32 → Option Int32) (a0 : Nat) (a1 : Int32) (a3 : Int32) (a4 : Int32) (s0 : Int32) (s1 : Int32) : Option Int32 := pg_let (if s1 < s0 then s0 else s1) fun v1 => (k11 a0 a1 v1 a3 (a4 + (1 : Int32)))
def F_X5_firstYear_11 (h : pg_H) : Nat → Nat → Int32 → Int32 → Int32 → Int32 → Option Int32
  | 0 => fun _ _ _ _ _ => none
  | n + 1 => fun a0 a1 a2 a3 a4 => Option.bind (pg_gR 5 2 h a0) fun v1 => Option.bind (pg_rcv 7 h v1 (F_X7_size h v1)) fun v2 => (if a4 < v2 then (if ((a3 >>> (a4 &&& 31)) &&& (1 : Int32)) = (1 : Int32) then Option.bind (pg_gR 5 2 h a0) fun v3 => Option.bind (pg_rcv 7 h v3 (F_X7_at h v3 a4 (0 : Int32))) fun v4 => (F_X5_firstYear_48 h (F_X5_firstYear_11 h n) a0 a1 a3 a4 v4 a2) else (F_X5_firstYear_48 h (F_X5_firstYear_11 h n) a0 a1 a3 a4 (0 : Int32) a2)) else (F_X5_firstYear_64 h pg_fuel a0 a1 a2 (-1 : Int32) (0 : Int32)))
def F_X5_firstYear (h : pg_H) (a0 : Nat) (a1 : Int32) : Option Int32 := Option.bind (pg_rcv 5 h a0 (F_X5_handsIn h a0 a1)) fun v1 => (F_X5_firstYear_11 h pg_fuel a0 a1 (0 : Int32) v1 (0 : Int32))
theorem e_X5_firstYear_122 (l : Launch) (D : pg_D)  (h : pg_H) (k64 : Nat → Int32 → Int32 → Int32 → Int32 → Option Int32) (hk64 : ∀ (a0 : Nat) (a1 : Int32) (a2 : Int32) (a4 : Int32) (a5 : Int32), pg_EvF l D RX5 cX5_firstYear 7 (some FieldType.int) "firstYear" 2 47 (pg_oI h) (k64 a0 a1 a2 a4 a5) 64 [(0, pR a0), (1, pI a1), (2, pI a2), (4, pI a4), (5, pI a5)] [] h) (a0 : Nat) (a1 : Int32) (a2 : Int32) (a4 : Int32) (a5 : Int32) : pg_EvF l D RX5 cX5_firstYear 7 (some FieldType.int) "firstYear" 2 47 (pg_oI h) (F_X5_firstYear_122 h k64 a0 a1 a2 a4 a5) 122 [(0, pR a0), (1, pI a1), (2, pI a2), (4, pI a4), (5, pI a5)] [] h := by
  unfold F_X5_firstYear_122
  refine pg_iinc (lv' := [(5, pI (a5 + (1 : Int32))), (0, pR a0), (1, pI a1), (2, pI a2), (4, pI a4)]) dX5_firstYear_122 4 rfl ci_1 (by decide) rfl ?_
  refine pg_goto (tgt := 64) dX5_firstYear_125 rfl ?_
  exact pg_to (hk64 a0 a1 a2 a4 (a5 + (1 : Int32))) [1, 2, 3, 4, 0] rfl
theorem e_X5_firstYear_120 (l : Launch) (D : pg_D)  (h : pg_H) (k64 : Nat → Int32 → Int32 → Int32 → Int32 → Option Int32) (hk64 : ∀ (a0 : Nat) (a1 : Int32) (a2 : Int32) (a4 : Int32) (a5 : Int32), pg_EvF l D RX5 cX5_firstYear 7 (some FieldType.int) "firstYear" 2 47 (pg_oI h) (k64 a0 a1 a2 a4 a5) 64 [(0, pR a0), (1, pI a1), (2, pI a2), (4, pI a4), (5, pI a5)] [] h) (a0 : Nat) (a1 : Int32) (a2 : Int32) (a5 : Int32) (s0 : Int32) : pg_EvF l D RX5 cX5_firstYear 7 (some FieldType.int) "firstYear" 2 47 (pg_oI h) (F_X5_firstYear_120 h k64 a0 a1 a2 a5 s0) 120 [(0, pR a0), (1, pI a1), (2, pI a2), (5, pI a5)] [pI s0] h := by
  unfold F_X5_firstYear_120
  refine pg_istore (lv' := [(4, pI s0), (0, pR a0), (1, pI a1), (2, pI a2), (5, pI a5)]) dX5_firstYear_120 (by decide) rfl ?_
  exact pg_to (e_X5_firstYear_122 l D h k64 hk64 a0 a1 a2 s0 a5) [1, 2, 3, 0, 4] rfl
theorem e_X5_firstYear_64 (l : Launch) (D : pg_D)  (h : pg_H) : ∀ (n : Nat) (a0 : Nat) (a1 : Int32) (a2 : Int32) (a4 : Int32) (a5 : Int32), pg_EvF l D RX5 cX5_firstYear 7 (some FieldType.int) "firstYear" 2 47 (pg_oI h) (F_X5_firstYear_64 h n a0 a1 a2 a4 a5) 64 [(0, pR a0), (1, pI a1), (2, pI a2), (4, pI a4), (5, pI a5)] [] h := by
  intro n
  induction n with
  | zero => intro a0 a1 a2 a4 a5; exact pg_none
  | succ n ih =>
    intro a0 a1 a2 a4 a5
    rw [F_X5_firstYear_64]
    refine pg_iload dX5_firstYear_64 4 rfl ?_
    refine pg_aload_n (i := 0) dX5_firstYear_66 rfl 0 rfl ?_
    refine pg_getR dX5_firstYear_67 fl_RX5_20 rfl (fun v1 => ?_)
    refine pg_callV_oI (As := []) (rs := [pI a5]) dX5_firstYear_70 lk_RX5_67 vy_X7_size nd_X7_size (c_X7_size l D h v1) rfl rfl (Nat.le_of_ble_eq_true rfl) (by decide) (by decide) (fun v2 => ?_)
    refine pg_icmp_ge (tgt := 128) dX5_firstYear_73 rfl ?_ ?_
    · refine pg_iload_n (i := 2) dX5_firstYear_128 rfl 2 rfl ?_
      refine pg_iload dX5_firstYear_129 3 rfl ?_
      refine pg_mmax dX5_firstYear_131 pw5_57 pw_max1 pw_math pw_max2 (Nat.le_of_ble_eq_true rfl) (by decide) (by decide) ?_
      exact pg_iret dX5_firstYear_134 rfl rfl
    · refine pg_aload_n (i := 0) dX5_firstYear_76 rfl 0 rfl ?_
      refine pg_getR dX5_firstYear_77 fl_RX5_20 rfl (fun v3 => ?_)
      refine pg_iload dX5_firstYear_80 4 rfl ?_
      refine pg_iconst dX5_firstYear_82 ci_0 ?_
      refine pg_callV_oI (As := [pI a5, pI (0 : Int32)]) (rs := []) dX5_firstYear_83 lk_RX5_70 vy_X7_at nd_X7_at (c_X7_at l D h v3 a5 (0 : Int32)) rfl rfl (Nat.le_of_ble_eq_true rfl) (by decide) (by decide) (fun v4 => ?_)
      refine pg_iload_n (i := 1) dX5_firstYear_86 rfl 1 rfl ?_
      refine pg_icmp_ne (tgt := 122) dX5_firstYear_87 rfl ?_ ?_
      · exact pg_to (e_X5_firstYear_122 l D h (F_X5_firstYear_64 h n) ih a0 a1 a2 a4 a5) [0, 1, 2, 3, 4] rfl
      · refine pg_aload_n (i := 0) dX5_firstYear_90 rfl 0 rfl ?_
        refine pg_getR dX5_firstYear_91 fl_RX5_20 rfl (fun v5 => ?_)
        refine pg_iload dX5_firstYear_94 4 rfl ?_
        refine pg_iconst dX5_firstYear_96 ci_2 ?_
        refine pg_callV_oI (As := [pI a5, pI (2 : Int32)]) (rs := []) dX5_firstYear_97 lk_RX5_70 vy_X7_at nd_X7_at (c_X7_at l D h v5 a5 (2 : Int32)) rfl rfl (Nat.le_of_ble_eq_true rfl) (by decide) (by decide) (fun v6 => ?_)
        refine pg_istore (lv' := [(6, pI v6), (0, pR a0), (1, pI a1), (2, pI a2), (4, pI a4), (5, pI a5)]) dX5_firstYear_100 (by decide) rfl ?_
        refine pg_iload dX5_firstYear_102 4 rfl ?_
        refine pg_iconst dX5_firstYear_104 ci_m1 ?_
        refine pg_icmp_ne (tgt := 113) dX5_firstYear_105 rfl ?_ ?_
        · refine pg_iload dX5_firstYear_113 4 rfl ?_
          refine pg_iload dX5_firstYear_115 0 rfl ?_
          refine pg_mmin dX5_firstYear_117 pw5_58 pw_min1 pw_math pw_min2 (Nat.le_of_ble_eq_true rfl) (by decide) (by decide) ?_
          exact pg_to (e_X5_firstYear_120 l D h (F_X5_firstYear_64 h n) ih a0 a1 a2 a5 (if v6 < a4 then v6 else a4)) [1, 2, 3, 5] rfl
        · refine pg_iload dX5_firstYear_108 0 rfl ?_
          refine pg_goto (tgt := 120) dX5_firstYear_110 rfl ?_
          exact pg_to (e_X5_firstYear_120 l D h (F_X5_firstYear_64 h n) ih a0 a1 a2 a5 v6) [1, 2, 3, 5] rfl
theorem e_X5_firstYear_48 (l : Launch) (D : pg_D)  (h : pg_H) (k11 : Nat → Int32 → Int32 → Int32 → Int32 → Option Int32) (hk11 : ∀ (a0 : Nat) (a1 : Int32) (a2 : Int32) (a3 : Int32) (a4 : Int32), pg_EvF l D RX5 cX5_firstYear 7 (some FieldType.int) "firstYear" 2 47 (pg_oI h) (k11 a0 a1 a2 a3 a4) 11 [(0, pR a0), (1, pI a1), (2, pI a2), (3, pI a3), (4, pI a4)] [] h) (a0 : Nat) (a1 : Int32) (a3 : Int32) (a4 : Int32) (s0 : Int32) (s1 : Int32) : pg_EvF l D RX5 cX5_firstYear 7 (some FieldType.int) "firstYear" 2 47 (pg_oI h) (F_X5_firstYear_48 h k11 a0 a1 a3 a4 s0 s1) 48 [(0, pR a0), (1, pI a1), (3, pI a3), (4, pI a4)] [pI s0, pI s1] h := by
  unfold F_X5_firstYear_48
  refine pg_mmax dX5_firstYear_48 pw5_57 pw_max1 pw_math pw_max2 (Nat.le_of_ble_eq_true rfl) (by decide) (by decide) ?_
  refine pg_letI (fun v1 => ?_)
  refine pg_istore_n (i := 2) (lv' := [(2, pI v1), (0, pR a0), (1, pI a1), (3, pI a3), (4, pI a4)]) dX5_firstYear_51 rfl (by decide) rfl ?_
  refine pg_iinc (lv' := [(4, pI (a4 + (1 : Int32))), (2, pI v1), (0, pR a0), (1, pI a1), (3, pI a3)]) dX5_firstYear_52 4 rfl ci_1 (by decide) rfl ?_
  refine pg_goto (tgt := 11) dX5_firstYear_55 rfl ?_
  exact pg_to (hk11 a0 a1 v1 a3 (a4 + (1 : Int32))) [2, 3, 1, 4, 0] rfl
theorem e_X5_firstYear_11 (l : Launch) (D : pg_D)  (h : pg_H) : ∀ (n : Nat) (a0 : Nat) (a1 : Int32) (a2 : Int32) (a3 : Int32) (a4 : Int32), pg_EvF l D RX5 cX5_firstYear 7 (some FieldType.int) "firstYear" 2 47 (pg_oI h) (F_X5_firstYear_11 h n a0 a1 a2 a3 a4) 11 [(0, pR a0), (1, pI a1), (2, pI a2), (3, pI a3), (4, pI a4)] [] h := by
  intro n
  induction n with
  | zero => intro a0 a1 a2 a3 a4; exact pg_none
  | succ n ih =>
    intro a0 a1 a2 a3 a4
    rw [F_X5_firstYear_11]
    refine pg_iload dX5_firstYear_11 4 rfl ?_
    refine pg_aload_n (i := 0) dX5_firstYear_13 rfl 0 rfl ?_
    refine pg_getR dX5_firstYear_14 fl_RX5_23 rfl (fun v1 => ?_)
    refine pg_callV_oI (As := []) (rs := [pI a4]) dX5_firstYear_17 lk_RX5_67 vy_X7_size nd_X7_size (c_X7_size l D h v1) rfl rfl (Nat.le_of_ble_eq_true rfl) (by decide) (by decide) (fun v2 => ?_)
    refine pg_icmp_ge (tgt := 58) dX5_firstYear_20 rfl ?_ ?_
    · refine pg_iconst dX5_firstYear_58 ci_m1 ?_
      refine pg_istore (lv' := [(4, pI (-1 : Int32)), (0, pR a0), (1, pI a1), (2, pI a2), (3, pI a3)]) dX5_firstYear_59 (by decide) rfl ?_
      refine pg_iconst dX5_firstYear_61 ci_0 ?_
      refine pg_istore (lv' := [(5, pI (0 : Int32)), (4, pI (-1 : Int32)), (0, pR a0), (1, pI a1), (2, pI a2), (3, pI a3)]) dX5_firstYear_62 (by decide) rfl ?_
      exact pg_to (e_X5_firstYear_64 l D h pg_fuel a0 a1 a2 (-1 : Int32) (0 : Int32)) [2, 3, 4, 1, 0] rfl
    · refine pg_iload_n (i := 2) dX5_firstYear_23 rfl 2 rfl ?_
      refine pg_iload_n (i := 3) dX5_firstYear_24 rfl 3 rfl ?_
      refine pg_iload dX5_firstYear_25 4 rfl ?_
      refine pg_ishr dX5_firstYear_27 ?_
      refine pg_iconst dX5_firstYear_28 ci_1 ?_
      refine pg_iand dX5_firstYear_29 ?_
      refine pg_iconst dX5_firstYear_30 ci_1 ?_
      refine pg_icmp_ne (tgt := 47) dX5_firstYear_31 rfl ?_ ?_
      · refine pg_iconst dX5_firstYear_47 ci_0 ?_
        exact pg_to (e_X5_firstYear_48 l D h (F_X5_firstYear_11 h n) ih a0 a1 a3 a4 (0 : Int32) a2) [0, 1, 3, 4] rfl
      · refine pg_aload_n (i := 0) dX5_firstYear_34 rfl 0 rfl ?_
        refine pg_getR dX5_firstYear_35 fl_RX5_23 rfl (fun v3 => ?_)
        refine pg_iload dX5_firstYear_38 4 rfl ?_
        refine pg_iconst dX5_firstYear_40 ci_0 ?_
        refine pg_callV_oI (As := [pI a4, pI (0 : Int32)]) (rs := [pI a2]) dX5_firstYear_41 lk_RX5_70 vy_X7_at nd_X7_at (c_X7_at l D h v3 a4 (0 : Int32)) rfl rfl (Nat.le_of_ble_eq_true rfl) (by decide) (by decide) (fun v4 => ?_)
        refine pg_goto (tgt := 48) dX5_firstYear_44 rfl ?_
        exact pg_to (e_X5_firstYear_48 l D h (F_X5_firstYear_11 h n) ih a0 a1 a3 a4 v4 a2) [0, 1, 3, 4] rfl
theorem e_X5_firstYear (l : Launch) (D : pg_D)  (h : pg_H) (a0 : Nat) (a1 : Int32) : pg_EvF l D RX5 cX5_firstYear 7 (some FieldType.int) "firstYear" 2 47 (pg_oI h) (F_X5_firstYear h a0 a1) 0 [(0, pR a0), (1, pI a1)] [] h := by
  unfold F_X5_firstYear
  refine pg_iconst dX5_firstYear_0 ci_0 ?_
  refine pg_istore_n (i := 2) (lv' := [(2, pI (0 : Int32)), (0, pR a0), (1, pI a1)]) dX5_firstYear_1 rfl (by decide) rfl ?_
  refine pg_aload_n (i := 0) dX5_firstYear_2 rfl 1 rfl ?_
  refine pg_iload_n (i := 1) dX5_firstYear_3 rfl 2 rfl ?_
  refine pg_callV_oI (As := [pI a1]) (rs := []) dX5_firstYear_4 lk_RX5_93 vy_X5_handsIn nd_X5_handsIn (c_X5_handsIn l D h a0 a1) rfl rfl (Nat.le_of_ble_eq_true rfl) (by decide) (by decide) (fun v1 => ?_)
  refine pg_istore_n (i := 3) (lv' := [(3, pI v1), (2, pI (0 : Int32)), (0, pR a0), (1, pI a1)]) dX5_firstYear_7 rfl (by decide) rfl ?_
  refine pg_iconst dX5_firstYear_8 ci_0 ?_
  refine pg_istore (lv' := [(4, pI (0 : Int32)), (3, pI v1), (2, pI (0 : Int32)), (0, pR a0), (1, pI a1)]) dX5_firstYear_9 (by decide) rfl ?_
  exact pg_to (e_X5_firstYear_11 l D h pg_fuel a0 a1 (0 : Int32) v1 (0 : Int32)) [3, 4, 2, 1, 0] rfl
theorem c_X5_firstYear (l : Launch) (D : pg_D) (h : pg_H) (a0 : Nat) (a1 : Int32)  : ∀ x, F_X5_firstYear h a0 a1 = some x → pg_Ct l D yX5_firstYear cX5_firstYear 7 (some FieldType.int) 2 47 [pR a0, pI a1] h (pg_oI h x) :=
  pg_Ct.of pn_RX5 (Nat.le_of_ble_eq_true rfl) (e_X5_firstYear l D h a0 a1)
def F_X5_lastYear_111 (h : pg_H) (k68 : Nat → Int32 → Int32 → Int32 → Int32 → Option Int32) (a0 : Nat) (a1 : Int32) (a2 : Int32) (a4 : Int32) (a5 : Int32) : Option Int32 := (k68 a0 a1 a2 a4 (a5 + (1 : Int32)))
def F_X5_lastYear_68 (h : pg_H) : Nat → Nat → Int32 → Int32 → Int32 → Int32 → Option Int32
  | 0 => fun _ _ _ _ _ => none
  | n + 1 => fun a0 a1 a2 a4 a5 => Option.bind (pg_gR 5 1 h a0) fun v1 => Option.bind (pg_rcv 7 h v1 (F_X7_size h v1)) fun v2 => (if a5 < v2 then Option.bind (pg_gR 5 1 h a0) fun v3 => Option.bind (pg_rcv 7 h v3 (F_X7_at h v3 a5 (0 : Int32))) fun v4 => (if v4 = a1 then Option.bind (pg_gR 5 1 h a0) fun v5 => Option.bind (pg_rcv 7 h v5 (F_X7_at h v5 a5 (3 : Int32))) fun v6 => pg_let (if a4 < v6 then v6 else a4) fun v7 => (F_X5_lastYear_111 h (F_X5_lastYear_68 h n) a0 a1 a2 v7 a5) else (F_X5_lastYear_111 h (F_X5_lastYear_68 h n) a0 a1 a2 a4 a5)) else (if a4 = (-1 : Int32) then (some a2) else (some (if a4 < a2 then a4 else a2))))
def F_X5_lastYear_52 (h : pg_H) (k13 : Nat → Int32 → Int32 → Int32 → Int32 → Option Int32) (a0 : Nat) (a1 : Int32) (a3 : Int32) (a4 : Int32) (s0 : Int32) (s1 : Int32) : Option Int32 := pg_let (if s0 < s1 then s0 else s1) fun v1 => (k13 a0 a1 v1 a3 (a4 + (1 : Int32)))
def F_X5_lastYear_13 (h : pg_H) : Nat → Nat → Int32 → Int32 → Int32 → Int32 → Option Int32
  | 0 => fun _ _ _ _ _ => none
  | n + 1 => fun a0 a1 a2 a3 a4 => Option.bind (pg_gR 5 2 h a0) fun v1 => Option.bind (pg_rcv 7 h v1 (F_X7_size h v1)) fun v2 => (if a4 < v2 then (if ((a3 >>> (a4 &&& 31)) &&& (1 : Int32)) = (1 : Int32) then Option.bind (pg_gR 5 2 h a0) fun v3 => Option.bind (pg_rcv 7 h v3 (F_X7_at h v3 a4 (1 : Int32))) fun v4 => (F_X5_lastYear_52 h (F_X5_lastYear_13 h n) a0 a1 a3 a4 v4 a2) else (F_X5_lastYear_52 h (F_X5_lastYear_13 h n) a0 a1 a3 a4 (400 : Int32) a2)) else (F_X5_lastYear_68 h pg_fuel a0 a1 a2 (-1 : Int32) (0 : Int32)))
def F_X5_lastYear (h : pg_H) (a0 : Nat) (a1 : Int32) : Option Int32 := Option.bind (pg_rcv 5 h a0 (F_X5_handsIn h a0 a1)) fun v1 => (F_X5_lastYear_13 h pg_fuel a0 a1 (400 : Int32) v1 (0 : Int32))
theorem e_X5_lastYear_111 (l : Launch) (D : pg_D)  (h : pg_H) (k68 : Nat → Int32 → Int32 → Int32 → Int32 → Option Int32) (hk68 : ∀ (a0 : Nat) (a1 : Int32) (a2 : Int32) (a4 : Int32) (a5 : Int32), pg_EvF l D RX5 cX5_lastYear 6 (some FieldType.int) "lastYear" 2 47 (pg_oI h) (k68 a0 a1 a2 a4 a5) 68 [(0, pR a0), (1, pI a1), (2, pI a2), (4, pI a4), (5, pI a5)] [] h) (a0 : Nat) (a1 : Int32) (a2 : Int32) (a4 : Int32) (a5 : Int32) : pg_EvF l D RX5 cX5_lastYear 6 (some FieldType.int) "lastYear" 2 47 (pg_oI h) (F_X5_lastYear_111 h k68 a0 a1 a2 a4 a5) 111 [(0, pR a0), (1, pI a1), (2, pI a2), (4, pI a4), (5, pI a5)] [] h := by
  unfold F_X5_lastYear_111
  refine pg_iinc (lv' := [(5, pI (a5 + (1 : Int32))), (0, pR a0), (1, pI a1), (2, pI a2), (4, pI a4)]) dX5_lastYear_111 4 rfl ci_1 (by decide) rfl ?_
  refine pg_goto (tgt := 68) dX5_lastYear_114 rfl ?_
  exact pg_to (hk68 a0 a1 a2 a4 (a5 + (1 : Int32))) [1, 2, 3, 4, 0] rfl
theorem e_X5_lastYear_68 (l : Launch) (D : pg_D)  (h : pg_H) : ∀ (n : Nat) (a0 : Nat) (a1 : Int32) (a2 : Int32) (a4 : Int32) (a5 : Int32), pg_EvF l D RX5 cX5_lastYear 6 (some FieldType.int) "lastYear" 2 47 (pg_oI h) (F_X5_lastYear_68 h n a0 a1 a2 a4 a5) 68 [(0, pR a0), (1, pI a1), (2, pI a2), (4, pI a4), (5, pI a5)] [] h := by
  intro n
  induction n with
  | zero => intro a0 a1 a2 a4 a5; exact pg_none
  | succ n ih =>
    intro a0 a1 a2 a4 a5
    rw [F_X5_lastYear_68]
    refine pg_iload dX5_lastYear_68 4 rfl ?_
    refine pg_aload_n (i := 0) dX5_lastYear_70 rfl 0 rfl ?_
    refine pg_getR dX5_lastYear_71 fl_RX5_20 rfl (fun v1 => ?_)
    refine pg_callV_oI (As := []) (rs := [pI a5]) dX5_lastYear_74 lk_RX5_67 vy_X7_size nd_X7_size (c_X7_size l D h v1) rfl rfl (Nat.le_of_ble_eq_true rfl) (by decide) (by decide) (fun v2 => ?_)
    refine pg_icmp_ge (tgt := 117) dX5_lastYear_77 rfl ?_ ?_
    · refine pg_iload dX5_lastYear_117 3 rfl ?_
      refine pg_iconst dX5_lastYear_119 ci_m1 ?_
      refine pg_icmp_ne (tgt := 127) dX5_lastYear_120 rfl ?_ ?_
      · refine pg_iload_n (i := 2) dX5_lastYear_127 rfl 2 rfl ?_
        refine pg_iload dX5_lastYear_128 3 rfl ?_
        refine pg_mmin dX5_lastYear_130 pw5_58 pw_min1 pw_math pw_min2 (Nat.le_of_ble_eq_true rfl) (by decide) (by decide) ?_
        exact pg_iret dX5_lastYear_133 rfl rfl
      · refine pg_iload_n (i := 2) dX5_lastYear_123 rfl 2 rfl ?_
        refine pg_goto (tgt := 133) dX5_lastYear_124 rfl ?_
        exact pg_iret dX5_lastYear_133 rfl rfl
    · refine pg_aload_n (i := 0) dX5_lastYear_80 rfl 0 rfl ?_
      refine pg_getR dX5_lastYear_81 fl_RX5_20 rfl (fun v3 => ?_)
      refine pg_iload dX5_lastYear_84 4 rfl ?_
      refine pg_iconst dX5_lastYear_86 ci_0 ?_
      refine pg_callV_oI (As := [pI a5, pI (0 : Int32)]) (rs := []) dX5_lastYear_87 lk_RX5_70 vy_X7_at nd_X7_at (c_X7_at l D h v3 a5 (0 : Int32)) rfl rfl (Nat.le_of_ble_eq_true rfl) (by decide) (by decide) (fun v4 => ?_)
      refine pg_iload_n (i := 1) dX5_lastYear_90 rfl 1 rfl ?_
      refine pg_icmp_ne (tgt := 111) dX5_lastYear_91 rfl ?_ ?_
      · exact pg_to (e_X5_lastYear_111 l D h (F_X5_lastYear_68 h n) ih a0 a1 a2 a4 a5) [0, 1, 2, 3, 4] rfl
      · refine pg_iload dX5_lastYear_94 3 rfl ?_
        refine pg_aload_n (i := 0) dX5_lastYear_96 rfl 0 rfl ?_
        refine pg_getR dX5_lastYear_97 fl_RX5_20 rfl (fun v5 => ?_)
        refine pg_iload dX5_lastYear_100 4 rfl ?_
        refine pg_iconst dX5_lastYear_102 ci_3 ?_
        refine pg_callV_oI (As := [pI a5, pI (3 : Int32)]) (rs := [pI a4]) dX5_lastYear_103 lk_RX5_70 vy_X7_at nd_X7_at (c_X7_at l D h v5 a5 (3 : Int32)) rfl rfl (Nat.le_of_ble_eq_true rfl) (by decide) (by decide) (fun v6 => ?_)
        refine pg_mmax dX5_lastYear_106 pw5_57 pw_max1 pw_math pw_max2 (Nat.le_of_ble_eq_true rfl) (by decide) (by decide) ?_
        refine pg_letI (fun v7 => ?_)
        refine pg_istore (lv' := [(4, pI v7), (0, pR a0), (1, pI a1), (2, pI a2), (5, pI a5)]) dX5_lastYear_109 (by decide) rfl ?_
        exact pg_to (e_X5_lastYear_111 l D h (F_X5_lastYear_68 h n) ih a0 a1 a2 v7 a5) [1, 2, 3, 0, 4] rfl
theorem e_X5_lastYear_52 (l : Launch) (D : pg_D)  (h : pg_H) (k13 : Nat → Int32 → Int32 → Int32 → Int32 → Option Int32) (hk13 : ∀ (a0 : Nat) (a1 : Int32) (a2 : Int32) (a3 : Int32) (a4 : Int32), pg_EvF l D RX5 cX5_lastYear 6 (some FieldType.int) "lastYear" 2 47 (pg_oI h) (k13 a0 a1 a2 a3 a4) 13 [(0, pR a0), (1, pI a1), (2, pI a2), (3, pI a3), (4, pI a4)] [] h) (a0 : Nat) (a1 : Int32) (a3 : Int32) (a4 : Int32) (s0 : Int32) (s1 : Int32) : pg_EvF l D RX5 cX5_lastYear 6 (some FieldType.int) "lastYear" 2 47 (pg_oI h) (F_X5_lastYear_52 h k13 a0 a1 a3 a4 s0 s1) 52 [(0, pR a0), (1, pI a1), (3, pI a3), (4, pI a4)] [pI s0, pI s1] h := by
  unfold F_X5_lastYear_52
  refine pg_mmin dX5_lastYear_52 pw5_58 pw_min1 pw_math pw_min2 (Nat.le_of_ble_eq_true rfl) (by decide) (by decide) ?_
  refine pg_letI (fun v1 => ?_)
  refine pg_istore_n (i := 2) (lv' := [(2, pI v1), (0, pR a0), (1, pI a1), (3, pI a3), (4, pI a4)]) dX5_lastYear_55 rfl (by decide) rfl ?_
  refine pg_iinc (lv' := [(4, pI (a4 + (1 : Int32))), (2, pI v1), (0, pR a0), (1, pI a1), (3, pI a3)]) dX5_lastYear_56 4 rfl ci_1 (by decide) rfl ?_
  refine pg_goto (tgt := 13) dX5_lastYear_59 rfl ?_
  exact pg_to (hk13 a0 a1 v1 a3 (a4 + (1 : Int32))) [2, 3, 1, 4, 0] rfl
theorem e_X5_lastYear_13 (l : Launch) (D : pg_D)  (h : pg_H) : ∀ (n : Nat) (a0 : Nat) (a1 : Int32) (a2 : Int32) (a3 : Int32) (a4 : Int32), pg_EvF l D RX5 cX5_lastYear 6 (some FieldType.int) "lastYear" 2 47 (pg_oI h) (F_X5_lastYear_13 h n a0 a1 a2 a3 a4) 13 [(0, pR a0), (1, pI a1), (2, pI a2), (3, pI a3), (4, pI a4)] [] h := by
  intro n
  induction n with
  | zero => intro a0 a1 a2 a3 a4; exact pg_none
  | succ n ih =>
    intro a0 a1 a2 a3 a4
    rw [F_X5_lastYear_13]
    refine pg_iload dX5_lastYear_13 4 rfl ?_
    refine pg_aload_n (i := 0) dX5_lastYear_15 rfl 0 rfl ?_
    refine pg_getR dX5_lastYear_16 fl_RX5_23 rfl (fun v1 => ?_)
    refine pg_callV_oI (As := []) (rs := [pI a4]) dX5_lastYear_19 lk_RX5_67 vy_X7_size nd_X7_size (c_X7_size l D h v1) rfl rfl (Nat.le_of_ble_eq_true rfl) (by decide) (by decide) (fun v2 => ?_)
    refine pg_icmp_ge (tgt := 62) dX5_lastYear_22 rfl ?_ ?_
    · refine pg_iconst dX5_lastYear_62 ci_m1 ?_
      refine pg_istore (lv' := [(4, pI (-1 : Int32)), (0, pR a0), (1, pI a1), (2, pI a2), (3, pI a3)]) dX5_lastYear_63 (by decide) rfl ?_
      refine pg_iconst dX5_lastYear_65 ci_0 ?_
      refine pg_istore (lv' := [(5, pI (0 : Int32)), (4, pI (-1 : Int32)), (0, pR a0), (1, pI a1), (2, pI a2), (3, pI a3)]) dX5_lastYear_66 (by decide) rfl ?_
      exact pg_to (e_X5_lastYear_68 l D h pg_fuel a0 a1 a2 (-1 : Int32) (0 : Int32)) [2, 3, 4, 1, 0] rfl
    · refine pg_iload_n (i := 2) dX5_lastYear_25 rfl 2 rfl ?_
      refine pg_iload_n (i := 3) dX5_lastYear_26 rfl 3 rfl ?_
      refine pg_iload dX5_lastYear_27 4 rfl ?_
      refine pg_ishr dX5_lastYear_29 ?_
      refine pg_iconst dX5_lastYear_30 ci_1 ?_
      refine pg_iand dX5_lastYear_31 ?_
      refine pg_iconst dX5_lastYear_32 ci_1 ?_
      refine pg_icmp_ne (tgt := 49) dX5_lastYear_33 rfl ?_ ?_
      · refine pg_sipush dX5_lastYear_49 cs_400 ?_
        exact pg_to (e_X5_lastYear_52 l D h (F_X5_lastYear_13 h n) ih a0 a1 a3 a4 (400 : Int32) a2) [0, 1, 3, 4] rfl
      · refine pg_aload_n (i := 0) dX5_lastYear_36 rfl 0 rfl ?_
        refine pg_getR dX5_lastYear_37 fl_RX5_23 rfl (fun v3 => ?_)
        refine pg_iload dX5_lastYear_40 4 rfl ?_
        refine pg_iconst dX5_lastYear_42 ci_1 ?_
        refine pg_callV_oI (As := [pI a4, pI (1 : Int32)]) (rs := [pI a2]) dX5_lastYear_43 lk_RX5_70 vy_X7_at nd_X7_at (c_X7_at l D h v3 a4 (1 : Int32)) rfl rfl (Nat.le_of_ble_eq_true rfl) (by decide) (by decide) (fun v4 => ?_)
        refine pg_goto (tgt := 52) dX5_lastYear_46 rfl ?_
        exact pg_to (e_X5_lastYear_52 l D h (F_X5_lastYear_13 h n) ih a0 a1 a3 a4 v4 a2) [0, 1, 3, 4] rfl
theorem e_X5_lastYear (l : Launch) (D : pg_D)  (h : pg_H) (a0 : Nat) (a1 : Int32) : pg_EvF l D RX5 cX5_lastYear 6 (some FieldType.int) "lastYear" 2 47 (pg_oI h) (F_X5_lastYear h a0 a1) 0 [(0, pR a0), (1, pI a1)] [] h := by
  unfold F_X5_lastYear
  refine pg_sipush dX5_lastYear_0 cs_400 ?_
  refine pg_istore_n (i := 2) (lv' := [(2, pI (400 : Int32)), (0, pR a0), (1, pI a1)]) dX5_lastYear_3 rfl (by decide) rfl ?_
  refine pg_aload_n (i := 0) dX5_lastYear_4 rfl 1 rfl ?_
  refine pg_iload_n (i := 1) dX5_lastYear_5 rfl 2 rfl ?_
  refine pg_callV_oI (As := [pI a1]) (rs := []) dX5_lastYear_6 lk_RX5_93 vy_X5_handsIn nd_X5_handsIn (c_X5_handsIn l D h a0 a1) rfl rfl (Nat.le_of_ble_eq_true rfl) (by decide) (by decide) (fun v1 => ?_)
  refine pg_istore_n (i := 3) (lv' := [(3, pI v1), (2, pI (400 : Int32)), (0, pR a0), (1, pI a1)]) dX5_lastYear_9 rfl (by decide) rfl ?_
  refine pg_iconst dX5_lastYear_10 ci_0 ?_
  refine pg_istore (lv' := [(4, pI (0 : Int32)), (3, pI v1), (2, pI (400 : Int32)), (0, pR a0), (1, pI a1)]) dX5_lastYear_11 (by decide) rfl ?_
  exact pg_to (e_X5_lastYear_13 l D h pg_fuel a0 a1 (400 : Int32) v1 (0 : Int32)) [3, 4, 2, 1, 0] rfl
theorem c_X5_lastYear (l : Launch) (D : pg_D) (h : pg_H) (a0 : Nat) (a1 : Int32)  : ∀ x, F_X5_lastYear h a0 a1 = some x → pg_Ct l D yX5_lastYear cX5_lastYear 6 (some FieldType.int) 2 47 [pR a0, pI a1] h (pg_oI h x) :=
  pg_Ct.of pn_RX5 (Nat.le_of_ble_eq_true rfl) (e_X5_lastYear l D h a0 a1)
def F_X6_init (a0 : Nat) (h : pg_H) : Option pg_H := (if a0 = 0 then none else Option.bind (pg_newA 21 h (169 : Int32)) fun v1 => Option.bind (pg_pR 6 0 v1.2 a0 v1.1) fun v2 => Option.bind (pg_newA 22 v2 (169 : Int32)) fun v3 => Option.bind (pg_pR 6 1 v3.2 a0 v3.1) fun v4 => Option.bind (pg_newA 22 v4 (169 : Int32)) fun v5 => Option.bind (pg_pR 6 2 v5.2 a0 v5.1) fun v6 => Option.bind (pg_newA 21 v6 (13 : Int32)) fun v7 => Option.bind (pg_pR 6 3 v7.2 a0 v7.1) fun v8 => Option.bind (pg_newA 21 v8 (13 : Int32)) fun v9 => Option.bind (pg_pR 6 4 v9.2 a0 v9.1) fun v10 => Option.bind (pg_newA 21 v10 (13 : Int32)) fun v11 => Option.bind (pg_pR 6 5 v11.2 a0 v11.1) fun v12 => Option.bind (pg_newA 21 v12 (12 : Int32)) fun v13 => Option.bind (pg_pR 6 6 v13.2 a0 v13.1) fun v14 => (some v14))
theorem e_X6_init (l : Launch) (D : pg_D)  (a0 : Nat) (h : pg_H) : pg_EvF l D RX6 cX6_init 1 none "<init>" 1 20 pg_wV (F_X6_init a0 h) 0 [(0, pR a0)] [] h := by
  unfold F_X6_init
  refine pg_aload_n (i := 0) dX6_init_0 rfl 0 rfl ?_
  refine pg_objInit dX6_init_1 pw1_225 pw_obj1 pw_obj2 (Nat.le_of_ble_eq_true rfl) (by decide) (by decide) ?_
  refine pg_aload_n (i := 0) dX6_init_4 rfl 0 rfl ?_
  refine pg_sipush dX6_init_5 cs_169 ?_
  refine pg_newI dX6_init_8 pw_arr_int (fun v1 => ?_)
  refine pg_putR dX6_init_10 fl_RX6_11 rfl (fun _ => ⟨rfl, fp_RX6_11⟩) (fun v2 => ?_)
  refine pg_aload_n (i := 0) dX6_init_13 rfl 0 rfl ?_
  refine pg_sipush dX6_init_14 cs_169 ?_
  refine pg_newL dX6_init_17 pw_arr_long (fun v3 => ?_)
  refine pg_putR dX6_init_19 fl_RX6_15 rfl (fun _ => ⟨rfl, fp_RX6_15⟩) (fun v4 => ?_)
  refine pg_aload_n (i := 0) dX6_init_22 rfl 0 rfl ?_
  refine pg_sipush dX6_init_23 cs_169 ?_
  refine pg_newL dX6_init_26 pw_arr_long (fun v5 => ?_)
  refine pg_putR dX6_init_28 fl_RX6_19 rfl (fun _ => ⟨rfl, fp_RX6_19⟩) (fun v6 => ?_)
  refine pg_aload_n (i := 0) dX6_init_31 rfl 0 rfl ?_
  refine pg_bipush dX6_init_32 cb_13 ?_
  refine pg_newI dX6_init_34 pw_arr_int (fun v7 => ?_)
  refine pg_putR dX6_init_36 fl_RX6_22 rfl (fun _ => ⟨rfl, fp_RX6_22⟩) (fun v8 => ?_)
  refine pg_aload_n (i := 0) dX6_init_39 rfl 0 rfl ?_
  refine pg_bipush dX6_init_40 cb_13 ?_
  refine pg_newI dX6_init_42 pw_arr_int (fun v9 => ?_)
  refine pg_putR dX6_init_44 fl_RX6_25 rfl (fun _ => ⟨rfl, fp_RX6_25⟩) (fun v10 => ?_)
  refine pg_aload_n (i := 0) dX6_init_47 rfl 0 rfl ?_
  refine pg_bipush dX6_init_48 cb_13 ?_
  refine pg_newI dX6_init_50 pw_arr_int (fun v11 => ?_)
  refine pg_putR dX6_init_52 fl_RX6_28 rfl (fun _ => ⟨rfl, fp_RX6_28⟩) (fun v12 => ?_)
  refine pg_aload_n (i := 0) dX6_init_55 rfl 0 rfl ?_
  refine pg_bipush dX6_init_56 cb_12 ?_
  refine pg_newI dX6_init_58 pw_arr_int (fun v13 => ?_)
  refine pg_putR dX6_init_60 fl_RX6_31 rfl (fun _ => ⟨rfl, fp_RX6_31⟩) (fun v14 => ?_)
  exact pg_vret dX6_init_63 rfl rfl
theorem c_X6_init (l : Launch) (D : pg_D) (a0 : Nat) (h : pg_H) : ∀ x, F_X6_init a0 h = some x → pg_Ct l D yX6_init cX6_init 1 none 1 20 [pR a0] h (pg_wV x) :=
  pg_Ct.of pn_RX6 (Nat.le_of_ble_eq_true rfl) (e_X6_init l D a0 h)
def F_X6_leastCost (h : pg_H) (a0 : Nat) : Option Int32 := Option.bind (pg_gI 6 8 h a0) fun v1 => (some v1)
theorem e_X6_leastCost (l : Launch) (D : pg_D)  (h : pg_H) (a0 : Nat) : pg_EvF l D RX6 cX6_leastCost 1 (some FieldType.int) "leastCost" 0 0 (pg_oI h) (F_X6_leastCost h a0) 0 [(0, pR a0)] [] h := by
  unfold F_X6_leastCost
  refine pg_aload_n (i := 0) dX6_leastCost_0 rfl 0 rfl ?_
  refine pg_getI dX6_leastCost_1 fl_RX6_34 rfl (fun v1 => ?_)
  exact pg_iret dX6_leastCost_4 rfl rfl
theorem c_X6_leastCost (l : Launch) (D : pg_D) (h : pg_H) (a0 : Nat)  : ∀ x, F_X6_leastCost h a0 = some x → pg_Ct l D yX6_leastCost cX6_leastCost 1 (some FieldType.int) 0 0 [pR a0] h (pg_oI h x) :=
  pg_Ct.of pn_RX6 (Nat.le_of_ble_eq_true rfl) (e_X6_leastCost l D h a0)
def F_X6_exemplarOf (h : pg_H) (a0 : Nat) (a1 : Int32) : Option Int32 := (if a1 < 0 then (some (-1 : Int32)) else (if a1 < (12 : Int32) then Option.bind (pg_gR 6 6 h a0) fun v1 => Option.bind (pg_aI 21 h v1 a1) fun v2 => (some v2) else (some (-1 : Int32))))
theorem e_X6_exemplarOf (l : Launch) (D : pg_D)  (h : pg_H) (a0 : Nat) (a1 : Int32) : pg_EvF l D RX6 cX6_exemplarOf 2 (some FieldType.int) "exemplarOf" 0 0 (pg_oI h) (F_X6_exemplarOf h a0 a1) 0 [(0, pR a0), (1, pI a1)] [] h := by
  unfold F_X6_exemplarOf
  refine pg_iload_n (i := 1) dX6_exemplarOf_0 rfl 1 rfl ?_
  refine pg_if_lt (tgt := 19) dX6_exemplarOf_1 rfl ?_ ?_
  · refine pg_iconst dX6_exemplarOf_19 ci_m1 ?_
    exact pg_iret dX6_exemplarOf_20 rfl rfl
  · refine pg_iload_n (i := 1) dX6_exemplarOf_4 rfl 1 rfl ?_
    refine pg_bipush dX6_exemplarOf_5 cb_12 ?_
    refine pg_icmp_ge (tgt := 19) dX6_exemplarOf_7 rfl ?_ ?_
    · refine pg_iconst dX6_exemplarOf_19 ci_m1 ?_
      exact pg_iret dX6_exemplarOf_20 rfl rfl
    · refine pg_aload_n (i := 0) dX6_exemplarOf_10 rfl 0 rfl ?_
      refine pg_getR dX6_exemplarOf_11 fl_RX6_31 rfl (fun v1 => ?_)
      refine pg_iload_n (i := 1) dX6_exemplarOf_14 rfl 1 rfl ?_
      refine pg_iaload dX6_exemplarOf_15 (fun v2 => ?_)
      refine pg_goto (tgt := 20) dX6_exemplarOf_16 rfl ?_
      exact pg_iret dX6_exemplarOf_20 rfl rfl
theorem c_X6_exemplarOf (l : Launch) (D : pg_D) (h : pg_H) (a0 : Nat) (a1 : Int32)  : ∀ x, F_X6_exemplarOf h a0 a1 = some x → pg_Ct l D yX6_exemplarOf cX6_exemplarOf 2 (some FieldType.int) 0 0 [pR a0, pI a1] h (pg_oI h x) :=
  pg_Ct.of pn_RX6 (Nat.le_of_ble_eq_true rfl) (e_X6_exemplarOf l D h a0 a1)
def F_X6_stepsFromNobody_7 (h : pg_H) : Nat → Nat → Int32 → Int32 → Int32 → Option Int32
  | 0 => fun _ _ _ _ => none
  | n + 1 => fun a0 a2 a3 a4 => (if a4 < (12 : Int32) then (if a3 = (-1 : Int32) then (some a2) else Option.bind (pg_rcv 6 h a0 (F_X6_exemplarOf h a0 a3)) fun v1 => (F_X6_stepsFromNobody_7 h n a0 (a2 + (1 : Int32)) v1 (a4 + (1 : Int32)))) else (some a2))
def F_X6_stepsFromNobody (h : pg_H) (a0 : Nat) (a1 : Int32) : Option Int32 := (F_X6_stepsFromNobody_7 h pg_fuel a0 (0 : Int32) a1 (0 : Int32))
theorem e_X6_stepsFromNobody_7 (l : Launch) (D : pg_D)  (h : pg_H) : ∀ (n : Nat) (a0 : Nat) (a2 : Int32) (a3 : Int32) (a4 : Int32), pg_EvF l D RX6 cX6_stepsFromNobody 5 (some FieldType.int) "stepsFromNobody" 1 21 (pg_oI h) (F_X6_stepsFromNobody_7 h n a0 a2 a3 a4) 7 [(0, pR a0), (2, pI a2), (3, pI a3), (4, pI a4)] [] h := by
  intro n
  induction n with
  | zero => intro a0 a2 a3 a4; exact pg_none
  | succ n ih =>
    intro a0 a2 a3 a4
    rw [F_X6_stepsFromNobody_7]
    refine pg_iload dX6_stepsFromNobody_7 3 rfl ?_
    refine pg_bipush dX6_stepsFromNobody_9 cb_12 ?_
    refine pg_icmp_ge (tgt := 34) dX6_stepsFromNobody_11 rfl ?_ ?_
    · refine pg_iload_n (i := 2) dX6_stepsFromNobody_34 rfl 1 rfl ?_
      exact pg_iret dX6_stepsFromNobody_35 rfl rfl
    · refine pg_iload_n (i := 3) dX6_stepsFromNobody_14 rfl 2 rfl ?_
      refine pg_iconst dX6_stepsFromNobody_15 ci_m1 ?_
      refine pg_icmp_eq (tgt := 34) dX6_stepsFromNobody_16 rfl ?_ ?_
      · refine pg_iload_n (i := 2) dX6_stepsFromNobody_34 rfl 1 rfl ?_
        exact pg_iret dX6_stepsFromNobody_35 rfl rfl
      · refine pg_iinc (lv' := [(2, pI (a2 + (1 : Int32))), (0, pR a0), (3, pI a3), (4, pI a4)]) dX6_stepsFromNobody_19 1 rfl ci_1 (by decide) rfl ?_
        refine pg_aload_n (i := 0) dX6_stepsFromNobody_22 rfl 1 rfl ?_
        refine pg_iload_n (i := 3) dX6_stepsFromNobody_23 rfl 2 rfl ?_
        refine pg_callV_oI (As := [pI a3]) (rs := []) dX6_stepsFromNobody_24 lk_RX6_38 vy_X6_exemplarOf nd_X6_exemplarOf (c_X6_exemplarOf l D h a0 a3) rfl rfl (Nat.le_of_ble_eq_true rfl) (by decide) (by decide) (fun v1 => ?_)
        refine pg_istore_n (i := 3) (lv' := [(3, pI v1), (2, pI (a2 + (1 : Int32))), (0, pR a0), (4, pI a4)]) dX6_stepsFromNobody_27 rfl (by decide) rfl ?_
        refine pg_iinc (lv' := [(4, pI (a4 + (1 : Int32))), (3, pI v1), (2, pI (a2 + (1 : Int32))), (0, pR a0)]) dX6_stepsFromNobody_28 3 rfl ci_1 (by decide) rfl ?_
        refine pg_goto (tgt := 7) dX6_stepsFromNobody_31 rfl ?_
        exact pg_to (ih a0 (a2 + (1 : Int32)) v1 (a4 + (1 : Int32))) [3, 2, 1, 0] rfl
theorem e_X6_stepsFromNobody (l : Launch) (D : pg_D)  (h : pg_H) (a0 : Nat) (a1 : Int32) : pg_EvF l D RX6 cX6_stepsFromNobody 5 (some FieldType.int) "stepsFromNobody" 1 21 (pg_oI h) (F_X6_stepsFromNobody h a0 a1) 0 [(0, pR a0), (1, pI a1)] [] h := by
  unfold F_X6_stepsFromNobody
  refine pg_iconst dX6_stepsFromNobody_0 ci_0 ?_
  refine pg_istore_n (i := 2) (lv' := [(2, pI (0 : Int32)), (0, pR a0), (1, pI a1)]) dX6_stepsFromNobody_1 rfl (by decide) rfl ?_
  refine pg_iload_n (i := 1) dX6_stepsFromNobody_2 rfl 2 rfl ?_
  refine pg_istore_n (i := 3) (lv' := [(3, pI a1), (2, pI (0 : Int32)), (0, pR a0), (1, pI a1)]) dX6_stepsFromNobody_3 rfl (by decide) rfl ?_
  refine pg_iconst dX6_stepsFromNobody_4 ci_0 ?_
  refine pg_istore (lv' := [(4, pI (0 : Int32)), (3, pI a1), (2, pI (0 : Int32)), (0, pR a0), (1, pI a1)]) dX6_stepsFromNobody_5 (by decide) rfl ?_
  exact pg_to (e_X6_stepsFromNobody_7 l D h pg_fuel a0 (0 : Int32) a1 (0 : Int32)) [3, 2, 1, 0] rfl
theorem c_X6_stepsFromNobody (l : Launch) (D : pg_D) (h : pg_H) (a0 : Nat) (a1 : Int32)  : ∀ x, F_X6_stepsFromNobody h a0 a1 = some x → pg_Ct l D yX6_stepsFromNobody cX6_stepsFromNobody 5 (some FieldType.int) 1 21 [pR a0, pI a1] h (pg_oI h x) :=
  pg_Ct.of pn_RX6 (Nat.le_of_ble_eq_true rfl) (e_X6_stepsFromNobody l D h a0 a1)
def F_X6_comesOf_9 (h : pg_H) : Nat → Nat → Int32 → Int32 → Int32 → Option Int32
  | 0 => fun _ _ _ _ => none
  | n + 1 => fun a0 a2 a3 a4 => (if a4 < (12 : Int32) then (if a3 = (-1 : Int32) then (some (0 : Int32)) else (if a3 = a2 then (some (1 : Int32)) else Option.bind (pg_rcv 6 h a0 (F_X6_exemplarOf h a0 a3)) fun v1 => (F_X6_comesOf_9 h n a0 a2 v1 (a4 + (1 : Int32))))) else (some (0 : Int32)))
def F_X6_comesOf (h : pg_H) (a0 : Nat) (a1 : Int32) (a2 : Int32) : Option Int32 := Option.bind (pg_rcv 6 h a0 (F_X6_exemplarOf h a0 a1)) fun v1 => (F_X6_comesOf_9 h pg_fuel a0 a2 v1 (0 : Int32))
theorem e_X6_comesOf_9 (l : Launch) (D : pg_D)  (h : pg_H) : ∀ (n : Nat) (a0 : Nat) (a2 : Int32) (a3 : Int32) (a4 : Int32), pg_EvF l D RX6 cX6_comesOf 5 (some FieldType.boolean) "comesOf" 1 21 (pg_oI h) (F_X6_comesOf_9 h n a0 a2 a3 a4) 9 [(0, pR a0), (2, pI a2), (3, pI a3), (4, pI a4)] [] h := by
  intro n
  induction n with
  | zero => intro a0 a2 a3 a4; exact pg_none
  | succ n ih =>
    intro a0 a2 a3 a4
    rw [F_X6_comesOf_9]
    refine pg_iload dX6_comesOf_9 3 rfl ?_
    refine pg_bipush dX6_comesOf_11 cb_12 ?_
    refine pg_icmp_ge (tgt := 40) dX6_comesOf_13 rfl ?_ ?_
    · refine pg_iconst dX6_comesOf_40 ci_0 ?_
      exact pg_zret dX6_comesOf_41 rfl (Or.inl rfl) rfl
    · refine pg_iload_n (i := 3) dX6_comesOf_16 rfl 2 rfl ?_
      refine pg_iconst dX6_comesOf_17 ci_m1 ?_
      refine pg_icmp_eq (tgt := 40) dX6_comesOf_18 rfl ?_ ?_
      · refine pg_iconst dX6_comesOf_40 ci_0 ?_
        exact pg_zret dX6_comesOf_41 rfl (Or.inl rfl) rfl
      · refine pg_iload_n (i := 3) dX6_comesOf_21 rfl 2 rfl ?_
        refine pg_iload_n (i := 2) dX6_comesOf_22 rfl 1 rfl ?_
        refine pg_icmp_ne (tgt := 28) dX6_comesOf_23 rfl ?_ ?_
        · refine pg_aload_n (i := 0) dX6_comesOf_28 rfl 0 rfl ?_
          refine pg_iload_n (i := 3) dX6_comesOf_29 rfl 2 rfl ?_
          refine pg_callV_oI (As := [pI a3]) (rs := []) dX6_comesOf_30 lk_RX6_38 vy_X6_exemplarOf nd_X6_exemplarOf (c_X6_exemplarOf l D h a0 a3) rfl rfl (Nat.le_of_ble_eq_true rfl) (by decide) (by decide) (fun v1 => ?_)
          refine pg_istore_n (i := 3) (lv' := [(3, pI v1), (0, pR a0), (2, pI a2), (4, pI a4)]) dX6_comesOf_33 rfl (by decide) rfl ?_
          refine pg_iinc (lv' := [(4, pI (a4 + (1 : Int32))), (3, pI v1), (0, pR a0), (2, pI a2)]) dX6_comesOf_34 3 rfl ci_1 (by decide) rfl ?_
          refine pg_goto (tgt := 9) dX6_comesOf_37 rfl ?_
          exact pg_to (ih a0 a2 v1 (a4 + (1 : Int32))) [2, 3, 1, 0] rfl
        · refine pg_iconst dX6_comesOf_26 ci_1 ?_
          exact pg_zret dX6_comesOf_27 rfl (Or.inr rfl) rfl
theorem e_X6_comesOf (l : Launch) (D : pg_D)  (h : pg_H) (a0 : Nat) (a1 : Int32) (a2 : Int32) : pg_EvF l D RX6 cX6_comesOf 5 (some FieldType.boolean) "comesOf" 1 21 (pg_oI h) (F_X6_comesOf h a0 a1 a2) 0 [(0, pR a0), (1, pI a1), (2, pI a2)] [] h := by
  unfold F_X6_comesOf
  refine pg_aload_n (i := 0) dX6_comesOf_0 rfl 0 rfl ?_
  refine pg_iload_n (i := 1) dX6_comesOf_1 rfl 1 rfl ?_
  refine pg_callV_oI (As := [pI a1]) (rs := []) dX6_comesOf_2 lk_RX6_38 vy_X6_exemplarOf nd_X6_exemplarOf (c_X6_exemplarOf l D h a0 a1) rfl rfl (Nat.le_of_ble_eq_true rfl) (by decide) (by decide) (fun v1 => ?_)
  refine pg_istore_n (i := 3) (lv' := [(3, pI v1), (0, pR a0), (1, pI a1), (2, pI a2)]) dX6_comesOf_5 rfl (by decide) rfl ?_
  refine pg_iconst dX6_comesOf_6 ci_0 ?_
  refine pg_istore (lv' := [(4, pI (0 : Int32)), (3, pI v1), (0, pR a0), (1, pI a1), (2, pI a2)]) dX6_comesOf_7 (by decide) rfl ?_
  exact pg_to (e_X6_comesOf_9 l D h pg_fuel a0 a2 v1 (0 : Int32)) [2, 4, 1, 0] rfl
theorem c_X6_comesOf (l : Launch) (D : pg_D) (h : pg_H) (a0 : Nat) (a1 : Int32) (a2 : Int32)  : ∀ x, F_X6_comesOf h a0 a1 a2 = some x → pg_Ct l D yX6_comesOf cX6_comesOf 5 (some FieldType.boolean) 1 21 [pR a0, pI a1, pI a2] h (pg_oI h x) :=
  pg_Ct.of pn_RX6 (Nat.le_of_ble_eq_true rfl) (e_X6_comesOf l D h a0 a1 a2)
def F_X6_findCosts_110 (k62 : Nat → Nat → Nat → Int32 → Int32 → Int32 → pg_H → Option pg_H) (a0 : Nat) (a1 : Nat) (a2 : Nat) (a3 : Int32) (a4 : Int32) (a5 : Int32) (h : pg_H) : Option pg_H := (k62 a0 a1 a2 a3 a4 (a5 + (1 : Int32)) h)
def F_X6_findCosts_62 (k28 : Nat → Nat → Nat → Int32 → pg_H → Option pg_H) : Nat → Nat → Nat → Nat → Int32 → Int32 → Int32 → pg_H → Option pg_H
  | 0 => fun _ _ _ _ _ _ _ => none
  | n + 1 => fun a0 a1 a2 a3 a4 a5 h => Option.bind (pg_gI 6 7 h a0) fun v1 => (if a5 < (v1 - (1 : Int32)) then (if ((a4 >>> (a5 &&& 31)) &&& (1 : Int32)) = (1 : Int32) then Option.bind (pg_gR 6 0 h a0) fun v2 => Option.bind (pg_rcv 4 h a2 (F_X4_costFrom h a2 a1 ((1 : Int32) <<< (a5 &&& 31)) a3)) fun v3 => Option.bind (pg_sI 21 h v2 ((((a5 + (1 : Int32)) * (13 : Int32)) + a3) + (1 : Int32)) v3) fun v4 => (F_X6_findCosts_110 (F_X6_findCosts_62 k28 n) a0 a1 a2 a3 a4 a5 v4) else (F_X6_findCosts_110 (F_X6_findCosts_62 k28 n) a0 a1 a2 a3 a4 a5 h)) else (k28 a0 a1 a2 (a3 + (1 : Int32)) h))
def F_X6_findCosts_28  : Nat → Nat → Nat → Nat → Int32 → pg_H → Option pg_H
  | 0 => fun _ _ _ _ _ => none
  | n + 1 => fun a0 a1 a2 a3 h => Option.bind (pg_gI 6 7 h a0) fun v1 => (if a3 < (v1 - (1 : Int32)) then Option.bind (pg_rcv 5 h a1 (F_X5_companions h a1 a3)) fun v2 => Option.bind (pg_gR 6 0 h a0) fun v3 => Option.bind (pg_rcv 4 h a2 (F_X4_ownCost h a2 a1 a3)) fun v4 => Option.bind (pg_sI 21 h v3 (a3 + (1 : Int32)) v4) fun v5 => (F_X6_findCosts_62 (F_X6_findCosts_28 n) pg_fuel a0 a1 a2 a3 v2 (0 : Int32) v5) else (some h))
def F_X6_findCosts (a0 : Nat) (a1 : Nat) (a2 : Nat) (h : pg_H) : Option pg_H := Option.bind (pg_gR 6 0 h a0) fun v1 => Option.bind (F_J7_fill_53178 v1 (-1 : Int32) h) fun v2 => Option.bind (pg_gR 5 0 v2 a1) fun v3 => Option.bind (pg_rcv 7 v2 v3 (F_X7_size v2 v3)) fun v4 => Option.bind (pg_pI 6 7 v2 a0 ((if (12 : Int32) < v4 then (12 : Int32) else v4) + (1 : Int32))) fun v5 => (F_X6_findCosts_28 pg_fuel a0 a1 a2 (0 : Int32) v5)
theorem e_X6_findCosts_110 (l : Launch) (D : pg_D)  (k62 : Nat → Nat → Nat → Int32 → Int32 → Int32 → pg_H → Option pg_H) (hk62 : ∀ (a0 : Nat) (a1 : Nat) (a2 : Nat) (a3 : Int32) (a4 : Int32) (a5 : Int32) (h : pg_H), pg_EvF l D RX6 cX6_findCosts 6 none "findCosts" 3 73 pg_wV (k62 a0 a1 a2 a3 a4 a5 h) 62 [(0, pR a0), (1, pR a1), (2, pR a2), (3, pI a3), (4, pI a4), (5, pI a5)] [] h) (a0 : Nat) (a1 : Nat) (a2 : Nat) (a3 : Int32) (a4 : Int32) (a5 : Int32) (h : pg_H) : pg_EvF l D RX6 cX6_findCosts 6 none "findCosts" 3 73 pg_wV (F_X6_findCosts_110 k62 a0 a1 a2 a3 a4 a5 h) 110 [(0, pR a0), (1, pR a1), (2, pR a2), (3, pI a3), (4, pI a4), (5, pI a5)] [] h := by
  unfold F_X6_findCosts_110
  refine pg_iinc (lv' := [(5, pI (a5 + (1 : Int32))), (0, pR a0), (1, pR a1), (2, pR a2), (3, pI a3), (4, pI a4)]) dX6_findCosts_110 5 rfl ci_1 (by decide) rfl ?_
  refine pg_goto (tgt := 62) dX6_findCosts_113 rfl ?_
  exact pg_to (hk62 a0 a1 a2 a3 a4 (a5 + (1 : Int32)) h) [1, 2, 3, 4, 5, 0] rfl
theorem e_X6_findCosts_62 (l : Launch) (D : pg_D)  (k28 : Nat → Nat → Nat → Int32 → pg_H → Option pg_H) (hk28 : ∀ (a0 : Nat) (a1 : Nat) (a2 : Nat) (a3 : Int32) (h : pg_H), pg_EvF l D RX6 cX6_findCosts 6 none "findCosts" 3 73 pg_wV (k28 a0 a1 a2 a3 h) 28 [(0, pR a0), (1, pR a1), (2, pR a2), (3, pI a3)] [] h) : ∀ (n : Nat) (a0 : Nat) (a1 : Nat) (a2 : Nat) (a3 : Int32) (a4 : Int32) (a5 : Int32) (h : pg_H), pg_EvF l D RX6 cX6_findCosts 6 none "findCosts" 3 73 pg_wV (F_X6_findCosts_62 k28 n a0 a1 a2 a3 a4 a5 h) 62 [(0, pR a0), (1, pR a1), (2, pR a2), (3, pI a3), (4, pI a4), (5, pI a5)] [] h := by
  intro n
  induction n with
  | zero => intro a0 a1 a2 a3 a4 a5 h; exact pg_none
  | succ n ih =>
    intro a0 a1 a2 a3 a4 a5 h
    rw [F_X6_findCosts_62]
    refine pg_iload dX6_findCosts_62 5 rfl ?_
    refine pg_aload_n (i := 0) dX6_findCosts_64 rfl 0 rfl ?_
    refine pg_getI dX6_findCosts_65 fl_RX6_48 rfl (fun v1 => ?_)
    refine pg_iconst dX6_findCosts_68 ci_1 ?_
    refine pg_isub dX6_findCosts_69 ?_
    refine pg_icmp_ge (tgt := 116) dX6_findCosts_70 rfl ?_ ?_
    · refine pg_iinc (lv' := [(3, pI (a3 + (1 : Int32))), (0, pR a0), (1, pR a1), (2, pR a2), (4, pI a4), (5, pI a5)]) dX6_findCosts_116 3 rfl ci_1 (by decide) rfl ?_
      refine pg_goto (tgt := 28) dX6_findCosts_119 rfl ?_
      exact pg_to (hk28 a0 a1 a2 (a3 + (1 : Int32)) h) [1, 2, 3, 0] rfl
    · refine pg_iload dX6_findCosts_73 4 rfl ?_
      refine pg_iload dX6_findCosts_75 5 rfl ?_
      refine pg_ishr dX6_findCosts_77 ?_
      refine pg_iconst dX6_findCosts_78 ci_1 ?_
      refine pg_iand dX6_findCosts_79 ?_
      refine pg_iconst dX6_findCosts_80 ci_1 ?_
      refine pg_icmp_ne (tgt := 110) dX6_findCosts_81 rfl ?_ ?_
      · exact pg_to (e_X6_findCosts_110 l D (F_X6_findCosts_62 k28 n) ih a0 a1 a2 a3 a4 a5 h) [0, 1, 2, 3, 4, 5] rfl
      · refine pg_aload_n (i := 0) dX6_findCosts_84 rfl 0 rfl ?_
        refine pg_getR dX6_findCosts_85 fl_RX6_11 rfl (fun v2 => ?_)
        refine pg_iload dX6_findCosts_88 5 rfl ?_
        refine pg_iconst dX6_findCosts_90 ci_1 ?_
        refine pg_iadd dX6_findCosts_91 ?_
        refine pg_bipush dX6_findCosts_92 cb_13 ?_
        refine pg_imul dX6_findCosts_94 ?_
        refine pg_iload_n (i := 3) dX6_findCosts_95 rfl 3 rfl ?_
        refine pg_iadd dX6_findCosts_96 ?_
        refine pg_iconst dX6_findCosts_97 ci_1 ?_
        refine pg_iadd dX6_findCosts_98 ?_
        refine pg_aload_n (i := 2) dX6_findCosts_99 rfl 2 rfl ?_
        refine pg_aload_n (i := 1) dX6_findCosts_100 rfl 1 rfl ?_
        refine pg_iconst dX6_findCosts_101 ci_1 ?_
        refine pg_iload dX6_findCosts_102 5 rfl ?_
        refine pg_ishl dX6_findCosts_104 ?_
        refine pg_iload_n (i := 3) dX6_findCosts_105 rfl 3 rfl ?_
        refine pg_callV_oI (As := [pR a1, pI ((1 : Int32) <<< (a5 &&& 31)), pI a3]) (rs := [pI ((((a5 + (1 : Int32)) * (13 : Int32)) + a3) + (1 : Int32)), pR v2]) dX6_findCosts_106 lk_RX6_94 vy_X4_costFrom nd_X4_costFrom (c_X4_costFrom l D h a2 a1 ((1 : Int32) <<< (a5 &&& 31)) a3) rfl rfl (Nat.le_of_ble_eq_true rfl) (by decide) (by decide) (fun v3 => ?_)
        refine pg_iastore dX6_findCosts_109 (fun v4 => ?_)
        exact pg_to (e_X6_findCosts_110 l D (F_X6_findCosts_62 k28 n) ih a0 a1 a2 a3 a4 a5 v4) [0, 1, 2, 3, 4, 5] rfl
theorem e_X6_findCosts_28 (l : Launch) (D : pg_D)   : ∀ (n : Nat) (a0 : Nat) (a1 : Nat) (a2 : Nat) (a3 : Int32) (h : pg_H), pg_EvF l D RX6 cX6_findCosts 6 none "findCosts" 3 73 pg_wV (F_X6_findCosts_28 n a0 a1 a2 a3 h) 28 [(0, pR a0), (1, pR a1), (2, pR a2), (3, pI a3)] [] h := by
  intro n
  induction n with
  | zero => intro a0 a1 a2 a3 h; exact pg_none
  | succ n ih =>
    intro a0 a1 a2 a3 h
    rw [F_X6_findCosts_28]
    refine pg_iload_n (i := 3) dX6_findCosts_28 rfl 3 rfl ?_
    refine pg_aload_n (i := 0) dX6_findCosts_29 rfl 0 rfl ?_
    refine pg_getI dX6_findCosts_30 fl_RX6_48 rfl (fun v1 => ?_)
    refine pg_iconst dX6_findCosts_33 ci_1 ?_
    refine pg_isub dX6_findCosts_34 ?_
    refine pg_icmp_ge (tgt := 122) dX6_findCosts_35 rfl ?_ ?_
    · exact pg_vret dX6_findCosts_122 rfl rfl
    · refine pg_aload_n (i := 1) dX6_findCosts_38 rfl 1 rfl ?_
      refine pg_iload_n (i := 3) dX6_findCosts_39 rfl 3 rfl ?_
      refine pg_callV_oI (As := [pI a3]) (rs := []) dX6_findCosts_40 lk_RX6_85 vy_X5_companions nd_X5_companions (c_X5_companions l D h a1 a3) rfl rfl (Nat.le_of_ble_eq_true rfl) (by decide) (by decide) (fun v2 => ?_)
      refine pg_istore (lv' := [(4, pI v2), (0, pR a0), (1, pR a1), (2, pR a2), (3, pI a3)]) dX6_findCosts_43 (by decide) rfl ?_
      refine pg_aload_n (i := 0) dX6_findCosts_45 rfl 1 rfl ?_
      refine pg_getR dX6_findCosts_46 fl_RX6_11 rfl (fun v3 => ?_)
      refine pg_iload_n (i := 3) dX6_findCosts_49 rfl 4 rfl ?_
      refine pg_iconst dX6_findCosts_50 ci_1 ?_
      refine pg_iadd dX6_findCosts_51 ?_
      refine pg_aload_n (i := 2) dX6_findCosts_52 rfl 3 rfl ?_
      refine pg_aload_n (i := 1) dX6_findCosts_53 rfl 2 rfl ?_
      refine pg_iload_n (i := 3) dX6_findCosts_54 rfl 4 rfl ?_
      refine pg_callV_oI (As := [pR a1, pI a3]) (rs := [pI (a3 + (1 : Int32)), pR v3]) dX6_findCosts_55 lk_RX6_88 vy_X4_ownCost nd_X4_ownCost (c_X4_ownCost l D h a2 a1 a3) rfl rfl (Nat.le_of_ble_eq_true rfl) (by decide) (by decide) (fun v4 => ?_)
      refine pg_iastore dX6_findCosts_58 (fun v5 => ?_)
      refine pg_iconst dX6_findCosts_59 ci_0 ?_
      refine pg_istore (lv' := [(5, pI (0 : Int32)), (4, pI v2), (0, pR a0), (1, pR a1), (2, pR a2), (3, pI a3)]) dX6_findCosts_60 (by decide) rfl ?_
      exact pg_to (e_X6_findCosts_62 l D (F_X6_findCosts_28 n) ih pg_fuel a0 a1 a2 a3 v2 (0 : Int32) v5) [2, 3, 4, 5, 1, 0] rfl
theorem e_X6_findCosts (l : Launch) (D : pg_D)  (a0 : Nat) (a1 : Nat) (a2 : Nat) (h : pg_H) : pg_EvF l D RX6 cX6_findCosts 6 none "findCosts" 3 73 pg_wV (F_X6_findCosts a0 a1 a2 h) 0 [(0, pR a0), (1, pR a1), (2, pR a2)] [] h := by
  unfold F_X6_findCosts
  refine pg_aload_n (i := 0) dX6_findCosts_0 rfl 0 rfl ?_
  refine pg_getR dX6_findCosts_1 fl_RX6_11 rfl (fun v1 => ?_)
  refine pg_iconst dX6_findCosts_4 ci_m1 ?_
  refine pg_callS_wV (As := [pR v1, pI (-1 : Int32)]) (rs := []) dX6_findCosts_5 lk_RX6_61 vy_J7_fill_53178 nd_J7_fill_53178 (c_J7_fill_53178 l D v1 (-1 : Int32) h) rfl rfl (Nat.le_of_ble_eq_true rfl) (by decide) (by decide) (fun v2 => ?_)
  refine pg_aload_n (i := 0) dX6_findCosts_8 rfl 0 rfl ?_
  refine pg_aload_n (i := 1) dX6_findCosts_9 rfl 1 rfl ?_
  refine pg_getR dX6_findCosts_10 fl_RX6_67 rfl (fun v3 => ?_)
  refine pg_callV_oI (As := []) (rs := [pR a0]) dX6_findCosts_13 lk_RX6_73 vy_X7_size nd_X7_size (c_X7_size l D v2 v3) rfl rfl (Nat.le_of_ble_eq_true rfl) (by decide) (by decide) (fun v4 => ?_)
  refine pg_bipush dX6_findCosts_16 cb_12 ?_
  refine pg_mmin dX6_findCosts_18 pw4_94 pw_min1 pw_math pw_min2 (Nat.le_of_ble_eq_true rfl) (by decide) (by decide) ?_
  refine pg_iconst dX6_findCosts_21 ci_1 ?_
  refine pg_iadd dX6_findCosts_22 ?_
  refine pg_putI dX6_findCosts_23 fl_RX6_48 (fun z => by cases z) (fun v5 => ?_)
  refine pg_iconst dX6_findCosts_26 ci_0 ?_
  refine pg_istore_n (i := 3) (lv' := [(3, pI (0 : Int32)), (0, pR a0), (1, pR a1), (2, pR a2)]) dX6_findCosts_27 rfl (by decide) rfl ?_
  exact pg_to (e_X6_findCosts_28 l D pg_fuel a0 a1 a2 (0 : Int32) v5) [1, 2, 3, 0] rfl
theorem c_X6_findCosts (l : Launch) (D : pg_D) (a0 : Nat) (a1 : Nat) (a2 : Nat) (h : pg_H) : ∀ x, F_X6_findCosts a0 a1 a2 h = some x → pg_Ct l D yX6_findCosts cX6_findCosts 6 none 3 73 [pR a0, pR a1, pR a2] h (pg_wV x) :=
  pg_Ct.of pn_RX6 (Nat.le_of_ble_eq_true rfl) (e_X6_findCosts l D a0 a1 a2 h)
def F_X6_nearestTo_65 (h : pg_H) (k5 : Nat → Int32 → Int32 → Int32 → Int32 → Option Int32) (a0 : Nat) (a1 : Int32) (a2 : Int32) (a3 : Int32) (a4 : Int32) : Option Int32 := (k5 a0 a1 a2 a3 (a4 + (1 : Int32)))
def F_X6_nearestTo_62 (h : pg_H) (k5 : Nat → Int32 → Int32 → Int32 → Int32 → Option Int32) (a0 : Nat) (a1 : Int32) (a2 : Int32) (a4 : Int32) : Option Int32 := (F_X6_nearestTo_65 h k5 a0 a1 a2 a4 a4)
def F_X6_nearestTo_5 (h : pg_H) : Nat → Nat → Int32 → Int32 → Int32 → Int32 → Option Int32
  | 0 => fun _ _ _ _ _ => none
  | n + 1 => fun a0 a1 a2 a3 a4 => (if a4 < a2 then Option.bind (pg_gR 6 1 h a0) fun v1 => Option.bind (pg_aL h v1 ((a4 * (13 : Int32)) + a1)) fun v2 => (if a4 = a1 then (F_X6_nearestTo_65 h (F_X6_nearestTo_5 h n) a0 a1 a2 a3 a4) else (if v2 = (-1 : Int64) then (F_X6_nearestTo_65 h (F_X6_nearestTo_5 h n) a0 a1 a2 a3 a4) else (if a3 = (-1 : Int32) then (F_X6_nearestTo_62 h (F_X6_nearestTo_5 h n) a0 a1 a2 a4) else Option.bind (pg_gR 6 1 h a0) fun v3 => Option.bind (pg_aL h v3 ((a3 * (13 : Int32)) + a1)) fun v4 => (if v2 < v4 then (F_X6_nearestTo_62 h (F_X6_nearestTo_5 h n) a0 a1 a2 a4) else (F_X6_nearestTo_65 h (F_X6_nearestTo_5 h n) a0 a1 a2 a3 a4))))) else (some a3))
def F_X6_nearestTo (h : pg_H) (a0 : Nat) (a1 : Int32) (a2 : Int32) : Option Int32 := (F_X6_nearestTo_5 h pg_fuel a0 a1 a2 (-1 : Int32) (0 : Int32))
theorem e_X6_nearestTo_65 (l : Launch) (D : pg_D)  (h : pg_H) (k5 : Nat → Int32 → Int32 → Int32 → Int32 → Option Int32) (hk5 : ∀ (a0 : Nat) (a1 : Int32) (a2 : Int32) (a3 : Int32) (a4 : Int32), pg_EvF l D RX6 cX6_nearestTo 7 (some FieldType.int) "nearestTo" 0 0 (pg_oI h) (k5 a0 a1 a2 a3 a4) 5 [(0, pR a0), (1, pI a1), (2, pI a2), (3, pI a3), (4, pI a4)] [] h) (a0 : Nat) (a1 : Int32) (a2 : Int32) (a3 : Int32) (a4 : Int32) : pg_EvF l D RX6 cX6_nearestTo 7 (some FieldType.int) "nearestTo" 0 0 (pg_oI h) (F_X6_nearestTo_65 h k5 a0 a1 a2 a3 a4) 65 [(0, pR a0), (1, pI a1), (2, pI a2), (3, pI a3), (4, pI a4)] [] h := by
  unfold F_X6_nearestTo_65
  refine pg_iinc (lv' := [(4, pI (a4 + (1 : Int32))), (0, pR a0), (1, pI a1), (2, pI a2), (3, pI a3)]) dX6_nearestTo_65 4 rfl ci_1 (by decide) rfl ?_
  refine pg_goto (tgt := 5) dX6_nearestTo_68 rfl ?_
  exact pg_to (hk5 a0 a1 a2 a3 (a4 + (1 : Int32))) [1, 2, 3, 4, 0] rfl
theorem e_X6_nearestTo_62 (l : Launch) (D : pg_D)  (h : pg_H) (k5 : Nat → Int32 → Int32 → Int32 → Int32 → Option Int32) (hk5 : ∀ (a0 : Nat) (a1 : Int32) (a2 : Int32) (a3 : Int32) (a4 : Int32), pg_EvF l D RX6 cX6_nearestTo 7 (some FieldType.int) "nearestTo" 0 0 (pg_oI h) (k5 a0 a1 a2 a3 a4) 5 [(0, pR a0), (1, pI a1), (2, pI a2), (3, pI a3), (4, pI a4)] [] h) (a0 : Nat) (a1 : Int32) (a2 : Int32) (a4 : Int32) : pg_EvF l D RX6 cX6_nearestTo 7 (some FieldType.int) "nearestTo" 0 0 (pg_oI h) (F_X6_nearestTo_62 h k5 a0 a1 a2 a4) 62 [(0, pR a0), (1, pI a1), (2, pI a2), (4, pI a4)] [] h := by
  unfold F_X6_nearestTo_62
  refine pg_iload dX6_nearestTo_62 3 rfl ?_
  refine pg_istore_n (i := 3) (lv' := [(3, pI a4), (0, pR a0), (1, pI a1), (2, pI a2), (4, pI a4)]) dX6_nearestTo_64 rfl (by decide) rfl ?_
  exact pg_to (e_X6_nearestTo_65 l D h k5 hk5 a0 a1 a2 a4 a4) [1, 2, 3, 0, 4] rfl
theorem e_X6_nearestTo_5 (l : Launch) (D : pg_D)  (h : pg_H) : ∀ (n : Nat) (a0 : Nat) (a1 : Int32) (a2 : Int32) (a3 : Int32) (a4 : Int32), pg_EvF l D RX6 cX6_nearestTo 7 (some FieldType.int) "nearestTo" 0 0 (pg_oI h) (F_X6_nearestTo_5 h n a0 a1 a2 a3 a4) 5 [(0, pR a0), (1, pI a1), (2, pI a2), (3, pI a3), (4, pI a4)] [] h := by
  intro n
  induction n with
  | zero => intro a0 a1 a2 a3 a4; exact pg_none
  | succ n ih =>
    intro a0 a1 a2 a3 a4
    rw [F_X6_nearestTo_5]
    refine pg_iload dX6_nearestTo_5 4 rfl ?_
    refine pg_iload_n (i := 2) dX6_nearestTo_7 rfl 2 rfl ?_
    refine pg_icmp_ge (tgt := 71) dX6_nearestTo_8 rfl ?_ ?_
    · refine pg_iload_n (i := 3) dX6_nearestTo_71 rfl 3 rfl ?_
      exact pg_iret dX6_nearestTo_72 rfl rfl
    · refine pg_aload_n (i := 0) dX6_nearestTo_11 rfl 0 rfl ?_
      refine pg_getR dX6_nearestTo_12 fl_RX6_15 rfl (fun v1 => ?_)
      refine pg_iload dX6_nearestTo_15 4 rfl ?_
      refine pg_bipush dX6_nearestTo_17 cb_13 ?_
      refine pg_imul dX6_nearestTo_19 ?_
      refine pg_iload_n (i := 1) dX6_nearestTo_20 rfl 1 rfl ?_
      refine pg_iadd dX6_nearestTo_21 ?_
      refine pg_laload dX6_nearestTo_22 (fun v2 => ?_)
      refine pg_lstore (lv' := [(5, pL v2), (0, pR a0), (1, pI a1), (2, pI a2), (3, pI a3), (4, pI a4)]) dX6_nearestTo_23 (by decide) rfl ?_
      refine pg_iload dX6_nearestTo_25 5 rfl ?_
      refine pg_iload_n (i := 1) dX6_nearestTo_27 rfl 2 rfl ?_
      refine pg_icmp_eq (tgt := 65) dX6_nearestTo_28 rfl ?_ ?_
      · exact pg_to (e_X6_nearestTo_65 l D h (F_X6_nearestTo_5 h n) ih a0 a1 a2 a3 a4) [1, 2, 3, 4, 5] rfl
      · refine pg_lload dX6_nearestTo_31 0 rfl ?_
        refine pg_ldc2 (v := (-1 : Int64)) dX6_nearestTo_33 kc_RX6_51 ?_
        refine pg_lcmp_eq (tgt := 65) dX6_nearestTo_36 dX6_nearestTo_37 rfl ?_ ?_
        · exact pg_to (e_X6_nearestTo_65 l D h (F_X6_nearestTo_5 h n) ih a0 a1 a2 a3 a4) [1, 2, 3, 4, 5] rfl
        · refine pg_iload_n (i := 3) dX6_nearestTo_40 rfl 4 rfl ?_
          refine pg_iconst dX6_nearestTo_41 ci_m1 ?_
          refine pg_icmp_eq (tgt := 62) dX6_nearestTo_42 rfl ?_ ?_
          · exact pg_to (e_X6_nearestTo_62 l D h (F_X6_nearestTo_5 h n) ih a0 a1 a2 a4) [1, 2, 3, 5] rfl
          · refine pg_lload dX6_nearestTo_45 0 rfl ?_
            refine pg_aload_n (i := 0) dX6_nearestTo_47 rfl 1 rfl ?_
            refine pg_getR dX6_nearestTo_48 fl_RX6_15 rfl (fun v3 => ?_)
            refine pg_iload_n (i := 3) dX6_nearestTo_51 rfl 4 rfl ?_
            refine pg_bipush dX6_nearestTo_52 cb_13 ?_
            refine pg_imul dX6_nearestTo_54 ?_
            refine pg_iload_n (i := 1) dX6_nearestTo_55 rfl 2 rfl ?_
            refine pg_iadd dX6_nearestTo_56 ?_
            refine pg_laload dX6_nearestTo_57 (fun v4 => ?_)
            refine pg_lcmp_ge (tgt := 65) dX6_nearestTo_58 dX6_nearestTo_59 rfl ?_ ?_
            · exact pg_to (e_X6_nearestTo_65 l D h (F_X6_nearestTo_5 h n) ih a0 a1 a2 a3 a4) [1, 2, 3, 4, 5] rfl
            · exact pg_to (e_X6_nearestTo_62 l D h (F_X6_nearestTo_5 h n) ih a0 a1 a2 a4) [1, 2, 3, 5] rfl
theorem e_X6_nearestTo (l : Launch) (D : pg_D)  (h : pg_H) (a0 : Nat) (a1 : Int32) (a2 : Int32) : pg_EvF l D RX6 cX6_nearestTo 7 (some FieldType.int) "nearestTo" 0 0 (pg_oI h) (F_X6_nearestTo h a0 a1 a2) 0 [(0, pR a0), (1, pI a1), (2, pI a2)] [] h := by
  unfold F_X6_nearestTo
  refine pg_iconst dX6_nearestTo_0 ci_m1 ?_
  refine pg_istore_n (i := 3) (lv' := [(3, pI (-1 : Int32)), (0, pR a0), (1, pI a1), (2, pI a2)]) dX6_nearestTo_1 rfl (by decide) rfl ?_
  refine pg_iconst dX6_nearestTo_2 ci_0 ?_
  refine pg_istore (lv' := [(4, pI (0 : Int32)), (3, pI (-1 : Int32)), (0, pR a0), (1, pI a1), (2, pI a2)]) dX6_nearestTo_3 (by decide) rfl ?_
  exact pg_to (e_X6_nearestTo_5 l D h pg_fuel a0 a1 a2 (-1 : Int32) (0 : Int32)) [2, 3, 4, 1, 0] rfl
theorem c_X6_nearestTo (l : Launch) (D : pg_D) (h : pg_H) (a0 : Nat) (a1 : Int32) (a2 : Int32)  : ∀ x, F_X6_nearestTo h a0 a1 a2 = some x → pg_Ct l D yX6_nearestTo cX6_nearestTo 7 (some FieldType.int) 0 0 [pR a0, pI a1, pI a2] h (pg_oI h x) :=
  pg_Ct.of pn_RX6 (Nat.le_of_ble_eq_true rfl) (e_X6_nearestTo l D h a0 a1 a2)
def F_X6_findGroups_179 (k154 : Nat → Int32 → Int32 → Int32 → pg_H → Option (Int32 × pg_H)) (a0 : Nat) (a1 : Int32) (a2 : Int32) (a3 : Int32) (h : pg_H) : Option (Int32 × pg_H) := (k154 a0 a1 a2 (a3 + (1 : Int32)) h)
def F_X6_findGroups_154  : Nat → Nat → Int32 → Int32 → Int32 → pg_H → Option (Int32 × pg_H)
  | 0 => fun _ _ _ _ _ => none
  | n + 1 => fun a0 a1 a2 a3 h => (if a3 < a1 then Option.bind (pg_gR 6 4 h a0) fun v1 => Option.bind (pg_aI 21 h v1 a3) fun v2 => (if v2 = (-1 : Int32) then Option.bind (pg_gR 6 4 h a0) fun v3 => Option.bind (pg_sI 21 h v3 a3 a2) fun v4 => (F_X6_findGroups_179 (F_X6_findGroups_154 n) a0 a1 (a2 + (1 : Int32)) a3 v4) else (F_X6_findGroups_179 (F_X6_findGroups_154 n) a0 a1 a2 a3 h)) else (some (a2, h)))
def F_X6_findGroups_146 (k27 : Nat → Int32 → Int32 → Int32 → pg_H → Option (Int32 × pg_H)) (a0 : Nat) (a1 : Int32) (a2 : Int32) (a3 : Int32) (h : pg_H) : Option (Int32 × pg_H) := (k27 a0 a1 a2 (a3 + (1 : Int32)) h)
def F_X6_findGroups_143 (k27 : Nat → Int32 → Int32 → Int32 → pg_H → Option (Int32 × pg_H)) (a0 : Nat) (a1 : Int32) (a2 : Int32) (a3 : Int32) (h : pg_H) : Option (Int32 × pg_H) := (F_X6_findGroups_146 k27 a0 a1 (a2 + (1 : Int32)) a3 h)
def F_X6_findGroups_102 (k27 : Nat → Int32 → Int32 → Int32 → pg_H → Option (Int32 × pg_H)) : Nat → Nat → Int32 → Int32 → Int32 → Int32 → Int32 → pg_H → Option (Int32 × pg_H)
  | 0 => fun _ _ _ _ _ _ _ => none
  | n + 1 => fun a0 a1 a2 a3 a4 a5 h => (if a5 < (13 : Int32) then Option.bind (pg_gR 6 4 h a0) fun v1 => Option.bind (pg_aI 21 h v1 a4) fun v2 => (if v2 = (-1 : Int32) then Option.bind (pg_gR 6 4 h a0) fun v3 => Option.bind (pg_sI 21 h v3 a4 a2) fun v4 => Option.bind (pg_gR 6 3 v4 a0) fun v5 => Option.bind (pg_aI 21 v4 v5 a4) fun v6 => (F_X6_findGroups_102 k27 n a0 a1 a2 a3 v6 (a5 + (1 : Int32)) v4) else (F_X6_findGroups_143 k27 a0 a1 a2 a3 h)) else (F_X6_findGroups_143 k27 a0 a1 a2 a3 h))
def F_X6_findGroups_83 (k27 : Nat → Int32 → Int32 → Int32 → pg_H → Option (Int32 × pg_H)) (a0 : Nat) (a1 : Int32) (a2 : Int32) (a3 : Int32) (a4 : Int32) (h : pg_H) : Option (Int32 × pg_H) := (if a4 = 0 then (F_X6_findGroups_146 k27 a0 a1 a2 a3 h) else Option.bind (pg_gR 6 5 h a0) fun v1 => Option.bind (pg_aI 21 h v1 a4) fun v2 => (if v2 = a3 then (F_X6_findGroups_102 k27 pg_fuel a0 a1 a2 a3 a4 (0 : Int32) h) else (F_X6_findGroups_146 k27 a0 a1 a2 a3 h)))
def F_X6_findGroups_38 (k27 : Nat → Int32 → Int32 → Int32 → pg_H → Option (Int32 × pg_H)) : Nat → Nat → Int32 → Int32 → Int32 → Int32 → Int32 → pg_H → Option (Int32 × pg_H)
  | 0 => fun _ _ _ _ _ _ _ => none
  | n + 1 => fun a0 a1 a2 a3 a4 a5 h => (if a5 < (13 : Int32) then (if a4 = 0 then (F_X6_findGroups_83 k27 a0 a1 a2 a3 a4 h) else Option.bind (pg_gR 6 5 h a0) fun v1 => Option.bind (pg_aI 21 h v1 a4) fun v2 => (if v2 = 0 then Option.bind (pg_gR 6 5 h a0) fun v3 => Option.bind (pg_sI 21 h v3 a4 a3) fun v4 => Option.bind (pg_gR 6 3 v4 a0) fun v5 => Option.bind (pg_aI 21 v4 v5 a4) fun v6 => (F_X6_findGroups_38 k27 n a0 a1 a2 a3 v6 (a5 + (1 : Int32)) v4) else (F_X6_findGroups_83 k27 a0 a1 a2 a3 a4 h))) else (F_X6_findGroups_83 k27 a0 a1 a2 a3 a4 h))
def F_X6_findGroups_27  : Nat → Nat → Int32 → Int32 → Int32 → pg_H → Option (Int32 × pg_H)
  | 0 => fun _ _ _ _ _ => none
  | n + 1 => fun a0 a1 a2 a3 h => (if a3 < a1 then (F_X6_findGroups_38 (F_X6_findGroups_27 n) pg_fuel a0 a1 a2 a3 a3 (0 : Int32) h) else (F_X6_findGroups_154 pg_fuel a0 a1 a2 (1 : Int32) h))
def F_X6_findGroups (a0 : Nat) (a1 : Int32) (h : pg_H) : Option (Int32 × pg_H) := Option.bind (pg_gR 6 4 h a0) fun v1 => Option.bind (F_J7_fill_53178 v1 (-1 : Int32) h) fun v2 => Option.bind (pg_gR 6 5 v2 a0) fun v3 => Option.bind (F_J7_fill_53178 v3 (0 : Int32) v2) fun v4 => Option.bind (pg_gR 6 4 v4 a0) fun v5 => Option.bind (pg_sI 21 v4 v5 (0 : Int32) (0 : Int32)) fun v6 => (F_X6_findGroups_27 pg_fuel a0 a1 (1 : Int32) (1 : Int32) v6)
theorem e_X6_findGroups_179 (l : Launch) (D : pg_D)  (k154 : Nat → Int32 → Int32 → Int32 → pg_H → Option (Int32 × pg_H)) (hk154 : ∀ (a0 : Nat) (a1 : Int32) (a2 : Int32) (a3 : Int32) (h : pg_H), pg_EvF l D RX6 cX6_findGroups 6 (some FieldType.int) "findGroups" 1 23 pg_wI (k154 a0 a1 a2 a3 h) 154 [(0, pR a0), (1, pI a1), (2, pI a2), (3, pI a3)] [] h) (a0 : Nat) (a1 : Int32) (a2 : Int32) (a3 : Int32) (h : pg_H) : pg_EvF l D RX6 cX6_findGroups 6 (some FieldType.int) "findGroups" 1 23 pg_wI (F_X6_findGroups_179 k154 a0 a1 a2 a3 h) 179 [(0, pR a0), (1, pI a1), (2, pI a2), (3, pI a3)] [] h := by
  unfold F_X6_findGroups_179
  refine pg_iinc (lv' := [(3, pI (a3 + (1 : Int32))), (0, pR a0), (1, pI a1), (2, pI a2)]) dX6_findGroups_179 3 rfl ci_1 (by decide) rfl ?_
  refine pg_goto (tgt := 154) dX6_findGroups_182 rfl ?_
  exact pg_to (hk154 a0 a1 a2 (a3 + (1 : Int32)) h) [1, 2, 3, 0] rfl
theorem e_X6_findGroups_154 (l : Launch) (D : pg_D)   : ∀ (n : Nat) (a0 : Nat) (a1 : Int32) (a2 : Int32) (a3 : Int32) (h : pg_H), pg_EvF l D RX6 cX6_findGroups 6 (some FieldType.int) "findGroups" 1 23 pg_wI (F_X6_findGroups_154 n a0 a1 a2 a3 h) 154 [(0, pR a0), (1, pI a1), (2, pI a2), (3, pI a3)] [] h := by
  intro n
  induction n with
  | zero => intro a0 a1 a2 a3 h; exact pg_none
  | succ n ih =>
    intro a0 a1 a2 a3 h
    rw [F_X6_findGroups_154]
    refine pg_iload_n (i := 3) dX6_findGroups_154 rfl 3 rfl ?_
    refine pg_iload_n (i := 1) dX6_findGroups_155 rfl 1 rfl ?_
    refine pg_icmp_ge (tgt := 185) dX6_findGroups_156 rfl ?_ ?_
    · refine pg_iload_n (i := 2) dX6_findGroups_185 rfl 2 rfl ?_
      exact pg_iret dX6_findGroups_186 rfl rfl
    · refine pg_aload_n (i := 0) dX6_findGroups_159 rfl 0 rfl ?_
      refine pg_getR dX6_findGroups_160 fl_RX6_25 rfl (fun v1 => ?_)
      refine pg_iload_n (i := 3) dX6_findGroups_163 rfl 3 rfl ?_
      refine pg_iaload dX6_findGroups_164 (fun v2 => ?_)
      refine pg_iconst dX6_findGroups_165 ci_m1 ?_
      refine pg_icmp_ne (tgt := 179) dX6_findGroups_166 rfl ?_ ?_
      · exact pg_to (e_X6_findGroups_179 l D (F_X6_findGroups_154 n) ih a0 a1 a2 a3 h) [0, 1, 2, 3] rfl
      · refine pg_aload_n (i := 0) dX6_findGroups_169 rfl 0 rfl ?_
        refine pg_getR dX6_findGroups_170 fl_RX6_25 rfl (fun v3 => ?_)
        refine pg_iload_n (i := 3) dX6_findGroups_173 rfl 3 rfl ?_
        refine pg_iload_n (i := 2) dX6_findGroups_174 rfl 2 rfl ?_
        refine pg_iastore dX6_findGroups_175 (fun v4 => ?_)
        refine pg_iinc (lv' := [(2, pI (a2 + (1 : Int32))), (0, pR a0), (1, pI a1), (3, pI a3)]) dX6_findGroups_176 2 rfl ci_1 (by decide) rfl ?_
        exact pg_to (e_X6_findGroups_179 l D (F_X6_findGroups_154 n) ih a0 a1 (a2 + (1 : Int32)) a3 v4) [1, 2, 0, 3] rfl
theorem e_X6_findGroups_146 (l : Launch) (D : pg_D)  (k27 : Nat → Int32 → Int32 → Int32 → pg_H → Option (Int32 × pg_H)) (hk27 : ∀ (a0 : Nat) (a1 : Int32) (a2 : Int32) (a3 : Int32) (h : pg_H), pg_EvF l D RX6 cX6_findGroups 6 (some FieldType.int) "findGroups" 1 23 pg_wI (k27 a0 a1 a2 a3 h) 27 [(0, pR a0), (1, pI a1), (2, pI a2), (3, pI a3)] [] h) (a0 : Nat) (a1 : Int32) (a2 : Int32) (a3 : Int32) (h : pg_H) : pg_EvF l D RX6 cX6_findGroups 6 (some FieldType.int) "findGroups" 1 23 pg_wI (F_X6_findGroups_146 k27 a0 a1 a2 a3 h) 146 [(0, pR a0), (1, pI a1), (2, pI a2), (3, pI a3)] [] h := by
  unfold F_X6_findGroups_146
  refine pg_iinc (lv' := [(3, pI (a3 + (1 : Int32))), (0, pR a0), (1, pI a1), (2, pI a2)]) dX6_findGroups_146 3 rfl ci_1 (by decide) rfl ?_
  refine pg_goto (tgt := 27) dX6_findGroups_149 rfl ?_
  exact pg_to (hk27 a0 a1 a2 (a3 + (1 : Int32)) h) [1, 2, 3, 0] rfl
theorem e_X6_findGroups_143 (l : Launch) (D : pg_D)  (k27 : Nat → Int32 → Int32 → Int32 → pg_H → Option (Int32 × pg_H)) (hk27 : ∀ (a0 : Nat) (a1 : Int32) (a2 : Int32) (a3 : Int32) (h : pg_H), pg_EvF l D RX6 cX6_findGroups 6 (some FieldType.int) "findGroups" 1 23 pg_wI (k27 a0 a1 a2 a3 h) 27 [(0, pR a0), (1, pI a1), (2, pI a2), (3, pI a3)] [] h) (a0 : Nat) (a1 : Int32) (a2 : Int32) (a3 : Int32) (h : pg_H) : pg_EvF l D RX6 cX6_findGroups 6 (some FieldType.int) "findGroups" 1 23 pg_wI (F_X6_findGroups_143 k27 a0 a1 a2 a3 h) 143 [(0, pR a0), (1, pI a1), (2, pI a2), (3, pI a3)] [] h := by
  unfold F_X6_findGroups_143
  refine pg_iinc (lv' := [(2, pI (a2 + (1 : Int32))), (0, pR a0), (1, pI a1), (3, pI a3)]) dX6_findGroups_143 2 rfl ci_1 (by decide) rfl ?_
  exact pg_to (e_X6_findGroups_146 l D k27 hk27 a0 a1 (a2 + (1 : Int32)) a3 h) [1, 2, 0, 3] rfl
theorem e_X6_findGroups_102 (l : Launch) (D : pg_D)  (k27 : Nat → Int32 → Int32 → Int32 → pg_H → Option (Int32 × pg_H)) (hk27 : ∀ (a0 : Nat) (a1 : Int32) (a2 : Int32) (a3 : Int32) (h : pg_H), pg_EvF l D RX6 cX6_findGroups 6 (some FieldType.int) "findGroups" 1 23 pg_wI (k27 a0 a1 a2 a3 h) 27 [(0, pR a0), (1, pI a1), (2, pI a2), (3, pI a3)] [] h) : ∀ (n : Nat) (a0 : Nat) (a1 : Int32) (a2 : Int32) (a3 : Int32) (a4 : Int32) (a5 : Int32) (h : pg_H), pg_EvF l D RX6 cX6_findGroups 6 (some FieldType.int) "findGroups" 1 23 pg_wI (F_X6_findGroups_102 k27 n a0 a1 a2 a3 a4 a5 h) 102 [(0, pR a0), (1, pI a1), (2, pI a2), (3, pI a3), (4, pI a4), (5, pI a5)] [] h := by
  intro n
  induction n with
  | zero => intro a0 a1 a2 a3 a4 a5 h; exact pg_none
  | succ n ih =>
    intro a0 a1 a2 a3 a4 a5 h
    rw [F_X6_findGroups_102]
    refine pg_iload dX6_findGroups_102 5 rfl ?_
    refine pg_bipush dX6_findGroups_104 cb_13 ?_
    refine pg_icmp_ge (tgt := 143) dX6_findGroups_106 rfl ?_ ?_
    · exact pg_to (e_X6_findGroups_143 l D k27 hk27 a0 a1 a2 a3 h) [0, 1, 2, 3] rfl
    · refine pg_aload_n (i := 0) dX6_findGroups_109 rfl 0 rfl ?_
      refine pg_getR dX6_findGroups_110 fl_RX6_25 rfl (fun v1 => ?_)
      refine pg_iload dX6_findGroups_113 4 rfl ?_
      refine pg_iaload dX6_findGroups_115 (fun v2 => ?_)
      refine pg_iconst dX6_findGroups_116 ci_m1 ?_
      refine pg_icmp_ne (tgt := 143) dX6_findGroups_117 rfl ?_ ?_
      · exact pg_to (e_X6_findGroups_143 l D k27 hk27 a0 a1 a2 a3 h) [0, 1, 2, 3] rfl
      · refine pg_aload_n (i := 0) dX6_findGroups_120 rfl 0 rfl ?_
        refine pg_getR dX6_findGroups_121 fl_RX6_25 rfl (fun v3 => ?_)
        refine pg_iload dX6_findGroups_124 4 rfl ?_
        refine pg_iload_n (i := 2) dX6_findGroups_126 rfl 2 rfl ?_
        refine pg_iastore dX6_findGroups_127 (fun v4 => ?_)
        refine pg_aload_n (i := 0) dX6_findGroups_128 rfl 0 rfl ?_
        refine pg_getR dX6_findGroups_129 fl_RX6_22 rfl (fun v5 => ?_)
        refine pg_iload dX6_findGroups_132 4 rfl ?_
        refine pg_iaload dX6_findGroups_134 (fun v6 => ?_)
        refine pg_istore (lv' := [(4, pI v6), (0, pR a0), (1, pI a1), (2, pI a2), (3, pI a3), (5, pI a5)]) dX6_findGroups_135 (by decide) rfl ?_
        refine pg_iinc (lv' := [(5, pI (a5 + (1 : Int32))), (4, pI v6), (0, pR a0), (1, pI a1), (2, pI a2), (3, pI a3)]) dX6_findGroups_137 5 rfl ci_1 (by decide) rfl ?_
        refine pg_goto (tgt := 102) dX6_findGroups_140 rfl ?_
        exact pg_to (ih a0 a1 a2 a3 v6 (a5 + (1 : Int32)) v4) [2, 3, 4, 5, 1, 0] rfl
theorem e_X6_findGroups_83 (l : Launch) (D : pg_D)  (k27 : Nat → Int32 → Int32 → Int32 → pg_H → Option (Int32 × pg_H)) (hk27 : ∀ (a0 : Nat) (a1 : Int32) (a2 : Int32) (a3 : Int32) (h : pg_H), pg_EvF l D RX6 cX6_findGroups 6 (some FieldType.int) "findGroups" 1 23 pg_wI (k27 a0 a1 a2 a3 h) 27 [(0, pR a0), (1, pI a1), (2, pI a2), (3, pI a3)] [] h) (a0 : Nat) (a1 : Int32) (a2 : Int32) (a3 : Int32) (a4 : Int32) (h : pg_H) : pg_EvF l D RX6 cX6_findGroups 6 (some FieldType.int) "findGroups" 1 23 pg_wI (F_X6_findGroups_83 k27 a0 a1 a2 a3 a4 h) 83 [(0, pR a0), (1, pI a1), (2, pI a2), (3, pI a3), (4, pI a4)] [] h := by
  unfold F_X6_findGroups_83
  refine pg_iload dX6_findGroups_83 4 rfl ?_
  refine pg_if_eq (tgt := 146) dX6_findGroups_85 rfl ?_ ?_
  · exact pg_to (e_X6_findGroups_146 l D k27 hk27 a0 a1 a2 a3 h) [0, 1, 2, 3] rfl
  · refine pg_aload_n (i := 0) dX6_findGroups_88 rfl 0 rfl ?_
    refine pg_getR dX6_findGroups_89 fl_RX6_28 rfl (fun v1 => ?_)
    refine pg_iload dX6_findGroups_92 4 rfl ?_
    refine pg_iaload dX6_findGroups_94 (fun v2 => ?_)
    refine pg_iload_n (i := 3) dX6_findGroups_95 rfl 3 rfl ?_
    refine pg_icmp_ne (tgt := 146) dX6_findGroups_96 rfl ?_ ?_
    · exact pg_to (e_X6_findGroups_146 l D k27 hk27 a0 a1 a2 a3 h) [0, 1, 2, 3] rfl
    · refine pg_iconst dX6_findGroups_99 ci_0 ?_
      refine pg_istore (lv' := [(5, pI (0 : Int32)), (0, pR a0), (1, pI a1), (2, pI a2), (3, pI a3), (4, pI a4)]) dX6_findGroups_100 (by decide) rfl ?_
      exact pg_to (e_X6_findGroups_102 l D k27 hk27 pg_fuel a0 a1 a2 a3 a4 (0 : Int32) h) [1, 2, 3, 4, 5, 0] rfl
theorem e_X6_findGroups_38 (l : Launch) (D : pg_D)  (k27 : Nat → Int32 → Int32 → Int32 → pg_H → Option (Int32 × pg_H)) (hk27 : ∀ (a0 : Nat) (a1 : Int32) (a2 : Int32) (a3 : Int32) (h : pg_H), pg_EvF l D RX6 cX6_findGroups 6 (some FieldType.int) "findGroups" 1 23 pg_wI (k27 a0 a1 a2 a3 h) 27 [(0, pR a0), (1, pI a1), (2, pI a2), (3, pI a3)] [] h) : ∀ (n : Nat) (a0 : Nat) (a1 : Int32) (a2 : Int32) (a3 : Int32) (a4 : Int32) (a5 : Int32) (h : pg_H), pg_EvF l D RX6 cX6_findGroups 6 (some FieldType.int) "findGroups" 1 23 pg_wI (F_X6_findGroups_38 k27 n a0 a1 a2 a3 a4 a5 h) 38 [(0, pR a0), (1, pI a1), (2, pI a2), (3, pI a3), (4, pI a4), (5, pI a5)] [] h := by
  intro n
  induction n with
  | zero => intro a0 a1 a2 a3 a4 a5 h; exact pg_none
  | succ n ih =>
    intro a0 a1 a2 a3 a4 a5 h
    rw [F_X6_findGroups_38]
    refine pg_iload dX6_findGroups_38 5 rfl ?_
    refine pg_bipush dX6_findGroups_40 cb_13 ?_
    refine pg_icmp_ge (tgt := 83) dX6_findGroups_42 rfl ?_ ?_
    · exact pg_to (e_X6_findGroups_83 l D k27 hk27 a0 a1 a2 a3 a4 h) [0, 1, 2, 3, 4] rfl
    · refine pg_iload dX6_findGroups_45 4 rfl ?_
      refine pg_if_eq (tgt := 83) dX6_findGroups_47 rfl ?_ ?_
      · exact pg_to (e_X6_findGroups_83 l D k27 hk27 a0 a1 a2 a3 a4 h) [0, 1, 2, 3, 4] rfl
      · refine pg_aload_n (i := 0) dX6_findGroups_50 rfl 0 rfl ?_
        refine pg_getR dX6_findGroups_51 fl_RX6_28 rfl (fun v1 => ?_)
        refine pg_iload dX6_findGroups_54 4 rfl ?_
        refine pg_iaload dX6_findGroups_56 (fun v2 => ?_)
        refine pg_if_ne (tgt := 83) dX6_findGroups_57 rfl ?_ ?_
        · exact pg_to (e_X6_findGroups_83 l D k27 hk27 a0 a1 a2 a3 a4 h) [0, 1, 2, 3, 4] rfl
        · refine pg_aload_n (i := 0) dX6_findGroups_60 rfl 0 rfl ?_
          refine pg_getR dX6_findGroups_61 fl_RX6_28 rfl (fun v3 => ?_)
          refine pg_iload dX6_findGroups_64 4 rfl ?_
          refine pg_iload_n (i := 3) dX6_findGroups_66 rfl 3 rfl ?_
          refine pg_iastore dX6_findGroups_67 (fun v4 => ?_)
          refine pg_aload_n (i := 0) dX6_findGroups_68 rfl 0 rfl ?_
          refine pg_getR dX6_findGroups_69 fl_RX6_22 rfl (fun v5 => ?_)
          refine pg_iload dX6_findGroups_72 4 rfl ?_
          refine pg_iaload dX6_findGroups_74 (fun v6 => ?_)
          refine pg_istore (lv' := [(4, pI v6), (0, pR a0), (1, pI a1), (2, pI a2), (3, pI a3), (5, pI a5)]) dX6_findGroups_75 (by decide) rfl ?_
          refine pg_iinc (lv' := [(5, pI (a5 + (1 : Int32))), (4, pI v6), (0, pR a0), (1, pI a1), (2, pI a2), (3, pI a3)]) dX6_findGroups_77 5 rfl ci_1 (by decide) rfl ?_
          refine pg_goto (tgt := 38) dX6_findGroups_80 rfl ?_
          exact pg_to (ih a0 a1 a2 a3 v6 (a5 + (1 : Int32)) v4) [2, 3, 4, 5, 1, 0] rfl
theorem e_X6_findGroups_27 (l : Launch) (D : pg_D)   : ∀ (n : Nat) (a0 : Nat) (a1 : Int32) (a2 : Int32) (a3 : Int32) (h : pg_H), pg_EvF l D RX6 cX6_findGroups 6 (some FieldType.int) "findGroups" 1 23 pg_wI (F_X6_findGroups_27 n a0 a1 a2 a3 h) 27 [(0, pR a0), (1, pI a1), (2, pI a2), (3, pI a3)] [] h := by
  intro n
  induction n with
  | zero => intro a0 a1 a2 a3 h; exact pg_none
  | succ n ih =>
    intro a0 a1 a2 a3 h
    rw [F_X6_findGroups_27]
    refine pg_iload_n (i := 3) dX6_findGroups_27 rfl 3 rfl ?_
    refine pg_iload_n (i := 1) dX6_findGroups_28 rfl 1 rfl ?_
    refine pg_icmp_ge (tgt := 152) dX6_findGroups_29 rfl ?_ ?_
    · refine pg_iconst dX6_findGroups_152 ci_1 ?_
      refine pg_istore_n (i := 3) (lv' := [(3, pI (1 : Int32)), (0, pR a0), (1, pI a1), (2, pI a2)]) dX6_findGroups_153 rfl (by decide) rfl ?_
      exact pg_to (e_X6_findGroups_154 l D pg_fuel a0 a1 a2 (1 : Int32) h) [1, 2, 3, 0] rfl
    · refine pg_iload_n (i := 3) dX6_findGroups_32 rfl 3 rfl ?_
      refine pg_istore (lv' := [(4, pI a3), (0, pR a0), (1, pI a1), (2, pI a2), (3, pI a3)]) dX6_findGroups_33 (by decide) rfl ?_
      refine pg_iconst dX6_findGroups_35 ci_0 ?_
      refine pg_istore (lv' := [(5, pI (0 : Int32)), (4, pI a3), (0, pR a0), (1, pI a1), (2, pI a2), (3, pI a3)]) dX6_findGroups_36 (by decide) rfl ?_
      exact pg_to (e_X6_findGroups_38 l D (F_X6_findGroups_27 n) ih pg_fuel a0 a1 a2 a3 a3 (0 : Int32) h) [2, 3, 4, 5, 1, 0] rfl
theorem e_X6_findGroups (l : Launch) (D : pg_D)  (a0 : Nat) (a1 : Int32) (h : pg_H) : pg_EvF l D RX6 cX6_findGroups 6 (some FieldType.int) "findGroups" 1 23 pg_wI (F_X6_findGroups a0 a1 h) 0 [(0, pR a0), (1, pI a1)] [] h := by
  unfold F_X6_findGroups
  refine pg_aload_n (i := 0) dX6_findGroups_0 rfl 0 rfl ?_
  refine pg_getR dX6_findGroups_1 fl_RX6_25 rfl (fun v1 => ?_)
  refine pg_iconst dX6_findGroups_4 ci_m1 ?_
  refine pg_callS_wV (As := [pR v1, pI (-1 : Int32)]) (rs := []) dX6_findGroups_5 lk_RX6_61 vy_J7_fill_53178 nd_J7_fill_53178 (c_J7_fill_53178 l D v1 (-1 : Int32) h) rfl rfl (Nat.le_of_ble_eq_true rfl) (by decide) (by decide) (fun v2 => ?_)
  refine pg_aload_n (i := 0) dX6_findGroups_8 rfl 0 rfl ?_
  refine pg_getR dX6_findGroups_9 fl_RX6_28 rfl (fun v3 => ?_)
  refine pg_iconst dX6_findGroups_12 ci_0 ?_
  refine pg_callS_wV (As := [pR v3, pI (0 : Int32)]) (rs := []) dX6_findGroups_13 lk_RX6_61 vy_J7_fill_53178 nd_J7_fill_53178 (c_J7_fill_53178 l D v3 (0 : Int32) v2) rfl rfl (Nat.le_of_ble_eq_true rfl) (by decide) (by decide) (fun v4 => ?_)
  refine pg_aload_n (i := 0) dX6_findGroups_16 rfl 0 rfl ?_
  refine pg_getR dX6_findGroups_17 fl_RX6_25 rfl (fun v5 => ?_)
  refine pg_iconst dX6_findGroups_20 ci_0 ?_
  refine pg_iconst dX6_findGroups_21 ci_0 ?_
  refine pg_iastore dX6_findGroups_22 (fun v6 => ?_)
  refine pg_iconst dX6_findGroups_23 ci_1 ?_
  refine pg_istore_n (i := 2) (lv' := [(2, pI (1 : Int32)), (0, pR a0), (1, pI a1)]) dX6_findGroups_24 rfl (by decide) rfl ?_
  refine pg_iconst dX6_findGroups_25 ci_1 ?_
  refine pg_istore_n (i := 3) (lv' := [(3, pI (1 : Int32)), (2, pI (1 : Int32)), (0, pR a0), (1, pI a1)]) dX6_findGroups_26 rfl (by decide) rfl ?_
  exact pg_to (e_X6_findGroups_27 l D pg_fuel a0 a1 (1 : Int32) (1 : Int32) v6) [2, 3, 1, 0] rfl
theorem c_X6_findGroups (l : Launch) (D : pg_D) (a0 : Nat) (a1 : Int32) (h : pg_H) : ∀ x, F_X6_findGroups a0 a1 h = some x → pg_Ct l D yX6_findGroups cX6_findGroups 6 (some FieldType.int) 1 23 [pR a0, pI a1] h (pg_wI x) :=
  pg_Ct.of pn_RX6 (Nat.le_of_ble_eq_true rfl) (e_X6_findGroups l D a0 a1 h)
def F_J7_fill_d0a16_6  : Nat → Nat → Int64 → Int32 → Int32 → pg_H → Option pg_H
  | 0 => fun _ _ _ _ _ => none
  | n + 1 => fun a0 a1 a3 a4 h => (if a3 < a4 then Option.bind (pg_sL h a0 a3 a1) fun v1 => (F_J7_fill_d0a16_6 n a0 a1 (a3 + (1 : Int32)) a4 v1) else (some h))
def F_J7_fill_d0a16 (a0 : Nat) (a1 : Int64) (h : pg_H) : Option pg_H := Option.bind (pg_len h a0) fun v1 => (F_J7_fill_d0a16_6 pg_fuel a0 a1 (0 : Int32) v1 h)
theorem e_J7_fill_d0a16_6 (l : Launch) (D : pg_D)   : ∀ (n : Nat) (a0 : Nat) (a1 : Int64) (a3 : Int32) (a4 : Int32) (h : pg_H), pg_EvF l D RJ7 cJ7_fill_d0a16 5 none "fill" 0 0 pg_wV (F_J7_fill_d0a16_6 n a0 a1 a3 a4 h) 6 [(0, pR a0), (1, pL a1), (3, pI a3), (4, pI a4)] [] h := by
  intro n
  induction n with
  | zero => intro a0 a1 a3 a4 h; exact pg_none
  | succ n ih =>
    intro a0 a1 a3 a4 h
    rw [F_J7_fill_d0a16_6]
    refine pg_iload_n (i := 3) dJ7_fill_d0a16_6 rfl 2 rfl ?_
    refine pg_iload dJ7_fill_d0a16_7 3 rfl ?_
    refine pg_icmp_ge (tgt := 22) dJ7_fill_d0a16_9 rfl ?_ ?_
    · exact pg_vret dJ7_fill_d0a16_22 rfl rfl
    · refine pg_aload_n (i := 0) dJ7_fill_d0a16_12 rfl 0 rfl ?_
      refine pg_iload_n (i := 3) dJ7_fill_d0a16_13 rfl 2 rfl ?_
      refine pg_lload_n (i := 1) dJ7_fill_d0a16_14 rfl 1 rfl ?_
      refine pg_lastore dJ7_fill_d0a16_15 (fun v1 => ?_)
      refine pg_iinc (lv' := [(3, pI (a3 + (1 : Int32))), (0, pR a0), (1, pL a1), (4, pI a4)]) dJ7_fill_d0a16_16 2 rfl ci_1 (by decide) rfl ?_
      refine pg_goto (tgt := 6) dJ7_fill_d0a16_19 rfl ?_
      exact pg_to (ih a0 a1 (a3 + (1 : Int32)) a4 v1) [1, 2, 0, 3] rfl
theorem e_J7_fill_d0a16 (l : Launch) (D : pg_D)  (a0 : Nat) (a1 : Int64) (h : pg_H) : pg_EvF l D RJ7 cJ7_fill_d0a16 5 none "fill" 0 0 pg_wV (F_J7_fill_d0a16 a0 a1 h) 0 [(0, pR a0), (1, pL a1)] [] h := by
  unfold F_J7_fill_d0a16
  refine pg_iconst dJ7_fill_d0a16_0 ci_0 ?_
  refine pg_istore_n (i := 3) (lv' := [(3, pI (0 : Int32)), (0, pR a0), (1, pL a1)]) dJ7_fill_d0a16_1 rfl (by decide) rfl ?_
  refine pg_aload_n (i := 0) dJ7_fill_d0a16_2 rfl 1 rfl ?_
  refine pg_alen dJ7_fill_d0a16_3 (fun v1 => ?_)
  refine pg_istore (lv' := [(4, pI v1), (3, pI (0 : Int32)), (0, pR a0), (1, pL a1)]) dJ7_fill_d0a16_4 (by decide) rfl ?_
  exact pg_to (e_J7_fill_d0a16_6 l D pg_fuel a0 a1 (0 : Int32) v1 h) [2, 3, 1, 0] rfl
theorem c_J7_fill_d0a16 (l : Launch) (D : pg_D) (a0 : Nat) (a1 : Int64) (h : pg_H) : ∀ x, F_J7_fill_d0a16 a0 a1 h = some x → pg_Ct l D yJ7_fill_d0a16 cJ7_fill_d0a16 5 none 0 0 [pR a0, pL a1] h (pg_wV x) :=
  pg_Ct.of pn_RJ7 (Nat.le_of_ble_eq_true rfl) (e_J7_fill_d0a16 l D a0 a1 h)
def F_X6_mergeGroups_141 (k37 : Nat → Int32 → Int32 → Int64 → Int32 → pg_H → Option pg_H) (a0 : Nat) (a1 : Int32) (a2 : Int32) (a3 : Int64) (a5 : Int32) (h : pg_H) : Option pg_H := (k37 a0 a1 a2 a3 (a5 + (1 : Int32)) h)
def F_X6_mergeGroups_130 (k37 : Nat → Int32 → Int32 → Int64 → Int32 → pg_H → Option pg_H) (a0 : Nat) (a1 : Int32) (a2 : Int32) (a3 : Int64) (a5 : Int32) (a6 : Int64) (a8 : Int32) (h : pg_H) : Option pg_H := Option.bind (pg_gR 6 2 h a0) fun v1 => Option.bind (pg_sL h v1 a8 (a6 - a3)) fun v2 => (F_X6_mergeGroups_141 k37 a0 a1 a2 a3 a5 v2)
def F_X6_mergeGroups_37 (k12 : Nat → Int32 → Int32 → pg_H → Option pg_H) : Nat → Nat → Int32 → Int32 → Int64 → Int32 → pg_H → Option pg_H
  | 0 => fun _ _ _ _ _ _ => none
  | n + 1 => fun a0 a1 a2 a3 a5 h => (if a5 < a1 then Option.bind (pg_gR 6 1 h a0) fun v1 => Option.bind (pg_aL h v1 ((a5 * (13 : Int32)) + a2)) fun v2 => Option.bind (pg_gR 6 4 h a0) fun v3 => Option.bind (pg_aI 21 h v3 a5) fun v4 => Option.bind (pg_gR 6 4 h a0) fun v5 => Option.bind (pg_aI 21 h v5 a2) fun v6 => pg_let ((v4 * (13 : Int32)) + v6) fun v7 => Option.bind (pg_gR 6 4 h a0) fun v8 => Option.bind (pg_aI 21 h v8 a5) fun v9 => Option.bind (pg_gR 6 4 h a0) fun v10 => Option.bind (pg_aI 21 h v10 a2) fun v11 => (if v9 = v11 then (F_X6_mergeGroups_141 (F_X6_mergeGroups_37 k12 n) a0 a1 a2 a3 a5 h) else (if v2 = (-1 : Int64) then (F_X6_mergeGroups_141 (F_X6_mergeGroups_37 k12 n) a0 a1 a2 a3 a5 h) else Option.bind (pg_gR 6 2 h a0) fun v12 => Option.bind (pg_aL h v12 v7) fun v13 => (if v13 = (-1 : Int64) then (F_X6_mergeGroups_130 (F_X6_mergeGroups_37 k12 n) a0 a1 a2 a3 a5 v2 v7 h) else Option.bind (pg_gR 6 2 h a0) fun v14 => Option.bind (pg_aL h v14 v7) fun v15 => (if (v2 - a3) < v15 then (F_X6_mergeGroups_130 (F_X6_mergeGroups_37 k12 n) a0 a1 a2 a3 a5 v2 v7 h) else (F_X6_mergeGroups_141 (F_X6_mergeGroups_37 k12 n) a0 a1 a2 a3 a5 h))))) else (k12 a0 a1 (a2 + (1 : Int32)) h))
def F_X6_mergeGroups_12  : Nat → Nat → Int32 → Int32 → pg_H → Option pg_H
  | 0 => fun _ _ _ _ => none
  | n + 1 => fun a0 a1 a2 h => (if a2 < a1 then Option.bind (pg_gR 6 1 h a0) fun v6 => Option.bind (pg_gR 6 3 h a0) fun v7 => Option.bind (pg_aI 21 h v7 a2) fun v8 => Option.bind (pg_aL h v6 ((v8 * (13 : Int32)) + a2)) fun v9 => (F_X6_mergeGroups_37 (F_X6_mergeGroups_12 n) pg_fuel a0 a1 a2 v9 (0 : Int32) h) else Option.bind (pg_gR 6 2 h a0) fun v1 => Option.bind (pg_gR 6 1 h a0) fun v2 => Option.bind (pg_gR 6 1 h a0) fun v3 => Option.bind (pg_len h v3) fun v4 => Option.bind (pg_cpyL h v1 (0 : Int32) v2 (0 : Int32) v4) fun v5 => (some v5))
def F_X6_mergeGroups (a0 : Nat) (a1 : Int32) (h : pg_H) : Option pg_H := Option.bind (pg_gR 6 2 h a0) fun v1 => Option.bind (F_J7_fill_d0a16 v1 (-1 : Int64) h) fun v2 => (F_X6_mergeGroups_12 pg_fuel a0 a1 (1 : Int32) v2)
theorem e_X6_mergeGroups_141 (l : Launch) (D : pg_D)  (k37 : Nat → Int32 → Int32 → Int64 → Int32 → pg_H → Option pg_H) (hk37 : ∀ (a0 : Nat) (a1 : Int32) (a2 : Int32) (a3 : Int64) (a5 : Int32) (h : pg_H), pg_EvF l D RX6 cX6_mergeGroups 9 none "mergeGroups" 1 60 pg_wV (k37 a0 a1 a2 a3 a5 h) 37 [(0, pR a0), (1, pI a1), (2, pI a2), (3, pL a3), (5, pI a5)] [] h) (a0 : Nat) (a1 : Int32) (a2 : Int32) (a3 : Int64) (a5 : Int32) (h : pg_H) : pg_EvF l D RX6 cX6_mergeGroups 9 none "mergeGroups" 1 60 pg_wV (F_X6_mergeGroups_141 k37 a0 a1 a2 a3 a5 h) 141 [(0, pR a0), (1, pI a1), (2, pI a2), (3, pL a3), (5, pI a5)] [] h := by
  unfold F_X6_mergeGroups_141
  refine pg_iinc (lv' := [(5, pI (a5 + (1 : Int32))), (0, pR a0), (1, pI a1), (2, pI a2), (3, pL a3)]) dX6_mergeGroups_141 4 rfl ci_1 (by decide) rfl ?_
  refine pg_goto (tgt := 37) dX6_mergeGroups_144 rfl ?_
  exact pg_to (hk37 a0 a1 a2 a3 (a5 + (1 : Int32)) h) [1, 2, 3, 4, 0] rfl
theorem e_X6_mergeGroups_130 (l : Launch) (D : pg_D)  (k37 : Nat → Int32 → Int32 → Int64 → Int32 → pg_H → Option pg_H) (hk37 : ∀ (a0 : Nat) (a1 : Int32) (a2 : Int32) (a3 : Int64) (a5 : Int32) (h : pg_H), pg_EvF l D RX6 cX6_mergeGroups 9 none "mergeGroups" 1 60 pg_wV (k37 a0 a1 a2 a3 a5 h) 37 [(0, pR a0), (1, pI a1), (2, pI a2), (3, pL a3), (5, pI a5)] [] h) (a0 : Nat) (a1 : Int32) (a2 : Int32) (a3 : Int64) (a5 : Int32) (a6 : Int64) (a8 : Int32) (h : pg_H) : pg_EvF l D RX6 cX6_mergeGroups 9 none "mergeGroups" 1 60 pg_wV (F_X6_mergeGroups_130 k37 a0 a1 a2 a3 a5 a6 a8 h) 130 [(0, pR a0), (1, pI a1), (2, pI a2), (3, pL a3), (5, pI a5), (6, pL a6), (8, pI a8)] [] h := by
  unfold F_X6_mergeGroups_130
  refine pg_aload_n (i := 0) dX6_mergeGroups_130 rfl 0 rfl ?_
  refine pg_getR dX6_mergeGroups_131 fl_RX6_19 rfl (fun v1 => ?_)
  refine pg_iload dX6_mergeGroups_134 6 rfl ?_
  refine pg_lload dX6_mergeGroups_136 5 rfl ?_
  refine pg_lload_n (i := 3) dX6_mergeGroups_138 rfl 3 rfl ?_
  refine pg_lsub dX6_mergeGroups_139 ?_
  refine pg_lastore dX6_mergeGroups_140 (fun v2 => ?_)
  exact pg_to (e_X6_mergeGroups_141 l D k37 hk37 a0 a1 a2 a3 a5 v2) [0, 1, 2, 3, 4] rfl
theorem e_X6_mergeGroups_37 (l : Launch) (D : pg_D)  (k12 : Nat → Int32 → Int32 → pg_H → Option pg_H) (hk12 : ∀ (a0 : Nat) (a1 : Int32) (a2 : Int32) (h : pg_H), pg_EvF l D RX6 cX6_mergeGroups 9 none "mergeGroups" 1 60 pg_wV (k12 a0 a1 a2 h) 12 [(0, pR a0), (1, pI a1), (2, pI a2)] [] h) : ∀ (n : Nat) (a0 : Nat) (a1 : Int32) (a2 : Int32) (a3 : Int64) (a5 : Int32) (h : pg_H), pg_EvF l D RX6 cX6_mergeGroups 9 none "mergeGroups" 1 60 pg_wV (F_X6_mergeGroups_37 k12 n a0 a1 a2 a3 a5 h) 37 [(0, pR a0), (1, pI a1), (2, pI a2), (3, pL a3), (5, pI a5)] [] h := by
  intro n
  induction n with
  | zero => intro a0 a1 a2 a3 a5 h; exact pg_none
  | succ n ih =>
    intro a0 a1 a2 a3 a5 h
    rw [F_X6_mergeGroups_37]
    refine pg_iload dX6_mergeGroups_37 4 rfl ?_
    refine pg_iload_n (i := 1) dX6_mergeGroups_39 rfl 1 rfl ?_
    refine pg_icmp_ge (tgt := 147) dX6_mergeGroups_40 rfl ?_ ?_
    · refine pg_iinc (lv' := [(2, pI (a2 + (1 : Int32))), (0, pR a0), (1, pI a1), (3, pL a3), (5, pI a5)]) dX6_mergeGroups_147 2 rfl ci_1 (by decide) rfl ?_
      refine pg_goto (tgt := 12) dX6_mergeGroups_150 rfl ?_
      exact pg_to (hk12 a0 a1 (a2 + (1 : Int32)) h) [1, 2, 0] rfl
    · refine pg_aload_n (i := 0) dX6_mergeGroups_43 rfl 0 rfl ?_
      refine pg_getR dX6_mergeGroups_44 fl_RX6_15 rfl (fun v1 => ?_)
      refine pg_iload dX6_mergeGroups_47 4 rfl ?_
      refine pg_bipush dX6_mergeGroups_49 cb_13 ?_
      refine pg_imul dX6_mergeGroups_51 ?_
      refine pg_iload_n (i := 2) dX6_mergeGroups_52 rfl 2 rfl ?_
      refine pg_iadd dX6_mergeGroups_53 ?_
      refine pg_laload dX6_mergeGroups_54 (fun v2 => ?_)
      refine pg_lstore (lv' := [(6, pL v2), (0, pR a0), (1, pI a1), (2, pI a2), (3, pL a3), (5, pI a5)]) dX6_mergeGroups_55 (by decide) rfl ?_
      refine pg_aload_n (i := 0) dX6_mergeGroups_57 rfl 1 rfl ?_
      refine pg_getR dX6_mergeGroups_58 fl_RX6_25 rfl (fun v3 => ?_)
      refine pg_iload dX6_mergeGroups_61 5 rfl ?_
      refine pg_iaload dX6_mergeGroups_63 (fun v4 => ?_)
      refine pg_bipush dX6_mergeGroups_64 cb_13 ?_
      refine pg_imul dX6_mergeGroups_66 ?_
      refine pg_aload_n (i := 0) dX6_mergeGroups_67 rfl 1 rfl ?_
      refine pg_getR dX6_mergeGroups_68 fl_RX6_25 rfl (fun v5 => ?_)
      refine pg_iload_n (i := 2) dX6_mergeGroups_71 rfl 3 rfl ?_
      refine pg_iaload dX6_mergeGroups_72 (fun v6 => ?_)
      refine pg_iadd dX6_mergeGroups_73 ?_
      refine pg_letI (fun v7 => ?_)
      refine pg_istore (lv' := [(8, pI v7), (6, pL v2), (0, pR a0), (1, pI a1), (2, pI a2), (3, pL a3), (5, pI a5)]) dX6_mergeGroups_74 (by decide) rfl ?_
      refine pg_aload_n (i := 0) dX6_mergeGroups_76 rfl 2 rfl ?_
      refine pg_getR dX6_mergeGroups_77 fl_RX6_25 rfl (fun v8 => ?_)
      refine pg_iload dX6_mergeGroups_80 6 rfl ?_
      refine pg_iaload dX6_mergeGroups_82 (fun v9 => ?_)
      refine pg_aload_n (i := 0) dX6_mergeGroups_83 rfl 2 rfl ?_
      refine pg_getR dX6_mergeGroups_84 fl_RX6_25 rfl (fun v10 => ?_)
      refine pg_iload_n (i := 2) dX6_mergeGroups_87 rfl 4 rfl ?_
      refine pg_iaload dX6_mergeGroups_88 (fun v11 => ?_)
      refine pg_icmp_eq (tgt := 141) dX6_mergeGroups_89 rfl ?_ ?_
      · exact pg_to (e_X6_mergeGroups_141 l D (F_X6_mergeGroups_37 k12 n) ih a0 a1 a2 a3 a5 h) [2, 3, 4, 5, 6] rfl
      · refine pg_lload dX6_mergeGroups_92 1 rfl ?_
        refine pg_ldc2 (v := (-1 : Int64)) dX6_mergeGroups_94 kc_RX6_51 ?_
        refine pg_lcmp_eq (tgt := 141) dX6_mergeGroups_97 dX6_mergeGroups_98 rfl ?_ ?_
        · exact pg_to (e_X6_mergeGroups_141 l D (F_X6_mergeGroups_37 k12 n) ih a0 a1 a2 a3 a5 h) [2, 3, 4, 5, 6] rfl
        · refine pg_aload_n (i := 0) dX6_mergeGroups_101 rfl 2 rfl ?_
          refine pg_getR dX6_mergeGroups_102 fl_RX6_19 rfl (fun v12 => ?_)
          refine pg_iload dX6_mergeGroups_105 0 rfl ?_
          refine pg_laload dX6_mergeGroups_107 (fun v13 => ?_)
          refine pg_ldc2 (v := (-1 : Int64)) dX6_mergeGroups_108 kc_RX6_51 ?_
          refine pg_lcmp_eq (tgt := 130) dX6_mergeGroups_111 dX6_mergeGroups_112 rfl ?_ ?_
          · exact pg_to (e_X6_mergeGroups_130 l D (F_X6_mergeGroups_37 k12 n) ih a0 a1 a2 a3 a5 v2 v7 h) [2, 3, 4, 5, 6, 1, 0] rfl
          · refine pg_lload dX6_mergeGroups_115 1 rfl ?_
            refine pg_lload_n (i := 3) dX6_mergeGroups_117 rfl 5 rfl ?_
            refine pg_lsub dX6_mergeGroups_118 ?_
            refine pg_aload_n (i := 0) dX6_mergeGroups_119 rfl 2 rfl ?_
            refine pg_getR dX6_mergeGroups_120 fl_RX6_19 rfl (fun v14 => ?_)
            refine pg_iload dX6_mergeGroups_123 0 rfl ?_
            refine pg_laload dX6_mergeGroups_125 (fun v15 => ?_)
            refine pg_lcmp_ge (tgt := 141) dX6_mergeGroups_126 dX6_mergeGroups_127 rfl ?_ ?_
            · exact pg_to (e_X6_mergeGroups_141 l D (F_X6_mergeGroups_37 k12 n) ih a0 a1 a2 a3 a5 h) [2, 3, 4, 5, 6] rfl
            · exact pg_to (e_X6_mergeGroups_130 l D (F_X6_mergeGroups_37 k12 n) ih a0 a1 a2 a3 a5 v2 v7 h) [2, 3, 4, 5, 6, 1, 0] rfl
theorem e_X6_mergeGroups_12 (l : Launch) (D : pg_D)   : ∀ (n : Nat) (a0 : Nat) (a1 : Int32) (a2 : Int32) (h : pg_H), pg_EvF l D RX6 cX6_mergeGroups 9 none "mergeGroups" 1 60 pg_wV (F_X6_mergeGroups_12 n a0 a1 a2 h) 12 [(0, pR a0), (1, pI a1), (2, pI a2)] [] h := by
  intro n
  induction n with
  | zero => intro a0 a1 a2 h; exact pg_none
  | succ n ih =>
    intro a0 a1 a2 h
    rw [F_X6_mergeGroups_12]
    refine pg_iload_n (i := 2) dX6_mergeGroups_12 rfl 2 rfl ?_
    refine pg_iload_n (i := 1) dX6_mergeGroups_13 rfl 1 rfl ?_
    refine pg_icmp_ge (tgt := 153) dX6_mergeGroups_14 rfl ?_ ?_
    · refine pg_aload_n (i := 0) dX6_mergeGroups_153 rfl 0 rfl ?_
      refine pg_getR dX6_mergeGroups_154 fl_RX6_19 rfl (fun v1 => ?_)
      refine pg_iconst dX6_mergeGroups_157 ci_0 ?_
      refine pg_aload_n (i := 0) dX6_mergeGroups_158 rfl 0 rfl ?_
      refine pg_getR dX6_mergeGroups_159 fl_RX6_15 rfl (fun v2 => ?_)
      refine pg_iconst dX6_mergeGroups_162 ci_0 ?_
      refine pg_aload_n (i := 0) dX6_mergeGroups_163 rfl 0 rfl ?_
      refine pg_getR dX6_mergeGroups_164 fl_RX6_15 rfl (fun v3 => ?_)
      refine pg_alen dX6_mergeGroups_167 (fun v4 => ?_)
      refine pg_acopyL dX6_mergeGroups_168 pw4_122 pw_acp1 pw_acp2 pw_acp3 (Nat.le_of_ble_eq_true rfl) (by decide) (by decide) (fun v5 => ?_)
      exact pg_vret dX6_mergeGroups_171 rfl rfl
    · refine pg_aload_n (i := 0) dX6_mergeGroups_17 rfl 0 rfl ?_
      refine pg_getR dX6_mergeGroups_18 fl_RX6_15 rfl (fun v6 => ?_)
      refine pg_aload_n (i := 0) dX6_mergeGroups_21 rfl 0 rfl ?_
      refine pg_getR dX6_mergeGroups_22 fl_RX6_22 rfl (fun v7 => ?_)
      refine pg_iload_n (i := 2) dX6_mergeGroups_25 rfl 2 rfl ?_
      refine pg_iaload dX6_mergeGroups_26 (fun v8 => ?_)
      refine pg_bipush dX6_mergeGroups_27 cb_13 ?_
      refine pg_imul dX6_mergeGroups_29 ?_
      refine pg_iload_n (i := 2) dX6_mergeGroups_30 rfl 2 rfl ?_
      refine pg_iadd dX6_mergeGroups_31 ?_
      refine pg_laload dX6_mergeGroups_32 (fun v9 => ?_)
      refine pg_lstore_n (i := 3) (lv' := [(3, pL v9), (0, pR a0), (1, pI a1), (2, pI a2)]) dX6_mergeGroups_33 rfl (by decide) rfl ?_
      refine pg_iconst dX6_mergeGroups_34 ci_0 ?_
      refine pg_istore (lv' := [(5, pI (0 : Int32)), (3, pL v9), (0, pR a0), (1, pI a1), (2, pI a2)]) dX6_mergeGroups_35 (by decide) rfl ?_
      exact pg_to (e_X6_mergeGroups_37 l D (F_X6_mergeGroups_12 n) ih pg_fuel a0 a1 a2 v9 (0 : Int32) h) [2, 3, 4, 1, 0] rfl
theorem e_X6_mergeGroups (l : Launch) (D : pg_D)  (a0 : Nat) (a1 : Int32) (h : pg_H) : pg_EvF l D RX6 cX6_mergeGroups 9 none "mergeGroups" 1 60 pg_wV (F_X6_mergeGroups a0 a1 h) 0 [(0, pR a0), (1, pI a1)] [] h := by
  unfold F_X6_mergeGroups
  refine pg_aload_n (i := 0) dX6_mergeGroups_0 rfl 0 rfl ?_
  refine pg_getR dX6_mergeGroups_1 fl_RX6_19 rfl (fun v1 => ?_)
  refine pg_ldc2 (v := (-1 : Int64)) dX6_mergeGroups_4 kc_RX6_51 ?_
  refine pg_callS_wV (As := [pR v1, pL (-1 : Int64)]) (rs := []) dX6_mergeGroups_7 lk_RX6_110 vy_J7_fill_d0a16 nd_J7_fill_d0a16 (c_J7_fill_d0a16 l D v1 (-1 : Int64) h) rfl rfl (Nat.le_of_ble_eq_true rfl) (by decide) (by decide) (fun v2 => ?_)
  refine pg_iconst dX6_mergeGroups_10 ci_1 ?_
  refine pg_istore_n (i := 2) (lv' := [(2, pI (1 : Int32)), (0, pR a0), (1, pI a1)]) dX6_mergeGroups_11 rfl (by decide) rfl ?_
  exact pg_to (e_X6_mergeGroups_12 l D pg_fuel a0 a1 (1 : Int32) v2) [1, 2, 0] rfl
theorem c_X6_mergeGroups (l : Launch) (D : pg_D) (a0 : Nat) (a1 : Int32) (h : pg_H) : ∀ x, F_X6_mergeGroups a0 a1 h = some x → pg_Ct l D yX6_mergeGroups cX6_mergeGroups 9 none 1 60 [pR a0, pI a1] h (pg_wV x) :=
  pg_Ct.of pn_RX6 (Nat.le_of_ble_eq_true rfl) (e_X6_mergeGroups l D a0 a1 h)
def F_X6_leastSum_25 (k10 : Nat → Int64 → Int32 → Int32 → pg_H → Option (Int64 × pg_H)) : Nat → Nat → Int64 → Int32 → Int32 → Int32 → pg_H → Option (Int64 × pg_H)
  | 0 => fun _ _ _ _ _ _ => none
  | n + 1 => fun a0 a1 a3 a4 a5 h => (if a5 < a3 then Option.bind (pg_gR 6 3 h a0) fun v3 => Option.bind (pg_rcv 6 h a0 (F_X6_nearestTo h a0 a5 a3)) fun v4 => Option.bind (pg_sI 21 h v3 a5 v4) fun v5 => Option.bind (pg_gR 6 3 v5 a0) fun v6 => Option.bind (pg_aI 21 v5 v6 a5) fun v7 => (if v7 = (-1 : Int32) then (some ((4611686018427387904 : Int64), v5)) else Option.bind (pg_gR 6 1 v5 a0) fun v8 => Option.bind (pg_gR 6 3 v5 a0) fun v9 => Option.bind (pg_aI 21 v5 v9 a5) fun v10 => Option.bind (pg_aL v5 v8 ((v10 * (13 : Int32)) + a5)) fun v11 => pg_let (a1 + v11) fun v12 => (F_X6_leastSum_25 k10 n a0 v12 a3 a4 (a5 + (1 : Int32)) v5)) else Option.bind (pg_rcv 6 h a0 (F_X6_findGroups a0 a3 h)) fun v1 => (if v1.1 = a3 then (some (a1, v1.2)) else Option.bind (pg_rcv 6 v1.2 a0 (F_X6_mergeGroups a0 a3 v1.2)) fun v2 => (k10 a0 a1 v1.1 (a4 + (1 : Int32)) v2)))
def F_X6_leastSum_10  : Nat → Nat → Int64 → Int32 → Int32 → pg_H → Option (Int64 × pg_H)
  | 0 => fun _ _ _ _ _ => none
  | n + 1 => fun a0 a1 a3 a4 h => (if a4 < (13 : Int32) then (if (1 : Int32) < a3 then (F_X6_leastSum_25 (F_X6_leastSum_10 n) pg_fuel a0 a1 a3 a4 (1 : Int32) h) else (some (a1, h))) else (some (a1, h)))
def F_X6_leastSum (a0 : Nat) (h : pg_H) : Option (Int64 × pg_H) := Option.bind (pg_gI 6 7 h a0) fun v1 => (F_X6_leastSum_10 pg_fuel a0 (0 : Int64) v1 (0 : Int32) h)
theorem e_X6_leastSum_25 (l : Launch) (D : pg_D)  (k10 : Nat → Int64 → Int32 → Int32 → pg_H → Option (Int64 × pg_H)) (hk10 : ∀ (a0 : Nat) (a1 : Int64) (a3 : Int32) (a4 : Int32) (h : pg_H), pg_EvF l D RX6 cX6_leastSum 6 (some FieldType.long) "leastSum" 2 88 pg_wL (k10 a0 a1 a3 a4 h) 10 [(0, pR a0), (1, pL a1), (3, pI a3), (4, pI a4)] [] h) : ∀ (n : Nat) (a0 : Nat) (a1 : Int64) (a3 : Int32) (a4 : Int32) (a5 : Int32) (h : pg_H), pg_EvF l D RX6 cX6_leastSum 6 (some FieldType.long) "leastSum" 2 88 pg_wL (F_X6_leastSum_25 k10 n a0 a1 a3 a4 a5 h) 25 [(0, pR a0), (1, pL a1), (3, pI a3), (4, pI a4), (5, pI a5)] [] h := by
  intro n
  induction n with
  | zero => intro a0 a1 a3 a4 a5 h; exact pg_none
  | succ n ih =>
    intro a0 a1 a3 a4 a5 h
    rw [F_X6_leastSum_25]
    refine pg_iload dX6_leastSum_25 4 rfl ?_
    refine pg_iload_n (i := 3) dX6_leastSum_27 rfl 2 rfl ?_
    refine pg_icmp_ge (tgt := 87) dX6_leastSum_28 rfl ?_ ?_
    · refine pg_aload_n (i := 0) dX6_leastSum_87 rfl 0 rfl ?_
      refine pg_iload_n (i := 3) dX6_leastSum_88 rfl 2 rfl ?_
      refine pg_callV_wI (As := [pI a3]) (rs := []) dX6_leastSum_89 lk_RX6_103 vy_X6_findGroups nd_X6_findGroups (c_X6_findGroups l D a0 a3 h) rfl rfl (Nat.le_of_ble_eq_true rfl) (by decide) (by decide) (fun v1 => ?_)
      refine pg_istore (lv' := [(5, pI v1.1), (0, pR a0), (1, pL a1), (3, pI a3), (4, pI a4)]) dX6_leastSum_92 (by decide) rfl ?_
      refine pg_iload dX6_leastSum_94 0 rfl ?_
      refine pg_iload_n (i := 3) dX6_leastSum_96 rfl 3 rfl ?_
      refine pg_icmp_ne (tgt := 103) dX6_leastSum_97 rfl ?_ ?_
      · refine pg_aload_n (i := 0) dX6_leastSum_103 rfl 1 rfl ?_
        refine pg_iload_n (i := 3) dX6_leastSum_104 rfl 3 rfl ?_
        refine pg_callV_wV (As := [pI a3]) (rs := []) dX6_leastSum_105 lk_RX6_106 vy_X6_mergeGroups nd_X6_mergeGroups (c_X6_mergeGroups l D a0 a3 v1.2) rfl rfl (Nat.le_of_ble_eq_true rfl) (by decide) (by decide) (fun v2 => ?_)
        refine pg_iload dX6_leastSum_108 0 rfl ?_
        refine pg_istore_n (i := 3) (lv' := [(3, pI v1.1), (5, pI v1.1), (0, pR a0), (1, pL a1), (4, pI a4)]) dX6_leastSum_110 rfl (by decide) rfl ?_
        refine pg_iinc (lv' := [(4, pI (a4 + (1 : Int32))), (3, pI v1.1), (5, pI v1.1), (0, pR a0), (1, pL a1)]) dX6_leastSum_111 4 rfl ci_1 (by decide) rfl ?_
        refine pg_goto (tgt := 10) dX6_leastSum_114 rfl ?_
        exact pg_to (hk10 a0 a1 v1.1 (a4 + (1 : Int32)) v2) [3, 4, 1, 0] rfl
      · refine pg_goto (tgt := 117) dX6_leastSum_100 rfl ?_
        refine pg_lload_n (i := 1) dX6_leastSum_117 rfl 2 rfl ?_
        exact pg_lret dX6_leastSum_118 rfl rfl
    · refine pg_aload_n (i := 0) dX6_leastSum_31 rfl 0 rfl ?_
      refine pg_getR dX6_leastSum_32 fl_RX6_22 rfl (fun v3 => ?_)
      refine pg_iload dX6_leastSum_35 4 rfl ?_
      refine pg_aload_n (i := 0) dX6_leastSum_37 rfl 0 rfl ?_
      refine pg_iload dX6_leastSum_38 4 rfl ?_
      refine pg_iload_n (i := 3) dX6_leastSum_40 rfl 2 rfl ?_
      refine pg_callV_oI (As := [pI a5, pI a3]) (rs := [pI a5, pR v3]) dX6_leastSum_41 lk_RX6_98 vy_X6_nearestTo nd_X6_nearestTo (c_X6_nearestTo l D h a0 a5 a3) rfl rfl (Nat.le_of_ble_eq_true rfl) (by decide) (by decide) (fun v4 => ?_)
      refine pg_iastore dX6_leastSum_44 (fun v5 => ?_)
      refine pg_aload_n (i := 0) dX6_leastSum_45 rfl 0 rfl ?_
      refine pg_getR dX6_leastSum_46 fl_RX6_22 rfl (fun v6 => ?_)
      refine pg_iload dX6_leastSum_49 4 rfl ?_
      refine pg_iaload dX6_leastSum_51 (fun v7 => ?_)
      refine pg_iconst dX6_leastSum_52 ci_m1 ?_
      refine pg_icmp_ne (tgt := 60) dX6_leastSum_53 rfl ?_ ?_
      · refine pg_lload_n (i := 1) dX6_leastSum_60 rfl 1 rfl ?_
        refine pg_aload_n (i := 0) dX6_leastSum_61 rfl 0 rfl ?_
        refine pg_getR dX6_leastSum_62 fl_RX6_15 rfl (fun v8 => ?_)
        refine pg_aload_n (i := 0) dX6_leastSum_65 rfl 0 rfl ?_
        refine pg_getR dX6_leastSum_66 fl_RX6_22 rfl (fun v9 => ?_)
        refine pg_iload dX6_leastSum_69 4 rfl ?_
        refine pg_iaload dX6_leastSum_71 (fun v10 => ?_)
        refine pg_bipush dX6_leastSum_72 cb_13 ?_
        refine pg_imul dX6_leastSum_74 ?_
        refine pg_iload dX6_leastSum_75 4 rfl ?_
        refine pg_iadd dX6_leastSum_77 ?_
        refine pg_laload dX6_leastSum_78 (fun v11 => ?_)
        refine pg_ladd dX6_leastSum_79 ?_
        refine pg_letL (fun v12 => ?_)
        refine pg_lstore_n (i := 1) (lv' := [(1, pL v12), (0, pR a0), (3, pI a3), (4, pI a4), (5, pI a5)]) dX6_leastSum_80 rfl (by decide) rfl ?_
        refine pg_iinc (lv' := [(5, pI (a5 + (1 : Int32))), (1, pL v12), (0, pR a0), (3, pI a3), (4, pI a4)]) dX6_leastSum_81 4 rfl ci_1 (by decide) rfl ?_
        refine pg_goto (tgt := 25) dX6_leastSum_84 rfl ?_
        exact pg_to (ih a0 v12 a3 a4 (a5 + (1 : Int32)) v5) [2, 1, 3, 4, 0] rfl
      · refine pg_ldc2 (v := (4611686018427387904 : Int64)) dX6_leastSum_56 kc_RX6_101 ?_
        exact pg_lret dX6_leastSum_59 rfl rfl
theorem e_X6_leastSum_10 (l : Launch) (D : pg_D)   : ∀ (n : Nat) (a0 : Nat) (a1 : Int64) (a3 : Int32) (a4 : Int32) (h : pg_H), pg_EvF l D RX6 cX6_leastSum 6 (some FieldType.long) "leastSum" 2 88 pg_wL (F_X6_leastSum_10 n a0 a1 a3 a4 h) 10 [(0, pR a0), (1, pL a1), (3, pI a3), (4, pI a4)] [] h := by
  intro n
  induction n with
  | zero => intro a0 a1 a3 a4 h; exact pg_none
  | succ n ih =>
    intro a0 a1 a3 a4 h
    rw [F_X6_leastSum_10]
    refine pg_iload dX6_leastSum_10 3 rfl ?_
    refine pg_bipush dX6_leastSum_12 cb_13 ?_
    refine pg_icmp_ge (tgt := 117) dX6_leastSum_14 rfl ?_ ?_
    · refine pg_lload_n (i := 1) dX6_leastSum_117 rfl 1 rfl ?_
      exact pg_lret dX6_leastSum_118 rfl rfl
    · refine pg_iload_n (i := 3) dX6_leastSum_17 rfl 2 rfl ?_
      refine pg_iconst dX6_leastSum_18 ci_1 ?_
      refine pg_icmp_le (tgt := 117) dX6_leastSum_19 rfl ?_ ?_
      · refine pg_lload_n (i := 1) dX6_leastSum_117 rfl 1 rfl ?_
        exact pg_lret dX6_leastSum_118 rfl rfl
      · refine pg_iconst dX6_leastSum_22 ci_1 ?_
        refine pg_istore (lv' := [(5, pI (1 : Int32)), (0, pR a0), (1, pL a1), (3, pI a3), (4, pI a4)]) dX6_leastSum_23 (by decide) rfl ?_
        exact pg_to (e_X6_leastSum_25 l D (F_X6_leastSum_10 n) ih pg_fuel a0 a1 a3 a4 (1 : Int32) h) [1, 2, 3, 4, 0] rfl
theorem e_X6_leastSum (l : Launch) (D : pg_D)  (a0 : Nat) (h : pg_H) : pg_EvF l D RX6 cX6_leastSum 6 (some FieldType.long) "leastSum" 2 88 pg_wL (F_X6_leastSum a0 h) 0 [(0, pR a0)] [] h := by
  unfold F_X6_leastSum
  refine pg_lconst dX6_leastSum_0 cl_0 ?_
  refine pg_lstore_n (i := 1) (lv' := [(1, pL (0 : Int64)), (0, pR a0)]) dX6_leastSum_1 rfl (by decide) rfl ?_
  refine pg_aload_n (i := 0) dX6_leastSum_2 rfl 1 rfl ?_
  refine pg_getI dX6_leastSum_3 fl_RX6_48 rfl (fun v1 => ?_)
  refine pg_istore_n (i := 3) (lv' := [(3, pI v1), (1, pL (0 : Int64)), (0, pR a0)]) dX6_leastSum_6 rfl (by decide) rfl ?_
  refine pg_iconst dX6_leastSum_7 ci_0 ?_
  refine pg_istore (lv' := [(4, pI (0 : Int32)), (3, pI v1), (1, pL (0 : Int64)), (0, pR a0)]) dX6_leastSum_8 (by decide) rfl ?_
  exact pg_to (e_X6_leastSum_10 l D pg_fuel a0 (0 : Int64) v1 (0 : Int32) h) [3, 2, 1, 0] rfl
theorem c_X6_leastSum (l : Launch) (D : pg_D) (a0 : Nat) (h : pg_H) : ∀ x, F_X6_leastSum a0 h = some x → pg_Ct l D yX6_leastSum cX6_leastSum 6 (some FieldType.long) 2 88 [pR a0] h (pg_wL x) :=
  pg_Ct.of pn_RX6 (Nat.le_of_ble_eq_true rfl) (e_X6_leastSum l D a0 h)
