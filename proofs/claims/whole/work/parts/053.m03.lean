def F_X6_grow_133  : Nat → Nat → Int64 → Int32 → pg_H → Option pg_H
  | 0 => fun _ _ _ _ => none
  | n + 1 => fun a0 a7 a9 h => (if a9 < 0 then (some h) else Option.bind (pg_gR 6 6 h a0) fun v1 => (if (13 : Int64) = 0 then none else Option.bind (pg_sI 21 h v1 a9 (((a7 - a7 / (13 : Int64) * (13 : Int64))).toInt32 - (1 : Int32))) fun v2 => (if (13 : Int64) = 0 then none else pg_let (a7 / (13 : Int64)) fun v3 => (F_X6_grow_133 n a0 v3 (a9 + (-1 : Int32)) v2))))
def F_X6_grow_85 (k25 : Nat → Int64 → Int32 → Int32 → pg_H → Option pg_H) (a0 : Nat) (a3 : Int64) (a5 : Int32) (a6 : Int32) (s0 : Int64) (s1 : Int32) (s2 : Nat) (h : pg_H) : Option pg_H := Option.bind (pg_sL h s2 s1 s0) fun v1 => (k25 a0 a3 a5 (a6 + (1 : Int32)) v1)
def F_X6_grow_25 (k13 : Nat → Int64 → Int32 → pg_H → Option pg_H) : Nat → Nat → Int64 → Int32 → Int32 → pg_H → Option pg_H
  | 0 => fun _ _ _ _ _ => none
  | n + 1 => fun a0 a3 a5 a6 h => Option.bind (pg_gI 6 7 h a0) fun v1 => (if a6 < v1 then pg_let ((a6 * (13 : Int32)) + a5) fun v3 => Option.bind (pg_gR 6 1 h a0) fun v4 => Option.bind (pg_gR 6 0 h a0) fun v5 => Option.bind (pg_aI 21 h v5 v3) fun v6 => (if v6 = (-1 : Int32) then (F_X6_grow_85 (F_X6_grow_25 k13 n) a0 a3 a5 a6 (-1 : Int64) v3 v4 h) else Option.bind (pg_gR 6 0 h a0) fun v7 => Option.bind (pg_aI 21 h v7 v3) fun v8 => (F_X6_grow_85 (F_X6_grow_25 k13 n) a0 a3 a5 a6 (((v8).toInt64 * (23298085122481 : Int64)) + (a3 * (a6).toInt64)) v3 v4 h)) else (if (13 : Int64) = 0 then none else pg_let (a3 / (13 : Int64)) fun v2 => (k13 a0 v2 (a5 + (1 : Int32)) h)))
def F_X6_grow_13  : Nat → Nat → Int64 → Int32 → pg_H → Option pg_H
  | 0 => fun _ _ _ _ => none
  | n + 1 => fun a0 a3 a5 h => Option.bind (pg_gI 6 7 h a0) fun v1 => (if a5 < v1 then (F_X6_grow_25 (F_X6_grow_13 n) pg_fuel a0 a3 a5 (0 : Int32) h) else Option.bind (pg_rcv 6 h a0 (F_X6_leastSum a0 h)) fun v2 => (if (23298085122481 : Int64) = 0 then none else Option.bind (pg_pI 6 8 v2.2 a0 ((v2.1 / (23298085122481 : Int64))).toInt32) fun v3 => (if (23298085122481 : Int64) = 0 then none else pg_let (v2.1 - v2.1 / (23298085122481 : Int64) * (23298085122481 : Int64)) fun v4 => (F_X6_grow_133 pg_fuel a0 v4 (11 : Int32) v3))))
def F_X6_grow (a0 : Nat) (a1 : Nat) (a2 : Nat) (h : pg_H) : Option pg_H := Option.bind (pg_rcv 6 h a0 (F_X6_findCosts a0 a1 a2 h)) fun v1 => (F_X6_grow_13 pg_fuel a0 (1792160394037 : Int64) (1 : Int32) v1)
theorem e_X6_grow_133 (l : Launch) (D : pg_D)   : ∀ (n : Nat) (a0 : Nat) (a7 : Int64) (a9 : Int32) (h : pg_H), pg_EvF l D RX6 cX6_grow 10 none "grow" 4 113 pg_wV (F_X6_grow_133 n a0 a7 a9 h) 133 [(0, pR a0), (7, pL a7), (9, pI a9)] [] h := by
  intro n
  induction n with
  | zero => intro a0 a7 a9 h; exact pg_none
  | succ n ih =>
    intro a0 a7 a9 h
    rw [F_X6_grow_133]
    refine pg_iload dX6_grow_133 2 rfl ?_
    refine pg_if_lt (tgt := 168) dX6_grow_135 rfl ?_ ?_
    · exact pg_vret dX6_grow_168 rfl rfl
    · refine pg_aload_n (i := 0) dX6_grow_138 rfl 0 rfl ?_
      refine pg_getR dX6_grow_139 fl_RX6_31 rfl (fun v1 => ?_)
      refine pg_iload dX6_grow_142 2 rfl ?_
      refine pg_lload dX6_grow_144 1 rfl ?_
      refine pg_ldc2 (v := (13 : Int64)) dX6_grow_146 kc_RX6_55 ?_
      refine pg_lrem dX6_grow_149 ?_
      refine pg_l2i dX6_grow_150 ?_
      refine pg_iconst dX6_grow_151 ci_1 ?_
      refine pg_isub dX6_grow_152 ?_
      refine pg_iastore dX6_grow_153 (fun v2 => ?_)
      refine pg_lload dX6_grow_154 1 rfl ?_
      refine pg_ldc2 (v := (13 : Int64)) dX6_grow_156 kc_RX6_55 ?_
      refine pg_ldiv dX6_grow_159 ?_
      refine pg_letL (fun v3 => ?_)
      refine pg_lstore (lv' := [(7, pL v3), (0, pR a0), (9, pI a9)]) dX6_grow_160 (by decide) rfl ?_
      refine pg_iinc (lv' := [(9, pI (a9 + (-1 : Int32))), (7, pL v3), (0, pR a0)]) dX6_grow_162 2 rfl ci_m1 (by decide) rfl ?_
      refine pg_goto (tgt := 133) dX6_grow_165 rfl ?_
      exact pg_to (ih a0 v3 (a9 + (-1 : Int32)) v2) [2, 1, 0] rfl
theorem e_X6_grow_85 (l : Launch) (D : pg_D)  (k25 : Nat → Int64 → Int32 → Int32 → pg_H → Option pg_H) (hk25 : ∀ (a0 : Nat) (a3 : Int64) (a5 : Int32) (a6 : Int32) (h : pg_H), pg_EvF l D RX6 cX6_grow 10 none "grow" 4 113 pg_wV (k25 a0 a3 a5 a6 h) 25 [(0, pR a0), (3, pL a3), (5, pI a5), (6, pI a6)] [] h) (a0 : Nat) (a3 : Int64) (a5 : Int32) (a6 : Int32) (s0 : Int64) (s1 : Int32) (s2 : Nat) (h : pg_H) : pg_EvF l D RX6 cX6_grow 10 none "grow" 4 113 pg_wV (F_X6_grow_85 k25 a0 a3 a5 a6 s0 s1 s2 h) 85 [(0, pR a0), (3, pL a3), (5, pI a5), (6, pI a6)] [pL s0, pI s1, pR s2] h := by
  unfold F_X6_grow_85
  refine pg_lastore dX6_grow_85 (fun v1 => ?_)
  refine pg_iinc (lv' := [(6, pI (a6 + (1 : Int32))), (0, pR a0), (3, pL a3), (5, pI a5)]) dX6_grow_86 3 rfl ci_1 (by decide) rfl ?_
  refine pg_goto (tgt := 25) dX6_grow_89 rfl ?_
  exact pg_to (hk25 a0 a3 a5 (a6 + (1 : Int32)) v1) [1, 2, 3, 0] rfl
theorem e_X6_grow_25 (l : Launch) (D : pg_D)  (k13 : Nat → Int64 → Int32 → pg_H → Option pg_H) (hk13 : ∀ (a0 : Nat) (a3 : Int64) (a5 : Int32) (h : pg_H), pg_EvF l D RX6 cX6_grow 10 none "grow" 4 113 pg_wV (k13 a0 a3 a5 h) 13 [(0, pR a0), (3, pL a3), (5, pI a5)] [] h) : ∀ (n : Nat) (a0 : Nat) (a3 : Int64) (a5 : Int32) (a6 : Int32) (h : pg_H), pg_EvF l D RX6 cX6_grow 10 none "grow" 4 113 pg_wV (F_X6_grow_25 k13 n a0 a3 a5 a6 h) 25 [(0, pR a0), (3, pL a3), (5, pI a5), (6, pI a6)] [] h := by
  intro n
  induction n with
  | zero => intro a0 a3 a5 a6 h; exact pg_none
  | succ n ih =>
    intro a0 a3 a5 a6 h
    rw [F_X6_grow_25]
    refine pg_iload dX6_grow_25 3 rfl ?_
    refine pg_aload_n (i := 0) dX6_grow_27 rfl 0 rfl ?_
    refine pg_getI dX6_grow_28 fl_RX6_48 rfl (fun v1 => ?_)
    refine pg_icmp_ge (tgt := 92) dX6_grow_31 rfl ?_ ?_
    · refine pg_lload_n (i := 3) dX6_grow_92 rfl 1 rfl ?_
      refine pg_ldc2 (v := (13 : Int64)) dX6_grow_93 kc_RX6_55 ?_
      refine pg_ldiv dX6_grow_96 ?_
      refine pg_letL (fun v2 => ?_)
      refine pg_lstore_n (i := 3) (lv' := [(3, pL v2), (0, pR a0), (5, pI a5), (6, pI a6)]) dX6_grow_97 rfl (by decide) rfl ?_
      refine pg_iinc (lv' := [(5, pI (a5 + (1 : Int32))), (3, pL v2), (0, pR a0), (6, pI a6)]) dX6_grow_98 2 rfl ci_1 (by decide) rfl ?_
      refine pg_goto (tgt := 13) dX6_grow_101 rfl ?_
      exact pg_to (hk13 a0 v2 (a5 + (1 : Int32)) h) [2, 1, 0] rfl
    · refine pg_iload dX6_grow_34 3 rfl ?_
      refine pg_bipush dX6_grow_36 cb_13 ?_
      refine pg_imul dX6_grow_38 ?_
      refine pg_iload dX6_grow_39 2 rfl ?_
      refine pg_iadd dX6_grow_41 ?_
      refine pg_letI (fun v3 => ?_)
      refine pg_istore (lv' := [(7, pI v3), (0, pR a0), (3, pL a3), (5, pI a5), (6, pI a6)]) dX6_grow_42 (by decide) rfl ?_
      refine pg_aload_n (i := 0) dX6_grow_44 rfl 1 rfl ?_
      refine pg_getR dX6_grow_45 fl_RX6_15 rfl (fun v4 => ?_)
      refine pg_iload dX6_grow_48 0 rfl ?_
      refine pg_aload_n (i := 0) dX6_grow_50 rfl 1 rfl ?_
      refine pg_getR dX6_grow_51 fl_RX6_11 rfl (fun v5 => ?_)
      refine pg_iload dX6_grow_54 0 rfl ?_
      refine pg_iaload dX6_grow_56 (fun v6 => ?_)
      refine pg_iconst dX6_grow_57 ci_m1 ?_
      refine pg_icmp_ne (tgt := 67) dX6_grow_58 rfl ?_ ?_
      · refine pg_aload_n (i := 0) dX6_grow_67 rfl 1 rfl ?_
        refine pg_getR dX6_grow_68 fl_RX6_11 rfl (fun v7 => ?_)
        refine pg_iload dX6_grow_71 0 rfl ?_
        refine pg_iaload dX6_grow_73 (fun v8 => ?_)
        refine pg_i2l dX6_grow_74 ?_
        refine pg_ldc2 (v := (23298085122481 : Int64)) dX6_grow_75 kc_RX6_53 ?_
        refine pg_lmul dX6_grow_78 ?_
        refine pg_lload_n (i := 3) dX6_grow_79 rfl 2 rfl ?_
        refine pg_iload dX6_grow_80 4 rfl ?_
        refine pg_i2l dX6_grow_82 ?_
        refine pg_lmul dX6_grow_83 ?_
        refine pg_ladd dX6_grow_84 ?_
        exact pg_to (e_X6_grow_85 l D (F_X6_grow_25 k13 n) ih a0 a3 a5 a6 (((v8).toInt64 * (23298085122481 : Int64)) + (a3 * (a6).toInt64)) v3 v4 h) [1, 2, 3, 4] rfl
      · refine pg_ldc2 (v := (-1 : Int64)) dX6_grow_61 kc_RX6_51 ?_
        refine pg_goto (tgt := 85) dX6_grow_64 rfl ?_
        exact pg_to (e_X6_grow_85 l D (F_X6_grow_25 k13 n) ih a0 a3 a5 a6 (-1 : Int64) v3 v4 h) [1, 2, 3, 4] rfl
theorem e_X6_grow_13 (l : Launch) (D : pg_D)   : ∀ (n : Nat) (a0 : Nat) (a3 : Int64) (a5 : Int32) (h : pg_H), pg_EvF l D RX6 cX6_grow 10 none "grow" 4 113 pg_wV (F_X6_grow_13 n a0 a3 a5 h) 13 [(0, pR a0), (3, pL a3), (5, pI a5)] [] h := by
  intro n
  induction n with
  | zero => intro a0 a3 a5 h; exact pg_none
  | succ n ih =>
    intro a0 a3 a5 h
    rw [F_X6_grow_13]
    refine pg_iload dX6_grow_13 2 rfl ?_
    refine pg_aload_n (i := 0) dX6_grow_15 rfl 0 rfl ?_
    refine pg_getI dX6_grow_16 fl_RX6_48 rfl (fun v1 => ?_)
    refine pg_icmp_ge (tgt := 104) dX6_grow_19 rfl ?_ ?_
    · refine pg_aload_n (i := 0) dX6_grow_104 rfl 0 rfl ?_
      refine pg_callV_wL (As := []) (rs := []) dX6_grow_105 lk_RX6_57 vy_X6_leastSum nd_X6_leastSum (c_X6_leastSum l D a0 h) rfl rfl (Nat.le_of_ble_eq_true rfl) (by decide) (by decide) (fun v2 => ?_)
      refine pg_lstore (lv' := [(5, pL v2.1), (0, pR a0), (3, pL a3)]) dX6_grow_108 (by decide) rfl ?_
      refine pg_aload_n (i := 0) dX6_grow_110 rfl 1 rfl ?_
      refine pg_lload dX6_grow_111 0 rfl ?_
      refine pg_ldc2 (v := (23298085122481 : Int64)) dX6_grow_113 kc_RX6_53 ?_
      refine pg_ldiv dX6_grow_116 ?_
      refine pg_l2i dX6_grow_117 ?_
      refine pg_putI dX6_grow_118 fl_RX6_34 (fun z => by cases z) (fun v3 => ?_)
      refine pg_lload dX6_grow_121 0 rfl ?_
      refine pg_ldc2 (v := (23298085122481 : Int64)) dX6_grow_123 kc_RX6_53 ?_
      refine pg_lrem dX6_grow_126 ?_
      refine pg_letL (fun v4 => ?_)
      refine pg_lstore (lv' := [(7, pL v4), (5, pL v2.1), (0, pR a0), (3, pL a3)]) dX6_grow_127 (by decide) rfl ?_
      refine pg_bipush dX6_grow_129 cb_11 ?_
      refine pg_istore (lv' := [(9, pI (11 : Int32)), (7, pL v4), (5, pL v2.1), (0, pR a0), (3, pL a3)]) dX6_grow_131 (by decide) rfl ?_
      exact pg_to (e_X6_grow_133 l D pg_fuel a0 v4 (11 : Int32) v3) [3, 1, 0] rfl
    · refine pg_iconst dX6_grow_22 ci_0 ?_
      refine pg_istore (lv' := [(6, pI (0 : Int32)), (0, pR a0), (3, pL a3), (5, pI a5)]) dX6_grow_23 (by decide) rfl ?_
      exact pg_to (e_X6_grow_25 l D (F_X6_grow_13 n) ih pg_fuel a0 a3 a5 (0 : Int32) h) [1, 2, 3, 0] rfl
theorem e_X6_grow (l : Launch) (D : pg_D)  (a0 : Nat) (a1 : Nat) (a2 : Nat) (h : pg_H) : pg_EvF l D RX6 cX6_grow 10 none "grow" 4 113 pg_wV (F_X6_grow a0 a1 a2 h) 0 [(0, pR a0), (1, pR a1), (2, pR a2)] [] h := by
  unfold F_X6_grow
  refine pg_aload_n (i := 0) dX6_grow_0 rfl 0 rfl ?_
  refine pg_aload_n (i := 1) dX6_grow_1 rfl 1 rfl ?_
  refine pg_aload_n (i := 2) dX6_grow_2 rfl 2 rfl ?_
  refine pg_callV_wV (As := [pR a1, pR a2]) (rs := []) dX6_grow_3 lk_RX6_42 vy_X6_findCosts nd_X6_findCosts (c_X6_findCosts l D a0 a1 a2 h) rfl rfl (Nat.le_of_ble_eq_true rfl) (by decide) (by decide) (fun v1 => ?_)
  refine pg_ldc2 (v := (1792160394037 : Int64)) dX6_grow_6 kc_RX6_46 ?_
  refine pg_lstore_n (i := 3) (lv' := [(3, pL (1792160394037 : Int64)), (0, pR a0), (1, pR a1), (2, pR a2)]) dX6_grow_9 rfl (by decide) rfl ?_
  refine pg_iconst dX6_grow_10 ci_1 ?_
  refine pg_istore (lv' := [(5, pI (1 : Int32)), (3, pL (1792160394037 : Int64)), (0, pR a0), (1, pR a1), (2, pR a2)]) dX6_grow_11 (by decide) rfl ?_
  exact pg_to (e_X6_grow_13 l D pg_fuel a0 (1792160394037 : Int64) (1 : Int32) v1) [2, 1, 0] rfl
theorem c_X6_grow (l : Launch) (D : pg_D) (a0 : Nat) (a1 : Nat) (a2 : Nat) (h : pg_H) : ∀ x, F_X6_grow a0 a1 a2 h = some x → pg_Ct l D yX6_grow cX6_grow 10 none 4 113 [pR a0, pR a1, pR a2] h (pg_wV x) :=
  pg_Ct.of pn_RX6 (Nat.le_of_ble_eq_true rfl) (e_X6_grow l D a0 a1 a2 h)
def F_X6_isSure_67 (a0 : Nat) (h : pg_H) : Option (Int32 × pg_H) := Option.bind (pg_rcv 6 h a0 (F_X6_leastSum a0 h)) fun v1 => Option.bind (pg_gI 6 8 v1.2 a0) fun v2 => (if (v2).toInt64 < v1.1 then (some ((1 : Int32), v1.2)) else (some ((0 : Int32), v1.2)))
def F_X6_isSure_2  : Nat → Nat → Int32 → Int32 → pg_H → Option (Int32 × pg_H)
  | 0 => fun _ _ _ _ => none
  | n + 1 => fun a0 a1 a2 h => Option.bind (pg_gR 6 0 h a0) fun v1 => Option.bind (pg_len h v1) fun v2 => (if a2 < v2 then Option.bind (pg_gR 6 1 h a0) fun v9 => Option.bind (pg_gR 6 0 h a0) fun v10 => Option.bind (pg_aI 21 h v10 a2) fun v11 => Option.bind (pg_sL h v9 a2 (v11).toInt64) fun v12 => (F_X6_isSure_2 n a0 a1 (a2 + (1 : Int32)) v12) else Option.bind (pg_rcv 6 h a0 (F_X6_exemplarOf h a0 a1)) fun v3 => pg_let ((((v3 + (1 : Int32)) * (13 : Int32)) + a1) + (1 : Int32)) fun v4 => (if v4 < 0 then (F_X6_isSure_67 a0 h) else Option.bind (pg_gR 6 1 h a0) fun v5 => Option.bind (pg_len h v5) fun v6 => (if v4 < v6 then Option.bind (pg_gR 6 1 h a0) fun v7 => Option.bind (pg_sL h v7 v4 (-1 : Int64)) fun v8 => (F_X6_isSure_67 a0 v8) else (F_X6_isSure_67 a0 h))))
def F_X6_isSure (a0 : Nat) (a1 : Int32) (h : pg_H) : Option (Int32 × pg_H) := (F_X6_isSure_2 pg_fuel a0 a1 (0 : Int32) h)
theorem e_X6_isSure_67 (l : Launch) (D : pg_D)  (a0 : Nat) (h : pg_H) : pg_EvF l D RX6 cX6_isSure 3 (some FieldType.boolean) "isSure" 3 113 pg_wI (F_X6_isSure_67 a0 h) 67 [(0, pR a0)] [] h := by
  unfold F_X6_isSure_67
  refine pg_aload_n (i := 0) dX6_isSure_67 rfl 0 rfl ?_
  refine pg_callV_wL (As := []) (rs := []) dX6_isSure_68 lk_RX6_57 vy_X6_leastSum nd_X6_leastSum (c_X6_leastSum l D a0 h) rfl rfl (Nat.le_of_ble_eq_true rfl) (by decide) (by decide) (fun v1 => ?_)
  refine pg_aload_n (i := 0) dX6_isSure_71 rfl 0 rfl ?_
  refine pg_getI dX6_isSure_72 fl_RX6_34 rfl (fun v2 => ?_)
  refine pg_i2l dX6_isSure_75 ?_
  refine pg_lcmp_le (tgt := 84) dX6_isSure_76 dX6_isSure_77 rfl ?_ ?_
  · refine pg_iconst dX6_isSure_84 ci_0 ?_
    exact pg_zret dX6_isSure_85 rfl (Or.inl rfl) rfl
  · refine pg_iconst dX6_isSure_80 ci_1 ?_
    refine pg_goto (tgt := 85) dX6_isSure_81 rfl ?_
    exact pg_zret dX6_isSure_85 rfl (Or.inr rfl) rfl
theorem e_X6_isSure_2 (l : Launch) (D : pg_D)   : ∀ (n : Nat) (a0 : Nat) (a1 : Int32) (a2 : Int32) (h : pg_H), pg_EvF l D RX6 cX6_isSure 3 (some FieldType.boolean) "isSure" 3 113 pg_wI (F_X6_isSure_2 n a0 a1 a2 h) 2 [(0, pR a0), (1, pI a1), (2, pI a2)] [] h := by
  intro n
  induction n with
  | zero => intro a0 a1 a2 h; exact pg_none
  | succ n ih =>
    intro a0 a1 a2 h
    rw [F_X6_isSure_2]
    refine pg_iload_n (i := 2) dX6_isSure_2 rfl 2 rfl ?_
    refine pg_aload_n (i := 0) dX6_isSure_3 rfl 0 rfl ?_
    refine pg_getR dX6_isSure_4 fl_RX6_11 rfl (fun v1 => ?_)
    refine pg_alen dX6_isSure_7 (fun v2 => ?_)
    refine pg_icmp_ge (tgt := 30) dX6_isSure_8 rfl ?_ ?_
    · refine pg_aload_n (i := 0) dX6_isSure_30 rfl 0 rfl ?_
      refine pg_iload_n (i := 1) dX6_isSure_31 rfl 1 rfl ?_
      refine pg_callV_oI (As := [pI a1]) (rs := []) dX6_isSure_32 lk_RX6_38 vy_X6_exemplarOf nd_X6_exemplarOf (c_X6_exemplarOf l D h a0 a1) rfl rfl (Nat.le_of_ble_eq_true rfl) (by decide) (by decide) (fun v3 => ?_)
      refine pg_iconst dX6_isSure_35 ci_1 ?_
      refine pg_iadd dX6_isSure_36 ?_
      refine pg_bipush dX6_isSure_37 cb_13 ?_
      refine pg_imul dX6_isSure_39 ?_
      refine pg_iload_n (i := 1) dX6_isSure_40 rfl 1 rfl ?_
      refine pg_iadd dX6_isSure_41 ?_
      refine pg_iconst dX6_isSure_42 ci_1 ?_
      refine pg_iadd dX6_isSure_43 ?_
      refine pg_letI (fun v4 => ?_)
      refine pg_istore_n (i := 2) (lv' := [(2, pI v4), (0, pR a0), (1, pI a1)]) dX6_isSure_44 rfl (by decide) rfl ?_
      refine pg_iload_n (i := 2) dX6_isSure_45 rfl 0 rfl ?_
      refine pg_if_lt (tgt := 67) dX6_isSure_46 rfl ?_ ?_
      · exact pg_to (e_X6_isSure_67 l D a0 h) [1] rfl
      · refine pg_iload_n (i := 2) dX6_isSure_49 rfl 0 rfl ?_
        refine pg_aload_n (i := 0) dX6_isSure_50 rfl 1 rfl ?_
        refine pg_getR dX6_isSure_51 fl_RX6_15 rfl (fun v5 => ?_)
        refine pg_alen dX6_isSure_54 (fun v6 => ?_)
        refine pg_icmp_ge (tgt := 67) dX6_isSure_55 rfl ?_ ?_
        · exact pg_to (e_X6_isSure_67 l D a0 h) [1] rfl
        · refine pg_aload_n (i := 0) dX6_isSure_58 rfl 1 rfl ?_
          refine pg_getR dX6_isSure_59 fl_RX6_15 rfl (fun v7 => ?_)
          refine pg_iload_n (i := 2) dX6_isSure_62 rfl 0 rfl ?_
          refine pg_ldc2 (v := (-1 : Int64)) dX6_isSure_63 kc_RX6_51 ?_
          refine pg_lastore dX6_isSure_66 (fun v8 => ?_)
          exact pg_to (e_X6_isSure_67 l D a0 v8) [1] rfl
    · refine pg_aload_n (i := 0) dX6_isSure_11 rfl 0 rfl ?_
      refine pg_getR dX6_isSure_12 fl_RX6_15 rfl (fun v9 => ?_)
      refine pg_iload_n (i := 2) dX6_isSure_15 rfl 2 rfl ?_
      refine pg_aload_n (i := 0) dX6_isSure_16 rfl 0 rfl ?_
      refine pg_getR dX6_isSure_17 fl_RX6_11 rfl (fun v10 => ?_)
      refine pg_iload_n (i := 2) dX6_isSure_20 rfl 2 rfl ?_
      refine pg_iaload dX6_isSure_21 (fun v11 => ?_)
      refine pg_i2l dX6_isSure_22 ?_
      refine pg_lastore dX6_isSure_23 (fun v12 => ?_)
      refine pg_iinc (lv' := [(2, pI (a2 + (1 : Int32))), (0, pR a0), (1, pI a1)]) dX6_isSure_24 2 rfl ci_1 (by decide) rfl ?_
      refine pg_goto (tgt := 2) dX6_isSure_27 rfl ?_
      exact pg_to (ih a0 a1 (a2 + (1 : Int32)) v12) [1, 2, 0] rfl
theorem e_X6_isSure (l : Launch) (D : pg_D)  (a0 : Nat) (a1 : Int32) (h : pg_H) : pg_EvF l D RX6 cX6_isSure 3 (some FieldType.boolean) "isSure" 3 113 pg_wI (F_X6_isSure a0 a1 h) 0 [(0, pR a0), (1, pI a1)] [] h := by
  unfold F_X6_isSure
  refine pg_iconst dX6_isSure_0 ci_0 ?_
  refine pg_istore_n (i := 2) (lv' := [(2, pI (0 : Int32)), (0, pR a0), (1, pI a1)]) dX6_isSure_1 rfl (by decide) rfl ?_
  exact pg_to (e_X6_isSure_2 l D pg_fuel a0 a1 (0 : Int32) h) [1, 2, 0] rfl
theorem c_X6_isSure (l : Launch) (D : pg_D) (a0 : Nat) (a1 : Int32) (h : pg_H) : ∀ x, F_X6_isSure a0 a1 h = some x → pg_Ct l D yX6_isSure cX6_isSure 3 (some FieldType.boolean) 3 113 [pR a0, pI a1] h (pg_wI x) :=
  pg_Ct.of pn_RX6 (Nat.le_of_ble_eq_true rfl) (e_X6_isSure l D a0 a1 h)
def F_X8_init (a0 : Nat) (h : pg_H) : Option pg_H := (if a0 = 0 then none else Option.bind (pg_newA 21 h (400 : Int32)) fun v1 => Option.bind (pg_pR 8 0 v1.2 a0 v1.1) fun v2 => (some v2))
theorem e_X8_init (l : Launch) (D : pg_D)  (a0 : Nat) (h : pg_H) : pg_EvF l D RX8 cX8_init 1 none "<init>" 1 20 pg_wV (F_X8_init a0 h) 0 [(0, pR a0)] [] h := by
  unfold F_X8_init
  refine pg_aload_n (i := 0) dX8_init_0 rfl 0 rfl ?_
  refine pg_objInit dX8_init_1 pw1_125 pw_obj1 pw_obj2 (Nat.le_of_ble_eq_true rfl) (by decide) (by decide) ?_
  refine pg_aload_n (i := 0) dX8_init_4 rfl 0 rfl ?_
  refine pg_sipush dX8_init_5 cs_400 ?_
  refine pg_newI dX8_init_8 pw_arr_int (fun v1 => ?_)
  refine pg_putR dX8_init_10 fl_RX8_9 rfl (fun _ => ⟨rfl, fp_RX8_9⟩) (fun v2 => ?_)
  exact pg_vret dX8_init_13 rfl rfl
theorem c_X8_init (l : Launch) (D : pg_D) (a0 : Nat) (h : pg_H) : ∀ x, F_X8_init a0 h = some x → pg_Ct l D yX8_init cX8_init 1 none 1 20 [pR a0] h (pg_wV x) :=
  pg_Ct.of pn_RX8 (Nat.le_of_ble_eq_true rfl) (e_X8_init l D a0 h)
def F_X8_hasRoomFor (h : pg_H) (a0 : Nat) (a1 : Int32) : Option Int32 := Option.bind (pg_gI 8 1 h a0) fun v1 => (if (400 : Int32) < (v1 + a1) then (some (0 : Int32)) else (some (1 : Int32)))
theorem e_X8_hasRoomFor (l : Launch) (D : pg_D)  (h : pg_H) (a0 : Nat) (a1 : Int32) : pg_EvF l D RX8 cX8_hasRoomFor 2 (some FieldType.boolean) "hasRoomFor" 0 0 (pg_oI h) (F_X8_hasRoomFor h a0 a1) 0 [(0, pR a0), (1, pI a1)] [] h := by
  unfold F_X8_hasRoomFor
  refine pg_aload_n (i := 0) dX8_hasRoomFor_0 rfl 0 rfl ?_
  refine pg_getI dX8_hasRoomFor_1 fl_RX8_15 rfl (fun v1 => ?_)
  refine pg_iload_n (i := 1) dX8_hasRoomFor_4 rfl 1 rfl ?_
  refine pg_iadd dX8_hasRoomFor_5 ?_
  refine pg_sipush dX8_hasRoomFor_6 cs_400 ?_
  refine pg_icmp_gt (tgt := 16) dX8_hasRoomFor_9 rfl ?_ ?_
  · refine pg_iconst dX8_hasRoomFor_16 ci_0 ?_
    exact pg_zret dX8_hasRoomFor_17 rfl (Or.inl rfl) rfl
  · refine pg_iconst dX8_hasRoomFor_12 ci_1 ?_
    refine pg_goto (tgt := 17) dX8_hasRoomFor_13 rfl ?_
    exact pg_zret dX8_hasRoomFor_17 rfl (Or.inr rfl) rfl
theorem c_X8_hasRoomFor (l : Launch) (D : pg_D) (h : pg_H) (a0 : Nat) (a1 : Int32)  : ∀ x, F_X8_hasRoomFor h a0 a1 = some x → pg_Ct l D yX8_hasRoomFor cX8_hasRoomFor 2 (some FieldType.boolean) 0 0 [pR a0, pI a1] h (pg_oI h x) :=
  pg_Ct.of pn_RX8 (Nat.le_of_ble_eq_true rfl) (e_X8_hasRoomFor l D h a0 a1)
def F_X8_putNumber_50 (k3 : Nat → Int32 → Int32 → pg_H → Option pg_H) (a0 : Nat) (a1 : Int32) (a2 : Int32) (h : pg_H) : Option pg_H := (k3 a0 a1 (a2 + (-8 : Int32)) h)
def F_X8_putNumber_3  : Nat → Nat → Int32 → Int32 → pg_H → Option pg_H
  | 0 => fun _ _ _ _ => none
  | n + 1 => fun a0 a1 a2 h => (if a2 < 0 then (some h) else Option.bind (pg_gI 8 1 h a0) fun v1 => (if v1 < 0 then (F_X8_putNumber_50 (F_X8_putNumber_3 n) a0 a1 a2 h) else Option.bind (pg_gI 8 1 h a0) fun v2 => (if v2 < (400 : Int32) then Option.bind (pg_gR 8 0 h a0) fun v3 => Option.bind (pg_gI 8 1 h a0) fun v4 => Option.bind (pg_sI 21 h v3 v4 ((a1 >>> (a2 &&& 31)) &&& (255 : Int32))) fun v5 => Option.bind (pg_gI 8 1 v5 a0) fun v6 => Option.bind (pg_pI 8 1 v5 a0 (v6 + (1 : Int32))) fun v7 => (F_X8_putNumber_50 (F_X8_putNumber_3 n) a0 a1 a2 v7) else (F_X8_putNumber_50 (F_X8_putNumber_3 n) a0 a1 a2 h))))
def F_X8_putNumber (a0 : Nat) (a1 : Int32) (h : pg_H) : Option pg_H := (F_X8_putNumber_3 pg_fuel a0 a1 (24 : Int32) h)
theorem e_X8_putNumber_50 (l : Launch) (D : pg_D)  (k3 : Nat → Int32 → Int32 → pg_H → Option pg_H) (hk3 : ∀ (a0 : Nat) (a1 : Int32) (a2 : Int32) (h : pg_H), pg_EvF l D RX8 cX8_putNumber 3 none "putNumber" 0 0 pg_wV (k3 a0 a1 a2 h) 3 [(0, pR a0), (1, pI a1), (2, pI a2)] [] h) (a0 : Nat) (a1 : Int32) (a2 : Int32) (h : pg_H) : pg_EvF l D RX8 cX8_putNumber 3 none "putNumber" 0 0 pg_wV (F_X8_putNumber_50 k3 a0 a1 a2 h) 50 [(0, pR a0), (1, pI a1), (2, pI a2)] [] h := by
  unfold F_X8_putNumber_50
  refine pg_iinc (lv' := [(2, pI (a2 + (-8 : Int32))), (0, pR a0), (1, pI a1)]) dX8_putNumber_50 2 rfl ci_m8 (by decide) rfl ?_
  refine pg_goto (tgt := 3) dX8_putNumber_53 rfl ?_
  exact pg_to (hk3 a0 a1 (a2 + (-8 : Int32)) h) [1, 2, 0] rfl
theorem e_X8_putNumber_3 (l : Launch) (D : pg_D)   : ∀ (n : Nat) (a0 : Nat) (a1 : Int32) (a2 : Int32) (h : pg_H), pg_EvF l D RX8 cX8_putNumber 3 none "putNumber" 0 0 pg_wV (F_X8_putNumber_3 n a0 a1 a2 h) 3 [(0, pR a0), (1, pI a1), (2, pI a2)] [] h := by
  intro n
  induction n with
  | zero => intro a0 a1 a2 h; exact pg_none
  | succ n ih =>
    intro a0 a1 a2 h
    rw [F_X8_putNumber_3]
    refine pg_iload_n (i := 2) dX8_putNumber_3 rfl 2 rfl ?_
    refine pg_if_lt (tgt := 56) dX8_putNumber_4 rfl ?_ ?_
    · exact pg_vret dX8_putNumber_56 rfl rfl
    · refine pg_aload_n (i := 0) dX8_putNumber_7 rfl 0 rfl ?_
      refine pg_getI dX8_putNumber_8 fl_RX8_15 rfl (fun v1 => ?_)
      refine pg_if_lt (tgt := 50) dX8_putNumber_11 rfl ?_ ?_
      · exact pg_to (e_X8_putNumber_50 l D (F_X8_putNumber_3 n) ih a0 a1 a2 h) [0, 1, 2] rfl
      · refine pg_aload_n (i := 0) dX8_putNumber_14 rfl 0 rfl ?_
        refine pg_getI dX8_putNumber_15 fl_RX8_15 rfl (fun v2 => ?_)
        refine pg_sipush dX8_putNumber_18 cs_400 ?_
        refine pg_icmp_ge (tgt := 50) dX8_putNumber_21 rfl ?_ ?_
        · exact pg_to (e_X8_putNumber_50 l D (F_X8_putNumber_3 n) ih a0 a1 a2 h) [0, 1, 2] rfl
        · refine pg_aload_n (i := 0) dX8_putNumber_24 rfl 0 rfl ?_
          refine pg_getR dX8_putNumber_25 fl_RX8_9 rfl (fun v3 => ?_)
          refine pg_aload_n (i := 0) dX8_putNumber_28 rfl 0 rfl ?_
          refine pg_getI dX8_putNumber_29 fl_RX8_15 rfl (fun v4 => ?_)
          refine pg_iload_n (i := 1) dX8_putNumber_32 rfl 1 rfl ?_
          refine pg_iload_n (i := 2) dX8_putNumber_33 rfl 2 rfl ?_
          refine pg_ishr dX8_putNumber_34 ?_
          refine pg_sipush dX8_putNumber_35 cs_255 ?_
          refine pg_iand dX8_putNumber_38 ?_
          refine pg_iastore dX8_putNumber_39 (fun v5 => ?_)
          refine pg_aload_n (i := 0) dX8_putNumber_40 rfl 0 rfl ?_
          refine pg_dup dX8_putNumber_41 rfl ?_
          refine pg_getI dX8_putNumber_42 fl_RX8_15 rfl (fun v6 => ?_)
          refine pg_iconst dX8_putNumber_45 ci_1 ?_
          refine pg_iadd dX8_putNumber_46 ?_
          refine pg_putI dX8_putNumber_47 fl_RX8_15 (fun z => by cases z) (fun v7 => ?_)
          exact pg_to (e_X8_putNumber_50 l D (F_X8_putNumber_3 n) ih a0 a1 a2 v7) [0, 1, 2] rfl
theorem e_X8_putNumber (l : Launch) (D : pg_D)  (a0 : Nat) (a1 : Int32) (h : pg_H) : pg_EvF l D RX8 cX8_putNumber 3 none "putNumber" 0 0 pg_wV (F_X8_putNumber a0 a1 h) 0 [(0, pR a0), (1, pI a1)] [] h := by
  unfold F_X8_putNumber
  refine pg_bipush dX8_putNumber_0 cb_24 ?_
  refine pg_istore_n (i := 2) (lv' := [(2, pI (24 : Int32)), (0, pR a0), (1, pI a1)]) dX8_putNumber_2 rfl (by decide) rfl ?_
  exact pg_to (e_X8_putNumber_3 l D pg_fuel a0 a1 (24 : Int32) h) [1, 2, 0] rfl
theorem c_X8_putNumber (l : Launch) (D : pg_D) (a0 : Nat) (a1 : Int32) (h : pg_H) : ∀ x, F_X8_putNumber a0 a1 h = some x → pg_Ct l D yX8_putNumber cX8_putNumber 3 none 0 0 [pR a0, pI a1] h (pg_wV x) :=
  pg_Ct.of pn_RX8 (Nat.le_of_ble_eq_true rfl) (e_X8_putNumber l D a0 a1 h)
def F_X8_shorten (a0 : Nat) (a1 : Int32) (h : pg_H) : Option pg_H := Option.bind (pg_gI 8 1 h a0) fun v1 => Option.bind (pg_pI 8 1 h a0 (if (0 : Int32) < (if a1 < v1 then a1 else v1) then (if a1 < v1 then a1 else v1) else (0 : Int32))) fun v2 => (some v2)
theorem e_X8_shorten (l : Launch) (D : pg_D)  (a0 : Nat) (a1 : Int32) (h : pg_H) : pg_EvF l D RX8 cX8_shorten 2 none "shorten" 1 30 pg_wV (F_X8_shorten a0 a1 h) 0 [(0, pR a0), (1, pI a1)] [] h := by
  unfold F_X8_shorten
  refine pg_aload_n (i := 0) dX8_shorten_0 rfl 0 rfl ?_
  refine pg_iconst dX8_shorten_1 ci_0 ?_
  refine pg_aload_n (i := 0) dX8_shorten_2 rfl 0 rfl ?_
  refine pg_getI dX8_shorten_3 fl_RX8_15 rfl (fun v1 => ?_)
  refine pg_iload_n (i := 1) dX8_shorten_6 rfl 1 rfl ?_
  refine pg_mmin dX8_shorten_7 pw3_85 pw_min1 pw_math pw_min2 (Nat.le_of_ble_eq_true rfl) (by decide) (by decide) ?_
  refine pg_mmax dX8_shorten_10 pw3_88 pw_max1 pw_math pw_max2 (Nat.le_of_ble_eq_true rfl) (by decide) (by decide) ?_
  refine pg_putI dX8_shorten_13 fl_RX8_15 (fun z => by cases z) (fun v2 => ?_)
  exact pg_vret dX8_shorten_16 rfl rfl
theorem c_X8_shorten (l : Launch) (D : pg_D) (a0 : Nat) (a1 : Int32) (h : pg_H) : ∀ x, F_X8_shorten a0 a1 h = some x → pg_Ct l D yX8_shorten cX8_shorten 2 none 1 30 [pR a0, pI a1] h (pg_wV x) :=
  pg_Ct.of pn_RX8 (Nat.le_of_ble_eq_true rfl) (e_X8_shorten l D a0 a1 h)
def F_X10_init (a0 : Nat) (h : pg_H) : Option pg_H := (if a0 = 0 then none else Option.bind (pg_newA 21 h (1728 : Int32)) fun v1 => Option.bind (pg_pR 10 0 v1.2 a0 v1.1) fun v2 => Option.bind (pg_newA 21 v2 (12 : Int32)) fun v3 => Option.bind (pg_pR 10 1 v3.2 a0 v3.1) fun v4 => Option.bind (pg_newA 21 v4 (12 : Int32)) fun v5 => Option.bind (pg_pR 10 2 v5.2 a0 v5.1) fun v6 => (some v6))
theorem e_X10_init (l : Launch) (D : pg_D)  (a0 : Nat) (h : pg_H) : pg_EvF l D RX10 cX10_init 1 none "<init>" 1 20 pg_wV (F_X10_init a0 h) 0 [(0, pR a0)] [] h := by
  unfold F_X10_init
  refine pg_aload_n (i := 0) dX10_init_0 rfl 0 rfl ?_
  refine pg_objInit dX10_init_1 pw2_54 pw_obj1 pw_obj2 (Nat.le_of_ble_eq_true rfl) (by decide) (by decide) ?_
  refine pg_aload_n (i := 0) dX10_init_4 rfl 0 rfl ?_
  refine pg_sipush dX10_init_5 cs_1728 ?_
  refine pg_newI dX10_init_8 pw_arr_int (fun v1 => ?_)
  refine pg_putR dX10_init_10 fl_RX10_11 rfl (fun _ => ⟨rfl, fp_RX10_11⟩) (fun v2 => ?_)
  refine pg_aload_n (i := 0) dX10_init_13 rfl 0 rfl ?_
  refine pg_bipush dX10_init_14 cb_12 ?_
  refine pg_newI dX10_init_16 pw_arr_int (fun v3 => ?_)
  refine pg_putR dX10_init_18 fl_RX10_15 rfl (fun _ => ⟨rfl, fp_RX10_15⟩) (fun v4 => ?_)
  refine pg_aload_n (i := 0) dX10_init_21 rfl 0 rfl ?_
  refine pg_bipush dX10_init_22 cb_12 ?_
  refine pg_newI dX10_init_24 pw_arr_int (fun v5 => ?_)
  refine pg_putR dX10_init_26 fl_RX10_18 rfl (fun _ => ⟨rfl, fp_RX10_18⟩) (fun v6 => ?_)
  exact pg_vret dX10_init_29 rfl rfl
theorem c_X10_init (l : Launch) (D : pg_D) (a0 : Nat) (h : pg_H) : ∀ x, F_X10_init a0 h = some x → pg_Ct l D yX10_init cX10_init 1 none 1 20 [pR a0] h (pg_wV x) :=
  pg_Ct.of pn_RX10 (Nat.le_of_ble_eq_true rfl) (e_X10_init l D a0 h)
def F_X10_hasCopy (h : pg_H) (a0 : Nat) (a1 : Int32) : Option Int32 := (if a1 < 0 then (some (0 : Int32)) else Option.bind (pg_gI 10 3 h a0) fun v1 => (if a1 < v1 then (if a1 < (12 : Int32) then (some (1 : Int32)) else (some (0 : Int32))) else (some (0 : Int32))))
theorem e_X10_hasCopy (l : Launch) (D : pg_D)  (h : pg_H) (a0 : Nat) (a1 : Int32) : pg_EvF l D RX10 cX10_hasCopy 2 (some FieldType.boolean) "hasCopy" 0 0 (pg_oI h) (F_X10_hasCopy h a0 a1) 0 [(0, pR a0), (1, pI a1)] [] h := by
  unfold F_X10_hasCopy
  refine pg_iload_n (i := 1) dX10_hasCopy_0 rfl 1 rfl ?_
  refine pg_if_lt (tgt := 22) dX10_hasCopy_1 rfl ?_ ?_
  · refine pg_iconst dX10_hasCopy_22 ci_0 ?_
    exact pg_zret dX10_hasCopy_23 rfl (Or.inl rfl) rfl
  · refine pg_iload_n (i := 1) dX10_hasCopy_4 rfl 1 rfl ?_
    refine pg_aload_n (i := 0) dX10_hasCopy_5 rfl 0 rfl ?_
    refine pg_getI dX10_hasCopy_6 fl_RX10_21 rfl (fun v1 => ?_)
    refine pg_icmp_ge (tgt := 22) dX10_hasCopy_9 rfl ?_ ?_
    · refine pg_iconst dX10_hasCopy_22 ci_0 ?_
      exact pg_zret dX10_hasCopy_23 rfl (Or.inl rfl) rfl
    · refine pg_iload_n (i := 1) dX10_hasCopy_12 rfl 1 rfl ?_
      refine pg_bipush dX10_hasCopy_13 cb_12 ?_
      refine pg_icmp_ge (tgt := 22) dX10_hasCopy_15 rfl ?_ ?_
      · refine pg_iconst dX10_hasCopy_22 ci_0 ?_
        exact pg_zret dX10_hasCopy_23 rfl (Or.inl rfl) rfl
      · refine pg_iconst dX10_hasCopy_18 ci_1 ?_
        refine pg_goto (tgt := 23) dX10_hasCopy_19 rfl ?_
        exact pg_zret dX10_hasCopy_23 rfl (Or.inr rfl) rfl
theorem c_X10_hasCopy (l : Launch) (D : pg_D) (h : pg_H) (a0 : Nat) (a1 : Int32)  : ∀ x, F_X10_hasCopy h a0 a1 = some x → pg_Ct l D yX10_hasCopy cX10_hasCopy 2 (some FieldType.boolean) 0 0 [pR a0, pI a1] h (pg_oI h x) :=
  pg_Ct.of pn_RX10 (Nat.le_of_ble_eq_true rfl) (e_X10_hasCopy l D h a0 a1)
def F_X10_notesOf (h : pg_H) (a0 : Nat) (a1 : Int32) : Option Int32 := Option.bind (pg_rcv 10 h a0 (F_X10_hasCopy h a0 a1)) fun v1 => (if v1 = 0 then (some (0 : Int32)) else Option.bind (pg_gR 10 1 h a0) fun v2 => Option.bind (pg_aI 21 h v2 a1) fun v3 => (some v3))
theorem e_X10_notesOf (l : Launch) (D : pg_D)  (h : pg_H) (a0 : Nat) (a1 : Int32) : pg_EvF l D RX10 cX10_notesOf 2 (some FieldType.int) "notesOf" 1 21 (pg_oI h) (F_X10_notesOf h a0 a1) 0 [(0, pR a0), (1, pI a1)] [] h := by
  unfold F_X10_notesOf
  refine pg_aload_n (i := 0) dX10_notesOf_0 rfl 0 rfl ?_
  refine pg_iload_n (i := 1) dX10_notesOf_1 rfl 1 rfl ?_
  refine pg_callV_oI (As := [pI a1]) (rs := []) dX10_notesOf_2 lk_RX10_25 vy_X10_hasCopy nd_X10_hasCopy (c_X10_hasCopy l D h a0 a1) rfl rfl (Nat.le_of_ble_eq_true rfl) (by decide) (by decide) (fun v1 => ?_)
  refine pg_if_eq (tgt := 17) dX10_notesOf_5 rfl ?_ ?_
  · refine pg_iconst dX10_notesOf_17 ci_0 ?_
    exact pg_iret dX10_notesOf_18 rfl rfl
  · refine pg_aload_n (i := 0) dX10_notesOf_8 rfl 0 rfl ?_
    refine pg_getR dX10_notesOf_9 fl_RX10_15 rfl (fun v2 => ?_)
    refine pg_iload_n (i := 1) dX10_notesOf_12 rfl 1 rfl ?_
    refine pg_iaload dX10_notesOf_13 (fun v3 => ?_)
    refine pg_goto (tgt := 18) dX10_notesOf_14 rfl ?_
    exact pg_iret dX10_notesOf_18 rfl rfl
theorem c_X10_notesOf (l : Launch) (D : pg_D) (h : pg_H) (a0 : Nat) (a1 : Int32)  : ∀ x, F_X10_notesOf h a0 a1 = some x → pg_Ct l D yX10_notesOf cX10_notesOf 2 (some FieldType.int) 1 21 [pR a0, pI a1] h (pg_oI h x) :=
  pg_Ct.of pn_RX10 (Nat.le_of_ble_eq_true rfl) (e_X10_notesOf l D h a0 a1)
def F_X10_notesCopied (h : pg_H) (a0 : Nat) (a1 : Int32) : Option Int32 := Option.bind (pg_rcv 10 h a0 (F_X10_hasCopy h a0 a1)) fun v1 => (if v1 = 0 then (some (0 : Int32)) else Option.bind (pg_gR 10 2 h a0) fun v2 => Option.bind (pg_aI 21 h v2 a1) fun v3 => (some v3))
theorem e_X10_notesCopied (l : Launch) (D : pg_D)  (h : pg_H) (a0 : Nat) (a1 : Int32) : pg_EvF l D RX10 cX10_notesCopied 2 (some FieldType.int) "notesCopied" 1 21 (pg_oI h) (F_X10_notesCopied h a0 a1) 0 [(0, pR a0), (1, pI a1)] [] h := by
  unfold F_X10_notesCopied
  refine pg_aload_n (i := 0) dX10_notesCopied_0 rfl 0 rfl ?_
  refine pg_iload_n (i := 1) dX10_notesCopied_1 rfl 1 rfl ?_
  refine pg_callV_oI (As := [pI a1]) (rs := []) dX10_notesCopied_2 lk_RX10_25 vy_X10_hasCopy nd_X10_hasCopy (c_X10_hasCopy l D h a0 a1) rfl rfl (Nat.le_of_ble_eq_true rfl) (by decide) (by decide) (fun v1 => ?_)
  refine pg_if_eq (tgt := 17) dX10_notesCopied_5 rfl ?_ ?_
  · refine pg_iconst dX10_notesCopied_17 ci_0 ?_
    exact pg_iret dX10_notesCopied_18 rfl rfl
  · refine pg_aload_n (i := 0) dX10_notesCopied_8 rfl 0 rfl ?_
    refine pg_getR dX10_notesCopied_9 fl_RX10_18 rfl (fun v2 => ?_)
    refine pg_iload_n (i := 1) dX10_notesCopied_12 rfl 1 rfl ?_
    refine pg_iaload dX10_notesCopied_13 (fun v3 => ?_)
    refine pg_goto (tgt := 18) dX10_notesCopied_14 rfl ?_
    exact pg_iret dX10_notesCopied_18 rfl rfl
theorem c_X10_notesCopied (l : Launch) (D : pg_D) (h : pg_H) (a0 : Nat) (a1 : Int32)  : ∀ x, F_X10_notesCopied h a0 a1 = some x → pg_Ct l D yX10_notesCopied cX10_notesCopied 2 (some FieldType.int) 1 21 [pR a0, pI a1] h (pg_oI h x) :=
  pg_Ct.of pn_RX10 (Nat.le_of_ble_eq_true rfl) (e_X10_notesCopied l D h a0 a1)
def F_X10_hasNote_2 (h : pg_H) : Nat → Nat → Int32 → Int32 → Int32 → Option Int32
  | 0 => fun _ _ _ _ => none
  | n + 1 => fun a0 a1 a2 a3 => Option.bind (pg_rcv 10 h a0 (F_X10_notesOf h a0 a1)) fun v1 => (if a3 < v1 then Option.bind (pg_gR 10 0 h a0) fun v2 => Option.bind (pg_aI 21 h v2 ((a1 * (144 : Int32)) + a3)) fun v3 => (if v3 = a2 then (some (1 : Int32)) else (F_X10_hasNote_2 h n a0 a1 a2 (a3 + (1 : Int32)))) else (some (0 : Int32)))
def F_X10_hasNote (h : pg_H) (a0 : Nat) (a1 : Int32) (a2 : Int32) : Option Int32 := (F_X10_hasNote_2 h pg_fuel a0 a1 a2 (0 : Int32))
theorem e_X10_hasNote_2 (l : Launch) (D : pg_D)  (h : pg_H) : ∀ (n : Nat) (a0 : Nat) (a1 : Int32) (a2 : Int32) (a3 : Int32), pg_EvF l D RX10 cX10_hasNote 4 (some FieldType.boolean) "hasNote" 2 42 (pg_oI h) (F_X10_hasNote_2 h n a0 a1 a2 a3) 2 [(0, pR a0), (1, pI a1), (2, pI a2), (3, pI a3)] [] h := by
  intro n
  induction n with
  | zero => intro a0 a1 a2 a3; exact pg_none
  | succ n ih =>
    intro a0 a1 a2 a3
    rw [F_X10_hasNote_2]
    refine pg_iload_n (i := 3) dX10_hasNote_2 rfl 3 rfl ?_
    refine pg_aload_n (i := 0) dX10_hasNote_3 rfl 0 rfl ?_
    refine pg_iload_n (i := 1) dX10_hasNote_4 rfl 1 rfl ?_
    refine pg_callV_oI (As := [pI a1]) (rs := [pI a3]) dX10_hasNote_5 lk_RX10_29 vy_X10_notesOf nd_X10_notesOf (c_X10_notesOf l D h a0 a1) rfl rfl (Nat.le_of_ble_eq_true rfl) (by decide) (by decide) (fun v1 => ?_)
    refine pg_icmp_ge (tgt := 35) dX10_hasNote_8 rfl ?_ ?_
    · refine pg_iconst dX10_hasNote_35 ci_0 ?_
      exact pg_zret dX10_hasNote_36 rfl (Or.inl rfl) rfl
    · refine pg_aload_n (i := 0) dX10_hasNote_11 rfl 0 rfl ?_
      refine pg_getR dX10_hasNote_12 fl_RX10_11 rfl (fun v2 => ?_)
      refine pg_iload_n (i := 1) dX10_hasNote_15 rfl 1 rfl ?_
      refine pg_sipush dX10_hasNote_16 cs_144 ?_
      refine pg_imul dX10_hasNote_19 ?_
      refine pg_iload_n (i := 3) dX10_hasNote_20 rfl 3 rfl ?_
      refine pg_iadd dX10_hasNote_21 ?_
      refine pg_iaload dX10_hasNote_22 (fun v3 => ?_)
      refine pg_iload_n (i := 2) dX10_hasNote_23 rfl 2 rfl ?_
      refine pg_icmp_ne (tgt := 29) dX10_hasNote_24 rfl ?_ ?_
      · refine pg_iinc (lv' := [(3, pI (a3 + (1 : Int32))), (0, pR a0), (1, pI a1), (2, pI a2)]) dX10_hasNote_29 3 rfl ci_1 (by decide) rfl ?_
        refine pg_goto (tgt := 2) dX10_hasNote_32 rfl ?_
        exact pg_to (ih a0 a1 a2 (a3 + (1 : Int32))) [1, 2, 3, 0] rfl
      · refine pg_iconst dX10_hasNote_27 ci_1 ?_
        exact pg_zret dX10_hasNote_28 rfl (Or.inr rfl) rfl
theorem e_X10_hasNote (l : Launch) (D : pg_D)  (h : pg_H) (a0 : Nat) (a1 : Int32) (a2 : Int32) : pg_EvF l D RX10 cX10_hasNote 4 (some FieldType.boolean) "hasNote" 2 42 (pg_oI h) (F_X10_hasNote h a0 a1 a2) 0 [(0, pR a0), (1, pI a1), (2, pI a2)] [] h := by
  unfold F_X10_hasNote
  refine pg_iconst dX10_hasNote_0 ci_0 ?_
  refine pg_istore_n (i := 3) (lv' := [(3, pI (0 : Int32)), (0, pR a0), (1, pI a1), (2, pI a2)]) dX10_hasNote_1 rfl (by decide) rfl ?_
  exact pg_to (e_X10_hasNote_2 l D h pg_fuel a0 a1 a2 (0 : Int32)) [1, 2, 3, 0] rfl
theorem c_X10_hasNote (l : Launch) (D : pg_D) (h : pg_H) (a0 : Nat) (a1 : Int32) (a2 : Int32)  : ∀ x, F_X10_hasNote h a0 a1 a2 = some x → pg_Ct l D yX10_hasNote cX10_hasNote 4 (some FieldType.boolean) 2 42 [pR a0, pI a1, pI a2] h (pg_oI h x) :=
  pg_Ct.of pn_RX10 (Nat.le_of_ble_eq_true rfl) (e_X10_hasNote l D h a0 a1 a2)
def F_X10_holdersOfFirst_51 (h : pg_H) (k26 : Nat → Int32 → Int32 → Int32 → Option Int32) (a0 : Nat) (a2 : Int32) (a4 : Int32) (s0 : Int32) (s1 : Int32) : Option Int32 := pg_let (s1 + s0) fun v1 => (k26 a0 a2 v1 (a4 + (1 : Int32)))
def F_X10_holdersOfFirst_26 (h : pg_H) : Nat → Nat → Int32 → Int32 → Int32 → Option Int32
  | 0 => fun _ _ _ _ => none
  | n + 1 => fun a0 a2 a3 a4 => Option.bind (pg_gI 10 3 h a0) fun v1 => (if a4 < v1 then Option.bind (pg_rcv 10 h a0 (F_X10_hasNote h a0 a4 a2)) fun v2 => (if v2 = 0 then (F_X10_holdersOfFirst_51 h (F_X10_holdersOfFirst_26 h n) a0 a2 a4 (0 : Int32) a3) else (F_X10_holdersOfFirst_51 h (F_X10_holdersOfFirst_26 h n) a0 a2 a4 (1 : Int32) a3)) else (some a3))
def F_X10_holdersOfFirst (h : pg_H) (a0 : Nat) (a1 : Int32) : Option Int32 := Option.bind (pg_rcv 10 h a0 (F_X10_notesOf h a0 a1)) fun v1 => (if v1 = 0 then (some (0 : Int32)) else Option.bind (pg_gR 10 0 h a0) fun v2 => Option.bind (pg_aI 21 h v2 (a1 * (144 : Int32))) fun v3 => (F_X10_holdersOfFirst_26 h pg_fuel a0 v3 (0 : Int32) (0 : Int32)))
theorem e_X10_holdersOfFirst_51 (l : Launch) (D : pg_D)  (h : pg_H) (k26 : Nat → Int32 → Int32 → Int32 → Option Int32) (hk26 : ∀ (a0 : Nat) (a2 : Int32) (a3 : Int32) (a4 : Int32), pg_EvF l D RX10 cX10_holdersOfFirst 5 (some FieldType.int) "holdersOfFirst" 3 65 (pg_oI h) (k26 a0 a2 a3 a4) 26 [(0, pR a0), (2, pI a2), (3, pI a3), (4, pI a4)] [] h) (a0 : Nat) (a2 : Int32) (a4 : Int32) (s0 : Int32) (s1 : Int32) : pg_EvF l D RX10 cX10_holdersOfFirst 5 (some FieldType.int) "holdersOfFirst" 3 65 (pg_oI h) (F_X10_holdersOfFirst_51 h k26 a0 a2 a4 s0 s1) 51 [(0, pR a0), (2, pI a2), (4, pI a4)] [pI s0, pI s1] h := by
  unfold F_X10_holdersOfFirst_51
  refine pg_iadd dX10_holdersOfFirst_51 ?_
  refine pg_letI (fun v1 => ?_)
  refine pg_istore_n (i := 3) (lv' := [(3, pI v1), (0, pR a0), (2, pI a2), (4, pI a4)]) dX10_holdersOfFirst_52 rfl (by decide) rfl ?_
  refine pg_iinc (lv' := [(4, pI (a4 + (1 : Int32))), (3, pI v1), (0, pR a0), (2, pI a2)]) dX10_holdersOfFirst_53 3 rfl ci_1 (by decide) rfl ?_
  refine pg_goto (tgt := 26) dX10_holdersOfFirst_56 rfl ?_
  exact pg_to (hk26 a0 a2 v1 (a4 + (1 : Int32))) [2, 3, 1, 0] rfl
theorem e_X10_holdersOfFirst_26 (l : Launch) (D : pg_D)  (h : pg_H) : ∀ (n : Nat) (a0 : Nat) (a2 : Int32) (a3 : Int32) (a4 : Int32), pg_EvF l D RX10 cX10_holdersOfFirst 5 (some FieldType.int) "holdersOfFirst" 3 65 (pg_oI h) (F_X10_holdersOfFirst_26 h n a0 a2 a3 a4) 26 [(0, pR a0), (2, pI a2), (3, pI a3), (4, pI a4)] [] h := by
  intro n
  induction n with
  | zero => intro a0 a2 a3 a4; exact pg_none
  | succ n ih =>
    intro a0 a2 a3 a4
    rw [F_X10_holdersOfFirst_26]
    refine pg_iload dX10_holdersOfFirst_26 3 rfl ?_
    refine pg_aload_n (i := 0) dX10_holdersOfFirst_28 rfl 0 rfl ?_
    refine pg_getI dX10_holdersOfFirst_29 fl_RX10_21 rfl (fun v1 => ?_)
    refine pg_icmp_ge (tgt := 59) dX10_holdersOfFirst_32 rfl ?_ ?_
    · refine pg_iload_n (i := 3) dX10_holdersOfFirst_59 rfl 2 rfl ?_
      exact pg_iret dX10_holdersOfFirst_60 rfl rfl
    · refine pg_iload_n (i := 3) dX10_holdersOfFirst_35 rfl 2 rfl ?_
      refine pg_aload_n (i := 0) dX10_holdersOfFirst_36 rfl 0 rfl ?_
      refine pg_iload dX10_holdersOfFirst_37 3 rfl ?_
      refine pg_iload_n (i := 2) dX10_holdersOfFirst_39 rfl 1 rfl ?_
      refine pg_callV_oI (As := [pI a4, pI a2]) (rs := [pI a3]) dX10_holdersOfFirst_40 lk_RX10_33 vy_X10_hasNote nd_X10_hasNote (c_X10_hasNote l D h a0 a4 a2) rfl rfl (Nat.le_of_ble_eq_true rfl) (by decide) (by decide) (fun v2 => ?_)
      refine pg_if_eq (tgt := 50) dX10_holdersOfFirst_43 rfl ?_ ?_
      · refine pg_iconst dX10_holdersOfFirst_50 ci_0 ?_
        exact pg_to (e_X10_holdersOfFirst_51 l D h (F_X10_holdersOfFirst_26 h n) ih a0 a2 a4 (0 : Int32) a3) [0, 1, 3] rfl
      · refine pg_iconst dX10_holdersOfFirst_46 ci_1 ?_
        refine pg_goto (tgt := 51) dX10_holdersOfFirst_47 rfl ?_
        exact pg_to (e_X10_holdersOfFirst_51 l D h (F_X10_holdersOfFirst_26 h n) ih a0 a2 a4 (1 : Int32) a3) [0, 1, 3] rfl
theorem e_X10_holdersOfFirst (l : Launch) (D : pg_D)  (h : pg_H) (a0 : Nat) (a1 : Int32) : pg_EvF l D RX10 cX10_holdersOfFirst 5 (some FieldType.int) "holdersOfFirst" 3 65 (pg_oI h) (F_X10_holdersOfFirst h a0 a1) 0 [(0, pR a0), (1, pI a1)] [] h := by
  unfold F_X10_holdersOfFirst
  refine pg_aload_n (i := 0) dX10_holdersOfFirst_0 rfl 0 rfl ?_
  refine pg_iload_n (i := 1) dX10_holdersOfFirst_1 rfl 1 rfl ?_
  refine pg_callV_oI (As := [pI a1]) (rs := []) dX10_holdersOfFirst_2 lk_RX10_29 vy_X10_notesOf nd_X10_notesOf (c_X10_notesOf l D h a0 a1) rfl rfl (Nat.le_of_ble_eq_true rfl) (by decide) (by decide) (fun v1 => ?_)
  refine pg_if_ne (tgt := 10) dX10_holdersOfFirst_5 rfl ?_ ?_
  · refine pg_aload_n (i := 0) dX10_holdersOfFirst_10 rfl 0 rfl ?_
    refine pg_getR dX10_holdersOfFirst_11 fl_RX10_11 rfl (fun v2 => ?_)
    refine pg_iload_n (i := 1) dX10_holdersOfFirst_14 rfl 1 rfl ?_
    refine pg_sipush dX10_holdersOfFirst_15 cs_144 ?_
    refine pg_imul dX10_holdersOfFirst_18 ?_
    refine pg_iaload dX10_holdersOfFirst_19 (fun v3 => ?_)
    refine pg_istore_n (i := 2) (lv' := [(2, pI v3), (0, pR a0), (1, pI a1)]) dX10_holdersOfFirst_20 rfl (by decide) rfl ?_
    refine pg_iconst dX10_holdersOfFirst_21 ci_0 ?_
    refine pg_istore_n (i := 3) (lv' := [(3, pI (0 : Int32)), (2, pI v3), (0, pR a0), (1, pI a1)]) dX10_holdersOfFirst_22 rfl (by decide) rfl ?_
    refine pg_iconst dX10_holdersOfFirst_23 ci_0 ?_
    refine pg_istore (lv' := [(4, pI (0 : Int32)), (3, pI (0 : Int32)), (2, pI v3), (0, pR a0), (1, pI a1)]) dX10_holdersOfFirst_24 (by decide) rfl ?_
    exact pg_to (e_X10_holdersOfFirst_26 l D h pg_fuel a0 v3 (0 : Int32) (0 : Int32)) [3, 2, 1, 0] rfl
  · refine pg_iconst dX10_holdersOfFirst_8 ci_0 ?_
    exact pg_iret dX10_holdersOfFirst_9 rfl rfl
theorem c_X10_holdersOfFirst (l : Launch) (D : pg_D) (h : pg_H) (a0 : Nat) (a1 : Int32)  : ∀ x, F_X10_holdersOfFirst h a0 a1 = some x → pg_Ct l D yX10_holdersOfFirst cX10_holdersOfFirst 5 (some FieldType.int) 3 65 [pR a0, pI a1] h (pg_oI h x) :=
  pg_Ct.of pn_RX10 (Nat.le_of_ble_eq_true rfl) (e_X10_holdersOfFirst l D h a0 a1)
def F_X10_nextCopy_49 (h : pg_H) (k2 : Nat → Nat → Int32 → Int32 → Option Int32) (a0 : Nat) (a1 : Nat) (a2 : Int32) (a3 : Int32) : Option Int32 := (k2 a0 a1 a2 (a3 + (1 : Int32)))
def F_X10_nextCopy_2 (h : pg_H) : Nat → Nat → Nat → Int32 → Int32 → Option Int32
  | 0 => fun _ _ _ _ => none
  | n + 1 => fun a0 a1 a2 a3 => Option.bind (pg_gI 10 3 h a0) fun v1 => (if a3 < v1 then (if a3 < (12 : Int32) then Option.bind (pg_rcv 6 h a1 (F_X6_exemplarOf h a1 a3)) fun v2 => (if ((a2 >>> (a3 &&& 31)) &&& (1 : Int32)) = 0 then (if v2 = (-1 : Int32) then (some a3) else (if ((a2 >>> (v2 &&& 31)) &&& (1 : Int32)) = (1 : Int32) then (some a3) else (F_X10_nextCopy_49 h (F_X10_nextCopy_2 h n) a0 a1 a2 a3))) else (F_X10_nextCopy_49 h (F_X10_nextCopy_2 h n) a0 a1 a2 a3)) else (some (-1 : Int32))) else (some (-1 : Int32)))
def F_X10_nextCopy (h : pg_H) (a0 : Nat) (a1 : Nat) (a2 : Int32) : Option Int32 := (F_X10_nextCopy_2 h pg_fuel a0 a1 a2 (0 : Int32))
theorem e_X10_nextCopy_49 (l : Launch) (D : pg_D)  (h : pg_H) (k2 : Nat → Nat → Int32 → Int32 → Option Int32) (hk2 : ∀ (a0 : Nat) (a1 : Nat) (a2 : Int32) (a3 : Int32), pg_EvF l D RX10 cX10_nextCopy 5 (some FieldType.int) "nextCopy" 1 21 (pg_oI h) (k2 a0 a1 a2 a3) 2 [(0, pR a0), (1, pR a1), (2, pI a2), (3, pI a3)] [] h) (a0 : Nat) (a1 : Nat) (a2 : Int32) (a3 : Int32) : pg_EvF l D RX10 cX10_nextCopy 5 (some FieldType.int) "nextCopy" 1 21 (pg_oI h) (F_X10_nextCopy_49 h k2 a0 a1 a2 a3) 49 [(0, pR a0), (1, pR a1), (2, pI a2), (3, pI a3)] [] h := by
  unfold F_X10_nextCopy_49
  refine pg_iinc (lv' := [(3, pI (a3 + (1 : Int32))), (0, pR a0), (1, pR a1), (2, pI a2)]) dX10_nextCopy_49 3 rfl ci_1 (by decide) rfl ?_
  refine pg_goto (tgt := 2) dX10_nextCopy_52 rfl ?_
  exact pg_to (hk2 a0 a1 a2 (a3 + (1 : Int32))) [1, 2, 3, 0] rfl
theorem e_X10_nextCopy_2 (l : Launch) (D : pg_D)  (h : pg_H) : ∀ (n : Nat) (a0 : Nat) (a1 : Nat) (a2 : Int32) (a3 : Int32), pg_EvF l D RX10 cX10_nextCopy 5 (some FieldType.int) "nextCopy" 1 21 (pg_oI h) (F_X10_nextCopy_2 h n a0 a1 a2 a3) 2 [(0, pR a0), (1, pR a1), (2, pI a2), (3, pI a3)] [] h := by
  intro n
  induction n with
  | zero => intro a0 a1 a2 a3; exact pg_none
  | succ n ih =>
    intro a0 a1 a2 a3
    rw [F_X10_nextCopy_2]
    refine pg_iload_n (i := 3) dX10_nextCopy_2 rfl 3 rfl ?_
    refine pg_aload_n (i := 0) dX10_nextCopy_3 rfl 0 rfl ?_
    refine pg_getI dX10_nextCopy_4 fl_RX10_21 rfl (fun v1 => ?_)
    refine pg_icmp_ge (tgt := 55) dX10_nextCopy_7 rfl ?_ ?_
    · refine pg_iconst dX10_nextCopy_55 ci_m1 ?_
      exact pg_iret dX10_nextCopy_56 rfl rfl
    · refine pg_iload_n (i := 3) dX10_nextCopy_10 rfl 3 rfl ?_
      refine pg_bipush dX10_nextCopy_11 cb_12 ?_
      refine pg_icmp_ge (tgt := 55) dX10_nextCopy_13 rfl ?_ ?_
      · refine pg_iconst dX10_nextCopy_55 ci_m1 ?_
        exact pg_iret dX10_nextCopy_56 rfl rfl
      · refine pg_aload_n (i := 1) dX10_nextCopy_16 rfl 1 rfl ?_
        refine pg_iload_n (i := 3) dX10_nextCopy_17 rfl 3 rfl ?_
        refine pg_callV_oI (As := [pI a3]) (rs := []) dX10_nextCopy_18 lk_RX10_59 vy_X6_exemplarOf nd_X6_exemplarOf (c_X6_exemplarOf l D h a1 a3) rfl rfl (Nat.le_of_ble_eq_true rfl) (by decide) (by decide) (fun v2 => ?_)
        refine pg_istore (lv' := [(4, pI v2), (0, pR a0), (1, pR a1), (2, pI a2), (3, pI a3)]) dX10_nextCopy_21 (by decide) rfl ?_
        refine pg_iload_n (i := 2) dX10_nextCopy_23 rfl 3 rfl ?_
        refine pg_iload_n (i := 3) dX10_nextCopy_24 rfl 4 rfl ?_
        refine pg_ishr dX10_nextCopy_25 ?_
        refine pg_iconst dX10_nextCopy_26 ci_1 ?_
        refine pg_iand dX10_nextCopy_27 ?_
        refine pg_if_ne (tgt := 49) dX10_nextCopy_28 rfl ?_ ?_
        · exact pg_to (e_X10_nextCopy_49 l D h (F_X10_nextCopy_2 h n) ih a0 a1 a2 a3) [1, 2, 3, 4] rfl
        · refine pg_iload dX10_nextCopy_31 0 rfl ?_
          refine pg_iconst dX10_nextCopy_33 ci_m1 ?_
          refine pg_icmp_eq (tgt := 47) dX10_nextCopy_34 rfl ?_ ?_
          · refine pg_iload_n (i := 3) dX10_nextCopy_47 rfl 4 rfl ?_
            exact pg_iret dX10_nextCopy_48 rfl rfl
          · refine pg_iload_n (i := 2) dX10_nextCopy_37 rfl 3 rfl ?_
            refine pg_iload dX10_nextCopy_38 0 rfl ?_
            refine pg_ishr dX10_nextCopy_40 ?_
            refine pg_iconst dX10_nextCopy_41 ci_1 ?_
            refine pg_iand dX10_nextCopy_42 ?_
            refine pg_iconst dX10_nextCopy_43 ci_1 ?_
            refine pg_icmp_ne (tgt := 49) dX10_nextCopy_44 rfl ?_ ?_
            · exact pg_to (e_X10_nextCopy_49 l D h (F_X10_nextCopy_2 h n) ih a0 a1 a2 a3) [1, 2, 3, 4] rfl
            · refine pg_iload_n (i := 3) dX10_nextCopy_47 rfl 4 rfl ?_
              exact pg_iret dX10_nextCopy_48 rfl rfl
theorem e_X10_nextCopy (l : Launch) (D : pg_D)  (h : pg_H) (a0 : Nat) (a1 : Nat) (a2 : Int32) : pg_EvF l D RX10 cX10_nextCopy 5 (some FieldType.int) "nextCopy" 1 21 (pg_oI h) (F_X10_nextCopy h a0 a1 a2) 0 [(0, pR a0), (1, pR a1), (2, pI a2)] [] h := by
  unfold F_X10_nextCopy
  refine pg_iconst dX10_nextCopy_0 ci_0 ?_
  refine pg_istore_n (i := 3) (lv' := [(3, pI (0 : Int32)), (0, pR a0), (1, pR a1), (2, pI a2)]) dX10_nextCopy_1 rfl (by decide) rfl ?_
  exact pg_to (e_X10_nextCopy_2 l D h pg_fuel a0 a1 a2 (0 : Int32)) [1, 2, 3, 0] rfl
theorem c_X10_nextCopy (l : Launch) (D : pg_D) (h : pg_H) (a0 : Nat) (a1 : Nat) (a2 : Int32)  : ∀ x, F_X10_nextCopy h a0 a1 a2 = some x → pg_Ct l D yX10_nextCopy cX10_nextCopy 5 (some FieldType.int) 1 21 [pR a0, pR a1, pI a2] h (pg_oI h x) :=
  pg_Ct.of pn_RX10 (Nat.le_of_ble_eq_true rfl) (e_X10_nextCopy l D h a0 a1 a2)
def F_X10_drawOfHundred (a0 : Nat) (h : pg_H) : Option (Int32 × pg_H) := Option.bind (pg_gL 10 5 h a0) fun v1 => (if (1000003 : Int64) = 0 then none else Option.bind (pg_pL 10 5 h a0 (((v1 * (1103 : Int64)) + (12345 : Int64)) - ((v1 * (1103 : Int64)) + (12345 : Int64)) / (1000003 : Int64) * (1000003 : Int64))) fun v2 => Option.bind (pg_gL 10 5 v2 a0) fun v3 => (if (100 : Int64) = 0 then none else (some (((v3 - v3 / (100 : Int64) * (100 : Int64))).toInt32, v2))))
theorem e_X10_drawOfHundred (l : Launch) (D : pg_D)  (a0 : Nat) (h : pg_H) : pg_EvF l D RX10 cX10_drawOfHundred 1 (some FieldType.int) "drawOfHundred" 0 0 pg_wI (F_X10_drawOfHundred a0 h) 0 [(0, pR a0)] [] h := by
  unfold F_X10_drawOfHundred
  refine pg_aload_n (i := 0) dX10_drawOfHundred_0 rfl 0 rfl ?_
  refine pg_aload_n (i := 0) dX10_drawOfHundred_1 rfl 0 rfl ?_
  refine pg_getL dX10_drawOfHundred_2 fl_RX10_51 rfl (fun v1 => ?_)
  refine pg_ldc2 (v := (1103 : Int64)) dX10_drawOfHundred_5 kc_RX10_93 ?_
  refine pg_lmul dX10_drawOfHundred_8 ?_
  refine pg_ldc2 (v := (12345 : Int64)) dX10_drawOfHundred_9 kc_RX10_95 ?_
  refine pg_ladd dX10_drawOfHundred_12 ?_
  refine pg_ldc2 (v := (1000003 : Int64)) dX10_drawOfHundred_13 kc_RX10_97 ?_
  refine pg_lrem dX10_drawOfHundred_16 ?_
  refine pg_putL dX10_drawOfHundred_17 fl_RX10_51 (fun z => by cases z) (fun v2 => ?_)
  refine pg_aload_n (i := 0) dX10_drawOfHundred_20 rfl 0 rfl ?_
  refine pg_getL dX10_drawOfHundred_21 fl_RX10_51 rfl (fun v3 => ?_)
  refine pg_ldc2 (v := (100 : Int64)) dX10_drawOfHundred_24 kc_RX10_99 ?_
  refine pg_lrem dX10_drawOfHundred_27 ?_
  refine pg_l2i dX10_drawOfHundred_28 ?_
  exact pg_iret dX10_drawOfHundred_29 rfl rfl
theorem c_X10_drawOfHundred (l : Launch) (D : pg_D) (a0 : Nat) (h : pg_H) : ∀ x, F_X10_drawOfHundred a0 h = some x → pg_Ct l D yX10_drawOfHundred cX10_drawOfHundred 1 (some FieldType.int) 0 0 [pR a0] h (pg_wI x) :=
  pg_Ct.of pn_RX10 (Nat.le_of_ble_eq_true rfl) (e_X10_drawOfHundred l D a0 h)
def F_X10_put (a0 : Nat) (a1 : Int32) (a2 : Int32) (h : pg_H) : Option pg_H := Option.bind (pg_rcv 10 h a0 (F_X10_hasCopy h a0 a1)) fun v1 => (if v1 = 0 then (some h) else Option.bind (pg_gR 10 1 h a0) fun v2 => Option.bind (pg_aI 21 h v2 a1) fun v3 => (if v3 < (144 : Int32) then Option.bind (pg_gR 10 0 h a0) fun v4 => Option.bind (pg_gR 10 1 h a0) fun v5 => Option.bind (pg_aI 21 h v5 a1) fun v6 => Option.bind (pg_sI 21 h v4 ((a1 * (144 : Int32)) + v6) a2) fun v7 => Option.bind (pg_gR 10 1 v7 a0) fun v8 => Option.bind (pg_aI 21 v7 v8 a1) fun v9 => Option.bind (pg_sI 21 v7 v8 a1 (v9 + (1 : Int32))) fun v10 => (some v10) else (some h)))
theorem e_X10_put (l : Launch) (D : pg_D)  (a0 : Nat) (a1 : Int32) (a2 : Int32) (h : pg_H) : pg_EvF l D RX10 cX10_put 3 none "put" 1 21 pg_wV (F_X10_put a0 a1 a2 h) 0 [(0, pR a0), (1, pI a1), (2, pI a2)] [] h := by
  unfold F_X10_put
  refine pg_aload_n (i := 0) dX10_put_0 rfl 0 rfl ?_
  refine pg_iload_n (i := 1) dX10_put_1 rfl 1 rfl ?_
  refine pg_callV_oI (As := [pI a1]) (rs := []) dX10_put_2 lk_RX10_25 vy_X10_hasCopy nd_X10_hasCopy (c_X10_hasCopy l D h a0 a1) rfl rfl (Nat.le_of_ble_eq_true rfl) (by decide) (by decide) (fun v1 => ?_)
  refine pg_if_eq (tgt := 48) dX10_put_5 rfl ?_ ?_
  · exact pg_vret dX10_put_48 rfl rfl
  · refine pg_aload_n (i := 0) dX10_put_8 rfl 0 rfl ?_
    refine pg_getR dX10_put_9 fl_RX10_15 rfl (fun v2 => ?_)
    refine pg_iload_n (i := 1) dX10_put_12 rfl 1 rfl ?_
    refine pg_iaload dX10_put_13 (fun v3 => ?_)
    refine pg_sipush dX10_put_14 cs_144 ?_
    refine pg_icmp_ge (tgt := 48) dX10_put_17 rfl ?_ ?_
    · exact pg_vret dX10_put_48 rfl rfl
    · refine pg_aload_n (i := 0) dX10_put_20 rfl 0 rfl ?_
      refine pg_getR dX10_put_21 fl_RX10_11 rfl (fun v4 => ?_)
      refine pg_iload_n (i := 1) dX10_put_24 rfl 1 rfl ?_
      refine pg_sipush dX10_put_25 cs_144 ?_
      refine pg_imul dX10_put_28 ?_
      refine pg_aload_n (i := 0) dX10_put_29 rfl 0 rfl ?_
      refine pg_getR dX10_put_30 fl_RX10_15 rfl (fun v5 => ?_)
      refine pg_iload_n (i := 1) dX10_put_33 rfl 1 rfl ?_
      refine pg_iaload dX10_put_34 (fun v6 => ?_)
      refine pg_iadd dX10_put_35 ?_
      refine pg_iload_n (i := 2) dX10_put_36 rfl 2 rfl ?_
      refine pg_iastore dX10_put_37 (fun v7 => ?_)
      refine pg_aload_n (i := 0) dX10_put_38 rfl 0 rfl ?_
      refine pg_getR dX10_put_39 fl_RX10_15 rfl (fun v8 => ?_)
      refine pg_iload_n (i := 1) dX10_put_42 rfl 1 rfl ?_
      refine pg_dup2 dX10_put_43 rfl rfl ?_
      refine pg_iaload dX10_put_44 (fun v9 => ?_)
      refine pg_iconst dX10_put_45 ci_1 ?_
      refine pg_iadd dX10_put_46 ?_
      refine pg_iastore dX10_put_47 (fun v10 => ?_)
      exact pg_vret dX10_put_48 rfl rfl
theorem c_X10_put (l : Launch) (D : pg_D) (a0 : Nat) (a1 : Int32) (a2 : Int32) (h : pg_H) : ∀ x, F_X10_put a0 a1 a2 h = some x → pg_Ct l D yX10_put cX10_put 3 none 1 21 [pR a0, pI a1, pI a2] h (pg_wV x) :=
  pg_Ct.of pn_RX10 (Nat.le_of_ble_eq_true rfl) (e_X10_put l D a0 a1 a2 h)
def F_X10_takeNotes_62 (k23 : Nat → Int32 → Int32 → Int32 → Int32 → pg_H → Option pg_H) (a0 : Nat) (a3 : Int32) (a4 : Int32) (a5 : Int32) (a6 : Int32) (h : pg_H) : Option pg_H := (k23 a0 a3 a4 a5 (a6 + (1 : Int32)) h)
def F_X10_takeNotes_23  : Nat → Nat → Int32 → Int32 → Int32 → Int32 → pg_H → Option pg_H
  | 0 => fun _ _ _ _ _ _ => none
  | n + 1 => fun a0 a3 a4 a5 a6 h => Option.bind (pg_rcv 10 h a0 (F_X10_notesOf h a0 a4)) fun v1 => (if a6 < v1 then Option.bind (pg_rcv 10 h a0 (F_X10_drawOfHundred a0 h)) fun v2 => (if v2.1 < a5 then Option.bind (pg_gR 10 0 v2.2 a0) fun v3 => Option.bind (pg_aI 21 v2.2 v3 ((a4 * (144 : Int32)) + a6)) fun v4 => Option.bind (pg_rcv 10 v2.2 a0 (F_X10_put a0 a3 v4 v2.2)) fun v5 => (F_X10_takeNotes_62 (F_X10_takeNotes_23 n) a0 a3 a4 a5 a6 v5) else (F_X10_takeNotes_62 (F_X10_takeNotes_23 n) a0 a3 a4 a5 a6 v2.2)) else (some h))
def F_X10_takeNotes (a0 : Nat) (a1 : Nat) (a2 : Nat) (a3 : Int32) (a4 : Int32) (h : pg_H) : Option pg_H := Option.bind (pg_rcv 0 h a2 (F_X0_askOfChapter a2 a1 a3 (0 : Int32) h)) fun v1 => Option.bind (pg_rcv 5 v1 a1 (F_X5_textUsed v1 a1)) fun v2 => Option.bind (pg_rcv 0 v1 a2 (F_X0_told a2 v2 (3 : Int32) (50 : Int32) v1)) fun v3 => (F_X10_takeNotes_23 pg_fuel a0 a3 a4 v3.1 (0 : Int32) v3.2)
theorem e_X10_takeNotes_62 (l : Launch) (D : pg_D)  (k23 : Nat → Int32 → Int32 → Int32 → Int32 → pg_H → Option pg_H) (hk23 : ∀ (a0 : Nat) (a3 : Int32) (a4 : Int32) (a5 : Int32) (a6 : Int32) (h : pg_H), pg_EvF l D RX10 cX10_takeNotes 7 none "takeNotes" 4 113 pg_wV (k23 a0 a3 a4 a5 a6 h) 23 [(0, pR a0), (3, pI a3), (4, pI a4), (5, pI a5), (6, pI a6)] [] h) (a0 : Nat) (a3 : Int32) (a4 : Int32) (a5 : Int32) (a6 : Int32) (h : pg_H) : pg_EvF l D RX10 cX10_takeNotes 7 none "takeNotes" 4 113 pg_wV (F_X10_takeNotes_62 k23 a0 a3 a4 a5 a6 h) 62 [(0, pR a0), (3, pI a3), (4, pI a4), (5, pI a5), (6, pI a6)] [] h := by
  unfold F_X10_takeNotes_62
  refine pg_iinc (lv' := [(6, pI (a6 + (1 : Int32))), (0, pR a0), (3, pI a3), (4, pI a4), (5, pI a5)]) dX10_takeNotes_62 4 rfl ci_1 (by decide) rfl ?_
  refine pg_goto (tgt := 23) dX10_takeNotes_65 rfl ?_
  exact pg_to (hk23 a0 a3 a4 a5 (a6 + (1 : Int32)) h) [1, 2, 3, 4, 0] rfl
theorem e_X10_takeNotes_23 (l : Launch) (D : pg_D)   : ∀ (n : Nat) (a0 : Nat) (a3 : Int32) (a4 : Int32) (a5 : Int32) (a6 : Int32) (h : pg_H), pg_EvF l D RX10 cX10_takeNotes 7 none "takeNotes" 4 113 pg_wV (F_X10_takeNotes_23 n a0 a3 a4 a5 a6 h) 23 [(0, pR a0), (3, pI a3), (4, pI a4), (5, pI a5), (6, pI a6)] [] h := by
  intro n
  induction n with
  | zero => intro a0 a3 a4 a5 a6 h; exact pg_none
  | succ n ih =>
    intro a0 a3 a4 a5 a6 h
    rw [F_X10_takeNotes_23]
    refine pg_iload dX10_takeNotes_23 4 rfl ?_
    refine pg_aload_n (i := 0) dX10_takeNotes_25 rfl 0 rfl ?_
    refine pg_iload dX10_takeNotes_26 2 rfl ?_
    refine pg_callV_oI (As := [pI a4]) (rs := [pI a6]) dX10_takeNotes_28 lk_RX10_29 vy_X10_notesOf nd_X10_notesOf (c_X10_notesOf l D h a0 a4) rfl rfl (Nat.le_of_ble_eq_true rfl) (by decide) (by decide) (fun v1 => ?_)
    refine pg_icmp_ge (tgt := 68) dX10_takeNotes_31 rfl ?_ ?_
    · exact pg_vret dX10_takeNotes_68 rfl rfl
    · refine pg_aload_n (i := 0) dX10_takeNotes_34 rfl 0 rfl ?_
      refine pg_callV_wI (As := []) (rs := []) dX10_takeNotes_35 lk_RX10_86 vy_X10_drawOfHundred nd_X10_drawOfHundred (c_X10_drawOfHundred l D a0 h) rfl rfl (Nat.le_of_ble_eq_true rfl) (by decide) (by decide) (fun v2 => ?_)
      refine pg_iload dX10_takeNotes_38 3 rfl ?_
      refine pg_icmp_ge (tgt := 62) dX10_takeNotes_40 rfl ?_ ?_
      · exact pg_to (e_X10_takeNotes_62 l D (F_X10_takeNotes_23 n) ih a0 a3 a4 a5 a6 v2.2) [0, 1, 2, 3, 4] rfl
      · refine pg_aload_n (i := 0) dX10_takeNotes_43 rfl 0 rfl ?_
        refine pg_iload_n (i := 3) dX10_takeNotes_44 rfl 1 rfl ?_
        refine pg_aload_n (i := 0) dX10_takeNotes_45 rfl 0 rfl ?_
        refine pg_getR dX10_takeNotes_46 fl_RX10_11 rfl (fun v3 => ?_)
        refine pg_iload dX10_takeNotes_49 2 rfl ?_
        refine pg_sipush dX10_takeNotes_51 cs_144 ?_
        refine pg_imul dX10_takeNotes_54 ?_
        refine pg_iload dX10_takeNotes_55 4 rfl ?_
        refine pg_iadd dX10_takeNotes_57 ?_
        refine pg_iaload dX10_takeNotes_58 (fun v4 => ?_)
        refine pg_callV_wV (As := [pI a3, pI v4]) (rs := []) dX10_takeNotes_59 lk_RX10_89 vy_X10_put nd_X10_put (c_X10_put l D a0 a3 v4 v2.2) rfl rfl (Nat.le_of_ble_eq_true rfl) (by decide) (by decide) (fun v5 => ?_)
        exact pg_to (e_X10_takeNotes_62 l D (F_X10_takeNotes_23 n) ih a0 a3 a4 a5 a6 v5) [0, 1, 2, 3, 4] rfl
theorem e_X10_takeNotes (l : Launch) (D : pg_D)  (a0 : Nat) (a1 : Nat) (a2 : Nat) (a3 : Int32) (a4 : Int32) (h : pg_H) : pg_EvF l D RX10 cX10_takeNotes 7 none "takeNotes" 4 113 pg_wV (F_X10_takeNotes a0 a1 a2 a3 a4 h) 0 [(0, pR a0), (1, pR a1), (2, pR a2), (3, pI a3), (4, pI a4)] [] h := by
  unfold F_X10_takeNotes
  refine pg_aload_n (i := 2) dX10_takeNotes_0 rfl 2 rfl ?_
  refine pg_aload_n (i := 1) dX10_takeNotes_1 rfl 1 rfl ?_
  refine pg_iload_n (i := 3) dX10_takeNotes_2 rfl 3 rfl ?_
  refine pg_iconst dX10_takeNotes_3 ci_0 ?_
  refine pg_callV_wV (As := [pR a1, pI a3, pI (0 : Int32)]) (rs := []) dX10_takeNotes_4 lk_RX10_72 vy_X0_askOfChapter nd_X0_askOfChapter (c_X0_askOfChapter l D a2 a1 a3 (0 : Int32) h) rfl rfl (Nat.le_of_ble_eq_true rfl) (by decide) (by decide) (fun v1 => ?_)
  refine pg_aload_n (i := 2) dX10_takeNotes_7 rfl 2 rfl ?_
  refine pg_aload_n (i := 1) dX10_takeNotes_8 rfl 1 rfl ?_
  refine pg_callV_oR (As := []) (rs := [pR a2]) dX10_takeNotes_9 lk_RX10_78 vy_X5_textUsed nd_X5_textUsed (c_X5_textUsed l D v1 a1) rfl rfl (Nat.le_of_ble_eq_true rfl) (by decide) (by decide) (fun v2 => ?_)
  refine pg_iconst dX10_takeNotes_12 ci_3 ?_
  refine pg_bipush dX10_takeNotes_13 cb_50 ?_
  refine pg_callV_wI (As := [pR v2, pI (3 : Int32), pI (50 : Int32)]) (rs := []) dX10_takeNotes_15 lk_RX10_82 vy_X0_told nd_X0_told (c_X0_told l D a2 v2 (3 : Int32) (50 : Int32) v1) rfl rfl (Nat.le_of_ble_eq_true rfl) (by decide) (by decide) (fun v3 => ?_)
  refine pg_istore (lv' := [(5, pI v3.1), (0, pR a0), (1, pR a1), (2, pR a2), (3, pI a3), (4, pI a4)]) dX10_takeNotes_18 (by decide) rfl ?_
  refine pg_iconst dX10_takeNotes_20 ci_0 ?_
  refine pg_istore (lv' := [(6, pI (0 : Int32)), (5, pI v3.1), (0, pR a0), (1, pR a1), (2, pR a2), (3, pI a3), (4, pI a4)]) dX10_takeNotes_21 (by decide) rfl ?_
  exact pg_to (e_X10_takeNotes_23 l D pg_fuel a0 a3 a4 v3.1 (0 : Int32) v3.2) [2, 5, 6, 1, 0] rfl
theorem c_X10_takeNotes (l : Launch) (D : pg_D) (a0 : Nat) (a1 : Nat) (a2 : Nat) (a3 : Int32) (a4 : Int32) (h : pg_H) : ∀ x, F_X10_takeNotes a0 a1 a2 a3 a4 h = some x → pg_Ct l D yX10_takeNotes cX10_takeNotes 7 none 4 113 [pR a0, pR a1, pR a2, pI a3, pI a4] h (pg_wV x) :=
  pg_Ct.of pn_RX10 (Nat.le_of_ble_eq_true rfl) (e_X10_takeNotes l D a0 a1 a2 a3 a4 h)
def F_X10_writeNotes_55 (k3 : Nat → Nat → Nat → Int32 → Int32 → pg_H → Option pg_H) (a0 : Nat) (a1 : Nat) (a2 : Nat) (a3 : Int32) (a4 : Int32) (h : pg_H) : Option pg_H := (k3 a0 a1 a2 a3 (a4 + (1 : Int32)) h)
def F_X10_writeNotes_3  : Nat → Nat → Nat → Nat → Int32 → Int32 → pg_H → Option pg_H
  | 0 => fun _ _ _ _ _ _ => none
  | n + 1 => fun a0 a1 a2 a3 a4 h => (if a4 < (12 : Int32) then Option.bind (pg_rcv 0 h a2 (F_X0_askOfChapter a2 a1 a3 a4 h)) fun v1 => Option.bind (pg_rcv 10 v1 a0 (F_X10_drawOfHundred a0 v1)) fun v2 => Option.bind (pg_rcv 5 v2.2 a1 (F_X5_textUsed v2.2 a1)) fun v3 => Option.bind (pg_rcv 0 v2.2 a2 (F_X0_told a2 v3 (4 : Int32) (50 : Int32) v2.2)) fun v4 => (if v2.1 < v4.1 then Option.bind (pg_gI 10 4 v4.2 a0) fun v5 => Option.bind (pg_pI 10 4 v4.2 a0 (v5 + (1 : Int32))) fun v6 => Option.bind (pg_gI 10 4 v6 a0) fun v7 => Option.bind (pg_rcv 10 v6 a0 (F_X10_put a0 a3 v7 v6)) fun v8 => (F_X10_writeNotes_55 (F_X10_writeNotes_3 n) a0 a1 a2 a3 a4 v8) else (F_X10_writeNotes_55 (F_X10_writeNotes_3 n) a0 a1 a2 a3 a4 v4.2)) else (some h))
def F_X10_writeNotes (a0 : Nat) (a1 : Nat) (a2 : Nat) (a3 : Int32) (h : pg_H) : Option pg_H := (F_X10_writeNotes_3 pg_fuel a0 a1 a2 a3 (0 : Int32) h)
theorem e_X10_writeNotes_55 (l : Launch) (D : pg_D)  (k3 : Nat → Nat → Nat → Int32 → Int32 → pg_H → Option pg_H) (hk3 : ∀ (a0 : Nat) (a1 : Nat) (a2 : Nat) (a3 : Int32) (a4 : Int32) (h : pg_H), pg_EvF l D RX10 cX10_writeNotes 5 none "writeNotes" 4 113 pg_wV (k3 a0 a1 a2 a3 a4 h) 3 [(0, pR a0), (1, pR a1), (2, pR a2), (3, pI a3), (4, pI a4)] [] h) (a0 : Nat) (a1 : Nat) (a2 : Nat) (a3 : Int32) (a4 : Int32) (h : pg_H) : pg_EvF l D RX10 cX10_writeNotes 5 none "writeNotes" 4 113 pg_wV (F_X10_writeNotes_55 k3 a0 a1 a2 a3 a4 h) 55 [(0, pR a0), (1, pR a1), (2, pR a2), (3, pI a3), (4, pI a4)] [] h := by
  unfold F_X10_writeNotes_55
  refine pg_iinc (lv' := [(4, pI (a4 + (1 : Int32))), (0, pR a0), (1, pR a1), (2, pR a2), (3, pI a3)]) dX10_writeNotes_55 4 rfl ci_1 (by decide) rfl ?_
  refine pg_goto (tgt := 3) dX10_writeNotes_58 rfl ?_
  exact pg_to (hk3 a0 a1 a2 a3 (a4 + (1 : Int32)) h) [1, 2, 3, 4, 0] rfl
theorem e_X10_writeNotes_3 (l : Launch) (D : pg_D)   : ∀ (n : Nat) (a0 : Nat) (a1 : Nat) (a2 : Nat) (a3 : Int32) (a4 : Int32) (h : pg_H), pg_EvF l D RX10 cX10_writeNotes 5 none "writeNotes" 4 113 pg_wV (F_X10_writeNotes_3 n a0 a1 a2 a3 a4 h) 3 [(0, pR a0), (1, pR a1), (2, pR a2), (3, pI a3), (4, pI a4)] [] h := by
  intro n
  induction n with
  | zero => intro a0 a1 a2 a3 a4 h; exact pg_none
  | succ n ih =>
    intro a0 a1 a2 a3 a4 h
    rw [F_X10_writeNotes_3]
    refine pg_iload dX10_writeNotes_3 4 rfl ?_
    refine pg_bipush dX10_writeNotes_5 cb_12 ?_
    refine pg_icmp_ge (tgt := 61) dX10_writeNotes_7 rfl ?_ ?_
    · exact pg_vret dX10_writeNotes_61 rfl rfl
    · refine pg_aload_n (i := 2) dX10_writeNotes_10 rfl 2 rfl ?_
      refine pg_aload_n (i := 1) dX10_writeNotes_11 rfl 1 rfl ?_
      refine pg_iload_n (i := 3) dX10_writeNotes_12 rfl 3 rfl ?_
      refine pg_iload dX10_writeNotes_13 4 rfl ?_
      refine pg_callV_wV (As := [pR a1, pI a3, pI a4]) (rs := []) dX10_writeNotes_15 lk_RX10_72 vy_X0_askOfChapter nd_X0_askOfChapter (c_X0_askOfChapter l D a2 a1 a3 a4 h) rfl rfl (Nat.le_of_ble_eq_true rfl) (by decide) (by decide) (fun v1 => ?_)
      refine pg_aload_n (i := 0) dX10_writeNotes_18 rfl 0 rfl ?_
      refine pg_callV_wI (As := []) (rs := []) dX10_writeNotes_19 lk_RX10_86 vy_X10_drawOfHundred nd_X10_drawOfHundred (c_X10_drawOfHundred l D a0 v1) rfl rfl (Nat.le_of_ble_eq_true rfl) (by decide) (by decide) (fun v2 => ?_)
      refine pg_aload_n (i := 2) dX10_writeNotes_22 rfl 2 rfl ?_
      refine pg_aload_n (i := 1) dX10_writeNotes_23 rfl 1 rfl ?_
      refine pg_callV_oR (As := []) (rs := [pR a2, pI v2.1]) dX10_writeNotes_24 lk_RX10_78 vy_X5_textUsed nd_X5_textUsed (c_X5_textUsed l D v2.2 a1) rfl rfl (Nat.le_of_ble_eq_true rfl) (by decide) (by decide) (fun v3 => ?_)
      refine pg_iconst dX10_writeNotes_27 ci_4 ?_
      refine pg_bipush dX10_writeNotes_28 cb_50 ?_
      refine pg_callV_wI (As := [pR v3, pI (4 : Int32), pI (50 : Int32)]) (rs := [pI v2.1]) dX10_writeNotes_30 lk_RX10_82 vy_X0_told nd_X0_told (c_X0_told l D a2 v3 (4 : Int32) (50 : Int32) v2.2) rfl rfl (Nat.le_of_ble_eq_true rfl) (by decide) (by decide) (fun v4 => ?_)
      refine pg_icmp_ge (tgt := 55) dX10_writeNotes_33 rfl ?_ ?_
      · exact pg_to (e_X10_writeNotes_55 l D (F_X10_writeNotes_3 n) ih a0 a1 a2 a3 a4 v4.2) [0, 1, 2, 3, 4] rfl
      · refine pg_aload_n (i := 0) dX10_writeNotes_36 rfl 0 rfl ?_
        refine pg_dup dX10_writeNotes_37 rfl ?_
        refine pg_getI dX10_writeNotes_38 fl_RX10_48 rfl (fun v5 => ?_)
        refine pg_iconst dX10_writeNotes_41 ci_1 ?_
        refine pg_iadd dX10_writeNotes_42 ?_
        refine pg_putI dX10_writeNotes_43 fl_RX10_48 (fun z => by cases z) (fun v6 => ?_)
        refine pg_aload_n (i := 0) dX10_writeNotes_46 rfl 0 rfl ?_
        refine pg_iload_n (i := 3) dX10_writeNotes_47 rfl 3 rfl ?_
        refine pg_aload_n (i := 0) dX10_writeNotes_48 rfl 0 rfl ?_
        refine pg_getI dX10_writeNotes_49 fl_RX10_48 rfl (fun v7 => ?_)
        refine pg_callV_wV (As := [pI a3, pI v7]) (rs := []) dX10_writeNotes_52 lk_RX10_89 vy_X10_put nd_X10_put (c_X10_put l D a0 a3 v7 v6) rfl rfl (Nat.le_of_ble_eq_true rfl) (by decide) (by decide) (fun v8 => ?_)
        exact pg_to (e_X10_writeNotes_55 l D (F_X10_writeNotes_3 n) ih a0 a1 a2 a3 a4 v8) [0, 1, 2, 3, 4] rfl
theorem e_X10_writeNotes (l : Launch) (D : pg_D)  (a0 : Nat) (a1 : Nat) (a2 : Nat) (a3 : Int32) (h : pg_H) : pg_EvF l D RX10 cX10_writeNotes 5 none "writeNotes" 4 113 pg_wV (F_X10_writeNotes a0 a1 a2 a3 h) 0 [(0, pR a0), (1, pR a1), (2, pR a2), (3, pI a3)] [] h := by
  unfold F_X10_writeNotes
  refine pg_iconst dX10_writeNotes_0 ci_0 ?_
  refine pg_istore (lv' := [(4, pI (0 : Int32)), (0, pR a0), (1, pR a1), (2, pR a2), (3, pI a3)]) dX10_writeNotes_1 (by decide) rfl ?_
  exact pg_to (e_X10_writeNotes_3 l D pg_fuel a0 a1 a2 a3 (0 : Int32) h) [1, 2, 3, 4, 0] rfl
theorem c_X10_writeNotes (l : Launch) (D : pg_D) (a0 : Nat) (a1 : Nat) (a2 : Nat) (a3 : Int32) (h : pg_H) : ∀ x, F_X10_writeNotes a0 a1 a2 a3 h = some x → pg_Ct l D yX10_writeNotes cX10_writeNotes 5 none 4 113 [pR a0, pR a1, pR a2, pI a3] h (pg_wV x) :=
  pg_Ct.of pn_RX10 (Nat.le_of_ble_eq_true rfl) (e_X10_writeNotes l D a0 a1 a2 a3 h)
def F_X10_draw_121 (k32 : Nat → Nat → Nat → Nat → Int32 → Int32 → Int32 → pg_H → Option (Int32 × pg_H)) (a0 : Nat) (a1 : Nat) (a2 : Nat) (a3 : Nat) (a5 : Int32) (a6 : Int32) (a7 : Int32) (h : pg_H) : Option (Int32 × pg_H) := (k32 a0 a1 a2 a3 a5 a6 (a7 + (1 : Int32)) h)
def F_X10_draw_32  : Nat → Nat → Nat → Nat → Nat → Int32 → Int32 → Int32 → pg_H → Option (Int32 × pg_H)
  | 0 => fun _ _ _ _ _ _ _ _ => none
  | n + 1 => fun a0 a1 a2 a3 a5 a6 a7 h => Option.bind (pg_gI 10 3 h a0) fun v1 => (if a7 < v1 then Option.bind (pg_rcv 10 h a0 (F_X10_nextCopy h a0 a2 a5)) fun v2 => (if v2 = (-1 : Int32) then (F_X10_draw_121 (F_X10_draw_32 n) a0 a1 a2 a3 a5 a6 a7 h) else Option.bind (pg_gR 10 1 h a0) fun v3 => Option.bind (pg_sI 21 h v3 v2 (0 : Int32)) fun v4 => Option.bind (pg_rcv 6 v4 a2 (F_X6_exemplarOf v4 a2 v2)) fun v5 => Option.bind (pg_rcv 10 v4 a0 (F_X10_takeNotes a0 a1 a3 v2 v5 v4)) fun v6 => Option.bind (pg_gR 10 2 v6 a0) fun v7 => Option.bind (pg_gR 10 1 v6 a0) fun v8 => Option.bind (pg_aI 21 v6 v8 v2) fun v9 => Option.bind (pg_sI 21 v6 v7 v2 v9) fun v10 => Option.bind (pg_rcv 10 v10 a0 (F_X10_writeNotes a0 a1 a3 v2 v10)) fun v11 => pg_let (a5 ||| ((1 : Int32) <<< (v2 &&& 31))) fun v12 => Option.bind (pg_gR 10 1 v11 a0) fun v13 => Option.bind (pg_aI 21 v11 v13 v2) fun v14 => pg_let (a6 + v14) fun v15 => (F_X10_draw_121 (F_X10_draw_32 n) a0 a1 a2 a3 v12 v15 a7 v11)) else (some (a6, h)))
def F_X10_draw (a0 : Nat) (a1 : Nat) (a2 : Nat) (a3 : Nat) (a4 : Int32) (h : pg_H) : Option (Int32 × pg_H) := Option.bind (pg_gR 5 0 h a1) fun v1 => Option.bind (pg_rcv 7 h v1 (F_X7_size h v1)) fun v2 => Option.bind (pg_pI 10 3 h a0 v2) fun v3 => Option.bind (pg_pI 10 4 v3 a0 (0 : Int32)) fun v4 => Option.bind (pg_pL 10 5 v4 a0 (a4).toInt64) fun v5 => (F_X10_draw_32 pg_fuel a0 a1 a2 a3 (0 : Int32) (0 : Int32) (0 : Int32) v5)
theorem e_X10_draw_121 (l : Launch) (D : pg_D)  (k32 : Nat → Nat → Nat → Nat → Int32 → Int32 → Int32 → pg_H → Option (Int32 × pg_H)) (hk32 : ∀ (a0 : Nat) (a1 : Nat) (a2 : Nat) (a3 : Nat) (a5 : Int32) (a6 : Int32) (a7 : Int32) (h : pg_H), pg_EvF l D RX10 cX10_draw 9 (some FieldType.int) "draw" 5 139 pg_wI (k32 a0 a1 a2 a3 a5 a6 a7 h) 32 [(0, pR a0), (1, pR a1), (2, pR a2), (3, pR a3), (5, pI a5), (6, pI a6), (7, pI a7)] [] h) (a0 : Nat) (a1 : Nat) (a2 : Nat) (a3 : Nat) (a5 : Int32) (a6 : Int32) (a7 : Int32) (h : pg_H) : pg_EvF l D RX10 cX10_draw 9 (some FieldType.int) "draw" 5 139 pg_wI (F_X10_draw_121 k32 a0 a1 a2 a3 a5 a6 a7 h) 121 [(0, pR a0), (1, pR a1), (2, pR a2), (3, pR a3), (5, pI a5), (6, pI a6), (7, pI a7)] [] h := by
  unfold F_X10_draw_121
  refine pg_iinc (lv' := [(7, pI (a7 + (1 : Int32))), (0, pR a0), (1, pR a1), (2, pR a2), (3, pR a3), (5, pI a5), (6, pI a6)]) dX10_draw_121 6 rfl ci_1 (by decide) rfl ?_
  refine pg_goto (tgt := 32) dX10_draw_124 rfl ?_
  exact pg_to (hk32 a0 a1 a2 a3 a5 a6 (a7 + (1 : Int32)) h) [1, 2, 3, 4, 5, 6, 0] rfl
theorem e_X10_draw_32 (l : Launch) (D : pg_D)   : ∀ (n : Nat) (a0 : Nat) (a1 : Nat) (a2 : Nat) (a3 : Nat) (a5 : Int32) (a6 : Int32) (a7 : Int32) (h : pg_H), pg_EvF l D RX10 cX10_draw 9 (some FieldType.int) "draw" 5 139 pg_wI (F_X10_draw_32 n a0 a1 a2 a3 a5 a6 a7 h) 32 [(0, pR a0), (1, pR a1), (2, pR a2), (3, pR a3), (5, pI a5), (6, pI a6), (7, pI a7)] [] h := by
  intro n
  induction n with
  | zero => intro a0 a1 a2 a3 a5 a6 a7 h; exact pg_none
  | succ n ih =>
    intro a0 a1 a2 a3 a5 a6 a7 h
    rw [F_X10_draw_32]
    refine pg_iload dX10_draw_32 6 rfl ?_
    refine pg_aload_n (i := 0) dX10_draw_34 rfl 0 rfl ?_
    refine pg_getI dX10_draw_35 fl_RX10_21 rfl (fun v1 => ?_)
    refine pg_icmp_ge (tgt := 127) dX10_draw_38 rfl ?_ ?_
    · refine pg_iload dX10_draw_127 5 rfl ?_
      exact pg_iret dX10_draw_129 rfl rfl
    · refine pg_aload_n (i := 0) dX10_draw_41 rfl 0 rfl ?_
      refine pg_aload_n (i := 2) dX10_draw_42 rfl 2 rfl ?_
      refine pg_iload dX10_draw_43 4 rfl ?_
      refine pg_callV_oI (As := [pR a2, pI a5]) (rs := []) dX10_draw_45 lk_RX10_55 vy_X10_nextCopy nd_X10_nextCopy (c_X10_nextCopy l D h a0 a2 a5) rfl rfl (Nat.le_of_ble_eq_true rfl) (by decide) (by decide) (fun v2 => ?_)
      refine pg_istore (lv' := [(8, pI v2), (0, pR a0), (1, pR a1), (2, pR a2), (3, pR a3), (5, pI a5), (6, pI a6), (7, pI a7)]) dX10_draw_48 (by decide) rfl ?_
      refine pg_iload dX10_draw_50 0 rfl ?_
      refine pg_iconst dX10_draw_52 ci_m1 ?_
      refine pg_icmp_eq (tgt := 121) dX10_draw_53 rfl ?_ ?_
      · exact pg_to (e_X10_draw_121 l D (F_X10_draw_32 n) ih a0 a1 a2 a3 a5 a6 a7 h) [1, 2, 3, 4, 5, 6, 7] rfl
      · refine pg_aload_n (i := 0) dX10_draw_56 rfl 1 rfl ?_
        refine pg_getR dX10_draw_57 fl_RX10_15 rfl (fun v3 => ?_)
        refine pg_iload dX10_draw_60 0 rfl ?_
        refine pg_iconst dX10_draw_62 ci_0 ?_
        refine pg_iastore dX10_draw_63 (fun v4 => ?_)
        refine pg_aload_n (i := 0) dX10_draw_64 rfl 1 rfl ?_
        refine pg_aload_n (i := 1) dX10_draw_65 rfl 2 rfl ?_
        refine pg_aload_n (i := 3) dX10_draw_66 rfl 4 rfl ?_
        refine pg_iload dX10_draw_67 0 rfl ?_
        refine pg_aload_n (i := 2) dX10_draw_69 rfl 3 rfl ?_
        refine pg_iload dX10_draw_70 0 rfl ?_
        refine pg_callV_oI (As := [pI v2]) (rs := [pI v2, pR a3, pR a1, pR a0]) dX10_draw_72 lk_RX10_59 vy_X6_exemplarOf nd_X6_exemplarOf (c_X6_exemplarOf l D v4 a2 v2) rfl rfl (Nat.le_of_ble_eq_true rfl) (by decide) (by decide) (fun v5 => ?_)
        refine pg_callV_wV (As := [pR a1, pR a3, pI v2, pI v5]) (rs := []) dX10_draw_75 lk_RX10_64 vy_X10_takeNotes nd_X10_takeNotes (c_X10_takeNotes l D a0 a1 a3 v2 v5 v4) rfl rfl (Nat.le_of_ble_eq_true rfl) (by decide) (by decide) (fun v6 => ?_)
        refine pg_aload_n (i := 0) dX10_draw_78 rfl 1 rfl ?_
        refine pg_getR dX10_draw_79 fl_RX10_18 rfl (fun v7 => ?_)
        refine pg_iload dX10_draw_82 0 rfl ?_
        refine pg_aload_n (i := 0) dX10_draw_84 rfl 1 rfl ?_
        refine pg_getR dX10_draw_85 fl_RX10_15 rfl (fun v8 => ?_)
        refine pg_iload dX10_draw_88 0 rfl ?_
        refine pg_iaload dX10_draw_90 (fun v9 => ?_)
        refine pg_iastore dX10_draw_91 (fun v10 => ?_)
        refine pg_aload_n (i := 0) dX10_draw_92 rfl 1 rfl ?_
        refine pg_aload_n (i := 1) dX10_draw_93 rfl 2 rfl ?_
        refine pg_aload_n (i := 3) dX10_draw_94 rfl 4 rfl ?_
        refine pg_iload dX10_draw_95 0 rfl ?_
        refine pg_callV_wV (As := [pR a1, pR a3, pI v2]) (rs := []) dX10_draw_97 lk_RX10_68 vy_X10_writeNotes nd_X10_writeNotes (c_X10_writeNotes l D a0 a1 a3 v2 v10) rfl rfl (Nat.le_of_ble_eq_true rfl) (by decide) (by decide) (fun v11 => ?_)
        refine pg_iload dX10_draw_100 5 rfl ?_
        refine pg_iconst dX10_draw_102 ci_1 ?_
        refine pg_iload dX10_draw_103 0 rfl ?_
        refine pg_ishl dX10_draw_105 ?_
        refine pg_ior dX10_draw_106 ?_
        refine pg_letI (fun v12 => ?_)
        refine pg_istore (lv' := [(5, pI v12), (8, pI v2), (0, pR a0), (1, pR a1), (2, pR a2), (3, pR a3), (6, pI a6), (7, pI a7)]) dX10_draw_107 (by decide) rfl ?_
        refine pg_iload dX10_draw_109 6 rfl ?_
        refine pg_aload_n (i := 0) dX10_draw_111 rfl 2 rfl ?_
        refine pg_getR dX10_draw_112 fl_RX10_15 rfl (fun v13 => ?_)
        refine pg_iload dX10_draw_115 1 rfl ?_
        refine pg_iaload dX10_draw_117 (fun v14 => ?_)
        refine pg_iadd dX10_draw_118 ?_
        refine pg_letI (fun v15 => ?_)
        refine pg_istore (lv' := [(6, pI v15), (5, pI v12), (8, pI v2), (0, pR a0), (1, pR a1), (2, pR a2), (3, pR a3), (7, pI a7)]) dX10_draw_119 (by decide) rfl ?_
        exact pg_to (e_X10_draw_121 l D (F_X10_draw_32 n) ih a0 a1 a2 a3 v12 v15 a7 v11) [3, 4, 5, 6, 1, 0, 7] rfl
theorem e_X10_draw (l : Launch) (D : pg_D)  (a0 : Nat) (a1 : Nat) (a2 : Nat) (a3 : Nat) (a4 : Int32) (h : pg_H) : pg_EvF l D RX10 cX10_draw 9 (some FieldType.int) "draw" 5 139 pg_wI (F_X10_draw a0 a1 a2 a3 a4 h) 0 [(0, pR a0), (1, pR a1), (2, pR a2), (3, pR a3), (4, pI a4)] [] h := by
  unfold F_X10_draw
  refine pg_aload_n (i := 0) dX10_draw_0 rfl 0 rfl ?_
  refine pg_aload_n (i := 1) dX10_draw_1 rfl 1 rfl ?_
  refine pg_getR dX10_draw_2 fl_RX10_37 rfl (fun v1 => ?_)
  refine pg_callV_oI (As := []) (rs := [pR a0]) dX10_draw_5 lk_RX10_42 vy_X7_size nd_X7_size (c_X7_size l D h v1) rfl rfl (Nat.le_of_ble_eq_true rfl) (by decide) (by decide) (fun v2 => ?_)
  refine pg_putI dX10_draw_8 fl_RX10_21 (fun z => by cases z) (fun v3 => ?_)
  refine pg_aload_n (i := 0) dX10_draw_11 rfl 0 rfl ?_
  refine pg_iconst dX10_draw_12 ci_0 ?_
  refine pg_putI dX10_draw_13 fl_RX10_48 (fun z => by cases z) (fun v4 => ?_)
  refine pg_aload_n (i := 0) dX10_draw_16 rfl 0 rfl ?_
  refine pg_iload dX10_draw_17 4 rfl ?_
  refine pg_i2l dX10_draw_19 ?_
  refine pg_putL dX10_draw_20 fl_RX10_51 (fun z => by cases z) (fun v5 => ?_)
  refine pg_iconst dX10_draw_23 ci_0 ?_
  refine pg_istore (lv' := [(5, pI (0 : Int32)), (0, pR a0), (1, pR a1), (2, pR a2), (3, pR a3), (4, pI a4)]) dX10_draw_24 (by decide) rfl ?_
  refine pg_iconst dX10_draw_26 ci_0 ?_
  refine pg_istore (lv' := [(6, pI (0 : Int32)), (5, pI (0 : Int32)), (0, pR a0), (1, pR a1), (2, pR a2), (3, pR a3), (4, pI a4)]) dX10_draw_27 (by decide) rfl ?_
  refine pg_iconst dX10_draw_29 ci_0 ?_
  refine pg_istore (lv' := [(7, pI (0 : Int32)), (6, pI (0 : Int32)), (5, pI (0 : Int32)), (0, pR a0), (1, pR a1), (2, pR a2), (3, pR a3), (4, pI a4)]) dX10_draw_30 (by decide) rfl ?_
  exact pg_to (e_X10_draw_32 l D pg_fuel a0 a1 a2 a3 (0 : Int32) (0 : Int32) (0 : Int32) v5) [3, 4, 5, 6, 2, 1, 0] rfl
theorem c_X10_draw (l : Launch) (D : pg_D) (a0 : Nat) (a1 : Nat) (a2 : Nat) (a3 : Nat) (a4 : Int32) (h : pg_H) : ∀ x, F_X10_draw a0 a1 a2 a3 a4 h = some x → pg_Ct l D yX10_draw cX10_draw 9 (some FieldType.int) 5 139 [pR a0, pR a1, pR a2, pR a3, pI a4] h (pg_wI x) :=
  pg_Ct.of pn_RX10 (Nat.le_of_ble_eq_true rfl) (e_X10_draw l D a0 a1 a2 a3 a4 h)
def F_X11_init (a0 : Nat) (h : pg_H) : Option pg_H := (if a0 = 0 then none else Option.bind (pg_new 5 9 h) fun v1 => Option.bind (pg_rcv 5 v1.2 v1.1 (F_X5_init v1.1 v1.2)) fun v2 => Option.bind (pg_pR 11 0 v2 a0 v1.1) fun v3 => Option.bind (pg_newA 24 v3 (2 : Int32)) fun v4 => Option.bind (pg_new 5 9 v4.2) fun v5 => Option.bind (pg_rcv 5 v5.2 v5.1 (F_X5_init v5.1 v5.2)) fun v6 => Option.bind (pg_sR 24 5 v6 v4.1 (0 : Int32) v5.1) fun v7 => Option.bind (pg_new 5 9 v7) fun v8 => Option.bind (pg_rcv 5 v8.2 v8.1 (F_X5_init v8.1 v8.2)) fun v9 => Option.bind (pg_sR 24 5 v9 v4.1 (1 : Int32) v8.1) fun v10 => Option.bind (pg_pR 11 1 v10 a0 v4.1) fun v11 => Option.bind (pg_newA 23 v11 (2 : Int32)) fun v12 => Option.bind (pg_pR 11 2 v12.2 a0 v12.1) fun v13 => Option.bind (pg_new 8 2 v13) fun v14 => Option.bind (pg_rcv 8 v14.2 v14.1 (F_X8_init v14.1 v14.2)) fun v15 => Option.bind (pg_pR 11 3 v15 a0 v14.1) fun v16 => Option.bind (pg_new 3 9 v16) fun v17 => Option.bind (pg_gR 11 3 v17.2 a0) fun v18 => Option.bind (pg_rcv 3 v17.2 v17.1 (F_X3_init v17.1 v18 v17.2)) fun v19 => Option.bind (pg_pR 11 4 v19 a0 v17.1) fun v20 => Option.bind (pg_new 0 3 v20) fun v21 => Option.bind (pg_rcv 0 v21.2 v21.1 (F_X0_init v21.1 v21.2)) fun v22 => Option.bind (pg_pR 11 5 v22 a0 v21.1) fun v23 => Option.bind (pg_new 4 9 v23) fun v24 => Option.bind (pg_rcv 4 v24.2 v24.1 (F_X4_init v24.1 v24.2)) fun v25 => Option.bind (pg_pR 11 6 v25 a0 v24.1) fun v26 => Option.bind (pg_new 6 9 v26) fun v27 => Option.bind (pg_rcv 6 v27.2 v27.1 (F_X6_init v27.1 v27.2)) fun v28 => Option.bind (pg_pR 11 7 v28 a0 v27.1) fun v29 => Option.bind (pg_new 2 5 v29) fun v30 => Option.bind (pg_rcv 2 v30.2 v30.1 (F_X2_init v30.1 v30.2)) fun v31 => Option.bind (pg_pR 11 8 v31 a0 v30.1) fun v32 => Option.bind (pg_new 10 6 v32) fun v33 => Option.bind (pg_rcv 10 v33.2 v33.1 (F_X10_init v33.1 v33.2)) fun v34 => Option.bind (pg_pR 11 9 v34 a0 v33.1) fun v35 => Option.bind (pg_newA 21 v35 (7 : Int32)) fun v36 => Option.bind (pg_pR 11 10 v36.2 a0 v36.1) fun v37 => Option.bind (pg_pI 11 13 v37 a0 (-1 : Int32)) fun v38 => (some v38))
theorem e_X11_init (l : Launch) (D : pg_D)  (a0 : Nat) (h : pg_H) : pg_EvF l D RX11 cX11_init 1 none "<init>" 4 89 pg_wV (F_X11_init a0 h) 0 [(0, pR a0)] [] h := by
  unfold F_X11_init
  refine pg_aload_n (i := 0) dX11_init_0 rfl 0 rfl ?_
  refine pg_objInit dX11_init_1 pw1_28 pw_obj1 pw_obj2 (Nat.le_of_ble_eq_true rfl) (by decide) (by decide) ?_
  refine pg_aload_n (i := 0) dX11_init_4 rfl 0 rfl ?_
  refine pg_newO (q := (RX5, TX5, 9)) dX11_init_5 (by decide) rfl rfl pw1_31 pw1_32 pw1_2 (fun v1 => ?_)
  refine pg_dup dX11_init_8 rfl ?_
  refine pg_callI_wV (As := []) (rs := [pR v1.1, pR a0]) dX11_init_9 lk_RX11_9 vy_X5_init nd_X5_init (c_X5_init l D v1.1 v1.2) rfl rfl (Nat.le_of_ble_eq_true rfl) (by decide) (by decide) (fun v2 => ?_)
  refine pg_putR dX11_init_12 fl_RX11_10 rfl (fun _ => ⟨rfl, fp_RX11_10⟩) (fun v3 => ?_)
  refine pg_aload_n (i := 0) dX11_init_15 rfl 0 rfl ?_
  refine pg_iconst dX11_init_16 ci_2 ?_
  refine pg_newR24 dX11_init_17 pw1_31 (fun v4 => ?_)
  refine pg_dup dX11_init_20 rfl ?_
  refine pg_iconst dX11_init_21 ci_0 ?_
  refine pg_newO (q := (RX5, TX5, 9)) dX11_init_22 (by decide) rfl rfl pw1_31 pw1_32 pw1_2 (fun v5 => ?_)
  refine pg_dup dX11_init_25 rfl ?_
  refine pg_callI_wV (As := []) (rs := [pR v5.1, pI (0 : Int32), pR v4.1, pR v4.1, pR a0]) dX11_init_26 lk_RX11_9 vy_X5_init nd_X5_init (c_X5_init l D v5.1 v5.2) rfl rfl (Nat.le_of_ble_eq_true rfl) (by decide) (by decide) (fun v6 => ?_)
  refine pg_aastore24 dX11_init_29 (fun v7 => ?_)
  refine pg_dup dX11_init_30 rfl ?_
  refine pg_iconst dX11_init_31 ci_1 ?_
  refine pg_newO (q := (RX5, TX5, 9)) dX11_init_32 (by decide) rfl rfl pw1_31 pw1_32 pw1_2 (fun v8 => ?_)
  refine pg_dup dX11_init_35 rfl ?_
  refine pg_callI_wV (As := []) (rs := [pR v8.1, pI (1 : Int32), pR v4.1, pR v4.1, pR a0]) dX11_init_36 lk_RX11_9 vy_X5_init nd_X5_init (c_X5_init l D v8.1 v8.2) rfl rfl (Nat.le_of_ble_eq_true rfl) (by decide) (by decide) (fun v9 => ?_)
  refine pg_aastore24 dX11_init_39 (fun v10 => ?_)
  refine pg_putR dX11_init_40 fl_RX11_16 rfl (fun _ => ⟨rfl, fp_RX11_16⟩) (fun v11 => ?_)
  refine pg_aload_n (i := 0) dX11_init_43 rfl 0 rfl ?_
  refine pg_iconst dX11_init_44 ci_2 ?_
  refine pg_newZ dX11_init_45 pw_arr_boolean (fun v12 => ?_)
  refine pg_putR dX11_init_47 fl_RX11_20 rfl (fun _ => ⟨rfl, fp_RX11_20⟩) (fun v13 => ?_)
  refine pg_aload_n (i := 0) dX11_init_50 rfl 0 rfl ?_
  refine pg_newO (q := (RX8, TX8, 2)) dX11_init_51 (by decide) rfl rfl pw1_120 pw1_121 pw1_5 (fun v14 => ?_)
  refine pg_dup dX11_init_54 rfl ?_
  refine pg_callI_wV (As := []) (rs := [pR v14.1, pR a0]) dX11_init_55 lk_RX11_26 vy_X8_init nd_X8_init (c_X8_init l D v14.1 v14.2) rfl rfl (Nat.le_of_ble_eq_true rfl) (by decide) (by decide) (fun v15 => ?_)
  refine pg_putR dX11_init_58 fl_RX11_27 rfl (fun _ => ⟨rfl, fp_RX11_27⟩) (fun v16 => ?_)
  refine pg_aload_n (i := 0) dX11_init_61 rfl 0 rfl ?_
  refine pg_newO (q := (RX3, TX3, 9)) dX11_init_62 (by decide) rfl rfl pw1_135 pw1_136 pw1_6 (fun v17 => ?_)
  refine pg_dup dX11_init_65 rfl ?_
  refine pg_aload_n (i := 0) dX11_init_66 rfl 0 rfl ?_
  refine pg_getR dX11_init_67 fl_RX11_27 rfl (fun v18 => ?_)
  refine pg_callI_wV (As := [pR v18]) (rs := [pR v17.1, pR a0]) dX11_init_70 lk_RX11_33 vy_X3_init nd_X3_init (c_X3_init l D v17.1 v18 v17.2) rfl rfl (Nat.le_of_ble_eq_true rfl) (by decide) (by decide) (fun v19 => ?_)
  refine pg_putR dX11_init_73 fl_RX11_36 rfl (fun _ => ⟨rfl, fp_RX11_36⟩) (fun v20 => ?_)
  refine pg_aload_n (i := 0) dX11_init_76 rfl 0 rfl ?_
  refine pg_newO (q := (RX0, TX0, 3)) dX11_init_77 (by decide) rfl rfl pw1_169 pw1_170 pw1_7 (fun v21 => ?_)
  refine pg_dup dX11_init_80 rfl ?_
  refine pg_callI_wV (As := []) (rs := [pR v21.1, pR a0]) dX11_init_81 lk_RX11_42 vy_X0_init nd_X0_init (c_X0_init l D v21.1 v21.2) rfl rfl (Nat.le_of_ble_eq_true rfl) (by decide) (by decide) (fun v22 => ?_)
  refine pg_putR dX11_init_84 fl_RX11_43 rfl (fun _ => ⟨rfl, fp_RX11_43⟩) (fun v23 => ?_)
  refine pg_aload_n (i := 0) dX11_init_87 rfl 0 rfl ?_
  refine pg_newO (q := (RX4, TX4, 9)) dX11_init_88 (by decide) rfl rfl pw1_186 pw1_187 pw1_8 (fun v24 => ?_)
  refine pg_dup dX11_init_91 rfl ?_
  refine pg_callI_wV (As := []) (rs := [pR v24.1, pR a0]) dX11_init_92 lk_RX11_49 vy_X4_init nd_X4_init (c_X4_init l D v24.1 v24.2) rfl rfl (Nat.le_of_ble_eq_true rfl) (by decide) (by decide) (fun v25 => ?_)
  refine pg_putR dX11_init_95 fl_RX11_50 rfl (fun _ => ⟨rfl, fp_RX11_50⟩) (fun v26 => ?_)
  refine pg_aload_n (i := 0) dX11_init_98 rfl 0 rfl ?_
  refine pg_newO (q := (RX6, TX6, 9)) dX11_init_99 (by decide) rfl rfl pw1_220 pw1_221 pw1_9 (fun v27 => ?_)
  refine pg_dup dX11_init_102 rfl ?_
  refine pg_callI_wV (As := []) (rs := [pR v27.1, pR a0]) dX11_init_103 lk_RX11_56 vy_X6_init nd_X6_init (c_X6_init l D v27.1 v27.2) rfl rfl (Nat.le_of_ble_eq_true rfl) (by decide) (by decide) (fun v28 => ?_)
  refine pg_putR dX11_init_106 fl_RX11_57 rfl (fun _ => ⟨rfl, fp_RX11_57⟩) (fun v29 => ?_)
  refine pg_aload_n (i := 0) dX11_init_109 rfl 0 rfl ?_
  refine pg_newO (q := (RX2, TX2, 5)) dX11_init_110 (by decide) rfl rfl pw2_14 pw2_15 pw1_10 (fun v30 => ?_)
  refine pg_dup dX11_init_113 rfl ?_
  refine pg_callI_wV (As := []) (rs := [pR v30.1, pR a0]) dX11_init_114 lk_RX11_63 vy_X2_init nd_X2_init (c_X2_init l D v30.1 v30.2) rfl rfl (Nat.le_of_ble_eq_true rfl) (by decide) (by decide) (fun v31 => ?_)
  refine pg_putR dX11_init_117 fl_RX11_64 rfl (fun _ => ⟨rfl, fp_RX11_64⟩) (fun v32 => ?_)
  refine pg_aload_n (i := 0) dX11_init_120 rfl 0 rfl ?_
  refine pg_newO (q := (RX10, TX10, 6)) dX11_init_121 (by decide) rfl rfl pw2_49 pw2_50 pw1_12 (fun v33 => ?_)
  refine pg_dup dX11_init_124 rfl ?_
  refine pg_callI_wV (As := []) (rs := [pR v33.1, pR a0]) dX11_init_125 lk_RX11_70 vy_X10_init nd_X10_init (c_X10_init l D v33.1 v33.2) rfl rfl (Nat.le_of_ble_eq_true rfl) (by decide) (by decide) (fun v34 => ?_)
  refine pg_putR dX11_init_128 fl_RX11_71 rfl (fun _ => ⟨rfl, fp_RX11_71⟩) (fun v35 => ?_)
  refine pg_aload_n (i := 0) dX11_init_131 rfl 0 rfl ?_
  refine pg_bipush dX11_init_132 cb_7 ?_
  refine pg_newI dX11_init_134 pw_arr_int (fun v36 => ?_)
  refine pg_putR dX11_init_136 fl_RX11_75 rfl (fun _ => ⟨rfl, fp_RX11_75⟩) (fun v37 => ?_)
  refine pg_aload_n (i := 0) dX11_init_139 rfl 0 rfl ?_
  refine pg_iconst dX11_init_140 ci_m1 ?_
  refine pg_putI dX11_init_141 fl_RX11_79 (fun z => by cases z) (fun v38 => ?_)
  exact pg_vret dX11_init_144 rfl rfl
theorem c_X11_init (l : Launch) (D : pg_D) (a0 : Nat) (h : pg_H) : ∀ x, F_X11_init a0 h = some x → pg_Ct l D yX11_init cX11_init 1 none 4 89 [pR a0] h (pg_wV x) :=
  pg_Ct.of pn_RX11 (Nat.le_of_ble_eq_true rfl) (e_X11_init l D a0 h)
def F_X11_within (a0 : Int32) (a1 : Int32) (a2 : Int32) : Option Int32 := (if a0 < a1 then (some (0 : Int32)) else (if a2 < a0 then (some (0 : Int32)) else (some (1 : Int32))))
theorem e_X11_within (l : Launch) (D : pg_D)  (a0 : Int32) (a1 : Int32) (a2 : Int32) (h : pg_H) : pg_EvF l D RX11 cX11_within 3 (some FieldType.boolean) "within" 0 0 (pg_oI h) (F_X11_within a0 a1 a2) 0 [(0, pI a0), (1, pI a1), (2, pI a2)] [] h := by
  unfold F_X11_within
  refine pg_iload_n (i := 0) dX11_within_0 rfl 0 rfl ?_
  refine pg_iload_n (i := 1) dX11_within_1 rfl 1 rfl ?_
  refine pg_icmp_lt (tgt := 14) dX11_within_2 rfl ?_ ?_
  · refine pg_iconst dX11_within_14 ci_0 ?_
    exact pg_zret dX11_within_15 rfl (Or.inl rfl) rfl
  · refine pg_iload_n (i := 0) dX11_within_5 rfl 0 rfl ?_
    refine pg_iload_n (i := 2) dX11_within_6 rfl 2 rfl ?_
    refine pg_icmp_gt (tgt := 14) dX11_within_7 rfl ?_ ?_
    · refine pg_iconst dX11_within_14 ci_0 ?_
      exact pg_zret dX11_within_15 rfl (Or.inl rfl) rfl
    · refine pg_iconst dX11_within_10 ci_1 ?_
      refine pg_goto (tgt := 15) dX11_within_11 rfl ?_
      exact pg_zret dX11_within_15 rfl (Or.inr rfl) rfl
theorem c_X11_within (l : Launch) (D : pg_D) (a0 : Int32) (a1 : Int32) (a2 : Int32) (h : pg_H) : ∀ x, F_X11_within a0 a1 a2 = some x → pg_Ct l D yX11_within cX11_within 3 (some FieldType.boolean) 0 0 [pI a0, pI a1, pI a2] h (pg_oI h x) :=
  pg_Ct.of pn_RX11 (Nat.le_of_ble_eq_true rfl) (e_X11_within l D a0 a1 a2 h)
def F_X11_refuse (a0 : Nat) (a1 : Int32) (h : pg_H) : Option (Int32 × pg_H) := Option.bind (pg_pI 11 11 h a0 a1) fun v1 => Option.bind (F_X11_within (-a1) (0 : Int32) (6 : Int32)) fun v2 => (if v2 = 0 then (some (a1, v1)) else Option.bind (pg_gR 11 10 v1 a0) fun v3 => pg_let (-a1) fun v4 => Option.bind (pg_aI 21 v1 v3 v4) fun v5 => Option.bind (pg_sI 21 v1 v3 v4 (v5 + (1 : Int32))) fun v6 => (some (a1, v6)))
theorem e_X11_refuse (l : Launch) (D : pg_D)  (a0 : Nat) (a1 : Int32) (h : pg_H) : pg_EvF l D RX11 cX11_refuse 2 (some FieldType.int) "refuse" 1 22 pg_wI (F_X11_refuse a0 a1 h) 0 [(0, pR a0), (1, pI a1)] [] h := by
  unfold F_X11_refuse
  refine pg_aload_n (i := 0) dX11_refuse_0 rfl 0 rfl ?_
  refine pg_iload_n (i := 1) dX11_refuse_1 rfl 1 rfl ?_
  refine pg_putI dX11_refuse_2 fl_RX11_359 (fun z => by cases z) (fun v1 => ?_)
  refine pg_iload_n (i := 1) dX11_refuse_5 rfl 1 rfl ?_
  refine pg_ineg dX11_refuse_6 ?_
  refine pg_iconst dX11_refuse_7 ci_0 ?_
  refine pg_bipush dX11_refuse_8 cb_6 ?_
  refine pg_callS_oI (As := [pI (-a1), pI (0 : Int32), pI (6 : Int32)]) (rs := []) dX11_refuse_10 lk_RX11_83 vy_X11_within nd_X11_within (c_X11_within l D (-a1) (0 : Int32) (6 : Int32) v1) rfl rfl (Nat.le_of_ble_eq_true rfl) (by decide) (by decide) (fun v2 => ?_)
  refine pg_if_eq (tgt := 27) dX11_refuse_13 rfl ?_ ?_
  · refine pg_iload_n (i := 1) dX11_refuse_27 rfl 1 rfl ?_
    exact pg_iret dX11_refuse_28 rfl rfl
  · refine pg_aload_n (i := 0) dX11_refuse_16 rfl 0 rfl ?_
    refine pg_getR dX11_refuse_17 fl_RX11_75 rfl (fun v3 => ?_)
    refine pg_iload_n (i := 1) dX11_refuse_20 rfl 1 rfl ?_
    refine pg_ineg dX11_refuse_21 ?_
    refine pg_letI (fun v4 => ?_)
    refine pg_dup2 dX11_refuse_22 rfl rfl ?_
    refine pg_iaload dX11_refuse_23 (fun v5 => ?_)
    refine pg_iconst dX11_refuse_24 ci_1 ?_
    refine pg_iadd dX11_refuse_25 ?_
    refine pg_iastore dX11_refuse_26 (fun v6 => ?_)
    refine pg_iload_n (i := 1) dX11_refuse_27 rfl 1 rfl ?_
    exact pg_iret dX11_refuse_28 rfl rfl
theorem c_X11_refuse (l : Launch) (D : pg_D) (a0 : Nat) (a1 : Int32) (h : pg_H) : ∀ x, F_X11_refuse a0 a1 h = some x → pg_Ct l D yX11_refuse cX11_refuse 2 (some FieldType.int) 1 22 [pR a0, pI a1] h (pg_wI x) :=
  pg_Ct.of pn_RX11 (Nat.le_of_ble_eq_true rfl) (e_X11_refuse l D a0 a1 h)
def F_X11_accept (a0 : Nat) (a1 : Int32) (h : pg_H) : Option (Int32 × pg_H) := Option.bind (pg_pI 11 11 h a0 (0 : Int32)) fun v1 => (some (a1, v1))
theorem e_X11_accept (l : Launch) (D : pg_D)  (a0 : Nat) (a1 : Int32) (h : pg_H) : pg_EvF l D RX11 cX11_accept 2 (some FieldType.int) "accept" 0 0 pg_wI (F_X11_accept a0 a1 h) 0 [(0, pR a0), (1, pI a1)] [] h := by
  unfold F_X11_accept
  refine pg_aload_n (i := 0) dX11_accept_0 rfl 0 rfl ?_
  refine pg_iconst dX11_accept_1 ci_0 ?_
  refine pg_putI dX11_accept_2 fl_RX11_359 (fun z => by cases z) (fun v1 => ?_)
  refine pg_iload_n (i := 1) dX11_accept_5 rfl 1 rfl ?_
  exact pg_iret dX11_accept_6 rfl rfl
theorem c_X11_accept (l : Launch) (D : pg_D) (a0 : Nat) (a1 : Int32) (h : pg_H) : ∀ x, F_X11_accept a0 a1 h = some x → pg_Ct l D yX11_accept cX11_accept 2 (some FieldType.int) 0 0 [pR a0, pI a1] h (pg_wI x) :=
  pg_Ct.of pn_RX11 (Nat.le_of_ble_eq_true rfl) (e_X11_accept l D a0 a1 h)
def F_X11_changed (a0 : Nat) (a1 : Int32) (h : pg_H) : Option (Int32 × pg_H) := Option.bind (pg_pZ 11 14 h a0 (0 : Int32)) fun v1 => Option.bind (pg_pZ 11 15 v1 a0 (0 : Int32)) fun v2 => Option.bind (pg_rcv 11 v2 a0 (F_X11_accept a0 a1 v2)) fun v3 => (some (v3.1, v3.2))
theorem e_X11_changed (l : Launch) (D : pg_D)  (a0 : Nat) (a1 : Int32) (h : pg_H) : pg_EvF l D RX11 cX11_changed 2 (some FieldType.int) "changed" 1 21 pg_wI (F_X11_changed a0 a1 h) 0 [(0, pR a0), (1, pI a1)] [] h := by
  unfold F_X11_changed
  refine pg_aload_n (i := 0) dX11_changed_0 rfl 0 rfl ?_
  refine pg_iconst dX11_changed_1 ci_0 ?_
  refine pg_putZ dX11_changed_2 fl_RX11_362 (fun z => by cases z) (fun v1 => ?_)
  refine pg_aload_n (i := 0) dX11_changed_5 rfl 0 rfl ?_
  refine pg_iconst dX11_changed_6 ci_0 ?_
  refine pg_putZ dX11_changed_7 fl_RX11_366 (fun z => by cases z) (fun v2 => ?_)
  refine pg_aload_n (i := 0) dX11_changed_10 rfl 0 rfl ?_
  refine pg_iload_n (i := 1) dX11_changed_11 rfl 1 rfl ?_
  refine pg_callV_wI (As := [pI a1]) (rs := []) dX11_changed_12 lk_RX11_112 vy_X11_accept nd_X11_accept (c_X11_accept l D a0 a1 v2) rfl rfl (Nat.le_of_ble_eq_true rfl) (by decide) (by decide) (fun v3 => ?_)
  exact pg_iret dX11_changed_15 rfl rfl
theorem c_X11_changed (l : Launch) (D : pg_D) (a0 : Nat) (a1 : Int32) (h : pg_H) : ∀ x, F_X11_changed a0 a1 h = some x → pg_Ct l D yX11_changed cX11_changed 2 (some FieldType.int) 1 21 [pR a0, pI a1] h (pg_wI x) :=
  pg_Ct.of pn_RX11 (Nat.le_of_ble_eq_true rfl) (e_X11_changed l D a0 a1 h)
def F_X11_copy_20 (a0 : Nat) (h : pg_H) : Option (Int32 × pg_H) := Option.bind (pg_rcv 11 h a0 (F_X11_refuse a0 (-1 : Int32) h)) fun v1 => (some (v1.1, v1.2))
def F_X11_copy (a0 : Nat) (a1 : Int32) (a2 : Int32) (h : pg_H) : Option (Int32 × pg_H) := Option.bind (F_X11_within a1 (0 : Int32) (7 : Int32)) fun v1 => (if v1 = 0 then (F_X11_copy_20 a0 h) else Option.bind (F_X11_within a2 (0 : Int32) (63 : Int32)) fun v2 => (if v2 = 0 then (F_X11_copy_20 a0 h) else Option.bind (pg_gR 11 0 h a0) fun v3 => Option.bind (pg_gR 5 0 h v3) fun v4 => Option.bind (pg_rcv 7 h v4 (F_X7_open v4 h)) fun v5 => (if v5.1 = (-1 : Int32) then Option.bind (pg_rcv 11 v5.2 a0 (F_X11_refuse a0 (-5 : Int32) v5.2)) fun v13 => (some (v13.1, v13.2)) else Option.bind (pg_gR 11 0 v5.2 a0) fun v6 => Option.bind (pg_gR 5 0 v5.2 v6) fun v7 => Option.bind (pg_rcv 7 v5.2 v7 (F_X7_put v7 v5.1 (0 : Int32) a1 v5.2)) fun v8 => Option.bind (pg_gR 11 0 v8.2 a0) fun v9 => Option.bind (pg_gR 5 0 v8.2 v9) fun v10 => Option.bind (pg_rcv 7 v8.2 v10 (F_X7_put v10 v5.1 (1 : Int32) a2 v8.2)) fun v11 => Option.bind (pg_rcv 11 v11.2 a0 (F_X11_changed a0 v5.1 v11.2)) fun v12 => (some (v12.1, v12.2)))))
theorem e_X11_copy_20 (l : Launch) (D : pg_D)  (a0 : Nat) (h : pg_H) : pg_EvF l D RX11 cX11_copy 4 (some FieldType.int) "copy" 3 68 pg_wI (F_X11_copy_20 a0 h) 20 [(0, pR a0)] [] h := by
  unfold F_X11_copy_20
  refine pg_aload_n (i := 0) dX11_copy_20 rfl 0 rfl ?_
  refine pg_iconst dX11_copy_21 ci_m1 ?_
  refine pg_callV_wI (As := [pI (-1 : Int32)]) (rs := []) dX11_copy_22 lk_RX11_87 vy_X11_refuse nd_X11_refuse (c_X11_refuse l D a0 (-1 : Int32) h) rfl rfl (Nat.le_of_ble_eq_true rfl) (by decide) (by decide) (fun v1 => ?_)
  exact pg_iret dX11_copy_25 rfl rfl
theorem e_X11_copy (l : Launch) (D : pg_D)  (a0 : Nat) (a1 : Int32) (a2 : Int32) (h : pg_H) : pg_EvF l D RX11 cX11_copy 4 (some FieldType.int) "copy" 3 68 pg_wI (F_X11_copy a0 a1 a2 h) 0 [(0, pR a0), (1, pI a1), (2, pI a2)] [] h := by
  unfold F_X11_copy
  refine pg_iload_n (i := 1) dX11_copy_0 rfl 1 rfl ?_
  refine pg_iconst dX11_copy_1 ci_0 ?_
  refine pg_bipush dX11_copy_2 cb_7 ?_
  refine pg_callS_oI (As := [pI a1, pI (0 : Int32), pI (7 : Int32)]) (rs := []) dX11_copy_4 lk_RX11_83 vy_X11_within nd_X11_within (c_X11_within l D a1 (0 : Int32) (7 : Int32) h) rfl rfl (Nat.le_of_ble_eq_true rfl) (by decide) (by decide) (fun v1 => ?_)
  refine pg_if_eq (tgt := 20) dX11_copy_7 rfl ?_ ?_
  · exact pg_to (e_X11_copy_20 l D a0 h) [0] rfl
  · refine pg_iload_n (i := 2) dX11_copy_10 rfl 2 rfl ?_
    refine pg_iconst dX11_copy_11 ci_0 ?_
    refine pg_bipush dX11_copy_12 cb_63 ?_
    refine pg_callS_oI (As := [pI a2, pI (0 : Int32), pI (63 : Int32)]) (rs := []) dX11_copy_14 lk_RX11_83 vy_X11_within nd_X11_within (c_X11_within l D a2 (0 : Int32) (63 : Int32) h) rfl rfl (Nat.le_of_ble_eq_true rfl) (by decide) (by decide) (fun v2 => ?_)
    refine pg_if_ne (tgt := 26) dX11_copy_17 rfl ?_ ?_
    · refine pg_aload_n (i := 0) dX11_copy_26 rfl 0 rfl ?_
      refine pg_getR dX11_copy_27 fl_RX11_10 rfl (fun v3 => ?_)
      refine pg_getR dX11_copy_30 fl_RX11_91 rfl (fun v4 => ?_)
      refine pg_callV_wI (As := []) (rs := []) dX11_copy_33 lk_RX11_95 vy_X7_open nd_X7_open (c_X7_open l D v4 h) rfl rfl (Nat.le_of_ble_eq_true rfl) (by decide) (by decide) (fun v5 => ?_)
      refine pg_istore_n (i := 3) (lv' := [(3, pI v5.1), (0, pR a0), (1, pI a1), (2, pI a2)]) dX11_copy_36 rfl (by decide) rfl ?_
      refine pg_iload_n (i := 3) dX11_copy_37 rfl 0 rfl ?_
      refine pg_iconst dX11_copy_38 ci_m1 ?_
      refine pg_icmp_ne (tgt := 49) dX11_copy_39 rfl ?_ ?_
      · refine pg_aload_n (i := 0) dX11_copy_49 rfl 1 rfl ?_
        refine pg_getR dX11_copy_50 fl_RX11_10 rfl (fun v6 => ?_)
        refine pg_getR dX11_copy_53 fl_RX11_91 rfl (fun v7 => ?_)
        refine pg_iload_n (i := 3) dX11_copy_56 rfl 0 rfl ?_
        refine pg_iconst dX11_copy_57 ci_0 ?_
        refine pg_iload_n (i := 1) dX11_copy_58 rfl 2 rfl ?_
        refine pg_callV_wI (As := [pI v5.1, pI (0 : Int32), pI a1]) (rs := []) dX11_copy_59 lk_RX11_101 vy_X7_put nd_X7_put (c_X7_put l D v7 v5.1 (0 : Int32) a1 v5.2) rfl rfl (Nat.le_of_ble_eq_true rfl) (by decide) (by decide) (fun v8 => ?_)
        refine pg_pop dX11_copy_62 rfl ?_
        refine pg_aload_n (i := 0) dX11_copy_63 rfl 1 rfl ?_
        refine pg_getR dX11_copy_64 fl_RX11_10 rfl (fun v9 => ?_)
        refine pg_getR dX11_copy_67 fl_RX11_91 rfl (fun v10 => ?_)
        refine pg_iload_n (i := 3) dX11_copy_70 rfl 0 rfl ?_
        refine pg_iconst dX11_copy_71 ci_1 ?_
        refine pg_iload_n (i := 2) dX11_copy_72 rfl 3 rfl ?_
        refine pg_callV_wI (As := [pI v5.1, pI (1 : Int32), pI a2]) (rs := []) dX11_copy_73 lk_RX11_101 vy_X7_put nd_X7_put (c_X7_put l D v10 v5.1 (1 : Int32) a2 v8.2) rfl rfl (Nat.le_of_ble_eq_true rfl) (by decide) (by decide) (fun v11 => ?_)
        refine pg_pop dX11_copy_76 rfl ?_
        refine pg_aload_n (i := 0) dX11_copy_77 rfl 1 rfl ?_
        refine pg_iload_n (i := 3) dX11_copy_78 rfl 0 rfl ?_
        refine pg_callV_wI (As := [pI v5.1]) (rs := []) dX11_copy_79 lk_RX11_105 vy_X11_changed nd_X11_changed (c_X11_changed l D a0 v5.1 v11.2) rfl rfl (Nat.le_of_ble_eq_true rfl) (by decide) (by decide) (fun v12 => ?_)
        exact pg_iret dX11_copy_82 rfl rfl
      · refine pg_aload_n (i := 0) dX11_copy_42 rfl 1 rfl ?_
        refine pg_bipush dX11_copy_43 cb_m5 ?_
        refine pg_callV_wI (As := [pI (-5 : Int32)]) (rs := []) dX11_copy_45 lk_RX11_87 vy_X11_refuse nd_X11_refuse (c_X11_refuse l D a0 (-5 : Int32) v5.2) rfl rfl (Nat.le_of_ble_eq_true rfl) (by decide) (by decide) (fun v13 => ?_)
        exact pg_iret dX11_copy_48 rfl rfl
    · exact pg_to (e_X11_copy_20 l D a0 h) [0] rfl
theorem c_X11_copy (l : Launch) (D : pg_D) (a0 : Nat) (a1 : Int32) (a2 : Int32) (h : pg_H) : ∀ x, F_X11_copy a0 a1 a2 h = some x → pg_Ct l D yX11_copy cX11_copy 4 (some FieldType.int) 3 68 [pR a0, pI a1, pI a2] h (pg_wI x) :=
  pg_Ct.of pn_RX11 (Nat.le_of_ble_eq_true rfl) (e_X11_copy l D a0 a1 a2 h)
def F_X11_look (a0 : Nat) (a1 : Int32) (a2 : Int32) (h : pg_H) : Option (Int32 × pg_H) := Option.bind (F_X11_within a2 (0 : Int32) (1 : Int32)) fun v1 => (if v1 = 0 then Option.bind (pg_rcv 11 h a0 (F_X11_refuse a0 (-1 : Int32) h)) fun v10 => (some (v10.1, v10.2)) else Option.bind (pg_gR 11 0 h a0) fun v2 => Option.bind (pg_gR 5 0 h v2) fun v3 => Option.bind (pg_rcv 7 h v3 (F_X7_holds h v3 a1)) fun v4 => (if v4 = 0 then Option.bind (pg_rcv 11 h a0 (F_X11_refuse a0 (-2 : Int32) h)) fun v9 => (some (v9.1, v9.2)) else Option.bind (pg_gR 11 0 h a0) fun v5 => Option.bind (pg_gR 5 0 h v5) fun v6 => Option.bind (pg_rcv 7 h v6 (F_X7_put v6 a1 (2 : Int32) a2 h)) fun v7 => Option.bind (pg_rcv 11 v7.2 a0 (F_X11_accept a0 v7.1 v7.2)) fun v8 => (some (v8.1, v8.2))))
theorem e_X11_look (l : Launch) (D : pg_D)  (a0 : Nat) (a1 : Int32) (a2 : Int32) (h : pg_H) : pg_EvF l D RX11 cX11_look 3 (some FieldType.int) "look" 2 46 pg_wI (F_X11_look a0 a1 a2 h) 0 [(0, pR a0), (1, pI a1), (2, pI a2)] [] h := by
  unfold F_X11_look
  refine pg_iload_n (i := 2) dX11_look_0 rfl 2 rfl ?_
  refine pg_iconst dX11_look_1 ci_0 ?_
  refine pg_iconst dX11_look_2 ci_1 ?_
  refine pg_callS_oI (As := [pI a2, pI (0 : Int32), pI (1 : Int32)]) (rs := []) dX11_look_3 lk_RX11_83 vy_X11_within nd_X11_within (c_X11_within l D a2 (0 : Int32) (1 : Int32) h) rfl rfl (Nat.le_of_ble_eq_true rfl) (by decide) (by decide) (fun v1 => ?_)
  refine pg_if_ne (tgt := 15) dX11_look_6 rfl ?_ ?_
  · refine pg_aload_n (i := 0) dX11_look_15 rfl 0 rfl ?_
    refine pg_getR dX11_look_16 fl_RX11_10 rfl (fun v2 => ?_)
    refine pg_getR dX11_look_19 fl_RX11_91 rfl (fun v3 => ?_)
    refine pg_iload_n (i := 1) dX11_look_22 rfl 1 rfl ?_
    refine pg_callV_oI (As := [pI a1]) (rs := []) dX11_look_23 lk_RX11_108 vy_X7_holds nd_X7_holds (c_X7_holds l D h v3 a1) rfl rfl (Nat.le_of_ble_eq_true rfl) (by decide) (by decide) (fun v4 => ?_)
    refine pg_if_ne (tgt := 36) dX11_look_26 rfl ?_ ?_
    · refine pg_aload_n (i := 0) dX11_look_36 rfl 0 rfl ?_
      refine pg_aload_n (i := 0) dX11_look_37 rfl 0 rfl ?_
      refine pg_getR dX11_look_38 fl_RX11_10 rfl (fun v5 => ?_)
      refine pg_getR dX11_look_41 fl_RX11_91 rfl (fun v6 => ?_)
      refine pg_iload_n (i := 1) dX11_look_44 rfl 1 rfl ?_
      refine pg_iconst dX11_look_45 ci_2 ?_
      refine pg_iload_n (i := 2) dX11_look_46 rfl 2 rfl ?_
      refine pg_callV_wI (As := [pI a1, pI (2 : Int32), pI a2]) (rs := [pR a0]) dX11_look_47 lk_RX11_101 vy_X7_put nd_X7_put (c_X7_put l D v6 a1 (2 : Int32) a2 h) rfl rfl (Nat.le_of_ble_eq_true rfl) (by decide) (by decide) (fun v7 => ?_)
      refine pg_callV_wI (As := [pI v7.1]) (rs := []) dX11_look_50 lk_RX11_112 vy_X11_accept nd_X11_accept (c_X11_accept l D a0 v7.1 v7.2) rfl rfl (Nat.le_of_ble_eq_true rfl) (by decide) (by decide) (fun v8 => ?_)
      exact pg_iret dX11_look_53 rfl rfl
    · refine pg_aload_n (i := 0) dX11_look_29 rfl 0 rfl ?_
      refine pg_bipush dX11_look_30 cb_m2 ?_
      refine pg_callV_wI (As := [pI (-2 : Int32)]) (rs := []) dX11_look_32 lk_RX11_87 vy_X11_refuse nd_X11_refuse (c_X11_refuse l D a0 (-2 : Int32) h) rfl rfl (Nat.le_of_ble_eq_true rfl) (by decide) (by decide) (fun v9 => ?_)
      exact pg_iret dX11_look_35 rfl rfl
  · refine pg_aload_n (i := 0) dX11_look_9 rfl 0 rfl ?_
    refine pg_iconst dX11_look_10 ci_m1 ?_
    refine pg_callV_wI (As := [pI (-1 : Int32)]) (rs := []) dX11_look_11 lk_RX11_87 vy_X11_refuse nd_X11_refuse (c_X11_refuse l D a0 (-1 : Int32) h) rfl rfl (Nat.le_of_ble_eq_true rfl) (by decide) (by decide) (fun v10 => ?_)
    exact pg_iret dX11_look_14 rfl rfl
theorem c_X11_look (l : Launch) (D : pg_D) (a0 : Nat) (a1 : Int32) (a2 : Int32) (h : pg_H) : ∀ x, F_X11_look a0 a1 a2 h = some x → pg_Ct l D yX11_look cX11_look 3 (some FieldType.int) 2 46 [pR a0, pI a1, pI a2] h (pg_wI x) :=
  pg_Ct.of pn_RX11 (Nat.le_of_ble_eq_true rfl) (e_X11_look l D a0 a1 a2 h)
def F_X11_areYears (a0 : Int32) (a1 : Int32) : Option Int32 := Option.bind (F_X11_within a0 (0 : Int32) (400 : Int32)) fun v1 => (if v1 = 0 then (some (0 : Int32)) else Option.bind (F_X11_within a1 a0 (400 : Int32)) fun v2 => (if v2 = 0 then (some (0 : Int32)) else (some (1 : Int32))))
theorem e_X11_areYears (l : Launch) (D : pg_D)  (a0 : Int32) (a1 : Int32) (h : pg_H) : pg_EvF l D RX11 cX11_areYears 2 (some FieldType.boolean) "areYears" 1 22 (pg_oI h) (F_X11_areYears a0 a1) 0 [(0, pI a0), (1, pI a1)] [] h := by
  unfold F_X11_areYears
  refine pg_iload_n (i := 0) dX11_areYears_0 rfl 0 rfl ?_
  refine pg_iconst dX11_areYears_1 ci_0 ?_
  refine pg_sipush dX11_areYears_2 cs_400 ?_
  refine pg_callS_oI (As := [pI a0, pI (0 : Int32), pI (400 : Int32)]) (rs := []) dX11_areYears_5 lk_RX11_83 vy_X11_within nd_X11_within (c_X11_within l D a0 (0 : Int32) (400 : Int32) h) rfl rfl (Nat.le_of_ble_eq_true rfl) (by decide) (by decide) (fun v1 => ?_)
  refine pg_if_eq (tgt := 26) dX11_areYears_8 rfl ?_ ?_
  · refine pg_iconst dX11_areYears_26 ci_0 ?_
    exact pg_zret dX11_areYears_27 rfl (Or.inl rfl) rfl
  · refine pg_iload_n (i := 1) dX11_areYears_11 rfl 1 rfl ?_
    refine pg_iload_n (i := 0) dX11_areYears_12 rfl 0 rfl ?_
    refine pg_sipush dX11_areYears_13 cs_400 ?_
    refine pg_callS_oI (As := [pI a1, pI a0, pI (400 : Int32)]) (rs := []) dX11_areYears_16 lk_RX11_83 vy_X11_within nd_X11_within (c_X11_within l D a1 a0 (400 : Int32) h) rfl rfl (Nat.le_of_ble_eq_true rfl) (by decide) (by decide) (fun v2 => ?_)
    refine pg_if_eq (tgt := 26) dX11_areYears_19 rfl ?_ ?_
    · refine pg_iconst dX11_areYears_26 ci_0 ?_
      exact pg_zret dX11_areYears_27 rfl (Or.inl rfl) rfl
    · refine pg_iconst dX11_areYears_22 ci_1 ?_
      refine pg_goto (tgt := 27) dX11_areYears_23 rfl ?_
      exact pg_zret dX11_areYears_27 rfl (Or.inr rfl) rfl
theorem c_X11_areYears (l : Launch) (D : pg_D) (a0 : Int32) (a1 : Int32) (h : pg_H) : ∀ x, F_X11_areYears a0 a1 = some x → pg_Ct l D yX11_areYears cX11_areYears 2 (some FieldType.boolean) 1 22 [pI a0, pI a1] h (pg_oI h x) :=
  pg_Ct.of pn_RX11 (Nat.le_of_ble_eq_true rfl) (e_X11_areYears l D a0 a1 h)
def F_X11_stay_19 (a0 : Nat) (h : pg_H) : Option (Int32 × pg_H) := Option.bind (pg_rcv 11 h a0 (F_X11_refuse a0 (-1 : Int32) h)) fun v1 => (some (v1.1, v1.2))
def F_X11_stay (a0 : Nat) (a1 : Int32) (a2 : Int32) (a3 : Int32) (a4 : Int32) (h : pg_H) : Option (Int32 × pg_H) := Option.bind (F_X11_within a2 (0 : Int32) (31 : Int32)) fun v1 => (if v1 = 0 then (F_X11_stay_19 a0 h) else Option.bind (F_X11_areYears a3 a4) fun v2 => (if v2 = 0 then (F_X11_stay_19 a0 h) else Option.bind (pg_gR 11 0 h a0) fun v3 => Option.bind (pg_gR 5 0 h v3) fun v4 => Option.bind (pg_rcv 7 h v4 (F_X7_holds h v4 a1)) fun v5 => (if v5 = 0 then Option.bind (pg_rcv 11 h a0 (F_X11_refuse a0 (-2 : Int32) h)) fun v26 => (some (v26.1, v26.2)) else Option.bind (pg_gR 11 0 h a0) fun v6 => Option.bind (pg_gR 5 1 h v6) fun v7 => Option.bind (pg_rcv 7 h v7 (F_X7_open v7 h)) fun v8 => (if v8.1 = (-1 : Int32) then Option.bind (pg_rcv 11 v8.2 a0 (F_X11_refuse a0 (-5 : Int32) v8.2)) fun v25 => (some (v25.1, v25.2)) else Option.bind (pg_gR 11 0 v8.2 a0) fun v9 => Option.bind (pg_gR 5 1 v8.2 v9) fun v10 => Option.bind (pg_rcv 7 v8.2 v10 (F_X7_put v10 v8.1 (0 : Int32) a1 v8.2)) fun v11 => Option.bind (pg_gR 11 0 v11.2 a0) fun v12 => Option.bind (pg_gR 5 1 v11.2 v12) fun v13 => Option.bind (pg_rcv 7 v11.2 v13 (F_X7_put v13 v8.1 (1 : Int32) a2 v11.2)) fun v14 => Option.bind (pg_gR 11 0 v14.2 a0) fun v15 => Option.bind (pg_gR 5 1 v14.2 v15) fun v16 => Option.bind (pg_rcv 7 v14.2 v16 (F_X7_put v16 v8.1 (2 : Int32) a3 v14.2)) fun v17 => Option.bind (pg_gR 11 0 v17.2 a0) fun v18 => Option.bind (pg_gR 5 1 v17.2 v18) fun v19 => Option.bind (pg_rcv 7 v17.2 v19 (F_X7_put v19 v8.1 (3 : Int32) a4 v17.2)) fun v20 => Option.bind (pg_gR 11 0 v20.2 a0) fun v21 => Option.bind (pg_gR 5 1 v20.2 v21) fun v22 => Option.bind (pg_rcv 7 v20.2 v22 (F_X7_size v20.2 v22)) fun v23 => Option.bind (pg_rcv 11 v20.2 a0 (F_X11_changed a0 v23 v20.2)) fun v24 => (some (v24.1, v24.2))))))
theorem e_X11_stay_19 (l : Launch) (D : pg_D)  (a0 : Nat) (h : pg_H) : pg_EvF l D RX11 cX11_stay 6 (some FieldType.int) "stay" 3 68 pg_wI (F_X11_stay_19 a0 h) 19 [(0, pR a0)] [] h := by
  unfold F_X11_stay_19
  refine pg_aload_n (i := 0) dX11_stay_19 rfl 0 rfl ?_
  refine pg_iconst dX11_stay_20 ci_m1 ?_
  refine pg_callV_wI (As := [pI (-1 : Int32)]) (rs := []) dX11_stay_21 lk_RX11_87 vy_X11_refuse nd_X11_refuse (c_X11_refuse l D a0 (-1 : Int32) h) rfl rfl (Nat.le_of_ble_eq_true rfl) (by decide) (by decide) (fun v1 => ?_)
  exact pg_iret dX11_stay_24 rfl rfl
theorem e_X11_stay (l : Launch) (D : pg_D)  (a0 : Nat) (a1 : Int32) (a2 : Int32) (a3 : Int32) (a4 : Int32) (h : pg_H) : pg_EvF l D RX11 cX11_stay 6 (some FieldType.int) "stay" 3 68 pg_wI (F_X11_stay a0 a1 a2 a3 a4 h) 0 [(0, pR a0), (1, pI a1), (2, pI a2), (3, pI a3), (4, pI a4)] [] h := by
  unfold F_X11_stay
  refine pg_iload_n (i := 2) dX11_stay_0 rfl 2 rfl ?_
  refine pg_iconst dX11_stay_1 ci_0 ?_
  refine pg_bipush dX11_stay_2 cb_31 ?_
  refine pg_callS_oI (As := [pI a2, pI (0 : Int32), pI (31 : Int32)]) (rs := []) dX11_stay_4 lk_RX11_83 vy_X11_within nd_X11_within (c_X11_within l D a2 (0 : Int32) (31 : Int32) h) rfl rfl (Nat.le_of_ble_eq_true rfl) (by decide) (by decide) (fun v1 => ?_)
  refine pg_if_eq (tgt := 19) dX11_stay_7 rfl ?_ ?_
  · exact pg_to (e_X11_stay_19 l D a0 h) [0] rfl
  · refine pg_iload_n (i := 3) dX11_stay_10 rfl 3 rfl ?_
    refine pg_iload dX11_stay_11 4 rfl ?_
    refine pg_callS_oI (As := [pI a3, pI a4]) (rs := []) dX11_stay_13 lk_RX11_115 vy_X11_areYears nd_X11_areYears (c_X11_areYears l D a3 a4 h) rfl rfl (Nat.le_of_ble_eq_true rfl) (by decide) (by decide) (fun v2 => ?_)
    refine pg_if_ne (tgt := 25) dX11_stay_16 rfl ?_ ?_
    · refine pg_aload_n (i := 0) dX11_stay_25 rfl 0 rfl ?_
      refine pg_getR dX11_stay_26 fl_RX11_10 rfl (fun v3 => ?_)
      refine pg_getR dX11_stay_29 fl_RX11_91 rfl (fun v4 => ?_)
      refine pg_iload_n (i := 1) dX11_stay_32 rfl 1 rfl ?_
      refine pg_callV_oI (As := [pI a1]) (rs := []) dX11_stay_33 lk_RX11_108 vy_X7_holds nd_X7_holds (c_X7_holds l D h v4 a1) rfl rfl (Nat.le_of_ble_eq_true rfl) (by decide) (by decide) (fun v5 => ?_)
      refine pg_if_ne (tgt := 46) dX11_stay_36 rfl ?_ ?_
      · refine pg_aload_n (i := 0) dX11_stay_46 rfl 0 rfl ?_
        refine pg_getR dX11_stay_47 fl_RX11_10 rfl (fun v6 => ?_)
        refine pg_getR dX11_stay_50 fl_RX11_119 rfl (fun v7 => ?_)
        refine pg_callV_wI (As := []) (rs := []) dX11_stay_53 lk_RX11_95 vy_X7_open nd_X7_open (c_X7_open l D v7 h) rfl rfl (Nat.le_of_ble_eq_true rfl) (by decide) (by decide) (fun v8 => ?_)
        refine pg_istore (lv' := [(5, pI v8.1), (0, pR a0), (1, pI a1), (2, pI a2), (3, pI a3), (4, pI a4)]) dX11_stay_56 (by decide) rfl ?_
        refine pg_iload dX11_stay_58 0 rfl ?_
        refine pg_iconst dX11_stay_60 ci_m1 ?_
        refine pg_icmp_ne (tgt := 71) dX11_stay_61 rfl ?_ ?_
        · refine pg_aload_n (i := 0) dX11_stay_71 rfl 1 rfl ?_
          refine pg_getR dX11_stay_72 fl_RX11_10 rfl (fun v9 => ?_)
          refine pg_getR dX11_stay_75 fl_RX11_119 rfl (fun v10 => ?_)
          refine pg_iload dX11_stay_78 0 rfl ?_
          refine pg_iconst dX11_stay_80 ci_0 ?_
          refine pg_iload_n (i := 1) dX11_stay_81 rfl 2 rfl ?_
          refine pg_callV_wI (As := [pI v8.1, pI (0 : Int32), pI a1]) (rs := []) dX11_stay_82 lk_RX11_101 vy_X7_put nd_X7_put (c_X7_put l D v10 v8.1 (0 : Int32) a1 v8.2) rfl rfl (Nat.le_of_ble_eq_true rfl) (by decide) (by decide) (fun v11 => ?_)
          refine pg_pop dX11_stay_85 rfl ?_
          refine pg_aload_n (i := 0) dX11_stay_86 rfl 1 rfl ?_
          refine pg_getR dX11_stay_87 fl_RX11_10 rfl (fun v12 => ?_)
          refine pg_getR dX11_stay_90 fl_RX11_119 rfl (fun v13 => ?_)
          refine pg_iload dX11_stay_93 0 rfl ?_
          refine pg_iconst dX11_stay_95 ci_1 ?_
          refine pg_iload_n (i := 2) dX11_stay_96 rfl 3 rfl ?_
          refine pg_callV_wI (As := [pI v8.1, pI (1 : Int32), pI a2]) (rs := []) dX11_stay_97 lk_RX11_101 vy_X7_put nd_X7_put (c_X7_put l D v13 v8.1 (1 : Int32) a2 v11.2) rfl rfl (Nat.le_of_ble_eq_true rfl) (by decide) (by decide) (fun v14 => ?_)
          refine pg_pop dX11_stay_100 rfl ?_
          refine pg_aload_n (i := 0) dX11_stay_101 rfl 1 rfl ?_
          refine pg_getR dX11_stay_102 fl_RX11_10 rfl (fun v15 => ?_)
          refine pg_getR dX11_stay_105 fl_RX11_119 rfl (fun v16 => ?_)
          refine pg_iload dX11_stay_108 0 rfl ?_
          refine pg_iconst dX11_stay_110 ci_2 ?_
          refine pg_iload_n (i := 3) dX11_stay_111 rfl 4 rfl ?_
          refine pg_callV_wI (As := [pI v8.1, pI (2 : Int32), pI a3]) (rs := []) dX11_stay_112 lk_RX11_101 vy_X7_put nd_X7_put (c_X7_put l D v16 v8.1 (2 : Int32) a3 v14.2) rfl rfl (Nat.le_of_ble_eq_true rfl) (by decide) (by decide) (fun v17 => ?_)
          refine pg_pop dX11_stay_115 rfl ?_
          refine pg_aload_n (i := 0) dX11_stay_116 rfl 1 rfl ?_
          refine pg_getR dX11_stay_117 fl_RX11_10 rfl (fun v18 => ?_)
          refine pg_getR dX11_stay_120 fl_RX11_119 rfl (fun v19 => ?_)
          refine pg_iload dX11_stay_123 0 rfl ?_
          refine pg_iconst dX11_stay_125 ci_3 ?_
          refine pg_iload dX11_stay_126 5 rfl ?_
          refine pg_callV_wI (As := [pI v8.1, pI (3 : Int32), pI a4]) (rs := []) dX11_stay_128 lk_RX11_101 vy_X7_put nd_X7_put (c_X7_put l D v19 v8.1 (3 : Int32) a4 v17.2) rfl rfl (Nat.le_of_ble_eq_true rfl) (by decide) (by decide) (fun v20 => ?_)
          refine pg_pop dX11_stay_131 rfl ?_
          refine pg_aload_n (i := 0) dX11_stay_132 rfl 1 rfl ?_
          refine pg_aload_n (i := 0) dX11_stay_133 rfl 1 rfl ?_
          refine pg_getR dX11_stay_134 fl_RX11_10 rfl (fun v21 => ?_)
          refine pg_getR dX11_stay_137 fl_RX11_119 rfl (fun v22 => ?_)
          refine pg_callV_oI (As := []) (rs := [pR a0]) dX11_stay_140 lk_RX11_122 vy_X7_size nd_X7_size (c_X7_size l D v20.2 v22) rfl rfl (Nat.le_of_ble_eq_true rfl) (by decide) (by decide) (fun v23 => ?_)
          refine pg_callV_wI (As := [pI v23]) (rs := []) dX11_stay_143 lk_RX11_105 vy_X11_changed nd_X11_changed (c_X11_changed l D a0 v23 v20.2) rfl rfl (Nat.le_of_ble_eq_true rfl) (by decide) (by decide) (fun v24 => ?_)
          exact pg_iret dX11_stay_146 rfl rfl
        · refine pg_aload_n (i := 0) dX11_stay_64 rfl 1 rfl ?_
          refine pg_bipush dX11_stay_65 cb_m5 ?_
          refine pg_callV_wI (As := [pI (-5 : Int32)]) (rs := []) dX11_stay_67 lk_RX11_87 vy_X11_refuse nd_X11_refuse (c_X11_refuse l D a0 (-5 : Int32) v8.2) rfl rfl (Nat.le_of_ble_eq_true rfl) (by decide) (by decide) (fun v25 => ?_)
          exact pg_iret dX11_stay_70 rfl rfl
      · refine pg_aload_n (i := 0) dX11_stay_39 rfl 0 rfl ?_
        refine pg_bipush dX11_stay_40 cb_m2 ?_
        refine pg_callV_wI (As := [pI (-2 : Int32)]) (rs := []) dX11_stay_42 lk_RX11_87 vy_X11_refuse nd_X11_refuse (c_X11_refuse l D a0 (-2 : Int32) h) rfl rfl (Nat.le_of_ble_eq_true rfl) (by decide) (by decide) (fun v26 => ?_)
        exact pg_iret dX11_stay_45 rfl rfl
    · exact pg_to (e_X11_stay_19 l D a0 h) [0] rfl
theorem c_X11_stay (l : Launch) (D : pg_D) (a0 : Nat) (a1 : Int32) (a2 : Int32) (a3 : Int32) (a4 : Int32) (h : pg_H) : ∀ x, F_X11_stay a0 a1 a2 a3 a4 h = some x → pg_Ct l D yX11_stay cX11_stay 6 (some FieldType.int) 3 68 [pR a0, pI a1, pI a2, pI a3, pI a4] h (pg_wI x) :=
  pg_Ct.of pn_RX11 (Nat.le_of_ble_eq_true rfl) (e_X11_stay l D a0 a1 a2 a3 a4 h)
def F_X11_hand (a0 : Nat) (a1 : Int32) (a2 : Int32) (h : pg_H) : Option (Int32 × pg_H) := Option.bind (F_X11_areYears a1 a2) fun v1 => (if v1 = 0 then Option.bind (pg_rcv 11 h a0 (F_X11_refuse a0 (-1 : Int32) h)) fun v13 => (some (v13.1, v13.2)) else Option.bind (pg_gR 11 0 h a0) fun v2 => Option.bind (pg_gR 5 2 h v2) fun v3 => Option.bind (pg_rcv 7 h v3 (F_X7_open v3 h)) fun v4 => (if v4.1 = (-1 : Int32) then Option.bind (pg_rcv 11 v4.2 a0 (F_X11_refuse a0 (-5 : Int32) v4.2)) fun v12 => (some (v12.1, v12.2)) else Option.bind (pg_gR 11 0 v4.2 a0) fun v5 => Option.bind (pg_gR 5 2 v4.2 v5) fun v6 => Option.bind (pg_rcv 7 v4.2 v6 (F_X7_put v6 v4.1 (0 : Int32) a1 v4.2)) fun v7 => Option.bind (pg_gR 11 0 v7.2 a0) fun v8 => Option.bind (pg_gR 5 2 v7.2 v8) fun v9 => Option.bind (pg_rcv 7 v7.2 v9 (F_X7_put v9 v4.1 (1 : Int32) a2 v7.2)) fun v10 => Option.bind (pg_rcv 11 v10.2 a0 (F_X11_accept a0 v4.1 v10.2)) fun v11 => (some (v11.1, v11.2))))
theorem e_X11_hand (l : Launch) (D : pg_D)  (a0 : Nat) (a1 : Int32) (a2 : Int32) (h : pg_H) : pg_EvF l D RX11 cX11_hand 4 (some FieldType.int) "hand" 3 68 pg_wI (F_X11_hand a0 a1 a2 h) 0 [(0, pR a0), (1, pI a1), (2, pI a2)] [] h := by
  unfold F_X11_hand
  refine pg_iload_n (i := 1) dX11_hand_0 rfl 1 rfl ?_
  refine pg_iload_n (i := 2) dX11_hand_1 rfl 2 rfl ?_
  refine pg_callS_oI (As := [pI a1, pI a2]) (rs := []) dX11_hand_2 lk_RX11_115 vy_X11_areYears nd_X11_areYears (c_X11_areYears l D a1 a2 h) rfl rfl (Nat.le_of_ble_eq_true rfl) (by decide) (by decide) (fun v1 => ?_)
  refine pg_if_ne (tgt := 14) dX11_hand_5 rfl ?_ ?_
  · refine pg_aload_n (i := 0) dX11_hand_14 rfl 0 rfl ?_
    refine pg_getR dX11_hand_15 fl_RX11_10 rfl (fun v2 => ?_)
    refine pg_getR dX11_hand_18 fl_RX11_125 rfl (fun v3 => ?_)
    refine pg_callV_wI (As := []) (rs := []) dX11_hand_21 lk_RX11_95 vy_X7_open nd_X7_open (c_X7_open l D v3 h) rfl rfl (Nat.le_of_ble_eq_true rfl) (by decide) (by decide) (fun v4 => ?_)
    refine pg_istore_n (i := 3) (lv' := [(3, pI v4.1), (0, pR a0), (1, pI a1), (2, pI a2)]) dX11_hand_24 rfl (by decide) rfl ?_
    refine pg_iload_n (i := 3) dX11_hand_25 rfl 0 rfl ?_
    refine pg_iconst dX11_hand_26 ci_m1 ?_
    refine pg_icmp_ne (tgt := 37) dX11_hand_27 rfl ?_ ?_
    · refine pg_aload_n (i := 0) dX11_hand_37 rfl 1 rfl ?_
      refine pg_getR dX11_hand_38 fl_RX11_10 rfl (fun v5 => ?_)
      refine pg_getR dX11_hand_41 fl_RX11_125 rfl (fun v6 => ?_)
      refine pg_iload_n (i := 3) dX11_hand_44 rfl 0 rfl ?_
      refine pg_iconst dX11_hand_45 ci_0 ?_
      refine pg_iload_n (i := 1) dX11_hand_46 rfl 2 rfl ?_
      refine pg_callV_wI (As := [pI v4.1, pI (0 : Int32), pI a1]) (rs := []) dX11_hand_47 lk_RX11_101 vy_X7_put nd_X7_put (c_X7_put l D v6 v4.1 (0 : Int32) a1 v4.2) rfl rfl (Nat.le_of_ble_eq_true rfl) (by decide) (by decide) (fun v7 => ?_)
      refine pg_pop dX11_hand_50 rfl ?_
      refine pg_aload_n (i := 0) dX11_hand_51 rfl 1 rfl ?_
      refine pg_getR dX11_hand_52 fl_RX11_10 rfl (fun v8 => ?_)
      refine pg_getR dX11_hand_55 fl_RX11_125 rfl (fun v9 => ?_)
      refine pg_iload_n (i := 3) dX11_hand_58 rfl 0 rfl ?_
      refine pg_iconst dX11_hand_59 ci_1 ?_
      refine pg_iload_n (i := 2) dX11_hand_60 rfl 3 rfl ?_
      refine pg_callV_wI (As := [pI v4.1, pI (1 : Int32), pI a2]) (rs := []) dX11_hand_61 lk_RX11_101 vy_X7_put nd_X7_put (c_X7_put l D v9 v4.1 (1 : Int32) a2 v7.2) rfl rfl (Nat.le_of_ble_eq_true rfl) (by decide) (by decide) (fun v10 => ?_)
      refine pg_pop dX11_hand_64 rfl ?_
      refine pg_aload_n (i := 0) dX11_hand_65 rfl 1 rfl ?_
      refine pg_iload_n (i := 3) dX11_hand_66 rfl 0 rfl ?_
      refine pg_callV_wI (As := [pI v4.1]) (rs := []) dX11_hand_67 lk_RX11_112 vy_X11_accept nd_X11_accept (c_X11_accept l D a0 v4.1 v10.2) rfl rfl (Nat.le_of_ble_eq_true rfl) (by decide) (by decide) (fun v11 => ?_)
      exact pg_iret dX11_hand_70 rfl rfl
    · refine pg_aload_n (i := 0) dX11_hand_30 rfl 1 rfl ?_
      refine pg_bipush dX11_hand_31 cb_m5 ?_
      refine pg_callV_wI (As := [pI (-5 : Int32)]) (rs := []) dX11_hand_33 lk_RX11_87 vy_X11_refuse nd_X11_refuse (c_X11_refuse l D a0 (-5 : Int32) v4.2) rfl rfl (Nat.le_of_ble_eq_true rfl) (by decide) (by decide) (fun v12 => ?_)
      exact pg_iret dX11_hand_36 rfl rfl
  · refine pg_aload_n (i := 0) dX11_hand_8 rfl 0 rfl ?_
    refine pg_iconst dX11_hand_9 ci_m1 ?_
    refine pg_callV_wI (As := [pI (-1 : Int32)]) (rs := []) dX11_hand_10 lk_RX11_87 vy_X11_refuse nd_X11_refuse (c_X11_refuse l D a0 (-1 : Int32) h) rfl rfl (Nat.le_of_ble_eq_true rfl) (by decide) (by decide) (fun v13 => ?_)
    exact pg_iret dX11_hand_13 rfl rfl
theorem c_X11_hand (l : Launch) (D : pg_D) (a0 : Nat) (a1 : Int32) (a2 : Int32) (h : pg_H) : ∀ x, F_X11_hand a0 a1 a2 h = some x → pg_Ct l D yX11_hand cX11_hand 4 (some FieldType.int) 3 68 [pR a0, pI a1, pI a2] h (pg_wI x) :=
  pg_Ct.of pn_RX11 (Nat.le_of_ble_eq_true rfl) (e_X11_hand l D a0 a1 a2 h)
def F_X11_form_19 (a0 : Nat) (h : pg_H) : Option (Int32 × pg_H) := Option.bind (pg_rcv 11 h a0 (F_X11_refuse a0 (-1 : Int32) h)) fun v1 => (some (v1.1, v1.2))
def F_X11_form (a0 : Nat) (a1 : Int32) (a2 : Int32) (a3 : Int32) (h : pg_H) : Option (Int32 × pg_H) := Option.bind (F_X11_within a2 (0 : Int32) (5 : Int32)) fun v1 => (if v1 = 0 then (F_X11_form_19 a0 h) else Option.bind (F_X11_within a3 (0 : Int32) (99 : Int32)) fun v2 => (if v2 = 0 then (F_X11_form_19 a0 h) else Option.bind (pg_gR 11 0 h a0) fun v3 => Option.bind (pg_gR 5 2 h v3) fun v4 => Option.bind (pg_rcv 7 h v4 (F_X7_holds h v4 a1)) fun v5 => (if v5 = 0 then Option.bind (pg_rcv 11 h a0 (F_X11_refuse a0 (-2 : Int32) h)) fun v10 => (some (v10.1, v10.2)) else Option.bind (pg_gR 11 0 h a0) fun v6 => Option.bind (pg_gR 5 2 h v6) fun v7 => Option.bind (pg_rcv 7 h v7 (F_X7_put v7 a1 ((2 : Int32) + a2) a3 h)) fun v8 => Option.bind (pg_rcv 11 v8.2 a0 (F_X11_accept a0 v8.1 v8.2)) fun v9 => (some (v9.1, v9.2)))))
theorem e_X11_form_19 (l : Launch) (D : pg_D)  (a0 : Nat) (h : pg_H) : pg_EvF l D RX11 cX11_form 4 (some FieldType.int) "form" 2 46 pg_wI (F_X11_form_19 a0 h) 19 [(0, pR a0)] [] h := by
  unfold F_X11_form_19
  refine pg_aload_n (i := 0) dX11_form_19 rfl 0 rfl ?_
  refine pg_iconst dX11_form_20 ci_m1 ?_
  refine pg_callV_wI (As := [pI (-1 : Int32)]) (rs := []) dX11_form_21 lk_RX11_87 vy_X11_refuse nd_X11_refuse (c_X11_refuse l D a0 (-1 : Int32) h) rfl rfl (Nat.le_of_ble_eq_true rfl) (by decide) (by decide) (fun v1 => ?_)
  exact pg_iret dX11_form_24 rfl rfl
theorem e_X11_form (l : Launch) (D : pg_D)  (a0 : Nat) (a1 : Int32) (a2 : Int32) (a3 : Int32) (h : pg_H) : pg_EvF l D RX11 cX11_form 4 (some FieldType.int) "form" 2 46 pg_wI (F_X11_form a0 a1 a2 a3 h) 0 [(0, pR a0), (1, pI a1), (2, pI a2), (3, pI a3)] [] h := by
  unfold F_X11_form
  refine pg_iload_n (i := 2) dX11_form_0 rfl 2 rfl ?_
  refine pg_iconst dX11_form_1 ci_0 ?_
  refine pg_iconst dX11_form_2 ci_5 ?_
  refine pg_callS_oI (As := [pI a2, pI (0 : Int32), pI (5 : Int32)]) (rs := []) dX11_form_3 lk_RX11_83 vy_X11_within nd_X11_within (c_X11_within l D a2 (0 : Int32) (5 : Int32) h) rfl rfl (Nat.le_of_ble_eq_true rfl) (by decide) (by decide) (fun v1 => ?_)
  refine pg_if_eq (tgt := 19) dX11_form_6 rfl ?_ ?_
  · exact pg_to (e_X11_form_19 l D a0 h) [0] rfl
  · refine pg_iload_n (i := 3) dX11_form_9 rfl 3 rfl ?_
    refine pg_iconst dX11_form_10 ci_0 ?_
    refine pg_bipush dX11_form_11 cb_99 ?_
    refine pg_callS_oI (As := [pI a3, pI (0 : Int32), pI (99 : Int32)]) (rs := []) dX11_form_13 lk_RX11_83 vy_X11_within nd_X11_within (c_X11_within l D a3 (0 : Int32) (99 : Int32) h) rfl rfl (Nat.le_of_ble_eq_true rfl) (by decide) (by decide) (fun v2 => ?_)
    refine pg_if_ne (tgt := 25) dX11_form_16 rfl ?_ ?_
    · refine pg_aload_n (i := 0) dX11_form_25 rfl 0 rfl ?_
      refine pg_getR dX11_form_26 fl_RX11_10 rfl (fun v3 => ?_)
      refine pg_getR dX11_form_29 fl_RX11_125 rfl (fun v4 => ?_)
      refine pg_iload_n (i := 1) dX11_form_32 rfl 1 rfl ?_
      refine pg_callV_oI (As := [pI a1]) (rs := []) dX11_form_33 lk_RX11_108 vy_X7_holds nd_X7_holds (c_X7_holds l D h v4 a1) rfl rfl (Nat.le_of_ble_eq_true rfl) (by decide) (by decide) (fun v5 => ?_)
      refine pg_if_ne (tgt := 46) dX11_form_36 rfl ?_ ?_
      · refine pg_aload_n (i := 0) dX11_form_46 rfl 0 rfl ?_
        refine pg_aload_n (i := 0) dX11_form_47 rfl 0 rfl ?_
        refine pg_getR dX11_form_48 fl_RX11_10 rfl (fun v6 => ?_)
        refine pg_getR dX11_form_51 fl_RX11_125 rfl (fun v7 => ?_)
        refine pg_iload_n (i := 1) dX11_form_54 rfl 1 rfl ?_
        refine pg_iconst dX11_form_55 ci_2 ?_
        refine pg_iload_n (i := 2) dX11_form_56 rfl 2 rfl ?_
        refine pg_iadd dX11_form_57 ?_
        refine pg_iload_n (i := 3) dX11_form_58 rfl 3 rfl ?_
        refine pg_callV_wI (As := [pI a1, pI ((2 : Int32) + a2), pI a3]) (rs := [pR a0]) dX11_form_59 lk_RX11_101 vy_X7_put nd_X7_put (c_X7_put l D v7 a1 ((2 : Int32) + a2) a3 h) rfl rfl (Nat.le_of_ble_eq_true rfl) (by decide) (by decide) (fun v8 => ?_)
        refine pg_callV_wI (As := [pI v8.1]) (rs := []) dX11_form_62 lk_RX11_112 vy_X11_accept nd_X11_accept (c_X11_accept l D a0 v8.1 v8.2) rfl rfl (Nat.le_of_ble_eq_true rfl) (by decide) (by decide) (fun v9 => ?_)
        exact pg_iret dX11_form_65 rfl rfl
      · refine pg_aload_n (i := 0) dX11_form_39 rfl 0 rfl ?_
        refine pg_bipush dX11_form_40 cb_m2 ?_
        refine pg_callV_wI (As := [pI (-2 : Int32)]) (rs := []) dX11_form_42 lk_RX11_87 vy_X11_refuse nd_X11_refuse (c_X11_refuse l D a0 (-2 : Int32) h) rfl rfl (Nat.le_of_ble_eq_true rfl) (by decide) (by decide) (fun v10 => ?_)
        exact pg_iret dX11_form_45 rfl rfl
    · exact pg_to (e_X11_form_19 l D a0 h) [0] rfl
theorem c_X11_form (l : Launch) (D : pg_D) (a0 : Nat) (a1 : Int32) (a2 : Int32) (a3 : Int32) (h : pg_H) : ∀ x, F_X11_form a0 a1 a2 a3 h = some x → pg_Ct l D yX11_form cX11_form 4 (some FieldType.int) 2 46 [pR a0, pI a1, pI a2, pI a3] h (pg_wI x) :=
  pg_Ct.of pn_RX11 (Nat.le_of_ble_eq_true rfl) (e_X11_form l D a0 a1 a2 a3 h)
def F_X11_sample_29 (a0 : Nat) (h : pg_H) : Option (Int32 × pg_H) := Option.bind (pg_rcv 11 h a0 (F_X11_refuse a0 (-1 : Int32) h)) fun v1 => (some (v1.1, v1.2))
def F_X11_sample (a0 : Nat) (a1 : Int32) (a2 : Int32) (a3 : Int32) (h : pg_H) : Option (Int32 × pg_H) := Option.bind (F_X11_within a1 (0 : Int32) (7 : Int32)) fun v1 => (if v1 = 0 then (F_X11_sample_29 a0 h) else Option.bind (F_X11_within a2 (0 : Int32) (5 : Int32)) fun v2 => (if v2 = 0 then (F_X11_sample_29 a0 h) else Option.bind (F_X11_within a3 (0 : Int32) (99 : Int32)) fun v3 => (if v3 = 0 then (F_X11_sample_29 a0 h) else Option.bind (pg_gR 11 0 h a0) fun v4 => Option.bind (pg_gR 5 3 h v4) fun v5 => Option.bind (pg_rcv 7 h v5 (F_X7_put v5 a1 a2 a3 h)) fun v6 => Option.bind (pg_rcv 11 v6.2 a0 (F_X11_accept a0 v6.1 v6.2)) fun v7 => (some (v7.1, v7.2)))))
theorem e_X11_sample_29 (l : Launch) (D : pg_D)  (a0 : Nat) (h : pg_H) : pg_EvF l D RX11 cX11_sample 4 (some FieldType.int) "sample" 2 46 pg_wI (F_X11_sample_29 a0 h) 29 [(0, pR a0)] [] h := by
  unfold F_X11_sample_29
  refine pg_aload_n (i := 0) dX11_sample_29 rfl 0 rfl ?_
  refine pg_iconst dX11_sample_30 ci_m1 ?_
  refine pg_callV_wI (As := [pI (-1 : Int32)]) (rs := []) dX11_sample_31 lk_RX11_87 vy_X11_refuse nd_X11_refuse (c_X11_refuse l D a0 (-1 : Int32) h) rfl rfl (Nat.le_of_ble_eq_true rfl) (by decide) (by decide) (fun v1 => ?_)
  exact pg_iret dX11_sample_34 rfl rfl
theorem e_X11_sample (l : Launch) (D : pg_D)  (a0 : Nat) (a1 : Int32) (a2 : Int32) (a3 : Int32) (h : pg_H) : pg_EvF l D RX11 cX11_sample 4 (some FieldType.int) "sample" 2 46 pg_wI (F_X11_sample a0 a1 a2 a3 h) 0 [(0, pR a0), (1, pI a1), (2, pI a2), (3, pI a3)] [] h := by
  unfold F_X11_sample
  refine pg_iload_n (i := 1) dX11_sample_0 rfl 1 rfl ?_
  refine pg_iconst dX11_sample_1 ci_0 ?_
  refine pg_bipush dX11_sample_2 cb_7 ?_
  refine pg_callS_oI (As := [pI a1, pI (0 : Int32), pI (7 : Int32)]) (rs := []) dX11_sample_4 lk_RX11_83 vy_X11_within nd_X11_within (c_X11_within l D a1 (0 : Int32) (7 : Int32) h) rfl rfl (Nat.le_of_ble_eq_true rfl) (by decide) (by decide) (fun v1 => ?_)
  refine pg_if_eq (tgt := 29) dX11_sample_7 rfl ?_ ?_
  · exact pg_to (e_X11_sample_29 l D a0 h) [0] rfl
  · refine pg_iload_n (i := 2) dX11_sample_10 rfl 2 rfl ?_
    refine pg_iconst dX11_sample_11 ci_0 ?_
    refine pg_iconst dX11_sample_12 ci_5 ?_
    refine pg_callS_oI (As := [pI a2, pI (0 : Int32), pI (5 : Int32)]) (rs := []) dX11_sample_13 lk_RX11_83 vy_X11_within nd_X11_within (c_X11_within l D a2 (0 : Int32) (5 : Int32) h) rfl rfl (Nat.le_of_ble_eq_true rfl) (by decide) (by decide) (fun v2 => ?_)
    refine pg_if_eq (tgt := 29) dX11_sample_16 rfl ?_ ?_
    · exact pg_to (e_X11_sample_29 l D a0 h) [0] rfl
    · refine pg_iload_n (i := 3) dX11_sample_19 rfl 3 rfl ?_
      refine pg_iconst dX11_sample_20 ci_0 ?_
      refine pg_bipush dX11_sample_21 cb_99 ?_
      refine pg_callS_oI (As := [pI a3, pI (0 : Int32), pI (99 : Int32)]) (rs := []) dX11_sample_23 lk_RX11_83 vy_X11_within nd_X11_within (c_X11_within l D a3 (0 : Int32) (99 : Int32) h) rfl rfl (Nat.le_of_ble_eq_true rfl) (by decide) (by decide) (fun v3 => ?_)
      refine pg_if_ne (tgt := 35) dX11_sample_26 rfl ?_ ?_
      · refine pg_aload_n (i := 0) dX11_sample_35 rfl 0 rfl ?_
        refine pg_aload_n (i := 0) dX11_sample_36 rfl 0 rfl ?_
        refine pg_getR dX11_sample_37 fl_RX11_10 rfl (fun v4 => ?_)
        refine pg_getR dX11_sample_40 fl_RX11_128 rfl (fun v5 => ?_)
        refine pg_iload_n (i := 1) dX11_sample_43 rfl 1 rfl ?_
        refine pg_iload_n (i := 2) dX11_sample_44 rfl 2 rfl ?_
        refine pg_iload_n (i := 3) dX11_sample_45 rfl 3 rfl ?_
        refine pg_callV_wI (As := [pI a1, pI a2, pI a3]) (rs := [pR a0]) dX11_sample_46 lk_RX11_101 vy_X7_put nd_X7_put (c_X7_put l D v5 a1 a2 a3 h) rfl rfl (Nat.le_of_ble_eq_true rfl) (by decide) (by decide) (fun v6 => ?_)
        refine pg_callV_wI (As := [pI v6.1]) (rs := []) dX11_sample_49 lk_RX11_112 vy_X11_accept nd_X11_accept (c_X11_accept l D a0 v6.1 v6.2) rfl rfl (Nat.le_of_ble_eq_true rfl) (by decide) (by decide) (fun v7 => ?_)
        exact pg_iret dX11_sample_52 rfl rfl
      · exact pg_to (e_X11_sample_29 l D a0 h) [0] rfl
theorem c_X11_sample (l : Launch) (D : pg_D) (a0 : Nat) (a1 : Int32) (a2 : Int32) (a3 : Int32) (h : pg_H) : ∀ x, F_X11_sample a0 a1 a2 a3 h = some x → pg_Ct l D yX11_sample cX11_sample 4 (some FieldType.int) 2 46 [pR a0, pI a1, pI a2, pI a3] h (pg_wI x) :=
  pg_Ct.of pn_RX11 (Nat.le_of_ble_eq_true rfl) (e_X11_sample l D a0 a1 a2 a3 h)
def F_X11_isNote_31 (s0 : Int32) (s1 : Int32) (s2 : Int32) : Option Int32 := Option.bind (F_X11_within s2 s1 s0) fun v1 => (if v1 = 0 then (some (0 : Int32)) else (some (1 : Int32)))
def F_X11_isNote (a0 : Int32) (a1 : Int32) (a2 : Int32) : Option Int32 := Option.bind (F_X11_within a0 (0 : Int32) (59 : Int32)) fun v1 => (if v1 = 0 then (some (0 : Int32)) else Option.bind (F_X11_within a2 (0 : Int32) (3 : Int32)) fun v2 => (if v2 = 0 then (some (0 : Int32)) else (if a2 = 0 then (F_X11_isNote_31 (99 : Int32) (0 : Int32) a1) else (F_X11_isNote_31 (0 : Int32) (0 : Int32) a1))))
theorem e_X11_isNote_31 (l : Launch) (D : pg_D)  (h : pg_H) (s0 : Int32) (s1 : Int32) (s2 : Int32) : pg_EvF l D RX11 cX11_isNote 3 (some FieldType.boolean) "isNote" 1 22 (pg_oI h) (F_X11_isNote_31 s0 s1 s2) 31 [] [pI s0, pI s1, pI s2] h := by
  unfold F_X11_isNote_31
  refine pg_callS_oI (As := [pI s2, pI s1, pI s0]) (rs := []) dX11_isNote_31 lk_RX11_83 vy_X11_within nd_X11_within (c_X11_within l D s2 s1 s0 h) rfl rfl (Nat.le_of_ble_eq_true rfl) (by decide) (by decide) (fun v1 => ?_)
  refine pg_if_eq (tgt := 41) dX11_isNote_34 rfl ?_ ?_
  · refine pg_iconst dX11_isNote_41 ci_0 ?_
    exact pg_zret dX11_isNote_42 rfl (Or.inl rfl) rfl
  · refine pg_iconst dX11_isNote_37 ci_1 ?_
    refine pg_goto (tgt := 42) dX11_isNote_38 rfl ?_
    exact pg_zret dX11_isNote_42 rfl (Or.inr rfl) rfl
theorem e_X11_isNote (l : Launch) (D : pg_D)  (a0 : Int32) (a1 : Int32) (a2 : Int32) (h : pg_H) : pg_EvF l D RX11 cX11_isNote 3 (some FieldType.boolean) "isNote" 1 22 (pg_oI h) (F_X11_isNote a0 a1 a2) 0 [(0, pI a0), (1, pI a1), (2, pI a2)] [] h := by
  unfold F_X11_isNote
  refine pg_iload_n (i := 0) dX11_isNote_0 rfl 0 rfl ?_
  refine pg_iconst dX11_isNote_1 ci_0 ?_
  refine pg_bipush dX11_isNote_2 cb_59 ?_
  refine pg_callS_oI (As := [pI a0, pI (0 : Int32), pI (59 : Int32)]) (rs := []) dX11_isNote_4 lk_RX11_83 vy_X11_within nd_X11_within (c_X11_within l D a0 (0 : Int32) (59 : Int32) h) rfl rfl (Nat.le_of_ble_eq_true rfl) (by decide) (by decide) (fun v1 => ?_)
  refine pg_if_eq (tgt := 41) dX11_isNote_7 rfl ?_ ?_
  · refine pg_iconst dX11_isNote_41 ci_0 ?_
    exact pg_zret dX11_isNote_42 rfl (Or.inl rfl) rfl
  · refine pg_iload_n (i := 2) dX11_isNote_10 rfl 2 rfl ?_
    refine pg_iconst dX11_isNote_11 ci_0 ?_
    refine pg_iconst dX11_isNote_12 ci_3 ?_
    refine pg_callS_oI (As := [pI a2, pI (0 : Int32), pI (3 : Int32)]) (rs := []) dX11_isNote_13 lk_RX11_83 vy_X11_within nd_X11_within (c_X11_within l D a2 (0 : Int32) (3 : Int32) h) rfl rfl (Nat.le_of_ble_eq_true rfl) (by decide) (by decide) (fun v2 => ?_)
    refine pg_if_eq (tgt := 41) dX11_isNote_16 rfl ?_ ?_
    · refine pg_iconst dX11_isNote_41 ci_0 ?_
      exact pg_zret dX11_isNote_42 rfl (Or.inl rfl) rfl
    · refine pg_iload_n (i := 1) dX11_isNote_19 rfl 1 rfl ?_
      refine pg_iconst dX11_isNote_20 ci_0 ?_
      refine pg_iload_n (i := 2) dX11_isNote_21 rfl 2 rfl ?_
      refine pg_if_ne (tgt := 30) dX11_isNote_22 rfl ?_ ?_
      · refine pg_iconst dX11_isNote_30 ci_0 ?_
        exact pg_to (e_X11_isNote_31 l D h (0 : Int32) (0 : Int32) a1) [] rfl
      · refine pg_bipush dX11_isNote_25 cb_99 ?_
        refine pg_goto (tgt := 31) dX11_isNote_27 rfl ?_
        exact pg_to (e_X11_isNote_31 l D h (99 : Int32) (0 : Int32) a1) [] rfl
theorem c_X11_isNote (l : Launch) (D : pg_D) (a0 : Int32) (a1 : Int32) (a2 : Int32) (h : pg_H) : ∀ x, F_X11_isNote a0 a1 a2 = some x → pg_Ct l D yX11_isNote cX11_isNote 3 (some FieldType.boolean) 1 22 [pI a0, pI a1, pI a2] h (pg_oI h x) :=
  pg_Ct.of pn_RX11 (Nat.le_of_ble_eq_true rfl) (e_X11_isNote l D a0 a1 a2 h)
def F_X11_note_42 (a0 : Nat) (h : pg_H) : Option (Int32 × pg_H) := Option.bind (pg_rcv 11 h a0 (F_X11_refuse a0 (-2 : Int32) h)) fun v1 => (some (v1.1, v1.2))
def F_X11_note (a0 : Nat) (a1 : Int32) (a2 : Int32) (a3 : Int32) (a4 : Int32) (a5 : Int32) (h : pg_H) : Option (Int32 × pg_H) := Option.bind (F_X11_isNote a2 a3 a5) fun v1 => (if v1 = 0 then Option.bind (pg_rcv 11 h a0 (F_X11_refuse a0 (-1 : Int32) h)) fun v14 => (some (v14.1, v14.2)) else Option.bind (pg_gR 11 0 h a0) fun v2 => Option.bind (pg_gR 5 0 h v2) fun v3 => Option.bind (pg_rcv 7 h v3 (F_X7_holds h v3 a1)) fun v4 => (if v4 = 0 then (F_X11_note_42 a0 h) else Option.bind (pg_gR 11 0 h a0) fun v5 => Option.bind (pg_rcv 5 h v5 (F_X5_isHandOrUnknown h v5 a4)) fun v6 => (if v6 = 0 then (F_X11_note_42 a0 h) else Option.bind (pg_gR 11 0 h a0) fun v7 => Option.bind (pg_rcv 5 h v7 (F_X5_hasNote h v7 a1 a2 a3 a5)) fun v8 => (if v8 = 0 then Option.bind (pg_gR 11 0 h a0) fun v9 => Option.bind (pg_rcv 5 h v9 (F_X5_addNote v9 a1 a2 a3 a4 a5 h)) fun v10 => (if v10.1 = (-1 : Int32) then Option.bind (pg_rcv 11 v10.2 a0 (F_X11_refuse a0 (-5 : Int32) v10.2)) fun v12 => (some (v12.1, v12.2)) else Option.bind (pg_rcv 11 v10.2 a0 (F_X11_changed a0 v10.1 v10.2)) fun v11 => (some (v11.1, v11.2))) else Option.bind (pg_rcv 11 h a0 (F_X11_refuse a0 (-3 : Int32) h)) fun v13 => (some (v13.1, v13.2))))))
theorem e_X11_note_42 (l : Launch) (D : pg_D)  (a0 : Nat) (h : pg_H) : pg_EvF l D RX11 cX11_note 7 (some FieldType.int) "note" 4 94 pg_wI (F_X11_note_42 a0 h) 42 [(0, pR a0)] [] h := by
  unfold F_X11_note_42
  refine pg_aload_n (i := 0) dX11_note_42 rfl 0 rfl ?_
  refine pg_bipush dX11_note_43 cb_m2 ?_
  refine pg_callV_wI (As := [pI (-2 : Int32)]) (rs := []) dX11_note_45 lk_RX11_87 vy_X11_refuse nd_X11_refuse (c_X11_refuse l D a0 (-2 : Int32) h) rfl rfl (Nat.le_of_ble_eq_true rfl) (by decide) (by decide) (fun v1 => ?_)
  exact pg_iret dX11_note_48 rfl rfl
theorem e_X11_note (l : Launch) (D : pg_D)  (a0 : Nat) (a1 : Int32) (a2 : Int32) (a3 : Int32) (a4 : Int32) (a5 : Int32) (h : pg_H) : pg_EvF l D RX11 cX11_note 7 (some FieldType.int) "note" 4 94 pg_wI (F_X11_note a0 a1 a2 a3 a4 a5 h) 0 [(0, pR a0), (1, pI a1), (2, pI a2), (3, pI a3), (4, pI a4), (5, pI a5)] [] h := by
  unfold F_X11_note
  refine pg_iload_n (i := 2) dX11_note_0 rfl 2 rfl ?_
  refine pg_iload_n (i := 3) dX11_note_1 rfl 3 rfl ?_
  refine pg_iload dX11_note_2 5 rfl ?_
  refine pg_callS_oI (As := [pI a2, pI a3, pI a5]) (rs := []) dX11_note_4 lk_RX11_131 vy_X11_isNote nd_X11_isNote (c_X11_isNote l D a2 a3 a5 h) rfl rfl (Nat.le_of_ble_eq_true rfl) (by decide) (by decide) (fun v1 => ?_)
  refine pg_if_ne (tgt := 16) dX11_note_7 rfl ?_ ?_
  · refine pg_aload_n (i := 0) dX11_note_16 rfl 0 rfl ?_
    refine pg_getR dX11_note_17 fl_RX11_10 rfl (fun v2 => ?_)
    refine pg_getR dX11_note_20 fl_RX11_91 rfl (fun v3 => ?_)
    refine pg_iload_n (i := 1) dX11_note_23 rfl 1 rfl ?_
    refine pg_callV_oI (As := [pI a1]) (rs := []) dX11_note_24 lk_RX11_108 vy_X7_holds nd_X7_holds (c_X7_holds l D h v3 a1) rfl rfl (Nat.le_of_ble_eq_true rfl) (by decide) (by decide) (fun v4 => ?_)
    refine pg_if_eq (tgt := 42) dX11_note_27 rfl ?_ ?_
    · exact pg_to (e_X11_note_42 l D a0 h) [0] rfl
    · refine pg_aload_n (i := 0) dX11_note_30 rfl 0 rfl ?_
      refine pg_getR dX11_note_31 fl_RX11_10 rfl (fun v5 => ?_)
      refine pg_iload dX11_note_34 4 rfl ?_
      refine pg_callV_oI (As := [pI a4]) (rs := []) dX11_note_36 lk_RX11_134 vy_X5_isHandOrUnknown nd_X5_isHandOrUnknown (c_X5_isHandOrUnknown l D h v5 a4) rfl rfl (Nat.le_of_ble_eq_true rfl) (by decide) (by decide) (fun v6 => ?_)
      refine pg_if_ne (tgt := 49) dX11_note_39 rfl ?_ ?_
      · refine pg_aload_n (i := 0) dX11_note_49 rfl 0 rfl ?_
        refine pg_getR dX11_note_50 fl_RX11_10 rfl (fun v7 => ?_)
        refine pg_iload_n (i := 1) dX11_note_53 rfl 1 rfl ?_
        refine pg_iload_n (i := 2) dX11_note_54 rfl 2 rfl ?_
        refine pg_iload_n (i := 3) dX11_note_55 rfl 3 rfl ?_
        refine pg_iload dX11_note_56 5 rfl ?_
        refine pg_callV_oI (As := [pI a1, pI a2, pI a3, pI a5]) (rs := []) dX11_note_58 lk_RX11_137 vy_X5_hasNote nd_X5_hasNote (c_X5_hasNote l D h v7 a1 a2 a3 a5) rfl rfl (Nat.le_of_ble_eq_true rfl) (by decide) (by decide) (fun v8 => ?_)
        refine pg_if_eq (tgt := 71) dX11_note_61 rfl ?_ ?_
        · refine pg_aload_n (i := 0) dX11_note_71 rfl 0 rfl ?_
          refine pg_getR dX11_note_72 fl_RX11_10 rfl (fun v9 => ?_)
          refine pg_iload_n (i := 1) dX11_note_75 rfl 1 rfl ?_
          refine pg_iload_n (i := 2) dX11_note_76 rfl 2 rfl ?_
          refine pg_iload_n (i := 3) dX11_note_77 rfl 3 rfl ?_
          refine pg_iload dX11_note_78 4 rfl ?_
          refine pg_iload dX11_note_80 5 rfl ?_
          refine pg_callV_wI (As := [pI a1, pI a2, pI a3, pI a4, pI a5]) (rs := []) dX11_note_82 lk_RX11_141 vy_X5_addNote nd_X5_addNote (c_X5_addNote l D v9 a1 a2 a3 a4 a5 h) rfl rfl (Nat.le_of_ble_eq_true rfl) (by decide) (by decide) (fun v10 => ?_)
          refine pg_istore (lv' := [(6, pI v10.1), (0, pR a0), (1, pI a1), (2, pI a2), (3, pI a3), (4, pI a4), (5, pI a5)]) dX11_note_85 (by decide) rfl ?_
          refine pg_iload dX11_note_87 0 rfl ?_
          refine pg_iconst dX11_note_89 ci_m1 ?_
          refine pg_icmp_ne (tgt := 102) dX11_note_90 rfl ?_ ?_
          · refine pg_aload_n (i := 0) dX11_note_102 rfl 1 rfl ?_
            refine pg_iload dX11_note_103 0 rfl ?_
            refine pg_callV_wI (As := [pI v10.1]) (rs := []) dX11_note_105 lk_RX11_105 vy_X11_changed nd_X11_changed (c_X11_changed l D a0 v10.1 v10.2) rfl rfl (Nat.le_of_ble_eq_true rfl) (by decide) (by decide) (fun v11 => ?_)
            exact pg_iret dX11_note_108 rfl rfl
          · refine pg_aload_n (i := 0) dX11_note_93 rfl 1 rfl ?_
            refine pg_bipush dX11_note_94 cb_m5 ?_
            refine pg_callV_wI (As := [pI (-5 : Int32)]) (rs := []) dX11_note_96 lk_RX11_87 vy_X11_refuse nd_X11_refuse (c_X11_refuse l D a0 (-5 : Int32) v10.2) rfl rfl (Nat.le_of_ble_eq_true rfl) (by decide) (by decide) (fun v12 => ?_)
            refine pg_goto (tgt := 108) dX11_note_99 rfl ?_
            exact pg_iret dX11_note_108 rfl rfl
        · refine pg_aload_n (i := 0) dX11_note_64 rfl 0 rfl ?_
          refine pg_bipush dX11_note_65 cb_m3 ?_
          refine pg_callV_wI (As := [pI (-3 : Int32)]) (rs := []) dX11_note_67 lk_RX11_87 vy_X11_refuse nd_X11_refuse (c_X11_refuse l D a0 (-3 : Int32) h) rfl rfl (Nat.le_of_ble_eq_true rfl) (by decide) (by decide) (fun v13 => ?_)
          exact pg_iret dX11_note_70 rfl rfl
      · exact pg_to (e_X11_note_42 l D a0 h) [0] rfl
  · refine pg_aload_n (i := 0) dX11_note_10 rfl 0 rfl ?_
    refine pg_iconst dX11_note_11 ci_m1 ?_
    refine pg_callV_wI (As := [pI (-1 : Int32)]) (rs := []) dX11_note_12 lk_RX11_87 vy_X11_refuse nd_X11_refuse (c_X11_refuse l D a0 (-1 : Int32) h) rfl rfl (Nat.le_of_ble_eq_true rfl) (by decide) (by decide) (fun v14 => ?_)
    exact pg_iret dX11_note_15 rfl rfl
theorem c_X11_note (l : Launch) (D : pg_D) (a0 : Nat) (a1 : Int32) (a2 : Int32) (a3 : Int32) (a4 : Int32) (a5 : Int32) (h : pg_H) : ∀ x, F_X11_note a0 a1 a2 a3 a4 a5 h = some x → pg_Ct l D yX11_note cX11_note 7 (some FieldType.int) 4 94 [pR a0, pI a1, pI a2, pI a3, pI a4, pI a5] h (pg_wI x) :=
  pg_Ct.of pn_RX11 (Nat.le_of_ble_eq_true rfl) (e_X11_note l D a0 a1 a2 a3 a4 a5 h)
def F_X11_freshReadings (a0 : Nat) (h : pg_H) : Option (Nat × pg_H) := Option.bind (pg_gI 11 14 h a0) fun v1 => (if v1 = 0 then Option.bind (pg_gR 11 6 h a0) fun v3 => Option.bind (pg_gR 11 0 h a0) fun v4 => Option.bind (pg_gR 11 5 h a0) fun v5 => Option.bind (pg_rcv 4 h v3 (F_X4_gather v3 v4 v5 h)) fun v6 => Option.bind (pg_pZ 11 14 v6 a0 (1 : Int32)) fun v7 => Option.bind (pg_gR 11 6 v7 a0) fun v8 => (some (v8, v7)) else Option.bind (pg_gR 11 6 h a0) fun v2 => (some (v2, h)))
theorem e_X11_freshReadings (l : Launch) (D : pg_D)  (a0 : Nat) (h : pg_H) : pg_EvF l D RX11 cX11_freshReadings 1 (some (FieldType.object "SkyMargins$Readings")) "freshReadings" 5 139 pg_wR (F_X11_freshReadings a0 h) 0 [(0, pR a0)] [] h := by
  unfold F_X11_freshReadings
  refine pg_aload_n (i := 0) dX11_freshReadings_0 rfl 0 rfl ?_
  refine pg_getI dX11_freshReadings_1 fl_RX11_362 rfl (fun v1 => ?_)
  refine pg_if_ne (tgt := 27) dX11_freshReadings_4 rfl ?_ ?_
  · refine pg_aload_n (i := 0) dX11_freshReadings_27 rfl 0 rfl ?_
    refine pg_getR dX11_freshReadings_28 fl_RX11_50 rfl (fun v2 => ?_)
    exact pg_aret dX11_freshReadings_31 rfl rfl rfl
  · refine pg_aload_n (i := 0) dX11_freshReadings_7 rfl 0 rfl ?_
    refine pg_getR dX11_freshReadings_8 fl_RX11_50 rfl (fun v3 => ?_)
    refine pg_aload_n (i := 0) dX11_freshReadings_11 rfl 0 rfl ?_
    refine pg_getR dX11_freshReadings_12 fl_RX11_10 rfl (fun v4 => ?_)
    refine pg_aload_n (i := 0) dX11_freshReadings_15 rfl 0 rfl ?_
    refine pg_getR dX11_freshReadings_16 fl_RX11_43 rfl (fun v5 => ?_)
    refine pg_callV_wV (As := [pR v4, pR v5]) (rs := []) dX11_freshReadings_19 lk_RX11_369 vy_X4_gather nd_X4_gather (c_X4_gather l D v3 v4 v5 h) rfl rfl (Nat.le_of_ble_eq_true rfl) (by decide) (by decide) (fun v6 => ?_)
    refine pg_aload_n (i := 0) dX11_freshReadings_22 rfl 0 rfl ?_
    refine pg_iconst dX11_freshReadings_23 ci_1 ?_
    refine pg_putZ dX11_freshReadings_24 fl_RX11_362 (fun z => by cases z) (fun v7 => ?_)
    refine pg_aload_n (i := 0) dX11_freshReadings_27 rfl 0 rfl ?_
    refine pg_getR dX11_freshReadings_28 fl_RX11_50 rfl (fun v8 => ?_)
    exact pg_aret dX11_freshReadings_31 rfl rfl rfl
theorem c_X11_freshReadings (l : Launch) (D : pg_D) (a0 : Nat) (h : pg_H) : ∀ x, F_X11_freshReadings a0 h = some x → pg_Ct l D yX11_freshReadings cX11_freshReadings 1 (some (FieldType.object "SkyMargins$Readings")) 5 139 [pR a0] h (pg_wR x) :=
  pg_Ct.of pn_RX11 (Nat.le_of_ble_eq_true rfl) (e_X11_freshReadings l D a0 h)
def F_X11_of (a0 : Nat) (a1 : Int32) (a2 : Int32) (h : pg_H) : Option (Int32 × pg_H) := Option.bind (pg_gR 11 0 h a0) fun v1 => Option.bind (pg_gR 5 4 h v1) fun v2 => Option.bind (pg_rcv 7 h v2 (F_X7_holds h v2 a1)) fun v3 => (if v3 = 0 then (some ((-2 : Int32), h)) else Option.bind (F_X11_within a2 (0 : Int32) (5 : Int32)) fun v4 => (if v4 = 0 then (some ((-2 : Int32), h)) else (if a2 = (5 : Int32) then Option.bind (pg_rcv 11 h a0 (F_X11_freshReadings a0 h)) fun v8 => Option.bind (pg_gR 11 0 v8.2 a0) fun v9 => Option.bind (pg_rcv 4 v8.2 v8.1 (F_X4_sharedOf v8.2 v8.1 v9 a1)) fun v10 => (some (v10, v8.2)) else Option.bind (pg_gR 11 0 h a0) fun v5 => Option.bind (pg_gR 5 4 h v5) fun v6 => Option.bind (pg_rcv 7 h v6 (F_X7_at h v6 a1 a2)) fun v7 => (some (v7, h)))))
theorem e_X11_of (l : Launch) (D : pg_D)  (a0 : Nat) (a1 : Int32) (a2 : Int32) (h : pg_H) : pg_EvF l D RX11 cX11_of 3 (some FieldType.int) "of" 6 159 pg_wI (F_X11_of a0 a1 a2 h) 0 [(0, pR a0), (1, pI a1), (2, pI a2)] [] h := by
  unfold F_X11_of
  refine pg_aload_n (i := 0) dX11_of_0 rfl 0 rfl ?_
  refine pg_getR dX11_of_1 fl_RX11_10 rfl (fun v1 => ?_)
  refine pg_getR dX11_of_4 fl_RX11_145 rfl (fun v2 => ?_)
  refine pg_iload_n (i := 1) dX11_of_7 rfl 1 rfl ?_
  refine pg_callV_oI (As := [pI a1]) (rs := []) dX11_of_8 lk_RX11_108 vy_X7_holds nd_X7_holds (c_X7_holds l D h v2 a1) rfl rfl (Nat.le_of_ble_eq_true rfl) (by decide) (by decide) (fun v3 => ?_)
  refine pg_if_eq (tgt := 23) dX11_of_11 rfl ?_ ?_
  · refine pg_bipush dX11_of_23 cb_m2 ?_
    exact pg_iret dX11_of_25 rfl rfl
  · refine pg_iload_n (i := 2) dX11_of_14 rfl 2 rfl ?_
    refine pg_iconst dX11_of_15 ci_0 ?_
    refine pg_iconst dX11_of_16 ci_5 ?_
    refine pg_callS_oI (As := [pI a2, pI (0 : Int32), pI (5 : Int32)]) (rs := []) dX11_of_17 lk_RX11_83 vy_X11_within nd_X11_within (c_X11_within l D a2 (0 : Int32) (5 : Int32) h) rfl rfl (Nat.le_of_ble_eq_true rfl) (by decide) (by decide) (fun v4 => ?_)
    refine pg_if_ne (tgt := 26) dX11_of_20 rfl ?_ ?_
    · refine pg_iload_n (i := 2) dX11_of_26 rfl 2 rfl ?_
      refine pg_iconst dX11_of_27 ci_5 ?_
      refine pg_icmp_ne (tgt := 46) dX11_of_28 rfl ?_ ?_
      · refine pg_aload_n (i := 0) dX11_of_46 rfl 0 rfl ?_
        refine pg_getR dX11_of_47 fl_RX11_10 rfl (fun v5 => ?_)
        refine pg_getR dX11_of_50 fl_RX11_145 rfl (fun v6 => ?_)
        refine pg_iload_n (i := 1) dX11_of_53 rfl 1 rfl ?_
        refine pg_iload_n (i := 2) dX11_of_54 rfl 2 rfl ?_
        refine pg_callV_oI (As := [pI a1, pI a2]) (rs := []) dX11_of_55 lk_RX11_156 vy_X7_at nd_X7_at (c_X7_at l D h v6 a1 a2) rfl rfl (Nat.le_of_ble_eq_true rfl) (by decide) (by decide) (fun v7 => ?_)
        exact pg_iret dX11_of_58 rfl rfl
      · refine pg_aload_n (i := 0) dX11_of_31 rfl 0 rfl ?_
        refine pg_callV_wR (As := []) (rs := []) dX11_of_32 lk_RX11_148 vy_X11_freshReadings nd_X11_freshReadings (c_X11_freshReadings l D a0 h) rfl rfl (Nat.le_of_ble_eq_true rfl) (by decide) (by decide) (fun v8 => ?_)
        refine pg_aload_n (i := 0) dX11_of_35 rfl 0 rfl ?_
        refine pg_getR dX11_of_36 fl_RX11_10 rfl (fun v9 => ?_)
        refine pg_iload_n (i := 1) dX11_of_39 rfl 1 rfl ?_
        refine pg_callV_oI (As := [pR v9, pI a1]) (rs := []) dX11_of_40 lk_RX11_152 vy_X4_sharedOf nd_X4_sharedOf (c_X4_sharedOf l D v8.2 v8.1 v9 a1) rfl rfl (Nat.le_of_ble_eq_true rfl) (by decide) (by decide) (fun v10 => ?_)
        refine pg_goto (tgt := 58) dX11_of_43 rfl ?_
        exact pg_iret dX11_of_58 rfl rfl
    · refine pg_bipush dX11_of_23 cb_m2 ?_
      exact pg_iret dX11_of_25 rfl rfl
theorem c_X11_of (l : Launch) (D : pg_D) (a0 : Nat) (a1 : Int32) (a2 : Int32) (h : pg_H) : ∀ x, F_X11_of a0 a1 a2 h = some x → pg_Ct l D yX11_of cX11_of 3 (some FieldType.int) 6 159 [pR a0, pI a1, pI a2] h (pg_wI x) :=
  pg_Ct.of pn_RX11 (Nat.le_of_ble_eq_true rfl) (e_X11_of l D a0 a1 a2 h)
def F_X11_terms_26 (a0 : Nat) (h : pg_H) : Option (Int32 × pg_H) := Option.bind (pg_rcv 11 h a0 (F_X11_refuse a0 (-1 : Int32) h)) fun v1 => (some (v1.1, v1.2))
def F_X11_terms (a0 : Nat) (a1 : Int32) (a2 : Int32) (h : pg_H) : Option (Int32 × pg_H) := Option.bind (F_X11_within a1 (0 : Int32) (3 : Int32)) fun v1 => (if v1 = 0 then (F_X11_terms_26 a0 h) else Option.bind (pg_xI 1 pg_least (pg_lim + 1) a1) fun v2 => Option.bind (pg_xI 2 pg_most (pg_lim + 2) a1) fun v3 => Option.bind (F_X11_within a2 v2 v3) fun v4 => (if v4 = 0 then (F_X11_terms_26 a0 h) else Option.bind (pg_gR 11 0 h a0) fun v5 => Option.bind (pg_gR 5 5 h v5) fun v6 => Option.bind (pg_aI 21 h v6 a1) fun v7 => Option.bind (pg_gR 11 0 h a0) fun v8 => Option.bind (pg_gR 5 5 h v8) fun v9 => Option.bind (pg_sI 21 h v9 a1 a2) fun v10 => Option.bind (pg_rcv 11 v10 a0 (F_X11_changed a0 v7 v10)) fun v11 => (some (v11.1, v11.2))))
theorem e_X11_terms_26 (l : Launch) (D : pg_D)  (a0 : Nat) (h : pg_H) : pg_EvF l D RX11 cX11_terms 4 (some FieldType.int) "terms" 2 43 pg_wI (F_X11_terms_26 a0 h) 26 [(0, pR a0)] [] h := by
  unfold F_X11_terms_26
  refine pg_aload_n (i := 0) dX11_terms_26 rfl 0 rfl ?_
  refine pg_iconst dX11_terms_27 ci_m1 ?_
  refine pg_callV_wI (As := [pI (-1 : Int32)]) (rs := []) dX11_terms_28 lk_RX11_87 vy_X11_refuse nd_X11_refuse (c_X11_refuse l D a0 (-1 : Int32) h) rfl rfl (Nat.le_of_ble_eq_true rfl) (by decide) (by decide) (fun v1 => ?_)
  exact pg_iret dX11_terms_31 rfl rfl
theorem e_X11_terms (l : Launch) (D : pg_D)  (a0 : Nat) (a1 : Int32) (a2 : Int32) (h : pg_H) : pg_EvF l D RX11 cX11_terms 4 (some FieldType.int) "terms" 2 43 pg_wI (F_X11_terms a0 a1 a2 h) 0 [(0, pR a0), (1, pI a1), (2, pI a2)] [] h := by
  unfold F_X11_terms
  refine pg_iload_n (i := 1) dX11_terms_0 rfl 1 rfl ?_
  refine pg_iconst dX11_terms_1 ci_0 ?_
  refine pg_iconst dX11_terms_2 ci_3 ?_
  refine pg_callS_oI (As := [pI a1, pI (0 : Int32), pI (3 : Int32)]) (rs := []) dX11_terms_3 lk_RX11_83 vy_X11_within nd_X11_within (c_X11_within l D a1 (0 : Int32) (3 : Int32) h) rfl rfl (Nat.le_of_ble_eq_true rfl) (by decide) (by decide) (fun v1 => ?_)
  refine pg_if_eq (tgt := 26) dX11_terms_6 rfl ?_ ?_
  · exact pg_to (e_X11_terms_26 l D a0 h) [0] rfl
  · refine pg_iload_n (i := 2) dX11_terms_9 rfl 2 rfl ?_
    refine pg_getsL dX11_terms_10 pw3_57 ?_
    refine pg_iload_n (i := 1) dX11_terms_13 rfl 1 rfl ?_
    refine pg_xaload 1 (by decide) (fun w => w.2.2.2.1.2.1) dX11_terms_14 (fun v2 => ?_)
    refine pg_getsM dX11_terms_15 pw3_59 ?_
    refine pg_iload_n (i := 1) dX11_terms_18 rfl 1 rfl ?_
    refine pg_xaload 2 (by decide) (fun w => w.2.2.2.1.2.2) dX11_terms_19 (fun v3 => ?_)
    refine pg_callS_oI (As := [pI a2, pI v2, pI v3]) (rs := []) dX11_terms_20 lk_RX11_83 vy_X11_within nd_X11_within (c_X11_within l D a2 v2 v3 h) rfl rfl (Nat.le_of_ble_eq_true rfl) (by decide) (by decide) (fun v4 => ?_)
    refine pg_if_ne (tgt := 32) dX11_terms_23 rfl ?_ ?_
    · refine pg_aload_n (i := 0) dX11_terms_32 rfl 0 rfl ?_
      refine pg_getR dX11_terms_33 fl_RX11_10 rfl (fun v5 => ?_)
      refine pg_getR dX11_terms_36 fl_RX11_166 rfl (fun v6 => ?_)
      refine pg_iload_n (i := 1) dX11_terms_39 rfl 1 rfl ?_
      refine pg_iaload dX11_terms_40 (fun v7 => ?_)
      refine pg_istore_n (i := 3) (lv' := [(3, pI v7), (0, pR a0), (1, pI a1), (2, pI a2)]) dX11_terms_41 rfl (by decide) rfl ?_
      refine pg_aload_n (i := 0) dX11_terms_42 rfl 1 rfl ?_
      refine pg_getR dX11_terms_43 fl_RX11_10 rfl (fun v8 => ?_)
      refine pg_getR dX11_terms_46 fl_RX11_166 rfl (fun v9 => ?_)
      refine pg_iload_n (i := 1) dX11_terms_49 rfl 2 rfl ?_
      refine pg_iload_n (i := 2) dX11_terms_50 rfl 3 rfl ?_
      refine pg_iastore dX11_terms_51 (fun v10 => ?_)
      refine pg_aload_n (i := 0) dX11_terms_52 rfl 1 rfl ?_
      refine pg_iload_n (i := 3) dX11_terms_53 rfl 0 rfl ?_
      refine pg_callV_wI (As := [pI v7]) (rs := []) dX11_terms_54 lk_RX11_105 vy_X11_changed nd_X11_changed (c_X11_changed l D a0 v7 v10) rfl rfl (Nat.le_of_ble_eq_true rfl) (by decide) (by decide) (fun v11 => ?_)
      exact pg_iret dX11_terms_57 rfl rfl
    · exact pg_to (e_X11_terms_26 l D a0 h) [0] rfl
theorem c_X11_terms (l : Launch) (D : pg_D) (a0 : Nat) (a1 : Int32) (a2 : Int32) (h : pg_H) : ∀ x, F_X11_terms a0 a1 a2 h = some x → pg_Ct l D yX11_terms cX11_terms 4 (some FieldType.int) 2 43 [pR a0, pI a1, pI a2] h (pg_wI x) :=
  pg_Ct.of pn_RX11 (Nat.le_of_ble_eq_true rfl) (e_X11_terms l D a0 a1 a2 h)
def F_X11_feed (a0 : Nat) (a1 : Int32) (a2 : Int32) (a3 : Int32) (a4 : Int32) (a5 : Int32) (h : pg_H) : Option (Int32 × pg_H) := Option.bind (pg_gR 11 3 h a0) fun v1 => Option.bind (pg_rcv 8 h v1 (F_X8_hasRoomFor h v1 (20 : Int32))) fun v2 => (if v2 = 0 then (some ((-1 : Int32), h)) else Option.bind (pg_gR 11 3 h a0) fun v3 => Option.bind (pg_rcv 8 h v3 (F_X8_putNumber v3 a1 h)) fun v4 => Option.bind (pg_gR 11 3 v4 a0) fun v5 => Option.bind (pg_rcv 8 v4 v5 (F_X8_putNumber v5 a2 v4)) fun v6 => Option.bind (pg_gR 11 3 v6 a0) fun v7 => Option.bind (pg_rcv 8 v6 v7 (F_X8_putNumber v7 a3 v6)) fun v8 => Option.bind (pg_gR 11 3 v8 a0) fun v9 => Option.bind (pg_rcv 8 v8 v9 (F_X8_putNumber v9 a4 v8)) fun v10 => Option.bind (pg_gR 11 3 v10 a0) fun v11 => Option.bind (pg_rcv 8 v10 v11 (F_X8_putNumber v11 a5 v10)) fun v12 => Option.bind (pg_gR 11 3 v12 a0) fun v13 => Option.bind (pg_rcv 8 v12 v13 (F_X8_size v12 v13)) fun v14 => (some (v14, v12)))
theorem e_X11_feed (l : Launch) (D : pg_D)  (a0 : Nat) (a1 : Int32) (a2 : Int32) (a3 : Int32) (a4 : Int32) (a5 : Int32) (h : pg_H) : pg_EvF l D RX11 cX11_feed 6 (some FieldType.int) "feed" 1 22 pg_wI (F_X11_feed a0 a1 a2 a3 a4 a5 h) 0 [(0, pR a0), (1, pI a1), (2, pI a2), (3, pI a3), (4, pI a4), (5, pI a5)] [] h := by
  unfold F_X11_feed
  refine pg_aload_n (i := 0) dX11_feed_0 rfl 0 rfl ?_
  refine pg_getR dX11_feed_1 fl_RX11_27 rfl (fun v1 => ?_)
  refine pg_bipush dX11_feed_4 cb_20 ?_
  refine pg_callV_oI (As := [pI (20 : Int32)]) (rs := []) dX11_feed_6 lk_RX11_169 vy_X8_hasRoomFor nd_X8_hasRoomFor (c_X8_hasRoomFor l D h v1 (20 : Int32)) rfl rfl (Nat.le_of_ble_eq_true rfl) (by decide) (by decide) (fun v2 => ?_)
  refine pg_if_ne (tgt := 14) dX11_feed_9 rfl ?_ ?_
  · refine pg_aload_n (i := 0) dX11_feed_14 rfl 0 rfl ?_
    refine pg_getR dX11_feed_15 fl_RX11_27 rfl (fun v3 => ?_)
    refine pg_iload_n (i := 1) dX11_feed_18 rfl 1 rfl ?_
    refine pg_callV_wV (As := [pI a1]) (rs := []) dX11_feed_19 lk_RX11_172 vy_X8_putNumber nd_X8_putNumber (c_X8_putNumber l D v3 a1 h) rfl rfl (Nat.le_of_ble_eq_true rfl) (by decide) (by decide) (fun v4 => ?_)
    refine pg_aload_n (i := 0) dX11_feed_22 rfl 0 rfl ?_
    refine pg_getR dX11_feed_23 fl_RX11_27 rfl (fun v5 => ?_)
    refine pg_iload_n (i := 2) dX11_feed_26 rfl 2 rfl ?_
    refine pg_callV_wV (As := [pI a2]) (rs := []) dX11_feed_27 lk_RX11_172 vy_X8_putNumber nd_X8_putNumber (c_X8_putNumber l D v5 a2 v4) rfl rfl (Nat.le_of_ble_eq_true rfl) (by decide) (by decide) (fun v6 => ?_)
    refine pg_aload_n (i := 0) dX11_feed_30 rfl 0 rfl ?_
    refine pg_getR dX11_feed_31 fl_RX11_27 rfl (fun v7 => ?_)
    refine pg_iload_n (i := 3) dX11_feed_34 rfl 3 rfl ?_
    refine pg_callV_wV (As := [pI a3]) (rs := []) dX11_feed_35 lk_RX11_172 vy_X8_putNumber nd_X8_putNumber (c_X8_putNumber l D v7 a3 v6) rfl rfl (Nat.le_of_ble_eq_true rfl) (by decide) (by decide) (fun v8 => ?_)
    refine pg_aload_n (i := 0) dX11_feed_38 rfl 0 rfl ?_
    refine pg_getR dX11_feed_39 fl_RX11_27 rfl (fun v9 => ?_)
    refine pg_iload dX11_feed_42 4 rfl ?_
    refine pg_callV_wV (As := [pI a4]) (rs := []) dX11_feed_44 lk_RX11_172 vy_X8_putNumber nd_X8_putNumber (c_X8_putNumber l D v9 a4 v8) rfl rfl (Nat.le_of_ble_eq_true rfl) (by decide) (by decide) (fun v10 => ?_)
    refine pg_aload_n (i := 0) dX11_feed_47 rfl 0 rfl ?_
    refine pg_getR dX11_feed_48 fl_RX11_27 rfl (fun v11 => ?_)
    refine pg_iload dX11_feed_51 5 rfl ?_
    refine pg_callV_wV (As := [pI a5]) (rs := []) dX11_feed_53 lk_RX11_172 vy_X8_putNumber nd_X8_putNumber (c_X8_putNumber l D v11 a5 v10) rfl rfl (Nat.le_of_ble_eq_true rfl) (by decide) (by decide) (fun v12 => ?_)
    refine pg_aload_n (i := 0) dX11_feed_56 rfl 0 rfl ?_
    refine pg_getR dX11_feed_57 fl_RX11_27 rfl (fun v13 => ?_)
    refine pg_callV_oI (As := []) (rs := []) dX11_feed_60 lk_RX11_176 vy_X8_size nd_X8_size (c_X8_size l D v12 v13) rfl rfl (Nat.le_of_ble_eq_true rfl) (by decide) (by decide) (fun v14 => ?_)
    exact pg_iret dX11_feed_63 rfl rfl
  · refine pg_iconst dX11_feed_12 ci_m1 ?_
    exact pg_iret dX11_feed_13 rfl rfl
theorem c_X11_feed (l : Launch) (D : pg_D) (a0 : Nat) (a1 : Int32) (a2 : Int32) (a3 : Int32) (a4 : Int32) (a5 : Int32) (h : pg_H) : ∀ x, F_X11_feed a0 a1 a2 a3 a4 a5 h = some x → pg_Ct l D yX11_feed cX11_feed 6 (some FieldType.int) 1 22 [pR a0, pI a1, pI a2, pI a3, pI a4, pI a5] h (pg_wI x) :=
  pg_Ct.of pn_RX11 (Nat.le_of_ble_eq_true rfl) (e_X11_feed l D a0 a1 a2 a3 a4 a5 h)
def F_X11_end (a0 : Nat) (a1 : Int32) (h : pg_H) : Option (Int32 × pg_H) := Option.bind (pg_gR 11 3 h a0) fun v1 => Option.bind (pg_rcv 8 h v1 (F_X8_size h v1)) fun v2 => Option.bind (F_X11_within a1 (0 : Int32) v2) fun v3 => (if v3 = 0 then (some ((-1 : Int32), h)) else Option.bind (pg_gR 11 3 h a0) fun v4 => Option.bind (pg_rcv 8 h v4 (F_X8_shorten v4 a1 h)) fun v5 => (some (a1, v5)))
theorem e_X11_end (l : Launch) (D : pg_D)  (a0 : Nat) (a1 : Int32) (h : pg_H) : pg_EvF l D RX11 cX11_end 2 (some FieldType.int) "end" 2 51 pg_wI (F_X11_end a0 a1 h) 0 [(0, pR a0), (1, pI a1)] [] h := by
  unfold F_X11_end
  refine pg_iload_n (i := 1) dX11_end_0 rfl 1 rfl ?_
  refine pg_iconst dX11_end_1 ci_0 ?_
  refine pg_aload_n (i := 0) dX11_end_2 rfl 0 rfl ?_
  refine pg_getR dX11_end_3 fl_RX11_27 rfl (fun v1 => ?_)
  refine pg_callV_oI (As := []) (rs := [pI (0 : Int32), pI a1]) dX11_end_6 lk_RX11_176 vy_X8_size nd_X8_size (c_X8_size l D h v1) rfl rfl (Nat.le_of_ble_eq_true rfl) (by decide) (by decide) (fun v2 => ?_)
  refine pg_callS_oI (As := [pI a1, pI (0 : Int32), pI v2]) (rs := []) dX11_end_9 lk_RX11_83 vy_X11_within nd_X11_within (c_X11_within l D a1 (0 : Int32) v2 h) rfl rfl (Nat.le_of_ble_eq_true rfl) (by decide) (by decide) (fun v3 => ?_)
  refine pg_if_ne (tgt := 17) dX11_end_12 rfl ?_ ?_
  · refine pg_aload_n (i := 0) dX11_end_17 rfl 0 rfl ?_
    refine pg_getR dX11_end_18 fl_RX11_27 rfl (fun v4 => ?_)
    refine pg_iload_n (i := 1) dX11_end_21 rfl 1 rfl ?_
    refine pg_callV_wV (As := [pI a1]) (rs := []) dX11_end_22 lk_RX11_177 vy_X8_shorten nd_X8_shorten (c_X8_shorten l D v4 a1 h) rfl rfl (Nat.le_of_ble_eq_true rfl) (by decide) (by decide) (fun v5 => ?_)
    refine pg_iload_n (i := 1) dX11_end_25 rfl 1 rfl ?_
    exact pg_iret dX11_end_26 rfl rfl
  · refine pg_iconst dX11_end_15 ci_m1 ?_
    exact pg_iret dX11_end_16 rfl rfl
theorem c_X11_end (l : Launch) (D : pg_D) (a0 : Nat) (a1 : Int32) (h : pg_H) : ∀ x, F_X11_end a0 a1 h = some x → pg_Ct l D yX11_end cX11_end 2 (some FieldType.int) 2 51 [pR a0, pI a1] h (pg_wI x) :=
  pg_Ct.of pn_RX11 (Nat.le_of_ble_eq_true rfl) (e_X11_end l D a0 a1 h)
def F_X11_takeFromRow_47 (a0 : Nat) (a1 : Int32) (a3 : Int32) (a4 : Int32) (s0 : Int32) (h : pg_H) : Option (Int32 × pg_H) := Option.bind (F_X11_isNote a3 a4 (0 : Int32)) fun v1 => (if v1 = 0 then (some ((0 : Int32), h)) else Option.bind (pg_gR 11 0 h a0) fun v2 => Option.bind (pg_rcv 5 h v2 (F_X5_isHandOrUnknown h v2 s0)) fun v3 => (if v3 = 0 then (some ((0 : Int32), h)) else Option.bind (pg_gR 11 0 h a0) fun v4 => Option.bind (pg_rcv 5 h v4 (F_X5_hasNote h v4 a1 a3 a4 (0 : Int32))) fun v5 => (if v5 = 0 then Option.bind (pg_gR 11 0 h a0) fun v6 => Option.bind (pg_rcv 5 h v6 (F_X5_addNote v6 a1 a3 a4 s0 (0 : Int32) h)) fun v7 => (if v7.1 = (-1 : Int32) then (some ((0 : Int32), v7.2)) else (some ((1 : Int32), v7.2))) else (some ((0 : Int32), h)))))
def F_X11_takeFromRow (a0 : Nat) (a1 : Int32) (a2 : Int32) (h : pg_H) : Option (Int32 × pg_H) := Option.bind (pg_gR 11 3 h a0) fun v1 => Option.bind (pg_rcv 8 h v1 (F_X8_byteAt h v1 a2)) fun v2 => Option.bind (pg_gR 11 3 h a0) fun v3 => Option.bind (pg_rcv 8 h v3 (F_X8_byteAt h v3 (a2 + (1 : Int32)))) fun v4 => Option.bind (pg_gR 11 3 h a0) fun v5 => Option.bind (pg_rcv 8 h v5 (F_X8_byteAt h v5 (a2 + (2 : Int32)))) fun v6 => (if v6 = (255 : Int32) then (F_X11_takeFromRow_47 a0 a1 v2 v4 (-1 : Int32) h) else (F_X11_takeFromRow_47 a0 a1 v2 v4 v6 h))
theorem e_X11_takeFromRow_47 (l : Launch) (D : pg_D)  (a0 : Nat) (a1 : Int32) (a3 : Int32) (a4 : Int32) (s0 : Int32) (h : pg_H) : pg_EvF l D RX11 cX11_takeFromRow 7 (some FieldType.boolean) "takeFromRow" 4 94 pg_wI (F_X11_takeFromRow_47 a0 a1 a3 a4 s0 h) 47 [(0, pR a0), (1, pI a1), (3, pI a3), (4, pI a4)] [pI s0] h := by
  unfold F_X11_takeFromRow_47
  refine pg_istore (lv' := [(6, pI s0), (0, pR a0), (1, pI a1), (3, pI a3), (4, pI a4)]) dX11_takeFromRow_47 (by decide) rfl ?_
  refine pg_iload_n (i := 3) dX11_takeFromRow_49 rfl 3 rfl ?_
  refine pg_iload dX11_takeFromRow_50 4 rfl ?_
  refine pg_iconst dX11_takeFromRow_52 ci_0 ?_
  refine pg_callS_oI (As := [pI a3, pI a4, pI (0 : Int32)]) (rs := []) dX11_takeFromRow_53 lk_RX11_131 vy_X11_isNote nd_X11_isNote (c_X11_isNote l D a3 a4 (0 : Int32) h) rfl rfl (Nat.le_of_ble_eq_true rfl) (by decide) (by decide) (fun v1 => ?_)
  refine pg_if_eq (tgt := 108) dX11_takeFromRow_56 rfl ?_ ?_
  · refine pg_iconst dX11_takeFromRow_108 ci_0 ?_
    exact pg_zret dX11_takeFromRow_109 rfl (Or.inl rfl) rfl
  · refine pg_aload_n (i := 0) dX11_takeFromRow_59 rfl 1 rfl ?_
    refine pg_getR dX11_takeFromRow_60 fl_RX11_10 rfl (fun v2 => ?_)
    refine pg_iload dX11_takeFromRow_63 0 rfl ?_
    refine pg_callV_oI (As := [pI s0]) (rs := []) dX11_takeFromRow_65 lk_RX11_134 vy_X5_isHandOrUnknown nd_X5_isHandOrUnknown (c_X5_isHandOrUnknown l D h v2 s0) rfl rfl (Nat.le_of_ble_eq_true rfl) (by decide) (by decide) (fun v3 => ?_)
    refine pg_if_eq (tgt := 108) dX11_takeFromRow_68 rfl ?_ ?_
    · refine pg_iconst dX11_takeFromRow_108 ci_0 ?_
      exact pg_zret dX11_takeFromRow_109 rfl (Or.inl rfl) rfl
    · refine pg_aload_n (i := 0) dX11_takeFromRow_71 rfl 1 rfl ?_
      refine pg_getR dX11_takeFromRow_72 fl_RX11_10 rfl (fun v4 => ?_)
      refine pg_iload_n (i := 1) dX11_takeFromRow_75 rfl 2 rfl ?_
      refine pg_iload_n (i := 3) dX11_takeFromRow_76 rfl 3 rfl ?_
      refine pg_iload dX11_takeFromRow_77 4 rfl ?_
      refine pg_iconst dX11_takeFromRow_79 ci_0 ?_
      refine pg_callV_oI (As := [pI a1, pI a3, pI a4, pI (0 : Int32)]) (rs := []) dX11_takeFromRow_80 lk_RX11_137 vy_X5_hasNote nd_X5_hasNote (c_X5_hasNote l D h v4 a1 a3 a4 (0 : Int32)) rfl rfl (Nat.le_of_ble_eq_true rfl) (by decide) (by decide) (fun v5 => ?_)
      refine pg_if_ne (tgt := 108) dX11_takeFromRow_83 rfl ?_ ?_
      · refine pg_iconst dX11_takeFromRow_108 ci_0 ?_
        exact pg_zret dX11_takeFromRow_109 rfl (Or.inl rfl) rfl
      · refine pg_aload_n (i := 0) dX11_takeFromRow_86 rfl 1 rfl ?_
        refine pg_getR dX11_takeFromRow_87 fl_RX11_10 rfl (fun v6 => ?_)
        refine pg_iload_n (i := 1) dX11_takeFromRow_90 rfl 2 rfl ?_
        refine pg_iload_n (i := 3) dX11_takeFromRow_91 rfl 3 rfl ?_
        refine pg_iload dX11_takeFromRow_92 4 rfl ?_
        refine pg_iload dX11_takeFromRow_94 0 rfl ?_
        refine pg_iconst dX11_takeFromRow_96 ci_0 ?_
        refine pg_callV_wI (As := [pI a1, pI a3, pI a4, pI s0, pI (0 : Int32)]) (rs := []) dX11_takeFromRow_97 lk_RX11_141 vy_X5_addNote nd_X5_addNote (c_X5_addNote l D v6 a1 a3 a4 s0 (0 : Int32) h) rfl rfl (Nat.le_of_ble_eq_true rfl) (by decide) (by decide) (fun v7 => ?_)
        refine pg_iconst dX11_takeFromRow_100 ci_m1 ?_
        refine pg_icmp_eq (tgt := 108) dX11_takeFromRow_101 rfl ?_ ?_
        · refine pg_iconst dX11_takeFromRow_108 ci_0 ?_
          exact pg_zret dX11_takeFromRow_109 rfl (Or.inl rfl) rfl
        · refine pg_iconst dX11_takeFromRow_104 ci_1 ?_
          refine pg_goto (tgt := 109) dX11_takeFromRow_105 rfl ?_
          exact pg_zret dX11_takeFromRow_109 rfl (Or.inr rfl) rfl
theorem e_X11_takeFromRow (l : Launch) (D : pg_D)  (a0 : Nat) (a1 : Int32) (a2 : Int32) (h : pg_H) : pg_EvF l D RX11 cX11_takeFromRow 7 (some FieldType.boolean) "takeFromRow" 4 94 pg_wI (F_X11_takeFromRow a0 a1 a2 h) 0 [(0, pR a0), (1, pI a1), (2, pI a2)] [] h := by
  unfold F_X11_takeFromRow
  refine pg_aload_n (i := 0) dX11_takeFromRow_0 rfl 0 rfl ?_
  refine pg_getR dX11_takeFromRow_1 fl_RX11_27 rfl (fun v1 => ?_)
  refine pg_iload_n (i := 2) dX11_takeFromRow_4 rfl 2 rfl ?_
  refine pg_callV_oI (As := [pI a2]) (rs := []) dX11_takeFromRow_5 lk_RX11_377 vy_X8_byteAt nd_X8_byteAt (c_X8_byteAt l D h v1 a2) rfl rfl (Nat.le_of_ble_eq_true rfl) (by decide) (by decide) (fun v2 => ?_)
  refine pg_istore_n (i := 3) (lv' := [(3, pI v2), (0, pR a0), (1, pI a1), (2, pI a2)]) dX11_takeFromRow_8 rfl (by decide) rfl ?_
  refine pg_aload_n (i := 0) dX11_takeFromRow_9 rfl 1 rfl ?_
  refine pg_getR dX11_takeFromRow_10 fl_RX11_27 rfl (fun v3 => ?_)
  refine pg_iload_n (i := 2) dX11_takeFromRow_13 rfl 3 rfl ?_
  refine pg_iconst dX11_takeFromRow_14 ci_1 ?_
  refine pg_iadd dX11_takeFromRow_15 ?_
  refine pg_callV_oI (As := [pI (a2 + (1 : Int32))]) (rs := []) dX11_takeFromRow_16 lk_RX11_377 vy_X8_byteAt nd_X8_byteAt (c_X8_byteAt l D h v3 (a2 + (1 : Int32))) rfl rfl (Nat.le_of_ble_eq_true rfl) (by decide) (by decide) (fun v4 => ?_)
  refine pg_istore (lv' := [(4, pI v4), (3, pI v2), (0, pR a0), (1, pI a1), (2, pI a2)]) dX11_takeFromRow_19 (by decide) rfl ?_
  refine pg_aload_n (i := 0) dX11_takeFromRow_21 rfl 2 rfl ?_
  refine pg_getR dX11_takeFromRow_22 fl_RX11_27 rfl (fun v5 => ?_)
  refine pg_iload_n (i := 2) dX11_takeFromRow_25 rfl 4 rfl ?_
  refine pg_iconst dX11_takeFromRow_26 ci_2 ?_
  refine pg_iadd dX11_takeFromRow_27 ?_
  refine pg_callV_oI (As := [pI (a2 + (2 : Int32))]) (rs := []) dX11_takeFromRow_28 lk_RX11_377 vy_X8_byteAt nd_X8_byteAt (c_X8_byteAt l D h v5 (a2 + (2 : Int32))) rfl rfl (Nat.le_of_ble_eq_true rfl) (by decide) (by decide) (fun v6 => ?_)
  refine pg_istore (lv' := [(5, pI v6), (4, pI v4), (3, pI v2), (0, pR a0), (1, pI a1), (2, pI a2)]) dX11_takeFromRow_31 (by decide) rfl ?_
  refine pg_iload dX11_takeFromRow_33 0 rfl ?_
  refine pg_sipush dX11_takeFromRow_35 cs_255 ?_
  refine pg_icmp_ne (tgt := 45) dX11_takeFromRow_38 rfl ?_ ?_
  · refine pg_iload dX11_takeFromRow_45 0 rfl ?_
    exact pg_to (e_X11_takeFromRow_47 l D a0 a1 v2 v4 v6 h) [3, 4, 2, 1] rfl
  · refine pg_iconst dX11_takeFromRow_41 ci_m1 ?_
    refine pg_goto (tgt := 47) dX11_takeFromRow_42 rfl ?_
    exact pg_to (e_X11_takeFromRow_47 l D a0 a1 v2 v4 (-1 : Int32) h) [3, 4, 2, 1] rfl
theorem c_X11_takeFromRow (l : Launch) (D : pg_D) (a0 : Nat) (a1 : Int32) (a2 : Int32) (h : pg_H) : ∀ x, F_X11_takeFromRow a0 a1 a2 h = some x → pg_Ct l D yX11_takeFromRow cX11_takeFromRow 7 (some FieldType.boolean) 4 94 [pR a0, pI a1, pI a2] h (pg_wI x) :=
  pg_Ct.of pn_RX11 (Nat.le_of_ble_eq_true rfl) (e_X11_takeFromRow l D a0 a1 a2 h)
def F_X11_row_81 (k48 : Nat → Int32 → Int32 → Int32 → Int32 → Int32 → pg_H → Option (Int32 × pg_H)) (a0 : Nat) (a1 : Int32) (a2 : Int32) (a3 : Int32) (a4 : Int32) (a5 : Int32) (h : pg_H) : Option (Int32 × pg_H) := (k48 a0 a1 a2 a3 a4 (a5 + (3 : Int32)) h)
def F_X11_row_78 (k48 : Nat → Int32 → Int32 → Int32 → Int32 → Int32 → pg_H → Option (Int32 × pg_H)) (a0 : Nat) (a1 : Int32) (a2 : Int32) (a3 : Int32) (a4 : Int32) (a5 : Int32) (h : pg_H) : Option (Int32 × pg_H) := (F_X11_row_81 k48 a0 a1 a2 a3 (a4 + (1 : Int32)) a5 h)
def F_X11_row_48  : Nat → Nat → Int32 → Int32 → Int32 → Int32 → Int32 → pg_H → Option (Int32 × pg_H)
  | 0 => fun _ _ _ _ _ _ _ => none
  | n + 1 => fun a0 a1 a2 a3 a4 a5 h => (if a5 < a2 then (if a2 < (a5 + (3 : Int32)) then (F_X11_row_78 (F_X11_row_48 n) a0 a1 a2 a3 a4 a5 h) else Option.bind (pg_rcv 11 h a0 (F_X11_takeFromRow a0 a1 a5 h)) fun v5 => (if v5.1 = 0 then (F_X11_row_78 (F_X11_row_48 n) a0 a1 a2 a3 a4 a5 v5.2) else (F_X11_row_81 (F_X11_row_48 n) a0 a1 a2 (a3 + (1 : Int32)) a4 a5 v5.2))) else Option.bind (pg_gR 11 3 h a0) fun v1 => Option.bind (pg_rcv 8 h v1 (F_X8_shorten v1 (0 : Int32) h)) fun v2 => Option.bind (pg_pI 11 12 v2 a0 a4) fun v3 => Option.bind (pg_rcv 11 v3 a0 (F_X11_changed a0 a3 v3)) fun v4 => (some (v4.1, v4.2)))
def F_X11_row (a0 : Nat) (a1 : Int32) (h : pg_H) : Option (Int32 × pg_H) := Option.bind (pg_gR 11 0 h a0) fun v1 => Option.bind (pg_gR 5 0 h v1) fun v2 => Option.bind (pg_rcv 7 h v2 (F_X7_holds h v2 a1)) fun v3 => (if v3 = 0 then Option.bind (pg_rcv 11 h a0 (F_X11_refuse a0 (-2 : Int32) h)) fun v7 => (some (v7.1, v7.2)) else Option.bind (pg_gR 11 3 h a0) fun v4 => Option.bind (pg_rcv 8 h v4 (F_X8_size h v4)) fun v5 => (if v5 = 0 then Option.bind (pg_rcv 11 h a0 (F_X11_refuse a0 (-6 : Int32) h)) fun v6 => (some (v6.1, v6.2)) else (F_X11_row_48 pg_fuel a0 a1 v5 (0 : Int32) (0 : Int32) (0 : Int32) h)))
theorem e_X11_row_81 (l : Launch) (D : pg_D)  (k48 : Nat → Int32 → Int32 → Int32 → Int32 → Int32 → pg_H → Option (Int32 × pg_H)) (hk48 : ∀ (a0 : Nat) (a1 : Int32) (a2 : Int32) (a3 : Int32) (a4 : Int32) (a5 : Int32) (h : pg_H), pg_EvF l D RX11 cX11_row 6 (some FieldType.int) "row" 5 120 pg_wI (k48 a0 a1 a2 a3 a4 a5 h) 48 [(0, pR a0), (1, pI a1), (2, pI a2), (3, pI a3), (4, pI a4), (5, pI a5)] [] h) (a0 : Nat) (a1 : Int32) (a2 : Int32) (a3 : Int32) (a4 : Int32) (a5 : Int32) (h : pg_H) : pg_EvF l D RX11 cX11_row 6 (some FieldType.int) "row" 5 120 pg_wI (F_X11_row_81 k48 a0 a1 a2 a3 a4 a5 h) 81 [(0, pR a0), (1, pI a1), (2, pI a2), (3, pI a3), (4, pI a4), (5, pI a5)] [] h := by
  unfold F_X11_row_81
  refine pg_iinc (lv' := [(5, pI (a5 + (3 : Int32))), (0, pR a0), (1, pI a1), (2, pI a2), (3, pI a3), (4, pI a4)]) dX11_row_81 5 rfl ci_3 (by decide) rfl ?_
  refine pg_goto (tgt := 48) dX11_row_84 rfl ?_
  exact pg_to (hk48 a0 a1 a2 a3 a4 (a5 + (3 : Int32)) h) [1, 2, 3, 4, 5, 0] rfl
theorem e_X11_row_78 (l : Launch) (D : pg_D)  (k48 : Nat → Int32 → Int32 → Int32 → Int32 → Int32 → pg_H → Option (Int32 × pg_H)) (hk48 : ∀ (a0 : Nat) (a1 : Int32) (a2 : Int32) (a3 : Int32) (a4 : Int32) (a5 : Int32) (h : pg_H), pg_EvF l D RX11 cX11_row 6 (some FieldType.int) "row" 5 120 pg_wI (k48 a0 a1 a2 a3 a4 a5 h) 48 [(0, pR a0), (1, pI a1), (2, pI a2), (3, pI a3), (4, pI a4), (5, pI a5)] [] h) (a0 : Nat) (a1 : Int32) (a2 : Int32) (a3 : Int32) (a4 : Int32) (a5 : Int32) (h : pg_H) : pg_EvF l D RX11 cX11_row 6 (some FieldType.int) "row" 5 120 pg_wI (F_X11_row_78 k48 a0 a1 a2 a3 a4 a5 h) 78 [(0, pR a0), (1, pI a1), (2, pI a2), (3, pI a3), (4, pI a4), (5, pI a5)] [] h := by
  unfold F_X11_row_78
  refine pg_iinc (lv' := [(4, pI (a4 + (1 : Int32))), (0, pR a0), (1, pI a1), (2, pI a2), (3, pI a3), (5, pI a5)]) dX11_row_78 4 rfl ci_1 (by decide) rfl ?_
  exact pg_to (e_X11_row_81 l D k48 hk48 a0 a1 a2 a3 (a4 + (1 : Int32)) a5 h) [1, 2, 3, 4, 0, 5] rfl
theorem e_X11_row_48 (l : Launch) (D : pg_D)   : ∀ (n : Nat) (a0 : Nat) (a1 : Int32) (a2 : Int32) (a3 : Int32) (a4 : Int32) (a5 : Int32) (h : pg_H), pg_EvF l D RX11 cX11_row 6 (some FieldType.int) "row" 5 120 pg_wI (F_X11_row_48 n a0 a1 a2 a3 a4 a5 h) 48 [(0, pR a0), (1, pI a1), (2, pI a2), (3, pI a3), (4, pI a4), (5, pI a5)] [] h := by
  intro n
  induction n with
  | zero => intro a0 a1 a2 a3 a4 a5 h; exact pg_none
  | succ n ih =>
    intro a0 a1 a2 a3 a4 a5 h
    rw [F_X11_row_48]
    refine pg_iload dX11_row_48 5 rfl ?_
    refine pg_iload_n (i := 2) dX11_row_50 rfl 2 rfl ?_
    refine pg_icmp_ge (tgt := 87) dX11_row_51 rfl ?_ ?_
    · refine pg_aload_n (i := 0) dX11_row_87 rfl 0 rfl ?_
      refine pg_getR dX11_row_88 fl_RX11_27 rfl (fun v1 => ?_)
      refine pg_iconst dX11_row_91 ci_0 ?_
      refine pg_callV_wV (As := [pI (0 : Int32)]) (rs := []) dX11_row_92 lk_RX11_177 vy_X8_shorten nd_X8_shorten (c_X8_shorten l D v1 (0 : Int32) h) rfl rfl (Nat.le_of_ble_eq_true rfl) (by decide) (by decide) (fun v2 => ?_)
      refine pg_aload_n (i := 0) dX11_row_95 rfl 0 rfl ?_
      refine pg_iload dX11_row_96 4 rfl ?_
      refine pg_putI dX11_row_98 fl_RX11_183 (fun z => by cases z) (fun v3 => ?_)
      refine pg_aload_n (i := 0) dX11_row_101 rfl 0 rfl ?_
      refine pg_iload_n (i := 3) dX11_row_102 rfl 3 rfl ?_
      refine pg_callV_wI (As := [pI a3]) (rs := []) dX11_row_103 lk_RX11_105 vy_X11_changed nd_X11_changed (c_X11_changed l D a0 a3 v3) rfl rfl (Nat.le_of_ble_eq_true rfl) (by decide) (by decide) (fun v4 => ?_)
      exact pg_iret dX11_row_106 rfl rfl
    · refine pg_iload dX11_row_54 5 rfl ?_
      refine pg_iconst dX11_row_56 ci_3 ?_
      refine pg_iadd dX11_row_57 ?_
      refine pg_iload_n (i := 2) dX11_row_58 rfl 2 rfl ?_
      refine pg_icmp_gt (tgt := 78) dX11_row_59 rfl ?_ ?_
      · exact pg_to (e_X11_row_78 l D (F_X11_row_48 n) ih a0 a1 a2 a3 a4 a5 h) [0, 1, 2, 3, 4, 5] rfl
      · refine pg_aload_n (i := 0) dX11_row_62 rfl 0 rfl ?_
        refine pg_iload_n (i := 1) dX11_row_63 rfl 1 rfl ?_
        refine pg_iload dX11_row_64 5 rfl ?_
        refine pg_callV_wI (As := [pI a1, pI a5]) (rs := []) dX11_row_66 lk_RX11_180 vy_X11_takeFromRow nd_X11_takeFromRow (c_X11_takeFromRow l D a0 a1 a5 h) rfl rfl (Nat.le_of_ble_eq_true rfl) (by decide) (by decide) (fun v5 => ?_)
        refine pg_if_eq (tgt := 78) dX11_row_69 rfl ?_ ?_
        · exact pg_to (e_X11_row_78 l D (F_X11_row_48 n) ih a0 a1 a2 a3 a4 a5 v5.2) [0, 1, 2, 3, 4, 5] rfl
        · refine pg_iinc (lv' := [(3, pI (a3 + (1 : Int32))), (0, pR a0), (1, pI a1), (2, pI a2), (4, pI a4), (5, pI a5)]) dX11_row_72 3 rfl ci_1 (by decide) rfl ?_
          refine pg_goto (tgt := 81) dX11_row_75 rfl ?_
          exact pg_to (e_X11_row_81 l D (F_X11_row_48 n) ih a0 a1 a2 (a3 + (1 : Int32)) a4 a5 v5.2) [1, 2, 3, 0, 4, 5] rfl
theorem e_X11_row (l : Launch) (D : pg_D)  (a0 : Nat) (a1 : Int32) (h : pg_H) : pg_EvF l D RX11 cX11_row 6 (some FieldType.int) "row" 5 120 pg_wI (F_X11_row a0 a1 h) 0 [(0, pR a0), (1, pI a1)] [] h := by
  unfold F_X11_row
  refine pg_aload_n (i := 0) dX11_row_0 rfl 0 rfl ?_
  refine pg_getR dX11_row_1 fl_RX11_10 rfl (fun v1 => ?_)
  refine pg_getR dX11_row_4 fl_RX11_91 rfl (fun v2 => ?_)
  refine pg_iload_n (i := 1) dX11_row_7 rfl 1 rfl ?_
  refine pg_callV_oI (As := [pI a1]) (rs := []) dX11_row_8 lk_RX11_108 vy_X7_holds nd_X7_holds (c_X7_holds l D h v2 a1) rfl rfl (Nat.le_of_ble_eq_true rfl) (by decide) (by decide) (fun v3 => ?_)
  refine pg_if_ne (tgt := 21) dX11_row_11 rfl ?_ ?_
  · refine pg_aload_n (i := 0) dX11_row_21 rfl 0 rfl ?_
    refine pg_getR dX11_row_22 fl_RX11_27 rfl (fun v4 => ?_)
    refine pg_callV_oI (As := []) (rs := []) dX11_row_25 lk_RX11_176 vy_X8_size nd_X8_size (c_X8_size l D h v4) rfl rfl (Nat.le_of_ble_eq_true rfl) (by decide) (by decide) (fun v5 => ?_)
    refine pg_istore_n (i := 2) (lv' := [(2, pI v5), (0, pR a0), (1, pI a1)]) dX11_row_28 rfl (by decide) rfl ?_
    refine pg_iload_n (i := 2) dX11_row_29 rfl 0 rfl ?_
    refine pg_if_ne (tgt := 40) dX11_row_30 rfl ?_ ?_
    · refine pg_iconst dX11_row_40 ci_0 ?_
      refine pg_istore_n (i := 3) (lv' := [(3, pI (0 : Int32)), (2, pI v5), (0, pR a0), (1, pI a1)]) dX11_row_41 rfl (by decide) rfl ?_
      refine pg_iconst dX11_row_42 ci_0 ?_
      refine pg_istore (lv' := [(4, pI (0 : Int32)), (3, pI (0 : Int32)), (2, pI v5), (0, pR a0), (1, pI a1)]) dX11_row_43 (by decide) rfl ?_
      refine pg_iconst dX11_row_45 ci_0 ?_
      refine pg_istore (lv' := [(5, pI (0 : Int32)), (4, pI (0 : Int32)), (3, pI (0 : Int32)), (2, pI v5), (0, pR a0), (1, pI a1)]) dX11_row_46 (by decide) rfl ?_
      exact pg_to (e_X11_row_48 l D pg_fuel a0 a1 v5 (0 : Int32) (0 : Int32) (0 : Int32) h) [4, 5, 3, 2, 1, 0] rfl
    · refine pg_aload_n (i := 0) dX11_row_33 rfl 1 rfl ?_
      refine pg_bipush dX11_row_34 cb_m6 ?_
      refine pg_callV_wI (As := [pI (-6 : Int32)]) (rs := []) dX11_row_36 lk_RX11_87 vy_X11_refuse nd_X11_refuse (c_X11_refuse l D a0 (-6 : Int32) h) rfl rfl (Nat.le_of_ble_eq_true rfl) (by decide) (by decide) (fun v6 => ?_)
      exact pg_iret dX11_row_39 rfl rfl
  · refine pg_aload_n (i := 0) dX11_row_14 rfl 0 rfl ?_
    refine pg_bipush dX11_row_15 cb_m2 ?_
    refine pg_callV_wI (As := [pI (-2 : Int32)]) (rs := []) dX11_row_17 lk_RX11_87 vy_X11_refuse nd_X11_refuse (c_X11_refuse l D a0 (-2 : Int32) h) rfl rfl (Nat.le_of_ble_eq_true rfl) (by decide) (by decide) (fun v7 => ?_)
    exact pg_iret dX11_row_20 rfl rfl
theorem c_X11_row (l : Launch) (D : pg_D) (a0 : Nat) (a1 : Int32) (h : pg_H) : ∀ x, F_X11_row a0 a1 h = some x → pg_Ct l D yX11_row cX11_row 6 (some FieldType.int) 5 120 [pR a0, pI a1] h (pg_wI x) :=
  pg_Ct.of pn_RX11 (Nat.le_of_ble_eq_true rfl) (e_X11_row l D a0 a1 h)
def F_X11_trimmed (h : pg_H) (a0 : Nat) : Option Int32 := Option.bind (pg_gI 11 12 h a0) fun v1 => (some v1)
theorem e_X11_trimmed (l : Launch) (D : pg_D)  (h : pg_H) (a0 : Nat) : pg_EvF l D RX11 cX11_trimmed 1 (some FieldType.int) "trimmed" 0 0 (pg_oI h) (F_X11_trimmed h a0) 0 [(0, pR a0)] [] h := by
  unfold F_X11_trimmed
  refine pg_aload_n (i := 0) dX11_trimmed_0 rfl 0 rfl ?_
  refine pg_getI dX11_trimmed_1 fl_RX11_183 rfl (fun v1 => ?_)
  exact pg_iret dX11_trimmed_4 rfl rfl
theorem c_X11_trimmed (l : Launch) (D : pg_D) (h : pg_H) (a0 : Nat)  : ∀ x, F_X11_trimmed h a0 = some x → pg_Ct l D yX11_trimmed cX11_trimmed 1 (some FieldType.int) 0 0 [pR a0] h (pg_oI h x) :=
  pg_Ct.of pn_RX11 (Nat.le_of_ble_eq_true rfl) (e_X11_trimmed l D h a0)
def F_X11_text (a0 : Nat) (h : pg_H) : Option (Int32 × pg_H) := Option.bind (pg_gR 11 0 h a0) fun v1 => Option.bind (pg_gI 5 7 h v1) fun v2 => (if v2 < (8 : Int32) then Option.bind (pg_gR 11 4 h a0) fun v3 => Option.bind (pg_rcv 3 h v3 (F_X3_compile v3 h)) fun v4 => Option.bind (pg_gR 11 4 v4.2 a0) fun v5 => Option.bind (pg_rcv 3 v4.2 v5 (F_X3_faultPlace v4.2 v5)) fun v6 => Option.bind (pg_pI 11 13 v4.2 a0 v6) fun v7 => Option.bind (pg_gR 11 3 v7 a0) fun v8 => Option.bind (pg_rcv 8 v7 v8 (F_X8_shorten v8 (0 : Int32) v7)) fun v9 => (if v4.1 = 0 then Option.bind (pg_rcv 11 v9 a0 (F_X11_refuse a0 (-6 : Int32) v9)) fun v13 => (some (v13.1, v13.2)) else Option.bind (pg_gR 11 0 v9 a0) fun v10 => Option.bind (pg_rcv 5 v9 v10 (F_X5_addText v10 v4.1 v9)) fun v11 => Option.bind (pg_rcv 11 v11.2 a0 (F_X11_accept a0 v11.1 v11.2)) fun v12 => (some (v12.1, v12.2))) else Option.bind (pg_gR 11 3 h a0) fun v14 => Option.bind (pg_rcv 8 h v14 (F_X8_shorten v14 (0 : Int32) h)) fun v15 => Option.bind (pg_rcv 11 v15 a0 (F_X11_refuse a0 (-5 : Int32) v15)) fun v16 => (some (v16.1, v16.2)))
theorem e_X11_text (l : Launch) (D : pg_D)  (a0 : Nat) (h : pg_H) : pg_EvF l D RX11 cX11_text 2 (some FieldType.int) "text" 1312 30235 pg_wI (F_X11_text a0 h) 0 [(0, pR a0)] [] h := by
  unfold F_X11_text
  refine pg_aload_n (i := 0) dX11_text_0 rfl 0 rfl ?_
  refine pg_getR dX11_text_1 fl_RX11_10 rfl (fun v1 => ?_)
  refine pg_getI dX11_text_4 fl_RX11_186 rfl (fun v2 => ?_)
  refine pg_bipush dX11_text_7 cb_8 ?_
  refine pg_icmp_lt (tgt := 27) dX11_text_9 rfl ?_ ?_
  · refine pg_aload_n (i := 0) dX11_text_27 rfl 0 rfl ?_
    refine pg_getR dX11_text_28 fl_RX11_36 rfl (fun v3 => ?_)
    refine pg_callV_wR (As := []) (rs := []) dX11_text_31 lk_RX11_189 vy_X3_compile nd_X3_compile (c_X3_compile l D v3 h) rfl rfl (Nat.le_of_ble_eq_true rfl) (by decide) (by decide) (fun v4 => ?_)
    refine pg_astore_n (i := 1) (lv' := [(1, pR v4.1), (0, pR a0)]) dX11_text_34 rfl (by decide) rfl ?_
    refine pg_aload_n (i := 0) dX11_text_35 rfl 1 rfl ?_
    refine pg_aload_n (i := 0) dX11_text_36 rfl 1 rfl ?_
    refine pg_getR dX11_text_37 fl_RX11_36 rfl (fun v5 => ?_)
    refine pg_callV_oI (As := []) (rs := [pR a0]) dX11_text_40 lk_RX11_193 vy_X3_faultPlace nd_X3_faultPlace (c_X3_faultPlace l D v4.2 v5) rfl rfl (Nat.le_of_ble_eq_true rfl) (by decide) (by decide) (fun v6 => ?_)
    refine pg_putI dX11_text_43 fl_RX11_79 (fun z => by cases z) (fun v7 => ?_)
    refine pg_aload_n (i := 0) dX11_text_46 rfl 1 rfl ?_
    refine pg_getR dX11_text_47 fl_RX11_27 rfl (fun v8 => ?_)
    refine pg_iconst dX11_text_50 ci_0 ?_
    refine pg_callV_wV (As := [pI (0 : Int32)]) (rs := []) dX11_text_51 lk_RX11_177 vy_X8_shorten nd_X8_shorten (c_X8_shorten l D v8 (0 : Int32) v7) rfl rfl (Nat.le_of_ble_eq_true rfl) (by decide) (by decide) (fun v9 => ?_)
    refine pg_aload_n (i := 1) dX11_text_54 rfl 0 rfl ?_
    refine pg_ifnonnull (tgt := 65) dX11_text_55 rfl ?_ ?_
    · refine pg_aload_n (i := 0) dX11_text_65 rfl 1 rfl ?_
      refine pg_aload_n (i := 0) dX11_text_66 rfl 1 rfl ?_
      refine pg_getR dX11_text_67 fl_RX11_10 rfl (fun v10 => ?_)
      refine pg_aload_n (i := 1) dX11_text_70 rfl 0 rfl ?_
      refine pg_callV_wI (As := [pR v4.1]) (rs := [pR a0]) dX11_text_71 lk_RX11_196 vy_X5_addText nd_X5_addText (c_X5_addText l D v10 v4.1 v9) rfl rfl (Nat.le_of_ble_eq_true rfl) (by decide) (by decide) (fun v11 => ?_)
      refine pg_callV_wI (As := [pI v11.1]) (rs := []) dX11_text_74 lk_RX11_112 vy_X11_accept nd_X11_accept (c_X11_accept l D a0 v11.1 v11.2) rfl rfl (Nat.le_of_ble_eq_true rfl) (by decide) (by decide) (fun v12 => ?_)
      exact pg_iret dX11_text_77 rfl rfl
    · refine pg_aload_n (i := 0) dX11_text_58 rfl 1 rfl ?_
      refine pg_bipush dX11_text_59 cb_m6 ?_
      refine pg_callV_wI (As := [pI (-6 : Int32)]) (rs := []) dX11_text_61 lk_RX11_87 vy_X11_refuse nd_X11_refuse (c_X11_refuse l D a0 (-6 : Int32) v9) rfl rfl (Nat.le_of_ble_eq_true rfl) (by decide) (by decide) (fun v13 => ?_)
      exact pg_iret dX11_text_64 rfl rfl
  · refine pg_aload_n (i := 0) dX11_text_12 rfl 0 rfl ?_
    refine pg_getR dX11_text_13 fl_RX11_27 rfl (fun v14 => ?_)
    refine pg_iconst dX11_text_16 ci_0 ?_
    refine pg_callV_wV (As := [pI (0 : Int32)]) (rs := []) dX11_text_17 lk_RX11_177 vy_X8_shorten nd_X8_shorten (c_X8_shorten l D v14 (0 : Int32) h) rfl rfl (Nat.le_of_ble_eq_true rfl) (by decide) (by decide) (fun v15 => ?_)
    refine pg_aload_n (i := 0) dX11_text_20 rfl 0 rfl ?_
    refine pg_bipush dX11_text_21 cb_m5 ?_
    refine pg_callV_wI (As := [pI (-5 : Int32)]) (rs := []) dX11_text_23 lk_RX11_87 vy_X11_refuse nd_X11_refuse (c_X11_refuse l D a0 (-5 : Int32) v15) rfl rfl (Nat.le_of_ble_eq_true rfl) (by decide) (by decide) (fun v16 => ?_)
    exact pg_iret dX11_text_26 rfl rfl
theorem c_X11_text (l : Launch) (D : pg_D) (a0 : Nat) (h : pg_H) : ∀ x, F_X11_text a0 h = some x → pg_Ct l D yX11_text cX11_text 2 (some FieldType.int) 1312 30235 [pR a0] h (pg_wI x) :=
  pg_Ct.of pn_RX11 (Nat.le_of_ble_eq_true rfl) (e_X11_text l D a0 h)
def F_X11_fault (h : pg_H) (a0 : Nat) : Option Int32 := Option.bind (pg_gI 11 13 h a0) fun v1 => (some v1)
theorem e_X11_fault (l : Launch) (D : pg_D)  (h : pg_H) (a0 : Nat) : pg_EvF l D RX11 cX11_fault 1 (some FieldType.int) "fault" 0 0 (pg_oI h) (F_X11_fault h a0) 0 [(0, pR a0)] [] h := by
  unfold F_X11_fault
  refine pg_aload_n (i := 0) dX11_fault_0 rfl 0 rfl ?_
  refine pg_getI dX11_fault_1 fl_RX11_79 rfl (fun v1 => ?_)
  exact pg_iret dX11_fault_4 rfl rfl
theorem c_X11_fault (l : Launch) (D : pg_D) (h : pg_H) (a0 : Nat)  : ∀ x, F_X11_fault h a0 = some x → pg_Ct l D yX11_fault cX11_fault 1 (some FieldType.int) 0 0 [pR a0] h (pg_oI h x) :=
  pg_Ct.of pn_RX11 (Nat.le_of_ble_eq_true rfl) (e_X11_fault l D h a0)
def F_X11_use_23 (a0 : Nat) (a1 : Int32) (h : pg_H) : Option (Int32 × pg_H) := Option.bind (pg_gR 11 0 h a0) fun v1 => Option.bind (pg_gI 5 8 h v1) fun v2 => Option.bind (pg_gR 11 0 h a0) fun v3 => Option.bind (pg_pI 5 8 h v3 a1) fun v4 => Option.bind (pg_rcv 11 v4 a0 (F_X11_changed a0 v2 v4)) fun v5 => (some (v5.1, v5.2))
def F_X11_use (a0 : Nat) (a1 : Int32) (h : pg_H) : Option (Int32 × pg_H) := (if a1 = (-1 : Int32) then (F_X11_use_23 a0 a1 h) else Option.bind (pg_gR 11 0 h a0) fun v1 => Option.bind (pg_rcv 5 h v1 (F_X5_textOf h v1 a1)) fun v2 => (if v2 = 0 then Option.bind (pg_rcv 11 h a0 (F_X11_refuse a0 (-3 : Int32) h)) fun v3 => (some (v3.1, v3.2)) else (F_X11_use_23 a0 a1 h)))
theorem e_X11_use_23 (l : Launch) (D : pg_D)  (a0 : Nat) (a1 : Int32) (h : pg_H) : pg_EvF l D RX11 cX11_use 3 (some FieldType.int) "use" 2 43 pg_wI (F_X11_use_23 a0 a1 h) 23 [(0, pR a0), (1, pI a1)] [] h := by
  unfold F_X11_use_23
  refine pg_aload_n (i := 0) dX11_use_23 rfl 0 rfl ?_
  refine pg_getR dX11_use_24 fl_RX11_10 rfl (fun v1 => ?_)
  refine pg_getI dX11_use_27 fl_RX11_204 rfl (fun v2 => ?_)
  refine pg_istore_n (i := 2) (lv' := [(2, pI v2), (0, pR a0), (1, pI a1)]) dX11_use_30 rfl (by decide) rfl ?_
  refine pg_aload_n (i := 0) dX11_use_31 rfl 1 rfl ?_
  refine pg_getR dX11_use_32 fl_RX11_10 rfl (fun v3 => ?_)
  refine pg_iload_n (i := 1) dX11_use_35 rfl 2 rfl ?_
  refine pg_putI dX11_use_36 fl_RX11_204 (fun z => by cases z) (fun v4 => ?_)
  refine pg_aload_n (i := 0) dX11_use_39 rfl 1 rfl ?_
  refine pg_iload_n (i := 2) dX11_use_40 rfl 0 rfl ?_
  refine pg_callV_wI (As := [pI v2]) (rs := []) dX11_use_41 lk_RX11_105 vy_X11_changed nd_X11_changed (c_X11_changed l D a0 v2 v4) rfl rfl (Nat.le_of_ble_eq_true rfl) (by decide) (by decide) (fun v5 => ?_)
  exact pg_iret dX11_use_44 rfl rfl
theorem e_X11_use (l : Launch) (D : pg_D)  (a0 : Nat) (a1 : Int32) (h : pg_H) : pg_EvF l D RX11 cX11_use 3 (some FieldType.int) "use" 2 43 pg_wI (F_X11_use a0 a1 h) 0 [(0, pR a0), (1, pI a1)] [] h := by
  unfold F_X11_use
  refine pg_iload_n (i := 1) dX11_use_0 rfl 1 rfl ?_
  refine pg_iconst dX11_use_1 ci_m1 ?_
  refine pg_icmp_eq (tgt := 23) dX11_use_2 rfl ?_ ?_
  · exact pg_to (e_X11_use_23 l D a0 a1 h) [0, 1] rfl
  · refine pg_aload_n (i := 0) dX11_use_5 rfl 0 rfl ?_
    refine pg_getR dX11_use_6 fl_RX11_10 rfl (fun v1 => ?_)
    refine pg_iload_n (i := 1) dX11_use_9 rfl 1 rfl ?_
    refine pg_callV_oR (As := [pI a1]) (rs := []) dX11_use_10 lk_RX11_200 vy_X5_textOf nd_X5_textOf (c_X5_textOf l D h v1 a1) rfl rfl (Nat.le_of_ble_eq_true rfl) (by decide) (by decide) (fun v2 => ?_)
    refine pg_ifnonnull (tgt := 23) dX11_use_13 rfl ?_ ?_
    · exact pg_to (e_X11_use_23 l D a0 a1 h) [0, 1] rfl
    · refine pg_aload_n (i := 0) dX11_use_16 rfl 0 rfl ?_
      refine pg_bipush dX11_use_17 cb_m3 ?_
      refine pg_callV_wI (As := [pI (-3 : Int32)]) (rs := []) dX11_use_19 lk_RX11_87 vy_X11_refuse nd_X11_refuse (c_X11_refuse l D a0 (-3 : Int32) h) rfl rfl (Nat.le_of_ble_eq_true rfl) (by decide) (by decide) (fun v3 => ?_)
      exact pg_iret dX11_use_22 rfl rfl
theorem c_X11_use (l : Launch) (D : pg_D) (a0 : Nat) (a1 : Int32) (h : pg_H) : ∀ x, F_X11_use a0 a1 h = some x → pg_Ct l D yX11_use cX11_use 3 (some FieldType.int) 2 43 [pR a0, pI a1] h (pg_wI x) :=
  pg_Ct.of pn_RX11 (Nat.le_of_ble_eq_true rfl) (e_X11_use l D a0 a1 h)
def F_X11_weight (a0 : Nat) (a1 : Int32) (a2 : Int32) (h : pg_H) : Option (Int32 × pg_H) := Option.bind (F_X11_within a1 (0 : Int32) (59 : Int32)) fun v1 => (if v1 = 0 then (some ((-1 : Int32), h)) else Option.bind (F_X11_within a2 (0 : Int32) (99 : Int32)) fun v2 => (if v2 = 0 then (some ((-1 : Int32), h)) else Option.bind (pg_rcv 11 h a0 (F_X11_freshReadings a0 h)) fun v3 => Option.bind (pg_rcv 4 v3.2 v3.1 (F_X4_holdersOf v3.2 v3.1 a1 a2)) fun v4 => Option.bind (F_J6_bitCount_0f7a4 v4) fun v5 => Option.bind (pg_gR 11 5 v3.2 a0) fun v6 => Option.bind (pg_rcv 0 v3.2 v6 (F_X0_askOfWording v6 a1 a2 v5 v3.2)) fun v7 => Option.bind (pg_gR 11 5 v7 a0) fun v8 => Option.bind (pg_gR 11 0 v7 a0) fun v9 => Option.bind (pg_rcv 5 v7 v9 (F_X5_textUsed v7 v9)) fun v10 => Option.bind (pg_rcv 0 v7 v8 (F_X0_told v8 v10 (0 : Int32) (10 : Int32) v7)) fun v11 => (some (v11.1, v11.2))))
theorem e_X11_weight (l : Launch) (D : pg_D)  (a0 : Nat) (a1 : Int32) (a2 : Int32) (h : pg_H) : pg_EvF l D RX11 cX11_weight 4 (some FieldType.int) "weight" 6 159 pg_wI (F_X11_weight a0 a1 a2 h) 0 [(0, pR a0), (1, pI a1), (2, pI a2)] [] h := by
  unfold F_X11_weight
  refine pg_iload_n (i := 1) dX11_weight_0 rfl 1 rfl ?_
  refine pg_iconst dX11_weight_1 ci_0 ?_
  refine pg_bipush dX11_weight_2 cb_59 ?_
  refine pg_callS_oI (As := [pI a1, pI (0 : Int32), pI (59 : Int32)]) (rs := []) dX11_weight_4 lk_RX11_83 vy_X11_within nd_X11_within (c_X11_within l D a1 (0 : Int32) (59 : Int32) h) rfl rfl (Nat.le_of_ble_eq_true rfl) (by decide) (by decide) (fun v1 => ?_)
  refine pg_if_eq (tgt := 20) dX11_weight_7 rfl ?_ ?_
  · refine pg_iconst dX11_weight_20 ci_m1 ?_
    exact pg_iret dX11_weight_21 rfl rfl
  · refine pg_iload_n (i := 2) dX11_weight_10 rfl 2 rfl ?_
    refine pg_iconst dX11_weight_11 ci_0 ?_
    refine pg_bipush dX11_weight_12 cb_99 ?_
    refine pg_callS_oI (As := [pI a2, pI (0 : Int32), pI (99 : Int32)]) (rs := []) dX11_weight_14 lk_RX11_83 vy_X11_within nd_X11_within (c_X11_within l D a2 (0 : Int32) (99 : Int32) h) rfl rfl (Nat.le_of_ble_eq_true rfl) (by decide) (by decide) (fun v2 => ?_)
    refine pg_if_ne (tgt := 22) dX11_weight_17 rfl ?_ ?_
    · refine pg_aload_n (i := 0) dX11_weight_22 rfl 0 rfl ?_
      refine pg_callV_wR (As := []) (rs := []) dX11_weight_23 lk_RX11_148 vy_X11_freshReadings nd_X11_freshReadings (c_X11_freshReadings l D a0 h) rfl rfl (Nat.le_of_ble_eq_true rfl) (by decide) (by decide) (fun v3 => ?_)
      refine pg_iload_n (i := 1) dX11_weight_26 rfl 1 rfl ?_
      refine pg_iload_n (i := 2) dX11_weight_27 rfl 2 rfl ?_
      refine pg_callV_oI (As := [pI a1, pI a2]) (rs := []) dX11_weight_28 lk_RX11_207 vy_X4_holdersOf nd_X4_holdersOf (c_X4_holdersOf l D v3.2 v3.1 a1 a2) rfl rfl (Nat.le_of_ble_eq_true rfl) (by decide) (by decide) (fun v4 => ?_)
      refine pg_callS_oI (As := [pI v4]) (rs := []) dX11_weight_31 lk_RX11_210 vy_J6_bitCount_0f7a4 nd_J6_bitCount_0f7a4 (c_J6_bitCount_0f7a4 l D v4 v3.2) rfl rfl (Nat.le_of_ble_eq_true rfl) (by decide) (by decide) (fun v5 => ?_)
      refine pg_istore_n (i := 3) (lv' := [(3, pI v5), (0, pR a0), (1, pI a1), (2, pI a2)]) dX11_weight_34 rfl (by decide) rfl ?_
      refine pg_aload_n (i := 0) dX11_weight_35 rfl 1 rfl ?_
      refine pg_getR dX11_weight_36 fl_RX11_43 rfl (fun v6 => ?_)
      refine pg_iload_n (i := 1) dX11_weight_39 rfl 2 rfl ?_
      refine pg_iload_n (i := 2) dX11_weight_40 rfl 3 rfl ?_
      refine pg_iload_n (i := 3) dX11_weight_41 rfl 0 rfl ?_
      refine pg_callV_wV (As := [pI a1, pI a2, pI v5]) (rs := []) dX11_weight_42 lk_RX11_215 vy_X0_askOfWording nd_X0_askOfWording (c_X0_askOfWording l D v6 a1 a2 v5 v3.2) rfl rfl (Nat.le_of_ble_eq_true rfl) (by decide) (by decide) (fun v7 => ?_)
      refine pg_aload_n (i := 0) dX11_weight_45 rfl 1 rfl ?_
      refine pg_getR dX11_weight_46 fl_RX11_43 rfl (fun v8 => ?_)
      refine pg_aload_n (i := 0) dX11_weight_49 rfl 1 rfl ?_
      refine pg_getR dX11_weight_50 fl_RX11_10 rfl (fun v9 => ?_)
      refine pg_callV_oR (As := []) (rs := [pR v8]) dX11_weight_53 lk_RX11_219 vy_X5_textUsed nd_X5_textUsed (c_X5_textUsed l D v7 v9) rfl rfl (Nat.le_of_ble_eq_true rfl) (by decide) (by decide) (fun v10 => ?_)
      refine pg_iconst dX11_weight_56 ci_0 ?_
      refine pg_bipush dX11_weight_57 cb_10 ?_
      refine pg_callV_wI (As := [pR v10, pI (0 : Int32), pI (10 : Int32)]) (rs := []) dX11_weight_59 lk_RX11_222 vy_X0_told nd_X0_told (c_X0_told l D v8 v10 (0 : Int32) (10 : Int32) v7) rfl rfl (Nat.le_of_ble_eq_true rfl) (by decide) (by decide) (fun v11 => ?_)
      exact pg_iret dX11_weight_62 rfl rfl
    · refine pg_iconst dX11_weight_20 ci_m1 ?_
      exact pg_iret dX11_weight_21 rfl rfl
theorem c_X11_weight (l : Launch) (D : pg_D) (a0 : Nat) (a1 : Int32) (a2 : Int32) (h : pg_H) : ∀ x, F_X11_weight a0 a1 a2 h = some x → pg_Ct l D yX11_weight cX11_weight 4 (some FieldType.int) 6 159 [pR a0, pI a1, pI a2] h (pg_wI x) :=
  pg_Ct.of pn_RX11 (Nat.le_of_ble_eq_true rfl) (e_X11_weight l D a0 a1 a2 h)
def F_X11_areTwoCopies (h : pg_H) (a0 : Nat) (a1 : Int32) (a2 : Int32) : Option Int32 := (if a1 = a2 then (some (0 : Int32)) else Option.bind (pg_gR 11 0 h a0) fun v1 => Option.bind (pg_gR 5 0 h v1) fun v2 => Option.bind (pg_rcv 7 h v2 (F_X7_holds h v2 a1)) fun v3 => (if v3 = 0 then (some (0 : Int32)) else Option.bind (pg_gR 11 0 h a0) fun v4 => Option.bind (pg_gR 5 0 h v4) fun v5 => Option.bind (pg_rcv 7 h v5 (F_X7_holds h v5 a2)) fun v6 => (if v6 = 0 then (some (0 : Int32)) else (some (1 : Int32)))))
theorem e_X11_areTwoCopies (l : Launch) (D : pg_D)  (h : pg_H) (a0 : Nat) (a1 : Int32) (a2 : Int32) : pg_EvF l D RX11 cX11_areTwoCopies 3 (some FieldType.boolean) "areTwoCopies" 1 21 (pg_oI h) (F_X11_areTwoCopies h a0 a1 a2) 0 [(0, pR a0), (1, pI a1), (2, pI a2)] [] h := by
  unfold F_X11_areTwoCopies
  refine pg_iload_n (i := 1) dX11_areTwoCopies_0 rfl 1 rfl ?_
  refine pg_iload_n (i := 2) dX11_areTwoCopies_1 rfl 2 rfl ?_
  refine pg_icmp_eq (tgt := 37) dX11_areTwoCopies_2 rfl ?_ ?_
  · refine pg_iconst dX11_areTwoCopies_37 ci_0 ?_
    exact pg_zret dX11_areTwoCopies_38 rfl (Or.inl rfl) rfl
  · refine pg_aload_n (i := 0) dX11_areTwoCopies_5 rfl 0 rfl ?_
    refine pg_getR dX11_areTwoCopies_6 fl_RX11_10 rfl (fun v1 => ?_)
    refine pg_getR dX11_areTwoCopies_9 fl_RX11_91 rfl (fun v2 => ?_)
    refine pg_iload_n (i := 1) dX11_areTwoCopies_12 rfl 1 rfl ?_
    refine pg_callV_oI (As := [pI a1]) (rs := []) dX11_areTwoCopies_13 lk_RX11_108 vy_X7_holds nd_X7_holds (c_X7_holds l D h v2 a1) rfl rfl (Nat.le_of_ble_eq_true rfl) (by decide) (by decide) (fun v3 => ?_)
    refine pg_if_eq (tgt := 37) dX11_areTwoCopies_16 rfl ?_ ?_
    · refine pg_iconst dX11_areTwoCopies_37 ci_0 ?_
      exact pg_zret dX11_areTwoCopies_38 rfl (Or.inl rfl) rfl
    · refine pg_aload_n (i := 0) dX11_areTwoCopies_19 rfl 0 rfl ?_
      refine pg_getR dX11_areTwoCopies_20 fl_RX11_10 rfl (fun v4 => ?_)
      refine pg_getR dX11_areTwoCopies_23 fl_RX11_91 rfl (fun v5 => ?_)
      refine pg_iload_n (i := 2) dX11_areTwoCopies_26 rfl 2 rfl ?_
      refine pg_callV_oI (As := [pI a2]) (rs := []) dX11_areTwoCopies_27 lk_RX11_108 vy_X7_holds nd_X7_holds (c_X7_holds l D h v5 a2) rfl rfl (Nat.le_of_ble_eq_true rfl) (by decide) (by decide) (fun v6 => ?_)
      refine pg_if_eq (tgt := 37) dX11_areTwoCopies_30 rfl ?_ ?_
      · refine pg_iconst dX11_areTwoCopies_37 ci_0 ?_
        exact pg_zret dX11_areTwoCopies_38 rfl (Or.inl rfl) rfl
      · refine pg_iconst dX11_areTwoCopies_33 ci_1 ?_
        refine pg_goto (tgt := 38) dX11_areTwoCopies_34 rfl ?_
        exact pg_zret dX11_areTwoCopies_38 rfl (Or.inr rfl) rfl
theorem c_X11_areTwoCopies (l : Launch) (D : pg_D) (h : pg_H) (a0 : Nat) (a1 : Int32) (a2 : Int32)  : ∀ x, F_X11_areTwoCopies h a0 a1 a2 = some x → pg_Ct l D yX11_areTwoCopies cX11_areTwoCopies 3 (some FieldType.boolean) 1 21 [pR a0, pI a1, pI a2] h (pg_oI h x) :=
  pg_Ct.of pn_RX11 (Nat.le_of_ble_eq_true rfl) (e_X11_areTwoCopies l D h a0 a1 a2)
def F_X11_may (h : pg_H) (a0 : Nat) (a1 : Int32) (a2 : Int32) : Option Int32 := Option.bind (pg_rcv 11 h a0 (F_X11_areTwoCopies h a0 a1 a2)) fun v1 => (if v1 = 0 then (some (-1 : Int32)) else Option.bind (pg_gR 11 0 h a0) fun v2 => Option.bind (pg_rcv 5 h v2 (F_X5_companions h v2 a2)) fun v3 => (some ((v3 >>> (a1 &&& 31)) &&& (1 : Int32))))
theorem e_X11_may (l : Launch) (D : pg_D)  (h : pg_H) (a0 : Nat) (a1 : Int32) (a2 : Int32) : pg_EvF l D RX11 cX11_may 3 (some FieldType.int) "may" 3 73 (pg_oI h) (F_X11_may h a0 a1 a2) 0 [(0, pR a0), (1, pI a1), (2, pI a2)] [] h := by
  unfold F_X11_may
  refine pg_aload_n (i := 0) dX11_may_0 rfl 0 rfl ?_
  refine pg_iload_n (i := 1) dX11_may_1 rfl 1 rfl ?_
  refine pg_iload_n (i := 2) dX11_may_2 rfl 2 rfl ?_
  refine pg_callV_oI (As := [pI a1, pI a2]) (rs := []) dX11_may_3 lk_RX11_226 vy_X11_areTwoCopies nd_X11_areTwoCopies (c_X11_areTwoCopies l D h a0 a1 a2) rfl rfl (Nat.le_of_ble_eq_true rfl) (by decide) (by decide) (fun v1 => ?_)
  refine pg_if_ne (tgt := 11) dX11_may_6 rfl ?_ ?_
  · refine pg_aload_n (i := 0) dX11_may_11 rfl 0 rfl ?_
    refine pg_getR dX11_may_12 fl_RX11_10 rfl (fun v2 => ?_)
    refine pg_iload_n (i := 2) dX11_may_15 rfl 2 rfl ?_
    refine pg_callV_oI (As := [pI a2]) (rs := []) dX11_may_16 lk_RX11_229 vy_X5_companions nd_X5_companions (c_X5_companions l D h v2 a2) rfl rfl (Nat.le_of_ble_eq_true rfl) (by decide) (by decide) (fun v3 => ?_)
    refine pg_iload_n (i := 1) dX11_may_19 rfl 1 rfl ?_
    refine pg_ishr dX11_may_20 ?_
    refine pg_iconst dX11_may_21 ci_1 ?_
    refine pg_iand dX11_may_22 ?_
    exact pg_iret dX11_may_23 rfl rfl
  · refine pg_iconst dX11_may_9 ci_m1 ?_
    exact pg_iret dX11_may_10 rfl rfl
theorem c_X11_may (l : Launch) (D : pg_D) (h : pg_H) (a0 : Nat) (a1 : Int32) (a2 : Int32)  : ∀ x, F_X11_may h a0 a1 a2 = some x → pg_Ct l D yX11_may cX11_may 3 (some FieldType.int) 3 73 [pR a0, pI a1, pI a2] h (pg_oI h x) :=
  pg_Ct.of pn_RX11 (Nat.le_of_ble_eq_true rfl) (e_X11_may l D h a0 a1 a2)
