def F_X12_asks_158 (k44 : Nat → Int32 → pg_H → Option pg_H) (a0 : Nat) (a2 : Int32) (a4 : Int64) (s0 : Int32) (h : pg_H) : Option pg_H := Option.bind (pg_gI 12 19 h a0) fun v1 => Option.bind (pg_pI 12 19 h a0 (v1 + (1 : Int32))) fun v2 => (if s0 = 0 then (k44 a0 a2 v2) else Option.bind (pg_pL 12 23 v2 a0 a4) fun v3 => Option.bind (pg_pZ 12 24 v3 a0 (1 : Int32)) fun v4 => (k44 a0 a2 v4))
def F_X12_asks_157 (k44 : Nat → Int32 → pg_H → Option pg_H) (a0 : Nat) (a2 : Int32) (a4 : Int64) (h : pg_H) : Option pg_H := (F_X12_asks_158 k44 a0 a2 a4 (0 : Int32) h)
def F_X12_asks_129 (k44 : Nat → Int32 → pg_H → Option pg_H) (a0 : Nat) (a2 : Int32) (a3 : Int32) (a4 : Int64) (a6 : Int32) (s0 : Int32) (h : pg_H) : Option pg_H := (if s0 = 0 then (F_X12_asks_157 k44 a0 a2 a4 h) else Option.bind (pg_gI 12 21 h a0) fun v1 => (if v1 = 0 then (if a6 = 0 then (if a3 = a2 then (F_X12_asks_158 k44 a0 a2 a4 (1 : Int32) h) else (F_X12_asks_157 k44 a0 a2 a4 h)) else (F_X12_asks_157 k44 a0 a2 a4 h)) else (F_X12_asks_157 k44 a0 a2 a4 h)))
def F_X12_asks_124 (k44 : Nat → Int32 → pg_H → Option pg_H) (a0 : Nat) (a2 : Int32) (a3 : Int32) (a4 : Int64) (a6 : Int32) (h : pg_H) : Option pg_H := (F_X12_asks_129 k44 a0 a2 a3 a4 a6 (1 : Int32) h)
def F_X12_asks_94 (k44 : Nat → Int32 → pg_H → Option pg_H) (a0 : Nat) (a2 : Int32) (a3 : Int32) (s0 : Int64) (h : pg_H) : Option pg_H := Option.bind (pg_gI 12 21 h a0) fun v1 => Option.bind (pg_pZ 12 21 h a0 (0 : Int32)) fun v2 => Option.bind (pg_rcv 12 v2 a0 (F_X12_passes a0 (8 : Int32) v2)) fun v3 => (if v3.1 = 0 then (F_X12_asks_124 k44 a0 a2 a3 s0 v1 v3.2) else Option.bind (pg_rcv 12 v3.2 a0 (F_X12_testOf a0 (1 : Int32) v3.2)) fun v4 => (if v4.1 = 0 then (F_X12_asks_129 k44 a0 a2 a3 s0 v1 (0 : Int32) v4.2) else (F_X12_asks_124 k44 a0 a2 a3 s0 v1 v4.2)))
def F_X12_asks_44  : Nat → Nat → Int32 → pg_H → Option pg_H
  | 0 => fun _ _ _ => none
  | n + 1 => fun a0 a2 h => Option.bind (pg_gI 12 19 h a0) fun v1 => Option.bind (pg_gI 12 20 h a0) fun v2 => (if v1 < v2 then Option.bind (pg_pZ 12 21 h a0 (0 : Int32)) fun v3 => Option.bind (pg_gI 12 19 v3 a0) fun v4 => Option.bind (pg_rcv 12 v3 a0 (F_X12_codeAt v3 a0 v4)) fun v5 => Option.bind (pg_gI 12 19 v3 a0) fun v6 => Option.bind (pg_pI 12 19 v3 a0 (v6 + (1 : Int32))) fun v7 => (if v5 < (6 : Int32) then Option.bind (pg_rcv 12 v7 a0 (F_X12_sumOf a0 (1 : Int32) v7)) fun v8 => (F_X12_asks_94 (F_X12_asks_44 n) a0 a2 v5 v8.1 v8.2) else (F_X12_asks_94 (F_X12_asks_44 n) a0 a2 v5 (0 : Int64) v7)) else (some h))
def F_X12_asks (a0 : Nat) (a1 : Int32) (a2 : Int32) (h : pg_H) : Option pg_H := Option.bind (pg_pL 12 23 h a0 (0 : Int64)) fun v1 => Option.bind (pg_pZ 12 24 v1 a0 (0 : Int32)) fun v2 => (if a1 = (-1 : Int32) then (some v2) else Option.bind (pg_pI 12 19 v2 a0 ((400 : Int32) * a1)) fun v3 => Option.bind (pg_gI 12 19 v3 a0) fun v4 => Option.bind (pg_gR 12 3 v3 a0) fun v5 => Option.bind (pg_aI 21 v3 v5 ((1350 : Int32) + a1)) fun v6 => Option.bind (pg_pI 12 20 v3 a0 (v4 + v6)) fun v7 => (F_X12_asks_44 pg_fuel a0 a2 v7))
theorem e_X12_asks_158 (l : Launch) (D : pg_D)  (k44 : Nat → Int32 → pg_H → Option pg_H) (hk44 : ∀ (a0 : Nat) (a2 : Int32) (h : pg_H), pg_EvF l D RX12 cX12_asks 8 none "asks" 1303 33886 pg_wV (k44 a0 a2 h) 44 [(0, pR a0), (2, pI a2)] [] h) (a0 : Nat) (a2 : Int32) (a4 : Int64) (s0 : Int32) (h : pg_H) : pg_EvF l D RX12 cX12_asks 8 none "asks" 1303 33886 pg_wV (F_X12_asks_158 k44 a0 a2 a4 s0 h) 158 [(0, pR a0), (2, pI a2), (4, pL a4)] [pI s0] h := by
  unfold F_X12_asks_158
  refine pg_istore (lv' := [(7, pI s0), (0, pR a0), (2, pI a2), (4, pL a4)]) dX12_asks_158 (by decide) rfl ?_
  refine pg_aload_n (i := 0) dX12_asks_160 rfl 1 rfl ?_
  refine pg_dup dX12_asks_161 rfl ?_
  refine pg_getI dX12_asks_162 fl_RX12_245 rfl (fun v1 => ?_)
  refine pg_iconst dX12_asks_165 ci_1 ?_
  refine pg_iadd dX12_asks_166 ?_
  refine pg_putI dX12_asks_167 fl_RX12_245 (fun z => by cases z) (fun v2 => ?_)
  refine pg_iload dX12_asks_170 0 rfl ?_
  refine pg_if_ne (tgt := 178) dX12_asks_172 rfl ?_ ?_
  · refine pg_aload_n (i := 0) dX12_asks_178 rfl 1 rfl ?_
    refine pg_lload dX12_asks_179 3 rfl ?_
    refine pg_putL dX12_asks_181 fl_RX12_289 (fun z => by cases z) (fun v3 => ?_)
    refine pg_aload_n (i := 0) dX12_asks_184 rfl 1 rfl ?_
    refine pg_iconst dX12_asks_185 ci_1 ?_
    refine pg_putZ dX12_asks_186 fl_RX12_293 (fun z => by cases z) (fun v4 => ?_)
    refine pg_goto (tgt := 44) dX12_asks_189 rfl ?_
    exact pg_to (hk44 a0 a2 v4) [1, 2] rfl
  · refine pg_goto (tgt := 44) dX12_asks_175 rfl ?_
    exact pg_to (hk44 a0 a2 v2) [1, 2] rfl
theorem e_X12_asks_157 (l : Launch) (D : pg_D)  (k44 : Nat → Int32 → pg_H → Option pg_H) (hk44 : ∀ (a0 : Nat) (a2 : Int32) (h : pg_H), pg_EvF l D RX12 cX12_asks 8 none "asks" 1303 33886 pg_wV (k44 a0 a2 h) 44 [(0, pR a0), (2, pI a2)] [] h) (a0 : Nat) (a2 : Int32) (a4 : Int64) (h : pg_H) : pg_EvF l D RX12 cX12_asks 8 none "asks" 1303 33886 pg_wV (F_X12_asks_157 k44 a0 a2 a4 h) 157 [(0, pR a0), (2, pI a2), (4, pL a4)] [] h := by
  unfold F_X12_asks_157
  refine pg_iconst dX12_asks_157 ci_0 ?_
  exact pg_to (e_X12_asks_158 l D k44 hk44 a0 a2 a4 (0 : Int32) h) [0, 1, 2] rfl
theorem e_X12_asks_129 (l : Launch) (D : pg_D)  (k44 : Nat → Int32 → pg_H → Option pg_H) (hk44 : ∀ (a0 : Nat) (a2 : Int32) (h : pg_H), pg_EvF l D RX12 cX12_asks 8 none "asks" 1303 33886 pg_wV (k44 a0 a2 h) 44 [(0, pR a0), (2, pI a2)] [] h) (a0 : Nat) (a2 : Int32) (a3 : Int32) (a4 : Int64) (a6 : Int32) (s0 : Int32) (h : pg_H) : pg_EvF l D RX12 cX12_asks 8 none "asks" 1303 33886 pg_wV (F_X12_asks_129 k44 a0 a2 a3 a4 a6 s0 h) 129 [(0, pR a0), (2, pI a2), (3, pI a3), (4, pL a4), (6, pI a6)] [pI s0] h := by
  unfold F_X12_asks_129
  refine pg_istore (lv' := [(7, pI s0), (0, pR a0), (2, pI a2), (3, pI a3), (4, pL a4), (6, pI a6)]) dX12_asks_129 (by decide) rfl ?_
  refine pg_iload dX12_asks_131 0 rfl ?_
  refine pg_if_eq (tgt := 157) dX12_asks_133 rfl ?_ ?_
  · exact pg_to (e_X12_asks_157 l D k44 hk44 a0 a2 a4 h) [1, 2, 4] rfl
  · refine pg_aload_n (i := 0) dX12_asks_136 rfl 1 rfl ?_
    refine pg_getI dX12_asks_137 fl_RX12_255 rfl (fun v1 => ?_)
    refine pg_if_ne (tgt := 157) dX12_asks_140 rfl ?_ ?_
    · exact pg_to (e_X12_asks_157 l D k44 hk44 a0 a2 a4 h) [1, 2, 4] rfl
    · refine pg_iload dX12_asks_143 5 rfl ?_
      refine pg_if_ne (tgt := 157) dX12_asks_145 rfl ?_ ?_
      · exact pg_to (e_X12_asks_157 l D k44 hk44 a0 a2 a4 h) [1, 2, 4] rfl
      · refine pg_iload_n (i := 3) dX12_asks_148 rfl 3 rfl ?_
        refine pg_iload_n (i := 2) dX12_asks_149 rfl 2 rfl ?_
        refine pg_icmp_ne (tgt := 157) dX12_asks_150 rfl ?_ ?_
        · exact pg_to (e_X12_asks_157 l D k44 hk44 a0 a2 a4 h) [1, 2, 4] rfl
        · refine pg_iconst dX12_asks_153 ci_1 ?_
          refine pg_goto (tgt := 158) dX12_asks_154 rfl ?_
          exact pg_to (e_X12_asks_158 l D k44 hk44 a0 a2 a4 (1 : Int32) h) [1, 2, 4] rfl
theorem e_X12_asks_124 (l : Launch) (D : pg_D)  (k44 : Nat → Int32 → pg_H → Option pg_H) (hk44 : ∀ (a0 : Nat) (a2 : Int32) (h : pg_H), pg_EvF l D RX12 cX12_asks 8 none "asks" 1303 33886 pg_wV (k44 a0 a2 h) 44 [(0, pR a0), (2, pI a2)] [] h) (a0 : Nat) (a2 : Int32) (a3 : Int32) (a4 : Int64) (a6 : Int32) (h : pg_H) : pg_EvF l D RX12 cX12_asks 8 none "asks" 1303 33886 pg_wV (F_X12_asks_124 k44 a0 a2 a3 a4 a6 h) 124 [(0, pR a0), (2, pI a2), (3, pI a3), (4, pL a4), (6, pI a6)] [] h := by
  unfold F_X12_asks_124
  refine pg_iconst dX12_asks_124 ci_1 ?_
  refine pg_goto (tgt := 129) dX12_asks_125 rfl ?_
  exact pg_to (e_X12_asks_129 l D k44 hk44 a0 a2 a3 a4 a6 (1 : Int32) h) [0, 1, 2, 3, 4] rfl
theorem e_X12_asks_94 (l : Launch) (D : pg_D)  (k44 : Nat → Int32 → pg_H → Option pg_H) (hk44 : ∀ (a0 : Nat) (a2 : Int32) (h : pg_H), pg_EvF l D RX12 cX12_asks 8 none "asks" 1303 33886 pg_wV (k44 a0 a2 h) 44 [(0, pR a0), (2, pI a2)] [] h) (a0 : Nat) (a2 : Int32) (a3 : Int32) (s0 : Int64) (h : pg_H) : pg_EvF l D RX12 cX12_asks 8 none "asks" 1303 33886 pg_wV (F_X12_asks_94 k44 a0 a2 a3 s0 h) 94 [(0, pR a0), (2, pI a2), (3, pI a3)] [pL s0] h := by
  unfold F_X12_asks_94
  refine pg_lstore (lv' := [(4, pL s0), (0, pR a0), (2, pI a2), (3, pI a3)]) dX12_asks_94 (by decide) rfl ?_
  refine pg_aload_n (i := 0) dX12_asks_96 rfl 1 rfl ?_
  refine pg_getI dX12_asks_97 fl_RX12_255 rfl (fun v1 => ?_)
  refine pg_istore (lv' := [(6, pI v1), (4, pL s0), (0, pR a0), (2, pI a2), (3, pI a3)]) dX12_asks_100 (by decide) rfl ?_
  refine pg_aload_n (i := 0) dX12_asks_102 rfl 2 rfl ?_
  refine pg_iconst dX12_asks_103 ci_0 ?_
  refine pg_putZ dX12_asks_104 fl_RX12_255 (fun z => by cases z) (fun v2 => ?_)
  refine pg_aload_n (i := 0) dX12_asks_107 rfl 2 rfl ?_
  refine pg_bipush dX12_asks_108 cb_8 ?_
  refine pg_callV_wI (As := [pI (8 : Int32)]) (rs := []) dX12_asks_110 lk_RX12_270 vy_X12_passes nd_X12_passes (c_X12_passes l D a0 (8 : Int32) v2) rfl rfl (Nat.le_of_ble_eq_true rfl) (by decide) (by decide) (fun v3 => ?_)
  refine pg_if_eq (tgt := 124) dX12_asks_113 rfl ?_ ?_
  · exact pg_to (e_X12_asks_124 l D k44 hk44 a0 a2 a3 s0 v1 v3.2) [2, 3, 4, 1, 0] rfl
  · refine pg_aload_n (i := 0) dX12_asks_116 rfl 2 rfl ?_
    refine pg_iconst dX12_asks_117 ci_1 ?_
    refine pg_callV_wI (As := [pI (1 : Int32)]) (rs := []) dX12_asks_118 lk_RX12_286 vy_X12_testOf nd_X12_testOf (c_X12_testOf l D a0 (1 : Int32) v3.2) rfl rfl (Nat.le_of_ble_eq_true rfl) (by decide) (by decide) (fun v4 => ?_)
    refine pg_if_eq (tgt := 128) dX12_asks_121 rfl ?_ ?_
    · refine pg_iconst dX12_asks_128 ci_0 ?_
      exact pg_to (e_X12_asks_129 l D k44 hk44 a0 a2 a3 s0 v1 (0 : Int32) v4.2) [2, 3, 4, 1, 0] rfl
    · exact pg_to (e_X12_asks_124 l D k44 hk44 a0 a2 a3 s0 v1 v4.2) [2, 3, 4, 1, 0] rfl
theorem e_X12_asks_44 (l : Launch) (D : pg_D)   : ∀ (n : Nat) (a0 : Nat) (a2 : Int32) (h : pg_H), pg_EvF l D RX12 cX12_asks 8 none "asks" 1303 33886 pg_wV (F_X12_asks_44 n a0 a2 h) 44 [(0, pR a0), (2, pI a2)] [] h := by
  intro n
  induction n with
  | zero => intro a0 a2 h; exact pg_none
  | succ n ih =>
    intro a0 a2 h
    rw [F_X12_asks_44]
    refine pg_aload_n (i := 0) dX12_asks_44 rfl 0 rfl ?_
    refine pg_getI dX12_asks_45 fl_RX12_245 rfl (fun v1 => ?_)
    refine pg_aload_n (i := 0) dX12_asks_48 rfl 0 rfl ?_
    refine pg_getI dX12_asks_49 fl_RX12_242 rfl (fun v2 => ?_)
    refine pg_icmp_ge (tgt := 192) dX12_asks_52 rfl ?_ ?_
    · exact pg_vret dX12_asks_192 rfl rfl
    · refine pg_aload_n (i := 0) dX12_asks_55 rfl 0 rfl ?_
      refine pg_iconst dX12_asks_56 ci_0 ?_
      refine pg_putZ dX12_asks_57 fl_RX12_255 (fun z => by cases z) (fun v3 => ?_)
      refine pg_aload_n (i := 0) dX12_asks_60 rfl 0 rfl ?_
      refine pg_aload_n (i := 0) dX12_asks_61 rfl 0 rfl ?_
      refine pg_getI dX12_asks_62 fl_RX12_245 rfl (fun v4 => ?_)
      refine pg_callV_oI (As := [pI v4]) (rs := []) dX12_asks_65 lk_RX12_248 vy_X12_codeAt nd_X12_codeAt (c_X12_codeAt l D v3 a0 v4) rfl rfl (Nat.le_of_ble_eq_true rfl) (by decide) (by decide) (fun v5 => ?_)
      refine pg_istore_n (i := 3) (lv' := [(3, pI v5), (0, pR a0), (2, pI a2)]) dX12_asks_68 rfl (by decide) rfl ?_
      refine pg_aload_n (i := 0) dX12_asks_69 rfl 1 rfl ?_
      refine pg_dup dX12_asks_70 rfl ?_
      refine pg_getI dX12_asks_71 fl_RX12_245 rfl (fun v6 => ?_)
      refine pg_iconst dX12_asks_74 ci_1 ?_
      refine pg_iadd dX12_asks_75 ?_
      refine pg_putI dX12_asks_76 fl_RX12_245 (fun z => by cases z) (fun v7 => ?_)
      refine pg_iload_n (i := 3) dX12_asks_79 rfl 0 rfl ?_
      refine pg_bipush dX12_asks_80 cb_6 ?_
      refine pg_icmp_ge (tgt := 93) dX12_asks_82 rfl ?_ ?_
      · refine pg_lconst dX12_asks_93 cl_0 ?_
        exact pg_to (e_X12_asks_94 l D (F_X12_asks_44 n) ih a0 a2 v5 (0 : Int64) v7) [1, 2, 0] rfl
      · refine pg_aload_n (i := 0) dX12_asks_85 rfl 1 rfl ?_
        refine pg_iconst dX12_asks_86 ci_1 ?_
        refine pg_callV_wL (As := [pI (1 : Int32)]) (rs := []) dX12_asks_87 lk_RX12_273 vy_X12_sumOf nd_X12_sumOf (c_X12_sumOf l D a0 (1 : Int32) v7) rfl rfl (Nat.le_of_ble_eq_true rfl) (by decide) (by decide) (fun v8 => ?_)
        refine pg_goto (tgt := 94) dX12_asks_90 rfl ?_
        exact pg_to (e_X12_asks_94 l D (F_X12_asks_44 n) ih a0 a2 v5 v8.1 v8.2) [1, 2, 0] rfl
theorem e_X12_asks (l : Launch) (D : pg_D)  (a0 : Nat) (a1 : Int32) (a2 : Int32) (h : pg_H) : pg_EvF l D RX12 cX12_asks 8 none "asks" 1303 33886 pg_wV (F_X12_asks a0 a1 a2 h) 0 [(0, pR a0), (1, pI a1), (2, pI a2)] [] h := by
  unfold F_X12_asks
  refine pg_aload_n (i := 0) dX12_asks_0 rfl 0 rfl ?_
  refine pg_lconst dX12_asks_1 cl_0 ?_
  refine pg_putL dX12_asks_2 fl_RX12_289 (fun z => by cases z) (fun v1 => ?_)
  refine pg_aload_n (i := 0) dX12_asks_5 rfl 0 rfl ?_
  refine pg_iconst dX12_asks_6 ci_0 ?_
  refine pg_putZ dX12_asks_7 fl_RX12_293 (fun z => by cases z) (fun v2 => ?_)
  refine pg_iload_n (i := 1) dX12_asks_10 rfl 1 rfl ?_
  refine pg_iconst dX12_asks_11 ci_m1 ?_
  refine pg_icmp_ne (tgt := 16) dX12_asks_12 rfl ?_ ?_
  · refine pg_aload_n (i := 0) dX12_asks_16 rfl 0 rfl ?_
    refine pg_sipush dX12_asks_17 cs_400 ?_
    refine pg_iload_n (i := 1) dX12_asks_20 rfl 1 rfl ?_
    refine pg_imul dX12_asks_21 ?_
    refine pg_putI dX12_asks_22 fl_RX12_245 (fun z => by cases z) (fun v3 => ?_)
    refine pg_aload_n (i := 0) dX12_asks_25 rfl 0 rfl ?_
    refine pg_aload_n (i := 0) dX12_asks_26 rfl 0 rfl ?_
    refine pg_getI dX12_asks_27 fl_RX12_245 rfl (fun v4 => ?_)
    refine pg_aload_n (i := 0) dX12_asks_30 rfl 0 rfl ?_
    refine pg_getR dX12_asks_31 fl_RX12_20 rfl (fun v5 => ?_)
    refine pg_sipush dX12_asks_34 cs_1350 ?_
    refine pg_iload_n (i := 1) dX12_asks_37 rfl 1 rfl ?_
    refine pg_iadd dX12_asks_38 ?_
    refine pg_iaload dX12_asks_39 (fun v6 => ?_)
    refine pg_iadd dX12_asks_40 ?_
    refine pg_putI dX12_asks_41 fl_RX12_242 (fun z => by cases z) (fun v7 => ?_)
    exact pg_to (e_X12_asks_44 l D pg_fuel a0 a2 v7) [0, 2] rfl
  · exact pg_vret dX12_asks_15 rfl rfl
theorem c_X12_asks (l : Launch) (D : pg_D) (a0 : Nat) (a1 : Int32) (a2 : Int32) (h : pg_H) : ∀ x, F_X12_asks a0 a1 a2 h = some x → pg_Ct l D yX12_asks cX12_asks 8 none 1303 33886 [pR a0, pI a1, pI a2] h (pg_wV x) :=
  pg_Ct.of pn_RX12 (Nat.le_of_ble_eq_true rfl) (e_X12_asks l D a0 a1 a2 h)
def F_X12_bare_2  : Nat → Nat → Int32 → pg_H → Option pg_H
  | 0 => fun _ _ _ => none
  | n + 1 => fun a0 a1 h => (if a1 < (9 : Int32) then Option.bind (pg_gR 12 22 h a0) fun v1 => Option.bind (pg_sI 21 h v1 a1 (0 : Int32)) fun v2 => (F_X12_bare_2 n a0 (a1 + (1 : Int32)) v2) else (some h))
def F_X12_bare (a0 : Nat) (h : pg_H) : Option pg_H := (F_X12_bare_2 pg_fuel a0 (0 : Int32) h)
theorem e_X12_bare_2 (l : Launch) (D : pg_D)   : ∀ (n : Nat) (a0 : Nat) (a1 : Int32) (h : pg_H), pg_EvF l D RX12 cX12_bare 2 none "bare" 0 0 pg_wV (F_X12_bare_2 n a0 a1 h) 2 [(0, pR a0), (1, pI a1)] [] h := by
  intro n
  induction n with
  | zero => intro a0 a1 h; exact pg_none
  | succ n ih =>
    intro a0 a1 h
    rw [F_X12_bare_2]
    refine pg_iload_n (i := 1) dX12_bare_2 rfl 1 rfl ?_
    refine pg_bipush dX12_bare_3 cb_9 ?_
    refine pg_icmp_ge (tgt := 21) dX12_bare_5 rfl ?_ ?_
    · exact pg_vret dX12_bare_21 rfl rfl
    · refine pg_aload_n (i := 0) dX12_bare_8 rfl 0 rfl ?_
      refine pg_getR dX12_bare_9 fl_RX12_52 rfl (fun v1 => ?_)
      refine pg_iload_n (i := 1) dX12_bare_12 rfl 1 rfl ?_
      refine pg_iconst dX12_bare_13 ci_0 ?_
      refine pg_iastore dX12_bare_14 (fun v2 => ?_)
      refine pg_iinc (lv' := [(1, pI (a1 + (1 : Int32))), (0, pR a0)]) dX12_bare_15 1 rfl ci_1 (by decide) rfl ?_
      refine pg_goto (tgt := 2) dX12_bare_18 rfl ?_
      exact pg_to (ih a0 (a1 + (1 : Int32)) v2) [1, 0] rfl
theorem e_X12_bare (l : Launch) (D : pg_D)  (a0 : Nat) (h : pg_H) : pg_EvF l D RX12 cX12_bare 2 none "bare" 0 0 pg_wV (F_X12_bare a0 h) 0 [(0, pR a0)] [] h := by
  unfold F_X12_bare
  refine pg_iconst dX12_bare_0 ci_0 ?_
  refine pg_istore_n (i := 1) (lv' := [(1, pI (0 : Int32)), (0, pR a0)]) dX12_bare_1 rfl (by decide) rfl ?_
  exact pg_to (e_X12_bare_2 l D pg_fuel a0 (0 : Int32) h) [1, 0] rfl
theorem c_X12_bare (l : Launch) (D : pg_D) (a0 : Nat) (h : pg_H) : ∀ x, F_X12_bare a0 h = some x → pg_Ct l D yX12_bare cX12_bare 2 none 0 0 [pR a0] h (pg_wV x) :=
  pg_Ct.of pn_RX12 (Nat.le_of_ble_eq_true rfl) (e_X12_bare l D a0 h)
def F_X12_asksCopy (a0 : Nat) (a1 : Int32) (a2 : Int32) (h : pg_H) : Option pg_H := Option.bind (pg_rcv 12 h a0 (F_X12_bare a0 h)) fun v1 => Option.bind (pg_gR 12 22 v1 a0) fun v2 => Option.bind (pg_sI 21 v1 v2 (1 : Int32) a2) fun v3 => Option.bind (pg_gR 12 22 v3 a0) fun v4 => Option.bind (pg_rcv 12 v3 a0 (F_X12_copyOf v3 a0 a1 (0 : Int32))) fun v5 => Option.bind (pg_sI 21 v3 v4 (4 : Int32) v5) fun v6 => Option.bind (pg_gR 12 22 v6 a0) fun v7 => Option.bind (pg_rcv 12 v6 a0 (F_X12_copyOf v6 a0 a1 (1 : Int32))) fun v8 => Option.bind (pg_sI 21 v6 v7 (7 : Int32) v8) fun v9 => Option.bind (pg_gR 12 22 v9 a0) fun v10 => Option.bind (pg_rcv 12 v9 a0 (F_X12_copyOf v9 a0 a1 (2 : Int32))) fun v11 => Option.bind (pg_sI 21 v9 v10 (8 : Int32) v11) fun v12 => (some v12)
theorem e_X12_asksCopy (l : Launch) (D : pg_D)  (a0 : Nat) (a1 : Int32) (a2 : Int32) (h : pg_H) : pg_EvF l D RX12 cX12_asksCopy 3 none "asksCopy" 1 22 pg_wV (F_X12_asksCopy a0 a1 a2 h) 0 [(0, pR a0), (1, pI a1), (2, pI a2)] [] h := by
  unfold F_X12_asksCopy
  refine pg_aload_n (i := 0) dX12_asksCopy_0 rfl 0 rfl ?_
  refine pg_callV_wV (As := []) (rs := []) dX12_asksCopy_1 lk_RX12_296 vy_X12_bare nd_X12_bare (c_X12_bare l D a0 h) rfl rfl (Nat.le_of_ble_eq_true rfl) (by decide) (by decide) (fun v1 => ?_)
  refine pg_aload_n (i := 0) dX12_asksCopy_4 rfl 0 rfl ?_
  refine pg_getR dX12_asksCopy_5 fl_RX12_52 rfl (fun v2 => ?_)
  refine pg_iconst dX12_asksCopy_8 ci_1 ?_
  refine pg_iload_n (i := 2) dX12_asksCopy_9 rfl 2 rfl ?_
  refine pg_iastore dX12_asksCopy_10 (fun v3 => ?_)
  refine pg_aload_n (i := 0) dX12_asksCopy_11 rfl 0 rfl ?_
  refine pg_getR dX12_asksCopy_12 fl_RX12_52 rfl (fun v4 => ?_)
  refine pg_iconst dX12_asksCopy_15 ci_4 ?_
  refine pg_aload_n (i := 0) dX12_asksCopy_16 rfl 0 rfl ?_
  refine pg_iload_n (i := 1) dX12_asksCopy_17 rfl 1 rfl ?_
  refine pg_iconst dX12_asksCopy_18 ci_0 ?_
  refine pg_callV_oI (As := [pI a1, pI (0 : Int32)]) (rs := [pI (4 : Int32), pR v4]) dX12_asksCopy_19 lk_RX12_299 vy_X12_copyOf nd_X12_copyOf (c_X12_copyOf l D v3 a0 a1 (0 : Int32)) rfl rfl (Nat.le_of_ble_eq_true rfl) (by decide) (by decide) (fun v5 => ?_)
  refine pg_iastore dX12_asksCopy_22 (fun v6 => ?_)
  refine pg_aload_n (i := 0) dX12_asksCopy_23 rfl 0 rfl ?_
  refine pg_getR dX12_asksCopy_24 fl_RX12_52 rfl (fun v7 => ?_)
  refine pg_bipush dX12_asksCopy_27 cb_7 ?_
  refine pg_aload_n (i := 0) dX12_asksCopy_29 rfl 0 rfl ?_
  refine pg_iload_n (i := 1) dX12_asksCopy_30 rfl 1 rfl ?_
  refine pg_iconst dX12_asksCopy_31 ci_1 ?_
  refine pg_callV_oI (As := [pI a1, pI (1 : Int32)]) (rs := [pI (7 : Int32), pR v7]) dX12_asksCopy_32 lk_RX12_299 vy_X12_copyOf nd_X12_copyOf (c_X12_copyOf l D v6 a0 a1 (1 : Int32)) rfl rfl (Nat.le_of_ble_eq_true rfl) (by decide) (by decide) (fun v8 => ?_)
  refine pg_iastore dX12_asksCopy_35 (fun v9 => ?_)
  refine pg_aload_n (i := 0) dX12_asksCopy_36 rfl 0 rfl ?_
  refine pg_getR dX12_asksCopy_37 fl_RX12_52 rfl (fun v10 => ?_)
  refine pg_bipush dX12_asksCopy_40 cb_8 ?_
  refine pg_aload_n (i := 0) dX12_asksCopy_42 rfl 0 rfl ?_
  refine pg_iload_n (i := 1) dX12_asksCopy_43 rfl 1 rfl ?_
  refine pg_iconst dX12_asksCopy_44 ci_2 ?_
  refine pg_callV_oI (As := [pI a1, pI (2 : Int32)]) (rs := [pI (8 : Int32), pR v10]) dX12_asksCopy_45 lk_RX12_299 vy_X12_copyOf nd_X12_copyOf (c_X12_copyOf l D v9 a0 a1 (2 : Int32)) rfl rfl (Nat.le_of_ble_eq_true rfl) (by decide) (by decide) (fun v11 => ?_)
  refine pg_iastore dX12_asksCopy_48 (fun v12 => ?_)
  exact pg_vret dX12_asksCopy_49 rfl rfl
theorem c_X12_asksCopy (l : Launch) (D : pg_D) (a0 : Nat) (a1 : Int32) (a2 : Int32) (h : pg_H) : ∀ x, F_X12_asksCopy a0 a1 a2 h = some x → pg_Ct l D yX12_asksCopy cX12_asksCopy 3 none 1 22 [pR a0, pI a1, pI a2] h (pg_wV x) :=
  pg_Ct.of pn_RX12 (Nat.le_of_ble_eq_true rfl) (e_X12_asksCopy l D a0 a1 a2 h)
def F_X12_hundredth (a0 : Nat) (a1 : Int32) (h : pg_H) : Option (Int32 × pg_H) := Option.bind (pg_gR 12 3 h a0) fun v1 => Option.bind (pg_aI 21 h v1 (1349 : Int32)) fun v2 => Option.bind (pg_rcv 12 h a0 (F_X12_asks a0 v2 a1 h)) fun v3 => Option.bind (pg_gI 12 24 v3 a0) fun v4 => (if v4 = 0 then (some ((50 : Int32), v3)) else Option.bind (pg_gL 12 23 v3 a0) fun v5 => (if v5 < (0 : Int64) then (some ((0 : Int32), v3)) else Option.bind (pg_gL 12 23 v3 a0) fun v6 => (if (100 : Int64) < v6 then (some ((100 : Int32), v3)) else Option.bind (pg_gL 12 23 v3 a0) fun v7 => (some ((v7).toInt32, v3)))))
theorem e_X12_hundredth (l : Launch) (D : pg_D)  (a0 : Nat) (a1 : Int32) (h : pg_H) : pg_EvF l D RX12 cX12_hundredth 2 (some FieldType.int) "hundredth" 1304 33913 pg_wI (F_X12_hundredth a0 a1 h) 0 [(0, pR a0), (1, pI a1)] [] h := by
  unfold F_X12_hundredth
  refine pg_aload_n (i := 0) dX12_hundredth_0 rfl 0 rfl ?_
  refine pg_aload_n (i := 0) dX12_hundredth_1 rfl 0 rfl ?_
  refine pg_getR dX12_hundredth_2 fl_RX12_20 rfl (fun v1 => ?_)
  refine pg_sipush dX12_hundredth_5 cs_1349 ?_
  refine pg_iaload dX12_hundredth_8 (fun v2 => ?_)
  refine pg_iload_n (i := 1) dX12_hundredth_9 rfl 1 rfl ?_
  refine pg_callV_wV (As := [pI v2, pI a1]) (rs := []) dX12_hundredth_10 lk_RX12_302 vy_X12_asks nd_X12_asks (c_X12_asks l D a0 v2 a1 h) rfl rfl (Nat.le_of_ble_eq_true rfl) (by decide) (by decide) (fun v3 => ?_)
  refine pg_aload_n (i := 0) dX12_hundredth_13 rfl 0 rfl ?_
  refine pg_getI dX12_hundredth_14 fl_RX12_293 rfl (fun v4 => ?_)
  refine pg_if_ne (tgt := 25) dX12_hundredth_17 rfl ?_ ?_
  · refine pg_aload_n (i := 0) dX12_hundredth_25 rfl 0 rfl ?_
    refine pg_getL dX12_hundredth_26 fl_RX12_289 rfl (fun v5 => ?_)
    refine pg_lconst dX12_hundredth_29 cl_0 ?_
    refine pg_lcmp_ge (tgt := 38) dX12_hundredth_30 dX12_hundredth_31 rfl ?_ ?_
    · refine pg_aload_n (i := 0) dX12_hundredth_38 rfl 0 rfl ?_
      refine pg_getL dX12_hundredth_39 fl_RX12_289 rfl (fun v6 => ?_)
      refine pg_ldc2 (v := (100 : Int64)) dX12_hundredth_42 kc_RX12_306 ?_
      refine pg_lcmp_le (tgt := 54) dX12_hundredth_45 dX12_hundredth_46 rfl ?_ ?_
      · refine pg_aload_n (i := 0) dX12_hundredth_54 rfl 0 rfl ?_
        refine pg_getL dX12_hundredth_55 fl_RX12_289 rfl (fun v7 => ?_)
        refine pg_l2i dX12_hundredth_58 ?_
        exact pg_iret dX12_hundredth_59 rfl rfl
      · refine pg_bipush dX12_hundredth_49 cb_100 ?_
        refine pg_goto (tgt := 59) dX12_hundredth_51 rfl ?_
        exact pg_iret dX12_hundredth_59 rfl rfl
    · refine pg_iconst dX12_hundredth_34 ci_0 ?_
      refine pg_goto (tgt := 59) dX12_hundredth_35 rfl ?_
      exact pg_iret dX12_hundredth_59 rfl rfl
  · refine pg_bipush dX12_hundredth_20 cb_50 ?_
    refine pg_goto (tgt := 59) dX12_hundredth_22 rfl ?_
    exact pg_iret dX12_hundredth_59 rfl rfl
theorem c_X12_hundredth (l : Launch) (D : pg_D) (a0 : Nat) (a1 : Int32) (h : pg_H) : ∀ x, F_X12_hundredth a0 a1 h = some x → pg_Ct l D yX12_hundredth cX12_hundredth 2 (some FieldType.int) 1304 33913 [pR a0, pI a1] h (pg_wI x) :=
  pg_Ct.of pn_RX12 (Nat.le_of_ble_eq_true rfl) (e_X12_hundredth l D a0 a1 h)
def F_X12_weightOf (a0 : Nat) (a1 : Int32) (a2 : Int32) (h : pg_H) : Option (Int32 × pg_H) := Option.bind (pg_rcv 12 h a0 (F_X12_bare a0 h)) fun v1 => Option.bind (pg_gR 12 22 v1 a0) fun v2 => Option.bind (pg_sI 21 v1 v2 (0 : Int32) a1) fun v3 => Option.bind (pg_gR 12 22 v3 a0) fun v4 => (if (5 : Int32) = 0 then none else Option.bind (pg_sI 21 v3 v4 (1 : Int32) (a1 / (5 : Int32))) fun v5 => Option.bind (pg_gR 12 22 v5 a0) fun v6 => Option.bind (pg_sI 21 v5 v6 (2 : Int32) a2) fun v7 => Option.bind (pg_gR 12 22 v7 a0) fun v8 => Option.bind (pg_rcv 12 v7 a0 (F_X12_sharedBy v7 a0 a1 a2)) fun v9 => Option.bind (pg_sI 21 v7 v8 (3 : Int32) v9) fun v10 => Option.bind (pg_gR 12 3 v10 a0) fun v11 => Option.bind (pg_aI 21 v10 v11 (1349 : Int32)) fun v12 => Option.bind (pg_rcv 12 v10 a0 (F_X12_asks a0 v12 (1 : Int32) v10)) fun v13 => Option.bind (pg_gI 12 24 v13 a0) fun v14 => (if v14 = 0 then (some ((10 : Int32), v13)) else Option.bind (pg_gL 12 23 v13 a0) fun v15 => (if v15 < (0 : Int64) then (some ((0 : Int32), v13)) else Option.bind (pg_gL 12 23 v13 a0) fun v16 => (if (100 : Int64) < v16 then (some ((100 : Int32), v13)) else Option.bind (pg_gL 12 23 v13 a0) fun v17 => (some ((v17).toInt32, v13))))))
theorem e_X12_weightOf (l : Launch) (D : pg_D)  (a0 : Nat) (a1 : Int32) (a2 : Int32) (h : pg_H) : pg_EvF l D RX12 cX12_weightOf 3 (some FieldType.int) "weightOf" 1304 33913 pg_wI (F_X12_weightOf a0 a1 a2 h) 0 [(0, pR a0), (1, pI a1), (2, pI a2)] [] h := by
  unfold F_X12_weightOf
  refine pg_aload_n (i := 0) dX12_weightOf_0 rfl 0 rfl ?_
  refine pg_callV_wV (As := []) (rs := []) dX12_weightOf_1 lk_RX12_296 vy_X12_bare nd_X12_bare (c_X12_bare l D a0 h) rfl rfl (Nat.le_of_ble_eq_true rfl) (by decide) (by decide) (fun v1 => ?_)
  refine pg_aload_n (i := 0) dX12_weightOf_4 rfl 0 rfl ?_
  refine pg_getR dX12_weightOf_5 fl_RX12_52 rfl (fun v2 => ?_)
  refine pg_iconst dX12_weightOf_8 ci_0 ?_
  refine pg_iload_n (i := 1) dX12_weightOf_9 rfl 1 rfl ?_
  refine pg_iastore dX12_weightOf_10 (fun v3 => ?_)
  refine pg_aload_n (i := 0) dX12_weightOf_11 rfl 0 rfl ?_
  refine pg_getR dX12_weightOf_12 fl_RX12_52 rfl (fun v4 => ?_)
  refine pg_iconst dX12_weightOf_15 ci_1 ?_
  refine pg_iload_n (i := 1) dX12_weightOf_16 rfl 1 rfl ?_
  refine pg_iconst dX12_weightOf_17 ci_5 ?_
  refine pg_idiv dX12_weightOf_18 ?_
  refine pg_iastore dX12_weightOf_19 (fun v5 => ?_)
  refine pg_aload_n (i := 0) dX12_weightOf_20 rfl 0 rfl ?_
  refine pg_getR dX12_weightOf_21 fl_RX12_52 rfl (fun v6 => ?_)
  refine pg_iconst dX12_weightOf_24 ci_2 ?_
  refine pg_iload_n (i := 2) dX12_weightOf_25 rfl 2 rfl ?_
  refine pg_iastore dX12_weightOf_26 (fun v7 => ?_)
  refine pg_aload_n (i := 0) dX12_weightOf_27 rfl 0 rfl ?_
  refine pg_getR dX12_weightOf_28 fl_RX12_52 rfl (fun v8 => ?_)
  refine pg_iconst dX12_weightOf_31 ci_3 ?_
  refine pg_aload_n (i := 0) dX12_weightOf_32 rfl 0 rfl ?_
  refine pg_iload_n (i := 1) dX12_weightOf_33 rfl 1 rfl ?_
  refine pg_iload_n (i := 2) dX12_weightOf_34 rfl 2 rfl ?_
  refine pg_callV_oI (As := [pI a1, pI a2]) (rs := [pI (3 : Int32), pR v8]) dX12_weightOf_35 lk_RX12_160 vy_X12_sharedBy nd_X12_sharedBy (c_X12_sharedBy l D v7 a0 a1 a2) rfl rfl (Nat.le_of_ble_eq_true rfl) (by decide) (by decide) (fun v9 => ?_)
  refine pg_iastore dX12_weightOf_38 (fun v10 => ?_)
  refine pg_aload_n (i := 0) dX12_weightOf_39 rfl 0 rfl ?_
  refine pg_aload_n (i := 0) dX12_weightOf_40 rfl 0 rfl ?_
  refine pg_getR dX12_weightOf_41 fl_RX12_20 rfl (fun v11 => ?_)
  refine pg_sipush dX12_weightOf_44 cs_1349 ?_
  refine pg_iaload dX12_weightOf_47 (fun v12 => ?_)
  refine pg_iconst dX12_weightOf_48 ci_1 ?_
  refine pg_callV_wV (As := [pI v12, pI (1 : Int32)]) (rs := []) dX12_weightOf_49 lk_RX12_302 vy_X12_asks nd_X12_asks (c_X12_asks l D a0 v12 (1 : Int32) v10) rfl rfl (Nat.le_of_ble_eq_true rfl) (by decide) (by decide) (fun v13 => ?_)
  refine pg_aload_n (i := 0) dX12_weightOf_52 rfl 0 rfl ?_
  refine pg_getI dX12_weightOf_53 fl_RX12_293 rfl (fun v14 => ?_)
  refine pg_if_ne (tgt := 64) dX12_weightOf_56 rfl ?_ ?_
  · refine pg_aload_n (i := 0) dX12_weightOf_64 rfl 0 rfl ?_
    refine pg_getL dX12_weightOf_65 fl_RX12_289 rfl (fun v15 => ?_)
    refine pg_lconst dX12_weightOf_68 cl_0 ?_
    refine pg_lcmp_ge (tgt := 77) dX12_weightOf_69 dX12_weightOf_70 rfl ?_ ?_
    · refine pg_aload_n (i := 0) dX12_weightOf_77 rfl 0 rfl ?_
      refine pg_getL dX12_weightOf_78 fl_RX12_289 rfl (fun v16 => ?_)
      refine pg_ldc2 (v := (100 : Int64)) dX12_weightOf_81 kc_RX12_306 ?_
      refine pg_lcmp_le (tgt := 93) dX12_weightOf_84 dX12_weightOf_85 rfl ?_ ?_
      · refine pg_aload_n (i := 0) dX12_weightOf_93 rfl 0 rfl ?_
        refine pg_getL dX12_weightOf_94 fl_RX12_289 rfl (fun v17 => ?_)
        refine pg_l2i dX12_weightOf_97 ?_
        exact pg_iret dX12_weightOf_98 rfl rfl
      · refine pg_bipush dX12_weightOf_88 cb_100 ?_
        refine pg_goto (tgt := 98) dX12_weightOf_90 rfl ?_
        exact pg_iret dX12_weightOf_98 rfl rfl
    · refine pg_iconst dX12_weightOf_73 ci_0 ?_
      refine pg_goto (tgt := 98) dX12_weightOf_74 rfl ?_
      exact pg_iret dX12_weightOf_98 rfl rfl
  · refine pg_bipush dX12_weightOf_59 cb_10 ?_
    refine pg_goto (tgt := 98) dX12_weightOf_61 rfl ?_
    exact pg_iret dX12_weightOf_98 rfl rfl
theorem c_X12_weightOf (l : Launch) (D : pg_D) (a0 : Nat) (a1 : Int32) (a2 : Int32) (h : pg_H) : ∀ x, F_X12_weightOf a0 a1 a2 h = some x → pg_Ct l D yX12_weightOf cX12_weightOf 3 (some FieldType.int) 1304 33913 [pR a0, pI a1, pI a2] h (pg_wI x) :=
  pg_Ct.of pn_RX12 (Nat.le_of_ble_eq_true rfl) (e_X12_weightOf l D a0 a1 a2 h)
def F_X12_weight (a0 : Nat) (a1 : Int32) (a2 : Int32) (h : pg_H) : Option (Int32 × pg_H) := Option.bind (F_X12_lies a1 (0 : Int32) (59 : Int32)) fun v1 => (if v1 = 0 then (some ((-1 : Int32), h)) else Option.bind (F_X12_lies a2 (0 : Int32) (99 : Int32)) fun v2 => (if v2 = 0 then (some ((-1 : Int32), h)) else Option.bind (pg_rcv 12 h a0 (F_X12_weightOf a0 a1 a2 h)) fun v3 => (some (v3.1, v3.2))))
theorem e_X12_weight (l : Launch) (D : pg_D)  (a0 : Nat) (a1 : Int32) (a2 : Int32) (h : pg_H) : pg_EvF l D RX12 cX12_weight 3 (some FieldType.int) "weight" 1305 33935 pg_wI (F_X12_weight a0 a1 a2 h) 0 [(0, pR a0), (1, pI a1), (2, pI a2)] [] h := by
  unfold F_X12_weight
  refine pg_iload_n (i := 1) dX12_weight_0 rfl 1 rfl ?_
  refine pg_iconst dX12_weight_1 ci_0 ?_
  refine pg_bipush dX12_weight_2 cb_59 ?_
  refine pg_callS_oI (As := [pI a1, pI (0 : Int32), pI (59 : Int32)]) (rs := []) dX12_weight_4 lk_RX12_113 vy_X12_lies nd_X12_lies (c_X12_lies l D a1 (0 : Int32) (59 : Int32) h) rfl rfl (Nat.le_of_ble_eq_true rfl) (by decide) (by decide) (fun v1 => ?_)
  refine pg_if_eq (tgt := 29) dX12_weight_7 rfl ?_ ?_
  · refine pg_iconst dX12_weight_29 ci_m1 ?_
    exact pg_iret dX12_weight_30 rfl rfl
  · refine pg_iload_n (i := 2) dX12_weight_10 rfl 2 rfl ?_
    refine pg_iconst dX12_weight_11 ci_0 ?_
    refine pg_bipush dX12_weight_12 cb_99 ?_
    refine pg_callS_oI (As := [pI a2, pI (0 : Int32), pI (99 : Int32)]) (rs := []) dX12_weight_14 lk_RX12_113 vy_X12_lies nd_X12_lies (c_X12_lies l D a2 (0 : Int32) (99 : Int32) h) rfl rfl (Nat.le_of_ble_eq_true rfl) (by decide) (by decide) (fun v2 => ?_)
    refine pg_if_eq (tgt := 29) dX12_weight_17 rfl ?_ ?_
    · refine pg_iconst dX12_weight_29 ci_m1 ?_
      exact pg_iret dX12_weight_30 rfl rfl
    · refine pg_aload_n (i := 0) dX12_weight_20 rfl 0 rfl ?_
      refine pg_iload_n (i := 1) dX12_weight_21 rfl 1 rfl ?_
      refine pg_iload_n (i := 2) dX12_weight_22 rfl 2 rfl ?_
      refine pg_callV_wI (As := [pI a1, pI a2]) (rs := []) dX12_weight_23 lk_RX12_308 vy_X12_weightOf nd_X12_weightOf (c_X12_weightOf l D a0 a1 a2 h) rfl rfl (Nat.le_of_ble_eq_true rfl) (by decide) (by decide) (fun v3 => ?_)
      refine pg_goto (tgt := 30) dX12_weight_26 rfl ?_
      exact pg_iret dX12_weight_30 rfl rfl
theorem c_X12_weight (l : Launch) (D : pg_D) (a0 : Nat) (a1 : Int32) (a2 : Int32) (h : pg_H) : ∀ x, F_X12_weight a0 a1 a2 h = some x → pg_Ct l D yX12_weight cX12_weight 3 (some FieldType.int) 1305 33935 [pR a0, pI a1, pI a2] h (pg_wI x) :=
  pg_Ct.of pn_RX12 (Nat.le_of_ble_eq_true rfl) (e_X12_weight l D a0 a1 a2 h)
def F_X12_hasStays_2 (h : pg_H) : Nat → Nat → Int32 → Int32 → Option Int32
  | 0 => fun _ _ _ => none
  | n + 1 => fun a0 a1 a2 => Option.bind (pg_gR 12 3 h a0) fun v1 => Option.bind (pg_aI 21 h v1 (1345 : Int32)) fun v2 => (if a2 < v2 then Option.bind (pg_rcv 12 h a0 (F_X12_stayOf h a0 a2 (0 : Int32))) fun v3 => (if v3 = a1 then (some (1 : Int32)) else (F_X12_hasStays_2 h n a0 a1 (a2 + (1 : Int32)))) else (some (0 : Int32)))
def F_X12_hasStays (h : pg_H) (a0 : Nat) (a1 : Int32) : Option Int32 := (F_X12_hasStays_2 h pg_fuel a0 a1 (0 : Int32))
theorem e_X12_hasStays_2 (l : Launch) (D : pg_D)  (h : pg_H) : ∀ (n : Nat) (a0 : Nat) (a1 : Int32) (a2 : Int32), pg_EvF l D RX12 cX12_hasStays 3 (some FieldType.boolean) "hasStays" 1 22 (pg_oI h) (F_X12_hasStays_2 h n a0 a1 a2) 2 [(0, pR a0), (1, pI a1), (2, pI a2)] [] h := by
  intro n
  induction n with
  | zero => intro a0 a1 a2; exact pg_none
  | succ n ih =>
    intro a0 a1 a2
    rw [F_X12_hasStays_2]
    refine pg_iload_n (i := 2) dX12_hasStays_2 rfl 2 rfl ?_
    refine pg_aload_n (i := 0) dX12_hasStays_3 rfl 0 rfl ?_
    refine pg_getR dX12_hasStays_4 fl_RX12_20 rfl (fun v1 => ?_)
    refine pg_sipush dX12_hasStays_7 cs_1345 ?_
    refine pg_iaload dX12_hasStays_10 (fun v2 => ?_)
    refine pg_icmp_ge (tgt := 32) dX12_hasStays_11 rfl ?_ ?_
    · refine pg_iconst dX12_hasStays_32 ci_0 ?_
      exact pg_zret dX12_hasStays_33 rfl (Or.inl rfl) rfl
    · refine pg_aload_n (i := 0) dX12_hasStays_14 rfl 0 rfl ?_
      refine pg_iload_n (i := 2) dX12_hasStays_15 rfl 2 rfl ?_
      refine pg_iconst dX12_hasStays_16 ci_0 ?_
      refine pg_callV_oI (As := [pI a2, pI (0 : Int32)]) (rs := []) dX12_hasStays_17 lk_RX12_311 vy_X12_stayOf nd_X12_stayOf (c_X12_stayOf l D h a0 a2 (0 : Int32)) rfl rfl (Nat.le_of_ble_eq_true rfl) (by decide) (by decide) (fun v3 => ?_)
      refine pg_iload_n (i := 1) dX12_hasStays_20 rfl 1 rfl ?_
      refine pg_icmp_ne (tgt := 26) dX12_hasStays_21 rfl ?_ ?_
      · refine pg_iinc (lv' := [(2, pI (a2 + (1 : Int32))), (0, pR a0), (1, pI a1)]) dX12_hasStays_26 2 rfl ci_1 (by decide) rfl ?_
        refine pg_goto (tgt := 2) dX12_hasStays_29 rfl ?_
        exact pg_to (ih a0 a1 (a2 + (1 : Int32))) [1, 2, 0] rfl
      · refine pg_iconst dX12_hasStays_24 ci_1 ?_
        exact pg_zret dX12_hasStays_25 rfl (Or.inr rfl) rfl
theorem e_X12_hasStays (l : Launch) (D : pg_D)  (h : pg_H) (a0 : Nat) (a1 : Int32) : pg_EvF l D RX12 cX12_hasStays 3 (some FieldType.boolean) "hasStays" 1 22 (pg_oI h) (F_X12_hasStays h a0 a1) 0 [(0, pR a0), (1, pI a1)] [] h := by
  unfold F_X12_hasStays
  refine pg_iconst dX12_hasStays_0 ci_0 ?_
  refine pg_istore_n (i := 2) (lv' := [(2, pI (0 : Int32)), (0, pR a0), (1, pI a1)]) dX12_hasStays_1 rfl (by decide) rfl ?_
  exact pg_to (e_X12_hasStays_2 l D h pg_fuel a0 a1 (0 : Int32)) [1, 2, 0] rfl
theorem c_X12_hasStays (l : Launch) (D : pg_D) (h : pg_H) (a0 : Nat) (a1 : Int32)  : ∀ x, F_X12_hasStays h a0 a1 = some x → pg_Ct l D yX12_hasStays cX12_hasStays 3 (some FieldType.boolean) 1 22 [pR a0, pI a1] h (pg_oI h x) :=
  pg_Ct.of pn_RX12 (Nat.le_of_ble_eq_true rfl) (e_X12_hasStays l D h a0 a1)
def F_X12_canMeet_128 (h : pg_H) (k20 : Nat → Int32 → Int32 → Int32 → Option Int32) (a0 : Nat) (a1 : Int32) (a2 : Int32) (a3 : Int32) : Option Int32 := (k20 a0 a1 a2 (a3 + (1 : Int32)))
def F_X12_canMeet_122 (h : pg_H) (k48 : Nat → Int32 → Int32 → Int32 → Int32 → Option Int32) (a0 : Nat) (a1 : Int32) (a2 : Int32) (a3 : Int32) (a4 : Int32) : Option Int32 := (k48 a0 a1 a2 a3 (a4 + (1 : Int32)))
def F_X12_canMeet_48 (h : pg_H) (k20 : Nat → Int32 → Int32 → Int32 → Option Int32) : Nat → Nat → Int32 → Int32 → Int32 → Int32 → Option Int32
  | 0 => fun _ _ _ _ _ => none
  | n + 1 => fun a0 a1 a2 a3 a4 => Option.bind (pg_gR 12 3 h a0) fun v1 => Option.bind (pg_aI 21 h v1 (1345 : Int32)) fun v2 => (if a4 < v2 then Option.bind (pg_rcv 12 h a0 (F_X12_stayOf h a0 a4 (0 : Int32))) fun v3 => (if v3 = a2 then Option.bind (pg_rcv 12 h a0 (F_X12_stayOf h a0 a3 (1 : Int32))) fun v4 => Option.bind (pg_rcv 12 h a0 (F_X12_stayOf h a0 a4 (1 : Int32))) fun v5 => (if v4 = v5 then Option.bind (pg_rcv 12 h a0 (F_X12_stayOf h a0 a3 (2 : Int32))) fun v6 => Option.bind (pg_rcv 12 h a0 (F_X12_stayOf h a0 a4 (3 : Int32))) fun v7 => (if v7 < v6 then (F_X12_canMeet_122 h (F_X12_canMeet_48 h k20 n) a0 a1 a2 a3 a4) else Option.bind (pg_rcv 12 h a0 (F_X12_stayOf h a0 a4 (2 : Int32))) fun v8 => Option.bind (pg_rcv 12 h a0 (F_X12_stayOf h a0 a3 (3 : Int32))) fun v9 => (if v9 < v8 then (F_X12_canMeet_122 h (F_X12_canMeet_48 h k20 n) a0 a1 a2 a3 a4) else (some (1 : Int32)))) else (F_X12_canMeet_122 h (F_X12_canMeet_48 h k20 n) a0 a1 a2 a3 a4)) else (F_X12_canMeet_122 h (F_X12_canMeet_48 h k20 n) a0 a1 a2 a3 a4)) else (F_X12_canMeet_128 h k20 a0 a1 a2 a3))
def F_X12_canMeet_20 (h : pg_H) : Nat → Nat → Int32 → Int32 → Int32 → Option Int32
  | 0 => fun _ _ _ _ => none
  | n + 1 => fun a0 a1 a2 a3 => Option.bind (pg_gR 12 3 h a0) fun v1 => Option.bind (pg_aI 21 h v1 (1345 : Int32)) fun v2 => (if a3 < v2 then Option.bind (pg_rcv 12 h a0 (F_X12_stayOf h a0 a3 (0 : Int32))) fun v3 => (if v3 = a1 then (F_X12_canMeet_48 h (F_X12_canMeet_20 h n) pg_fuel a0 a1 a2 a3 (0 : Int32)) else (F_X12_canMeet_128 h (F_X12_canMeet_20 h n) a0 a1 a2 a3)) else (some (0 : Int32)))
def F_X12_canMeet (h : pg_H) (a0 : Nat) (a1 : Int32) (a2 : Int32) : Option Int32 := Option.bind (pg_rcv 12 h a0 (F_X12_hasStays h a0 a1)) fun v1 => (if v1 = 0 then (some (1 : Int32)) else Option.bind (pg_rcv 12 h a0 (F_X12_hasStays h a0 a2)) fun v2 => (if v2 = 0 then (some (1 : Int32)) else (F_X12_canMeet_20 h pg_fuel a0 a1 a2 (0 : Int32))))
theorem e_X12_canMeet_128 (l : Launch) (D : pg_D)  (h : pg_H) (k20 : Nat → Int32 → Int32 → Int32 → Option Int32) (hk20 : ∀ (a0 : Nat) (a1 : Int32) (a2 : Int32) (a3 : Int32), pg_EvF l D RX12 cX12_canMeet 5 (some FieldType.boolean) "canMeet" 2 44 (pg_oI h) (k20 a0 a1 a2 a3) 20 [(0, pR a0), (1, pI a1), (2, pI a2), (3, pI a3)] [] h) (a0 : Nat) (a1 : Int32) (a2 : Int32) (a3 : Int32) : pg_EvF l D RX12 cX12_canMeet 5 (some FieldType.boolean) "canMeet" 2 44 (pg_oI h) (F_X12_canMeet_128 h k20 a0 a1 a2 a3) 128 [(0, pR a0), (1, pI a1), (2, pI a2), (3, pI a3)] [] h := by
  unfold F_X12_canMeet_128
  refine pg_iinc (lv' := [(3, pI (a3 + (1 : Int32))), (0, pR a0), (1, pI a1), (2, pI a2)]) dX12_canMeet_128 3 rfl ci_1 (by decide) rfl ?_
  refine pg_goto (tgt := 20) dX12_canMeet_131 rfl ?_
  exact pg_to (hk20 a0 a1 a2 (a3 + (1 : Int32))) [1, 2, 3, 0] rfl
theorem e_X12_canMeet_122 (l : Launch) (D : pg_D)  (h : pg_H) (k48 : Nat → Int32 → Int32 → Int32 → Int32 → Option Int32) (hk48 : ∀ (a0 : Nat) (a1 : Int32) (a2 : Int32) (a3 : Int32) (a4 : Int32), pg_EvF l D RX12 cX12_canMeet 5 (some FieldType.boolean) "canMeet" 2 44 (pg_oI h) (k48 a0 a1 a2 a3 a4) 48 [(0, pR a0), (1, pI a1), (2, pI a2), (3, pI a3), (4, pI a4)] [] h) (a0 : Nat) (a1 : Int32) (a2 : Int32) (a3 : Int32) (a4 : Int32) : pg_EvF l D RX12 cX12_canMeet 5 (some FieldType.boolean) "canMeet" 2 44 (pg_oI h) (F_X12_canMeet_122 h k48 a0 a1 a2 a3 a4) 122 [(0, pR a0), (1, pI a1), (2, pI a2), (3, pI a3), (4, pI a4)] [] h := by
  unfold F_X12_canMeet_122
  refine pg_iinc (lv' := [(4, pI (a4 + (1 : Int32))), (0, pR a0), (1, pI a1), (2, pI a2), (3, pI a3)]) dX12_canMeet_122 4 rfl ci_1 (by decide) rfl ?_
  refine pg_goto (tgt := 48) dX12_canMeet_125 rfl ?_
  exact pg_to (hk48 a0 a1 a2 a3 (a4 + (1 : Int32))) [1, 2, 3, 4, 0] rfl
theorem e_X12_canMeet_48 (l : Launch) (D : pg_D)  (h : pg_H) (k20 : Nat → Int32 → Int32 → Int32 → Option Int32) (hk20 : ∀ (a0 : Nat) (a1 : Int32) (a2 : Int32) (a3 : Int32), pg_EvF l D RX12 cX12_canMeet 5 (some FieldType.boolean) "canMeet" 2 44 (pg_oI h) (k20 a0 a1 a2 a3) 20 [(0, pR a0), (1, pI a1), (2, pI a2), (3, pI a3)] [] h) : ∀ (n : Nat) (a0 : Nat) (a1 : Int32) (a2 : Int32) (a3 : Int32) (a4 : Int32), pg_EvF l D RX12 cX12_canMeet 5 (some FieldType.boolean) "canMeet" 2 44 (pg_oI h) (F_X12_canMeet_48 h k20 n a0 a1 a2 a3 a4) 48 [(0, pR a0), (1, pI a1), (2, pI a2), (3, pI a3), (4, pI a4)] [] h := by
  intro n
  induction n with
  | zero => intro a0 a1 a2 a3 a4; exact pg_none
  | succ n ih =>
    intro a0 a1 a2 a3 a4
    rw [F_X12_canMeet_48]
    refine pg_iload dX12_canMeet_48 4 rfl ?_
    refine pg_aload_n (i := 0) dX12_canMeet_50 rfl 0 rfl ?_
    refine pg_getR dX12_canMeet_51 fl_RX12_20 rfl (fun v1 => ?_)
    refine pg_sipush dX12_canMeet_54 cs_1345 ?_
    refine pg_iaload dX12_canMeet_57 (fun v2 => ?_)
    refine pg_icmp_ge (tgt := 128) dX12_canMeet_58 rfl ?_ ?_
    · exact pg_to (e_X12_canMeet_128 l D h k20 hk20 a0 a1 a2 a3) [0, 1, 2, 3] rfl
    · refine pg_aload_n (i := 0) dX12_canMeet_61 rfl 0 rfl ?_
      refine pg_iload dX12_canMeet_62 4 rfl ?_
      refine pg_iconst dX12_canMeet_64 ci_0 ?_
      refine pg_callV_oI (As := [pI a4, pI (0 : Int32)]) (rs := []) dX12_canMeet_65 lk_RX12_311 vy_X12_stayOf nd_X12_stayOf (c_X12_stayOf l D h a0 a4 (0 : Int32)) rfl rfl (Nat.le_of_ble_eq_true rfl) (by decide) (by decide) (fun v3 => ?_)
      refine pg_iload_n (i := 2) dX12_canMeet_68 rfl 2 rfl ?_
      refine pg_icmp_ne (tgt := 122) dX12_canMeet_69 rfl ?_ ?_
      · exact pg_to (e_X12_canMeet_122 l D h (F_X12_canMeet_48 h k20 n) ih a0 a1 a2 a3 a4) [0, 1, 2, 3, 4] rfl
      · refine pg_aload_n (i := 0) dX12_canMeet_72 rfl 0 rfl ?_
        refine pg_iload_n (i := 3) dX12_canMeet_73 rfl 3 rfl ?_
        refine pg_iconst dX12_canMeet_74 ci_1 ?_
        refine pg_callV_oI (As := [pI a3, pI (1 : Int32)]) (rs := []) dX12_canMeet_75 lk_RX12_311 vy_X12_stayOf nd_X12_stayOf (c_X12_stayOf l D h a0 a3 (1 : Int32)) rfl rfl (Nat.le_of_ble_eq_true rfl) (by decide) (by decide) (fun v4 => ?_)
        refine pg_aload_n (i := 0) dX12_canMeet_78 rfl 0 rfl ?_
        refine pg_iload dX12_canMeet_79 4 rfl ?_
        refine pg_iconst dX12_canMeet_81 ci_1 ?_
        refine pg_callV_oI (As := [pI a4, pI (1 : Int32)]) (rs := [pI v4]) dX12_canMeet_82 lk_RX12_311 vy_X12_stayOf nd_X12_stayOf (c_X12_stayOf l D h a0 a4 (1 : Int32)) rfl rfl (Nat.le_of_ble_eq_true rfl) (by decide) (by decide) (fun v5 => ?_)
        refine pg_icmp_ne (tgt := 122) dX12_canMeet_85 rfl ?_ ?_
        · exact pg_to (e_X12_canMeet_122 l D h (F_X12_canMeet_48 h k20 n) ih a0 a1 a2 a3 a4) [0, 1, 2, 3, 4] rfl
        · refine pg_aload_n (i := 0) dX12_canMeet_88 rfl 0 rfl ?_
          refine pg_iload_n (i := 3) dX12_canMeet_89 rfl 3 rfl ?_
          refine pg_iconst dX12_canMeet_90 ci_2 ?_
          refine pg_callV_oI (As := [pI a3, pI (2 : Int32)]) (rs := []) dX12_canMeet_91 lk_RX12_311 vy_X12_stayOf nd_X12_stayOf (c_X12_stayOf l D h a0 a3 (2 : Int32)) rfl rfl (Nat.le_of_ble_eq_true rfl) (by decide) (by decide) (fun v6 => ?_)
          refine pg_aload_n (i := 0) dX12_canMeet_94 rfl 0 rfl ?_
          refine pg_iload dX12_canMeet_95 4 rfl ?_
          refine pg_iconst dX12_canMeet_97 ci_3 ?_
          refine pg_callV_oI (As := [pI a4, pI (3 : Int32)]) (rs := [pI v6]) dX12_canMeet_98 lk_RX12_311 vy_X12_stayOf nd_X12_stayOf (c_X12_stayOf l D h a0 a4 (3 : Int32)) rfl rfl (Nat.le_of_ble_eq_true rfl) (by decide) (by decide) (fun v7 => ?_)
          refine pg_icmp_gt (tgt := 122) dX12_canMeet_101 rfl ?_ ?_
          · exact pg_to (e_X12_canMeet_122 l D h (F_X12_canMeet_48 h k20 n) ih a0 a1 a2 a3 a4) [0, 1, 2, 3, 4] rfl
          · refine pg_aload_n (i := 0) dX12_canMeet_104 rfl 0 rfl ?_
            refine pg_iload dX12_canMeet_105 4 rfl ?_
            refine pg_iconst dX12_canMeet_107 ci_2 ?_
            refine pg_callV_oI (As := [pI a4, pI (2 : Int32)]) (rs := []) dX12_canMeet_108 lk_RX12_311 vy_X12_stayOf nd_X12_stayOf (c_X12_stayOf l D h a0 a4 (2 : Int32)) rfl rfl (Nat.le_of_ble_eq_true rfl) (by decide) (by decide) (fun v8 => ?_)
            refine pg_aload_n (i := 0) dX12_canMeet_111 rfl 0 rfl ?_
            refine pg_iload_n (i := 3) dX12_canMeet_112 rfl 3 rfl ?_
            refine pg_iconst dX12_canMeet_113 ci_3 ?_
            refine pg_callV_oI (As := [pI a3, pI (3 : Int32)]) (rs := [pI v8]) dX12_canMeet_114 lk_RX12_311 vy_X12_stayOf nd_X12_stayOf (c_X12_stayOf l D h a0 a3 (3 : Int32)) rfl rfl (Nat.le_of_ble_eq_true rfl) (by decide) (by decide) (fun v9 => ?_)
            refine pg_icmp_gt (tgt := 122) dX12_canMeet_117 rfl ?_ ?_
            · exact pg_to (e_X12_canMeet_122 l D h (F_X12_canMeet_48 h k20 n) ih a0 a1 a2 a3 a4) [0, 1, 2, 3, 4] rfl
            · refine pg_iconst dX12_canMeet_120 ci_1 ?_
              exact pg_zret dX12_canMeet_121 rfl (Or.inr rfl) rfl
theorem e_X12_canMeet_20 (l : Launch) (D : pg_D)  (h : pg_H) : ∀ (n : Nat) (a0 : Nat) (a1 : Int32) (a2 : Int32) (a3 : Int32), pg_EvF l D RX12 cX12_canMeet 5 (some FieldType.boolean) "canMeet" 2 44 (pg_oI h) (F_X12_canMeet_20 h n a0 a1 a2 a3) 20 [(0, pR a0), (1, pI a1), (2, pI a2), (3, pI a3)] [] h := by
  intro n
  induction n with
  | zero => intro a0 a1 a2 a3; exact pg_none
  | succ n ih =>
    intro a0 a1 a2 a3
    rw [F_X12_canMeet_20]
    refine pg_iload_n (i := 3) dX12_canMeet_20 rfl 3 rfl ?_
    refine pg_aload_n (i := 0) dX12_canMeet_21 rfl 0 rfl ?_
    refine pg_getR dX12_canMeet_22 fl_RX12_20 rfl (fun v1 => ?_)
    refine pg_sipush dX12_canMeet_25 cs_1345 ?_
    refine pg_iaload dX12_canMeet_28 (fun v2 => ?_)
    refine pg_icmp_ge (tgt := 134) dX12_canMeet_29 rfl ?_ ?_
    · refine pg_iconst dX12_canMeet_134 ci_0 ?_
      exact pg_zret dX12_canMeet_135 rfl (Or.inl rfl) rfl
    · refine pg_aload_n (i := 0) dX12_canMeet_32 rfl 0 rfl ?_
      refine pg_iload_n (i := 3) dX12_canMeet_33 rfl 3 rfl ?_
      refine pg_iconst dX12_canMeet_34 ci_0 ?_
      refine pg_callV_oI (As := [pI a3, pI (0 : Int32)]) (rs := []) dX12_canMeet_35 lk_RX12_311 vy_X12_stayOf nd_X12_stayOf (c_X12_stayOf l D h a0 a3 (0 : Int32)) rfl rfl (Nat.le_of_ble_eq_true rfl) (by decide) (by decide) (fun v3 => ?_)
      refine pg_iload_n (i := 1) dX12_canMeet_38 rfl 1 rfl ?_
      refine pg_icmp_eq (tgt := 45) dX12_canMeet_39 rfl ?_ ?_
      · refine pg_iconst dX12_canMeet_45 ci_0 ?_
        refine pg_istore (lv' := [(4, pI (0 : Int32)), (0, pR a0), (1, pI a1), (2, pI a2), (3, pI a3)]) dX12_canMeet_46 (by decide) rfl ?_
        exact pg_to (e_X12_canMeet_48 l D h (F_X12_canMeet_20 h n) ih pg_fuel a0 a1 a2 a3 (0 : Int32)) [1, 2, 3, 4, 0] rfl
      · refine pg_goto (tgt := 128) dX12_canMeet_42 rfl ?_
        exact pg_to (e_X12_canMeet_128 l D h (F_X12_canMeet_20 h n) ih a0 a1 a2 a3) [0, 1, 2, 3] rfl
theorem e_X12_canMeet (l : Launch) (D : pg_D)  (h : pg_H) (a0 : Nat) (a1 : Int32) (a2 : Int32) : pg_EvF l D RX12 cX12_canMeet 5 (some FieldType.boolean) "canMeet" 2 44 (pg_oI h) (F_X12_canMeet h a0 a1 a2) 0 [(0, pR a0), (1, pI a1), (2, pI a2)] [] h := by
  unfold F_X12_canMeet
  refine pg_aload_n (i := 0) dX12_canMeet_0 rfl 0 rfl ?_
  refine pg_iload_n (i := 1) dX12_canMeet_1 rfl 1 rfl ?_
  refine pg_callV_oI (As := [pI a1]) (rs := []) dX12_canMeet_2 lk_RX12_314 vy_X12_hasStays nd_X12_hasStays (c_X12_hasStays l D h a0 a1) rfl rfl (Nat.le_of_ble_eq_true rfl) (by decide) (by decide) (fun v1 => ?_)
  refine pg_if_eq (tgt := 16) dX12_canMeet_5 rfl ?_ ?_
  · refine pg_iconst dX12_canMeet_16 ci_1 ?_
    exact pg_zret dX12_canMeet_17 rfl (Or.inr rfl) rfl
  · refine pg_aload_n (i := 0) dX12_canMeet_8 rfl 0 rfl ?_
    refine pg_iload_n (i := 2) dX12_canMeet_9 rfl 2 rfl ?_
    refine pg_callV_oI (As := [pI a2]) (rs := []) dX12_canMeet_10 lk_RX12_314 vy_X12_hasStays nd_X12_hasStays (c_X12_hasStays l D h a0 a2) rfl rfl (Nat.le_of_ble_eq_true rfl) (by decide) (by decide) (fun v2 => ?_)
    refine pg_if_ne (tgt := 18) dX12_canMeet_13 rfl ?_ ?_
    · refine pg_iconst dX12_canMeet_18 ci_0 ?_
      refine pg_istore_n (i := 3) (lv' := [(3, pI (0 : Int32)), (0, pR a0), (1, pI a1), (2, pI a2)]) dX12_canMeet_19 rfl (by decide) rfl ?_
      exact pg_to (e_X12_canMeet_20 l D h pg_fuel a0 a1 a2 (0 : Int32)) [1, 2, 3, 0] rfl
    · refine pg_iconst dX12_canMeet_16 ci_1 ?_
      exact pg_zret dX12_canMeet_17 rfl (Or.inr rfl) rfl
theorem c_X12_canMeet (l : Launch) (D : pg_D) (h : pg_H) (a0 : Nat) (a1 : Int32) (a2 : Int32)  : ∀ x, F_X12_canMeet h a0 a1 a2 = some x → pg_Ct l D yX12_canMeet cX12_canMeet 5 (some FieldType.boolean) 2 44 [pR a0, pI a1, pI a2] h (pg_oI h x) :=
  pg_Ct.of pn_RX12 (Nat.le_of_ble_eq_true rfl) (e_X12_canMeet l D h a0 a1 a2)
def F_X12_may (h : pg_H) (a0 : Nat) (a1 : Int32) (a2 : Int32) : Option Int32 := Option.bind (pg_rcv 12 h a0 (F_X12_isCopy h a0 a1)) fun v1 => (if v1 = 0 then (some (-1 : Int32)) else Option.bind (pg_rcv 12 h a0 (F_X12_isCopy h a0 a2)) fun v2 => (if v2 = 0 then (some (-1 : Int32)) else (if a1 = a2 then (some (-1 : Int32)) else Option.bind (pg_rcv 12 h a0 (F_X12_canMeet h a0 a1 a2)) fun v3 => (if v3 = 0 then (some (0 : Int32)) else (some (1 : Int32))))))
theorem e_X12_may (l : Launch) (D : pg_D)  (h : pg_H) (a0 : Nat) (a1 : Int32) (a2 : Int32) : pg_EvF l D RX12 cX12_may 3 (some FieldType.int) "may" 3 68 (pg_oI h) (F_X12_may h a0 a1 a2) 0 [(0, pR a0), (1, pI a1), (2, pI a2)] [] h := by
  unfold F_X12_may
  refine pg_aload_n (i := 0) dX12_may_0 rfl 0 rfl ?_
  refine pg_iload_n (i := 1) dX12_may_1 rfl 1 rfl ?_
  refine pg_callV_oI (As := [pI a1]) (rs := []) dX12_may_2 lk_RX12_128 vy_X12_isCopy nd_X12_isCopy (c_X12_isCopy l D h a0 a1) rfl rfl (Nat.le_of_ble_eq_true rfl) (by decide) (by decide) (fun v1 => ?_)
  refine pg_if_eq (tgt := 38) dX12_may_5 rfl ?_ ?_
  · refine pg_iconst dX12_may_38 ci_m1 ?_
    exact pg_iret dX12_may_39 rfl rfl
  · refine pg_aload_n (i := 0) dX12_may_8 rfl 0 rfl ?_
    refine pg_iload_n (i := 2) dX12_may_9 rfl 2 rfl ?_
    refine pg_callV_oI (As := [pI a2]) (rs := []) dX12_may_10 lk_RX12_128 vy_X12_isCopy nd_X12_isCopy (c_X12_isCopy l D h a0 a2) rfl rfl (Nat.le_of_ble_eq_true rfl) (by decide) (by decide) (fun v2 => ?_)
    refine pg_if_eq (tgt := 38) dX12_may_13 rfl ?_ ?_
    · refine pg_iconst dX12_may_38 ci_m1 ?_
      exact pg_iret dX12_may_39 rfl rfl
    · refine pg_iload_n (i := 1) dX12_may_16 rfl 1 rfl ?_
      refine pg_iload_n (i := 2) dX12_may_17 rfl 2 rfl ?_
      refine pg_icmp_eq (tgt := 38) dX12_may_18 rfl ?_ ?_
      · refine pg_iconst dX12_may_38 ci_m1 ?_
        exact pg_iret dX12_may_39 rfl rfl
      · refine pg_aload_n (i := 0) dX12_may_21 rfl 0 rfl ?_
        refine pg_iload_n (i := 1) dX12_may_22 rfl 1 rfl ?_
        refine pg_iload_n (i := 2) dX12_may_23 rfl 2 rfl ?_
        refine pg_callV_oI (As := [pI a1, pI a2]) (rs := []) dX12_may_24 lk_RX12_317 vy_X12_canMeet nd_X12_canMeet (c_X12_canMeet l D h a0 a1 a2) rfl rfl (Nat.le_of_ble_eq_true rfl) (by decide) (by decide) (fun v3 => ?_)
        refine pg_if_eq (tgt := 34) dX12_may_27 rfl ?_ ?_
        · refine pg_iconst dX12_may_34 ci_0 ?_
          refine pg_goto (tgt := 39) dX12_may_35 rfl ?_
          exact pg_iret dX12_may_39 rfl rfl
        · refine pg_iconst dX12_may_30 ci_1 ?_
          refine pg_goto (tgt := 39) dX12_may_31 rfl ?_
          exact pg_iret dX12_may_39 rfl rfl
theorem c_X12_may (l : Launch) (D : pg_D) (h : pg_H) (a0 : Nat) (a1 : Int32) (a2 : Int32)  : ∀ x, F_X12_may h a0 a1 a2 = some x → pg_Ct l D yX12_may cX12_may 3 (some FieldType.int) 3 68 [pR a0, pI a1, pI a2] h (pg_oI h x) :=
  pg_Ct.of pn_RX12 (Nat.le_of_ble_eq_true rfl) (e_X12_may l D h a0 a1 a2)
def F_X12_weighs_48 (k2 : Nat → Int32 → pg_H → Option pg_H) (a0 : Nat) (a1 : Int32) (s0 : Int32) (s1 : Int32) (s2 : Nat) (h : pg_H) : Option pg_H := Option.bind (pg_sI 21 h s2 s1 s0) fun v1 => (k2 a0 (a1 + (1 : Int32)) v1)
def F_X12_weighs_2  : Nat → Nat → Int32 → pg_H → Option pg_H
  | 0 => fun _ _ _ => none
  | n + 1 => fun a0 a1 h => Option.bind (pg_gR 12 3 h a0) fun v1 => Option.bind (pg_aI 21 h v1 (1347 : Int32)) fun v2 => (if a1 < v2 then Option.bind (pg_gR 12 25 h a0) fun v3 => Option.bind (pg_rcv 12 h a0 (F_X12_noteOf h a0 a1 (4 : Int32))) fun v4 => (if v4 = 0 then Option.bind (pg_rcv 12 h a0 (F_X12_noteOf h a0 a1 (1 : Int32))) fun v5 => Option.bind (pg_rcv 12 h a0 (F_X12_noteOf h a0 a1 (2 : Int32))) fun v6 => Option.bind (pg_rcv 12 h a0 (F_X12_weightOf a0 v5 v6 h)) fun v7 => (F_X12_weighs_48 (F_X12_weighs_2 n) a0 a1 v7.1 a1 v3 v7.2) else (F_X12_weighs_48 (F_X12_weighs_2 n) a0 a1 (0 : Int32) a1 v3 h)) else (some h))
def F_X12_weighs (a0 : Nat) (h : pg_H) : Option pg_H := (F_X12_weighs_2 pg_fuel a0 (0 : Int32) h)
theorem e_X12_weighs_48 (l : Launch) (D : pg_D)  (k2 : Nat → Int32 → pg_H → Option pg_H) (hk2 : ∀ (a0 : Nat) (a1 : Int32) (h : pg_H), pg_EvF l D RX12 cX12_weighs 2 none "weighs" 1305 33935 pg_wV (k2 a0 a1 h) 2 [(0, pR a0), (1, pI a1)] [] h) (a0 : Nat) (a1 : Int32) (s0 : Int32) (s1 : Int32) (s2 : Nat) (h : pg_H) : pg_EvF l D RX12 cX12_weighs 2 none "weighs" 1305 33935 pg_wV (F_X12_weighs_48 k2 a0 a1 s0 s1 s2 h) 48 [(0, pR a0), (1, pI a1)] [pI s0, pI s1, pR s2] h := by
  unfold F_X12_weighs_48
  refine pg_iastore dX12_weighs_48 (fun v1 => ?_)
  refine pg_iinc (lv' := [(1, pI (a1 + (1 : Int32))), (0, pR a0)]) dX12_weighs_49 1 rfl ci_1 (by decide) rfl ?_
  refine pg_goto (tgt := 2) dX12_weighs_52 rfl ?_
  exact pg_to (hk2 a0 (a1 + (1 : Int32)) v1) [1, 0] rfl
theorem e_X12_weighs_2 (l : Launch) (D : pg_D)   : ∀ (n : Nat) (a0 : Nat) (a1 : Int32) (h : pg_H), pg_EvF l D RX12 cX12_weighs 2 none "weighs" 1305 33935 pg_wV (F_X12_weighs_2 n a0 a1 h) 2 [(0, pR a0), (1, pI a1)] [] h := by
  intro n
  induction n with
  | zero => intro a0 a1 h; exact pg_none
  | succ n ih =>
    intro a0 a1 h
    rw [F_X12_weighs_2]
    refine pg_iload_n (i := 1) dX12_weighs_2 rfl 1 rfl ?_
    refine pg_aload_n (i := 0) dX12_weighs_3 rfl 0 rfl ?_
    refine pg_getR dX12_weighs_4 fl_RX12_20 rfl (fun v1 => ?_)
    refine pg_sipush dX12_weighs_7 cs_1347 ?_
    refine pg_iaload dX12_weighs_10 (fun v2 => ?_)
    refine pg_icmp_ge (tgt := 55) dX12_weighs_11 rfl ?_ ?_
    · exact pg_vret dX12_weighs_55 rfl rfl
    · refine pg_aload_n (i := 0) dX12_weighs_14 rfl 0 rfl ?_
      refine pg_getR dX12_weighs_15 fl_RX12_55 rfl (fun v3 => ?_)
      refine pg_iload_n (i := 1) dX12_weighs_18 rfl 1 rfl ?_
      refine pg_aload_n (i := 0) dX12_weighs_19 rfl 0 rfl ?_
      refine pg_iload_n (i := 1) dX12_weighs_20 rfl 1 rfl ?_
      refine pg_iconst dX12_weighs_21 ci_4 ?_
      refine pg_callV_oI (As := [pI a1, pI (4 : Int32)]) (rs := [pI a1, pR v3]) dX12_weighs_22 lk_RX12_143 vy_X12_noteOf nd_X12_noteOf (c_X12_noteOf l D h a0 a1 (4 : Int32)) rfl rfl (Nat.le_of_ble_eq_true rfl) (by decide) (by decide) (fun v4 => ?_)
      refine pg_if_ne (tgt := 47) dX12_weighs_25 rfl ?_ ?_
      · refine pg_iconst dX12_weighs_47 ci_0 ?_
        exact pg_to (e_X12_weighs_48 l D (F_X12_weighs_2 n) ih a0 a1 (0 : Int32) a1 v3 h) [0, 1] rfl
      · refine pg_aload_n (i := 0) dX12_weighs_28 rfl 0 rfl ?_
        refine pg_aload_n (i := 0) dX12_weighs_29 rfl 0 rfl ?_
        refine pg_iload_n (i := 1) dX12_weighs_30 rfl 1 rfl ?_
        refine pg_iconst dX12_weighs_31 ci_1 ?_
        refine pg_callV_oI (As := [pI a1, pI (1 : Int32)]) (rs := [pR a0, pI a1, pR v3]) dX12_weighs_32 lk_RX12_143 vy_X12_noteOf nd_X12_noteOf (c_X12_noteOf l D h a0 a1 (1 : Int32)) rfl rfl (Nat.le_of_ble_eq_true rfl) (by decide) (by decide) (fun v5 => ?_)
        refine pg_aload_n (i := 0) dX12_weighs_35 rfl 0 rfl ?_
        refine pg_iload_n (i := 1) dX12_weighs_36 rfl 1 rfl ?_
        refine pg_iconst dX12_weighs_37 ci_2 ?_
        refine pg_callV_oI (As := [pI a1, pI (2 : Int32)]) (rs := [pI v5, pR a0, pI a1, pR v3]) dX12_weighs_38 lk_RX12_143 vy_X12_noteOf nd_X12_noteOf (c_X12_noteOf l D h a0 a1 (2 : Int32)) rfl rfl (Nat.le_of_ble_eq_true rfl) (by decide) (by decide) (fun v6 => ?_)
        refine pg_callV_wI (As := [pI v5, pI v6]) (rs := [pI a1, pR v3]) dX12_weighs_41 lk_RX12_308 vy_X12_weightOf nd_X12_weightOf (c_X12_weightOf l D a0 v5 v6 h) rfl rfl (Nat.le_of_ble_eq_true rfl) (by decide) (by decide) (fun v7 => ?_)
        refine pg_goto (tgt := 48) dX12_weighs_44 rfl ?_
        exact pg_to (e_X12_weighs_48 l D (F_X12_weighs_2 n) ih a0 a1 v7.1 a1 v3 v7.2) [0, 1] rfl
theorem e_X12_weighs (l : Launch) (D : pg_D)  (a0 : Nat) (h : pg_H) : pg_EvF l D RX12 cX12_weighs 2 none "weighs" 1305 33935 pg_wV (F_X12_weighs a0 h) 0 [(0, pR a0)] [] h := by
  unfold F_X12_weighs
  refine pg_iconst dX12_weighs_0 ci_0 ?_
  refine pg_istore_n (i := 1) (lv' := [(1, pI (0 : Int32)), (0, pR a0)]) dX12_weighs_1 rfl (by decide) rfl ?_
  exact pg_to (e_X12_weighs_2 l D pg_fuel a0 (0 : Int32) h) [1, 0] rfl
theorem c_X12_weighs (l : Launch) (D : pg_D) (a0 : Nat) (h : pg_H) : ∀ x, F_X12_weighs a0 h = some x → pg_Ct l D yX12_weighs cX12_weighs 2 none 1305 33935 [pR a0] h (pg_wV x) :=
  pg_Ct.of pn_RX12 (Nat.le_of_ble_eq_true rfl) (e_X12_weighs l D a0 h)
def F_X12_costFrom_197 (h : pg_H) (k9 : Nat → Int32 → Int32 → Int32 → Int32 → Int32 → Int32 → Option Int32) (a0 : Nat) (a1 : Int32) (a2 : Int32) (a3 : Int32) (a4 : Int32) (a5 : Int32) (a6 : Int32) : Option Int32 := (k9 a0 a1 a2 a3 a4 a5 (a6 + (1 : Int32)))
def F_X12_costFrom_155 (h : pg_H) (k9 : Nat → Int32 → Int32 → Int32 → Int32 → Int32 → Int32 → Option Int32) (a0 : Nat) (a1 : Int32) (a2 : Int32) (a3 : Int32) (a4 : Int32) (a5 : Int32) (a6 : Int32) (a7 : Int32) (a8 : Int32) (s0 : Int32) : Option Int32 := (if s0 = 0 then (F_X12_costFrom_197 h k9 a0 a1 a2 a3 a4 a5 a6) else Option.bind (pg_rcv 12 h a0 (F_X12_has h a0 a3 a7 a8)) fun v1 => (if v1 = 0 then Option.bind (pg_rcv 12 h a0 (F_X12_hasKind h a0 a3 a7 (1 : Int32))) fun v2 => (if v2 = 0 then Option.bind (pg_gR 12 25 h a0) fun v3 => Option.bind (pg_aI 21 h v3 a6) fun v4 => pg_let (a5 + v4) fun v5 => (F_X12_costFrom_197 h k9 a0 a1 a2 a3 a4 v5 a6) else (F_X12_costFrom_197 h k9 a0 a1 a2 a3 a4 a5 a6)) else (F_X12_costFrom_197 h k9 a0 a1 a2 a3 a4 a5 a6)))
def F_X12_costFrom_150 (h : pg_H) (k9 : Nat → Int32 → Int32 → Int32 → Int32 → Int32 → Int32 → Option Int32) (a0 : Nat) (a1 : Int32) (a2 : Int32) (a3 : Int32) (a4 : Int32) (a5 : Int32) (a6 : Int32) (a7 : Int32) (a8 : Int32) : Option Int32 := (F_X12_costFrom_155 h k9 a0 a1 a2 a3 a4 a5 a6 a7 a8 (1 : Int32))
def F_X12_costFrom_154 (h : pg_H) (k9 : Nat → Int32 → Int32 → Int32 → Int32 → Int32 → Int32 → Option Int32) (a0 : Nat) (a1 : Int32) (a2 : Int32) (a3 : Int32) (a4 : Int32) (a5 : Int32) (a6 : Int32) (a7 : Int32) (a8 : Int32) : Option Int32 := (F_X12_costFrom_155 h k9 a0 a1 a2 a3 a4 a5 a6 a7 a8 (0 : Int32))
def F_X12_costFrom_126 (h : pg_H) (k9 : Nat → Int32 → Int32 → Int32 → Int32 → Int32 → Int32 → Option Int32) (a0 : Nat) (a1 : Int32) (a2 : Int32) (a3 : Int32) (a4 : Int32) (a5 : Int32) (a6 : Int32) (a7 : Int32) (a8 : Int32) (a9 : Int32) : Option Int32 := (if a9 = a1 then (F_X12_costFrom_150 h k9 a0 a1 a2 a3 a4 a5 a6 a7 a8) else (if a9 = a2 then Option.bind (pg_rcv 12 h a0 (F_X12_has h a0 a1 a7 a8)) fun v1 => (if v1 = 0 then (F_X12_costFrom_150 h k9 a0 a1 a2 a3 a4 a5 a6 a7 a8) else (F_X12_costFrom_154 h k9 a0 a1 a2 a3 a4 a5 a6 a7 a8)) else (F_X12_costFrom_154 h k9 a0 a1 a2 a3 a4 a5 a6 a7 a8)))
def F_X12_costFrom_114 (h : pg_H) (k9 : Nat → Int32 → Int32 → Int32 → Int32 → Int32 → Int32 → Option Int32) (a0 : Nat) (a1 : Int32) (a2 : Int32) (a3 : Int32) (a4 : Int32) (a5 : Int32) (a6 : Int32) (a7 : Int32) (a8 : Int32) (a9 : Int32) : Option Int32 := Option.bind (pg_gR 12 25 h a0) fun v1 => Option.bind (pg_aI 21 h v1 a6) fun v2 => pg_let (a4 + v2) fun v3 => (F_X12_costFrom_126 h k9 a0 a1 a2 a3 v3 a5 a6 a7 a8 a9)
def F_X12_costFrom_9 (h : pg_H) : Nat → Nat → Int32 → Int32 → Int32 → Int32 → Int32 → Int32 → Option Int32
  | 0 => fun _ _ _ _ _ _ _ => none
  | n + 1 => fun a0 a1 a2 a3 a4 a5 a6 => Option.bind (pg_gR 12 3 h a0) fun v1 => Option.bind (pg_aI 21 h v1 (1347 : Int32)) fun v2 => (if a6 < v2 then Option.bind (pg_rcv 12 h a0 (F_X12_noteOf h a0 a6 (4 : Int32))) fun v5 => (if v5 = 0 then Option.bind (pg_rcv 12 h a0 (F_X12_noteOf h a0 a6 (1 : Int32))) fun v6 => Option.bind (pg_rcv 12 h a0 (F_X12_noteOf h a0 a6 (2 : Int32))) fun v7 => Option.bind (pg_rcv 12 h a0 (F_X12_noteOf h a0 a6 (0 : Int32))) fun v8 => (if v8 = a3 then Option.bind (pg_rcv 12 h a0 (F_X12_has h a0 a1 v6 v7)) fun v9 => (if v9 = 0 then Option.bind (pg_rcv 12 h a0 (F_X12_has h a0 a2 v6 v7)) fun v10 => (if v10 = 0 then Option.bind (pg_rcv 12 h a0 (F_X12_hasKind h a0 a1 v6 (1 : Int32))) fun v11 => (if v11 = 0 then (F_X12_costFrom_114 h (F_X12_costFrom_9 h n) a0 a1 a2 a3 a4 a5 a6 v6 v7 v8) else Option.bind (pg_rcv 12 h a0 (F_X12_hasKind h a0 a2 v6 (1 : Int32))) fun v12 => (if v12 = 0 then (F_X12_costFrom_114 h (F_X12_costFrom_9 h n) a0 a1 a2 a3 a4 a5 a6 v6 v7 v8) else (F_X12_costFrom_126 h (F_X12_costFrom_9 h n) a0 a1 a2 a3 a4 a5 a6 v6 v7 v8))) else (F_X12_costFrom_126 h (F_X12_costFrom_9 h n) a0 a1 a2 a3 a4 a5 a6 v6 v7 v8)) else (F_X12_costFrom_126 h (F_X12_costFrom_9 h n) a0 a1 a2 a3 a4 a5 a6 v6 v7 v8)) else (F_X12_costFrom_126 h (F_X12_costFrom_9 h n) a0 a1 a2 a3 a4 a5 a6 v6 v7 v8)) else (F_X12_costFrom_197 h (F_X12_costFrom_9 h n) a0 a1 a2 a3 a4 a5 a6)) else Option.bind (pg_rcv 12 h a0 (F_X12_term h a0 (0 : Int32))) fun v3 => Option.bind (pg_rcv 12 h a0 (F_X12_term h a0 (1 : Int32))) fun v4 => (some ((v3 * a4) + (v4 * a5))))
def F_X12_costFrom (h : pg_H) (a0 : Nat) (a1 : Int32) (a2 : Int32) (a3 : Int32) : Option Int32 := (F_X12_costFrom_9 h pg_fuel a0 a1 a2 a3 (0 : Int32) (0 : Int32) (0 : Int32))
theorem e_X12_costFrom_197 (l : Launch) (D : pg_D)  (h : pg_H) (k9 : Nat → Int32 → Int32 → Int32 → Int32 → Int32 → Int32 → Option Int32) (hk9 : ∀ (a0 : Nat) (a1 : Int32) (a2 : Int32) (a3 : Int32) (a4 : Int32) (a5 : Int32) (a6 : Int32), pg_EvF l D RX12 cX12_costFrom 11 (some FieldType.int) "costFrom" 2 46 (pg_oI h) (k9 a0 a1 a2 a3 a4 a5 a6) 9 [(0, pR a0), (1, pI a1), (2, pI a2), (3, pI a3), (4, pI a4), (5, pI a5), (6, pI a6)] [] h) (a0 : Nat) (a1 : Int32) (a2 : Int32) (a3 : Int32) (a4 : Int32) (a5 : Int32) (a6 : Int32) : pg_EvF l D RX12 cX12_costFrom 11 (some FieldType.int) "costFrom" 2 46 (pg_oI h) (F_X12_costFrom_197 h k9 a0 a1 a2 a3 a4 a5 a6) 197 [(0, pR a0), (1, pI a1), (2, pI a2), (3, pI a3), (4, pI a4), (5, pI a5), (6, pI a6)] [] h := by
  unfold F_X12_costFrom_197
  refine pg_iinc (lv' := [(6, pI (a6 + (1 : Int32))), (0, pR a0), (1, pI a1), (2, pI a2), (3, pI a3), (4, pI a4), (5, pI a5)]) dX12_costFrom_197 6 rfl ci_1 (by decide) rfl ?_
  refine pg_goto (tgt := 9) dX12_costFrom_200 rfl ?_
  exact pg_to (hk9 a0 a1 a2 a3 a4 a5 (a6 + (1 : Int32))) [1, 2, 3, 4, 5, 6, 0] rfl
theorem e_X12_costFrom_155 (l : Launch) (D : pg_D)  (h : pg_H) (k9 : Nat → Int32 → Int32 → Int32 → Int32 → Int32 → Int32 → Option Int32) (hk9 : ∀ (a0 : Nat) (a1 : Int32) (a2 : Int32) (a3 : Int32) (a4 : Int32) (a5 : Int32) (a6 : Int32), pg_EvF l D RX12 cX12_costFrom 11 (some FieldType.int) "costFrom" 2 46 (pg_oI h) (k9 a0 a1 a2 a3 a4 a5 a6) 9 [(0, pR a0), (1, pI a1), (2, pI a2), (3, pI a3), (4, pI a4), (5, pI a5), (6, pI a6)] [] h) (a0 : Nat) (a1 : Int32) (a2 : Int32) (a3 : Int32) (a4 : Int32) (a5 : Int32) (a6 : Int32) (a7 : Int32) (a8 : Int32) (s0 : Int32) : pg_EvF l D RX12 cX12_costFrom 11 (some FieldType.int) "costFrom" 2 46 (pg_oI h) (F_X12_costFrom_155 h k9 a0 a1 a2 a3 a4 a5 a6 a7 a8 s0) 155 [(0, pR a0), (1, pI a1), (2, pI a2), (3, pI a3), (4, pI a4), (5, pI a5), (6, pI a6), (7, pI a7), (8, pI a8)] [pI s0] h := by
  unfold F_X12_costFrom_155
  refine pg_istore (lv' := [(10, pI s0), (0, pR a0), (1, pI a1), (2, pI a2), (3, pI a3), (4, pI a4), (5, pI a5), (6, pI a6), (7, pI a7), (8, pI a8)]) dX12_costFrom_155 (by decide) rfl ?_
  refine pg_iload dX12_costFrom_157 0 rfl ?_
  refine pg_if_eq (tgt := 197) dX12_costFrom_159 rfl ?_ ?_
  · exact pg_to (e_X12_costFrom_197 l D h k9 hk9 a0 a1 a2 a3 a4 a5 a6) [1, 2, 3, 4, 5, 6, 7] rfl
  · refine pg_aload_n (i := 0) dX12_costFrom_162 rfl 1 rfl ?_
    refine pg_iload_n (i := 3) dX12_costFrom_163 rfl 4 rfl ?_
    refine pg_iload dX12_costFrom_164 8 rfl ?_
    refine pg_iload dX12_costFrom_166 9 rfl ?_
    refine pg_callV_oI (As := [pI a3, pI a7, pI a8]) (rs := []) dX12_costFrom_168 lk_RX12_146 vy_X12_has nd_X12_has (c_X12_has l D h a0 a3 a7 a8) rfl rfl (Nat.le_of_ble_eq_true rfl) (by decide) (by decide) (fun v1 => ?_)
    refine pg_if_ne (tgt := 197) dX12_costFrom_171 rfl ?_ ?_
    · exact pg_to (e_X12_costFrom_197 l D h k9 hk9 a0 a1 a2 a3 a4 a5 a6) [1, 2, 3, 4, 5, 6, 7] rfl
    · refine pg_aload_n (i := 0) dX12_costFrom_174 rfl 1 rfl ?_
      refine pg_iload_n (i := 3) dX12_costFrom_175 rfl 4 rfl ?_
      refine pg_iload dX12_costFrom_176 8 rfl ?_
      refine pg_iconst dX12_costFrom_178 ci_1 ?_
      refine pg_callV_oI (As := [pI a3, pI a7, pI (1 : Int32)]) (rs := []) dX12_costFrom_179 lk_RX12_149 vy_X12_hasKind nd_X12_hasKind (c_X12_hasKind l D h a0 a3 a7 (1 : Int32)) rfl rfl (Nat.le_of_ble_eq_true rfl) (by decide) (by decide) (fun v2 => ?_)
      refine pg_if_ne (tgt := 197) dX12_costFrom_182 rfl ?_ ?_
      · exact pg_to (e_X12_costFrom_197 l D h k9 hk9 a0 a1 a2 a3 a4 a5 a6) [1, 2, 3, 4, 5, 6, 7] rfl
      · refine pg_iload dX12_costFrom_185 6 rfl ?_
        refine pg_aload_n (i := 0) dX12_costFrom_187 rfl 1 rfl ?_
        refine pg_getR dX12_costFrom_188 fl_RX12_55 rfl (fun v3 => ?_)
        refine pg_iload dX12_costFrom_191 7 rfl ?_
        refine pg_iaload dX12_costFrom_193 (fun v4 => ?_)
        refine pg_iadd dX12_costFrom_194 ?_
        refine pg_letI (fun v5 => ?_)
        refine pg_istore (lv' := [(5, pI v5), (10, pI s0), (0, pR a0), (1, pI a1), (2, pI a2), (3, pI a3), (4, pI a4), (6, pI a6), (7, pI a7), (8, pI a8)]) dX12_costFrom_195 (by decide) rfl ?_
        exact pg_to (e_X12_costFrom_197 l D h k9 hk9 a0 a1 a2 a3 a4 v5 a6) [2, 3, 4, 5, 6, 0, 7] rfl
theorem e_X12_costFrom_150 (l : Launch) (D : pg_D)  (h : pg_H) (k9 : Nat → Int32 → Int32 → Int32 → Int32 → Int32 → Int32 → Option Int32) (hk9 : ∀ (a0 : Nat) (a1 : Int32) (a2 : Int32) (a3 : Int32) (a4 : Int32) (a5 : Int32) (a6 : Int32), pg_EvF l D RX12 cX12_costFrom 11 (some FieldType.int) "costFrom" 2 46 (pg_oI h) (k9 a0 a1 a2 a3 a4 a5 a6) 9 [(0, pR a0), (1, pI a1), (2, pI a2), (3, pI a3), (4, pI a4), (5, pI a5), (6, pI a6)] [] h) (a0 : Nat) (a1 : Int32) (a2 : Int32) (a3 : Int32) (a4 : Int32) (a5 : Int32) (a6 : Int32) (a7 : Int32) (a8 : Int32) : pg_EvF l D RX12 cX12_costFrom 11 (some FieldType.int) "costFrom" 2 46 (pg_oI h) (F_X12_costFrom_150 h k9 a0 a1 a2 a3 a4 a5 a6 a7 a8) 150 [(0, pR a0), (1, pI a1), (2, pI a2), (3, pI a3), (4, pI a4), (5, pI a5), (6, pI a6), (7, pI a7), (8, pI a8)] [] h := by
  unfold F_X12_costFrom_150
  refine pg_iconst dX12_costFrom_150 ci_1 ?_
  refine pg_goto (tgt := 155) dX12_costFrom_151 rfl ?_
  exact pg_to (e_X12_costFrom_155 l D h k9 hk9 a0 a1 a2 a3 a4 a5 a6 a7 a8 (1 : Int32)) [0, 1, 2, 3, 4, 5, 6, 7, 8] rfl
theorem e_X12_costFrom_154 (l : Launch) (D : pg_D)  (h : pg_H) (k9 : Nat → Int32 → Int32 → Int32 → Int32 → Int32 → Int32 → Option Int32) (hk9 : ∀ (a0 : Nat) (a1 : Int32) (a2 : Int32) (a3 : Int32) (a4 : Int32) (a5 : Int32) (a6 : Int32), pg_EvF l D RX12 cX12_costFrom 11 (some FieldType.int) "costFrom" 2 46 (pg_oI h) (k9 a0 a1 a2 a3 a4 a5 a6) 9 [(0, pR a0), (1, pI a1), (2, pI a2), (3, pI a3), (4, pI a4), (5, pI a5), (6, pI a6)] [] h) (a0 : Nat) (a1 : Int32) (a2 : Int32) (a3 : Int32) (a4 : Int32) (a5 : Int32) (a6 : Int32) (a7 : Int32) (a8 : Int32) : pg_EvF l D RX12 cX12_costFrom 11 (some FieldType.int) "costFrom" 2 46 (pg_oI h) (F_X12_costFrom_154 h k9 a0 a1 a2 a3 a4 a5 a6 a7 a8) 154 [(0, pR a0), (1, pI a1), (2, pI a2), (3, pI a3), (4, pI a4), (5, pI a5), (6, pI a6), (7, pI a7), (8, pI a8)] [] h := by
  unfold F_X12_costFrom_154
  refine pg_iconst dX12_costFrom_154 ci_0 ?_
  exact pg_to (e_X12_costFrom_155 l D h k9 hk9 a0 a1 a2 a3 a4 a5 a6 a7 a8 (0 : Int32)) [0, 1, 2, 3, 4, 5, 6, 7, 8] rfl
theorem e_X12_costFrom_126 (l : Launch) (D : pg_D)  (h : pg_H) (k9 : Nat → Int32 → Int32 → Int32 → Int32 → Int32 → Int32 → Option Int32) (hk9 : ∀ (a0 : Nat) (a1 : Int32) (a2 : Int32) (a3 : Int32) (a4 : Int32) (a5 : Int32) (a6 : Int32), pg_EvF l D RX12 cX12_costFrom 11 (some FieldType.int) "costFrom" 2 46 (pg_oI h) (k9 a0 a1 a2 a3 a4 a5 a6) 9 [(0, pR a0), (1, pI a1), (2, pI a2), (3, pI a3), (4, pI a4), (5, pI a5), (6, pI a6)] [] h) (a0 : Nat) (a1 : Int32) (a2 : Int32) (a3 : Int32) (a4 : Int32) (a5 : Int32) (a6 : Int32) (a7 : Int32) (a8 : Int32) (a9 : Int32) : pg_EvF l D RX12 cX12_costFrom 11 (some FieldType.int) "costFrom" 2 46 (pg_oI h) (F_X12_costFrom_126 h k9 a0 a1 a2 a3 a4 a5 a6 a7 a8 a9) 126 [(0, pR a0), (1, pI a1), (2, pI a2), (3, pI a3), (4, pI a4), (5, pI a5), (6, pI a6), (7, pI a7), (8, pI a8), (9, pI a9)] [] h := by
  unfold F_X12_costFrom_126
  refine pg_iload dX12_costFrom_126 9 rfl ?_
  refine pg_iload_n (i := 1) dX12_costFrom_128 rfl 1 rfl ?_
  refine pg_icmp_eq (tgt := 150) dX12_costFrom_129 rfl ?_ ?_
  · exact pg_to (e_X12_costFrom_150 l D h k9 hk9 a0 a1 a2 a3 a4 a5 a6 a7 a8) [0, 1, 2, 3, 4, 5, 6, 7, 8] rfl
  · refine pg_iload dX12_costFrom_132 9 rfl ?_
    refine pg_iload_n (i := 2) dX12_costFrom_134 rfl 2 rfl ?_
    refine pg_icmp_ne (tgt := 154) dX12_costFrom_135 rfl ?_ ?_
    · exact pg_to (e_X12_costFrom_154 l D h k9 hk9 a0 a1 a2 a3 a4 a5 a6 a7 a8) [0, 1, 2, 3, 4, 5, 6, 7, 8] rfl
    · refine pg_aload_n (i := 0) dX12_costFrom_138 rfl 0 rfl ?_
      refine pg_iload_n (i := 1) dX12_costFrom_139 rfl 1 rfl ?_
      refine pg_iload dX12_costFrom_140 7 rfl ?_
      refine pg_iload dX12_costFrom_142 8 rfl ?_
      refine pg_callV_oI (As := [pI a1, pI a7, pI a8]) (rs := []) dX12_costFrom_144 lk_RX12_146 vy_X12_has nd_X12_has (c_X12_has l D h a0 a1 a7 a8) rfl rfl (Nat.le_of_ble_eq_true rfl) (by decide) (by decide) (fun v1 => ?_)
      refine pg_if_ne (tgt := 154) dX12_costFrom_147 rfl ?_ ?_
      · exact pg_to (e_X12_costFrom_154 l D h k9 hk9 a0 a1 a2 a3 a4 a5 a6 a7 a8) [0, 1, 2, 3, 4, 5, 6, 7, 8] rfl
      · exact pg_to (e_X12_costFrom_150 l D h k9 hk9 a0 a1 a2 a3 a4 a5 a6 a7 a8) [0, 1, 2, 3, 4, 5, 6, 7, 8] rfl
theorem e_X12_costFrom_114 (l : Launch) (D : pg_D)  (h : pg_H) (k9 : Nat → Int32 → Int32 → Int32 → Int32 → Int32 → Int32 → Option Int32) (hk9 : ∀ (a0 : Nat) (a1 : Int32) (a2 : Int32) (a3 : Int32) (a4 : Int32) (a5 : Int32) (a6 : Int32), pg_EvF l D RX12 cX12_costFrom 11 (some FieldType.int) "costFrom" 2 46 (pg_oI h) (k9 a0 a1 a2 a3 a4 a5 a6) 9 [(0, pR a0), (1, pI a1), (2, pI a2), (3, pI a3), (4, pI a4), (5, pI a5), (6, pI a6)] [] h) (a0 : Nat) (a1 : Int32) (a2 : Int32) (a3 : Int32) (a4 : Int32) (a5 : Int32) (a6 : Int32) (a7 : Int32) (a8 : Int32) (a9 : Int32) : pg_EvF l D RX12 cX12_costFrom 11 (some FieldType.int) "costFrom" 2 46 (pg_oI h) (F_X12_costFrom_114 h k9 a0 a1 a2 a3 a4 a5 a6 a7 a8 a9) 114 [(0, pR a0), (1, pI a1), (2, pI a2), (3, pI a3), (4, pI a4), (5, pI a5), (6, pI a6), (7, pI a7), (8, pI a8), (9, pI a9)] [] h := by
  unfold F_X12_costFrom_114
  refine pg_iload dX12_costFrom_114 4 rfl ?_
  refine pg_aload_n (i := 0) dX12_costFrom_116 rfl 0 rfl ?_
  refine pg_getR dX12_costFrom_117 fl_RX12_55 rfl (fun v1 => ?_)
  refine pg_iload dX12_costFrom_120 6 rfl ?_
  refine pg_iaload dX12_costFrom_122 (fun v2 => ?_)
  refine pg_iadd dX12_costFrom_123 ?_
  refine pg_letI (fun v3 => ?_)
  refine pg_istore (lv' := [(4, pI v3), (0, pR a0), (1, pI a1), (2, pI a2), (3, pI a3), (5, pI a5), (6, pI a6), (7, pI a7), (8, pI a8), (9, pI a9)]) dX12_costFrom_124 (by decide) rfl ?_
  exact pg_to (e_X12_costFrom_126 l D h k9 hk9 a0 a1 a2 a3 v3 a5 a6 a7 a8 a9) [1, 2, 3, 4, 0, 5, 6, 7, 8, 9] rfl
theorem e_X12_costFrom_9 (l : Launch) (D : pg_D)  (h : pg_H) : ∀ (n : Nat) (a0 : Nat) (a1 : Int32) (a2 : Int32) (a3 : Int32) (a4 : Int32) (a5 : Int32) (a6 : Int32), pg_EvF l D RX12 cX12_costFrom 11 (some FieldType.int) "costFrom" 2 46 (pg_oI h) (F_X12_costFrom_9 h n a0 a1 a2 a3 a4 a5 a6) 9 [(0, pR a0), (1, pI a1), (2, pI a2), (3, pI a3), (4, pI a4), (5, pI a5), (6, pI a6)] [] h := by
  intro n
  induction n with
  | zero => intro a0 a1 a2 a3 a4 a5 a6; exact pg_none
  | succ n ih =>
    intro a0 a1 a2 a3 a4 a5 a6
    rw [F_X12_costFrom_9]
    refine pg_iload dX12_costFrom_9 6 rfl ?_
    refine pg_aload_n (i := 0) dX12_costFrom_11 rfl 0 rfl ?_
    refine pg_getR dX12_costFrom_12 fl_RX12_20 rfl (fun v1 => ?_)
    refine pg_sipush dX12_costFrom_15 cs_1347 ?_
    refine pg_iaload dX12_costFrom_18 (fun v2 => ?_)
    refine pg_icmp_ge (tgt := 203) dX12_costFrom_19 rfl ?_ ?_
    · refine pg_aload_n (i := 0) dX12_costFrom_203 rfl 0 rfl ?_
      refine pg_iconst dX12_costFrom_204 ci_0 ?_
      refine pg_callV_oI (As := [pI (0 : Int32)]) (rs := []) dX12_costFrom_205 lk_RX12_320 vy_X12_term nd_X12_term (c_X12_term l D h a0 (0 : Int32)) rfl rfl (Nat.le_of_ble_eq_true rfl) (by decide) (by decide) (fun v3 => ?_)
      refine pg_iload dX12_costFrom_208 4 rfl ?_
      refine pg_imul dX12_costFrom_210 ?_
      refine pg_aload_n (i := 0) dX12_costFrom_211 rfl 0 rfl ?_
      refine pg_iconst dX12_costFrom_212 ci_1 ?_
      refine pg_callV_oI (As := [pI (1 : Int32)]) (rs := [pI (v3 * a4)]) dX12_costFrom_213 lk_RX12_320 vy_X12_term nd_X12_term (c_X12_term l D h a0 (1 : Int32)) rfl rfl (Nat.le_of_ble_eq_true rfl) (by decide) (by decide) (fun v4 => ?_)
      refine pg_iload dX12_costFrom_216 5 rfl ?_
      refine pg_imul dX12_costFrom_218 ?_
      refine pg_iadd dX12_costFrom_219 ?_
      exact pg_iret dX12_costFrom_220 rfl rfl
    · refine pg_aload_n (i := 0) dX12_costFrom_22 rfl 0 rfl ?_
      refine pg_iload dX12_costFrom_23 6 rfl ?_
      refine pg_iconst dX12_costFrom_25 ci_4 ?_
      refine pg_callV_oI (As := [pI a6, pI (4 : Int32)]) (rs := []) dX12_costFrom_26 lk_RX12_143 vy_X12_noteOf nd_X12_noteOf (c_X12_noteOf l D h a0 a6 (4 : Int32)) rfl rfl (Nat.le_of_ble_eq_true rfl) (by decide) (by decide) (fun v5 => ?_)
      refine pg_if_eq (tgt := 35) dX12_costFrom_29 rfl ?_ ?_
      · refine pg_aload_n (i := 0) dX12_costFrom_35 rfl 0 rfl ?_
        refine pg_iload dX12_costFrom_36 6 rfl ?_
        refine pg_iconst dX12_costFrom_38 ci_1 ?_
        refine pg_callV_oI (As := [pI a6, pI (1 : Int32)]) (rs := []) dX12_costFrom_39 lk_RX12_143 vy_X12_noteOf nd_X12_noteOf (c_X12_noteOf l D h a0 a6 (1 : Int32)) rfl rfl (Nat.le_of_ble_eq_true rfl) (by decide) (by decide) (fun v6 => ?_)
        refine pg_istore (lv' := [(7, pI v6), (0, pR a0), (1, pI a1), (2, pI a2), (3, pI a3), (4, pI a4), (5, pI a5), (6, pI a6)]) dX12_costFrom_42 (by decide) rfl ?_
        refine pg_aload_n (i := 0) dX12_costFrom_44 rfl 1 rfl ?_
        refine pg_iload dX12_costFrom_45 7 rfl ?_
        refine pg_iconst dX12_costFrom_47 ci_2 ?_
        refine pg_callV_oI (As := [pI a6, pI (2 : Int32)]) (rs := []) dX12_costFrom_48 lk_RX12_143 vy_X12_noteOf nd_X12_noteOf (c_X12_noteOf l D h a0 a6 (2 : Int32)) rfl rfl (Nat.le_of_ble_eq_true rfl) (by decide) (by decide) (fun v7 => ?_)
        refine pg_istore (lv' := [(8, pI v7), (7, pI v6), (0, pR a0), (1, pI a1), (2, pI a2), (3, pI a3), (4, pI a4), (5, pI a5), (6, pI a6)]) dX12_costFrom_51 (by decide) rfl ?_
        refine pg_aload_n (i := 0) dX12_costFrom_53 rfl 2 rfl ?_
        refine pg_iload dX12_costFrom_54 8 rfl ?_
        refine pg_iconst dX12_costFrom_56 ci_0 ?_
        refine pg_callV_oI (As := [pI a6, pI (0 : Int32)]) (rs := []) dX12_costFrom_57 lk_RX12_143 vy_X12_noteOf nd_X12_noteOf (c_X12_noteOf l D h a0 a6 (0 : Int32)) rfl rfl (Nat.le_of_ble_eq_true rfl) (by decide) (by decide) (fun v8 => ?_)
        refine pg_istore (lv' := [(9, pI v8), (8, pI v7), (7, pI v6), (0, pR a0), (1, pI a1), (2, pI a2), (3, pI a3), (4, pI a4), (5, pI a5), (6, pI a6)]) dX12_costFrom_60 (by decide) rfl ?_
        refine pg_iload dX12_costFrom_62 0 rfl ?_
        refine pg_iload_n (i := 3) dX12_costFrom_64 rfl 6 rfl ?_
        refine pg_icmp_ne (tgt := 126) dX12_costFrom_65 rfl ?_ ?_
        · exact pg_to (e_X12_costFrom_126 l D h (F_X12_costFrom_9 h n) ih a0 a1 a2 a3 a4 a5 a6 v6 v7 v8) [3, 4, 5, 6, 7, 8, 9, 2, 1, 0] rfl
        · refine pg_aload_n (i := 0) dX12_costFrom_68 rfl 3 rfl ?_
          refine pg_iload_n (i := 1) dX12_costFrom_69 rfl 4 rfl ?_
          refine pg_iload dX12_costFrom_70 2 rfl ?_
          refine pg_iload dX12_costFrom_72 1 rfl ?_
          refine pg_callV_oI (As := [pI a1, pI v6, pI v7]) (rs := []) dX12_costFrom_74 lk_RX12_146 vy_X12_has nd_X12_has (c_X12_has l D h a0 a1 v6 v7) rfl rfl (Nat.le_of_ble_eq_true rfl) (by decide) (by decide) (fun v9 => ?_)
          refine pg_if_ne (tgt := 126) dX12_costFrom_77 rfl ?_ ?_
          · exact pg_to (e_X12_costFrom_126 l D h (F_X12_costFrom_9 h n) ih a0 a1 a2 a3 a4 a5 a6 v6 v7 v8) [3, 4, 5, 6, 7, 8, 9, 2, 1, 0] rfl
          · refine pg_aload_n (i := 0) dX12_costFrom_80 rfl 3 rfl ?_
            refine pg_iload_n (i := 2) dX12_costFrom_81 rfl 5 rfl ?_
            refine pg_iload dX12_costFrom_82 2 rfl ?_
            refine pg_iload dX12_costFrom_84 1 rfl ?_
            refine pg_callV_oI (As := [pI a2, pI v6, pI v7]) (rs := []) dX12_costFrom_86 lk_RX12_146 vy_X12_has nd_X12_has (c_X12_has l D h a0 a2 v6 v7) rfl rfl (Nat.le_of_ble_eq_true rfl) (by decide) (by decide) (fun v10 => ?_)
            refine pg_if_ne (tgt := 126) dX12_costFrom_89 rfl ?_ ?_
            · exact pg_to (e_X12_costFrom_126 l D h (F_X12_costFrom_9 h n) ih a0 a1 a2 a3 a4 a5 a6 v6 v7 v8) [3, 4, 5, 6, 7, 8, 9, 2, 1, 0] rfl
            · refine pg_aload_n (i := 0) dX12_costFrom_92 rfl 3 rfl ?_
              refine pg_iload_n (i := 1) dX12_costFrom_93 rfl 4 rfl ?_
              refine pg_iload dX12_costFrom_94 2 rfl ?_
              refine pg_iconst dX12_costFrom_96 ci_1 ?_
              refine pg_callV_oI (As := [pI a1, pI v6, pI (1 : Int32)]) (rs := []) dX12_costFrom_97 lk_RX12_149 vy_X12_hasKind nd_X12_hasKind (c_X12_hasKind l D h a0 a1 v6 (1 : Int32)) rfl rfl (Nat.le_of_ble_eq_true rfl) (by decide) (by decide) (fun v11 => ?_)
              refine pg_if_eq (tgt := 114) dX12_costFrom_100 rfl ?_ ?_
              · exact pg_to (e_X12_costFrom_114 l D h (F_X12_costFrom_9 h n) ih a0 a1 a2 a3 a4 a5 a6 v6 v7 v8) [3, 4, 5, 6, 7, 8, 9, 2, 1, 0] rfl
              · refine pg_aload_n (i := 0) dX12_costFrom_103 rfl 3 rfl ?_
                refine pg_iload_n (i := 2) dX12_costFrom_104 rfl 5 rfl ?_
                refine pg_iload dX12_costFrom_105 2 rfl ?_
                refine pg_iconst dX12_costFrom_107 ci_1 ?_
                refine pg_callV_oI (As := [pI a2, pI v6, pI (1 : Int32)]) (rs := []) dX12_costFrom_108 lk_RX12_149 vy_X12_hasKind nd_X12_hasKind (c_X12_hasKind l D h a0 a2 v6 (1 : Int32)) rfl rfl (Nat.le_of_ble_eq_true rfl) (by decide) (by decide) (fun v12 => ?_)
                refine pg_if_ne (tgt := 126) dX12_costFrom_111 rfl ?_ ?_
                · exact pg_to (e_X12_costFrom_126 l D h (F_X12_costFrom_9 h n) ih a0 a1 a2 a3 a4 a5 a6 v6 v7 v8) [3, 4, 5, 6, 7, 8, 9, 2, 1, 0] rfl
                · exact pg_to (e_X12_costFrom_114 l D h (F_X12_costFrom_9 h n) ih a0 a1 a2 a3 a4 a5 a6 v6 v7 v8) [3, 4, 5, 6, 7, 8, 9, 2, 1, 0] rfl
      · refine pg_goto (tgt := 197) dX12_costFrom_32 rfl ?_
        exact pg_to (e_X12_costFrom_197 l D h (F_X12_costFrom_9 h n) ih a0 a1 a2 a3 a4 a5 a6) [0, 1, 2, 3, 4, 5, 6] rfl
theorem e_X12_costFrom (l : Launch) (D : pg_D)  (h : pg_H) (a0 : Nat) (a1 : Int32) (a2 : Int32) (a3 : Int32) : pg_EvF l D RX12 cX12_costFrom 11 (some FieldType.int) "costFrom" 2 46 (pg_oI h) (F_X12_costFrom h a0 a1 a2 a3) 0 [(0, pR a0), (1, pI a1), (2, pI a2), (3, pI a3)] [] h := by
  unfold F_X12_costFrom
  refine pg_iconst dX12_costFrom_0 ci_0 ?_
  refine pg_istore (lv' := [(4, pI (0 : Int32)), (0, pR a0), (1, pI a1), (2, pI a2), (3, pI a3)]) dX12_costFrom_1 (by decide) rfl ?_
  refine pg_iconst dX12_costFrom_3 ci_0 ?_
  refine pg_istore (lv' := [(5, pI (0 : Int32)), (4, pI (0 : Int32)), (0, pR a0), (1, pI a1), (2, pI a2), (3, pI a3)]) dX12_costFrom_4 (by decide) rfl ?_
  refine pg_iconst dX12_costFrom_6 ci_0 ?_
  refine pg_istore (lv' := [(6, pI (0 : Int32)), (5, pI (0 : Int32)), (4, pI (0 : Int32)), (0, pR a0), (1, pI a1), (2, pI a2), (3, pI a3)]) dX12_costFrom_7 (by decide) rfl ?_
  exact pg_to (e_X12_costFrom_9 l D h pg_fuel a0 a1 a2 a3 (0 : Int32) (0 : Int32) (0 : Int32)) [3, 4, 5, 6, 2, 1, 0] rfl
theorem c_X12_costFrom (l : Launch) (D : pg_D) (h : pg_H) (a0 : Nat) (a1 : Int32) (a2 : Int32) (a3 : Int32)  : ∀ x, F_X12_costFrom h a0 a1 a2 a3 = some x → pg_Ct l D yX12_costFrom cX12_costFrom 11 (some FieldType.int) 2 46 [pR a0, pI a1, pI a2, pI a3] h (pg_oI h x) :=
  pg_Ct.of pn_RX12 (Nat.le_of_ble_eq_true rfl) (e_X12_costFrom l D h a0 a1 a2 a3)
def F_X12_costAlone_35 (h : pg_H) (k4 : Nat → Int32 → Int32 → Int32 → Option Int32) (a0 : Nat) (a1 : Int32) (a2 : Int32) (a3 : Int32) : Option Int32 := (k4 a0 a1 a2 (a3 + (1 : Int32)))
def F_X12_costAlone_4 (h : pg_H) : Nat → Nat → Int32 → Int32 → Int32 → Option Int32
  | 0 => fun _ _ _ _ => none
  | n + 1 => fun a0 a1 a2 a3 => Option.bind (pg_gR 12 3 h a0) fun v1 => Option.bind (pg_aI 21 h v1 (1347 : Int32)) fun v2 => (if a3 < v2 then Option.bind (pg_rcv 12 h a0 (F_X12_noteOf h a0 a3 (0 : Int32))) fun v4 => (if v4 = a1 then Option.bind (pg_gR 12 25 h a0) fun v5 => Option.bind (pg_aI 21 h v5 a3) fun v6 => pg_let (a2 + v6) fun v7 => (F_X12_costAlone_35 h (F_X12_costAlone_4 h n) a0 a1 v7 a3) else (F_X12_costAlone_35 h (F_X12_costAlone_4 h n) a0 a1 a2 a3)) else Option.bind (pg_rcv 12 h a0 (F_X12_term h a0 (2 : Int32))) fun v3 => (some (v3 * a2)))
def F_X12_costAlone (h : pg_H) (a0 : Nat) (a1 : Int32) : Option Int32 := (F_X12_costAlone_4 h pg_fuel a0 a1 (0 : Int32) (0 : Int32))
theorem e_X12_costAlone_35 (l : Launch) (D : pg_D)  (h : pg_H) (k4 : Nat → Int32 → Int32 → Int32 → Option Int32) (hk4 : ∀ (a0 : Nat) (a1 : Int32) (a2 : Int32) (a3 : Int32), pg_EvF l D RX12 cX12_costAlone 4 (some FieldType.int) "costAlone" 1 22 (pg_oI h) (k4 a0 a1 a2 a3) 4 [(0, pR a0), (1, pI a1), (2, pI a2), (3, pI a3)] [] h) (a0 : Nat) (a1 : Int32) (a2 : Int32) (a3 : Int32) : pg_EvF l D RX12 cX12_costAlone 4 (some FieldType.int) "costAlone" 1 22 (pg_oI h) (F_X12_costAlone_35 h k4 a0 a1 a2 a3) 35 [(0, pR a0), (1, pI a1), (2, pI a2), (3, pI a3)] [] h := by
  unfold F_X12_costAlone_35
  refine pg_iinc (lv' := [(3, pI (a3 + (1 : Int32))), (0, pR a0), (1, pI a1), (2, pI a2)]) dX12_costAlone_35 3 rfl ci_1 (by decide) rfl ?_
  refine pg_goto (tgt := 4) dX12_costAlone_38 rfl ?_
  exact pg_to (hk4 a0 a1 a2 (a3 + (1 : Int32))) [1, 2, 3, 0] rfl
theorem e_X12_costAlone_4 (l : Launch) (D : pg_D)  (h : pg_H) : ∀ (n : Nat) (a0 : Nat) (a1 : Int32) (a2 : Int32) (a3 : Int32), pg_EvF l D RX12 cX12_costAlone 4 (some FieldType.int) "costAlone" 1 22 (pg_oI h) (F_X12_costAlone_4 h n a0 a1 a2 a3) 4 [(0, pR a0), (1, pI a1), (2, pI a2), (3, pI a3)] [] h := by
  intro n
  induction n with
  | zero => intro a0 a1 a2 a3; exact pg_none
  | succ n ih =>
    intro a0 a1 a2 a3
    rw [F_X12_costAlone_4]
    refine pg_iload_n (i := 3) dX12_costAlone_4 rfl 3 rfl ?_
    refine pg_aload_n (i := 0) dX12_costAlone_5 rfl 0 rfl ?_
    refine pg_getR dX12_costAlone_6 fl_RX12_20 rfl (fun v1 => ?_)
    refine pg_sipush dX12_costAlone_9 cs_1347 ?_
    refine pg_iaload dX12_costAlone_12 (fun v2 => ?_)
    refine pg_icmp_ge (tgt := 41) dX12_costAlone_13 rfl ?_ ?_
    · refine pg_aload_n (i := 0) dX12_costAlone_41 rfl 0 rfl ?_
      refine pg_iconst dX12_costAlone_42 ci_2 ?_
      refine pg_callV_oI (As := [pI (2 : Int32)]) (rs := []) dX12_costAlone_43 lk_RX12_320 vy_X12_term nd_X12_term (c_X12_term l D h a0 (2 : Int32)) rfl rfl (Nat.le_of_ble_eq_true rfl) (by decide) (by decide) (fun v3 => ?_)
      refine pg_iload_n (i := 2) dX12_costAlone_46 rfl 2 rfl ?_
      refine pg_imul dX12_costAlone_47 ?_
      exact pg_iret dX12_costAlone_48 rfl rfl
    · refine pg_aload_n (i := 0) dX12_costAlone_16 rfl 0 rfl ?_
      refine pg_iload_n (i := 3) dX12_costAlone_17 rfl 3 rfl ?_
      refine pg_iconst dX12_costAlone_18 ci_0 ?_
      refine pg_callV_oI (As := [pI a3, pI (0 : Int32)]) (rs := []) dX12_costAlone_19 lk_RX12_143 vy_X12_noteOf nd_X12_noteOf (c_X12_noteOf l D h a0 a3 (0 : Int32)) rfl rfl (Nat.le_of_ble_eq_true rfl) (by decide) (by decide) (fun v4 => ?_)
      refine pg_iload_n (i := 1) dX12_costAlone_22 rfl 1 rfl ?_
      refine pg_icmp_ne (tgt := 35) dX12_costAlone_23 rfl ?_ ?_
      · exact pg_to (e_X12_costAlone_35 l D h (F_X12_costAlone_4 h n) ih a0 a1 a2 a3) [0, 1, 2, 3] rfl
      · refine pg_iload_n (i := 2) dX12_costAlone_26 rfl 2 rfl ?_
        refine pg_aload_n (i := 0) dX12_costAlone_27 rfl 0 rfl ?_
        refine pg_getR dX12_costAlone_28 fl_RX12_55 rfl (fun v5 => ?_)
        refine pg_iload_n (i := 3) dX12_costAlone_31 rfl 3 rfl ?_
        refine pg_iaload dX12_costAlone_32 (fun v6 => ?_)
        refine pg_iadd dX12_costAlone_33 ?_
        refine pg_letI (fun v7 => ?_)
        refine pg_istore_n (i := 2) (lv' := [(2, pI v7), (0, pR a0), (1, pI a1), (3, pI a3)]) dX12_costAlone_34 rfl (by decide) rfl ?_
        exact pg_to (e_X12_costAlone_35 l D h (F_X12_costAlone_4 h n) ih a0 a1 v7 a3) [1, 2, 0, 3] rfl
theorem e_X12_costAlone (l : Launch) (D : pg_D)  (h : pg_H) (a0 : Nat) (a1 : Int32) : pg_EvF l D RX12 cX12_costAlone 4 (some FieldType.int) "costAlone" 1 22 (pg_oI h) (F_X12_costAlone h a0 a1) 0 [(0, pR a0), (1, pI a1)] [] h := by
  unfold F_X12_costAlone
  refine pg_iconst dX12_costAlone_0 ci_0 ?_
  refine pg_istore_n (i := 2) (lv' := [(2, pI (0 : Int32)), (0, pR a0), (1, pI a1)]) dX12_costAlone_1 rfl (by decide) rfl ?_
  refine pg_iconst dX12_costAlone_2 ci_0 ?_
  refine pg_istore_n (i := 3) (lv' := [(3, pI (0 : Int32)), (2, pI (0 : Int32)), (0, pR a0), (1, pI a1)]) dX12_costAlone_3 rfl (by decide) rfl ?_
  exact pg_to (e_X12_costAlone_4 l D h pg_fuel a0 a1 (0 : Int32) (0 : Int32)) [2, 3, 1, 0] rfl
theorem c_X12_costAlone (l : Launch) (D : pg_D) (h : pg_H) (a0 : Nat) (a1 : Int32)  : ∀ x, F_X12_costAlone h a0 a1 = some x → pg_Ct l D yX12_costAlone cX12_costAlone 4 (some FieldType.int) 1 22 [pR a0, pI a1] h (pg_oI h x) :=
  pg_Ct.of pn_RX12 (Nat.le_of_ble_eq_true rfl) (e_X12_costAlone l D h a0 a1)
def F_X12_cost_21 (a0 : Nat) (a1 : Int32) (a2 : Int32) (h : pg_H) : Option (Int32 × pg_H) := (if a1 = a2 then (some ((-1 : Int32), h)) else Option.bind (pg_rcv 12 h a0 (F_X12_weighs a0 h)) fun v1 => (if a1 = (-1 : Int32) then Option.bind (pg_rcv 12 v1 a0 (F_X12_costAlone v1 a0 a2)) fun v3 => (some (v3, v1)) else Option.bind (pg_rcv 12 v1 a0 (F_X12_costFrom v1 a0 a1 a1 a2)) fun v2 => (some (v2, v1))))
def F_X12_cost (a0 : Nat) (a1 : Int32) (a2 : Int32) (h : pg_H) : Option (Int32 × pg_H) := Option.bind (pg_rcv 12 h a0 (F_X12_isCopy h a0 a2)) fun v1 => (if v1 = 0 then (some ((-1 : Int32), h)) else (if a1 = (-1 : Int32) then (F_X12_cost_21 a0 a1 a2 h) else Option.bind (pg_rcv 12 h a0 (F_X12_isCopy h a0 a1)) fun v2 => (if v2 = 0 then (some ((-1 : Int32), h)) else (F_X12_cost_21 a0 a1 a2 h))))
theorem e_X12_cost_21 (l : Launch) (D : pg_D)  (a0 : Nat) (a1 : Int32) (a2 : Int32) (h : pg_H) : pg_EvF l D RX12 cX12_cost 3 (some FieldType.int) "cost" 1306 33956 pg_wI (F_X12_cost_21 a0 a1 a2 h) 21 [(0, pR a0), (1, pI a1), (2, pI a2)] [] h := by
  unfold F_X12_cost_21
  refine pg_iload_n (i := 1) dX12_cost_21 rfl 1 rfl ?_
  refine pg_iload_n (i := 2) dX12_cost_22 rfl 2 rfl ?_
  refine pg_icmp_ne (tgt := 28) dX12_cost_23 rfl ?_ ?_
  · refine pg_aload_n (i := 0) dX12_cost_28 rfl 0 rfl ?_
    refine pg_callV_wV (As := []) (rs := []) dX12_cost_29 lk_RX12_323 vy_X12_weighs nd_X12_weighs (c_X12_weighs l D a0 h) rfl rfl (Nat.le_of_ble_eq_true rfl) (by decide) (by decide) (fun v1 => ?_)
    refine pg_iload_n (i := 1) dX12_cost_32 rfl 1 rfl ?_
    refine pg_iconst dX12_cost_33 ci_m1 ?_
    refine pg_icmp_ne (tgt := 45) dX12_cost_34 rfl ?_ ?_
    · refine pg_aload_n (i := 0) dX12_cost_45 rfl 0 rfl ?_
      refine pg_iload_n (i := 1) dX12_cost_46 rfl 1 rfl ?_
      refine pg_iload_n (i := 1) dX12_cost_47 rfl 1 rfl ?_
      refine pg_iload_n (i := 2) dX12_cost_48 rfl 2 rfl ?_
      refine pg_callV_oI (As := [pI a1, pI a1, pI a2]) (rs := []) dX12_cost_49 lk_RX12_329 vy_X12_costFrom nd_X12_costFrom (c_X12_costFrom l D v1 a0 a1 a1 a2) rfl rfl (Nat.le_of_ble_eq_true rfl) (by decide) (by decide) (fun v2 => ?_)
      exact pg_iret dX12_cost_52 rfl rfl
    · refine pg_aload_n (i := 0) dX12_cost_37 rfl 0 rfl ?_
      refine pg_iload_n (i := 2) dX12_cost_38 rfl 2 rfl ?_
      refine pg_callV_oI (As := [pI a2]) (rs := []) dX12_cost_39 lk_RX12_326 vy_X12_costAlone nd_X12_costAlone (c_X12_costAlone l D v1 a0 a2) rfl rfl (Nat.le_of_ble_eq_true rfl) (by decide) (by decide) (fun v3 => ?_)
      refine pg_goto (tgt := 52) dX12_cost_42 rfl ?_
      exact pg_iret dX12_cost_52 rfl rfl
  · refine pg_iconst dX12_cost_26 ci_m1 ?_
    exact pg_iret dX12_cost_27 rfl rfl
theorem e_X12_cost (l : Launch) (D : pg_D)  (a0 : Nat) (a1 : Int32) (a2 : Int32) (h : pg_H) : pg_EvF l D RX12 cX12_cost 3 (some FieldType.int) "cost" 1306 33956 pg_wI (F_X12_cost a0 a1 a2 h) 0 [(0, pR a0), (1, pI a1), (2, pI a2)] [] h := by
  unfold F_X12_cost
  refine pg_aload_n (i := 0) dX12_cost_0 rfl 0 rfl ?_
  refine pg_iload_n (i := 2) dX12_cost_1 rfl 2 rfl ?_
  refine pg_callV_oI (As := [pI a2]) (rs := []) dX12_cost_2 lk_RX12_128 vy_X12_isCopy nd_X12_isCopy (c_X12_isCopy l D h a0 a2) rfl rfl (Nat.le_of_ble_eq_true rfl) (by decide) (by decide) (fun v1 => ?_)
  refine pg_if_eq (tgt := 26) dX12_cost_5 rfl ?_ ?_
  · refine pg_iconst dX12_cost_26 ci_m1 ?_
    exact pg_iret dX12_cost_27 rfl rfl
  · refine pg_iload_n (i := 1) dX12_cost_8 rfl 1 rfl ?_
    refine pg_iconst dX12_cost_9 ci_m1 ?_
    refine pg_icmp_eq (tgt := 21) dX12_cost_10 rfl ?_ ?_
    · exact pg_to (e_X12_cost_21 l D a0 a1 a2 h) [0, 1, 2] rfl
    · refine pg_aload_n (i := 0) dX12_cost_13 rfl 0 rfl ?_
      refine pg_iload_n (i := 1) dX12_cost_14 rfl 1 rfl ?_
      refine pg_callV_oI (As := [pI a1]) (rs := []) dX12_cost_15 lk_RX12_128 vy_X12_isCopy nd_X12_isCopy (c_X12_isCopy l D h a0 a1) rfl rfl (Nat.le_of_ble_eq_true rfl) (by decide) (by decide) (fun v2 => ?_)
      refine pg_if_eq (tgt := 26) dX12_cost_18 rfl ?_ ?_
      · refine pg_iconst dX12_cost_26 ci_m1 ?_
        exact pg_iret dX12_cost_27 rfl rfl
      · exact pg_to (e_X12_cost_21 l D a0 a1 a2 h) [0, 1, 2] rfl
theorem c_X12_cost (l : Launch) (D : pg_D) (a0 : Nat) (a1 : Int32) (a2 : Int32) (h : pg_H) : ∀ x, F_X12_cost a0 a1 a2 h = some x → pg_Ct l D yX12_cost cX12_cost 3 (some FieldType.int) 1306 33956 [pR a0, pI a1, pI a2] h (pg_wI x) :=
  pg_Ct.of pn_RX12 (Nat.le_of_ble_eq_true rfl) (e_X12_cost l D a0 a1 a2 h)
def F_X12_laysCosts_97 (k42 : Nat → Int32 → Int32 → pg_H → Option pg_H) (a0 : Nat) (a1 : Int32) (a2 : Int32) (h : pg_H) : Option pg_H := (k42 a0 a1 (a2 + (1 : Int32)) h)
def F_X12_laysCosts_42 (k6 : Nat → Int32 → pg_H → Option pg_H) : Nat → Nat → Int32 → Int32 → pg_H → Option pg_H
  | 0 => fun _ _ _ _ => none
  | n + 1 => fun a0 a1 a2 h => Option.bind (pg_rcv 12 h a0 (F_X12_copies h a0)) fun v1 => (if a2 < v1 then (if a2 = a1 then (F_X12_laysCosts_97 (F_X12_laysCosts_42 k6 n) a0 a1 a2 h) else Option.bind (pg_rcv 12 h a0 (F_X12_canMeet h a0 a2 a1)) fun v2 => (if v2 = 0 then (F_X12_laysCosts_97 (F_X12_laysCosts_42 k6 n) a0 a1 a2 h) else Option.bind (pg_gR 12 27 h a0) fun v3 => Option.bind (pg_aI 21 h v3 a1) fun v4 => Option.bind (pg_sI 21 h v3 a1 (v4 ||| ((1 : Int32) <<< (a2 &&& 31)))) fun v5 => Option.bind (pg_gR 12 26 v5 a0) fun v6 => Option.bind (pg_rcv 12 v5 a0 (F_X12_costFrom v5 a0 a2 a2 a1)) fun v7 => Option.bind (pg_sI 21 v5 v6 (((13 : Int32) * a1) + a2) v7) fun v8 => (F_X12_laysCosts_97 (F_X12_laysCosts_42 k6 n) a0 a1 a2 v8))) else (k6 a0 (a1 + (1 : Int32)) h))
def F_X12_laysCosts_6  : Nat → Nat → Int32 → pg_H → Option pg_H
  | 0 => fun _ _ _ => none
  | n + 1 => fun a0 a1 h => Option.bind (pg_rcv 12 h a0 (F_X12_copies h a0)) fun v1 => (if a1 < v1 then Option.bind (pg_gR 12 27 h a0) fun v2 => Option.bind (pg_sI 21 h v2 a1 (4096 : Int32)) fun v3 => Option.bind (pg_gR 12 26 v3 a0) fun v4 => Option.bind (pg_rcv 12 v3 a0 (F_X12_costAlone v3 a0 a1)) fun v5 => Option.bind (pg_sI 21 v3 v4 (((13 : Int32) * a1) + (12 : Int32)) v5) fun v6 => (F_X12_laysCosts_42 (F_X12_laysCosts_6 n) pg_fuel a0 a1 (0 : Int32) v6) else (some h))
def F_X12_laysCosts (a0 : Nat) (h : pg_H) : Option pg_H := Option.bind (pg_rcv 12 h a0 (F_X12_weighs a0 h)) fun v1 => (F_X12_laysCosts_6 pg_fuel a0 (0 : Int32) v1)
theorem e_X12_laysCosts_97 (l : Launch) (D : pg_D)  (k42 : Nat → Int32 → Int32 → pg_H → Option pg_H) (hk42 : ∀ (a0 : Nat) (a1 : Int32) (a2 : Int32) (h : pg_H), pg_EvF l D RX12 cX12_laysCosts 3 none "laysCosts" 1306 33956 pg_wV (k42 a0 a1 a2 h) 42 [(0, pR a0), (1, pI a1), (2, pI a2)] [] h) (a0 : Nat) (a1 : Int32) (a2 : Int32) (h : pg_H) : pg_EvF l D RX12 cX12_laysCosts 3 none "laysCosts" 1306 33956 pg_wV (F_X12_laysCosts_97 k42 a0 a1 a2 h) 97 [(0, pR a0), (1, pI a1), (2, pI a2)] [] h := by
  unfold F_X12_laysCosts_97
  refine pg_iinc (lv' := [(2, pI (a2 + (1 : Int32))), (0, pR a0), (1, pI a1)]) dX12_laysCosts_97 2 rfl ci_1 (by decide) rfl ?_
  refine pg_goto (tgt := 42) dX12_laysCosts_100 rfl ?_
  exact pg_to (hk42 a0 a1 (a2 + (1 : Int32)) h) [1, 2, 0] rfl
theorem e_X12_laysCosts_42 (l : Launch) (D : pg_D)  (k6 : Nat → Int32 → pg_H → Option pg_H) (hk6 : ∀ (a0 : Nat) (a1 : Int32) (h : pg_H), pg_EvF l D RX12 cX12_laysCosts 3 none "laysCosts" 1306 33956 pg_wV (k6 a0 a1 h) 6 [(0, pR a0), (1, pI a1)] [] h) : ∀ (n : Nat) (a0 : Nat) (a1 : Int32) (a2 : Int32) (h : pg_H), pg_EvF l D RX12 cX12_laysCosts 3 none "laysCosts" 1306 33956 pg_wV (F_X12_laysCosts_42 k6 n a0 a1 a2 h) 42 [(0, pR a0), (1, pI a1), (2, pI a2)] [] h := by
  intro n
  induction n with
  | zero => intro a0 a1 a2 h; exact pg_none
  | succ n ih =>
    intro a0 a1 a2 h
    rw [F_X12_laysCosts_42]
    refine pg_iload_n (i := 2) dX12_laysCosts_42 rfl 2 rfl ?_
    refine pg_aload_n (i := 0) dX12_laysCosts_43 rfl 0 rfl ?_
    refine pg_callV_oI (As := []) (rs := [pI a2]) dX12_laysCosts_44 lk_RX12_124 vy_X12_copies nd_X12_copies (c_X12_copies l D h a0) rfl rfl (Nat.le_of_ble_eq_true rfl) (by decide) (by decide) (fun v1 => ?_)
    refine pg_icmp_ge (tgt := 103) dX12_laysCosts_47 rfl ?_ ?_
    · refine pg_iinc (lv' := [(1, pI (a1 + (1 : Int32))), (0, pR a0), (2, pI a2)]) dX12_laysCosts_103 1 rfl ci_1 (by decide) rfl ?_
      refine pg_goto (tgt := 6) dX12_laysCosts_106 rfl ?_
      exact pg_to (hk6 a0 (a1 + (1 : Int32)) h) [1, 0] rfl
    · refine pg_iload_n (i := 2) dX12_laysCosts_50 rfl 2 rfl ?_
      refine pg_iload_n (i := 1) dX12_laysCosts_51 rfl 1 rfl ?_
      refine pg_icmp_eq (tgt := 97) dX12_laysCosts_52 rfl ?_ ?_
      · exact pg_to (e_X12_laysCosts_97 l D (F_X12_laysCosts_42 k6 n) ih a0 a1 a2 h) [0, 1, 2] rfl
      · refine pg_aload_n (i := 0) dX12_laysCosts_55 rfl 0 rfl ?_
        refine pg_iload_n (i := 2) dX12_laysCosts_56 rfl 2 rfl ?_
        refine pg_iload_n (i := 1) dX12_laysCosts_57 rfl 1 rfl ?_
        refine pg_callV_oI (As := [pI a2, pI a1]) (rs := []) dX12_laysCosts_58 lk_RX12_317 vy_X12_canMeet nd_X12_canMeet (c_X12_canMeet l D h a0 a2 a1) rfl rfl (Nat.le_of_ble_eq_true rfl) (by decide) (by decide) (fun v2 => ?_)
        refine pg_if_ne (tgt := 67) dX12_laysCosts_61 rfl ?_ ?_
        · refine pg_aload_n (i := 0) dX12_laysCosts_67 rfl 0 rfl ?_
          refine pg_getR dX12_laysCosts_68 fl_RX12_61 rfl (fun v3 => ?_)
          refine pg_iload_n (i := 1) dX12_laysCosts_71 rfl 1 rfl ?_
          refine pg_dup2 dX12_laysCosts_72 rfl rfl ?_
          refine pg_iaload dX12_laysCosts_73 (fun v4 => ?_)
          refine pg_iconst dX12_laysCosts_74 ci_1 ?_
          refine pg_iload_n (i := 2) dX12_laysCosts_75 rfl 2 rfl ?_
          refine pg_ishl dX12_laysCosts_76 ?_
          refine pg_ior dX12_laysCosts_77 ?_
          refine pg_iastore dX12_laysCosts_78 (fun v5 => ?_)
          refine pg_aload_n (i := 0) dX12_laysCosts_79 rfl 0 rfl ?_
          refine pg_getR dX12_laysCosts_80 fl_RX12_58 rfl (fun v6 => ?_)
          refine pg_bipush dX12_laysCosts_83 cb_13 ?_
          refine pg_iload_n (i := 1) dX12_laysCosts_85 rfl 1 rfl ?_
          refine pg_imul dX12_laysCosts_86 ?_
          refine pg_iload_n (i := 2) dX12_laysCosts_87 rfl 2 rfl ?_
          refine pg_iadd dX12_laysCosts_88 ?_
          refine pg_aload_n (i := 0) dX12_laysCosts_89 rfl 0 rfl ?_
          refine pg_iload_n (i := 2) dX12_laysCosts_90 rfl 2 rfl ?_
          refine pg_iload_n (i := 2) dX12_laysCosts_91 rfl 2 rfl ?_
          refine pg_iload_n (i := 1) dX12_laysCosts_92 rfl 1 rfl ?_
          refine pg_callV_oI (As := [pI a2, pI a2, pI a1]) (rs := [pI (((13 : Int32) * a1) + a2), pR v6]) dX12_laysCosts_93 lk_RX12_329 vy_X12_costFrom nd_X12_costFrom (c_X12_costFrom l D v5 a0 a2 a2 a1) rfl rfl (Nat.le_of_ble_eq_true rfl) (by decide) (by decide) (fun v7 => ?_)
          refine pg_iastore dX12_laysCosts_96 (fun v8 => ?_)
          exact pg_to (e_X12_laysCosts_97 l D (F_X12_laysCosts_42 k6 n) ih a0 a1 a2 v8) [0, 1, 2] rfl
        · refine pg_goto (tgt := 97) dX12_laysCosts_64 rfl ?_
          exact pg_to (e_X12_laysCosts_97 l D (F_X12_laysCosts_42 k6 n) ih a0 a1 a2 h) [0, 1, 2] rfl
theorem e_X12_laysCosts_6 (l : Launch) (D : pg_D)   : ∀ (n : Nat) (a0 : Nat) (a1 : Int32) (h : pg_H), pg_EvF l D RX12 cX12_laysCosts 3 none "laysCosts" 1306 33956 pg_wV (F_X12_laysCosts_6 n a0 a1 h) 6 [(0, pR a0), (1, pI a1)] [] h := by
  intro n
  induction n with
  | zero => intro a0 a1 h; exact pg_none
  | succ n ih =>
    intro a0 a1 h
    rw [F_X12_laysCosts_6]
    refine pg_iload_n (i := 1) dX12_laysCosts_6 rfl 1 rfl ?_
    refine pg_aload_n (i := 0) dX12_laysCosts_7 rfl 0 rfl ?_
    refine pg_callV_oI (As := []) (rs := [pI a1]) dX12_laysCosts_8 lk_RX12_124 vy_X12_copies nd_X12_copies (c_X12_copies l D h a0) rfl rfl (Nat.le_of_ble_eq_true rfl) (by decide) (by decide) (fun v1 => ?_)
    refine pg_icmp_ge (tgt := 109) dX12_laysCosts_11 rfl ?_ ?_
    · exact pg_vret dX12_laysCosts_109 rfl rfl
    · refine pg_aload_n (i := 0) dX12_laysCosts_14 rfl 0 rfl ?_
      refine pg_getR dX12_laysCosts_15 fl_RX12_61 rfl (fun v2 => ?_)
      refine pg_iload_n (i := 1) dX12_laysCosts_18 rfl 1 rfl ?_
      refine pg_sipush dX12_laysCosts_19 cs_4096 ?_
      refine pg_iastore dX12_laysCosts_22 (fun v3 => ?_)
      refine pg_aload_n (i := 0) dX12_laysCosts_23 rfl 0 rfl ?_
      refine pg_getR dX12_laysCosts_24 fl_RX12_58 rfl (fun v4 => ?_)
      refine pg_bipush dX12_laysCosts_27 cb_13 ?_
      refine pg_iload_n (i := 1) dX12_laysCosts_29 rfl 1 rfl ?_
      refine pg_imul dX12_laysCosts_30 ?_
      refine pg_bipush dX12_laysCosts_31 cb_12 ?_
      refine pg_iadd dX12_laysCosts_33 ?_
      refine pg_aload_n (i := 0) dX12_laysCosts_34 rfl 0 rfl ?_
      refine pg_iload_n (i := 1) dX12_laysCosts_35 rfl 1 rfl ?_
      refine pg_callV_oI (As := [pI a1]) (rs := [pI (((13 : Int32) * a1) + (12 : Int32)), pR v4]) dX12_laysCosts_36 lk_RX12_326 vy_X12_costAlone nd_X12_costAlone (c_X12_costAlone l D v3 a0 a1) rfl rfl (Nat.le_of_ble_eq_true rfl) (by decide) (by decide) (fun v5 => ?_)
      refine pg_iastore dX12_laysCosts_39 (fun v6 => ?_)
      refine pg_iconst dX12_laysCosts_40 ci_0 ?_
      refine pg_istore_n (i := 2) (lv' := [(2, pI (0 : Int32)), (0, pR a0), (1, pI a1)]) dX12_laysCosts_41 rfl (by decide) rfl ?_
      exact pg_to (e_X12_laysCosts_42 l D (F_X12_laysCosts_6 n) ih pg_fuel a0 a1 (0 : Int32) v6) [1, 2, 0] rfl
theorem e_X12_laysCosts (l : Launch) (D : pg_D)  (a0 : Nat) (h : pg_H) : pg_EvF l D RX12 cX12_laysCosts 3 none "laysCosts" 1306 33956 pg_wV (F_X12_laysCosts a0 h) 0 [(0, pR a0)] [] h := by
  unfold F_X12_laysCosts
  refine pg_aload_n (i := 0) dX12_laysCosts_0 rfl 0 rfl ?_
  refine pg_callV_wV (As := []) (rs := []) dX12_laysCosts_1 lk_RX12_323 vy_X12_weighs nd_X12_weighs (c_X12_weighs l D a0 h) rfl rfl (Nat.le_of_ble_eq_true rfl) (by decide) (by decide) (fun v1 => ?_)
  refine pg_iconst dX12_laysCosts_4 ci_0 ?_
  refine pg_istore_n (i := 1) (lv' := [(1, pI (0 : Int32)), (0, pR a0)]) dX12_laysCosts_5 rfl (by decide) rfl ?_
  exact pg_to (e_X12_laysCosts_6 l D pg_fuel a0 (0 : Int32) v1) [1, 0] rfl
theorem c_X12_laysCosts (l : Launch) (D : pg_D) (a0 : Nat) (h : pg_H) : ∀ x, F_X12_laysCosts a0 h = some x → pg_Ct l D yX12_laysCosts cX12_laysCosts 3 none 1306 33956 [pR a0] h (pg_wV x) :=
  pg_Ct.of pn_RX12 (Nat.le_of_ble_eq_true rfl) (e_X12_laysCosts l D a0 h)
def F_X12_cheapestOf_75 (h : pg_H) (k7 : Nat → Int32 → Int32 → Int32 → Int32 → Option Int32) (a0 : Nat) (a1 : Int32) (a2 : Int32) (a3 : Int32) (a4 : Int32) : Option Int32 := (k7 a0 a1 a2 a3 (a4 + (1 : Int32)))
def F_X12_cheapestOf_46 (h : pg_H) (k7 : Nat → Int32 → Int32 → Int32 → Int32 → Option Int32) (a0 : Nat) (a1 : Int32) (a2 : Int32) (a3 : Int32) (a4 : Int32) : Option Int32 := Option.bind (pg_gR 12 26 h a0) fun v1 => Option.bind (pg_aI 21 h v1 (((13 : Int32) * a1) + a4)) fun v2 => (if v2 < a3 then Option.bind (pg_gR 12 26 h a0) fun v3 => Option.bind (pg_aI 21 h v3 (((13 : Int32) * a1) + a4)) fun v4 => (F_X12_cheapestOf_75 h k7 a0 a1 a2 v4 a4) else (F_X12_cheapestOf_75 h k7 a0 a1 a2 a3 a4))
def F_X12_cheapestOf_7 (h : pg_H) : Nat → Nat → Int32 → Int32 → Int32 → Int32 → Option Int32
  | 0 => fun _ _ _ _ _ => none
  | n + 1 => fun a0 a1 a2 a3 a4 => (if (12 : Int32) < a4 then (some a3) else Option.bind (pg_gR 12 27 h a0) fun v1 => Option.bind (pg_aI 21 h v1 a1) fun v2 => (if ((v2 >>> (a4 &&& 31)) &&& (1 : Int32)) = (1 : Int32) then (if a4 = (12 : Int32) then (F_X12_cheapestOf_46 h (F_X12_cheapestOf_7 h n) a0 a1 a2 a3 a4) else (if ((a2 >>> (a4 &&& 31)) &&& (1 : Int32)) = (1 : Int32) then (F_X12_cheapestOf_46 h (F_X12_cheapestOf_7 h n) a0 a1 a2 a3 a4) else (F_X12_cheapestOf_75 h (F_X12_cheapestOf_7 h n) a0 a1 a2 a3 a4))) else (F_X12_cheapestOf_75 h (F_X12_cheapestOf_7 h n) a0 a1 a2 a3 a4)))
def F_X12_cheapestOf (h : pg_H) (a0 : Nat) (a1 : Int32) (a2 : Int32) : Option Int32 := (F_X12_cheapestOf_7 h pg_fuel a0 a1 a2 (1000000000 : Int32) (0 : Int32))
theorem e_X12_cheapestOf_75 (l : Launch) (D : pg_D)  (h : pg_H) (k7 : Nat → Int32 → Int32 → Int32 → Int32 → Option Int32) (hk7 : ∀ (a0 : Nat) (a1 : Int32) (a2 : Int32) (a3 : Int32) (a4 : Int32), pg_EvF l D RX12 cX12_cheapestOf 5 (some FieldType.int) "cheapestOf" 0 0 (pg_oI h) (k7 a0 a1 a2 a3 a4) 7 [(0, pR a0), (1, pI a1), (2, pI a2), (3, pI a3), (4, pI a4)] [] h) (a0 : Nat) (a1 : Int32) (a2 : Int32) (a3 : Int32) (a4 : Int32) : pg_EvF l D RX12 cX12_cheapestOf 5 (some FieldType.int) "cheapestOf" 0 0 (pg_oI h) (F_X12_cheapestOf_75 h k7 a0 a1 a2 a3 a4) 75 [(0, pR a0), (1, pI a1), (2, pI a2), (3, pI a3), (4, pI a4)] [] h := by
  unfold F_X12_cheapestOf_75
  refine pg_iinc (lv' := [(4, pI (a4 + (1 : Int32))), (0, pR a0), (1, pI a1), (2, pI a2), (3, pI a3)]) dX12_cheapestOf_75 4 rfl ci_1 (by decide) rfl ?_
  refine pg_goto (tgt := 7) dX12_cheapestOf_78 rfl ?_
  exact pg_to (hk7 a0 a1 a2 a3 (a4 + (1 : Int32))) [1, 2, 3, 4, 0] rfl
theorem e_X12_cheapestOf_46 (l : Launch) (D : pg_D)  (h : pg_H) (k7 : Nat → Int32 → Int32 → Int32 → Int32 → Option Int32) (hk7 : ∀ (a0 : Nat) (a1 : Int32) (a2 : Int32) (a3 : Int32) (a4 : Int32), pg_EvF l D RX12 cX12_cheapestOf 5 (some FieldType.int) "cheapestOf" 0 0 (pg_oI h) (k7 a0 a1 a2 a3 a4) 7 [(0, pR a0), (1, pI a1), (2, pI a2), (3, pI a3), (4, pI a4)] [] h) (a0 : Nat) (a1 : Int32) (a2 : Int32) (a3 : Int32) (a4 : Int32) : pg_EvF l D RX12 cX12_cheapestOf 5 (some FieldType.int) "cheapestOf" 0 0 (pg_oI h) (F_X12_cheapestOf_46 h k7 a0 a1 a2 a3 a4) 46 [(0, pR a0), (1, pI a1), (2, pI a2), (3, pI a3), (4, pI a4)] [] h := by
  unfold F_X12_cheapestOf_46
  refine pg_aload_n (i := 0) dX12_cheapestOf_46 rfl 0 rfl ?_
  refine pg_getR dX12_cheapestOf_47 fl_RX12_58 rfl (fun v1 => ?_)
  refine pg_bipush dX12_cheapestOf_50 cb_13 ?_
  refine pg_iload_n (i := 1) dX12_cheapestOf_52 rfl 1 rfl ?_
  refine pg_imul dX12_cheapestOf_53 ?_
  refine pg_iload dX12_cheapestOf_54 4 rfl ?_
  refine pg_iadd dX12_cheapestOf_56 ?_
  refine pg_iaload dX12_cheapestOf_57 (fun v2 => ?_)
  refine pg_iload_n (i := 3) dX12_cheapestOf_58 rfl 3 rfl ?_
  refine pg_icmp_ge (tgt := 75) dX12_cheapestOf_59 rfl ?_ ?_
  · exact pg_to (e_X12_cheapestOf_75 l D h k7 hk7 a0 a1 a2 a3 a4) [0, 1, 2, 3, 4] rfl
  · refine pg_aload_n (i := 0) dX12_cheapestOf_62 rfl 0 rfl ?_
    refine pg_getR dX12_cheapestOf_63 fl_RX12_58 rfl (fun v3 => ?_)
    refine pg_bipush dX12_cheapestOf_66 cb_13 ?_
    refine pg_iload_n (i := 1) dX12_cheapestOf_68 rfl 1 rfl ?_
    refine pg_imul dX12_cheapestOf_69 ?_
    refine pg_iload dX12_cheapestOf_70 4 rfl ?_
    refine pg_iadd dX12_cheapestOf_72 ?_
    refine pg_iaload dX12_cheapestOf_73 (fun v4 => ?_)
    refine pg_istore_n (i := 3) (lv' := [(3, pI v4), (0, pR a0), (1, pI a1), (2, pI a2), (4, pI a4)]) dX12_cheapestOf_74 rfl (by decide) rfl ?_
    exact pg_to (e_X12_cheapestOf_75 l D h k7 hk7 a0 a1 a2 v4 a4) [1, 2, 3, 0, 4] rfl
theorem e_X12_cheapestOf_7 (l : Launch) (D : pg_D)  (h : pg_H) : ∀ (n : Nat) (a0 : Nat) (a1 : Int32) (a2 : Int32) (a3 : Int32) (a4 : Int32), pg_EvF l D RX12 cX12_cheapestOf 5 (some FieldType.int) "cheapestOf" 0 0 (pg_oI h) (F_X12_cheapestOf_7 h n a0 a1 a2 a3 a4) 7 [(0, pR a0), (1, pI a1), (2, pI a2), (3, pI a3), (4, pI a4)] [] h := by
  intro n
  induction n with
  | zero => intro a0 a1 a2 a3 a4; exact pg_none
  | succ n ih =>
    intro a0 a1 a2 a3 a4
    rw [F_X12_cheapestOf_7]
    refine pg_iload dX12_cheapestOf_7 4 rfl ?_
    refine pg_bipush dX12_cheapestOf_9 cb_12 ?_
    refine pg_icmp_gt (tgt := 81) dX12_cheapestOf_11 rfl ?_ ?_
    · refine pg_iload_n (i := 3) dX12_cheapestOf_81 rfl 3 rfl ?_
      exact pg_iret dX12_cheapestOf_82 rfl rfl
    · refine pg_aload_n (i := 0) dX12_cheapestOf_14 rfl 0 rfl ?_
      refine pg_getR dX12_cheapestOf_15 fl_RX12_61 rfl (fun v1 => ?_)
      refine pg_iload_n (i := 1) dX12_cheapestOf_18 rfl 1 rfl ?_
      refine pg_iaload dX12_cheapestOf_19 (fun v2 => ?_)
      refine pg_iload dX12_cheapestOf_20 4 rfl ?_
      refine pg_ishr dX12_cheapestOf_22 ?_
      refine pg_iconst dX12_cheapestOf_23 ci_1 ?_
      refine pg_iand dX12_cheapestOf_24 ?_
      refine pg_iconst dX12_cheapestOf_25 ci_1 ?_
      refine pg_icmp_ne (tgt := 75) dX12_cheapestOf_26 rfl ?_ ?_
      · exact pg_to (e_X12_cheapestOf_75 l D h (F_X12_cheapestOf_7 h n) ih a0 a1 a2 a3 a4) [0, 1, 2, 3, 4] rfl
      · refine pg_iload dX12_cheapestOf_29 4 rfl ?_
        refine pg_bipush dX12_cheapestOf_31 cb_12 ?_
        refine pg_icmp_eq (tgt := 46) dX12_cheapestOf_33 rfl ?_ ?_
        · exact pg_to (e_X12_cheapestOf_46 l D h (F_X12_cheapestOf_7 h n) ih a0 a1 a2 a3 a4) [0, 1, 2, 3, 4] rfl
        · refine pg_iload_n (i := 2) dX12_cheapestOf_36 rfl 2 rfl ?_
          refine pg_iload dX12_cheapestOf_37 4 rfl ?_
          refine pg_ishr dX12_cheapestOf_39 ?_
          refine pg_iconst dX12_cheapestOf_40 ci_1 ?_
          refine pg_iand dX12_cheapestOf_41 ?_
          refine pg_iconst dX12_cheapestOf_42 ci_1 ?_
          refine pg_icmp_ne (tgt := 75) dX12_cheapestOf_43 rfl ?_ ?_
          · exact pg_to (e_X12_cheapestOf_75 l D h (F_X12_cheapestOf_7 h n) ih a0 a1 a2 a3 a4) [0, 1, 2, 3, 4] rfl
          · exact pg_to (e_X12_cheapestOf_46 l D h (F_X12_cheapestOf_7 h n) ih a0 a1 a2 a3 a4) [0, 1, 2, 3, 4] rfl
theorem e_X12_cheapestOf (l : Launch) (D : pg_D)  (h : pg_H) (a0 : Nat) (a1 : Int32) (a2 : Int32) : pg_EvF l D RX12 cX12_cheapestOf 5 (some FieldType.int) "cheapestOf" 0 0 (pg_oI h) (F_X12_cheapestOf h a0 a1 a2) 0 [(0, pR a0), (1, pI a1), (2, pI a2)] [] h := by
  unfold F_X12_cheapestOf
  refine pg_ldcw (v := (1000000000 : Int32)) dX12_cheapestOf_0 kc_RX12_333 ?_
  refine pg_istore_n (i := 3) (lv' := [(3, pI (1000000000 : Int32)), (0, pR a0), (1, pI a1), (2, pI a2)]) dX12_cheapestOf_3 rfl (by decide) rfl ?_
  refine pg_iconst dX12_cheapestOf_4 ci_0 ?_
  refine pg_istore (lv' := [(4, pI (0 : Int32)), (3, pI (1000000000 : Int32)), (0, pR a0), (1, pI a1), (2, pI a2)]) dX12_cheapestOf_5 (by decide) rfl ?_
  exact pg_to (e_X12_cheapestOf_7 l D h pg_fuel a0 a1 a2 (1000000000 : Int32) (0 : Int32)) [2, 3, 4, 1, 0] rfl
theorem c_X12_cheapestOf (l : Launch) (D : pg_D) (h : pg_H) (a0 : Nat) (a1 : Int32) (a2 : Int32)  : ∀ x, F_X12_cheapestOf h a0 a1 a2 = some x → pg_Ct l D yX12_cheapestOf cX12_cheapestOf 5 (some FieldType.int) 0 0 [pR a0, pI a1, pI a2] h (pg_oI h x) :=
  pg_Ct.of pn_RX12 (Nat.le_of_ble_eq_true rfl) (e_X12_cheapestOf l D h a0 a1 a2)
def F_X12_cheapest_138 (k34 : Nat → Int32 → Int32 → Int32 → pg_H → Option (Int32 × pg_H)) (a0 : Nat) (a1 : Int32) (a2 : Int32) (a3 : Int32) (h : pg_H) : Option (Int32 × pg_H) := (k34 a0 a1 a2 (a3 + (1 : Int32)) h)
def F_X12_cheapest_34 (k18 : Nat → Int32 → Int32 → pg_H → Option (Int32 × pg_H)) : Nat → Nat → Int32 → Int32 → Int32 → pg_H → Option (Int32 × pg_H)
  | 0 => fun _ _ _ _ _ => none
  | n + 1 => fun a0 a1 a2 a3 h => Option.bind (pg_rcv 12 h a0 (F_X12_copies h a0)) fun v1 => (if a3 < v1 then (if ((a2 >>> (a3 &&& 31)) &&& (1 : Int32)) = 0 then (F_X12_cheapest_138 (F_X12_cheapest_34 k18 n) a0 a1 a2 a3 h) else Option.bind (pg_gR 12 28 h a0) fun v2 => Option.bind (pg_aI 21 h v2 (a2 &&& (((1 : Int32) <<< (a3 &&& 31)) ^^^ (-1 : Int32)))) fun v3 => (if v3 = (1000000000 : Int32) then (F_X12_cheapest_138 (F_X12_cheapest_34 k18 n) a0 a1 a2 a3 h) else Option.bind (pg_rcv 12 h a0 (F_X12_cheapestOf h a0 a3 (a2 &&& (((1 : Int32) <<< (a3 &&& 31)) ^^^ (-1 : Int32))))) fun v4 => (if v4 < (1000000000 : Int32) then Option.bind (pg_gR 12 28 h a0) fun v5 => Option.bind (pg_aI 21 h v5 (a2 &&& (((1 : Int32) <<< (a3 &&& 31)) ^^^ (-1 : Int32)))) fun v6 => Option.bind (pg_gR 12 28 h a0) fun v7 => Option.bind (pg_aI 21 h v7 a2) fun v8 => (if (v6 + v4) < v8 then Option.bind (pg_gR 12 28 h a0) fun v9 => Option.bind (pg_gR 12 28 h a0) fun v10 => Option.bind (pg_aI 21 h v10 (a2 &&& (((1 : Int32) <<< (a3 &&& 31)) ^^^ (-1 : Int32)))) fun v11 => Option.bind (pg_sI 21 h v9 a2 (v11 + v4)) fun v12 => (F_X12_cheapest_138 (F_X12_cheapest_34 k18 n) a0 a1 a2 a3 v12) else (F_X12_cheapest_138 (F_X12_cheapest_34 k18 n) a0 a1 a2 a3 h)) else (F_X12_cheapest_138 (F_X12_cheapest_34 k18 n) a0 a1 a2 a3 h)))) else (k18 a0 a1 (a2 + (1 : Int32)) h))
def F_X12_cheapest_18  : Nat → Nat → Int32 → Int32 → pg_H → Option (Int32 × pg_H)
  | 0 => fun _ _ _ _ => none
  | n + 1 => fun a0 a1 a2 h => (if a1 < a2 then Option.bind (pg_gR 12 28 h a0) fun v1 => Option.bind (pg_aI 21 h v1 a1) fun v2 => (some (v2, h)) else Option.bind (pg_gR 12 28 h a0) fun v3 => Option.bind (pg_sI 21 h v3 a2 (1000000000 : Int32)) fun v4 => (F_X12_cheapest_34 (F_X12_cheapest_18 n) pg_fuel a0 a1 a2 (0 : Int32) v4))
def F_X12_cheapest (a0 : Nat) (h : pg_H) : Option (Int32 × pg_H) := Option.bind (pg_rcv 12 h a0 (F_X12_copies h a0)) fun v1 => pg_let (((1 : Int32) <<< (v1 &&& 31)) - (1 : Int32)) fun v2 => Option.bind (pg_gR 12 28 h a0) fun v3 => Option.bind (pg_sI 21 h v3 (0 : Int32) (0 : Int32)) fun v4 => (F_X12_cheapest_18 pg_fuel a0 v2 (1 : Int32) v4)
theorem e_X12_cheapest_138 (l : Launch) (D : pg_D)  (k34 : Nat → Int32 → Int32 → Int32 → pg_H → Option (Int32 × pg_H)) (hk34 : ∀ (a0 : Nat) (a1 : Int32) (a2 : Int32) (a3 : Int32) (h : pg_H), pg_EvF l D RX12 cX12_cheapest 5 (some FieldType.int) "cheapest" 1 24 pg_wI (k34 a0 a1 a2 a3 h) 34 [(0, pR a0), (1, pI a1), (2, pI a2), (3, pI a3)] [] h) (a0 : Nat) (a1 : Int32) (a2 : Int32) (a3 : Int32) (h : pg_H) : pg_EvF l D RX12 cX12_cheapest 5 (some FieldType.int) "cheapest" 1 24 pg_wI (F_X12_cheapest_138 k34 a0 a1 a2 a3 h) 138 [(0, pR a0), (1, pI a1), (2, pI a2), (3, pI a3)] [] h := by
  unfold F_X12_cheapest_138
  refine pg_iinc (lv' := [(3, pI (a3 + (1 : Int32))), (0, pR a0), (1, pI a1), (2, pI a2)]) dX12_cheapest_138 3 rfl ci_1 (by decide) rfl ?_
  refine pg_goto (tgt := 34) dX12_cheapest_141 rfl ?_
  exact pg_to (hk34 a0 a1 a2 (a3 + (1 : Int32)) h) [1, 2, 3, 0] rfl
theorem e_X12_cheapest_34 (l : Launch) (D : pg_D)  (k18 : Nat → Int32 → Int32 → pg_H → Option (Int32 × pg_H)) (hk18 : ∀ (a0 : Nat) (a1 : Int32) (a2 : Int32) (h : pg_H), pg_EvF l D RX12 cX12_cheapest 5 (some FieldType.int) "cheapest" 1 24 pg_wI (k18 a0 a1 a2 h) 18 [(0, pR a0), (1, pI a1), (2, pI a2)] [] h) : ∀ (n : Nat) (a0 : Nat) (a1 : Int32) (a2 : Int32) (a3 : Int32) (h : pg_H), pg_EvF l D RX12 cX12_cheapest 5 (some FieldType.int) "cheapest" 1 24 pg_wI (F_X12_cheapest_34 k18 n a0 a1 a2 a3 h) 34 [(0, pR a0), (1, pI a1), (2, pI a2), (3, pI a3)] [] h := by
  intro n
  induction n with
  | zero => intro a0 a1 a2 a3 h; exact pg_none
  | succ n ih =>
    intro a0 a1 a2 a3 h
    rw [F_X12_cheapest_34]
    refine pg_iload_n (i := 3) dX12_cheapest_34 rfl 3 rfl ?_
    refine pg_aload_n (i := 0) dX12_cheapest_35 rfl 0 rfl ?_
    refine pg_callV_oI (As := []) (rs := [pI a3]) dX12_cheapest_36 lk_RX12_124 vy_X12_copies nd_X12_copies (c_X12_copies l D h a0) rfl rfl (Nat.le_of_ble_eq_true rfl) (by decide) (by decide) (fun v1 => ?_)
    refine pg_icmp_ge (tgt := 144) dX12_cheapest_39 rfl ?_ ?_
    · refine pg_iinc (lv' := [(2, pI (a2 + (1 : Int32))), (0, pR a0), (1, pI a1), (3, pI a3)]) dX12_cheapest_144 2 rfl ci_1 (by decide) rfl ?_
      refine pg_goto (tgt := 18) dX12_cheapest_147 rfl ?_
      exact pg_to (hk18 a0 a1 (a2 + (1 : Int32)) h) [1, 2, 0] rfl
    · refine pg_iload_n (i := 2) dX12_cheapest_42 rfl 2 rfl ?_
      refine pg_iload_n (i := 3) dX12_cheapest_43 rfl 3 rfl ?_
      refine pg_ishr dX12_cheapest_44 ?_
      refine pg_iconst dX12_cheapest_45 ci_1 ?_
      refine pg_iand dX12_cheapest_46 ?_
      refine pg_if_eq (tgt := 138) dX12_cheapest_47 rfl ?_ ?_
      · exact pg_to (e_X12_cheapest_138 l D (F_X12_cheapest_34 k18 n) ih a0 a1 a2 a3 h) [0, 1, 2, 3] rfl
      · refine pg_aload_n (i := 0) dX12_cheapest_50 rfl 0 rfl ?_
        refine pg_getR dX12_cheapest_51 fl_RX12_64 rfl (fun v2 => ?_)
        refine pg_iload_n (i := 2) dX12_cheapest_54 rfl 2 rfl ?_
        refine pg_iconst dX12_cheapest_55 ci_1 ?_
        refine pg_iload_n (i := 3) dX12_cheapest_56 rfl 3 rfl ?_
        refine pg_ishl dX12_cheapest_57 ?_
        refine pg_iconst dX12_cheapest_58 ci_m1 ?_
        refine pg_ixor dX12_cheapest_59 ?_
        refine pg_iand dX12_cheapest_60 ?_
        refine pg_iaload dX12_cheapest_61 (fun v3 => ?_)
        refine pg_ldcw (v := (1000000000 : Int32)) dX12_cheapest_62 kc_RX12_333 ?_
        refine pg_icmp_ne (tgt := 71) dX12_cheapest_65 rfl ?_ ?_
        · refine pg_aload_n (i := 0) dX12_cheapest_71 rfl 0 rfl ?_
          refine pg_iload_n (i := 3) dX12_cheapest_72 rfl 3 rfl ?_
          refine pg_iload_n (i := 2) dX12_cheapest_73 rfl 2 rfl ?_
          refine pg_iconst dX12_cheapest_74 ci_1 ?_
          refine pg_iload_n (i := 3) dX12_cheapest_75 rfl 3 rfl ?_
          refine pg_ishl dX12_cheapest_76 ?_
          refine pg_iconst dX12_cheapest_77 ci_m1 ?_
          refine pg_ixor dX12_cheapest_78 ?_
          refine pg_iand dX12_cheapest_79 ?_
          refine pg_callV_oI (As := [pI a3, pI (a2 &&& (((1 : Int32) <<< (a3 &&& 31)) ^^^ (-1 : Int32)))]) (rs := []) dX12_cheapest_80 lk_RX12_334 vy_X12_cheapestOf nd_X12_cheapestOf (c_X12_cheapestOf l D h a0 a3 (a2 &&& (((1 : Int32) <<< (a3 &&& 31)) ^^^ (-1 : Int32)))) rfl rfl (Nat.le_of_ble_eq_true rfl) (by decide) (by decide) (fun v4 => ?_)
          refine pg_istore (lv' := [(4, pI v4), (0, pR a0), (1, pI a1), (2, pI a2), (3, pI a3)]) dX12_cheapest_83 (by decide) rfl ?_
          refine pg_iload dX12_cheapest_85 0 rfl ?_
          refine pg_ldcw (v := (1000000000 : Int32)) dX12_cheapest_87 kc_RX12_333 ?_
          refine pg_icmp_ge (tgt := 138) dX12_cheapest_90 rfl ?_ ?_
          · exact pg_to (e_X12_cheapest_138 l D (F_X12_cheapest_34 k18 n) ih a0 a1 a2 a3 h) [1, 2, 3, 4] rfl
          · refine pg_aload_n (i := 0) dX12_cheapest_93 rfl 1 rfl ?_
            refine pg_getR dX12_cheapest_94 fl_RX12_64 rfl (fun v5 => ?_)
            refine pg_iload_n (i := 2) dX12_cheapest_97 rfl 3 rfl ?_
            refine pg_iconst dX12_cheapest_98 ci_1 ?_
            refine pg_iload_n (i := 3) dX12_cheapest_99 rfl 4 rfl ?_
            refine pg_ishl dX12_cheapest_100 ?_
            refine pg_iconst dX12_cheapest_101 ci_m1 ?_
            refine pg_ixor dX12_cheapest_102 ?_
            refine pg_iand dX12_cheapest_103 ?_
            refine pg_iaload dX12_cheapest_104 (fun v6 => ?_)
            refine pg_iload dX12_cheapest_105 0 rfl ?_
            refine pg_iadd dX12_cheapest_107 ?_
            refine pg_aload_n (i := 0) dX12_cheapest_108 rfl 1 rfl ?_
            refine pg_getR dX12_cheapest_109 fl_RX12_64 rfl (fun v7 => ?_)
            refine pg_iload_n (i := 2) dX12_cheapest_112 rfl 3 rfl ?_
            refine pg_iaload dX12_cheapest_113 (fun v8 => ?_)
            refine pg_icmp_ge (tgt := 138) dX12_cheapest_114 rfl ?_ ?_
            · exact pg_to (e_X12_cheapest_138 l D (F_X12_cheapest_34 k18 n) ih a0 a1 a2 a3 h) [1, 2, 3, 4] rfl
            · refine pg_aload_n (i := 0) dX12_cheapest_117 rfl 1 rfl ?_
              refine pg_getR dX12_cheapest_118 fl_RX12_64 rfl (fun v9 => ?_)
              refine pg_iload_n (i := 2) dX12_cheapest_121 rfl 3 rfl ?_
              refine pg_aload_n (i := 0) dX12_cheapest_122 rfl 1 rfl ?_
              refine pg_getR dX12_cheapest_123 fl_RX12_64 rfl (fun v10 => ?_)
              refine pg_iload_n (i := 2) dX12_cheapest_126 rfl 3 rfl ?_
              refine pg_iconst dX12_cheapest_127 ci_1 ?_
              refine pg_iload_n (i := 3) dX12_cheapest_128 rfl 4 rfl ?_
              refine pg_ishl dX12_cheapest_129 ?_
              refine pg_iconst dX12_cheapest_130 ci_m1 ?_
              refine pg_ixor dX12_cheapest_131 ?_
              refine pg_iand dX12_cheapest_132 ?_
              refine pg_iaload dX12_cheapest_133 (fun v11 => ?_)
              refine pg_iload dX12_cheapest_134 0 rfl ?_
              refine pg_iadd dX12_cheapest_136 ?_
              refine pg_iastore dX12_cheapest_137 (fun v12 => ?_)
              exact pg_to (e_X12_cheapest_138 l D (F_X12_cheapest_34 k18 n) ih a0 a1 a2 a3 v12) [1, 2, 3, 4] rfl
        · refine pg_goto (tgt := 138) dX12_cheapest_68 rfl ?_
          exact pg_to (e_X12_cheapest_138 l D (F_X12_cheapest_34 k18 n) ih a0 a1 a2 a3 h) [0, 1, 2, 3] rfl
theorem e_X12_cheapest_18 (l : Launch) (D : pg_D)   : ∀ (n : Nat) (a0 : Nat) (a1 : Int32) (a2 : Int32) (h : pg_H), pg_EvF l D RX12 cX12_cheapest 5 (some FieldType.int) "cheapest" 1 24 pg_wI (F_X12_cheapest_18 n a0 a1 a2 h) 18 [(0, pR a0), (1, pI a1), (2, pI a2)] [] h := by
  intro n
  induction n with
  | zero => intro a0 a1 a2 h; exact pg_none
  | succ n ih =>
    intro a0 a1 a2 h
    rw [F_X12_cheapest_18]
    refine pg_iload_n (i := 2) dX12_cheapest_18 rfl 2 rfl ?_
    refine pg_iload_n (i := 1) dX12_cheapest_19 rfl 1 rfl ?_
    refine pg_icmp_gt (tgt := 150) dX12_cheapest_20 rfl ?_ ?_
    · refine pg_aload_n (i := 0) dX12_cheapest_150 rfl 0 rfl ?_
      refine pg_getR dX12_cheapest_151 fl_RX12_64 rfl (fun v1 => ?_)
      refine pg_iload_n (i := 1) dX12_cheapest_154 rfl 1 rfl ?_
      refine pg_iaload dX12_cheapest_155 (fun v2 => ?_)
      exact pg_iret dX12_cheapest_156 rfl rfl
    · refine pg_aload_n (i := 0) dX12_cheapest_23 rfl 0 rfl ?_
      refine pg_getR dX12_cheapest_24 fl_RX12_64 rfl (fun v3 => ?_)
      refine pg_iload_n (i := 2) dX12_cheapest_27 rfl 2 rfl ?_
      refine pg_ldcw (v := (1000000000 : Int32)) dX12_cheapest_28 kc_RX12_333 ?_
      refine pg_iastore dX12_cheapest_31 (fun v4 => ?_)
      refine pg_iconst dX12_cheapest_32 ci_0 ?_
      refine pg_istore_n (i := 3) (lv' := [(3, pI (0 : Int32)), (0, pR a0), (1, pI a1), (2, pI a2)]) dX12_cheapest_33 rfl (by decide) rfl ?_
      exact pg_to (e_X12_cheapest_34 l D (F_X12_cheapest_18 n) ih pg_fuel a0 a1 a2 (0 : Int32) v4) [1, 2, 3, 0] rfl
theorem e_X12_cheapest (l : Launch) (D : pg_D)  (a0 : Nat) (h : pg_H) : pg_EvF l D RX12 cX12_cheapest 5 (some FieldType.int) "cheapest" 1 24 pg_wI (F_X12_cheapest a0 h) 0 [(0, pR a0)] [] h := by
  unfold F_X12_cheapest
  refine pg_iconst dX12_cheapest_0 ci_1 ?_
  refine pg_aload_n (i := 0) dX12_cheapest_1 rfl 0 rfl ?_
  refine pg_callV_oI (As := []) (rs := [pI (1 : Int32)]) dX12_cheapest_2 lk_RX12_124 vy_X12_copies nd_X12_copies (c_X12_copies l D h a0) rfl rfl (Nat.le_of_ble_eq_true rfl) (by decide) (by decide) (fun v1 => ?_)
  refine pg_ishl dX12_cheapest_5 ?_
  refine pg_iconst dX12_cheapest_6 ci_1 ?_
  refine pg_isub dX12_cheapest_7 ?_
  refine pg_letI (fun v2 => ?_)
  refine pg_istore_n (i := 1) (lv' := [(1, pI v2), (0, pR a0)]) dX12_cheapest_8 rfl (by decide) rfl ?_
  refine pg_aload_n (i := 0) dX12_cheapest_9 rfl 1 rfl ?_
  refine pg_getR dX12_cheapest_10 fl_RX12_64 rfl (fun v3 => ?_)
  refine pg_iconst dX12_cheapest_13 ci_0 ?_
  refine pg_iconst dX12_cheapest_14 ci_0 ?_
  refine pg_iastore dX12_cheapest_15 (fun v4 => ?_)
  refine pg_iconst dX12_cheapest_16 ci_1 ?_
  refine pg_istore_n (i := 2) (lv' := [(2, pI (1 : Int32)), (1, pI v2), (0, pR a0)]) dX12_cheapest_17 rfl (by decide) rfl ?_
  exact pg_to (e_X12_cheapest_18 l D pg_fuel a0 v2 (1 : Int32) v4) [2, 1, 0] rfl
theorem c_X12_cheapest (l : Launch) (D : pg_D) (a0 : Nat) (h : pg_H) : ∀ x, F_X12_cheapest a0 h = some x → pg_Ct l D yX12_cheapest cX12_cheapest 5 (some FieldType.int) 1 24 [pR a0] h (pg_wI x) :=
  pg_Ct.of pn_RX12 (Nat.le_of_ble_eq_true rfl) (e_X12_cheapest l D a0 h)
def F_X12_grows_124 (k34 : Nat → Int32 → pg_H → Option pg_H) (a0 : Nat) (a1 : Int32) (a3 : Int32) (h : pg_H) : Option pg_H := Option.bind (pg_gR 12 29 h a0) fun v1 => Option.bind (pg_sI 21 h v1 a1 a3) fun v2 => (k34 a0 (a1 + (1 : Int32)) v2)
def F_X12_grows_118 (k54 : Nat → Int32 → Int32 → Int32 → Int32 → pg_H → Option pg_H) (a0 : Nat) (a1 : Int32) (a2 : Int32) (a3 : Int32) (a4 : Int32) (h : pg_H) : Option pg_H := (k54 a0 a1 a2 a3 (a4 + (1 : Int32)) h)
def F_X12_grows_80 (k54 : Nat → Int32 → Int32 → Int32 → Int32 → pg_H → Option pg_H) (a0 : Nat) (a1 : Int32) (a2 : Int32) (a3 : Int32) (a4 : Int32) (s0 : Int32) (h : pg_H) : Option pg_H := (if ((a2 >>> (s0 &&& 31)) &&& (1 : Int32)) = 0 then (F_X12_grows_118 k54 a0 a1 a2 a3 a4 h) else Option.bind (pg_gR 12 27 h a0) fun v1 => Option.bind (pg_sI 21 h v1 a1 ((1 : Int32) <<< (s0 &&& 31))) fun v2 => Option.bind (pg_rcv 12 v2 a0 (F_X12_cheapest a0 v2)) fun v3 => Option.bind (pg_gI 12 30 v3.2 a0) fun v4 => (if v3.1 = v4 then (F_X12_grows_118 k54 a0 a1 a2 s0 a4 v3.2) else (F_X12_grows_118 k54 a0 a1 a2 a3 a4 v3.2)))
def F_X12_grows_54 (k34 : Nat → Int32 → pg_H → Option pg_H) : Nat → Nat → Int32 → Int32 → Int32 → Int32 → pg_H → Option pg_H
  | 0 => fun _ _ _ _ _ _ => none
  | n + 1 => fun a0 a1 a2 a3 a4 h => (if (12 : Int32) < a4 then (F_X12_grows_124 k34 a0 a1 a3 h) else (if a3 = (-1 : Int32) then (if a4 = 0 then (F_X12_grows_80 (F_X12_grows_54 k34 n) a0 a1 a2 a3 a4 (12 : Int32) h) else (F_X12_grows_80 (F_X12_grows_54 k34 n) a0 a1 a2 a3 a4 (a4 - (1 : Int32)) h)) else (F_X12_grows_124 k34 a0 a1 a3 h)))
def F_X12_grows_34  : Nat → Nat → Int32 → pg_H → Option pg_H
  | 0 => fun _ _ _ => none
  | n + 1 => fun a0 a1 h => Option.bind (pg_rcv 12 h a0 (F_X12_copies h a0)) fun v1 => (if a1 < v1 then Option.bind (pg_gR 12 27 h a0) fun v2 => Option.bind (pg_aI 21 h v2 a1) fun v3 => (F_X12_grows_54 (F_X12_grows_34 n) pg_fuel a0 a1 v3 (-1 : Int32) (0 : Int32) h) else (some h))
def F_X12_grows (a0 : Nat) (h : pg_H) : Option pg_H := Option.bind (pg_gI 12 31 h a0) fun v1 => Option.bind (pg_gI 12 1 h a0) fun v2 => (if v1 = v2 then (some h) else Option.bind (pg_gI 12 1 h a0) fun v3 => Option.bind (pg_pI 12 31 h a0 v3) fun v4 => Option.bind (pg_rcv 12 v4 a0 (F_X12_laysCosts a0 v4)) fun v5 => Option.bind (pg_rcv 12 v5 a0 (F_X12_cheapest a0 v5)) fun v6 => Option.bind (pg_pI 12 30 v6.2 a0 v6.1) fun v7 => (F_X12_grows_34 pg_fuel a0 (0 : Int32) v7))
theorem e_X12_grows_124 (l : Launch) (D : pg_D)  (k34 : Nat → Int32 → pg_H → Option pg_H) (hk34 : ∀ (a0 : Nat) (a1 : Int32) (h : pg_H), pg_EvF l D RX12 cX12_grows 6 none "grows" 1307 33978 pg_wV (k34 a0 a1 h) 34 [(0, pR a0), (1, pI a1)] [] h) (a0 : Nat) (a1 : Int32) (a3 : Int32) (h : pg_H) : pg_EvF l D RX12 cX12_grows 6 none "grows" 1307 33978 pg_wV (F_X12_grows_124 k34 a0 a1 a3 h) 124 [(0, pR a0), (1, pI a1), (3, pI a3)] [] h := by
  unfold F_X12_grows_124
  refine pg_aload_n (i := 0) dX12_grows_124 rfl 0 rfl ?_
  refine pg_getR dX12_grows_125 fl_RX12_67 rfl (fun v1 => ?_)
  refine pg_iload_n (i := 1) dX12_grows_128 rfl 1 rfl ?_
  refine pg_iload_n (i := 3) dX12_grows_129 rfl 2 rfl ?_
  refine pg_iastore dX12_grows_130 (fun v2 => ?_)
  refine pg_iinc (lv' := [(1, pI (a1 + (1 : Int32))), (0, pR a0), (3, pI a3)]) dX12_grows_131 1 rfl ci_1 (by decide) rfl ?_
  refine pg_goto (tgt := 34) dX12_grows_134 rfl ?_
  exact pg_to (hk34 a0 (a1 + (1 : Int32)) v2) [1, 0] rfl
theorem e_X12_grows_118 (l : Launch) (D : pg_D)  (k54 : Nat → Int32 → Int32 → Int32 → Int32 → pg_H → Option pg_H) (hk54 : ∀ (a0 : Nat) (a1 : Int32) (a2 : Int32) (a3 : Int32) (a4 : Int32) (h : pg_H), pg_EvF l D RX12 cX12_grows 6 none "grows" 1307 33978 pg_wV (k54 a0 a1 a2 a3 a4 h) 54 [(0, pR a0), (1, pI a1), (2, pI a2), (3, pI a3), (4, pI a4)] [] h) (a0 : Nat) (a1 : Int32) (a2 : Int32) (a3 : Int32) (a4 : Int32) (h : pg_H) : pg_EvF l D RX12 cX12_grows 6 none "grows" 1307 33978 pg_wV (F_X12_grows_118 k54 a0 a1 a2 a3 a4 h) 118 [(0, pR a0), (1, pI a1), (2, pI a2), (3, pI a3), (4, pI a4)] [] h := by
  unfold F_X12_grows_118
  refine pg_iinc (lv' := [(4, pI (a4 + (1 : Int32))), (0, pR a0), (1, pI a1), (2, pI a2), (3, pI a3)]) dX12_grows_118 4 rfl ci_1 (by decide) rfl ?_
  refine pg_goto (tgt := 54) dX12_grows_121 rfl ?_
  exact pg_to (hk54 a0 a1 a2 a3 (a4 + (1 : Int32)) h) [1, 2, 3, 4, 0] rfl
theorem e_X12_grows_80 (l : Launch) (D : pg_D)  (k54 : Nat → Int32 → Int32 → Int32 → Int32 → pg_H → Option pg_H) (hk54 : ∀ (a0 : Nat) (a1 : Int32) (a2 : Int32) (a3 : Int32) (a4 : Int32) (h : pg_H), pg_EvF l D RX12 cX12_grows 6 none "grows" 1307 33978 pg_wV (k54 a0 a1 a2 a3 a4 h) 54 [(0, pR a0), (1, pI a1), (2, pI a2), (3, pI a3), (4, pI a4)] [] h) (a0 : Nat) (a1 : Int32) (a2 : Int32) (a3 : Int32) (a4 : Int32) (s0 : Int32) (h : pg_H) : pg_EvF l D RX12 cX12_grows 6 none "grows" 1307 33978 pg_wV (F_X12_grows_80 k54 a0 a1 a2 a3 a4 s0 h) 80 [(0, pR a0), (1, pI a1), (2, pI a2), (3, pI a3), (4, pI a4)] [pI s0] h := by
  unfold F_X12_grows_80
  refine pg_istore (lv' := [(5, pI s0), (0, pR a0), (1, pI a1), (2, pI a2), (3, pI a3), (4, pI a4)]) dX12_grows_80 (by decide) rfl ?_
  refine pg_iload_n (i := 2) dX12_grows_82 rfl 3 rfl ?_
  refine pg_iload dX12_grows_83 0 rfl ?_
  refine pg_ishr dX12_grows_85 ?_
  refine pg_iconst dX12_grows_86 ci_1 ?_
  refine pg_iand dX12_grows_87 ?_
  refine pg_if_ne (tgt := 94) dX12_grows_88 rfl ?_ ?_
  · refine pg_aload_n (i := 0) dX12_grows_94 rfl 1 rfl ?_
    refine pg_getR dX12_grows_95 fl_RX12_61 rfl (fun v1 => ?_)
    refine pg_iload_n (i := 1) dX12_grows_98 rfl 2 rfl ?_
    refine pg_iconst dX12_grows_99 ci_1 ?_
    refine pg_iload dX12_grows_100 0 rfl ?_
    refine pg_ishl dX12_grows_102 ?_
    refine pg_iastore dX12_grows_103 (fun v2 => ?_)
    refine pg_aload_n (i := 0) dX12_grows_104 rfl 1 rfl ?_
    refine pg_callV_wI (As := []) (rs := []) dX12_grows_105 lk_RX12_340 vy_X12_cheapest nd_X12_cheapest (c_X12_cheapest l D a0 v2) rfl rfl (Nat.le_of_ble_eq_true rfl) (by decide) (by decide) (fun v3 => ?_)
    refine pg_aload_n (i := 0) dX12_grows_108 rfl 1 rfl ?_
    refine pg_getI dX12_grows_109 fl_RX12_343 rfl (fun v4 => ?_)
    refine pg_icmp_ne (tgt := 118) dX12_grows_112 rfl ?_ ?_
    · exact pg_to (e_X12_grows_118 l D k54 hk54 a0 a1 a2 a3 a4 v3.2) [1, 2, 3, 4, 5] rfl
    · refine pg_iload dX12_grows_115 0 rfl ?_
      refine pg_istore_n (i := 3) (lv' := [(3, pI s0), (5, pI s0), (0, pR a0), (1, pI a1), (2, pI a2), (4, pI a4)]) dX12_grows_117 rfl (by decide) rfl ?_
      exact pg_to (e_X12_grows_118 l D k54 hk54 a0 a1 a2 s0 a4 v3.2) [2, 3, 4, 0, 5] rfl
  · refine pg_goto (tgt := 118) dX12_grows_91 rfl ?_
    exact pg_to (e_X12_grows_118 l D k54 hk54 a0 a1 a2 a3 a4 h) [1, 2, 3, 4, 5] rfl
theorem e_X12_grows_54 (l : Launch) (D : pg_D)  (k34 : Nat → Int32 → pg_H → Option pg_H) (hk34 : ∀ (a0 : Nat) (a1 : Int32) (h : pg_H), pg_EvF l D RX12 cX12_grows 6 none "grows" 1307 33978 pg_wV (k34 a0 a1 h) 34 [(0, pR a0), (1, pI a1)] [] h) : ∀ (n : Nat) (a0 : Nat) (a1 : Int32) (a2 : Int32) (a3 : Int32) (a4 : Int32) (h : pg_H), pg_EvF l D RX12 cX12_grows 6 none "grows" 1307 33978 pg_wV (F_X12_grows_54 k34 n a0 a1 a2 a3 a4 h) 54 [(0, pR a0), (1, pI a1), (2, pI a2), (3, pI a3), (4, pI a4)] [] h := by
  intro n
  induction n with
  | zero => intro a0 a1 a2 a3 a4 h; exact pg_none
  | succ n ih =>
    intro a0 a1 a2 a3 a4 h
    rw [F_X12_grows_54]
    refine pg_iload dX12_grows_54 4 rfl ?_
    refine pg_bipush dX12_grows_56 cb_12 ?_
    refine pg_icmp_gt (tgt := 124) dX12_grows_58 rfl ?_ ?_
    · exact pg_to (e_X12_grows_124 l D k34 hk34 a0 a1 a3 h) [0, 1, 3] rfl
    · refine pg_iload_n (i := 3) dX12_grows_61 rfl 3 rfl ?_
      refine pg_iconst dX12_grows_62 ci_m1 ?_
      refine pg_icmp_ne (tgt := 124) dX12_grows_63 rfl ?_ ?_
      · exact pg_to (e_X12_grows_124 l D k34 hk34 a0 a1 a3 h) [0, 1, 3] rfl
      · refine pg_iload dX12_grows_66 4 rfl ?_
        refine pg_if_ne (tgt := 76) dX12_grows_68 rfl ?_ ?_
        · refine pg_iload dX12_grows_76 4 rfl ?_
          refine pg_iconst dX12_grows_78 ci_1 ?_
          refine pg_isub dX12_grows_79 ?_
          exact pg_to (e_X12_grows_80 l D (F_X12_grows_54 k34 n) ih a0 a1 a2 a3 a4 (a4 - (1 : Int32)) h) [0, 1, 2, 3, 4] rfl
        · refine pg_bipush dX12_grows_71 cb_12 ?_
          refine pg_goto (tgt := 80) dX12_grows_73 rfl ?_
          exact pg_to (e_X12_grows_80 l D (F_X12_grows_54 k34 n) ih a0 a1 a2 a3 a4 (12 : Int32) h) [0, 1, 2, 3, 4] rfl
theorem e_X12_grows_34 (l : Launch) (D : pg_D)   : ∀ (n : Nat) (a0 : Nat) (a1 : Int32) (h : pg_H), pg_EvF l D RX12 cX12_grows 6 none "grows" 1307 33978 pg_wV (F_X12_grows_34 n a0 a1 h) 34 [(0, pR a0), (1, pI a1)] [] h := by
  intro n
  induction n with
  | zero => intro a0 a1 h; exact pg_none
  | succ n ih =>
    intro a0 a1 h
    rw [F_X12_grows_34]
    refine pg_iload_n (i := 1) dX12_grows_34 rfl 1 rfl ?_
    refine pg_aload_n (i := 0) dX12_grows_35 rfl 0 rfl ?_
    refine pg_callV_oI (As := []) (rs := [pI a1]) dX12_grows_36 lk_RX12_124 vy_X12_copies nd_X12_copies (c_X12_copies l D h a0) rfl rfl (Nat.le_of_ble_eq_true rfl) (by decide) (by decide) (fun v1 => ?_)
    refine pg_icmp_ge (tgt := 137) dX12_grows_39 rfl ?_ ?_
    · exact pg_vret dX12_grows_137 rfl rfl
    · refine pg_aload_n (i := 0) dX12_grows_42 rfl 0 rfl ?_
      refine pg_getR dX12_grows_43 fl_RX12_61 rfl (fun v2 => ?_)
      refine pg_iload_n (i := 1) dX12_grows_46 rfl 1 rfl ?_
      refine pg_iaload dX12_grows_47 (fun v3 => ?_)
      refine pg_istore_n (i := 2) (lv' := [(2, pI v3), (0, pR a0), (1, pI a1)]) dX12_grows_48 rfl (by decide) rfl ?_
      refine pg_iconst dX12_grows_49 ci_m1 ?_
      refine pg_istore_n (i := 3) (lv' := [(3, pI (-1 : Int32)), (2, pI v3), (0, pR a0), (1, pI a1)]) dX12_grows_50 rfl (by decide) rfl ?_
      refine pg_iconst dX12_grows_51 ci_0 ?_
      refine pg_istore (lv' := [(4, pI (0 : Int32)), (3, pI (-1 : Int32)), (2, pI v3), (0, pR a0), (1, pI a1)]) dX12_grows_52 (by decide) rfl ?_
      exact pg_to (e_X12_grows_54 l D (F_X12_grows_34 n) ih pg_fuel a0 a1 v3 (-1 : Int32) (0 : Int32) h) [3, 4, 2, 1, 0] rfl
theorem e_X12_grows (l : Launch) (D : pg_D)  (a0 : Nat) (h : pg_H) : pg_EvF l D RX12 cX12_grows 6 none "grows" 1307 33978 pg_wV (F_X12_grows a0 h) 0 [(0, pR a0)] [] h := by
  unfold F_X12_grows
  refine pg_aload_n (i := 0) dX12_grows_0 rfl 0 rfl ?_
  refine pg_getI dX12_grows_1 fl_RX12_70 rfl (fun v1 => ?_)
  refine pg_aload_n (i := 0) dX12_grows_4 rfl 0 rfl ?_
  refine pg_getI dX12_grows_5 fl_RX12_11 rfl (fun v2 => ?_)
  refine pg_icmp_ne (tgt := 12) dX12_grows_8 rfl ?_ ?_
  · refine pg_aload_n (i := 0) dX12_grows_12 rfl 0 rfl ?_
    refine pg_aload_n (i := 0) dX12_grows_13 rfl 0 rfl ?_
    refine pg_getI dX12_grows_14 fl_RX12_11 rfl (fun v3 => ?_)
    refine pg_putI dX12_grows_17 fl_RX12_70 (fun z => by cases z) (fun v4 => ?_)
    refine pg_aload_n (i := 0) dX12_grows_20 rfl 0 rfl ?_
    refine pg_callV_wV (As := []) (rs := []) dX12_grows_21 lk_RX12_337 vy_X12_laysCosts nd_X12_laysCosts (c_X12_laysCosts l D a0 v4) rfl rfl (Nat.le_of_ble_eq_true rfl) (by decide) (by decide) (fun v5 => ?_)
    refine pg_aload_n (i := 0) dX12_grows_24 rfl 0 rfl ?_
    refine pg_aload_n (i := 0) dX12_grows_25 rfl 0 rfl ?_
    refine pg_callV_wI (As := []) (rs := [pR a0]) dX12_grows_26 lk_RX12_340 vy_X12_cheapest nd_X12_cheapest (c_X12_cheapest l D a0 v5) rfl rfl (Nat.le_of_ble_eq_true rfl) (by decide) (by decide) (fun v6 => ?_)
    refine pg_putI dX12_grows_29 fl_RX12_343 (fun z => by cases z) (fun v7 => ?_)
    refine pg_iconst dX12_grows_32 ci_0 ?_
    refine pg_istore_n (i := 1) (lv' := [(1, pI (0 : Int32)), (0, pR a0)]) dX12_grows_33 rfl (by decide) rfl ?_
    exact pg_to (e_X12_grows_34 l D pg_fuel a0 (0 : Int32) v7) [1, 0] rfl
  · exact pg_vret dX12_grows_11 rfl rfl
theorem c_X12_grows (l : Launch) (D : pg_D) (a0 : Nat) (h : pg_H) : ∀ x, F_X12_grows a0 h = some x → pg_Ct l D yX12_grows cX12_grows 6 none 1307 33978 [pR a0] h (pg_wV x) :=
  pg_Ct.of pn_RX12 (Nat.le_of_ble_eq_true rfl) (e_X12_grows l D a0 h)
def F_X12_tree (a0 : Nat) (h : pg_H) : Option (Int32 × pg_H) := Option.bind (pg_rcv 12 h a0 (F_X12_laysCosts a0 h)) fun v1 => Option.bind (pg_rcv 12 v1 a0 (F_X12_cheapest a0 v1)) fun v2 => (some (v2.1, v2.2))
theorem e_X12_tree (l : Launch) (D : pg_D)  (a0 : Nat) (h : pg_H) : pg_EvF l D RX12 cX12_tree 1 (some FieldType.int) "tree" 1307 33978 pg_wI (F_X12_tree a0 h) 0 [(0, pR a0)] [] h := by
  unfold F_X12_tree
  refine pg_aload_n (i := 0) dX12_tree_0 rfl 0 rfl ?_
  refine pg_callV_wV (As := []) (rs := []) dX12_tree_1 lk_RX12_337 vy_X12_laysCosts nd_X12_laysCosts (c_X12_laysCosts l D a0 h) rfl rfl (Nat.le_of_ble_eq_true rfl) (by decide) (by decide) (fun v1 => ?_)
  refine pg_aload_n (i := 0) dX12_tree_4 rfl 0 rfl ?_
  refine pg_callV_wI (As := []) (rs := []) dX12_tree_5 lk_RX12_340 vy_X12_cheapest nd_X12_cheapest (c_X12_cheapest l D a0 v1) rfl rfl (Nat.le_of_ble_eq_true rfl) (by decide) (by decide) (fun v2 => ?_)
  exact pg_iret dX12_tree_8 rfl rfl
theorem c_X12_tree (l : Launch) (D : pg_D) (a0 : Nat) (h : pg_H) : ∀ x, F_X12_tree a0 h = some x → pg_Ct l D yX12_tree cX12_tree 1 (some FieldType.int) 1307 33978 [pR a0] h (pg_wI x) :=
  pg_Ct.of pn_RX12 (Nat.le_of_ble_eq_true rfl) (e_X12_tree l D a0 h)
def F_X12_whose (a0 : Nat) (a1 : Int32) (h : pg_H) : Option (Int32 × pg_H) := Option.bind (pg_rcv 12 h a0 (F_X12_isCopy h a0 a1)) fun v1 => (if v1 = 0 then (some ((-1 : Int32), h)) else Option.bind (pg_rcv 12 h a0 (F_X12_grows a0 h)) fun v2 => Option.bind (pg_gR 12 29 v2 a0) fun v3 => Option.bind (pg_aI 21 v2 v3 a1) fun v4 => (if v4 = (12 : Int32) then (some ((100 : Int32), v2)) else Option.bind (pg_gR 12 29 v2 a0) fun v5 => Option.bind (pg_aI 21 v2 v5 a1) fun v6 => (some (v6, v2))))
theorem e_X12_whose (l : Launch) (D : pg_D)  (a0 : Nat) (a1 : Int32) (h : pg_H) : pg_EvF l D RX12 cX12_whose 2 (some FieldType.int) "whose" 1308 34003 pg_wI (F_X12_whose a0 a1 h) 0 [(0, pR a0), (1, pI a1)] [] h := by
  unfold F_X12_whose
  refine pg_aload_n (i := 0) dX12_whose_0 rfl 0 rfl ?_
  refine pg_iload_n (i := 1) dX12_whose_1 rfl 1 rfl ?_
  refine pg_callV_oI (As := [pI a1]) (rs := []) dX12_whose_2 lk_RX12_128 vy_X12_isCopy nd_X12_isCopy (c_X12_isCopy l D h a0 a1) rfl rfl (Nat.le_of_ble_eq_true rfl) (by decide) (by decide) (fun v1 => ?_)
  refine pg_if_ne (tgt := 10) dX12_whose_5 rfl ?_ ?_
  · refine pg_aload_n (i := 0) dX12_whose_10 rfl 0 rfl ?_
    refine pg_callV_wV (As := []) (rs := []) dX12_whose_11 lk_RX12_346 vy_X12_grows nd_X12_grows (c_X12_grows l D a0 h) rfl rfl (Nat.le_of_ble_eq_true rfl) (by decide) (by decide) (fun v2 => ?_)
    refine pg_aload_n (i := 0) dX12_whose_14 rfl 0 rfl ?_
    refine pg_getR dX12_whose_15 fl_RX12_67 rfl (fun v3 => ?_)
    refine pg_iload_n (i := 1) dX12_whose_18 rfl 1 rfl ?_
    refine pg_iaload dX12_whose_19 (fun v4 => ?_)
    refine pg_bipush dX12_whose_20 cb_12 ?_
    refine pg_icmp_ne (tgt := 30) dX12_whose_22 rfl ?_ ?_
    · refine pg_aload_n (i := 0) dX12_whose_30 rfl 0 rfl ?_
      refine pg_getR dX12_whose_31 fl_RX12_67 rfl (fun v5 => ?_)
      refine pg_iload_n (i := 1) dX12_whose_34 rfl 1 rfl ?_
      refine pg_iaload dX12_whose_35 (fun v6 => ?_)
      exact pg_iret dX12_whose_36 rfl rfl
    · refine pg_bipush dX12_whose_25 cb_100 ?_
      refine pg_goto (tgt := 36) dX12_whose_27 rfl ?_
      exact pg_iret dX12_whose_36 rfl rfl
  · refine pg_iconst dX12_whose_8 ci_m1 ?_
    exact pg_iret dX12_whose_9 rfl rfl
theorem c_X12_whose (l : Launch) (D : pg_D) (a0 : Nat) (a1 : Int32) (h : pg_H) : ∀ x, F_X12_whose a0 a1 h = some x → pg_Ct l D yX12_whose cX12_whose 2 (some FieldType.int) 1308 34003 [pR a0, pI a1] h (pg_wI x) :=
  pg_Ct.of pn_RX12 (Nat.le_of_ble_eq_true rfl) (e_X12_whose l D a0 a1 h)
def F_X12_sure (a0 : Nat) (a1 : Int32) (h : pg_H) : Option (Int32 × pg_H) := Option.bind (pg_rcv 12 h a0 (F_X12_isCopy h a0 a1)) fun v1 => (if v1 = 0 then (some ((-1 : Int32), h)) else Option.bind (pg_rcv 12 h a0 (F_X12_grows a0 h)) fun v2 => Option.bind (pg_rcv 12 v2 a0 (F_X12_laysCosts a0 v2)) fun v3 => Option.bind (pg_gR 12 27 v3 a0) fun v4 => Option.bind (pg_aI 21 v3 v4 a1) fun v5 => Option.bind (pg_gR 12 29 v3 a0) fun v6 => Option.bind (pg_aI 21 v3 v6 a1) fun v7 => Option.bind (pg_sI 21 v3 v4 a1 (v5 &&& (((1 : Int32) <<< (v7 &&& 31)) ^^^ (-1 : Int32)))) fun v8 => Option.bind (pg_rcv 12 v8 a0 (F_X12_cheapest a0 v8)) fun v9 => Option.bind (pg_gI 12 30 v9.2 a0) fun v10 => (if v9.1 = v10 then (some ((0 : Int32), v9.2)) else (some ((1 : Int32), v9.2))))
theorem e_X12_sure (l : Launch) (D : pg_D)  (a0 : Nat) (a1 : Int32) (h : pg_H) : pg_EvF l D RX12 cX12_sure 2 (some FieldType.int) "sure" 1308 34003 pg_wI (F_X12_sure a0 a1 h) 0 [(0, pR a0), (1, pI a1)] [] h := by
  unfold F_X12_sure
  refine pg_aload_n (i := 0) dX12_sure_0 rfl 0 rfl ?_
  refine pg_iload_n (i := 1) dX12_sure_1 rfl 1 rfl ?_
  refine pg_callV_oI (As := [pI a1]) (rs := []) dX12_sure_2 lk_RX12_128 vy_X12_isCopy nd_X12_isCopy (c_X12_isCopy l D h a0 a1) rfl rfl (Nat.le_of_ble_eq_true rfl) (by decide) (by decide) (fun v1 => ?_)
  refine pg_if_ne (tgt := 10) dX12_sure_5 rfl ?_ ?_
  · refine pg_aload_n (i := 0) dX12_sure_10 rfl 0 rfl ?_
    refine pg_callV_wV (As := []) (rs := []) dX12_sure_11 lk_RX12_346 vy_X12_grows nd_X12_grows (c_X12_grows l D a0 h) rfl rfl (Nat.le_of_ble_eq_true rfl) (by decide) (by decide) (fun v2 => ?_)
    refine pg_aload_n (i := 0) dX12_sure_14 rfl 0 rfl ?_
    refine pg_callV_wV (As := []) (rs := []) dX12_sure_15 lk_RX12_337 vy_X12_laysCosts nd_X12_laysCosts (c_X12_laysCosts l D a0 v2) rfl rfl (Nat.le_of_ble_eq_true rfl) (by decide) (by decide) (fun v3 => ?_)
    refine pg_aload_n (i := 0) dX12_sure_18 rfl 0 rfl ?_
    refine pg_getR dX12_sure_19 fl_RX12_61 rfl (fun v4 => ?_)
    refine pg_iload_n (i := 1) dX12_sure_22 rfl 1 rfl ?_
    refine pg_dup2 dX12_sure_23 rfl rfl ?_
    refine pg_iaload dX12_sure_24 (fun v5 => ?_)
    refine pg_iconst dX12_sure_25 ci_1 ?_
    refine pg_aload_n (i := 0) dX12_sure_26 rfl 0 rfl ?_
    refine pg_getR dX12_sure_27 fl_RX12_67 rfl (fun v6 => ?_)
    refine pg_iload_n (i := 1) dX12_sure_30 rfl 1 rfl ?_
    refine pg_iaload dX12_sure_31 (fun v7 => ?_)
    refine pg_ishl dX12_sure_32 ?_
    refine pg_iconst dX12_sure_33 ci_m1 ?_
    refine pg_ixor dX12_sure_34 ?_
    refine pg_iand dX12_sure_35 ?_
    refine pg_iastore dX12_sure_36 (fun v8 => ?_)
    refine pg_aload_n (i := 0) dX12_sure_37 rfl 0 rfl ?_
    refine pg_callV_wI (As := []) (rs := []) dX12_sure_38 lk_RX12_340 vy_X12_cheapest nd_X12_cheapest (c_X12_cheapest l D a0 v8) rfl rfl (Nat.le_of_ble_eq_true rfl) (by decide) (by decide) (fun v9 => ?_)
    refine pg_aload_n (i := 0) dX12_sure_41 rfl 0 rfl ?_
    refine pg_getI dX12_sure_42 fl_RX12_343 rfl (fun v10 => ?_)
    refine pg_icmp_ne (tgt := 52) dX12_sure_45 rfl ?_ ?_
    · refine pg_iconst dX12_sure_52 ci_1 ?_
      exact pg_iret dX12_sure_53 rfl rfl
    · refine pg_iconst dX12_sure_48 ci_0 ?_
      refine pg_goto (tgt := 53) dX12_sure_49 rfl ?_
      exact pg_iret dX12_sure_53 rfl rfl
  · refine pg_iconst dX12_sure_8 ci_m1 ?_
    exact pg_iret dX12_sure_9 rfl rfl
theorem c_X12_sure (l : Launch) (D : pg_D) (a0 : Nat) (a1 : Int32) (h : pg_H) : ∀ x, F_X12_sure a0 a1 h = some x → pg_Ct l D yX12_sure cX12_sure 2 (some FieldType.int) 1308 34003 [pR a0, pI a1] h (pg_wI x) :=
  pg_Ct.of pn_RX12 (Nat.le_of_ble_eq_true rfl) (e_X12_sure l D a0 a1 h)
def F_X12_stepsOf_9 (h : pg_H) : Nat → Nat → Int32 → Int32 → Option Int32
  | 0 => fun _ _ _ => none
  | n + 1 => fun a0 a2 a3 => (if a3 = (12 : Int32) then (some a2) else Option.bind (pg_gR 12 29 h a0) fun v1 => Option.bind (pg_aI 21 h v1 a3) fun v2 => (F_X12_stepsOf_9 h n a0 (a2 + (1 : Int32)) v2))
def F_X12_stepsOf (h : pg_H) (a0 : Nat) (a1 : Int32) : Option Int32 := Option.bind (pg_gR 12 29 h a0) fun v1 => Option.bind (pg_aI 21 h v1 a1) fun v2 => (F_X12_stepsOf_9 h pg_fuel a0 (1 : Int32) v2)
theorem e_X12_stepsOf_9 (l : Launch) (D : pg_D)  (h : pg_H) : ∀ (n : Nat) (a0 : Nat) (a2 : Int32) (a3 : Int32), pg_EvF l D RX12 cX12_stepsOf 4 (some FieldType.int) "stepsOf" 0 0 (pg_oI h) (F_X12_stepsOf_9 h n a0 a2 a3) 9 [(0, pR a0), (2, pI a2), (3, pI a3)] [] h := by
  intro n
  induction n with
  | zero => intro a0 a2 a3; exact pg_none
  | succ n ih =>
    intro a0 a2 a3
    rw [F_X12_stepsOf_9]
    refine pg_iload_n (i := 3) dX12_stepsOf_9 rfl 2 rfl ?_
    refine pg_bipush dX12_stepsOf_10 cb_12 ?_
    refine pg_icmp_eq (tgt := 28) dX12_stepsOf_12 rfl ?_ ?_
    · refine pg_iload_n (i := 2) dX12_stepsOf_28 rfl 1 rfl ?_
      exact pg_iret dX12_stepsOf_29 rfl rfl
    · refine pg_iinc (lv' := [(2, pI (a2 + (1 : Int32))), (0, pR a0), (3, pI a3)]) dX12_stepsOf_15 1 rfl ci_1 (by decide) rfl ?_
      refine pg_aload_n (i := 0) dX12_stepsOf_18 rfl 1 rfl ?_
      refine pg_getR dX12_stepsOf_19 fl_RX12_67 rfl (fun v1 => ?_)
      refine pg_iload_n (i := 3) dX12_stepsOf_22 rfl 2 rfl ?_
      refine pg_iaload dX12_stepsOf_23 (fun v2 => ?_)
      refine pg_istore_n (i := 3) (lv' := [(3, pI v2), (2, pI (a2 + (1 : Int32))), (0, pR a0)]) dX12_stepsOf_24 rfl (by decide) rfl ?_
      refine pg_goto (tgt := 9) dX12_stepsOf_25 rfl ?_
      exact pg_to (ih a0 (a2 + (1 : Int32)) v2) [2, 1, 0] rfl
theorem e_X12_stepsOf (l : Launch) (D : pg_D)  (h : pg_H) (a0 : Nat) (a1 : Int32) : pg_EvF l D RX12 cX12_stepsOf 4 (some FieldType.int) "stepsOf" 0 0 (pg_oI h) (F_X12_stepsOf h a0 a1) 0 [(0, pR a0), (1, pI a1)] [] h := by
  unfold F_X12_stepsOf
  refine pg_iconst dX12_stepsOf_0 ci_1 ?_
  refine pg_istore_n (i := 2) (lv' := [(2, pI (1 : Int32)), (0, pR a0), (1, pI a1)]) dX12_stepsOf_1 rfl (by decide) rfl ?_
  refine pg_aload_n (i := 0) dX12_stepsOf_2 rfl 1 rfl ?_
  refine pg_getR dX12_stepsOf_3 fl_RX12_67 rfl (fun v1 => ?_)
  refine pg_iload_n (i := 1) dX12_stepsOf_6 rfl 2 rfl ?_
  refine pg_iaload dX12_stepsOf_7 (fun v2 => ?_)
  refine pg_istore_n (i := 3) (lv' := [(3, pI v2), (2, pI (1 : Int32)), (0, pR a0), (1, pI a1)]) dX12_stepsOf_8 rfl (by decide) rfl ?_
  exact pg_to (e_X12_stepsOf_9 l D h pg_fuel a0 (1 : Int32) v2) [2, 1, 0] rfl
theorem c_X12_stepsOf (l : Launch) (D : pg_D) (h : pg_H) (a0 : Nat) (a1 : Int32)  : ∀ x, F_X12_stepsOf h a0 a1 = some x → pg_Ct l D yX12_stepsOf cX12_stepsOf 4 (some FieldType.int) 0 0 [pR a0, pI a1] h (pg_oI h x) :=
  pg_Ct.of pn_RX12 (Nat.le_of_ble_eq_true rfl) (e_X12_stepsOf l D h a0 a1)
def F_X12_comesOf_32 (h : pg_H) (k10 : Nat → Int32 → Int32 → Int32 → Option Int32) (a0 : Nat) (a2 : Int32) (a4 : Int32) (s0 : Int32) : Option Int32 := Option.bind (pg_gR 12 29 h a0) fun v1 => Option.bind (pg_aI 21 h v1 a4) fun v2 => (k10 a0 a2 s0 v2)
def F_X12_comesOf_27 (h : pg_H) (k10 : Nat → Int32 → Int32 → Int32 → Option Int32) (a0 : Nat) (a2 : Int32) (a4 : Int32) : Option Int32 := (F_X12_comesOf_32 h k10 a0 a2 a4 (1 : Int32))
def F_X12_comesOf_10 (h : pg_H) : Nat → Nat → Int32 → Int32 → Int32 → Option Int32
  | 0 => fun _ _ _ _ => none
  | n + 1 => fun a0 a2 a3 a4 => (if a4 = (12 : Int32) then (if a3 = 0 ∨ a3 = 1 then some a3 else none) else (if a3 = 0 then (if a4 = a2 then (F_X12_comesOf_27 h (F_X12_comesOf_10 h n) a0 a2 a4) else (F_X12_comesOf_32 h (F_X12_comesOf_10 h n) a0 a2 a4 (0 : Int32))) else (F_X12_comesOf_27 h (F_X12_comesOf_10 h n) a0 a2 a4)))
def F_X12_comesOf (h : pg_H) (a0 : Nat) (a1 : Int32) (a2 : Int32) : Option Int32 := Option.bind (pg_gR 12 29 h a0) fun v1 => Option.bind (pg_aI 21 h v1 a1) fun v2 => (F_X12_comesOf_10 h pg_fuel a0 a2 (0 : Int32) v2)
theorem e_X12_comesOf_32 (l : Launch) (D : pg_D)  (h : pg_H) (k10 : Nat → Int32 → Int32 → Int32 → Option Int32) (hk10 : ∀ (a0 : Nat) (a2 : Int32) (a3 : Int32) (a4 : Int32), pg_EvF l D RX12 cX12_comesOf 5 (some FieldType.boolean) "comesOf" 0 0 (pg_oI h) (k10 a0 a2 a3 a4) 10 [(0, pR a0), (2, pI a2), (3, pI a3), (4, pI a4)] [] h) (a0 : Nat) (a2 : Int32) (a4 : Int32) (s0 : Int32) : pg_EvF l D RX12 cX12_comesOf 5 (some FieldType.boolean) "comesOf" 0 0 (pg_oI h) (F_X12_comesOf_32 h k10 a0 a2 a4 s0) 32 [(0, pR a0), (2, pI a2), (4, pI a4)] [pI s0] h := by
  unfold F_X12_comesOf_32
  refine pg_istore_n (i := 3) (lv' := [(3, pI s0), (0, pR a0), (2, pI a2), (4, pI a4)]) dX12_comesOf_32 rfl (by decide) rfl ?_
  refine pg_aload_n (i := 0) dX12_comesOf_33 rfl 1 rfl ?_
  refine pg_getR dX12_comesOf_34 fl_RX12_67 rfl (fun v1 => ?_)
  refine pg_iload dX12_comesOf_37 3 rfl ?_
  refine pg_iaload dX12_comesOf_39 (fun v2 => ?_)
  refine pg_istore (lv' := [(4, pI v2), (3, pI s0), (0, pR a0), (2, pI a2)]) dX12_comesOf_40 (by decide) rfl ?_
  refine pg_goto (tgt := 10) dX12_comesOf_42 rfl ?_
  exact pg_to (hk10 a0 a2 s0 v2) [2, 3, 1, 0] rfl
theorem e_X12_comesOf_27 (l : Launch) (D : pg_D)  (h : pg_H) (k10 : Nat → Int32 → Int32 → Int32 → Option Int32) (hk10 : ∀ (a0 : Nat) (a2 : Int32) (a3 : Int32) (a4 : Int32), pg_EvF l D RX12 cX12_comesOf 5 (some FieldType.boolean) "comesOf" 0 0 (pg_oI h) (k10 a0 a2 a3 a4) 10 [(0, pR a0), (2, pI a2), (3, pI a3), (4, pI a4)] [] h) (a0 : Nat) (a2 : Int32) (a4 : Int32) : pg_EvF l D RX12 cX12_comesOf 5 (some FieldType.boolean) "comesOf" 0 0 (pg_oI h) (F_X12_comesOf_27 h k10 a0 a2 a4) 27 [(0, pR a0), (2, pI a2), (4, pI a4)] [] h := by
  unfold F_X12_comesOf_27
  refine pg_iconst dX12_comesOf_27 ci_1 ?_
  refine pg_goto (tgt := 32) dX12_comesOf_28 rfl ?_
  exact pg_to (e_X12_comesOf_32 l D h k10 hk10 a0 a2 a4 (1 : Int32)) [0, 1, 2] rfl
theorem e_X12_comesOf_10 (l : Launch) (D : pg_D)  (h : pg_H) : ∀ (n : Nat) (a0 : Nat) (a2 : Int32) (a3 : Int32) (a4 : Int32), pg_EvF l D RX12 cX12_comesOf 5 (some FieldType.boolean) "comesOf" 0 0 (pg_oI h) (F_X12_comesOf_10 h n a0 a2 a3 a4) 10 [(0, pR a0), (2, pI a2), (3, pI a3), (4, pI a4)] [] h := by
  intro n
  induction n with
  | zero => intro a0 a2 a3 a4; exact pg_none
  | succ n ih =>
    intro a0 a2 a3 a4
    rw [F_X12_comesOf_10]
    refine pg_iload dX12_comesOf_10 3 rfl ?_
    refine pg_bipush dX12_comesOf_12 cb_12 ?_
    refine pg_icmp_eq (tgt := 45) dX12_comesOf_14 rfl ?_ ?_
    · refine pg_iload_n (i := 3) dX12_comesOf_45 rfl 2 rfl ?_
      exact pg_zretq dX12_comesOf_46 rfl rfl
    · refine pg_iload_n (i := 3) dX12_comesOf_17 rfl 2 rfl ?_
      refine pg_if_ne (tgt := 27) dX12_comesOf_18 rfl ?_ ?_
      · exact pg_to (e_X12_comesOf_27 l D h (F_X12_comesOf_10 h n) ih a0 a2 a4) [0, 1, 3] rfl
      · refine pg_iload dX12_comesOf_21 3 rfl ?_
        refine pg_iload_n (i := 2) dX12_comesOf_23 rfl 1 rfl ?_
        refine pg_icmp_ne (tgt := 31) dX12_comesOf_24 rfl ?_ ?_
        · refine pg_iconst dX12_comesOf_31 ci_0 ?_
          exact pg_to (e_X12_comesOf_32 l D h (F_X12_comesOf_10 h n) ih a0 a2 a4 (0 : Int32)) [0, 1, 3] rfl
        · exact pg_to (e_X12_comesOf_27 l D h (F_X12_comesOf_10 h n) ih a0 a2 a4) [0, 1, 3] rfl
theorem e_X12_comesOf (l : Launch) (D : pg_D)  (h : pg_H) (a0 : Nat) (a1 : Int32) (a2 : Int32) : pg_EvF l D RX12 cX12_comesOf 5 (some FieldType.boolean) "comesOf" 0 0 (pg_oI h) (F_X12_comesOf h a0 a1 a2) 0 [(0, pR a0), (1, pI a1), (2, pI a2)] [] h := by
  unfold F_X12_comesOf
  refine pg_iconst dX12_comesOf_0 ci_0 ?_
  refine pg_istore_n (i := 3) (lv' := [(3, pI (0 : Int32)), (0, pR a0), (1, pI a1), (2, pI a2)]) dX12_comesOf_1 rfl (by decide) rfl ?_
  refine pg_aload_n (i := 0) dX12_comesOf_2 rfl 1 rfl ?_
  refine pg_getR dX12_comesOf_3 fl_RX12_67 rfl (fun v1 => ?_)
  refine pg_iload_n (i := 1) dX12_comesOf_6 rfl 2 rfl ?_
  refine pg_iaload dX12_comesOf_7 (fun v2 => ?_)
  refine pg_istore (lv' := [(4, pI v2), (3, pI (0 : Int32)), (0, pR a0), (1, pI a1), (2, pI a2)]) dX12_comesOf_8 (by decide) rfl ?_
  exact pg_to (e_X12_comesOf_10 l D h pg_fuel a0 a2 (0 : Int32) v2) [2, 4, 1, 0] rfl
theorem c_X12_comesOf (l : Launch) (D : pg_D) (h : pg_H) (a0 : Nat) (a1 : Int32) (a2 : Int32)  : ∀ x, F_X12_comesOf h a0 a1 a2 = some x → pg_Ct l D yX12_comesOf cX12_comesOf 5 (some FieldType.boolean) 0 0 [pR a0, pI a1, pI a2] h (pg_oI h x) :=
  pg_Ct.of pn_RX12 (Nat.le_of_ble_eq_true rfl) (e_X12_comesOf l D h a0 a1 a2)
def F_X12_come_87 (k39 : Nat → Int32 → Int32 → Int32 → Int32 → pg_H → Option (Int32 × pg_H)) (a0 : Nat) (a1 : Int32) (a2 : Int32) (a4 : Int32) (s0 : Int32) (s1 : Int32) (h : pg_H) : Option (Int32 × pg_H) := pg_let (s1 + s0) fun v1 => (k39 a0 a1 a2 v1 (a4 + (1 : Int32)) h)
def F_X12_come_39  : Nat → Nat → Int32 → Int32 → Int32 → Int32 → pg_H → Option (Int32 × pg_H)
  | 0 => fun _ _ _ _ _ _ => none
  | n + 1 => fun a0 a1 a2 a3 a4 h => Option.bind (pg_rcv 12 h a0 (F_X12_copies h a0)) fun v1 => (if a4 < v1 then (if a2 = 0 then Option.bind (pg_rcv 12 h a0 (F_X12_comesOf h a0 a4 a1)) fun v4 => (if v4 = 0 then (F_X12_come_87 (F_X12_come_39 n) a0 a1 a2 a4 (0 : Int32) a3 h) else (F_X12_come_87 (F_X12_come_39 n) a0 a1 a2 a4 (1 : Int32) a3 h)) else Option.bind (pg_gR 12 29 h a0) fun v2 => Option.bind (pg_aI 21 h v2 a4) fun v3 => (if v3 = a1 then (F_X12_come_87 (F_X12_come_39 n) a0 a1 a2 a4 (1 : Int32) a3 h) else (F_X12_come_87 (F_X12_come_39 n) a0 a1 a2 a4 (0 : Int32) a3 h))) else (some (a3, h)))
def F_X12_come (a0 : Nat) (a1 : Int32) (a2 : Int32) (h : pg_H) : Option (Int32 × pg_H) := Option.bind (pg_rcv 12 h a0 (F_X12_isCopy h a0 a1)) fun v1 => (if v1 = 0 then (some ((-1 : Int32), h)) else Option.bind (F_X12_lies a2 (0 : Int32) (2 : Int32)) fun v2 => (if v2 = 0 then (some ((-1 : Int32), h)) else Option.bind (pg_rcv 12 h a0 (F_X12_grows a0 h)) fun v3 => (if a2 = (2 : Int32) then Option.bind (pg_rcv 12 v3 a0 (F_X12_stepsOf v3 a0 a1)) fun v4 => (some (v4, v3)) else (F_X12_come_39 pg_fuel a0 a1 a2 (0 : Int32) (0 : Int32) v3))))
theorem e_X12_come_87 (l : Launch) (D : pg_D)  (k39 : Nat → Int32 → Int32 → Int32 → Int32 → pg_H → Option (Int32 × pg_H)) (hk39 : ∀ (a0 : Nat) (a1 : Int32) (a2 : Int32) (a3 : Int32) (a4 : Int32) (h : pg_H), pg_EvF l D RX12 cX12_come 5 (some FieldType.int) "come" 1308 34003 pg_wI (k39 a0 a1 a2 a3 a4 h) 39 [(0, pR a0), (1, pI a1), (2, pI a2), (3, pI a3), (4, pI a4)] [] h) (a0 : Nat) (a1 : Int32) (a2 : Int32) (a4 : Int32) (s0 : Int32) (s1 : Int32) (h : pg_H) : pg_EvF l D RX12 cX12_come 5 (some FieldType.int) "come" 1308 34003 pg_wI (F_X12_come_87 k39 a0 a1 a2 a4 s0 s1 h) 87 [(0, pR a0), (1, pI a1), (2, pI a2), (4, pI a4)] [pI s0, pI s1] h := by
  unfold F_X12_come_87
  refine pg_iadd dX12_come_87 ?_
  refine pg_letI (fun v1 => ?_)
  refine pg_istore_n (i := 3) (lv' := [(3, pI v1), (0, pR a0), (1, pI a1), (2, pI a2), (4, pI a4)]) dX12_come_88 rfl (by decide) rfl ?_
  refine pg_iinc (lv' := [(4, pI (a4 + (1 : Int32))), (3, pI v1), (0, pR a0), (1, pI a1), (2, pI a2)]) dX12_come_89 4 rfl ci_1 (by decide) rfl ?_
  refine pg_goto (tgt := 39) dX12_come_92 rfl ?_
  exact pg_to (hk39 a0 a1 a2 v1 (a4 + (1 : Int32)) h) [2, 3, 4, 1, 0] rfl
theorem e_X12_come_39 (l : Launch) (D : pg_D)   : ∀ (n : Nat) (a0 : Nat) (a1 : Int32) (a2 : Int32) (a3 : Int32) (a4 : Int32) (h : pg_H), pg_EvF l D RX12 cX12_come 5 (some FieldType.int) "come" 1308 34003 pg_wI (F_X12_come_39 n a0 a1 a2 a3 a4 h) 39 [(0, pR a0), (1, pI a1), (2, pI a2), (3, pI a3), (4, pI a4)] [] h := by
  intro n
  induction n with
  | zero => intro a0 a1 a2 a3 a4 h; exact pg_none
  | succ n ih =>
    intro a0 a1 a2 a3 a4 h
    rw [F_X12_come_39]
    refine pg_iload dX12_come_39 4 rfl ?_
    refine pg_aload_n (i := 0) dX12_come_41 rfl 0 rfl ?_
    refine pg_callV_oI (As := []) (rs := [pI a4]) dX12_come_42 lk_RX12_124 vy_X12_copies nd_X12_copies (c_X12_copies l D h a0) rfl rfl (Nat.le_of_ble_eq_true rfl) (by decide) (by decide) (fun v1 => ?_)
    refine pg_icmp_ge (tgt := 95) dX12_come_45 rfl ?_ ?_
    · refine pg_iload_n (i := 3) dX12_come_95 rfl 3 rfl ?_
      exact pg_iret dX12_come_96 rfl rfl
    · refine pg_iload_n (i := 3) dX12_come_48 rfl 3 rfl ?_
      refine pg_iload_n (i := 2) dX12_come_49 rfl 2 rfl ?_
      refine pg_if_ne (tgt := 71) dX12_come_50 rfl ?_ ?_
      · refine pg_aload_n (i := 0) dX12_come_71 rfl 0 rfl ?_
        refine pg_getR dX12_come_72 fl_RX12_67 rfl (fun v2 => ?_)
        refine pg_iload dX12_come_75 4 rfl ?_
        refine pg_iaload dX12_come_77 (fun v3 => ?_)
        refine pg_iload_n (i := 1) dX12_come_78 rfl 1 rfl ?_
        refine pg_icmp_ne (tgt := 86) dX12_come_79 rfl ?_ ?_
        · refine pg_iconst dX12_come_86 ci_0 ?_
          exact pg_to (e_X12_come_87 l D (F_X12_come_39 n) ih a0 a1 a2 a4 (0 : Int32) a3 h) [0, 1, 2, 4] rfl
        · refine pg_iconst dX12_come_82 ci_1 ?_
          refine pg_goto (tgt := 87) dX12_come_83 rfl ?_
          exact pg_to (e_X12_come_87 l D (F_X12_come_39 n) ih a0 a1 a2 a4 (1 : Int32) a3 h) [0, 1, 2, 4] rfl
      · refine pg_aload_n (i := 0) dX12_come_53 rfl 0 rfl ?_
        refine pg_iload dX12_come_54 4 rfl ?_
        refine pg_iload_n (i := 1) dX12_come_56 rfl 1 rfl ?_
        refine pg_callV_oI (As := [pI a4, pI a1]) (rs := [pI a3]) dX12_come_57 lk_RX12_352 vy_X12_comesOf nd_X12_comesOf (c_X12_comesOf l D h a0 a4 a1) rfl rfl (Nat.le_of_ble_eq_true rfl) (by decide) (by decide) (fun v4 => ?_)
        refine pg_if_eq (tgt := 67) dX12_come_60 rfl ?_ ?_
        · refine pg_iconst dX12_come_67 ci_0 ?_
          refine pg_goto (tgt := 87) dX12_come_68 rfl ?_
          exact pg_to (e_X12_come_87 l D (F_X12_come_39 n) ih a0 a1 a2 a4 (0 : Int32) a3 h) [0, 1, 2, 4] rfl
        · refine pg_iconst dX12_come_63 ci_1 ?_
          refine pg_goto (tgt := 87) dX12_come_64 rfl ?_
          exact pg_to (e_X12_come_87 l D (F_X12_come_39 n) ih a0 a1 a2 a4 (1 : Int32) a3 h) [0, 1, 2, 4] rfl
theorem e_X12_come (l : Launch) (D : pg_D)  (a0 : Nat) (a1 : Int32) (a2 : Int32) (h : pg_H) : pg_EvF l D RX12 cX12_come 5 (some FieldType.int) "come" 1308 34003 pg_wI (F_X12_come a0 a1 a2 h) 0 [(0, pR a0), (1, pI a1), (2, pI a2)] [] h := by
  unfold F_X12_come
  refine pg_aload_n (i := 0) dX12_come_0 rfl 0 rfl ?_
  refine pg_iload_n (i := 1) dX12_come_1 rfl 1 rfl ?_
  refine pg_callV_oI (As := [pI a1]) (rs := []) dX12_come_2 lk_RX12_128 vy_X12_isCopy nd_X12_isCopy (c_X12_isCopy l D h a0 a1) rfl rfl (Nat.le_of_ble_eq_true rfl) (by decide) (by decide) (fun v1 => ?_)
  refine pg_if_eq (tgt := 17) dX12_come_5 rfl ?_ ?_
  · refine pg_iconst dX12_come_17 ci_m1 ?_
    exact pg_iret dX12_come_18 rfl rfl
  · refine pg_iload_n (i := 2) dX12_come_8 rfl 2 rfl ?_
    refine pg_iconst dX12_come_9 ci_0 ?_
    refine pg_iconst dX12_come_10 ci_2 ?_
    refine pg_callS_oI (As := [pI a2, pI (0 : Int32), pI (2 : Int32)]) (rs := []) dX12_come_11 lk_RX12_113 vy_X12_lies nd_X12_lies (c_X12_lies l D a2 (0 : Int32) (2 : Int32) h) rfl rfl (Nat.le_of_ble_eq_true rfl) (by decide) (by decide) (fun v2 => ?_)
    refine pg_if_ne (tgt := 19) dX12_come_14 rfl ?_ ?_
    · refine pg_aload_n (i := 0) dX12_come_19 rfl 0 rfl ?_
      refine pg_callV_wV (As := []) (rs := []) dX12_come_20 lk_RX12_346 vy_X12_grows nd_X12_grows (c_X12_grows l D a0 h) rfl rfl (Nat.le_of_ble_eq_true rfl) (by decide) (by decide) (fun v3 => ?_)
      refine pg_iload_n (i := 2) dX12_come_23 rfl 2 rfl ?_
      refine pg_iconst dX12_come_24 ci_2 ?_
      refine pg_icmp_ne (tgt := 34) dX12_come_25 rfl ?_ ?_
      · refine pg_iconst dX12_come_34 ci_0 ?_
        refine pg_istore_n (i := 3) (lv' := [(3, pI (0 : Int32)), (0, pR a0), (1, pI a1), (2, pI a2)]) dX12_come_35 rfl (by decide) rfl ?_
        refine pg_iconst dX12_come_36 ci_0 ?_
        refine pg_istore (lv' := [(4, pI (0 : Int32)), (3, pI (0 : Int32)), (0, pR a0), (1, pI a1), (2, pI a2)]) dX12_come_37 (by decide) rfl ?_
        exact pg_to (e_X12_come_39 l D pg_fuel a0 a1 a2 (0 : Int32) (0 : Int32) v3) [2, 3, 4, 1, 0] rfl
      · refine pg_aload_n (i := 0) dX12_come_28 rfl 0 rfl ?_
        refine pg_iload_n (i := 1) dX12_come_29 rfl 1 rfl ?_
        refine pg_callV_oI (As := [pI a1]) (rs := []) dX12_come_30 lk_RX12_349 vy_X12_stepsOf nd_X12_stepsOf (c_X12_stepsOf l D v3 a0 a1) rfl rfl (Nat.le_of_ble_eq_true rfl) (by decide) (by decide) (fun v4 => ?_)
        exact pg_iret dX12_come_33 rfl rfl
    · refine pg_iconst dX12_come_17 ci_m1 ?_
      exact pg_iret dX12_come_18 rfl rfl
theorem c_X12_come (l : Launch) (D : pg_D) (a0 : Nat) (a1 : Int32) (a2 : Int32) (h : pg_H) : ∀ x, F_X12_come a0 a1 a2 h = some x → pg_Ct l D yX12_come cX12_come 5 (some FieldType.int) 1308 34003 [pR a0, pI a1, pI a2] h (pg_wI x) :=
  pg_Ct.of pn_RX12 (Nat.le_of_ble_eq_true rfl) (e_X12_come l D a0 a1 a2 h)
def F_X12_net_125 (k53 : Nat → Int32 → Int32 → Int32 → Int32 → Int32 → Int32 → Int32 → pg_H → Option (Int32 × pg_H)) (a0 : Nat) (a1 : Int32) (a2 : Int32) (a3 : Int32) (a4 : Int32) (a5 : Int32) (a6 : Int32) (a7 : Int32) (h : pg_H) : Option (Int32 × pg_H) := (k53 a0 a1 a2 a3 a4 a5 a6 (a7 + (1 : Int32)) h)
def F_X12_net_53 (k38 : Nat → Int32 → Int32 → Int32 → Int32 → Int32 → Int32 → pg_H → Option (Int32 × pg_H)) : Nat → Nat → Int32 → Int32 → Int32 → Int32 → Int32 → Int32 → Int32 → pg_H → Option (Int32 × pg_H)
  | 0 => fun _ _ _ _ _ _ _ _ _ => none
  | n + 1 => fun a0 a1 a2 a3 a4 a5 a6 a7 h => Option.bind (pg_rcv 12 h a0 (F_X12_copies h a0)) fun v1 => (if a7 < v1 then Option.bind (pg_gR 12 27 h a0) fun v2 => Option.bind (pg_aI 21 h v2 a1) fun v3 => (if ((v3 >>> (a6 &&& 31)) &&& (1 : Int32)) = 0 then (F_X12_net_125 (F_X12_net_53 k38 n) a0 a1 a2 a3 a4 a5 a6 a7 h) else Option.bind (pg_gR 12 27 h a0) fun v4 => Option.bind (pg_aI 21 h v4 a1) fun v5 => (if ((v5 >>> (a7 &&& 31)) &&& (1 : Int32)) = 0 then (F_X12_net_125 (F_X12_net_53 k38 n) a0 a1 a2 a3 a4 a5 a6 a7 h) else Option.bind (pg_rcv 12 h a0 (F_X12_costFrom h a0 a6 a7 a1)) fun v6 => (if v6 < a5 then (F_X12_net_125 (F_X12_net_53 k38 n) a0 a1 a2 a6 a7 v6 a6 a7 h) else (F_X12_net_125 (F_X12_net_53 k38 n) a0 a1 a2 a3 a4 a5 a6 a7 h)))) else (k38 a0 a1 a2 a3 a4 a5 (a6 + (1 : Int32)) h))
def F_X12_net_38  : Nat → Nat → Int32 → Int32 → Int32 → Int32 → Int32 → Int32 → pg_H → Option (Int32 × pg_H)
  | 0 => fun _ _ _ _ _ _ _ _ => none
  | n + 1 => fun a0 a1 a2 a3 a4 a5 a6 h => Option.bind (pg_rcv 12 h a0 (F_X12_copies h a0)) fun v1 => (if a6 < v1 then pg_let (a6 + (1 : Int32)) fun v3 => (F_X12_net_53 (F_X12_net_38 n) pg_fuel a0 a1 a2 a3 a4 a5 a6 v3 h) else (if a3 = (-1 : Int32) then (some ((-1000000 : Int32), h)) else (if a2 = 0 then (some (a3, h)) else (if a2 = (1 : Int32) then (some (a4, h)) else (if a2 = (2 : Int32) then (some (a5, h)) else Option.bind (pg_rcv 12 h a0 (F_X12_cheapestOf h a0 a1 (4095 : Int32))) fun v2 => (some ((v2 - a5), h)))))))
def F_X12_net (a0 : Nat) (a1 : Int32) (a2 : Int32) (h : pg_H) : Option (Int32 × pg_H) := Option.bind (pg_rcv 12 h a0 (F_X12_isCopy h a0 a1)) fun v1 => (if v1 = 0 then (some ((-1000000 : Int32), h)) else Option.bind (F_X12_lies a2 (0 : Int32) (3 : Int32)) fun v2 => (if v2 = 0 then (some ((-1000000 : Int32), h)) else Option.bind (pg_rcv 12 h a0 (F_X12_laysCosts a0 h)) fun v3 => (F_X12_net_38 pg_fuel a0 a1 a2 (-1 : Int32) (-1 : Int32) (1000000000 : Int32) (0 : Int32) v3)))
theorem e_X12_net_125 (l : Launch) (D : pg_D)  (k53 : Nat → Int32 → Int32 → Int32 → Int32 → Int32 → Int32 → Int32 → pg_H → Option (Int32 × pg_H)) (hk53 : ∀ (a0 : Nat) (a1 : Int32) (a2 : Int32) (a3 : Int32) (a4 : Int32) (a5 : Int32) (a6 : Int32) (a7 : Int32) (h : pg_H), pg_EvF l D RX12 cX12_net 9 (some FieldType.int) "net" 1307 33978 pg_wI (k53 a0 a1 a2 a3 a4 a5 a6 a7 h) 53 [(0, pR a0), (1, pI a1), (2, pI a2), (3, pI a3), (4, pI a4), (5, pI a5), (6, pI a6), (7, pI a7)] [] h) (a0 : Nat) (a1 : Int32) (a2 : Int32) (a3 : Int32) (a4 : Int32) (a5 : Int32) (a6 : Int32) (a7 : Int32) (h : pg_H) : pg_EvF l D RX12 cX12_net 9 (some FieldType.int) "net" 1307 33978 pg_wI (F_X12_net_125 k53 a0 a1 a2 a3 a4 a5 a6 a7 h) 125 [(0, pR a0), (1, pI a1), (2, pI a2), (3, pI a3), (4, pI a4), (5, pI a5), (6, pI a6), (7, pI a7)] [] h := by
  unfold F_X12_net_125
  refine pg_iinc (lv' := [(7, pI (a7 + (1 : Int32))), (0, pR a0), (1, pI a1), (2, pI a2), (3, pI a3), (4, pI a4), (5, pI a5), (6, pI a6)]) dX12_net_125 7 rfl ci_1 (by decide) rfl ?_
  refine pg_goto (tgt := 53) dX12_net_128 rfl ?_
  exact pg_to (hk53 a0 a1 a2 a3 a4 a5 a6 (a7 + (1 : Int32)) h) [1, 2, 3, 4, 5, 6, 7, 0] rfl
theorem e_X12_net_53 (l : Launch) (D : pg_D)  (k38 : Nat → Int32 → Int32 → Int32 → Int32 → Int32 → Int32 → pg_H → Option (Int32 × pg_H)) (hk38 : ∀ (a0 : Nat) (a1 : Int32) (a2 : Int32) (a3 : Int32) (a4 : Int32) (a5 : Int32) (a6 : Int32) (h : pg_H), pg_EvF l D RX12 cX12_net 9 (some FieldType.int) "net" 1307 33978 pg_wI (k38 a0 a1 a2 a3 a4 a5 a6 h) 38 [(0, pR a0), (1, pI a1), (2, pI a2), (3, pI a3), (4, pI a4), (5, pI a5), (6, pI a6)] [] h) : ∀ (n : Nat) (a0 : Nat) (a1 : Int32) (a2 : Int32) (a3 : Int32) (a4 : Int32) (a5 : Int32) (a6 : Int32) (a7 : Int32) (h : pg_H), pg_EvF l D RX12 cX12_net 9 (some FieldType.int) "net" 1307 33978 pg_wI (F_X12_net_53 k38 n a0 a1 a2 a3 a4 a5 a6 a7 h) 53 [(0, pR a0), (1, pI a1), (2, pI a2), (3, pI a3), (4, pI a4), (5, pI a5), (6, pI a6), (7, pI a7)] [] h := by
  intro n
  induction n with
  | zero => intro a0 a1 a2 a3 a4 a5 a6 a7 h; exact pg_none
  | succ n ih =>
    intro a0 a1 a2 a3 a4 a5 a6 a7 h
    rw [F_X12_net_53]
    refine pg_iload dX12_net_53 7 rfl ?_
    refine pg_aload_n (i := 0) dX12_net_55 rfl 0 rfl ?_
    refine pg_callV_oI (As := []) (rs := [pI a7]) dX12_net_56 lk_RX12_124 vy_X12_copies nd_X12_copies (c_X12_copies l D h a0) rfl rfl (Nat.le_of_ble_eq_true rfl) (by decide) (by decide) (fun v1 => ?_)
    refine pg_icmp_ge (tgt := 131) dX12_net_59 rfl ?_ ?_
    · refine pg_iinc (lv' := [(6, pI (a6 + (1 : Int32))), (0, pR a0), (1, pI a1), (2, pI a2), (3, pI a3), (4, pI a4), (5, pI a5), (7, pI a7)]) dX12_net_131 6 rfl ci_1 (by decide) rfl ?_
      refine pg_goto (tgt := 38) dX12_net_134 rfl ?_
      exact pg_to (hk38 a0 a1 a2 a3 a4 a5 (a6 + (1 : Int32)) h) [1, 2, 3, 4, 5, 6, 0] rfl
    · refine pg_aload_n (i := 0) dX12_net_62 rfl 0 rfl ?_
      refine pg_getR dX12_net_63 fl_RX12_61 rfl (fun v2 => ?_)
      refine pg_iload_n (i := 1) dX12_net_66 rfl 1 rfl ?_
      refine pg_iaload dX12_net_67 (fun v3 => ?_)
      refine pg_iload dX12_net_68 6 rfl ?_
      refine pg_ishr dX12_net_70 ?_
      refine pg_iconst dX12_net_71 ci_1 ?_
      refine pg_iand dX12_net_72 ?_
      refine pg_if_eq (tgt := 125) dX12_net_73 rfl ?_ ?_
      · exact pg_to (e_X12_net_125 l D (F_X12_net_53 k38 n) ih a0 a1 a2 a3 a4 a5 a6 a7 h) [0, 1, 2, 3, 4, 5, 6, 7] rfl
      · refine pg_aload_n (i := 0) dX12_net_76 rfl 0 rfl ?_
        refine pg_getR dX12_net_77 fl_RX12_61 rfl (fun v4 => ?_)
        refine pg_iload_n (i := 1) dX12_net_80 rfl 1 rfl ?_
        refine pg_iaload dX12_net_81 (fun v5 => ?_)
        refine pg_iload dX12_net_82 7 rfl ?_
        refine pg_ishr dX12_net_84 ?_
        refine pg_iconst dX12_net_85 ci_1 ?_
        refine pg_iand dX12_net_86 ?_
        refine pg_if_ne (tgt := 93) dX12_net_87 rfl ?_ ?_
        · refine pg_aload_n (i := 0) dX12_net_93 rfl 0 rfl ?_
          refine pg_iload dX12_net_94 6 rfl ?_
          refine pg_iload dX12_net_96 7 rfl ?_
          refine pg_iload_n (i := 1) dX12_net_98 rfl 1 rfl ?_
          refine pg_callV_oI (As := [pI a6, pI a7, pI a1]) (rs := []) dX12_net_99 lk_RX12_329 vy_X12_costFrom nd_X12_costFrom (c_X12_costFrom l D h a0 a6 a7 a1) rfl rfl (Nat.le_of_ble_eq_true rfl) (by decide) (by decide) (fun v6 => ?_)
          refine pg_istore (lv' := [(8, pI v6), (0, pR a0), (1, pI a1), (2, pI a2), (3, pI a3), (4, pI a4), (5, pI a5), (6, pI a6), (7, pI a7)]) dX12_net_102 (by decide) rfl ?_
          refine pg_iload dX12_net_104 0 rfl ?_
          refine pg_iload dX12_net_106 6 rfl ?_
          refine pg_icmp_lt (tgt := 114) dX12_net_108 rfl ?_ ?_
          · refine pg_iload dX12_net_114 7 rfl ?_
            refine pg_istore_n (i := 3) (lv' := [(3, pI a6), (8, pI v6), (0, pR a0), (1, pI a1), (2, pI a2), (4, pI a4), (5, pI a5), (6, pI a6), (7, pI a7)]) dX12_net_116 rfl (by decide) rfl ?_
            refine pg_iload dX12_net_117 8 rfl ?_
            refine pg_istore (lv' := [(4, pI a7), (3, pI a6), (8, pI v6), (0, pR a0), (1, pI a1), (2, pI a2), (5, pI a5), (6, pI a6), (7, pI a7)]) dX12_net_119 (by decide) rfl ?_
            refine pg_iload dX12_net_121 2 rfl ?_
            refine pg_istore (lv' := [(5, pI v6), (4, pI a7), (3, pI a6), (8, pI v6), (0, pR a0), (1, pI a1), (2, pI a2), (6, pI a6), (7, pI a7)]) dX12_net_123 (by decide) rfl ?_
            exact pg_to (e_X12_net_125 l D (F_X12_net_53 k38 n) ih a0 a1 a2 a6 a7 v6 a6 a7 h) [4, 5, 6, 2, 1, 0, 7, 8] rfl
          · refine pg_goto (tgt := 125) dX12_net_111 rfl ?_
            exact pg_to (e_X12_net_125 l D (F_X12_net_53 k38 n) ih a0 a1 a2 a3 a4 a5 a6 a7 h) [1, 2, 3, 4, 5, 6, 7, 8] rfl
        · refine pg_goto (tgt := 125) dX12_net_90 rfl ?_
          exact pg_to (e_X12_net_125 l D (F_X12_net_53 k38 n) ih a0 a1 a2 a3 a4 a5 a6 a7 h) [0, 1, 2, 3, 4, 5, 6, 7] rfl
theorem e_X12_net_38 (l : Launch) (D : pg_D)   : ∀ (n : Nat) (a0 : Nat) (a1 : Int32) (a2 : Int32) (a3 : Int32) (a4 : Int32) (a5 : Int32) (a6 : Int32) (h : pg_H), pg_EvF l D RX12 cX12_net 9 (some FieldType.int) "net" 1307 33978 pg_wI (F_X12_net_38 n a0 a1 a2 a3 a4 a5 a6 h) 38 [(0, pR a0), (1, pI a1), (2, pI a2), (3, pI a3), (4, pI a4), (5, pI a5), (6, pI a6)] [] h := by
  intro n
  induction n with
  | zero => intro a0 a1 a2 a3 a4 a5 a6 h; exact pg_none
  | succ n ih =>
    intro a0 a1 a2 a3 a4 a5 a6 h
    rw [F_X12_net_38]
    refine pg_iload dX12_net_38 6 rfl ?_
    refine pg_aload_n (i := 0) dX12_net_40 rfl 0 rfl ?_
    refine pg_callV_oI (As := []) (rs := [pI a6]) dX12_net_41 lk_RX12_124 vy_X12_copies nd_X12_copies (c_X12_copies l D h a0) rfl rfl (Nat.le_of_ble_eq_true rfl) (by decide) (by decide) (fun v1 => ?_)
    refine pg_icmp_ge (tgt := 137) dX12_net_44 rfl ?_ ?_
    · refine pg_iload_n (i := 3) dX12_net_137 rfl 3 rfl ?_
      refine pg_iconst dX12_net_138 ci_m1 ?_
      refine pg_icmp_ne (tgt := 146) dX12_net_139 rfl ?_ ?_
      · refine pg_iload_n (i := 2) dX12_net_146 rfl 2 rfl ?_
        refine pg_if_ne (tgt := 154) dX12_net_147 rfl ?_ ?_
        · refine pg_iload_n (i := 2) dX12_net_154 rfl 2 rfl ?_
          refine pg_iconst dX12_net_155 ci_1 ?_
          refine pg_icmp_ne (tgt := 164) dX12_net_156 rfl ?_ ?_
          · refine pg_iload_n (i := 2) dX12_net_164 rfl 2 rfl ?_
            refine pg_iconst dX12_net_165 ci_2 ?_
            refine pg_icmp_ne (tgt := 174) dX12_net_166 rfl ?_ ?_
            · refine pg_aload_n (i := 0) dX12_net_174 rfl 0 rfl ?_
              refine pg_iload_n (i := 1) dX12_net_175 rfl 1 rfl ?_
              refine pg_sipush dX12_net_176 cs_4095 ?_
              refine pg_callV_oI (As := [pI a1, pI (4095 : Int32)]) (rs := []) dX12_net_179 lk_RX12_334 vy_X12_cheapestOf nd_X12_cheapestOf (c_X12_cheapestOf l D h a0 a1 (4095 : Int32)) rfl rfl (Nat.le_of_ble_eq_true rfl) (by decide) (by decide) (fun v2 => ?_)
              refine pg_iload dX12_net_182 5 rfl ?_
              refine pg_isub dX12_net_184 ?_
              exact pg_iret dX12_net_185 rfl rfl
            · refine pg_iload dX12_net_169 5 rfl ?_
              refine pg_goto (tgt := 185) dX12_net_171 rfl ?_
              exact pg_iret dX12_net_185 rfl rfl
          · refine pg_iload dX12_net_159 4 rfl ?_
            refine pg_goto (tgt := 185) dX12_net_161 rfl ?_
            exact pg_iret dX12_net_185 rfl rfl
        · refine pg_iload_n (i := 3) dX12_net_150 rfl 3 rfl ?_
          refine pg_goto (tgt := 185) dX12_net_151 rfl ?_
          exact pg_iret dX12_net_185 rfl rfl
      · refine pg_ldcw (v := (-1000000 : Int32)) dX12_net_142 kc_RX12_355 ?_
        exact pg_iret dX12_net_145 rfl rfl
    · refine pg_iload dX12_net_47 6 rfl ?_
      refine pg_iconst dX12_net_49 ci_1 ?_
      refine pg_iadd dX12_net_50 ?_
      refine pg_letI (fun v3 => ?_)
      refine pg_istore (lv' := [(7, pI v3), (0, pR a0), (1, pI a1), (2, pI a2), (3, pI a3), (4, pI a4), (5, pI a5), (6, pI a6)]) dX12_net_51 (by decide) rfl ?_
      exact pg_to (e_X12_net_53 l D (F_X12_net_38 n) ih pg_fuel a0 a1 a2 a3 a4 a5 a6 v3 h) [1, 2, 3, 4, 5, 6, 7, 0] rfl
theorem e_X12_net (l : Launch) (D : pg_D)  (a0 : Nat) (a1 : Int32) (a2 : Int32) (h : pg_H) : pg_EvF l D RX12 cX12_net 9 (some FieldType.int) "net" 1307 33978 pg_wI (F_X12_net a0 a1 a2 h) 0 [(0, pR a0), (1, pI a1), (2, pI a2)] [] h := by
  unfold F_X12_net
  refine pg_aload_n (i := 0) dX12_net_0 rfl 0 rfl ?_
  refine pg_iload_n (i := 1) dX12_net_1 rfl 1 rfl ?_
  refine pg_callV_oI (As := [pI a1]) (rs := []) dX12_net_2 lk_RX12_128 vy_X12_isCopy nd_X12_isCopy (c_X12_isCopy l D h a0 a1) rfl rfl (Nat.le_of_ble_eq_true rfl) (by decide) (by decide) (fun v1 => ?_)
  refine pg_if_eq (tgt := 17) dX12_net_5 rfl ?_ ?_
  · refine pg_ldcw (v := (-1000000 : Int32)) dX12_net_17 kc_RX12_355 ?_
    exact pg_iret dX12_net_20 rfl rfl
  · refine pg_iload_n (i := 2) dX12_net_8 rfl 2 rfl ?_
    refine pg_iconst dX12_net_9 ci_0 ?_
    refine pg_iconst dX12_net_10 ci_3 ?_
    refine pg_callS_oI (As := [pI a2, pI (0 : Int32), pI (3 : Int32)]) (rs := []) dX12_net_11 lk_RX12_113 vy_X12_lies nd_X12_lies (c_X12_lies l D a2 (0 : Int32) (3 : Int32) h) rfl rfl (Nat.le_of_ble_eq_true rfl) (by decide) (by decide) (fun v2 => ?_)
    refine pg_if_ne (tgt := 21) dX12_net_14 rfl ?_ ?_
    · refine pg_aload_n (i := 0) dX12_net_21 rfl 0 rfl ?_
      refine pg_callV_wV (As := []) (rs := []) dX12_net_22 lk_RX12_337 vy_X12_laysCosts nd_X12_laysCosts (c_X12_laysCosts l D a0 h) rfl rfl (Nat.le_of_ble_eq_true rfl) (by decide) (by decide) (fun v3 => ?_)
      refine pg_iconst dX12_net_25 ci_m1 ?_
      refine pg_istore_n (i := 3) (lv' := [(3, pI (-1 : Int32)), (0, pR a0), (1, pI a1), (2, pI a2)]) dX12_net_26 rfl (by decide) rfl ?_
      refine pg_iconst dX12_net_27 ci_m1 ?_
      refine pg_istore (lv' := [(4, pI (-1 : Int32)), (3, pI (-1 : Int32)), (0, pR a0), (1, pI a1), (2, pI a2)]) dX12_net_28 (by decide) rfl ?_
      refine pg_ldcw (v := (1000000000 : Int32)) dX12_net_30 kc_RX12_333 ?_
      refine pg_istore (lv' := [(5, pI (1000000000 : Int32)), (4, pI (-1 : Int32)), (3, pI (-1 : Int32)), (0, pR a0), (1, pI a1), (2, pI a2)]) dX12_net_33 (by decide) rfl ?_
      refine pg_iconst dX12_net_35 ci_0 ?_
      refine pg_istore (lv' := [(6, pI (0 : Int32)), (5, pI (1000000000 : Int32)), (4, pI (-1 : Int32)), (3, pI (-1 : Int32)), (0, pR a0), (1, pI a1), (2, pI a2)]) dX12_net_36 (by decide) rfl ?_
      exact pg_to (e_X12_net_38 l D pg_fuel a0 a1 a2 (-1 : Int32) (-1 : Int32) (1000000000 : Int32) (0 : Int32) v3) [4, 5, 6, 3, 2, 1, 0] rfl
    · refine pg_ldcw (v := (-1000000 : Int32)) dX12_net_17 kc_RX12_355 ?_
      exact pg_iret dX12_net_20 rfl rfl
theorem c_X12_net (l : Launch) (D : pg_D) (a0 : Nat) (a1 : Int32) (a2 : Int32) (h : pg_H) : ∀ x, F_X12_net a0 a1 a2 h = some x → pg_Ct l D yX12_net cX12_net 9 (some FieldType.int) 1307 33978 [pR a0, pI a1, pI a2] h (pg_wI x) :=
  pg_Ct.of pn_RX12 (Nat.le_of_ble_eq_true rfl) (e_X12_net l D a0 a1 a2 h)
def F_X12_agreeOf_71 (h : pg_H) (k5 : Nat → Int32 → Int32 → Int32 → Int32 → Option Int32) (a0 : Nat) (a1 : Int32) (a2 : Int32) (a3 : Int32) (a4 : Int32) : Option Int32 := (k5 a0 a1 a2 a3 (a4 + (1 : Int32)))
def F_X12_agreeOf_5 (h : pg_H) : Nat → Nat → Int32 → Int32 → Int32 → Int32 → Option Int32
  | 0 => fun _ _ _ _ _ => none
  | n + 1 => fun a0 a1 a2 a3 a4 => Option.bind (pg_gR 12 3 h a0) fun v1 => Option.bind (pg_aI 21 h v1 (1347 : Int32)) fun v2 => (if a4 < v2 then Option.bind (pg_rcv 12 h a0 (F_X12_noteOf h a0 a4 (0 : Int32))) fun v3 => (if v3 = a1 then Option.bind (pg_rcv 12 h a0 (F_X12_noteOf h a0 a4 (4 : Int32))) fun v4 => (if v4 = 0 then Option.bind (pg_rcv 12 h a0 (F_X12_noteOf h a0 a4 (1 : Int32))) fun v5 => Option.bind (pg_rcv 12 h a0 (F_X12_noteOf h a0 a4 (2 : Int32))) fun v6 => Option.bind (pg_rcv 12 h a0 (F_X12_has h a0 a2 v5 v6)) fun v7 => (if v7 = 0 then (F_X12_agreeOf_71 h (F_X12_agreeOf_5 h n) a0 a1 a2 a3 a4) else Option.bind (pg_gR 12 25 h a0) fun v8 => Option.bind (pg_aI 21 h v8 a4) fun v9 => pg_let (a3 + v9) fun v10 => (F_X12_agreeOf_71 h (F_X12_agreeOf_5 h n) a0 a1 a2 v10 a4)) else (F_X12_agreeOf_71 h (F_X12_agreeOf_5 h n) a0 a1 a2 a3 a4)) else (F_X12_agreeOf_71 h (F_X12_agreeOf_5 h n) a0 a1 a2 a3 a4)) else (some a3))
def F_X12_agreeOf (h : pg_H) (a0 : Nat) (a1 : Int32) (a2 : Int32) : Option Int32 := (F_X12_agreeOf_5 h pg_fuel a0 a1 a2 (0 : Int32) (0 : Int32))
theorem e_X12_agreeOf_71 (l : Launch) (D : pg_D)  (h : pg_H) (k5 : Nat → Int32 → Int32 → Int32 → Int32 → Option Int32) (hk5 : ∀ (a0 : Nat) (a1 : Int32) (a2 : Int32) (a3 : Int32) (a4 : Int32), pg_EvF l D RX12 cX12_agreeOf 5 (some FieldType.int) "agreeOf" 2 46 (pg_oI h) (k5 a0 a1 a2 a3 a4) 5 [(0, pR a0), (1, pI a1), (2, pI a2), (3, pI a3), (4, pI a4)] [] h) (a0 : Nat) (a1 : Int32) (a2 : Int32) (a3 : Int32) (a4 : Int32) : pg_EvF l D RX12 cX12_agreeOf 5 (some FieldType.int) "agreeOf" 2 46 (pg_oI h) (F_X12_agreeOf_71 h k5 a0 a1 a2 a3 a4) 71 [(0, pR a0), (1, pI a1), (2, pI a2), (3, pI a3), (4, pI a4)] [] h := by
  unfold F_X12_agreeOf_71
  refine pg_iinc (lv' := [(4, pI (a4 + (1 : Int32))), (0, pR a0), (1, pI a1), (2, pI a2), (3, pI a3)]) dX12_agreeOf_71 4 rfl ci_1 (by decide) rfl ?_
  refine pg_goto (tgt := 5) dX12_agreeOf_74 rfl ?_
  exact pg_to (hk5 a0 a1 a2 a3 (a4 + (1 : Int32))) [1, 2, 3, 4, 0] rfl
theorem e_X12_agreeOf_5 (l : Launch) (D : pg_D)  (h : pg_H) : ∀ (n : Nat) (a0 : Nat) (a1 : Int32) (a2 : Int32) (a3 : Int32) (a4 : Int32), pg_EvF l D RX12 cX12_agreeOf 5 (some FieldType.int) "agreeOf" 2 46 (pg_oI h) (F_X12_agreeOf_5 h n a0 a1 a2 a3 a4) 5 [(0, pR a0), (1, pI a1), (2, pI a2), (3, pI a3), (4, pI a4)] [] h := by
  intro n
  induction n with
  | zero => intro a0 a1 a2 a3 a4; exact pg_none
  | succ n ih =>
    intro a0 a1 a2 a3 a4
    rw [F_X12_agreeOf_5]
    refine pg_iload dX12_agreeOf_5 4 rfl ?_
    refine pg_aload_n (i := 0) dX12_agreeOf_7 rfl 0 rfl ?_
    refine pg_getR dX12_agreeOf_8 fl_RX12_20 rfl (fun v1 => ?_)
    refine pg_sipush dX12_agreeOf_11 cs_1347 ?_
    refine pg_iaload dX12_agreeOf_14 (fun v2 => ?_)
    refine pg_icmp_ge (tgt := 77) dX12_agreeOf_15 rfl ?_ ?_
    · refine pg_iload_n (i := 3) dX12_agreeOf_77 rfl 3 rfl ?_
      exact pg_iret dX12_agreeOf_78 rfl rfl
    · refine pg_aload_n (i := 0) dX12_agreeOf_18 rfl 0 rfl ?_
      refine pg_iload dX12_agreeOf_19 4 rfl ?_
      refine pg_iconst dX12_agreeOf_21 ci_0 ?_
      refine pg_callV_oI (As := [pI a4, pI (0 : Int32)]) (rs := []) dX12_agreeOf_22 lk_RX12_143 vy_X12_noteOf nd_X12_noteOf (c_X12_noteOf l D h a0 a4 (0 : Int32)) rfl rfl (Nat.le_of_ble_eq_true rfl) (by decide) (by decide) (fun v3 => ?_)
      refine pg_iload_n (i := 1) dX12_agreeOf_25 rfl 1 rfl ?_
      refine pg_icmp_ne (tgt := 71) dX12_agreeOf_26 rfl ?_ ?_
      · exact pg_to (e_X12_agreeOf_71 l D h (F_X12_agreeOf_5 h n) ih a0 a1 a2 a3 a4) [0, 1, 2, 3, 4] rfl
      · refine pg_aload_n (i := 0) dX12_agreeOf_29 rfl 0 rfl ?_
        refine pg_iload dX12_agreeOf_30 4 rfl ?_
        refine pg_iconst dX12_agreeOf_32 ci_4 ?_
        refine pg_callV_oI (As := [pI a4, pI (4 : Int32)]) (rs := []) dX12_agreeOf_33 lk_RX12_143 vy_X12_noteOf nd_X12_noteOf (c_X12_noteOf l D h a0 a4 (4 : Int32)) rfl rfl (Nat.le_of_ble_eq_true rfl) (by decide) (by decide) (fun v4 => ?_)
        refine pg_if_ne (tgt := 71) dX12_agreeOf_36 rfl ?_ ?_
        · exact pg_to (e_X12_agreeOf_71 l D h (F_X12_agreeOf_5 h n) ih a0 a1 a2 a3 a4) [0, 1, 2, 3, 4] rfl
        · refine pg_aload_n (i := 0) dX12_agreeOf_39 rfl 0 rfl ?_
          refine pg_iload_n (i := 2) dX12_agreeOf_40 rfl 2 rfl ?_
          refine pg_aload_n (i := 0) dX12_agreeOf_41 rfl 0 rfl ?_
          refine pg_iload dX12_agreeOf_42 4 rfl ?_
          refine pg_iconst dX12_agreeOf_44 ci_1 ?_
          refine pg_callV_oI (As := [pI a4, pI (1 : Int32)]) (rs := [pI a2, pR a0]) dX12_agreeOf_45 lk_RX12_143 vy_X12_noteOf nd_X12_noteOf (c_X12_noteOf l D h a0 a4 (1 : Int32)) rfl rfl (Nat.le_of_ble_eq_true rfl) (by decide) (by decide) (fun v5 => ?_)
          refine pg_aload_n (i := 0) dX12_agreeOf_48 rfl 0 rfl ?_
          refine pg_iload dX12_agreeOf_49 4 rfl ?_
          refine pg_iconst dX12_agreeOf_51 ci_2 ?_
          refine pg_callV_oI (As := [pI a4, pI (2 : Int32)]) (rs := [pI v5, pI a2, pR a0]) dX12_agreeOf_52 lk_RX12_143 vy_X12_noteOf nd_X12_noteOf (c_X12_noteOf l D h a0 a4 (2 : Int32)) rfl rfl (Nat.le_of_ble_eq_true rfl) (by decide) (by decide) (fun v6 => ?_)
          refine pg_callV_oI (As := [pI a2, pI v5, pI v6]) (rs := []) dX12_agreeOf_55 lk_RX12_146 vy_X12_has nd_X12_has (c_X12_has l D h a0 a2 v5 v6) rfl rfl (Nat.le_of_ble_eq_true rfl) (by decide) (by decide) (fun v7 => ?_)
          refine pg_if_eq (tgt := 71) dX12_agreeOf_58 rfl ?_ ?_
          · exact pg_to (e_X12_agreeOf_71 l D h (F_X12_agreeOf_5 h n) ih a0 a1 a2 a3 a4) [0, 1, 2, 3, 4] rfl
          · refine pg_iload_n (i := 3) dX12_agreeOf_61 rfl 3 rfl ?_
            refine pg_aload_n (i := 0) dX12_agreeOf_62 rfl 0 rfl ?_
            refine pg_getR dX12_agreeOf_63 fl_RX12_55 rfl (fun v8 => ?_)
            refine pg_iload dX12_agreeOf_66 4 rfl ?_
            refine pg_iaload dX12_agreeOf_68 (fun v9 => ?_)
            refine pg_iadd dX12_agreeOf_69 ?_
            refine pg_letI (fun v10 => ?_)
            refine pg_istore_n (i := 3) (lv' := [(3, pI v10), (0, pR a0), (1, pI a1), (2, pI a2), (4, pI a4)]) dX12_agreeOf_70 rfl (by decide) rfl ?_
            exact pg_to (e_X12_agreeOf_71 l D h (F_X12_agreeOf_5 h n) ih a0 a1 a2 v10 a4) [1, 2, 3, 0, 4] rfl
theorem e_X12_agreeOf (l : Launch) (D : pg_D)  (h : pg_H) (a0 : Nat) (a1 : Int32) (a2 : Int32) : pg_EvF l D RX12 cX12_agreeOf 5 (some FieldType.int) "agreeOf" 2 46 (pg_oI h) (F_X12_agreeOf h a0 a1 a2) 0 [(0, pR a0), (1, pI a1), (2, pI a2)] [] h := by
  unfold F_X12_agreeOf
  refine pg_iconst dX12_agreeOf_0 ci_0 ?_
  refine pg_istore_n (i := 3) (lv' := [(3, pI (0 : Int32)), (0, pR a0), (1, pI a1), (2, pI a2)]) dX12_agreeOf_1 rfl (by decide) rfl ?_
  refine pg_iconst dX12_agreeOf_2 ci_0 ?_
  refine pg_istore (lv' := [(4, pI (0 : Int32)), (3, pI (0 : Int32)), (0, pR a0), (1, pI a1), (2, pI a2)]) dX12_agreeOf_3 (by decide) rfl ?_
  exact pg_to (e_X12_agreeOf_5 l D h pg_fuel a0 a1 a2 (0 : Int32) (0 : Int32)) [2, 3, 4, 1, 0] rfl
theorem c_X12_agreeOf (l : Launch) (D : pg_D) (h : pg_H) (a0 : Nat) (a1 : Int32) (a2 : Int32)  : ∀ x, F_X12_agreeOf h a0 a1 a2 = some x → pg_Ct l D yX12_agreeOf cX12_agreeOf 5 (some FieldType.int) 2 46 [pR a0, pI a1, pI a2] h (pg_oI h x) :=
  pg_Ct.of pn_RX12 (Nat.le_of_ble_eq_true rfl) (e_X12_agreeOf l D h a0 a1 a2)
def F_X12_agree (a0 : Nat) (a1 : Int32) (a2 : Int32) (h : pg_H) : Option (Int32 × pg_H) := Option.bind (pg_rcv 12 h a0 (F_X12_isCopy h a0 a1)) fun v1 => (if v1 = 0 then (some ((-1 : Int32), h)) else Option.bind (pg_rcv 12 h a0 (F_X12_isCopy h a0 a2)) fun v2 => (if v2 = 0 then (some ((-1 : Int32), h)) else (if a1 = a2 then (some ((-1 : Int32), h)) else Option.bind (pg_rcv 12 h a0 (F_X12_weighs a0 h)) fun v3 => Option.bind (pg_rcv 12 v3 a0 (F_X12_agreeOf v3 a0 a1 a2)) fun v4 => (some (v4, v3)))))
theorem e_X12_agree (l : Launch) (D : pg_D)  (a0 : Nat) (a1 : Int32) (a2 : Int32) (h : pg_H) : pg_EvF l D RX12 cX12_agree 3 (some FieldType.int) "agree" 1306 33956 pg_wI (F_X12_agree a0 a1 a2 h) 0 [(0, pR a0), (1, pI a1), (2, pI a2)] [] h := by
  unfold F_X12_agree
  refine pg_aload_n (i := 0) dX12_agree_0 rfl 0 rfl ?_
  refine pg_iload_n (i := 1) dX12_agree_1 rfl 1 rfl ?_
  refine pg_callV_oI (As := [pI a1]) (rs := []) dX12_agree_2 lk_RX12_128 vy_X12_isCopy nd_X12_isCopy (c_X12_isCopy l D h a0 a1) rfl rfl (Nat.le_of_ble_eq_true rfl) (by decide) (by decide) (fun v1 => ?_)
  refine pg_if_eq (tgt := 21) dX12_agree_5 rfl ?_ ?_
  · refine pg_iconst dX12_agree_21 ci_m1 ?_
    exact pg_iret dX12_agree_22 rfl rfl
  · refine pg_aload_n (i := 0) dX12_agree_8 rfl 0 rfl ?_
    refine pg_iload_n (i := 2) dX12_agree_9 rfl 2 rfl ?_
    refine pg_callV_oI (As := [pI a2]) (rs := []) dX12_agree_10 lk_RX12_128 vy_X12_isCopy nd_X12_isCopy (c_X12_isCopy l D h a0 a2) rfl rfl (Nat.le_of_ble_eq_true rfl) (by decide) (by decide) (fun v2 => ?_)
    refine pg_if_eq (tgt := 21) dX12_agree_13 rfl ?_ ?_
    · refine pg_iconst dX12_agree_21 ci_m1 ?_
      exact pg_iret dX12_agree_22 rfl rfl
    · refine pg_iload_n (i := 1) dX12_agree_16 rfl 1 rfl ?_
      refine pg_iload_n (i := 2) dX12_agree_17 rfl 2 rfl ?_
      refine pg_icmp_ne (tgt := 23) dX12_agree_18 rfl ?_ ?_
      · refine pg_aload_n (i := 0) dX12_agree_23 rfl 0 rfl ?_
        refine pg_callV_wV (As := []) (rs := []) dX12_agree_24 lk_RX12_323 vy_X12_weighs nd_X12_weighs (c_X12_weighs l D a0 h) rfl rfl (Nat.le_of_ble_eq_true rfl) (by decide) (by decide) (fun v3 => ?_)
        refine pg_aload_n (i := 0) dX12_agree_27 rfl 0 rfl ?_
        refine pg_iload_n (i := 1) dX12_agree_28 rfl 1 rfl ?_
        refine pg_iload_n (i := 2) dX12_agree_29 rfl 2 rfl ?_
        refine pg_callV_oI (As := [pI a1, pI a2]) (rs := []) dX12_agree_30 lk_RX12_356 vy_X12_agreeOf nd_X12_agreeOf (c_X12_agreeOf l D v3 a0 a1 a2) rfl rfl (Nat.le_of_ble_eq_true rfl) (by decide) (by decide) (fun v4 => ?_)
        exact pg_iret dX12_agree_33 rfl rfl
      · refine pg_iconst dX12_agree_21 ci_m1 ?_
        exact pg_iret dX12_agree_22 rfl rfl
theorem c_X12_agree (l : Launch) (D : pg_D) (a0 : Nat) (a1 : Int32) (a2 : Int32) (h : pg_H) : ∀ x, F_X12_agree a0 a1 a2 h = some x → pg_Ct l D yX12_agree cX12_agree 3 (some FieldType.int) 1306 33956 [pR a0, pI a1, pI a2] h (pg_wI x) :=
  pg_Ct.of pn_RX12 (Nat.le_of_ble_eq_true rfl) (e_X12_agree l D a0 a1 a2 h)
def F_X12_joinsAll_192 (k134 : Nat → Int32 → Int32 → Int32 → pg_H → Option pg_H) (a0 : Nat) (a2 : Int32) (a3 : Int32) (a4 : Int32) (h : pg_H) : Option pg_H := (k134 a0 a2 a3 (a4 + (1 : Int32)) h)
def F_X12_joinsAll_134 (k123 : Nat → Int32 → Int32 → pg_H → Option pg_H) : Nat → Nat → Int32 → Int32 → Int32 → pg_H → Option pg_H
  | 0 => fun _ _ _ _ _ => none
  | n + 1 => fun a0 a2 a3 a4 h => Option.bind (pg_rcv 12 h a0 (F_X12_copies h a0)) fun v1 => (if a4 < v1 then Option.bind (pg_gR 12 32 h a0) fun v2 => Option.bind (pg_aI 23 h v2 (((12 : Int32) * a3) + a4)) fun v3 => (if v3 = 0 then (F_X12_joinsAll_192 (F_X12_joinsAll_134 k123 n) a0 a2 a3 a4 h) else Option.bind (pg_gR 12 33 h a0) fun v4 => Option.bind (pg_aI 21 h v4 a3) fun v5 => Option.bind (pg_gR 12 33 h a0) fun v6 => Option.bind (pg_aI 21 h v6 a4) fun v7 => (if v5 < v7 then Option.bind (pg_gR 12 33 h a0) fun v8 => Option.bind (pg_gR 12 33 h a0) fun v9 => Option.bind (pg_aI 21 h v9 a3) fun v10 => Option.bind (pg_sI 21 h v8 a4 v10) fun v11 => (F_X12_joinsAll_192 (F_X12_joinsAll_134 k123 n) a0 (1 : Int32) a3 a4 v11) else (F_X12_joinsAll_192 (F_X12_joinsAll_134 k123 n) a0 a2 a3 a4 h))) else (k123 a0 a2 (a3 + (1 : Int32)) h))
def F_X12_joinsAll_123 (k115 : Nat → Int32 → pg_H → Option pg_H) : Nat → Nat → Int32 → Int32 → pg_H → Option pg_H
  | 0 => fun _ _ _ _ => none
  | n + 1 => fun a0 a2 a3 h => Option.bind (pg_rcv 12 h a0 (F_X12_copies h a0)) fun v1 => (if a3 < v1 then (F_X12_joinsAll_134 (F_X12_joinsAll_123 k115 n) pg_fuel a0 a2 a3 (0 : Int32) h) else (k115 a0 a2 h))
def F_X12_joinsAll_115  : Nat → Nat → Int32 → pg_H → Option pg_H
  | 0 => fun _ _ _ => none
  | n + 1 => fun a0 a2 h => (if a2 = 0 then (some h) else (F_X12_joinsAll_123 (F_X12_joinsAll_115 n) pg_fuel a0 (0 : Int32) (0 : Int32) h))
def F_X12_joinsAll_106 (k83 : Nat → Int32 → Int32 → pg_H → Option pg_H) (a0 : Nat) (a1 : Int32) (a2 : Int32) (s0 : Int32) (s1 : Int32) (s2 : Nat) (h : pg_H) : Option pg_H := Option.bind (pg_sI 21 h s2 s1 s0) fun v1 => (k83 a0 a1 (a2 + (1 : Int32)) v1)
def F_X12_joinsAll_83  : Nat → Nat → Int32 → Int32 → pg_H → Option pg_H
  | 0 => fun _ _ _ _ => none
  | n + 1 => fun a0 a1 a2 h => Option.bind (pg_rcv 12 h a0 (F_X12_copies h a0)) fun v1 => (if a2 < v1 then Option.bind (pg_gR 12 33 h a0) fun v2 => (if a2 = a1 then (F_X12_joinsAll_106 (F_X12_joinsAll_83 n) a0 a1 a2 (-1 : Int32) a2 v2 h) else (F_X12_joinsAll_106 (F_X12_joinsAll_83 n) a0 a1 a2 a2 a2 v2 h)) else (F_X12_joinsAll_115 pg_fuel a0 (1 : Int32) h))
def F_X12_joinsAll_68 (k16 : Nat → Int32 → Int32 → Int32 → pg_H → Option pg_H) (a0 : Nat) (a1 : Int32) (a2 : Int32) (a3 : Int32) (s0 : Int32) (s1 : Int32) (s2 : Nat) (h : pg_H) : Option pg_H := Option.bind (pg_sI 23 h s2 s1 s0) fun v1 => (k16 a0 a1 a2 (a3 + (1 : Int32)) v1)
def F_X12_joinsAll_67 (k16 : Nat → Int32 → Int32 → Int32 → pg_H → Option pg_H) (a0 : Nat) (a1 : Int32) (a2 : Int32) (a3 : Int32) (s0 : Int32) (s1 : Nat) (h : pg_H) : Option pg_H := (F_X12_joinsAll_68 k16 a0 a1 a2 a3 (0 : Int32) s0 s1 h)
def F_X12_joinsAll_16 (k6 : Nat → Int32 → Int32 → pg_H → Option pg_H) : Nat → Nat → Int32 → Int32 → Int32 → pg_H → Option pg_H
  | 0 => fun _ _ _ _ _ => none
  | n + 1 => fun a0 a1 a2 a3 h => Option.bind (pg_rcv 12 h a0 (F_X12_copies h a0)) fun v1 => (if a3 < v1 then Option.bind (pg_gR 12 32 h a0) fun v2 => (if a2 = a3 then (F_X12_joinsAll_67 (F_X12_joinsAll_16 k6 n) a0 a1 a2 a3 (((12 : Int32) * a2) + a3) v2 h) else (if a2 = a1 then (F_X12_joinsAll_67 (F_X12_joinsAll_16 k6 n) a0 a1 a2 a3 (((12 : Int32) * a2) + a3) v2 h) else (if a3 = a1 then (F_X12_joinsAll_67 (F_X12_joinsAll_16 k6 n) a0 a1 a2 a3 (((12 : Int32) * a2) + a3) v2 h) else Option.bind (pg_rcv 12 h a0 (F_X12_agreeOf h a0 a2 a3)) fun v3 => Option.bind (pg_rcv 12 h a0 (F_X12_term h a0 (3 : Int32))) fun v4 => (if v3 < v4 then (F_X12_joinsAll_67 (F_X12_joinsAll_16 k6 n) a0 a1 a2 a3 (((12 : Int32) * a2) + a3) v2 h) else (F_X12_joinsAll_68 (F_X12_joinsAll_16 k6 n) a0 a1 a2 a3 (1 : Int32) (((12 : Int32) * a2) + a3) v2 h))))) else (k6 a0 a1 (a2 + (1 : Int32)) h))
def F_X12_joinsAll_6  : Nat → Nat → Int32 → Int32 → pg_H → Option pg_H
  | 0 => fun _ _ _ _ => none
  | n + 1 => fun a0 a1 a2 h => Option.bind (pg_rcv 12 h a0 (F_X12_copies h a0)) fun v1 => (if a2 < v1 then (F_X12_joinsAll_16 (F_X12_joinsAll_6 n) pg_fuel a0 a1 a2 (0 : Int32) h) else (F_X12_joinsAll_83 pg_fuel a0 a1 (0 : Int32) h))
def F_X12_joinsAll (a0 : Nat) (a1 : Int32) (h : pg_H) : Option pg_H := Option.bind (pg_rcv 12 h a0 (F_X12_weighs a0 h)) fun v1 => (F_X12_joinsAll_6 pg_fuel a0 a1 (0 : Int32) v1)
theorem e_X12_joinsAll_192 (l : Launch) (D : pg_D)  (k134 : Nat → Int32 → Int32 → Int32 → pg_H → Option pg_H) (hk134 : ∀ (a0 : Nat) (a2 : Int32) (a3 : Int32) (a4 : Int32) (h : pg_H), pg_EvF l D RX12 cX12_joinsAll 5 none "joinsAll" 1306 33956 pg_wV (k134 a0 a2 a3 a4 h) 134 [(0, pR a0), (2, pI a2), (3, pI a3), (4, pI a4)] [] h) (a0 : Nat) (a2 : Int32) (a3 : Int32) (a4 : Int32) (h : pg_H) : pg_EvF l D RX12 cX12_joinsAll 5 none "joinsAll" 1306 33956 pg_wV (F_X12_joinsAll_192 k134 a0 a2 a3 a4 h) 192 [(0, pR a0), (2, pI a2), (3, pI a3), (4, pI a4)] [] h := by
  unfold F_X12_joinsAll_192
  refine pg_iinc (lv' := [(4, pI (a4 + (1 : Int32))), (0, pR a0), (2, pI a2), (3, pI a3)]) dX12_joinsAll_192 3 rfl ci_1 (by decide) rfl ?_
  refine pg_goto (tgt := 134) dX12_joinsAll_195 rfl ?_
  exact pg_to (hk134 a0 a2 a3 (a4 + (1 : Int32)) h) [1, 2, 3, 0] rfl
theorem e_X12_joinsAll_134 (l : Launch) (D : pg_D)  (k123 : Nat → Int32 → Int32 → pg_H → Option pg_H) (hk123 : ∀ (a0 : Nat) (a2 : Int32) (a3 : Int32) (h : pg_H), pg_EvF l D RX12 cX12_joinsAll 5 none "joinsAll" 1306 33956 pg_wV (k123 a0 a2 a3 h) 123 [(0, pR a0), (2, pI a2), (3, pI a3)] [] h) : ∀ (n : Nat) (a0 : Nat) (a2 : Int32) (a3 : Int32) (a4 : Int32) (h : pg_H), pg_EvF l D RX12 cX12_joinsAll 5 none "joinsAll" 1306 33956 pg_wV (F_X12_joinsAll_134 k123 n a0 a2 a3 a4 h) 134 [(0, pR a0), (2, pI a2), (3, pI a3), (4, pI a4)] [] h := by
  intro n
  induction n with
  | zero => intro a0 a2 a3 a4 h; exact pg_none
  | succ n ih =>
    intro a0 a2 a3 a4 h
    rw [F_X12_joinsAll_134]
    refine pg_iload dX12_joinsAll_134 3 rfl ?_
    refine pg_aload_n (i := 0) dX12_joinsAll_136 rfl 0 rfl ?_
    refine pg_callV_oI (As := []) (rs := [pI a4]) dX12_joinsAll_137 lk_RX12_124 vy_X12_copies nd_X12_copies (c_X12_copies l D h a0) rfl rfl (Nat.le_of_ble_eq_true rfl) (by decide) (by decide) (fun v1 => ?_)
    refine pg_icmp_ge (tgt := 198) dX12_joinsAll_140 rfl ?_ ?_
    · refine pg_iinc (lv' := [(3, pI (a3 + (1 : Int32))), (0, pR a0), (2, pI a2), (4, pI a4)]) dX12_joinsAll_198 2 rfl ci_1 (by decide) rfl ?_
      refine pg_goto (tgt := 123) dX12_joinsAll_201 rfl ?_
      exact pg_to (hk123 a0 a2 (a3 + (1 : Int32)) h) [1, 2, 0] rfl
    · refine pg_aload_n (i := 0) dX12_joinsAll_143 rfl 0 rfl ?_
      refine pg_getR dX12_joinsAll_144 fl_RX12_73 rfl (fun v2 => ?_)
      refine pg_bipush dX12_joinsAll_147 cb_12 ?_
      refine pg_iload_n (i := 3) dX12_joinsAll_149 rfl 2 rfl ?_
      refine pg_imul dX12_joinsAll_150 ?_
      refine pg_iload dX12_joinsAll_151 3 rfl ?_
      refine pg_iadd dX12_joinsAll_153 ?_
      refine pg_zaload dX12_joinsAll_154 (fun v3 => ?_)
      refine pg_if_eq (tgt := 192) dX12_joinsAll_155 rfl ?_ ?_
      · exact pg_to (e_X12_joinsAll_192 l D (F_X12_joinsAll_134 k123 n) ih a0 a2 a3 a4 h) [0, 1, 2, 3] rfl
      · refine pg_aload_n (i := 0) dX12_joinsAll_158 rfl 0 rfl ?_
        refine pg_getR dX12_joinsAll_159 fl_RX12_76 rfl (fun v4 => ?_)
        refine pg_iload_n (i := 3) dX12_joinsAll_162 rfl 2 rfl ?_
        refine pg_iaload dX12_joinsAll_163 (fun v5 => ?_)
        refine pg_aload_n (i := 0) dX12_joinsAll_164 rfl 0 rfl ?_
        refine pg_getR dX12_joinsAll_165 fl_RX12_76 rfl (fun v6 => ?_)
        refine pg_iload dX12_joinsAll_168 3 rfl ?_
        refine pg_iaload dX12_joinsAll_170 (fun v7 => ?_)
        refine pg_icmp_lt (tgt := 177) dX12_joinsAll_171 rfl ?_ ?_
        · refine pg_aload_n (i := 0) dX12_joinsAll_177 rfl 0 rfl ?_
          refine pg_getR dX12_joinsAll_178 fl_RX12_76 rfl (fun v8 => ?_)
          refine pg_iload dX12_joinsAll_181 3 rfl ?_
          refine pg_aload_n (i := 0) dX12_joinsAll_183 rfl 0 rfl ?_
          refine pg_getR dX12_joinsAll_184 fl_RX12_76 rfl (fun v9 => ?_)
          refine pg_iload_n (i := 3) dX12_joinsAll_187 rfl 2 rfl ?_
          refine pg_iaload dX12_joinsAll_188 (fun v10 => ?_)
          refine pg_iastore dX12_joinsAll_189 (fun v11 => ?_)
          refine pg_iconst dX12_joinsAll_190 ci_1 ?_
          refine pg_istore_n (i := 2) (lv' := [(2, pI (1 : Int32)), (0, pR a0), (3, pI a3), (4, pI a4)]) dX12_joinsAll_191 rfl (by decide) rfl ?_
          exact pg_to (e_X12_joinsAll_192 l D (F_X12_joinsAll_134 k123 n) ih a0 (1 : Int32) a3 a4 v11) [1, 0, 2, 3] rfl
        · refine pg_goto (tgt := 192) dX12_joinsAll_174 rfl ?_
          exact pg_to (e_X12_joinsAll_192 l D (F_X12_joinsAll_134 k123 n) ih a0 a2 a3 a4 h) [0, 1, 2, 3] rfl
theorem e_X12_joinsAll_123 (l : Launch) (D : pg_D)  (k115 : Nat → Int32 → pg_H → Option pg_H) (hk115 : ∀ (a0 : Nat) (a2 : Int32) (h : pg_H), pg_EvF l D RX12 cX12_joinsAll 5 none "joinsAll" 1306 33956 pg_wV (k115 a0 a2 h) 115 [(0, pR a0), (2, pI a2)] [] h) : ∀ (n : Nat) (a0 : Nat) (a2 : Int32) (a3 : Int32) (h : pg_H), pg_EvF l D RX12 cX12_joinsAll 5 none "joinsAll" 1306 33956 pg_wV (F_X12_joinsAll_123 k115 n a0 a2 a3 h) 123 [(0, pR a0), (2, pI a2), (3, pI a3)] [] h := by
  intro n
  induction n with
  | zero => intro a0 a2 a3 h; exact pg_none
  | succ n ih =>
    intro a0 a2 a3 h
    rw [F_X12_joinsAll_123]
    refine pg_iload_n (i := 3) dX12_joinsAll_123 rfl 2 rfl ?_
    refine pg_aload_n (i := 0) dX12_joinsAll_124 rfl 0 rfl ?_
    refine pg_callV_oI (As := []) (rs := [pI a3]) dX12_joinsAll_125 lk_RX12_124 vy_X12_copies nd_X12_copies (c_X12_copies l D h a0) rfl rfl (Nat.le_of_ble_eq_true rfl) (by decide) (by decide) (fun v1 => ?_)
    refine pg_icmp_ge (tgt := 204) dX12_joinsAll_128 rfl ?_ ?_
    · refine pg_goto (tgt := 115) dX12_joinsAll_204 rfl ?_
      exact pg_to (hk115 a0 a2 h) [0, 1] rfl
    · refine pg_iconst dX12_joinsAll_131 ci_0 ?_
      refine pg_istore (lv' := [(4, pI (0 : Int32)), (0, pR a0), (2, pI a2), (3, pI a3)]) dX12_joinsAll_132 (by decide) rfl ?_
      exact pg_to (e_X12_joinsAll_134 l D (F_X12_joinsAll_123 k115 n) ih pg_fuel a0 a2 a3 (0 : Int32) h) [1, 2, 3, 0] rfl
theorem e_X12_joinsAll_115 (l : Launch) (D : pg_D)   : ∀ (n : Nat) (a0 : Nat) (a2 : Int32) (h : pg_H), pg_EvF l D RX12 cX12_joinsAll 5 none "joinsAll" 1306 33956 pg_wV (F_X12_joinsAll_115 n a0 a2 h) 115 [(0, pR a0), (2, pI a2)] [] h := by
  intro n
  induction n with
  | zero => intro a0 a2 h; exact pg_none
  | succ n ih =>
    intro a0 a2 h
    rw [F_X12_joinsAll_115]
    refine pg_iload_n (i := 2) dX12_joinsAll_115 rfl 1 rfl ?_
    refine pg_if_eq (tgt := 207) dX12_joinsAll_116 rfl ?_ ?_
    · exact pg_vret dX12_joinsAll_207 rfl rfl
    · refine pg_iconst dX12_joinsAll_119 ci_0 ?_
      refine pg_istore_n (i := 2) (lv' := [(2, pI (0 : Int32)), (0, pR a0)]) dX12_joinsAll_120 rfl (by decide) rfl ?_
      refine pg_iconst dX12_joinsAll_121 ci_0 ?_
      refine pg_istore_n (i := 3) (lv' := [(3, pI (0 : Int32)), (2, pI (0 : Int32)), (0, pR a0)]) dX12_joinsAll_122 rfl (by decide) rfl ?_
      exact pg_to (e_X12_joinsAll_123 l D (F_X12_joinsAll_115 n) ih pg_fuel a0 (0 : Int32) (0 : Int32) h) [2, 1, 0] rfl
theorem e_X12_joinsAll_106 (l : Launch) (D : pg_D)  (k83 : Nat → Int32 → Int32 → pg_H → Option pg_H) (hk83 : ∀ (a0 : Nat) (a1 : Int32) (a2 : Int32) (h : pg_H), pg_EvF l D RX12 cX12_joinsAll 5 none "joinsAll" 1306 33956 pg_wV (k83 a0 a1 a2 h) 83 [(0, pR a0), (1, pI a1), (2, pI a2)] [] h) (a0 : Nat) (a1 : Int32) (a2 : Int32) (s0 : Int32) (s1 : Int32) (s2 : Nat) (h : pg_H) : pg_EvF l D RX12 cX12_joinsAll 5 none "joinsAll" 1306 33956 pg_wV (F_X12_joinsAll_106 k83 a0 a1 a2 s0 s1 s2 h) 106 [(0, pR a0), (1, pI a1), (2, pI a2)] [pI s0, pI s1, pR s2] h := by
  unfold F_X12_joinsAll_106
  refine pg_iastore dX12_joinsAll_106 (fun v1 => ?_)
  refine pg_iinc (lv' := [(2, pI (a2 + (1 : Int32))), (0, pR a0), (1, pI a1)]) dX12_joinsAll_107 2 rfl ci_1 (by decide) rfl ?_
  refine pg_goto (tgt := 83) dX12_joinsAll_110 rfl ?_
  exact pg_to (hk83 a0 a1 (a2 + (1 : Int32)) v1) [1, 2, 0] rfl
theorem e_X12_joinsAll_83 (l : Launch) (D : pg_D)   : ∀ (n : Nat) (a0 : Nat) (a1 : Int32) (a2 : Int32) (h : pg_H), pg_EvF l D RX12 cX12_joinsAll 5 none "joinsAll" 1306 33956 pg_wV (F_X12_joinsAll_83 n a0 a1 a2 h) 83 [(0, pR a0), (1, pI a1), (2, pI a2)] [] h := by
  intro n
  induction n with
  | zero => intro a0 a1 a2 h; exact pg_none
  | succ n ih =>
    intro a0 a1 a2 h
    rw [F_X12_joinsAll_83]
    refine pg_iload_n (i := 2) dX12_joinsAll_83 rfl 2 rfl ?_
    refine pg_aload_n (i := 0) dX12_joinsAll_84 rfl 0 rfl ?_
    refine pg_callV_oI (As := []) (rs := [pI a2]) dX12_joinsAll_85 lk_RX12_124 vy_X12_copies nd_X12_copies (c_X12_copies l D h a0) rfl rfl (Nat.le_of_ble_eq_true rfl) (by decide) (by decide) (fun v1 => ?_)
    refine pg_icmp_ge (tgt := 113) dX12_joinsAll_88 rfl ?_ ?_
    · refine pg_iconst dX12_joinsAll_113 ci_1 ?_
      refine pg_istore_n (i := 2) (lv' := [(2, pI (1 : Int32)), (0, pR a0), (1, pI a1)]) dX12_joinsAll_114 rfl (by decide) rfl ?_
      exact pg_to (e_X12_joinsAll_115 l D pg_fuel a0 (1 : Int32) h) [1, 0] rfl
    · refine pg_aload_n (i := 0) dX12_joinsAll_91 rfl 0 rfl ?_
      refine pg_getR dX12_joinsAll_92 fl_RX12_76 rfl (fun v2 => ?_)
      refine pg_iload_n (i := 2) dX12_joinsAll_95 rfl 2 rfl ?_
      refine pg_iload_n (i := 2) dX12_joinsAll_96 rfl 2 rfl ?_
      refine pg_iload_n (i := 1) dX12_joinsAll_97 rfl 1 rfl ?_
      refine pg_icmp_ne (tgt := 105) dX12_joinsAll_98 rfl ?_ ?_
      · refine pg_iload_n (i := 2) dX12_joinsAll_105 rfl 2 rfl ?_
        exact pg_to (e_X12_joinsAll_106 l D (F_X12_joinsAll_83 n) ih a0 a1 a2 a2 a2 v2 h) [0, 1, 2] rfl
      · refine pg_iconst dX12_joinsAll_101 ci_m1 ?_
        refine pg_goto (tgt := 106) dX12_joinsAll_102 rfl ?_
        exact pg_to (e_X12_joinsAll_106 l D (F_X12_joinsAll_83 n) ih a0 a1 a2 (-1 : Int32) a2 v2 h) [0, 1, 2] rfl
theorem e_X12_joinsAll_68 (l : Launch) (D : pg_D)  (k16 : Nat → Int32 → Int32 → Int32 → pg_H → Option pg_H) (hk16 : ∀ (a0 : Nat) (a1 : Int32) (a2 : Int32) (a3 : Int32) (h : pg_H), pg_EvF l D RX12 cX12_joinsAll 5 none "joinsAll" 1306 33956 pg_wV (k16 a0 a1 a2 a3 h) 16 [(0, pR a0), (1, pI a1), (2, pI a2), (3, pI a3)] [] h) (a0 : Nat) (a1 : Int32) (a2 : Int32) (a3 : Int32) (s0 : Int32) (s1 : Int32) (s2 : Nat) (h : pg_H) : pg_EvF l D RX12 cX12_joinsAll 5 none "joinsAll" 1306 33956 pg_wV (F_X12_joinsAll_68 k16 a0 a1 a2 a3 s0 s1 s2 h) 68 [(0, pR a0), (1, pI a1), (2, pI a2), (3, pI a3)] [pI s0, pI s1, pR s2] h := by
  unfold F_X12_joinsAll_68
  refine pg_zastore dX12_joinsAll_68 (fun v1 => ?_)
  refine pg_iinc (lv' := [(3, pI (a3 + (1 : Int32))), (0, pR a0), (1, pI a1), (2, pI a2)]) dX12_joinsAll_69 3 rfl ci_1 (by decide) rfl ?_
  refine pg_goto (tgt := 16) dX12_joinsAll_72 rfl ?_
  exact pg_to (hk16 a0 a1 a2 (a3 + (1 : Int32)) v1) [1, 2, 3, 0] rfl
theorem e_X12_joinsAll_67 (l : Launch) (D : pg_D)  (k16 : Nat → Int32 → Int32 → Int32 → pg_H → Option pg_H) (hk16 : ∀ (a0 : Nat) (a1 : Int32) (a2 : Int32) (a3 : Int32) (h : pg_H), pg_EvF l D RX12 cX12_joinsAll 5 none "joinsAll" 1306 33956 pg_wV (k16 a0 a1 a2 a3 h) 16 [(0, pR a0), (1, pI a1), (2, pI a2), (3, pI a3)] [] h) (a0 : Nat) (a1 : Int32) (a2 : Int32) (a3 : Int32) (s0 : Int32) (s1 : Nat) (h : pg_H) : pg_EvF l D RX12 cX12_joinsAll 5 none "joinsAll" 1306 33956 pg_wV (F_X12_joinsAll_67 k16 a0 a1 a2 a3 s0 s1 h) 67 [(0, pR a0), (1, pI a1), (2, pI a2), (3, pI a3)] [pI s0, pR s1] h := by
  unfold F_X12_joinsAll_67
  refine pg_iconst dX12_joinsAll_67 ci_0 ?_
  exact pg_to (e_X12_joinsAll_68 l D k16 hk16 a0 a1 a2 a3 (0 : Int32) s0 s1 h) [0, 1, 2, 3] rfl
theorem e_X12_joinsAll_16 (l : Launch) (D : pg_D)  (k6 : Nat → Int32 → Int32 → pg_H → Option pg_H) (hk6 : ∀ (a0 : Nat) (a1 : Int32) (a2 : Int32) (h : pg_H), pg_EvF l D RX12 cX12_joinsAll 5 none "joinsAll" 1306 33956 pg_wV (k6 a0 a1 a2 h) 6 [(0, pR a0), (1, pI a1), (2, pI a2)] [] h) : ∀ (n : Nat) (a0 : Nat) (a1 : Int32) (a2 : Int32) (a3 : Int32) (h : pg_H), pg_EvF l D RX12 cX12_joinsAll 5 none "joinsAll" 1306 33956 pg_wV (F_X12_joinsAll_16 k6 n a0 a1 a2 a3 h) 16 [(0, pR a0), (1, pI a1), (2, pI a2), (3, pI a3)] [] h := by
  intro n
  induction n with
  | zero => intro a0 a1 a2 a3 h; exact pg_none
  | succ n ih =>
    intro a0 a1 a2 a3 h
    rw [F_X12_joinsAll_16]
    refine pg_iload_n (i := 3) dX12_joinsAll_16 rfl 3 rfl ?_
    refine pg_aload_n (i := 0) dX12_joinsAll_17 rfl 0 rfl ?_
    refine pg_callV_oI (As := []) (rs := [pI a3]) dX12_joinsAll_18 lk_RX12_124 vy_X12_copies nd_X12_copies (c_X12_copies l D h a0) rfl rfl (Nat.le_of_ble_eq_true rfl) (by decide) (by decide) (fun v1 => ?_)
    refine pg_icmp_ge (tgt := 75) dX12_joinsAll_21 rfl ?_ ?_
    · refine pg_iinc (lv' := [(2, pI (a2 + (1 : Int32))), (0, pR a0), (1, pI a1), (3, pI a3)]) dX12_joinsAll_75 2 rfl ci_1 (by decide) rfl ?_
      refine pg_goto (tgt := 6) dX12_joinsAll_78 rfl ?_
      exact pg_to (hk6 a0 a1 (a2 + (1 : Int32)) h) [1, 2, 0] rfl
    · refine pg_aload_n (i := 0) dX12_joinsAll_24 rfl 0 rfl ?_
      refine pg_getR dX12_joinsAll_25 fl_RX12_73 rfl (fun v2 => ?_)
      refine pg_bipush dX12_joinsAll_28 cb_12 ?_
      refine pg_iload_n (i := 2) dX12_joinsAll_30 rfl 2 rfl ?_
      refine pg_imul dX12_joinsAll_31 ?_
      refine pg_iload_n (i := 3) dX12_joinsAll_32 rfl 3 rfl ?_
      refine pg_iadd dX12_joinsAll_33 ?_
      refine pg_iload_n (i := 2) dX12_joinsAll_34 rfl 2 rfl ?_
      refine pg_iload_n (i := 3) dX12_joinsAll_35 rfl 3 rfl ?_
      refine pg_icmp_eq (tgt := 67) dX12_joinsAll_36 rfl ?_ ?_
      · exact pg_to (e_X12_joinsAll_67 l D (F_X12_joinsAll_16 k6 n) ih a0 a1 a2 a3 (((12 : Int32) * a2) + a3) v2 h) [0, 1, 2, 3] rfl
      · refine pg_iload_n (i := 2) dX12_joinsAll_39 rfl 2 rfl ?_
        refine pg_iload_n (i := 1) dX12_joinsAll_40 rfl 1 rfl ?_
        refine pg_icmp_eq (tgt := 67) dX12_joinsAll_41 rfl ?_ ?_
        · exact pg_to (e_X12_joinsAll_67 l D (F_X12_joinsAll_16 k6 n) ih a0 a1 a2 a3 (((12 : Int32) * a2) + a3) v2 h) [0, 1, 2, 3] rfl
        · refine pg_iload_n (i := 3) dX12_joinsAll_44 rfl 3 rfl ?_
          refine pg_iload_n (i := 1) dX12_joinsAll_45 rfl 1 rfl ?_
          refine pg_icmp_eq (tgt := 67) dX12_joinsAll_46 rfl ?_ ?_
          · exact pg_to (e_X12_joinsAll_67 l D (F_X12_joinsAll_16 k6 n) ih a0 a1 a2 a3 (((12 : Int32) * a2) + a3) v2 h) [0, 1, 2, 3] rfl
          · refine pg_aload_n (i := 0) dX12_joinsAll_49 rfl 0 rfl ?_
            refine pg_iload_n (i := 2) dX12_joinsAll_50 rfl 2 rfl ?_
            refine pg_iload_n (i := 3) dX12_joinsAll_51 rfl 3 rfl ?_
            refine pg_callV_oI (As := [pI a2, pI a3]) (rs := [pI (((12 : Int32) * a2) + a3), pR v2]) dX12_joinsAll_52 lk_RX12_356 vy_X12_agreeOf nd_X12_agreeOf (c_X12_agreeOf l D h a0 a2 a3) rfl rfl (Nat.le_of_ble_eq_true rfl) (by decide) (by decide) (fun v3 => ?_)
            refine pg_aload_n (i := 0) dX12_joinsAll_55 rfl 0 rfl ?_
            refine pg_iconst dX12_joinsAll_56 ci_3 ?_
            refine pg_callV_oI (As := [pI (3 : Int32)]) (rs := [pI v3, pI (((12 : Int32) * a2) + a3), pR v2]) dX12_joinsAll_57 lk_RX12_320 vy_X12_term nd_X12_term (c_X12_term l D h a0 (3 : Int32)) rfl rfl (Nat.le_of_ble_eq_true rfl) (by decide) (by decide) (fun v4 => ?_)
            refine pg_icmp_lt (tgt := 67) dX12_joinsAll_60 rfl ?_ ?_
            · exact pg_to (e_X12_joinsAll_67 l D (F_X12_joinsAll_16 k6 n) ih a0 a1 a2 a3 (((12 : Int32) * a2) + a3) v2 h) [0, 1, 2, 3] rfl
            · refine pg_iconst dX12_joinsAll_63 ci_1 ?_
              refine pg_goto (tgt := 68) dX12_joinsAll_64 rfl ?_
              exact pg_to (e_X12_joinsAll_68 l D (F_X12_joinsAll_16 k6 n) ih a0 a1 a2 a3 (1 : Int32) (((12 : Int32) * a2) + a3) v2 h) [0, 1, 2, 3] rfl
theorem e_X12_joinsAll_6 (l : Launch) (D : pg_D)   : ∀ (n : Nat) (a0 : Nat) (a1 : Int32) (a2 : Int32) (h : pg_H), pg_EvF l D RX12 cX12_joinsAll 5 none "joinsAll" 1306 33956 pg_wV (F_X12_joinsAll_6 n a0 a1 a2 h) 6 [(0, pR a0), (1, pI a1), (2, pI a2)] [] h := by
  intro n
  induction n with
  | zero => intro a0 a1 a2 h; exact pg_none
  | succ n ih =>
    intro a0 a1 a2 h
    rw [F_X12_joinsAll_6]
    refine pg_iload_n (i := 2) dX12_joinsAll_6 rfl 2 rfl ?_
    refine pg_aload_n (i := 0) dX12_joinsAll_7 rfl 0 rfl ?_
    refine pg_callV_oI (As := []) (rs := [pI a2]) dX12_joinsAll_8 lk_RX12_124 vy_X12_copies nd_X12_copies (c_X12_copies l D h a0) rfl rfl (Nat.le_of_ble_eq_true rfl) (by decide) (by decide) (fun v1 => ?_)
    refine pg_icmp_ge (tgt := 81) dX12_joinsAll_11 rfl ?_ ?_
    · refine pg_iconst dX12_joinsAll_81 ci_0 ?_
      refine pg_istore_n (i := 2) (lv' := [(2, pI (0 : Int32)), (0, pR a0), (1, pI a1)]) dX12_joinsAll_82 rfl (by decide) rfl ?_
      exact pg_to (e_X12_joinsAll_83 l D pg_fuel a0 a1 (0 : Int32) h) [1, 2, 0] rfl
    · refine pg_iconst dX12_joinsAll_14 ci_0 ?_
      refine pg_istore_n (i := 3) (lv' := [(3, pI (0 : Int32)), (0, pR a0), (1, pI a1), (2, pI a2)]) dX12_joinsAll_15 rfl (by decide) rfl ?_
      exact pg_to (e_X12_joinsAll_16 l D (F_X12_joinsAll_6 n) ih pg_fuel a0 a1 a2 (0 : Int32) h) [1, 2, 3, 0] rfl
theorem e_X12_joinsAll (l : Launch) (D : pg_D)  (a0 : Nat) (a1 : Int32) (h : pg_H) : pg_EvF l D RX12 cX12_joinsAll 5 none "joinsAll" 1306 33956 pg_wV (F_X12_joinsAll a0 a1 h) 0 [(0, pR a0), (1, pI a1)] [] h := by
  unfold F_X12_joinsAll
  refine pg_aload_n (i := 0) dX12_joinsAll_0 rfl 0 rfl ?_
  refine pg_callV_wV (As := []) (rs := []) dX12_joinsAll_1 lk_RX12_323 vy_X12_weighs nd_X12_weighs (c_X12_weighs l D a0 h) rfl rfl (Nat.le_of_ble_eq_true rfl) (by decide) (by decide) (fun v1 => ?_)
  refine pg_iconst dX12_joinsAll_4 ci_0 ?_
  refine pg_istore_n (i := 2) (lv' := [(2, pI (0 : Int32)), (0, pR a0), (1, pI a1)]) dX12_joinsAll_5 rfl (by decide) rfl ?_
  exact pg_to (e_X12_joinsAll_6 l D pg_fuel a0 a1 (0 : Int32) v1) [1, 2, 0] rfl
theorem c_X12_joinsAll (l : Launch) (D : pg_D) (a0 : Nat) (a1 : Int32) (h : pg_H) : ∀ x, F_X12_joinsAll a0 a1 h = some x → pg_Ct l D yX12_joinsAll cX12_joinsAll 5 none 1306 33956 [pR a0, pI a1] h (pg_wV x) :=
  pg_Ct.of pn_RX12 (Nat.le_of_ble_eq_true rfl) (e_X12_joinsAll l D a0 a1 h)
def F_X12_familiesBut_73 (h : pg_H) (k4 : Nat → Int32 → Int32 → Int32 → Option Int32) (a0 : Nat) (a1 : Int32) (a3 : Int32) (s0 : Int32) (s1 : Int32) : Option Int32 := pg_let (s1 + s0) fun v1 => (k4 a0 a1 v1 (a3 + (1 : Int32)))
def F_X12_familiesBut_54 (h : pg_H) (k18 : Nat → Int32 → Int32 → Int32 → Int32 → Int32 → Option Int32) (a0 : Nat) (a1 : Int32) (a2 : Int32) (a3 : Int32) (a5 : Int32) (s0 : Int32) : Option Int32 := (k18 a0 a1 a2 a3 s0 (a5 + (1 : Int32)))
def F_X12_familiesBut_49 (h : pg_H) (k18 : Nat → Int32 → Int32 → Int32 → Int32 → Int32 → Option Int32) (a0 : Nat) (a1 : Int32) (a2 : Int32) (a3 : Int32) (a5 : Int32) : Option Int32 := (F_X12_familiesBut_54 h k18 a0 a1 a2 a3 a5 (1 : Int32))
def F_X12_familiesBut_53 (h : pg_H) (k18 : Nat → Int32 → Int32 → Int32 → Int32 → Int32 → Option Int32) (a0 : Nat) (a1 : Int32) (a2 : Int32) (a3 : Int32) (a5 : Int32) : Option Int32 := (F_X12_familiesBut_54 h k18 a0 a1 a2 a3 a5 (0 : Int32))
def F_X12_familiesBut_18 (h : pg_H) (k4 : Nat → Int32 → Int32 → Int32 → Option Int32) : Nat → Nat → Int32 → Int32 → Int32 → Int32 → Int32 → Option Int32
  | 0 => fun _ _ _ _ _ _ => none
  | n + 1 => fun a0 a1 a2 a3 a4 a5 => Option.bind (pg_rcv 12 h a0 (F_X12_copies h a0)) fun v1 => (if a5 < v1 then (if a4 = 0 then (if a5 = a1 then (F_X12_familiesBut_53 h (F_X12_familiesBut_18 h k4 n) a0 a1 a2 a3 a5) else Option.bind (pg_gR 12 33 h a0) fun v2 => Option.bind (pg_aI 21 h v2 a5) fun v3 => (if v3 = a3 then (F_X12_familiesBut_49 h (F_X12_familiesBut_18 h k4 n) a0 a1 a2 a3 a5) else (F_X12_familiesBut_53 h (F_X12_familiesBut_18 h k4 n) a0 a1 a2 a3 a5))) else (F_X12_familiesBut_49 h (F_X12_familiesBut_18 h k4 n) a0 a1 a2 a3 a5)) else (if a4 = 0 then (F_X12_familiesBut_73 h k4 a0 a1 a3 (0 : Int32) a2) else (F_X12_familiesBut_73 h k4 a0 a1 a3 (1 : Int32) a2)))
def F_X12_familiesBut_4 (h : pg_H) : Nat → Nat → Int32 → Int32 → Int32 → Option Int32
  | 0 => fun _ _ _ _ => none
  | n + 1 => fun a0 a1 a2 a3 => Option.bind (pg_rcv 12 h a0 (F_X12_copies h a0)) fun v1 => (if a3 < v1 then (F_X12_familiesBut_18 h (F_X12_familiesBut_4 h n) pg_fuel a0 a1 a2 a3 (0 : Int32) (0 : Int32)) else (some a2))
def F_X12_familiesBut (h : pg_H) (a0 : Nat) (a1 : Int32) : Option Int32 := (F_X12_familiesBut_4 h pg_fuel a0 a1 (0 : Int32) (0 : Int32))
theorem e_X12_familiesBut_73 (l : Launch) (D : pg_D)  (h : pg_H) (k4 : Nat → Int32 → Int32 → Int32 → Option Int32) (hk4 : ∀ (a0 : Nat) (a1 : Int32) (a2 : Int32) (a3 : Int32), pg_EvF l D RX12 cX12_familiesBut 6 (some FieldType.int) "familiesBut" 1 20 (pg_oI h) (k4 a0 a1 a2 a3) 4 [(0, pR a0), (1, pI a1), (2, pI a2), (3, pI a3)] [] h) (a0 : Nat) (a1 : Int32) (a3 : Int32) (s0 : Int32) (s1 : Int32) : pg_EvF l D RX12 cX12_familiesBut 6 (some FieldType.int) "familiesBut" 1 20 (pg_oI h) (F_X12_familiesBut_73 h k4 a0 a1 a3 s0 s1) 73 [(0, pR a0), (1, pI a1), (3, pI a3)] [pI s0, pI s1] h := by
  unfold F_X12_familiesBut_73
  refine pg_iadd dX12_familiesBut_73 ?_
  refine pg_letI (fun v1 => ?_)
  refine pg_istore_n (i := 2) (lv' := [(2, pI v1), (0, pR a0), (1, pI a1), (3, pI a3)]) dX12_familiesBut_74 rfl (by decide) rfl ?_
  refine pg_iinc (lv' := [(3, pI (a3 + (1 : Int32))), (2, pI v1), (0, pR a0), (1, pI a1)]) dX12_familiesBut_75 3 rfl ci_1 (by decide) rfl ?_
  refine pg_goto (tgt := 4) dX12_familiesBut_78 rfl ?_
  exact pg_to (hk4 a0 a1 v1 (a3 + (1 : Int32))) [2, 3, 1, 0] rfl
theorem e_X12_familiesBut_54 (l : Launch) (D : pg_D)  (h : pg_H) (k18 : Nat → Int32 → Int32 → Int32 → Int32 → Int32 → Option Int32) (hk18 : ∀ (a0 : Nat) (a1 : Int32) (a2 : Int32) (a3 : Int32) (a4 : Int32) (a5 : Int32), pg_EvF l D RX12 cX12_familiesBut 6 (some FieldType.int) "familiesBut" 1 20 (pg_oI h) (k18 a0 a1 a2 a3 a4 a5) 18 [(0, pR a0), (1, pI a1), (2, pI a2), (3, pI a3), (4, pI a4), (5, pI a5)] [] h) (a0 : Nat) (a1 : Int32) (a2 : Int32) (a3 : Int32) (a5 : Int32) (s0 : Int32) : pg_EvF l D RX12 cX12_familiesBut 6 (some FieldType.int) "familiesBut" 1 20 (pg_oI h) (F_X12_familiesBut_54 h k18 a0 a1 a2 a3 a5 s0) 54 [(0, pR a0), (1, pI a1), (2, pI a2), (3, pI a3), (5, pI a5)] [pI s0] h := by
  unfold F_X12_familiesBut_54
  refine pg_istore (lv' := [(4, pI s0), (0, pR a0), (1, pI a1), (2, pI a2), (3, pI a3), (5, pI a5)]) dX12_familiesBut_54 (by decide) rfl ?_
  refine pg_iinc (lv' := [(5, pI (a5 + (1 : Int32))), (4, pI s0), (0, pR a0), (1, pI a1), (2, pI a2), (3, pI a3)]) dX12_familiesBut_56 5 rfl ci_1 (by decide) rfl ?_
  refine pg_goto (tgt := 18) dX12_familiesBut_59 rfl ?_
  exact pg_to (hk18 a0 a1 a2 a3 s0 (a5 + (1 : Int32))) [2, 3, 4, 5, 1, 0] rfl
theorem e_X12_familiesBut_49 (l : Launch) (D : pg_D)  (h : pg_H) (k18 : Nat → Int32 → Int32 → Int32 → Int32 → Int32 → Option Int32) (hk18 : ∀ (a0 : Nat) (a1 : Int32) (a2 : Int32) (a3 : Int32) (a4 : Int32) (a5 : Int32), pg_EvF l D RX12 cX12_familiesBut 6 (some FieldType.int) "familiesBut" 1 20 (pg_oI h) (k18 a0 a1 a2 a3 a4 a5) 18 [(0, pR a0), (1, pI a1), (2, pI a2), (3, pI a3), (4, pI a4), (5, pI a5)] [] h) (a0 : Nat) (a1 : Int32) (a2 : Int32) (a3 : Int32) (a5 : Int32) : pg_EvF l D RX12 cX12_familiesBut 6 (some FieldType.int) "familiesBut" 1 20 (pg_oI h) (F_X12_familiesBut_49 h k18 a0 a1 a2 a3 a5) 49 [(0, pR a0), (1, pI a1), (2, pI a2), (3, pI a3), (5, pI a5)] [] h := by
  unfold F_X12_familiesBut_49
  refine pg_iconst dX12_familiesBut_49 ci_1 ?_
  refine pg_goto (tgt := 54) dX12_familiesBut_50 rfl ?_
  exact pg_to (e_X12_familiesBut_54 l D h k18 hk18 a0 a1 a2 a3 a5 (1 : Int32)) [0, 1, 2, 3, 4] rfl
theorem e_X12_familiesBut_53 (l : Launch) (D : pg_D)  (h : pg_H) (k18 : Nat → Int32 → Int32 → Int32 → Int32 → Int32 → Option Int32) (hk18 : ∀ (a0 : Nat) (a1 : Int32) (a2 : Int32) (a3 : Int32) (a4 : Int32) (a5 : Int32), pg_EvF l D RX12 cX12_familiesBut 6 (some FieldType.int) "familiesBut" 1 20 (pg_oI h) (k18 a0 a1 a2 a3 a4 a5) 18 [(0, pR a0), (1, pI a1), (2, pI a2), (3, pI a3), (4, pI a4), (5, pI a5)] [] h) (a0 : Nat) (a1 : Int32) (a2 : Int32) (a3 : Int32) (a5 : Int32) : pg_EvF l D RX12 cX12_familiesBut 6 (some FieldType.int) "familiesBut" 1 20 (pg_oI h) (F_X12_familiesBut_53 h k18 a0 a1 a2 a3 a5) 53 [(0, pR a0), (1, pI a1), (2, pI a2), (3, pI a3), (5, pI a5)] [] h := by
  unfold F_X12_familiesBut_53
  refine pg_iconst dX12_familiesBut_53 ci_0 ?_
  exact pg_to (e_X12_familiesBut_54 l D h k18 hk18 a0 a1 a2 a3 a5 (0 : Int32)) [0, 1, 2, 3, 4] rfl
theorem e_X12_familiesBut_18 (l : Launch) (D : pg_D)  (h : pg_H) (k4 : Nat → Int32 → Int32 → Int32 → Option Int32) (hk4 : ∀ (a0 : Nat) (a1 : Int32) (a2 : Int32) (a3 : Int32), pg_EvF l D RX12 cX12_familiesBut 6 (some FieldType.int) "familiesBut" 1 20 (pg_oI h) (k4 a0 a1 a2 a3) 4 [(0, pR a0), (1, pI a1), (2, pI a2), (3, pI a3)] [] h) : ∀ (n : Nat) (a0 : Nat) (a1 : Int32) (a2 : Int32) (a3 : Int32) (a4 : Int32) (a5 : Int32), pg_EvF l D RX12 cX12_familiesBut 6 (some FieldType.int) "familiesBut" 1 20 (pg_oI h) (F_X12_familiesBut_18 h k4 n a0 a1 a2 a3 a4 a5) 18 [(0, pR a0), (1, pI a1), (2, pI a2), (3, pI a3), (4, pI a4), (5, pI a5)] [] h := by
  intro n
  induction n with
  | zero => intro a0 a1 a2 a3 a4 a5; exact pg_none
  | succ n ih =>
    intro a0 a1 a2 a3 a4 a5
    rw [F_X12_familiesBut_18]
    refine pg_iload dX12_familiesBut_18 5 rfl ?_
    refine pg_aload_n (i := 0) dX12_familiesBut_20 rfl 0 rfl ?_
    refine pg_callV_oI (As := []) (rs := [pI a5]) dX12_familiesBut_21 lk_RX12_124 vy_X12_copies nd_X12_copies (c_X12_copies l D h a0) rfl rfl (Nat.le_of_ble_eq_true rfl) (by decide) (by decide) (fun v1 => ?_)
    refine pg_icmp_ge (tgt := 62) dX12_familiesBut_24 rfl ?_ ?_
    · refine pg_iload_n (i := 2) dX12_familiesBut_62 rfl 2 rfl ?_
      refine pg_iload dX12_familiesBut_63 4 rfl ?_
      refine pg_if_eq (tgt := 72) dX12_familiesBut_65 rfl ?_ ?_
      · refine pg_iconst dX12_familiesBut_72 ci_0 ?_
        exact pg_to (e_X12_familiesBut_73 l D h k4 hk4 a0 a1 a3 (0 : Int32) a2) [0, 1, 3] rfl
      · refine pg_iconst dX12_familiesBut_68 ci_1 ?_
        refine pg_goto (tgt := 73) dX12_familiesBut_69 rfl ?_
        exact pg_to (e_X12_familiesBut_73 l D h k4 hk4 a0 a1 a3 (1 : Int32) a2) [0, 1, 3] rfl
    · refine pg_iload dX12_familiesBut_27 4 rfl ?_
      refine pg_if_ne (tgt := 49) dX12_familiesBut_29 rfl ?_ ?_
      · exact pg_to (e_X12_familiesBut_49 l D h (F_X12_familiesBut_18 h k4 n) ih a0 a1 a2 a3 a5) [0, 1, 2, 3, 5] rfl
      · refine pg_iload dX12_familiesBut_32 5 rfl ?_
        refine pg_iload_n (i := 1) dX12_familiesBut_34 rfl 1 rfl ?_
        refine pg_icmp_eq (tgt := 53) dX12_familiesBut_35 rfl ?_ ?_
        · exact pg_to (e_X12_familiesBut_53 l D h (F_X12_familiesBut_18 h k4 n) ih a0 a1 a2 a3 a5) [0, 1, 2, 3, 5] rfl
        · refine pg_aload_n (i := 0) dX12_familiesBut_38 rfl 0 rfl ?_
          refine pg_getR dX12_familiesBut_39 fl_RX12_76 rfl (fun v2 => ?_)
          refine pg_iload dX12_familiesBut_42 5 rfl ?_
          refine pg_iaload dX12_familiesBut_44 (fun v3 => ?_)
          refine pg_iload_n (i := 3) dX12_familiesBut_45 rfl 3 rfl ?_
          refine pg_icmp_ne (tgt := 53) dX12_familiesBut_46 rfl ?_ ?_
          · exact pg_to (e_X12_familiesBut_53 l D h (F_X12_familiesBut_18 h k4 n) ih a0 a1 a2 a3 a5) [0, 1, 2, 3, 5] rfl
          · exact pg_to (e_X12_familiesBut_49 l D h (F_X12_familiesBut_18 h k4 n) ih a0 a1 a2 a3 a5) [0, 1, 2, 3, 5] rfl
theorem e_X12_familiesBut_4 (l : Launch) (D : pg_D)  (h : pg_H) : ∀ (n : Nat) (a0 : Nat) (a1 : Int32) (a2 : Int32) (a3 : Int32), pg_EvF l D RX12 cX12_familiesBut 6 (some FieldType.int) "familiesBut" 1 20 (pg_oI h) (F_X12_familiesBut_4 h n a0 a1 a2 a3) 4 [(0, pR a0), (1, pI a1), (2, pI a2), (3, pI a3)] [] h := by
  intro n
  induction n with
  | zero => intro a0 a1 a2 a3; exact pg_none
  | succ n ih =>
    intro a0 a1 a2 a3
    rw [F_X12_familiesBut_4]
    refine pg_iload_n (i := 3) dX12_familiesBut_4 rfl 3 rfl ?_
    refine pg_aload_n (i := 0) dX12_familiesBut_5 rfl 0 rfl ?_
    refine pg_callV_oI (As := []) (rs := [pI a3]) dX12_familiesBut_6 lk_RX12_124 vy_X12_copies nd_X12_copies (c_X12_copies l D h a0) rfl rfl (Nat.le_of_ble_eq_true rfl) (by decide) (by decide) (fun v1 => ?_)
    refine pg_icmp_ge (tgt := 81) dX12_familiesBut_9 rfl ?_ ?_
    · refine pg_iload_n (i := 2) dX12_familiesBut_81 rfl 2 rfl ?_
      exact pg_iret dX12_familiesBut_82 rfl rfl
    · refine pg_iconst dX12_familiesBut_12 ci_0 ?_
      refine pg_istore (lv' := [(4, pI (0 : Int32)), (0, pR a0), (1, pI a1), (2, pI a2), (3, pI a3)]) dX12_familiesBut_13 (by decide) rfl ?_
      refine pg_iconst dX12_familiesBut_15 ci_0 ?_
      refine pg_istore (lv' := [(5, pI (0 : Int32)), (4, pI (0 : Int32)), (0, pR a0), (1, pI a1), (2, pI a2), (3, pI a3)]) dX12_familiesBut_16 (by decide) rfl ?_
      exact pg_to (e_X12_familiesBut_18 l D h (F_X12_familiesBut_4 h n) ih pg_fuel a0 a1 a2 a3 (0 : Int32) (0 : Int32)) [2, 3, 4, 5, 1, 0] rfl
theorem e_X12_familiesBut (l : Launch) (D : pg_D)  (h : pg_H) (a0 : Nat) (a1 : Int32) : pg_EvF l D RX12 cX12_familiesBut 6 (some FieldType.int) "familiesBut" 1 20 (pg_oI h) (F_X12_familiesBut h a0 a1) 0 [(0, pR a0), (1, pI a1)] [] h := by
  unfold F_X12_familiesBut
  refine pg_iconst dX12_familiesBut_0 ci_0 ?_
  refine pg_istore_n (i := 2) (lv' := [(2, pI (0 : Int32)), (0, pR a0), (1, pI a1)]) dX12_familiesBut_1 rfl (by decide) rfl ?_
  refine pg_iconst dX12_familiesBut_2 ci_0 ?_
  refine pg_istore_n (i := 3) (lv' := [(3, pI (0 : Int32)), (2, pI (0 : Int32)), (0, pR a0), (1, pI a1)]) dX12_familiesBut_3 rfl (by decide) rfl ?_
  exact pg_to (e_X12_familiesBut_4 l D h pg_fuel a0 a1 (0 : Int32) (0 : Int32)) [2, 3, 1, 0] rfl
theorem c_X12_familiesBut (l : Launch) (D : pg_D) (h : pg_H) (a0 : Nat) (a1 : Int32)  : ∀ x, F_X12_familiesBut h a0 a1 = some x → pg_Ct l D yX12_familiesBut cX12_familiesBut 6 (some FieldType.int) 1 20 [pR a0, pI a1] h (pg_oI h x) :=
  pg_Ct.of pn_RX12 (Nat.le_of_ble_eq_true rfl) (e_X12_familiesBut l D h a0 a1)
def F_X12_families (a0 : Nat) (h : pg_H) : Option (Int32 × pg_H) := Option.bind (pg_rcv 12 h a0 (F_X12_joinsAll a0 (-1 : Int32) h)) fun v1 => Option.bind (pg_rcv 12 v1 a0 (F_X12_familiesBut v1 a0 (-1 : Int32))) fun v2 => (some (v2, v1))
theorem e_X12_families (l : Launch) (D : pg_D)  (a0 : Nat) (h : pg_H) : pg_EvF l D RX12 cX12_families 1 (some FieldType.int) "families" 1307 33980 pg_wI (F_X12_families a0 h) 0 [(0, pR a0)] [] h := by
  unfold F_X12_families
  refine pg_aload_n (i := 0) dX12_families_0 rfl 0 rfl ?_
  refine pg_iconst dX12_families_1 ci_m1 ?_
  refine pg_callV_wV (As := [pI (-1 : Int32)]) (rs := []) dX12_families_2 lk_RX12_359 vy_X12_joinsAll nd_X12_joinsAll (c_X12_joinsAll l D a0 (-1 : Int32) h) rfl rfl (Nat.le_of_ble_eq_true rfl) (by decide) (by decide) (fun v1 => ?_)
  refine pg_aload_n (i := 0) dX12_families_5 rfl 0 rfl ?_
  refine pg_iconst dX12_families_6 ci_m1 ?_
  refine pg_callV_oI (As := [pI (-1 : Int32)]) (rs := []) dX12_families_7 lk_RX12_362 vy_X12_familiesBut nd_X12_familiesBut (c_X12_familiesBut l D v1 a0 (-1 : Int32)) rfl rfl (Nat.le_of_ble_eq_true rfl) (by decide) (by decide) (fun v2 => ?_)
  exact pg_iret dX12_families_10 rfl rfl
theorem c_X12_families (l : Launch) (D : pg_D) (a0 : Nat) (h : pg_H) : ∀ x, F_X12_families a0 h = some x → pg_Ct l D yX12_families cX12_families 1 (some FieldType.int) 1307 33980 [pR a0] h (pg_wI x) :=
  pg_Ct.of pn_RX12 (Nat.le_of_ble_eq_true rfl) (e_X12_families l D a0 h)
def F_X12_family (a0 : Nat) (a1 : Int32) (h : pg_H) : Option (Int32 × pg_H) := Option.bind (pg_rcv 12 h a0 (F_X12_isCopy h a0 a1)) fun v1 => (if v1 = 0 then (some ((-1 : Int32), h)) else Option.bind (pg_rcv 12 h a0 (F_X12_joinsAll a0 (-1 : Int32) h)) fun v2 => Option.bind (pg_gR 12 33 v2 a0) fun v3 => Option.bind (pg_aI 21 v2 v3 a1) fun v4 => (some (v4, v2)))
theorem e_X12_family (l : Launch) (D : pg_D)  (a0 : Nat) (a1 : Int32) (h : pg_H) : pg_EvF l D RX12 cX12_family 2 (some FieldType.int) "family" 1307 33980 pg_wI (F_X12_family a0 a1 h) 0 [(0, pR a0), (1, pI a1)] [] h := by
  unfold F_X12_family
  refine pg_aload_n (i := 0) dX12_family_0 rfl 0 rfl ?_
  refine pg_iload_n (i := 1) dX12_family_1 rfl 1 rfl ?_
  refine pg_callV_oI (As := [pI a1]) (rs := []) dX12_family_2 lk_RX12_128 vy_X12_isCopy nd_X12_isCopy (c_X12_isCopy l D h a0 a1) rfl rfl (Nat.le_of_ble_eq_true rfl) (by decide) (by decide) (fun v1 => ?_)
  refine pg_if_ne (tgt := 10) dX12_family_5 rfl ?_ ?_
  · refine pg_aload_n (i := 0) dX12_family_10 rfl 0 rfl ?_
    refine pg_iconst dX12_family_11 ci_m1 ?_
    refine pg_callV_wV (As := [pI (-1 : Int32)]) (rs := []) dX12_family_12 lk_RX12_359 vy_X12_joinsAll nd_X12_joinsAll (c_X12_joinsAll l D a0 (-1 : Int32) h) rfl rfl (Nat.le_of_ble_eq_true rfl) (by decide) (by decide) (fun v2 => ?_)
    refine pg_aload_n (i := 0) dX12_family_15 rfl 0 rfl ?_
    refine pg_getR dX12_family_16 fl_RX12_76 rfl (fun v3 => ?_)
    refine pg_iload_n (i := 1) dX12_family_19 rfl 1 rfl ?_
    refine pg_iaload dX12_family_20 (fun v4 => ?_)
    exact pg_iret dX12_family_21 rfl rfl
  · refine pg_iconst dX12_family_8 ci_m1 ?_
    exact pg_iret dX12_family_9 rfl rfl
theorem c_X12_family (l : Launch) (D : pg_D) (a0 : Nat) (a1 : Int32) (h : pg_H) : ∀ x, F_X12_family a0 a1 h = some x → pg_Ct l D yX12_family cX12_family 2 (some FieldType.int) 1307 33980 [pR a0, pI a1] h (pg_wI x) :=
  pg_Ct.of pn_RX12 (Nat.le_of_ble_eq_true rfl) (e_X12_family l D a0 a1 h)
