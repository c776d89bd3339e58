def F_X12_next_114 (h : pg_H) (k18 : Nat → Int32 → Int32 → Int32 → Int32 → Option Int32) (a0 : Nat) (a1 : Int32) (a2 : Int32) (a3 : Int32) (a4 : Int32) : Option Int32 := (k18 a0 a1 a2 a3 (a4 + (1 : Int32)))
def F_X12_next_108 (h : pg_H) (k18 : Nat → Int32 → Int32 → Int32 → Int32 → Option Int32) (a0 : Nat) (a1 : Int32) (a4 : Int32) (a5 : Int32) : Option Int32 := (F_X12_next_114 h k18 a0 a1 a4 a5 a4)
def F_X12_next_85 (h : pg_H) (k47 : Nat → Int32 → Int32 → Int32 → Int32 → Int32 → Int32 → Option Int32) (a0 : Nat) (a1 : Int32) (a2 : Int32) (a3 : Int32) (a4 : Int32) (a6 : Int32) (s0 : Int32) (s1 : Int32) : Option Int32 := pg_let (s1 + s0) fun v1 => (k47 a0 a1 a2 a3 a4 v1 (a6 + (1 : Int32)))
def F_X12_next_84 (h : pg_H) (k47 : Nat → Int32 → Int32 → Int32 → Int32 → Int32 → Int32 → Option Int32) (a0 : Nat) (a1 : Int32) (a2 : Int32) (a3 : Int32) (a4 : Int32) (a6 : Int32) (s0 : Int32) : Option Int32 := (F_X12_next_85 h k47 a0 a1 a2 a3 a4 a6 (0 : Int32) s0)
def F_X12_next_47 (h : pg_H) (k18 : Nat → Int32 → Int32 → Int32 → Int32 → Option Int32) : Nat → Nat → Int32 → Int32 → Int32 → Int32 → Int32 → Int32 → Option Int32
  | 0 => fun _ _ _ _ _ _ _ => none
  | n + 1 => fun a0 a1 a2 a3 a4 a5 a6 => Option.bind (pg_rcv 12 h a0 (F_X12_copies h a0)) fun v1 => (if a6 < v1 then Option.bind (pg_rcv 12 h a0 (F_X12_copyOf h a0 a6 (2 : Int32))) fun v2 => (if v2 = (1 : Int32) then Option.bind (pg_rcv 12 h a0 (F_X12_canMeet h a0 a4 a6)) fun v3 => (if v3 = 0 then (F_X12_next_84 h (F_X12_next_47 h k18 n) a0 a1 a2 a3 a4 a6 a5) else (F_X12_next_85 h (F_X12_next_47 h k18 n) a0 a1 a2 a3 a4 a6 (1 : Int32) a5)) else (F_X12_next_84 h (F_X12_next_47 h k18 n) a0 a1 a2 a3 a4 a6 a5)) else (if a2 = (-1 : Int32) then (F_X12_next_108 h k18 a0 a1 a4 a5) else (if a3 < a5 then (F_X12_next_108 h k18 a0 a1 a4 a5) else (F_X12_next_114 h k18 a0 a1 a2 a3 a4))))
def F_X12_next_18 (h : pg_H) : Nat → Nat → Int32 → Int32 → Int32 → Int32 → Option Int32
  | 0 => fun _ _ _ _ _ => none
  | n + 1 => fun a0 a1 a2 a3 a4 => Option.bind (pg_rcv 12 h a0 (F_X12_copies h a0)) fun v1 => (if a4 < v1 then Option.bind (pg_rcv 12 h a0 (F_X12_copyOf h a0 a4 (2 : Int32))) fun v2 => (if v2 = (1 : Int32) then (F_X12_next_114 h (F_X12_next_18 h n) a0 a1 a2 a3 a4) else (F_X12_next_47 h (F_X12_next_18 h n) pg_fuel a0 a1 a2 a3 a4 (0 : Int32) (0 : Int32))) else (if a2 = (-1 : Int32) then (some (-1 : Int32)) else (if a1 = 0 then (some a2) else (some a3))))
def F_X12_next (h : pg_H) (a0 : Nat) (a1 : Int32) : Option Int32 := Option.bind (F_X12_lies a1 (0 : Int32) (1 : Int32)) fun v1 => (if v1 = 0 then (some (-1 : Int32)) else (F_X12_next_18 h pg_fuel a0 a1 (-1 : Int32) (0 : Int32) (0 : Int32)))
theorem e_X12_next_114 (l : Launch) (D : pg_D)  (h : pg_H) (k18 : Nat → Int32 → Int32 → Int32 → Int32 → Option Int32) (hk18 : ∀ (a0 : Nat) (a1 : Int32) (a2 : Int32) (a3 : Int32) (a4 : Int32), pg_EvF l D RX12 cX12_next 7 (some FieldType.int) "next" 3 68 (pg_oI h) (k18 a0 a1 a2 a3 a4) 18 [(0, pR a0), (1, pI a1), (2, pI a2), (3, pI a3), (4, pI a4)] [] h) (a0 : Nat) (a1 : Int32) (a2 : Int32) (a3 : Int32) (a4 : Int32) : pg_EvF l D RX12 cX12_next 7 (some FieldType.int) "next" 3 68 (pg_oI h) (F_X12_next_114 h k18 a0 a1 a2 a3 a4) 114 [(0, pR a0), (1, pI a1), (2, pI a2), (3, pI a3), (4, pI a4)] [] h := by
  unfold F_X12_next_114
  refine pg_iinc (lv' := [(4, pI (a4 + (1 : Int32))), (0, pR a0), (1, pI a1), (2, pI a2), (3, pI a3)]) dX12_next_114 4 rfl ci_1 (by decide) rfl ?_
  refine pg_goto (tgt := 18) dX12_next_117 rfl ?_
  exact pg_to (hk18 a0 a1 a2 a3 (a4 + (1 : Int32))) [1, 2, 3, 4, 0] rfl
theorem e_X12_next_108 (l : Launch) (D : pg_D)  (h : pg_H) (k18 : Nat → Int32 → Int32 → Int32 → Int32 → Option Int32) (hk18 : ∀ (a0 : Nat) (a1 : Int32) (a2 : Int32) (a3 : Int32) (a4 : Int32), pg_EvF l D RX12 cX12_next 7 (some FieldType.int) "next" 3 68 (pg_oI h) (k18 a0 a1 a2 a3 a4) 18 [(0, pR a0), (1, pI a1), (2, pI a2), (3, pI a3), (4, pI a4)] [] h) (a0 : Nat) (a1 : Int32) (a4 : Int32) (a5 : Int32) : pg_EvF l D RX12 cX12_next 7 (some FieldType.int) "next" 3 68 (pg_oI h) (F_X12_next_108 h k18 a0 a1 a4 a5) 108 [(0, pR a0), (1, pI a1), (4, pI a4), (5, pI a5)] [] h := by
  unfold F_X12_next_108
  refine pg_iload dX12_next_108 2 rfl ?_
  refine pg_istore_n (i := 2) (lv' := [(2, pI a4), (0, pR a0), (1, pI a1), (4, pI a4), (5, pI a5)]) dX12_next_110 rfl (by decide) rfl ?_
  refine pg_iload dX12_next_111 4 rfl ?_
  refine pg_istore_n (i := 3) (lv' := [(3, pI a5), (2, pI a4), (0, pR a0), (1, pI a1), (4, pI a4), (5, pI a5)]) dX12_next_113 rfl (by decide) rfl ?_
  exact pg_to (e_X12_next_114 l D h k18 hk18 a0 a1 a4 a5 a4) [2, 3, 1, 0, 4] rfl
theorem e_X12_next_85 (l : Launch) (D : pg_D)  (h : pg_H) (k47 : Nat → Int32 → Int32 → Int32 → Int32 → Int32 → Int32 → Option Int32) (hk47 : ∀ (a0 : Nat) (a1 : Int32) (a2 : Int32) (a3 : Int32) (a4 : Int32) (a5 : Int32) (a6 : Int32), pg_EvF l D RX12 cX12_next 7 (some FieldType.int) "next" 3 68 (pg_oI h) (k47 a0 a1 a2 a3 a4 a5 a6) 47 [(0, pR a0), (1, pI a1), (2, pI a2), (3, pI a3), (4, pI a4), (5, pI a5), (6, pI a6)] [] h) (a0 : Nat) (a1 : Int32) (a2 : Int32) (a3 : Int32) (a4 : Int32) (a6 : Int32) (s0 : Int32) (s1 : Int32) : pg_EvF l D RX12 cX12_next 7 (some FieldType.int) "next" 3 68 (pg_oI h) (F_X12_next_85 h k47 a0 a1 a2 a3 a4 a6 s0 s1) 85 [(0, pR a0), (1, pI a1), (2, pI a2), (3, pI a3), (4, pI a4), (6, pI a6)] [pI s0, pI s1] h := by
  unfold F_X12_next_85
  refine pg_iadd dX12_next_85 ?_
  refine pg_letI (fun v1 => ?_)
  refine pg_istore (lv' := [(5, pI v1), (0, pR a0), (1, pI a1), (2, pI a2), (3, pI a3), (4, pI a4), (6, pI a6)]) dX12_next_86 (by decide) rfl ?_
  refine pg_iinc (lv' := [(6, pI (a6 + (1 : Int32))), (5, pI v1), (0, pR a0), (1, pI a1), (2, pI a2), (3, pI a3), (4, pI a4)]) dX12_next_88 6 rfl ci_1 (by decide) rfl ?_
  refine pg_goto (tgt := 47) dX12_next_91 rfl ?_
  exact pg_to (hk47 a0 a1 a2 a3 a4 v1 (a6 + (1 : Int32))) [2, 3, 4, 5, 6, 1, 0] rfl
theorem e_X12_next_84 (l : Launch) (D : pg_D)  (h : pg_H) (k47 : Nat → Int32 → Int32 → Int32 → Int32 → Int32 → Int32 → Option Int32) (hk47 : ∀ (a0 : Nat) (a1 : Int32) (a2 : Int32) (a3 : Int32) (a4 : Int32) (a5 : Int32) (a6 : Int32), pg_EvF l D RX12 cX12_next 7 (some FieldType.int) "next" 3 68 (pg_oI h) (k47 a0 a1 a2 a3 a4 a5 a6) 47 [(0, pR a0), (1, pI a1), (2, pI a2), (3, pI a3), (4, pI a4), (5, pI a5), (6, pI a6)] [] h) (a0 : Nat) (a1 : Int32) (a2 : Int32) (a3 : Int32) (a4 : Int32) (a6 : Int32) (s0 : Int32) : pg_EvF l D RX12 cX12_next 7 (some FieldType.int) "next" 3 68 (pg_oI h) (F_X12_next_84 h k47 a0 a1 a2 a3 a4 a6 s0) 84 [(0, pR a0), (1, pI a1), (2, pI a2), (3, pI a3), (4, pI a4), (6, pI a6)] [pI s0] h := by
  unfold F_X12_next_84
  refine pg_iconst dX12_next_84 ci_0 ?_
  exact pg_to (e_X12_next_85 l D h k47 hk47 a0 a1 a2 a3 a4 a6 (0 : Int32) s0) [0, 1, 2, 3, 4, 5] rfl
theorem e_X12_next_47 (l : Launch) (D : pg_D)  (h : pg_H) (k18 : Nat → Int32 → Int32 → Int32 → Int32 → Option Int32) (hk18 : ∀ (a0 : Nat) (a1 : Int32) (a2 : Int32) (a3 : Int32) (a4 : Int32), pg_EvF l D RX12 cX12_next 7 (some FieldType.int) "next" 3 68 (pg_oI h) (k18 a0 a1 a2 a3 a4) 18 [(0, pR a0), (1, pI a1), (2, pI a2), (3, pI a3), (4, pI a4)] [] h) : ∀ (n : Nat) (a0 : Nat) (a1 : Int32) (a2 : Int32) (a3 : Int32) (a4 : Int32) (a5 : Int32) (a6 : Int32), pg_EvF l D RX12 cX12_next 7 (some FieldType.int) "next" 3 68 (pg_oI h) (F_X12_next_47 h k18 n a0 a1 a2 a3 a4 a5 a6) 47 [(0, pR a0), (1, pI a1), (2, pI a2), (3, pI a3), (4, pI a4), (5, pI a5), (6, pI a6)] [] h := by
  intro n
  induction n with
  | zero => intro a0 a1 a2 a3 a4 a5 a6; exact pg_none
  | succ n ih =>
    intro a0 a1 a2 a3 a4 a5 a6
    rw [F_X12_next_47]
    refine pg_iload dX12_next_47 6 rfl ?_
    refine pg_aload_n (i := 0) dX12_next_49 rfl 0 rfl ?_
    refine pg_callV_oI (As := []) (rs := [pI a6]) dX12_next_50 lk_RX12_124 vy_X12_copies nd_X12_copies (c_X12_copies l D h a0) rfl rfl (Nat.le_of_ble_eq_true rfl) (by decide) (by decide) (fun v1 => ?_)
    refine pg_icmp_ge (tgt := 94) dX12_next_53 rfl ?_ ?_
    · refine pg_iload_n (i := 2) dX12_next_94 rfl 2 rfl ?_
      refine pg_iconst dX12_next_95 ci_m1 ?_
      refine pg_icmp_eq (tgt := 108) dX12_next_96 rfl ?_ ?_
      · exact pg_to (e_X12_next_108 l D h k18 hk18 a0 a1 a4 a5) [0, 1, 4, 5] rfl
      · refine pg_iload dX12_next_99 5 rfl ?_
        refine pg_iload_n (i := 3) dX12_next_101 rfl 3 rfl ?_
        refine pg_icmp_gt (tgt := 108) dX12_next_102 rfl ?_ ?_
        · exact pg_to (e_X12_next_108 l D h k18 hk18 a0 a1 a4 a5) [0, 1, 4, 5] rfl
        · refine pg_goto (tgt := 114) dX12_next_105 rfl ?_
          exact pg_to (e_X12_next_114 l D h k18 hk18 a0 a1 a2 a3 a4) [0, 1, 2, 3, 4] rfl
    · refine pg_iload dX12_next_56 5 rfl ?_
      refine pg_aload_n (i := 0) dX12_next_58 rfl 0 rfl ?_
      refine pg_iload dX12_next_59 6 rfl ?_
      refine pg_iconst dX12_next_61 ci_2 ?_
      refine pg_callV_oI (As := [pI a6, pI (2 : Int32)]) (rs := [pI a5]) dX12_next_62 lk_RX12_299 vy_X12_copyOf nd_X12_copyOf (c_X12_copyOf l D h a0 a6 (2 : Int32)) rfl rfl (Nat.le_of_ble_eq_true rfl) (by decide) (by decide) (fun v2 => ?_)
      refine pg_iconst dX12_next_65 ci_1 ?_
      refine pg_icmp_ne (tgt := 84) dX12_next_66 rfl ?_ ?_
      · exact pg_to (e_X12_next_84 l D h (F_X12_next_47 h k18 n) ih a0 a1 a2 a3 a4 a6 a5) [0, 1, 2, 3, 4, 6] rfl
      · refine pg_aload_n (i := 0) dX12_next_69 rfl 0 rfl ?_
        refine pg_iload dX12_next_70 4 rfl ?_
        refine pg_iload dX12_next_72 6 rfl ?_
        refine pg_callV_oI (As := [pI a4, pI a6]) (rs := [pI a5]) dX12_next_74 lk_RX12_317 vy_X12_canMeet nd_X12_canMeet (c_X12_canMeet l D h a0 a4 a6) rfl rfl (Nat.le_of_ble_eq_true rfl) (by decide) (by decide) (fun v3 => ?_)
        refine pg_if_eq (tgt := 84) dX12_next_77 rfl ?_ ?_
        · exact pg_to (e_X12_next_84 l D h (F_X12_next_47 h k18 n) ih a0 a1 a2 a3 a4 a6 a5) [0, 1, 2, 3, 4, 6] rfl
        · refine pg_iconst dX12_next_80 ci_1 ?_
          refine pg_goto (tgt := 85) dX12_next_81 rfl ?_
          exact pg_to (e_X12_next_85 l D h (F_X12_next_47 h k18 n) ih a0 a1 a2 a3 a4 a6 (1 : Int32) a5) [0, 1, 2, 3, 4, 6] rfl
theorem e_X12_next_18 (l : Launch) (D : pg_D)  (h : pg_H) : ∀ (n : Nat) (a0 : Nat) (a1 : Int32) (a2 : Int32) (a3 : Int32) (a4 : Int32), pg_EvF l D RX12 cX12_next 7 (some FieldType.int) "next" 3 68 (pg_oI h) (F_X12_next_18 h n a0 a1 a2 a3 a4) 18 [(0, pR a0), (1, pI a1), (2, pI a2), (3, pI a3), (4, pI a4)] [] h := by
  intro n
  induction n with
  | zero => intro a0 a1 a2 a3 a4; exact pg_none
  | succ n ih =>
    intro a0 a1 a2 a3 a4
    rw [F_X12_next_18]
    refine pg_iload dX12_next_18 4 rfl ?_
    refine pg_aload_n (i := 0) dX12_next_20 rfl 0 rfl ?_
    refine pg_callV_oI (As := []) (rs := [pI a4]) dX12_next_21 lk_RX12_124 vy_X12_copies nd_X12_copies (c_X12_copies l D h a0) rfl rfl (Nat.le_of_ble_eq_true rfl) (by decide) (by decide) (fun v1 => ?_)
    refine pg_icmp_ge (tgt := 120) dX12_next_24 rfl ?_ ?_
    · refine pg_iload_n (i := 2) dX12_next_120 rfl 2 rfl ?_
      refine pg_iconst dX12_next_121 ci_m1 ?_
      refine pg_icmp_ne (tgt := 129) dX12_next_122 rfl ?_ ?_
      · refine pg_iload_n (i := 1) dX12_next_129 rfl 1 rfl ?_
        refine pg_if_ne (tgt := 137) dX12_next_130 rfl ?_ ?_
        · refine pg_iload_n (i := 3) dX12_next_137 rfl 3 rfl ?_
          exact pg_iret dX12_next_138 rfl rfl
        · refine pg_iload_n (i := 2) dX12_next_133 rfl 2 rfl ?_
          refine pg_goto (tgt := 138) dX12_next_134 rfl ?_
          exact pg_iret dX12_next_138 rfl rfl
      · refine pg_iconst dX12_next_125 ci_m1 ?_
        refine pg_goto (tgt := 138) dX12_next_126 rfl ?_
        exact pg_iret dX12_next_138 rfl rfl
    · refine pg_aload_n (i := 0) dX12_next_27 rfl 0 rfl ?_
      refine pg_iload dX12_next_28 4 rfl ?_
      refine pg_iconst dX12_next_30 ci_2 ?_
      refine pg_callV_oI (As := [pI a4, pI (2 : Int32)]) (rs := []) dX12_next_31 lk_RX12_299 vy_X12_copyOf nd_X12_copyOf (c_X12_copyOf l D h a0 a4 (2 : Int32)) rfl rfl (Nat.le_of_ble_eq_true rfl) (by decide) (by decide) (fun v2 => ?_)
      refine pg_iconst dX12_next_34 ci_1 ?_
      refine pg_icmp_ne (tgt := 41) dX12_next_35 rfl ?_ ?_
      · refine pg_iconst dX12_next_41 ci_0 ?_
        refine pg_istore (lv' := [(5, pI (0 : Int32)), (0, pR a0), (1, pI a1), (2, pI a2), (3, pI a3), (4, pI a4)]) dX12_next_42 (by decide) rfl ?_
        refine pg_iconst dX12_next_44 ci_0 ?_
        refine pg_istore (lv' := [(6, pI (0 : Int32)), (5, pI (0 : Int32)), (0, pR a0), (1, pI a1), (2, pI a2), (3, pI a3), (4, pI a4)]) dX12_next_45 (by decide) rfl ?_
        exact pg_to (e_X12_next_47 l D h (F_X12_next_18 h n) ih pg_fuel a0 a1 a2 a3 a4 (0 : Int32) (0 : Int32)) [2, 3, 4, 5, 6, 1, 0] rfl
      · refine pg_goto (tgt := 114) dX12_next_38 rfl ?_
        exact pg_to (e_X12_next_114 l D h (F_X12_next_18 h n) ih a0 a1 a2 a3 a4) [0, 1, 2, 3, 4] rfl
theorem e_X12_next (l : Launch) (D : pg_D)  (h : pg_H) (a0 : Nat) (a1 : Int32) : pg_EvF l D RX12 cX12_next 7 (some FieldType.int) "next" 3 68 (pg_oI h) (F_X12_next h a0 a1) 0 [(0, pR a0), (1, pI a1)] [] h := by
  unfold F_X12_next
  refine pg_iload_n (i := 1) dX12_next_0 rfl 1 rfl ?_
  refine pg_iconst dX12_next_1 ci_0 ?_
  refine pg_iconst dX12_next_2 ci_1 ?_
  refine pg_callS_oI (As := [pI a1, pI (0 : Int32), pI (1 : Int32)]) (rs := []) dX12_next_3 lk_RX12_113 vy_X12_lies nd_X12_lies (c_X12_lies l D a1 (0 : Int32) (1 : Int32) h) rfl rfl (Nat.le_of_ble_eq_true rfl) (by decide) (by decide) (fun v1 => ?_)
  refine pg_if_ne (tgt := 11) dX12_next_6 rfl ?_ ?_
  · refine pg_iconst dX12_next_11 ci_m1 ?_
    refine pg_istore_n (i := 2) (lv' := [(2, pI (-1 : Int32)), (0, pR a0), (1, pI a1)]) dX12_next_12 rfl (by decide) rfl ?_
    refine pg_iconst dX12_next_13 ci_0 ?_
    refine pg_istore_n (i := 3) (lv' := [(3, pI (0 : Int32)), (2, pI (-1 : Int32)), (0, pR a0), (1, pI a1)]) dX12_next_14 rfl (by decide) rfl ?_
    refine pg_iconst dX12_next_15 ci_0 ?_
    refine pg_istore (lv' := [(4, pI (0 : Int32)), (3, pI (0 : Int32)), (2, pI (-1 : Int32)), (0, pR a0), (1, pI a1)]) dX12_next_16 (by decide) rfl ?_
    exact pg_to (e_X12_next_18 l D h pg_fuel a0 a1 (-1 : Int32) (0 : Int32) (0 : Int32)) [3, 4, 2, 1, 0] rfl
  · refine pg_iconst dX12_next_9 ci_m1 ?_
    exact pg_iret dX12_next_10 rfl rfl
theorem c_X12_next (l : Launch) (D : pg_D) (h : pg_H) (a0 : Nat) (a1 : Int32)  : ∀ x, F_X12_next h a0 a1 = some x → pg_Ct l D yX12_next cX12_next 7 (some FieldType.int) 3 68 [pR a0, pI a1] h (pg_oI h x) :=
  pg_Ct.of pn_RX12 (Nat.le_of_ble_eq_true rfl) (e_X12_next l D h a0 a1)
def F_X12_draws (a0 : Nat) (a1 : Int32) (h : pg_H) : Option (Int32 × pg_H) := Option.bind (pg_gI 12 45 h a0) fun v1 => (if (1000003 : Int64) = 0 then none else Option.bind (pg_pI 12 45 h a0 (((((1103 : Int64) * (v1).toInt64) + (12345 : Int64)) - (((1103 : Int64) * (v1).toInt64) + (12345 : Int64)) / (1000003 : Int64) * (1000003 : Int64))).toInt32) fun v2 => Option.bind (pg_gI 12 45 v2 a0) fun v3 => (if a1 = 0 then none else (some ((v3 - v3 / a1 * a1), v2))))
theorem e_X12_draws (l : Launch) (D : pg_D)  (a0 : Nat) (a1 : Int32) (h : pg_H) : pg_EvF l D RX12 cX12_draws 2 (some FieldType.int) "draws" 0 0 pg_wI (F_X12_draws a0 a1 h) 0 [(0, pR a0), (1, pI a1)] [] h := by
  unfold F_X12_draws
  refine pg_aload_n (i := 0) dX12_draws_0 rfl 0 rfl ?_
  refine pg_ldc2 (v := (1103 : Int64)) dX12_draws_1 kc_RX12_423 ?_
  refine pg_aload_n (i := 0) dX12_draws_4 rfl 0 rfl ?_
  refine pg_getI dX12_draws_5 fl_RX12_425 rfl (fun v1 => ?_)
  refine pg_i2l dX12_draws_8 ?_
  refine pg_lmul dX12_draws_9 ?_
  refine pg_ldc2 (v := (12345 : Int64)) dX12_draws_10 kc_RX12_428 ?_
  refine pg_ladd dX12_draws_13 ?_
  refine pg_ldc2 (v := (1000003 : Int64)) dX12_draws_14 kc_RX12_430 ?_
  refine pg_lrem dX12_draws_17 ?_
  refine pg_l2i dX12_draws_18 ?_
  refine pg_putI dX12_draws_19 fl_RX12_425 (fun z => by cases z) (fun v2 => ?_)
  refine pg_aload_n (i := 0) dX12_draws_22 rfl 0 rfl ?_
  refine pg_getI dX12_draws_23 fl_RX12_425 rfl (fun v3 => ?_)
  refine pg_iload_n (i := 1) dX12_draws_26 rfl 1 rfl ?_
  refine pg_irem dX12_draws_27 ?_
  exact pg_iret dX12_draws_28 rfl rfl
theorem c_X12_draws (l : Launch) (D : pg_D) (a0 : Nat) (a1 : Int32) (h : pg_H) : ∀ x, F_X12_draws a0 a1 h = some x → pg_Ct l D yX12_draws cX12_draws 2 (some FieldType.int) 0 0 [pR a0, pI a1] h (pg_wI x) :=
  pg_Ct.of pn_RX12 (Nat.le_of_ble_eq_true rfl) (e_X12_draws l D a0 a1 h)
def F_X12_draw_194 (k127 : Nat → Int32 → Int32 → Int32 → pg_H → Option pg_H) (a0 : Nat) (a1 : Int32) (a5 : Int32) (a6 : Int32) (h : pg_H) : Option pg_H := (k127 a0 a1 a5 (a6 + (1 : Int32)) h)
def F_X12_draw_127  : Nat → Nat → Int32 → Int32 → Int32 → pg_H → Option pg_H
  | 0 => fun _ _ _ _ _ => none
  | n + 1 => fun a0 a1 a5 a6 h => (if a6 < (12 : Int32) then Option.bind (pg_rcv 12 h a0 (F_X12_asksCopy a0 a1 a6 h)) fun v1 => Option.bind (pg_rcv 12 v1 a0 (F_X12_hundredth a0 (5 : Int32) v1)) fun v2 => Option.bind (pg_rcv 12 v2.2 a0 (F_X12_draws a0 (100 : Int32) v2.2)) fun v3 => (if v3.1 < v2.1 then Option.bind (pg_gR 12 41 v3.2 a0) fun v4 => Option.bind (pg_gR 12 42 v3.2 a0) fun v5 => Option.bind (pg_aI 21 v3.2 v5 a1) fun v6 => Option.bind (pg_sI 21 v3.2 v4 (((144 : Int32) * a1) + v6) a5) fun v7 => Option.bind (pg_gR 12 42 v7 a0) fun v8 => Option.bind (pg_aI 21 v7 v8 a1) fun v9 => Option.bind (pg_sI 21 v7 v8 a1 (v9 + (1 : Int32))) fun v10 => (F_X12_draw_194 (F_X12_draw_127 n) a0 a1 (a5 + (1 : Int32)) a6 v10) else (F_X12_draw_194 (F_X12_draw_127 n) a0 a1 a5 a6 v3.2)) else (some h))
def F_X12_draw_109 (a0 : Nat) (a1 : Int32) (a2 : Int32) (h : pg_H) : Option pg_H := Option.bind (pg_gR 12 43 h a0) fun v1 => Option.bind (pg_gR 12 42 h a0) fun v2 => Option.bind (pg_aI 21 h v2 a1) fun v3 => Option.bind (pg_sI 21 h v1 a1 v3) fun v4 => (F_X12_draw_127 pg_fuel a0 a1 a2 (0 : Int32) v4)
def F_X12_draw_103 (k30 : Nat → Int32 → Int32 → Int32 → Int32 → Int32 → pg_H → Option pg_H) (a0 : Nat) (a1 : Int32) (a2 : Int32) (a3 : Int32) (a4 : Int32) (a5 : Int32) (h : pg_H) : Option pg_H := (k30 a0 a1 a2 a3 a4 (a5 + (1 : Int32)) h)
def F_X12_draw_30  : Nat → Nat → Int32 → Int32 → Int32 → Int32 → Int32 → pg_H → Option pg_H
  | 0 => fun _ _ _ _ _ _ _ => none
  | n + 1 => fun a0 a1 a2 a3 a4 a5 h => (if a4 = (12 : Int32) then (F_X12_draw_109 a0 a1 a2 h) else Option.bind (pg_gR 12 42 h a0) fun v1 => Option.bind (pg_aI 21 h v1 a4) fun v2 => (if a5 < v2 then Option.bind (pg_rcv 12 h a0 (F_X12_draws a0 (100 : Int32) h)) fun v3 => (if v3.1 < a3 then Option.bind (pg_gR 12 41 v3.2 a0) fun v4 => Option.bind (pg_gR 12 42 v3.2 a0) fun v5 => Option.bind (pg_aI 21 v3.2 v5 a1) fun v6 => Option.bind (pg_gR 12 41 v3.2 a0) fun v7 => Option.bind (pg_aI 21 v3.2 v7 (((144 : Int32) * a4) + a5)) fun v8 => Option.bind (pg_sI 21 v3.2 v4 (((144 : Int32) * a1) + v6) v8) fun v9 => Option.bind (pg_gR 12 42 v9 a0) fun v10 => Option.bind (pg_aI 21 v9 v10 a1) fun v11 => Option.bind (pg_sI 21 v9 v10 a1 (v11 + (1 : Int32))) fun v12 => (F_X12_draw_103 (F_X12_draw_30 n) a0 a1 a2 a3 a4 a5 v12) else (F_X12_draw_103 (F_X12_draw_30 n) a0 a1 a2 a3 a4 a5 v3.2)) else (F_X12_draw_109 a0 a1 a2 h)))
def F_X12_draw (a0 : Nat) (a1 : Int32) (a2 : Int32) (h : pg_H) : Option pg_H := Option.bind (pg_rcv 12 h a0 (F_X12_asksCopy a0 a1 (0 : Int32) h)) fun v1 => Option.bind (pg_rcv 12 v1 a0 (F_X12_hundredth a0 (4 : Int32) v1)) fun v2 => Option.bind (pg_gR 12 29 v2.2 a0) fun v3 => Option.bind (pg_aI 21 v2.2 v3 a1) fun v4 => Option.bind (pg_gR 12 42 v2.2 a0) fun v5 => Option.bind (pg_sI 21 v2.2 v5 a1 (0 : Int32)) fun v6 => (F_X12_draw_30 pg_fuel a0 a1 a2 v2.1 v4 (0 : Int32) v6)
theorem e_X12_draw_194 (l : Launch) (D : pg_D)  (k127 : Nat → Int32 → Int32 → Int32 → pg_H → Option pg_H) (hk127 : ∀ (a0 : Nat) (a1 : Int32) (a5 : Int32) (a6 : Int32) (h : pg_H), pg_EvF l D RX12 cX12_draw 8 none "draw" 1305 33934 pg_wV (k127 a0 a1 a5 a6 h) 127 [(0, pR a0), (1, pI a1), (5, pI a5), (6, pI a6)] [] h) (a0 : Nat) (a1 : Int32) (a5 : Int32) (a6 : Int32) (h : pg_H) : pg_EvF l D RX12 cX12_draw 8 none "draw" 1305 33934 pg_wV (F_X12_draw_194 k127 a0 a1 a5 a6 h) 194 [(0, pR a0), (1, pI a1), (5, pI a5), (6, pI a6)] [] h := by
  unfold F_X12_draw_194
  refine pg_iinc (lv' := [(6, pI (a6 + (1 : Int32))), (0, pR a0), (1, pI a1), (5, pI a5)]) dX12_draw_194 3 rfl ci_1 (by decide) rfl ?_
  refine pg_goto (tgt := 127) dX12_draw_197 rfl ?_
  exact pg_to (hk127 a0 a1 a5 (a6 + (1 : Int32)) h) [1, 2, 3, 0] rfl
theorem e_X12_draw_127 (l : Launch) (D : pg_D)   : ∀ (n : Nat) (a0 : Nat) (a1 : Int32) (a5 : Int32) (a6 : Int32) (h : pg_H), pg_EvF l D RX12 cX12_draw 8 none "draw" 1305 33934 pg_wV (F_X12_draw_127 n a0 a1 a5 a6 h) 127 [(0, pR a0), (1, pI a1), (5, pI a5), (6, pI a6)] [] h := by
  intro n
  induction n with
  | zero => intro a0 a1 a5 a6 h; exact pg_none
  | succ n ih =>
    intro a0 a1 a5 a6 h
    rw [F_X12_draw_127]
    refine pg_iload dX12_draw_127 3 rfl ?_
    refine pg_bipush dX12_draw_129 cb_12 ?_
    refine pg_icmp_ge (tgt := 200) dX12_draw_131 rfl ?_ ?_
    · exact pg_vret dX12_draw_200 rfl rfl
    · refine pg_aload_n (i := 0) dX12_draw_134 rfl 0 rfl ?_
      refine pg_iload_n (i := 1) dX12_draw_135 rfl 1 rfl ?_
      refine pg_iload dX12_draw_136 3 rfl ?_
      refine pg_callV_wV (As := [pI a1, pI a6]) (rs := []) dX12_draw_138 lk_RX12_404 vy_X12_asksCopy nd_X12_asksCopy (c_X12_asksCopy l D a0 a1 a6 h) rfl rfl (Nat.le_of_ble_eq_true rfl) (by decide) (by decide) (fun v1 => ?_)
      refine pg_aload_n (i := 0) dX12_draw_141 rfl 0 rfl ?_
      refine pg_iconst dX12_draw_142 ci_5 ?_
      refine pg_callV_wI (As := [pI (5 : Int32)]) (rs := []) dX12_draw_143 lk_RX12_407 vy_X12_hundredth nd_X12_hundredth (c_X12_hundredth l D a0 (5 : Int32) v1) rfl rfl (Nat.le_of_ble_eq_true rfl) (by decide) (by decide) (fun v2 => ?_)
      refine pg_istore (lv' := [(7, pI v2.1), (0, pR a0), (1, pI a1), (5, pI a5), (6, pI a6)]) dX12_draw_146 (by decide) rfl ?_
      refine pg_aload_n (i := 0) dX12_draw_148 rfl 1 rfl ?_
      refine pg_bipush dX12_draw_149 cb_100 ?_
      refine pg_callV_wI (As := [pI (100 : Int32)]) (rs := []) dX12_draw_151 lk_RX12_432 vy_X12_draws nd_X12_draws (c_X12_draws l D a0 (100 : Int32) v2.2) rfl rfl (Nat.le_of_ble_eq_true rfl) (by decide) (by decide) (fun v3 => ?_)
      refine pg_iload dX12_draw_154 0 rfl ?_
      refine pg_icmp_lt (tgt := 162) dX12_draw_156 rfl ?_ ?_
      · refine pg_aload_n (i := 0) dX12_draw_162 rfl 1 rfl ?_
        refine pg_getR dX12_draw_163 fl_RX12_101 rfl (fun v4 => ?_)
        refine pg_sipush dX12_draw_166 cs_144 ?_
        refine pg_iload_n (i := 1) dX12_draw_169 rfl 2 rfl ?_
        refine pg_imul dX12_draw_170 ?_
        refine pg_aload_n (i := 0) dX12_draw_171 rfl 1 rfl ?_
        refine pg_getR dX12_draw_172 fl_RX12_104 rfl (fun v5 => ?_)
        refine pg_iload_n (i := 1) dX12_draw_175 rfl 2 rfl ?_
        refine pg_iaload dX12_draw_176 (fun v6 => ?_)
        refine pg_iadd dX12_draw_177 ?_
        refine pg_iload dX12_draw_178 3 rfl ?_
        refine pg_iastore dX12_draw_180 (fun v7 => ?_)
        refine pg_aload_n (i := 0) dX12_draw_181 rfl 1 rfl ?_
        refine pg_getR dX12_draw_182 fl_RX12_104 rfl (fun v8 => ?_)
        refine pg_iload_n (i := 1) dX12_draw_185 rfl 2 rfl ?_
        refine pg_dup2 dX12_draw_186 rfl rfl ?_
        refine pg_iaload dX12_draw_187 (fun v9 => ?_)
        refine pg_iconst dX12_draw_188 ci_1 ?_
        refine pg_iadd dX12_draw_189 ?_
        refine pg_iastore dX12_draw_190 (fun v10 => ?_)
        refine pg_iinc (lv' := [(5, pI (a5 + (1 : Int32))), (7, pI v2.1), (0, pR a0), (1, pI a1), (6, pI a6)]) dX12_draw_191 3 rfl ci_1 (by decide) rfl ?_
        exact pg_to (e_X12_draw_194 l D (F_X12_draw_127 n) ih a0 a1 (a5 + (1 : Int32)) a6 v10) [2, 3, 0, 4] rfl
      · refine pg_goto (tgt := 194) dX12_draw_159 rfl ?_
        exact pg_to (e_X12_draw_194 l D (F_X12_draw_127 n) ih a0 a1 a5 a6 v3.2) [1, 2, 3, 4] rfl
theorem e_X12_draw_109 (l : Launch) (D : pg_D)  (a0 : Nat) (a1 : Int32) (a2 : Int32) (h : pg_H) : pg_EvF l D RX12 cX12_draw 8 none "draw" 1305 33934 pg_wV (F_X12_draw_109 a0 a1 a2 h) 109 [(0, pR a0), (1, pI a1), (2, pI a2)] [] h := by
  unfold F_X12_draw_109
  refine pg_aload_n (i := 0) dX12_draw_109 rfl 0 rfl ?_
  refine pg_getR dX12_draw_110 fl_RX12_107 rfl (fun v1 => ?_)
  refine pg_iload_n (i := 1) dX12_draw_113 rfl 1 rfl ?_
  refine pg_aload_n (i := 0) dX12_draw_114 rfl 0 rfl ?_
  refine pg_getR dX12_draw_115 fl_RX12_104 rfl (fun v2 => ?_)
  refine pg_iload_n (i := 1) dX12_draw_118 rfl 1 rfl ?_
  refine pg_iaload dX12_draw_119 (fun v3 => ?_)
  refine pg_iastore dX12_draw_120 (fun v4 => ?_)
  refine pg_iload_n (i := 2) dX12_draw_121 rfl 2 rfl ?_
  refine pg_istore (lv' := [(5, pI a2), (0, pR a0), (1, pI a1), (2, pI a2)]) dX12_draw_122 (by decide) rfl ?_
  refine pg_iconst dX12_draw_124 ci_0 ?_
  refine pg_istore (lv' := [(6, pI (0 : Int32)), (5, pI a2), (0, pR a0), (1, pI a1), (2, pI a2)]) dX12_draw_125 (by decide) rfl ?_
  exact pg_to (e_X12_draw_127 l D pg_fuel a0 a1 a2 (0 : Int32) v4) [2, 3, 1, 0] rfl
theorem e_X12_draw_103 (l : Launch) (D : pg_D)  (k30 : Nat → Int32 → Int32 → Int32 → Int32 → Int32 → pg_H → Option pg_H) (hk30 : ∀ (a0 : Nat) (a1 : Int32) (a2 : Int32) (a3 : Int32) (a4 : Int32) (a5 : Int32) (h : pg_H), pg_EvF l D RX12 cX12_draw 8 none "draw" 1305 33934 pg_wV (k30 a0 a1 a2 a3 a4 a5 h) 30 [(0, pR a0), (1, pI a1), (2, pI a2), (3, pI a3), (4, pI a4), (5, pI a5)] [] h) (a0 : Nat) (a1 : Int32) (a2 : Int32) (a3 : Int32) (a4 : Int32) (a5 : Int32) (h : pg_H) : pg_EvF l D RX12 cX12_draw 8 none "draw" 1305 33934 pg_wV (F_X12_draw_103 k30 a0 a1 a2 a3 a4 a5 h) 103 [(0, pR a0), (1, pI a1), (2, pI a2), (3, pI a3), (4, pI a4), (5, pI a5)] [] h := by
  unfold F_X12_draw_103
  refine pg_iinc (lv' := [(5, pI (a5 + (1 : Int32))), (0, pR a0), (1, pI a1), (2, pI a2), (3, pI a3), (4, pI a4)]) dX12_draw_103 5 rfl ci_1 (by decide) rfl ?_
  refine pg_goto (tgt := 30) dX12_draw_106 rfl ?_
  exact pg_to (hk30 a0 a1 a2 a3 a4 (a5 + (1 : Int32)) h) [1, 2, 3, 4, 5, 0] rfl
theorem e_X12_draw_30 (l : Launch) (D : pg_D)   : ∀ (n : Nat) (a0 : Nat) (a1 : Int32) (a2 : Int32) (a3 : Int32) (a4 : Int32) (a5 : Int32) (h : pg_H), pg_EvF l D RX12 cX12_draw 8 none "draw" 1305 33934 pg_wV (F_X12_draw_30 n a0 a1 a2 a3 a4 a5 h) 30 [(0, pR a0), (1, pI a1), (2, pI a2), (3, pI a3), (4, pI a4), (5, pI a5)] [] h := by
  intro n
  induction n with
  | zero => intro a0 a1 a2 a3 a4 a5 h; exact pg_none
  | succ n ih =>
    intro a0 a1 a2 a3 a4 a5 h
    rw [F_X12_draw_30]
    refine pg_iload dX12_draw_30 4 rfl ?_
    refine pg_bipush dX12_draw_32 cb_12 ?_
    refine pg_icmp_eq (tgt := 109) dX12_draw_34 rfl ?_ ?_
    · exact pg_to (e_X12_draw_109 l D a0 a1 a2 h) [0, 1, 2] rfl
    · refine pg_iload dX12_draw_37 5 rfl ?_
      refine pg_aload_n (i := 0) dX12_draw_39 rfl 0 rfl ?_
      refine pg_getR dX12_draw_40 fl_RX12_104 rfl (fun v1 => ?_)
      refine pg_iload dX12_draw_43 4 rfl ?_
      refine pg_iaload dX12_draw_45 (fun v2 => ?_)
      refine pg_icmp_ge (tgt := 109) dX12_draw_46 rfl ?_ ?_
      · exact pg_to (e_X12_draw_109 l D a0 a1 a2 h) [0, 1, 2] rfl
      · refine pg_aload_n (i := 0) dX12_draw_49 rfl 0 rfl ?_
        refine pg_bipush dX12_draw_50 cb_100 ?_
        refine pg_callV_wI (As := [pI (100 : Int32)]) (rs := []) dX12_draw_52 lk_RX12_432 vy_X12_draws nd_X12_draws (c_X12_draws l D a0 (100 : Int32) h) rfl rfl (Nat.le_of_ble_eq_true rfl) (by decide) (by decide) (fun v3 => ?_)
        refine pg_iload_n (i := 3) dX12_draw_55 rfl 3 rfl ?_
        refine pg_icmp_lt (tgt := 62) dX12_draw_56 rfl ?_ ?_
        · refine pg_aload_n (i := 0) dX12_draw_62 rfl 0 rfl ?_
          refine pg_getR dX12_draw_63 fl_RX12_101 rfl (fun v4 => ?_)
          refine pg_sipush dX12_draw_66 cs_144 ?_
          refine pg_iload_n (i := 1) dX12_draw_69 rfl 1 rfl ?_
          refine pg_imul dX12_draw_70 ?_
          refine pg_aload_n (i := 0) dX12_draw_71 rfl 0 rfl ?_
          refine pg_getR dX12_draw_72 fl_RX12_104 rfl (fun v5 => ?_)
          refine pg_iload_n (i := 1) dX12_draw_75 rfl 1 rfl ?_
          refine pg_iaload dX12_draw_76 (fun v6 => ?_)
          refine pg_iadd dX12_draw_77 ?_
          refine pg_aload_n (i := 0) dX12_draw_78 rfl 0 rfl ?_
          refine pg_getR dX12_draw_79 fl_RX12_101 rfl (fun v7 => ?_)
          refine pg_sipush dX12_draw_82 cs_144 ?_
          refine pg_iload dX12_draw_85 4 rfl ?_
          refine pg_imul dX12_draw_87 ?_
          refine pg_iload dX12_draw_88 5 rfl ?_
          refine pg_iadd dX12_draw_90 ?_
          refine pg_iaload dX12_draw_91 (fun v8 => ?_)
          refine pg_iastore dX12_draw_92 (fun v9 => ?_)
          refine pg_aload_n (i := 0) dX12_draw_93 rfl 0 rfl ?_
          refine pg_getR dX12_draw_94 fl_RX12_104 rfl (fun v10 => ?_)
          refine pg_iload_n (i := 1) dX12_draw_97 rfl 1 rfl ?_
          refine pg_dup2 dX12_draw_98 rfl rfl ?_
          refine pg_iaload dX12_draw_99 (fun v11 => ?_)
          refine pg_iconst dX12_draw_100 ci_1 ?_
          refine pg_iadd dX12_draw_101 ?_
          refine pg_iastore dX12_draw_102 (fun v12 => ?_)
          exact pg_to (e_X12_draw_103 l D (F_X12_draw_30 n) ih a0 a1 a2 a3 a4 a5 v12) [0, 1, 2, 3, 4, 5] rfl
        · refine pg_goto (tgt := 103) dX12_draw_59 rfl ?_
          exact pg_to (e_X12_draw_103 l D (F_X12_draw_30 n) ih a0 a1 a2 a3 a4 a5 v3.2) [0, 1, 2, 3, 4, 5] rfl
theorem e_X12_draw (l : Launch) (D : pg_D)  (a0 : Nat) (a1 : Int32) (a2 : Int32) (h : pg_H) : pg_EvF l D RX12 cX12_draw 8 none "draw" 1305 33934 pg_wV (F_X12_draw a0 a1 a2 h) 0 [(0, pR a0), (1, pI a1), (2, pI a2)] [] h := by
  unfold F_X12_draw
  refine pg_aload_n (i := 0) dX12_draw_0 rfl 0 rfl ?_
  refine pg_iload_n (i := 1) dX12_draw_1 rfl 1 rfl ?_
  refine pg_iconst dX12_draw_2 ci_0 ?_
  refine pg_callV_wV (As := [pI a1, pI (0 : Int32)]) (rs := []) dX12_draw_3 lk_RX12_404 vy_X12_asksCopy nd_X12_asksCopy (c_X12_asksCopy l D a0 a1 (0 : Int32) h) rfl rfl (Nat.le_of_ble_eq_true rfl) (by decide) (by decide) (fun v1 => ?_)
  refine pg_aload_n (i := 0) dX12_draw_6 rfl 0 rfl ?_
  refine pg_iconst dX12_draw_7 ci_4 ?_
  refine pg_callV_wI (As := [pI (4 : Int32)]) (rs := []) dX12_draw_8 lk_RX12_407 vy_X12_hundredth nd_X12_hundredth (c_X12_hundredth l D a0 (4 : Int32) v1) rfl rfl (Nat.le_of_ble_eq_true rfl) (by decide) (by decide) (fun v2 => ?_)
  refine pg_istore_n (i := 3) (lv' := [(3, pI v2.1), (0, pR a0), (1, pI a1), (2, pI a2)]) dX12_draw_11 rfl (by decide) rfl ?_
  refine pg_aload_n (i := 0) dX12_draw_12 rfl 1 rfl ?_
  refine pg_getR dX12_draw_13 fl_RX12_67 rfl (fun v3 => ?_)
  refine pg_iload_n (i := 1) dX12_draw_16 rfl 2 rfl ?_
  refine pg_iaload dX12_draw_17 (fun v4 => ?_)
  refine pg_istore (lv' := [(4, pI v4), (3, pI v2.1), (0, pR a0), (1, pI a1), (2, pI a2)]) dX12_draw_18 (by decide) rfl ?_
  refine pg_aload_n (i := 0) dX12_draw_20 rfl 2 rfl ?_
  refine pg_getR dX12_draw_21 fl_RX12_104 rfl (fun v5 => ?_)
  refine pg_iload_n (i := 1) dX12_draw_24 rfl 3 rfl ?_
  refine pg_iconst dX12_draw_25 ci_0 ?_
  refine pg_iastore dX12_draw_26 (fun v6 => ?_)
  refine pg_iconst dX12_draw_27 ci_0 ?_
  refine pg_istore (lv' := [(5, pI (0 : Int32)), (4, pI v4), (3, pI v2.1), (0, pR a0), (1, pI a1), (2, pI a2)]) dX12_draw_28 (by decide) rfl ?_
  exact pg_to (e_X12_draw_30 l D pg_fuel a0 a1 a2 v2.1 v4 (0 : Int32) v6) [3, 4, 5, 2, 1, 0] rfl
theorem c_X12_draw (l : Launch) (D : pg_D) (a0 : Nat) (a1 : Int32) (a2 : Int32) (h : pg_H) : ∀ x, F_X12_draw a0 a1 a2 h = some x → pg_Ct l D yX12_draw cX12_draw 8 none 1305 33934 [pR a0, pI a1, pI a2] h (pg_wV x) :=
  pg_Ct.of pn_RX12 (Nat.le_of_ble_eq_true rfl) (e_X12_draw l D a0 a1 a2 h)
def F_X12_run_88 (k52 : Nat → Int32 → Int32 → Int32 → Int32 → pg_H → Option (Int32 × pg_H)) (a0 : Nat) (a2 : Int32) (a3 : Int32) (a4 : Int32) (a5 : Int32) (h : pg_H) : Option (Int32 × pg_H) := (k52 a0 a2 a3 a4 (a5 + (1 : Int32)) h)
def F_X12_run_94 (k40 : Nat → Int32 → Int32 → Int32 → pg_H → Option (Int32 × pg_H)) (a0 : Nat) (a2 : Int32) (a3 : Int32) (a4 : Int32) (a5 : Int32) (h : pg_H) : Option (Int32 × pg_H) := Option.bind (pg_rcv 12 h a0 (F_X12_draw a0 a5 ((12 : Int32) * a4) h)) fun v1 => pg_let (a2 ||| ((1 : Int32) <<< (a5 &&& 31))) fun v2 => Option.bind (pg_gR 12 42 v1 a0) fun v3 => Option.bind (pg_aI 21 v1 v3 a5) fun v4 => pg_let (a3 + v4) fun v5 => (k40 a0 v2 v5 (a4 + (1 : Int32)) v1)
def F_X12_run_52 (k40 : Nat → Int32 → Int32 → Int32 → pg_H → Option (Int32 × pg_H)) : Nat → Nat → Int32 → Int32 → Int32 → Int32 → pg_H → Option (Int32 × pg_H)
  | 0 => fun _ _ _ _ _ _ => none
  | n + 1 => fun a0 a2 a3 a4 a5 h => (if ((a2 >>> (a5 &&& 31)) &&& (1 : Int32)) = (1 : Int32) then (F_X12_run_88 (F_X12_run_52 k40 n) a0 a2 a3 a4 a5 h) else Option.bind (pg_gR 12 29 h a0) fun v1 => Option.bind (pg_aI 21 h v1 a5) fun v2 => (if v2 = (12 : Int32) then (F_X12_run_94 k40 a0 a2 a3 a4 a5 h) else Option.bind (pg_gR 12 29 h a0) fun v3 => Option.bind (pg_aI 21 h v3 a5) fun v4 => (if ((a2 >>> (v4 &&& 31)) &&& (1 : Int32)) = 0 then (F_X12_run_88 (F_X12_run_52 k40 n) a0 a2 a3 a4 a5 h) else (F_X12_run_94 k40 a0 a2 a3 a4 a5 h))))
def F_X12_run_40  : Nat → Nat → Int32 → Int32 → Int32 → pg_H → Option (Int32 × pg_H)
  | 0 => fun _ _ _ _ _ => none
  | n + 1 => fun a0 a2 a3 a4 h => Option.bind (pg_gI 12 44 h a0) fun v1 => (if a4 < v1 then (F_X12_run_52 (F_X12_run_40 n) pg_fuel a0 a2 a3 a4 (0 : Int32) h) else Option.bind (pg_rcv 12 h a0 (F_X12_good a0 a3 h)) fun v2 => (some (v2.1, v2.2)))
def F_X12_run (a0 : Nat) (a1 : Int32) (h : pg_H) : Option (Int32 × pg_H) := Option.bind (F_X12_lies a1 (0 : Int32) (1000000 : Int32)) fun v1 => (if v1 = 0 then Option.bind (pg_rcv 12 h a0 (F_X12_refuses a0 (-1 : Int32) h)) fun v6 => (some (v6.1, v6.2)) else Option.bind (pg_rcv 12 h a0 (F_X12_grows a0 h)) fun v2 => Option.bind (pg_pI 12 45 v2 a0 a1) fun v3 => Option.bind (pg_rcv 12 v3 a0 (F_X12_copies v3 a0)) fun v4 => Option.bind (pg_pI 12 44 v3 a0 v4) fun v5 => (F_X12_run_40 pg_fuel a0 (0 : Int32) (0 : Int32) (0 : Int32) v5))
theorem e_X12_run_88 (l : Launch) (D : pg_D)  (k52 : Nat → Int32 → Int32 → Int32 → Int32 → pg_H → Option (Int32 × pg_H)) (hk52 : ∀ (a0 : Nat) (a2 : Int32) (a3 : Int32) (a4 : Int32) (a5 : Int32) (h : pg_H), pg_EvF l D RX12 cX12_run 6 (some FieldType.int) "run" 1308 34003 pg_wI (k52 a0 a2 a3 a4 a5 h) 52 [(0, pR a0), (2, pI a2), (3, pI a3), (4, pI a4), (5, pI a5)] [] h) (a0 : Nat) (a2 : Int32) (a3 : Int32) (a4 : Int32) (a5 : Int32) (h : pg_H) : pg_EvF l D RX12 cX12_run 6 (some FieldType.int) "run" 1308 34003 pg_wI (F_X12_run_88 k52 a0 a2 a3 a4 a5 h) 88 [(0, pR a0), (2, pI a2), (3, pI a3), (4, pI a4), (5, pI a5)] [] h := by
  unfold F_X12_run_88
  refine pg_iinc (lv' := [(5, pI (a5 + (1 : Int32))), (0, pR a0), (2, pI a2), (3, pI a3), (4, pI a4)]) dX12_run_88 4 rfl ci_1 (by decide) rfl ?_
  refine pg_goto (tgt := 52) dX12_run_91 rfl ?_
  exact pg_to (hk52 a0 a2 a3 a4 (a5 + (1 : Int32)) h) [1, 2, 3, 4, 0] rfl
theorem e_X12_run_94 (l : Launch) (D : pg_D)  (k40 : Nat → Int32 → Int32 → Int32 → pg_H → Option (Int32 × pg_H)) (hk40 : ∀ (a0 : Nat) (a2 : Int32) (a3 : Int32) (a4 : Int32) (h : pg_H), pg_EvF l D RX12 cX12_run 6 (some FieldType.int) "run" 1308 34003 pg_wI (k40 a0 a2 a3 a4 h) 40 [(0, pR a0), (2, pI a2), (3, pI a3), (4, pI a4)] [] h) (a0 : Nat) (a2 : Int32) (a3 : Int32) (a4 : Int32) (a5 : Int32) (h : pg_H) : pg_EvF l D RX12 cX12_run 6 (some FieldType.int) "run" 1308 34003 pg_wI (F_X12_run_94 k40 a0 a2 a3 a4 a5 h) 94 [(0, pR a0), (2, pI a2), (3, pI a3), (4, pI a4), (5, pI a5)] [] h := by
  unfold F_X12_run_94
  refine pg_aload_n (i := 0) dX12_run_94 rfl 0 rfl ?_
  refine pg_iload dX12_run_95 4 rfl ?_
  refine pg_bipush dX12_run_97 cb_12 ?_
  refine pg_iload dX12_run_99 3 rfl ?_
  refine pg_imul dX12_run_101 ?_
  refine pg_callV_wV (As := [pI a5, pI ((12 : Int32) * a4)]) (rs := []) dX12_run_102 lk_RX12_435 vy_X12_draw nd_X12_draw (c_X12_draw l D a0 a5 ((12 : Int32) * a4) h) rfl rfl (Nat.le_of_ble_eq_true rfl) (by decide) (by decide) (fun v1 => ?_)
  refine pg_iload_n (i := 2) dX12_run_105 rfl 1 rfl ?_
  refine pg_iconst dX12_run_106 ci_1 ?_
  refine pg_iload dX12_run_107 4 rfl ?_
  refine pg_ishl dX12_run_109 ?_
  refine pg_ior dX12_run_110 ?_
  refine pg_letI (fun v2 => ?_)
  refine pg_istore_n (i := 2) (lv' := [(2, pI v2), (0, pR a0), (3, pI a3), (4, pI a4), (5, pI a5)]) dX12_run_111 rfl (by decide) rfl ?_
  refine pg_iload_n (i := 3) dX12_run_112 rfl 2 rfl ?_
  refine pg_aload_n (i := 0) dX12_run_113 rfl 1 rfl ?_
  refine pg_getR dX12_run_114 fl_RX12_104 rfl (fun v3 => ?_)
  refine pg_iload dX12_run_117 4 rfl ?_
  refine pg_iaload dX12_run_119 (fun v4 => ?_)
  refine pg_iadd dX12_run_120 ?_
  refine pg_letI (fun v5 => ?_)
  refine pg_istore_n (i := 3) (lv' := [(3, pI v5), (2, pI v2), (0, pR a0), (4, pI a4), (5, pI a5)]) dX12_run_121 rfl (by decide) rfl ?_
  refine pg_iinc (lv' := [(4, pI (a4 + (1 : Int32))), (3, pI v5), (2, pI v2), (0, pR a0), (5, pI a5)]) dX12_run_122 3 rfl ci_1 (by decide) rfl ?_
  refine pg_goto (tgt := 40) dX12_run_125 rfl ?_
  exact pg_to (hk40 a0 v2 v5 (a4 + (1 : Int32)) v1) [3, 2, 1, 0] rfl
theorem e_X12_run_52 (l : Launch) (D : pg_D)  (k40 : Nat → Int32 → Int32 → Int32 → pg_H → Option (Int32 × pg_H)) (hk40 : ∀ (a0 : Nat) (a2 : Int32) (a3 : Int32) (a4 : Int32) (h : pg_H), pg_EvF l D RX12 cX12_run 6 (some FieldType.int) "run" 1308 34003 pg_wI (k40 a0 a2 a3 a4 h) 40 [(0, pR a0), (2, pI a2), (3, pI a3), (4, pI a4)] [] h) : ∀ (n : Nat) (a0 : Nat) (a2 : Int32) (a3 : Int32) (a4 : Int32) (a5 : Int32) (h : pg_H), pg_EvF l D RX12 cX12_run 6 (some FieldType.int) "run" 1308 34003 pg_wI (F_X12_run_52 k40 n a0 a2 a3 a4 a5 h) 52 [(0, pR a0), (2, pI a2), (3, pI a3), (4, pI a4), (5, pI a5)] [] h := by
  intro n
  induction n with
  | zero => intro a0 a2 a3 a4 a5 h; exact pg_none
  | succ n ih =>
    intro a0 a2 a3 a4 a5 h
    rw [F_X12_run_52]
    refine pg_iload_n (i := 2) dX12_run_52 rfl 1 rfl ?_
    refine pg_iload dX12_run_53 4 rfl ?_
    refine pg_ishr dX12_run_55 ?_
    refine pg_iconst dX12_run_56 ci_1 ?_
    refine pg_iand dX12_run_57 ?_
    refine pg_iconst dX12_run_58 ci_1 ?_
    refine pg_icmp_eq (tgt := 88) dX12_run_59 rfl ?_ ?_
    · exact pg_to (e_X12_run_88 l D (F_X12_run_52 k40 n) ih a0 a2 a3 a4 a5 h) [0, 1, 2, 3, 4] rfl
    · refine pg_aload_n (i := 0) dX12_run_62 rfl 0 rfl ?_
      refine pg_getR dX12_run_63 fl_RX12_67 rfl (fun v1 => ?_)
      refine pg_iload dX12_run_66 4 rfl ?_
      refine pg_iaload dX12_run_68 (fun v2 => ?_)
      refine pg_bipush dX12_run_69 cb_12 ?_
      refine pg_icmp_eq (tgt := 94) dX12_run_71 rfl ?_ ?_
      · exact pg_to (e_X12_run_94 l D k40 hk40 a0 a2 a3 a4 a5 h) [0, 1, 2, 3, 4] rfl
      · refine pg_iload_n (i := 2) dX12_run_74 rfl 1 rfl ?_
        refine pg_aload_n (i := 0) dX12_run_75 rfl 0 rfl ?_
        refine pg_getR dX12_run_76 fl_RX12_67 rfl (fun v3 => ?_)
        refine pg_iload dX12_run_79 4 rfl ?_
        refine pg_iaload dX12_run_81 (fun v4 => ?_)
        refine pg_ishr dX12_run_82 ?_
        refine pg_iconst dX12_run_83 ci_1 ?_
        refine pg_iand dX12_run_84 ?_
        refine pg_if_ne (tgt := 94) dX12_run_85 rfl ?_ ?_
        · exact pg_to (e_X12_run_94 l D k40 hk40 a0 a2 a3 a4 a5 h) [0, 1, 2, 3, 4] rfl
        · exact pg_to (e_X12_run_88 l D (F_X12_run_52 k40 n) ih a0 a2 a3 a4 a5 h) [0, 1, 2, 3, 4] rfl
theorem e_X12_run_40 (l : Launch) (D : pg_D)   : ∀ (n : Nat) (a0 : Nat) (a2 : Int32) (a3 : Int32) (a4 : Int32) (h : pg_H), pg_EvF l D RX12 cX12_run 6 (some FieldType.int) "run" 1308 34003 pg_wI (F_X12_run_40 n a0 a2 a3 a4 h) 40 [(0, pR a0), (2, pI a2), (3, pI a3), (4, pI a4)] [] h := by
  intro n
  induction n with
  | zero => intro a0 a2 a3 a4 h; exact pg_none
  | succ n ih =>
    intro a0 a2 a3 a4 h
    rw [F_X12_run_40]
    refine pg_iload dX12_run_40 3 rfl ?_
    refine pg_aload_n (i := 0) dX12_run_42 rfl 0 rfl ?_
    refine pg_getI dX12_run_43 fl_RX12_110 rfl (fun v1 => ?_)
    refine pg_icmp_ge (tgt := 128) dX12_run_46 rfl ?_ ?_
    · refine pg_aload_n (i := 0) dX12_run_128 rfl 0 rfl ?_
      refine pg_iload_n (i := 3) dX12_run_129 rfl 2 rfl ?_
      refine pg_callV_wI (As := [pI a3]) (rs := []) dX12_run_130 lk_RX12_121 vy_X12_good nd_X12_good (c_X12_good l D a0 a3 h) rfl rfl (Nat.le_of_ble_eq_true rfl) (by decide) (by decide) (fun v2 => ?_)
      exact pg_iret dX12_run_133 rfl rfl
    · refine pg_iconst dX12_run_49 ci_0 ?_
      refine pg_istore (lv' := [(5, pI (0 : Int32)), (0, pR a0), (2, pI a2), (3, pI a3), (4, pI a4)]) dX12_run_50 (by decide) rfl ?_
      exact pg_to (e_X12_run_52 l D (F_X12_run_40 n) ih pg_fuel a0 a2 a3 a4 (0 : Int32) h) [1, 2, 3, 4, 0] rfl
theorem e_X12_run (l : Launch) (D : pg_D)  (a0 : Nat) (a1 : Int32) (h : pg_H) : pg_EvF l D RX12 cX12_run 6 (some FieldType.int) "run" 1308 34003 pg_wI (F_X12_run a0 a1 h) 0 [(0, pR a0), (1, pI a1)] [] h := by
  unfold F_X12_run
  refine pg_iload_n (i := 1) dX12_run_0 rfl 1 rfl ?_
  refine pg_iconst dX12_run_1 ci_0 ?_
  refine pg_ldc (v := (1000000 : Int32)) dX12_run_2 kc_RX12_181 ?_
  refine pg_callS_oI (As := [pI a1, pI (0 : Int32), pI (1000000 : Int32)]) (rs := []) dX12_run_4 lk_RX12_113 vy_X12_lies nd_X12_lies (c_X12_lies l D a1 (0 : Int32) (1000000 : Int32) h) rfl rfl (Nat.le_of_ble_eq_true rfl) (by decide) (by decide) (fun v1 => ?_)
  refine pg_if_ne (tgt := 16) dX12_run_7 rfl ?_ ?_
  · refine pg_aload_n (i := 0) dX12_run_16 rfl 0 rfl ?_
    refine pg_callV_wV (As := []) (rs := []) dX12_run_17 lk_RX12_346 vy_X12_grows nd_X12_grows (c_X12_grows l D a0 h) rfl rfl (Nat.le_of_ble_eq_true rfl) (by decide) (by decide) (fun v2 => ?_)
    refine pg_aload_n (i := 0) dX12_run_20 rfl 0 rfl ?_
    refine pg_iload_n (i := 1) dX12_run_21 rfl 1 rfl ?_
    refine pg_putI dX12_run_22 fl_RX12_425 (fun z => by cases z) (fun v3 => ?_)
    refine pg_aload_n (i := 0) dX12_run_25 rfl 0 rfl ?_
    refine pg_aload_n (i := 0) dX12_run_26 rfl 0 rfl ?_
    refine pg_callV_oI (As := []) (rs := [pR a0]) dX12_run_27 lk_RX12_124 vy_X12_copies nd_X12_copies (c_X12_copies l D v3 a0) rfl rfl (Nat.le_of_ble_eq_true rfl) (by decide) (by decide) (fun v4 => ?_)
    refine pg_putI dX12_run_30 fl_RX12_110 (fun z => by cases z) (fun v5 => ?_)
    refine pg_iconst dX12_run_33 ci_0 ?_
    refine pg_istore_n (i := 2) (lv' := [(2, pI (0 : Int32)), (0, pR a0), (1, pI a1)]) dX12_run_34 rfl (by decide) rfl ?_
    refine pg_iconst dX12_run_35 ci_0 ?_
    refine pg_istore_n (i := 3) (lv' := [(3, pI (0 : Int32)), (2, pI (0 : Int32)), (0, pR a0), (1, pI a1)]) dX12_run_36 rfl (by decide) rfl ?_
    refine pg_iconst dX12_run_37 ci_0 ?_
    refine pg_istore (lv' := [(4, pI (0 : Int32)), (3, pI (0 : Int32)), (2, pI (0 : Int32)), (0, pR a0), (1, pI a1)]) dX12_run_38 (by decide) rfl ?_
    exact pg_to (e_X12_run_40 l D pg_fuel a0 (0 : Int32) (0 : Int32) (0 : Int32) v5) [3, 2, 1, 0] rfl
  · refine pg_aload_n (i := 0) dX12_run_10 rfl 0 rfl ?_
    refine pg_iconst dX12_run_11 ci_m1 ?_
    refine pg_callV_wI (As := [pI (-1 : Int32)]) (rs := []) dX12_run_12 lk_RX12_117 vy_X12_refuses nd_X12_refuses (c_X12_refuses l D a0 (-1 : Int32) h) rfl rfl (Nat.le_of_ble_eq_true rfl) (by decide) (by decide) (fun v6 => ?_)
    exact pg_iret dX12_run_15 rfl rfl
theorem c_X12_run (l : Launch) (D : pg_D) (a0 : Nat) (a1 : Int32) (h : pg_H) : ∀ x, F_X12_run a0 a1 h = some x → pg_Ct l D yX12_run cX12_run 6 (some FieldType.int) 1308 34003 [pR a0, pI a1] h (pg_wI x) :=
  pg_Ct.of pn_RX12 (Nat.le_of_ble_eq_true rfl) (e_X12_run l D a0 a1 h)
def F_X12_hasWorld_42 (h : pg_H) (k5 : Nat → Int32 → Int32 → Int32 → Int32 → Option Int32) (a0 : Nat) (a1 : Int32) (a2 : Int32) (a4 : Int32) (s0 : Int32) : Option Int32 := (k5 a0 a1 a2 s0 (a4 + (1 : Int32)))
def F_X12_hasWorld_37 (h : pg_H) (k5 : Nat → Int32 → Int32 → Int32 → Int32 → Option Int32) (a0 : Nat) (a1 : Int32) (a2 : Int32) (a4 : Int32) : Option Int32 := (F_X12_hasWorld_42 h k5 a0 a1 a2 a4 (1 : Int32))
def F_X12_hasWorld_5 (h : pg_H) : Nat → Nat → Int32 → Int32 → Int32 → Int32 → Option Int32
  | 0 => fun _ _ _ _ _ => none
  | n + 1 => fun a0 a1 a2 a3 a4 => Option.bind (pg_gR 12 42 h a0) fun v1 => Option.bind (pg_aI 21 h v1 a1) fun v2 => (if a4 < v2 then (if a3 = 0 then Option.bind (pg_gR 12 41 h a0) fun v3 => Option.bind (pg_aI 21 h v3 (((144 : Int32) * a1) + a4)) fun v4 => (if v4 = a2 then (F_X12_hasWorld_37 h (F_X12_hasWorld_5 h n) a0 a1 a2 a4) else (F_X12_hasWorld_42 h (F_X12_hasWorld_5 h n) a0 a1 a2 a4 (0 : Int32))) else (F_X12_hasWorld_37 h (F_X12_hasWorld_5 h n) a0 a1 a2 a4)) else (if a3 = 0 ∨ a3 = 1 then some a3 else none))
def F_X12_hasWorld (h : pg_H) (a0 : Nat) (a1 : Int32) (a2 : Int32) : Option Int32 := (F_X12_hasWorld_5 h pg_fuel a0 a1 a2 (0 : Int32) (0 : Int32))
theorem e_X12_hasWorld_42 (l : Launch) (D : pg_D)  (h : pg_H) (k5 : Nat → Int32 → Int32 → Int32 → Int32 → Option Int32) (hk5 : ∀ (a0 : Nat) (a1 : Int32) (a2 : Int32) (a3 : Int32) (a4 : Int32), pg_EvF l D RX12 cX12_hasWorld 5 (some FieldType.boolean) "hasWorld" 0 0 (pg_oI h) (k5 a0 a1 a2 a3 a4) 5 [(0, pR a0), (1, pI a1), (2, pI a2), (3, pI a3), (4, pI a4)] [] h) (a0 : Nat) (a1 : Int32) (a2 : Int32) (a4 : Int32) (s0 : Int32) : pg_EvF l D RX12 cX12_hasWorld 5 (some FieldType.boolean) "hasWorld" 0 0 (pg_oI h) (F_X12_hasWorld_42 h k5 a0 a1 a2 a4 s0) 42 [(0, pR a0), (1, pI a1), (2, pI a2), (4, pI a4)] [pI s0] h := by
  unfold F_X12_hasWorld_42
  refine pg_istore_n (i := 3) (lv' := [(3, pI s0), (0, pR a0), (1, pI a1), (2, pI a2), (4, pI a4)]) dX12_hasWorld_42 rfl (by decide) rfl ?_
  refine pg_iinc (lv' := [(4, pI (a4 + (1 : Int32))), (3, pI s0), (0, pR a0), (1, pI a1), (2, pI a2)]) dX12_hasWorld_43 4 rfl ci_1 (by decide) rfl ?_
  refine pg_goto (tgt := 5) dX12_hasWorld_46 rfl ?_
  exact pg_to (hk5 a0 a1 a2 s0 (a4 + (1 : Int32))) [2, 3, 4, 1, 0] rfl
theorem e_X12_hasWorld_37 (l : Launch) (D : pg_D)  (h : pg_H) (k5 : Nat → Int32 → Int32 → Int32 → Int32 → Option Int32) (hk5 : ∀ (a0 : Nat) (a1 : Int32) (a2 : Int32) (a3 : Int32) (a4 : Int32), pg_EvF l D RX12 cX12_hasWorld 5 (some FieldType.boolean) "hasWorld" 0 0 (pg_oI h) (k5 a0 a1 a2 a3 a4) 5 [(0, pR a0), (1, pI a1), (2, pI a2), (3, pI a3), (4, pI a4)] [] h) (a0 : Nat) (a1 : Int32) (a2 : Int32) (a4 : Int32) : pg_EvF l D RX12 cX12_hasWorld 5 (some FieldType.boolean) "hasWorld" 0 0 (pg_oI h) (F_X12_hasWorld_37 h k5 a0 a1 a2 a4) 37 [(0, pR a0), (1, pI a1), (2, pI a2), (4, pI a4)] [] h := by
  unfold F_X12_hasWorld_37
  refine pg_iconst dX12_hasWorld_37 ci_1 ?_
  refine pg_goto (tgt := 42) dX12_hasWorld_38 rfl ?_
  exact pg_to (e_X12_hasWorld_42 l D h k5 hk5 a0 a1 a2 a4 (1 : Int32)) [0, 1, 2, 3] rfl
theorem e_X12_hasWorld_5 (l : Launch) (D : pg_D)  (h : pg_H) : ∀ (n : Nat) (a0 : Nat) (a1 : Int32) (a2 : Int32) (a3 : Int32) (a4 : Int32), pg_EvF l D RX12 cX12_hasWorld 5 (some FieldType.boolean) "hasWorld" 0 0 (pg_oI h) (F_X12_hasWorld_5 h n a0 a1 a2 a3 a4) 5 [(0, pR a0), (1, pI a1), (2, pI a2), (3, pI a3), (4, pI a4)] [] h := by
  intro n
  induction n with
  | zero => intro a0 a1 a2 a3 a4; exact pg_none
  | succ n ih =>
    intro a0 a1 a2 a3 a4
    rw [F_X12_hasWorld_5]
    refine pg_iload dX12_hasWorld_5 4 rfl ?_
    refine pg_aload_n (i := 0) dX12_hasWorld_7 rfl 0 rfl ?_
    refine pg_getR dX12_hasWorld_8 fl_RX12_104 rfl (fun v1 => ?_)
    refine pg_iload_n (i := 1) dX12_hasWorld_11 rfl 1 rfl ?_
    refine pg_iaload dX12_hasWorld_12 (fun v2 => ?_)
    refine pg_icmp_ge (tgt := 49) dX12_hasWorld_13 rfl ?_ ?_
    · refine pg_iload_n (i := 3) dX12_hasWorld_49 rfl 3 rfl ?_
      exact pg_zretq dX12_hasWorld_50 rfl rfl
    · refine pg_iload_n (i := 3) dX12_hasWorld_16 rfl 3 rfl ?_
      refine pg_if_ne (tgt := 37) dX12_hasWorld_17 rfl ?_ ?_
      · exact pg_to (e_X12_hasWorld_37 l D h (F_X12_hasWorld_5 h n) ih a0 a1 a2 a4) [0, 1, 2, 4] rfl
      · refine pg_aload_n (i := 0) dX12_hasWorld_20 rfl 0 rfl ?_
        refine pg_getR dX12_hasWorld_21 fl_RX12_101 rfl (fun v3 => ?_)
        refine pg_sipush dX12_hasWorld_24 cs_144 ?_
        refine pg_iload_n (i := 1) dX12_hasWorld_27 rfl 1 rfl ?_
        refine pg_imul dX12_hasWorld_28 ?_
        refine pg_iload dX12_hasWorld_29 4 rfl ?_
        refine pg_iadd dX12_hasWorld_31 ?_
        refine pg_iaload dX12_hasWorld_32 (fun v4 => ?_)
        refine pg_iload_n (i := 2) dX12_hasWorld_33 rfl 2 rfl ?_
        refine pg_icmp_ne (tgt := 41) dX12_hasWorld_34 rfl ?_ ?_
        · refine pg_iconst dX12_hasWorld_41 ci_0 ?_
          exact pg_to (e_X12_hasWorld_42 l D h (F_X12_hasWorld_5 h n) ih a0 a1 a2 a4 (0 : Int32)) [0, 1, 2, 4] rfl
        · exact pg_to (e_X12_hasWorld_37 l D h (F_X12_hasWorld_5 h n) ih a0 a1 a2 a4) [0, 1, 2, 4] rfl
theorem e_X12_hasWorld (l : Launch) (D : pg_D)  (h : pg_H) (a0 : Nat) (a1 : Int32) (a2 : Int32) : pg_EvF l D RX12 cX12_hasWorld 5 (some FieldType.boolean) "hasWorld" 0 0 (pg_oI h) (F_X12_hasWorld h a0 a1 a2) 0 [(0, pR a0), (1, pI a1), (2, pI a2)] [] h := by
  unfold F_X12_hasWorld
  refine pg_iconst dX12_hasWorld_0 ci_0 ?_
  refine pg_istore_n (i := 3) (lv' := [(3, pI (0 : Int32)), (0, pR a0), (1, pI a1), (2, pI a2)]) dX12_hasWorld_1 rfl (by decide) rfl ?_
  refine pg_iconst dX12_hasWorld_2 ci_0 ?_
  refine pg_istore (lv' := [(4, pI (0 : Int32)), (3, pI (0 : Int32)), (0, pR a0), (1, pI a1), (2, pI a2)]) dX12_hasWorld_3 (by decide) rfl ?_
  exact pg_to (e_X12_hasWorld_5 l D h pg_fuel a0 a1 a2 (0 : Int32) (0 : Int32)) [2, 3, 4, 1, 0] rfl
theorem c_X12_hasWorld (l : Launch) (D : pg_D) (h : pg_H) (a0 : Nat) (a1 : Int32) (a2 : Int32)  : ∀ x, F_X12_hasWorld h a0 a1 a2 = some x → pg_Ct l D yX12_hasWorld cX12_hasWorld 5 (some FieldType.boolean) 0 0 [pR a0, pI a1, pI a2] h (pg_oI h x) :=
  pg_Ct.of pn_RX12 (Nat.le_of_ble_eq_true rfl) (e_X12_hasWorld l D h a0 a1 a2)
def F_X12_world_98 (h : pg_H) (k55 : Nat → Int32 → Int32 → Int32 → Option Int32) (a0 : Nat) (a1 : Int32) (a4 : Int32) (s0 : Int32) (s1 : Int32) : Option Int32 := pg_let (s1 + s0) fun v1 => (k55 a0 a1 v1 (a4 + (1 : Int32)))
def F_X12_world_55 (h : pg_H) : Nat → Nat → Int32 → Int32 → Int32 → Option Int32
  | 0 => fun _ _ _ _ => none
  | n + 1 => fun a0 a1 a3 a4 => Option.bind (pg_gI 12 44 h a0) fun v1 => (if a4 < v1 then Option.bind (pg_gR 12 42 h a0) fun v2 => Option.bind (pg_aI 21 h v2 a1) fun v3 => (if 0 < v3 then Option.bind (pg_gR 12 41 h a0) fun v4 => Option.bind (pg_aI 21 h v4 ((144 : Int32) * a1)) fun v5 => Option.bind (pg_rcv 12 h a0 (F_X12_hasWorld h a0 a4 v5)) fun v6 => (if v6 = 0 then (F_X12_world_98 h (F_X12_world_55 h n) a0 a1 a4 (0 : Int32) a3) else (F_X12_world_98 h (F_X12_world_55 h n) a0 a1 a4 (1 : Int32) a3)) else (some a3)) else (some a3))
def F_X12_world (h : pg_H) (a0 : Nat) (a1 : Int32) (a2 : Int32) : Option Int32 := Option.bind (pg_gI 12 44 h a0) fun v1 => Option.bind (F_X12_lies a1 (0 : Int32) (v1 - (1 : Int32))) fun v2 => (if v2 = 0 then (some (-1 : Int32)) else Option.bind (F_X12_lies a2 (0 : Int32) (2 : Int32)) fun v3 => (if v3 = 0 then (some (-1 : Int32)) else (if a2 < (2 : Int32) then (if a2 = 0 then Option.bind (pg_gR 12 42 h a0) fun v6 => Option.bind (pg_aI 21 h v6 a1) fun v7 => (some v7) else Option.bind (pg_gR 12 43 h a0) fun v4 => Option.bind (pg_aI 21 h v4 a1) fun v5 => (some v5)) else (F_X12_world_55 h pg_fuel a0 a1 (0 : Int32) (0 : Int32)))))
theorem e_X12_world_98 (l : Launch) (D : pg_D)  (h : pg_H) (k55 : Nat → Int32 → Int32 → Int32 → Option Int32) (hk55 : ∀ (a0 : Nat) (a1 : Int32) (a3 : Int32) (a4 : Int32), pg_EvF l D RX12 cX12_world 5 (some FieldType.int) "world" 1 24 (pg_oI h) (k55 a0 a1 a3 a4) 55 [(0, pR a0), (1, pI a1), (3, pI a3), (4, pI a4)] [] h) (a0 : Nat) (a1 : Int32) (a4 : Int32) (s0 : Int32) (s1 : Int32) : pg_EvF l D RX12 cX12_world 5 (some FieldType.int) "world" 1 24 (pg_oI h) (F_X12_world_98 h k55 a0 a1 a4 s0 s1) 98 [(0, pR a0), (1, pI a1), (4, pI a4)] [pI s0, pI s1] h := by
  unfold F_X12_world_98
  refine pg_iadd dX12_world_98 ?_
  refine pg_letI (fun v1 => ?_)
  refine pg_istore_n (i := 3) (lv' := [(3, pI v1), (0, pR a0), (1, pI a1), (4, pI a4)]) dX12_world_99 rfl (by decide) rfl ?_
  refine pg_iinc (lv' := [(4, pI (a4 + (1 : Int32))), (3, pI v1), (0, pR a0), (1, pI a1)]) dX12_world_100 3 rfl ci_1 (by decide) rfl ?_
  refine pg_goto (tgt := 55) dX12_world_103 rfl ?_
  exact pg_to (hk55 a0 a1 v1 (a4 + (1 : Int32))) [2, 3, 1, 0] rfl
theorem e_X12_world_55 (l : Launch) (D : pg_D)  (h : pg_H) : ∀ (n : Nat) (a0 : Nat) (a1 : Int32) (a3 : Int32) (a4 : Int32), pg_EvF l D RX12 cX12_world 5 (some FieldType.int) "world" 1 24 (pg_oI h) (F_X12_world_55 h n a0 a1 a3 a4) 55 [(0, pR a0), (1, pI a1), (3, pI a3), (4, pI a4)] [] h := by
  intro n
  induction n with
  | zero => intro a0 a1 a3 a4; exact pg_none
  | succ n ih =>
    intro a0 a1 a3 a4
    rw [F_X12_world_55]
    refine pg_iload dX12_world_55 3 rfl ?_
    refine pg_aload_n (i := 0) dX12_world_57 rfl 0 rfl ?_
    refine pg_getI dX12_world_58 fl_RX12_110 rfl (fun v1 => ?_)
    refine pg_icmp_ge (tgt := 106) dX12_world_61 rfl ?_ ?_
    · refine pg_iload_n (i := 3) dX12_world_106 rfl 2 rfl ?_
      exact pg_iret dX12_world_107 rfl rfl
    · refine pg_aload_n (i := 0) dX12_world_64 rfl 0 rfl ?_
      refine pg_getR dX12_world_65 fl_RX12_104 rfl (fun v2 => ?_)
      refine pg_iload_n (i := 1) dX12_world_68 rfl 1 rfl ?_
      refine pg_iaload dX12_world_69 (fun v3 => ?_)
      refine pg_if_le (tgt := 106) dX12_world_70 rfl ?_ ?_
      · refine pg_iload_n (i := 3) dX12_world_106 rfl 2 rfl ?_
        exact pg_iret dX12_world_107 rfl rfl
      · refine pg_iload_n (i := 3) dX12_world_73 rfl 2 rfl ?_
        refine pg_aload_n (i := 0) dX12_world_74 rfl 0 rfl ?_
        refine pg_iload dX12_world_75 3 rfl ?_
        refine pg_aload_n (i := 0) dX12_world_77 rfl 0 rfl ?_
        refine pg_getR dX12_world_78 fl_RX12_101 rfl (fun v4 => ?_)
        refine pg_sipush dX12_world_81 cs_144 ?_
        refine pg_iload_n (i := 1) dX12_world_84 rfl 1 rfl ?_
        refine pg_imul dX12_world_85 ?_
        refine pg_iaload dX12_world_86 (fun v5 => ?_)
        refine pg_callV_oI (As := [pI a4, pI v5]) (rs := [pI a3]) dX12_world_87 lk_RX12_438 vy_X12_hasWorld nd_X12_hasWorld (c_X12_hasWorld l D h a0 a4 v5) rfl rfl (Nat.le_of_ble_eq_true rfl) (by decide) (by decide) (fun v6 => ?_)
        refine pg_if_eq (tgt := 97) dX12_world_90 rfl ?_ ?_
        · refine pg_iconst dX12_world_97 ci_0 ?_
          exact pg_to (e_X12_world_98 l D h (F_X12_world_55 h n) ih a0 a1 a4 (0 : Int32) a3) [0, 1, 3] rfl
        · refine pg_iconst dX12_world_93 ci_1 ?_
          refine pg_goto (tgt := 98) dX12_world_94 rfl ?_
          exact pg_to (e_X12_world_98 l D h (F_X12_world_55 h n) ih a0 a1 a4 (1 : Int32) a3) [0, 1, 3] rfl
theorem e_X12_world (l : Launch) (D : pg_D)  (h : pg_H) (a0 : Nat) (a1 : Int32) (a2 : Int32) : pg_EvF l D RX12 cX12_world 5 (some FieldType.int) "world" 1 24 (pg_oI h) (F_X12_world h a0 a1 a2) 0 [(0, pR a0), (1, pI a1), (2, pI a2)] [] h := by
  unfold F_X12_world
  refine pg_iload_n (i := 1) dX12_world_0 rfl 1 rfl ?_
  refine pg_iconst dX12_world_1 ci_0 ?_
  refine pg_aload_n (i := 0) dX12_world_2 rfl 0 rfl ?_
  refine pg_getI dX12_world_3 fl_RX12_110 rfl (fun v1 => ?_)
  refine pg_iconst dX12_world_6 ci_1 ?_
  refine pg_isub dX12_world_7 ?_
  refine pg_callS_oI (As := [pI a1, pI (0 : Int32), pI (v1 - (1 : Int32))]) (rs := []) dX12_world_8 lk_RX12_113 vy_X12_lies nd_X12_lies (c_X12_lies l D a1 (0 : Int32) (v1 - (1 : Int32)) h) rfl rfl (Nat.le_of_ble_eq_true rfl) (by decide) (by decide) (fun v2 => ?_)
  refine pg_if_eq (tgt := 23) dX12_world_11 rfl ?_ ?_
  · refine pg_iconst dX12_world_23 ci_m1 ?_
    exact pg_iret dX12_world_24 rfl rfl
  · refine pg_iload_n (i := 2) dX12_world_14 rfl 2 rfl ?_
    refine pg_iconst dX12_world_15 ci_0 ?_
    refine pg_iconst dX12_world_16 ci_2 ?_
    refine pg_callS_oI (As := [pI a2, pI (0 : Int32), pI (2 : Int32)]) (rs := []) dX12_world_17 lk_RX12_113 vy_X12_lies nd_X12_lies (c_X12_lies l D a2 (0 : Int32) (2 : Int32) h) rfl rfl (Nat.le_of_ble_eq_true rfl) (by decide) (by decide) (fun v3 => ?_)
    refine pg_if_ne (tgt := 25) dX12_world_20 rfl ?_ ?_
    · refine pg_iload_n (i := 2) dX12_world_25 rfl 2 rfl ?_
      refine pg_iconst dX12_world_26 ci_2 ?_
      refine pg_icmp_ge (tgt := 50) dX12_world_27 rfl ?_ ?_
      · refine pg_iconst dX12_world_50 ci_0 ?_
        refine pg_istore_n (i := 3) (lv' := [(3, pI (0 : Int32)), (0, pR a0), (1, pI a1), (2, pI a2)]) dX12_world_51 rfl (by decide) rfl ?_
        refine pg_iconst dX12_world_52 ci_0 ?_
        refine pg_istore (lv' := [(4, pI (0 : Int32)), (3, pI (0 : Int32)), (0, pR a0), (1, pI a1), (2, pI a2)]) dX12_world_53 (by decide) rfl ?_
        exact pg_to (e_X12_world_55 l D h pg_fuel a0 a1 (0 : Int32) (0 : Int32)) [2, 3, 1, 0] rfl
      · refine pg_iload_n (i := 2) dX12_world_30 rfl 2 rfl ?_
        refine pg_if_ne (tgt := 43) dX12_world_31 rfl ?_ ?_
        · refine pg_aload_n (i := 0) dX12_world_43 rfl 0 rfl ?_
          refine pg_getR dX12_world_44 fl_RX12_107 rfl (fun v4 => ?_)
          refine pg_iload_n (i := 1) dX12_world_47 rfl 1 rfl ?_
          refine pg_iaload dX12_world_48 (fun v5 => ?_)
          exact pg_iret dX12_world_49 rfl rfl
        · refine pg_aload_n (i := 0) dX12_world_34 rfl 0 rfl ?_
          refine pg_getR dX12_world_35 fl_RX12_104 rfl (fun v6 => ?_)
          refine pg_iload_n (i := 1) dX12_world_38 rfl 1 rfl ?_
          refine pg_iaload dX12_world_39 (fun v7 => ?_)
          refine pg_goto (tgt := 49) dX12_world_40 rfl ?_
          exact pg_iret dX12_world_49 rfl rfl
    · refine pg_iconst dX12_world_23 ci_m1 ?_
      exact pg_iret dX12_world_24 rfl rfl
theorem c_X12_world (l : Launch) (D : pg_D) (h : pg_H) (a0 : Nat) (a1 : Int32) (a2 : Int32)  : ∀ x, F_X12_world h a0 a1 a2 = some x → pg_Ct l D yX12_world cX12_world 5 (some FieldType.int) 1 24 [pR a0, pI a1, pI a2] h (pg_oI h x) :=
  pg_Ct.of pn_RX12 (Nat.le_of_ble_eq_true rfl) (e_X12_world l D h a0 a1 a2)
def F_X12_count_61 (h : pg_H) (k32 : Nat → Int32 → Int32 → Int32 → Int32 → Option Int32) (a0 : Nat) (a1 : Int32) (a2 : Int32) (a4 : Int32) (s0 : Int32) (s1 : Int32) : Option Int32 := pg_let (s1 + s0) fun v1 => (k32 a0 a1 a2 v1 (a4 + (1 : Int32)))
def F_X12_count_32 (h : pg_H) : Nat → Nat → Int32 → Int32 → Int32 → Int32 → Option Int32
  | 0 => fun _ _ _ _ _ => none
  | n + 1 => fun a0 a1 a2 a3 a4 => Option.bind (pg_gR 12 3 h a0) fun v1 => Option.bind (pg_aI 21 h v1 (1347 : Int32)) fun v2 => (if a4 < v2 then Option.bind (pg_rcv 12 h a0 (F_X12_noteOf h a0 a4 (4 : Int32))) fun v25 => (if v25 = 0 then (F_X12_count_61 h (F_X12_count_32 h n) a0 a1 a2 a4 (1 : Int32) a3) else (F_X12_count_61 h (F_X12_count_32 h n) a0 a1 a2 a4 (0 : Int32) a3)) else (if a1 = (0 : Int32) then Option.bind (pg_rcv 12 h a0 (F_X12_copies h a0)) fun v3 => (some v3) else (if a1 = (1 : Int32) then Option.bind (pg_gR 12 3 h a0) fun v4 => Option.bind (pg_aI 21 h v4 (1345 : Int32)) fun v5 => (some v5) else (if a1 = (2 : Int32) then Option.bind (pg_gR 12 3 h a0) fun v6 => Option.bind (pg_aI 21 h v6 (1346 : Int32)) fun v7 => (some v7) else (if a1 = (3 : Int32) then Option.bind (pg_gR 12 3 h a0) fun v8 => Option.bind (pg_aI 21 h v8 (1347 : Int32)) fun v9 => (some v9) else (if a1 = (4 : Int32) then Option.bind (pg_gR 12 3 h a0) fun v10 => Option.bind (pg_aI 21 h v10 (1348 : Int32)) fun v11 => (some v11) else (if a1 = (5 : Int32) then (some a2) else (if a1 = (6 : Int32) then (some a3) else (if a1 = (7 : Int32) then Option.bind (pg_gI 12 10 h a0) fun v12 => (some v12) else (if a1 = (8 : Int32) then Option.bind (pg_gR 12 2 h a0) fun v13 => Option.bind (pg_aI 21 h v13 (a1 - (7 : Int32))) fun v14 => (some v14) else (if a1 = (9 : Int32) then Option.bind (pg_gR 12 2 h a0) fun v15 => Option.bind (pg_aI 21 h v15 (a1 - (7 : Int32))) fun v16 => (some v16) else (if a1 = (10 : Int32) then Option.bind (pg_gR 12 2 h a0) fun v17 => Option.bind (pg_aI 21 h v17 (a1 - (7 : Int32))) fun v18 => (some v18) else (if a1 = (11 : Int32) then Option.bind (pg_gR 12 2 h a0) fun v19 => Option.bind (pg_aI 21 h v19 (5 : Int32)) fun v20 => (some v20) else (if a1 = (12 : Int32) then Option.bind (pg_gR 12 2 h a0) fun v21 => Option.bind (pg_aI 21 h v21 (6 : Int32)) fun v22 => (some v22) else (if a1 = (13 : Int32) then Option.bind (pg_gR 12 3 h a0) fun v23 => Option.bind (pg_aI 21 h v23 (1349 : Int32)) fun v24 => (some v24) else (some (-1 : Int32)))))))))))))))))
def F_X12_count_4 (h : pg_H) : Nat → Nat → Int32 → Int32 → Int32 → Option Int32
  | 0 => fun _ _ _ _ => none
  | n + 1 => fun a0 a1 a2 a3 => Option.bind (pg_rcv 12 h a0 (F_X12_copies h a0)) fun v1 => (if a3 < v1 then Option.bind (pg_rcv 12 h a0 (F_X12_copyOf h a0 a3 (2 : Int32))) fun v2 => pg_let (a2 + v2) fun v3 => (F_X12_count_4 h n a0 a1 v3 (a3 + (1 : Int32))) else (F_X12_count_32 h pg_fuel a0 a1 a2 (0 : Int32) (0 : Int32)))
def F_X12_count (h : pg_H) (a0 : Nat) (a1 : Int32) : Option Int32 := (F_X12_count_4 h pg_fuel a0 a1 (0 : Int32) (0 : Int32))
theorem e_X12_count_61 (l : Launch) (D : pg_D)  (h : pg_H) (k32 : Nat → Int32 → Int32 → Int32 → Int32 → Option Int32) (hk32 : ∀ (a0 : Nat) (a1 : Int32) (a2 : Int32) (a3 : Int32) (a4 : Int32), pg_EvF l D RX12 cX12_count 5 (some FieldType.int) "count" 1 22 (pg_oI h) (k32 a0 a1 a2 a3 a4) 32 [(0, pR a0), (1, pI a1), (2, pI a2), (3, pI a3), (4, pI a4)] [] h) (a0 : Nat) (a1 : Int32) (a2 : Int32) (a4 : Int32) (s0 : Int32) (s1 : Int32) : pg_EvF l D RX12 cX12_count 5 (some FieldType.int) "count" 1 22 (pg_oI h) (F_X12_count_61 h k32 a0 a1 a2 a4 s0 s1) 61 [(0, pR a0), (1, pI a1), (2, pI a2), (4, pI a4)] [pI s0, pI s1] h := by
  unfold F_X12_count_61
  refine pg_iadd dX12_count_61 ?_
  refine pg_letI (fun v1 => ?_)
  refine pg_istore_n (i := 3) (lv' := [(3, pI v1), (0, pR a0), (1, pI a1), (2, pI a2), (4, pI a4)]) dX12_count_62 rfl (by decide) rfl ?_
  refine pg_iinc (lv' := [(4, pI (a4 + (1 : Int32))), (3, pI v1), (0, pR a0), (1, pI a1), (2, pI a2)]) dX12_count_63 4 rfl ci_1 (by decide) rfl ?_
  refine pg_goto (tgt := 32) dX12_count_66 rfl ?_
  exact pg_to (hk32 a0 a1 a2 v1 (a4 + (1 : Int32))) [2, 3, 4, 1, 0] rfl
theorem e_X12_count_32 (l : Launch) (D : pg_D)  (h : pg_H) : ∀ (n : Nat) (a0 : Nat) (a1 : Int32) (a2 : Int32) (a3 : Int32) (a4 : Int32), pg_EvF l D RX12 cX12_count 5 (some FieldType.int) "count" 1 22 (pg_oI h) (F_X12_count_32 h n a0 a1 a2 a3 a4) 32 [(0, pR a0), (1, pI a1), (2, pI a2), (3, pI a3), (4, pI a4)] [] h := by
  intro n
  induction n with
  | zero => intro a0 a1 a2 a3 a4; exact pg_none
  | succ n ih =>
    intro a0 a1 a2 a3 a4
    rw [F_X12_count_32]
    refine pg_iload dX12_count_32 4 rfl ?_
    refine pg_aload_n (i := 0) dX12_count_34 rfl 0 rfl ?_
    refine pg_getR dX12_count_35 fl_RX12_20 rfl (fun v1 => ?_)
    refine pg_sipush dX12_count_38 cs_1347 ?_
    refine pg_iaload dX12_count_41 (fun v2 => ?_)
    refine pg_icmp_ge (tgt := 69) dX12_count_42 rfl ?_ ?_
    · refine pg_iload_n (i := 1) dX12_count_69 rfl 1 rfl ?_
      refine pg_ite (fun hc0 => ?_) (fun hn0 => ?_)
      · refine pg_swIn (tgt := 140) (j := 0) dX12_count_70 (by rw [hc0]; decide) (by decide) rfl rfl ?_
        refine pg_aload_n (i := 0) dX12_count_140 rfl 0 rfl ?_
        refine pg_callV_oI (As := []) (rs := []) dX12_count_141 lk_RX12_124 vy_X12_copies nd_X12_copies (c_X12_copies l D h a0) rfl rfl (Nat.le_of_ble_eq_true rfl) (by decide) (by decide) (fun v3 => ?_)
        exact pg_iret dX12_count_144 rfl rfl
      refine pg_ite (fun hc1 => ?_) (fun hn1 => ?_)
      · refine pg_swIn (tgt := 145) (j := 1) dX12_count_70 (by rw [hc1]; decide) (by decide) rfl rfl ?_
        refine pg_aload_n (i := 0) dX12_count_145 rfl 0 rfl ?_
        refine pg_getR dX12_count_146 fl_RX12_20 rfl (fun v4 => ?_)
        refine pg_sipush dX12_count_149 cs_1345 ?_
        refine pg_iaload dX12_count_152 (fun v5 => ?_)
        exact pg_iret dX12_count_153 rfl rfl
      refine pg_ite (fun hc2 => ?_) (fun hn2 => ?_)
      · refine pg_swIn (tgt := 154) (j := 2) dX12_count_70 (by rw [hc2]; decide) (by decide) rfl rfl ?_
        refine pg_aload_n (i := 0) dX12_count_154 rfl 0 rfl ?_
        refine pg_getR dX12_count_155 fl_RX12_20 rfl (fun v6 => ?_)
        refine pg_sipush dX12_count_158 cs_1346 ?_
        refine pg_iaload dX12_count_161 (fun v7 => ?_)
        exact pg_iret dX12_count_162 rfl rfl
      refine pg_ite (fun hc3 => ?_) (fun hn3 => ?_)
      · refine pg_swIn (tgt := 163) (j := 3) dX12_count_70 (by rw [hc3]; decide) (by decide) rfl rfl ?_
        refine pg_aload_n (i := 0) dX12_count_163 rfl 0 rfl ?_
        refine pg_getR dX12_count_164 fl_RX12_20 rfl (fun v8 => ?_)
        refine pg_sipush dX12_count_167 cs_1347 ?_
        refine pg_iaload dX12_count_170 (fun v9 => ?_)
        exact pg_iret dX12_count_171 rfl rfl
      refine pg_ite (fun hc4 => ?_) (fun hn4 => ?_)
      · refine pg_swIn (tgt := 172) (j := 4) dX12_count_70 (by rw [hc4]; decide) (by decide) rfl rfl ?_
        refine pg_aload_n (i := 0) dX12_count_172 rfl 0 rfl ?_
        refine pg_getR dX12_count_173 fl_RX12_20 rfl (fun v10 => ?_)
        refine pg_sipush dX12_count_176 cs_1348 ?_
        refine pg_iaload dX12_count_179 (fun v11 => ?_)
        exact pg_iret dX12_count_180 rfl rfl
      refine pg_ite (fun hc5 => ?_) (fun hn5 => ?_)
      · refine pg_swIn (tgt := 181) (j := 5) dX12_count_70 (by rw [hc5]; decide) (by decide) rfl rfl ?_
        refine pg_iload_n (i := 2) dX12_count_181 rfl 2 rfl ?_
        exact pg_iret dX12_count_182 rfl rfl
      refine pg_ite (fun hc6 => ?_) (fun hn6 => ?_)
      · refine pg_swIn (tgt := 183) (j := 6) dX12_count_70 (by rw [hc6]; decide) (by decide) rfl rfl ?_
        refine pg_iload_n (i := 3) dX12_count_183 rfl 3 rfl ?_
        exact pg_iret dX12_count_184 rfl rfl
      refine pg_ite (fun hc7 => ?_) (fun hn7 => ?_)
      · refine pg_swIn (tgt := 185) (j := 7) dX12_count_70 (by rw [hc7]; decide) (by decide) rfl rfl ?_
        refine pg_aload_n (i := 0) dX12_count_185 rfl 0 rfl ?_
        refine pg_getI dX12_count_186 fl_RX12_163 rfl (fun v12 => ?_)
        exact pg_iret dX12_count_189 rfl rfl
      refine pg_ite (fun hc8 => ?_) (fun hn8 => ?_)
      · refine pg_swIn (tgt := 190) (j := 8) dX12_count_70 (by rw [hc8]; decide) (by decide) rfl rfl ?_
        refine pg_aload_n (i := 0) dX12_count_190 rfl 0 rfl ?_
        refine pg_getR dX12_count_191 fl_RX12_7 rfl (fun v13 => ?_)
        refine pg_iload_n (i := 1) dX12_count_194 rfl 1 rfl ?_
        refine pg_bipush dX12_count_195 cb_7 ?_
        refine pg_isub dX12_count_197 ?_
        refine pg_iaload dX12_count_198 (fun v14 => ?_)
        exact pg_iret dX12_count_199 rfl rfl
      refine pg_ite (fun hc9 => ?_) (fun hn9 => ?_)
      · refine pg_swIn (tgt := 190) (j := 9) dX12_count_70 (by rw [hc9]; decide) (by decide) rfl rfl ?_
        refine pg_aload_n (i := 0) dX12_count_190 rfl 0 rfl ?_
        refine pg_getR dX12_count_191 fl_RX12_7 rfl (fun v15 => ?_)
        refine pg_iload_n (i := 1) dX12_count_194 rfl 1 rfl ?_
        refine pg_bipush dX12_count_195 cb_7 ?_
        refine pg_isub dX12_count_197 ?_
        refine pg_iaload dX12_count_198 (fun v16 => ?_)
        exact pg_iret dX12_count_199 rfl rfl
      refine pg_ite (fun hc10 => ?_) (fun hn10 => ?_)
      · refine pg_swIn (tgt := 190) (j := 10) dX12_count_70 (by rw [hc10]; decide) (by decide) rfl rfl ?_
        refine pg_aload_n (i := 0) dX12_count_190 rfl 0 rfl ?_
        refine pg_getR dX12_count_191 fl_RX12_7 rfl (fun v17 => ?_)
        refine pg_iload_n (i := 1) dX12_count_194 rfl 1 rfl ?_
        refine pg_bipush dX12_count_195 cb_7 ?_
        refine pg_isub dX12_count_197 ?_
        refine pg_iaload dX12_count_198 (fun v18 => ?_)
        exact pg_iret dX12_count_199 rfl rfl
      refine pg_ite (fun hc11 => ?_) (fun hn11 => ?_)
      · refine pg_swIn (tgt := 200) (j := 11) dX12_count_70 (by rw [hc11]; decide) (by decide) rfl rfl ?_
        refine pg_aload_n (i := 0) dX12_count_200 rfl 0 rfl ?_
        refine pg_getR dX12_count_201 fl_RX12_7 rfl (fun v19 => ?_)
        refine pg_iconst dX12_count_204 ci_5 ?_
        refine pg_iaload dX12_count_205 (fun v20 => ?_)
        exact pg_iret dX12_count_206 rfl rfl
      refine pg_ite (fun hc12 => ?_) (fun hn12 => ?_)
      · refine pg_swIn (tgt := 207) (j := 12) dX12_count_70 (by rw [hc12]; decide) (by decide) rfl rfl ?_
        refine pg_aload_n (i := 0) dX12_count_207 rfl 0 rfl ?_
        refine pg_getR dX12_count_208 fl_RX12_7 rfl (fun v21 => ?_)
        refine pg_bipush dX12_count_211 cb_6 ?_
        refine pg_iaload dX12_count_213 (fun v22 => ?_)
        exact pg_iret dX12_count_214 rfl rfl
      refine pg_ite (fun hc13 => ?_) (fun hn13 => ?_)
      · refine pg_swIn (tgt := 215) (j := 13) dX12_count_70 (by rw [hc13]; decide) (by decide) rfl rfl ?_
        refine pg_aload_n (i := 0) dX12_count_215 rfl 0 rfl ?_
        refine pg_getR dX12_count_216 fl_RX12_20 rfl (fun v23 => ?_)
        refine pg_sipush dX12_count_219 cs_1349 ?_
        refine pg_iaload dX12_count_222 (fun v24 => ?_)
        exact pg_iret dX12_count_223 rfl rfl
      refine pg_swOut (tgt := 224) dX12_count_70 (pg_swR (lo := 0) (n := 14) (by decide) (fun j hj => ?_)) rfl ?_
      · match j, hj with
        | 0, _ => exact pg_ne hn0 (by decide)
        | 1, _ => exact pg_ne hn1 (by decide)
        | 2, _ => exact pg_ne hn2 (by decide)
        | 3, _ => exact pg_ne hn3 (by decide)
        | 4, _ => exact pg_ne hn4 (by decide)
        | 5, _ => exact pg_ne hn5 (by decide)
        | 6, _ => exact pg_ne hn6 (by decide)
        | 7, _ => exact pg_ne hn7 (by decide)
        | 8, _ => exact pg_ne hn8 (by decide)
        | 9, _ => exact pg_ne hn9 (by decide)
        | 10, _ => exact pg_ne hn10 (by decide)
        | 11, _ => exact pg_ne hn11 (by decide)
        | 12, _ => exact pg_ne hn12 (by decide)
        | 13, _ => exact pg_ne hn13 (by decide)
        | q + 14, hj => exact absurd hj (by omega)
      · refine pg_iconst dX12_count_224 ci_m1 ?_
        exact pg_iret dX12_count_225 rfl rfl
    · refine pg_iload_n (i := 3) dX12_count_45 rfl 3 rfl ?_
      refine pg_aload_n (i := 0) dX12_count_46 rfl 0 rfl ?_
      refine pg_iload dX12_count_47 4 rfl ?_
      refine pg_iconst dX12_count_49 ci_4 ?_
      refine pg_callV_oI (As := [pI a4, pI (4 : Int32)]) (rs := [pI a3]) dX12_count_50 lk_RX12_143 vy_X12_noteOf nd_X12_noteOf (c_X12_noteOf l D h a0 a4 (4 : Int32)) rfl rfl (Nat.le_of_ble_eq_true rfl) (by decide) (by decide) (fun v25 => ?_)
      refine pg_if_ne (tgt := 60) dX12_count_53 rfl ?_ ?_
      · refine pg_iconst dX12_count_60 ci_0 ?_
        exact pg_to (e_X12_count_61 l D h (F_X12_count_32 h n) ih a0 a1 a2 a4 (0 : Int32) a3) [0, 1, 2, 4] rfl
      · refine pg_iconst dX12_count_56 ci_1 ?_
        refine pg_goto (tgt := 61) dX12_count_57 rfl ?_
        exact pg_to (e_X12_count_61 l D h (F_X12_count_32 h n) ih a0 a1 a2 a4 (1 : Int32) a3) [0, 1, 2, 4] rfl
theorem e_X12_count_4 (l : Launch) (D : pg_D)  (h : pg_H) : ∀ (n : Nat) (a0 : Nat) (a1 : Int32) (a2 : Int32) (a3 : Int32), pg_EvF l D RX12 cX12_count 5 (some FieldType.int) "count" 1 22 (pg_oI h) (F_X12_count_4 h n a0 a1 a2 a3) 4 [(0, pR a0), (1, pI a1), (2, pI a2), (3, pI a3)] [] h := by
  intro n
  induction n with
  | zero => intro a0 a1 a2 a3; exact pg_none
  | succ n ih =>
    intro a0 a1 a2 a3
    rw [F_X12_count_4]
    refine pg_iload_n (i := 3) dX12_count_4 rfl 3 rfl ?_
    refine pg_aload_n (i := 0) dX12_count_5 rfl 0 rfl ?_
    refine pg_callV_oI (As := []) (rs := [pI a3]) dX12_count_6 lk_RX12_124 vy_X12_copies nd_X12_copies (c_X12_copies l D h a0) rfl rfl (Nat.le_of_ble_eq_true rfl) (by decide) (by decide) (fun v1 => ?_)
    refine pg_icmp_ge (tgt := 27) dX12_count_9 rfl ?_ ?_
    · refine pg_iconst dX12_count_27 ci_0 ?_
      refine pg_istore_n (i := 3) (lv' := [(3, pI (0 : Int32)), (0, pR a0), (1, pI a1), (2, pI a2)]) dX12_count_28 rfl (by decide) rfl ?_
      refine pg_iconst dX12_count_29 ci_0 ?_
      refine pg_istore (lv' := [(4, pI (0 : Int32)), (3, pI (0 : Int32)), (0, pR a0), (1, pI a1), (2, pI a2)]) dX12_count_30 (by decide) rfl ?_
      exact pg_to (e_X12_count_32 l D h pg_fuel a0 a1 a2 (0 : Int32) (0 : Int32)) [2, 3, 4, 1, 0] rfl
    · refine pg_iload_n (i := 2) dX12_count_12 rfl 2 rfl ?_
      refine pg_aload_n (i := 0) dX12_count_13 rfl 0 rfl ?_
      refine pg_iload_n (i := 3) dX12_count_14 rfl 3 rfl ?_
      refine pg_iconst dX12_count_15 ci_2 ?_
      refine pg_callV_oI (As := [pI a3, pI (2 : Int32)]) (rs := [pI a2]) dX12_count_16 lk_RX12_299 vy_X12_copyOf nd_X12_copyOf (c_X12_copyOf l D h a0 a3 (2 : Int32)) rfl rfl (Nat.le_of_ble_eq_true rfl) (by decide) (by decide) (fun v2 => ?_)
      refine pg_iadd dX12_count_19 ?_
      refine pg_letI (fun v3 => ?_)
      refine pg_istore_n (i := 2) (lv' := [(2, pI v3), (0, pR a0), (1, pI a1), (3, pI a3)]) dX12_count_20 rfl (by decide) rfl ?_
      refine pg_iinc (lv' := [(3, pI (a3 + (1 : Int32))), (2, pI v3), (0, pR a0), (1, pI a1)]) dX12_count_21 3 rfl ci_1 (by decide) rfl ?_
      refine pg_goto (tgt := 4) dX12_count_24 rfl ?_
      exact pg_to (ih a0 a1 v3 (a3 + (1 : Int32))) [2, 3, 1, 0] rfl
theorem e_X12_count (l : Launch) (D : pg_D)  (h : pg_H) (a0 : Nat) (a1 : Int32) : pg_EvF l D RX12 cX12_count 5 (some FieldType.int) "count" 1 22 (pg_oI h) (F_X12_count h a0 a1) 0 [(0, pR a0), (1, pI a1)] [] h := by
  unfold F_X12_count
  refine pg_iconst dX12_count_0 ci_0 ?_
  refine pg_istore_n (i := 2) (lv' := [(2, pI (0 : Int32)), (0, pR a0), (1, pI a1)]) dX12_count_1 rfl (by decide) rfl ?_
  refine pg_iconst dX12_count_2 ci_0 ?_
  refine pg_istore_n (i := 3) (lv' := [(3, pI (0 : Int32)), (2, pI (0 : Int32)), (0, pR a0), (1, pI a1)]) dX12_count_3 rfl (by decide) rfl ?_
  exact pg_to (e_X12_count_4 l D h pg_fuel a0 a1 (0 : Int32) (0 : Int32)) [2, 3, 1, 0] rfl
theorem c_X12_count (l : Launch) (D : pg_D) (h : pg_H) (a0 : Nat) (a1 : Int32)  : ∀ x, F_X12_count h a0 a1 = some x → pg_Ct l D yX12_count cX12_count 5 (some FieldType.int) 1 22 [pR a0, pI a1] h (pg_oI h x) :=
  pg_Ct.of pn_RX12 (Nat.le_of_ble_eq_true rfl) (e_X12_count l D h a0 a1)
def F_X12_status (h : pg_H) (a0 : Nat) : Option Int32 := Option.bind (pg_gI 12 0 h a0) fun v1 => (some v1)
theorem e_X12_status (l : Launch) (D : pg_D)  (h : pg_H) (a0 : Nat) : pg_EvF l D RX12 cX12_status 1 (some FieldType.int) "status" 0 0 (pg_oI h) (F_X12_status h a0) 0 [(0, pR a0)] [] h := by
  unfold F_X12_status
  refine pg_aload_n (i := 0) dX12_status_0 rfl 0 rfl ?_
  refine pg_getI dX12_status_1 fl_RX12_3 rfl (fun v1 => ?_)
  exact pg_iret dX12_status_4 rfl rfl
theorem c_X12_status (l : Launch) (D : pg_D) (h : pg_H) (a0 : Nat)  : ∀ x, F_X12_status h a0 = some x → pg_Ct l D yX12_status cX12_status 1 (some FieldType.int) 0 0 [pR a0] h (pg_oI h x) :=
  pg_Ct.of pn_RX12 (Nat.le_of_ble_eq_true rfl) (e_X12_status l D h a0)
