def F_X3_init (a0 : Nat) (a1 : Nat) (h : pg_H) : Option pg_H := (if a0 = 0 then none else Option.bind (pg_newA 21 h (400 : Int32)) fun v1 => Option.bind (pg_pR 3 0 v1.2 a0 v1.1) fun v2 => Option.bind (pg_pI 3 8 v2 a0 (-1 : Int32)) fun v3 => Option.bind (pg_pR 3 1 v3 a0 a1) fun v4 => (some v4))
theorem e_X3_init (l : Launch) (D : pg_D)  (a0 : Nat) (a1 : Nat) (h : pg_H) : pg_EvF l D RX3 cX3_init 2 none "<init>" 1 20 pg_wV (F_X3_init a0 a1 h) 0 [(0, pR a0), (1, pR a1)] [] h := by
  unfold F_X3_init
  refine pg_aload_n (i := 0) dX3_init_0 rfl 0 rfl ?_
  refine pg_objInit dX3_init_1 pw1_140 pw_obj1 pw_obj2 (Nat.le_of_ble_eq_true rfl) (by decide) (by decide) ?_
  refine pg_aload_n (i := 0) dX3_init_4 rfl 0 rfl ?_
  refine pg_sipush dX3_init_5 cs_400 ?_
  refine pg_newI dX3_init_8 pw_arr_int (fun v1 => ?_)
  refine pg_putR dX3_init_10 fl_RX3_11 rfl (fun _ => ⟨rfl, fp_RX3_11⟩) (fun v2 => ?_)
  refine pg_aload_n (i := 0) dX3_init_13 rfl 0 rfl ?_
  refine pg_iconst dX3_init_14 ci_m1 ?_
  refine pg_putI dX3_init_15 fl_RX3_15 (fun z => by cases z) (fun v3 => ?_)
  refine pg_aload_n (i := 0) dX3_init_18 rfl 0 rfl ?_
  refine pg_aload_n (i := 1) dX3_init_19 rfl 1 rfl ?_
  refine pg_putR dX3_init_20 fl_RX3_19 rfl (fun _ => ⟨rfl, fp_RX3_19⟩) (fun v4 => ?_)
  exact pg_vret dX3_init_23 rfl rfl
theorem c_X3_init (l : Launch) (D : pg_D) (a0 : Nat) (a1 : Nat) (h : pg_H) : ∀ x, F_X3_init a0 a1 h = some x → pg_Ct l D yX3_init cX3_init 2 none 1 20 [pR a0, pR a1] h (pg_wV x) :=
  pg_Ct.of pn_RX3 (Nat.le_of_ble_eq_true rfl) (e_X3_init l D a0 a1 h)
def F_X3_faultPlace (h : pg_H) (a0 : Nat) : Option Int32 := Option.bind (pg_gI 3 8 h a0) fun v1 => (some v1)
theorem e_X3_faultPlace (l : Launch) (D : pg_D)  (h : pg_H) (a0 : Nat) : pg_EvF l D RX3 cX3_faultPlace 1 (some FieldType.int) "faultPlace" 0 0 (pg_oI h) (F_X3_faultPlace h a0) 0 [(0, pR a0)] [] h := by
  unfold F_X3_faultPlace
  refine pg_aload_n (i := 0) dX3_faultPlace_0 rfl 0 rfl ?_
  refine pg_getI dX3_faultPlace_1 fl_RX3_15 rfl (fun v1 => ?_)
  exact pg_iret dX3_faultPlace_4 rfl rfl
theorem c_X3_faultPlace (l : Launch) (D : pg_D) (h : pg_H) (a0 : Nat)  : ∀ x, F_X3_faultPlace h a0 = some x → pg_Ct l D yX3_faultPlace cX3_faultPlace 1 (some FieldType.int) 0 0 [pR a0] h (pg_oI h x) :=
  pg_Ct.of pn_RX3 (Nat.le_of_ble_eq_true rfl) (e_X3_faultPlace l D h a0)
def F_X8_size (h : pg_H) (a0 : Nat) : Option Int32 := Option.bind (pg_gI 8 1 h a0) fun v1 => (some v1)
theorem e_X8_size (l : Launch) (D : pg_D)  (h : pg_H) (a0 : Nat) : pg_EvF l D RX8 cX8_size 1 (some FieldType.int) "size" 0 0 (pg_oI h) (F_X8_size h a0) 0 [(0, pR a0)] [] h := by
  unfold F_X8_size
  refine pg_aload_n (i := 0) dX8_size_0 rfl 0 rfl ?_
  refine pg_getI dX8_size_1 fl_RX8_15 rfl (fun v1 => ?_)
  exact pg_iret dX8_size_4 rfl rfl
theorem c_X8_size (l : Launch) (D : pg_D) (h : pg_H) (a0 : Nat)  : ∀ x, F_X8_size h a0 = some x → pg_Ct l D yX8_size cX8_size 1 (some FieldType.int) 0 0 [pR a0] h (pg_oI h x) :=
  pg_Ct.of pn_RX8 (Nat.le_of_ble_eq_true rfl) (e_X8_size l D h a0)
def F_X8_byteAt (h : pg_H) (a0 : Nat) (a1 : Int32) : Option Int32 := (if a1 < 0 then (some (-1 : Int32)) else Option.bind (pg_gI 8 1 h a0) fun v1 => (if a1 < v1 then (if a1 < (400 : Int32) then Option.bind (pg_gR 8 0 h a0) fun v2 => Option.bind (pg_aI 21 h v2 a1) fun v3 => (some v3) else (some (-1 : Int32))) else (some (-1 : Int32))))
theorem e_X8_byteAt (l : Launch) (D : pg_D)  (h : pg_H) (a0 : Nat) (a1 : Int32) : pg_EvF l D RX8 cX8_byteAt 2 (some FieldType.int) "byteAt" 0 0 (pg_oI h) (F_X8_byteAt h a0 a1) 0 [(0, pR a0), (1, pI a1)] [] h := by
  unfold F_X8_byteAt
  refine pg_iload_n (i := 1) dX8_byteAt_0 rfl 1 rfl ?_
  refine pg_if_lt (tgt := 28) dX8_byteAt_1 rfl ?_ ?_
  · refine pg_iconst dX8_byteAt_28 ci_m1 ?_
    exact pg_iret dX8_byteAt_29 rfl rfl
  · refine pg_iload_n (i := 1) dX8_byteAt_4 rfl 1 rfl ?_
    refine pg_aload_n (i := 0) dX8_byteAt_5 rfl 0 rfl ?_
    refine pg_getI dX8_byteAt_6 fl_RX8_15 rfl (fun v1 => ?_)
    refine pg_icmp_ge (tgt := 28) dX8_byteAt_9 rfl ?_ ?_
    · refine pg_iconst dX8_byteAt_28 ci_m1 ?_
      exact pg_iret dX8_byteAt_29 rfl rfl
    · refine pg_iload_n (i := 1) dX8_byteAt_12 rfl 1 rfl ?_
      refine pg_sipush dX8_byteAt_13 cs_400 ?_
      refine pg_icmp_ge (tgt := 28) dX8_byteAt_16 rfl ?_ ?_
      · refine pg_iconst dX8_byteAt_28 ci_m1 ?_
        exact pg_iret dX8_byteAt_29 rfl rfl
      · refine pg_aload_n (i := 0) dX8_byteAt_19 rfl 0 rfl ?_
        refine pg_getR dX8_byteAt_20 fl_RX8_9 rfl (fun v2 => ?_)
        refine pg_iload_n (i := 1) dX8_byteAt_23 rfl 1 rfl ?_
        refine pg_iaload dX8_byteAt_24 (fun v3 => ?_)
        refine pg_goto (tgt := 29) dX8_byteAt_25 rfl ?_
        exact pg_iret dX8_byteAt_29 rfl rfl
theorem c_X8_byteAt (l : Launch) (D : pg_D) (h : pg_H) (a0 : Nat) (a1 : Int32)  : ∀ x, F_X8_byteAt h a0 a1 = some x → pg_Ct l D yX8_byteAt cX8_byteAt 2 (some FieldType.int) 0 0 [pR a0, pI a1] h (pg_oI h x) :=
  pg_Ct.of pn_RX8 (Nat.le_of_ble_eq_true rfl) (e_X8_byteAt l D h a0 a1)
def F_X3_isLetter (a0 : Int32) : Option Int32 := (if a0 < (97 : Int32) then (some (0 : Int32)) else (if (122 : Int32) < a0 then (some (0 : Int32)) else (some (1 : Int32))))
theorem e_X3_isLetter (l : Launch) (D : pg_D)  (a0 : Int32) (h : pg_H) : pg_EvF l D RX3 cX3_isLetter 1 (some FieldType.boolean) "isLetter" 0 0 (pg_oI h) (F_X3_isLetter a0) 0 [(0, pI a0)] [] h := by
  unfold F_X3_isLetter
  refine pg_iload_n (i := 0) dX3_isLetter_0 rfl 0 rfl ?_
  refine pg_bipush dX3_isLetter_1 cb_97 ?_
  refine pg_icmp_lt (tgt := 16) dX3_isLetter_3 rfl ?_ ?_
  · refine pg_iconst dX3_isLetter_16 ci_0 ?_
    exact pg_zret dX3_isLetter_17 rfl (Or.inl rfl) rfl
  · refine pg_iload_n (i := 0) dX3_isLetter_6 rfl 0 rfl ?_
    refine pg_bipush dX3_isLetter_7 cb_122 ?_
    refine pg_icmp_gt (tgt := 16) dX3_isLetter_9 rfl ?_ ?_
    · refine pg_iconst dX3_isLetter_16 ci_0 ?_
      exact pg_zret dX3_isLetter_17 rfl (Or.inl rfl) rfl
    · refine pg_iconst dX3_isLetter_12 ci_1 ?_
      refine pg_goto (tgt := 17) dX3_isLetter_13 rfl ?_
      exact pg_zret dX3_isLetter_17 rfl (Or.inr rfl) rfl
theorem c_X3_isLetter (l : Launch) (D : pg_D) (a0 : Int32) (h : pg_H) : ∀ x, F_X3_isLetter a0 = some x → pg_Ct l D yX3_isLetter cX3_isLetter 1 (some FieldType.boolean) 0 0 [pI a0] h (pg_oI h x) :=
  pg_Ct.of pn_RX3 (Nat.le_of_ble_eq_true rfl) (e_X3_isLetter l D a0 h)
def F_X3_wordNumber_122 (h : pg_H) (k9 : Nat → Int32 → Int32 → Int32 → Int32 → Option Int32) (a0 : Nat) (a1 : Int32) (a2 : Int32) (a3 : Int32) (a4 : Int32) : Option Int32 := (k9 a0 a1 a2 a3 (a4 + (1 : Int32)))
def F_X3_wordNumber_115 (h : pg_H) (k9 : Nat → Int32 → Int32 → Int32 → Int32 → Option Int32) (a0 : Nat) (a1 : Int32) (a4 : Int32) : Option Int32 := (F_X3_wordNumber_122 h k9 a0 (a1 + (1 : Int32)) (0 : Int32) (1 : Int32) a4)
def F_X3_wordNumber_89 (h : pg_H) (k9 : Nat → Int32 → Int32 → Int32 → Int32 → Option Int32) (a0 : Nat) (a1 : Int32) (a2 : Int32) (a4 : Int32) (s0 : Int32) : Option Int32 := (F_X3_wordNumber_122 h k9 a0 a1 (a2 + (1 : Int32)) s0 a4)
def F_X3_wordNumber_88 (h : pg_H) (k9 : Nat → Int32 → Int32 → Int32 → Int32 → Option Int32) (a0 : Nat) (a1 : Int32) (a2 : Int32) (a4 : Int32) : Option Int32 := (F_X3_wordNumber_89 h k9 a0 a1 a2 a4 (0 : Int32))
def F_X3_wordNumber_9 (h : pg_H) : Nat → Nat → Int32 → Int32 → Int32 → Int32 → Option Int32
  | 0 => fun _ _ _ _ _ => none
  | n + 1 => fun a0 a1 a2 a3 a4 => Option.bind (pg_slen (pg_lim + 3)) fun v1 => (if a4 < v1 then Option.bind (pg_sat (pg_lim + 3) a4) fun v2 => (if v2 = (32 : Int32) then (if a3 = 0 then (F_X3_wordNumber_115 h (F_X3_wordNumber_9 h n) a0 a1 a4) else Option.bind (pg_gI 3 3 h a0) fun v3 => Option.bind (pg_gI 3 4 h a0) fun v4 => (if (v3 + a2) = v4 then (some a1) else (F_X3_wordNumber_115 h (F_X3_wordNumber_9 h n) a0 a1 a4))) else Option.bind (pg_gI 3 3 h a0) fun v5 => pg_let (v5 + a2) fun v6 => (if a3 = 0 then (F_X3_wordNumber_88 h (F_X3_wordNumber_9 h n) a0 a1 a2 a4) else (if v6 < 0 then (F_X3_wordNumber_88 h (F_X3_wordNumber_9 h n) a0 a1 a2 a4) else Option.bind (pg_gI 3 4 h a0) fun v7 => (if v6 < v7 then (if v6 < (400 : Int32) then Option.bind (pg_gR 3 1 h a0) fun v8 => Option.bind (pg_gR 8 0 h v8) fun v9 => Option.bind (pg_aI 21 h v9 v6) fun v10 => (if v10 = v2 then (F_X3_wordNumber_89 h (F_X3_wordNumber_9 h n) a0 a1 a2 a4 (1 : Int32)) else (F_X3_wordNumber_88 h (F_X3_wordNumber_9 h n) a0 a1 a2 a4)) else (F_X3_wordNumber_88 h (F_X3_wordNumber_9 h n) a0 a1 a2 a4)) else (F_X3_wordNumber_88 h (F_X3_wordNumber_9 h n) a0 a1 a2 a4))))) else (some (20 : Int32)))
def F_X3_wordNumber (h : pg_H) (a0 : Nat) : Option Int32 := (F_X3_wordNumber_9 h pg_fuel a0 (0 : Int32) (0 : Int32) (1 : Int32) (0 : Int32))
theorem e_X3_wordNumber_122 (l : Launch) (D : pg_D)  (h : pg_H) (k9 : Nat → Int32 → Int32 → Int32 → Int32 → Option Int32) (hk9 : ∀ (a0 : Nat) (a1 : Int32) (a2 : Int32) (a3 : Int32) (a4 : Int32), pg_EvF l D RX3 cX3_wordNumber 7 (some FieldType.int) "wordNumber" 6 200 (pg_oI h) (k9 a0 a1 a2 a3 a4) 9 [(0, pR a0), (1, pI a1), (2, pI a2), (3, pI a3), (4, pI a4)] [] h) (a0 : Nat) (a1 : Int32) (a2 : Int32) (a3 : Int32) (a4 : Int32) : pg_EvF l D RX3 cX3_wordNumber 7 (some FieldType.int) "wordNumber" 6 200 (pg_oI h) (F_X3_wordNumber_122 h k9 a0 a1 a2 a3 a4) 122 [(0, pR a0), (1, pI a1), (2, pI a2), (3, pI a3), (4, pI a4)] [] h := by
  unfold F_X3_wordNumber_122
  refine pg_iinc (lv' := [(4, pI (a4 + (1 : Int32))), (0, pR a0), (1, pI a1), (2, pI a2), (3, pI a3)]) dX3_wordNumber_122 4 rfl ci_1 (by decide) rfl ?_
  refine pg_goto (tgt := 9) dX3_wordNumber_125 rfl ?_
  exact pg_to (hk9 a0 a1 a2 a3 (a4 + (1 : Int32))) [1, 2, 3, 4, 0] rfl
theorem e_X3_wordNumber_115 (l : Launch) (D : pg_D)  (h : pg_H) (k9 : Nat → Int32 → Int32 → Int32 → Int32 → Option Int32) (hk9 : ∀ (a0 : Nat) (a1 : Int32) (a2 : Int32) (a3 : Int32) (a4 : Int32), pg_EvF l D RX3 cX3_wordNumber 7 (some FieldType.int) "wordNumber" 6 200 (pg_oI h) (k9 a0 a1 a2 a3 a4) 9 [(0, pR a0), (1, pI a1), (2, pI a2), (3, pI a3), (4, pI a4)] [] h) (a0 : Nat) (a1 : Int32) (a4 : Int32) : pg_EvF l D RX3 cX3_wordNumber 7 (some FieldType.int) "wordNumber" 6 200 (pg_oI h) (F_X3_wordNumber_115 h k9 a0 a1 a4) 115 [(0, pR a0), (1, pI a1), (4, pI a4)] [] h := by
  unfold F_X3_wordNumber_115
  refine pg_iinc (lv' := [(1, pI (a1 + (1 : Int32))), (0, pR a0), (4, pI a4)]) dX3_wordNumber_115 1 rfl ci_1 (by decide) rfl ?_
  refine pg_iconst dX3_wordNumber_118 ci_0 ?_
  refine pg_istore_n (i := 2) (lv' := [(2, pI (0 : Int32)), (1, pI (a1 + (1 : Int32))), (0, pR a0), (4, pI a4)]) dX3_wordNumber_119 rfl (by decide) rfl ?_
  refine pg_iconst dX3_wordNumber_120 ci_1 ?_
  refine pg_istore_n (i := 3) (lv' := [(3, pI (1 : Int32)), (2, pI (0 : Int32)), (1, pI (a1 + (1 : Int32))), (0, pR a0), (4, pI a4)]) dX3_wordNumber_121 rfl (by decide) rfl ?_
  exact pg_to (e_X3_wordNumber_122 l D h k9 hk9 a0 (a1 + (1 : Int32)) (0 : Int32) (1 : Int32) a4) [3, 2, 1, 0, 4] rfl
theorem e_X3_wordNumber_89 (l : Launch) (D : pg_D)  (h : pg_H) (k9 : Nat → Int32 → Int32 → Int32 → Int32 → Option Int32) (hk9 : ∀ (a0 : Nat) (a1 : Int32) (a2 : Int32) (a3 : Int32) (a4 : Int32), pg_EvF l D RX3 cX3_wordNumber 7 (some FieldType.int) "wordNumber" 6 200 (pg_oI h) (k9 a0 a1 a2 a3 a4) 9 [(0, pR a0), (1, pI a1), (2, pI a2), (3, pI a3), (4, pI a4)] [] h) (a0 : Nat) (a1 : Int32) (a2 : Int32) (a4 : Int32) (s0 : Int32) : pg_EvF l D RX3 cX3_wordNumber 7 (some FieldType.int) "wordNumber" 6 200 (pg_oI h) (F_X3_wordNumber_89 h k9 a0 a1 a2 a4 s0) 89 [(0, pR a0), (1, pI a1), (2, pI a2), (4, pI a4)] [pI s0] h := by
  unfold F_X3_wordNumber_89
  refine pg_istore_n (i := 3) (lv' := [(3, pI s0), (0, pR a0), (1, pI a1), (2, pI a2), (4, pI a4)]) dX3_wordNumber_89 rfl (by decide) rfl ?_
  refine pg_iinc (lv' := [(2, pI (a2 + (1 : Int32))), (3, pI s0), (0, pR a0), (1, pI a1), (4, pI a4)]) dX3_wordNumber_90 3 rfl ci_1 (by decide) rfl ?_
  refine pg_goto (tgt := 122) dX3_wordNumber_93 rfl ?_
  exact pg_to (e_X3_wordNumber_122 l D h k9 hk9 a0 a1 (a2 + (1 : Int32)) s0 a4) [2, 3, 0, 1, 4] rfl
theorem e_X3_wordNumber_88 (l : Launch) (D : pg_D)  (h : pg_H) (k9 : Nat → Int32 → Int32 → Int32 → Int32 → Option Int32) (hk9 : ∀ (a0 : Nat) (a1 : Int32) (a2 : Int32) (a3 : Int32) (a4 : Int32), pg_EvF l D RX3 cX3_wordNumber 7 (some FieldType.int) "wordNumber" 6 200 (pg_oI h) (k9 a0 a1 a2 a3 a4) 9 [(0, pR a0), (1, pI a1), (2, pI a2), (3, pI a3), (4, pI a4)] [] h) (a0 : Nat) (a1 : Int32) (a2 : Int32) (a4 : Int32) : pg_EvF l D RX3 cX3_wordNumber 7 (some FieldType.int) "wordNumber" 6 200 (pg_oI h) (F_X3_wordNumber_88 h k9 a0 a1 a2 a4) 88 [(0, pR a0), (1, pI a1), (2, pI a2), (4, pI a4)] [] h := by
  unfold F_X3_wordNumber_88
  refine pg_iconst dX3_wordNumber_88 ci_0 ?_
  exact pg_to (e_X3_wordNumber_89 l D h k9 hk9 a0 a1 a2 a4 (0 : Int32)) [0, 1, 2, 3] rfl
theorem e_X3_wordNumber_9 (l : Launch) (D : pg_D)  (h : pg_H) : ∀ (n : Nat) (a0 : Nat) (a1 : Int32) (a2 : Int32) (a3 : Int32) (a4 : Int32), pg_EvF l D RX3 cX3_wordNumber 7 (some FieldType.int) "wordNumber" 6 200 (pg_oI h) (F_X3_wordNumber_9 h n a0 a1 a2 a3 a4) 9 [(0, pR a0), (1, pI a1), (2, pI a2), (3, pI a3), (4, pI a4)] [] h := by
  intro n
  induction n with
  | zero => intro a0 a1 a2 a3 a4; exact pg_none
  | succ n ih =>
    intro a0 a1 a2 a3 a4
    rw [F_X3_wordNumber_9]
    refine pg_iload dX3_wordNumber_9 4 rfl ?_
    refine pg_ldcS dX3_wordNumber_11 rfl ?_
    refine pg_strlen dX3_wordNumber_13 pw3_127 (Nat.le_of_ble_eq_true rfl) (by decide) (by decide) (fun v1 => ?_)
    refine pg_icmp_ge (tgt := 128) dX3_wordNumber_16 rfl ?_ ?_
    · refine pg_bipush dX3_wordNumber_128 cb_20 ?_
      exact pg_iret dX3_wordNumber_130 rfl rfl
    · refine pg_ldcS dX3_wordNumber_19 rfl ?_
      refine pg_iload dX3_wordNumber_21 4 rfl ?_
      refine pg_strat dX3_wordNumber_23 pw3_137 (Nat.le_of_ble_eq_true rfl) (by decide) (by decide) (fun v2 => ?_)
      refine pg_istore (lv' := [(5, pI v2), (0, pR a0), (1, pI a1), (2, pI a2), (3, pI a3), (4, pI a4)]) dX3_wordNumber_26 (by decide) rfl ?_
      refine pg_iload dX3_wordNumber_28 0 rfl ?_
      refine pg_bipush dX3_wordNumber_30 cb_32 ?_
      refine pg_icmp_eq (tgt := 96) dX3_wordNumber_32 rfl ?_ ?_
      · refine pg_iload_n (i := 3) dX3_wordNumber_96 rfl 4 rfl ?_
        refine pg_if_eq (tgt := 115) dX3_wordNumber_97 rfl ?_ ?_
        · exact pg_to (e_X3_wordNumber_115 l D h (F_X3_wordNumber_9 h n) ih a0 a1 a4) [1, 2, 5] rfl
        · refine pg_aload_n (i := 0) dX3_wordNumber_100 rfl 1 rfl ?_
          refine pg_getI dX3_wordNumber_101 fl_RX3_54 rfl (fun v3 => ?_)
          refine pg_iload_n (i := 2) dX3_wordNumber_104 rfl 3 rfl ?_
          refine pg_iadd dX3_wordNumber_105 ?_
          refine pg_aload_n (i := 0) dX3_wordNumber_106 rfl 1 rfl ?_
          refine pg_getI dX3_wordNumber_107 fl_RX3_26 rfl (fun v4 => ?_)
          refine pg_icmp_ne (tgt := 115) dX3_wordNumber_110 rfl ?_ ?_
          · exact pg_to (e_X3_wordNumber_115 l D h (F_X3_wordNumber_9 h n) ih a0 a1 a4) [1, 2, 5] rfl
          · refine pg_iload_n (i := 1) dX3_wordNumber_113 rfl 2 rfl ?_
            exact pg_iret dX3_wordNumber_114 rfl rfl
      · refine pg_aload_n (i := 0) dX3_wordNumber_35 rfl 1 rfl ?_
        refine pg_getI dX3_wordNumber_36 fl_RX3_54 rfl (fun v5 => ?_)
        refine pg_iload_n (i := 2) dX3_wordNumber_39 rfl 3 rfl ?_
        refine pg_iadd dX3_wordNumber_40 ?_
        refine pg_letI (fun v6 => ?_)
        refine pg_istore (lv' := [(6, pI v6), (5, pI v2), (0, pR a0), (1, pI a1), (2, pI a2), (3, pI a3), (4, pI a4)]) dX3_wordNumber_41 (by decide) rfl ?_
        refine pg_iload_n (i := 3) dX3_wordNumber_43 rfl 5 rfl ?_
        refine pg_if_eq (tgt := 88) dX3_wordNumber_44 rfl ?_ ?_
        · exact pg_to (e_X3_wordNumber_88 l D h (F_X3_wordNumber_9 h n) ih a0 a1 a2 a4) [2, 3, 4, 6] rfl
        · refine pg_iload dX3_wordNumber_47 0 rfl ?_
          refine pg_if_lt (tgt := 88) dX3_wordNumber_49 rfl ?_ ?_
          · exact pg_to (e_X3_wordNumber_88 l D h (F_X3_wordNumber_9 h n) ih a0 a1 a2 a4) [2, 3, 4, 6] rfl
          · refine pg_iload dX3_wordNumber_52 0 rfl ?_
            refine pg_aload_n (i := 0) dX3_wordNumber_54 rfl 2 rfl ?_
            refine pg_getI dX3_wordNumber_55 fl_RX3_26 rfl (fun v7 => ?_)
            refine pg_icmp_ge (tgt := 88) dX3_wordNumber_58 rfl ?_ ?_
            · exact pg_to (e_X3_wordNumber_88 l D h (F_X3_wordNumber_9 h n) ih a0 a1 a2 a4) [2, 3, 4, 6] rfl
            · refine pg_iload dX3_wordNumber_61 0 rfl ?_
              refine pg_sipush dX3_wordNumber_63 cs_400 ?_
              refine pg_icmp_ge (tgt := 88) dX3_wordNumber_66 rfl ?_ ?_
              · exact pg_to (e_X3_wordNumber_88 l D h (F_X3_wordNumber_9 h n) ih a0 a1 a2 a4) [2, 3, 4, 6] rfl
              · refine pg_aload_n (i := 0) dX3_wordNumber_69 rfl 2 rfl ?_
                refine pg_getR dX3_wordNumber_70 fl_RX3_19 rfl (fun v8 => ?_)
                refine pg_getR dX3_wordNumber_73 fl_RX3_126 rfl (fun v9 => ?_)
                refine pg_iload dX3_wordNumber_76 0 rfl ?_
                refine pg_iaload dX3_wordNumber_78 (fun v10 => ?_)
                refine pg_iload dX3_wordNumber_79 1 rfl ?_
                refine pg_icmp_ne (tgt := 88) dX3_wordNumber_81 rfl ?_ ?_
                · exact pg_to (e_X3_wordNumber_88 l D h (F_X3_wordNumber_9 h n) ih a0 a1 a2 a4) [2, 3, 4, 6] rfl
                · refine pg_iconst dX3_wordNumber_84 ci_1 ?_
                  refine pg_goto (tgt := 89) dX3_wordNumber_85 rfl ?_
                  exact pg_to (e_X3_wordNumber_89 l D h (F_X3_wordNumber_9 h n) ih a0 a1 a2 a4 (1 : Int32)) [2, 3, 4, 6] rfl
theorem e_X3_wordNumber (l : Launch) (D : pg_D)  (h : pg_H) (a0 : Nat) : pg_EvF l D RX3 cX3_wordNumber 7 (some FieldType.int) "wordNumber" 6 200 (pg_oI h) (F_X3_wordNumber h a0) 0 [(0, pR a0)] [] h := by
  unfold F_X3_wordNumber
  refine pg_iconst dX3_wordNumber_0 ci_0 ?_
  refine pg_istore_n (i := 1) (lv' := [(1, pI (0 : Int32)), (0, pR a0)]) dX3_wordNumber_1 rfl (by decide) rfl ?_
  refine pg_iconst dX3_wordNumber_2 ci_0 ?_
  refine pg_istore_n (i := 2) (lv' := [(2, pI (0 : Int32)), (1, pI (0 : Int32)), (0, pR a0)]) dX3_wordNumber_3 rfl (by decide) rfl ?_
  refine pg_iconst dX3_wordNumber_4 ci_1 ?_
  refine pg_istore_n (i := 3) (lv' := [(3, pI (1 : Int32)), (2, pI (0 : Int32)), (1, pI (0 : Int32)), (0, pR a0)]) dX3_wordNumber_5 rfl (by decide) rfl ?_
  refine pg_iconst dX3_wordNumber_6 ci_0 ?_
  refine pg_istore (lv' := [(4, pI (0 : Int32)), (3, pI (1 : Int32)), (2, pI (0 : Int32)), (1, pI (0 : Int32)), (0, pR a0)]) dX3_wordNumber_7 (by decide) rfl ?_
  exact pg_to (e_X3_wordNumber_9 l D h pg_fuel a0 (0 : Int32) (0 : Int32) (1 : Int32) (0 : Int32)) [4, 3, 2, 1, 0] rfl
theorem c_X3_wordNumber (l : Launch) (D : pg_D) (h : pg_H) (a0 : Nat)  : ∀ x, F_X3_wordNumber h a0 = some x → pg_Ct l D yX3_wordNumber cX3_wordNumber 7 (some FieldType.int) 6 200 [pR a0] h (pg_oI h x) :=
  pg_Ct.of pn_RX3 (Nat.le_of_ble_eq_true rfl) (e_X3_wordNumber l D h a0)
def F_X3_isDigit (a0 : Int32) : Option Int32 := (if a0 < (48 : Int32) then (some (0 : Int32)) else (if (57 : Int32) < a0 then (some (0 : Int32)) else (some (1 : Int32))))
theorem e_X3_isDigit (l : Launch) (D : pg_D)  (a0 : Int32) (h : pg_H) : pg_EvF l D RX3 cX3_isDigit 1 (some FieldType.boolean) "isDigit" 0 0 (pg_oI h) (F_X3_isDigit a0) 0 [(0, pI a0)] [] h := by
  unfold F_X3_isDigit
  refine pg_iload_n (i := 0) dX3_isDigit_0 rfl 0 rfl ?_
  refine pg_bipush dX3_isDigit_1 cb_48 ?_
  refine pg_icmp_lt (tgt := 16) dX3_isDigit_3 rfl ?_ ?_
  · refine pg_iconst dX3_isDigit_16 ci_0 ?_
    exact pg_zret dX3_isDigit_17 rfl (Or.inl rfl) rfl
  · refine pg_iload_n (i := 0) dX3_isDigit_6 rfl 0 rfl ?_
    refine pg_bipush dX3_isDigit_7 cb_57 ?_
    refine pg_icmp_gt (tgt := 16) dX3_isDigit_9 rfl ?_ ?_
    · refine pg_iconst dX3_isDigit_16 ci_0 ?_
      exact pg_zret dX3_isDigit_17 rfl (Or.inl rfl) rfl
    · refine pg_iconst dX3_isDigit_12 ci_1 ?_
      refine pg_goto (tgt := 17) dX3_isDigit_13 rfl ?_
      exact pg_zret dX3_isDigit_17 rfl (Or.inr rfl) rfl
theorem c_X3_isDigit (l : Launch) (D : pg_D) (a0 : Int32) (h : pg_H) : ∀ x, F_X3_isDigit a0 = some x → pg_Ct l D yX3_isDigit cX3_isDigit 1 (some FieldType.boolean) 0 0 [pI a0] h (pg_oI h x) :=
  pg_Ct.of pn_RX3 (Nat.le_of_ble_eq_true rfl) (e_X3_isDigit l D a0 h)
def F_X3_advance_162  : Nat → Nat → Int32 → pg_H → Option pg_H
  | 0 => fun _ _ _ => none
  | n + 1 => fun a0 a1 h => Option.bind (pg_gI 3 4 h a0) fun v1 => (if v1 < a1 then Option.bind (pg_gR 3 1 h a0) fun v2 => Option.bind (pg_gI 3 4 h a0) fun v3 => Option.bind (pg_rcv 8 h v2 (F_X8_byteAt h v2 v3)) fun v4 => Option.bind (F_X3_isDigit v4) fun v5 => (if v5 = 0 then (some h) else Option.bind (pg_gI 3 6 h a0) fun v6 => Option.bind (pg_gR 3 1 h a0) fun v7 => Option.bind (pg_gI 3 4 h a0) fun v8 => Option.bind (pg_rcv 8 h v7 (F_X8_byteAt h v7 v8)) fun v9 => Option.bind (pg_pI 3 6 h a0 (if (1001 : Int32) < (((v6 * (10 : Int32)) + v9) - (48 : Int32)) then (1001 : Int32) else (((v6 * (10 : Int32)) + v9) - (48 : Int32)))) fun v10 => Option.bind (pg_gI 3 4 v10 a0) fun v11 => Option.bind (pg_pI 3 4 v10 a0 (v11 + (1 : Int32))) fun v12 => (F_X3_advance_162 n a0 a1 v12)) else (some h))
def F_X3_advance_133 (a0 : Nat) (h : pg_H) : Option pg_H := Option.bind (pg_rcv 3 h a0 (F_X3_wordNumber h a0)) fun v1 => Option.bind (pg_pI 3 5 h a0 v1) fun v2 => (some v2)
def F_X3_advance_95  : Nat → Nat → Int32 → pg_H → Option pg_H
  | 0 => fun _ _ _ => none
  | n + 1 => fun a0 a1 h => Option.bind (pg_gI 3 4 h a0) fun v1 => (if v1 < a1 then Option.bind (pg_gR 3 1 h a0) fun v2 => Option.bind (pg_gI 3 4 h a0) fun v3 => Option.bind (pg_rcv 8 h v2 (F_X8_byteAt h v2 v3)) fun v4 => Option.bind (F_X3_isLetter v4) fun v5 => (if v5 = 0 then (F_X3_advance_133 a0 h) else Option.bind (pg_gI 3 4 h a0) fun v6 => Option.bind (pg_pI 3 4 h a0 (v6 + (1 : Int32))) fun v7 => (F_X3_advance_95 n a0 a1 v7)) else (F_X3_advance_133 a0 h))
def F_X3_advance_53 (a0 : Nat) (a1 : Int32) (h : pg_H) : Option pg_H := Option.bind (pg_gI 3 3 h a0) fun v1 => Option.bind (pg_pI 3 4 h a0 v1) fun v2 => Option.bind (pg_gI 3 3 v2 a0) fun v3 => (if v3 < a1 then Option.bind (pg_gR 3 1 v2 a0) fun v4 => Option.bind (pg_gI 3 3 v2 a0) fun v5 => Option.bind (pg_rcv 8 v2 v4 (F_X8_byteAt v2 v4 v5)) fun v6 => Option.bind (F_X3_isLetter v6) fun v7 => (if v7 = 0 then Option.bind (F_X3_isDigit v6) fun v8 => (if v8 = 0 then Option.bind (pg_gI 3 3 v2 a0) fun v9 => Option.bind (pg_pI 3 4 v2 a0 (v9 + (1 : Int32))) fun v10 => Option.bind (pg_pI 3 5 v10 a0 ((100 : Int32) + v6)) fun v11 => (some v11) else Option.bind (pg_pI 3 5 v2 a0 (21 : Int32)) fun v12 => Option.bind (pg_pI 3 6 v12 a0 (0 : Int32)) fun v13 => (F_X3_advance_162 pg_fuel a0 a1 v13)) else (F_X3_advance_95 pg_fuel a0 a1 v2)) else Option.bind (pg_pI 3 5 v2 a0 (22 : Int32)) fun v14 => (some v14))
def F_X3_advance_16  : Nat → Nat → Int32 → pg_H → Option pg_H
  | 0 => fun _ _ _ => none
  | n + 1 => fun a0 a1 h => Option.bind (pg_gI 3 3 h a0) fun v1 => (if v1 < a1 then Option.bind (pg_gR 3 1 h a0) fun v2 => Option.bind (pg_gI 3 3 h a0) fun v3 => Option.bind (pg_rcv 8 h v2 (F_X8_byteAt h v2 v3)) fun v4 => (if v4 = (32 : Int32) then Option.bind (pg_gI 3 3 h a0) fun v5 => Option.bind (pg_pI 3 3 h a0 (v5 + (1 : Int32))) fun v6 => (F_X3_advance_16 n a0 a1 v6) else (F_X3_advance_53 a0 a1 h)) else (F_X3_advance_53 a0 a1 h))
def F_X3_advance (a0 : Nat) (h : pg_H) : Option pg_H := Option.bind (pg_gR 3 1 h a0) fun v1 => Option.bind (pg_rcv 8 h v1 (F_X8_size h v1)) fun v2 => Option.bind (pg_gI 3 4 h a0) fun v3 => Option.bind (pg_pI 3 3 h a0 v3) fun v4 => (F_X3_advance_16 pg_fuel a0 v2 v4)
theorem e_X3_advance_162 (l : Launch) (D : pg_D)   : ∀ (n : Nat) (a0 : Nat) (a1 : Int32) (h : pg_H), pg_EvF l D RX3 cX3_advance 3 none "advance" 7 226 pg_wV (F_X3_advance_162 n a0 a1 h) 162 [(0, pR a0), (1, pI a1)] [] h := by
  intro n
  induction n with
  | zero => intro a0 a1 h; exact pg_none
  | succ n ih =>
    intro a0 a1 h
    rw [F_X3_advance_162]
    refine pg_aload_n (i := 0) dX3_advance_162 rfl 0 rfl ?_
    refine pg_getI dX3_advance_163 fl_RX3_26 rfl (fun v1 => ?_)
    refine pg_iload_n (i := 1) dX3_advance_166 rfl 1 rfl ?_
    refine pg_icmp_ge (tgt := 250) dX3_advance_167 rfl ?_ ?_
    · exact pg_vret dX3_advance_250 rfl rfl
    · refine pg_aload_n (i := 0) dX3_advance_170 rfl 0 rfl ?_
      refine pg_getR dX3_advance_171 fl_RX3_19 rfl (fun v2 => ?_)
      refine pg_aload_n (i := 0) dX3_advance_174 rfl 0 rfl ?_
      refine pg_getI dX3_advance_175 fl_RX3_26 rfl (fun v3 => ?_)
      refine pg_callV_oI (As := [pI v3]) (rs := []) dX3_advance_178 lk_RX3_98 vy_X8_byteAt nd_X8_byteAt (c_X8_byteAt l D h v2 v3) rfl rfl (Nat.le_of_ble_eq_true rfl) (by decide) (by decide) (fun v4 => ?_)
      refine pg_callS_oI (As := [pI v4]) (rs := []) dX3_advance_181 lk_RX3_107 vy_X3_isDigit nd_X3_isDigit (c_X3_isDigit l D v4 h) rfl rfl (Nat.le_of_ble_eq_true rfl) (by decide) (by decide) (fun v5 => ?_)
      refine pg_if_eq (tgt := 250) dX3_advance_184 rfl ?_ ?_
      · exact pg_vret dX3_advance_250 rfl rfl
      · refine pg_aload_n (i := 0) dX3_advance_187 rfl 0 rfl ?_
        refine pg_aload_n (i := 0) dX3_advance_188 rfl 0 rfl ?_
        refine pg_getI dX3_advance_189 fl_RX3_89 rfl (fun v6 => ?_)
        refine pg_bipush dX3_advance_192 cb_10 ?_
        refine pg_imul dX3_advance_194 ?_
        refine pg_aload_n (i := 0) dX3_advance_195 rfl 0 rfl ?_
        refine pg_getR dX3_advance_196 fl_RX3_19 rfl (fun v7 => ?_)
        refine pg_aload_n (i := 0) dX3_advance_199 rfl 0 rfl ?_
        refine pg_getI dX3_advance_200 fl_RX3_26 rfl (fun v8 => ?_)
        refine pg_callV_oI (As := [pI v8]) (rs := [pI (v6 * (10 : Int32)), pR a0]) dX3_advance_203 lk_RX3_98 vy_X8_byteAt nd_X8_byteAt (c_X8_byteAt l D h v7 v8) rfl rfl (Nat.le_of_ble_eq_true rfl) (by decide) (by decide) (fun v9 => ?_)
        refine pg_iadd dX3_advance_206 ?_
        refine pg_bipush dX3_advance_207 cb_48 ?_
        refine pg_isub dX3_advance_209 ?_
        refine pg_sipush dX3_advance_210 cs_1001 ?_
        refine pg_mmin dX3_advance_213 pw3_178 pw_min1 pw_math pw_min2 (Nat.le_of_ble_eq_true rfl) (by decide) (by decide) ?_
        refine pg_putI dX3_advance_216 fl_RX3_89 (fun z => by cases z) (fun v10 => ?_)
        refine pg_aload_n (i := 0) dX3_advance_219 rfl 0 rfl ?_
        refine pg_dup dX3_advance_220 rfl ?_
        refine pg_getI dX3_advance_221 fl_RX3_26 rfl (fun v11 => ?_)
        refine pg_iconst dX3_advance_224 ci_1 ?_
        refine pg_iadd dX3_advance_225 ?_
        refine pg_putI dX3_advance_226 fl_RX3_26 (fun z => by cases z) (fun v12 => ?_)
        refine pg_goto (tgt := 162) dX3_advance_229 rfl ?_
        exact pg_to (ih a0 a1 v12) [0, 1] rfl
theorem e_X3_advance_133 (l : Launch) (D : pg_D)  (a0 : Nat) (h : pg_H) : pg_EvF l D RX3 cX3_advance 3 none "advance" 7 226 pg_wV (F_X3_advance_133 a0 h) 133 [(0, pR a0)] [] h := by
  unfold F_X3_advance_133
  refine pg_aload_n (i := 0) dX3_advance_133 rfl 0 rfl ?_
  refine pg_aload_n (i := 0) dX3_advance_134 rfl 0 rfl ?_
  refine pg_callV_oI (As := []) (rs := [pR a0]) dX3_advance_135 lk_RX3_104 vy_X3_wordNumber nd_X3_wordNumber (c_X3_wordNumber l D h a0) rfl rfl (Nat.le_of_ble_eq_true rfl) (by decide) (by decide) (fun v1 => ?_)
  refine pg_putI dX3_advance_138 fl_RX3_42 (fun z => by cases z) (fun v2 => ?_)
  refine pg_goto (tgt := 250) dX3_advance_141 rfl ?_
  exact pg_vret dX3_advance_250 rfl rfl
theorem e_X3_advance_95 (l : Launch) (D : pg_D)   : ∀ (n : Nat) (a0 : Nat) (a1 : Int32) (h : pg_H), pg_EvF l D RX3 cX3_advance 3 none "advance" 7 226 pg_wV (F_X3_advance_95 n a0 a1 h) 95 [(0, pR a0), (1, pI a1)] [] h := by
  intro n
  induction n with
  | zero => intro a0 a1 h; exact pg_none
  | succ n ih =>
    intro a0 a1 h
    rw [F_X3_advance_95]
    refine pg_aload_n (i := 0) dX3_advance_95 rfl 0 rfl ?_
    refine pg_getI dX3_advance_96 fl_RX3_26 rfl (fun v1 => ?_)
    refine pg_iload_n (i := 1) dX3_advance_99 rfl 1 rfl ?_
    refine pg_icmp_ge (tgt := 133) dX3_advance_100 rfl ?_ ?_
    · exact pg_to (e_X3_advance_133 l D a0 h) [0] rfl
    · refine pg_aload_n (i := 0) dX3_advance_103 rfl 0 rfl ?_
      refine pg_getR dX3_advance_104 fl_RX3_19 rfl (fun v2 => ?_)
      refine pg_aload_n (i := 0) dX3_advance_107 rfl 0 rfl ?_
      refine pg_getI dX3_advance_108 fl_RX3_26 rfl (fun v3 => ?_)
      refine pg_callV_oI (As := [pI v3]) (rs := []) dX3_advance_111 lk_RX3_98 vy_X8_byteAt nd_X8_byteAt (c_X8_byteAt l D h v2 v3) rfl rfl (Nat.le_of_ble_eq_true rfl) (by decide) (by decide) (fun v4 => ?_)
      refine pg_callS_oI (As := [pI v4]) (rs := []) dX3_advance_114 lk_RX3_101 vy_X3_isLetter nd_X3_isLetter (c_X3_isLetter l D v4 h) rfl rfl (Nat.le_of_ble_eq_true rfl) (by decide) (by decide) (fun v5 => ?_)
      refine pg_if_eq (tgt := 133) dX3_advance_117 rfl ?_ ?_
      · exact pg_to (e_X3_advance_133 l D a0 h) [0] rfl
      · refine pg_aload_n (i := 0) dX3_advance_120 rfl 0 rfl ?_
        refine pg_dup dX3_advance_121 rfl ?_
        refine pg_getI dX3_advance_122 fl_RX3_26 rfl (fun v6 => ?_)
        refine pg_iconst dX3_advance_125 ci_1 ?_
        refine pg_iadd dX3_advance_126 ?_
        refine pg_putI dX3_advance_127 fl_RX3_26 (fun z => by cases z) (fun v7 => ?_)
        refine pg_goto (tgt := 95) dX3_advance_130 rfl ?_
        exact pg_to (ih a0 a1 v7) [0, 1] rfl
theorem e_X3_advance_53 (l : Launch) (D : pg_D)  (a0 : Nat) (a1 : Int32) (h : pg_H) : pg_EvF l D RX3 cX3_advance 3 none "advance" 7 226 pg_wV (F_X3_advance_53 a0 a1 h) 53 [(0, pR a0), (1, pI a1)] [] h := by
  unfold F_X3_advance_53
  refine pg_aload_n (i := 0) dX3_advance_53 rfl 0 rfl ?_
  refine pg_aload_n (i := 0) dX3_advance_54 rfl 0 rfl ?_
  refine pg_getI dX3_advance_55 fl_RX3_54 rfl (fun v1 => ?_)
  refine pg_putI dX3_advance_58 fl_RX3_26 (fun z => by cases z) (fun v2 => ?_)
  refine pg_aload_n (i := 0) dX3_advance_61 rfl 0 rfl ?_
  refine pg_getI dX3_advance_62 fl_RX3_54 rfl (fun v3 => ?_)
  refine pg_iload_n (i := 1) dX3_advance_65 rfl 1 rfl ?_
  refine pg_icmp_lt (tgt := 76) dX3_advance_66 rfl ?_ ?_
  · refine pg_aload_n (i := 0) dX3_advance_76 rfl 0 rfl ?_
    refine pg_getR dX3_advance_77 fl_RX3_19 rfl (fun v4 => ?_)
    refine pg_aload_n (i := 0) dX3_advance_80 rfl 0 rfl ?_
    refine pg_getI dX3_advance_81 fl_RX3_54 rfl (fun v5 => ?_)
    refine pg_callV_oI (As := [pI v5]) (rs := []) dX3_advance_84 lk_RX3_98 vy_X8_byteAt nd_X8_byteAt (c_X8_byteAt l D v2 v4 v5) rfl rfl (Nat.le_of_ble_eq_true rfl) (by decide) (by decide) (fun v6 => ?_)
    refine pg_istore_n (i := 2) (lv' := [(2, pI v6), (0, pR a0), (1, pI a1)]) dX3_advance_87 rfl (by decide) rfl ?_
    refine pg_iload_n (i := 2) dX3_advance_88 rfl 0 rfl ?_
    refine pg_callS_oI (As := [pI v6]) (rs := []) dX3_advance_89 lk_RX3_101 vy_X3_isLetter nd_X3_isLetter (c_X3_isLetter l D v6 v2) rfl rfl (Nat.le_of_ble_eq_true rfl) (by decide) (by decide) (fun v7 => ?_)
    refine pg_if_eq (tgt := 144) dX3_advance_92 rfl ?_ ?_
    · refine pg_iload_n (i := 2) dX3_advance_144 rfl 0 rfl ?_
      refine pg_callS_oI (As := [pI v6]) (rs := []) dX3_advance_145 lk_RX3_107 vy_X3_isDigit nd_X3_isDigit (c_X3_isDigit l D v6 v2) rfl rfl (Nat.le_of_ble_eq_true rfl) (by decide) (by decide) (fun v8 => ?_)
      refine pg_if_eq (tgt := 232) dX3_advance_148 rfl ?_ ?_
      · refine pg_aload_n (i := 0) dX3_advance_232 rfl 1 rfl ?_
        refine pg_aload_n (i := 0) dX3_advance_233 rfl 1 rfl ?_
        refine pg_getI dX3_advance_234 fl_RX3_54 rfl (fun v9 => ?_)
        refine pg_iconst dX3_advance_237 ci_1 ?_
        refine pg_iadd dX3_advance_238 ?_
        refine pg_putI dX3_advance_239 fl_RX3_26 (fun z => by cases z) (fun v10 => ?_)
        refine pg_aload_n (i := 0) dX3_advance_242 rfl 1 rfl ?_
        refine pg_bipush dX3_advance_243 cb_100 ?_
        refine pg_iload_n (i := 2) dX3_advance_245 rfl 0 rfl ?_
        refine pg_iadd dX3_advance_246 ?_
        refine pg_putI dX3_advance_247 fl_RX3_42 (fun z => by cases z) (fun v11 => ?_)
        exact pg_vret dX3_advance_250 rfl rfl
      · refine pg_aload_n (i := 0) dX3_advance_151 rfl 1 rfl ?_
        refine pg_bipush dX3_advance_152 cb_21 ?_
        refine pg_putI dX3_advance_154 fl_RX3_42 (fun z => by cases z) (fun v12 => ?_)
        refine pg_aload_n (i := 0) dX3_advance_157 rfl 1 rfl ?_
        refine pg_iconst dX3_advance_158 ci_0 ?_
        refine pg_putI dX3_advance_159 fl_RX3_89 (fun z => by cases z) (fun v13 => ?_)
        exact pg_to (e_X3_advance_162 l D pg_fuel a0 a1 v13) [1, 2] rfl
    · exact pg_to (e_X3_advance_95 l D pg_fuel a0 a1 v2) [1, 2] rfl
  · refine pg_aload_n (i := 0) dX3_advance_69 rfl 0 rfl ?_
    refine pg_bipush dX3_advance_70 cb_22 ?_
    refine pg_putI dX3_advance_72 fl_RX3_42 (fun z => by cases z) (fun v14 => ?_)
    exact pg_vret dX3_advance_75 rfl rfl
theorem e_X3_advance_16 (l : Launch) (D : pg_D)   : ∀ (n : Nat) (a0 : Nat) (a1 : Int32) (h : pg_H), pg_EvF l D RX3 cX3_advance 3 none "advance" 7 226 pg_wV (F_X3_advance_16 n a0 a1 h) 16 [(0, pR a0), (1, pI a1)] [] h := by
  intro n
  induction n with
  | zero => intro a0 a1 h; exact pg_none
  | succ n ih =>
    intro a0 a1 h
    rw [F_X3_advance_16]
    refine pg_aload_n (i := 0) dX3_advance_16 rfl 0 rfl ?_
    refine pg_getI dX3_advance_17 fl_RX3_54 rfl (fun v1 => ?_)
    refine pg_iload_n (i := 1) dX3_advance_20 rfl 1 rfl ?_
    refine pg_icmp_ge (tgt := 53) dX3_advance_21 rfl ?_ ?_
    · exact pg_to (e_X3_advance_53 l D a0 a1 h) [0, 1] rfl
    · refine pg_aload_n (i := 0) dX3_advance_24 rfl 0 rfl ?_
      refine pg_getR dX3_advance_25 fl_RX3_19 rfl (fun v2 => ?_)
      refine pg_aload_n (i := 0) dX3_advance_28 rfl 0 rfl ?_
      refine pg_getI dX3_advance_29 fl_RX3_54 rfl (fun v3 => ?_)
      refine pg_callV_oI (As := [pI v3]) (rs := []) dX3_advance_32 lk_RX3_98 vy_X8_byteAt nd_X8_byteAt (c_X8_byteAt l D h v2 v3) rfl rfl (Nat.le_of_ble_eq_true rfl) (by decide) (by decide) (fun v4 => ?_)
      refine pg_bipush dX3_advance_35 cb_32 ?_
      refine pg_icmp_ne (tgt := 53) dX3_advance_37 rfl ?_ ?_
      · exact pg_to (e_X3_advance_53 l D a0 a1 h) [0, 1] rfl
      · refine pg_aload_n (i := 0) dX3_advance_40 rfl 0 rfl ?_
        refine pg_dup dX3_advance_41 rfl ?_
        refine pg_getI dX3_advance_42 fl_RX3_54 rfl (fun v5 => ?_)
        refine pg_iconst dX3_advance_45 ci_1 ?_
        refine pg_iadd dX3_advance_46 ?_
        refine pg_putI dX3_advance_47 fl_RX3_54 (fun z => by cases z) (fun v6 => ?_)
        refine pg_goto (tgt := 16) dX3_advance_50 rfl ?_
        exact pg_to (ih a0 a1 v6) [0, 1] rfl
theorem e_X3_advance (l : Launch) (D : pg_D)  (a0 : Nat) (h : pg_H) : pg_EvF l D RX3 cX3_advance 3 none "advance" 7 226 pg_wV (F_X3_advance a0 h) 0 [(0, pR a0)] [] h := by
  unfold F_X3_advance
  refine pg_aload_n (i := 0) dX3_advance_0 rfl 0 rfl ?_
  refine pg_getR dX3_advance_1 fl_RX3_19 rfl (fun v1 => ?_)
  refine pg_callV_oI (As := []) (rs := []) dX3_advance_4 lk_RX3_92 vy_X8_size nd_X8_size (c_X8_size l D h v1) rfl rfl (Nat.le_of_ble_eq_true rfl) (by decide) (by decide) (fun v2 => ?_)
  refine pg_istore_n (i := 1) (lv' := [(1, pI v2), (0, pR a0)]) dX3_advance_7 rfl (by decide) rfl ?_
  refine pg_aload_n (i := 0) dX3_advance_8 rfl 1 rfl ?_
  refine pg_aload_n (i := 0) dX3_advance_9 rfl 1 rfl ?_
  refine pg_getI dX3_advance_10 fl_RX3_26 rfl (fun v3 => ?_)
  refine pg_putI dX3_advance_13 fl_RX3_54 (fun z => by cases z) (fun v4 => ?_)
  exact pg_to (e_X3_advance_16 l D pg_fuel a0 v2 v4) [1, 0] rfl
theorem c_X3_advance (l : Launch) (D : pg_D) (a0 : Nat) (h : pg_H) : ∀ x, F_X3_advance a0 h = some x → pg_Ct l D yX3_advance cX3_advance 3 none 7 226 [pR a0] h (pg_wV x) :=
  pg_Ct.of pn_RX3 (Nat.le_of_ble_eq_true rfl) (e_X3_advance l D a0 h)
def F_X3_fail (a0 : Nat) (h : pg_H) : Option (Int32 × pg_H) := Option.bind (pg_gI 3 3 h a0) fun v1 => Option.bind (pg_pI 3 8 h a0 v1) fun v2 => (some ((0 : Int32), v2))
theorem e_X3_fail (l : Launch) (D : pg_D)  (a0 : Nat) (h : pg_H) : pg_EvF l D RX3 cX3_fail 1 (some FieldType.boolean) "fail" 0 0 pg_wI (F_X3_fail a0 h) 0 [(0, pR a0)] [] h := by
  unfold F_X3_fail
  refine pg_aload_n (i := 0) dX3_fail_0 rfl 0 rfl ?_
  refine pg_aload_n (i := 0) dX3_fail_1 rfl 0 rfl ?_
  refine pg_getI dX3_fail_2 fl_RX3_54 rfl (fun v1 => ?_)
  refine pg_putI dX3_fail_5 fl_RX3_15 (fun z => by cases z) (fun v2 => ?_)
  refine pg_iconst dX3_fail_8 ci_0 ?_
  exact pg_zret dX3_fail_9 rfl (Or.inl rfl) rfl
theorem c_X3_fail (l : Launch) (D : pg_D) (a0 : Nat) (h : pg_H) : ∀ x, F_X3_fail a0 h = some x → pg_Ct l D yX3_fail cX3_fail 1 (some FieldType.boolean) 0 0 [pR a0] h (pg_wI x) :=
  pg_Ct.of pn_RX3 (Nat.le_of_ble_eq_true rfl) (e_X3_fail l D a0 h)
def F_X3_emit (a0 : Nat) (a1 : Int32) (h : pg_H) : Option pg_H := Option.bind (pg_gI 3 2 h a0) fun v1 => (if v1 < 0 then (some h) else Option.bind (pg_gI 3 2 h a0) fun v2 => (if v2 < (400 : Int32) then Option.bind (pg_gR 3 0 h a0) fun v3 => Option.bind (pg_gI 3 2 h a0) fun v4 => Option.bind (pg_sI 21 h v3 v4 a1) fun v5 => Option.bind (pg_gI 3 2 v5 a0) fun v6 => Option.bind (pg_pI 3 2 v5 a0 (v6 + (1 : Int32))) fun v7 => (some v7) else (some h)))
theorem e_X3_emit (l : Launch) (D : pg_D)  (a0 : Nat) (a1 : Int32) (h : pg_H) : pg_EvF l D RX3 cX3_emit 2 none "emit" 0 0 pg_wV (F_X3_emit a0 a1 h) 0 [(0, pR a0), (1, pI a1)] [] h := by
  unfold F_X3_emit
  refine pg_aload_n (i := 0) dX3_emit_0 rfl 0 rfl ?_
  refine pg_getI dX3_emit_1 fl_RX3_23 rfl (fun v1 => ?_)
  refine pg_if_lt (tgt := 37) dX3_emit_4 rfl ?_ ?_
  · exact pg_vret dX3_emit_37 rfl rfl
  · refine pg_aload_n (i := 0) dX3_emit_7 rfl 0 rfl ?_
    refine pg_getI dX3_emit_8 fl_RX3_23 rfl (fun v2 => ?_)
    refine pg_sipush dX3_emit_11 cs_400 ?_
    refine pg_icmp_ge (tgt := 37) dX3_emit_14 rfl ?_ ?_
    · exact pg_vret dX3_emit_37 rfl rfl
    · refine pg_aload_n (i := 0) dX3_emit_17 rfl 0 rfl ?_
      refine pg_getR dX3_emit_18 fl_RX3_11 rfl (fun v3 => ?_)
      refine pg_aload_n (i := 0) dX3_emit_21 rfl 0 rfl ?_
      refine pg_getI dX3_emit_22 fl_RX3_23 rfl (fun v4 => ?_)
      refine pg_iload_n (i := 1) dX3_emit_25 rfl 1 rfl ?_
      refine pg_iastore dX3_emit_26 (fun v5 => ?_)
      refine pg_aload_n (i := 0) dX3_emit_27 rfl 0 rfl ?_
      refine pg_dup dX3_emit_28 rfl ?_
      refine pg_getI dX3_emit_29 fl_RX3_23 rfl (fun v6 => ?_)
      refine pg_iconst dX3_emit_32 ci_1 ?_
      refine pg_iadd dX3_emit_33 ?_
      refine pg_putI dX3_emit_34 fl_RX3_23 (fun z => by cases z) (fun v7 => ?_)
      exact pg_vret dX3_emit_37 rfl rfl
theorem c_X3_emit (l : Launch) (D : pg_D) (a0 : Nat) (a1 : Int32) (h : pg_H) : ∀ x, F_X3_emit a0 a1 h = some x → pg_Ct l D yX3_emit cX3_emit 2 none 0 0 [pR a0, pI a1] h (pg_wV x) :=
  pg_Ct.of pn_RX3 (Nat.le_of_ble_eq_true rfl) (e_X3_emit l D a0 a1 h)
def F_X3_openBracket (a0 : Nat) (a1 : Int32) (h : pg_H) : Option (Int32 × pg_H) := (if a1 < (8 : Int32) then Option.bind (pg_rcv 3 h a0 (F_X3_advance a0 h)) fun v1 => (some ((1 : Int32), v1)) else Option.bind (pg_rcv 3 h a0 (F_X3_fail a0 h)) fun v2 => (if v2.1 = 0 ∨ v2.1 = 1 then some (v2.1, v2.2) else none))
theorem e_X3_openBracket (l : Launch) (D : pg_D)  (a0 : Nat) (a1 : Int32) (h : pg_H) : pg_EvF l D RX3 cX3_openBracket 2 (some FieldType.boolean) "openBracket" 8 248 pg_wI (F_X3_openBracket a0 a1 h) 0 [(0, pR a0), (1, pI a1)] [] h := by
  unfold F_X3_openBracket
  refine pg_iload_n (i := 1) dX3_openBracket_0 rfl 1 rfl ?_
  refine pg_bipush dX3_openBracket_1 cb_8 ?_
  refine pg_icmp_lt (tgt := 11) dX3_openBracket_3 rfl ?_ ?_
  · refine pg_aload_n (i := 0) dX3_openBracket_11 rfl 0 rfl ?_
    refine pg_callV_wV (As := []) (rs := []) dX3_openBracket_12 lk_RX3_32 vy_X3_advance nd_X3_advance (c_X3_advance l D a0 h) rfl rfl (Nat.le_of_ble_eq_true rfl) (by decide) (by decide) (fun v1 => ?_)
    refine pg_iconst dX3_openBracket_15 ci_1 ?_
    exact pg_zret dX3_openBracket_16 rfl (Or.inr rfl) rfl
  · refine pg_aload_n (i := 0) dX3_openBracket_6 rfl 0 rfl ?_
    refine pg_callV_wI (As := []) (rs := []) dX3_openBracket_7 lk_RX3_35 vy_X3_fail nd_X3_fail (c_X3_fail l D a0 h) rfl rfl (Nat.le_of_ble_eq_true rfl) (by decide) (by decide) (fun v2 => ?_)
    exact pg_zretq dX3_openBracket_10 rfl rfl
theorem c_X3_openBracket (l : Launch) (D : pg_D) (a0 : Nat) (a1 : Int32) (h : pg_H) : ∀ x, F_X3_openBracket a0 a1 h = some x → pg_Ct l D yX3_openBracket cX3_openBracket 2 (some FieldType.boolean) 8 248 [pR a0, pI a1] h (pg_wI x) :=
  pg_Ct.of pn_RX3 (Nat.le_of_ble_eq_true rfl) (e_X3_openBracket l D a0 a1 h)
def F_X3_takeSign (a0 : Nat) (a1 : Int32) (h : pg_H) : Option (Int32 × pg_H) := Option.bind (pg_gI 3 5 h a0) fun v1 => (if v1 = ((100 : Int32) + a1) then Option.bind (pg_rcv 3 h a0 (F_X3_advance a0 h)) fun v2 => (some ((1 : Int32), v2)) else Option.bind (pg_rcv 3 h a0 (F_X3_fail a0 h)) fun v3 => (if v3.1 = 0 ∨ v3.1 = 1 then some (v3.1, v3.2) else none))
theorem e_X3_takeSign (l : Launch) (D : pg_D)  (a0 : Nat) (a1 : Int32) (h : pg_H) : pg_EvF l D RX3 cX3_takeSign 2 (some FieldType.boolean) "takeSign" 8 248 pg_wI (F_X3_takeSign a0 a1 h) 0 [(0, pR a0), (1, pI a1)] [] h := by
  unfold F_X3_takeSign
  refine pg_aload_n (i := 0) dX3_takeSign_0 rfl 0 rfl ?_
  refine pg_getI dX3_takeSign_1 fl_RX3_42 rfl (fun v1 => ?_)
  refine pg_bipush dX3_takeSign_4 cb_100 ?_
  refine pg_iload_n (i := 1) dX3_takeSign_6 rfl 1 rfl ?_
  refine pg_iadd dX3_takeSign_7 ?_
  refine pg_icmp_eq (tgt := 16) dX3_takeSign_8 rfl ?_ ?_
  · refine pg_aload_n (i := 0) dX3_takeSign_16 rfl 0 rfl ?_
    refine pg_callV_wV (As := []) (rs := []) dX3_takeSign_17 lk_RX3_32 vy_X3_advance nd_X3_advance (c_X3_advance l D a0 h) rfl rfl (Nat.le_of_ble_eq_true rfl) (by decide) (by decide) (fun v2 => ?_)
    refine pg_iconst dX3_takeSign_20 ci_1 ?_
    exact pg_zret dX3_takeSign_21 rfl (Or.inr rfl) rfl
  · refine pg_aload_n (i := 0) dX3_takeSign_11 rfl 0 rfl ?_
    refine pg_callV_wI (As := []) (rs := []) dX3_takeSign_12 lk_RX3_35 vy_X3_fail nd_X3_fail (c_X3_fail l D a0 h) rfl rfl (Nat.le_of_ble_eq_true rfl) (by decide) (by decide) (fun v3 => ?_)
    exact pg_zretq dX3_takeSign_15 rfl rfl
theorem c_X3_takeSign (l : Launch) (D : pg_D) (a0 : Nat) (a1 : Int32) (h : pg_H) : ∀ x, F_X3_takeSign a0 a1 h = some x → pg_Ct l D yX3_takeSign cX3_takeSign 2 (some FieldType.boolean) 8 248 [pR a0, pI a1] h (pg_wI x) :=
  pg_Ct.of pn_RX3 (Nat.le_of_ble_eq_true rfl) (e_X3_takeSign l D a0 a1 h)
def F_X3_emitJump (a0 : Nat) (a1 : Int32) (h : pg_H) : Option (Int32 × pg_H) := Option.bind (pg_rcv 3 h a0 (F_X3_emit a0 a1 h)) fun v1 => Option.bind (pg_rcv 3 v1 a0 (F_X3_emit a0 (0 : Int32) v1)) fun v2 => Option.bind (pg_gI 3 2 v2 a0) fun v3 => (some ((v3 - (1 : Int32)), v2))
theorem e_X3_emitJump (l : Launch) (D : pg_D)  (a0 : Nat) (a1 : Int32) (h : pg_H) : pg_EvF l D RX3 cX3_emitJump 2 (some FieldType.int) "emitJump" 1 21 pg_wI (F_X3_emitJump a0 a1 h) 0 [(0, pR a0), (1, pI a1)] [] h := by
  unfold F_X3_emitJump
  refine pg_aload_n (i := 0) dX3_emitJump_0 rfl 0 rfl ?_
  refine pg_iload_n (i := 1) dX3_emitJump_1 rfl 1 rfl ?_
  refine pg_callV_wV (As := [pI a1]) (rs := []) dX3_emitJump_2 lk_RX3_57 vy_X3_emit nd_X3_emit (c_X3_emit l D a0 a1 h) rfl rfl (Nat.le_of_ble_eq_true rfl) (by decide) (by decide) (fun v1 => ?_)
  refine pg_aload_n (i := 0) dX3_emitJump_5 rfl 0 rfl ?_
  refine pg_iconst dX3_emitJump_6 ci_0 ?_
  refine pg_callV_wV (As := [pI (0 : Int32)]) (rs := []) dX3_emitJump_7 lk_RX3_57 vy_X3_emit nd_X3_emit (c_X3_emit l D a0 (0 : Int32) v1) rfl rfl (Nat.le_of_ble_eq_true rfl) (by decide) (by decide) (fun v2 => ?_)
  refine pg_aload_n (i := 0) dX3_emitJump_10 rfl 0 rfl ?_
  refine pg_getI dX3_emitJump_11 fl_RX3_23 rfl (fun v3 => ?_)
  refine pg_iconst dX3_emitJump_14 ci_1 ?_
  refine pg_isub dX3_emitJump_15 ?_
  exact pg_iret dX3_emitJump_16 rfl rfl
theorem c_X3_emitJump (l : Launch) (D : pg_D) (a0 : Nat) (a1 : Int32) (h : pg_H) : ∀ x, F_X3_emitJump a0 a1 h = some x → pg_Ct l D yX3_emitJump cX3_emitJump 2 (some FieldType.int) 1 21 [pR a0, pI a1] h (pg_wI x) :=
  pg_Ct.of pn_RX3 (Nat.le_of_ble_eq_true rfl) (e_X3_emitJump l D a0 a1 h)
def F_X3_patch (a0 : Nat) (a1 : Int32) (h : pg_H) : Option pg_H := (if a1 < 0 then (some h) else (if a1 < (400 : Int32) then Option.bind (pg_gR 3 0 h a0) fun v1 => Option.bind (pg_gI 3 2 h a0) fun v2 => Option.bind (pg_sI 21 h v1 a1 v2) fun v3 => (some v3) else (some h)))
theorem e_X3_patch (l : Launch) (D : pg_D)  (a0 : Nat) (a1 : Int32) (h : pg_H) : pg_EvF l D RX3 cX3_patch 2 none "patch" 0 0 pg_wV (F_X3_patch a0 a1 h) 0 [(0, pR a0), (1, pI a1)] [] h := by
  unfold F_X3_patch
  refine pg_iload_n (i := 1) dX3_patch_0 rfl 1 rfl ?_
  refine pg_if_lt (tgt := 21) dX3_patch_1 rfl ?_ ?_
  · exact pg_vret dX3_patch_21 rfl rfl
  · refine pg_iload_n (i := 1) dX3_patch_4 rfl 1 rfl ?_
    refine pg_sipush dX3_patch_5 cs_400 ?_
    refine pg_icmp_ge (tgt := 21) dX3_patch_8 rfl ?_ ?_
    · exact pg_vret dX3_patch_21 rfl rfl
    · refine pg_aload_n (i := 0) dX3_patch_11 rfl 0 rfl ?_
      refine pg_getR dX3_patch_12 fl_RX3_11 rfl (fun v1 => ?_)
      refine pg_iload_n (i := 1) dX3_patch_15 rfl 1 rfl ?_
      refine pg_aload_n (i := 0) dX3_patch_16 rfl 0 rfl ?_
      refine pg_getI dX3_patch_17 fl_RX3_23 rfl (fun v2 => ?_)
      refine pg_iastore dX3_patch_20 (fun v3 => ?_)
      exact pg_vret dX3_patch_21 rfl rfl
theorem c_X3_patch (l : Launch) (D : pg_D) (a0 : Nat) (a1 : Int32) (h : pg_H) : ∀ x, F_X3_patch a0 a1 h = some x → pg_Ct l D yX3_patch cX3_patch 2 none 0 0 [pR a0, pI a1] h (pg_wV x) :=
  pg_Ct.of pn_RX3 (Nat.le_of_ble_eq_true rfl) (e_X3_patch l D a0 a1 h)
def F_X3_readTest_12 (g_X3_readBoth : Nat → Int32 → pg_H → Option (Int32 × pg_H)) : Nat → Nat → Int32 → Int32 → pg_H → Option (Int32 × pg_H)
  | 0 => fun _ _ _ _ => none
  | n + 1 => fun a0 a1 a2 h => (if a2 < (400 : Int32) then Option.bind (pg_gI 3 5 h a0) fun v1 => (if v1 = (8 : Int32) then Option.bind (pg_rcv 3 h a0 (F_X3_emitJump a0 (2 : Int32) h)) fun v2 => Option.bind (pg_rcv 3 v2.2 a0 (F_X3_advance a0 v2.2)) fun v3 => Option.bind (pg_rcv 3 v3 a0 (g_X3_readBoth a0 a1 v3)) fun v4 => (if v4.1 = 0 then (some ((0 : Int32), v4.2)) else Option.bind (pg_rcv 3 v4.2 a0 (F_X3_patch a0 v2.1 v4.2)) fun v5 => (F_X3_readTest_12 g_X3_readBoth n a0 a1 (a2 + (1 : Int32)) v5)) else (some ((1 : Int32), h))) else (some ((1 : Int32), h)))
def B_X3_readTest (g_X3_readBoth : Nat → Int32 → pg_H → Option (Int32 × pg_H)) (a0 : Nat) (a1 : Int32) (h : pg_H) : Option (Int32 × pg_H) := Option.bind (pg_rcv 3 h a0 (g_X3_readBoth a0 a1 h)) fun v1 => (if v1.1 = 0 then (some ((0 : Int32), v1.2)) else (F_X3_readTest_12 g_X3_readBoth pg_fuel a0 a1 (0 : Int32) v1.2))
def F_X3_readBoth_12 (g_X3_readPlain : Nat → Int32 → pg_H → Option (Int32 × pg_H)) : Nat → Nat → Int32 → Int32 → pg_H → Option (Int32 × pg_H)
  | 0 => fun _ _ _ _ => none
  | n + 1 => fun a0 a1 a2 h => (if a2 < (400 : Int32) then Option.bind (pg_gI 3 5 h a0) fun v1 => (if v1 = (9 : Int32) then Option.bind (pg_rcv 3 h a0 (F_X3_emitJump a0 (3 : Int32) h)) fun v2 => Option.bind (pg_rcv 3 v2.2 a0 (F_X3_advance a0 v2.2)) fun v3 => Option.bind (pg_rcv 3 v3 a0 (g_X3_readPlain a0 a1 v3)) fun v4 => (if v4.1 = 0 then (some ((0 : Int32), v4.2)) else Option.bind (pg_rcv 3 v4.2 a0 (F_X3_patch a0 v2.1 v4.2)) fun v5 => (F_X3_readBoth_12 g_X3_readPlain n a0 a1 (a2 + (1 : Int32)) v5)) else (some ((1 : Int32), h))) else (some ((1 : Int32), h)))
def B_X3_readBoth (g_X3_readPlain : Nat → Int32 → pg_H → Option (Int32 × pg_H)) (a0 : Nat) (a1 : Int32) (h : pg_H) : Option (Int32 × pg_H) := Option.bind (pg_rcv 3 h a0 (g_X3_readPlain a0 a1 h)) fun v1 => (if v1.1 = 0 then (some ((0 : Int32), v1.2)) else (F_X3_readBoth_12 g_X3_readPlain pg_fuel a0 a1 (0 : Int32) v1.2))
def F_X3_readPlain_162 (g_X3_readTest : Nat → Int32 → pg_H → Option (Int32 × pg_H)) (g_X3_readSum : Nat → Int32 → pg_H → Option (Int32 × pg_H)) (a0 : Nat) (a2 : Int32) (h : pg_H) : Option (Int32 × pg_H) := (if a2 = 0 then (some ((1 : Int32), h)) else Option.bind (pg_rcv 3 h a0 (F_X3_emit a0 (11 : Int32) h)) fun v1 => (some ((1 : Int32), v1)))
def F_X3_readPlain_143 (g_X3_readTest : Nat → Int32 → pg_H → Option (Int32 × pg_H)) (g_X3_readSum : Nat → Int32 → pg_H → Option (Int32 × pg_H)) (a0 : Nat) (a1 : Int32) (a2 : Int32) (a3 : Int32) (h : pg_H) : Option (Int32 × pg_H) := Option.bind (pg_rcv 3 h a0 (F_X3_advance a0 h)) fun v1 => Option.bind (pg_rcv 3 v1 a0 (g_X3_readSum a0 a1 v1)) fun v2 => (if v2.1 = 0 then (some ((0 : Int32), v2.2)) else Option.bind (pg_rcv 3 v2.2 a0 (F_X3_emit a0 a3 v2.2)) fun v3 => (F_X3_readPlain_162 g_X3_readTest g_X3_readSum a0 a2 v3))
def F_X3_readPlain_121 (g_X3_readTest : Nat → Int32 → pg_H → Option (Int32 × pg_H)) (g_X3_readSum : Nat → Int32 → pg_H → Option (Int32 × pg_H)) (a0 : Nat) (a1 : Int32) (a2 : Int32) (s0 : Int32) (h : pg_H) : Option (Int32 × pg_H) := (if s0 = (10 : Int32) then Option.bind (pg_gI 3 5 h a0) fun v1 => (if v1 = (161 : Int32) then (F_X3_readPlain_143 g_X3_readTest g_X3_readSum a0 a1 a2 s0 h) else Option.bind (pg_rcv 3 h a0 (F_X3_fail a0 h)) fun v2 => (if v2.1 = 0 ∨ v2.1 = 1 then some (v2.1, v2.2) else none)) else (F_X3_readPlain_143 g_X3_readTest g_X3_readSum a0 a1 a2 s0 h))
def F_X3_readPlain_40 (g_X3_readTest : Nat → Int32 → pg_H → Option (Int32 × pg_H)) (g_X3_readSum : Nat → Int32 → pg_H → Option (Int32 × pg_H)) (a0 : Nat) (a1 : Int32) (a2 : Int32) (h : pg_H) : Option (Int32 × pg_H) := Option.bind (pg_gI 3 5 h a0) fun v1 => (if v1 = (140 : Int32) then Option.bind (pg_rcv 3 h a0 (F_X3_openBracket a0 a1 h)) fun v5 => (if v5.1 = 0 then (some ((0 : Int32), v5.2)) else Option.bind (pg_rcv 3 v5.2 a0 (g_X3_readTest a0 (a1 + (1 : Int32)) v5.2)) fun v6 => (if v6.1 = 0 then (some ((0 : Int32), v6.2)) else Option.bind (pg_rcv 3 v6.2 a0 (F_X3_takeSign a0 (41 : Int32) v6.2)) fun v7 => (if v7.1 = 0 then (some ((0 : Int32), v7.2)) else (F_X3_readPlain_162 g_X3_readTest g_X3_readSum a0 a2 v7.2)))) else Option.bind (pg_rcv 3 h a0 (g_X3_readSum a0 a1 h)) fun v2 => (if v2.1 = 0 then (some ((0 : Int32), v2.2)) else Option.bind (pg_gI 3 5 v2.2 a0) fun v3 => (if v3 = (160 : Int32) then (F_X3_readPlain_121 g_X3_readTest g_X3_readSum a0 a1 a2 (8 : Int32) v2.2) else Option.bind (pg_gI 3 5 v2.2 a0) fun v4 => (if v4 = (162 : Int32) then (F_X3_readPlain_121 g_X3_readTest g_X3_readSum a0 a1 a2 (9 : Int32) v2.2) else (F_X3_readPlain_121 g_X3_readTest g_X3_readSum a0 a1 a2 (10 : Int32) v2.2)))))
def F_X3_readPlain_29 (g_X3_readTest : Nat → Int32 → pg_H → Option (Int32 × pg_H)) (g_X3_readSum : Nat → Int32 → pg_H → Option (Int32 × pg_H)) (k4 : Nat → Int32 → Int32 → Int32 → pg_H → Option (Int32 × pg_H)) (a0 : Nat) (a1 : Int32) (a3 : Int32) (s0 : Int32) (h : pg_H) : Option (Int32 × pg_H) := Option.bind (pg_rcv 3 h a0 (F_X3_advance a0 h)) fun v1 => (k4 a0 a1 s0 (a3 + (1 : Int32)) v1)
def F_X3_readPlain_4 (g_X3_readTest : Nat → Int32 → pg_H → Option (Int32 × pg_H)) (g_X3_readSum : Nat → Int32 → pg_H → Option (Int32 × pg_H)) : Nat → Nat → Int32 → Int32 → Int32 → pg_H → Option (Int32 × pg_H)
  | 0 => fun _ _ _ _ _ => none
  | n + 1 => fun a0 a1 a2 a3 h => (if a3 < (400 : Int32) then Option.bind (pg_gI 3 5 h a0) fun v1 => (if v1 = (10 : Int32) then (if a2 = 0 then (F_X3_readPlain_29 g_X3_readTest g_X3_readSum (F_X3_readPlain_4 g_X3_readTest g_X3_readSum n) a0 a1 a3 (1 : Int32) h) else (F_X3_readPlain_29 g_X3_readTest g_X3_readSum (F_X3_readPlain_4 g_X3_readTest g_X3_readSum n) a0 a1 a3 (0 : Int32) h)) else (F_X3_readPlain_40 g_X3_readTest g_X3_readSum a0 a1 a2 h)) else (F_X3_readPlain_40 g_X3_readTest g_X3_readSum a0 a1 a2 h))
def B_X3_readPlain (g_X3_readTest : Nat → Int32 → pg_H → Option (Int32 × pg_H)) (g_X3_readSum : Nat → Int32 → pg_H → Option (Int32 × pg_H)) (a0 : Nat) (a1 : Int32) (h : pg_H) : Option (Int32 × pg_H) := (F_X3_readPlain_4 g_X3_readTest g_X3_readSum pg_fuel a0 a1 (0 : Int32) (0 : Int32) h)
def F_X3_readSum_54 (g_X3_readTerm : Nat → Int32 → pg_H → Option (Int32 × pg_H)) (k12 : Nat → Int32 → Int32 → pg_H → Option (Int32 × pg_H)) (a0 : Nat) (a1 : Int32) (a2 : Int32) (s0 : Int32) (h : pg_H) : Option (Int32 × pg_H) := Option.bind (pg_rcv 3 h a0 (F_X3_advance a0 h)) fun v1 => Option.bind (pg_rcv 3 v1 a0 (g_X3_readTerm a0 a1 v1)) fun v2 => (if v2.1 = 0 then (some ((0 : Int32), v2.2)) else Option.bind (pg_rcv 3 v2.2 a0 (F_X3_emit a0 s0 v2.2)) fun v3 => (k12 a0 a1 (a2 + (1 : Int32)) v3))
def F_X3_readSum_39 (g_X3_readTerm : Nat → Int32 → pg_H → Option (Int32 × pg_H)) (k12 : Nat → Int32 → Int32 → pg_H → Option (Int32 × pg_H)) (a0 : Nat) (a1 : Int32) (a2 : Int32) (h : pg_H) : Option (Int32 × pg_H) := Option.bind (pg_gI 3 5 h a0) fun v1 => (if v1 = (143 : Int32) then (F_X3_readSum_54 g_X3_readTerm k12 a0 a1 a2 (4 : Int32) h) else (F_X3_readSum_54 g_X3_readTerm k12 a0 a1 a2 (5 : Int32) h))
def F_X3_readSum_12 (g_X3_readTerm : Nat → Int32 → pg_H → Option (Int32 × pg_H)) : Nat → Nat → Int32 → Int32 → pg_H → Option (Int32 × pg_H)
  | 0 => fun _ _ _ _ => none
  | n + 1 => fun a0 a1 a2 h => (if a2 < (400 : Int32) then Option.bind (pg_gI 3 5 h a0) fun v1 => (if v1 = (143 : Int32) then (F_X3_readSum_39 g_X3_readTerm (F_X3_readSum_12 g_X3_readTerm n) a0 a1 a2 h) else Option.bind (pg_gI 3 5 h a0) fun v2 => (if v2 = (145 : Int32) then (F_X3_readSum_39 g_X3_readTerm (F_X3_readSum_12 g_X3_readTerm n) a0 a1 a2 h) else (some ((1 : Int32), h)))) else (some ((1 : Int32), h)))
def B_X3_readSum (g_X3_readTerm : Nat → Int32 → pg_H → Option (Int32 × pg_H)) (a0 : Nat) (a1 : Int32) (h : pg_H) : Option (Int32 × pg_H) := Option.bind (pg_rcv 3 h a0 (g_X3_readTerm a0 a1 h)) fun v1 => (if v1.1 = 0 then (some ((0 : Int32), v1.2)) else (F_X3_readSum_12 g_X3_readTerm pg_fuel a0 a1 (0 : Int32) v1.2))
def F_X3_readTerm_56 (g_X3_readPart : Nat → Int32 → pg_H → Option (Int32 × pg_H)) (k12 : Nat → Int32 → Int32 → pg_H → Option (Int32 × pg_H)) (a0 : Nat) (a1 : Int32) (a2 : Int32) (s0 : Int32) (h : pg_H) : Option (Int32 × pg_H) := Option.bind (pg_rcv 3 h a0 (F_X3_advance a0 h)) fun v1 => Option.bind (pg_rcv 3 v1 a0 (g_X3_readPart a0 a1 v1)) fun v2 => (if v2.1 = 0 then (some ((0 : Int32), v2.2)) else Option.bind (pg_rcv 3 v2.2 a0 (F_X3_emit a0 s0 v2.2)) fun v3 => (k12 a0 a1 (a2 + (1 : Int32)) v3))
def F_X3_readTerm_39 (g_X3_readPart : Nat → Int32 → pg_H → Option (Int32 × pg_H)) (k12 : Nat → Int32 → Int32 → pg_H → Option (Int32 × pg_H)) (a0 : Nat) (a1 : Int32) (a2 : Int32) (h : pg_H) : Option (Int32 × pg_H) := Option.bind (pg_gI 3 5 h a0) fun v1 => (if v1 = (142 : Int32) then (F_X3_readTerm_56 g_X3_readPart k12 a0 a1 a2 (6 : Int32) h) else (F_X3_readTerm_56 g_X3_readPart k12 a0 a1 a2 (7 : Int32) h))
def F_X3_readTerm_12 (g_X3_readPart : Nat → Int32 → pg_H → Option (Int32 × pg_H)) : Nat → Nat → Int32 → Int32 → pg_H → Option (Int32 × pg_H)
  | 0 => fun _ _ _ _ => none
  | n + 1 => fun a0 a1 a2 h => (if a2 < (400 : Int32) then Option.bind (pg_gI 3 5 h a0) fun v1 => (if v1 = (142 : Int32) then (F_X3_readTerm_39 g_X3_readPart (F_X3_readTerm_12 g_X3_readPart n) a0 a1 a2 h) else Option.bind (pg_gI 3 5 h a0) fun v2 => (if v2 = (147 : Int32) then (F_X3_readTerm_39 g_X3_readPart (F_X3_readTerm_12 g_X3_readPart n) a0 a1 a2 h) else (some ((1 : Int32), h)))) else (some ((1 : Int32), h)))
def B_X3_readTerm (g_X3_readPart : Nat → Int32 → pg_H → Option (Int32 × pg_H)) (a0 : Nat) (a1 : Int32) (h : pg_H) : Option (Int32 × pg_H) := Option.bind (pg_rcv 3 h a0 (g_X3_readPart a0 a1 h)) fun v1 => (if v1.1 = 0 then (some ((0 : Int32), v1.2)) else (F_X3_readTerm_12 g_X3_readPart pg_fuel a0 a1 (0 : Int32) v1.2))
def F_X3_readPart_156 (g_X3_readSum : Nat → Int32 → pg_H → Option (Int32 × pg_H)) (a0 : Nat) (s0 : Int32) (s1 : Nat) (h : pg_H) : Option (Int32 × pg_H) := Option.bind (pg_rcv 3 h s1 (F_X3_emit s1 s0 h)) fun v1 => Option.bind (pg_rcv 3 v1 a0 (F_X3_advance a0 v1)) fun v2 => (some ((1 : Int32), v2))
def F_X3_readPart_134 (g_X3_readSum : Nat → Int32 → pg_H → Option (Int32 × pg_H)) (a0 : Nat) (a2 : Int32) (s0 : Int32) (s1 : Nat) (h : pg_H) : Option (Int32 × pg_H) := Option.bind (pg_rcv 3 h s1 (F_X3_emit s1 s0 h)) fun v1 => (if a2 = 0 then Option.bind (pg_gI 3 5 v1 a0) fun v2 => (F_X3_readPart_156 g_X3_readSum a0 (v2 - (11 : Int32)) a0 v1) else Option.bind (pg_gI 3 6 v1 a0) fun v3 => (F_X3_readPart_156 g_X3_readSum a0 v3 a0 v1))
def F_X3_readPart_109 (g_X3_readSum : Nat → Int32 → pg_H → Option (Int32 × pg_H)) (a0 : Nat) (h : pg_H) : Option (Int32 × pg_H) := Option.bind (pg_rcv 3 h a0 (F_X3_fail a0 h)) fun v1 => (if v1.1 = 0 ∨ v1.1 = 1 then some (v1.1, v1.2) else none)
def F_X3_readPart_100 (g_X3_readSum : Nat → Int32 → pg_H → Option (Int32 × pg_H)) (a0 : Nat) (a2 : Int32) (h : pg_H) : Option (Int32 × pg_H) := Option.bind (pg_gI 3 7 h a0) fun v1 => (if v1 < (50 : Int32) then Option.bind (pg_gI 3 7 h a0) fun v2 => Option.bind (pg_pI 3 7 h a0 (v2 + (1 : Int32))) fun v3 => (if a2 = 0 then (F_X3_readPart_134 g_X3_readSum a0 a2 (1 : Int32) a0 v3) else (F_X3_readPart_134 g_X3_readSum a0 a2 (0 : Int32) a0 v3)) else (F_X3_readPart_109 g_X3_readSum a0 h))
def F_X3_readPart_91 (g_X3_readSum : Nat → Int32 → pg_H → Option (Int32 × pg_H)) (a0 : Nat) (a2 : Int32) (s0 : Int32) (h : pg_H) : Option (Int32 × pg_H) := (if a2 = 0 then (if s0 = 0 then (F_X3_readPart_109 g_X3_readSum a0 h) else (F_X3_readPart_100 g_X3_readSum a0 a2 h)) else (F_X3_readPart_100 g_X3_readSum a0 a2 h))
def F_X3_readPart_90 (g_X3_readSum : Nat → Int32 → pg_H → Option (Int32 × pg_H)) (a0 : Nat) (a2 : Int32) (h : pg_H) : Option (Int32 × pg_H) := (F_X3_readPart_91 g_X3_readSum a0 a2 (0 : Int32) h)
def F_X3_readPart_67 (g_X3_readSum : Nat → Int32 → pg_H → Option (Int32 × pg_H)) (a0 : Nat) (s0 : Int32) (h : pg_H) : Option (Int32 × pg_H) := Option.bind (pg_gI 3 5 h a0) fun v1 => (if v1 < (11 : Int32) then (F_X3_readPart_90 g_X3_readSum a0 s0 h) else Option.bind (pg_gI 3 5 h a0) fun v2 => (if (19 : Int32) < v2 then (F_X3_readPart_90 g_X3_readSum a0 s0 h) else (F_X3_readPart_91 g_X3_readSum a0 s0 (1 : Int32) h)))
def F_X3_readPart_66 (g_X3_readSum : Nat → Int32 → pg_H → Option (Int32 × pg_H)) (a0 : Nat) (h : pg_H) : Option (Int32 × pg_H) := (F_X3_readPart_67 g_X3_readSum a0 (0 : Int32) h)
def B_X3_readPart (g_X3_readSum : Nat → Int32 → pg_H → Option (Int32 × pg_H)) (a0 : Nat) (a1 : Int32) (h : pg_H) : Option (Int32 × pg_H) := Option.bind (pg_gI 3 5 h a0) fun v1 => (if v1 = (191 : Int32) then Option.bind (pg_rcv 3 h a0 (F_X3_openBracket a0 a1 h)) fun v4 => (if v4.1 = 0 then (some ((0 : Int32), v4.2)) else Option.bind (pg_rcv 3 v4.2 a0 (g_X3_readSum a0 (a1 + (1 : Int32)) v4.2)) fun v5 => (if v5.1 = 0 then (some ((0 : Int32), v5.2)) else Option.bind (pg_rcv 3 v5.2 a0 (F_X3_takeSign a0 (93 : Int32) v5.2)) fun v6 => (if v6.1 = 0 then (some ((0 : Int32), v6.2)) else (some ((1 : Int32), v6.2))))) else Option.bind (pg_gI 3 5 h a0) fun v2 => (if v2 = (21 : Int32) then Option.bind (pg_gI 3 6 h a0) fun v3 => (if (1000 : Int32) < v3 then (F_X3_readPart_66 g_X3_readSum a0 h) else (F_X3_readPart_67 g_X3_readSum a0 (1 : Int32) h)) else (F_X3_readPart_66 g_X3_readSum a0 h)))
def FG_X3_readTest : Nat → (Nat → Int32 → pg_H → Option (Int32 × pg_H)) × (Nat → Int32 → pg_H → Option (Int32 × pg_H)) × (Nat → Int32 → pg_H → Option (Int32 × pg_H)) × (Nat → Int32 → pg_H → Option (Int32 × pg_H)) × (Nat → Int32 → pg_H → Option (Int32 × pg_H)) × (Nat → Int32 → pg_H → Option (Int32 × pg_H))
  | 0 => (fun _ _ _ => none, fun _ _ _ => none, fun _ _ _ => none, fun _ _ _ => none, fun _ _ _ => none, fun _ _ _ => none)
  | n + 1 => (B_X3_readTest ((FG_X3_readTest n).2.1), B_X3_readBoth ((FG_X3_readTest n).2.2.1), B_X3_readPlain ((FG_X3_readTest n).1) ((FG_X3_readTest n).2.2.2.1), B_X3_readSum ((FG_X3_readTest n).2.2.2.2.1), B_X3_readTerm ((FG_X3_readTest n).2.2.2.2.2), B_X3_readPart ((FG_X3_readTest n).2.2.2.1))
def F_X3_readTest (a0 : Nat) (a1 : Int32) (h : pg_H) : Option (Int32 × pg_H) := (FG_X3_readTest 1300).1 a0 a1 h
def F_X3_readBoth (a0 : Nat) (a1 : Int32) (h : pg_H) : Option (Int32 × pg_H) := (FG_X3_readTest 1300).2.1 a0 a1 h
def F_X3_readPlain (a0 : Nat) (a1 : Int32) (h : pg_H) : Option (Int32 × pg_H) := (FG_X3_readTest 1300).2.2.1 a0 a1 h
def F_X3_readSum (a0 : Nat) (a1 : Int32) (h : pg_H) : Option (Int32 × pg_H) := (FG_X3_readTest 1300).2.2.2.1 a0 a1 h
def F_X3_readTerm (a0 : Nat) (a1 : Int32) (h : pg_H) : Option (Int32 × pg_H) := (FG_X3_readTest 1300).2.2.2.2.1 a0 a1 h
def F_X3_readPart (a0 : Nat) (a1 : Int32) (h : pg_H) : Option (Int32 × pg_H) := (FG_X3_readTest 1300).2.2.2.2.2 a0 a1 h
theorem e_X3_readTest_12 (l : Launch) (D : pg_D) (dn dm : Nat) (hdn : 9 ≤ dn) (hdm : 269 ≤ dm) (g_X3_readBoth : Nat → Int32 → pg_H → Option (Int32 × pg_H)) (hg_X3_readBoth : ∀ (a0 : Nat) (a1 : Int32) (h : pg_H) (x : (Int32 × pg_H)), g_X3_readBoth a0 a1 h = some x → pg_Ct l D yX3_readBoth cX3_readBoth 4 (some FieldType.boolean) dn dm [pR a0, pI a1] h (pg_wI x))  : ∀ (n : Nat) (a0 : Nat) (a1 : Int32) (a2 : Int32) (h : pg_H), pg_EvF l D RX3 cX3_readTest 4 (some FieldType.boolean) "readTest" (dn + 1) (dm + 23) pg_wI (F_X3_readTest_12 g_X3_readBoth n a0 a1 a2 h) 12 [(0, pR a0), (1, pI a1), (2, pI a2)] [] h := by
  intro n
  induction n with
  | zero => intro a0 a1 a2 h; exact pg_none
  | succ n ih =>
    intro a0 a1 a2 h
    rw [F_X3_readTest_12]
    refine pg_iload_n (i := 2) dX3_readTest_12 rfl 2 rfl ?_
    refine pg_sipush dX3_readTest_13 cs_400 ?_
    refine pg_icmp_ge (tgt := 59) dX3_readTest_16 rfl ?_ ?_
    · refine pg_iconst dX3_readTest_59 ci_1 ?_
      exact pg_zret dX3_readTest_60 rfl (Or.inr rfl) rfl
    · refine pg_aload_n (i := 0) dX3_readTest_19 rfl 0 rfl ?_
      refine pg_getI dX3_readTest_20 fl_RX3_42 rfl (fun v1 => ?_)
      refine pg_bipush dX3_readTest_23 cb_8 ?_
      refine pg_icmp_ne (tgt := 59) dX3_readTest_25 rfl ?_ ?_
      · refine pg_iconst dX3_readTest_59 ci_1 ?_
        exact pg_zret dX3_readTest_60 rfl (Or.inr rfl) rfl
      · refine pg_aload_n (i := 0) dX3_readTest_28 rfl 0 rfl ?_
        refine pg_iconst dX3_readTest_29 ci_2 ?_
        refine pg_callV_wI (As := [pI (2 : Int32)]) (rs := []) dX3_readTest_30 lk_RX3_73 vy_X3_emitJump nd_X3_emitJump (c_X3_emitJump l D a0 (2 : Int32) h) rfl rfl (Nat.le_of_ble_eq_true rfl) (by omega) (by omega) (fun v2 => ?_)
        refine pg_istore_n (i := 3) (lv' := [(3, pI v2.1), (0, pR a0), (1, pI a1), (2, pI a2)]) dX3_readTest_33 rfl (by decide) rfl ?_
        refine pg_aload_n (i := 0) dX3_readTest_34 rfl 1 rfl ?_
        refine pg_callV_wV (As := []) (rs := []) dX3_readTest_35 lk_RX3_32 vy_X3_advance nd_X3_advance (c_X3_advance l D a0 v2.2) rfl rfl (Nat.le_of_ble_eq_true rfl) (by omega) (by omega) (fun v3 => ?_)
        refine pg_aload_n (i := 0) dX3_readTest_38 rfl 1 rfl ?_
        refine pg_iload_n (i := 1) dX3_readTest_39 rfl 2 rfl ?_
        refine pg_callV_wI (As := [pI a1]) (rs := []) dX3_readTest_40 lk_RX3_70 vy_X3_readBoth nd_X3_readBoth (hg_X3_readBoth a0 a1 v3) rfl rfl (Nat.le_of_ble_eq_true rfl) (Nat.le_refl _) (by omega) (fun v4 => ?_)
        refine pg_if_ne (tgt := 48) dX3_readTest_43 rfl ?_ ?_
        · refine pg_aload_n (i := 0) dX3_readTest_48 rfl 1 rfl ?_
          refine pg_iload_n (i := 3) dX3_readTest_49 rfl 0 rfl ?_
          refine pg_callV_wV (As := [pI v2.1]) (rs := []) dX3_readTest_50 lk_RX3_64 vy_X3_patch nd_X3_patch (c_X3_patch l D a0 v2.1 v4.2) rfl rfl (Nat.le_of_ble_eq_true rfl) (by omega) (by omega) (fun v5 => ?_)
          refine pg_iinc (lv' := [(2, pI (a2 + (1 : Int32))), (3, pI v2.1), (0, pR a0), (1, pI a1)]) dX3_readTest_53 3 rfl ci_1 (by decide) rfl ?_
          refine pg_goto (tgt := 12) dX3_readTest_56 rfl ?_
          exact pg_to (ih a0 a1 (a2 + (1 : Int32)) v5) [2, 3, 0] rfl
        · refine pg_iconst dX3_readTest_46 ci_0 ?_
          exact pg_zret dX3_readTest_47 rfl (Or.inl rfl) rfl
theorem e_X3_readTest (l : Launch) (D : pg_D) (dn dm : Nat) (hdn : 9 ≤ dn) (hdm : 269 ≤ dm) (g_X3_readBoth : Nat → Int32 → pg_H → Option (Int32 × pg_H)) (hg_X3_readBoth : ∀ (a0 : Nat) (a1 : Int32) (h : pg_H) (x : (Int32 × pg_H)), g_X3_readBoth a0 a1 h = some x → pg_Ct l D yX3_readBoth cX3_readBoth 4 (some FieldType.boolean) dn dm [pR a0, pI a1] h (pg_wI x)) (a0 : Nat) (a1 : Int32) (h : pg_H) : pg_EvF l D RX3 cX3_readTest 4 (some FieldType.boolean) "readTest" (dn + 1) (dm + 23) pg_wI (B_X3_readTest g_X3_readBoth a0 a1 h) 0 [(0, pR a0), (1, pI a1)] [] h := by
  unfold B_X3_readTest
  refine pg_aload_n (i := 0) dX3_readTest_0 rfl 0 rfl ?_
  refine pg_iload_n (i := 1) dX3_readTest_1 rfl 1 rfl ?_
  refine pg_callV_wI (As := [pI a1]) (rs := []) dX3_readTest_2 lk_RX3_70 vy_X3_readBoth nd_X3_readBoth (hg_X3_readBoth a0 a1 h) rfl rfl (Nat.le_of_ble_eq_true rfl) (Nat.le_refl _) (by omega) (fun v1 => ?_)
  refine pg_if_ne (tgt := 10) dX3_readTest_5 rfl ?_ ?_
  · refine pg_iconst dX3_readTest_10 ci_0 ?_
    refine pg_istore_n (i := 2) (lv' := [(2, pI (0 : Int32)), (0, pR a0), (1, pI a1)]) dX3_readTest_11 rfl (by decide) rfl ?_
    exact pg_to (e_X3_readTest_12 l D dn dm hdn hdm g_X3_readBoth hg_X3_readBoth pg_fuel a0 a1 (0 : Int32) v1.2) [1, 2, 0] rfl
  · refine pg_iconst dX3_readTest_8 ci_0 ?_
    exact pg_zret dX3_readTest_9 rfl (Or.inl rfl) rfl
theorem e_X3_readBoth_12 (l : Launch) (D : pg_D) (dn dm : Nat) (hdn : 9 ≤ dn) (hdm : 269 ≤ dm) (g_X3_readPlain : Nat → Int32 → pg_H → Option (Int32 × pg_H)) (hg_X3_readPlain : ∀ (a0 : Nat) (a1 : Int32) (h : pg_H) (x : (Int32 × pg_H)), g_X3_readPlain a0 a1 h = some x → pg_Ct l D yX3_readPlain cX3_readPlain 4 (some FieldType.boolean) dn dm [pR a0, pI a1] h (pg_wI x))  : ∀ (n : Nat) (a0 : Nat) (a1 : Int32) (a2 : Int32) (h : pg_H), pg_EvF l D RX3 cX3_readBoth 4 (some FieldType.boolean) "readBoth" (dn + 1) (dm + 23) pg_wI (F_X3_readBoth_12 g_X3_readPlain n a0 a1 a2 h) 12 [(0, pR a0), (1, pI a1), (2, pI a2)] [] h := by
  intro n
  induction n with
  | zero => intro a0 a1 a2 h; exact pg_none
  | succ n ih =>
    intro a0 a1 a2 h
    rw [F_X3_readBoth_12]
    refine pg_iload_n (i := 2) dX3_readBoth_12 rfl 2 rfl ?_
    refine pg_sipush dX3_readBoth_13 cs_400 ?_
    refine pg_icmp_ge (tgt := 59) dX3_readBoth_16 rfl ?_ ?_
    · refine pg_iconst dX3_readBoth_59 ci_1 ?_
      exact pg_zret dX3_readBoth_60 rfl (Or.inr rfl) rfl
    · refine pg_aload_n (i := 0) dX3_readBoth_19 rfl 0 rfl ?_
      refine pg_getI dX3_readBoth_20 fl_RX3_42 rfl (fun v1 => ?_)
      refine pg_bipush dX3_readBoth_23 cb_9 ?_
      refine pg_icmp_ne (tgt := 59) dX3_readBoth_25 rfl ?_ ?_
      · refine pg_iconst dX3_readBoth_59 ci_1 ?_
        exact pg_zret dX3_readBoth_60 rfl (Or.inr rfl) rfl
      · refine pg_aload_n (i := 0) dX3_readBoth_28 rfl 0 rfl ?_
        refine pg_iconst dX3_readBoth_29 ci_3 ?_
        refine pg_callV_wI (As := [pI (3 : Int32)]) (rs := []) dX3_readBoth_30 lk_RX3_73 vy_X3_emitJump nd_X3_emitJump (c_X3_emitJump l D a0 (3 : Int32) h) rfl rfl (Nat.le_of_ble_eq_true rfl) (by omega) (by omega) (fun v2 => ?_)
        refine pg_istore_n (i := 3) (lv' := [(3, pI v2.1), (0, pR a0), (1, pI a1), (2, pI a2)]) dX3_readBoth_33 rfl (by decide) rfl ?_
        refine pg_aload_n (i := 0) dX3_readBoth_34 rfl 1 rfl ?_
        refine pg_callV_wV (As := []) (rs := []) dX3_readBoth_35 lk_RX3_32 vy_X3_advance nd_X3_advance (c_X3_advance l D a0 v2.2) rfl rfl (Nat.le_of_ble_eq_true rfl) (by omega) (by omega) (fun v3 => ?_)
        refine pg_aload_n (i := 0) dX3_readBoth_38 rfl 1 rfl ?_
        refine pg_iload_n (i := 1) dX3_readBoth_39 rfl 2 rfl ?_
        refine pg_callV_wI (As := [pI a1]) (rs := []) dX3_readBoth_40 lk_RX3_77 vy_X3_readPlain nd_X3_readPlain (hg_X3_readPlain a0 a1 v3) rfl rfl (Nat.le_of_ble_eq_true rfl) (Nat.le_refl _) (by omega) (fun v4 => ?_)
        refine pg_if_ne (tgt := 48) dX3_readBoth_43 rfl ?_ ?_
        · refine pg_aload_n (i := 0) dX3_readBoth_48 rfl 1 rfl ?_
          refine pg_iload_n (i := 3) dX3_readBoth_49 rfl 0 rfl ?_
          refine pg_callV_wV (As := [pI v2.1]) (rs := []) dX3_readBoth_50 lk_RX3_64 vy_X3_patch nd_X3_patch (c_X3_patch l D a0 v2.1 v4.2) rfl rfl (Nat.le_of_ble_eq_true rfl) (by omega) (by omega) (fun v5 => ?_)
          refine pg_iinc (lv' := [(2, pI (a2 + (1 : Int32))), (3, pI v2.1), (0, pR a0), (1, pI a1)]) dX3_readBoth_53 3 rfl ci_1 (by decide) rfl ?_
          refine pg_goto (tgt := 12) dX3_readBoth_56 rfl ?_
          exact pg_to (ih a0 a1 (a2 + (1 : Int32)) v5) [2, 3, 0] rfl
        · refine pg_iconst dX3_readBoth_46 ci_0 ?_
          exact pg_zret dX3_readBoth_47 rfl (Or.inl rfl) rfl
theorem e_X3_readBoth (l : Launch) (D : pg_D) (dn dm : Nat) (hdn : 9 ≤ dn) (hdm : 269 ≤ dm) (g_X3_readPlain : Nat → Int32 → pg_H → Option (Int32 × pg_H)) (hg_X3_readPlain : ∀ (a0 : Nat) (a1 : Int32) (h : pg_H) (x : (Int32 × pg_H)), g_X3_readPlain a0 a1 h = some x → pg_Ct l D yX3_readPlain cX3_readPlain 4 (some FieldType.boolean) dn dm [pR a0, pI a1] h (pg_wI x)) (a0 : Nat) (a1 : Int32) (h : pg_H) : pg_EvF l D RX3 cX3_readBoth 4 (some FieldType.boolean) "readBoth" (dn + 1) (dm + 23) pg_wI (B_X3_readBoth g_X3_readPlain a0 a1 h) 0 [(0, pR a0), (1, pI a1)] [] h := by
  unfold B_X3_readBoth
  refine pg_aload_n (i := 0) dX3_readBoth_0 rfl 0 rfl ?_
  refine pg_iload_n (i := 1) dX3_readBoth_1 rfl 1 rfl ?_
  refine pg_callV_wI (As := [pI a1]) (rs := []) dX3_readBoth_2 lk_RX3_77 vy_X3_readPlain nd_X3_readPlain (hg_X3_readPlain a0 a1 h) rfl rfl (Nat.le_of_ble_eq_true rfl) (Nat.le_refl _) (by omega) (fun v1 => ?_)
  refine pg_if_ne (tgt := 10) dX3_readBoth_5 rfl ?_ ?_
  · refine pg_iconst dX3_readBoth_10 ci_0 ?_
    refine pg_istore_n (i := 2) (lv' := [(2, pI (0 : Int32)), (0, pR a0), (1, pI a1)]) dX3_readBoth_11 rfl (by decide) rfl ?_
    exact pg_to (e_X3_readBoth_12 l D dn dm hdn hdm g_X3_readPlain hg_X3_readPlain pg_fuel a0 a1 (0 : Int32) v1.2) [1, 2, 0] rfl
  · refine pg_iconst dX3_readBoth_8 ci_0 ?_
    exact pg_zret dX3_readBoth_9 rfl (Or.inl rfl) rfl
theorem e_X3_readPlain_162 (l : Launch) (D : pg_D) (dn dm : Nat) (hdn : 9 ≤ dn) (hdm : 269 ≤ dm) (g_X3_readTest : Nat → Int32 → pg_H → Option (Int32 × pg_H)) (g_X3_readSum : Nat → Int32 → pg_H → Option (Int32 × pg_H)) (hg_X3_readTest : ∀ (a0 : Nat) (a1 : Int32) (h : pg_H) (x : (Int32 × pg_H)), g_X3_readTest a0 a1 h = some x → pg_Ct l D yX3_readTest cX3_readTest 4 (some FieldType.boolean) dn dm [pR a0, pI a1] h (pg_wI x)) (hg_X3_readSum : ∀ (a0 : Nat) (a1 : Int32) (h : pg_H) (x : (Int32 × pg_H)), g_X3_readSum a0 a1 h = some x → pg_Ct l D yX3_readSum cX3_readSum 4 (some FieldType.boolean) dn dm [pR a0, pI a1] h (pg_wI x)) (a0 : Nat) (a2 : Int32) (h : pg_H) : pg_EvF l D RX3 cX3_readPlain 4 (some FieldType.boolean) "readPlain" (dn + 1) (dm + 23) pg_wI (F_X3_readPlain_162 g_X3_readTest g_X3_readSum a0 a2 h) 162 [(0, pR a0), (2, pI a2)] [] h := by
  unfold F_X3_readPlain_162
  refine pg_iload_n (i := 2) dX3_readPlain_162 rfl 1 rfl ?_
  refine pg_if_eq (tgt := 172) dX3_readPlain_163 rfl ?_ ?_
  · refine pg_iconst dX3_readPlain_172 ci_1 ?_
    exact pg_zret dX3_readPlain_173 rfl (Or.inr rfl) rfl
  · refine pg_aload_n (i := 0) dX3_readPlain_166 rfl 0 rfl ?_
    refine pg_bipush dX3_readPlain_167 cb_11 ?_
    refine pg_callV_wV (As := [pI (11 : Int32)]) (rs := []) dX3_readPlain_169 lk_RX3_57 vy_X3_emit nd_X3_emit (c_X3_emit l D a0 (11 : Int32) h) rfl rfl (Nat.le_of_ble_eq_true rfl) (by omega) (by omega) (fun v1 => ?_)
    refine pg_iconst dX3_readPlain_172 ci_1 ?_
    exact pg_zret dX3_readPlain_173 rfl (Or.inr rfl) rfl
theorem e_X3_readPlain_143 (l : Launch) (D : pg_D) (dn dm : Nat) (hdn : 9 ≤ dn) (hdm : 269 ≤ dm) (g_X3_readTest : Nat → Int32 → pg_H → Option (Int32 × pg_H)) (g_X3_readSum : Nat → Int32 → pg_H → Option (Int32 × pg_H)) (hg_X3_readTest : ∀ (a0 : Nat) (a1 : Int32) (h : pg_H) (x : (Int32 × pg_H)), g_X3_readTest a0 a1 h = some x → pg_Ct l D yX3_readTest cX3_readTest 4 (some FieldType.boolean) dn dm [pR a0, pI a1] h (pg_wI x)) (hg_X3_readSum : ∀ (a0 : Nat) (a1 : Int32) (h : pg_H) (x : (Int32 × pg_H)), g_X3_readSum a0 a1 h = some x → pg_Ct l D yX3_readSum cX3_readSum 4 (some FieldType.boolean) dn dm [pR a0, pI a1] h (pg_wI x)) (a0 : Nat) (a1 : Int32) (a2 : Int32) (a3 : Int32) (h : pg_H) : pg_EvF l D RX3 cX3_readPlain 4 (some FieldType.boolean) "readPlain" (dn + 1) (dm + 23) pg_wI (F_X3_readPlain_143 g_X3_readTest g_X3_readSum a0 a1 a2 a3 h) 143 [(0, pR a0), (1, pI a1), (2, pI a2), (3, pI a3)] [] h := by
  unfold F_X3_readPlain_143
  refine pg_aload_n (i := 0) dX3_readPlain_143 rfl 0 rfl ?_
  refine pg_callV_wV (As := []) (rs := []) dX3_readPlain_144 lk_RX3_32 vy_X3_advance nd_X3_advance (c_X3_advance l D a0 h) rfl rfl (Nat.le_of_ble_eq_true rfl) (by omega) (by omega) (fun v1 => ?_)
  refine pg_aload_n (i := 0) dX3_readPlain_147 rfl 0 rfl ?_
  refine pg_iload_n (i := 1) dX3_readPlain_148 rfl 1 rfl ?_
  refine pg_callV_wI (As := [pI a1]) (rs := []) dX3_readPlain_149 lk_RX3_61 vy_X3_readSum nd_X3_readSum (hg_X3_readSum a0 a1 v1) rfl rfl (Nat.le_of_ble_eq_true rfl) (Nat.le_refl _) (by omega) (fun v2 => ?_)
  refine pg_if_ne (tgt := 157) dX3_readPlain_152 rfl ?_ ?_
  · refine pg_aload_n (i := 0) dX3_readPlain_157 rfl 0 rfl ?_
    refine pg_iload_n (i := 3) dX3_readPlain_158 rfl 3 rfl ?_
    refine pg_callV_wV (As := [pI a3]) (rs := []) dX3_readPlain_159 lk_RX3_57 vy_X3_emit nd_X3_emit (c_X3_emit l D a0 a3 v2.2) rfl rfl (Nat.le_of_ble_eq_true rfl) (by omega) (by omega) (fun v3 => ?_)
    exact pg_to (e_X3_readPlain_162 l D dn dm hdn hdm g_X3_readTest g_X3_readSum hg_X3_readTest hg_X3_readSum a0 a2 v3) [0, 2] rfl
  · refine pg_iconst dX3_readPlain_155 ci_0 ?_
    exact pg_zret dX3_readPlain_156 rfl (Or.inl rfl) rfl
theorem e_X3_readPlain_121 (l : Launch) (D : pg_D) (dn dm : Nat) (hdn : 9 ≤ dn) (hdm : 269 ≤ dm) (g_X3_readTest : Nat → Int32 → pg_H → Option (Int32 × pg_H)) (g_X3_readSum : Nat → Int32 → pg_H → Option (Int32 × pg_H)) (hg_X3_readTest : ∀ (a0 : Nat) (a1 : Int32) (h : pg_H) (x : (Int32 × pg_H)), g_X3_readTest a0 a1 h = some x → pg_Ct l D yX3_readTest cX3_readTest 4 (some FieldType.boolean) dn dm [pR a0, pI a1] h (pg_wI x)) (hg_X3_readSum : ∀ (a0 : Nat) (a1 : Int32) (h : pg_H) (x : (Int32 × pg_H)), g_X3_readSum a0 a1 h = some x → pg_Ct l D yX3_readSum cX3_readSum 4 (some FieldType.boolean) dn dm [pR a0, pI a1] h (pg_wI x)) (a0 : Nat) (a1 : Int32) (a2 : Int32) (s0 : Int32) (h : pg_H) : pg_EvF l D RX3 cX3_readPlain 4 (some FieldType.boolean) "readPlain" (dn + 1) (dm + 23) pg_wI (F_X3_readPlain_121 g_X3_readTest g_X3_readSum a0 a1 a2 s0 h) 121 [(0, pR a0), (1, pI a1), (2, pI a2)] [pI s0] h := by
  unfold F_X3_readPlain_121
  refine pg_istore_n (i := 3) (lv' := [(3, pI s0), (0, pR a0), (1, pI a1), (2, pI a2)]) dX3_readPlain_121 rfl (by decide) rfl ?_
  refine pg_iload_n (i := 3) dX3_readPlain_122 rfl 0 rfl ?_
  refine pg_bipush dX3_readPlain_123 cb_10 ?_
  refine pg_icmp_ne (tgt := 143) dX3_readPlain_125 rfl ?_ ?_
  · exact pg_to (e_X3_readPlain_143 l D dn dm hdn hdm g_X3_readTest g_X3_readSum hg_X3_readTest hg_X3_readSum a0 a1 a2 s0 h) [1, 2, 3, 0] rfl
  · refine pg_aload_n (i := 0) dX3_readPlain_128 rfl 1 rfl ?_
    refine pg_getI dX3_readPlain_129 fl_RX3_42 rfl (fun v1 => ?_)
    refine pg_sipush dX3_readPlain_132 cs_161 ?_
    refine pg_icmp_eq (tgt := 143) dX3_readPlain_135 rfl ?_ ?_
    · exact pg_to (e_X3_readPlain_143 l D dn dm hdn hdm g_X3_readTest g_X3_readSum hg_X3_readTest hg_X3_readSum a0 a1 a2 s0 h) [1, 2, 3, 0] rfl
    · refine pg_aload_n (i := 0) dX3_readPlain_138 rfl 1 rfl ?_
      refine pg_callV_wI (As := []) (rs := []) dX3_readPlain_139 lk_RX3_35 vy_X3_fail nd_X3_fail (c_X3_fail l D a0 h) rfl rfl (Nat.le_of_ble_eq_true rfl) (by omega) (by omega) (fun v2 => ?_)
      exact pg_zretq dX3_readPlain_142 rfl rfl
theorem e_X3_readPlain_40 (l : Launch) (D : pg_D) (dn dm : Nat) (hdn : 9 ≤ dn) (hdm : 269 ≤ dm) (g_X3_readTest : Nat → Int32 → pg_H → Option (Int32 × pg_H)) (g_X3_readSum : Nat → Int32 → pg_H → Option (Int32 × pg_H)) (hg_X3_readTest : ∀ (a0 : Nat) (a1 : Int32) (h : pg_H) (x : (Int32 × pg_H)), g_X3_readTest a0 a1 h = some x → pg_Ct l D yX3_readTest cX3_readTest 4 (some FieldType.boolean) dn dm [pR a0, pI a1] h (pg_wI x)) (hg_X3_readSum : ∀ (a0 : Nat) (a1 : Int32) (h : pg_H) (x : (Int32 × pg_H)), g_X3_readSum a0 a1 h = some x → pg_Ct l D yX3_readSum cX3_readSum 4 (some FieldType.boolean) dn dm [pR a0, pI a1] h (pg_wI x)) (a0 : Nat) (a1 : Int32) (a2 : Int32) (h : pg_H) : pg_EvF l D RX3 cX3_readPlain 4 (some FieldType.boolean) "readPlain" (dn + 1) (dm + 23) pg_wI (F_X3_readPlain_40 g_X3_readTest g_X3_readSum a0 a1 a2 h) 40 [(0, pR a0), (1, pI a1), (2, pI a2)] [] h := by
  unfold F_X3_readPlain_40
  refine pg_aload_n (i := 0) dX3_readPlain_40 rfl 0 rfl ?_
  refine pg_getI dX3_readPlain_41 fl_RX3_42 rfl (fun v1 => ?_)
  refine pg_sipush dX3_readPlain_44 cs_140 ?_
  refine pg_icmp_ne (tgt := 79) dX3_readPlain_47 rfl ?_ ?_
  · refine pg_aload_n (i := 0) dX3_readPlain_79 rfl 0 rfl ?_
    refine pg_iload_n (i := 1) dX3_readPlain_80 rfl 1 rfl ?_
    refine pg_callV_wI (As := [pI a1]) (rs := []) dX3_readPlain_81 lk_RX3_61 vy_X3_readSum nd_X3_readSum (hg_X3_readSum a0 a1 h) rfl rfl (Nat.le_of_ble_eq_true rfl) (Nat.le_refl _) (by omega) (fun v2 => ?_)
    refine pg_if_ne (tgt := 89) dX3_readPlain_84 rfl ?_ ?_
    · refine pg_aload_n (i := 0) dX3_readPlain_89 rfl 0 rfl ?_
      refine pg_getI dX3_readPlain_90 fl_RX3_42 rfl (fun v3 => ?_)
      refine pg_sipush dX3_readPlain_93 cs_160 ?_
      refine pg_icmp_ne (tgt := 104) dX3_readPlain_96 rfl ?_ ?_
      · refine pg_aload_n (i := 0) dX3_readPlain_104 rfl 0 rfl ?_
        refine pg_getI dX3_readPlain_105 fl_RX3_42 rfl (fun v4 => ?_)
        refine pg_sipush dX3_readPlain_108 cs_162 ?_
        refine pg_icmp_ne (tgt := 119) dX3_readPlain_111 rfl ?_ ?_
        · refine pg_bipush dX3_readPlain_119 cb_10 ?_
          exact pg_to (e_X3_readPlain_121 l D dn dm hdn hdm g_X3_readTest g_X3_readSum hg_X3_readTest hg_X3_readSum a0 a1 a2 (10 : Int32) v2.2) [0, 1, 2] rfl
        · refine pg_bipush dX3_readPlain_114 cb_9 ?_
          refine pg_goto (tgt := 121) dX3_readPlain_116 rfl ?_
          exact pg_to (e_X3_readPlain_121 l D dn dm hdn hdm g_X3_readTest g_X3_readSum hg_X3_readTest hg_X3_readSum a0 a1 a2 (9 : Int32) v2.2) [0, 1, 2] rfl
      · refine pg_bipush dX3_readPlain_99 cb_8 ?_
        refine pg_goto (tgt := 121) dX3_readPlain_101 rfl ?_
        exact pg_to (e_X3_readPlain_121 l D dn dm hdn hdm g_X3_readTest g_X3_readSum hg_X3_readTest hg_X3_readSum a0 a1 a2 (8 : Int32) v2.2) [0, 1, 2] rfl
    · refine pg_iconst dX3_readPlain_87 ci_0 ?_
      exact pg_zret dX3_readPlain_88 rfl (Or.inl rfl) rfl
  · refine pg_aload_n (i := 0) dX3_readPlain_50 rfl 0 rfl ?_
    refine pg_iload_n (i := 1) dX3_readPlain_51 rfl 1 rfl ?_
    refine pg_callV_wI (As := [pI a1]) (rs := []) dX3_readPlain_52 lk_RX3_80 vy_X3_openBracket nd_X3_openBracket (c_X3_openBracket l D a0 a1 h) rfl rfl (Nat.le_of_ble_eq_true rfl) (by omega) (by omega) (fun v5 => ?_)
    refine pg_if_eq (tgt := 77) dX3_readPlain_55 rfl ?_ ?_
    · refine pg_iconst dX3_readPlain_77 ci_0 ?_
      exact pg_zret dX3_readPlain_78 rfl (Or.inl rfl) rfl
    · refine pg_aload_n (i := 0) dX3_readPlain_58 rfl 0 rfl ?_
      refine pg_iload_n (i := 1) dX3_readPlain_59 rfl 1 rfl ?_
      refine pg_iconst dX3_readPlain_60 ci_1 ?_
      refine pg_iadd dX3_readPlain_61 ?_
      refine pg_callV_wI (As := [pI (a1 + (1 : Int32))]) (rs := []) dX3_readPlain_62 lk_RX3_67 vy_X3_readTest nd_X3_readTest (hg_X3_readTest a0 (a1 + (1 : Int32)) v5.2) rfl rfl (Nat.le_of_ble_eq_true rfl) (Nat.le_refl _) (by omega) (fun v6 => ?_)
      refine pg_if_eq (tgt := 77) dX3_readPlain_65 rfl ?_ ?_
      · refine pg_iconst dX3_readPlain_77 ci_0 ?_
        exact pg_zret dX3_readPlain_78 rfl (Or.inl rfl) rfl
      · refine pg_aload_n (i := 0) dX3_readPlain_68 rfl 0 rfl ?_
        refine pg_bipush dX3_readPlain_69 cb_41 ?_
        refine pg_callV_wI (As := [pI (41 : Int32)]) (rs := []) dX3_readPlain_71 lk_RX3_50 vy_X3_takeSign nd_X3_takeSign (c_X3_takeSign l D a0 (41 : Int32) v6.2) rfl rfl (Nat.le_of_ble_eq_true rfl) (by omega) (by omega) (fun v7 => ?_)
        refine pg_if_ne (tgt := 162) dX3_readPlain_74 rfl ?_ ?_
        · exact pg_to (e_X3_readPlain_162 l D dn dm hdn hdm g_X3_readTest g_X3_readSum hg_X3_readTest hg_X3_readSum a0 a2 v7.2) [0, 2] rfl
        · refine pg_iconst dX3_readPlain_77 ci_0 ?_
          exact pg_zret dX3_readPlain_78 rfl (Or.inl rfl) rfl
theorem e_X3_readPlain_29 (l : Launch) (D : pg_D) (dn dm : Nat) (hdn : 9 ≤ dn) (hdm : 269 ≤ dm) (g_X3_readTest : Nat → Int32 → pg_H → Option (Int32 × pg_H)) (g_X3_readSum : Nat → Int32 → pg_H → Option (Int32 × pg_H)) (hg_X3_readTest : ∀ (a0 : Nat) (a1 : Int32) (h : pg_H) (x : (Int32 × pg_H)), g_X3_readTest a0 a1 h = some x → pg_Ct l D yX3_readTest cX3_readTest 4 (some FieldType.boolean) dn dm [pR a0, pI a1] h (pg_wI x)) (hg_X3_readSum : ∀ (a0 : Nat) (a1 : Int32) (h : pg_H) (x : (Int32 × pg_H)), g_X3_readSum a0 a1 h = some x → pg_Ct l D yX3_readSum cX3_readSum 4 (some FieldType.boolean) dn dm [pR a0, pI a1] h (pg_wI x)) (k4 : Nat → Int32 → Int32 → Int32 → pg_H → Option (Int32 × pg_H)) (hk4 : ∀ (a0 : Nat) (a1 : Int32) (a2 : Int32) (a3 : Int32) (h : pg_H), pg_EvF l D RX3 cX3_readPlain 4 (some FieldType.boolean) "readPlain" (dn + 1) (dm + 23) pg_wI (k4 a0 a1 a2 a3 h) 4 [(0, pR a0), (1, pI a1), (2, pI a2), (3, pI a3)] [] h) (a0 : Nat) (a1 : Int32) (a3 : Int32) (s0 : Int32) (h : pg_H) : pg_EvF l D RX3 cX3_readPlain 4 (some FieldType.boolean) "readPlain" (dn + 1) (dm + 23) pg_wI (F_X3_readPlain_29 g_X3_readTest g_X3_readSum k4 a0 a1 a3 s0 h) 29 [(0, pR a0), (1, pI a1), (3, pI a3)] [pI s0] h := by
  unfold F_X3_readPlain_29
  refine pg_istore_n (i := 2) (lv' := [(2, pI s0), (0, pR a0), (1, pI a1), (3, pI a3)]) dX3_readPlain_29 rfl (by decide) rfl ?_
  refine pg_aload_n (i := 0) dX3_readPlain_30 rfl 1 rfl ?_
  refine pg_callV_wV (As := []) (rs := []) dX3_readPlain_31 lk_RX3_32 vy_X3_advance nd_X3_advance (c_X3_advance l D a0 h) rfl rfl (Nat.le_of_ble_eq_true rfl) (by omega) (by omega) (fun v1 => ?_)
  refine pg_iinc (lv' := [(3, pI (a3 + (1 : Int32))), (2, pI s0), (0, pR a0), (1, pI a1)]) dX3_readPlain_34 3 rfl ci_1 (by decide) rfl ?_
  refine pg_goto (tgt := 4) dX3_readPlain_37 rfl ?_
  exact pg_to (hk4 a0 a1 s0 (a3 + (1 : Int32)) v1) [2, 3, 1, 0] rfl
theorem e_X3_readPlain_4 (l : Launch) (D : pg_D) (dn dm : Nat) (hdn : 9 ≤ dn) (hdm : 269 ≤ dm) (g_X3_readTest : Nat → Int32 → pg_H → Option (Int32 × pg_H)) (g_X3_readSum : Nat → Int32 → pg_H → Option (Int32 × pg_H)) (hg_X3_readTest : ∀ (a0 : Nat) (a1 : Int32) (h : pg_H) (x : (Int32 × pg_H)), g_X3_readTest a0 a1 h = some x → pg_Ct l D yX3_readTest cX3_readTest 4 (some FieldType.boolean) dn dm [pR a0, pI a1] h (pg_wI x)) (hg_X3_readSum : ∀ (a0 : Nat) (a1 : Int32) (h : pg_H) (x : (Int32 × pg_H)), g_X3_readSum a0 a1 h = some x → pg_Ct l D yX3_readSum cX3_readSum 4 (some FieldType.boolean) dn dm [pR a0, pI a1] h (pg_wI x))  : ∀ (n : Nat) (a0 : Nat) (a1 : Int32) (a2 : Int32) (a3 : Int32) (h : pg_H), pg_EvF l D RX3 cX3_readPlain 4 (some FieldType.boolean) "readPlain" (dn + 1) (dm + 23) pg_wI (F_X3_readPlain_4 g_X3_readTest g_X3_readSum n a0 a1 a2 a3 h) 4 [(0, pR a0), (1, pI a1), (2, pI a2), (3, pI a3)] [] h := by
  intro n
  induction n with
  | zero => intro a0 a1 a2 a3 h; exact pg_none
  | succ n ih =>
    intro a0 a1 a2 a3 h
    rw [F_X3_readPlain_4]
    refine pg_iload_n (i := 3) dX3_readPlain_4 rfl 3 rfl ?_
    refine pg_sipush dX3_readPlain_5 cs_400 ?_
    refine pg_icmp_ge (tgt := 40) dX3_readPlain_8 rfl ?_ ?_
    · exact pg_to (e_X3_readPlain_40 l D dn dm hdn hdm g_X3_readTest g_X3_readSum hg_X3_readTest hg_X3_readSum a0 a1 a2 h) [0, 1, 2] rfl
    · refine pg_aload_n (i := 0) dX3_readPlain_11 rfl 0 rfl ?_
      refine pg_getI dX3_readPlain_12 fl_RX3_42 rfl (fun v1 => ?_)
      refine pg_bipush dX3_readPlain_15 cb_10 ?_
      refine pg_icmp_ne (tgt := 40) dX3_readPlain_17 rfl ?_ ?_
      · exact pg_to (e_X3_readPlain_40 l D dn dm hdn hdm g_X3_readTest g_X3_readSum hg_X3_readTest hg_X3_readSum a0 a1 a2 h) [0, 1, 2] rfl
      · refine pg_iload_n (i := 2) dX3_readPlain_20 rfl 2 rfl ?_
        refine pg_if_ne (tgt := 28) dX3_readPlain_21 rfl ?_ ?_
        · refine pg_iconst dX3_readPlain_28 ci_0 ?_
          exact pg_to (e_X3_readPlain_29 l D dn dm hdn hdm g_X3_readTest g_X3_readSum hg_X3_readTest hg_X3_readSum (F_X3_readPlain_4 g_X3_readTest g_X3_readSum n) ih a0 a1 a3 (0 : Int32) h) [0, 1, 3] rfl
        · refine pg_iconst dX3_readPlain_24 ci_1 ?_
          refine pg_goto (tgt := 29) dX3_readPlain_25 rfl ?_
          exact pg_to (e_X3_readPlain_29 l D dn dm hdn hdm g_X3_readTest g_X3_readSum hg_X3_readTest hg_X3_readSum (F_X3_readPlain_4 g_X3_readTest g_X3_readSum n) ih a0 a1 a3 (1 : Int32) h) [0, 1, 3] rfl
theorem e_X3_readPlain (l : Launch) (D : pg_D) (dn dm : Nat) (hdn : 9 ≤ dn) (hdm : 269 ≤ dm) (g_X3_readTest : Nat → Int32 → pg_H → Option (Int32 × pg_H)) (g_X3_readSum : Nat → Int32 → pg_H → Option (Int32 × pg_H)) (hg_X3_readTest : ∀ (a0 : Nat) (a1 : Int32) (h : pg_H) (x : (Int32 × pg_H)), g_X3_readTest a0 a1 h = some x → pg_Ct l D yX3_readTest cX3_readTest 4 (some FieldType.boolean) dn dm [pR a0, pI a1] h (pg_wI x)) (hg_X3_readSum : ∀ (a0 : Nat) (a1 : Int32) (h : pg_H) (x : (Int32 × pg_H)), g_X3_readSum a0 a1 h = some x → pg_Ct l D yX3_readSum cX3_readSum 4 (some FieldType.boolean) dn dm [pR a0, pI a1] h (pg_wI x)) (a0 : Nat) (a1 : Int32) (h : pg_H) : pg_EvF l D RX3 cX3_readPlain 4 (some FieldType.boolean) "readPlain" (dn + 1) (dm + 23) pg_wI (B_X3_readPlain g_X3_readTest g_X3_readSum a0 a1 h) 0 [(0, pR a0), (1, pI a1)] [] h := by
  unfold B_X3_readPlain
  refine pg_iconst dX3_readPlain_0 ci_0 ?_
  refine pg_istore_n (i := 2) (lv' := [(2, pI (0 : Int32)), (0, pR a0), (1, pI a1)]) dX3_readPlain_1 rfl (by decide) rfl ?_
  refine pg_iconst dX3_readPlain_2 ci_0 ?_
  refine pg_istore_n (i := 3) (lv' := [(3, pI (0 : Int32)), (2, pI (0 : Int32)), (0, pR a0), (1, pI a1)]) dX3_readPlain_3 rfl (by decide) rfl ?_
  exact pg_to (e_X3_readPlain_4 l D dn dm hdn hdm g_X3_readTest g_X3_readSum hg_X3_readTest hg_X3_readSum pg_fuel a0 a1 (0 : Int32) (0 : Int32) h) [2, 3, 1, 0] rfl
theorem e_X3_readSum_54 (l : Launch) (D : pg_D) (dn dm : Nat) (hdn : 9 ≤ dn) (hdm : 269 ≤ dm) (g_X3_readTerm : Nat → Int32 → pg_H → Option (Int32 × pg_H)) (hg_X3_readTerm : ∀ (a0 : Nat) (a1 : Int32) (h : pg_H) (x : (Int32 × pg_H)), g_X3_readTerm a0 a1 h = some x → pg_Ct l D yX3_readTerm cX3_readTerm 4 (some FieldType.boolean) dn dm [pR a0, pI a1] h (pg_wI x)) (k12 : Nat → Int32 → Int32 → pg_H → Option (Int32 × pg_H)) (hk12 : ∀ (a0 : Nat) (a1 : Int32) (a2 : Int32) (h : pg_H), pg_EvF l D RX3 cX3_readSum 4 (some FieldType.boolean) "readSum" (dn + 1) (dm + 23) pg_wI (k12 a0 a1 a2 h) 12 [(0, pR a0), (1, pI a1), (2, pI a2)] [] h) (a0 : Nat) (a1 : Int32) (a2 : Int32) (s0 : Int32) (h : pg_H) : pg_EvF l D RX3 cX3_readSum 4 (some FieldType.boolean) "readSum" (dn + 1) (dm + 23) pg_wI (F_X3_readSum_54 g_X3_readTerm k12 a0 a1 a2 s0 h) 54 [(0, pR a0), (1, pI a1), (2, pI a2)] [pI s0] h := by
  unfold F_X3_readSum_54
  refine pg_istore_n (i := 3) (lv' := [(3, pI s0), (0, pR a0), (1, pI a1), (2, pI a2)]) dX3_readSum_54 rfl (by decide) rfl ?_
  refine pg_aload_n (i := 0) dX3_readSum_55 rfl 1 rfl ?_
  refine pg_callV_wV (As := []) (rs := []) dX3_readSum_56 lk_RX3_32 vy_X3_advance nd_X3_advance (c_X3_advance l D a0 h) rfl rfl (Nat.le_of_ble_eq_true rfl) (by omega) (by omega) (fun v1 => ?_)
  refine pg_aload_n (i := 0) dX3_readSum_59 rfl 1 rfl ?_
  refine pg_iload_n (i := 1) dX3_readSum_60 rfl 2 rfl ?_
  refine pg_callV_wI (As := [pI a1]) (rs := []) dX3_readSum_61 lk_RX3_83 vy_X3_readTerm nd_X3_readTerm (hg_X3_readTerm a0 a1 v1) rfl rfl (Nat.le_of_ble_eq_true rfl) (Nat.le_refl _) (by omega) (fun v2 => ?_)
  refine pg_if_ne (tgt := 69) dX3_readSum_64 rfl ?_ ?_
  · refine pg_aload_n (i := 0) dX3_readSum_69 rfl 1 rfl ?_
    refine pg_iload_n (i := 3) dX3_readSum_70 rfl 0 rfl ?_
    refine pg_callV_wV (As := [pI s0]) (rs := []) dX3_readSum_71 lk_RX3_57 vy_X3_emit nd_X3_emit (c_X3_emit l D a0 s0 v2.2) rfl rfl (Nat.le_of_ble_eq_true rfl) (by omega) (by omega) (fun v3 => ?_)
    refine pg_iinc (lv' := [(2, pI (a2 + (1 : Int32))), (3, pI s0), (0, pR a0), (1, pI a1)]) dX3_readSum_74 3 rfl ci_1 (by decide) rfl ?_
    refine pg_goto (tgt := 12) dX3_readSum_77 rfl ?_
    exact pg_to (hk12 a0 a1 (a2 + (1 : Int32)) v3) [2, 3, 0] rfl
  · refine pg_iconst dX3_readSum_67 ci_0 ?_
    exact pg_zret dX3_readSum_68 rfl (Or.inl rfl) rfl
theorem e_X3_readSum_39 (l : Launch) (D : pg_D) (dn dm : Nat) (hdn : 9 ≤ dn) (hdm : 269 ≤ dm) (g_X3_readTerm : Nat → Int32 → pg_H → Option (Int32 × pg_H)) (hg_X3_readTerm : ∀ (a0 : Nat) (a1 : Int32) (h : pg_H) (x : (Int32 × pg_H)), g_X3_readTerm a0 a1 h = some x → pg_Ct l D yX3_readTerm cX3_readTerm 4 (some FieldType.boolean) dn dm [pR a0, pI a1] h (pg_wI x)) (k12 : Nat → Int32 → Int32 → pg_H → Option (Int32 × pg_H)) (hk12 : ∀ (a0 : Nat) (a1 : Int32) (a2 : Int32) (h : pg_H), pg_EvF l D RX3 cX3_readSum 4 (some FieldType.boolean) "readSum" (dn + 1) (dm + 23) pg_wI (k12 a0 a1 a2 h) 12 [(0, pR a0), (1, pI a1), (2, pI a2)] [] h) (a0 : Nat) (a1 : Int32) (a2 : Int32) (h : pg_H) : pg_EvF l D RX3 cX3_readSum 4 (some FieldType.boolean) "readSum" (dn + 1) (dm + 23) pg_wI (F_X3_readSum_39 g_X3_readTerm k12 a0 a1 a2 h) 39 [(0, pR a0), (1, pI a1), (2, pI a2)] [] h := by
  unfold F_X3_readSum_39
  refine pg_aload_n (i := 0) dX3_readSum_39 rfl 0 rfl ?_
  refine pg_getI dX3_readSum_40 fl_RX3_42 rfl (fun v1 => ?_)
  refine pg_sipush dX3_readSum_43 cs_143 ?_
  refine pg_icmp_ne (tgt := 53) dX3_readSum_46 rfl ?_ ?_
  · refine pg_iconst dX3_readSum_53 ci_5 ?_
    exact pg_to (e_X3_readSum_54 l D dn dm hdn hdm g_X3_readTerm hg_X3_readTerm k12 hk12 a0 a1 a2 (5 : Int32) h) [0, 1, 2] rfl
  · refine pg_iconst dX3_readSum_49 ci_4 ?_
    refine pg_goto (tgt := 54) dX3_readSum_50 rfl ?_
    exact pg_to (e_X3_readSum_54 l D dn dm hdn hdm g_X3_readTerm hg_X3_readTerm k12 hk12 a0 a1 a2 (4 : Int32) h) [0, 1, 2] rfl
theorem e_X3_readSum_12 (l : Launch) (D : pg_D) (dn dm : Nat) (hdn : 9 ≤ dn) (hdm : 269 ≤ dm) (g_X3_readTerm : Nat → Int32 → pg_H → Option (Int32 × pg_H)) (hg_X3_readTerm : ∀ (a0 : Nat) (a1 : Int32) (h : pg_H) (x : (Int32 × pg_H)), g_X3_readTerm a0 a1 h = some x → pg_Ct l D yX3_readTerm cX3_readTerm 4 (some FieldType.boolean) dn dm [pR a0, pI a1] h (pg_wI x))  : ∀ (n : Nat) (a0 : Nat) (a1 : Int32) (a2 : Int32) (h : pg_H), pg_EvF l D RX3 cX3_readSum 4 (some FieldType.boolean) "readSum" (dn + 1) (dm + 23) pg_wI (F_X3_readSum_12 g_X3_readTerm n a0 a1 a2 h) 12 [(0, pR a0), (1, pI a1), (2, pI a2)] [] h := by
  intro n
  induction n with
  | zero => intro a0 a1 a2 h; exact pg_none
  | succ n ih =>
    intro a0 a1 a2 h
    rw [F_X3_readSum_12]
    refine pg_iload_n (i := 2) dX3_readSum_12 rfl 2 rfl ?_
    refine pg_sipush dX3_readSum_13 cs_400 ?_
    refine pg_icmp_ge (tgt := 80) dX3_readSum_16 rfl ?_ ?_
    · refine pg_iconst dX3_readSum_80 ci_1 ?_
      exact pg_zret dX3_readSum_81 rfl (Or.inr rfl) rfl
    · refine pg_aload_n (i := 0) dX3_readSum_19 rfl 0 rfl ?_
      refine pg_getI dX3_readSum_20 fl_RX3_42 rfl (fun v1 => ?_)
      refine pg_sipush dX3_readSum_23 cs_143 ?_
      refine pg_icmp_eq (tgt := 39) dX3_readSum_26 rfl ?_ ?_
      · exact pg_to (e_X3_readSum_39 l D dn dm hdn hdm g_X3_readTerm hg_X3_readTerm (F_X3_readSum_12 g_X3_readTerm n) ih a0 a1 a2 h) [0, 1, 2] rfl
      · refine pg_aload_n (i := 0) dX3_readSum_29 rfl 0 rfl ?_
        refine pg_getI dX3_readSum_30 fl_RX3_42 rfl (fun v2 => ?_)
        refine pg_sipush dX3_readSum_33 cs_145 ?_
        refine pg_icmp_ne (tgt := 80) dX3_readSum_36 rfl ?_ ?_
        · refine pg_iconst dX3_readSum_80 ci_1 ?_
          exact pg_zret dX3_readSum_81 rfl (Or.inr rfl) rfl
        · exact pg_to (e_X3_readSum_39 l D dn dm hdn hdm g_X3_readTerm hg_X3_readTerm (F_X3_readSum_12 g_X3_readTerm n) ih a0 a1 a2 h) [0, 1, 2] rfl
theorem e_X3_readSum (l : Launch) (D : pg_D) (dn dm : Nat) (hdn : 9 ≤ dn) (hdm : 269 ≤ dm) (g_X3_readTerm : Nat → Int32 → pg_H → Option (Int32 × pg_H)) (hg_X3_readTerm : ∀ (a0 : Nat) (a1 : Int32) (h : pg_H) (x : (Int32 × pg_H)), g_X3_readTerm a0 a1 h = some x → pg_Ct l D yX3_readTerm cX3_readTerm 4 (some FieldType.boolean) dn dm [pR a0, pI a1] h (pg_wI x)) (a0 : Nat) (a1 : Int32) (h : pg_H) : pg_EvF l D RX3 cX3_readSum 4 (some FieldType.boolean) "readSum" (dn + 1) (dm + 23) pg_wI (B_X3_readSum g_X3_readTerm a0 a1 h) 0 [(0, pR a0), (1, pI a1)] [] h := by
  unfold B_X3_readSum
  refine pg_aload_n (i := 0) dX3_readSum_0 rfl 0 rfl ?_
  refine pg_iload_n (i := 1) dX3_readSum_1 rfl 1 rfl ?_
  refine pg_callV_wI (As := [pI a1]) (rs := []) dX3_readSum_2 lk_RX3_83 vy_X3_readTerm nd_X3_readTerm (hg_X3_readTerm a0 a1 h) rfl rfl (Nat.le_of_ble_eq_true rfl) (Nat.le_refl _) (by omega) (fun v1 => ?_)
  refine pg_if_ne (tgt := 10) dX3_readSum_5 rfl ?_ ?_
  · refine pg_iconst dX3_readSum_10 ci_0 ?_
    refine pg_istore_n (i := 2) (lv' := [(2, pI (0 : Int32)), (0, pR a0), (1, pI a1)]) dX3_readSum_11 rfl (by decide) rfl ?_
    exact pg_to (e_X3_readSum_12 l D dn dm hdn hdm g_X3_readTerm hg_X3_readTerm pg_fuel a0 a1 (0 : Int32) v1.2) [1, 2, 0] rfl
  · refine pg_iconst dX3_readSum_8 ci_0 ?_
    exact pg_zret dX3_readSum_9 rfl (Or.inl rfl) rfl
theorem e_X3_readTerm_56 (l : Launch) (D : pg_D) (dn dm : Nat) (hdn : 9 ≤ dn) (hdm : 269 ≤ dm) (g_X3_readPart : Nat → Int32 → pg_H → Option (Int32 × pg_H)) (hg_X3_readPart : ∀ (a0 : Nat) (a1 : Int32) (h : pg_H) (x : (Int32 × pg_H)), g_X3_readPart a0 a1 h = some x → pg_Ct l D yX3_readPart cX3_readPart 4 (some FieldType.boolean) dn dm [pR a0, pI a1] h (pg_wI x)) (k12 : Nat → Int32 → Int32 → pg_H → Option (Int32 × pg_H)) (hk12 : ∀ (a0 : Nat) (a1 : Int32) (a2 : Int32) (h : pg_H), pg_EvF l D RX3 cX3_readTerm 4 (some FieldType.boolean) "readTerm" (dn + 1) (dm + 23) pg_wI (k12 a0 a1 a2 h) 12 [(0, pR a0), (1, pI a1), (2, pI a2)] [] h) (a0 : Nat) (a1 : Int32) (a2 : Int32) (s0 : Int32) (h : pg_H) : pg_EvF l D RX3 cX3_readTerm 4 (some FieldType.boolean) "readTerm" (dn + 1) (dm + 23) pg_wI (F_X3_readTerm_56 g_X3_readPart k12 a0 a1 a2 s0 h) 56 [(0, pR a0), (1, pI a1), (2, pI a2)] [pI s0] h := by
  unfold F_X3_readTerm_56
  refine pg_istore_n (i := 3) (lv' := [(3, pI s0), (0, pR a0), (1, pI a1), (2, pI a2)]) dX3_readTerm_56 rfl (by decide) rfl ?_
  refine pg_aload_n (i := 0) dX3_readTerm_57 rfl 1 rfl ?_
  refine pg_callV_wV (As := []) (rs := []) dX3_readTerm_58 lk_RX3_32 vy_X3_advance nd_X3_advance (c_X3_advance l D a0 h) rfl rfl (Nat.le_of_ble_eq_true rfl) (by omega) (by omega) (fun v1 => ?_)
  refine pg_aload_n (i := 0) dX3_readTerm_61 rfl 1 rfl ?_
  refine pg_iload_n (i := 1) dX3_readTerm_62 rfl 2 rfl ?_
  refine pg_callV_wI (As := [pI a1]) (rs := []) dX3_readTerm_63 lk_RX3_86 vy_X3_readPart nd_X3_readPart (hg_X3_readPart a0 a1 v1) rfl rfl (Nat.le_of_ble_eq_true rfl) (Nat.le_refl _) (by omega) (fun v2 => ?_)
  refine pg_if_ne (tgt := 71) dX3_readTerm_66 rfl ?_ ?_
  · refine pg_aload_n (i := 0) dX3_readTerm_71 rfl 1 rfl ?_
    refine pg_iload_n (i := 3) dX3_readTerm_72 rfl 0 rfl ?_
    refine pg_callV_wV (As := [pI s0]) (rs := []) dX3_readTerm_73 lk_RX3_57 vy_X3_emit nd_X3_emit (c_X3_emit l D a0 s0 v2.2) rfl rfl (Nat.le_of_ble_eq_true rfl) (by omega) (by omega) (fun v3 => ?_)
    refine pg_iinc (lv' := [(2, pI (a2 + (1 : Int32))), (3, pI s0), (0, pR a0), (1, pI a1)]) dX3_readTerm_76 3 rfl ci_1 (by decide) rfl ?_
    refine pg_goto (tgt := 12) dX3_readTerm_79 rfl ?_
    exact pg_to (hk12 a0 a1 (a2 + (1 : Int32)) v3) [2, 3, 0] rfl
  · refine pg_iconst dX3_readTerm_69 ci_0 ?_
    exact pg_zret dX3_readTerm_70 rfl (Or.inl rfl) rfl
theorem e_X3_readTerm_39 (l : Launch) (D : pg_D) (dn dm : Nat) (hdn : 9 ≤ dn) (hdm : 269 ≤ dm) (g_X3_readPart : Nat → Int32 → pg_H → Option (Int32 × pg_H)) (hg_X3_readPart : ∀ (a0 : Nat) (a1 : Int32) (h : pg_H) (x : (Int32 × pg_H)), g_X3_readPart a0 a1 h = some x → pg_Ct l D yX3_readPart cX3_readPart 4 (some FieldType.boolean) dn dm [pR a0, pI a1] h (pg_wI x)) (k12 : Nat → Int32 → Int32 → pg_H → Option (Int32 × pg_H)) (hk12 : ∀ (a0 : Nat) (a1 : Int32) (a2 : Int32) (h : pg_H), pg_EvF l D RX3 cX3_readTerm 4 (some FieldType.boolean) "readTerm" (dn + 1) (dm + 23) pg_wI (k12 a0 a1 a2 h) 12 [(0, pR a0), (1, pI a1), (2, pI a2)] [] h) (a0 : Nat) (a1 : Int32) (a2 : Int32) (h : pg_H) : pg_EvF l D RX3 cX3_readTerm 4 (some FieldType.boolean) "readTerm" (dn + 1) (dm + 23) pg_wI (F_X3_readTerm_39 g_X3_readPart k12 a0 a1 a2 h) 39 [(0, pR a0), (1, pI a1), (2, pI a2)] [] h := by
  unfold F_X3_readTerm_39
  refine pg_aload_n (i := 0) dX3_readTerm_39 rfl 0 rfl ?_
  refine pg_getI dX3_readTerm_40 fl_RX3_42 rfl (fun v1 => ?_)
  refine pg_sipush dX3_readTerm_43 cs_142 ?_
  refine pg_icmp_ne (tgt := 54) dX3_readTerm_46 rfl ?_ ?_
  · refine pg_bipush dX3_readTerm_54 cb_7 ?_
    exact pg_to (e_X3_readTerm_56 l D dn dm hdn hdm g_X3_readPart hg_X3_readPart k12 hk12 a0 a1 a2 (7 : Int32) h) [0, 1, 2] rfl
  · refine pg_bipush dX3_readTerm_49 cb_6 ?_
    refine pg_goto (tgt := 56) dX3_readTerm_51 rfl ?_
    exact pg_to (e_X3_readTerm_56 l D dn dm hdn hdm g_X3_readPart hg_X3_readPart k12 hk12 a0 a1 a2 (6 : Int32) h) [0, 1, 2] rfl
theorem e_X3_readTerm_12 (l : Launch) (D : pg_D) (dn dm : Nat) (hdn : 9 ≤ dn) (hdm : 269 ≤ dm) (g_X3_readPart : Nat → Int32 → pg_H → Option (Int32 × pg_H)) (hg_X3_readPart : ∀ (a0 : Nat) (a1 : Int32) (h : pg_H) (x : (Int32 × pg_H)), g_X3_readPart a0 a1 h = some x → pg_Ct l D yX3_readPart cX3_readPart 4 (some FieldType.boolean) dn dm [pR a0, pI a1] h (pg_wI x))  : ∀ (n : Nat) (a0 : Nat) (a1 : Int32) (a2 : Int32) (h : pg_H), pg_EvF l D RX3 cX3_readTerm 4 (some FieldType.boolean) "readTerm" (dn + 1) (dm + 23) pg_wI (F_X3_readTerm_12 g_X3_readPart n a0 a1 a2 h) 12 [(0, pR a0), (1, pI a1), (2, pI a2)] [] h := by
  intro n
  induction n with
  | zero => intro a0 a1 a2 h; exact pg_none
  | succ n ih =>
    intro a0 a1 a2 h
    rw [F_X3_readTerm_12]
    refine pg_iload_n (i := 2) dX3_readTerm_12 rfl 2 rfl ?_
    refine pg_sipush dX3_readTerm_13 cs_400 ?_
    refine pg_icmp_ge (tgt := 82) dX3_readTerm_16 rfl ?_ ?_
    · refine pg_iconst dX3_readTerm_82 ci_1 ?_
      exact pg_zret dX3_readTerm_83 rfl (Or.inr rfl) rfl
    · refine pg_aload_n (i := 0) dX3_readTerm_19 rfl 0 rfl ?_
      refine pg_getI dX3_readTerm_20 fl_RX3_42 rfl (fun v1 => ?_)
      refine pg_sipush dX3_readTerm_23 cs_142 ?_
      refine pg_icmp_eq (tgt := 39) dX3_readTerm_26 rfl ?_ ?_
      · exact pg_to (e_X3_readTerm_39 l D dn dm hdn hdm g_X3_readPart hg_X3_readPart (F_X3_readTerm_12 g_X3_readPart n) ih a0 a1 a2 h) [0, 1, 2] rfl
      · refine pg_aload_n (i := 0) dX3_readTerm_29 rfl 0 rfl ?_
        refine pg_getI dX3_readTerm_30 fl_RX3_42 rfl (fun v2 => ?_)
        refine pg_sipush dX3_readTerm_33 cs_147 ?_
        refine pg_icmp_ne (tgt := 82) dX3_readTerm_36 rfl ?_ ?_
        · refine pg_iconst dX3_readTerm_82 ci_1 ?_
          exact pg_zret dX3_readTerm_83 rfl (Or.inr rfl) rfl
        · exact pg_to (e_X3_readTerm_39 l D dn dm hdn hdm g_X3_readPart hg_X3_readPart (F_X3_readTerm_12 g_X3_readPart n) ih a0 a1 a2 h) [0, 1, 2] rfl
theorem e_X3_readTerm (l : Launch) (D : pg_D) (dn dm : Nat) (hdn : 9 ≤ dn) (hdm : 269 ≤ dm) (g_X3_readPart : Nat → Int32 → pg_H → Option (Int32 × pg_H)) (hg_X3_readPart : ∀ (a0 : Nat) (a1 : Int32) (h : pg_H) (x : (Int32 × pg_H)), g_X3_readPart a0 a1 h = some x → pg_Ct l D yX3_readPart cX3_readPart 4 (some FieldType.boolean) dn dm [pR a0, pI a1] h (pg_wI x)) (a0 : Nat) (a1 : Int32) (h : pg_H) : pg_EvF l D RX3 cX3_readTerm 4 (some FieldType.boolean) "readTerm" (dn + 1) (dm + 23) pg_wI (B_X3_readTerm g_X3_readPart a0 a1 h) 0 [(0, pR a0), (1, pI a1)] [] h := by
  unfold B_X3_readTerm
  refine pg_aload_n (i := 0) dX3_readTerm_0 rfl 0 rfl ?_
  refine pg_iload_n (i := 1) dX3_readTerm_1 rfl 1 rfl ?_
  refine pg_callV_wI (As := [pI a1]) (rs := []) dX3_readTerm_2 lk_RX3_86 vy_X3_readPart nd_X3_readPart (hg_X3_readPart a0 a1 h) rfl rfl (Nat.le_of_ble_eq_true rfl) (Nat.le_refl _) (by omega) (fun v1 => ?_)
  refine pg_if_ne (tgt := 10) dX3_readTerm_5 rfl ?_ ?_
  · refine pg_iconst dX3_readTerm_10 ci_0 ?_
    refine pg_istore_n (i := 2) (lv' := [(2, pI (0 : Int32)), (0, pR a0), (1, pI a1)]) dX3_readTerm_11 rfl (by decide) rfl ?_
    exact pg_to (e_X3_readTerm_12 l D dn dm hdn hdm g_X3_readPart hg_X3_readPart pg_fuel a0 a1 (0 : Int32) v1.2) [1, 2, 0] rfl
  · refine pg_iconst dX3_readTerm_8 ci_0 ?_
    exact pg_zret dX3_readTerm_9 rfl (Or.inl rfl) rfl
theorem e_X3_readPart_156 (l : Launch) (D : pg_D) (dn dm : Nat) (hdn : 9 ≤ dn) (hdm : 269 ≤ dm) (g_X3_readSum : Nat → Int32 → pg_H → Option (Int32 × pg_H)) (hg_X3_readSum : ∀ (a0 : Nat) (a1 : Int32) (h : pg_H) (x : (Int32 × pg_H)), g_X3_readSum a0 a1 h = some x → pg_Ct l D yX3_readSum cX3_readSum 4 (some FieldType.boolean) dn dm [pR a0, pI a1] h (pg_wI x)) (a0 : Nat) (s0 : Int32) (s1 : Nat) (h : pg_H) : pg_EvF l D RX3 cX3_readPart 4 (some FieldType.boolean) "readPart" (dn + 1) (dm + 23) pg_wI (F_X3_readPart_156 g_X3_readSum a0 s0 s1 h) 156 [(0, pR a0)] [pI s0, pR s1] h := by
  unfold F_X3_readPart_156
  refine pg_callV_wV (As := [pI s0]) (rs := []) dX3_readPart_156 lk_RX3_57 vy_X3_emit nd_X3_emit (c_X3_emit l D s1 s0 h) rfl rfl (Nat.le_of_ble_eq_true rfl) (by omega) (by omega) (fun v1 => ?_)
  refine pg_aload_n (i := 0) dX3_readPart_159 rfl 0 rfl ?_
  refine pg_callV_wV (As := []) (rs := []) dX3_readPart_160 lk_RX3_32 vy_X3_advance nd_X3_advance (c_X3_advance l D a0 v1) rfl rfl (Nat.le_of_ble_eq_true rfl) (by omega) (by omega) (fun v2 => ?_)
  refine pg_iconst dX3_readPart_163 ci_1 ?_
  exact pg_zret dX3_readPart_164 rfl (Or.inr rfl) rfl
theorem e_X3_readPart_134 (l : Launch) (D : pg_D) (dn dm : Nat) (hdn : 9 ≤ dn) (hdm : 269 ≤ dm) (g_X3_readSum : Nat → Int32 → pg_H → Option (Int32 × pg_H)) (hg_X3_readSum : ∀ (a0 : Nat) (a1 : Int32) (h : pg_H) (x : (Int32 × pg_H)), g_X3_readSum a0 a1 h = some x → pg_Ct l D yX3_readSum cX3_readSum 4 (some FieldType.boolean) dn dm [pR a0, pI a1] h (pg_wI x)) (a0 : Nat) (a2 : Int32) (s0 : Int32) (s1 : Nat) (h : pg_H) : pg_EvF l D RX3 cX3_readPart 4 (some FieldType.boolean) "readPart" (dn + 1) (dm + 23) pg_wI (F_X3_readPart_134 g_X3_readSum a0 a2 s0 s1 h) 134 [(0, pR a0), (2, pI a2)] [pI s0, pR s1] h := by
  unfold F_X3_readPart_134
  refine pg_callV_wV (As := [pI s0]) (rs := []) dX3_readPart_134 lk_RX3_57 vy_X3_emit nd_X3_emit (c_X3_emit l D s1 s0 h) rfl rfl (Nat.le_of_ble_eq_true rfl) (by omega) (by omega) (fun v1 => ?_)
  refine pg_aload_n (i := 0) dX3_readPart_137 rfl 0 rfl ?_
  refine pg_iload_n (i := 2) dX3_readPart_138 rfl 1 rfl ?_
  refine pg_if_eq (tgt := 149) dX3_readPart_139 rfl ?_ ?_
  · refine pg_aload_n (i := 0) dX3_readPart_149 rfl 0 rfl ?_
    refine pg_getI dX3_readPart_150 fl_RX3_42 rfl (fun v2 => ?_)
    refine pg_bipush dX3_readPart_153 cb_11 ?_
    refine pg_isub dX3_readPart_155 ?_
    exact pg_to (e_X3_readPart_156 l D dn dm hdn hdm g_X3_readSum hg_X3_readSum a0 (v2 - (11 : Int32)) a0 v1) [0] rfl
  · refine pg_aload_n (i := 0) dX3_readPart_142 rfl 0 rfl ?_
    refine pg_getI dX3_readPart_143 fl_RX3_89 rfl (fun v3 => ?_)
    refine pg_goto (tgt := 156) dX3_readPart_146 rfl ?_
    exact pg_to (e_X3_readPart_156 l D dn dm hdn hdm g_X3_readSum hg_X3_readSum a0 v3 a0 v1) [0] rfl
theorem e_X3_readPart_109 (l : Launch) (D : pg_D) (dn dm : Nat) (hdn : 9 ≤ dn) (hdm : 269 ≤ dm) (g_X3_readSum : Nat → Int32 → pg_H → Option (Int32 × pg_H)) (hg_X3_readSum : ∀ (a0 : Nat) (a1 : Int32) (h : pg_H) (x : (Int32 × pg_H)), g_X3_readSum a0 a1 h = some x → pg_Ct l D yX3_readSum cX3_readSum 4 (some FieldType.boolean) dn dm [pR a0, pI a1] h (pg_wI x)) (a0 : Nat) (h : pg_H) : pg_EvF l D RX3 cX3_readPart 4 (some FieldType.boolean) "readPart" (dn + 1) (dm + 23) pg_wI (F_X3_readPart_109 g_X3_readSum a0 h) 109 [(0, pR a0)] [] h := by
  unfold F_X3_readPart_109
  refine pg_aload_n (i := 0) dX3_readPart_109 rfl 0 rfl ?_
  refine pg_callV_wI (As := []) (rs := []) dX3_readPart_110 lk_RX3_35 vy_X3_fail nd_X3_fail (c_X3_fail l D a0 h) rfl rfl (Nat.le_of_ble_eq_true rfl) (by omega) (by omega) (fun v1 => ?_)
  exact pg_zretq dX3_readPart_113 rfl rfl
theorem e_X3_readPart_100 (l : Launch) (D : pg_D) (dn dm : Nat) (hdn : 9 ≤ dn) (hdm : 269 ≤ dm) (g_X3_readSum : Nat → Int32 → pg_H → Option (Int32 × pg_H)) (hg_X3_readSum : ∀ (a0 : Nat) (a1 : Int32) (h : pg_H) (x : (Int32 × pg_H)), g_X3_readSum a0 a1 h = some x → pg_Ct l D yX3_readSum cX3_readSum 4 (some FieldType.boolean) dn dm [pR a0, pI a1] h (pg_wI x)) (a0 : Nat) (a2 : Int32) (h : pg_H) : pg_EvF l D RX3 cX3_readPart 4 (some FieldType.boolean) "readPart" (dn + 1) (dm + 23) pg_wI (F_X3_readPart_100 g_X3_readSum a0 a2 h) 100 [(0, pR a0), (2, pI a2)] [] h := by
  unfold F_X3_readPart_100
  refine pg_aload_n (i := 0) dX3_readPart_100 rfl 0 rfl ?_
  refine pg_getI dX3_readPart_101 fl_RX3_29 rfl (fun v1 => ?_)
  refine pg_bipush dX3_readPart_104 cb_50 ?_
  refine pg_icmp_lt (tgt := 114) dX3_readPart_106 rfl ?_ ?_
  · refine pg_aload_n (i := 0) dX3_readPart_114 rfl 0 rfl ?_
    refine pg_dup dX3_readPart_115 rfl ?_
    refine pg_getI dX3_readPart_116 fl_RX3_29 rfl (fun v2 => ?_)
    refine pg_iconst dX3_readPart_119 ci_1 ?_
    refine pg_iadd dX3_readPart_120 ?_
    refine pg_putI dX3_readPart_121 fl_RX3_29 (fun z => by cases z) (fun v3 => ?_)
    refine pg_aload_n (i := 0) dX3_readPart_124 rfl 0 rfl ?_
    refine pg_iload_n (i := 2) dX3_readPart_125 rfl 1 rfl ?_
    refine pg_if_eq (tgt := 133) dX3_readPart_126 rfl ?_ ?_
    · refine pg_iconst dX3_readPart_133 ci_1 ?_
      exact pg_to (e_X3_readPart_134 l D dn dm hdn hdm g_X3_readSum hg_X3_readSum a0 a2 (1 : Int32) a0 v3) [0, 1] rfl
    · refine pg_iconst dX3_readPart_129 ci_0 ?_
      refine pg_goto (tgt := 134) dX3_readPart_130 rfl ?_
      exact pg_to (e_X3_readPart_134 l D dn dm hdn hdm g_X3_readSum hg_X3_readSum a0 a2 (0 : Int32) a0 v3) [0, 1] rfl
  · exact pg_to (e_X3_readPart_109 l D dn dm hdn hdm g_X3_readSum hg_X3_readSum a0 h) [0] rfl
theorem e_X3_readPart_91 (l : Launch) (D : pg_D) (dn dm : Nat) (hdn : 9 ≤ dn) (hdm : 269 ≤ dm) (g_X3_readSum : Nat → Int32 → pg_H → Option (Int32 × pg_H)) (hg_X3_readSum : ∀ (a0 : Nat) (a1 : Int32) (h : pg_H) (x : (Int32 × pg_H)), g_X3_readSum a0 a1 h = some x → pg_Ct l D yX3_readSum cX3_readSum 4 (some FieldType.boolean) dn dm [pR a0, pI a1] h (pg_wI x)) (a0 : Nat) (a2 : Int32) (s0 : Int32) (h : pg_H) : pg_EvF l D RX3 cX3_readPart 4 (some FieldType.boolean) "readPart" (dn + 1) (dm + 23) pg_wI (F_X3_readPart_91 g_X3_readSum a0 a2 s0 h) 91 [(0, pR a0), (2, pI a2)] [pI s0] h := by
  unfold F_X3_readPart_91
  refine pg_istore_n (i := 3) (lv' := [(3, pI s0), (0, pR a0), (2, pI a2)]) dX3_readPart_91 rfl (by decide) rfl ?_
  refine pg_iload_n (i := 2) dX3_readPart_92 rfl 2 rfl ?_
  refine pg_if_ne (tgt := 100) dX3_readPart_93 rfl ?_ ?_
  · exact pg_to (e_X3_readPart_100 l D dn dm hdn hdm g_X3_readSum hg_X3_readSum a0 a2 h) [1, 2] rfl
  · refine pg_iload_n (i := 3) dX3_readPart_96 rfl 0 rfl ?_
    refine pg_if_eq (tgt := 109) dX3_readPart_97 rfl ?_ ?_
    · exact pg_to (e_X3_readPart_109 l D dn dm hdn hdm g_X3_readSum hg_X3_readSum a0 h) [1] rfl
    · exact pg_to (e_X3_readPart_100 l D dn dm hdn hdm g_X3_readSum hg_X3_readSum a0 a2 h) [1, 2] rfl
theorem e_X3_readPart_90 (l : Launch) (D : pg_D) (dn dm : Nat) (hdn : 9 ≤ dn) (hdm : 269 ≤ dm) (g_X3_readSum : Nat → Int32 → pg_H → Option (Int32 × pg_H)) (hg_X3_readSum : ∀ (a0 : Nat) (a1 : Int32) (h : pg_H) (x : (Int32 × pg_H)), g_X3_readSum a0 a1 h = some x → pg_Ct l D yX3_readSum cX3_readSum 4 (some FieldType.boolean) dn dm [pR a0, pI a1] h (pg_wI x)) (a0 : Nat) (a2 : Int32) (h : pg_H) : pg_EvF l D RX3 cX3_readPart 4 (some FieldType.boolean) "readPart" (dn + 1) (dm + 23) pg_wI (F_X3_readPart_90 g_X3_readSum a0 a2 h) 90 [(0, pR a0), (2, pI a2)] [] h := by
  unfold F_X3_readPart_90
  refine pg_iconst dX3_readPart_90 ci_0 ?_
  exact pg_to (e_X3_readPart_91 l D dn dm hdn hdm g_X3_readSum hg_X3_readSum a0 a2 (0 : Int32) h) [0, 1] rfl
theorem e_X3_readPart_67 (l : Launch) (D : pg_D) (dn dm : Nat) (hdn : 9 ≤ dn) (hdm : 269 ≤ dm) (g_X3_readSum : Nat → Int32 → pg_H → Option (Int32 × pg_H)) (hg_X3_readSum : ∀ (a0 : Nat) (a1 : Int32) (h : pg_H) (x : (Int32 × pg_H)), g_X3_readSum a0 a1 h = some x → pg_Ct l D yX3_readSum cX3_readSum 4 (some FieldType.boolean) dn dm [pR a0, pI a1] h (pg_wI x)) (a0 : Nat) (s0 : Int32) (h : pg_H) : pg_EvF l D RX3 cX3_readPart 4 (some FieldType.boolean) "readPart" (dn + 1) (dm + 23) pg_wI (F_X3_readPart_67 g_X3_readSum a0 s0 h) 67 [(0, pR a0)] [pI s0] h := by
  unfold F_X3_readPart_67
  refine pg_istore_n (i := 2) (lv' := [(2, pI s0), (0, pR a0)]) dX3_readPart_67 rfl (by decide) rfl ?_
  refine pg_aload_n (i := 0) dX3_readPart_68 rfl 1 rfl ?_
  refine pg_getI dX3_readPart_69 fl_RX3_42 rfl (fun v1 => ?_)
  refine pg_bipush dX3_readPart_72 cb_11 ?_
  refine pg_icmp_lt (tgt := 90) dX3_readPart_74 rfl ?_ ?_
  · exact pg_to (e_X3_readPart_90 l D dn dm hdn hdm g_X3_readSum hg_X3_readSum a0 s0 h) [1, 0] rfl
  · refine pg_aload_n (i := 0) dX3_readPart_77 rfl 1 rfl ?_
    refine pg_getI dX3_readPart_78 fl_RX3_42 rfl (fun v2 => ?_)
    refine pg_bipush dX3_readPart_81 cb_19 ?_
    refine pg_icmp_gt (tgt := 90) dX3_readPart_83 rfl ?_ ?_
    · exact pg_to (e_X3_readPart_90 l D dn dm hdn hdm g_X3_readSum hg_X3_readSum a0 s0 h) [1, 0] rfl
    · refine pg_iconst dX3_readPart_86 ci_1 ?_
      refine pg_goto (tgt := 91) dX3_readPart_87 rfl ?_
      exact pg_to (e_X3_readPart_91 l D dn dm hdn hdm g_X3_readSum hg_X3_readSum a0 s0 (1 : Int32) h) [1, 0] rfl
theorem e_X3_readPart_66 (l : Launch) (D : pg_D) (dn dm : Nat) (hdn : 9 ≤ dn) (hdm : 269 ≤ dm) (g_X3_readSum : Nat → Int32 → pg_H → Option (Int32 × pg_H)) (hg_X3_readSum : ∀ (a0 : Nat) (a1 : Int32) (h : pg_H) (x : (Int32 × pg_H)), g_X3_readSum a0 a1 h = some x → pg_Ct l D yX3_readSum cX3_readSum 4 (some FieldType.boolean) dn dm [pR a0, pI a1] h (pg_wI x)) (a0 : Nat) (h : pg_H) : pg_EvF l D RX3 cX3_readPart 4 (some FieldType.boolean) "readPart" (dn + 1) (dm + 23) pg_wI (F_X3_readPart_66 g_X3_readSum a0 h) 66 [(0, pR a0)] [] h := by
  unfold F_X3_readPart_66
  refine pg_iconst dX3_readPart_66 ci_0 ?_
  exact pg_to (e_X3_readPart_67 l D dn dm hdn hdm g_X3_readSum hg_X3_readSum a0 (0 : Int32) h) [0] rfl
theorem e_X3_readPart (l : Launch) (D : pg_D) (dn dm : Nat) (hdn : 9 ≤ dn) (hdm : 269 ≤ dm) (g_X3_readSum : Nat → Int32 → pg_H → Option (Int32 × pg_H)) (hg_X3_readSum : ∀ (a0 : Nat) (a1 : Int32) (h : pg_H) (x : (Int32 × pg_H)), g_X3_readSum a0 a1 h = some x → pg_Ct l D yX3_readSum cX3_readSum 4 (some FieldType.boolean) dn dm [pR a0, pI a1] h (pg_wI x)) (a0 : Nat) (a1 : Int32) (h : pg_H) : pg_EvF l D RX3 cX3_readPart 4 (some FieldType.boolean) "readPart" (dn + 1) (dm + 23) pg_wI (B_X3_readPart g_X3_readSum a0 a1 h) 0 [(0, pR a0), (1, pI a1)] [] h := by
  unfold B_X3_readPart
  refine pg_aload_n (i := 0) dX3_readPart_0 rfl 0 rfl ?_
  refine pg_getI dX3_readPart_1 fl_RX3_42 rfl (fun v1 => ?_)
  refine pg_sipush dX3_readPart_4 cs_191 ?_
  refine pg_icmp_ne (tgt := 43) dX3_readPart_7 rfl ?_ ?_
  · refine pg_aload_n (i := 0) dX3_readPart_43 rfl 0 rfl ?_
    refine pg_getI dX3_readPart_44 fl_RX3_42 rfl (fun v2 => ?_)
    refine pg_bipush dX3_readPart_47 cb_21 ?_
    refine pg_icmp_ne (tgt := 66) dX3_readPart_49 rfl ?_ ?_
    · exact pg_to (e_X3_readPart_66 l D dn dm hdn hdm g_X3_readSum hg_X3_readSum a0 h) [0] rfl
    · refine pg_aload_n (i := 0) dX3_readPart_52 rfl 0 rfl ?_
      refine pg_getI dX3_readPart_53 fl_RX3_89 rfl (fun v3 => ?_)
      refine pg_sipush dX3_readPart_56 cs_1000 ?_
      refine pg_icmp_gt (tgt := 66) dX3_readPart_59 rfl ?_ ?_
      · exact pg_to (e_X3_readPart_66 l D dn dm hdn hdm g_X3_readSum hg_X3_readSum a0 h) [0] rfl
      · refine pg_iconst dX3_readPart_62 ci_1 ?_
        refine pg_goto (tgt := 67) dX3_readPart_63 rfl ?_
        exact pg_to (e_X3_readPart_67 l D dn dm hdn hdm g_X3_readSum hg_X3_readSum a0 (1 : Int32) h) [0] rfl
  · refine pg_aload_n (i := 0) dX3_readPart_10 rfl 0 rfl ?_
    refine pg_iload_n (i := 1) dX3_readPart_11 rfl 1 rfl ?_
    refine pg_callV_wI (As := [pI a1]) (rs := []) dX3_readPart_12 lk_RX3_80 vy_X3_openBracket nd_X3_openBracket (c_X3_openBracket l D a0 a1 h) rfl rfl (Nat.le_of_ble_eq_true rfl) (by omega) (by omega) (fun v4 => ?_)
    refine pg_if_eq (tgt := 41) dX3_readPart_15 rfl ?_ ?_
    · refine pg_iconst dX3_readPart_41 ci_0 ?_
      exact pg_zret dX3_readPart_42 rfl (Or.inl rfl) rfl
    · refine pg_aload_n (i := 0) dX3_readPart_18 rfl 0 rfl ?_
      refine pg_iload_n (i := 1) dX3_readPart_19 rfl 1 rfl ?_
      refine pg_iconst dX3_readPart_20 ci_1 ?_
      refine pg_iadd dX3_readPart_21 ?_
      refine pg_callV_wI (As := [pI (a1 + (1 : Int32))]) (rs := []) dX3_readPart_22 lk_RX3_61 vy_X3_readSum nd_X3_readSum (hg_X3_readSum a0 (a1 + (1 : Int32)) v4.2) rfl rfl (Nat.le_of_ble_eq_true rfl) (Nat.le_refl _) (by omega) (fun v5 => ?_)
      refine pg_if_eq (tgt := 41) dX3_readPart_25 rfl ?_ ?_
      · refine pg_iconst dX3_readPart_41 ci_0 ?_
        exact pg_zret dX3_readPart_42 rfl (Or.inl rfl) rfl
      · refine pg_aload_n (i := 0) dX3_readPart_28 rfl 0 rfl ?_
        refine pg_bipush dX3_readPart_29 cb_93 ?_
        refine pg_callV_wI (As := [pI (93 : Int32)]) (rs := []) dX3_readPart_31 lk_RX3_50 vy_X3_takeSign nd_X3_takeSign (c_X3_takeSign l D a0 (93 : Int32) v5.2) rfl rfl (Nat.le_of_ble_eq_true rfl) (by omega) (by omega) (fun v6 => ?_)
        refine pg_if_eq (tgt := 41) dX3_readPart_34 rfl ?_ ?_
        · refine pg_iconst dX3_readPart_41 ci_0 ?_
          exact pg_zret dX3_readPart_42 rfl (Or.inl rfl) rfl
        · refine pg_iconst dX3_readPart_37 ci_1 ?_
          refine pg_goto (tgt := 42) dX3_readPart_38 rfl ?_
          exact pg_zret dX3_readPart_42 rfl (Or.inr rfl) rfl
theorem cg_X3_readTest (l : Launch) (D : pg_D) : ∀ n : Nat, (∀ (a0 : Nat) (a1 : Int32) (h : pg_H) (x : (Int32 × pg_H)), (FG_X3_readTest n).1 a0 a1 h = some x → pg_Ct l D yX3_readTest cX3_readTest 4 (some FieldType.boolean) (9 + n) (269 + 23 * n) [pR a0, pI a1] h (pg_wI x)) ∧ (∀ (a0 : Nat) (a1 : Int32) (h : pg_H) (x : (Int32 × pg_H)), (FG_X3_readTest n).2.1 a0 a1 h = some x → pg_Ct l D yX3_readBoth cX3_readBoth 4 (some FieldType.boolean) (9 + n) (269 + 23 * n) [pR a0, pI a1] h (pg_wI x)) ∧ (∀ (a0 : Nat) (a1 : Int32) (h : pg_H) (x : (Int32 × pg_H)), (FG_X3_readTest n).2.2.1 a0 a1 h = some x → pg_Ct l D yX3_readPlain cX3_readPlain 4 (some FieldType.boolean) (9 + n) (269 + 23 * n) [pR a0, pI a1] h (pg_wI x)) ∧ (∀ (a0 : Nat) (a1 : Int32) (h : pg_H) (x : (Int32 × pg_H)), (FG_X3_readTest n).2.2.2.1 a0 a1 h = some x → pg_Ct l D yX3_readSum cX3_readSum 4 (some FieldType.boolean) (9 + n) (269 + 23 * n) [pR a0, pI a1] h (pg_wI x)) ∧ (∀ (a0 : Nat) (a1 : Int32) (h : pg_H) (x : (Int32 × pg_H)), (FG_X3_readTest n).2.2.2.2.1 a0 a1 h = some x → pg_Ct l D yX3_readTerm cX3_readTerm 4 (some FieldType.boolean) (9 + n) (269 + 23 * n) [pR a0, pI a1] h (pg_wI x)) ∧ (∀ (a0 : Nat) (a1 : Int32) (h : pg_H) (x : (Int32 × pg_H)), (FG_X3_readTest n).2.2.2.2.2 a0 a1 h = some x → pg_Ct l D yX3_readPart cX3_readPart 4 (some FieldType.boolean) (9 + n) (269 + 23 * n) [pR a0, pI a1] h (pg_wI x)) := by
  intro n
  induction n with
  | zero => exact ⟨(fun _ _ _ _ hx => by cases hx), (fun _ _ _ _ hx => by cases hx), (fun _ _ _ _ hx => by cases hx), (fun _ _ _ _ hx => by cases hx), (fun _ _ _ _ hx => by cases hx), (fun _ _ _ _ hx => by cases hx)⟩
  | succ n ih =>
    have e1 : 9 + (n + 1) = (9 + n) + 1 := by omega
    have e2 : 269 + 23 * (n + 1) = (269 + 23 * n) + 23 := by omega
    rw [e1, e2]
    exact ⟨fun a0 a1 h => pg_Ct.of pn_RX3 (Nat.le_of_ble_eq_true rfl) (e_X3_readTest l D (9 + n) (269 + 23 * n) (by omega) (by omega) _ (ih.2.1) a0 a1 h), fun a0 a1 h => pg_Ct.of pn_RX3 (Nat.le_of_ble_eq_true rfl) (e_X3_readBoth l D (9 + n) (269 + 23 * n) (by omega) (by omega) _ (ih.2.2.1) a0 a1 h), fun a0 a1 h => pg_Ct.of pn_RX3 (Nat.le_of_ble_eq_true rfl) (e_X3_readPlain l D (9 + n) (269 + 23 * n) (by omega) (by omega) _ _ (ih.1) (ih.2.2.2.1) a0 a1 h), fun a0 a1 h => pg_Ct.of pn_RX3 (Nat.le_of_ble_eq_true rfl) (e_X3_readSum l D (9 + n) (269 + 23 * n) (by omega) (by omega) _ (ih.2.2.2.2.1) a0 a1 h), fun a0 a1 h => pg_Ct.of pn_RX3 (Nat.le_of_ble_eq_true rfl) (e_X3_readTerm l D (9 + n) (269 + 23 * n) (by omega) (by omega) _ (ih.2.2.2.2.2) a0 a1 h), fun a0 a1 h => pg_Ct.of pn_RX3 (Nat.le_of_ble_eq_true rfl) (e_X3_readPart l D (9 + n) (269 + 23 * n) (by omega) (by omega) _ (ih.2.2.2.1) a0 a1 h)⟩
theorem c_X3_readTest (l : Launch) (D : pg_D) (a0 : Nat) (a1 : Int32) (h : pg_H) : ∀ x, F_X3_readTest a0 a1 h = some x → pg_Ct l D yX3_readTest cX3_readTest 4 (some FieldType.boolean) 1309 30169 [pR a0, pI a1] h (pg_wI x) := fun x hx => (cg_X3_readTest l D 1300).1 a0 a1 h x hx
theorem c_X3_readBoth (l : Launch) (D : pg_D) (a0 : Nat) (a1 : Int32) (h : pg_H) : ∀ x, F_X3_readBoth a0 a1 h = some x → pg_Ct l D yX3_readBoth cX3_readBoth 4 (some FieldType.boolean) 1309 30169 [pR a0, pI a1] h (pg_wI x) := fun x hx => (cg_X3_readTest l D 1300).2.1 a0 a1 h x hx
theorem c_X3_readPlain (l : Launch) (D : pg_D) (a0 : Nat) (a1 : Int32) (h : pg_H) : ∀ x, F_X3_readPlain a0 a1 h = some x → pg_Ct l D yX3_readPlain cX3_readPlain 4 (some FieldType.boolean) 1309 30169 [pR a0, pI a1] h (pg_wI x) := fun x hx => (cg_X3_readTest l D 1300).2.2.1 a0 a1 h x hx
theorem c_X3_readSum (l : Launch) (D : pg_D) (a0 : Nat) (a1 : Int32) (h : pg_H) : ∀ x, F_X3_readSum a0 a1 h = some x → pg_Ct l D yX3_readSum cX3_readSum 4 (some FieldType.boolean) 1309 30169 [pR a0, pI a1] h (pg_wI x) := fun x hx => (cg_X3_readTest l D 1300).2.2.2.1 a0 a1 h x hx
theorem c_X3_readTerm (l : Launch) (D : pg_D) (a0 : Nat) (a1 : Int32) (h : pg_H) : ∀ x, F_X3_readTerm a0 a1 h = some x → pg_Ct l D yX3_readTerm cX3_readTerm 4 (some FieldType.boolean) 1309 30169 [pR a0, pI a1] h (pg_wI x) := fun x hx => (cg_X3_readTest l D 1300).2.2.2.2.1 a0 a1 h x hx
theorem c_X3_readPart (l : Launch) (D : pg_D) (a0 : Nat) (a1 : Int32) (h : pg_H) : ∀ x, F_X3_readPart a0 a1 h = some x → pg_Ct l D yX3_readPart cX3_readPart 4 (some FieldType.boolean) 1309 30169 [pR a0, pI a1] h (pg_wI x) := fun x hx => (cg_X3_readTest l D 1300).2.2.2.2.2 a0 a1 h x hx
def F_X3_readClause_16 (a0 : Nat) (h : pg_H) : Option (Int32 × pg_H) := Option.bind (pg_rcv 3 h a0 (F_X3_fail a0 h)) fun v1 => (if v1.1 = 0 ∨ v1.1 = 1 then some (v1.1, v1.2) else none)
def F_X3_readClause_95 (a0 : Nat) (a2 : Int32) (h : pg_H) : Option (Int32 × pg_H) := Option.bind (pg_rcv 3 h a0 (F_X3_patch a0 (a2 + (2 : Int32)) h)) fun v1 => (some ((1 : Int32), v1))
def F_X3_readClause_65 (a0 : Nat) (a2 : Int32) (h : pg_H) : Option (Int32 × pg_H) := Option.bind (pg_rcv 3 h a0 (F_X3_patch a0 (a2 + (1 : Int32)) h)) fun v1 => Option.bind (pg_gI 3 5 v1 a0) fun v2 => (if v2 = (7 : Int32) then Option.bind (pg_rcv 3 v1 a0 (F_X3_advance a0 v1)) fun v3 => Option.bind (pg_rcv 3 v3 a0 (F_X3_readTest a0 (0 : Int32) v3)) fun v4 => (if v4.1 = 0 then (some ((0 : Int32), v4.2)) else (F_X3_readClause_95 a0 a2 v4.2)) else (F_X3_readClause_95 a0 a2 v1))
def F_X3_readClause (a0 : Nat) (h : pg_H) : Option (Int32 × pg_H) := Option.bind (pg_gI 3 5 h a0) fun v1 => (if v1 < 0 then (F_X3_readClause_16 a0 h) else Option.bind (pg_gI 3 5 h a0) fun v2 => (if (6 : Int32) < v2 then (F_X3_readClause_16 a0 h) else Option.bind (pg_gI 3 5 h a0) fun v3 => Option.bind (pg_gI 3 2 h a0) fun v4 => Option.bind (pg_rcv 3 h a0 (F_X3_emit a0 v3 h)) fun v5 => Option.bind (pg_rcv 3 v5 a0 (F_X3_emit a0 (0 : Int32) v5)) fun v6 => Option.bind (pg_rcv 3 v6 a0 (F_X3_emit a0 (0 : Int32) v6)) fun v7 => Option.bind (pg_rcv 3 v7 a0 (F_X3_advance a0 v7)) fun v8 => (if v3 < (5 : Int32) then Option.bind (pg_rcv 3 v8 a0 (F_X3_readSum a0 (0 : Int32) v8)) fun v9 => (if v9.1 = 0 then (some ((0 : Int32), v9.2)) else (F_X3_readClause_65 a0 v4 v9.2)) else (F_X3_readClause_65 a0 v4 v8))))
theorem e_X3_readClause_16 (l : Launch) (D : pg_D)  (a0 : Nat) (h : pg_H) : pg_EvF l D RX3 cX3_readClause 3 (some FieldType.boolean) "readClause" 1310 30192 pg_wI (F_X3_readClause_16 a0 h) 16 [(0, pR a0)] [] h := by
  unfold F_X3_readClause_16
  refine pg_aload_n (i := 0) dX3_readClause_16 rfl 0 rfl ?_
  refine pg_callV_wI (As := []) (rs := []) dX3_readClause_17 lk_RX3_35 vy_X3_fail nd_X3_fail (c_X3_fail l D a0 h) rfl rfl (Nat.le_of_ble_eq_true rfl) (by decide) (by decide) (fun v1 => ?_)
  exact pg_zretq dX3_readClause_20 rfl rfl
theorem e_X3_readClause_95 (l : Launch) (D : pg_D)  (a0 : Nat) (a2 : Int32) (h : pg_H) : pg_EvF l D RX3 cX3_readClause 3 (some FieldType.boolean) "readClause" 1310 30192 pg_wI (F_X3_readClause_95 a0 a2 h) 95 [(0, pR a0), (2, pI a2)] [] h := by
  unfold F_X3_readClause_95
  refine pg_aload_n (i := 0) dX3_readClause_95 rfl 0 rfl ?_
  refine pg_iload_n (i := 2) dX3_readClause_96 rfl 1 rfl ?_
  refine pg_iconst dX3_readClause_97 ci_2 ?_
  refine pg_iadd dX3_readClause_98 ?_
  refine pg_callV_wV (As := [pI (a2 + (2 : Int32))]) (rs := []) dX3_readClause_99 lk_RX3_64 vy_X3_patch nd_X3_patch (c_X3_patch l D a0 (a2 + (2 : Int32)) h) rfl rfl (Nat.le_of_ble_eq_true rfl) (by decide) (by decide) (fun v1 => ?_)
  refine pg_iconst dX3_readClause_102 ci_1 ?_
  exact pg_zret dX3_readClause_103 rfl (Or.inr rfl) rfl
theorem e_X3_readClause_65 (l : Launch) (D : pg_D)  (a0 : Nat) (a2 : Int32) (h : pg_H) : pg_EvF l D RX3 cX3_readClause 3 (some FieldType.boolean) "readClause" 1310 30192 pg_wI (F_X3_readClause_65 a0 a2 h) 65 [(0, pR a0), (2, pI a2)] [] h := by
  unfold F_X3_readClause_65
  refine pg_aload_n (i := 0) dX3_readClause_65 rfl 0 rfl ?_
  refine pg_iload_n (i := 2) dX3_readClause_66 rfl 1 rfl ?_
  refine pg_iconst dX3_readClause_67 ci_1 ?_
  refine pg_iadd dX3_readClause_68 ?_
  refine pg_callV_wV (As := [pI (a2 + (1 : Int32))]) (rs := []) dX3_readClause_69 lk_RX3_64 vy_X3_patch nd_X3_patch (c_X3_patch l D a0 (a2 + (1 : Int32)) h) rfl rfl (Nat.le_of_ble_eq_true rfl) (by decide) (by decide) (fun v1 => ?_)
  refine pg_aload_n (i := 0) dX3_readClause_72 rfl 0 rfl ?_
  refine pg_getI dX3_readClause_73 fl_RX3_42 rfl (fun v2 => ?_)
  refine pg_bipush dX3_readClause_76 cb_7 ?_
  refine pg_icmp_ne (tgt := 95) dX3_readClause_78 rfl ?_ ?_
  · exact pg_to (e_X3_readClause_95 l D a0 a2 v1) [0, 1] rfl
  · refine pg_aload_n (i := 0) dX3_readClause_81 rfl 0 rfl ?_
    refine pg_callV_wV (As := []) (rs := []) dX3_readClause_82 lk_RX3_32 vy_X3_advance nd_X3_advance (c_X3_advance l D a0 v1) rfl rfl (Nat.le_of_ble_eq_true rfl) (by decide) (by decide) (fun v3 => ?_)
    refine pg_aload_n (i := 0) dX3_readClause_85 rfl 0 rfl ?_
    refine pg_iconst dX3_readClause_86 ci_0 ?_
    refine pg_callV_wI (As := [pI (0 : Int32)]) (rs := []) dX3_readClause_87 lk_RX3_67 vy_X3_readTest nd_X3_readTest (c_X3_readTest l D a0 (0 : Int32) v3) rfl rfl (Nat.le_of_ble_eq_true rfl) (by decide) (by decide) (fun v4 => ?_)
    refine pg_if_ne (tgt := 95) dX3_readClause_90 rfl ?_ ?_
    · exact pg_to (e_X3_readClause_95 l D a0 a2 v4.2) [0, 1] rfl
    · refine pg_iconst dX3_readClause_93 ci_0 ?_
      exact pg_zret dX3_readClause_94 rfl (Or.inl rfl) rfl
theorem e_X3_readClause (l : Launch) (D : pg_D)  (a0 : Nat) (h : pg_H) : pg_EvF l D RX3 cX3_readClause 3 (some FieldType.boolean) "readClause" 1310 30192 pg_wI (F_X3_readClause a0 h) 0 [(0, pR a0)] [] h := by
  unfold F_X3_readClause
  refine pg_aload_n (i := 0) dX3_readClause_0 rfl 0 rfl ?_
  refine pg_getI dX3_readClause_1 fl_RX3_42 rfl (fun v1 => ?_)
  refine pg_if_lt (tgt := 16) dX3_readClause_4 rfl ?_ ?_
  · exact pg_to (e_X3_readClause_16 l D a0 h) [0] rfl
  · refine pg_aload_n (i := 0) dX3_readClause_7 rfl 0 rfl ?_
    refine pg_getI dX3_readClause_8 fl_RX3_42 rfl (fun v2 => ?_)
    refine pg_bipush dX3_readClause_11 cb_6 ?_
    refine pg_icmp_le (tgt := 21) dX3_readClause_13 rfl ?_ ?_
    · refine pg_aload_n (i := 0) dX3_readClause_21 rfl 0 rfl ?_
      refine pg_getI dX3_readClause_22 fl_RX3_42 rfl (fun v3 => ?_)
      refine pg_istore_n (i := 1) (lv' := [(1, pI v3), (0, pR a0)]) dX3_readClause_25 rfl (by decide) rfl ?_
      refine pg_aload_n (i := 0) dX3_readClause_26 rfl 1 rfl ?_
      refine pg_getI dX3_readClause_27 fl_RX3_23 rfl (fun v4 => ?_)
      refine pg_istore_n (i := 2) (lv' := [(2, pI v4), (1, pI v3), (0, pR a0)]) dX3_readClause_30 rfl (by decide) rfl ?_
      refine pg_aload_n (i := 0) dX3_readClause_31 rfl 2 rfl ?_
      refine pg_iload_n (i := 1) dX3_readClause_32 rfl 1 rfl ?_
      refine pg_callV_wV (As := [pI v3]) (rs := []) dX3_readClause_33 lk_RX3_57 vy_X3_emit nd_X3_emit (c_X3_emit l D a0 v3 h) rfl rfl (Nat.le_of_ble_eq_true rfl) (by decide) (by decide) (fun v5 => ?_)
      refine pg_aload_n (i := 0) dX3_readClause_36 rfl 2 rfl ?_
      refine pg_iconst dX3_readClause_37 ci_0 ?_
      refine pg_callV_wV (As := [pI (0 : Int32)]) (rs := []) dX3_readClause_38 lk_RX3_57 vy_X3_emit nd_X3_emit (c_X3_emit l D a0 (0 : Int32) v5) rfl rfl (Nat.le_of_ble_eq_true rfl) (by decide) (by decide) (fun v6 => ?_)
      refine pg_aload_n (i := 0) dX3_readClause_41 rfl 2 rfl ?_
      refine pg_iconst dX3_readClause_42 ci_0 ?_
      refine pg_callV_wV (As := [pI (0 : Int32)]) (rs := []) dX3_readClause_43 lk_RX3_57 vy_X3_emit nd_X3_emit (c_X3_emit l D a0 (0 : Int32) v6) rfl rfl (Nat.le_of_ble_eq_true rfl) (by decide) (by decide) (fun v7 => ?_)
      refine pg_aload_n (i := 0) dX3_readClause_46 rfl 2 rfl ?_
      refine pg_callV_wV (As := []) (rs := []) dX3_readClause_47 lk_RX3_32 vy_X3_advance nd_X3_advance (c_X3_advance l D a0 v7) rfl rfl (Nat.le_of_ble_eq_true rfl) (by decide) (by decide) (fun v8 => ?_)
      refine pg_iload_n (i := 1) dX3_readClause_50 rfl 1 rfl ?_
      refine pg_iconst dX3_readClause_51 ci_5 ?_
      refine pg_icmp_ge (tgt := 65) dX3_readClause_52 rfl ?_ ?_
      · exact pg_to (e_X3_readClause_65 l D a0 v4 v8) [2, 0] rfl
      · refine pg_aload_n (i := 0) dX3_readClause_55 rfl 2 rfl ?_
        refine pg_iconst dX3_readClause_56 ci_0 ?_
        refine pg_callV_wI (As := [pI (0 : Int32)]) (rs := []) dX3_readClause_57 lk_RX3_61 vy_X3_readSum nd_X3_readSum (c_X3_readSum l D a0 (0 : Int32) v8) rfl rfl (Nat.le_of_ble_eq_true rfl) (by decide) (by decide) (fun v9 => ?_)
        refine pg_if_ne (tgt := 65) dX3_readClause_60 rfl ?_ ?_
        · exact pg_to (e_X3_readClause_65 l D a0 v4 v9.2) [2, 0] rfl
        · refine pg_iconst dX3_readClause_63 ci_0 ?_
          exact pg_zret dX3_readClause_64 rfl (Or.inl rfl) rfl
    · exact pg_to (e_X3_readClause_16 l D a0 h) [0] rfl
theorem c_X3_readClause (l : Launch) (D : pg_D) (a0 : Nat) (h : pg_H) : ∀ x, F_X3_readClause a0 h = some x → pg_Ct l D yX3_readClause cX3_readClause 3 (some FieldType.boolean) 1310 30192 [pR a0] h (pg_wI x) :=
  pg_Ct.of pn_RX3 (Nat.le_of_ble_eq_true rfl) (e_X3_readClause l D a0 h)
def F_J7_copyOf_59c91 (a0 : Nat) (a1 : Int32) (h : pg_H) : Option (Nat × pg_H) := Option.bind (pg_len h a0) fun v1 => (if a1 = v1 then none else Option.bind (pg_newA 21 h a1) fun v2 => Option.bind (pg_len v2.2 a0) fun v3 => Option.bind (pg_cpyI v2.2 a0 (0 : Int32) v2.1 (0 : Int32) (if a1 < v3 then a1 else v3)) fun v4 => (some (v2.1, v4)))
theorem e_J7_copyOf_59c91 (l : Launch) (D : pg_D)  (a0 : Nat) (a1 : Int32) (h : pg_H) : pg_EvF l D RJ7 cJ7_copyOf_59c91 3 (some (FieldType.array FieldType.int)) "copyOf" 1 60 pg_wR (F_J7_copyOf_59c91 a0 a1 h) 0 [(0, pR a0), (1, pI a1)] [] h := by
  unfold F_J7_copyOf_59c91
  refine pg_iload_n (i := 1) dJ7_copyOf_59c91_0 rfl 1 rfl ?_
  refine pg_aload_n (i := 0) dJ7_copyOf_59c91_1 rfl 0 rfl ?_
  refine pg_alen dJ7_copyOf_59c91_2 (fun v1 => ?_)
  refine pg_icmp_ne (tgt := 14) dJ7_copyOf_59c91_3 rfl ?_ ?_
  · refine pg_iload_n (i := 1) dJ7_copyOf_59c91_14 rfl 1 rfl ?_
    refine pg_newI dJ7_copyOf_59c91_15 pw_arr_int (fun v2 => ?_)
    refine pg_astore_n (i := 2) (lv' := [(2, pR v2.1), (0, pR a0), (1, pI a1)]) dJ7_copyOf_59c91_17 rfl (by decide) rfl ?_
    refine pg_aload_n (i := 0) dJ7_copyOf_59c91_18 rfl 1 rfl ?_
    refine pg_iconst dJ7_copyOf_59c91_19 ci_0 ?_
    refine pg_aload_n (i := 2) dJ7_copyOf_59c91_20 rfl 0 rfl ?_
    refine pg_iconst dJ7_copyOf_59c91_21 ci_0 ?_
    refine pg_aload_n (i := 0) dJ7_copyOf_59c91_22 rfl 1 rfl ?_
    refine pg_alen dJ7_copyOf_59c91_23 (fun v3 => ?_)
    refine pg_iload_n (i := 1) dJ7_copyOf_59c91_24 rfl 2 rfl ?_
    refine pg_mmin dJ7_copyOf_59c91_25 pw4_9 pw_min1 pw_math pw_min2 (Nat.le_of_ble_eq_true rfl) (by decide) (by decide) ?_
    refine pg_acopyI dJ7_copyOf_59c91_28 pw4_10 pw_acp1 pw_acp2 pw_acp3 (Nat.le_of_ble_eq_true rfl) (by decide) (by decide) (fun v4 => ?_)
    refine pg_aload_n (i := 2) dJ7_copyOf_59c91_31 rfl 0 rfl ?_
    exact pg_aret dJ7_copyOf_59c91_32 rfl rfl rfl
  · refine pg_aload_n (i := 0) dJ7_copyOf_59c91_6 rfl 0 rfl ?_
    exact pg_none
theorem c_J7_copyOf_59c91 (l : Launch) (D : pg_D) (a0 : Nat) (a1 : Int32) (h : pg_H) : ∀ x, F_J7_copyOf_59c91 a0 a1 h = some x → pg_Ct l D yJ7_copyOf_59c91 cJ7_copyOf_59c91 3 (some (FieldType.array FieldType.int)) 1 60 [pR a0, pI a1] h (pg_wR x) :=
  pg_Ct.of pn_RJ7 (Nat.le_of_ble_eq_true rfl) (e_J7_copyOf_59c91 l D a0 a1 h)
def F_X9_init (a0 : Nat) (a1 : Nat) (a2 : Int32) (h : pg_H) : Option pg_H := (if a0 = 0 then none else Option.bind (pg_len h a1) fun v1 => Option.bind (F_J7_copyOf_59c91 a1 (if (0 : Int32) < (if v1 < a2 then v1 else a2) then (if v1 < a2 then v1 else a2) else (0 : Int32)) h) fun v2 => Option.bind (pg_pR 9 0 v2.2 a0 v2.1) fun v3 => (some v3))
theorem e_X9_init (l : Launch) (D : pg_D)  (a0 : Nat) (a1 : Nat) (a2 : Int32) (h : pg_H) : pg_EvF l D RX9 cX9_init 3 none "<init>" 2 82 pg_wV (F_X9_init a0 a1 a2 h) 0 [(0, pR a0), (1, pR a1), (2, pI a2)] [] h := by
  unfold F_X9_init
  refine pg_aload_n (i := 0) dX9_init_0 rfl 0 rfl ?_
  refine pg_objInit dX9_init_1 pw3_236 pw_obj1 pw_obj2 (Nat.le_of_ble_eq_true rfl) (by decide) (by decide) ?_
  refine pg_aload_n (i := 0) dX9_init_4 rfl 0 rfl ?_
  refine pg_aload_n (i := 1) dX9_init_5 rfl 1 rfl ?_
  refine pg_iconst dX9_init_6 ci_0 ?_
  refine pg_iload_n (i := 2) dX9_init_7 rfl 2 rfl ?_
  refine pg_aload_n (i := 1) dX9_init_8 rfl 1 rfl ?_
  refine pg_alen dX9_init_9 (fun v1 => ?_)
  refine pg_mmin dX9_init_10 pw3_237 pw_min1 pw_math pw_min2 (Nat.le_of_ble_eq_true rfl) (by decide) (by decide) ?_
  refine pg_mmax dX9_init_13 pw3_238 pw_max1 pw_math pw_max2 (Nat.le_of_ble_eq_true rfl) (by decide) (by decide) ?_
  refine pg_callS_wR (As := [pR a1, pI (if (0 : Int32) < (if v1 < a2 then v1 else a2) then (if v1 < a2 then v1 else a2) else (0 : Int32))]) (rs := [pR a0]) dX9_init_16 lk_RX9_16 vy_J7_copyOf_59c91 nd_J7_copyOf_59c91 (c_J7_copyOf_59c91 l D a1 (if (0 : Int32) < (if v1 < a2 then v1 else a2) then (if v1 < a2 then v1 else a2) else (0 : Int32)) h) rfl rfl (Nat.le_of_ble_eq_true rfl) (by decide) (by decide) (fun v2 => ?_)
  refine pg_putR dX9_init_19 fl_RX9_22 rfl (fun _ => ⟨rfl, fp_RX9_22⟩) (fun v3 => ?_)
  exact pg_vret dX9_init_22 rfl rfl
theorem c_X9_init (l : Launch) (D : pg_D) (a0 : Nat) (a1 : Nat) (a2 : Int32) (h : pg_H) : ∀ x, F_X9_init a0 a1 a2 h = some x → pg_Ct l D yX9_init cX9_init 3 none 2 82 [pR a0, pR a1, pI a2] h (pg_wV x) :=
  pg_Ct.of pn_RX9 (Nat.le_of_ble_eq_true rfl) (e_X9_init l D a0 a1 a2 h)
def F_X3_compile_43 (k26 : Nat → Int32 → pg_H → Option (Nat × pg_H)) (a0 : Nat) (a1 : Int32) (h : pg_H) : Option (Nat × pg_H) := Option.bind (pg_gI 3 8 h a0) fun v1 => (if v1 = (-1 : Int32) then Option.bind (pg_rcv 3 h a0 (F_X3_readClause a0 h)) fun v2 => (if v2.1 = 0 then (some ((0 : Nat), v2.2)) else Option.bind (pg_gI 3 5 v2.2 a0) fun v3 => (if v3 = (22 : Int32) then Option.bind (pg_new 9 1 v2.2) fun v5 => Option.bind (pg_gR 3 0 v5.2 a0) fun v6 => Option.bind (pg_gI 3 2 v5.2 a0) fun v7 => Option.bind (pg_rcv 9 v5.2 v5.1 (F_X9_init v5.1 v6 v7 v5.2)) fun v8 => (some (v5.1, v8)) else Option.bind (pg_rcv 3 v2.2 a0 (F_X3_takeSign a0 (59 : Int32) v2.2)) fun v4 => (if v4.1 = 0 then (some ((0 : Nat), v4.2)) else (k26 a0 (a1 + (1 : Int32)) v4.2)))) else (some ((0 : Nat), h)))
def F_X3_compile_26  : Nat → Nat → Int32 → pg_H → Option (Nat × pg_H)
  | 0 => fun _ _ _ => none
  | n + 1 => fun a0 a1 h => (if (12 : Int32) < a1 then (some ((0 : Nat), h)) else (if a1 = (12 : Int32) then Option.bind (pg_rcv 3 h a0 (F_X3_fail a0 h)) fun v1 => (F_X3_compile_43 (F_X3_compile_26 n) a0 a1 v1.2) else (F_X3_compile_43 (F_X3_compile_26 n) a0 a1 h)))
def F_X3_compile (a0 : Nat) (h : pg_H) : Option (Nat × pg_H) := Option.bind (pg_pI 3 2 h a0 (0 : Int32)) fun v1 => Option.bind (pg_pI 3 4 v1 a0 (0 : Int32)) fun v2 => Option.bind (pg_pI 3 7 v2 a0 (0 : Int32)) fun v3 => Option.bind (pg_pI 3 8 v3 a0 (-1 : Int32)) fun v4 => Option.bind (pg_rcv 3 v4 a0 (F_X3_advance a0 v4)) fun v5 => (F_X3_compile_26 pg_fuel a0 (0 : Int32) v5)
theorem e_X3_compile_43 (l : Launch) (D : pg_D)  (k26 : Nat → Int32 → pg_H → Option (Nat × pg_H)) (hk26 : ∀ (a0 : Nat) (a1 : Int32) (h : pg_H), pg_EvF l D RX3 cX3_compile 2 (some (FieldType.object "SkyMargins$Text")) "compile" 1311 30214 pg_wR (k26 a0 a1 h) 26 [(0, pR a0), (1, pI a1)] [] h) (a0 : Nat) (a1 : Int32) (h : pg_H) : pg_EvF l D RX3 cX3_compile 2 (some (FieldType.object "SkyMargins$Text")) "compile" 1311 30214 pg_wR (F_X3_compile_43 k26 a0 a1 h) 43 [(0, pR a0), (1, pI a1)] [] h := by
  unfold F_X3_compile_43
  refine pg_aload_n (i := 0) dX3_compile_43 rfl 0 rfl ?_
  refine pg_getI dX3_compile_44 fl_RX3_15 rfl (fun v1 => ?_)
  refine pg_iconst dX3_compile_47 ci_m1 ?_
  refine pg_icmp_ne (tgt := 58) dX3_compile_48 rfl ?_ ?_
  · refine pg_null dX3_compile_58 ?_
    exact pg_aret dX3_compile_59 rfl rfl rfl
  · refine pg_aload_n (i := 0) dX3_compile_51 rfl 0 rfl ?_
    refine pg_callV_wI (As := []) (rs := []) dX3_compile_52 lk_RX3_39 vy_X3_readClause nd_X3_readClause (c_X3_readClause l D a0 h) rfl rfl (Nat.le_of_ble_eq_true rfl) (by decide) (by decide) (fun v2 => ?_)
    refine pg_if_ne (tgt := 60) dX3_compile_55 rfl ?_ ?_
    · refine pg_aload_n (i := 0) dX3_compile_60 rfl 0 rfl ?_
      refine pg_getI dX3_compile_61 fl_RX3_42 rfl (fun v3 => ?_)
      refine pg_bipush dX3_compile_64 cb_22 ?_
      refine pg_icmp_ne (tgt := 85) dX3_compile_66 rfl ?_ ?_
      · refine pg_aload_n (i := 0) dX3_compile_85 rfl 0 rfl ?_
        refine pg_bipush dX3_compile_86 cb_59 ?_
        refine pg_callV_wI (As := [pI (59 : Int32)]) (rs := []) dX3_compile_88 lk_RX3_50 vy_X3_takeSign nd_X3_takeSign (c_X3_takeSign l D a0 (59 : Int32) v2.2) rfl rfl (Nat.le_of_ble_eq_true rfl) (by decide) (by decide) (fun v4 => ?_)
        refine pg_if_ne (tgt := 96) dX3_compile_91 rfl ?_ ?_
        · refine pg_iinc (lv' := [(1, pI (a1 + (1 : Int32))), (0, pR a0)]) dX3_compile_96 1 rfl ci_1 (by decide) rfl ?_
          refine pg_goto (tgt := 26) dX3_compile_99 rfl ?_
          exact pg_to (hk26 a0 (a1 + (1 : Int32)) v4.2) [1, 0] rfl
        · refine pg_null dX3_compile_94 ?_
          exact pg_aret dX3_compile_95 rfl rfl rfl
      · refine pg_newO (q := (RX9, TX9, 1)) dX3_compile_69 (by decide) rfl rfl pw3_231 pw3_232 pw1_20 (fun v5 => ?_)
        refine pg_dup dX3_compile_72 rfl ?_
        refine pg_aload_n (i := 0) dX3_compile_73 rfl 0 rfl ?_
        refine pg_getR dX3_compile_74 fl_RX3_11 rfl (fun v6 => ?_)
        refine pg_aload_n (i := 0) dX3_compile_77 rfl 0 rfl ?_
        refine pg_getI dX3_compile_78 fl_RX3_23 rfl (fun v7 => ?_)
        refine pg_callI_wV (As := [pR v6, pI v7]) (rs := [pR v5.1]) dX3_compile_81 lk_RX3_47 vy_X9_init nd_X9_init (c_X9_init l D v5.1 v6 v7 v5.2) rfl rfl (Nat.le_of_ble_eq_true rfl) (by decide) (by decide) (fun v8 => ?_)
        exact pg_aret dX3_compile_84 rfl rfl rfl
    · refine pg_null dX3_compile_58 ?_
      exact pg_aret dX3_compile_59 rfl rfl rfl
theorem e_X3_compile_26 (l : Launch) (D : pg_D)   : ∀ (n : Nat) (a0 : Nat) (a1 : Int32) (h : pg_H), pg_EvF l D RX3 cX3_compile 2 (some (FieldType.object "SkyMargins$Text")) "compile" 1311 30214 pg_wR (F_X3_compile_26 n a0 a1 h) 26 [(0, pR a0), (1, pI a1)] [] h := by
  intro n
  induction n with
  | zero => intro a0 a1 h; exact pg_none
  | succ n ih =>
    intro a0 a1 h
    rw [F_X3_compile_26]
    refine pg_iload_n (i := 1) dX3_compile_26 rfl 1 rfl ?_
    refine pg_bipush dX3_compile_27 cb_12 ?_
    refine pg_icmp_gt (tgt := 102) dX3_compile_29 rfl ?_ ?_
    · refine pg_null dX3_compile_102 ?_
      exact pg_aret dX3_compile_103 rfl rfl rfl
    · refine pg_iload_n (i := 1) dX3_compile_32 rfl 1 rfl ?_
      refine pg_bipush dX3_compile_33 cb_12 ?_
      refine pg_icmp_ne (tgt := 43) dX3_compile_35 rfl ?_ ?_
      · exact pg_to (e_X3_compile_43 l D (F_X3_compile_26 n) ih a0 a1 h) [0, 1] rfl
      · refine pg_aload_n (i := 0) dX3_compile_38 rfl 0 rfl ?_
        refine pg_callV_wI (As := []) (rs := []) dX3_compile_39 lk_RX3_35 vy_X3_fail nd_X3_fail (c_X3_fail l D a0 h) rfl rfl (Nat.le_of_ble_eq_true rfl) (by decide) (by decide) (fun v1 => ?_)
        refine pg_pop dX3_compile_42 rfl ?_
        exact pg_to (e_X3_compile_43 l D (F_X3_compile_26 n) ih a0 a1 v1.2) [0, 1] rfl
theorem e_X3_compile (l : Launch) (D : pg_D)  (a0 : Nat) (h : pg_H) : pg_EvF l D RX3 cX3_compile 2 (some (FieldType.object "SkyMargins$Text")) "compile" 1311 30214 pg_wR (F_X3_compile a0 h) 0 [(0, pR a0)] [] h := by
  unfold F_X3_compile
  refine pg_aload_n (i := 0) dX3_compile_0 rfl 0 rfl ?_
  refine pg_iconst dX3_compile_1 ci_0 ?_
  refine pg_putI dX3_compile_2 fl_RX3_23 (fun z => by cases z) (fun v1 => ?_)
  refine pg_aload_n (i := 0) dX3_compile_5 rfl 0 rfl ?_
  refine pg_iconst dX3_compile_6 ci_0 ?_
  refine pg_putI dX3_compile_7 fl_RX3_26 (fun z => by cases z) (fun v2 => ?_)
  refine pg_aload_n (i := 0) dX3_compile_10 rfl 0 rfl ?_
  refine pg_iconst dX3_compile_11 ci_0 ?_
  refine pg_putI dX3_compile_12 fl_RX3_29 (fun z => by cases z) (fun v3 => ?_)
  refine pg_aload_n (i := 0) dX3_compile_15 rfl 0 rfl ?_
  refine pg_iconst dX3_compile_16 ci_m1 ?_
  refine pg_putI dX3_compile_17 fl_RX3_15 (fun z => by cases z) (fun v4 => ?_)
  refine pg_aload_n (i := 0) dX3_compile_20 rfl 0 rfl ?_
  refine pg_callV_wV (As := []) (rs := []) dX3_compile_21 lk_RX3_32 vy_X3_advance nd_X3_advance (c_X3_advance l D a0 v4) rfl rfl (Nat.le_of_ble_eq_true rfl) (by decide) (by decide) (fun v5 => ?_)
  refine pg_iconst dX3_compile_24 ci_0 ?_
  refine pg_istore_n (i := 1) (lv' := [(1, pI (0 : Int32)), (0, pR a0)]) dX3_compile_25 rfl (by decide) rfl ?_
  exact pg_to (e_X3_compile_26 l D pg_fuel a0 (0 : Int32) v5) [1, 0] rfl
theorem c_X3_compile (l : Launch) (D : pg_D) (a0 : Nat) (h : pg_H) : ∀ x, F_X3_compile a0 h = some x → pg_Ct l D yX3_compile cX3_compile 2 (some (FieldType.object "SkyMargins$Text")) 1311 30214 [pR a0] h (pg_wR x) :=
  pg_Ct.of pn_RX3 (Nat.le_of_ble_eq_true rfl) (e_X3_compile l D a0 h)
def F_X4_init (a0 : Nat) (h : pg_H) : Option pg_H := (if a0 = 0 then none else Option.bind (pg_newA 21 h (200 : Int32)) fun v1 => Option.bind (pg_pR 4 0 v1.2 a0 v1.1) fun v2 => Option.bind (pg_newA 21 v2 (200 : Int32)) fun v3 => Option.bind (pg_pR 4 1 v3.2 a0 v3.1) fun v4 => Option.bind (pg_newA 21 v4 (200 : Int32)) fun v5 => Option.bind (pg_pR 4 2 v5.2 a0 v5.1) fun v6 => Option.bind (pg_newA 21 v6 (200 : Int32)) fun v7 => Option.bind (pg_pR 4 3 v7.2 a0 v7.1) fun v8 => Option.bind (pg_newA 21 v8 (60 : Int32)) fun v9 => Option.bind (pg_pR 4 4 v9.2 a0 v9.1) fun v10 => Option.bind (pg_newA 21 v10 (200 : Int32)) fun v11 => Option.bind (pg_pR 4 5 v11.2 a0 v11.1) fun v12 => Option.bind (pg_newA 21 v12 (60 : Int32)) fun v13 => Option.bind (pg_pR 4 6 v13.2 a0 v13.1) fun v14 => Option.bind (pg_newA 21 v14 (12 : Int32)) fun v15 => Option.bind (pg_pR 4 7 v15.2 a0 v15.1) fun v16 => (some v16))
theorem e_X4_init (l : Launch) (D : pg_D)  (a0 : Nat) (h : pg_H) : pg_EvF l D RX4 cX4_init 1 none "<init>" 1 20 pg_wV (F_X4_init a0 h) 0 [(0, pR a0)] [] h := by
  unfold F_X4_init
  refine pg_aload_n (i := 0) dX4_init_0 rfl 0 rfl ?_
  refine pg_objInit dX4_init_1 pw1_191 pw_obj1 pw_obj2 (Nat.le_of_ble_eq_true rfl) (by decide) (by decide) ?_
  refine pg_aload_n (i := 0) dX4_init_4 rfl 0 rfl ?_
  refine pg_sipush dX4_init_5 cs_200 ?_
  refine pg_newI dX4_init_8 pw_arr_int (fun v1 => ?_)
  refine pg_putR dX4_init_10 fl_RX4_9 rfl (fun _ => ⟨rfl, fp_RX4_9⟩) (fun v2 => ?_)
  refine pg_aload_n (i := 0) dX4_init_13 rfl 0 rfl ?_
  refine pg_sipush dX4_init_14 cs_200 ?_
  refine pg_newI dX4_init_17 pw_arr_int (fun v3 => ?_)
  refine pg_putR dX4_init_19 fl_RX4_15 rfl (fun _ => ⟨rfl, fp_RX4_15⟩) (fun v4 => ?_)
  refine pg_aload_n (i := 0) dX4_init_22 rfl 0 rfl ?_
  refine pg_sipush dX4_init_23 cs_200 ?_
  refine pg_newI dX4_init_26 pw_arr_int (fun v5 => ?_)
  refine pg_putR dX4_init_28 fl_RX4_18 rfl (fun _ => ⟨rfl, fp_RX4_18⟩) (fun v6 => ?_)
  refine pg_aload_n (i := 0) dX4_init_31 rfl 0 rfl ?_
  refine pg_sipush dX4_init_32 cs_200 ?_
  refine pg_newI dX4_init_35 pw_arr_int (fun v7 => ?_)
  refine pg_putR dX4_init_37 fl_RX4_21 rfl (fun _ => ⟨rfl, fp_RX4_21⟩) (fun v8 => ?_)
  refine pg_aload_n (i := 0) dX4_init_40 rfl 0 rfl ?_
  refine pg_bipush dX4_init_41 cb_60 ?_
  refine pg_newI dX4_init_43 pw_arr_int (fun v9 => ?_)
  refine pg_putR dX4_init_45 fl_RX4_24 rfl (fun _ => ⟨rfl, fp_RX4_24⟩) (fun v10 => ?_)
  refine pg_aload_n (i := 0) dX4_init_48 rfl 0 rfl ?_
  refine pg_sipush dX4_init_49 cs_200 ?_
  refine pg_newI dX4_init_52 pw_arr_int (fun v11 => ?_)
  refine pg_putR dX4_init_54 fl_RX4_27 rfl (fun _ => ⟨rfl, fp_RX4_27⟩) (fun v12 => ?_)
  refine pg_aload_n (i := 0) dX4_init_57 rfl 0 rfl ?_
  refine pg_bipush dX4_init_58 cb_60 ?_
  refine pg_newI dX4_init_60 pw_arr_int (fun v13 => ?_)
  refine pg_putR dX4_init_62 fl_RX4_30 rfl (fun _ => ⟨rfl, fp_RX4_30⟩) (fun v14 => ?_)
  refine pg_aload_n (i := 0) dX4_init_65 rfl 0 rfl ?_
  refine pg_bipush dX4_init_66 cb_12 ?_
  refine pg_newI dX4_init_68 pw_arr_int (fun v15 => ?_)
  refine pg_putR dX4_init_70 fl_RX4_33 rfl (fun _ => ⟨rfl, fp_RX4_33⟩) (fun v16 => ?_)
  exact pg_vret dX4_init_73 rfl rfl
theorem c_X4_init (l : Launch) (D : pg_D) (a0 : Nat) (h : pg_H) : ∀ x, F_X4_init a0 h = some x → pg_Ct l D yX4_init cX4_init 1 none 1 20 [pR a0] h (pg_wV x) :=
  pg_Ct.of pn_RX4 (Nat.le_of_ble_eq_true rfl) (e_X4_init l D a0 h)
def F_X4_find_24 (h : pg_H) : Nat → Nat → Int32 → Int32 → Int32 → Option Int32
  | 0 => fun _ _ _ _ => none
  | n + 1 => fun a0 a2 a3 a4 => (if a4 < (200 : Int32) then (if a3 < 0 then (some (-1 : Int32)) else Option.bind (pg_gI 4 8 h a0) fun v1 => (if a3 < v1 then Option.bind (pg_gR 4 1 h a0) fun v2 => Option.bind (pg_aI 21 h v2 a3) fun v3 => (if v3 = a2 then (some a3) else Option.bind (pg_gR 4 5 h a0) fun v4 => Option.bind (pg_aI 21 h v4 a3) fun v5 => (F_X4_find_24 h n a0 a2 v5 (a4 + (1 : Int32)))) else (some (-1 : Int32)))) else (some (-1 : Int32)))
def F_X4_find_20 (h : pg_H) (a0 : Nat) (a2 : Int32) (s0 : Int32) : Option Int32 := (F_X4_find_24 h pg_fuel a0 a2 s0 (0 : Int32))
def F_X4_find_19 (h : pg_H) (a0 : Nat) (a2 : Int32) : Option Int32 := (F_X4_find_20 h a0 a2 (-1 : Int32))
def F_X4_find (h : pg_H) (a0 : Nat) (a1 : Int32) (a2 : Int32) : Option Int32 := (if a1 < 0 then (F_X4_find_19 h a0 a2) else (if a1 < (60 : Int32) then Option.bind (pg_gR 4 4 h a0) fun v1 => Option.bind (pg_aI 21 h v1 a1) fun v2 => (F_X4_find_20 h a0 a2 v2) else (F_X4_find_19 h a0 a2)))
theorem e_X4_find_24 (l : Launch) (D : pg_D)  (h : pg_H) : ∀ (n : Nat) (a0 : Nat) (a2 : Int32) (a3 : Int32) (a4 : Int32), pg_EvF l D RX4 cX4_find 5 (some FieldType.int) "find" 0 0 (pg_oI h) (F_X4_find_24 h n a0 a2 a3 a4) 24 [(0, pR a0), (2, pI a2), (3, pI a3), (4, pI a4)] [] h := by
  intro n
  induction n with
  | zero => intro a0 a2 a3 a4; exact pg_none
  | succ n ih =>
    intro a0 a2 a3 a4
    rw [F_X4_find_24]
    refine pg_iload dX4_find_24 3 rfl ?_
    refine pg_sipush dX4_find_26 cs_200 ?_
    refine pg_icmp_ge (tgt := 69) dX4_find_29 rfl ?_ ?_
    · refine pg_iconst dX4_find_69 ci_m1 ?_
      exact pg_iret dX4_find_70 rfl rfl
    · refine pg_iload_n (i := 3) dX4_find_32 rfl 2 rfl ?_
      refine pg_if_lt (tgt := 69) dX4_find_33 rfl ?_ ?_
      · refine pg_iconst dX4_find_69 ci_m1 ?_
        exact pg_iret dX4_find_70 rfl rfl
      · refine pg_iload_n (i := 3) dX4_find_36 rfl 2 rfl ?_
        refine pg_aload_n (i := 0) dX4_find_37 rfl 0 rfl ?_
        refine pg_getI dX4_find_38 fl_RX4_36 rfl (fun v1 => ?_)
        refine pg_icmp_ge (tgt := 69) dX4_find_41 rfl ?_ ?_
        · refine pg_iconst dX4_find_69 ci_m1 ?_
          exact pg_iret dX4_find_70 rfl rfl
        · refine pg_aload_n (i := 0) dX4_find_44 rfl 0 rfl ?_
          refine pg_getR dX4_find_45 fl_RX4_15 rfl (fun v2 => ?_)
          refine pg_iload_n (i := 3) dX4_find_48 rfl 2 rfl ?_
          refine pg_iaload dX4_find_49 (fun v3 => ?_)
          refine pg_iload_n (i := 2) dX4_find_50 rfl 1 rfl ?_
          refine pg_icmp_ne (tgt := 56) dX4_find_51 rfl ?_ ?_
          · refine pg_aload_n (i := 0) dX4_find_56 rfl 0 rfl ?_
            refine pg_getR dX4_find_57 fl_RX4_27 rfl (fun v4 => ?_)
            refine pg_iload_n (i := 3) dX4_find_60 rfl 2 rfl ?_
            refine pg_iaload dX4_find_61 (fun v5 => ?_)
            refine pg_istore_n (i := 3) (lv' := [(3, pI v5), (0, pR a0), (2, pI a2), (4, pI a4)]) dX4_find_62 rfl (by decide) rfl ?_
            refine pg_iinc (lv' := [(4, pI (a4 + (1 : Int32))), (3, pI v5), (0, pR a0), (2, pI a2)]) dX4_find_63 3 rfl ci_1 (by decide) rfl ?_
            refine pg_goto (tgt := 24) dX4_find_66 rfl ?_
            exact pg_to (ih a0 a2 v5 (a4 + (1 : Int32))) [2, 3, 1, 0] rfl
          · refine pg_iload_n (i := 3) dX4_find_54 rfl 2 rfl ?_
            exact pg_iret dX4_find_55 rfl rfl
theorem e_X4_find_20 (l : Launch) (D : pg_D)  (h : pg_H) (a0 : Nat) (a2 : Int32) (s0 : Int32) : pg_EvF l D RX4 cX4_find 5 (some FieldType.int) "find" 0 0 (pg_oI h) (F_X4_find_20 h a0 a2 s0) 20 [(0, pR a0), (2, pI a2)] [pI s0] h := by
  unfold F_X4_find_20
  refine pg_istore_n (i := 3) (lv' := [(3, pI s0), (0, pR a0), (2, pI a2)]) dX4_find_20 rfl (by decide) rfl ?_
  refine pg_iconst dX4_find_21 ci_0 ?_
  refine pg_istore (lv' := [(4, pI (0 : Int32)), (3, pI s0), (0, pR a0), (2, pI a2)]) dX4_find_22 (by decide) rfl ?_
  exact pg_to (e_X4_find_24 l D h pg_fuel a0 a2 s0 (0 : Int32)) [2, 3, 1, 0] rfl
theorem e_X4_find_19 (l : Launch) (D : pg_D)  (h : pg_H) (a0 : Nat) (a2 : Int32) : pg_EvF l D RX4 cX4_find 5 (some FieldType.int) "find" 0 0 (pg_oI h) (F_X4_find_19 h a0 a2) 19 [(0, pR a0), (2, pI a2)] [] h := by
  unfold F_X4_find_19
  refine pg_iconst dX4_find_19 ci_m1 ?_
  exact pg_to (e_X4_find_20 l D h a0 a2 (-1 : Int32)) [0, 1] rfl
theorem e_X4_find (l : Launch) (D : pg_D)  (h : pg_H) (a0 : Nat) (a1 : Int32) (a2 : Int32) : pg_EvF l D RX4 cX4_find 5 (some FieldType.int) "find" 0 0 (pg_oI h) (F_X4_find h a0 a1 a2) 0 [(0, pR a0), (1, pI a1), (2, pI a2)] [] h := by
  unfold F_X4_find
  refine pg_iload_n (i := 1) dX4_find_0 rfl 1 rfl ?_
  refine pg_if_lt (tgt := 19) dX4_find_1 rfl ?_ ?_
  · exact pg_to (e_X4_find_19 l D h a0 a2) [0, 2] rfl
  · refine pg_iload_n (i := 1) dX4_find_4 rfl 1 rfl ?_
    refine pg_bipush dX4_find_5 cb_60 ?_
    refine pg_icmp_ge (tgt := 19) dX4_find_7 rfl ?_ ?_
    · exact pg_to (e_X4_find_19 l D h a0 a2) [0, 2] rfl
    · refine pg_aload_n (i := 0) dX4_find_10 rfl 0 rfl ?_
      refine pg_getR dX4_find_11 fl_RX4_24 rfl (fun v1 => ?_)
      refine pg_iload_n (i := 1) dX4_find_14 rfl 1 rfl ?_
      refine pg_iaload dX4_find_15 (fun v2 => ?_)
      refine pg_goto (tgt := 20) dX4_find_16 rfl ?_
      exact pg_to (e_X4_find_20 l D h a0 a2 v2) [0, 2] rfl
theorem c_X4_find (l : Launch) (D : pg_D) (h : pg_H) (a0 : Nat) (a1 : Int32) (a2 : Int32)  : ∀ x, F_X4_find h a0 a1 a2 = some x → pg_Ct l D yX4_find cX4_find 5 (some FieldType.int) 0 0 [pR a0, pI a1, pI a2] h (pg_oI h x) :=
  pg_Ct.of pn_RX4 (Nat.le_of_ble_eq_true rfl) (e_X4_find l D h a0 a1 a2)
def F_X4_addHolder_95 (a0 : Nat) (a3 : Int32) (a4 : Int32) (h : pg_H) : Option pg_H := (if a4 = (-1 : Int32) then (some h) else Option.bind (pg_gR 4 2 h a0) fun v1 => Option.bind (pg_aI 21 h v1 a4) fun v2 => Option.bind (pg_sI 21 h v1 a4 (v2 ||| a3)) fun v3 => (some v3))
def F_X4_addHolder (a0 : Nat) (a1 : Int32) (a2 : Int32) (a3 : Int32) (h : pg_H) : Option pg_H := Option.bind (pg_rcv 4 h a0 (F_X4_find h a0 a1 a2)) fun v1 => (if v1 = (-1 : Int32) then Option.bind (pg_gI 4 8 h a0) fun v2 => (if v2 < (200 : Int32) then (if a1 < 0 then (F_X4_addHolder_95 a0 a3 v1 h) else (if a1 < (60 : Int32) then Option.bind (pg_gI 4 8 h a0) fun v3 => Option.bind (pg_gI 4 8 h a0) fun v4 => Option.bind (pg_pI 4 8 h a0 (v4 + (1 : Int32))) fun v5 => Option.bind (pg_gR 4 0 v5 a0) fun v6 => Option.bind (pg_sI 21 v5 v6 v3 a1) fun v7 => Option.bind (pg_gR 4 1 v7 a0) fun v8 => Option.bind (pg_sI 21 v7 v8 v3 a2) fun v9 => Option.bind (pg_gR 4 2 v9 a0) fun v10 => Option.bind (pg_sI 21 v9 v10 v3 (0 : Int32)) fun v11 => Option.bind (pg_gR 4 5 v11 a0) fun v12 => Option.bind (pg_gR 4 4 v11 a0) fun v13 => Option.bind (pg_aI 21 v11 v13 a1) fun v14 => Option.bind (pg_sI 21 v11 v12 v3 v14) fun v15 => Option.bind (pg_gR 4 4 v15 a0) fun v16 => Option.bind (pg_sI 21 v15 v16 a1 v3) fun v17 => (F_X4_addHolder_95 a0 a3 v3 v17) else (F_X4_addHolder_95 a0 a3 v1 h))) else (F_X4_addHolder_95 a0 a3 v1 h)) else (F_X4_addHolder_95 a0 a3 v1 h))
theorem e_X4_addHolder_95 (l : Launch) (D : pg_D)  (a0 : Nat) (a3 : Int32) (a4 : Int32) (h : pg_H) : pg_EvF l D RX4 cX4_addHolder 5 none "addHolder" 1 24 pg_wV (F_X4_addHolder_95 a0 a3 a4 h) 95 [(0, pR a0), (3, pI a3), (4, pI a4)] [] h := by
  unfold F_X4_addHolder_95
  refine pg_iload dX4_addHolder_95 2 rfl ?_
  refine pg_iconst dX4_addHolder_97 ci_m1 ?_
  refine pg_icmp_eq (tgt := 112) dX4_addHolder_98 rfl ?_ ?_
  · exact pg_vret dX4_addHolder_112 rfl rfl
  · refine pg_aload_n (i := 0) dX4_addHolder_101 rfl 0 rfl ?_
    refine pg_getR dX4_addHolder_102 fl_RX4_18 rfl (fun v1 => ?_)
    refine pg_iload dX4_addHolder_105 2 rfl ?_
    refine pg_dup2 dX4_addHolder_107 rfl rfl ?_
    refine pg_iaload dX4_addHolder_108 (fun v2 => ?_)
    refine pg_iload_n (i := 3) dX4_addHolder_109 rfl 1 rfl ?_
    refine pg_ior dX4_addHolder_110 ?_
    refine pg_iastore dX4_addHolder_111 (fun v3 => ?_)
    exact pg_vret dX4_addHolder_112 rfl rfl
theorem e_X4_addHolder (l : Launch) (D : pg_D)  (a0 : Nat) (a1 : Int32) (a2 : Int32) (a3 : Int32) (h : pg_H) : pg_EvF l D RX4 cX4_addHolder 5 none "addHolder" 1 24 pg_wV (F_X4_addHolder a0 a1 a2 a3 h) 0 [(0, pR a0), (1, pI a1), (2, pI a2), (3, pI a3)] [] h := by
  unfold F_X4_addHolder
  refine pg_aload_n (i := 0) dX4_addHolder_0 rfl 0 rfl ?_
  refine pg_iload_n (i := 1) dX4_addHolder_1 rfl 1 rfl ?_
  refine pg_iload_n (i := 2) dX4_addHolder_2 rfl 2 rfl ?_
  refine pg_callV_oI (As := [pI a1, pI a2]) (rs := []) dX4_addHolder_3 lk_RX4_84 vy_X4_find nd_X4_find (c_X4_find l D h a0 a1 a2) rfl rfl (Nat.le_of_ble_eq_true rfl) (by decide) (by decide) (fun v1 => ?_)
  refine pg_istore (lv' := [(4, pI v1), (0, pR a0), (1, pI a1), (2, pI a2), (3, pI a3)]) dX4_addHolder_6 (by decide) rfl ?_
  refine pg_iload dX4_addHolder_8 0 rfl ?_
  refine pg_iconst dX4_addHolder_10 ci_m1 ?_
  refine pg_icmp_ne (tgt := 95) dX4_addHolder_11 rfl ?_ ?_
  · exact pg_to (e_X4_addHolder_95 l D a0 a3 v1 h) [1, 4, 0] rfl
  · refine pg_aload_n (i := 0) dX4_addHolder_14 rfl 1 rfl ?_
    refine pg_getI dX4_addHolder_15 fl_RX4_36 rfl (fun v2 => ?_)
    refine pg_sipush dX4_addHolder_18 cs_200 ?_
    refine pg_icmp_ge (tgt := 95) dX4_addHolder_21 rfl ?_ ?_
    · exact pg_to (e_X4_addHolder_95 l D a0 a3 v1 h) [1, 4, 0] rfl
    · refine pg_iload_n (i := 1) dX4_addHolder_24 rfl 2 rfl ?_
      refine pg_if_lt (tgt := 95) dX4_addHolder_25 rfl ?_ ?_
      · exact pg_to (e_X4_addHolder_95 l D a0 a3 v1 h) [1, 4, 0] rfl
      · refine pg_iload_n (i := 1) dX4_addHolder_28 rfl 2 rfl ?_
        refine pg_bipush dX4_addHolder_29 cb_60 ?_
        refine pg_icmp_ge (tgt := 95) dX4_addHolder_31 rfl ?_ ?_
        · exact pg_to (e_X4_addHolder_95 l D a0 a3 v1 h) [1, 4, 0] rfl
        · refine pg_aload_n (i := 0) dX4_addHolder_34 rfl 1 rfl ?_
          refine pg_getI dX4_addHolder_35 fl_RX4_36 rfl (fun v3 => ?_)
          refine pg_istore (lv' := [(4, pI v3), (0, pR a0), (1, pI a1), (2, pI a2), (3, pI a3)]) dX4_addHolder_38 (by decide) rfl ?_
          refine pg_aload_n (i := 0) dX4_addHolder_40 rfl 1 rfl ?_
          refine pg_dup dX4_addHolder_41 rfl ?_
          refine pg_getI dX4_addHolder_42 fl_RX4_36 rfl (fun v4 => ?_)
          refine pg_iconst dX4_addHolder_45 ci_1 ?_
          refine pg_iadd dX4_addHolder_46 ?_
          refine pg_putI dX4_addHolder_47 fl_RX4_36 (fun z => by cases z) (fun v5 => ?_)
          refine pg_aload_n (i := 0) dX4_addHolder_50 rfl 1 rfl ?_
          refine pg_getR dX4_addHolder_51 fl_RX4_9 rfl (fun v6 => ?_)
          refine pg_iload dX4_addHolder_54 0 rfl ?_
          refine pg_iload_n (i := 1) dX4_addHolder_56 rfl 2 rfl ?_
          refine pg_iastore dX4_addHolder_57 (fun v7 => ?_)
          refine pg_aload_n (i := 0) dX4_addHolder_58 rfl 1 rfl ?_
          refine pg_getR dX4_addHolder_59 fl_RX4_15 rfl (fun v8 => ?_)
          refine pg_iload dX4_addHolder_62 0 rfl ?_
          refine pg_iload_n (i := 2) dX4_addHolder_64 rfl 3 rfl ?_
          refine pg_iastore dX4_addHolder_65 (fun v9 => ?_)
          refine pg_aload_n (i := 0) dX4_addHolder_66 rfl 1 rfl ?_
          refine pg_getR dX4_addHolder_67 fl_RX4_18 rfl (fun v10 => ?_)
          refine pg_iload dX4_addHolder_70 0 rfl ?_
          refine pg_iconst dX4_addHolder_72 ci_0 ?_
          refine pg_iastore dX4_addHolder_73 (fun v11 => ?_)
          refine pg_aload_n (i := 0) dX4_addHolder_74 rfl 1 rfl ?_
          refine pg_getR dX4_addHolder_75 fl_RX4_27 rfl (fun v12 => ?_)
          refine pg_iload dX4_addHolder_78 0 rfl ?_
          refine pg_aload_n (i := 0) dX4_addHolder_80 rfl 1 rfl ?_
          refine pg_getR dX4_addHolder_81 fl_RX4_24 rfl (fun v13 => ?_)
          refine pg_iload_n (i := 1) dX4_addHolder_84 rfl 2 rfl ?_
          refine pg_iaload dX4_addHolder_85 (fun v14 => ?_)
          refine pg_iastore dX4_addHolder_86 (fun v15 => ?_)
          refine pg_aload_n (i := 0) dX4_addHolder_87 rfl 1 rfl ?_
          refine pg_getR dX4_addHolder_88 fl_RX4_24 rfl (fun v16 => ?_)
          refine pg_iload_n (i := 1) dX4_addHolder_91 rfl 2 rfl ?_
          refine pg_iload dX4_addHolder_92 0 rfl ?_
          refine pg_iastore dX4_addHolder_94 (fun v17 => ?_)
          exact pg_to (e_X4_addHolder_95 l D a0 a3 v3 v17) [1, 4, 0] rfl
theorem c_X4_addHolder (l : Launch) (D : pg_D) (a0 : Nat) (a1 : Int32) (a2 : Int32) (a3 : Int32) (h : pg_H) : ∀ x, F_X4_addHolder a0 a1 a2 a3 h = some x → pg_Ct l D yX4_addHolder cX4_addHolder 5 none 1 24 [pR a0, pI a1, pI a2, pI a3] h (pg_wV x) :=
  pg_Ct.of pn_RX4 (Nat.le_of_ble_eq_true rfl) (e_X4_addHolder l D a0 a1 a2 a3 h)
def F_J6_bitCount_0f7a4 (a0 : Int32) : Option Int32 := pg_let (a0 - ((((a0).toUInt32 >>> (((1 : Int32)).toUInt32 &&& Int32.toUInt32 31)).toInt32) &&& (1431655765 : Int32))) fun v1 => pg_let ((v1 &&& (858993459 : Int32)) + ((((v1).toUInt32 >>> (((2 : Int32)).toUInt32 &&& Int32.toUInt32 31)).toInt32) &&& (858993459 : Int32))) fun v2 => pg_let ((v2 + (((v2).toUInt32 >>> (((4 : Int32)).toUInt32 &&& Int32.toUInt32 31)).toInt32)) &&& (252645135 : Int32)) fun v3 => pg_let (v3 + (((v3).toUInt32 >>> (((8 : Int32)).toUInt32 &&& Int32.toUInt32 31)).toInt32)) fun v4 => pg_let (v4 + (((v4).toUInt32 >>> (((16 : Int32)).toUInt32 &&& Int32.toUInt32 31)).toInt32)) fun v5 => (some (v5 &&& (63 : Int32)))
theorem e_J6_bitCount_0f7a4 (l : Launch) (D : pg_D)  (a0 : Int32) (h : pg_H) : pg_EvF l D RJ6 cJ6_bitCount_0f7a4 1 (some FieldType.int) "bitCount" 0 0 (pg_oI h) (F_J6_bitCount_0f7a4 a0) 0 [(0, pI a0)] [] h := by
  unfold F_J6_bitCount_0f7a4
  refine pg_iload_n (i := 0) dJ6_bitCount_0f7a4_0 rfl 0 rfl ?_
  refine pg_iload_n (i := 0) dJ6_bitCount_0f7a4_1 rfl 0 rfl ?_
  refine pg_iconst dJ6_bitCount_0f7a4_2 ci_1 ?_
  refine pg_iushr dJ6_bitCount_0f7a4_3 ?_
  refine pg_ldcw (v := (1431655765 : Int32)) dJ6_bitCount_0f7a4_4 kc_RJ6_265 ?_
  refine pg_iand dJ6_bitCount_0f7a4_7 ?_
  refine pg_isub dJ6_bitCount_0f7a4_8 ?_
  refine pg_letI (fun v1 => ?_)
  refine pg_istore_n (i := 0) (lv' := [(0, pI v1)]) dJ6_bitCount_0f7a4_9 rfl (by decide) rfl ?_
  refine pg_iload_n (i := 0) dJ6_bitCount_0f7a4_10 rfl 0 rfl ?_
  refine pg_ldcw (v := (858993459 : Int32)) dJ6_bitCount_0f7a4_11 kc_RJ6_266 ?_
  refine pg_iand dJ6_bitCount_0f7a4_14 ?_
  refine pg_iload_n (i := 0) dJ6_bitCount_0f7a4_15 rfl 0 rfl ?_
  refine pg_iconst dJ6_bitCount_0f7a4_16 ci_2 ?_
  refine pg_iushr dJ6_bitCount_0f7a4_17 ?_
  refine pg_ldcw (v := (858993459 : Int32)) dJ6_bitCount_0f7a4_18 kc_RJ6_266 ?_
  refine pg_iand dJ6_bitCount_0f7a4_21 ?_
  refine pg_iadd dJ6_bitCount_0f7a4_22 ?_
  refine pg_letI (fun v2 => ?_)
  refine pg_istore_n (i := 0) (lv' := [(0, pI v2)]) dJ6_bitCount_0f7a4_23 rfl (by decide) rfl ?_
  refine pg_iload_n (i := 0) dJ6_bitCount_0f7a4_24 rfl 0 rfl ?_
  refine pg_iload_n (i := 0) dJ6_bitCount_0f7a4_25 rfl 0 rfl ?_
  refine pg_iconst dJ6_bitCount_0f7a4_26 ci_4 ?_
  refine pg_iushr dJ6_bitCount_0f7a4_27 ?_
  refine pg_iadd dJ6_bitCount_0f7a4_28 ?_
  refine pg_ldcw (v := (252645135 : Int32)) dJ6_bitCount_0f7a4_29 kc_RJ6_267 ?_
  refine pg_iand dJ6_bitCount_0f7a4_32 ?_
  refine pg_letI (fun v3 => ?_)
  refine pg_istore_n (i := 0) (lv' := [(0, pI v3)]) dJ6_bitCount_0f7a4_33 rfl (by decide) rfl ?_
  refine pg_iload_n (i := 0) dJ6_bitCount_0f7a4_34 rfl 0 rfl ?_
  refine pg_iload_n (i := 0) dJ6_bitCount_0f7a4_35 rfl 0 rfl ?_
  refine pg_bipush dJ6_bitCount_0f7a4_36 cb_8 ?_
  refine pg_iushr dJ6_bitCount_0f7a4_38 ?_
  refine pg_iadd dJ6_bitCount_0f7a4_39 ?_
  refine pg_letI (fun v4 => ?_)
  refine pg_istore_n (i := 0) (lv' := [(0, pI v4)]) dJ6_bitCount_0f7a4_40 rfl (by decide) rfl ?_
  refine pg_iload_n (i := 0) dJ6_bitCount_0f7a4_41 rfl 0 rfl ?_
  refine pg_iload_n (i := 0) dJ6_bitCount_0f7a4_42 rfl 0 rfl ?_
  refine pg_bipush dJ6_bitCount_0f7a4_43 cb_16 ?_
  refine pg_iushr dJ6_bitCount_0f7a4_45 ?_
  refine pg_iadd dJ6_bitCount_0f7a4_46 ?_
  refine pg_letI (fun v5 => ?_)
  refine pg_istore_n (i := 0) (lv' := [(0, pI v5)]) dJ6_bitCount_0f7a4_47 rfl (by decide) rfl ?_
  refine pg_iload_n (i := 0) dJ6_bitCount_0f7a4_48 rfl 0 rfl ?_
  refine pg_bipush dJ6_bitCount_0f7a4_49 cb_63 ?_
  refine pg_iand dJ6_bitCount_0f7a4_51 ?_
  exact pg_iret dJ6_bitCount_0f7a4_52 rfl rfl
theorem c_J6_bitCount_0f7a4 (l : Launch) (D : pg_D) (a0 : Int32) (h : pg_H) : ∀ x, F_J6_bitCount_0f7a4 a0 = some x → pg_Ct l D yJ6_bitCount_0f7a4 cJ6_bitCount_0f7a4 1 (some FieldType.int) 0 0 [pI a0] h (pg_oI h x) :=
  pg_Ct.of pn_RJ6 (Nat.le_of_ble_eq_true rfl) (e_J6_bitCount_0f7a4 l D a0 h)
def F_X4_gather_132  : Nat → Nat → Nat → Nat → Int32 → pg_H → Option pg_H
  | 0 => fun _ _ _ _ _ => none
  | n + 1 => fun a0 a1 a2 a3 h => Option.bind (pg_gI 4 8 h a0) fun v1 => (if a3 < v1 then Option.bind (pg_gR 4 0 h a0) fun v2 => Option.bind (pg_aI 21 h v2 a3) fun v3 => Option.bind (pg_gR 4 1 h a0) fun v4 => Option.bind (pg_aI 21 h v4 a3) fun v5 => Option.bind (pg_gR 4 2 h a0) fun v6 => Option.bind (pg_aI 21 h v6 a3) fun v7 => Option.bind (F_J6_bitCount_0f7a4 v7) fun v8 => Option.bind (pg_rcv 0 h a2 (F_X0_askOfWording a2 v3 v5 v8 h)) fun v9 => Option.bind (pg_gR 4 3 v9 a0) fun v10 => Option.bind (pg_rcv 5 v9 a1 (F_X5_textUsed v9 a1)) fun v11 => Option.bind (pg_rcv 0 v9 a2 (F_X0_told a2 v11 (0 : Int32) (10 : Int32) v9)) fun v12 => Option.bind (pg_sI 21 v12.2 v10 a3 v12.1) fun v13 => (F_X4_gather_132 n a0 a1 a2 (a3 + (1 : Int32)) v13) else (some h))
def F_X4_gather_124 (k23 : Nat → Nat → Nat → Int32 → pg_H → Option pg_H) (a0 : Nat) (a1 : Nat) (a2 : Nat) (a3 : Int32) (h : pg_H) : Option pg_H := (k23 a0 a1 a2 (a3 + (1 : Int32)) h)
def F_X4_gather_23  : Nat → Nat → Nat → Nat → Int32 → pg_H → Option pg_H
  | 0 => fun _ _ _ _ _ => none
  | n + 1 => fun a0 a1 a2 a3 h => Option.bind (pg_gR 5 4 h a1) fun v1 => Option.bind (pg_rcv 7 h v1 (F_X7_size h v1)) fun v2 => (if a3 < v2 then Option.bind (pg_gR 5 4 h a1) fun v3 => Option.bind (pg_rcv 7 h v3 (F_X7_at h v3 a3 (0 : Int32))) fun v4 => pg_let ((1 : Int32) <<< (v4 &&& 31)) fun v5 => Option.bind (pg_gR 5 4 h a1) fun v6 => Option.bind (pg_rcv 7 h v6 (F_X7_at h v6 a3 (1 : Int32))) fun v7 => Option.bind (pg_gR 5 4 h a1) fun v8 => Option.bind (pg_rcv 7 h v8 (F_X7_at h v8 a3 (4 : Int32))) fun v9 => (if v9 = 0 then Option.bind (pg_gR 5 4 h a1) fun v13 => Option.bind (pg_rcv 7 h v13 (F_X7_at h v13 a3 (2 : Int32))) fun v14 => Option.bind (pg_rcv 4 h a0 (F_X4_addHolder a0 v7 v14 v5 h)) fun v15 => (F_X4_gather_124 (F_X4_gather_23 n) a0 a1 a2 a3 v15) else (if v9 = (1 : Int32) then (if v7 < 0 then (F_X4_gather_124 (F_X4_gather_23 n) a0 a1 a2 a3 h) else (if v7 < (60 : Int32) then Option.bind (pg_gR 4 6 h a0) fun v10 => Option.bind (pg_aI 21 h v10 v7) fun v11 => Option.bind (pg_sI 21 h v10 v7 (v11 ||| v5)) fun v12 => (F_X4_gather_124 (F_X4_gather_23 n) a0 a1 a2 a3 v12) else (F_X4_gather_124 (F_X4_gather_23 n) a0 a1 a2 a3 h))) else (F_X4_gather_124 (F_X4_gather_23 n) a0 a1 a2 a3 h))) else (F_X4_gather_132 pg_fuel a0 a1 a2 (0 : Int32) h))
def F_X4_gather (a0 : Nat) (a1 : Nat) (a2 : Nat) (h : pg_H) : Option pg_H := Option.bind (pg_pI 4 8 h a0 (0 : Int32)) fun v1 => Option.bind (pg_gR 4 4 v1 a0) fun v2 => Option.bind (F_J7_fill_53178 v2 (-1 : Int32) v1) fun v3 => Option.bind (pg_gR 4 6 v3 a0) fun v4 => Option.bind (F_J7_fill_53178 v4 (0 : Int32) v3) fun v5 => (F_X4_gather_23 pg_fuel a0 a1 a2 (0 : Int32) v5)
theorem e_X4_gather_132 (l : Launch) (D : pg_D)   : ∀ (n : Nat) (a0 : Nat) (a1 : Nat) (a2 : Nat) (a3 : Int32) (h : pg_H), pg_EvF l D RX4 cX4_gather 7 none "gather" 4 113 pg_wV (F_X4_gather_132 n a0 a1 a2 a3 h) 132 [(0, pR a0), (1, pR a1), (2, pR a2), (3, pI a3)] [] h := by
  intro n
  induction n with
  | zero => intro a0 a1 a2 a3 h; exact pg_none
  | succ n ih =>
    intro a0 a1 a2 a3 h
    rw [F_X4_gather_132]
    refine pg_iload_n (i := 3) dX4_gather_132 rfl 3 rfl ?_
    refine pg_aload_n (i := 0) dX4_gather_133 rfl 0 rfl ?_
    refine pg_getI dX4_gather_134 fl_RX4_36 rfl (fun v1 => ?_)
    refine pg_icmp_ge (tgt := 188) dX4_gather_137 rfl ?_ ?_
    · exact pg_vret dX4_gather_188 rfl rfl
    · refine pg_aload_n (i := 2) dX4_gather_140 rfl 2 rfl ?_
      refine pg_aload_n (i := 0) dX4_gather_141 rfl 0 rfl ?_
      refine pg_getR dX4_gather_142 fl_RX4_9 rfl (fun v2 => ?_)
      refine pg_iload_n (i := 3) dX4_gather_145 rfl 3 rfl ?_
      refine pg_iaload dX4_gather_146 (fun v3 => ?_)
      refine pg_aload_n (i := 0) dX4_gather_147 rfl 0 rfl ?_
      refine pg_getR dX4_gather_148 fl_RX4_15 rfl (fun v4 => ?_)
      refine pg_iload_n (i := 3) dX4_gather_151 rfl 3 rfl ?_
      refine pg_iaload dX4_gather_152 (fun v5 => ?_)
      refine pg_aload_n (i := 0) dX4_gather_153 rfl 0 rfl ?_
      refine pg_getR dX4_gather_154 fl_RX4_18 rfl (fun v6 => ?_)
      refine pg_iload_n (i := 3) dX4_gather_157 rfl 3 rfl ?_
      refine pg_iaload dX4_gather_158 (fun v7 => ?_)
      refine pg_callS_oI (As := [pI v7]) (rs := [pI v5, pI v3, pR a2]) dX4_gather_159 lk_RX4_65 vy_J6_bitCount_0f7a4 nd_J6_bitCount_0f7a4 (c_J6_bitCount_0f7a4 l D v7 h) rfl rfl (Nat.le_of_ble_eq_true rfl) (by decide) (by decide) (fun v8 => ?_)
      refine pg_callV_wV (As := [pI v3, pI v5, pI v8]) (rs := []) dX4_gather_162 lk_RX4_71 vy_X0_askOfWording nd_X0_askOfWording (c_X0_askOfWording l D a2 v3 v5 v8 h) rfl rfl (Nat.le_of_ble_eq_true rfl) (by decide) (by decide) (fun v9 => ?_)
      refine pg_aload_n (i := 0) dX4_gather_165 rfl 0 rfl ?_
      refine pg_getR dX4_gather_166 fl_RX4_21 rfl (fun v10 => ?_)
      refine pg_iload_n (i := 3) dX4_gather_169 rfl 3 rfl ?_
      refine pg_aload_n (i := 2) dX4_gather_170 rfl 2 rfl ?_
      refine pg_aload_n (i := 1) dX4_gather_171 rfl 1 rfl ?_
      refine pg_callV_oR (As := []) (rs := [pR a2, pI a3, pR v10]) dX4_gather_172 lk_RX4_76 vy_X5_textUsed nd_X5_textUsed (c_X5_textUsed l D v9 a1) rfl rfl (Nat.le_of_ble_eq_true rfl) (by decide) (by decide) (fun v11 => ?_)
      refine pg_iconst dX4_gather_175 ci_0 ?_
      refine pg_bipush dX4_gather_176 cb_10 ?_
      refine pg_callV_wI (As := [pR v11, pI (0 : Int32), pI (10 : Int32)]) (rs := [pI a3, pR v10]) dX4_gather_178 lk_RX4_80 vy_X0_told nd_X0_told (c_X0_told l D a2 v11 (0 : Int32) (10 : Int32) v9) rfl rfl (Nat.le_of_ble_eq_true rfl) (by decide) (by decide) (fun v12 => ?_)
      refine pg_iastore dX4_gather_181 (fun v13 => ?_)
      refine pg_iinc (lv' := [(3, pI (a3 + (1 : Int32))), (0, pR a0), (1, pR a1), (2, pR a2)]) dX4_gather_182 3 rfl ci_1 (by decide) rfl ?_
      refine pg_goto (tgt := 132) dX4_gather_185 rfl ?_
      exact pg_to (ih a0 a1 a2 (a3 + (1 : Int32)) v13) [1, 2, 3, 0] rfl
theorem e_X4_gather_124 (l : Launch) (D : pg_D)  (k23 : Nat → Nat → Nat → Int32 → pg_H → Option pg_H) (hk23 : ∀ (a0 : Nat) (a1 : Nat) (a2 : Nat) (a3 : Int32) (h : pg_H), pg_EvF l D RX4 cX4_gather 7 none "gather" 4 113 pg_wV (k23 a0 a1 a2 a3 h) 23 [(0, pR a0), (1, pR a1), (2, pR a2), (3, pI a3)] [] h) (a0 : Nat) (a1 : Nat) (a2 : Nat) (a3 : Int32) (h : pg_H) : pg_EvF l D RX4 cX4_gather 7 none "gather" 4 113 pg_wV (F_X4_gather_124 k23 a0 a1 a2 a3 h) 124 [(0, pR a0), (1, pR a1), (2, pR a2), (3, pI a3)] [] h := by
  unfold F_X4_gather_124
  refine pg_iinc (lv' := [(3, pI (a3 + (1 : Int32))), (0, pR a0), (1, pR a1), (2, pR a2)]) dX4_gather_124 3 rfl ci_1 (by decide) rfl ?_
  refine pg_goto (tgt := 23) dX4_gather_127 rfl ?_
  exact pg_to (hk23 a0 a1 a2 (a3 + (1 : Int32)) h) [1, 2, 3, 0] rfl
theorem e_X4_gather_23 (l : Launch) (D : pg_D)   : ∀ (n : Nat) (a0 : Nat) (a1 : Nat) (a2 : Nat) (a3 : Int32) (h : pg_H), pg_EvF l D RX4 cX4_gather 7 none "gather" 4 113 pg_wV (F_X4_gather_23 n a0 a1 a2 a3 h) 23 [(0, pR a0), (1, pR a1), (2, pR a2), (3, pI a3)] [] h := by
  intro n
  induction n with
  | zero => intro a0 a1 a2 a3 h; exact pg_none
  | succ n ih =>
    intro a0 a1 a2 a3 h
    rw [F_X4_gather_23]
    refine pg_iload_n (i := 3) dX4_gather_23 rfl 3 rfl ?_
    refine pg_aload_n (i := 1) dX4_gather_24 rfl 1 rfl ?_
    refine pg_getR dX4_gather_25 fl_RX4_46 rfl (fun v1 => ?_)
    refine pg_callV_oI (As := []) (rs := [pI a3]) dX4_gather_28 lk_RX4_52 vy_X7_size nd_X7_size (c_X7_size l D h v1) rfl rfl (Nat.le_of_ble_eq_true rfl) (by decide) (by decide) (fun v2 => ?_)
    refine pg_icmp_ge (tgt := 130) dX4_gather_31 rfl ?_ ?_
    · refine pg_iconst dX4_gather_130 ci_0 ?_
      refine pg_istore_n (i := 3) (lv' := [(3, pI (0 : Int32)), (0, pR a0), (1, pR a1), (2, pR a2)]) dX4_gather_131 rfl (by decide) rfl ?_
      exact pg_to (e_X4_gather_132 l D pg_fuel a0 a1 a2 (0 : Int32) h) [1, 2, 3, 0] rfl
    · refine pg_iconst dX4_gather_34 ci_1 ?_
      refine pg_aload_n (i := 1) dX4_gather_35 rfl 1 rfl ?_
      refine pg_getR dX4_gather_36 fl_RX4_46 rfl (fun v3 => ?_)
      refine pg_iload_n (i := 3) dX4_gather_39 rfl 3 rfl ?_
      refine pg_iconst dX4_gather_40 ci_0 ?_
      refine pg_callV_oI (As := [pI a3, pI (0 : Int32)]) (rs := [pI (1 : Int32)]) dX4_gather_41 lk_RX4_57 vy_X7_at nd_X7_at (c_X7_at l D h v3 a3 (0 : Int32)) rfl rfl (Nat.le_of_ble_eq_true rfl) (by decide) (by decide) (fun v4 => ?_)
      refine pg_ishl dX4_gather_44 ?_
      refine pg_letI (fun v5 => ?_)
      refine pg_istore (lv' := [(4, pI v5), (0, pR a0), (1, pR a1), (2, pR a2), (3, pI a3)]) dX4_gather_45 (by decide) rfl ?_
      refine pg_aload_n (i := 1) dX4_gather_47 rfl 2 rfl ?_
      refine pg_getR dX4_gather_48 fl_RX4_46 rfl (fun v6 => ?_)
      refine pg_iload_n (i := 3) dX4_gather_51 rfl 4 rfl ?_
      refine pg_iconst dX4_gather_52 ci_1 ?_
      refine pg_callV_oI (As := [pI a3, pI (1 : Int32)]) (rs := []) dX4_gather_53 lk_RX4_57 vy_X7_at nd_X7_at (c_X7_at l D h v6 a3 (1 : Int32)) rfl rfl (Nat.le_of_ble_eq_true rfl) (by decide) (by decide) (fun v7 => ?_)
      refine pg_istore (lv' := [(5, pI v7), (4, pI v5), (0, pR a0), (1, pR a1), (2, pR a2), (3, pI a3)]) dX4_gather_56 (by decide) rfl ?_
      refine pg_aload_n (i := 1) dX4_gather_58 rfl 3 rfl ?_
      refine pg_getR dX4_gather_59 fl_RX4_46 rfl (fun v8 => ?_)
      refine pg_iload_n (i := 3) dX4_gather_62 rfl 5 rfl ?_
      refine pg_iconst dX4_gather_63 ci_4 ?_
      refine pg_callV_oI (As := [pI a3, pI (4 : Int32)]) (rs := []) dX4_gather_64 lk_RX4_57 vy_X7_at nd_X7_at (c_X7_at l D h v8 a3 (4 : Int32)) rfl rfl (Nat.le_of_ble_eq_true rfl) (by decide) (by decide) (fun v9 => ?_)
      refine pg_istore (lv' := [(6, pI v9), (5, pI v7), (4, pI v5), (0, pR a0), (1, pR a1), (2, pR a2), (3, pI a3)]) dX4_gather_67 (by decide) rfl ?_
      refine pg_iload dX4_gather_69 0 rfl ?_
      refine pg_if_ne (tgt := 94) dX4_gather_71 rfl ?_ ?_
      · refine pg_iload dX4_gather_94 0 rfl ?_
        refine pg_iconst dX4_gather_96 ci_1 ?_
        refine pg_icmp_ne (tgt := 124) dX4_gather_97 rfl ?_ ?_
        · exact pg_to (e_X4_gather_124 l D (F_X4_gather_23 n) ih a0 a1 a2 a3 h) [3, 4, 5, 6] rfl
        · refine pg_iload dX4_gather_100 1 rfl ?_
          refine pg_if_lt (tgt := 124) dX4_gather_102 rfl ?_ ?_
          · exact pg_to (e_X4_gather_124 l D (F_X4_gather_23 n) ih a0 a1 a2 a3 h) [3, 4, 5, 6] rfl
          · refine pg_iload dX4_gather_105 1 rfl ?_
            refine pg_bipush dX4_gather_107 cb_60 ?_
            refine pg_icmp_ge (tgt := 124) dX4_gather_109 rfl ?_ ?_
            · exact pg_to (e_X4_gather_124 l D (F_X4_gather_23 n) ih a0 a1 a2 a3 h) [3, 4, 5, 6] rfl
            · refine pg_aload_n (i := 0) dX4_gather_112 rfl 3 rfl ?_
              refine pg_getR dX4_gather_113 fl_RX4_30 rfl (fun v10 => ?_)
              refine pg_iload dX4_gather_116 1 rfl ?_
              refine pg_dup2 dX4_gather_118 rfl rfl ?_
              refine pg_iaload dX4_gather_119 (fun v11 => ?_)
              refine pg_iload dX4_gather_120 2 rfl ?_
              refine pg_ior dX4_gather_122 ?_
              refine pg_iastore dX4_gather_123 (fun v12 => ?_)
              exact pg_to (e_X4_gather_124 l D (F_X4_gather_23 n) ih a0 a1 a2 a3 v12) [3, 4, 5, 6] rfl
      · refine pg_aload_n (i := 0) dX4_gather_74 rfl 3 rfl ?_
        refine pg_iload dX4_gather_75 1 rfl ?_
        refine pg_aload_n (i := 1) dX4_gather_77 rfl 4 rfl ?_
        refine pg_getR dX4_gather_78 fl_RX4_46 rfl (fun v13 => ?_)
        refine pg_iload_n (i := 3) dX4_gather_81 rfl 6 rfl ?_
        refine pg_iconst dX4_gather_82 ci_2 ?_
        refine pg_callV_oI (As := [pI a3, pI (2 : Int32)]) (rs := [pI v7, pR a0]) dX4_gather_83 lk_RX4_57 vy_X7_at nd_X7_at (c_X7_at l D h v13 a3 (2 : Int32)) rfl rfl (Nat.le_of_ble_eq_true rfl) (by decide) (by decide) (fun v14 => ?_)
        refine pg_iload dX4_gather_86 2 rfl ?_
        refine pg_callV_wV (As := [pI v7, pI v14, pI v5]) (rs := []) dX4_gather_88 lk_RX4_61 vy_X4_addHolder nd_X4_addHolder (c_X4_addHolder l D a0 v7 v14 v5 h) rfl rfl (Nat.le_of_ble_eq_true rfl) (by decide) (by decide) (fun v15 => ?_)
        refine pg_goto (tgt := 124) dX4_gather_91 rfl ?_
        exact pg_to (e_X4_gather_124 l D (F_X4_gather_23 n) ih a0 a1 a2 a3 v15) [3, 4, 5, 6] rfl
theorem e_X4_gather (l : Launch) (D : pg_D)  (a0 : Nat) (a1 : Nat) (a2 : Nat) (h : pg_H) : pg_EvF l D RX4 cX4_gather 7 none "gather" 4 113 pg_wV (F_X4_gather a0 a1 a2 h) 0 [(0, pR a0), (1, pR a1), (2, pR a2)] [] h := by
  unfold F_X4_gather
  refine pg_aload_n (i := 0) dX4_gather_0 rfl 0 rfl ?_
  refine pg_iconst dX4_gather_1 ci_0 ?_
  refine pg_putI dX4_gather_2 fl_RX4_36 (fun z => by cases z) (fun v1 => ?_)
  refine pg_aload_n (i := 0) dX4_gather_5 rfl 0 rfl ?_
  refine pg_getR dX4_gather_6 fl_RX4_24 rfl (fun v2 => ?_)
  refine pg_iconst dX4_gather_9 ci_m1 ?_
  refine pg_callS_wV (As := [pR v2, pI (-1 : Int32)]) (rs := []) dX4_gather_10 lk_RX4_40 vy_J7_fill_53178 nd_J7_fill_53178 (c_J7_fill_53178 l D v2 (-1 : Int32) v1) rfl rfl (Nat.le_of_ble_eq_true rfl) (by decide) (by decide) (fun v3 => ?_)
  refine pg_aload_n (i := 0) dX4_gather_13 rfl 0 rfl ?_
  refine pg_getR dX4_gather_14 fl_RX4_30 rfl (fun v4 => ?_)
  refine pg_iconst dX4_gather_17 ci_0 ?_
  refine pg_callS_wV (As := [pR v4, pI (0 : Int32)]) (rs := []) dX4_gather_18 lk_RX4_40 vy_J7_fill_53178 nd_J7_fill_53178 (c_J7_fill_53178 l D v4 (0 : Int32) v3) rfl rfl (Nat.le_of_ble_eq_true rfl) (by decide) (by decide) (fun v5 => ?_)
  refine pg_iconst dX4_gather_21 ci_0 ?_
  refine pg_istore_n (i := 3) (lv' := [(3, pI (0 : Int32)), (0, pR a0), (1, pR a1), (2, pR a2)]) dX4_gather_22 rfl (by decide) rfl ?_
  exact pg_to (e_X4_gather_23 l D pg_fuel a0 a1 a2 (0 : Int32) v5) [1, 2, 3, 0] rfl
theorem c_X4_gather (l : Launch) (D : pg_D) (a0 : Nat) (a1 : Nat) (a2 : Nat) (h : pg_H) : ∀ x, F_X4_gather a0 a1 a2 h = some x → pg_Ct l D yX4_gather cX4_gather 7 none 4 113 [pR a0, pR a1, pR a2] h (pg_wV x) :=
  pg_Ct.of pn_RX4 (Nat.le_of_ble_eq_true rfl) (e_X4_gather l D a0 a1 a2 h)
def F_X4_holdersOf (h : pg_H) (a0 : Nat) (a1 : Int32) (a2 : Int32) : Option Int32 := Option.bind (pg_rcv 4 h a0 (F_X4_find h a0 a1 a2)) fun v1 => (if v1 = (-1 : Int32) then (some (0 : Int32)) else Option.bind (pg_gR 4 2 h a0) fun v2 => Option.bind (pg_aI 21 h v2 v1) fun v3 => (some v3))
theorem e_X4_holdersOf (l : Launch) (D : pg_D)  (h : pg_H) (a0 : Nat) (a1 : Int32) (a2 : Int32) : pg_EvF l D RX4 cX4_holdersOf 4 (some FieldType.int) "holdersOf" 1 24 (pg_oI h) (F_X4_holdersOf h a0 a1 a2) 0 [(0, pR a0), (1, pI a1), (2, pI a2)] [] h := by
  unfold F_X4_holdersOf
  refine pg_aload_n (i := 0) dX4_holdersOf_0 rfl 0 rfl ?_
  refine pg_iload_n (i := 1) dX4_holdersOf_1 rfl 1 rfl ?_
  refine pg_iload_n (i := 2) dX4_holdersOf_2 rfl 2 rfl ?_
  refine pg_callV_oI (As := [pI a1, pI a2]) (rs := []) dX4_holdersOf_3 lk_RX4_84 vy_X4_find nd_X4_find (c_X4_find l D h a0 a1 a2) rfl rfl (Nat.le_of_ble_eq_true rfl) (by decide) (by decide) (fun v1 => ?_)
  refine pg_istore_n (i := 3) (lv' := [(3, pI v1), (0, pR a0), (1, pI a1), (2, pI a2)]) dX4_holdersOf_6 rfl (by decide) rfl ?_
  refine pg_iload_n (i := 3) dX4_holdersOf_7 rfl 0 rfl ?_
  refine pg_iconst dX4_holdersOf_8 ci_m1 ?_
  refine pg_icmp_ne (tgt := 16) dX4_holdersOf_9 rfl ?_ ?_
  · refine pg_aload_n (i := 0) dX4_holdersOf_16 rfl 1 rfl ?_
    refine pg_getR dX4_holdersOf_17 fl_RX4_18 rfl (fun v2 => ?_)
    refine pg_iload_n (i := 3) dX4_holdersOf_20 rfl 0 rfl ?_
    refine pg_iaload dX4_holdersOf_21 (fun v3 => ?_)
    exact pg_iret dX4_holdersOf_22 rfl rfl
  · refine pg_iconst dX4_holdersOf_12 ci_0 ?_
    refine pg_goto (tgt := 22) dX4_holdersOf_13 rfl ?_
    exact pg_iret dX4_holdersOf_22 rfl rfl
theorem c_X4_holdersOf (l : Launch) (D : pg_D) (h : pg_H) (a0 : Nat) (a1 : Int32) (a2 : Int32)  : ∀ x, F_X4_holdersOf h a0 a1 a2 = some x → pg_Ct l D yX4_holdersOf cX4_holdersOf 4 (some FieldType.int) 1 24 [pR a0, pI a1, pI a2] h (pg_oI h x) :=
  pg_Ct.of pn_RX4 (Nat.le_of_ble_eq_true rfl) (e_X4_holdersOf l D h a0 a1 a2)
def F_X4_sharedOf (h : pg_H) (a0 : Nat) (a1 : Nat) (a2 : Int32) : Option Int32 := Option.bind (pg_gR 5 4 h a1) fun v1 => Option.bind (pg_rcv 7 h v1 (F_X7_at h v1 a2 (4 : Int32))) fun v2 => (if v2 = 0 then Option.bind (pg_gR 5 4 h a1) fun v3 => Option.bind (pg_rcv 7 h v3 (F_X7_at h v3 a2 (1 : Int32))) fun v4 => Option.bind (pg_gR 5 4 h a1) fun v5 => Option.bind (pg_rcv 7 h v5 (F_X7_at h v5 a2 (2 : Int32))) fun v6 => Option.bind (pg_rcv 4 h a0 (F_X4_holdersOf h a0 v4 v6)) fun v7 => Option.bind (F_J6_bitCount_0f7a4 v7) fun v8 => (some v8) else (some (0 : Int32)))
theorem e_X4_sharedOf (l : Launch) (D : pg_D)  (h : pg_H) (a0 : Nat) (a1 : Nat) (a2 : Int32) : pg_EvF l D RX4 cX4_sharedOf 4 (some FieldType.int) "sharedOf" 2 47 (pg_oI h) (F_X4_sharedOf h a0 a1 a2) 0 [(0, pR a0), (1, pR a1), (2, pI a2)] [] h := by
  unfold F_X4_sharedOf
  refine pg_aload_n (i := 1) dX4_sharedOf_0 rfl 1 rfl ?_
  refine pg_getR dX4_sharedOf_1 fl_RX4_46 rfl (fun v1 => ?_)
  refine pg_iload_n (i := 2) dX4_sharedOf_4 rfl 2 rfl ?_
  refine pg_iconst dX4_sharedOf_5 ci_4 ?_
  refine pg_callV_oI (As := [pI a2, pI (4 : Int32)]) (rs := []) dX4_sharedOf_6 lk_RX4_57 vy_X7_at nd_X7_at (c_X7_at l D h v1 a2 (4 : Int32)) rfl rfl (Nat.le_of_ble_eq_true rfl) (by decide) (by decide) (fun v2 => ?_)
  refine pg_if_eq (tgt := 14) dX4_sharedOf_9 rfl ?_ ?_
  · refine pg_aload_n (i := 1) dX4_sharedOf_14 rfl 1 rfl ?_
    refine pg_getR dX4_sharedOf_15 fl_RX4_46 rfl (fun v3 => ?_)
    refine pg_iload_n (i := 2) dX4_sharedOf_18 rfl 2 rfl ?_
    refine pg_iconst dX4_sharedOf_19 ci_1 ?_
    refine pg_callV_oI (As := [pI a2, pI (1 : Int32)]) (rs := []) dX4_sharedOf_20 lk_RX4_57 vy_X7_at nd_X7_at (c_X7_at l D h v3 a2 (1 : Int32)) rfl rfl (Nat.le_of_ble_eq_true rfl) (by decide) (by decide) (fun v4 => ?_)
    refine pg_istore_n (i := 3) (lv' := [(3, pI v4), (0, pR a0), (1, pR a1), (2, pI a2)]) dX4_sharedOf_23 rfl (by decide) rfl ?_
    refine pg_aload_n (i := 0) dX4_sharedOf_24 rfl 1 rfl ?_
    refine pg_iload_n (i := 3) dX4_sharedOf_25 rfl 0 rfl ?_
    refine pg_aload_n (i := 1) dX4_sharedOf_26 rfl 2 rfl ?_
    refine pg_getR dX4_sharedOf_27 fl_RX4_46 rfl (fun v5 => ?_)
    refine pg_iload_n (i := 2) dX4_sharedOf_30 rfl 3 rfl ?_
    refine pg_iconst dX4_sharedOf_31 ci_2 ?_
    refine pg_callV_oI (As := [pI a2, pI (2 : Int32)]) (rs := [pI v4, pR a0]) dX4_sharedOf_32 lk_RX4_57 vy_X7_at nd_X7_at (c_X7_at l D h v5 a2 (2 : Int32)) rfl rfl (Nat.le_of_ble_eq_true rfl) (by decide) (by decide) (fun v6 => ?_)
    refine pg_callV_oI (As := [pI v4, pI v6]) (rs := []) dX4_sharedOf_35 lk_RX4_87 vy_X4_holdersOf nd_X4_holdersOf (c_X4_holdersOf l D h a0 v4 v6) rfl rfl (Nat.le_of_ble_eq_true rfl) (by decide) (by decide) (fun v7 => ?_)
    refine pg_callS_oI (As := [pI v7]) (rs := []) dX4_sharedOf_38 lk_RX4_65 vy_J6_bitCount_0f7a4 nd_J6_bitCount_0f7a4 (c_J6_bitCount_0f7a4 l D v7 h) rfl rfl (Nat.le_of_ble_eq_true rfl) (by decide) (by decide) (fun v8 => ?_)
    exact pg_iret dX4_sharedOf_41 rfl rfl
  · refine pg_iconst dX4_sharedOf_12 ci_0 ?_
    exact pg_iret dX4_sharedOf_13 rfl rfl
theorem c_X4_sharedOf (l : Launch) (D : pg_D) (h : pg_H) (a0 : Nat) (a1 : Nat) (a2 : Int32)  : ∀ x, F_X4_sharedOf h a0 a1 a2 = some x → pg_Ct l D yX4_sharedOf cX4_sharedOf 4 (some FieldType.int) 2 47 [pR a0, pR a1, pI a2] h (pg_oI h x) :=
  pg_Ct.of pn_RX4 (Nat.le_of_ble_eq_true rfl) (e_X4_sharedOf l D h a0 a1 a2)
def F_X4_ownCost_5 (h : pg_H) : Nat → Nat → Nat → Int32 → Int32 → Int32 → Option Int32
  | 0 => fun _ _ _ _ _ => none
  | n + 1 => fun a0 a1 a2 a3 a4 => Option.bind (pg_gI 4 8 h a0) fun v1 => (if a4 < v1 then Option.bind (pg_gR 4 2 h a0) fun v4 => Option.bind (pg_aI 21 h v4 a4) fun v5 => Option.bind (pg_gR 4 3 h a0) fun v6 => Option.bind (pg_aI 21 h v6 a4) fun v7 => pg_let (a3 + (((v5 >>> (a2 &&& 31)) &&& (1 : Int32)) * v7)) fun v8 => (F_X4_ownCost_5 h n a0 a1 a2 v8 (a4 + (1 : Int32))) else Option.bind (pg_gR 5 5 h a1) fun v2 => Option.bind (pg_aI 21 h v2 (2 : Int32)) fun v3 => (some (a3 * v3)))
def F_X4_ownCost (h : pg_H) (a0 : Nat) (a1 : Nat) (a2 : Int32) : Option Int32 := (F_X4_ownCost_5 h pg_fuel a0 a1 a2 (0 : Int32) (0 : Int32))
theorem e_X4_ownCost_5 (l : Launch) (D : pg_D)  (h : pg_H) : ∀ (n : Nat) (a0 : Nat) (a1 : Nat) (a2 : Int32) (a3 : Int32) (a4 : Int32), pg_EvF l D RX4 cX4_ownCost 5 (some FieldType.int) "ownCost" 0 0 (pg_oI h) (F_X4_ownCost_5 h n a0 a1 a2 a3 a4) 5 [(0, pR a0), (1, pR a1), (2, pI a2), (3, pI a3), (4, pI a4)] [] h := by
  intro n
  induction n with
  | zero => intro a0 a1 a2 a3 a4; exact pg_none
  | succ n ih =>
    intro a0 a1 a2 a3 a4
    rw [F_X4_ownCost_5]
    refine pg_iload dX4_ownCost_5 4 rfl ?_
    refine pg_aload_n (i := 0) dX4_ownCost_7 rfl 0 rfl ?_
    refine pg_getI dX4_ownCost_8 fl_RX4_36 rfl (fun v1 => ?_)
    refine pg_icmp_ge (tgt := 42) dX4_ownCost_11 rfl ?_ ?_
    · refine pg_iload_n (i := 3) dX4_ownCost_42 rfl 3 rfl ?_
      refine pg_aload_n (i := 1) dX4_ownCost_43 rfl 1 rfl ?_
      refine pg_getR dX4_ownCost_44 fl_RX4_90 rfl (fun v2 => ?_)
      refine pg_iconst dX4_ownCost_47 ci_2 ?_
      refine pg_iaload dX4_ownCost_48 (fun v3 => ?_)
      refine pg_imul dX4_ownCost_49 ?_
      exact pg_iret dX4_ownCost_50 rfl rfl
    · refine pg_iload_n (i := 3) dX4_ownCost_14 rfl 3 rfl ?_
      refine pg_aload_n (i := 0) dX4_ownCost_15 rfl 0 rfl ?_
      refine pg_getR dX4_ownCost_16 fl_RX4_18 rfl (fun v4 => ?_)
      refine pg_iload dX4_ownCost_19 4 rfl ?_
      refine pg_iaload dX4_ownCost_21 (fun v5 => ?_)
      refine pg_iload_n (i := 2) dX4_ownCost_22 rfl 2 rfl ?_
      refine pg_ishr dX4_ownCost_23 ?_
      refine pg_iconst dX4_ownCost_24 ci_1 ?_
      refine pg_iand dX4_ownCost_25 ?_
      refine pg_aload_n (i := 0) dX4_ownCost_26 rfl 0 rfl ?_
      refine pg_getR dX4_ownCost_27 fl_RX4_21 rfl (fun v6 => ?_)
      refine pg_iload dX4_ownCost_30 4 rfl ?_
      refine pg_iaload dX4_ownCost_32 (fun v7 => ?_)
      refine pg_imul dX4_ownCost_33 ?_
      refine pg_iadd dX4_ownCost_34 ?_
      refine pg_letI (fun v8 => ?_)
      refine pg_istore_n (i := 3) (lv' := [(3, pI v8), (0, pR a0), (1, pR a1), (2, pI a2), (4, pI a4)]) dX4_ownCost_35 rfl (by decide) rfl ?_
      refine pg_iinc (lv' := [(4, pI (a4 + (1 : Int32))), (3, pI v8), (0, pR a0), (1, pR a1), (2, pI a2)]) dX4_ownCost_36 4 rfl ci_1 (by decide) rfl ?_
      refine pg_goto (tgt := 5) dX4_ownCost_39 rfl ?_
      exact pg_to (ih a0 a1 a2 v8 (a4 + (1 : Int32))) [2, 3, 4, 1, 0] rfl
theorem e_X4_ownCost (l : Launch) (D : pg_D)  (h : pg_H) (a0 : Nat) (a1 : Nat) (a2 : Int32) : pg_EvF l D RX4 cX4_ownCost 5 (some FieldType.int) "ownCost" 0 0 (pg_oI h) (F_X4_ownCost h a0 a1 a2) 0 [(0, pR a0), (1, pR a1), (2, pI a2)] [] h := by
  unfold F_X4_ownCost
  refine pg_iconst dX4_ownCost_0 ci_0 ?_
  refine pg_istore_n (i := 3) (lv' := [(3, pI (0 : Int32)), (0, pR a0), (1, pR a1), (2, pI a2)]) dX4_ownCost_1 rfl (by decide) rfl ?_
  refine pg_iconst dX4_ownCost_2 ci_0 ?_
  refine pg_istore (lv' := [(4, pI (0 : Int32)), (3, pI (0 : Int32)), (0, pR a0), (1, pR a1), (2, pI a2)]) dX4_ownCost_3 (by decide) rfl ?_
  exact pg_to (e_X4_ownCost_5 l D h pg_fuel a0 a1 a2 (0 : Int32) (0 : Int32)) [2, 3, 4, 1, 0] rfl
theorem c_X4_ownCost (l : Launch) (D : pg_D) (h : pg_H) (a0 : Nat) (a1 : Nat) (a2 : Int32)  : ∀ x, F_X4_ownCost h a0 a1 a2 = some x → pg_Ct l D yX4_ownCost cX4_ownCost 5 (some FieldType.int) 0 0 [pR a0, pR a1, pI a2] h (pg_oI h x) :=
  pg_Ct.of pn_RX4 (Nat.le_of_ble_eq_true rfl) (e_X4_ownCost l D h a0 a1 a2)
def F_X4_costFrom_137 (h : pg_H) (k9 : Nat → Nat → Int32 → Int32 → Int32 → Int32 → Int32 → Option Int32) (a0 : Nat) (a1 : Nat) (a2 : Int32) (a3 : Int32) (a4 : Int32) (a5 : Int32) (a6 : Int32) : Option Int32 := (k9 a0 a1 a2 a3 a4 a5 (a6 + (1 : Int32)))
def F_X4_costFrom_106 (h : pg_H) (k9 : Nat → Nat → Int32 → Int32 → Int32 → Int32 → Int32 → Option Int32) (a0 : Nat) (a1 : Nat) (a2 : Int32) (a3 : Int32) (a4 : Int32) (a5 : Int32) (a6 : Int32) (a7 : Int32) (a8 : Int32) (a9 : Int32) : Option Int32 := (if a8 = 0 then (F_X4_costFrom_137 h k9 a0 a1 a2 a3 a4 a5 a6) else (if a7 = 0 then (if ((a9 >>> (a3 &&& 31)) &&& (1 : Int32)) = 0 then Option.bind (pg_gR 4 3 h a0) fun v1 => Option.bind (pg_aI 21 h v1 a6) fun v2 => pg_let (a5 + v2) fun v3 => (F_X4_costFrom_137 h k9 a0 a1 a2 a3 a4 v3 a6) else (F_X4_costFrom_137 h k9 a0 a1 a2 a3 a4 a5 a6)) else (F_X4_costFrom_137 h k9 a0 a1 a2 a3 a4 a5 a6)))
def F_X4_costFrom_57 (h : pg_H) (k9 : Nat → Nat → Int32 → Int32 → Int32 → Int32 → Int32 → Option Int32) (a0 : Nat) (a1 : Nat) (a2 : Int32) (a3 : Int32) (a4 : Int32) (a5 : Int32) (a6 : Int32) (a7 : Int32) (s0 : Int32) : Option Int32 := Option.bind (pg_gR 4 6 h a0) fun v1 => Option.bind (pg_gR 4 0 h a0) fun v2 => Option.bind (pg_aI 21 h v2 a6) fun v3 => Option.bind (pg_aI 21 h v1 v3) fun v4 => (if a7 = 0 then (F_X4_costFrom_106 h k9 a0 a1 a2 a3 a4 a5 a6 a7 s0 v4) else (if s0 = 0 then (if (v4 &&& a2) = a2 then (F_X4_costFrom_106 h k9 a0 a1 a2 a3 a4 a5 a6 a7 s0 v4) else Option.bind (pg_gR 4 3 h a0) fun v5 => Option.bind (pg_aI 21 h v5 a6) fun v6 => pg_let (a4 + v6) fun v7 => (F_X4_costFrom_137 h k9 a0 a1 a2 a3 v7 a5 a6)) else (F_X4_costFrom_106 h k9 a0 a1 a2 a3 a4 a5 a6 a7 s0 v4)))
def F_X4_costFrom_38 (h : pg_H) (k9 : Nat → Nat → Int32 → Int32 → Int32 → Int32 → Int32 → Option Int32) (a0 : Nat) (a1 : Nat) (a2 : Int32) (a3 : Int32) (a4 : Int32) (a5 : Int32) (a6 : Int32) (s0 : Int32) : Option Int32 := Option.bind (pg_gR 4 2 h a0) fun v1 => Option.bind (pg_aI 21 h v1 a6) fun v2 => (if (v2 &&& a2) = 0 then (F_X4_costFrom_57 h k9 a0 a1 a2 a3 a4 a5 a6 s0 (0 : Int32)) else (F_X4_costFrom_57 h k9 a0 a1 a2 a3 a4 a5 a6 s0 (1 : Int32)))
def F_X4_costFrom_9 (h : pg_H) : Nat → Nat → Nat → Int32 → Int32 → Int32 → Int32 → Int32 → Option Int32
  | 0 => fun _ _ _ _ _ _ _ => none
  | n + 1 => fun a0 a1 a2 a3 a4 a5 a6 => Option.bind (pg_gI 4 8 h a0) fun v1 => (if a6 < v1 then Option.bind (pg_gR 4 2 h a0) fun v6 => Option.bind (pg_aI 21 h v6 a6) fun v7 => (if ((v7 >>> (a3 &&& 31)) &&& (1 : Int32)) = (1 : Int32) then (F_X4_costFrom_38 h (F_X4_costFrom_9 h n) a0 a1 a2 a3 a4 a5 a6 (1 : Int32)) else (F_X4_costFrom_38 h (F_X4_costFrom_9 h n) a0 a1 a2 a3 a4 a5 a6 (0 : Int32))) else Option.bind (pg_gR 5 5 h a1) fun v2 => Option.bind (pg_aI 21 h v2 (0 : Int32)) fun v3 => Option.bind (pg_gR 5 5 h a1) fun v4 => Option.bind (pg_aI 21 h v4 (1 : Int32)) fun v5 => (some ((v3 * a4) + (v5 * a5))))
def F_X4_costFrom (h : pg_H) (a0 : Nat) (a1 : Nat) (a2 : Int32) (a3 : Int32) : Option Int32 := (F_X4_costFrom_9 h pg_fuel a0 a1 a2 a3 (0 : Int32) (0 : Int32) (0 : Int32))
theorem e_X4_costFrom_137 (l : Launch) (D : pg_D)  (h : pg_H) (k9 : Nat → Nat → Int32 → Int32 → Int32 → Int32 → Int32 → Option Int32) (hk9 : ∀ (a0 : Nat) (a1 : Nat) (a2 : Int32) (a3 : Int32) (a4 : Int32) (a5 : Int32) (a6 : Int32), pg_EvF l D RX4 cX4_costFrom 10 (some FieldType.int) "costFrom" 0 0 (pg_oI h) (k9 a0 a1 a2 a3 a4 a5 a6) 9 [(0, pR a0), (1, pR a1), (2, pI a2), (3, pI a3), (4, pI a4), (5, pI a5), (6, pI a6)] [] h) (a0 : Nat) (a1 : Nat) (a2 : Int32) (a3 : Int32) (a4 : Int32) (a5 : Int32) (a6 : Int32) : pg_EvF l D RX4 cX4_costFrom 10 (some FieldType.int) "costFrom" 0 0 (pg_oI h) (F_X4_costFrom_137 h k9 a0 a1 a2 a3 a4 a5 a6) 137 [(0, pR a0), (1, pR a1), (2, pI a2), (3, pI a3), (4, pI a4), (5, pI a5), (6, pI a6)] [] h := by
  unfold F_X4_costFrom_137
  refine pg_iinc (lv' := [(6, pI (a6 + (1 : Int32))), (0, pR a0), (1, pR a1), (2, pI a2), (3, pI a3), (4, pI a4), (5, pI a5)]) dX4_costFrom_137 6 rfl ci_1 (by decide) rfl ?_
  refine pg_goto (tgt := 9) dX4_costFrom_140 rfl ?_
  exact pg_to (hk9 a0 a1 a2 a3 a4 a5 (a6 + (1 : Int32))) [1, 2, 3, 4, 5, 6, 0] rfl
theorem e_X4_costFrom_106 (l : Launch) (D : pg_D)  (h : pg_H) (k9 : Nat → Nat → Int32 → Int32 → Int32 → Int32 → Int32 → Option Int32) (hk9 : ∀ (a0 : Nat) (a1 : Nat) (a2 : Int32) (a3 : Int32) (a4 : Int32) (a5 : Int32) (a6 : Int32), pg_EvF l D RX4 cX4_costFrom 10 (some FieldType.int) "costFrom" 0 0 (pg_oI h) (k9 a0 a1 a2 a3 a4 a5 a6) 9 [(0, pR a0), (1, pR a1), (2, pI a2), (3, pI a3), (4, pI a4), (5, pI a5), (6, pI a6)] [] h) (a0 : Nat) (a1 : Nat) (a2 : Int32) (a3 : Int32) (a4 : Int32) (a5 : Int32) (a6 : Int32) (a7 : Int32) (a8 : Int32) (a9 : Int32) : pg_EvF l D RX4 cX4_costFrom 10 (some FieldType.int) "costFrom" 0 0 (pg_oI h) (F_X4_costFrom_106 h k9 a0 a1 a2 a3 a4 a5 a6 a7 a8 a9) 106 [(0, pR a0), (1, pR a1), (2, pI a2), (3, pI a3), (4, pI a4), (5, pI a5), (6, pI a6), (7, pI a7), (8, pI a8), (9, pI a9)] [] h := by
  unfold F_X4_costFrom_106
  refine pg_iload dX4_costFrom_106 8 rfl ?_
  refine pg_if_eq (tgt := 137) dX4_costFrom_108 rfl ?_ ?_
  · exact pg_to (e_X4_costFrom_137 l D h k9 hk9 a0 a1 a2 a3 a4 a5 a6) [0, 1, 2, 3, 4, 5, 6] rfl
  · refine pg_iload dX4_costFrom_111 7 rfl ?_
    refine pg_if_ne (tgt := 137) dX4_costFrom_113 rfl ?_ ?_
    · exact pg_to (e_X4_costFrom_137 l D h k9 hk9 a0 a1 a2 a3 a4 a5 a6) [0, 1, 2, 3, 4, 5, 6] rfl
    · refine pg_iload dX4_costFrom_116 9 rfl ?_
      refine pg_iload_n (i := 3) dX4_costFrom_118 rfl 3 rfl ?_
      refine pg_ishr dX4_costFrom_119 ?_
      refine pg_iconst dX4_costFrom_120 ci_1 ?_
      refine pg_iand dX4_costFrom_121 ?_
      refine pg_if_ne (tgt := 137) dX4_costFrom_122 rfl ?_ ?_
      · exact pg_to (e_X4_costFrom_137 l D h k9 hk9 a0 a1 a2 a3 a4 a5 a6) [0, 1, 2, 3, 4, 5, 6] rfl
      · refine pg_iload dX4_costFrom_125 5 rfl ?_
        refine pg_aload_n (i := 0) dX4_costFrom_127 rfl 0 rfl ?_
        refine pg_getR dX4_costFrom_128 fl_RX4_21 rfl (fun v1 => ?_)
        refine pg_iload dX4_costFrom_131 6 rfl ?_
        refine pg_iaload dX4_costFrom_133 (fun v2 => ?_)
        refine pg_iadd dX4_costFrom_134 ?_
        refine pg_letI (fun v3 => ?_)
        refine pg_istore (lv' := [(5, pI v3), (0, pR a0), (1, pR a1), (2, pI a2), (3, pI a3), (4, pI a4), (6, pI a6), (7, pI a7), (8, pI a8), (9, pI a9)]) dX4_costFrom_135 (by decide) rfl ?_
        exact pg_to (e_X4_costFrom_137 l D h k9 hk9 a0 a1 a2 a3 a4 v3 a6) [1, 2, 3, 4, 5, 0, 6] rfl
theorem e_X4_costFrom_57 (l : Launch) (D : pg_D)  (h : pg_H) (k9 : Nat → Nat → Int32 → Int32 → Int32 → Int32 → Int32 → Option Int32) (hk9 : ∀ (a0 : Nat) (a1 : Nat) (a2 : Int32) (a3 : Int32) (a4 : Int32) (a5 : Int32) (a6 : Int32), pg_EvF l D RX4 cX4_costFrom 10 (some FieldType.int) "costFrom" 0 0 (pg_oI h) (k9 a0 a1 a2 a3 a4 a5 a6) 9 [(0, pR a0), (1, pR a1), (2, pI a2), (3, pI a3), (4, pI a4), (5, pI a5), (6, pI a6)] [] h) (a0 : Nat) (a1 : Nat) (a2 : Int32) (a3 : Int32) (a4 : Int32) (a5 : Int32) (a6 : Int32) (a7 : Int32) (s0 : Int32) : pg_EvF l D RX4 cX4_costFrom 10 (some FieldType.int) "costFrom" 0 0 (pg_oI h) (F_X4_costFrom_57 h k9 a0 a1 a2 a3 a4 a5 a6 a7 s0) 57 [(0, pR a0), (1, pR a1), (2, pI a2), (3, pI a3), (4, pI a4), (5, pI a5), (6, pI a6), (7, pI a7)] [pI s0] h := by
  unfold F_X4_costFrom_57
  refine pg_istore (lv' := [(8, pI s0), (0, pR a0), (1, pR a1), (2, pI a2), (3, pI a3), (4, pI a4), (5, pI a5), (6, pI a6), (7, pI a7)]) dX4_costFrom_57 (by decide) rfl ?_
  refine pg_aload_n (i := 0) dX4_costFrom_59 rfl 1 rfl ?_
  refine pg_getR dX4_costFrom_60 fl_RX4_30 rfl (fun v1 => ?_)
  refine pg_aload_n (i := 0) dX4_costFrom_63 rfl 1 rfl ?_
  refine pg_getR dX4_costFrom_64 fl_RX4_9 rfl (fun v2 => ?_)
  refine pg_iload dX4_costFrom_67 7 rfl ?_
  refine pg_iaload dX4_costFrom_69 (fun v3 => ?_)
  refine pg_iaload dX4_costFrom_70 (fun v4 => ?_)
  refine pg_istore (lv' := [(9, pI v4), (8, pI s0), (0, pR a0), (1, pR a1), (2, pI a2), (3, pI a3), (4, pI a4), (5, pI a5), (6, pI a6), (7, pI a7)]) dX4_costFrom_71 (by decide) rfl ?_
  refine pg_iload dX4_costFrom_73 9 rfl ?_
  refine pg_if_eq (tgt := 106) dX4_costFrom_75 rfl ?_ ?_
  · exact pg_to (e_X4_costFrom_106 l D h k9 hk9 a0 a1 a2 a3 a4 a5 a6 a7 s0 v4) [2, 3, 4, 5, 6, 7, 8, 9, 1, 0] rfl
  · refine pg_iload dX4_costFrom_78 1 rfl ?_
    refine pg_if_ne (tgt := 106) dX4_costFrom_80 rfl ?_ ?_
    · exact pg_to (e_X4_costFrom_106 l D h k9 hk9 a0 a1 a2 a3 a4 a5 a6 a7 s0 v4) [2, 3, 4, 5, 6, 7, 8, 9, 1, 0] rfl
    · refine pg_iload dX4_costFrom_83 0 rfl ?_
      refine pg_iload_n (i := 2) dX4_costFrom_85 rfl 4 rfl ?_
      refine pg_iand dX4_costFrom_86 ?_
      refine pg_iload_n (i := 2) dX4_costFrom_87 rfl 4 rfl ?_
      refine pg_icmp_eq (tgt := 106) dX4_costFrom_88 rfl ?_ ?_
      · exact pg_to (e_X4_costFrom_106 l D h k9 hk9 a0 a1 a2 a3 a4 a5 a6 a7 s0 v4) [2, 3, 4, 5, 6, 7, 8, 9, 1, 0] rfl
      · refine pg_iload dX4_costFrom_91 6 rfl ?_
        refine pg_aload_n (i := 0) dX4_costFrom_93 rfl 2 rfl ?_
        refine pg_getR dX4_costFrom_94 fl_RX4_21 rfl (fun v5 => ?_)
        refine pg_iload dX4_costFrom_97 8 rfl ?_
        refine pg_iaload dX4_costFrom_99 (fun v6 => ?_)
        refine pg_iadd dX4_costFrom_100 ?_
        refine pg_letI (fun v7 => ?_)
        refine pg_istore (lv' := [(4, pI v7), (9, pI v4), (8, pI s0), (0, pR a0), (1, pR a1), (2, pI a2), (3, pI a3), (5, pI a5), (6, pI a6), (7, pI a7)]) dX4_costFrom_101 (by decide) rfl ?_
        refine pg_goto (tgt := 137) dX4_costFrom_103 rfl ?_
        exact pg_to (e_X4_costFrom_137 l D h k9 hk9 a0 a1 a2 a3 v7 a5 a6) [3, 4, 5, 6, 0, 7, 8] rfl
theorem e_X4_costFrom_38 (l : Launch) (D : pg_D)  (h : pg_H) (k9 : Nat → Nat → Int32 → Int32 → Int32 → Int32 → Int32 → Option Int32) (hk9 : ∀ (a0 : Nat) (a1 : Nat) (a2 : Int32) (a3 : Int32) (a4 : Int32) (a5 : Int32) (a6 : Int32), pg_EvF l D RX4 cX4_costFrom 10 (some FieldType.int) "costFrom" 0 0 (pg_oI h) (k9 a0 a1 a2 a3 a4 a5 a6) 9 [(0, pR a0), (1, pR a1), (2, pI a2), (3, pI a3), (4, pI a4), (5, pI a5), (6, pI a6)] [] h) (a0 : Nat) (a1 : Nat) (a2 : Int32) (a3 : Int32) (a4 : Int32) (a5 : Int32) (a6 : Int32) (s0 : Int32) : pg_EvF l D RX4 cX4_costFrom 10 (some FieldType.int) "costFrom" 0 0 (pg_oI h) (F_X4_costFrom_38 h k9 a0 a1 a2 a3 a4 a5 a6 s0) 38 [(0, pR a0), (1, pR a1), (2, pI a2), (3, pI a3), (4, pI a4), (5, pI a5), (6, pI a6)] [pI s0] h := by
  unfold F_X4_costFrom_38
  refine pg_istore (lv' := [(7, pI s0), (0, pR a0), (1, pR a1), (2, pI a2), (3, pI a3), (4, pI a4), (5, pI a5), (6, pI a6)]) dX4_costFrom_38 (by decide) rfl ?_
  refine pg_aload_n (i := 0) dX4_costFrom_40 rfl 1 rfl ?_
  refine pg_getR dX4_costFrom_41 fl_RX4_18 rfl (fun v1 => ?_)
  refine pg_iload dX4_costFrom_44 7 rfl ?_
  refine pg_iaload dX4_costFrom_46 (fun v2 => ?_)
  refine pg_iload_n (i := 2) dX4_costFrom_47 rfl 3 rfl ?_
  refine pg_iand dX4_costFrom_48 ?_
  refine pg_if_eq (tgt := 56) dX4_costFrom_49 rfl ?_ ?_
  · refine pg_iconst dX4_costFrom_56 ci_0 ?_
    exact pg_to (e_X4_costFrom_57 l D h k9 hk9 a0 a1 a2 a3 a4 a5 a6 s0 (0 : Int32)) [1, 2, 3, 4, 5, 6, 7, 0] rfl
  · refine pg_iconst dX4_costFrom_52 ci_1 ?_
    refine pg_goto (tgt := 57) dX4_costFrom_53 rfl ?_
    exact pg_to (e_X4_costFrom_57 l D h k9 hk9 a0 a1 a2 a3 a4 a5 a6 s0 (1 : Int32)) [1, 2, 3, 4, 5, 6, 7, 0] rfl
theorem e_X4_costFrom_9 (l : Launch) (D : pg_D)  (h : pg_H) : ∀ (n : Nat) (a0 : Nat) (a1 : Nat) (a2 : Int32) (a3 : Int32) (a4 : Int32) (a5 : Int32) (a6 : Int32), pg_EvF l D RX4 cX4_costFrom 10 (some FieldType.int) "costFrom" 0 0 (pg_oI h) (F_X4_costFrom_9 h n a0 a1 a2 a3 a4 a5 a6) 9 [(0, pR a0), (1, pR a1), (2, pI a2), (3, pI a3), (4, pI a4), (5, pI a5), (6, pI a6)] [] h := by
  intro n
  induction n with
  | zero => intro a0 a1 a2 a3 a4 a5 a6; exact pg_none
  | succ n ih =>
    intro a0 a1 a2 a3 a4 a5 a6
    rw [F_X4_costFrom_9]
    refine pg_iload dX4_costFrom_9 6 rfl ?_
    refine pg_aload_n (i := 0) dX4_costFrom_11 rfl 0 rfl ?_
    refine pg_getI dX4_costFrom_12 fl_RX4_36 rfl (fun v1 => ?_)
    refine pg_icmp_ge (tgt := 143) dX4_costFrom_15 rfl ?_ ?_
    · refine pg_aload_n (i := 1) dX4_costFrom_143 rfl 1 rfl ?_
      refine pg_getR dX4_costFrom_144 fl_RX4_90 rfl (fun v2 => ?_)
      refine pg_iconst dX4_costFrom_147 ci_0 ?_
      refine pg_iaload dX4_costFrom_148 (fun v3 => ?_)
      refine pg_iload dX4_costFrom_149 4 rfl ?_
      refine pg_imul dX4_costFrom_151 ?_
      refine pg_aload_n (i := 1) dX4_costFrom_152 rfl 1 rfl ?_
      refine pg_getR dX4_costFrom_153 fl_RX4_90 rfl (fun v4 => ?_)
      refine pg_iconst dX4_costFrom_156 ci_1 ?_
      refine pg_iaload dX4_costFrom_157 (fun v5 => ?_)
      refine pg_iload dX4_costFrom_158 5 rfl ?_
      refine pg_imul dX4_costFrom_160 ?_
      refine pg_iadd dX4_costFrom_161 ?_
      exact pg_iret dX4_costFrom_162 rfl rfl
    · refine pg_aload_n (i := 0) dX4_costFrom_18 rfl 0 rfl ?_
      refine pg_getR dX4_costFrom_19 fl_RX4_18 rfl (fun v6 => ?_)
      refine pg_iload dX4_costFrom_22 6 rfl ?_
      refine pg_iaload dX4_costFrom_24 (fun v7 => ?_)
      refine pg_iload_n (i := 3) dX4_costFrom_25 rfl 3 rfl ?_
      refine pg_ishr dX4_costFrom_26 ?_
      refine pg_iconst dX4_costFrom_27 ci_1 ?_
      refine pg_iand dX4_costFrom_28 ?_
      refine pg_iconst dX4_costFrom_29 ci_1 ?_
      refine pg_icmp_ne (tgt := 37) dX4_costFrom_30 rfl ?_ ?_
      · refine pg_iconst dX4_costFrom_37 ci_0 ?_
        exact pg_to (e_X4_costFrom_38 l D h (F_X4_costFrom_9 h n) ih a0 a1 a2 a3 a4 a5 a6 (0 : Int32)) [0, 1, 2, 3, 4, 5, 6] rfl
      · refine pg_iconst dX4_costFrom_33 ci_1 ?_
        refine pg_goto (tgt := 38) dX4_costFrom_34 rfl ?_
        exact pg_to (e_X4_costFrom_38 l D h (F_X4_costFrom_9 h n) ih a0 a1 a2 a3 a4 a5 a6 (1 : Int32)) [0, 1, 2, 3, 4, 5, 6] rfl
theorem e_X4_costFrom (l : Launch) (D : pg_D)  (h : pg_H) (a0 : Nat) (a1 : Nat) (a2 : Int32) (a3 : Int32) : pg_EvF l D RX4 cX4_costFrom 10 (some FieldType.int) "costFrom" 0 0 (pg_oI h) (F_X4_costFrom h a0 a1 a2 a3) 0 [(0, pR a0), (1, pR a1), (2, pI a2), (3, pI a3)] [] h := by
  unfold F_X4_costFrom
  refine pg_iconst dX4_costFrom_0 ci_0 ?_
  refine pg_istore (lv' := [(4, pI (0 : Int32)), (0, pR a0), (1, pR a1), (2, pI a2), (3, pI a3)]) dX4_costFrom_1 (by decide) rfl ?_
  refine pg_iconst dX4_costFrom_3 ci_0 ?_
  refine pg_istore (lv' := [(5, pI (0 : Int32)), (4, pI (0 : Int32)), (0, pR a0), (1, pR a1), (2, pI a2), (3, pI a3)]) dX4_costFrom_4 (by decide) rfl ?_
  refine pg_iconst dX4_costFrom_6 ci_0 ?_
  refine pg_istore (lv' := [(6, pI (0 : Int32)), (5, pI (0 : Int32)), (4, pI (0 : Int32)), (0, pR a0), (1, pR a1), (2, pI a2), (3, pI a3)]) dX4_costFrom_7 (by decide) rfl ?_
  exact pg_to (e_X4_costFrom_9 l D h pg_fuel a0 a1 a2 a3 (0 : Int32) (0 : Int32) (0 : Int32)) [3, 4, 5, 6, 2, 1, 0] rfl
theorem c_X4_costFrom (l : Launch) (D : pg_D) (h : pg_H) (a0 : Nat) (a1 : Nat) (a2 : Int32) (a3 : Int32)  : ∀ x, F_X4_costFrom h a0 a1 a2 a3 = some x → pg_Ct l D yX4_costFrom cX4_costFrom 10 (some FieldType.int) 0 0 [pR a0, pR a1, pI a2, pI a3] h (pg_oI h x) :=
  pg_Ct.of pn_RX4 (Nat.le_of_ble_eq_true rfl) (e_X4_costFrom l D h a0 a1 a2 a3)
def F_X5_metDuring_107 (h : pg_H) (k35 : Nat → Int32 → Int32 → Int32 → Int32 → Int32 → Option Int32) (a0 : Nat) (a1 : Int32) (a3 : Int32) (a4 : Int32) (a5 : Int32) (a6 : Int32) : Option Int32 := (k35 a0 a1 a3 a4 a5 (a6 + (1 : Int32)))
def F_X5_metDuring_35 (h : pg_H) : Nat → Nat → Int32 → Int32 → Int32 → Int32 → Int32 → Option Int32
  | 0 => fun _ _ _ _ _ _ => none
  | n + 1 => fun a0 a1 a3 a4 a5 a6 => Option.bind (pg_gR 5 1 h a0) fun v1 => Option.bind (pg_rcv 7 h v1 (F_X7_size h v1)) fun v2 => (if a6 < v2 then Option.bind (pg_gR 5 1 h a0) fun v3 => Option.bind (pg_rcv 7 h v3 (F_X7_at h v3 a6 (0 : Int32))) fun v4 => (if v4 = a1 then Option.bind (pg_gR 5 1 h a0) fun v5 => Option.bind (pg_rcv 7 h v5 (F_X7_at h v5 a6 (1 : Int32))) fun v6 => (if v6 = a3 then Option.bind (pg_gR 5 1 h a0) fun v7 => Option.bind (pg_rcv 7 h v7 (F_X7_at h v7 a6 (2 : Int32))) fun v8 => (if a5 < v8 then (F_X5_metDuring_107 h (F_X5_metDuring_35 h n) a0 a1 a3 a4 a5 a6) else Option.bind (pg_gR 5 1 h a0) fun v9 => Option.bind (pg_rcv 7 h v9 (F_X7_at h v9 a6 (3 : Int32))) fun v10 => (if v10 < a4 then (F_X5_metDuring_107 h (F_X5_metDuring_35 h n) a0 a1 a3 a4 a5 a6) else (some (1 : Int32)))) else (F_X5_metDuring_107 h (F_X5_metDuring_35 h n) a0 a1 a3 a4 a5 a6)) else (F_X5_metDuring_107 h (F_X5_metDuring_35 h n) a0 a1 a3 a4 a5 a6)) else (some (0 : Int32)))
def F_X5_metDuring (h : pg_H) (a0 : Nat) (a1 : Int32) (a2 : Int32) : Option Int32 := Option.bind (pg_gR 5 1 h a0) fun v1 => Option.bind (pg_rcv 7 h v1 (F_X7_at h v1 a2 (1 : Int32))) fun v2 => Option.bind (pg_gR 5 1 h a0) fun v3 => Option.bind (pg_rcv 7 h v3 (F_X7_at h v3 a2 (2 : Int32))) fun v4 => Option.bind (pg_gR 5 1 h a0) fun v5 => Option.bind (pg_rcv 7 h v5 (F_X7_at h v5 a2 (3 : Int32))) fun v6 => (F_X5_metDuring_35 h pg_fuel a0 a1 v2 v4 v6 (0 : Int32))
theorem e_X5_metDuring_107 (l : Launch) (D : pg_D)  (h : pg_H) (k35 : Nat → Int32 → Int32 → Int32 → Int32 → Int32 → Option Int32) (hk35 : ∀ (a0 : Nat) (a1 : Int32) (a3 : Int32) (a4 : Int32) (a5 : Int32) (a6 : Int32), pg_EvF l D RX5 cX5_metDuring 7 (some FieldType.boolean) "metDuring" 1 22 (pg_oI h) (k35 a0 a1 a3 a4 a5 a6) 35 [(0, pR a0), (1, pI a1), (3, pI a3), (4, pI a4), (5, pI a5), (6, pI a6)] [] h) (a0 : Nat) (a1 : Int32) (a3 : Int32) (a4 : Int32) (a5 : Int32) (a6 : Int32) : pg_EvF l D RX5 cX5_metDuring 7 (some FieldType.boolean) "metDuring" 1 22 (pg_oI h) (F_X5_metDuring_107 h k35 a0 a1 a3 a4 a5 a6) 107 [(0, pR a0), (1, pI a1), (3, pI a3), (4, pI a4), (5, pI a5), (6, pI a6)] [] h := by
  unfold F_X5_metDuring_107
  refine pg_iinc (lv' := [(6, pI (a6 + (1 : Int32))), (0, pR a0), (1, pI a1), (3, pI a3), (4, pI a4), (5, pI a5)]) dX5_metDuring_107 5 rfl ci_1 (by decide) rfl ?_
  refine pg_goto (tgt := 35) dX5_metDuring_110 rfl ?_
  exact pg_to (hk35 a0 a1 a3 a4 a5 (a6 + (1 : Int32))) [1, 2, 3, 4, 5, 0] rfl
theorem e_X5_metDuring_35 (l : Launch) (D : pg_D)  (h : pg_H) : ∀ (n : Nat) (a0 : Nat) (a1 : Int32) (a3 : Int32) (a4 : Int32) (a5 : Int32) (a6 : Int32), pg_EvF l D RX5 cX5_metDuring 7 (some FieldType.boolean) "metDuring" 1 22 (pg_oI h) (F_X5_metDuring_35 h n a0 a1 a3 a4 a5 a6) 35 [(0, pR a0), (1, pI a1), (3, pI a3), (4, pI a4), (5, pI a5), (6, pI a6)] [] h := by
  intro n
  induction n with
  | zero => intro a0 a1 a3 a4 a5 a6; exact pg_none
  | succ n ih =>
    intro a0 a1 a3 a4 a5 a6
    rw [F_X5_metDuring_35]
    refine pg_iload dX5_metDuring_35 5 rfl ?_
    refine pg_aload_n (i := 0) dX5_metDuring_37 rfl 0 rfl ?_
    refine pg_getR dX5_metDuring_38 fl_RX5_20 rfl (fun v1 => ?_)
    refine pg_callV_oI (As := []) (rs := [pI a6]) dX5_metDuring_41 lk_RX5_67 vy_X7_size nd_X7_size (c_X7_size l D h v1) rfl rfl (Nat.le_of_ble_eq_true rfl) (by decide) (by decide) (fun v2 => ?_)
    refine pg_icmp_ge (tgt := 113) dX5_metDuring_44 rfl ?_ ?_
    · refine pg_iconst dX5_metDuring_113 ci_0 ?_
      exact pg_zret dX5_metDuring_114 rfl (Or.inl rfl) rfl
    · refine pg_aload_n (i := 0) dX5_metDuring_47 rfl 0 rfl ?_
      refine pg_getR dX5_metDuring_48 fl_RX5_20 rfl (fun v3 => ?_)
      refine pg_iload dX5_metDuring_51 5 rfl ?_
      refine pg_iconst dX5_metDuring_53 ci_0 ?_
      refine pg_callV_oI (As := [pI a6, pI (0 : Int32)]) (rs := []) dX5_metDuring_54 lk_RX5_70 vy_X7_at nd_X7_at (c_X7_at l D h v3 a6 (0 : Int32)) rfl rfl (Nat.le_of_ble_eq_true rfl) (by decide) (by decide) (fun v4 => ?_)
      refine pg_iload_n (i := 1) dX5_metDuring_57 rfl 1 rfl ?_
      refine pg_icmp_ne (tgt := 107) dX5_metDuring_58 rfl ?_ ?_
      · exact pg_to (e_X5_metDuring_107 l D h (F_X5_metDuring_35 h n) ih a0 a1 a3 a4 a5 a6) [0, 1, 2, 3, 4, 5] rfl
      · refine pg_aload_n (i := 0) dX5_metDuring_61 rfl 0 rfl ?_
        refine pg_getR dX5_metDuring_62 fl_RX5_20 rfl (fun v5 => ?_)
        refine pg_iload dX5_metDuring_65 5 rfl ?_
        refine pg_iconst dX5_metDuring_67 ci_1 ?_
        refine pg_callV_oI (As := [pI a6, pI (1 : Int32)]) (rs := []) dX5_metDuring_68 lk_RX5_70 vy_X7_at nd_X7_at (c_X7_at l D h v5 a6 (1 : Int32)) rfl rfl (Nat.le_of_ble_eq_true rfl) (by decide) (by decide) (fun v6 => ?_)
        refine pg_iload_n (i := 3) dX5_metDuring_71 rfl 2 rfl ?_
        refine pg_icmp_ne (tgt := 107) dX5_metDuring_72 rfl ?_ ?_
        · exact pg_to (e_X5_metDuring_107 l D h (F_X5_metDuring_35 h n) ih a0 a1 a3 a4 a5 a6) [0, 1, 2, 3, 4, 5] rfl
        · refine pg_aload_n (i := 0) dX5_metDuring_75 rfl 0 rfl ?_
          refine pg_getR dX5_metDuring_76 fl_RX5_20 rfl (fun v7 => ?_)
          refine pg_iload dX5_metDuring_79 5 rfl ?_
          refine pg_iconst dX5_metDuring_81 ci_2 ?_
          refine pg_callV_oI (As := [pI a6, pI (2 : Int32)]) (rs := []) dX5_metDuring_82 lk_RX5_70 vy_X7_at nd_X7_at (c_X7_at l D h v7 a6 (2 : Int32)) rfl rfl (Nat.le_of_ble_eq_true rfl) (by decide) (by decide) (fun v8 => ?_)
          refine pg_iload dX5_metDuring_85 4 rfl ?_
          refine pg_icmp_gt (tgt := 107) dX5_metDuring_87 rfl ?_ ?_
          · exact pg_to (e_X5_metDuring_107 l D h (F_X5_metDuring_35 h n) ih a0 a1 a3 a4 a5 a6) [0, 1, 2, 3, 4, 5] rfl
          · refine pg_aload_n (i := 0) dX5_metDuring_90 rfl 0 rfl ?_
            refine pg_getR dX5_metDuring_91 fl_RX5_20 rfl (fun v9 => ?_)
            refine pg_iload dX5_metDuring_94 5 rfl ?_
            refine pg_iconst dX5_metDuring_96 ci_3 ?_
            refine pg_callV_oI (As := [pI a6, pI (3 : Int32)]) (rs := []) dX5_metDuring_97 lk_RX5_70 vy_X7_at nd_X7_at (c_X7_at l D h v9 a6 (3 : Int32)) rfl rfl (Nat.le_of_ble_eq_true rfl) (by decide) (by decide) (fun v10 => ?_)
            refine pg_iload dX5_metDuring_100 3 rfl ?_
            refine pg_icmp_lt (tgt := 107) dX5_metDuring_102 rfl ?_ ?_
            · exact pg_to (e_X5_metDuring_107 l D h (F_X5_metDuring_35 h n) ih a0 a1 a3 a4 a5 a6) [0, 1, 2, 3, 4, 5] rfl
            · refine pg_iconst dX5_metDuring_105 ci_1 ?_
              exact pg_zret dX5_metDuring_106 rfl (Or.inr rfl) rfl
theorem e_X5_metDuring (l : Launch) (D : pg_D)  (h : pg_H) (a0 : Nat) (a1 : Int32) (a2 : Int32) : pg_EvF l D RX5 cX5_metDuring 7 (some FieldType.boolean) "metDuring" 1 22 (pg_oI h) (F_X5_metDuring h a0 a1 a2) 0 [(0, pR a0), (1, pI a1), (2, pI a2)] [] h := by
  unfold F_X5_metDuring
  refine pg_aload_n (i := 0) dX5_metDuring_0 rfl 0 rfl ?_
  refine pg_getR dX5_metDuring_1 fl_RX5_20 rfl (fun v1 => ?_)
  refine pg_iload_n (i := 2) dX5_metDuring_4 rfl 2 rfl ?_
  refine pg_iconst dX5_metDuring_5 ci_1 ?_
  refine pg_callV_oI (As := [pI a2, pI (1 : Int32)]) (rs := []) dX5_metDuring_6 lk_RX5_70 vy_X7_at nd_X7_at (c_X7_at l D h v1 a2 (1 : Int32)) rfl rfl (Nat.le_of_ble_eq_true rfl) (by decide) (by decide) (fun v2 => ?_)
  refine pg_istore_n (i := 3) (lv' := [(3, pI v2), (0, pR a0), (1, pI a1), (2, pI a2)]) dX5_metDuring_9 rfl (by decide) rfl ?_
  refine pg_aload_n (i := 0) dX5_metDuring_10 rfl 1 rfl ?_
  refine pg_getR dX5_metDuring_11 fl_RX5_20 rfl (fun v3 => ?_)
  refine pg_iload_n (i := 2) dX5_metDuring_14 rfl 3 rfl ?_
  refine pg_iconst dX5_metDuring_15 ci_2 ?_
  refine pg_callV_oI (As := [pI a2, pI (2 : Int32)]) (rs := []) dX5_metDuring_16 lk_RX5_70 vy_X7_at nd_X7_at (c_X7_at l D h v3 a2 (2 : Int32)) rfl rfl (Nat.le_of_ble_eq_true rfl) (by decide) (by decide) (fun v4 => ?_)
  refine pg_istore (lv' := [(4, pI v4), (3, pI v2), (0, pR a0), (1, pI a1), (2, pI a2)]) dX5_metDuring_19 (by decide) rfl ?_
  refine pg_aload_n (i := 0) dX5_metDuring_21 rfl 2 rfl ?_
  refine pg_getR dX5_metDuring_22 fl_RX5_20 rfl (fun v5 => ?_)
  refine pg_iload_n (i := 2) dX5_metDuring_25 rfl 4 rfl ?_
  refine pg_iconst dX5_metDuring_26 ci_3 ?_
  refine pg_callV_oI (As := [pI a2, pI (3 : Int32)]) (rs := []) dX5_metDuring_27 lk_RX5_70 vy_X7_at nd_X7_at (c_X7_at l D h v5 a2 (3 : Int32)) rfl rfl (Nat.le_of_ble_eq_true rfl) (by decide) (by decide) (fun v6 => ?_)
  refine pg_istore (lv' := [(5, pI v6), (4, pI v4), (3, pI v2), (0, pR a0), (1, pI a1), (2, pI a2)]) dX5_metDuring_30 (by decide) rfl ?_
  refine pg_iconst dX5_metDuring_32 ci_0 ?_
  refine pg_istore (lv' := [(6, pI (0 : Int32)), (5, pI v6), (4, pI v4), (3, pI v2), (0, pR a0), (1, pI a1), (2, pI a2)]) dX5_metDuring_33 (by decide) rfl ?_
  exact pg_to (e_X5_metDuring_35 l D h pg_fuel a0 a1 v2 v4 v6 (0 : Int32)) [4, 5, 3, 2, 1, 0] rfl
theorem c_X5_metDuring (l : Launch) (D : pg_D) (h : pg_H) (a0 : Nat) (a1 : Int32) (a2 : Int32)  : ∀ x, F_X5_metDuring h a0 a1 a2 = some x → pg_Ct l D yX5_metDuring cX5_metDuring 7 (some FieldType.boolean) 1 22 [pR a0, pI a1, pI a2] h (pg_oI h x) :=
  pg_Ct.of pn_RX5 (Nat.le_of_ble_eq_true rfl) (e_X5_metDuring l D h a0 a1 a2)
def F_X5_allCopies (h : pg_H) (a0 : Nat) : Option Int32 := Option.bind (pg_gR 5 0 h a0) fun v1 => Option.bind (pg_rcv 7 h v1 (F_X7_size h v1)) fun v2 => (some (((1 : Int32) <<< (v2 &&& 31)) - (1 : Int32)))
theorem e_X5_allCopies (l : Launch) (D : pg_D)  (h : pg_H) (a0 : Nat) : pg_EvF l D RX5 cX5_allCopies 1 (some FieldType.int) "allCopies" 1 20 (pg_oI h) (F_X5_allCopies h a0) 0 [(0, pR a0)] [] h := by
  unfold F_X5_allCopies
  refine pg_iconst dX5_allCopies_0 ci_1 ?_
  refine pg_aload_n (i := 0) dX5_allCopies_1 rfl 0 rfl ?_
  refine pg_getR dX5_allCopies_2 fl_RX5_14 rfl (fun v1 => ?_)
  refine pg_callV_oI (As := []) (rs := [pI (1 : Int32)]) dX5_allCopies_5 lk_RX5_67 vy_X7_size nd_X7_size (c_X7_size l D h v1) rfl rfl (Nat.le_of_ble_eq_true rfl) (by decide) (by decide) (fun v2 => ?_)
  refine pg_ishl dX5_allCopies_8 ?_
  refine pg_iconst dX5_allCopies_9 ci_1 ?_
  refine pg_isub dX5_allCopies_10 ?_
  exact pg_iret dX5_allCopies_11 rfl rfl
theorem c_X5_allCopies (l : Launch) (D : pg_D) (h : pg_H) (a0 : Nat)  : ∀ x, F_X5_allCopies h a0 = some x → pg_Ct l D yX5_allCopies cX5_allCopies 1 (some FieldType.int) 1 20 [pR a0] h (pg_oI h x) :=
  pg_Ct.of pn_RX5 (Nat.le_of_ble_eq_true rfl) (e_X5_allCopies l D h a0)
def F_X5_companions_84 (h : pg_H) (a0 : Nat) (a1 : Int32) (a2 : Int32) (a3 : Int32) (s0 : Int32) : Option Int32 := (if s0 = 0 then Option.bind (pg_rcv 5 h a0 (F_X5_allCopies h a0)) fun v1 => pg_let (a3 ||| (v1 &&& (a2 ^^^ (-1 : Int32)))) fun v2 => (some (v2 &&& (((1 : Int32) <<< (a1 &&& 31)) ^^^ (-1 : Int32)))) else Option.bind (pg_rcv 5 h a0 (F_X5_allCopies h a0)) fun v3 => (some (v3 &&& (((1 : Int32) <<< (a1 &&& 31)) ^^^ (-1 : Int32)))))
def F_X5_companions_63 (h : pg_H) (k7 : Nat → Int32 → Int32 → Int32 → Int32 → Option Int32) (a0 : Nat) (a1 : Int32) (a2 : Int32) (a4 : Int32) (s0 : Int32) (s1 : Int32) : Option Int32 := pg_let (s1 ||| s0) fun v1 => (k7 a0 a1 a2 v1 (a4 + (1 : Int32)))
def F_X5_companions_62 (h : pg_H) (k7 : Nat → Int32 → Int32 → Int32 → Int32 → Option Int32) (a0 : Nat) (a1 : Int32) (a2 : Int32) (a4 : Int32) (s0 : Int32) : Option Int32 := (F_X5_companions_63 h k7 a0 a1 a2 a4 (0 : Int32) s0)
def F_X5_companions_7 (h : pg_H) : Nat → Nat → Int32 → Int32 → Int32 → Int32 → Option Int32
  | 0 => fun _ _ _ _ _ => none
  | n + 1 => fun a0 a1 a2 a3 a4 => Option.bind (pg_gR 5 1 h a0) fun v1 => Option.bind (pg_rcv 7 h v1 (F_X7_size h v1)) fun v2 => (if a4 < v2 then Option.bind (pg_gR 5 1 h a0) fun v3 => Option.bind (pg_rcv 7 h v3 (F_X7_at h v3 a4 (0 : Int32))) fun v4 => pg_let (a2 ||| ((1 : Int32) <<< (v4 &&& 31))) fun v5 => (if v4 = a1 then (F_X5_companions_62 h (F_X5_companions_7 h n) a0 a1 v5 a4 a3) else Option.bind (pg_rcv 5 h a0 (F_X5_metDuring h a0 a1 a4)) fun v6 => (if v6 = 0 then (F_X5_companions_62 h (F_X5_companions_7 h n) a0 a1 v5 a4 a3) else (F_X5_companions_63 h (F_X5_companions_7 h n) a0 a1 v5 a4 ((1 : Int32) <<< (v4 &&& 31)) a3))) else (if ((a2 >>> (a1 &&& 31)) &&& (1 : Int32)) = 0 then (F_X5_companions_84 h a0 a1 a2 a3 (1 : Int32)) else (F_X5_companions_84 h a0 a1 a2 a3 (0 : Int32))))
def F_X5_companions (h : pg_H) (a0 : Nat) (a1 : Int32) : Option Int32 := (F_X5_companions_7 h pg_fuel a0 a1 (0 : Int32) (0 : Int32) (0 : Int32))
theorem e_X5_companions_84 (l : Launch) (D : pg_D)  (h : pg_H) (a0 : Nat) (a1 : Int32) (a2 : Int32) (a3 : Int32) (s0 : Int32) : pg_EvF l D RX5 cX5_companions 6 (some FieldType.int) "companions" 2 48 (pg_oI h) (F_X5_companions_84 h a0 a1 a2 a3 s0) 84 [(0, pR a0), (1, pI a1), (2, pI a2), (3, pI a3)] [pI s0] h := by
  unfold F_X5_companions_84
  refine pg_istore (lv' := [(4, pI s0), (0, pR a0), (1, pI a1), (2, pI a2), (3, pI a3)]) dX5_companions_84 (by decide) rfl ?_
  refine pg_iload dX5_companions_86 0 rfl ?_
  refine pg_if_eq (tgt := 98) dX5_companions_88 rfl ?_ ?_
  · refine pg_iload_n (i := 3) dX5_companions_98 rfl 4 rfl ?_
    refine pg_aload_n (i := 0) dX5_companions_99 rfl 1 rfl ?_
    refine pg_callV_oI (As := []) (rs := [pI a3]) dX5_companions_100 lk_RX5_90 vy_X5_allCopies nd_X5_allCopies (c_X5_allCopies l D h a0) rfl rfl (Nat.le_of_ble_eq_true rfl) (by decide) (by decide) (fun v1 => ?_)
    refine pg_iload_n (i := 2) dX5_companions_103 rfl 3 rfl ?_
    refine pg_iconst dX5_companions_104 ci_m1 ?_
    refine pg_ixor dX5_companions_105 ?_
    refine pg_iand dX5_companions_106 ?_
    refine pg_ior dX5_companions_107 ?_
    refine pg_letI (fun v2 => ?_)
    refine pg_istore (lv' := [(5, pI v2), (4, pI s0), (0, pR a0), (1, pI a1), (2, pI a2), (3, pI a3)]) dX5_companions_108 (by decide) rfl ?_
    refine pg_iload dX5_companions_110 0 rfl ?_
    refine pg_iconst dX5_companions_112 ci_1 ?_
    refine pg_iload_n (i := 1) dX5_companions_113 rfl 3 rfl ?_
    refine pg_ishl dX5_companions_114 ?_
    refine pg_iconst dX5_companions_115 ci_m1 ?_
    refine pg_ixor dX5_companions_116 ?_
    refine pg_iand dX5_companions_117 ?_
    exact pg_iret dX5_companions_118 rfl rfl
  · refine pg_aload_n (i := 0) dX5_companions_91 rfl 1 rfl ?_
    refine pg_callV_oI (As := []) (rs := []) dX5_companions_92 lk_RX5_90 vy_X5_allCopies nd_X5_allCopies (c_X5_allCopies l D h a0) rfl rfl (Nat.le_of_ble_eq_true rfl) (by decide) (by decide) (fun v3 => ?_)
    refine pg_goto (tgt := 108) dX5_companions_95 rfl ?_
    refine pg_istore (lv' := [(5, pI v3), (4, pI s0), (0, pR a0), (1, pI a1), (2, pI a2), (3, pI a3)]) dX5_companions_108 (by decide) rfl ?_
    refine pg_iload dX5_companions_110 0 rfl ?_
    refine pg_iconst dX5_companions_112 ci_1 ?_
    refine pg_iload_n (i := 1) dX5_companions_113 rfl 3 rfl ?_
    refine pg_ishl dX5_companions_114 ?_
    refine pg_iconst dX5_companions_115 ci_m1 ?_
    refine pg_ixor dX5_companions_116 ?_
    refine pg_iand dX5_companions_117 ?_
    exact pg_iret dX5_companions_118 rfl rfl
theorem e_X5_companions_63 (l : Launch) (D : pg_D)  (h : pg_H) (k7 : Nat → Int32 → Int32 → Int32 → Int32 → Option Int32) (hk7 : ∀ (a0 : Nat) (a1 : Int32) (a2 : Int32) (a3 : Int32) (a4 : Int32), pg_EvF l D RX5 cX5_companions 6 (some FieldType.int) "companions" 2 48 (pg_oI h) (k7 a0 a1 a2 a3 a4) 7 [(0, pR a0), (1, pI a1), (2, pI a2), (3, pI a3), (4, pI a4)] [] h) (a0 : Nat) (a1 : Int32) (a2 : Int32) (a4 : Int32) (s0 : Int32) (s1 : Int32) : pg_EvF l D RX5 cX5_companions 6 (some FieldType.int) "companions" 2 48 (pg_oI h) (F_X5_companions_63 h k7 a0 a1 a2 a4 s0 s1) 63 [(0, pR a0), (1, pI a1), (2, pI a2), (4, pI a4)] [pI s0, pI s1] h := by
  unfold F_X5_companions_63
  refine pg_ior dX5_companions_63 ?_
  refine pg_letI (fun v1 => ?_)
  refine pg_istore_n (i := 3) (lv' := [(3, pI v1), (0, pR a0), (1, pI a1), (2, pI a2), (4, pI a4)]) dX5_companions_64 rfl (by decide) rfl ?_
  refine pg_iinc (lv' := [(4, pI (a4 + (1 : Int32))), (3, pI v1), (0, pR a0), (1, pI a1), (2, pI a2)]) dX5_companions_65 4 rfl ci_1 (by decide) rfl ?_
  refine pg_goto (tgt := 7) dX5_companions_68 rfl ?_
  exact pg_to (hk7 a0 a1 a2 v1 (a4 + (1 : Int32))) [2, 3, 4, 1, 0] rfl
theorem e_X5_companions_62 (l : Launch) (D : pg_D)  (h : pg_H) (k7 : Nat → Int32 → Int32 → Int32 → Int32 → Option Int32) (hk7 : ∀ (a0 : Nat) (a1 : Int32) (a2 : Int32) (a3 : Int32) (a4 : Int32), pg_EvF l D RX5 cX5_companions 6 (some FieldType.int) "companions" 2 48 (pg_oI h) (k7 a0 a1 a2 a3 a4) 7 [(0, pR a0), (1, pI a1), (2, pI a2), (3, pI a3), (4, pI a4)] [] h) (a0 : Nat) (a1 : Int32) (a2 : Int32) (a4 : Int32) (s0 : Int32) : pg_EvF l D RX5 cX5_companions 6 (some FieldType.int) "companions" 2 48 (pg_oI h) (F_X5_companions_62 h k7 a0 a1 a2 a4 s0) 62 [(0, pR a0), (1, pI a1), (2, pI a2), (4, pI a4)] [pI s0] h := by
  unfold F_X5_companions_62
  refine pg_iconst dX5_companions_62 ci_0 ?_
  exact pg_to (e_X5_companions_63 l D h k7 hk7 a0 a1 a2 a4 (0 : Int32) s0) [0, 1, 2, 3] rfl
theorem e_X5_companions_7 (l : Launch) (D : pg_D)  (h : pg_H) : ∀ (n : Nat) (a0 : Nat) (a1 : Int32) (a2 : Int32) (a3 : Int32) (a4 : Int32), pg_EvF l D RX5 cX5_companions 6 (some FieldType.int) "companions" 2 48 (pg_oI h) (F_X5_companions_7 h n a0 a1 a2 a3 a4) 7 [(0, pR a0), (1, pI a1), (2, pI a2), (3, pI a3), (4, pI a4)] [] h := by
  intro n
  induction n with
  | zero => intro a0 a1 a2 a3 a4; exact pg_none
  | succ n ih =>
    intro a0 a1 a2 a3 a4
    rw [F_X5_companions_7]
    refine pg_iload dX5_companions_7 4 rfl ?_
    refine pg_aload_n (i := 0) dX5_companions_9 rfl 0 rfl ?_
    refine pg_getR dX5_companions_10 fl_RX5_20 rfl (fun v1 => ?_)
    refine pg_callV_oI (As := []) (rs := [pI a4]) dX5_companions_13 lk_RX5_67 vy_X7_size nd_X7_size (c_X7_size l D h v1) rfl rfl (Nat.le_of_ble_eq_true rfl) (by decide) (by decide) (fun v2 => ?_)
    refine pg_icmp_ge (tgt := 71) dX5_companions_16 rfl ?_ ?_
    · refine pg_iload_n (i := 2) dX5_companions_71 rfl 2 rfl ?_
      refine pg_iload_n (i := 1) dX5_companions_72 rfl 1 rfl ?_
      refine pg_ishr dX5_companions_73 ?_
      refine pg_iconst dX5_companions_74 ci_1 ?_
      refine pg_iand dX5_companions_75 ?_
      refine pg_if_ne (tgt := 83) dX5_companions_76 rfl ?_ ?_
      · refine pg_iconst dX5_companions_83 ci_0 ?_
        exact pg_to (e_X5_companions_84 l D h a0 a1 a2 a3 (0 : Int32)) [0, 1, 2, 3] rfl
      · refine pg_iconst dX5_companions_79 ci_1 ?_
        refine pg_goto (tgt := 84) dX5_companions_80 rfl ?_
        exact pg_to (e_X5_companions_84 l D h a0 a1 a2 a3 (1 : Int32)) [0, 1, 2, 3] rfl
    · refine pg_aload_n (i := 0) dX5_companions_19 rfl 0 rfl ?_
      refine pg_getR dX5_companions_20 fl_RX5_20 rfl (fun v3 => ?_)
      refine pg_iload dX5_companions_23 4 rfl ?_
      refine pg_iconst dX5_companions_25 ci_0 ?_
      refine pg_callV_oI (As := [pI a4, pI (0 : Int32)]) (rs := []) dX5_companions_26 lk_RX5_70 vy_X7_at nd_X7_at (c_X7_at l D h v3 a4 (0 : Int32)) rfl rfl (Nat.le_of_ble_eq_true rfl) (by decide) (by decide) (fun v4 => ?_)
      refine pg_istore (lv' := [(5, pI v4), (0, pR a0), (1, pI a1), (2, pI a2), (3, pI a3), (4, pI a4)]) dX5_companions_29 (by decide) rfl ?_
      refine pg_iload_n (i := 2) dX5_companions_31 rfl 3 rfl ?_
      refine pg_iconst dX5_companions_32 ci_1 ?_
      refine pg_iload dX5_companions_33 0 rfl ?_
      refine pg_ishl dX5_companions_35 ?_
      refine pg_ior dX5_companions_36 ?_
      refine pg_letI (fun v5 => ?_)
      refine pg_istore_n (i := 2) (lv' := [(2, pI v5), (5, pI v4), (0, pR a0), (1, pI a1), (3, pI a3), (4, pI a4)]) dX5_companions_37 rfl (by decide) rfl ?_
      refine pg_iload_n (i := 3) dX5_companions_38 rfl 4 rfl ?_
      refine pg_iload dX5_companions_39 1 rfl ?_
      refine pg_iload_n (i := 1) dX5_companions_41 rfl 3 rfl ?_
      refine pg_icmp_eq (tgt := 62) dX5_companions_42 rfl ?_ ?_
      · exact pg_to (e_X5_companions_62 l D h (F_X5_companions_7 h n) ih a0 a1 v5 a4 a3) [2, 3, 0, 5] rfl
      · refine pg_aload_n (i := 0) dX5_companions_45 rfl 2 rfl ?_
        refine pg_iload_n (i := 1) dX5_companions_46 rfl 3 rfl ?_
        refine pg_iload dX5_companions_47 5 rfl ?_
        refine pg_callV_oI (As := [pI a1, pI a4]) (rs := [pI a3]) dX5_companions_49 lk_RX5_86 vy_X5_metDuring nd_X5_metDuring (c_X5_metDuring l D h a0 a1 a4) rfl rfl (Nat.le_of_ble_eq_true rfl) (by decide) (by decide) (fun v6 => ?_)
        refine pg_if_eq (tgt := 62) dX5_companions_52 rfl ?_ ?_
        · exact pg_to (e_X5_companions_62 l D h (F_X5_companions_7 h n) ih a0 a1 v5 a4 a3) [2, 3, 0, 5] rfl
        · refine pg_iconst dX5_companions_55 ci_1 ?_
          refine pg_iload dX5_companions_56 1 rfl ?_
          refine pg_ishl dX5_companions_58 ?_
          refine pg_goto (tgt := 63) dX5_companions_59 rfl ?_
          exact pg_to (e_X5_companions_63 l D h (F_X5_companions_7 h n) ih a0 a1 v5 a4 ((1 : Int32) <<< (v4 &&& 31)) a3) [2, 3, 0, 5] rfl
theorem e_X5_companions (l : Launch) (D : pg_D)  (h : pg_H) (a0 : Nat) (a1 : Int32) : pg_EvF l D RX5 cX5_companions 6 (some FieldType.int) "companions" 2 48 (pg_oI h) (F_X5_companions h a0 a1) 0 [(0, pR a0), (1, pI a1)] [] h := by
  unfold F_X5_companions
  refine pg_iconst dX5_companions_0 ci_0 ?_
  refine pg_istore_n (i := 2) (lv' := [(2, pI (0 : Int32)), (0, pR a0), (1, pI a1)]) dX5_companions_1 rfl (by decide) rfl ?_
  refine pg_iconst dX5_companions_2 ci_0 ?_
  refine pg_istore_n (i := 3) (lv' := [(3, pI (0 : Int32)), (2, pI (0 : Int32)), (0, pR a0), (1, pI a1)]) dX5_companions_3 rfl (by decide) rfl ?_
  refine pg_iconst dX5_companions_4 ci_0 ?_
  refine pg_istore (lv' := [(4, pI (0 : Int32)), (3, pI (0 : Int32)), (2, pI (0 : Int32)), (0, pR a0), (1, pI a1)]) dX5_companions_5 (by decide) rfl ?_
  exact pg_to (e_X5_companions_7 l D h pg_fuel a0 a1 (0 : Int32) (0 : Int32) (0 : Int32)) [3, 4, 2, 1, 0] rfl
theorem c_X5_companions (l : Launch) (D : pg_D) (h : pg_H) (a0 : Nat) (a1 : Int32)  : ∀ x, F_X5_companions h a0 a1 = some x → pg_Ct l D yX5_companions cX5_companions 6 (some FieldType.int) 2 48 [pR a0, pI a1] h (pg_oI h x) :=
  pg_Ct.of pn_RX5 (Nat.le_of_ble_eq_true rfl) (e_X5_companions l D h a0 a1)
