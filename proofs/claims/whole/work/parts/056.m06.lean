def F_X12_terms_43 (a0 : Nat) (h : pg_H) : Option (Int32 × pg_H) := Option.bind (pg_rcv 12 h a0 (F_X12_refuses a0 (-1 : Int32) h)) fun v1 => (some (v1.1, v1.2))
def F_X12_terms_37 (a0 : Nat) (a1 : Int32) (a2 : Int32) (s0 : Int32) (s1 : Int32) (s2 : Int32) (h : pg_H) : Option (Int32 × pg_H) := Option.bind (F_X12_lies s2 s1 s0) fun v1 => (if v1 = 0 then (F_X12_terms_43 a0 h) else Option.bind (pg_rcv 12 h a0 (F_X12_replaces a0 ((1340 : Int32) + a1) a2 h)) fun v2 => (some (v2.1, v2.2)))
def F_X12_terms_24 (a0 : Nat) (a1 : Int32) (a2 : Int32) (s0 : Int32) (s1 : Int32) (h : pg_H) : Option (Int32 × pg_H) := (if a1 = (3 : Int32) then (F_X12_terms_37 a0 a1 a2 (1000 : Int32) s0 s1 h) else (F_X12_terms_37 a0 a1 a2 (9 : Int32) s0 s1 h))
def F_X12_terms_19 (a0 : Nat) (a1 : Int32) (a2 : Int32) (s0 : Int32) (h : pg_H) : Option (Int32 × pg_H) := (F_X12_terms_24 a0 a1 a2 (1 : Int32) s0 h)
def F_X12_terms (a0 : Nat) (a1 : Int32) (a2 : Int32) (h : pg_H) : Option (Int32 × pg_H) := Option.bind (F_X12_lies a1 (0 : Int32) (3 : Int32)) fun v1 => (if v1 = 0 then (F_X12_terms_43 a0 h) else (if a1 = 0 then (F_X12_terms_19 a0 a1 a2 a2 h) else (if a1 = (2 : Int32) then (F_X12_terms_19 a0 a1 a2 a2 h) else (F_X12_terms_24 a0 a1 a2 (0 : Int32) a2 h))))
theorem e_X12_terms_43 (l : Launch) (D : pg_D)  (a0 : Nat) (h : pg_H) : pg_EvF l D RX12 cX12_terms 3 (some FieldType.int) "terms" 2 44 pg_wI (F_X12_terms_43 a0 h) 43 [(0, pR a0)] [] h := by
  unfold F_X12_terms_43
  refine pg_aload_n (i := 0) dX12_terms_43 rfl 0 rfl ?_
  refine pg_iconst dX12_terms_44 ci_m1 ?_
  refine pg_callV_wI (As := [pI (-1 : Int32)]) (rs := []) dX12_terms_45 lk_RX12_117 vy_X12_refuses nd_X12_refuses (c_X12_refuses l D a0 (-1 : Int32) h) rfl rfl (Nat.le_of_ble_eq_true rfl) (by decide) (by decide) (fun v1 => ?_)
  exact pg_iret dX12_terms_48 rfl rfl
theorem e_X12_terms_37 (l : Launch) (D : pg_D)  (a0 : Nat) (a1 : Int32) (a2 : Int32) (s0 : Int32) (s1 : Int32) (s2 : Int32) (h : pg_H) : pg_EvF l D RX12 cX12_terms 3 (some FieldType.int) "terms" 2 44 pg_wI (F_X12_terms_37 a0 a1 a2 s0 s1 s2 h) 37 [(0, pR a0), (1, pI a1), (2, pI a2)] [pI s0, pI s1, pI s2] h := by
  unfold F_X12_terms_37
  refine pg_callS_oI (As := [pI s2, pI s1, pI s0]) (rs := []) dX12_terms_37 lk_RX12_113 vy_X12_lies nd_X12_lies (c_X12_lies l D s2 s1 s0 h) rfl rfl (Nat.le_of_ble_eq_true rfl) (by decide) (by decide) (fun v1 => ?_)
  refine pg_if_ne (tgt := 49) dX12_terms_40 rfl ?_ ?_
  · refine pg_aload_n (i := 0) dX12_terms_49 rfl 0 rfl ?_
    refine pg_sipush dX12_terms_50 cs_1340 ?_
    refine pg_iload_n (i := 1) dX12_terms_53 rfl 1 rfl ?_
    refine pg_iadd dX12_terms_54 ?_
    refine pg_iload_n (i := 2) dX12_terms_55 rfl 2 rfl ?_
    refine pg_callV_wI (As := [pI ((1340 : Int32) + a1), pI a2]) (rs := []) dX12_terms_56 lk_RX12_132 vy_X12_replaces nd_X12_replaces (c_X12_replaces l D a0 ((1340 : Int32) + a1) a2 h) rfl rfl (Nat.le_of_ble_eq_true rfl) (by decide) (by decide) (fun v2 => ?_)
    exact pg_iret dX12_terms_59 rfl rfl
  · exact pg_to (e_X12_terms_43 l D a0 h) [0] rfl
theorem e_X12_terms_24 (l : Launch) (D : pg_D)  (a0 : Nat) (a1 : Int32) (a2 : Int32) (s0 : Int32) (s1 : Int32) (h : pg_H) : pg_EvF l D RX12 cX12_terms 3 (some FieldType.int) "terms" 2 44 pg_wI (F_X12_terms_24 a0 a1 a2 s0 s1 h) 24 [(0, pR a0), (1, pI a1), (2, pI a2)] [pI s0, pI s1] h := by
  unfold F_X12_terms_24
  refine pg_iload_n (i := 1) dX12_terms_24 rfl 1 rfl ?_
  refine pg_iconst dX12_terms_25 ci_3 ?_
  refine pg_icmp_ne (tgt := 35) dX12_terms_26 rfl ?_ ?_
  · refine pg_bipush dX12_terms_35 cb_9 ?_
    exact pg_to (e_X12_terms_37 l D a0 a1 a2 (9 : Int32) s0 s1 h) [0, 1, 2] rfl
  · refine pg_sipush dX12_terms_29 cs_1000 ?_
    refine pg_goto (tgt := 37) dX12_terms_32 rfl ?_
    exact pg_to (e_X12_terms_37 l D a0 a1 a2 (1000 : Int32) s0 s1 h) [0, 1, 2] rfl
theorem e_X12_terms_19 (l : Launch) (D : pg_D)  (a0 : Nat) (a1 : Int32) (a2 : Int32) (s0 : Int32) (h : pg_H) : pg_EvF l D RX12 cX12_terms 3 (some FieldType.int) "terms" 2 44 pg_wI (F_X12_terms_19 a0 a1 a2 s0 h) 19 [(0, pR a0), (1, pI a1), (2, pI a2)] [pI s0] h := by
  unfold F_X12_terms_19
  refine pg_iconst dX12_terms_19 ci_1 ?_
  refine pg_goto (tgt := 24) dX12_terms_20 rfl ?_
  exact pg_to (e_X12_terms_24 l D a0 a1 a2 (1 : Int32) s0 h) [0, 1, 2] rfl
theorem e_X12_terms (l : Launch) (D : pg_D)  (a0 : Nat) (a1 : Int32) (a2 : Int32) (h : pg_H) : pg_EvF l D RX12 cX12_terms 3 (some FieldType.int) "terms" 2 44 pg_wI (F_X12_terms a0 a1 a2 h) 0 [(0, pR a0), (1, pI a1), (2, pI a2)] [] h := by
  unfold F_X12_terms
  refine pg_iload_n (i := 1) dX12_terms_0 rfl 1 rfl ?_
  refine pg_iconst dX12_terms_1 ci_0 ?_
  refine pg_iconst dX12_terms_2 ci_3 ?_
  refine pg_callS_oI (As := [pI a1, pI (0 : Int32), pI (3 : Int32)]) (rs := []) dX12_terms_3 lk_RX12_113 vy_X12_lies nd_X12_lies (c_X12_lies l D a1 (0 : Int32) (3 : Int32) h) rfl rfl (Nat.le_of_ble_eq_true rfl) (by decide) (by decide) (fun v1 => ?_)
  refine pg_if_eq (tgt := 43) dX12_terms_6 rfl ?_ ?_
  · exact pg_to (e_X12_terms_43 l D a0 h) [0] rfl
  · refine pg_iload_n (i := 2) dX12_terms_9 rfl 2 rfl ?_
    refine pg_iload_n (i := 1) dX12_terms_10 rfl 1 rfl ?_
    refine pg_if_eq (tgt := 19) dX12_terms_11 rfl ?_ ?_
    · exact pg_to (e_X12_terms_19 l D a0 a1 a2 a2 h) [0, 1, 2] rfl
    · refine pg_iload_n (i := 1) dX12_terms_14 rfl 1 rfl ?_
      refine pg_iconst dX12_terms_15 ci_2 ?_
      refine pg_icmp_ne (tgt := 23) dX12_terms_16 rfl ?_ ?_
      · refine pg_iconst dX12_terms_23 ci_0 ?_
        exact pg_to (e_X12_terms_24 l D a0 a1 a2 (0 : Int32) a2 h) [0, 1, 2] rfl
      · exact pg_to (e_X12_terms_19 l D a0 a1 a2 a2 h) [0, 1, 2] rfl
theorem c_X12_terms (l : Launch) (D : pg_D) (a0 : Nat) (a1 : Int32) (a2 : Int32) (h : pg_H) : ∀ x, F_X12_terms a0 a1 a2 h = some x → pg_Ct l D yX12_terms cX12_terms 3 (some FieldType.int) 2 44 [pR a0, pI a1, pI a2] h (pg_wI x) :=
  pg_Ct.of pn_RX12 (Nat.le_of_ble_eq_true rfl) (e_X12_terms l D a0 a1 a2 h)
def F_X12_row_253 (k56 : Nat → Int32 → Int32 → Int32 → Int32 → pg_H → Option (Int32 × pg_H)) (a0 : Nat) (a1 : Int32) (a2 : Int32) (a3 : Int32) (a4 : Int32) (s0 : Int32) (s1 : Int32) (s2 : Nat) (h : pg_H) : Option (Int32 × pg_H) := Option.bind (pg_pI 12 6 h s2 (s1 + s0)) fun v1 => (k56 a0 a1 a2 a3 (a4 + (3 : Int32)) v1)
def F_X12_row_236 (k56 : Nat → Int32 → Int32 → Int32 → Int32 → pg_H → Option (Int32 × pg_H)) (a0 : Nat) (a1 : Int32) (a2 : Int32) (a4 : Int32) (a6 : Int32) (s0 : Int32) (s1 : Int32) (h : pg_H) : Option (Int32 × pg_H) := pg_let (s1 + s0) fun v1 => Option.bind (pg_gI 12 6 h a0) fun v2 => (if a6 = 0 then (F_X12_row_253 k56 a0 a1 a2 v1 a4 (1 : Int32) v2 a0 h) else (F_X12_row_253 k56 a0 a1 a2 v1 a4 (0 : Int32) v2 a0 h))
def F_X12_row_225 (k56 : Nat → Int32 → Int32 → Int32 → Int32 → pg_H → Option (Int32 × pg_H)) (a0 : Nat) (a1 : Int32) (a2 : Int32) (a3 : Int32) (a4 : Int32) (a6 : Int32) (h : pg_H) : Option (Int32 × pg_H) := (if a6 = 0 then (F_X12_row_236 k56 a0 a1 a2 a4 a6 (0 : Int32) a3 h) else (F_X12_row_236 k56 a0 a1 a2 a4 a6 (1 : Int32) a3 h))
def F_X12_row_194 (k56 : Nat → Int32 → Int32 → Int32 → Int32 → pg_H → Option (Int32 × pg_H)) (a0 : Nat) (a1 : Int32) (a2 : Int32) (a3 : Int32) (a4 : Int32) (a5 : Int32) (s0 : Int32) (h : pg_H) : Option (Int32 × pg_H) := (if s0 = 0 then (F_X12_row_225 k56 a0 a1 a2 a3 a4 s0 h) else Option.bind (pg_gR 12 8 h a0) fun v1 => Option.bind (pg_aI 20 h v1 a4) fun v2 => Option.bind (pg_gR 12 8 h a0) fun v3 => Option.bind (pg_aI 20 h v3 (a4 + (1 : Int32))) fun v4 => Option.bind (pg_rcv 12 h a0 (F_X12_notes a0 a1 v2 v4 a5 (0 : Int32) h)) fun v5 => (F_X12_row_225 k56 a0 a1 a2 a3 a4 s0 v5))
def F_X12_row_193 (k56 : Nat → Int32 → Int32 → Int32 → Int32 → pg_H → Option (Int32 × pg_H)) (a0 : Nat) (a1 : Int32) (a2 : Int32) (a3 : Int32) (a4 : Int32) (a5 : Int32) (h : pg_H) : Option (Int32 × pg_H) := (F_X12_row_194 k56 a0 a1 a2 a3 a4 a5 (0 : Int32) h)
def F_X12_row_151 (k56 : Nat → Int32 → Int32 → Int32 → Int32 → pg_H → Option (Int32 × pg_H)) (a0 : Nat) (a1 : Int32) (a2 : Int32) (a3 : Int32) (a4 : Int32) (a5 : Int32) (h : pg_H) : Option (Int32 × pg_H) := Option.bind (pg_gR 12 3 h a0) fun v1 => Option.bind (pg_aI 21 h v1 (1347 : Int32)) fun v2 => (if v2 < (200 : Int32) then Option.bind (pg_gR 12 8 h a0) fun v3 => Option.bind (pg_aI 20 h v3 a4) fun v4 => Option.bind (pg_gR 12 8 h a0) fun v5 => Option.bind (pg_aI 20 h v5 (a4 + (1 : Int32))) fun v6 => Option.bind (pg_rcv 12 h a0 (F_X12_has h a0 a1 v4 v6)) fun v7 => (if v7 = 0 then (F_X12_row_194 k56 a0 a1 a2 a3 a4 a5 (1 : Int32) h) else (F_X12_row_193 k56 a0 a1 a2 a3 a4 a5 h)) else (F_X12_row_193 k56 a0 a1 a2 a3 a4 a5 h))
def F_X12_row_100 (k56 : Nat → Int32 → Int32 → Int32 → Int32 → pg_H → Option (Int32 × pg_H)) (a0 : Nat) (a1 : Int32) (a2 : Int32) (a3 : Int32) (a4 : Int32) (s0 : Int32) (h : pg_H) : Option (Int32 × pg_H) := Option.bind (pg_gR 12 8 h a0) fun v1 => Option.bind (pg_aI 20 h v1 a4) fun v2 => Option.bind (F_X12_lies v2 (0 : Int32) (59 : Int32)) fun v3 => (if v3 = 0 then (F_X12_row_193 k56 a0 a1 a2 a3 a4 s0 h) else Option.bind (pg_gR 12 8 h a0) fun v4 => Option.bind (pg_aI 20 h v4 (a4 + (1 : Int32))) fun v5 => Option.bind (F_X12_lies v5 (0 : Int32) (99 : Int32)) fun v6 => (if v6 = 0 then (F_X12_row_193 k56 a0 a1 a2 a3 a4 s0 h) else (if s0 = (-1 : Int32) then (F_X12_row_151 k56 a0 a1 a2 a3 a4 s0 h) else Option.bind (pg_rcv 12 h a0 (F_X12_isHand h a0 s0)) fun v7 => (if v7 = 0 then (F_X12_row_193 k56 a0 a1 a2 a3 a4 s0 h) else (F_X12_row_151 k56 a0 a1 a2 a3 a4 s0 h)))))
def F_X12_row_56  : Nat → Nat → Int32 → Int32 → Int32 → Int32 → pg_H → Option (Int32 × pg_H)
  | 0 => fun _ _ _ _ _ _ => none
  | n + 1 => fun a0 a1 a2 a3 a4 h => (if a2 < (a4 + (3 : Int32)) then Option.bind (pg_rcv 12 h a0 (F_X12_good a0 a3 h)) fun v1 => (some (v1.1, v1.2)) else Option.bind (pg_gR 12 8 h a0) fun v2 => Option.bind (pg_aI 20 h v2 (a4 + (2 : Int32))) fun v3 => (if (v3 &&& (255 : Int32)) = (255 : Int32) then (F_X12_row_100 (F_X12_row_56 n) a0 a1 a2 a3 a4 (-1 : Int32) h) else Option.bind (pg_gR 12 8 h a0) fun v4 => Option.bind (pg_aI 20 h v4 (a4 + (2 : Int32))) fun v5 => (F_X12_row_100 (F_X12_row_56 n) a0 a1 a2 a3 a4 (v5 &&& (255 : Int32)) h)))
def F_X12_row_50 (a0 : Nat) (a1 : Int32) (a2 : Int32) (a3 : Int32) (s0 : Int32) (s1 : Nat) (h : pg_H) : Option (Int32 × pg_H) := Option.bind (pg_pI 12 6 h s1 s0) fun v1 => (F_X12_row_56 pg_fuel a0 a1 a2 a3 (0 : Int32) v1)
def F_X12_row (a0 : Nat) (a1 : Int32) (h : pg_H) : Option (Int32 × pg_H) := Option.bind (pg_rcv 12 h a0 (F_X12_isCopy h a0 a1)) fun v1 => (if v1 = 0 then Option.bind (pg_rcv 12 h a0 (F_X12_refuses a0 (-2 : Int32) h)) fun v5 => (some (v5.1, v5.2)) else Option.bind (pg_gI 12 10 h a0) fun v2 => Option.bind (pg_pI 12 10 h a0 (0 : Int32)) fun v3 => (if v2 = 0 then Option.bind (pg_rcv 12 v3 a0 (F_X12_refuses a0 (-6 : Int32) v3)) fun v4 => (some (v4.1, v4.2)) else (if (3 : Int32) = 0 then none else (if (v2 - v2 / (3 : Int32) * (3 : Int32)) = 0 then (F_X12_row_50 a0 a1 v2 (0 : Int32) (0 : Int32) a0 v3) else (F_X12_row_50 a0 a1 v2 (0 : Int32) (1 : Int32) a0 v3)))))
theorem e_X12_row_253 (l : Launch) (D : pg_D)  (k56 : Nat → Int32 → Int32 → Int32 → Int32 → pg_H → Option (Int32 × pg_H)) (hk56 : ∀ (a0 : Nat) (a1 : Int32) (a2 : Int32) (a3 : Int32) (a4 : Int32) (h : pg_H), pg_EvF l D RX12 cX12_row 7 (some FieldType.int) "row" 2 46 pg_wI (k56 a0 a1 a2 a3 a4 h) 56 [(0, pR a0), (1, pI a1), (2, pI a2), (3, pI a3), (4, pI a4)] [] h) (a0 : Nat) (a1 : Int32) (a2 : Int32) (a3 : Int32) (a4 : Int32) (s0 : Int32) (s1 : Int32) (s2 : Nat) (h : pg_H) : pg_EvF l D RX12 cX12_row 7 (some FieldType.int) "row" 2 46 pg_wI (F_X12_row_253 k56 a0 a1 a2 a3 a4 s0 s1 s2 h) 253 [(0, pR a0), (1, pI a1), (2, pI a2), (3, pI a3), (4, pI a4)] [pI s0, pI s1, pR s2] h := by
  unfold F_X12_row_253
  refine pg_iadd dX12_row_253 ?_
  refine pg_putI dX12_row_254 fl_RX12_166 (fun z => by cases z) (fun v1 => ?_)
  refine pg_iinc (lv' := [(4, pI (a4 + (3 : Int32))), (0, pR a0), (1, pI a1), (2, pI a2), (3, pI a3)]) dX12_row_257 4 rfl ci_3 (by decide) rfl ?_
  refine pg_goto (tgt := 56) dX12_row_260 rfl ?_
  exact pg_to (hk56 a0 a1 a2 a3 (a4 + (3 : Int32)) v1) [1, 2, 3, 4, 0] rfl
theorem e_X12_row_236 (l : Launch) (D : pg_D)  (k56 : Nat → Int32 → Int32 → Int32 → Int32 → pg_H → Option (Int32 × pg_H)) (hk56 : ∀ (a0 : Nat) (a1 : Int32) (a2 : Int32) (a3 : Int32) (a4 : Int32) (h : pg_H), pg_EvF l D RX12 cX12_row 7 (some FieldType.int) "row" 2 46 pg_wI (k56 a0 a1 a2 a3 a4 h) 56 [(0, pR a0), (1, pI a1), (2, pI a2), (3, pI a3), (4, pI a4)] [] h) (a0 : Nat) (a1 : Int32) (a2 : Int32) (a4 : Int32) (a6 : Int32) (s0 : Int32) (s1 : Int32) (h : pg_H) : pg_EvF l D RX12 cX12_row 7 (some FieldType.int) "row" 2 46 pg_wI (F_X12_row_236 k56 a0 a1 a2 a4 a6 s0 s1 h) 236 [(0, pR a0), (1, pI a1), (2, pI a2), (4, pI a4), (6, pI a6)] [pI s0, pI s1] h := by
  unfold F_X12_row_236
  refine pg_iadd dX12_row_236 ?_
  refine pg_letI (fun v1 => ?_)
  refine pg_istore_n (i := 3) (lv' := [(3, pI v1), (0, pR a0), (1, pI a1), (2, pI a2), (4, pI a4), (6, pI a6)]) dX12_row_237 rfl (by decide) rfl ?_
  refine pg_aload_n (i := 0) dX12_row_238 rfl 1 rfl ?_
  refine pg_dup dX12_row_239 rfl ?_
  refine pg_getI dX12_row_240 fl_RX12_166 rfl (fun v2 => ?_)
  refine pg_iload dX12_row_243 5 rfl ?_
  refine pg_if_eq (tgt := 252) dX12_row_245 rfl ?_ ?_
  · refine pg_iconst dX12_row_252 ci_1 ?_
    exact pg_to (e_X12_row_253 l D k56 hk56 a0 a1 a2 v1 a4 (1 : Int32) v2 a0 h) [1, 2, 3, 0, 4] rfl
  · refine pg_iconst dX12_row_248 ci_0 ?_
    refine pg_goto (tgt := 253) dX12_row_249 rfl ?_
    exact pg_to (e_X12_row_253 l D k56 hk56 a0 a1 a2 v1 a4 (0 : Int32) v2 a0 h) [1, 2, 3, 0, 4] rfl
theorem e_X12_row_225 (l : Launch) (D : pg_D)  (k56 : Nat → Int32 → Int32 → Int32 → Int32 → pg_H → Option (Int32 × pg_H)) (hk56 : ∀ (a0 : Nat) (a1 : Int32) (a2 : Int32) (a3 : Int32) (a4 : Int32) (h : pg_H), pg_EvF l D RX12 cX12_row 7 (some FieldType.int) "row" 2 46 pg_wI (k56 a0 a1 a2 a3 a4 h) 56 [(0, pR a0), (1, pI a1), (2, pI a2), (3, pI a3), (4, pI a4)] [] h) (a0 : Nat) (a1 : Int32) (a2 : Int32) (a3 : Int32) (a4 : Int32) (a6 : Int32) (h : pg_H) : pg_EvF l D RX12 cX12_row 7 (some FieldType.int) "row" 2 46 pg_wI (F_X12_row_225 k56 a0 a1 a2 a3 a4 a6 h) 225 [(0, pR a0), (1, pI a1), (2, pI a2), (3, pI a3), (4, pI a4), (6, pI a6)] [] h := by
  unfold F_X12_row_225
  refine pg_iload_n (i := 3) dX12_row_225 rfl 3 rfl ?_
  refine pg_iload dX12_row_226 5 rfl ?_
  refine pg_if_eq (tgt := 235) dX12_row_228 rfl ?_ ?_
  · refine pg_iconst dX12_row_235 ci_0 ?_
    exact pg_to (e_X12_row_236 l D k56 hk56 a0 a1 a2 a4 a6 (0 : Int32) a3 h) [0, 1, 2, 4, 5] rfl
  · refine pg_iconst dX12_row_231 ci_1 ?_
    refine pg_goto (tgt := 236) dX12_row_232 rfl ?_
    exact pg_to (e_X12_row_236 l D k56 hk56 a0 a1 a2 a4 a6 (1 : Int32) a3 h) [0, 1, 2, 4, 5] rfl
theorem e_X12_row_194 (l : Launch) (D : pg_D)  (k56 : Nat → Int32 → Int32 → Int32 → Int32 → pg_H → Option (Int32 × pg_H)) (hk56 : ∀ (a0 : Nat) (a1 : Int32) (a2 : Int32) (a3 : Int32) (a4 : Int32) (h : pg_H), pg_EvF l D RX12 cX12_row 7 (some FieldType.int) "row" 2 46 pg_wI (k56 a0 a1 a2 a3 a4 h) 56 [(0, pR a0), (1, pI a1), (2, pI a2), (3, pI a3), (4, pI a4)] [] h) (a0 : Nat) (a1 : Int32) (a2 : Int32) (a3 : Int32) (a4 : Int32) (a5 : Int32) (s0 : Int32) (h : pg_H) : pg_EvF l D RX12 cX12_row 7 (some FieldType.int) "row" 2 46 pg_wI (F_X12_row_194 k56 a0 a1 a2 a3 a4 a5 s0 h) 194 [(0, pR a0), (1, pI a1), (2, pI a2), (3, pI a3), (4, pI a4), (5, pI a5)] [pI s0] h := by
  unfold F_X12_row_194
  refine pg_istore (lv' := [(6, pI s0), (0, pR a0), (1, pI a1), (2, pI a2), (3, pI a3), (4, pI a4), (5, pI a5)]) dX12_row_194 (by decide) rfl ?_
  refine pg_iload dX12_row_196 0 rfl ?_
  refine pg_if_eq (tgt := 225) dX12_row_198 rfl ?_ ?_
  · exact pg_to (e_X12_row_225 l D k56 hk56 a0 a1 a2 a3 a4 s0 h) [1, 2, 3, 4, 5, 0] rfl
  · refine pg_aload_n (i := 0) dX12_row_201 rfl 1 rfl ?_
    refine pg_iload_n (i := 1) dX12_row_202 rfl 2 rfl ?_
    refine pg_aload_n (i := 0) dX12_row_203 rfl 1 rfl ?_
    refine pg_getR dX12_row_204 fl_RX12_34 rfl (fun v1 => ?_)
    refine pg_iload dX12_row_207 5 rfl ?_
    refine pg_baload dX12_row_209 (fun v2 => ?_)
    refine pg_aload_n (i := 0) dX12_row_210 rfl 1 rfl ?_
    refine pg_getR dX12_row_211 fl_RX12_34 rfl (fun v3 => ?_)
    refine pg_iload dX12_row_214 5 rfl ?_
    refine pg_iconst dX12_row_216 ci_1 ?_
    refine pg_iadd dX12_row_217 ?_
    refine pg_baload dX12_row_218 (fun v4 => ?_)
    refine pg_iload dX12_row_219 6 rfl ?_
    refine pg_iconst dX12_row_221 ci_0 ?_
    refine pg_callV_wV (As := [pI a1, pI v2, pI v4, pI a5, pI (0 : Int32)]) (rs := []) dX12_row_222 lk_RX12_156 vy_X12_notes nd_X12_notes (c_X12_notes l D a0 a1 v2 v4 a5 (0 : Int32) h) rfl rfl (Nat.le_of_ble_eq_true rfl) (by decide) (by decide) (fun v5 => ?_)
    exact pg_to (e_X12_row_225 l D k56 hk56 a0 a1 a2 a3 a4 s0 v5) [1, 2, 3, 4, 5, 0] rfl
theorem e_X12_row_193 (l : Launch) (D : pg_D)  (k56 : Nat → Int32 → Int32 → Int32 → Int32 → pg_H → Option (Int32 × pg_H)) (hk56 : ∀ (a0 : Nat) (a1 : Int32) (a2 : Int32) (a3 : Int32) (a4 : Int32) (h : pg_H), pg_EvF l D RX12 cX12_row 7 (some FieldType.int) "row" 2 46 pg_wI (k56 a0 a1 a2 a3 a4 h) 56 [(0, pR a0), (1, pI a1), (2, pI a2), (3, pI a3), (4, pI a4)] [] h) (a0 : Nat) (a1 : Int32) (a2 : Int32) (a3 : Int32) (a4 : Int32) (a5 : Int32) (h : pg_H) : pg_EvF l D RX12 cX12_row 7 (some FieldType.int) "row" 2 46 pg_wI (F_X12_row_193 k56 a0 a1 a2 a3 a4 a5 h) 193 [(0, pR a0), (1, pI a1), (2, pI a2), (3, pI a3), (4, pI a4), (5, pI a5)] [] h := by
  unfold F_X12_row_193
  refine pg_iconst dX12_row_193 ci_0 ?_
  exact pg_to (e_X12_row_194 l D k56 hk56 a0 a1 a2 a3 a4 a5 (0 : Int32) h) [0, 1, 2, 3, 4, 5] rfl
theorem e_X12_row_151 (l : Launch) (D : pg_D)  (k56 : Nat → Int32 → Int32 → Int32 → Int32 → pg_H → Option (Int32 × pg_H)) (hk56 : ∀ (a0 : Nat) (a1 : Int32) (a2 : Int32) (a3 : Int32) (a4 : Int32) (h : pg_H), pg_EvF l D RX12 cX12_row 7 (some FieldType.int) "row" 2 46 pg_wI (k56 a0 a1 a2 a3 a4 h) 56 [(0, pR a0), (1, pI a1), (2, pI a2), (3, pI a3), (4, pI a4)] [] h) (a0 : Nat) (a1 : Int32) (a2 : Int32) (a3 : Int32) (a4 : Int32) (a5 : Int32) (h : pg_H) : pg_EvF l D RX12 cX12_row 7 (some FieldType.int) "row" 2 46 pg_wI (F_X12_row_151 k56 a0 a1 a2 a3 a4 a5 h) 151 [(0, pR a0), (1, pI a1), (2, pI a2), (3, pI a3), (4, pI a4), (5, pI a5)] [] h := by
  unfold F_X12_row_151
  refine pg_aload_n (i := 0) dX12_row_151 rfl 0 rfl ?_
  refine pg_getR dX12_row_152 fl_RX12_20 rfl (fun v1 => ?_)
  refine pg_sipush dX12_row_155 cs_1347 ?_
  refine pg_iaload dX12_row_158 (fun v2 => ?_)
  refine pg_sipush dX12_row_159 cs_200 ?_
  refine pg_icmp_ge (tgt := 193) dX12_row_162 rfl ?_ ?_
  · exact pg_to (e_X12_row_193 l D k56 hk56 a0 a1 a2 a3 a4 a5 h) [0, 1, 2, 3, 4, 5] rfl
  · refine pg_aload_n (i := 0) dX12_row_165 rfl 0 rfl ?_
    refine pg_iload_n (i := 1) dX12_row_166 rfl 1 rfl ?_
    refine pg_aload_n (i := 0) dX12_row_167 rfl 0 rfl ?_
    refine pg_getR dX12_row_168 fl_RX12_34 rfl (fun v3 => ?_)
    refine pg_iload dX12_row_171 4 rfl ?_
    refine pg_baload dX12_row_173 (fun v4 => ?_)
    refine pg_aload_n (i := 0) dX12_row_174 rfl 0 rfl ?_
    refine pg_getR dX12_row_175 fl_RX12_34 rfl (fun v5 => ?_)
    refine pg_iload dX12_row_178 4 rfl ?_
    refine pg_iconst dX12_row_180 ci_1 ?_
    refine pg_iadd dX12_row_181 ?_
    refine pg_baload dX12_row_182 (fun v6 => ?_)
    refine pg_callV_oI (As := [pI a1, pI v4, pI v6]) (rs := []) dX12_row_183 lk_RX12_146 vy_X12_has nd_X12_has (c_X12_has l D h a0 a1 v4 v6) rfl rfl (Nat.le_of_ble_eq_true rfl) (by decide) (by decide) (fun v7 => ?_)
    refine pg_if_ne (tgt := 193) dX12_row_186 rfl ?_ ?_
    · exact pg_to (e_X12_row_193 l D k56 hk56 a0 a1 a2 a3 a4 a5 h) [0, 1, 2, 3, 4, 5] rfl
    · refine pg_iconst dX12_row_189 ci_1 ?_
      refine pg_goto (tgt := 194) dX12_row_190 rfl ?_
      exact pg_to (e_X12_row_194 l D k56 hk56 a0 a1 a2 a3 a4 a5 (1 : Int32) h) [0, 1, 2, 3, 4, 5] rfl
theorem e_X12_row_100 (l : Launch) (D : pg_D)  (k56 : Nat → Int32 → Int32 → Int32 → Int32 → pg_H → Option (Int32 × pg_H)) (hk56 : ∀ (a0 : Nat) (a1 : Int32) (a2 : Int32) (a3 : Int32) (a4 : Int32) (h : pg_H), pg_EvF l D RX12 cX12_row 7 (some FieldType.int) "row" 2 46 pg_wI (k56 a0 a1 a2 a3 a4 h) 56 [(0, pR a0), (1, pI a1), (2, pI a2), (3, pI a3), (4, pI a4)] [] h) (a0 : Nat) (a1 : Int32) (a2 : Int32) (a3 : Int32) (a4 : Int32) (s0 : Int32) (h : pg_H) : pg_EvF l D RX12 cX12_row 7 (some FieldType.int) "row" 2 46 pg_wI (F_X12_row_100 k56 a0 a1 a2 a3 a4 s0 h) 100 [(0, pR a0), (1, pI a1), (2, pI a2), (3, pI a3), (4, pI a4)] [pI s0] h := by
  unfold F_X12_row_100
  refine pg_istore (lv' := [(5, pI s0), (0, pR a0), (1, pI a1), (2, pI a2), (3, pI a3), (4, pI a4)]) dX12_row_100 (by decide) rfl ?_
  refine pg_aload_n (i := 0) dX12_row_102 rfl 1 rfl ?_
  refine pg_getR dX12_row_103 fl_RX12_34 rfl (fun v1 => ?_)
  refine pg_iload dX12_row_106 5 rfl ?_
  refine pg_baload dX12_row_108 (fun v2 => ?_)
  refine pg_iconst dX12_row_109 ci_0 ?_
  refine pg_bipush dX12_row_110 cb_59 ?_
  refine pg_callS_oI (As := [pI v2, pI (0 : Int32), pI (59 : Int32)]) (rs := []) dX12_row_112 lk_RX12_113 vy_X12_lies nd_X12_lies (c_X12_lies l D v2 (0 : Int32) (59 : Int32) h) rfl rfl (Nat.le_of_ble_eq_true rfl) (by decide) (by decide) (fun v3 => ?_)
  refine pg_if_eq (tgt := 193) dX12_row_115 rfl ?_ ?_
  · exact pg_to (e_X12_row_193 l D k56 hk56 a0 a1 a2 a3 a4 s0 h) [1, 2, 3, 4, 5, 0] rfl
  · refine pg_aload_n (i := 0) dX12_row_118 rfl 1 rfl ?_
    refine pg_getR dX12_row_119 fl_RX12_34 rfl (fun v4 => ?_)
    refine pg_iload dX12_row_122 5 rfl ?_
    refine pg_iconst dX12_row_124 ci_1 ?_
    refine pg_iadd dX12_row_125 ?_
    refine pg_baload dX12_row_126 (fun v5 => ?_)
    refine pg_iconst dX12_row_127 ci_0 ?_
    refine pg_bipush dX12_row_128 cb_99 ?_
    refine pg_callS_oI (As := [pI v5, pI (0 : Int32), pI (99 : Int32)]) (rs := []) dX12_row_130 lk_RX12_113 vy_X12_lies nd_X12_lies (c_X12_lies l D v5 (0 : Int32) (99 : Int32) h) rfl rfl (Nat.le_of_ble_eq_true rfl) (by decide) (by decide) (fun v6 => ?_)
    refine pg_if_eq (tgt := 193) dX12_row_133 rfl ?_ ?_
    · exact pg_to (e_X12_row_193 l D k56 hk56 a0 a1 a2 a3 a4 s0 h) [1, 2, 3, 4, 5, 0] rfl
    · refine pg_iload dX12_row_136 0 rfl ?_
      refine pg_iconst dX12_row_138 ci_m1 ?_
      refine pg_icmp_eq (tgt := 151) dX12_row_139 rfl ?_ ?_
      · exact pg_to (e_X12_row_151 l D k56 hk56 a0 a1 a2 a3 a4 s0 h) [1, 2, 3, 4, 5, 0] rfl
      · refine pg_aload_n (i := 0) dX12_row_142 rfl 1 rfl ?_
        refine pg_iload dX12_row_143 0 rfl ?_
        refine pg_callV_oI (As := [pI s0]) (rs := []) dX12_row_145 lk_RX12_140 vy_X12_isHand nd_X12_isHand (c_X12_isHand l D h a0 s0) rfl rfl (Nat.le_of_ble_eq_true rfl) (by decide) (by decide) (fun v7 => ?_)
        refine pg_if_eq (tgt := 193) dX12_row_148 rfl ?_ ?_
        · exact pg_to (e_X12_row_193 l D k56 hk56 a0 a1 a2 a3 a4 s0 h) [1, 2, 3, 4, 5, 0] rfl
        · exact pg_to (e_X12_row_151 l D k56 hk56 a0 a1 a2 a3 a4 s0 h) [1, 2, 3, 4, 5, 0] rfl
theorem e_X12_row_56 (l : Launch) (D : pg_D)   : ∀ (n : Nat) (a0 : Nat) (a1 : Int32) (a2 : Int32) (a3 : Int32) (a4 : Int32) (h : pg_H), pg_EvF l D RX12 cX12_row 7 (some FieldType.int) "row" 2 46 pg_wI (F_X12_row_56 n a0 a1 a2 a3 a4 h) 56 [(0, pR a0), (1, pI a1), (2, pI a2), (3, pI a3), (4, pI a4)] [] h := by
  intro n
  induction n with
  | zero => intro a0 a1 a2 a3 a4 h; exact pg_none
  | succ n ih =>
    intro a0 a1 a2 a3 a4 h
    rw [F_X12_row_56]
    refine pg_iload dX12_row_56 4 rfl ?_
    refine pg_iconst dX12_row_58 ci_3 ?_
    refine pg_iadd dX12_row_59 ?_
    refine pg_iload_n (i := 2) dX12_row_60 rfl 2 rfl ?_
    refine pg_icmp_gt (tgt := 263) dX12_row_61 rfl ?_ ?_
    · refine pg_aload_n (i := 0) dX12_row_263 rfl 0 rfl ?_
      refine pg_iload_n (i := 3) dX12_row_264 rfl 3 rfl ?_
      refine pg_callV_wI (As := [pI a3]) (rs := []) dX12_row_265 lk_RX12_121 vy_X12_good nd_X12_good (c_X12_good l D a0 a3 h) rfl rfl (Nat.le_of_ble_eq_true rfl) (by decide) (by decide) (fun v1 => ?_)
      exact pg_iret dX12_row_268 rfl rfl
    · refine pg_aload_n (i := 0) dX12_row_64 rfl 0 rfl ?_
      refine pg_getR dX12_row_65 fl_RX12_34 rfl (fun v2 => ?_)
      refine pg_iload dX12_row_68 4 rfl ?_
      refine pg_iconst dX12_row_70 ci_2 ?_
      refine pg_iadd dX12_row_71 ?_
      refine pg_baload dX12_row_72 (fun v3 => ?_)
      refine pg_sipush dX12_row_73 cs_255 ?_
      refine pg_iand dX12_row_76 ?_
      refine pg_sipush dX12_row_77 cs_255 ?_
      refine pg_icmp_ne (tgt := 87) dX12_row_80 rfl ?_ ?_
      · refine pg_aload_n (i := 0) dX12_row_87 rfl 0 rfl ?_
        refine pg_getR dX12_row_88 fl_RX12_34 rfl (fun v4 => ?_)
        refine pg_iload dX12_row_91 4 rfl ?_
        refine pg_iconst dX12_row_93 ci_2 ?_
        refine pg_iadd dX12_row_94 ?_
        refine pg_baload dX12_row_95 (fun v5 => ?_)
        refine pg_sipush dX12_row_96 cs_255 ?_
        refine pg_iand dX12_row_99 ?_
        exact pg_to (e_X12_row_100 l D (F_X12_row_56 n) ih a0 a1 a2 a3 a4 (v5 &&& (255 : Int32)) h) [0, 1, 2, 3, 4] rfl
      · refine pg_iconst dX12_row_83 ci_m1 ?_
        refine pg_goto (tgt := 100) dX12_row_84 rfl ?_
        exact pg_to (e_X12_row_100 l D (F_X12_row_56 n) ih a0 a1 a2 a3 a4 (-1 : Int32) h) [0, 1, 2, 3, 4] rfl
theorem e_X12_row_50 (l : Launch) (D : pg_D)  (a0 : Nat) (a1 : Int32) (a2 : Int32) (a3 : Int32) (s0 : Int32) (s1 : Nat) (h : pg_H) : pg_EvF l D RX12 cX12_row 7 (some FieldType.int) "row" 2 46 pg_wI (F_X12_row_50 a0 a1 a2 a3 s0 s1 h) 50 [(0, pR a0), (1, pI a1), (2, pI a2), (3, pI a3)] [pI s0, pR s1] h := by
  unfold F_X12_row_50
  refine pg_putI dX12_row_50 fl_RX12_166 (fun z => by cases z) (fun v1 => ?_)
  refine pg_iconst dX12_row_53 ci_0 ?_
  refine pg_istore (lv' := [(4, pI (0 : Int32)), (0, pR a0), (1, pI a1), (2, pI a2), (3, pI a3)]) dX12_row_54 (by decide) rfl ?_
  exact pg_to (e_X12_row_56 l D pg_fuel a0 a1 a2 a3 (0 : Int32) v1) [1, 2, 3, 4, 0] rfl
theorem e_X12_row (l : Launch) (D : pg_D)  (a0 : Nat) (a1 : Int32) (h : pg_H) : pg_EvF l D RX12 cX12_row 7 (some FieldType.int) "row" 2 46 pg_wI (F_X12_row a0 a1 h) 0 [(0, pR a0), (1, pI a1)] [] h := by
  unfold F_X12_row
  refine pg_aload_n (i := 0) dX12_row_0 rfl 0 rfl ?_
  refine pg_iload_n (i := 1) dX12_row_1 rfl 1 rfl ?_
  refine pg_callV_oI (As := [pI a1]) (rs := []) dX12_row_2 lk_RX12_128 vy_X12_isCopy nd_X12_isCopy (c_X12_isCopy l D h a0 a1) rfl rfl (Nat.le_of_ble_eq_true rfl) (by decide) (by decide) (fun v1 => ?_)
  refine pg_if_ne (tgt := 15) dX12_row_5 rfl ?_ ?_
  · refine pg_aload_n (i := 0) dX12_row_15 rfl 0 rfl ?_
    refine pg_getI dX12_row_16 fl_RX12_163 rfl (fun v2 => ?_)
    refine pg_istore_n (i := 2) (lv' := [(2, pI v2), (0, pR a0), (1, pI a1)]) dX12_row_19 rfl (by decide) rfl ?_
    refine pg_aload_n (i := 0) dX12_row_20 rfl 1 rfl ?_
    refine pg_iconst dX12_row_21 ci_0 ?_
    refine pg_putI dX12_row_22 fl_RX12_163 (fun z => by cases z) (fun v3 => ?_)
    refine pg_iload_n (i := 2) dX12_row_25 rfl 0 rfl ?_
    refine pg_if_ne (tgt := 36) dX12_row_26 rfl ?_ ?_
    · refine pg_iconst dX12_row_36 ci_0 ?_
      refine pg_istore_n (i := 3) (lv' := [(3, pI (0 : Int32)), (2, pI v2), (0, pR a0), (1, pI a1)]) dX12_row_37 rfl (by decide) rfl ?_
      refine pg_aload_n (i := 0) dX12_row_38 rfl 2 rfl ?_
      refine pg_iload_n (i := 2) dX12_row_39 rfl 1 rfl ?_
      refine pg_iconst dX12_row_40 ci_3 ?_
      refine pg_irem dX12_row_41 ?_
      refine pg_if_ne (tgt := 49) dX12_row_42 rfl ?_ ?_
      · refine pg_iconst dX12_row_49 ci_1 ?_
        exact pg_to (e_X12_row_50 l D a0 a1 v2 (0 : Int32) (1 : Int32) a0 v3) [2, 3, 1, 0] rfl
      · refine pg_iconst dX12_row_45 ci_0 ?_
        refine pg_goto (tgt := 50) dX12_row_46 rfl ?_
        exact pg_to (e_X12_row_50 l D a0 a1 v2 (0 : Int32) (0 : Int32) a0 v3) [2, 3, 1, 0] rfl
    · refine pg_aload_n (i := 0) dX12_row_29 rfl 1 rfl ?_
      refine pg_bipush dX12_row_30 cb_m6 ?_
      refine pg_callV_wI (As := [pI (-6 : Int32)]) (rs := []) dX12_row_32 lk_RX12_117 vy_X12_refuses nd_X12_refuses (c_X12_refuses l D a0 (-6 : Int32) v3) rfl rfl (Nat.le_of_ble_eq_true rfl) (by decide) (by decide) (fun v4 => ?_)
      exact pg_iret dX12_row_35 rfl rfl
  · refine pg_aload_n (i := 0) dX12_row_8 rfl 0 rfl ?_
    refine pg_bipush dX12_row_9 cb_m2 ?_
    refine pg_callV_wI (As := [pI (-2 : Int32)]) (rs := []) dX12_row_11 lk_RX12_117 vy_X12_refuses nd_X12_refuses (c_X12_refuses l D a0 (-2 : Int32) h) rfl rfl (Nat.le_of_ble_eq_true rfl) (by decide) (by decide) (fun v5 => ?_)
    exact pg_iret dX12_row_14 rfl rfl
theorem c_X12_row (l : Launch) (D : pg_D) (a0 : Nat) (a1 : Int32) (h : pg_H) : ∀ x, F_X12_row a0 a1 h = some x → pg_Ct l D yX12_row cX12_row 7 (some FieldType.int) 2 46 [pR a0, pI a1] h (pg_wI x) :=
  pg_Ct.of pn_RX12 (Nat.le_of_ble_eq_true rfl) (e_X12_row l D a0 a1 h)
def F_X12_trimmed (h : pg_H) (a0 : Nat) : Option Int32 := Option.bind (pg_gI 12 6 h a0) fun v1 => (some v1)
theorem e_X12_trimmed (l : Launch) (D : pg_D)  (h : pg_H) (a0 : Nat) : pg_EvF l D RX12 cX12_trimmed 1 (some FieldType.int) "trimmed" 0 0 (pg_oI h) (F_X12_trimmed h a0) 0 [(0, pR a0)] [] h := by
  unfold F_X12_trimmed
  refine pg_aload_n (i := 0) dX12_trimmed_0 rfl 0 rfl ?_
  refine pg_getI dX12_trimmed_1 fl_RX12_166 rfl (fun v1 => ?_)
  exact pg_iret dX12_trimmed_4 rfl rfl
theorem c_X12_trimmed (l : Launch) (D : pg_D) (h : pg_H) (a0 : Nat)  : ∀ x, F_X12_trimmed h a0 = some x → pg_Ct l D yX12_trimmed cX12_trimmed 1 (some FieldType.int) 0 0 [pR a0] h (pg_oI h x) :=
  pg_Ct.of pn_RX12 (Nat.le_of_ble_eq_true rfl) (e_X12_trimmed l D h a0)
def F_X12_feed_55  : Nat → Nat → Int32 → pg_H → Option (Int32 × pg_H)
  | 0 => fun _ _ _ => none
  | n + 1 => fun a0 a6 h => (if a6 < (20 : Int32) then Option.bind (pg_gR 12 8 h a0) fun v4 => Option.bind (pg_gI 12 10 h a0) fun v5 => Option.bind (pg_gR 12 9 h a0) fun v6 => (if (4 : Int32) = 0 then none else Option.bind (pg_aI 21 h v6 (a6 / (4 : Int32))) fun v7 => (if (4 : Int32) = 0 then none else Option.bind (pg_sI 20 h v4 (v5 + a6) ((v7 >>> (((24 : Int32) - ((8 : Int32) * (a6 - a6 / (4 : Int32) * (4 : Int32)))) &&& 31))).toInt8.toInt32) fun v8 => (F_X12_feed_55 n a0 (a6 + (1 : Int32)) v8))) else Option.bind (pg_gI 12 10 h a0) fun v1 => Option.bind (pg_pI 12 10 h a0 (v1 + (20 : Int32))) fun v2 => Option.bind (pg_gI 12 10 v2 a0) fun v3 => (some (v3, v2)))
def F_X12_feed (a0 : Nat) (a1 : Int32) (a2 : Int32) (a3 : Int32) (a4 : Int32) (a5 : Int32) (h : pg_H) : Option (Int32 × pg_H) := Option.bind (pg_gI 12 10 h a0) fun v1 => (if (400 : Int32) < (v1 + (20 : Int32)) then (some ((-1 : Int32), h)) else Option.bind (pg_gR 12 9 h a0) fun v2 => Option.bind (pg_sI 21 h v2 (0 : Int32) a1) fun v3 => Option.bind (pg_gR 12 9 v3 a0) fun v4 => Option.bind (pg_sI 21 v3 v4 (1 : Int32) a2) fun v5 => Option.bind (pg_gR 12 9 v5 a0) fun v6 => Option.bind (pg_sI 21 v5 v6 (2 : Int32) a3) fun v7 => Option.bind (pg_gR 12 9 v7 a0) fun v8 => Option.bind (pg_sI 21 v7 v8 (3 : Int32) a4) fun v9 => Option.bind (pg_gR 12 9 v9 a0) fun v10 => Option.bind (pg_sI 21 v9 v10 (4 : Int32) a5) fun v11 => (F_X12_feed_55 pg_fuel a0 (0 : Int32) v11))
theorem e_X12_feed_55 (l : Launch) (D : pg_D)   : ∀ (n : Nat) (a0 : Nat) (a6 : Int32) (h : pg_H), pg_EvF l D RX12 cX12_feed 7 (some FieldType.int) "feed" 0 0 pg_wI (F_X12_feed_55 n a0 a6 h) 55 [(0, pR a0), (6, pI a6)] [] h := by
  intro n
  induction n with
  | zero => intro a0 a6 h; exact pg_none
  | succ n ih =>
    intro a0 a6 h
    rw [F_X12_feed_55]
    refine pg_iload dX12_feed_55 1 rfl ?_
    refine pg_bipush dX12_feed_57 cb_20 ?_
    refine pg_icmp_ge (tgt := 101) dX12_feed_59 rfl ?_ ?_
    · refine pg_aload_n (i := 0) dX12_feed_101 rfl 0 rfl ?_
      refine pg_dup dX12_feed_102 rfl ?_
      refine pg_getI dX12_feed_103 fl_RX12_163 rfl (fun v1 => ?_)
      refine pg_bipush dX12_feed_106 cb_20 ?_
      refine pg_iadd dX12_feed_108 ?_
      refine pg_putI dX12_feed_109 fl_RX12_163 (fun z => by cases z) (fun v2 => ?_)
      refine pg_aload_n (i := 0) dX12_feed_112 rfl 0 rfl ?_
      refine pg_getI dX12_feed_113 fl_RX12_163 rfl (fun v3 => ?_)
      exact pg_iret dX12_feed_116 rfl rfl
    · refine pg_aload_n (i := 0) dX12_feed_62 rfl 0 rfl ?_
      refine pg_getR dX12_feed_63 fl_RX12_34 rfl (fun v4 => ?_)
      refine pg_aload_n (i := 0) dX12_feed_66 rfl 0 rfl ?_
      refine pg_getI dX12_feed_67 fl_RX12_163 rfl (fun v5 => ?_)
      refine pg_iload dX12_feed_70 1 rfl ?_
      refine pg_iadd dX12_feed_72 ?_
      refine pg_aload_n (i := 0) dX12_feed_73 rfl 0 rfl ?_
      refine pg_getR dX12_feed_74 fl_RX12_37 rfl (fun v6 => ?_)
      refine pg_iload dX12_feed_77 1 rfl ?_
      refine pg_iconst dX12_feed_79 ci_4 ?_
      refine pg_idiv dX12_feed_80 ?_
      refine pg_iaload dX12_feed_81 (fun v7 => ?_)
      refine pg_bipush dX12_feed_82 cb_24 ?_
      refine pg_bipush dX12_feed_84 cb_8 ?_
      refine pg_iload dX12_feed_86 1 rfl ?_
      refine pg_iconst dX12_feed_88 ci_4 ?_
      refine pg_irem dX12_feed_89 ?_
      refine pg_imul dX12_feed_90 ?_
      refine pg_isub dX12_feed_91 ?_
      refine pg_ishr dX12_feed_92 ?_
      refine pg_i2b dX12_feed_93 ?_
      refine pg_bastore dX12_feed_94 (fun v8 => ?_)
      refine pg_iinc (lv' := [(6, pI (a6 + (1 : Int32))), (0, pR a0)]) dX12_feed_95 1 rfl ci_1 (by decide) rfl ?_
      refine pg_goto (tgt := 55) dX12_feed_98 rfl ?_
      exact pg_to (ih a0 (a6 + (1 : Int32)) v8) [1, 0] rfl
theorem e_X12_feed (l : Launch) (D : pg_D)  (a0 : Nat) (a1 : Int32) (a2 : Int32) (a3 : Int32) (a4 : Int32) (a5 : Int32) (h : pg_H) : pg_EvF l D RX12 cX12_feed 7 (some FieldType.int) "feed" 0 0 pg_wI (F_X12_feed a0 a1 a2 a3 a4 a5 h) 0 [(0, pR a0), (1, pI a1), (2, pI a2), (3, pI a3), (4, pI a4), (5, pI a5)] [] h := by
  unfold F_X12_feed
  refine pg_aload_n (i := 0) dX12_feed_0 rfl 0 rfl ?_
  refine pg_getI dX12_feed_1 fl_RX12_163 rfl (fun v1 => ?_)
  refine pg_bipush dX12_feed_4 cb_20 ?_
  refine pg_iadd dX12_feed_6 ?_
  refine pg_sipush dX12_feed_7 cs_400 ?_
  refine pg_icmp_le (tgt := 15) dX12_feed_10 rfl ?_ ?_
  · refine pg_aload_n (i := 0) dX12_feed_15 rfl 0 rfl ?_
    refine pg_getR dX12_feed_16 fl_RX12_37 rfl (fun v2 => ?_)
    refine pg_iconst dX12_feed_19 ci_0 ?_
    refine pg_iload_n (i := 1) dX12_feed_20 rfl 1 rfl ?_
    refine pg_iastore dX12_feed_21 (fun v3 => ?_)
    refine pg_aload_n (i := 0) dX12_feed_22 rfl 0 rfl ?_
    refine pg_getR dX12_feed_23 fl_RX12_37 rfl (fun v4 => ?_)
    refine pg_iconst dX12_feed_26 ci_1 ?_
    refine pg_iload_n (i := 2) dX12_feed_27 rfl 2 rfl ?_
    refine pg_iastore dX12_feed_28 (fun v5 => ?_)
    refine pg_aload_n (i := 0) dX12_feed_29 rfl 0 rfl ?_
    refine pg_getR dX12_feed_30 fl_RX12_37 rfl (fun v6 => ?_)
    refine pg_iconst dX12_feed_33 ci_2 ?_
    refine pg_iload_n (i := 3) dX12_feed_34 rfl 3 rfl ?_
    refine pg_iastore dX12_feed_35 (fun v7 => ?_)
    refine pg_aload_n (i := 0) dX12_feed_36 rfl 0 rfl ?_
    refine pg_getR dX12_feed_37 fl_RX12_37 rfl (fun v8 => ?_)
    refine pg_iconst dX12_feed_40 ci_3 ?_
    refine pg_iload dX12_feed_41 4 rfl ?_
    refine pg_iastore dX12_feed_43 (fun v9 => ?_)
    refine pg_aload_n (i := 0) dX12_feed_44 rfl 0 rfl ?_
    refine pg_getR dX12_feed_45 fl_RX12_37 rfl (fun v10 => ?_)
    refine pg_iconst dX12_feed_48 ci_4 ?_
    refine pg_iload dX12_feed_49 5 rfl ?_
    refine pg_iastore dX12_feed_51 (fun v11 => ?_)
    refine pg_iconst dX12_feed_52 ci_0 ?_
    refine pg_istore (lv' := [(6, pI (0 : Int32)), (0, pR a0), (1, pI a1), (2, pI a2), (3, pI a3), (4, pI a4), (5, pI a5)]) dX12_feed_53 (by decide) rfl ?_
    exact pg_to (e_X12_feed_55 l D pg_fuel a0 (0 : Int32) v11) [1, 0] rfl
  · refine pg_iconst dX12_feed_13 ci_m1 ?_
    exact pg_iret dX12_feed_14 rfl rfl
theorem c_X12_feed (l : Launch) (D : pg_D) (a0 : Nat) (a1 : Int32) (a2 : Int32) (a3 : Int32) (a4 : Int32) (a5 : Int32) (h : pg_H) : ∀ x, F_X12_feed a0 a1 a2 a3 a4 a5 h = some x → pg_Ct l D yX12_feed cX12_feed 7 (some FieldType.int) 0 0 [pR a0, pI a1, pI a2, pI a3, pI a4, pI a5] h (pg_wI x) :=
  pg_Ct.of pn_RX12 (Nat.le_of_ble_eq_true rfl) (e_X12_feed l D a0 a1 a2 a3 a4 a5 h)
def F_X12_end (a0 : Nat) (a1 : Int32) (h : pg_H) : Option (Int32 × pg_H) := Option.bind (pg_gI 12 10 h a0) fun v1 => Option.bind (F_X12_lies a1 (0 : Int32) v1) fun v2 => (if v2 = 0 then (some ((-1 : Int32), h)) else Option.bind (pg_pI 12 10 h a0 a1) fun v3 => (some (a1, v3)))
theorem e_X12_end (l : Launch) (D : pg_D)  (a0 : Nat) (a1 : Int32) (h : pg_H) : pg_EvF l D RX12 cX12_end 2 (some FieldType.int) "end" 1 22 pg_wI (F_X12_end a0 a1 h) 0 [(0, pR a0), (1, pI a1)] [] h := by
  unfold F_X12_end
  refine pg_iload_n (i := 1) dX12_end_0 rfl 1 rfl ?_
  refine pg_iconst dX12_end_1 ci_0 ?_
  refine pg_aload_n (i := 0) dX12_end_2 rfl 0 rfl ?_
  refine pg_getI dX12_end_3 fl_RX12_163 rfl (fun v1 => ?_)
  refine pg_callS_oI (As := [pI a1, pI (0 : Int32), pI v1]) (rs := []) dX12_end_6 lk_RX12_113 vy_X12_lies nd_X12_lies (c_X12_lies l D a1 (0 : Int32) v1 h) rfl rfl (Nat.le_of_ble_eq_true rfl) (by decide) (by decide) (fun v2 => ?_)
  refine pg_if_ne (tgt := 14) dX12_end_9 rfl ?_ ?_
  · refine pg_aload_n (i := 0) dX12_end_14 rfl 0 rfl ?_
    refine pg_iload_n (i := 1) dX12_end_15 rfl 1 rfl ?_
    refine pg_putI dX12_end_16 fl_RX12_163 (fun z => by cases z) (fun v3 => ?_)
    refine pg_iload_n (i := 1) dX12_end_19 rfl 1 rfl ?_
    exact pg_iret dX12_end_20 rfl rfl
  · refine pg_iconst dX12_end_12 ci_m1 ?_
    exact pg_iret dX12_end_13 rfl rfl
theorem c_X12_end (l : Launch) (D : pg_D) (a0 : Nat) (a1 : Int32) (h : pg_H) : ∀ x, F_X12_end a0 a1 h = some x → pg_Ct l D yX12_end cX12_end 2 (some FieldType.int) 1 22 [pR a0, pI a1] h (pg_wI x) :=
  pg_Ct.of pn_RX12 (Nat.le_of_ble_eq_true rfl) (e_X12_end l D a0 a1 h)
def F_X12_isSmall (a0 : Int32) : Option Int32 := (if a0 < (97 : Int32) then (some (0 : Int32)) else (if (122 : Int32) < a0 then (some (0 : Int32)) else (some (1 : Int32))))
theorem e_X12_isSmall (l : Launch) (D : pg_D)  (a0 : Int32) (h : pg_H) : pg_EvF l D RX12 cX12_isSmall 1 (some FieldType.boolean) "isSmall" 0 0 (pg_oI h) (F_X12_isSmall a0) 0 [(0, pI a0)] [] h := by
  unfold F_X12_isSmall
  refine pg_iload_n (i := 0) dX12_isSmall_0 rfl 0 rfl ?_
  refine pg_bipush dX12_isSmall_1 cb_97 ?_
  refine pg_icmp_lt (tgt := 16) dX12_isSmall_3 rfl ?_ ?_
  · refine pg_iconst dX12_isSmall_16 ci_0 ?_
    exact pg_zret dX12_isSmall_17 rfl (Or.inl rfl) rfl
  · refine pg_iload_n (i := 0) dX12_isSmall_6 rfl 0 rfl ?_
    refine pg_bipush dX12_isSmall_7 cb_122 ?_
    refine pg_icmp_gt (tgt := 16) dX12_isSmall_9 rfl ?_ ?_
    · refine pg_iconst dX12_isSmall_16 ci_0 ?_
      exact pg_zret dX12_isSmall_17 rfl (Or.inl rfl) rfl
    · refine pg_iconst dX12_isSmall_12 ci_1 ?_
      refine pg_goto (tgt := 17) dX12_isSmall_13 rfl ?_
      exact pg_zret dX12_isSmall_17 rfl (Or.inr rfl) rfl
theorem c_X12_isSmall (l : Launch) (D : pg_D) (a0 : Int32) (h : pg_H) : ∀ x, F_X12_isSmall a0 = some x → pg_Ct l D yX12_isSmall cX12_isSmall 1 (some FieldType.boolean) 0 0 [pI a0] h (pg_oI h x) :=
  pg_Ct.of pn_RX12 (Nat.le_of_ble_eq_true rfl) (e_X12_isSmall l D a0 h)
def F_X12_isDigit (a0 : Int32) : Option Int32 := (if a0 < (48 : Int32) then (some (0 : Int32)) else (if (57 : Int32) < a0 then (some (0 : Int32)) else (some (1 : Int32))))
theorem e_X12_isDigit (l : Launch) (D : pg_D)  (a0 : Int32) (h : pg_H) : pg_EvF l D RX12 cX12_isDigit 1 (some FieldType.boolean) "isDigit" 0 0 (pg_oI h) (F_X12_isDigit a0) 0 [(0, pI a0)] [] h := by
  unfold F_X12_isDigit
  refine pg_iload_n (i := 0) dX12_isDigit_0 rfl 0 rfl ?_
  refine pg_bipush dX12_isDigit_1 cb_48 ?_
  refine pg_icmp_lt (tgt := 16) dX12_isDigit_3 rfl ?_ ?_
  · refine pg_iconst dX12_isDigit_16 ci_0 ?_
    exact pg_zret dX12_isDigit_17 rfl (Or.inl rfl) rfl
  · refine pg_iload_n (i := 0) dX12_isDigit_6 rfl 0 rfl ?_
    refine pg_bipush dX12_isDigit_7 cb_57 ?_
    refine pg_icmp_gt (tgt := 16) dX12_isDigit_9 rfl ?_ ?_
    · refine pg_iconst dX12_isDigit_16 ci_0 ?_
      exact pg_zret dX12_isDigit_17 rfl (Or.inl rfl) rfl
    · refine pg_iconst dX12_isDigit_12 ci_1 ?_
      refine pg_goto (tgt := 17) dX12_isDigit_13 rfl ?_
      exact pg_zret dX12_isDigit_17 rfl (Or.inr rfl) rfl
theorem c_X12_isDigit (l : Launch) (D : pg_D) (a0 : Int32) (h : pg_H) : ∀ x, F_X12_isDigit a0 = some x → pg_Ct l D yX12_isDigit cX12_isDigit 1 (some FieldType.boolean) 0 0 [pI a0] h (pg_oI h x) :=
  pg_Ct.of pn_RX12 (Nat.le_of_ble_eq_true rfl) (e_X12_isDigit l D a0 h)
def F_X12_wordOf_104 (h : pg_H) (k5 : Nat → Int32 → Int32 → Int32 → Int32 → Option Int32) (a0 : Nat) (a1 : Int32) (a2 : Int32) (a3 : Int32) (a4 : Int32) (a5 : Int32) (a6 : Int32) : Option Int32 := (if a6 = 0 then pg_let (a4 + (a5 + (1 : Int32))) fun v1 => (k5 a0 a1 a2 (a3 + (1 : Int32)) v1) else (some a3))
def F_X12_wordOf_96 (h : pg_H) (k57 : Nat → Int32 → Int32 → Int32 → Int32 → Int32 → Int32 → Int32 → Option Int32) (a0 : Nat) (a1 : Int32) (a2 : Int32) (a3 : Int32) (a4 : Int32) (a5 : Int32) (a7 : Int32) (s0 : Int32) : Option Int32 := (k57 a0 a1 a2 a3 a4 a5 s0 (a7 + (1 : Int32)))
def F_X12_wordOf_57 (h : pg_H) (k5 : Nat → Int32 → Int32 → Int32 → Int32 → Option Int32) : Nat → Nat → Int32 → Int32 → Int32 → Int32 → Int32 → Int32 → Int32 → Option Int32
  | 0 => fun _ _ _ _ _ _ _ _ => none
  | n + 1 => fun a0 a1 a2 a3 a4 a5 a6 a7 => (if a7 < a5 then (if a6 = 0 then (F_X12_wordOf_104 h k5 a0 a1 a2 a3 a4 a5 a6) else Option.bind (pg_gR 12 7 h a0) fun v1 => Option.bind (pg_aI 20 h v1 (a4 + a7)) fun v2 => Option.bind (pg_gR 12 8 h a0) fun v3 => Option.bind (pg_aI 20 h v3 (a1 + a7)) fun v4 => (if v2 = v4 then (F_X12_wordOf_96 h (F_X12_wordOf_57 h k5 n) a0 a1 a2 a3 a4 a5 a7 (1 : Int32)) else (F_X12_wordOf_96 h (F_X12_wordOf_57 h k5 n) a0 a1 a2 a3 a4 a5 a7 (0 : Int32)))) else (F_X12_wordOf_104 h k5 a0 a1 a2 a3 a4 a5 a6))
def F_X12_wordOf_52 (h : pg_H) (k5 : Nat → Int32 → Int32 → Int32 → Int32 → Option Int32) (a0 : Nat) (a1 : Int32) (a2 : Int32) (a3 : Int32) (a4 : Int32) (a5 : Int32) (s0 : Int32) : Option Int32 := (F_X12_wordOf_57 h k5 pg_fuel a0 a1 a2 a3 a4 a5 s0 (0 : Int32))
def F_X12_wordOf_18 (h : pg_H) (k5 : Nat → Int32 → Int32 → Int32 → Int32 → Option Int32) : Nat → Nat → Int32 → Int32 → Int32 → Int32 → Int32 → Option Int32
  | 0 => fun _ _ _ _ _ _ => none
  | n + 1 => fun a0 a1 a2 a3 a4 a5 => Option.bind (pg_gR 12 7 h a0) fun v1 => Option.bind (pg_aI 20 h v1 (a4 + a5)) fun v2 => (if v2 = (32 : Int32) then (if a5 = (a2 - a1) then (F_X12_wordOf_52 h k5 a0 a1 a2 a3 a4 a5 (1 : Int32)) else (F_X12_wordOf_52 h k5 a0 a1 a2 a3 a4 a5 (0 : Int32))) else (F_X12_wordOf_18 h k5 n a0 a1 a2 a3 a4 (a5 + (1 : Int32))))
def F_X12_wordOf_5 (h : pg_H) : Nat → Nat → Int32 → Int32 → Int32 → Int32 → Option Int32
  | 0 => fun _ _ _ _ _ => none
  | n + 1 => fun a0 a1 a2 a3 a4 => Option.bind (pg_gR 12 7 h a0) fun v1 => Option.bind (pg_len h v1) fun v2 => (if a4 < v2 then (F_X12_wordOf_18 h (F_X12_wordOf_5 h n) pg_fuel a0 a1 a2 a3 a4 (0 : Int32)) else (some (0 : Int32)))
def F_X12_wordOf (h : pg_H) (a0 : Nat) (a1 : Int32) (a2 : Int32) : Option Int32 := (F_X12_wordOf_5 h pg_fuel a0 a1 a2 (1 : Int32) (0 : Int32))
theorem e_X12_wordOf_104 (l : Launch) (D : pg_D)  (h : pg_H) (k5 : Nat → Int32 → Int32 → Int32 → Int32 → Option Int32) (hk5 : ∀ (a0 : Nat) (a1 : Int32) (a2 : Int32) (a3 : Int32) (a4 : Int32), pg_EvF l D RX12 cX12_wordOf 8 (some FieldType.int) "wordOf" 0 0 (pg_oI h) (k5 a0 a1 a2 a3 a4) 5 [(0, pR a0), (1, pI a1), (2, pI a2), (3, pI a3), (4, pI a4)] [] h) (a0 : Nat) (a1 : Int32) (a2 : Int32) (a3 : Int32) (a4 : Int32) (a5 : Int32) (a6 : Int32) : pg_EvF l D RX12 cX12_wordOf 8 (some FieldType.int) "wordOf" 0 0 (pg_oI h) (F_X12_wordOf_104 h k5 a0 a1 a2 a3 a4 a5 a6) 104 [(0, pR a0), (1, pI a1), (2, pI a2), (3, pI a3), (4, pI a4), (5, pI a5), (6, pI a6)] [] h := by
  unfold F_X12_wordOf_104
  refine pg_iload dX12_wordOf_104 6 rfl ?_
  refine pg_if_eq (tgt := 111) dX12_wordOf_106 rfl ?_ ?_
  · refine pg_iload dX12_wordOf_111 4 rfl ?_
    refine pg_iload dX12_wordOf_113 5 rfl ?_
    refine pg_iconst dX12_wordOf_115 ci_1 ?_
    refine pg_iadd dX12_wordOf_116 ?_
    refine pg_iadd dX12_wordOf_117 ?_
    refine pg_letI (fun v1 => ?_)
    refine pg_istore (lv' := [(4, pI v1), (0, pR a0), (1, pI a1), (2, pI a2), (3, pI a3), (5, pI a5), (6, pI a6)]) dX12_wordOf_118 (by decide) rfl ?_
    refine pg_iinc (lv' := [(3, pI (a3 + (1 : Int32))), (4, pI v1), (0, pR a0), (1, pI a1), (2, pI a2), (5, pI a5), (6, pI a6)]) dX12_wordOf_120 4 rfl ci_1 (by decide) rfl ?_
    refine pg_goto (tgt := 5) dX12_wordOf_123 rfl ?_
    exact pg_to (hk5 a0 a1 a2 (a3 + (1 : Int32)) v1) [2, 3, 4, 0, 1] rfl
  · refine pg_iload_n (i := 3) dX12_wordOf_109 rfl 3 rfl ?_
    exact pg_iret dX12_wordOf_110 rfl rfl
theorem e_X12_wordOf_96 (l : Launch) (D : pg_D)  (h : pg_H) (k57 : Nat → Int32 → Int32 → Int32 → Int32 → Int32 → Int32 → Int32 → Option Int32) (hk57 : ∀ (a0 : Nat) (a1 : Int32) (a2 : Int32) (a3 : Int32) (a4 : Int32) (a5 : Int32) (a6 : Int32) (a7 : Int32), pg_EvF l D RX12 cX12_wordOf 8 (some FieldType.int) "wordOf" 0 0 (pg_oI h) (k57 a0 a1 a2 a3 a4 a5 a6 a7) 57 [(0, pR a0), (1, pI a1), (2, pI a2), (3, pI a3), (4, pI a4), (5, pI a5), (6, pI a6), (7, pI a7)] [] h) (a0 : Nat) (a1 : Int32) (a2 : Int32) (a3 : Int32) (a4 : Int32) (a5 : Int32) (a7 : Int32) (s0 : Int32) : pg_EvF l D RX12 cX12_wordOf 8 (some FieldType.int) "wordOf" 0 0 (pg_oI h) (F_X12_wordOf_96 h k57 a0 a1 a2 a3 a4 a5 a7 s0) 96 [(0, pR a0), (1, pI a1), (2, pI a2), (3, pI a3), (4, pI a4), (5, pI a5), (7, pI a7)] [pI s0] h := by
  unfold F_X12_wordOf_96
  refine pg_istore (lv' := [(6, pI s0), (0, pR a0), (1, pI a1), (2, pI a2), (3, pI a3), (4, pI a4), (5, pI a5), (7, pI a7)]) dX12_wordOf_96 (by decide) rfl ?_
  refine pg_iinc (lv' := [(7, pI (a7 + (1 : Int32))), (6, pI s0), (0, pR a0), (1, pI a1), (2, pI a2), (3, pI a3), (4, pI a4), (5, pI a5)]) dX12_wordOf_98 7 rfl ci_1 (by decide) rfl ?_
  refine pg_goto (tgt := 57) dX12_wordOf_101 rfl ?_
  exact pg_to (hk57 a0 a1 a2 a3 a4 a5 s0 (a7 + (1 : Int32))) [2, 3, 4, 5, 6, 7, 1, 0] rfl
theorem e_X12_wordOf_57 (l : Launch) (D : pg_D)  (h : pg_H) (k5 : Nat → Int32 → Int32 → Int32 → Int32 → Option Int32) (hk5 : ∀ (a0 : Nat) (a1 : Int32) (a2 : Int32) (a3 : Int32) (a4 : Int32), pg_EvF l D RX12 cX12_wordOf 8 (some FieldType.int) "wordOf" 0 0 (pg_oI h) (k5 a0 a1 a2 a3 a4) 5 [(0, pR a0), (1, pI a1), (2, pI a2), (3, pI a3), (4, pI a4)] [] h) : ∀ (n : Nat) (a0 : Nat) (a1 : Int32) (a2 : Int32) (a3 : Int32) (a4 : Int32) (a5 : Int32) (a6 : Int32) (a7 : Int32), pg_EvF l D RX12 cX12_wordOf 8 (some FieldType.int) "wordOf" 0 0 (pg_oI h) (F_X12_wordOf_57 h k5 n a0 a1 a2 a3 a4 a5 a6 a7) 57 [(0, pR a0), (1, pI a1), (2, pI a2), (3, pI a3), (4, pI a4), (5, pI a5), (6, pI a6), (7, pI a7)] [] h := by
  intro n
  induction n with
  | zero => intro a0 a1 a2 a3 a4 a5 a6 a7; exact pg_none
  | succ n ih =>
    intro a0 a1 a2 a3 a4 a5 a6 a7
    rw [F_X12_wordOf_57]
    refine pg_iload dX12_wordOf_57 7 rfl ?_
    refine pg_iload dX12_wordOf_59 5 rfl ?_
    refine pg_icmp_ge (tgt := 104) dX12_wordOf_61 rfl ?_ ?_
    · exact pg_to (e_X12_wordOf_104 l D h k5 hk5 a0 a1 a2 a3 a4 a5 a6) [0, 1, 2, 3, 4, 5, 6] rfl
    · refine pg_iload dX12_wordOf_64 6 rfl ?_
      refine pg_if_eq (tgt := 104) dX12_wordOf_66 rfl ?_ ?_
      · exact pg_to (e_X12_wordOf_104 l D h k5 hk5 a0 a1 a2 a3 a4 a5 a6) [0, 1, 2, 3, 4, 5, 6] rfl
      · refine pg_aload_n (i := 0) dX12_wordOf_69 rfl 0 rfl ?_
        refine pg_getR dX12_wordOf_70 fl_RX12_30 rfl (fun v1 => ?_)
        refine pg_iload dX12_wordOf_73 4 rfl ?_
        refine pg_iload dX12_wordOf_75 7 rfl ?_
        refine pg_iadd dX12_wordOf_77 ?_
        refine pg_baload dX12_wordOf_78 (fun v2 => ?_)
        refine pg_aload_n (i := 0) dX12_wordOf_79 rfl 0 rfl ?_
        refine pg_getR dX12_wordOf_80 fl_RX12_34 rfl (fun v3 => ?_)
        refine pg_iload_n (i := 1) dX12_wordOf_83 rfl 1 rfl ?_
        refine pg_iload dX12_wordOf_84 7 rfl ?_
        refine pg_iadd dX12_wordOf_86 ?_
        refine pg_baload dX12_wordOf_87 (fun v4 => ?_)
        refine pg_icmp_ne (tgt := 95) dX12_wordOf_88 rfl ?_ ?_
        · refine pg_iconst dX12_wordOf_95 ci_0 ?_
          exact pg_to (e_X12_wordOf_96 l D h (F_X12_wordOf_57 h k5 n) ih a0 a1 a2 a3 a4 a5 a7 (0 : Int32)) [0, 1, 2, 3, 4, 5, 7] rfl
        · refine pg_iconst dX12_wordOf_91 ci_1 ?_
          refine pg_goto (tgt := 96) dX12_wordOf_92 rfl ?_
          exact pg_to (e_X12_wordOf_96 l D h (F_X12_wordOf_57 h k5 n) ih a0 a1 a2 a3 a4 a5 a7 (1 : Int32)) [0, 1, 2, 3, 4, 5, 7] rfl
theorem e_X12_wordOf_52 (l : Launch) (D : pg_D)  (h : pg_H) (k5 : Nat → Int32 → Int32 → Int32 → Int32 → Option Int32) (hk5 : ∀ (a0 : Nat) (a1 : Int32) (a2 : Int32) (a3 : Int32) (a4 : Int32), pg_EvF l D RX12 cX12_wordOf 8 (some FieldType.int) "wordOf" 0 0 (pg_oI h) (k5 a0 a1 a2 a3 a4) 5 [(0, pR a0), (1, pI a1), (2, pI a2), (3, pI a3), (4, pI a4)] [] h) (a0 : Nat) (a1 : Int32) (a2 : Int32) (a3 : Int32) (a4 : Int32) (a5 : Int32) (s0 : Int32) : pg_EvF l D RX12 cX12_wordOf 8 (some FieldType.int) "wordOf" 0 0 (pg_oI h) (F_X12_wordOf_52 h k5 a0 a1 a2 a3 a4 a5 s0) 52 [(0, pR a0), (1, pI a1), (2, pI a2), (3, pI a3), (4, pI a4), (5, pI a5)] [pI s0] h := by
  unfold F_X12_wordOf_52
  refine pg_istore (lv' := [(6, pI s0), (0, pR a0), (1, pI a1), (2, pI a2), (3, pI a3), (4, pI a4), (5, pI a5)]) dX12_wordOf_52 (by decide) rfl ?_
  refine pg_iconst dX12_wordOf_54 ci_0 ?_
  refine pg_istore (lv' := [(7, pI (0 : Int32)), (6, pI s0), (0, pR a0), (1, pI a1), (2, pI a2), (3, pI a3), (4, pI a4), (5, pI a5)]) dX12_wordOf_55 (by decide) rfl ?_
  exact pg_to (e_X12_wordOf_57 l D h k5 hk5 pg_fuel a0 a1 a2 a3 a4 a5 s0 (0 : Int32)) [2, 3, 4, 5, 6, 7, 1, 0] rfl
theorem e_X12_wordOf_18 (l : Launch) (D : pg_D)  (h : pg_H) (k5 : Nat → Int32 → Int32 → Int32 → Int32 → Option Int32) (hk5 : ∀ (a0 : Nat) (a1 : Int32) (a2 : Int32) (a3 : Int32) (a4 : Int32), pg_EvF l D RX12 cX12_wordOf 8 (some FieldType.int) "wordOf" 0 0 (pg_oI h) (k5 a0 a1 a2 a3 a4) 5 [(0, pR a0), (1, pI a1), (2, pI a2), (3, pI a3), (4, pI a4)] [] h) : ∀ (n : Nat) (a0 : Nat) (a1 : Int32) (a2 : Int32) (a3 : Int32) (a4 : Int32) (a5 : Int32), pg_EvF l D RX12 cX12_wordOf 8 (some FieldType.int) "wordOf" 0 0 (pg_oI h) (F_X12_wordOf_18 h k5 n a0 a1 a2 a3 a4 a5) 18 [(0, pR a0), (1, pI a1), (2, pI a2), (3, pI a3), (4, pI a4), (5, pI a5)] [] h := by
  intro n
  induction n with
  | zero => intro a0 a1 a2 a3 a4 a5; exact pg_none
  | succ n ih =>
    intro a0 a1 a2 a3 a4 a5
    rw [F_X12_wordOf_18]
    refine pg_aload_n (i := 0) dX12_wordOf_18 rfl 0 rfl ?_
    refine pg_getR dX12_wordOf_19 fl_RX12_30 rfl (fun v1 => ?_)
    refine pg_iload dX12_wordOf_22 4 rfl ?_
    refine pg_iload dX12_wordOf_24 5 rfl ?_
    refine pg_iadd dX12_wordOf_26 ?_
    refine pg_baload dX12_wordOf_27 (fun v2 => ?_)
    refine pg_bipush dX12_wordOf_28 cb_32 ?_
    refine pg_icmp_eq (tgt := 39) dX12_wordOf_30 rfl ?_ ?_
    · refine pg_iload dX12_wordOf_39 5 rfl ?_
      refine pg_iload_n (i := 2) dX12_wordOf_41 rfl 2 rfl ?_
      refine pg_iload_n (i := 1) dX12_wordOf_42 rfl 1 rfl ?_
      refine pg_isub dX12_wordOf_43 ?_
      refine pg_icmp_ne (tgt := 51) dX12_wordOf_44 rfl ?_ ?_
      · refine pg_iconst dX12_wordOf_51 ci_0 ?_
        exact pg_to (e_X12_wordOf_52 l D h k5 hk5 a0 a1 a2 a3 a4 a5 (0 : Int32)) [0, 1, 2, 3, 4, 5] rfl
      · refine pg_iconst dX12_wordOf_47 ci_1 ?_
        refine pg_goto (tgt := 52) dX12_wordOf_48 rfl ?_
        exact pg_to (e_X12_wordOf_52 l D h k5 hk5 a0 a1 a2 a3 a4 a5 (1 : Int32)) [0, 1, 2, 3, 4, 5] rfl
    · refine pg_iinc (lv' := [(5, pI (a5 + (1 : Int32))), (0, pR a0), (1, pI a1), (2, pI a2), (3, pI a3), (4, pI a4)]) dX12_wordOf_33 5 rfl ci_1 (by decide) rfl ?_
      refine pg_goto (tgt := 18) dX12_wordOf_36 rfl ?_
      exact pg_to (ih a0 a1 a2 a3 a4 (a5 + (1 : Int32))) [1, 2, 3, 4, 5, 0] rfl
theorem e_X12_wordOf_5 (l : Launch) (D : pg_D)  (h : pg_H) : ∀ (n : Nat) (a0 : Nat) (a1 : Int32) (a2 : Int32) (a3 : Int32) (a4 : Int32), pg_EvF l D RX12 cX12_wordOf 8 (some FieldType.int) "wordOf" 0 0 (pg_oI h) (F_X12_wordOf_5 h n a0 a1 a2 a3 a4) 5 [(0, pR a0), (1, pI a1), (2, pI a2), (3, pI a3), (4, pI a4)] [] h := by
  intro n
  induction n with
  | zero => intro a0 a1 a2 a3 a4; exact pg_none
  | succ n ih =>
    intro a0 a1 a2 a3 a4
    rw [F_X12_wordOf_5]
    refine pg_iload dX12_wordOf_5 4 rfl ?_
    refine pg_aload_n (i := 0) dX12_wordOf_7 rfl 0 rfl ?_
    refine pg_getR dX12_wordOf_8 fl_RX12_30 rfl (fun v1 => ?_)
    refine pg_alen dX12_wordOf_11 (fun v2 => ?_)
    refine pg_icmp_ge (tgt := 126) dX12_wordOf_12 rfl ?_ ?_
    · refine pg_iconst dX12_wordOf_126 ci_0 ?_
      exact pg_iret dX12_wordOf_127 rfl rfl
    · refine pg_iconst dX12_wordOf_15 ci_0 ?_
      refine pg_istore (lv' := [(5, pI (0 : Int32)), (0, pR a0), (1, pI a1), (2, pI a2), (3, pI a3), (4, pI a4)]) dX12_wordOf_16 (by decide) rfl ?_
      exact pg_to (e_X12_wordOf_18 l D h (F_X12_wordOf_5 h n) ih pg_fuel a0 a1 a2 a3 a4 (0 : Int32)) [1, 2, 3, 4, 5, 0] rfl
theorem e_X12_wordOf (l : Launch) (D : pg_D)  (h : pg_H) (a0 : Nat) (a1 : Int32) (a2 : Int32) : pg_EvF l D RX12 cX12_wordOf 8 (some FieldType.int) "wordOf" 0 0 (pg_oI h) (F_X12_wordOf h a0 a1 a2) 0 [(0, pR a0), (1, pI a1), (2, pI a2)] [] h := by
  unfold F_X12_wordOf
  refine pg_iconst dX12_wordOf_0 ci_1 ?_
  refine pg_istore_n (i := 3) (lv' := [(3, pI (1 : Int32)), (0, pR a0), (1, pI a1), (2, pI a2)]) dX12_wordOf_1 rfl (by decide) rfl ?_
  refine pg_iconst dX12_wordOf_2 ci_0 ?_
  refine pg_istore (lv' := [(4, pI (0 : Int32)), (3, pI (1 : Int32)), (0, pR a0), (1, pI a1), (2, pI a2)]) dX12_wordOf_3 (by decide) rfl ?_
  exact pg_to (e_X12_wordOf_5 l D h pg_fuel a0 a1 a2 (1 : Int32) (0 : Int32)) [2, 3, 4, 1, 0] rfl
theorem c_X12_wordOf (l : Launch) (D : pg_D) (h : pg_H) (a0 : Nat) (a1 : Int32) (a2 : Int32)  : ∀ x, F_X12_wordOf h a0 a1 a2 = some x → pg_Ct l D yX12_wordOf cX12_wordOf 8 (some FieldType.int) 0 0 [pR a0, pI a1, pI a2] h (pg_oI h x) :=
  pg_Ct.of pn_RX12 (Nat.le_of_ble_eq_true rfl) (e_X12_wordOf l D h a0 a1 a2)
def F_X12_splits_247 (k7 : Nat → Int32 → Int32 → pg_H → Option pg_H) (a0 : Nat) (a1 : Int32) (a4 : Int32) (h : pg_H) : Option pg_H := Option.bind (pg_gI 12 15 h a0) fun v1 => Option.bind (pg_pI 12 15 h a0 (v1 + (1 : Int32))) fun v2 => (k7 a0 a1 a4 v2)
def F_X12_splits_240 (k169 : Nat → Int32 → Int32 → Int32 → Int32 → pg_H → Option pg_H) (a0 : Nat) (a1 : Int32) (a3 : Int32) (a4 : Int32) (a5 : Int32) (s0 : Int32) (s1 : Int32) (s2 : Nat) (h : pg_H) : Option pg_H := Option.bind (pg_sI 21 h s2 s1 s0) fun v1 => (k169 a0 a1 a3 a4 (a5 + (1 : Int32)) v1)
def F_X12_splits_169 (k7 : Nat → Int32 → Int32 → pg_H → Option pg_H) : Nat → Nat → Int32 → Int32 → Int32 → Int32 → pg_H → Option pg_H
  | 0 => fun _ _ _ _ _ _ => none
  | n + 1 => fun a0 a1 a3 a4 a5 h => (if a5 < a4 then Option.bind (F_X12_isDigit a3) fun v1 => (if v1 = 0 then (F_X12_splits_247 k7 a0 a1 a4 h) else Option.bind (pg_gR 12 13 h a0) fun v2 => Option.bind (pg_gI 12 15 h a0) fun v3 => Option.bind (pg_gR 12 13 h a0) fun v4 => Option.bind (pg_gI 12 15 h a0) fun v5 => Option.bind (pg_aI 21 h v4 v5) fun v6 => (if (1000000 : Int32) < v6 then Option.bind (pg_gR 12 13 h a0) fun v12 => Option.bind (pg_gI 12 15 h a0) fun v13 => Option.bind (pg_aI 21 h v12 v13) fun v14 => (F_X12_splits_240 (F_X12_splits_169 k7 n) a0 a1 a3 a4 a5 v14 v3 v2 h) else Option.bind (pg_gR 12 13 h a0) fun v7 => Option.bind (pg_gI 12 15 h a0) fun v8 => Option.bind (pg_aI 21 h v7 v8) fun v9 => Option.bind (pg_gR 12 8 h a0) fun v10 => Option.bind (pg_aI 20 h v10 a5) fun v11 => (F_X12_splits_240 (F_X12_splits_169 k7 n) a0 a1 a3 a4 a5 ((((10 : Int32) * v9) + v11) - (48 : Int32)) v3 v2 h))) else (F_X12_splits_247 k7 a0 a1 a4 h))
def F_X12_splits_165 (k7 : Nat → Int32 → Int32 → pg_H → Option pg_H) (a0 : Nat) (a1 : Int32) (a2 : Int32) (a3 : Int32) (a4 : Int32) (s0 : Int32) (s1 : Int32) (s2 : Nat) (h : pg_H) : Option pg_H := Option.bind (pg_sI 21 h s2 s1 s0) fun v1 => (F_X12_splits_169 k7 pg_fuel a0 a1 a3 a4 a2 v1)
def F_X12_splits_100 (k7 : Nat → Int32 → Int32 → pg_H → Option pg_H) (a0 : Nat) (a1 : Int32) (a2 : Int32) (a3 : Int32) (a4 : Int32) (h : pg_H) : Option pg_H := Option.bind (pg_gR 12 14 h a0) fun v1 => Option.bind (pg_gI 12 15 h a0) fun v2 => Option.bind (pg_sI 21 h v1 v2 a2) fun v3 => Option.bind (pg_gR 12 13 v3 a0) fun v4 => Option.bind (pg_gI 12 15 v3 a0) fun v5 => Option.bind (pg_sI 21 v3 v4 v5 (0 : Int32)) fun v6 => Option.bind (pg_gR 12 12 v6 a0) fun v7 => Option.bind (pg_gI 12 15 v6 a0) fun v8 => Option.bind (F_X12_isSmall a3) fun v9 => (if v9 = 0 then Option.bind (F_X12_isDigit a3) fun v10 => (if v10 = 0 then (F_X12_splits_165 k7 a0 a1 a2 a3 a4 ((100 : Int32) + (a3 &&& (255 : Int32))) v8 v7 v6) else (F_X12_splits_165 k7 a0 a1 a2 a3 a4 (50 : Int32) v8 v7 v6)) else Option.bind (pg_rcv 12 v6 a0 (F_X12_wordOf v6 a0 a2 a4)) fun v11 => (F_X12_splits_165 k7 a0 a1 a2 a3 a4 v11 v8 v7 v6))
def F_X12_splits_75 (k7 : Nat → Int32 → Int32 → pg_H → Option pg_H) : Nat → Nat → Int32 → Int32 → Int32 → Int32 → pg_H → Option pg_H
  | 0 => fun _ _ _ _ _ _ => none
  | n + 1 => fun a0 a1 a2 a3 a4 h => (if a4 < a1 then Option.bind (pg_gR 12 8 h a0) fun v1 => Option.bind (pg_aI 20 h v1 a4) fun v2 => Option.bind (F_X12_isDigit v2) fun v3 => (if v3 = 0 then (F_X12_splits_100 k7 a0 a1 a2 a3 a4 h) else (F_X12_splits_75 k7 n a0 a1 a2 a3 (a4 + (1 : Int32)) h)) else (F_X12_splits_100 k7 a0 a1 a2 a3 a4 h))
def F_X12_splits_68 (k7 : Nat → Int32 → Int32 → pg_H → Option pg_H) (a0 : Nat) (a1 : Int32) (a2 : Int32) (a3 : Int32) (a4 : Int32) (h : pg_H) : Option pg_H := Option.bind (F_X12_isDigit a3) fun v1 => (if v1 = 0 then (F_X12_splits_100 k7 a0 a1 a2 a3 a4 h) else (F_X12_splits_75 k7 pg_fuel a0 a1 a2 a3 a4 h))
def F_X12_splits_43 (k7 : Nat → Int32 → Int32 → pg_H → Option pg_H) : Nat → Nat → Int32 → Int32 → Int32 → Int32 → pg_H → Option pg_H
  | 0 => fun _ _ _ _ _ _ => none
  | n + 1 => fun a0 a1 a2 a3 a4 h => (if a4 < a1 then Option.bind (pg_gR 12 8 h a0) fun v1 => Option.bind (pg_aI 20 h v1 a4) fun v2 => Option.bind (F_X12_isSmall v2) fun v3 => (if v3 = 0 then (F_X12_splits_68 k7 a0 a1 a2 a3 a4 h) else (F_X12_splits_43 k7 n a0 a1 a2 a3 (a4 + (1 : Int32)) h)) else (F_X12_splits_68 k7 a0 a1 a2 a3 a4 h))
def F_X12_splits_7  : Nat → Nat → Int32 → Int32 → pg_H → Option pg_H
  | 0 => fun _ _ _ _ => none
  | n + 1 => fun a0 a1 a2 h => (if a2 < a1 then Option.bind (pg_gR 12 8 h a0) fun v10 => Option.bind (pg_aI 20 h v10 a2) fun v11 => (if v11 = (32 : Int32) then (F_X12_splits_7 n a0 a1 (a2 + (1 : Int32)) h) else pg_let (a2 + (1 : Int32)) fun v12 => Option.bind (F_X12_isSmall v11) fun v13 => (if v13 = 0 then (F_X12_splits_68 (F_X12_splits_7 n) a0 a1 a2 v11 v12 h) else (F_X12_splits_43 (F_X12_splits_7 n) pg_fuel a0 a1 a2 v11 v12 h))) else Option.bind (pg_gR 12 14 h a0) fun v1 => Option.bind (pg_gI 12 15 h a0) fun v2 => Option.bind (pg_sI 21 h v1 v2 a1) fun v3 => Option.bind (pg_gR 12 12 v3 a0) fun v4 => Option.bind (pg_gI 12 15 v3 a0) fun v5 => Option.bind (pg_sI 21 v3 v4 v5 (0 : Int32)) fun v6 => Option.bind (pg_gR 12 13 v6 a0) fun v7 => Option.bind (pg_gI 12 15 v6 a0) fun v8 => Option.bind (pg_sI 21 v6 v7 v8 (0 : Int32)) fun v9 => (some v9))
def F_X12_splits (a0 : Nat) (a1 : Int32) (h : pg_H) : Option pg_H := Option.bind (pg_pI 12 15 h a0 (0 : Int32)) fun v1 => (F_X12_splits_7 pg_fuel a0 a1 (0 : Int32) v1)
theorem e_X12_splits_247 (l : Launch) (D : pg_D)  (k7 : Nat → Int32 → Int32 → pg_H → Option pg_H) (hk7 : ∀ (a0 : Nat) (a1 : Int32) (a2 : Int32) (h : pg_H), pg_EvF l D RX12 cX12_splits 6 none "splits" 1 27 pg_wV (k7 a0 a1 a2 h) 7 [(0, pR a0), (1, pI a1), (2, pI a2)] [] h) (a0 : Nat) (a1 : Int32) (a4 : Int32) (h : pg_H) : pg_EvF l D RX12 cX12_splits 6 none "splits" 1 27 pg_wV (F_X12_splits_247 k7 a0 a1 a4 h) 247 [(0, pR a0), (1, pI a1), (4, pI a4)] [] h := by
  unfold F_X12_splits_247
  refine pg_aload_n (i := 0) dX12_splits_247 rfl 0 rfl ?_
  refine pg_dup dX12_splits_248 rfl ?_
  refine pg_getI dX12_splits_249 fl_RX12_169 rfl (fun v1 => ?_)
  refine pg_iconst dX12_splits_252 ci_1 ?_
  refine pg_iadd dX12_splits_253 ?_
  refine pg_putI dX12_splits_254 fl_RX12_169 (fun z => by cases z) (fun v2 => ?_)
  refine pg_iload dX12_splits_257 2 rfl ?_
  refine pg_istore_n (i := 2) (lv' := [(2, pI a4), (0, pR a0), (1, pI a1), (4, pI a4)]) dX12_splits_259 rfl (by decide) rfl ?_
  refine pg_goto (tgt := 7) dX12_splits_260 rfl ?_
  exact pg_to (hk7 a0 a1 a4 v2) [1, 2, 0] rfl
theorem e_X12_splits_240 (l : Launch) (D : pg_D)  (k169 : Nat → Int32 → Int32 → Int32 → Int32 → pg_H → Option pg_H) (hk169 : ∀ (a0 : Nat) (a1 : Int32) (a3 : Int32) (a4 : Int32) (a5 : Int32) (h : pg_H), pg_EvF l D RX12 cX12_splits 6 none "splits" 1 27 pg_wV (k169 a0 a1 a3 a4 a5 h) 169 [(0, pR a0), (1, pI a1), (3, pI a3), (4, pI a4), (5, pI a5)] [] h) (a0 : Nat) (a1 : Int32) (a3 : Int32) (a4 : Int32) (a5 : Int32) (s0 : Int32) (s1 : Int32) (s2 : Nat) (h : pg_H) : pg_EvF l D RX12 cX12_splits 6 none "splits" 1 27 pg_wV (F_X12_splits_240 k169 a0 a1 a3 a4 a5 s0 s1 s2 h) 240 [(0, pR a0), (1, pI a1), (3, pI a3), (4, pI a4), (5, pI a5)] [pI s0, pI s1, pR s2] h := by
  unfold F_X12_splits_240
  refine pg_iastore dX12_splits_240 (fun v1 => ?_)
  refine pg_iinc (lv' := [(5, pI (a5 + (1 : Int32))), (0, pR a0), (1, pI a1), (3, pI a3), (4, pI a4)]) dX12_splits_241 4 rfl ci_1 (by decide) rfl ?_
  refine pg_goto (tgt := 169) dX12_splits_244 rfl ?_
  exact pg_to (hk169 a0 a1 a3 a4 (a5 + (1 : Int32)) v1) [1, 2, 3, 4, 0] rfl
theorem e_X12_splits_169 (l : Launch) (D : pg_D)  (k7 : Nat → Int32 → Int32 → pg_H → Option pg_H) (hk7 : ∀ (a0 : Nat) (a1 : Int32) (a2 : Int32) (h : pg_H), pg_EvF l D RX12 cX12_splits 6 none "splits" 1 27 pg_wV (k7 a0 a1 a2 h) 7 [(0, pR a0), (1, pI a1), (2, pI a2)] [] h) : ∀ (n : Nat) (a0 : Nat) (a1 : Int32) (a3 : Int32) (a4 : Int32) (a5 : Int32) (h : pg_H), pg_EvF l D RX12 cX12_splits 6 none "splits" 1 27 pg_wV (F_X12_splits_169 k7 n a0 a1 a3 a4 a5 h) 169 [(0, pR a0), (1, pI a1), (3, pI a3), (4, pI a4), (5, pI a5)] [] h := by
  intro n
  induction n with
  | zero => intro a0 a1 a3 a4 a5 h; exact pg_none
  | succ n ih =>
    intro a0 a1 a3 a4 a5 h
    rw [F_X12_splits_169]
    refine pg_iload dX12_splits_169 4 rfl ?_
    refine pg_iload dX12_splits_171 3 rfl ?_
    refine pg_icmp_ge (tgt := 247) dX12_splits_173 rfl ?_ ?_
    · exact pg_to (e_X12_splits_247 l D k7 hk7 a0 a1 a4 h) [0, 1, 3] rfl
    · refine pg_iload_n (i := 3) dX12_splits_176 rfl 2 rfl ?_
      refine pg_callS_oI (As := [pI a3]) (rs := []) dX12_splits_177 lk_RX12_175 vy_X12_isDigit nd_X12_isDigit (c_X12_isDigit l D a3 h) rfl rfl (Nat.le_of_ble_eq_true rfl) (by decide) (by decide) (fun v1 => ?_)
      refine pg_if_eq (tgt := 247) dX12_splits_180 rfl ?_ ?_
      · exact pg_to (e_X12_splits_247 l D k7 hk7 a0 a1 a4 h) [0, 1, 3] rfl
      · refine pg_aload_n (i := 0) dX12_splits_183 rfl 0 rfl ?_
        refine pg_getR dX12_splits_184 fl_RX12_46 rfl (fun v2 => ?_)
        refine pg_aload_n (i := 0) dX12_splits_187 rfl 0 rfl ?_
        refine pg_getI dX12_splits_188 fl_RX12_169 rfl (fun v3 => ?_)
        refine pg_aload_n (i := 0) dX12_splits_191 rfl 0 rfl ?_
        refine pg_getR dX12_splits_192 fl_RX12_46 rfl (fun v4 => ?_)
        refine pg_aload_n (i := 0) dX12_splits_195 rfl 0 rfl ?_
        refine pg_getI dX12_splits_196 fl_RX12_169 rfl (fun v5 => ?_)
        refine pg_iaload dX12_splits_199 (fun v6 => ?_)
        refine pg_ldc (v := (1000000 : Int32)) dX12_splits_200 kc_RX12_181 ?_
        refine pg_icmp_le (tgt := 217) dX12_splits_202 rfl ?_ ?_
        · refine pg_bipush dX12_splits_217 cb_10 ?_
          refine pg_aload_n (i := 0) dX12_splits_219 rfl 0 rfl ?_
          refine pg_getR dX12_splits_220 fl_RX12_46 rfl (fun v7 => ?_)
          refine pg_aload_n (i := 0) dX12_splits_223 rfl 0 rfl ?_
          refine pg_getI dX12_splits_224 fl_RX12_169 rfl (fun v8 => ?_)
          refine pg_iaload dX12_splits_227 (fun v9 => ?_)
          refine pg_imul dX12_splits_228 ?_
          refine pg_aload_n (i := 0) dX12_splits_229 rfl 0 rfl ?_
          refine pg_getR dX12_splits_230 fl_RX12_34 rfl (fun v10 => ?_)
          refine pg_iload dX12_splits_233 4 rfl ?_
          refine pg_baload dX12_splits_235 (fun v11 => ?_)
          refine pg_iadd dX12_splits_236 ?_
          refine pg_bipush dX12_splits_237 cb_48 ?_
          refine pg_isub dX12_splits_239 ?_
          exact pg_to (e_X12_splits_240 l D (F_X12_splits_169 k7 n) ih a0 a1 a3 a4 a5 ((((10 : Int32) * v9) + v11) - (48 : Int32)) v3 v2 h) [0, 1, 2, 3, 4] rfl
        · refine pg_aload_n (i := 0) dX12_splits_205 rfl 0 rfl ?_
          refine pg_getR dX12_splits_206 fl_RX12_46 rfl (fun v12 => ?_)
          refine pg_aload_n (i := 0) dX12_splits_209 rfl 0 rfl ?_
          refine pg_getI dX12_splits_210 fl_RX12_169 rfl (fun v13 => ?_)
          refine pg_iaload dX12_splits_213 (fun v14 => ?_)
          refine pg_goto (tgt := 240) dX12_splits_214 rfl ?_
          exact pg_to (e_X12_splits_240 l D (F_X12_splits_169 k7 n) ih a0 a1 a3 a4 a5 v14 v3 v2 h) [0, 1, 2, 3, 4] rfl
theorem e_X12_splits_165 (l : Launch) (D : pg_D)  (k7 : Nat → Int32 → Int32 → pg_H → Option pg_H) (hk7 : ∀ (a0 : Nat) (a1 : Int32) (a2 : Int32) (h : pg_H), pg_EvF l D RX12 cX12_splits 6 none "splits" 1 27 pg_wV (k7 a0 a1 a2 h) 7 [(0, pR a0), (1, pI a1), (2, pI a2)] [] h) (a0 : Nat) (a1 : Int32) (a2 : Int32) (a3 : Int32) (a4 : Int32) (s0 : Int32) (s1 : Int32) (s2 : Nat) (h : pg_H) : pg_EvF l D RX12 cX12_splits 6 none "splits" 1 27 pg_wV (F_X12_splits_165 k7 a0 a1 a2 a3 a4 s0 s1 s2 h) 165 [(0, pR a0), (1, pI a1), (2, pI a2), (3, pI a3), (4, pI a4)] [pI s0, pI s1, pR s2] h := by
  unfold F_X12_splits_165
  refine pg_iastore dX12_splits_165 (fun v1 => ?_)
  refine pg_iload_n (i := 2) dX12_splits_166 rfl 2 rfl ?_
  refine pg_istore (lv' := [(5, pI a2), (0, pR a0), (1, pI a1), (2, pI a2), (3, pI a3), (4, pI a4)]) dX12_splits_167 (by decide) rfl ?_
  exact pg_to (e_X12_splits_169 l D k7 hk7 pg_fuel a0 a1 a3 a4 a2 v1) [1, 2, 4, 5, 0] rfl
theorem e_X12_splits_100 (l : Launch) (D : pg_D)  (k7 : Nat → Int32 → Int32 → pg_H → Option pg_H) (hk7 : ∀ (a0 : Nat) (a1 : Int32) (a2 : Int32) (h : pg_H), pg_EvF l D RX12 cX12_splits 6 none "splits" 1 27 pg_wV (k7 a0 a1 a2 h) 7 [(0, pR a0), (1, pI a1), (2, pI a2)] [] h) (a0 : Nat) (a1 : Int32) (a2 : Int32) (a3 : Int32) (a4 : Int32) (h : pg_H) : pg_EvF l D RX12 cX12_splits 6 none "splits" 1 27 pg_wV (F_X12_splits_100 k7 a0 a1 a2 a3 a4 h) 100 [(0, pR a0), (1, pI a1), (2, pI a2), (3, pI a3), (4, pI a4)] [] h := by
  unfold F_X12_splits_100
  refine pg_aload_n (i := 0) dX12_splits_100 rfl 0 rfl ?_
  refine pg_getR dX12_splits_101 fl_RX12_49 rfl (fun v1 => ?_)
  refine pg_aload_n (i := 0) dX12_splits_104 rfl 0 rfl ?_
  refine pg_getI dX12_splits_105 fl_RX12_169 rfl (fun v2 => ?_)
  refine pg_iload_n (i := 2) dX12_splits_108 rfl 2 rfl ?_
  refine pg_iastore dX12_splits_109 (fun v3 => ?_)
  refine pg_aload_n (i := 0) dX12_splits_110 rfl 0 rfl ?_
  refine pg_getR dX12_splits_111 fl_RX12_46 rfl (fun v4 => ?_)
  refine pg_aload_n (i := 0) dX12_splits_114 rfl 0 rfl ?_
  refine pg_getI dX12_splits_115 fl_RX12_169 rfl (fun v5 => ?_)
  refine pg_iconst dX12_splits_118 ci_0 ?_
  refine pg_iastore dX12_splits_119 (fun v6 => ?_)
  refine pg_aload_n (i := 0) dX12_splits_120 rfl 0 rfl ?_
  refine pg_getR dX12_splits_121 fl_RX12_43 rfl (fun v7 => ?_)
  refine pg_aload_n (i := 0) dX12_splits_124 rfl 0 rfl ?_
  refine pg_getI dX12_splits_125 fl_RX12_169 rfl (fun v8 => ?_)
  refine pg_iload_n (i := 3) dX12_splits_128 rfl 3 rfl ?_
  refine pg_callS_oI (As := [pI a3]) (rs := [pI v8, pR v7]) dX12_splits_129 lk_RX12_172 vy_X12_isSmall nd_X12_isSmall (c_X12_isSmall l D a3 v6) rfl rfl (Nat.le_of_ble_eq_true rfl) (by decide) (by decide) (fun v9 => ?_)
  refine pg_if_eq (tgt := 145) dX12_splits_132 rfl ?_ ?_
  · refine pg_iload_n (i := 3) dX12_splits_145 rfl 3 rfl ?_
    refine pg_callS_oI (As := [pI a3]) (rs := [pI v8, pR v7]) dX12_splits_146 lk_RX12_175 vy_X12_isDigit nd_X12_isDigit (c_X12_isDigit l D a3 v6) rfl rfl (Nat.le_of_ble_eq_true rfl) (by decide) (by decide) (fun v10 => ?_)
    refine pg_if_eq (tgt := 157) dX12_splits_149 rfl ?_ ?_
    · refine pg_bipush dX12_splits_157 cb_100 ?_
      refine pg_iload_n (i := 3) dX12_splits_159 rfl 3 rfl ?_
      refine pg_sipush dX12_splits_160 cs_255 ?_
      refine pg_iand dX12_splits_163 ?_
      refine pg_iadd dX12_splits_164 ?_
      exact pg_to (e_X12_splits_165 l D k7 hk7 a0 a1 a2 a3 a4 ((100 : Int32) + (a3 &&& (255 : Int32))) v8 v7 v6) [0, 1, 2, 3, 4] rfl
    · refine pg_bipush dX12_splits_152 cb_50 ?_
      refine pg_goto (tgt := 165) dX12_splits_154 rfl ?_
      exact pg_to (e_X12_splits_165 l D k7 hk7 a0 a1 a2 a3 a4 (50 : Int32) v8 v7 v6) [0, 1, 2, 3, 4] rfl
  · refine pg_aload_n (i := 0) dX12_splits_135 rfl 0 rfl ?_
    refine pg_iload_n (i := 2) dX12_splits_136 rfl 2 rfl ?_
    refine pg_iload dX12_splits_137 4 rfl ?_
    refine pg_callV_oI (As := [pI a2, pI a4]) (rs := [pI v8, pR v7]) dX12_splits_139 lk_RX12_178 vy_X12_wordOf nd_X12_wordOf (c_X12_wordOf l D v6 a0 a2 a4) rfl rfl (Nat.le_of_ble_eq_true rfl) (by decide) (by decide) (fun v11 => ?_)
    refine pg_goto (tgt := 165) dX12_splits_142 rfl ?_
    exact pg_to (e_X12_splits_165 l D k7 hk7 a0 a1 a2 a3 a4 v11 v8 v7 v6) [0, 1, 2, 3, 4] rfl
theorem e_X12_splits_75 (l : Launch) (D : pg_D)  (k7 : Nat → Int32 → Int32 → pg_H → Option pg_H) (hk7 : ∀ (a0 : Nat) (a1 : Int32) (a2 : Int32) (h : pg_H), pg_EvF l D RX12 cX12_splits 6 none "splits" 1 27 pg_wV (k7 a0 a1 a2 h) 7 [(0, pR a0), (1, pI a1), (2, pI a2)] [] h) : ∀ (n : Nat) (a0 : Nat) (a1 : Int32) (a2 : Int32) (a3 : Int32) (a4 : Int32) (h : pg_H), pg_EvF l D RX12 cX12_splits 6 none "splits" 1 27 pg_wV (F_X12_splits_75 k7 n a0 a1 a2 a3 a4 h) 75 [(0, pR a0), (1, pI a1), (2, pI a2), (3, pI a3), (4, pI a4)] [] h := by
  intro n
  induction n with
  | zero => intro a0 a1 a2 a3 a4 h; exact pg_none
  | succ n ih =>
    intro a0 a1 a2 a3 a4 h
    rw [F_X12_splits_75]
    refine pg_iload dX12_splits_75 4 rfl ?_
    refine pg_iload_n (i := 1) dX12_splits_77 rfl 1 rfl ?_
    refine pg_icmp_ge (tgt := 100) dX12_splits_78 rfl ?_ ?_
    · exact pg_to (e_X12_splits_100 l D k7 hk7 a0 a1 a2 a3 a4 h) [0, 1, 2, 3, 4] rfl
    · refine pg_aload_n (i := 0) dX12_splits_81 rfl 0 rfl ?_
      refine pg_getR dX12_splits_82 fl_RX12_34 rfl (fun v1 => ?_)
      refine pg_iload dX12_splits_85 4 rfl ?_
      refine pg_baload dX12_splits_87 (fun v2 => ?_)
      refine pg_callS_oI (As := [pI v2]) (rs := []) dX12_splits_88 lk_RX12_175 vy_X12_isDigit nd_X12_isDigit (c_X12_isDigit l D v2 h) rfl rfl (Nat.le_of_ble_eq_true rfl) (by decide) (by decide) (fun v3 => ?_)
      refine pg_if_eq (tgt := 100) dX12_splits_91 rfl ?_ ?_
      · exact pg_to (e_X12_splits_100 l D k7 hk7 a0 a1 a2 a3 a4 h) [0, 1, 2, 3, 4] rfl
      · refine pg_iinc (lv' := [(4, pI (a4 + (1 : Int32))), (0, pR a0), (1, pI a1), (2, pI a2), (3, pI a3)]) dX12_splits_94 4 rfl ci_1 (by decide) rfl ?_
        refine pg_goto (tgt := 75) dX12_splits_97 rfl ?_
        exact pg_to (ih a0 a1 a2 a3 (a4 + (1 : Int32)) h) [1, 2, 3, 4, 0] rfl
theorem e_X12_splits_68 (l : Launch) (D : pg_D)  (k7 : Nat → Int32 → Int32 → pg_H → Option pg_H) (hk7 : ∀ (a0 : Nat) (a1 : Int32) (a2 : Int32) (h : pg_H), pg_EvF l D RX12 cX12_splits 6 none "splits" 1 27 pg_wV (k7 a0 a1 a2 h) 7 [(0, pR a0), (1, pI a1), (2, pI a2)] [] h) (a0 : Nat) (a1 : Int32) (a2 : Int32) (a3 : Int32) (a4 : Int32) (h : pg_H) : pg_EvF l D RX12 cX12_splits 6 none "splits" 1 27 pg_wV (F_X12_splits_68 k7 a0 a1 a2 a3 a4 h) 68 [(0, pR a0), (1, pI a1), (2, pI a2), (3, pI a3), (4, pI a4)] [] h := by
  unfold F_X12_splits_68
  refine pg_iload_n (i := 3) dX12_splits_68 rfl 3 rfl ?_
  refine pg_callS_oI (As := [pI a3]) (rs := []) dX12_splits_69 lk_RX12_175 vy_X12_isDigit nd_X12_isDigit (c_X12_isDigit l D a3 h) rfl rfl (Nat.le_of_ble_eq_true rfl) (by decide) (by decide) (fun v1 => ?_)
  refine pg_if_eq (tgt := 100) dX12_splits_72 rfl ?_ ?_
  · exact pg_to (e_X12_splits_100 l D k7 hk7 a0 a1 a2 a3 a4 h) [0, 1, 2, 3, 4] rfl
  · exact pg_to (e_X12_splits_75 l D k7 hk7 pg_fuel a0 a1 a2 a3 a4 h) [0, 1, 2, 3, 4] rfl
theorem e_X12_splits_43 (l : Launch) (D : pg_D)  (k7 : Nat → Int32 → Int32 → pg_H → Option pg_H) (hk7 : ∀ (a0 : Nat) (a1 : Int32) (a2 : Int32) (h : pg_H), pg_EvF l D RX12 cX12_splits 6 none "splits" 1 27 pg_wV (k7 a0 a1 a2 h) 7 [(0, pR a0), (1, pI a1), (2, pI a2)] [] h) : ∀ (n : Nat) (a0 : Nat) (a1 : Int32) (a2 : Int32) (a3 : Int32) (a4 : Int32) (h : pg_H), pg_EvF l D RX12 cX12_splits 6 none "splits" 1 27 pg_wV (F_X12_splits_43 k7 n a0 a1 a2 a3 a4 h) 43 [(0, pR a0), (1, pI a1), (2, pI a2), (3, pI a3), (4, pI a4)] [] h := by
  intro n
  induction n with
  | zero => intro a0 a1 a2 a3 a4 h; exact pg_none
  | succ n ih =>
    intro a0 a1 a2 a3 a4 h
    rw [F_X12_splits_43]
    refine pg_iload dX12_splits_43 4 rfl ?_
    refine pg_iload_n (i := 1) dX12_splits_45 rfl 1 rfl ?_
    refine pg_icmp_ge (tgt := 68) dX12_splits_46 rfl ?_ ?_
    · exact pg_to (e_X12_splits_68 l D k7 hk7 a0 a1 a2 a3 a4 h) [0, 1, 2, 3, 4] rfl
    · refine pg_aload_n (i := 0) dX12_splits_49 rfl 0 rfl ?_
      refine pg_getR dX12_splits_50 fl_RX12_34 rfl (fun v1 => ?_)
      refine pg_iload dX12_splits_53 4 rfl ?_
      refine pg_baload dX12_splits_55 (fun v2 => ?_)
      refine pg_callS_oI (As := [pI v2]) (rs := []) dX12_splits_56 lk_RX12_172 vy_X12_isSmall nd_X12_isSmall (c_X12_isSmall l D v2 h) rfl rfl (Nat.le_of_ble_eq_true rfl) (by decide) (by decide) (fun v3 => ?_)
      refine pg_if_eq (tgt := 68) dX12_splits_59 rfl ?_ ?_
      · exact pg_to (e_X12_splits_68 l D k7 hk7 a0 a1 a2 a3 a4 h) [0, 1, 2, 3, 4] rfl
      · refine pg_iinc (lv' := [(4, pI (a4 + (1 : Int32))), (0, pR a0), (1, pI a1), (2, pI a2), (3, pI a3)]) dX12_splits_62 4 rfl ci_1 (by decide) rfl ?_
        refine pg_goto (tgt := 43) dX12_splits_65 rfl ?_
        exact pg_to (ih a0 a1 a2 a3 (a4 + (1 : Int32)) h) [1, 2, 3, 4, 0] rfl
theorem e_X12_splits_7 (l : Launch) (D : pg_D)   : ∀ (n : Nat) (a0 : Nat) (a1 : Int32) (a2 : Int32) (h : pg_H), pg_EvF l D RX12 cX12_splits 6 none "splits" 1 27 pg_wV (F_X12_splits_7 n a0 a1 a2 h) 7 [(0, pR a0), (1, pI a1), (2, pI a2)] [] h := by
  intro n
  induction n with
  | zero => intro a0 a1 a2 h; exact pg_none
  | succ n ih =>
    intro a0 a1 a2 h
    rw [F_X12_splits_7]
    refine pg_iload_n (i := 2) dX12_splits_7 rfl 2 rfl ?_
    refine pg_iload_n (i := 1) dX12_splits_8 rfl 1 rfl ?_
    refine pg_icmp_ge (tgt := 263) dX12_splits_9 rfl ?_ ?_
    · refine pg_aload_n (i := 0) dX12_splits_263 rfl 0 rfl ?_
      refine pg_getR dX12_splits_264 fl_RX12_49 rfl (fun v1 => ?_)
      refine pg_aload_n (i := 0) dX12_splits_267 rfl 0 rfl ?_
      refine pg_getI dX12_splits_268 fl_RX12_169 rfl (fun v2 => ?_)
      refine pg_iload_n (i := 1) dX12_splits_271 rfl 1 rfl ?_
      refine pg_iastore dX12_splits_272 (fun v3 => ?_)
      refine pg_aload_n (i := 0) dX12_splits_273 rfl 0 rfl ?_
      refine pg_getR dX12_splits_274 fl_RX12_43 rfl (fun v4 => ?_)
      refine pg_aload_n (i := 0) dX12_splits_277 rfl 0 rfl ?_
      refine pg_getI dX12_splits_278 fl_RX12_169 rfl (fun v5 => ?_)
      refine pg_iconst dX12_splits_281 ci_0 ?_
      refine pg_iastore dX12_splits_282 (fun v6 => ?_)
      refine pg_aload_n (i := 0) dX12_splits_283 rfl 0 rfl ?_
      refine pg_getR dX12_splits_284 fl_RX12_46 rfl (fun v7 => ?_)
      refine pg_aload_n (i := 0) dX12_splits_287 rfl 0 rfl ?_
      refine pg_getI dX12_splits_288 fl_RX12_169 rfl (fun v8 => ?_)
      refine pg_iconst dX12_splits_291 ci_0 ?_
      refine pg_iastore dX12_splits_292 (fun v9 => ?_)
      exact pg_vret dX12_splits_293 rfl rfl
    · refine pg_aload_n (i := 0) dX12_splits_12 rfl 0 rfl ?_
      refine pg_getR dX12_splits_13 fl_RX12_34 rfl (fun v10 => ?_)
      refine pg_iload_n (i := 2) dX12_splits_16 rfl 2 rfl ?_
      refine pg_baload dX12_splits_17 (fun v11 => ?_)
      refine pg_istore_n (i := 3) (lv' := [(3, pI v11), (0, pR a0), (1, pI a1), (2, pI a2)]) dX12_splits_18 rfl (by decide) rfl ?_
      refine pg_iload_n (i := 3) dX12_splits_19 rfl 0 rfl ?_
      refine pg_bipush dX12_splits_20 cb_32 ?_
      refine pg_icmp_ne (tgt := 31) dX12_splits_22 rfl ?_ ?_
      · refine pg_iload_n (i := 2) dX12_splits_31 rfl 3 rfl ?_
        refine pg_iconst dX12_splits_32 ci_1 ?_
        refine pg_iadd dX12_splits_33 ?_
        refine pg_letI (fun v12 => ?_)
        refine pg_istore (lv' := [(4, pI v12), (3, pI v11), (0, pR a0), (1, pI a1), (2, pI a2)]) dX12_splits_34 (by decide) rfl ?_
        refine pg_iload_n (i := 3) dX12_splits_36 rfl 1 rfl ?_
        refine pg_callS_oI (As := [pI v11]) (rs := []) dX12_splits_37 lk_RX12_172 vy_X12_isSmall nd_X12_isSmall (c_X12_isSmall l D v11 h) rfl rfl (Nat.le_of_ble_eq_true rfl) (by decide) (by decide) (fun v13 => ?_)
        refine pg_if_eq (tgt := 68) dX12_splits_40 rfl ?_ ?_
        · exact pg_to (e_X12_splits_68 l D (F_X12_splits_7 n) ih a0 a1 a2 v11 v12 h) [2, 3, 4, 1, 0] rfl
        · exact pg_to (e_X12_splits_43 l D (F_X12_splits_7 n) ih pg_fuel a0 a1 a2 v11 v12 h) [2, 3, 4, 1, 0] rfl
      · refine pg_iinc (lv' := [(2, pI (a2 + (1 : Int32))), (3, pI v11), (0, pR a0), (1, pI a1)]) dX12_splits_25 3 rfl ci_1 (by decide) rfl ?_
        refine pg_goto (tgt := 7) dX12_splits_28 rfl ?_
        exact pg_to (ih a0 a1 (a2 + (1 : Int32)) h) [2, 3, 0] rfl
theorem e_X12_splits (l : Launch) (D : pg_D)  (a0 : Nat) (a1 : Int32) (h : pg_H) : pg_EvF l D RX12 cX12_splits 6 none "splits" 1 27 pg_wV (F_X12_splits a0 a1 h) 0 [(0, pR a0), (1, pI a1)] [] h := by
  unfold F_X12_splits
  refine pg_aload_n (i := 0) dX12_splits_0 rfl 0 rfl ?_
  refine pg_iconst dX12_splits_1 ci_0 ?_
  refine pg_putI dX12_splits_2 fl_RX12_169 (fun z => by cases z) (fun v1 => ?_)
  refine pg_iconst dX12_splits_5 ci_0 ?_
  refine pg_istore_n (i := 2) (lv' := [(2, pI (0 : Int32)), (0, pR a0), (1, pI a1)]) dX12_splits_6 rfl (by decide) rfl ?_
  exact pg_to (e_X12_splits_7 l D pg_fuel a0 a1 (0 : Int32) v1) [1, 2, 0] rfl
theorem c_X12_splits (l : Launch) (D : pg_D) (a0 : Nat) (a1 : Int32) (h : pg_H) : ∀ x, F_X12_splits a0 a1 h = some x → pg_Ct l D yX12_splits cX12_splits 6 none 1 27 [pR a0, pI a1] h (pg_wV x) :=
  pg_Ct.of pn_RX12 (Nat.le_of_ble_eq_true rfl) (e_X12_splits l D a0 a1 h)
def F_X12_fine (h : pg_H) (a0 : Nat) : Option Int32 := Option.bind (pg_gI 12 18 h a0) fun v1 => (if v1 = (-1 : Int32) then (some (1 : Int32)) else (some (0 : Int32)))
theorem e_X12_fine (l : Launch) (D : pg_D)  (h : pg_H) (a0 : Nat) : pg_EvF l D RX12 cX12_fine 1 (some FieldType.boolean) "fine" 0 0 (pg_oI h) (F_X12_fine h a0) 0 [(0, pR a0)] [] h := by
  unfold F_X12_fine
  refine pg_aload_n (i := 0) dX12_fine_0 rfl 0 rfl ?_
  refine pg_getI dX12_fine_1 fl_RX12_182 rfl (fun v1 => ?_)
  refine pg_iconst dX12_fine_4 ci_m1 ?_
  refine pg_icmp_ne (tgt := 12) dX12_fine_5 rfl ?_ ?_
  · refine pg_iconst dX12_fine_12 ci_0 ?_
    exact pg_zret dX12_fine_13 rfl (Or.inl rfl) rfl
  · refine pg_iconst dX12_fine_8 ci_1 ?_
    refine pg_goto (tgt := 13) dX12_fine_9 rfl ?_
    exact pg_zret dX12_fine_13 rfl (Or.inr rfl) rfl
theorem c_X12_fine (l : Launch) (D : pg_D) (h : pg_H) (a0 : Nat)  : ∀ x, F_X12_fine h a0 = some x → pg_Ct l D yX12_fine cX12_fine 1 (some FieldType.boolean) 0 0 [pR a0] h (pg_oI h x) :=
  pg_Ct.of pn_RX12 (Nat.le_of_ble_eq_true rfl) (e_X12_fine l D h a0)
def F_X12_faults (a0 : Nat) (h : pg_H) : Option pg_H := Option.bind (pg_rcv 12 h a0 (F_X12_fine h a0)) fun v1 => (if v1 = 0 then (some h) else Option.bind (pg_gR 12 14 h a0) fun v2 => Option.bind (pg_gI 12 16 h a0) fun v3 => Option.bind (pg_aI 21 h v2 v3) fun v4 => Option.bind (pg_pI 12 18 h a0 v4) fun v5 => (some v5))
theorem e_X12_faults (l : Launch) (D : pg_D)  (a0 : Nat) (h : pg_H) : pg_EvF l D RX12 cX12_faults 1 none "faults" 1 20 pg_wV (F_X12_faults a0 h) 0 [(0, pR a0)] [] h := by
  unfold F_X12_faults
  refine pg_aload_n (i := 0) dX12_faults_0 rfl 0 rfl ?_
  refine pg_callV_oI (As := []) (rs := []) dX12_faults_1 lk_RX12_185 vy_X12_fine nd_X12_fine (c_X12_fine l D h a0) rfl rfl (Nat.le_of_ble_eq_true rfl) (by decide) (by decide) (fun v1 => ?_)
  refine pg_if_eq (tgt := 20) dX12_faults_4 rfl ?_ ?_
  · exact pg_vret dX12_faults_20 rfl rfl
  · refine pg_aload_n (i := 0) dX12_faults_7 rfl 0 rfl ?_
    refine pg_aload_n (i := 0) dX12_faults_8 rfl 0 rfl ?_
    refine pg_getR dX12_faults_9 fl_RX12_49 rfl (fun v2 => ?_)
    refine pg_aload_n (i := 0) dX12_faults_12 rfl 0 rfl ?_
    refine pg_getI dX12_faults_13 fl_RX12_189 rfl (fun v3 => ?_)
    refine pg_iaload dX12_faults_16 (fun v4 => ?_)
    refine pg_putI dX12_faults_17 fl_RX12_182 (fun z => by cases z) (fun v5 => ?_)
    exact pg_vret dX12_faults_20 rfl rfl
theorem c_X12_faults (l : Launch) (D : pg_D) (a0 : Nat) (h : pg_H) : ∀ x, F_X12_faults a0 h = some x → pg_Ct l D yX12_faults cX12_faults 1 none 1 20 [pR a0] h (pg_wV x) :=
  pg_Ct.of pn_RX12 (Nat.le_of_ble_eq_true rfl) (e_X12_faults l D a0 h)
def F_X12_takes_25 (a0 : Nat) (s0 : Int32) (h : pg_H) : Option (Int32 × pg_H) := (if s0 = 0 then (if s0 = 0 ∨ s0 = 1 then some (s0, h) else none) else Option.bind (pg_gI 12 16 h a0) fun v1 => Option.bind (pg_pI 12 16 h a0 (v1 + (1 : Int32))) fun v2 => (if s0 = 0 ∨ s0 = 1 then some (s0, v2) else none))
def F_X12_takes_24 (a0 : Nat) (h : pg_H) : Option (Int32 × pg_H) := (F_X12_takes_25 a0 (0 : Int32) h)
def F_X12_takes (a0 : Nat) (a1 : Int32) (h : pg_H) : Option (Int32 × pg_H) := Option.bind (pg_rcv 12 h a0 (F_X12_fine h a0)) fun v1 => (if v1 = 0 then (F_X12_takes_24 a0 h) else Option.bind (pg_gR 12 12 h a0) fun v2 => Option.bind (pg_gI 12 16 h a0) fun v3 => Option.bind (pg_aI 21 h v2 v3) fun v4 => (if v4 = a1 then (F_X12_takes_25 a0 (1 : Int32) h) else (F_X12_takes_24 a0 h)))
theorem e_X12_takes_25 (l : Launch) (D : pg_D)  (a0 : Nat) (s0 : Int32) (h : pg_H) : pg_EvF l D RX12 cX12_takes 3 (some FieldType.boolean) "takes" 1 20 pg_wI (F_X12_takes_25 a0 s0 h) 25 [(0, pR a0)] [pI s0] h := by
  unfold F_X12_takes_25
  refine pg_istore_n (i := 2) (lv' := [(2, pI s0), (0, pR a0)]) dX12_takes_25 rfl (by decide) rfl ?_
  refine pg_iload_n (i := 2) dX12_takes_26 rfl 0 rfl ?_
  refine pg_if_eq (tgt := 40) dX12_takes_27 rfl ?_ ?_
  · refine pg_iload_n (i := 2) dX12_takes_40 rfl 0 rfl ?_
    exact pg_zretq dX12_takes_41 rfl rfl
  · refine pg_aload_n (i := 0) dX12_takes_30 rfl 1 rfl ?_
    refine pg_dup dX12_takes_31 rfl ?_
    refine pg_getI dX12_takes_32 fl_RX12_189 rfl (fun v1 => ?_)
    refine pg_iconst dX12_takes_35 ci_1 ?_
    refine pg_iadd dX12_takes_36 ?_
    refine pg_putI dX12_takes_37 fl_RX12_189 (fun z => by cases z) (fun v2 => ?_)
    refine pg_iload_n (i := 2) dX12_takes_40 rfl 0 rfl ?_
    exact pg_zretq dX12_takes_41 rfl rfl
theorem e_X12_takes_24 (l : Launch) (D : pg_D)  (a0 : Nat) (h : pg_H) : pg_EvF l D RX12 cX12_takes 3 (some FieldType.boolean) "takes" 1 20 pg_wI (F_X12_takes_24 a0 h) 24 [(0, pR a0)] [] h := by
  unfold F_X12_takes_24
  refine pg_iconst dX12_takes_24 ci_0 ?_
  exact pg_to (e_X12_takes_25 l D a0 (0 : Int32) h) [0] rfl
theorem e_X12_takes (l : Launch) (D : pg_D)  (a0 : Nat) (a1 : Int32) (h : pg_H) : pg_EvF l D RX12 cX12_takes 3 (some FieldType.boolean) "takes" 1 20 pg_wI (F_X12_takes a0 a1 h) 0 [(0, pR a0), (1, pI a1)] [] h := by
  unfold F_X12_takes
  refine pg_aload_n (i := 0) dX12_takes_0 rfl 0 rfl ?_
  refine pg_callV_oI (As := []) (rs := []) dX12_takes_1 lk_RX12_185 vy_X12_fine nd_X12_fine (c_X12_fine l D h a0) rfl rfl (Nat.le_of_ble_eq_true rfl) (by decide) (by decide) (fun v1 => ?_)
  refine pg_if_eq (tgt := 24) dX12_takes_4 rfl ?_ ?_
  · exact pg_to (e_X12_takes_24 l D a0 h) [0] rfl
  · refine pg_aload_n (i := 0) dX12_takes_7 rfl 0 rfl ?_
    refine pg_getR dX12_takes_8 fl_RX12_43 rfl (fun v2 => ?_)
    refine pg_aload_n (i := 0) dX12_takes_11 rfl 0 rfl ?_
    refine pg_getI dX12_takes_12 fl_RX12_189 rfl (fun v3 => ?_)
    refine pg_iaload dX12_takes_15 (fun v4 => ?_)
    refine pg_iload_n (i := 1) dX12_takes_16 rfl 1 rfl ?_
    refine pg_icmp_ne (tgt := 24) dX12_takes_17 rfl ?_ ?_
    · exact pg_to (e_X12_takes_24 l D a0 h) [0] rfl
    · refine pg_iconst dX12_takes_20 ci_1 ?_
      refine pg_goto (tgt := 25) dX12_takes_21 rfl ?_
      exact pg_to (e_X12_takes_25 l D a0 (1 : Int32) h) [0] rfl
theorem c_X12_takes (l : Launch) (D : pg_D) (a0 : Nat) (a1 : Int32) (h : pg_H) : ∀ x, F_X12_takes a0 a1 h = some x → pg_Ct l D yX12_takes cX12_takes 3 (some FieldType.boolean) 1 20 [pR a0, pI a1] h (pg_wI x) :=
  pg_Ct.of pn_RX12 (Nat.le_of_ble_eq_true rfl) (e_X12_takes l D a0 a1 h)
def F_X12_must (a0 : Nat) (a1 : Int32) (h : pg_H) : Option pg_H := Option.bind (pg_rcv 12 h a0 (F_X12_takes a0 a1 h)) fun v1 => (if v1.1 = 0 then Option.bind (pg_rcv 12 v1.2 a0 (F_X12_faults a0 v1.2)) fun v2 => (some v2) else (some v1.2))
theorem e_X12_must (l : Launch) (D : pg_D)  (a0 : Nat) (a1 : Int32) (h : pg_H) : pg_EvF l D RX12 cX12_must 2 none "must" 2 42 pg_wV (F_X12_must a0 a1 h) 0 [(0, pR a0), (1, pI a1)] [] h := by
  unfold F_X12_must
  refine pg_aload_n (i := 0) dX12_must_0 rfl 0 rfl ?_
  refine pg_iload_n (i := 1) dX12_must_1 rfl 1 rfl ?_
  refine pg_callV_wI (As := [pI a1]) (rs := []) dX12_must_2 lk_RX12_192 vy_X12_takes nd_X12_takes (c_X12_takes l D a0 a1 h) rfl rfl (Nat.le_of_ble_eq_true rfl) (by decide) (by decide) (fun v1 => ?_)
  refine pg_if_ne (tgt := 12) dX12_must_5 rfl ?_ ?_
  · exact pg_vret dX12_must_12 rfl rfl
  · refine pg_aload_n (i := 0) dX12_must_8 rfl 0 rfl ?_
    refine pg_callV_wV (As := []) (rs := []) dX12_must_9 lk_RX12_195 vy_X12_faults nd_X12_faults (c_X12_faults l D a0 v1.2) rfl rfl (Nat.le_of_ble_eq_true rfl) (by decide) (by decide) (fun v2 => ?_)
    exact pg_vret dX12_must_12 rfl rfl
theorem c_X12_must (l : Launch) (D : pg_D) (a0 : Nat) (a1 : Int32) (h : pg_H) : ∀ x, F_X12_must a0 a1 h = some x → pg_Ct l D yX12_must cX12_must 2 none 2 42 [pR a0, pI a1] h (pg_wV x) :=
  pg_Ct.of pn_RX12 (Nat.le_of_ble_eq_true rfl) (e_X12_must l D a0 a1 h)
def F_X12_leaf_13 (a0 : Nat) (h : pg_H) : Option pg_H := Option.bind (pg_gI 12 17 h a0) fun v1 => Option.bind (pg_pI 12 17 h a0 (v1 + (1 : Int32))) fun v2 => Option.bind (pg_rcv 12 v2 a0 (F_X12_fine v2 a0)) fun v3 => (if v3 = 0 then (some v2) else Option.bind (pg_gI 12 16 v2 a0) fun v4 => Option.bind (pg_pI 12 16 v2 a0 (v4 + (1 : Int32))) fun v5 => (some v5))
def F_X12_leaf (a0 : Nat) (h : pg_H) : Option pg_H := Option.bind (pg_gI 12 17 h a0) fun v1 => (if v1 = (50 : Int32) then Option.bind (pg_rcv 12 h a0 (F_X12_faults a0 h)) fun v2 => (F_X12_leaf_13 a0 v2) else (F_X12_leaf_13 a0 h))
theorem e_X12_leaf_13 (l : Launch) (D : pg_D)  (a0 : Nat) (h : pg_H) : pg_EvF l D RX12 cX12_leaf 1 none "leaf" 2 40 pg_wV (F_X12_leaf_13 a0 h) 13 [(0, pR a0)] [] h := by
  unfold F_X12_leaf_13
  refine pg_aload_n (i := 0) dX12_leaf_13 rfl 0 rfl ?_
  refine pg_dup dX12_leaf_14 rfl ?_
  refine pg_getI dX12_leaf_15 fl_RX12_198 rfl (fun v1 => ?_)
  refine pg_iconst dX12_leaf_18 ci_1 ?_
  refine pg_iadd dX12_leaf_19 ?_
  refine pg_putI dX12_leaf_20 fl_RX12_198 (fun z => by cases z) (fun v2 => ?_)
  refine pg_aload_n (i := 0) dX12_leaf_23 rfl 0 rfl ?_
  refine pg_callV_oI (As := []) (rs := []) dX12_leaf_24 lk_RX12_185 vy_X12_fine nd_X12_fine (c_X12_fine l D v2 a0) rfl rfl (Nat.le_of_ble_eq_true rfl) (by decide) (by decide) (fun v3 => ?_)
  refine pg_if_eq (tgt := 40) dX12_leaf_27 rfl ?_ ?_
  · exact pg_vret dX12_leaf_40 rfl rfl
  · refine pg_aload_n (i := 0) dX12_leaf_30 rfl 0 rfl ?_
    refine pg_dup dX12_leaf_31 rfl ?_
    refine pg_getI dX12_leaf_32 fl_RX12_189 rfl (fun v4 => ?_)
    refine pg_iconst dX12_leaf_35 ci_1 ?_
    refine pg_iadd dX12_leaf_36 ?_
    refine pg_putI dX12_leaf_37 fl_RX12_189 (fun z => by cases z) (fun v5 => ?_)
    exact pg_vret dX12_leaf_40 rfl rfl
theorem e_X12_leaf (l : Launch) (D : pg_D)  (a0 : Nat) (h : pg_H) : pg_EvF l D RX12 cX12_leaf 1 none "leaf" 2 40 pg_wV (F_X12_leaf a0 h) 0 [(0, pR a0)] [] h := by
  unfold F_X12_leaf
  refine pg_aload_n (i := 0) dX12_leaf_0 rfl 0 rfl ?_
  refine pg_getI dX12_leaf_1 fl_RX12_198 rfl (fun v1 => ?_)
  refine pg_bipush dX12_leaf_4 cb_50 ?_
  refine pg_icmp_ne (tgt := 13) dX12_leaf_6 rfl ?_ ?_
  · exact pg_to (e_X12_leaf_13 l D a0 h) [0] rfl
  · refine pg_aload_n (i := 0) dX12_leaf_9 rfl 0 rfl ?_
    refine pg_callV_wV (As := []) (rs := []) dX12_leaf_10 lk_RX12_195 vy_X12_faults nd_X12_faults (c_X12_faults l D a0 h) rfl rfl (Nat.le_of_ble_eq_true rfl) (by decide) (by decide) (fun v2 => ?_)
    exact pg_to (e_X12_leaf_13 l D a0 v2) [0] rfl
theorem c_X12_leaf (l : Launch) (D : pg_D) (a0 : Nat) (h : pg_H) : ∀ x, F_X12_leaf a0 h = some x → pg_Ct l D yX12_leaf cX12_leaf 1 none 2 40 [pR a0] h (pg_wV x) :=
  pg_Ct.of pn_RX12 (Nat.le_of_ble_eq_true rfl) (e_X12_leaf l D a0 h)
def F_X12_sign (a0 : Int32) : Option Int32 := (some ((100 : Int32) + a0))
theorem e_X12_sign (l : Launch) (D : pg_D)  (a0 : Int32) (h : pg_H) : pg_EvF l D RX12 cX12_sign 1 (some FieldType.int) "sign" 0 0 (pg_oI h) (F_X12_sign a0) 0 [(0, pI a0)] [] h := by
  unfold F_X12_sign
  refine pg_bipush dX12_sign_0 cb_100 ?_
  refine pg_iload_n (i := 0) dX12_sign_2 rfl 0 rfl ?_
  refine pg_iadd dX12_sign_3 ?_
  exact pg_iret dX12_sign_4 rfl rfl
theorem c_X12_sign (l : Launch) (D : pg_D) (a0 : Int32) (h : pg_H) : ∀ x, F_X12_sign a0 = some x → pg_Ct l D yX12_sign cX12_sign 1 (some FieldType.int) 0 0 [pI a0] h (pg_oI h x) :=
  pg_Ct.of pn_RX12 (Nat.le_of_ble_eq_true rfl) (e_X12_sign l D a0 h)
def F_X12_readTest_5 (g_X12_readBoth : Nat → Int32 → pg_H → Option pg_H) : Nat → Nat → Int32 → pg_H → Option pg_H
  | 0 => fun _ _ _ => none
  | n + 1 => fun a0 a1 h => Option.bind (pg_rcv 12 h a0 (F_X12_takes a0 (9 : Int32) h)) fun v1 => (if v1.1 = 0 then (some v1.2) else Option.bind (pg_rcv 12 v1.2 a0 (g_X12_readBoth a0 a1 v1.2)) fun v2 => (F_X12_readTest_5 g_X12_readBoth n a0 a1 v2))
def B_X12_readTest (g_X12_readBoth : Nat → Int32 → pg_H → Option pg_H) (a0 : Nat) (a1 : Int32) (h : pg_H) : Option pg_H := Option.bind (pg_rcv 12 h a0 (g_X12_readBoth a0 a1 h)) fun v1 => (F_X12_readTest_5 g_X12_readBoth pg_fuel a0 a1 v1)
def F_X12_readBoth_5 (g_X12_readPlain : Nat → Int32 → pg_H → Option pg_H) : Nat → Nat → Int32 → pg_H → Option pg_H
  | 0 => fun _ _ _ => none
  | n + 1 => fun a0 a1 h => Option.bind (pg_rcv 12 h a0 (F_X12_takes a0 (10 : Int32) h)) fun v1 => (if v1.1 = 0 then (some v1.2) else Option.bind (pg_rcv 12 v1.2 a0 (g_X12_readPlain a0 a1 v1.2)) fun v2 => (F_X12_readBoth_5 g_X12_readPlain n a0 a1 v2))
def B_X12_readBoth (g_X12_readPlain : Nat → Int32 → pg_H → Option pg_H) (a0 : Nat) (a1 : Int32) (h : pg_H) : Option pg_H := Option.bind (pg_rcv 12 h a0 (g_X12_readPlain a0 a1 h)) fun v1 => (F_X12_readBoth_5 g_X12_readPlain pg_fuel a0 a1 v1)
def F_X12_readPlain_128 (g_X12_readTest : Nat → Int32 → pg_H → Option pg_H) (g_X12_readSum : Nat → Int32 → pg_H → Option pg_H) (a0 : Nat) (a1 : Int32) (h : pg_H) : Option pg_H := Option.bind (pg_rcv 12 h a0 (g_X12_readSum a0 a1 h)) fun v1 => (some v1)
def F_X12_readPlain_53 (g_X12_readTest : Nat → Int32 → pg_H → Option pg_H) (g_X12_readSum : Nat → Int32 → pg_H → Option pg_H) (a0 : Nat) (a1 : Int32) (h : pg_H) : Option pg_H := Option.bind (pg_rcv 12 h a0 (F_X12_fine h a0)) fun v1 => (if v1 = 0 then (some h) else Option.bind (pg_gI 12 16 h a0) fun v2 => Option.bind (pg_pI 12 16 h a0 (v2 + (1 : Int32))) fun v3 => Option.bind (pg_rcv 12 v3 a0 (g_X12_readTest a0 (a1 + (1 : Int32)) v3)) fun v4 => Option.bind (F_X12_sign (41 : Int32)) fun v5 => Option.bind (pg_rcv 12 v4 a0 (F_X12_must a0 v5 v4)) fun v6 => (some v6))
def F_X12_readPlain_2 (g_X12_readTest : Nat → Int32 → pg_H → Option pg_H) (g_X12_readSum : Nat → Int32 → pg_H → Option pg_H) : Nat → Nat → Int32 → Int32 → pg_H → Option pg_H
  | 0 => fun _ _ _ _ => none
  | n + 1 => fun a0 a1 a2 h => (if a2 = 0 then Option.bind (pg_rcv 12 h a0 (F_X12_fine h a0)) fun v1 => (if v1 = 0 then (some h) else Option.bind (pg_gR 12 12 h a0) fun v2 => Option.bind (pg_gI 12 16 h a0) fun v3 => Option.bind (pg_aI 21 h v2 v3) fun v4 => Option.bind (F_X12_sign (40 : Int32)) fun v5 => (if v4 = v5 then (if a1 = (8 : Int32) then Option.bind (pg_rcv 12 h a0 (F_X12_faults a0 h)) fun v13 => (F_X12_readPlain_53 g_X12_readTest g_X12_readSum a0 a1 v13) else (F_X12_readPlain_53 g_X12_readTest g_X12_readSum a0 a1 h)) else Option.bind (pg_rcv 12 h a0 (g_X12_readSum a0 a1 h)) fun v6 => Option.bind (F_X12_sign (60 : Int32)) fun v7 => Option.bind (pg_rcv 12 v6 a0 (F_X12_takes a0 v7 v6)) fun v8 => (if v8.1 = 0 then Option.bind (F_X12_sign (62 : Int32)) fun v9 => Option.bind (pg_rcv 12 v8.2 a0 (F_X12_takes a0 v9 v8.2)) fun v10 => (if v10.1 = 0 then Option.bind (F_X12_sign (61 : Int32)) fun v11 => Option.bind (pg_rcv 12 v10.2 a0 (F_X12_must a0 v11 v10.2)) fun v12 => (F_X12_readPlain_128 g_X12_readTest g_X12_readSum a0 a1 v12) else (F_X12_readPlain_128 g_X12_readTest g_X12_readSum a0 a1 v10.2)) else (F_X12_readPlain_128 g_X12_readTest g_X12_readSum a0 a1 v8.2)))) else Option.bind (pg_rcv 12 h a0 (F_X12_takes a0 (11 : Int32) h)) fun v14 => (F_X12_readPlain_2 g_X12_readTest g_X12_readSum n a0 a1 v14.1 v14.2))
def B_X12_readPlain (g_X12_readTest : Nat → Int32 → pg_H → Option pg_H) (g_X12_readSum : Nat → Int32 → pg_H → Option pg_H) (a0 : Nat) (a1 : Int32) (h : pg_H) : Option pg_H := (F_X12_readPlain_2 g_X12_readTest g_X12_readSum pg_fuel a0 a1 (1 : Int32) h)
def F_X12_readSum_29 (g_X12_readTerm : Nat → Int32 → pg_H → Option pg_H) (k5 : Nat → Int32 → pg_H → Option pg_H) (a0 : Nat) (a1 : Int32) (h : pg_H) : Option pg_H := Option.bind (pg_rcv 12 h a0 (g_X12_readTerm a0 a1 h)) fun v1 => (k5 a0 a1 v1)
def F_X12_readSum_5 (g_X12_readTerm : Nat → Int32 → pg_H → Option pg_H) : Nat → Nat → Int32 → pg_H → Option pg_H
  | 0 => fun _ _ _ => none
  | n + 1 => fun a0 a1 h => Option.bind (F_X12_sign (43 : Int32)) fun v1 => Option.bind (pg_rcv 12 h a0 (F_X12_takes a0 v1 h)) fun v2 => (if v2.1 = 0 then Option.bind (F_X12_sign (45 : Int32)) fun v3 => Option.bind (pg_rcv 12 v2.2 a0 (F_X12_takes a0 v3 v2.2)) fun v4 => (if v4.1 = 0 then (some v4.2) else (F_X12_readSum_29 g_X12_readTerm (F_X12_readSum_5 g_X12_readTerm n) a0 a1 v4.2)) else (F_X12_readSum_29 g_X12_readTerm (F_X12_readSum_5 g_X12_readTerm n) a0 a1 v2.2))
def B_X12_readSum (g_X12_readTerm : Nat → Int32 → pg_H → Option pg_H) (a0 : Nat) (a1 : Int32) (h : pg_H) : Option pg_H := Option.bind (pg_rcv 12 h a0 (g_X12_readTerm a0 a1 h)) fun v1 => (F_X12_readSum_5 g_X12_readTerm pg_fuel a0 a1 v1)
def F_X12_readTerm_29 (g_X12_readPart : Nat → Int32 → pg_H → Option pg_H) (k5 : Nat → Int32 → pg_H → Option pg_H) (a0 : Nat) (a1 : Int32) (h : pg_H) : Option pg_H := Option.bind (pg_rcv 12 h a0 (g_X12_readPart a0 a1 h)) fun v1 => (k5 a0 a1 v1)
def F_X12_readTerm_5 (g_X12_readPart : Nat → Int32 → pg_H → Option pg_H) : Nat → Nat → Int32 → pg_H → Option pg_H
  | 0 => fun _ _ _ => none
  | n + 1 => fun a0 a1 h => Option.bind (F_X12_sign (42 : Int32)) fun v1 => Option.bind (pg_rcv 12 h a0 (F_X12_takes a0 v1 h)) fun v2 => (if v2.1 = 0 then Option.bind (F_X12_sign (47 : Int32)) fun v3 => Option.bind (pg_rcv 12 v2.2 a0 (F_X12_takes a0 v3 v2.2)) fun v4 => (if v4.1 = 0 then (some v4.2) else (F_X12_readTerm_29 g_X12_readPart (F_X12_readTerm_5 g_X12_readPart n) a0 a1 v4.2)) else (F_X12_readTerm_29 g_X12_readPart (F_X12_readTerm_5 g_X12_readPart n) a0 a1 v2.2))
def B_X12_readTerm (g_X12_readPart : Nat → Int32 → pg_H → Option pg_H) (a0 : Nat) (a1 : Int32) (h : pg_H) : Option pg_H := Option.bind (pg_rcv 12 h a0 (g_X12_readPart a0 a1 h)) fun v1 => (F_X12_readTerm_5 g_X12_readPart pg_fuel a0 a1 v1)
def F_X12_readPart_114 (g_X12_readSum : Nat → Int32 → pg_H → Option pg_H) (a0 : Nat) (h : pg_H) : Option pg_H := Option.bind (pg_rcv 12 h a0 (F_X12_faults a0 h)) fun v1 => (some v1)
def F_X12_readPart_107 (g_X12_readSum : Nat → Int32 → pg_H → Option pg_H) (a0 : Nat) (h : pg_H) : Option pg_H := Option.bind (pg_rcv 12 h a0 (F_X12_leaf a0 h)) fun v1 => (some v1)
def F_X12_readPart_95 (g_X12_readSum : Nat → Int32 → pg_H → Option pg_H) (a0 : Nat) (a2 : Int32) (h : pg_H) : Option pg_H := (if a2 < (12 : Int32) then (F_X12_readPart_114 g_X12_readSum a0 h) else (if (20 : Int32) < a2 then (F_X12_readPart_114 g_X12_readSum a0 h) else (F_X12_readPart_107 g_X12_readSum a0 h)))
def F_X12_readPart_37 (g_X12_readSum : Nat → Int32 → pg_H → Option pg_H) (a0 : Nat) (a1 : Int32) (h : pg_H) : Option pg_H := Option.bind (pg_rcv 12 h a0 (F_X12_fine h a0)) fun v1 => (if v1 = 0 then (some h) else Option.bind (pg_gI 12 16 h a0) fun v2 => Option.bind (pg_pI 12 16 h a0 (v2 + (1 : Int32))) fun v3 => Option.bind (pg_rcv 12 v3 a0 (g_X12_readSum a0 (a1 + (1 : Int32)) v3)) fun v4 => Option.bind (F_X12_sign (93 : Int32)) fun v5 => Option.bind (pg_rcv 12 v4 a0 (F_X12_must a0 v5 v4)) fun v6 => (some v6))
def B_X12_readPart (g_X12_readSum : Nat → Int32 → pg_H → Option pg_H) (a0 : Nat) (a1 : Int32) (h : pg_H) : Option pg_H := Option.bind (pg_rcv 12 h a0 (F_X12_fine h a0)) fun v1 => (if v1 = 0 then (some h) else Option.bind (pg_gR 12 12 h a0) fun v2 => Option.bind (pg_gI 12 16 h a0) fun v3 => Option.bind (pg_aI 21 h v2 v3) fun v4 => Option.bind (F_X12_sign (91 : Int32)) fun v5 => (if v4 = v5 then (if a1 = (8 : Int32) then Option.bind (pg_rcv 12 h a0 (F_X12_faults a0 h)) fun v9 => (F_X12_readPart_37 g_X12_readSum a0 a1 v9) else (F_X12_readPart_37 g_X12_readSum a0 a1 h)) else (if v4 = (50 : Int32) then Option.bind (pg_gR 12 13 h a0) fun v6 => Option.bind (pg_gI 12 16 h a0) fun v7 => Option.bind (pg_aI 21 h v6 v7) fun v8 => (if (1000 : Int32) < v8 then (F_X12_readPart_95 g_X12_readSum a0 v4 h) else (F_X12_readPart_107 g_X12_readSum a0 h)) else (F_X12_readPart_95 g_X12_readSum a0 v4 h))))
def FG_X12_readTest : Nat → (Nat → Int32 → pg_H → Option pg_H) × (Nat → Int32 → pg_H → Option pg_H) × (Nat → Int32 → pg_H → Option pg_H) × (Nat → Int32 → pg_H → Option pg_H) × (Nat → Int32 → pg_H → Option pg_H) × (Nat → Int32 → pg_H → Option pg_H)
  | 0 => (fun _ _ _ => none, fun _ _ _ => none, fun _ _ _ => none, fun _ _ _ => none, fun _ _ _ => none, fun _ _ _ => none)
  | n + 1 => (B_X12_readTest ((FG_X12_readTest n).2.1), B_X12_readBoth ((FG_X12_readTest n).2.2.1), B_X12_readPlain ((FG_X12_readTest n).1) ((FG_X12_readTest n).2.2.2.1), B_X12_readSum ((FG_X12_readTest n).2.2.2.2.1), B_X12_readTerm ((FG_X12_readTest n).2.2.2.2.2), B_X12_readPart ((FG_X12_readTest n).2.2.2.1))
def F_X12_readTest (a0 : Nat) (a1 : Int32) (h : pg_H) : Option pg_H := (FG_X12_readTest 1300).1 a0 a1 h
def F_X12_readBoth (a0 : Nat) (a1 : Int32) (h : pg_H) : Option pg_H := (FG_X12_readTest 1300).2.1 a0 a1 h
def F_X12_readPlain (a0 : Nat) (a1 : Int32) (h : pg_H) : Option pg_H := (FG_X12_readTest 1300).2.2.1 a0 a1 h
def F_X12_readSum (a0 : Nat) (a1 : Int32) (h : pg_H) : Option pg_H := (FG_X12_readTest 1300).2.2.2.1 a0 a1 h
def F_X12_readTerm (a0 : Nat) (a1 : Int32) (h : pg_H) : Option pg_H := (FG_X12_readTest 1300).2.2.2.2.1 a0 a1 h
def F_X12_readPart (a0 : Nat) (a1 : Int32) (h : pg_H) : Option pg_H := (FG_X12_readTest 1300).2.2.2.2.2 a0 a1 h
theorem e_X12_readTest_5 (l : Launch) (D : pg_D) (dn dm : Nat) (hdn : 3 ≤ dn) (hdm : 63 ≤ dm) (g_X12_readBoth : Nat → Int32 → pg_H → Option pg_H) (hg_X12_readBoth : ∀ (a0 : Nat) (a1 : Int32) (h : pg_H) (x : pg_H), g_X12_readBoth a0 a1 h = some x → pg_Ct l D yX12_readBoth cX12_readBoth 2 none dn dm [pR a0, pI a1] h (pg_wV x))  : ∀ (n : Nat) (a0 : Nat) (a1 : Int32) (h : pg_H), pg_EvF l D RX12 cX12_readTest 2 none "readTest" (dn + 1) (dm + 23) pg_wV (F_X12_readTest_5 g_X12_readBoth n a0 a1 h) 5 [(0, pR a0), (1, pI a1)] [] h := by
  intro n
  induction n with
  | zero => intro a0 a1 h; exact pg_none
  | succ n ih =>
    intro a0 a1 h
    rw [F_X12_readTest_5]
    refine pg_aload_n (i := 0) dX12_readTest_5 rfl 0 rfl ?_
    refine pg_bipush dX12_readTest_6 cb_9 ?_
    refine pg_callV_wI (As := [pI (9 : Int32)]) (rs := []) dX12_readTest_8 lk_RX12_192 vy_X12_takes nd_X12_takes (c_X12_takes l D a0 (9 : Int32) h) rfl rfl (Nat.le_of_ble_eq_true rfl) (by omega) (by omega) (fun v1 => ?_)
    refine pg_if_eq (tgt := 22) dX12_readTest_11 rfl ?_ ?_
    · exact pg_vret dX12_readTest_22 rfl rfl
    · refine pg_aload_n (i := 0) dX12_readTest_14 rfl 0 rfl ?_
      refine pg_iload_n (i := 1) dX12_readTest_15 rfl 1 rfl ?_
      refine pg_callV_wV (As := [pI a1]) (rs := []) dX12_readTest_16 lk_RX12_211 vy_X12_readBoth nd_X12_readBoth (hg_X12_readBoth a0 a1 v1.2) rfl rfl (Nat.le_of_ble_eq_true rfl) (Nat.le_refl _) (by omega) (fun v2 => ?_)
      refine pg_goto (tgt := 5) dX12_readTest_19 rfl ?_
      exact pg_to (ih a0 a1 v2) [0, 1] rfl
theorem e_X12_readTest (l : Launch) (D : pg_D) (dn dm : Nat) (hdn : 3 ≤ dn) (hdm : 63 ≤ dm) (g_X12_readBoth : Nat → Int32 → pg_H → Option pg_H) (hg_X12_readBoth : ∀ (a0 : Nat) (a1 : Int32) (h : pg_H) (x : pg_H), g_X12_readBoth a0 a1 h = some x → pg_Ct l D yX12_readBoth cX12_readBoth 2 none dn dm [pR a0, pI a1] h (pg_wV x)) (a0 : Nat) (a1 : Int32) (h : pg_H) : pg_EvF l D RX12 cX12_readTest 2 none "readTest" (dn + 1) (dm + 23) pg_wV (B_X12_readTest g_X12_readBoth a0 a1 h) 0 [(0, pR a0), (1, pI a1)] [] h := by
  unfold B_X12_readTest
  refine pg_aload_n (i := 0) dX12_readTest_0 rfl 0 rfl ?_
  refine pg_iload_n (i := 1) dX12_readTest_1 rfl 1 rfl ?_
  refine pg_callV_wV (As := [pI a1]) (rs := []) dX12_readTest_2 lk_RX12_211 vy_X12_readBoth nd_X12_readBoth (hg_X12_readBoth a0 a1 h) rfl rfl (Nat.le_of_ble_eq_true rfl) (Nat.le_refl _) (by omega) (fun v1 => ?_)
  exact pg_to (e_X12_readTest_5 l D dn dm hdn hdm g_X12_readBoth hg_X12_readBoth pg_fuel a0 a1 v1) [0, 1] rfl
theorem e_X12_readBoth_5 (l : Launch) (D : pg_D) (dn dm : Nat) (hdn : 3 ≤ dn) (hdm : 63 ≤ dm) (g_X12_readPlain : Nat → Int32 → pg_H → Option pg_H) (hg_X12_readPlain : ∀ (a0 : Nat) (a1 : Int32) (h : pg_H) (x : pg_H), g_X12_readPlain a0 a1 h = some x → pg_Ct l D yX12_readPlain cX12_readPlain 4 none dn dm [pR a0, pI a1] h (pg_wV x))  : ∀ (n : Nat) (a0 : Nat) (a1 : Int32) (h : pg_H), pg_EvF l D RX12 cX12_readBoth 2 none "readBoth" (dn + 1) (dm + 23) pg_wV (F_X12_readBoth_5 g_X12_readPlain n a0 a1 h) 5 [(0, pR a0), (1, pI a1)] [] h := by
  intro n
  induction n with
  | zero => intro a0 a1 h; exact pg_none
  | succ n ih =>
    intro a0 a1 h
    rw [F_X12_readBoth_5]
    refine pg_aload_n (i := 0) dX12_readBoth_5 rfl 0 rfl ?_
    refine pg_bipush dX12_readBoth_6 cb_10 ?_
    refine pg_callV_wI (As := [pI (10 : Int32)]) (rs := []) dX12_readBoth_8 lk_RX12_192 vy_X12_takes nd_X12_takes (c_X12_takes l D a0 (10 : Int32) h) rfl rfl (Nat.le_of_ble_eq_true rfl) (by omega) (by omega) (fun v1 => ?_)
    refine pg_if_eq (tgt := 22) dX12_readBoth_11 rfl ?_ ?_
    · exact pg_vret dX12_readBoth_22 rfl rfl
    · refine pg_aload_n (i := 0) dX12_readBoth_14 rfl 0 rfl ?_
      refine pg_iload_n (i := 1) dX12_readBoth_15 rfl 1 rfl ?_
      refine pg_callV_wV (As := [pI a1]) (rs := []) dX12_readBoth_16 lk_RX12_214 vy_X12_readPlain nd_X12_readPlain (hg_X12_readPlain a0 a1 v1.2) rfl rfl (Nat.le_of_ble_eq_true rfl) (Nat.le_refl _) (by omega) (fun v2 => ?_)
      refine pg_goto (tgt := 5) dX12_readBoth_19 rfl ?_
      exact pg_to (ih a0 a1 v2) [0, 1] rfl
theorem e_X12_readBoth (l : Launch) (D : pg_D) (dn dm : Nat) (hdn : 3 ≤ dn) (hdm : 63 ≤ dm) (g_X12_readPlain : Nat → Int32 → pg_H → Option pg_H) (hg_X12_readPlain : ∀ (a0 : Nat) (a1 : Int32) (h : pg_H) (x : pg_H), g_X12_readPlain a0 a1 h = some x → pg_Ct l D yX12_readPlain cX12_readPlain 4 none dn dm [pR a0, pI a1] h (pg_wV x)) (a0 : Nat) (a1 : Int32) (h : pg_H) : pg_EvF l D RX12 cX12_readBoth 2 none "readBoth" (dn + 1) (dm + 23) pg_wV (B_X12_readBoth g_X12_readPlain a0 a1 h) 0 [(0, pR a0), (1, pI a1)] [] h := by
  unfold B_X12_readBoth
  refine pg_aload_n (i := 0) dX12_readBoth_0 rfl 0 rfl ?_
  refine pg_iload_n (i := 1) dX12_readBoth_1 rfl 1 rfl ?_
  refine pg_callV_wV (As := [pI a1]) (rs := []) dX12_readBoth_2 lk_RX12_214 vy_X12_readPlain nd_X12_readPlain (hg_X12_readPlain a0 a1 h) rfl rfl (Nat.le_of_ble_eq_true rfl) (Nat.le_refl _) (by omega) (fun v1 => ?_)
  exact pg_to (e_X12_readBoth_5 l D dn dm hdn hdm g_X12_readPlain hg_X12_readPlain pg_fuel a0 a1 v1) [0, 1] rfl
theorem e_X12_readPlain_128 (l : Launch) (D : pg_D) (dn dm : Nat) (hdn : 3 ≤ dn) (hdm : 63 ≤ dm) (g_X12_readTest : Nat → Int32 → pg_H → Option pg_H) (g_X12_readSum : Nat → Int32 → pg_H → Option pg_H) (hg_X12_readTest : ∀ (a0 : Nat) (a1 : Int32) (h : pg_H) (x : pg_H), g_X12_readTest a0 a1 h = some x → pg_Ct l D yX12_readTest cX12_readTest 2 none dn dm [pR a0, pI a1] h (pg_wV x)) (hg_X12_readSum : ∀ (a0 : Nat) (a1 : Int32) (h : pg_H) (x : pg_H), g_X12_readSum a0 a1 h = some x → pg_Ct l D yX12_readSum cX12_readSum 2 none dn dm [pR a0, pI a1] h (pg_wV x)) (a0 : Nat) (a1 : Int32) (h : pg_H) : pg_EvF l D RX12 cX12_readPlain 4 none "readPlain" (dn + 1) (dm + 23) pg_wV (F_X12_readPlain_128 g_X12_readTest g_X12_readSum a0 a1 h) 128 [(0, pR a0), (1, pI a1)] [] h := by
  unfold F_X12_readPlain_128
  refine pg_aload_n (i := 0) dX12_readPlain_128 rfl 0 rfl ?_
  refine pg_iload_n (i := 1) dX12_readPlain_129 rfl 1 rfl ?_
  refine pg_callV_wV (As := [pI a1]) (rs := []) dX12_readPlain_130 lk_RX12_201 vy_X12_readSum nd_X12_readSum (hg_X12_readSum a0 a1 h) rfl rfl (Nat.le_of_ble_eq_true rfl) (Nat.le_refl _) (by omega) (fun v1 => ?_)
  exact pg_vret dX12_readPlain_133 rfl rfl
theorem e_X12_readPlain_53 (l : Launch) (D : pg_D) (dn dm : Nat) (hdn : 3 ≤ dn) (hdm : 63 ≤ dm) (g_X12_readTest : Nat → Int32 → pg_H → Option pg_H) (g_X12_readSum : Nat → Int32 → pg_H → Option pg_H) (hg_X12_readTest : ∀ (a0 : Nat) (a1 : Int32) (h : pg_H) (x : pg_H), g_X12_readTest a0 a1 h = some x → pg_Ct l D yX12_readTest cX12_readTest 2 none dn dm [pR a0, pI a1] h (pg_wV x)) (hg_X12_readSum : ∀ (a0 : Nat) (a1 : Int32) (h : pg_H) (x : pg_H), g_X12_readSum a0 a1 h = some x → pg_Ct l D yX12_readSum cX12_readSum 2 none dn dm [pR a0, pI a1] h (pg_wV x)) (a0 : Nat) (a1 : Int32) (h : pg_H) : pg_EvF l D RX12 cX12_readPlain 4 none "readPlain" (dn + 1) (dm + 23) pg_wV (F_X12_readPlain_53 g_X12_readTest g_X12_readSum a0 a1 h) 53 [(0, pR a0), (1, pI a1)] [] h := by
  unfold F_X12_readPlain_53
  refine pg_aload_n (i := 0) dX12_readPlain_53 rfl 0 rfl ?_
  refine pg_callV_oI (As := []) (rs := []) dX12_readPlain_54 lk_RX12_185 vy_X12_fine nd_X12_fine (c_X12_fine l D h a0) rfl rfl (Nat.le_of_ble_eq_true rfl) (by omega) (by omega) (fun v1 => ?_)
  refine pg_if_ne (tgt := 61) dX12_readPlain_57 rfl ?_ ?_
  · refine pg_aload_n (i := 0) dX12_readPlain_61 rfl 0 rfl ?_
    refine pg_dup dX12_readPlain_62 rfl ?_
    refine pg_getI dX12_readPlain_63 fl_RX12_189 rfl (fun v2 => ?_)
    refine pg_iconst dX12_readPlain_66 ci_1 ?_
    refine pg_iadd dX12_readPlain_67 ?_
    refine pg_putI dX12_readPlain_68 fl_RX12_189 (fun z => by cases z) (fun v3 => ?_)
    refine pg_aload_n (i := 0) dX12_readPlain_71 rfl 0 rfl ?_
    refine pg_iload_n (i := 1) dX12_readPlain_72 rfl 1 rfl ?_
    refine pg_iconst dX12_readPlain_73 ci_1 ?_
    refine pg_iadd dX12_readPlain_74 ?_
    refine pg_callV_wV (As := [pI (a1 + (1 : Int32))]) (rs := []) dX12_readPlain_75 lk_RX12_208 vy_X12_readTest nd_X12_readTest (hg_X12_readTest a0 (a1 + (1 : Int32)) v3) rfl rfl (Nat.le_of_ble_eq_true rfl) (Nat.le_refl _) (by omega) (fun v4 => ?_)
    refine pg_aload_n (i := 0) dX12_readPlain_78 rfl 0 rfl ?_
    refine pg_bipush dX12_readPlain_79 cb_41 ?_
    refine pg_callS_oI (As := [pI (41 : Int32)]) (rs := [pR a0]) dX12_readPlain_81 lk_RX12_217 vy_X12_sign nd_X12_sign (c_X12_sign l D (41 : Int32) v4) rfl rfl (Nat.le_of_ble_eq_true rfl) (by omega) (by omega) (fun v5 => ?_)
    refine pg_callV_wV (As := [pI v5]) (rs := []) dX12_readPlain_84 lk_RX12_205 vy_X12_must nd_X12_must (c_X12_must l D a0 v5 v4) rfl rfl (Nat.le_of_ble_eq_true rfl) (by omega) (by omega) (fun v6 => ?_)
    refine pg_goto (tgt := 133) dX12_readPlain_87 rfl ?_
    exact pg_vret dX12_readPlain_133 rfl rfl
  · exact pg_vret dX12_readPlain_60 rfl rfl
theorem e_X12_readPlain_2 (l : Launch) (D : pg_D) (dn dm : Nat) (hdn : 3 ≤ dn) (hdm : 63 ≤ dm) (g_X12_readTest : Nat → Int32 → pg_H → Option pg_H) (g_X12_readSum : Nat → Int32 → pg_H → Option pg_H) (hg_X12_readTest : ∀ (a0 : Nat) (a1 : Int32) (h : pg_H) (x : pg_H), g_X12_readTest a0 a1 h = some x → pg_Ct l D yX12_readTest cX12_readTest 2 none dn dm [pR a0, pI a1] h (pg_wV x)) (hg_X12_readSum : ∀ (a0 : Nat) (a1 : Int32) (h : pg_H) (x : pg_H), g_X12_readSum a0 a1 h = some x → pg_Ct l D yX12_readSum cX12_readSum 2 none dn dm [pR a0, pI a1] h (pg_wV x))  : ∀ (n : Nat) (a0 : Nat) (a1 : Int32) (a2 : Int32) (h : pg_H), pg_EvF l D RX12 cX12_readPlain 4 none "readPlain" (dn + 1) (dm + 23) pg_wV (F_X12_readPlain_2 g_X12_readTest g_X12_readSum n a0 a1 a2 h) 2 [(0, pR a0), (1, pI a1), (2, pI a2)] [] h := by
  intro n
  induction n with
  | zero => intro a0 a1 a2 h; exact pg_none
  | succ n ih =>
    intro a0 a1 a2 h
    rw [F_X12_readPlain_2]
    refine pg_iload_n (i := 2) dX12_readPlain_2 rfl 2 rfl ?_
    refine pg_if_eq (tgt := 16) dX12_readPlain_3 rfl ?_ ?_
    · refine pg_aload_n (i := 0) dX12_readPlain_16 rfl 0 rfl ?_
      refine pg_callV_oI (As := []) (rs := []) dX12_readPlain_17 lk_RX12_185 vy_X12_fine nd_X12_fine (c_X12_fine l D h a0) rfl rfl (Nat.le_of_ble_eq_true rfl) (by omega) (by omega) (fun v1 => ?_)
      refine pg_if_ne (tgt := 24) dX12_readPlain_20 rfl ?_ ?_
      · refine pg_aload_n (i := 0) dX12_readPlain_24 rfl 0 rfl ?_
        refine pg_getR dX12_readPlain_25 fl_RX12_43 rfl (fun v2 => ?_)
        refine pg_aload_n (i := 0) dX12_readPlain_28 rfl 0 rfl ?_
        refine pg_getI dX12_readPlain_29 fl_RX12_189 rfl (fun v3 => ?_)
        refine pg_iaload dX12_readPlain_32 (fun v4 => ?_)
        refine pg_istore_n (i := 3) (lv' := [(3, pI v4), (0, pR a0), (1, pI a1), (2, pI a2)]) dX12_readPlain_33 rfl (by decide) rfl ?_
        refine pg_iload_n (i := 3) dX12_readPlain_34 rfl 0 rfl ?_
        refine pg_bipush dX12_readPlain_35 cb_40 ?_
        refine pg_callS_oI (As := [pI (40 : Int32)]) (rs := [pI v4]) dX12_readPlain_37 lk_RX12_217 vy_X12_sign nd_X12_sign (c_X12_sign l D (40 : Int32) h) rfl rfl (Nat.le_of_ble_eq_true rfl) (by omega) (by omega) (fun v5 => ?_)
        refine pg_icmp_ne (tgt := 90) dX12_readPlain_40 rfl ?_ ?_
        · refine pg_aload_n (i := 0) dX12_readPlain_90 rfl 1 rfl ?_
          refine pg_iload_n (i := 1) dX12_readPlain_91 rfl 2 rfl ?_
          refine pg_callV_wV (As := [pI a1]) (rs := []) dX12_readPlain_92 lk_RX12_201 vy_X12_readSum nd_X12_readSum (hg_X12_readSum a0 a1 h) rfl rfl (Nat.le_of_ble_eq_true rfl) (Nat.le_refl _) (by omega) (fun v6 => ?_)
          refine pg_aload_n (i := 0) dX12_readPlain_95 rfl 1 rfl ?_
          refine pg_bipush dX12_readPlain_96 cb_60 ?_
          refine pg_callS_oI (As := [pI (60 : Int32)]) (rs := [pR a0]) dX12_readPlain_98 lk_RX12_217 vy_X12_sign nd_X12_sign (c_X12_sign l D (60 : Int32) v6) rfl rfl (Nat.le_of_ble_eq_true rfl) (by omega) (by omega) (fun v7 => ?_)
          refine pg_callV_wI (As := [pI v7]) (rs := []) dX12_readPlain_101 lk_RX12_192 vy_X12_takes nd_X12_takes (c_X12_takes l D a0 v7 v6) rfl rfl (Nat.le_of_ble_eq_true rfl) (by omega) (by omega) (fun v8 => ?_)
          refine pg_if_ne (tgt := 128) dX12_readPlain_104 rfl ?_ ?_
          · exact pg_to (e_X12_readPlain_128 l D dn dm hdn hdm g_X12_readTest g_X12_readSum hg_X12_readTest hg_X12_readSum a0 a1 v8.2) [1, 2] rfl
          · refine pg_aload_n (i := 0) dX12_readPlain_107 rfl 1 rfl ?_
            refine pg_bipush dX12_readPlain_108 cb_62 ?_
            refine pg_callS_oI (As := [pI (62 : Int32)]) (rs := [pR a0]) dX12_readPlain_110 lk_RX12_217 vy_X12_sign nd_X12_sign (c_X12_sign l D (62 : Int32) v8.2) rfl rfl (Nat.le_of_ble_eq_true rfl) (by omega) (by omega) (fun v9 => ?_)
            refine pg_callV_wI (As := [pI v9]) (rs := []) dX12_readPlain_113 lk_RX12_192 vy_X12_takes nd_X12_takes (c_X12_takes l D a0 v9 v8.2) rfl rfl (Nat.le_of_ble_eq_true rfl) (by omega) (by omega) (fun v10 => ?_)
            refine pg_if_ne (tgt := 128) dX12_readPlain_116 rfl ?_ ?_
            · exact pg_to (e_X12_readPlain_128 l D dn dm hdn hdm g_X12_readTest g_X12_readSum hg_X12_readTest hg_X12_readSum a0 a1 v10.2) [1, 2] rfl
            · refine pg_aload_n (i := 0) dX12_readPlain_119 rfl 1 rfl ?_
              refine pg_bipush dX12_readPlain_120 cb_61 ?_
              refine pg_callS_oI (As := [pI (61 : Int32)]) (rs := [pR a0]) dX12_readPlain_122 lk_RX12_217 vy_X12_sign nd_X12_sign (c_X12_sign l D (61 : Int32) v10.2) rfl rfl (Nat.le_of_ble_eq_true rfl) (by omega) (by omega) (fun v11 => ?_)
              refine pg_callV_wV (As := [pI v11]) (rs := []) dX12_readPlain_125 lk_RX12_205 vy_X12_must nd_X12_must (c_X12_must l D a0 v11 v10.2) rfl rfl (Nat.le_of_ble_eq_true rfl) (by omega) (by omega) (fun v12 => ?_)
              exact pg_to (e_X12_readPlain_128 l D dn dm hdn hdm g_X12_readTest g_X12_readSum hg_X12_readTest hg_X12_readSum a0 a1 v12) [1, 2] rfl
        · refine pg_iload_n (i := 1) dX12_readPlain_43 rfl 2 rfl ?_
          refine pg_bipush dX12_readPlain_44 cb_8 ?_
          refine pg_icmp_ne (tgt := 53) dX12_readPlain_46 rfl ?_ ?_
          · exact pg_to (e_X12_readPlain_53 l D dn dm hdn hdm g_X12_readTest g_X12_readSum hg_X12_readTest hg_X12_readSum a0 a1 h) [1, 2] rfl
          · refine pg_aload_n (i := 0) dX12_readPlain_49 rfl 1 rfl ?_
            refine pg_callV_wV (As := []) (rs := []) dX12_readPlain_50 lk_RX12_195 vy_X12_faults nd_X12_faults (c_X12_faults l D a0 h) rfl rfl (Nat.le_of_ble_eq_true rfl) (by omega) (by omega) (fun v13 => ?_)
            exact pg_to (e_X12_readPlain_53 l D dn dm hdn hdm g_X12_readTest g_X12_readSum hg_X12_readTest hg_X12_readSum a0 a1 v13) [1, 2] rfl
      · exact pg_vret dX12_readPlain_23 rfl rfl
    · refine pg_aload_n (i := 0) dX12_readPlain_6 rfl 0 rfl ?_
      refine pg_bipush dX12_readPlain_7 cb_11 ?_
      refine pg_callV_wI (As := [pI (11 : Int32)]) (rs := []) dX12_readPlain_9 lk_RX12_192 vy_X12_takes nd_X12_takes (c_X12_takes l D a0 (11 : Int32) h) rfl rfl (Nat.le_of_ble_eq_true rfl) (by omega) (by omega) (fun v14 => ?_)
      refine pg_istore_n (i := 2) (lv' := [(2, pI v14.1), (0, pR a0), (1, pI a1)]) dX12_readPlain_12 rfl (by decide) rfl ?_
      refine pg_goto (tgt := 2) dX12_readPlain_13 rfl ?_
      exact pg_to (ih a0 a1 v14.1 v14.2) [1, 2, 0] rfl
theorem e_X12_readPlain (l : Launch) (D : pg_D) (dn dm : Nat) (hdn : 3 ≤ dn) (hdm : 63 ≤ dm) (g_X12_readTest : Nat → Int32 → pg_H → Option pg_H) (g_X12_readSum : Nat → Int32 → pg_H → Option pg_H) (hg_X12_readTest : ∀ (a0 : Nat) (a1 : Int32) (h : pg_H) (x : pg_H), g_X12_readTest a0 a1 h = some x → pg_Ct l D yX12_readTest cX12_readTest 2 none dn dm [pR a0, pI a1] h (pg_wV x)) (hg_X12_readSum : ∀ (a0 : Nat) (a1 : Int32) (h : pg_H) (x : pg_H), g_X12_readSum a0 a1 h = some x → pg_Ct l D yX12_readSum cX12_readSum 2 none dn dm [pR a0, pI a1] h (pg_wV x)) (a0 : Nat) (a1 : Int32) (h : pg_H) : pg_EvF l D RX12 cX12_readPlain 4 none "readPlain" (dn + 1) (dm + 23) pg_wV (B_X12_readPlain g_X12_readTest g_X12_readSum a0 a1 h) 0 [(0, pR a0), (1, pI a1)] [] h := by
  unfold B_X12_readPlain
  refine pg_iconst dX12_readPlain_0 ci_1 ?_
  refine pg_istore_n (i := 2) (lv' := [(2, pI (1 : Int32)), (0, pR a0), (1, pI a1)]) dX12_readPlain_1 rfl (by decide) rfl ?_
  exact pg_to (e_X12_readPlain_2 l D dn dm hdn hdm g_X12_readTest g_X12_readSum hg_X12_readTest hg_X12_readSum pg_fuel a0 a1 (1 : Int32) h) [1, 2, 0] rfl
theorem e_X12_readSum_29 (l : Launch) (D : pg_D) (dn dm : Nat) (hdn : 3 ≤ dn) (hdm : 63 ≤ dm) (g_X12_readTerm : Nat → Int32 → pg_H → Option pg_H) (hg_X12_readTerm : ∀ (a0 : Nat) (a1 : Int32) (h : pg_H) (x : pg_H), g_X12_readTerm a0 a1 h = some x → pg_Ct l D yX12_readTerm cX12_readTerm 2 none dn dm [pR a0, pI a1] h (pg_wV x)) (k5 : Nat → Int32 → pg_H → Option pg_H) (hk5 : ∀ (a0 : Nat) (a1 : Int32) (h : pg_H), pg_EvF l D RX12 cX12_readSum 2 none "readSum" (dn + 1) (dm + 23) pg_wV (k5 a0 a1 h) 5 [(0, pR a0), (1, pI a1)] [] h) (a0 : Nat) (a1 : Int32) (h : pg_H) : pg_EvF l D RX12 cX12_readSum 2 none "readSum" (dn + 1) (dm + 23) pg_wV (F_X12_readSum_29 g_X12_readTerm k5 a0 a1 h) 29 [(0, pR a0), (1, pI a1)] [] h := by
  unfold F_X12_readSum_29
  refine pg_aload_n (i := 0) dX12_readSum_29 rfl 0 rfl ?_
  refine pg_iload_n (i := 1) dX12_readSum_30 rfl 1 rfl ?_
  refine pg_callV_wV (As := [pI a1]) (rs := []) dX12_readSum_31 lk_RX12_221 vy_X12_readTerm nd_X12_readTerm (hg_X12_readTerm a0 a1 h) rfl rfl (Nat.le_of_ble_eq_true rfl) (Nat.le_refl _) (by omega) (fun v1 => ?_)
  refine pg_goto (tgt := 5) dX12_readSum_34 rfl ?_
  exact pg_to (hk5 a0 a1 v1) [0, 1] rfl
theorem e_X12_readSum_5 (l : Launch) (D : pg_D) (dn dm : Nat) (hdn : 3 ≤ dn) (hdm : 63 ≤ dm) (g_X12_readTerm : Nat → Int32 → pg_H → Option pg_H) (hg_X12_readTerm : ∀ (a0 : Nat) (a1 : Int32) (h : pg_H) (x : pg_H), g_X12_readTerm a0 a1 h = some x → pg_Ct l D yX12_readTerm cX12_readTerm 2 none dn dm [pR a0, pI a1] h (pg_wV x))  : ∀ (n : Nat) (a0 : Nat) (a1 : Int32) (h : pg_H), pg_EvF l D RX12 cX12_readSum 2 none "readSum" (dn + 1) (dm + 23) pg_wV (F_X12_readSum_5 g_X12_readTerm n a0 a1 h) 5 [(0, pR a0), (1, pI a1)] [] h := by
  intro n
  induction n with
  | zero => intro a0 a1 h; exact pg_none
  | succ n ih =>
    intro a0 a1 h
    rw [F_X12_readSum_5]
    refine pg_aload_n (i := 0) dX12_readSum_5 rfl 0 rfl ?_
    refine pg_bipush dX12_readSum_6 cb_43 ?_
    refine pg_callS_oI (As := [pI (43 : Int32)]) (rs := [pR a0]) dX12_readSum_8 lk_RX12_217 vy_X12_sign nd_X12_sign (c_X12_sign l D (43 : Int32) h) rfl rfl (Nat.le_of_ble_eq_true rfl) (by omega) (by omega) (fun v1 => ?_)
    refine pg_callV_wI (As := [pI v1]) (rs := []) dX12_readSum_11 lk_RX12_192 vy_X12_takes nd_X12_takes (c_X12_takes l D a0 v1 h) rfl rfl (Nat.le_of_ble_eq_true rfl) (by omega) (by omega) (fun v2 => ?_)
    refine pg_if_ne (tgt := 29) dX12_readSum_14 rfl ?_ ?_
    · exact pg_to (e_X12_readSum_29 l D dn dm hdn hdm g_X12_readTerm hg_X12_readTerm (F_X12_readSum_5 g_X12_readTerm n) ih a0 a1 v2.2) [0, 1] rfl
    · refine pg_aload_n (i := 0) dX12_readSum_17 rfl 0 rfl ?_
      refine pg_bipush dX12_readSum_18 cb_45 ?_
      refine pg_callS_oI (As := [pI (45 : Int32)]) (rs := [pR a0]) dX12_readSum_20 lk_RX12_217 vy_X12_sign nd_X12_sign (c_X12_sign l D (45 : Int32) v2.2) rfl rfl (Nat.le_of_ble_eq_true rfl) (by omega) (by omega) (fun v3 => ?_)
      refine pg_callV_wI (As := [pI v3]) (rs := []) dX12_readSum_23 lk_RX12_192 vy_X12_takes nd_X12_takes (c_X12_takes l D a0 v3 v2.2) rfl rfl (Nat.le_of_ble_eq_true rfl) (by omega) (by omega) (fun v4 => ?_)
      refine pg_if_eq (tgt := 37) dX12_readSum_26 rfl ?_ ?_
      · exact pg_vret dX12_readSum_37 rfl rfl
      · exact pg_to (e_X12_readSum_29 l D dn dm hdn hdm g_X12_readTerm hg_X12_readTerm (F_X12_readSum_5 g_X12_readTerm n) ih a0 a1 v4.2) [0, 1] rfl
theorem e_X12_readSum (l : Launch) (D : pg_D) (dn dm : Nat) (hdn : 3 ≤ dn) (hdm : 63 ≤ dm) (g_X12_readTerm : Nat → Int32 → pg_H → Option pg_H) (hg_X12_readTerm : ∀ (a0 : Nat) (a1 : Int32) (h : pg_H) (x : pg_H), g_X12_readTerm a0 a1 h = some x → pg_Ct l D yX12_readTerm cX12_readTerm 2 none dn dm [pR a0, pI a1] h (pg_wV x)) (a0 : Nat) (a1 : Int32) (h : pg_H) : pg_EvF l D RX12 cX12_readSum 2 none "readSum" (dn + 1) (dm + 23) pg_wV (B_X12_readSum g_X12_readTerm a0 a1 h) 0 [(0, pR a0), (1, pI a1)] [] h := by
  unfold B_X12_readSum
  refine pg_aload_n (i := 0) dX12_readSum_0 rfl 0 rfl ?_
  refine pg_iload_n (i := 1) dX12_readSum_1 rfl 1 rfl ?_
  refine pg_callV_wV (As := [pI a1]) (rs := []) dX12_readSum_2 lk_RX12_221 vy_X12_readTerm nd_X12_readTerm (hg_X12_readTerm a0 a1 h) rfl rfl (Nat.le_of_ble_eq_true rfl) (Nat.le_refl _) (by omega) (fun v1 => ?_)
  exact pg_to (e_X12_readSum_5 l D dn dm hdn hdm g_X12_readTerm hg_X12_readTerm pg_fuel a0 a1 v1) [0, 1] rfl
theorem e_X12_readTerm_29 (l : Launch) (D : pg_D) (dn dm : Nat) (hdn : 3 ≤ dn) (hdm : 63 ≤ dm) (g_X12_readPart : Nat → Int32 → pg_H → Option pg_H) (hg_X12_readPart : ∀ (a0 : Nat) (a1 : Int32) (h : pg_H) (x : pg_H), g_X12_readPart a0 a1 h = some x → pg_Ct l D yX12_readPart cX12_readPart 3 none dn dm [pR a0, pI a1] h (pg_wV x)) (k5 : Nat → Int32 → pg_H → Option pg_H) (hk5 : ∀ (a0 : Nat) (a1 : Int32) (h : pg_H), pg_EvF l D RX12 cX12_readTerm 2 none "readTerm" (dn + 1) (dm + 23) pg_wV (k5 a0 a1 h) 5 [(0, pR a0), (1, pI a1)] [] h) (a0 : Nat) (a1 : Int32) (h : pg_H) : pg_EvF l D RX12 cX12_readTerm 2 none "readTerm" (dn + 1) (dm + 23) pg_wV (F_X12_readTerm_29 g_X12_readPart k5 a0 a1 h) 29 [(0, pR a0), (1, pI a1)] [] h := by
  unfold F_X12_readTerm_29
  refine pg_aload_n (i := 0) dX12_readTerm_29 rfl 0 rfl ?_
  refine pg_iload_n (i := 1) dX12_readTerm_30 rfl 1 rfl ?_
  refine pg_callV_wV (As := [pI a1]) (rs := []) dX12_readTerm_31 lk_RX12_224 vy_X12_readPart nd_X12_readPart (hg_X12_readPart a0 a1 h) rfl rfl (Nat.le_of_ble_eq_true rfl) (Nat.le_refl _) (by omega) (fun v1 => ?_)
  refine pg_goto (tgt := 5) dX12_readTerm_34 rfl ?_
  exact pg_to (hk5 a0 a1 v1) [0, 1] rfl
theorem e_X12_readTerm_5 (l : Launch) (D : pg_D) (dn dm : Nat) (hdn : 3 ≤ dn) (hdm : 63 ≤ dm) (g_X12_readPart : Nat → Int32 → pg_H → Option pg_H) (hg_X12_readPart : ∀ (a0 : Nat) (a1 : Int32) (h : pg_H) (x : pg_H), g_X12_readPart a0 a1 h = some x → pg_Ct l D yX12_readPart cX12_readPart 3 none dn dm [pR a0, pI a1] h (pg_wV x))  : ∀ (n : Nat) (a0 : Nat) (a1 : Int32) (h : pg_H), pg_EvF l D RX12 cX12_readTerm 2 none "readTerm" (dn + 1) (dm + 23) pg_wV (F_X12_readTerm_5 g_X12_readPart n a0 a1 h) 5 [(0, pR a0), (1, pI a1)] [] h := by
  intro n
  induction n with
  | zero => intro a0 a1 h; exact pg_none
  | succ n ih =>
    intro a0 a1 h
    rw [F_X12_readTerm_5]
    refine pg_aload_n (i := 0) dX12_readTerm_5 rfl 0 rfl ?_
    refine pg_bipush dX12_readTerm_6 cb_42 ?_
    refine pg_callS_oI (As := [pI (42 : Int32)]) (rs := [pR a0]) dX12_readTerm_8 lk_RX12_217 vy_X12_sign nd_X12_sign (c_X12_sign l D (42 : Int32) h) rfl rfl (Nat.le_of_ble_eq_true rfl) (by omega) (by omega) (fun v1 => ?_)
    refine pg_callV_wI (As := [pI v1]) (rs := []) dX12_readTerm_11 lk_RX12_192 vy_X12_takes nd_X12_takes (c_X12_takes l D a0 v1 h) rfl rfl (Nat.le_of_ble_eq_true rfl) (by omega) (by omega) (fun v2 => ?_)
    refine pg_if_ne (tgt := 29) dX12_readTerm_14 rfl ?_ ?_
    · exact pg_to (e_X12_readTerm_29 l D dn dm hdn hdm g_X12_readPart hg_X12_readPart (F_X12_readTerm_5 g_X12_readPart n) ih a0 a1 v2.2) [0, 1] rfl
    · refine pg_aload_n (i := 0) dX12_readTerm_17 rfl 0 rfl ?_
      refine pg_bipush dX12_readTerm_18 cb_47 ?_
      refine pg_callS_oI (As := [pI (47 : Int32)]) (rs := [pR a0]) dX12_readTerm_20 lk_RX12_217 vy_X12_sign nd_X12_sign (c_X12_sign l D (47 : Int32) v2.2) rfl rfl (Nat.le_of_ble_eq_true rfl) (by omega) (by omega) (fun v3 => ?_)
      refine pg_callV_wI (As := [pI v3]) (rs := []) dX12_readTerm_23 lk_RX12_192 vy_X12_takes nd_X12_takes (c_X12_takes l D a0 v3 v2.2) rfl rfl (Nat.le_of_ble_eq_true rfl) (by omega) (by omega) (fun v4 => ?_)
      refine pg_if_eq (tgt := 37) dX12_readTerm_26 rfl ?_ ?_
      · exact pg_vret dX12_readTerm_37 rfl rfl
      · exact pg_to (e_X12_readTerm_29 l D dn dm hdn hdm g_X12_readPart hg_X12_readPart (F_X12_readTerm_5 g_X12_readPart n) ih a0 a1 v4.2) [0, 1] rfl
theorem e_X12_readTerm (l : Launch) (D : pg_D) (dn dm : Nat) (hdn : 3 ≤ dn) (hdm : 63 ≤ dm) (g_X12_readPart : Nat → Int32 → pg_H → Option pg_H) (hg_X12_readPart : ∀ (a0 : Nat) (a1 : Int32) (h : pg_H) (x : pg_H), g_X12_readPart a0 a1 h = some x → pg_Ct l D yX12_readPart cX12_readPart 3 none dn dm [pR a0, pI a1] h (pg_wV x)) (a0 : Nat) (a1 : Int32) (h : pg_H) : pg_EvF l D RX12 cX12_readTerm 2 none "readTerm" (dn + 1) (dm + 23) pg_wV (B_X12_readTerm g_X12_readPart a0 a1 h) 0 [(0, pR a0), (1, pI a1)] [] h := by
  unfold B_X12_readTerm
  refine pg_aload_n (i := 0) dX12_readTerm_0 rfl 0 rfl ?_
  refine pg_iload_n (i := 1) dX12_readTerm_1 rfl 1 rfl ?_
  refine pg_callV_wV (As := [pI a1]) (rs := []) dX12_readTerm_2 lk_RX12_224 vy_X12_readPart nd_X12_readPart (hg_X12_readPart a0 a1 h) rfl rfl (Nat.le_of_ble_eq_true rfl) (Nat.le_refl _) (by omega) (fun v1 => ?_)
  exact pg_to (e_X12_readTerm_5 l D dn dm hdn hdm g_X12_readPart hg_X12_readPart pg_fuel a0 a1 v1) [0, 1] rfl
theorem e_X12_readPart_114 (l : Launch) (D : pg_D) (dn dm : Nat) (hdn : 3 ≤ dn) (hdm : 63 ≤ dm) (g_X12_readSum : Nat → Int32 → pg_H → Option pg_H) (hg_X12_readSum : ∀ (a0 : Nat) (a1 : Int32) (h : pg_H) (x : pg_H), g_X12_readSum a0 a1 h = some x → pg_Ct l D yX12_readSum cX12_readSum 2 none dn dm [pR a0, pI a1] h (pg_wV x)) (a0 : Nat) (h : pg_H) : pg_EvF l D RX12 cX12_readPart 3 none "readPart" (dn + 1) (dm + 23) pg_wV (F_X12_readPart_114 g_X12_readSum a0 h) 114 [(0, pR a0)] [] h := by
  unfold F_X12_readPart_114
  refine pg_aload_n (i := 0) dX12_readPart_114 rfl 0 rfl ?_
  refine pg_callV_wV (As := []) (rs := []) dX12_readPart_115 lk_RX12_195 vy_X12_faults nd_X12_faults (c_X12_faults l D a0 h) rfl rfl (Nat.le_of_ble_eq_true rfl) (by omega) (by omega) (fun v1 => ?_)
  exact pg_vret dX12_readPart_118 rfl rfl
theorem e_X12_readPart_107 (l : Launch) (D : pg_D) (dn dm : Nat) (hdn : 3 ≤ dn) (hdm : 63 ≤ dm) (g_X12_readSum : Nat → Int32 → pg_H → Option pg_H) (hg_X12_readSum : ∀ (a0 : Nat) (a1 : Int32) (h : pg_H) (x : pg_H), g_X12_readSum a0 a1 h = some x → pg_Ct l D yX12_readSum cX12_readSum 2 none dn dm [pR a0, pI a1] h (pg_wV x)) (a0 : Nat) (h : pg_H) : pg_EvF l D RX12 cX12_readPart 3 none "readPart" (dn + 1) (dm + 23) pg_wV (F_X12_readPart_107 g_X12_readSum a0 h) 107 [(0, pR a0)] [] h := by
  unfold F_X12_readPart_107
  refine pg_aload_n (i := 0) dX12_readPart_107 rfl 0 rfl ?_
  refine pg_callV_wV (As := []) (rs := []) dX12_readPart_108 lk_RX12_227 vy_X12_leaf nd_X12_leaf (c_X12_leaf l D a0 h) rfl rfl (Nat.le_of_ble_eq_true rfl) (by omega) (by omega) (fun v1 => ?_)
  refine pg_goto (tgt := 118) dX12_readPart_111 rfl ?_
  exact pg_vret dX12_readPart_118 rfl rfl
theorem e_X12_readPart_95 (l : Launch) (D : pg_D) (dn dm : Nat) (hdn : 3 ≤ dn) (hdm : 63 ≤ dm) (g_X12_readSum : Nat → Int32 → pg_H → Option pg_H) (hg_X12_readSum : ∀ (a0 : Nat) (a1 : Int32) (h : pg_H) (x : pg_H), g_X12_readSum a0 a1 h = some x → pg_Ct l D yX12_readSum cX12_readSum 2 none dn dm [pR a0, pI a1] h (pg_wV x)) (a0 : Nat) (a2 : Int32) (h : pg_H) : pg_EvF l D RX12 cX12_readPart 3 none "readPart" (dn + 1) (dm + 23) pg_wV (F_X12_readPart_95 g_X12_readSum a0 a2 h) 95 [(0, pR a0), (2, pI a2)] [] h := by
  unfold F_X12_readPart_95
  refine pg_iload_n (i := 2) dX12_readPart_95 rfl 1 rfl ?_
  refine pg_bipush dX12_readPart_96 cb_12 ?_
  refine pg_icmp_lt (tgt := 114) dX12_readPart_98 rfl ?_ ?_
  · exact pg_to (e_X12_readPart_114 l D dn dm hdn hdm g_X12_readSum hg_X12_readSum a0 h) [0] rfl
  · refine pg_iload_n (i := 2) dX12_readPart_101 rfl 1 rfl ?_
    refine pg_bipush dX12_readPart_102 cb_20 ?_
    refine pg_icmp_gt (tgt := 114) dX12_readPart_104 rfl ?_ ?_
    · exact pg_to (e_X12_readPart_114 l D dn dm hdn hdm g_X12_readSum hg_X12_readSum a0 h) [0] rfl
    · exact pg_to (e_X12_readPart_107 l D dn dm hdn hdm g_X12_readSum hg_X12_readSum a0 h) [0] rfl
theorem e_X12_readPart_37 (l : Launch) (D : pg_D) (dn dm : Nat) (hdn : 3 ≤ dn) (hdm : 63 ≤ dm) (g_X12_readSum : Nat → Int32 → pg_H → Option pg_H) (hg_X12_readSum : ∀ (a0 : Nat) (a1 : Int32) (h : pg_H) (x : pg_H), g_X12_readSum a0 a1 h = some x → pg_Ct l D yX12_readSum cX12_readSum 2 none dn dm [pR a0, pI a1] h (pg_wV x)) (a0 : Nat) (a1 : Int32) (h : pg_H) : pg_EvF l D RX12 cX12_readPart 3 none "readPart" (dn + 1) (dm + 23) pg_wV (F_X12_readPart_37 g_X12_readSum a0 a1 h) 37 [(0, pR a0), (1, pI a1)] [] h := by
  unfold F_X12_readPart_37
  refine pg_aload_n (i := 0) dX12_readPart_37 rfl 0 rfl ?_
  refine pg_callV_oI (As := []) (rs := []) dX12_readPart_38 lk_RX12_185 vy_X12_fine nd_X12_fine (c_X12_fine l D h a0) rfl rfl (Nat.le_of_ble_eq_true rfl) (by omega) (by omega) (fun v1 => ?_)
  refine pg_if_ne (tgt := 45) dX12_readPart_41 rfl ?_ ?_
  · refine pg_aload_n (i := 0) dX12_readPart_45 rfl 0 rfl ?_
    refine pg_dup dX12_readPart_46 rfl ?_
    refine pg_getI dX12_readPart_47 fl_RX12_189 rfl (fun v2 => ?_)
    refine pg_iconst dX12_readPart_50 ci_1 ?_
    refine pg_iadd dX12_readPart_51 ?_
    refine pg_putI dX12_readPart_52 fl_RX12_189 (fun z => by cases z) (fun v3 => ?_)
    refine pg_aload_n (i := 0) dX12_readPart_55 rfl 0 rfl ?_
    refine pg_iload_n (i := 1) dX12_readPart_56 rfl 1 rfl ?_
    refine pg_iconst dX12_readPart_57 ci_1 ?_
    refine pg_iadd dX12_readPart_58 ?_
    refine pg_callV_wV (As := [pI (a1 + (1 : Int32))]) (rs := []) dX12_readPart_59 lk_RX12_201 vy_X12_readSum nd_X12_readSum (hg_X12_readSum a0 (a1 + (1 : Int32)) v3) rfl rfl (Nat.le_of_ble_eq_true rfl) (Nat.le_refl _) (by omega) (fun v4 => ?_)
    refine pg_aload_n (i := 0) dX12_readPart_62 rfl 0 rfl ?_
    refine pg_bipush dX12_readPart_63 cb_93 ?_
    refine pg_callS_oI (As := [pI (93 : Int32)]) (rs := [pR a0]) dX12_readPart_65 lk_RX12_217 vy_X12_sign nd_X12_sign (c_X12_sign l D (93 : Int32) v4) rfl rfl (Nat.le_of_ble_eq_true rfl) (by omega) (by omega) (fun v5 => ?_)
    refine pg_callV_wV (As := [pI v5]) (rs := []) dX12_readPart_68 lk_RX12_205 vy_X12_must nd_X12_must (c_X12_must l D a0 v5 v4) rfl rfl (Nat.le_of_ble_eq_true rfl) (by omega) (by omega) (fun v6 => ?_)
    refine pg_goto (tgt := 118) dX12_readPart_71 rfl ?_
    exact pg_vret dX12_readPart_118 rfl rfl
  · exact pg_vret dX12_readPart_44 rfl rfl
theorem e_X12_readPart (l : Launch) (D : pg_D) (dn dm : Nat) (hdn : 3 ≤ dn) (hdm : 63 ≤ dm) (g_X12_readSum : Nat → Int32 → pg_H → Option pg_H) (hg_X12_readSum : ∀ (a0 : Nat) (a1 : Int32) (h : pg_H) (x : pg_H), g_X12_readSum a0 a1 h = some x → pg_Ct l D yX12_readSum cX12_readSum 2 none dn dm [pR a0, pI a1] h (pg_wV x)) (a0 : Nat) (a1 : Int32) (h : pg_H) : pg_EvF l D RX12 cX12_readPart 3 none "readPart" (dn + 1) (dm + 23) pg_wV (B_X12_readPart g_X12_readSum a0 a1 h) 0 [(0, pR a0), (1, pI a1)] [] h := by
  unfold B_X12_readPart
  refine pg_aload_n (i := 0) dX12_readPart_0 rfl 0 rfl ?_
  refine pg_callV_oI (As := []) (rs := []) dX12_readPart_1 lk_RX12_185 vy_X12_fine nd_X12_fine (c_X12_fine l D h a0) rfl rfl (Nat.le_of_ble_eq_true rfl) (by omega) (by omega) (fun v1 => ?_)
  refine pg_if_ne (tgt := 8) dX12_readPart_4 rfl ?_ ?_
  · refine pg_aload_n (i := 0) dX12_readPart_8 rfl 0 rfl ?_
    refine pg_getR dX12_readPart_9 fl_RX12_43 rfl (fun v2 => ?_)
    refine pg_aload_n (i := 0) dX12_readPart_12 rfl 0 rfl ?_
    refine pg_getI dX12_readPart_13 fl_RX12_189 rfl (fun v3 => ?_)
    refine pg_iaload dX12_readPart_16 (fun v4 => ?_)
    refine pg_istore_n (i := 2) (lv' := [(2, pI v4), (0, pR a0), (1, pI a1)]) dX12_readPart_17 rfl (by decide) rfl ?_
    refine pg_iload_n (i := 2) dX12_readPart_18 rfl 0 rfl ?_
    refine pg_bipush dX12_readPart_19 cb_91 ?_
    refine pg_callS_oI (As := [pI (91 : Int32)]) (rs := [pI v4]) dX12_readPart_21 lk_RX12_217 vy_X12_sign nd_X12_sign (c_X12_sign l D (91 : Int32) h) rfl rfl (Nat.le_of_ble_eq_true rfl) (by omega) (by omega) (fun v5 => ?_)
    refine pg_icmp_ne (tgt := 74) dX12_readPart_24 rfl ?_ ?_
    · refine pg_iload_n (i := 2) dX12_readPart_74 rfl 0 rfl ?_
      refine pg_bipush dX12_readPart_75 cb_50 ?_
      refine pg_icmp_ne (tgt := 95) dX12_readPart_77 rfl ?_ ?_
      · exact pg_to (e_X12_readPart_95 l D dn dm hdn hdm g_X12_readSum hg_X12_readSum a0 v4 h) [1, 0] rfl
      · refine pg_aload_n (i := 0) dX12_readPart_80 rfl 1 rfl ?_
        refine pg_getR dX12_readPart_81 fl_RX12_46 rfl (fun v6 => ?_)
        refine pg_aload_n (i := 0) dX12_readPart_84 rfl 1 rfl ?_
        refine pg_getI dX12_readPart_85 fl_RX12_189 rfl (fun v7 => ?_)
        refine pg_iaload dX12_readPart_88 (fun v8 => ?_)
        refine pg_sipush dX12_readPart_89 cs_1000 ?_
        refine pg_icmp_le (tgt := 107) dX12_readPart_92 rfl ?_ ?_
        · exact pg_to (e_X12_readPart_107 l D dn dm hdn hdm g_X12_readSum hg_X12_readSum a0 h) [1] rfl
        · exact pg_to (e_X12_readPart_95 l D dn dm hdn hdm g_X12_readSum hg_X12_readSum a0 v4 h) [1, 0] rfl
    · refine pg_iload_n (i := 1) dX12_readPart_27 rfl 2 rfl ?_
      refine pg_bipush dX12_readPart_28 cb_8 ?_
      refine pg_icmp_ne (tgt := 37) dX12_readPart_30 rfl ?_ ?_
      · exact pg_to (e_X12_readPart_37 l D dn dm hdn hdm g_X12_readSum hg_X12_readSum a0 a1 h) [1, 2] rfl
      · refine pg_aload_n (i := 0) dX12_readPart_33 rfl 1 rfl ?_
        refine pg_callV_wV (As := []) (rs := []) dX12_readPart_34 lk_RX12_195 vy_X12_faults nd_X12_faults (c_X12_faults l D a0 h) rfl rfl (Nat.le_of_ble_eq_true rfl) (by omega) (by omega) (fun v9 => ?_)
        exact pg_to (e_X12_readPart_37 l D dn dm hdn hdm g_X12_readSum hg_X12_readSum a0 a1 v9) [1, 2] rfl
  · exact pg_vret dX12_readPart_7 rfl rfl
theorem cg_X12_readTest (l : Launch) (D : pg_D) : ∀ n : Nat, (∀ (a0 : Nat) (a1 : Int32) (h : pg_H) (x : pg_H), (FG_X12_readTest n).1 a0 a1 h = some x → pg_Ct l D yX12_readTest cX12_readTest 2 none (3 + n) (63 + 23 * n) [pR a0, pI a1] h (pg_wV x)) ∧ (∀ (a0 : Nat) (a1 : Int32) (h : pg_H) (x : pg_H), (FG_X12_readTest n).2.1 a0 a1 h = some x → pg_Ct l D yX12_readBoth cX12_readBoth 2 none (3 + n) (63 + 23 * n) [pR a0, pI a1] h (pg_wV x)) ∧ (∀ (a0 : Nat) (a1 : Int32) (h : pg_H) (x : pg_H), (FG_X12_readTest n).2.2.1 a0 a1 h = some x → pg_Ct l D yX12_readPlain cX12_readPlain 4 none (3 + n) (63 + 23 * n) [pR a0, pI a1] h (pg_wV x)) ∧ (∀ (a0 : Nat) (a1 : Int32) (h : pg_H) (x : pg_H), (FG_X12_readTest n).2.2.2.1 a0 a1 h = some x → pg_Ct l D yX12_readSum cX12_readSum 2 none (3 + n) (63 + 23 * n) [pR a0, pI a1] h (pg_wV x)) ∧ (∀ (a0 : Nat) (a1 : Int32) (h : pg_H) (x : pg_H), (FG_X12_readTest n).2.2.2.2.1 a0 a1 h = some x → pg_Ct l D yX12_readTerm cX12_readTerm 2 none (3 + n) (63 + 23 * n) [pR a0, pI a1] h (pg_wV x)) ∧ (∀ (a0 : Nat) (a1 : Int32) (h : pg_H) (x : pg_H), (FG_X12_readTest n).2.2.2.2.2 a0 a1 h = some x → pg_Ct l D yX12_readPart cX12_readPart 3 none (3 + n) (63 + 23 * n) [pR a0, pI a1] h (pg_wV x)) := by
  intro n
  induction n with
  | zero => exact ⟨(fun _ _ _ _ hx => by cases hx), (fun _ _ _ _ hx => by cases hx), (fun _ _ _ _ hx => by cases hx), (fun _ _ _ _ hx => by cases hx), (fun _ _ _ _ hx => by cases hx), (fun _ _ _ _ hx => by cases hx)⟩
  | succ n ih =>
    have e1 : 3 + (n + 1) = (3 + n) + 1 := by omega
    have e2 : 63 + 23 * (n + 1) = (63 + 23 * n) + 23 := by omega
    rw [e1, e2]
    exact ⟨fun a0 a1 h => pg_Ct.of pn_RX12 (Nat.le_of_ble_eq_true rfl) (e_X12_readTest l D (3 + n) (63 + 23 * n) (by omega) (by omega) _ (ih.2.1) a0 a1 h), fun a0 a1 h => pg_Ct.of pn_RX12 (Nat.le_of_ble_eq_true rfl) (e_X12_readBoth l D (3 + n) (63 + 23 * n) (by omega) (by omega) _ (ih.2.2.1) a0 a1 h), fun a0 a1 h => pg_Ct.of pn_RX12 (Nat.le_of_ble_eq_true rfl) (e_X12_readPlain l D (3 + n) (63 + 23 * n) (by omega) (by omega) _ _ (ih.1) (ih.2.2.2.1) a0 a1 h), fun a0 a1 h => pg_Ct.of pn_RX12 (Nat.le_of_ble_eq_true rfl) (e_X12_readSum l D (3 + n) (63 + 23 * n) (by omega) (by omega) _ (ih.2.2.2.2.1) a0 a1 h), fun a0 a1 h => pg_Ct.of pn_RX12 (Nat.le_of_ble_eq_true rfl) (e_X12_readTerm l D (3 + n) (63 + 23 * n) (by omega) (by omega) _ (ih.2.2.2.2.2) a0 a1 h), fun a0 a1 h => pg_Ct.of pn_RX12 (Nat.le_of_ble_eq_true rfl) (e_X12_readPart l D (3 + n) (63 + 23 * n) (by omega) (by omega) _ (ih.2.2.2.1) a0 a1 h)⟩
theorem c_X12_readTest (l : Launch) (D : pg_D) (a0 : Nat) (a1 : Int32) (h : pg_H) : ∀ x, F_X12_readTest a0 a1 h = some x → pg_Ct l D yX12_readTest cX12_readTest 2 none 1303 29963 [pR a0, pI a1] h (pg_wV x) := fun x hx => (cg_X12_readTest l D 1300).1 a0 a1 h x hx
theorem c_X12_readBoth (l : Launch) (D : pg_D) (a0 : Nat) (a1 : Int32) (h : pg_H) : ∀ x, F_X12_readBoth a0 a1 h = some x → pg_Ct l D yX12_readBoth cX12_readBoth 2 none 1303 29963 [pR a0, pI a1] h (pg_wV x) := fun x hx => (cg_X12_readTest l D 1300).2.1 a0 a1 h x hx
theorem c_X12_readPlain (l : Launch) (D : pg_D) (a0 : Nat) (a1 : Int32) (h : pg_H) : ∀ x, F_X12_readPlain a0 a1 h = some x → pg_Ct l D yX12_readPlain cX12_readPlain 4 none 1303 29963 [pR a0, pI a1] h (pg_wV x) := fun x hx => (cg_X12_readTest l D 1300).2.2.1 a0 a1 h x hx
theorem c_X12_readSum (l : Launch) (D : pg_D) (a0 : Nat) (a1 : Int32) (h : pg_H) : ∀ x, F_X12_readSum a0 a1 h = some x → pg_Ct l D yX12_readSum cX12_readSum 2 none 1303 29963 [pR a0, pI a1] h (pg_wV x) := fun x hx => (cg_X12_readTest l D 1300).2.2.2.1 a0 a1 h x hx
theorem c_X12_readTerm (l : Launch) (D : pg_D) (a0 : Nat) (a1 : Int32) (h : pg_H) : ∀ x, F_X12_readTerm a0 a1 h = some x → pg_Ct l D yX12_readTerm cX12_readTerm 2 none 1303 29963 [pR a0, pI a1] h (pg_wV x) := fun x hx => (cg_X12_readTest l D 1300).2.2.2.2.1 a0 a1 h x hx
theorem c_X12_readPart (l : Launch) (D : pg_D) (a0 : Nat) (a1 : Int32) (h : pg_H) : ∀ x, F_X12_readPart a0 a1 h = some x → pg_Ct l D yX12_readPart cX12_readPart 3 none 1303 29963 [pR a0, pI a1] h (pg_wV x) := fun x hx => (cg_X12_readTest l D 1300).2.2.2.2.2 a0 a1 h x hx
def F_X12_readClause_63 (a0 : Nat) (h : pg_H) : Option pg_H := Option.bind (pg_rcv 12 h a0 (F_X12_takes a0 (8 : Int32) h)) fun v1 => (if v1.1 = 0 then (some v1.2) else Option.bind (pg_rcv 12 v1.2 a0 (F_X12_readTest a0 (0 : Int32) v1.2)) fun v2 => (some v2))
def F_X12_readClause_40 (a0 : Nat) (h : pg_H) : Option pg_H := Option.bind (pg_rcv 12 h a0 (F_X12_readSum a0 (0 : Int32) h)) fun v1 => (F_X12_readClause_63 a0 v1)
def F_X12_readClause (a0 : Nat) (h : pg_H) : Option pg_H := Option.bind (pg_rcv 12 h a0 (F_X12_takes a0 (1 : Int32) h)) fun v1 => (if v1.1 = 0 then Option.bind (pg_rcv 12 v1.2 a0 (F_X12_takes a0 (2 : Int32) v1.2)) fun v2 => (if v2.1 = 0 then Option.bind (pg_rcv 12 v2.2 a0 (F_X12_takes a0 (3 : Int32) v2.2)) fun v3 => (if v3.1 = 0 then Option.bind (pg_rcv 12 v3.2 a0 (F_X12_takes a0 (4 : Int32) v3.2)) fun v4 => (if v4.1 = 0 then Option.bind (pg_rcv 12 v4.2 a0 (F_X12_takes a0 (5 : Int32) v4.2)) fun v5 => (if v5.1 = 0 then Option.bind (pg_rcv 12 v5.2 a0 (F_X12_takes a0 (6 : Int32) v5.2)) fun v6 => (if v6.1 = 0 then Option.bind (pg_rcv 12 v6.2 a0 (F_X12_must a0 (7 : Int32) v6.2)) fun v7 => (F_X12_readClause_63 a0 v7) else (F_X12_readClause_63 a0 v6.2)) else (F_X12_readClause_40 a0 v5.2)) else (F_X12_readClause_40 a0 v4.2)) else (F_X12_readClause_40 a0 v3.2)) else (F_X12_readClause_40 a0 v2.2)) else (F_X12_readClause_40 a0 v1.2))
theorem e_X12_readClause_63 (l : Launch) (D : pg_D)  (a0 : Nat) (h : pg_H) : pg_EvF l D RX12 cX12_readClause 1 none "readClause" 1304 29984 pg_wV (F_X12_readClause_63 a0 h) 63 [(0, pR a0)] [] h := by
  unfold F_X12_readClause_63
  refine pg_aload_n (i := 0) dX12_readClause_63 rfl 0 rfl ?_
  refine pg_bipush dX12_readClause_64 cb_8 ?_
  refine pg_callV_wI (As := [pI (8 : Int32)]) (rs := []) dX12_readClause_66 lk_RX12_192 vy_X12_takes nd_X12_takes (c_X12_takes l D a0 (8 : Int32) h) rfl rfl (Nat.le_of_ble_eq_true rfl) (by decide) (by decide) (fun v1 => ?_)
  refine pg_if_eq (tgt := 77) dX12_readClause_69 rfl ?_ ?_
  · exact pg_vret dX12_readClause_77 rfl rfl
  · refine pg_aload_n (i := 0) dX12_readClause_72 rfl 0 rfl ?_
    refine pg_iconst dX12_readClause_73 ci_0 ?_
    refine pg_callV_wV (As := [pI (0 : Int32)]) (rs := []) dX12_readClause_74 lk_RX12_208 vy_X12_readTest nd_X12_readTest (c_X12_readTest l D a0 (0 : Int32) v1.2) rfl rfl (Nat.le_of_ble_eq_true rfl) (by decide) (by decide) (fun v2 => ?_)
    exact pg_vret dX12_readClause_77 rfl rfl
theorem e_X12_readClause_40 (l : Launch) (D : pg_D)  (a0 : Nat) (h : pg_H) : pg_EvF l D RX12 cX12_readClause 1 none "readClause" 1304 29984 pg_wV (F_X12_readClause_40 a0 h) 40 [(0, pR a0)] [] h := by
  unfold F_X12_readClause_40
  refine pg_aload_n (i := 0) dX12_readClause_40 rfl 0 rfl ?_
  refine pg_iconst dX12_readClause_41 ci_0 ?_
  refine pg_callV_wV (As := [pI (0 : Int32)]) (rs := []) dX12_readClause_42 lk_RX12_201 vy_X12_readSum nd_X12_readSum (c_X12_readSum l D a0 (0 : Int32) h) rfl rfl (Nat.le_of_ble_eq_true rfl) (by decide) (by decide) (fun v1 => ?_)
  refine pg_goto (tgt := 63) dX12_readClause_45 rfl ?_
  exact pg_to (e_X12_readClause_63 l D a0 v1) [0] rfl
theorem e_X12_readClause (l : Launch) (D : pg_D)  (a0 : Nat) (h : pg_H) : pg_EvF l D RX12 cX12_readClause 1 none "readClause" 1304 29984 pg_wV (F_X12_readClause a0 h) 0 [(0, pR a0)] [] h := by
  unfold F_X12_readClause
  refine pg_aload_n (i := 0) dX12_readClause_0 rfl 0 rfl ?_
  refine pg_iconst dX12_readClause_1 ci_1 ?_
  refine pg_callV_wI (As := [pI (1 : Int32)]) (rs := []) dX12_readClause_2 lk_RX12_192 vy_X12_takes nd_X12_takes (c_X12_takes l D a0 (1 : Int32) h) rfl rfl (Nat.le_of_ble_eq_true rfl) (by decide) (by decide) (fun v1 => ?_)
  refine pg_if_ne (tgt := 40) dX12_readClause_5 rfl ?_ ?_
  · exact pg_to (e_X12_readClause_40 l D a0 v1.2) [0] rfl
  · refine pg_aload_n (i := 0) dX12_readClause_8 rfl 0 rfl ?_
    refine pg_iconst dX12_readClause_9 ci_2 ?_
    refine pg_callV_wI (As := [pI (2 : Int32)]) (rs := []) dX12_readClause_10 lk_RX12_192 vy_X12_takes nd_X12_takes (c_X12_takes l D a0 (2 : Int32) v1.2) rfl rfl (Nat.le_of_ble_eq_true rfl) (by decide) (by decide) (fun v2 => ?_)
    refine pg_if_ne (tgt := 40) dX12_readClause_13 rfl ?_ ?_
    · exact pg_to (e_X12_readClause_40 l D a0 v2.2) [0] rfl
    · refine pg_aload_n (i := 0) dX12_readClause_16 rfl 0 rfl ?_
      refine pg_iconst dX12_readClause_17 ci_3 ?_
      refine pg_callV_wI (As := [pI (3 : Int32)]) (rs := []) dX12_readClause_18 lk_RX12_192 vy_X12_takes nd_X12_takes (c_X12_takes l D a0 (3 : Int32) v2.2) rfl rfl (Nat.le_of_ble_eq_true rfl) (by decide) (by decide) (fun v3 => ?_)
      refine pg_if_ne (tgt := 40) dX12_readClause_21 rfl ?_ ?_
      · exact pg_to (e_X12_readClause_40 l D a0 v3.2) [0] rfl
      · refine pg_aload_n (i := 0) dX12_readClause_24 rfl 0 rfl ?_
        refine pg_iconst dX12_readClause_25 ci_4 ?_
        refine pg_callV_wI (As := [pI (4 : Int32)]) (rs := []) dX12_readClause_26 lk_RX12_192 vy_X12_takes nd_X12_takes (c_X12_takes l D a0 (4 : Int32) v3.2) rfl rfl (Nat.le_of_ble_eq_true rfl) (by decide) (by decide) (fun v4 => ?_)
        refine pg_if_ne (tgt := 40) dX12_readClause_29 rfl ?_ ?_
        · exact pg_to (e_X12_readClause_40 l D a0 v4.2) [0] rfl
        · refine pg_aload_n (i := 0) dX12_readClause_32 rfl 0 rfl ?_
          refine pg_iconst dX12_readClause_33 ci_5 ?_
          refine pg_callV_wI (As := [pI (5 : Int32)]) (rs := []) dX12_readClause_34 lk_RX12_192 vy_X12_takes nd_X12_takes (c_X12_takes l D a0 (5 : Int32) v4.2) rfl rfl (Nat.le_of_ble_eq_true rfl) (by decide) (by decide) (fun v5 => ?_)
          refine pg_if_eq (tgt := 48) dX12_readClause_37 rfl ?_ ?_
          · refine pg_aload_n (i := 0) dX12_readClause_48 rfl 0 rfl ?_
            refine pg_bipush dX12_readClause_49 cb_6 ?_
            refine pg_callV_wI (As := [pI (6 : Int32)]) (rs := []) dX12_readClause_51 lk_RX12_192 vy_X12_takes nd_X12_takes (c_X12_takes l D a0 (6 : Int32) v5.2) rfl rfl (Nat.le_of_ble_eq_true rfl) (by decide) (by decide) (fun v6 => ?_)
            refine pg_if_ne (tgt := 63) dX12_readClause_54 rfl ?_ ?_
            · exact pg_to (e_X12_readClause_63 l D a0 v6.2) [0] rfl
            · refine pg_aload_n (i := 0) dX12_readClause_57 rfl 0 rfl ?_
              refine pg_bipush dX12_readClause_58 cb_7 ?_
              refine pg_callV_wV (As := [pI (7 : Int32)]) (rs := []) dX12_readClause_60 lk_RX12_205 vy_X12_must nd_X12_must (c_X12_must l D a0 (7 : Int32) v6.2) rfl rfl (Nat.le_of_ble_eq_true rfl) (by decide) (by decide) (fun v7 => ?_)
              exact pg_to (e_X12_readClause_63 l D a0 v7) [0] rfl
          · exact pg_to (e_X12_readClause_40 l D a0 v5.2) [0] rfl
theorem c_X12_readClause (l : Launch) (D : pg_D) (a0 : Nat) (h : pg_H) : ∀ x, F_X12_readClause a0 h = some x → pg_Ct l D yX12_readClause cX12_readClause 1 none 1304 29984 [pR a0] h (pg_wV x) :=
  pg_Ct.of pn_RX12 (Nat.le_of_ble_eq_true rfl) (e_X12_readClause l D a0 h)
def F_X12_reads_95 (a0 : Nat) (h : pg_H) : Option (Int32 × pg_H) := Option.bind (pg_gI 12 18 h a0) fun v1 => Option.bind (pg_pI 12 11 h a0 v1) fun v2 => Option.bind (pg_rcv 12 v2 a0 (F_X12_fine v2 a0)) fun v3 => (if v3 = 0 ∨ v3 = 1 then some (v3, v2) else none)
def F_X12_reads_67 (k34 : Nat → Int32 → pg_H → Option (Int32 × pg_H)) (a0 : Nat) (a1 : Int32) (h : pg_H) : Option (Int32 × pg_H) := (k34 a0 (a1 + (1 : Int32)) h)
def F_X12_reads_56 (k34 : Nat → Int32 → pg_H → Option (Int32 × pg_H)) (a0 : Nat) (a1 : Int32) (h : pg_H) : Option (Int32 × pg_H) := Option.bind (pg_rcv 12 h a0 (F_X12_fine h a0)) fun v1 => (if v1 = 0 then (F_X12_reads_67 k34 a0 a1 h) else Option.bind (pg_rcv 12 h a0 (F_X12_readClause a0 h)) fun v2 => (F_X12_reads_67 k34 a0 a1 v2))
def F_X12_reads_34  : Nat → Nat → Int32 → pg_H → Option (Int32 × pg_H)
  | 0 => fun _ _ _ => none
  | n + 1 => fun a0 a1 h => Option.bind (F_X12_sign (59 : Int32)) fun v1 => Option.bind (pg_rcv 12 h a0 (F_X12_takes a0 v1 h)) fun v2 => (if v2.1 = 0 then Option.bind (pg_rcv 12 v2.2 a0 (F_X12_fine v2.2 a0)) fun v3 => (if v3 = 0 then (F_X12_reads_95 a0 v2.2) else Option.bind (pg_gI 12 16 v2.2 a0) fun v4 => Option.bind (pg_gI 12 15 v2.2 a0) fun v5 => (if v4 < v5 then Option.bind (pg_rcv 12 v2.2 a0 (F_X12_faults a0 v2.2)) fun v6 => (F_X12_reads_95 a0 v6) else (F_X12_reads_95 a0 v2.2))) else (if a1 = (12 : Int32) then Option.bind (pg_rcv 12 v2.2 a0 (F_X12_faults a0 v2.2)) fun v7 => (F_X12_reads_56 (F_X12_reads_34 n) a0 a1 v7) else (F_X12_reads_56 (F_X12_reads_34 n) a0 a1 v2.2)))
def F_X12_reads (a0 : Nat) (h : pg_H) : Option (Int32 × pg_H) := Option.bind (pg_gI 12 10 h a0) fun v1 => Option.bind (pg_rcv 12 h a0 (F_X12_splits a0 v1 h)) fun v2 => Option.bind (pg_pI 12 10 v2 a0 (0 : Int32)) fun v3 => Option.bind (pg_pI 12 16 v3 a0 (0 : Int32)) fun v4 => Option.bind (pg_pI 12 17 v4 a0 (0 : Int32)) fun v5 => Option.bind (pg_pI 12 18 v5 a0 (-1 : Int32)) fun v6 => Option.bind (pg_rcv 12 v6 a0 (F_X12_readClause a0 v6)) fun v7 => (F_X12_reads_34 pg_fuel a0 (1 : Int32) v7)
theorem e_X12_reads_95 (l : Launch) (D : pg_D)  (a0 : Nat) (h : pg_H) : pg_EvF l D RX12 cX12_reads 2 (some FieldType.boolean) "reads" 1305 30004 pg_wI (F_X12_reads_95 a0 h) 95 [(0, pR a0)] [] h := by
  unfold F_X12_reads_95
  refine pg_aload_n (i := 0) dX12_reads_95 rfl 0 rfl ?_
  refine pg_aload_n (i := 0) dX12_reads_96 rfl 0 rfl ?_
  refine pg_getI dX12_reads_97 fl_RX12_182 rfl (fun v1 => ?_)
  refine pg_putI dX12_reads_100 fl_RX12_40 (fun z => by cases z) (fun v2 => ?_)
  refine pg_aload_n (i := 0) dX12_reads_103 rfl 0 rfl ?_
  refine pg_callV_oI (As := []) (rs := []) dX12_reads_104 lk_RX12_185 vy_X12_fine nd_X12_fine (c_X12_fine l D v2 a0) rfl rfl (Nat.le_of_ble_eq_true rfl) (by decide) (by decide) (fun v3 => ?_)
  exact pg_zretq dX12_reads_107 rfl rfl
theorem e_X12_reads_67 (l : Launch) (D : pg_D)  (k34 : Nat → Int32 → pg_H → Option (Int32 × pg_H)) (hk34 : ∀ (a0 : Nat) (a1 : Int32) (h : pg_H), pg_EvF l D RX12 cX12_reads 2 (some FieldType.boolean) "reads" 1305 30004 pg_wI (k34 a0 a1 h) 34 [(0, pR a0), (1, pI a1)] [] h) (a0 : Nat) (a1 : Int32) (h : pg_H) : pg_EvF l D RX12 cX12_reads 2 (some FieldType.boolean) "reads" 1305 30004 pg_wI (F_X12_reads_67 k34 a0 a1 h) 67 [(0, pR a0), (1, pI a1)] [] h := by
  unfold F_X12_reads_67
  refine pg_iinc (lv' := [(1, pI (a1 + (1 : Int32))), (0, pR a0)]) dX12_reads_67 1 rfl ci_1 (by decide) rfl ?_
  refine pg_goto (tgt := 34) dX12_reads_70 rfl ?_
  exact pg_to (hk34 a0 (a1 + (1 : Int32)) h) [1, 0] rfl
theorem e_X12_reads_56 (l : Launch) (D : pg_D)  (k34 : Nat → Int32 → pg_H → Option (Int32 × pg_H)) (hk34 : ∀ (a0 : Nat) (a1 : Int32) (h : pg_H), pg_EvF l D RX12 cX12_reads 2 (some FieldType.boolean) "reads" 1305 30004 pg_wI (k34 a0 a1 h) 34 [(0, pR a0), (1, pI a1)] [] h) (a0 : Nat) (a1 : Int32) (h : pg_H) : pg_EvF l D RX12 cX12_reads 2 (some FieldType.boolean) "reads" 1305 30004 pg_wI (F_X12_reads_56 k34 a0 a1 h) 56 [(0, pR a0), (1, pI a1)] [] h := by
  unfold F_X12_reads_56
  refine pg_aload_n (i := 0) dX12_reads_56 rfl 0 rfl ?_
  refine pg_callV_oI (As := []) (rs := []) dX12_reads_57 lk_RX12_185 vy_X12_fine nd_X12_fine (c_X12_fine l D h a0) rfl rfl (Nat.le_of_ble_eq_true rfl) (by decide) (by decide) (fun v1 => ?_)
  refine pg_if_eq (tgt := 67) dX12_reads_60 rfl ?_ ?_
  · exact pg_to (e_X12_reads_67 l D k34 hk34 a0 a1 h) [0, 1] rfl
  · refine pg_aload_n (i := 0) dX12_reads_63 rfl 0 rfl ?_
    refine pg_callV_wV (As := []) (rs := []) dX12_reads_64 lk_RX12_233 vy_X12_readClause nd_X12_readClause (c_X12_readClause l D a0 h) rfl rfl (Nat.le_of_ble_eq_true rfl) (by decide) (by decide) (fun v2 => ?_)
    exact pg_to (e_X12_reads_67 l D k34 hk34 a0 a1 v2) [0, 1] rfl
theorem e_X12_reads_34 (l : Launch) (D : pg_D)   : ∀ (n : Nat) (a0 : Nat) (a1 : Int32) (h : pg_H), pg_EvF l D RX12 cX12_reads 2 (some FieldType.boolean) "reads" 1305 30004 pg_wI (F_X12_reads_34 n a0 a1 h) 34 [(0, pR a0), (1, pI a1)] [] h := by
  intro n
  induction n with
  | zero => intro a0 a1 h; exact pg_none
  | succ n ih =>
    intro a0 a1 h
    rw [F_X12_reads_34]
    refine pg_aload_n (i := 0) dX12_reads_34 rfl 0 rfl ?_
    refine pg_bipush dX12_reads_35 cb_59 ?_
    refine pg_callS_oI (As := [pI (59 : Int32)]) (rs := [pR a0]) dX12_reads_37 lk_RX12_217 vy_X12_sign nd_X12_sign (c_X12_sign l D (59 : Int32) h) rfl rfl (Nat.le_of_ble_eq_true rfl) (by decide) (by decide) (fun v1 => ?_)
    refine pg_callV_wI (As := [pI v1]) (rs := []) dX12_reads_40 lk_RX12_192 vy_X12_takes nd_X12_takes (c_X12_takes l D a0 v1 h) rfl rfl (Nat.le_of_ble_eq_true rfl) (by decide) (by decide) (fun v2 => ?_)
    refine pg_if_eq (tgt := 73) dX12_reads_43 rfl ?_ ?_
    · refine pg_aload_n (i := 0) dX12_reads_73 rfl 0 rfl ?_
      refine pg_callV_oI (As := []) (rs := []) dX12_reads_74 lk_RX12_185 vy_X12_fine nd_X12_fine (c_X12_fine l D v2.2 a0) rfl rfl (Nat.le_of_ble_eq_true rfl) (by decide) (by decide) (fun v3 => ?_)
      refine pg_if_eq (tgt := 95) dX12_reads_77 rfl ?_ ?_
      · exact pg_to (e_X12_reads_95 l D a0 v2.2) [0] rfl
      · refine pg_aload_n (i := 0) dX12_reads_80 rfl 0 rfl ?_
        refine pg_getI dX12_reads_81 fl_RX12_189 rfl (fun v4 => ?_)
        refine pg_aload_n (i := 0) dX12_reads_84 rfl 0 rfl ?_
        refine pg_getI dX12_reads_85 fl_RX12_169 rfl (fun v5 => ?_)
        refine pg_icmp_ge (tgt := 95) dX12_reads_88 rfl ?_ ?_
        · exact pg_to (e_X12_reads_95 l D a0 v2.2) [0] rfl
        · refine pg_aload_n (i := 0) dX12_reads_91 rfl 0 rfl ?_
          refine pg_callV_wV (As := []) (rs := []) dX12_reads_92 lk_RX12_195 vy_X12_faults nd_X12_faults (c_X12_faults l D a0 v2.2) rfl rfl (Nat.le_of_ble_eq_true rfl) (by decide) (by decide) (fun v6 => ?_)
          exact pg_to (e_X12_reads_95 l D a0 v6) [0] rfl
    · refine pg_iload_n (i := 1) dX12_reads_46 rfl 1 rfl ?_
      refine pg_bipush dX12_reads_47 cb_12 ?_
      refine pg_icmp_ne (tgt := 56) dX12_reads_49 rfl ?_ ?_
      · exact pg_to (e_X12_reads_56 l D (F_X12_reads_34 n) ih a0 a1 v2.2) [0, 1] rfl
      · refine pg_aload_n (i := 0) dX12_reads_52 rfl 0 rfl ?_
        refine pg_callV_wV (As := []) (rs := []) dX12_reads_53 lk_RX12_195 vy_X12_faults nd_X12_faults (c_X12_faults l D a0 v2.2) rfl rfl (Nat.le_of_ble_eq_true rfl) (by decide) (by decide) (fun v7 => ?_)
        exact pg_to (e_X12_reads_56 l D (F_X12_reads_34 n) ih a0 a1 v7) [0, 1] rfl
theorem e_X12_reads (l : Launch) (D : pg_D)  (a0 : Nat) (h : pg_H) : pg_EvF l D RX12 cX12_reads 2 (some FieldType.boolean) "reads" 1305 30004 pg_wI (F_X12_reads a0 h) 0 [(0, pR a0)] [] h := by
  unfold F_X12_reads
  refine pg_aload_n (i := 0) dX12_reads_0 rfl 0 rfl ?_
  refine pg_aload_n (i := 0) dX12_reads_1 rfl 0 rfl ?_
  refine pg_getI dX12_reads_2 fl_RX12_163 rfl (fun v1 => ?_)
  refine pg_callV_wV (As := [pI v1]) (rs := []) dX12_reads_5 lk_RX12_230 vy_X12_splits nd_X12_splits (c_X12_splits l D a0 v1 h) rfl rfl (Nat.le_of_ble_eq_true rfl) (by decide) (by decide) (fun v2 => ?_)
  refine pg_aload_n (i := 0) dX12_reads_8 rfl 0 rfl ?_
  refine pg_iconst dX12_reads_9 ci_0 ?_
  refine pg_putI dX12_reads_10 fl_RX12_163 (fun z => by cases z) (fun v3 => ?_)
  refine pg_aload_n (i := 0) dX12_reads_13 rfl 0 rfl ?_
  refine pg_iconst dX12_reads_14 ci_0 ?_
  refine pg_putI dX12_reads_15 fl_RX12_189 (fun z => by cases z) (fun v4 => ?_)
  refine pg_aload_n (i := 0) dX12_reads_18 rfl 0 rfl ?_
  refine pg_iconst dX12_reads_19 ci_0 ?_
  refine pg_putI dX12_reads_20 fl_RX12_198 (fun z => by cases z) (fun v5 => ?_)
  refine pg_aload_n (i := 0) dX12_reads_23 rfl 0 rfl ?_
  refine pg_iconst dX12_reads_24 ci_m1 ?_
  refine pg_putI dX12_reads_25 fl_RX12_182 (fun z => by cases z) (fun v6 => ?_)
  refine pg_aload_n (i := 0) dX12_reads_28 rfl 0 rfl ?_
  refine pg_callV_wV (As := []) (rs := []) dX12_reads_29 lk_RX12_233 vy_X12_readClause nd_X12_readClause (c_X12_readClause l D a0 v6) rfl rfl (Nat.le_of_ble_eq_true rfl) (by decide) (by decide) (fun v7 => ?_)
  refine pg_iconst dX12_reads_32 ci_1 ?_
  refine pg_istore_n (i := 1) (lv' := [(1, pI (1 : Int32)), (0, pR a0)]) dX12_reads_33 rfl (by decide) rfl ?_
  exact pg_to (e_X12_reads_34 l D pg_fuel a0 (1 : Int32) v7) [1, 0] rfl
theorem c_X12_reads (l : Launch) (D : pg_D) (a0 : Nat) (h : pg_H) : ∀ x, F_X12_reads a0 h = some x → pg_Ct l D yX12_reads cX12_reads 2 (some FieldType.boolean) 1305 30004 [pR a0] h (pg_wI x) :=
  pg_Ct.of pn_RX12 (Nat.le_of_ble_eq_true rfl) (e_X12_reads l D a0 h)
def F_X12_text_64  : Nat → Nat → Int32 → Int32 → pg_H → Option (Int32 × pg_H)
  | 0 => fun _ _ _ _ => none
  | n + 1 => fun a0 a1 a2 h => Option.bind (pg_gI 12 15 h a0) fun v1 => (if a2 < v1 then Option.bind (pg_gR 12 3 h a0) fun v6 => Option.bind (pg_gR 12 12 h a0) fun v7 => Option.bind (pg_aI 21 h v7 a2) fun v8 => Option.bind (pg_sI 21 h v6 (((1358 : Int32) + ((400 : Int32) * a1)) + a2) v8) fun v9 => Option.bind (pg_gR 12 3 v9 a0) fun v10 => Option.bind (pg_gR 12 13 v9 a0) fun v11 => Option.bind (pg_aI 21 v9 v11 a2) fun v12 => Option.bind (pg_sI 21 v9 v10 (((4558 : Int32) + ((400 : Int32) * a1)) + a2) v12) fun v13 => (F_X12_text_64 n a0 a1 (a2 + (1 : Int32)) v13) else Option.bind (pg_gR 12 3 h a0) fun v2 => Option.bind (pg_aI 21 h v2 (1348 : Int32)) fun v3 => Option.bind (pg_sI 21 h v2 (1348 : Int32) (v3 + (1 : Int32))) fun v4 => Option.bind (pg_rcv 12 v4 a0 (F_X12_good a0 a1 v4)) fun v5 => (some (v5.1, v5.2)))
def F_X12_text (a0 : Nat) (h : pg_H) : Option (Int32 × pg_H) := Option.bind (pg_gR 12 3 h a0) fun v1 => Option.bind (pg_aI 21 h v1 (1348 : Int32)) fun v2 => (if v2 = (8 : Int32) then Option.bind (pg_pI 12 10 h a0 (0 : Int32)) fun v10 => Option.bind (pg_rcv 12 v10 a0 (F_X12_refuses a0 (-5 : Int32) v10)) fun v11 => (some (v11.1, v11.2)) else Option.bind (pg_rcv 12 h a0 (F_X12_reads a0 h)) fun v3 => (if v3.1 = 0 then Option.bind (pg_rcv 12 v3.2 a0 (F_X12_refuses a0 (-6 : Int32) v3.2)) fun v9 => (some (v9.1, v9.2)) else Option.bind (pg_gR 12 3 v3.2 a0) fun v4 => Option.bind (pg_aI 21 v3.2 v4 (1348 : Int32)) fun v5 => Option.bind (pg_gR 12 3 v3.2 a0) fun v6 => Option.bind (pg_gI 12 15 v3.2 a0) fun v7 => Option.bind (pg_sI 21 v3.2 v6 ((1350 : Int32) + v5) v7) fun v8 => (F_X12_text_64 pg_fuel a0 v5 (0 : Int32) v8)))
theorem e_X12_text_64 (l : Launch) (D : pg_D)   : ∀ (n : Nat) (a0 : Nat) (a1 : Int32) (a2 : Int32) (h : pg_H), pg_EvF l D RX12 cX12_text 3 (some FieldType.int) "text" 1306 30025 pg_wI (F_X12_text_64 n a0 a1 a2 h) 64 [(0, pR a0), (1, pI a1), (2, pI a2)] [] h := by
  intro n
  induction n with
  | zero => intro a0 a1 a2 h; exact pg_none
  | succ n ih =>
    intro a0 a1 a2 h
    rw [F_X12_text_64]
    refine pg_iload_n (i := 2) dX12_text_64 rfl 2 rfl ?_
    refine pg_aload_n (i := 0) dX12_text_65 rfl 0 rfl ?_
    refine pg_getI dX12_text_66 fl_RX12_169 rfl (fun v1 => ?_)
    refine pg_icmp_ge (tgt := 122) dX12_text_69 rfl ?_ ?_
    · refine pg_aload_n (i := 0) dX12_text_122 rfl 0 rfl ?_
      refine pg_getR dX12_text_123 fl_RX12_20 rfl (fun v2 => ?_)
      refine pg_sipush dX12_text_126 cs_1348 ?_
      refine pg_dup2 dX12_text_129 rfl rfl ?_
      refine pg_iaload dX12_text_130 (fun v3 => ?_)
      refine pg_iconst dX12_text_131 ci_1 ?_
      refine pg_iadd dX12_text_132 ?_
      refine pg_iastore dX12_text_133 (fun v4 => ?_)
      refine pg_aload_n (i := 0) dX12_text_134 rfl 0 rfl ?_
      refine pg_iload_n (i := 1) dX12_text_135 rfl 1 rfl ?_
      refine pg_callV_wI (As := [pI a1]) (rs := []) dX12_text_136 lk_RX12_121 vy_X12_good nd_X12_good (c_X12_good l D a0 a1 v4) rfl rfl (Nat.le_of_ble_eq_true rfl) (by decide) (by decide) (fun v5 => ?_)
      exact pg_iret dX12_text_139 rfl rfl
    · refine pg_aload_n (i := 0) dX12_text_72 rfl 0 rfl ?_
      refine pg_getR dX12_text_73 fl_RX12_20 rfl (fun v6 => ?_)
      refine pg_sipush dX12_text_76 cs_1358 ?_
      refine pg_sipush dX12_text_79 cs_400 ?_
      refine pg_iload_n (i := 1) dX12_text_82 rfl 1 rfl ?_
      refine pg_imul dX12_text_83 ?_
      refine pg_iadd dX12_text_84 ?_
      refine pg_iload_n (i := 2) dX12_text_85 rfl 2 rfl ?_
      refine pg_iadd dX12_text_86 ?_
      refine pg_aload_n (i := 0) dX12_text_87 rfl 0 rfl ?_
      refine pg_getR dX12_text_88 fl_RX12_43 rfl (fun v7 => ?_)
      refine pg_iload_n (i := 2) dX12_text_91 rfl 2 rfl ?_
      refine pg_iaload dX12_text_92 (fun v8 => ?_)
      refine pg_iastore dX12_text_93 (fun v9 => ?_)
      refine pg_aload_n (i := 0) dX12_text_94 rfl 0 rfl ?_
      refine pg_getR dX12_text_95 fl_RX12_20 rfl (fun v10 => ?_)
      refine pg_sipush dX12_text_98 cs_4558 ?_
      refine pg_sipush dX12_text_101 cs_400 ?_
      refine pg_iload_n (i := 1) dX12_text_104 rfl 1 rfl ?_
      refine pg_imul dX12_text_105 ?_
      refine pg_iadd dX12_text_106 ?_
      refine pg_iload_n (i := 2) dX12_text_107 rfl 2 rfl ?_
      refine pg_iadd dX12_text_108 ?_
      refine pg_aload_n (i := 0) dX12_text_109 rfl 0 rfl ?_
      refine pg_getR dX12_text_110 fl_RX12_46 rfl (fun v11 => ?_)
      refine pg_iload_n (i := 2) dX12_text_113 rfl 2 rfl ?_
      refine pg_iaload dX12_text_114 (fun v12 => ?_)
      refine pg_iastore dX12_text_115 (fun v13 => ?_)
      refine pg_iinc (lv' := [(2, pI (a2 + (1 : Int32))), (0, pR a0), (1, pI a1)]) dX12_text_116 2 rfl ci_1 (by decide) rfl ?_
      refine pg_goto (tgt := 64) dX12_text_119 rfl ?_
      exact pg_to (ih a0 a1 (a2 + (1 : Int32)) v13) [1, 2, 0] rfl
theorem e_X12_text (l : Launch) (D : pg_D)  (a0 : Nat) (h : pg_H) : pg_EvF l D RX12 cX12_text 3 (some FieldType.int) "text" 1306 30025 pg_wI (F_X12_text a0 h) 0 [(0, pR a0)] [] h := by
  unfold F_X12_text
  refine pg_aload_n (i := 0) dX12_text_0 rfl 0 rfl ?_
  refine pg_getR dX12_text_1 fl_RX12_20 rfl (fun v1 => ?_)
  refine pg_sipush dX12_text_4 cs_1348 ?_
  refine pg_iaload dX12_text_7 (fun v2 => ?_)
  refine pg_bipush dX12_text_8 cb_8 ?_
  refine pg_icmp_ne (tgt := 25) dX12_text_10 rfl ?_ ?_
  · refine pg_aload_n (i := 0) dX12_text_25 rfl 0 rfl ?_
    refine pg_callV_wI (As := []) (rs := []) dX12_text_26 lk_RX12_236 vy_X12_reads nd_X12_reads (c_X12_reads l D a0 h) rfl rfl (Nat.le_of_ble_eq_true rfl) (by decide) (by decide) (fun v3 => ?_)
    refine pg_if_ne (tgt := 39) dX12_text_29 rfl ?_ ?_
    · refine pg_aload_n (i := 0) dX12_text_39 rfl 0 rfl ?_
      refine pg_getR dX12_text_40 fl_RX12_20 rfl (fun v4 => ?_)
      refine pg_sipush dX12_text_43 cs_1348 ?_
      refine pg_iaload dX12_text_46 (fun v5 => ?_)
      refine pg_istore_n (i := 1) (lv' := [(1, pI v5), (0, pR a0)]) dX12_text_47 rfl (by decide) rfl ?_
      refine pg_aload_n (i := 0) dX12_text_48 rfl 1 rfl ?_
      refine pg_getR dX12_text_49 fl_RX12_20 rfl (fun v6 => ?_)
      refine pg_sipush dX12_text_52 cs_1350 ?_
      refine pg_iload_n (i := 1) dX12_text_55 rfl 0 rfl ?_
      refine pg_iadd dX12_text_56 ?_
      refine pg_aload_n (i := 0) dX12_text_57 rfl 1 rfl ?_
      refine pg_getI dX12_text_58 fl_RX12_169 rfl (fun v7 => ?_)
      refine pg_iastore dX12_text_61 (fun v8 => ?_)
      refine pg_iconst dX12_text_62 ci_0 ?_
      refine pg_istore_n (i := 2) (lv' := [(2, pI (0 : Int32)), (1, pI v5), (0, pR a0)]) dX12_text_63 rfl (by decide) rfl ?_
      exact pg_to (e_X12_text_64 l D pg_fuel a0 v5 (0 : Int32) v8) [2, 1, 0] rfl
    · refine pg_aload_n (i := 0) dX12_text_32 rfl 0 rfl ?_
      refine pg_bipush dX12_text_33 cb_m6 ?_
      refine pg_callV_wI (As := [pI (-6 : Int32)]) (rs := []) dX12_text_35 lk_RX12_117 vy_X12_refuses nd_X12_refuses (c_X12_refuses l D a0 (-6 : Int32) v3.2) rfl rfl (Nat.le_of_ble_eq_true rfl) (by decide) (by decide) (fun v9 => ?_)
      exact pg_iret dX12_text_38 rfl rfl
  · refine pg_aload_n (i := 0) dX12_text_13 rfl 0 rfl ?_
    refine pg_iconst dX12_text_14 ci_0 ?_
    refine pg_putI dX12_text_15 fl_RX12_163 (fun z => by cases z) (fun v10 => ?_)
    refine pg_aload_n (i := 0) dX12_text_18 rfl 0 rfl ?_
    refine pg_bipush dX12_text_19 cb_m5 ?_
    refine pg_callV_wI (As := [pI (-5 : Int32)]) (rs := []) dX12_text_21 lk_RX12_117 vy_X12_refuses nd_X12_refuses (c_X12_refuses l D a0 (-5 : Int32) v10) rfl rfl (Nat.le_of_ble_eq_true rfl) (by decide) (by decide) (fun v11 => ?_)
    exact pg_iret dX12_text_24 rfl rfl
theorem c_X12_text (l : Launch) (D : pg_D) (a0 : Nat) (h : pg_H) : ∀ x, F_X12_text a0 h = some x → pg_Ct l D yX12_text cX12_text 3 (some FieldType.int) 1306 30025 [pR a0] h (pg_wI x) :=
  pg_Ct.of pn_RX12 (Nat.le_of_ble_eq_true rfl) (e_X12_text l D a0 h)
def F_X12_fault (h : pg_H) (a0 : Nat) : Option Int32 := Option.bind (pg_gI 12 11 h a0) fun v1 => (some v1)
theorem e_X12_fault (l : Launch) (D : pg_D)  (h : pg_H) (a0 : Nat) : pg_EvF l D RX12 cX12_fault 1 (some FieldType.int) "fault" 0 0 (pg_oI h) (F_X12_fault h a0) 0 [(0, pR a0)] [] h := by
  unfold F_X12_fault
  refine pg_aload_n (i := 0) dX12_fault_0 rfl 0 rfl ?_
  refine pg_getI dX12_fault_1 fl_RX12_40 rfl (fun v1 => ?_)
  exact pg_iret dX12_fault_4 rfl rfl
theorem c_X12_fault (l : Launch) (D : pg_D) (h : pg_H) (a0 : Nat)  : ∀ x, F_X12_fault h a0 = some x → pg_Ct l D yX12_fault cX12_fault 1 (some FieldType.int) 0 0 [pR a0] h (pg_oI h x) :=
  pg_Ct.of pn_RX12 (Nat.le_of_ble_eq_true rfl) (e_X12_fault l D h a0)
def F_X12_use_20 (a0 : Nat) (a1 : Int32) (h : pg_H) : Option (Int32 × pg_H) := Option.bind (pg_rcv 12 h a0 (F_X12_replaces a0 (1349 : Int32) a1 h)) fun v1 => (some (v1.1, v1.2))
def F_X12_use (a0 : Nat) (a1 : Int32) (h : pg_H) : Option (Int32 × pg_H) := (if a1 = (-1 : Int32) then (F_X12_use_20 a0 a1 h) else Option.bind (pg_rcv 12 h a0 (F_X12_isText h a0 a1)) fun v1 => (if v1 = 0 then Option.bind (pg_rcv 12 h a0 (F_X12_refuses a0 (-3 : Int32) h)) fun v2 => (some (v2.1, v2.2)) else (F_X12_use_20 a0 a1 h)))
theorem e_X12_use_20 (l : Launch) (D : pg_D)  (a0 : Nat) (a1 : Int32) (h : pg_H) : pg_EvF l D RX12 cX12_use 2 (some FieldType.int) "use" 2 44 pg_wI (F_X12_use_20 a0 a1 h) 20 [(0, pR a0), (1, pI a1)] [] h := by
  unfold F_X12_use_20
  refine pg_aload_n (i := 0) dX12_use_20 rfl 0 rfl ?_
  refine pg_sipush dX12_use_21 cs_1349 ?_
  refine pg_iload_n (i := 1) dX12_use_24 rfl 1 rfl ?_
  refine pg_callV_wI (As := [pI (1349 : Int32), pI a1]) (rs := []) dX12_use_25 lk_RX12_132 vy_X12_replaces nd_X12_replaces (c_X12_replaces l D a0 (1349 : Int32) a1 h) rfl rfl (Nat.le_of_ble_eq_true rfl) (by decide) (by decide) (fun v1 => ?_)
  exact pg_iret dX12_use_28 rfl rfl
theorem e_X12_use (l : Launch) (D : pg_D)  (a0 : Nat) (a1 : Int32) (h : pg_H) : pg_EvF l D RX12 cX12_use 2 (some FieldType.int) "use" 2 44 pg_wI (F_X12_use a0 a1 h) 0 [(0, pR a0), (1, pI a1)] [] h := by
  unfold F_X12_use
  refine pg_iload_n (i := 1) dX12_use_0 rfl 1 rfl ?_
  refine pg_iconst dX12_use_1 ci_m1 ?_
  refine pg_icmp_eq (tgt := 20) dX12_use_2 rfl ?_ ?_
  · exact pg_to (e_X12_use_20 l D a0 a1 h) [0, 1] rfl
  · refine pg_aload_n (i := 0) dX12_use_5 rfl 0 rfl ?_
    refine pg_iload_n (i := 1) dX12_use_6 rfl 1 rfl ?_
    refine pg_callV_oI (As := [pI a1]) (rs := []) dX12_use_7 lk_RX12_239 vy_X12_isText nd_X12_isText (c_X12_isText l D h a0 a1) rfl rfl (Nat.le_of_ble_eq_true rfl) (by decide) (by decide) (fun v1 => ?_)
    refine pg_if_ne (tgt := 20) dX12_use_10 rfl ?_ ?_
    · exact pg_to (e_X12_use_20 l D a0 a1 h) [0, 1] rfl
    · refine pg_aload_n (i := 0) dX12_use_13 rfl 0 rfl ?_
      refine pg_bipush dX12_use_14 cb_m3 ?_
      refine pg_callV_wI (As := [pI (-3 : Int32)]) (rs := []) dX12_use_16 lk_RX12_117 vy_X12_refuses nd_X12_refuses (c_X12_refuses l D a0 (-3 : Int32) h) rfl rfl (Nat.le_of_ble_eq_true rfl) (by decide) (by decide) (fun v2 => ?_)
      exact pg_iret dX12_use_19 rfl rfl
theorem c_X12_use (l : Launch) (D : pg_D) (a0 : Nat) (a1 : Int32) (h : pg_H) : ∀ x, F_X12_use a0 a1 h = some x → pg_Ct l D yX12_use cX12_use 2 (some FieldType.int) 2 44 [pR a0, pI a1] h (pg_wI x) :=
  pg_Ct.of pn_RX12 (Nat.le_of_ble_eq_true rfl) (e_X12_use l D a0 a1 h)
def F_X12_codeAt (h : pg_H) (a0 : Nat) (a1 : Int32) : Option Int32 := Option.bind (pg_gI 12 20 h a0) fun v1 => (if a1 < v1 then Option.bind (pg_gR 12 3 h a0) fun v2 => Option.bind (pg_aI 21 h v2 ((1358 : Int32) + a1)) fun v3 => (some v3) else (some (0 : Int32)))
theorem e_X12_codeAt (l : Launch) (D : pg_D)  (h : pg_H) (a0 : Nat) (a1 : Int32) : pg_EvF l D RX12 cX12_codeAt 2 (some FieldType.int) "codeAt" 0 0 (pg_oI h) (F_X12_codeAt h a0 a1) 0 [(0, pR a0), (1, pI a1)] [] h := by
  unfold F_X12_codeAt
  refine pg_iload_n (i := 1) dX12_codeAt_0 rfl 1 rfl ?_
  refine pg_aload_n (i := 0) dX12_codeAt_1 rfl 0 rfl ?_
  refine pg_getI dX12_codeAt_2 fl_RX12_242 rfl (fun v1 => ?_)
  refine pg_icmp_ge (tgt := 21) dX12_codeAt_5 rfl ?_ ?_
  · refine pg_iconst dX12_codeAt_21 ci_0 ?_
    exact pg_iret dX12_codeAt_22 rfl rfl
  · refine pg_aload_n (i := 0) dX12_codeAt_8 rfl 0 rfl ?_
    refine pg_getR dX12_codeAt_9 fl_RX12_20 rfl (fun v2 => ?_)
    refine pg_sipush dX12_codeAt_12 cs_1358 ?_
    refine pg_iload_n (i := 1) dX12_codeAt_15 rfl 1 rfl ?_
    refine pg_iadd dX12_codeAt_16 ?_
    refine pg_iaload dX12_codeAt_17 (fun v3 => ?_)
    refine pg_goto (tgt := 22) dX12_codeAt_18 rfl ?_
    exact pg_iret dX12_codeAt_22 rfl rfl
theorem c_X12_codeAt (l : Launch) (D : pg_D) (h : pg_H) (a0 : Nat) (a1 : Int32)  : ∀ x, F_X12_codeAt h a0 a1 = some x → pg_Ct l D yX12_codeAt cX12_codeAt 2 (some FieldType.int) 0 0 [pR a0, pI a1] h (pg_oI h x) :=
  pg_Ct.of pn_RX12 (Nat.le_of_ble_eq_true rfl) (e_X12_codeAt l D h a0 a1)
def F_X12_passes_17 (a0 : Nat) (s0 : Int32) (h : pg_H) : Option (Int32 × pg_H) := (if s0 = 0 then (if s0 = 0 ∨ s0 = 1 then some (s0, h) else none) else Option.bind (pg_gI 12 19 h a0) fun v1 => Option.bind (pg_pI 12 19 h a0 (v1 + (1 : Int32))) fun v2 => (if s0 = 0 ∨ s0 = 1 then some (s0, v2) else none))
def F_X12_passes (a0 : Nat) (a1 : Int32) (h : pg_H) : Option (Int32 × pg_H) := Option.bind (pg_gI 12 19 h a0) fun v1 => Option.bind (pg_rcv 12 h a0 (F_X12_codeAt h a0 v1)) fun v2 => (if v2 = a1 then (F_X12_passes_17 a0 (1 : Int32) h) else (F_X12_passes_17 a0 (0 : Int32) h))
theorem e_X12_passes_17 (l : Launch) (D : pg_D)  (a0 : Nat) (s0 : Int32) (h : pg_H) : pg_EvF l D RX12 cX12_passes 3 (some FieldType.boolean) "passes" 1 21 pg_wI (F_X12_passes_17 a0 s0 h) 17 [(0, pR a0)] [pI s0] h := by
  unfold F_X12_passes_17
  refine pg_istore_n (i := 2) (lv' := [(2, pI s0), (0, pR a0)]) dX12_passes_17 rfl (by decide) rfl ?_
  refine pg_iload_n (i := 2) dX12_passes_18 rfl 0 rfl ?_
  refine pg_if_eq (tgt := 32) dX12_passes_19 rfl ?_ ?_
  · refine pg_iload_n (i := 2) dX12_passes_32 rfl 0 rfl ?_
    exact pg_zretq dX12_passes_33 rfl rfl
  · refine pg_aload_n (i := 0) dX12_passes_22 rfl 1 rfl ?_
    refine pg_dup dX12_passes_23 rfl ?_
    refine pg_getI dX12_passes_24 fl_RX12_245 rfl (fun v1 => ?_)
    refine pg_iconst dX12_passes_27 ci_1 ?_
    refine pg_iadd dX12_passes_28 ?_
    refine pg_putI dX12_passes_29 fl_RX12_245 (fun z => by cases z) (fun v2 => ?_)
    refine pg_iload_n (i := 2) dX12_passes_32 rfl 0 rfl ?_
    exact pg_zretq dX12_passes_33 rfl rfl
theorem e_X12_passes (l : Launch) (D : pg_D)  (a0 : Nat) (a1 : Int32) (h : pg_H) : pg_EvF l D RX12 cX12_passes 3 (some FieldType.boolean) "passes" 1 21 pg_wI (F_X12_passes a0 a1 h) 0 [(0, pR a0), (1, pI a1)] [] h := by
  unfold F_X12_passes
  refine pg_aload_n (i := 0) dX12_passes_0 rfl 0 rfl ?_
  refine pg_aload_n (i := 0) dX12_passes_1 rfl 0 rfl ?_
  refine pg_getI dX12_passes_2 fl_RX12_245 rfl (fun v1 => ?_)
  refine pg_callV_oI (As := [pI v1]) (rs := []) dX12_passes_5 lk_RX12_248 vy_X12_codeAt nd_X12_codeAt (c_X12_codeAt l D h a0 v1) rfl rfl (Nat.le_of_ble_eq_true rfl) (by decide) (by decide) (fun v2 => ?_)
  refine pg_iload_n (i := 1) dX12_passes_8 rfl 1 rfl ?_
  refine pg_icmp_ne (tgt := 16) dX12_passes_9 rfl ?_ ?_
  · refine pg_iconst dX12_passes_16 ci_0 ?_
    exact pg_to (e_X12_passes_17 l D a0 (0 : Int32) h) [0] rfl
  · refine pg_iconst dX12_passes_12 ci_1 ?_
    refine pg_goto (tgt := 17) dX12_passes_13 rfl ?_
    exact pg_to (e_X12_passes_17 l D a0 (1 : Int32) h) [0] rfl
theorem c_X12_passes (l : Launch) (D : pg_D) (a0 : Nat) (a1 : Int32) (h : pg_H) : ∀ x, F_X12_passes a0 a1 h = some x → pg_Ct l D yX12_passes cX12_passes 3 (some FieldType.boolean) 1 21 [pR a0, pI a1] h (pg_wI x) :=
  pg_Ct.of pn_RX12 (Nat.le_of_ble_eq_true rfl) (e_X12_passes l D a0 a1 h)
def F_X12_bounded_25 (a0 : Nat) (a1 : Int64) (h : pg_H) : Option (Int64 × pg_H) := Option.bind (pg_gI 12 21 h a0) fun v1 => (if v1 = 0 then (some (a1, h)) else (some ((0 : Int64), h)))
def F_X12_bounded_20 (a0 : Nat) (a1 : Int64) (h : pg_H) : Option (Int64 × pg_H) := Option.bind (pg_pZ 12 21 h a0 (1 : Int32)) fun v1 => (F_X12_bounded_25 a0 a1 v1)
def F_X12_bounded (a0 : Nat) (a1 : Int64) (a3 : Int32) (h : pg_H) : Option (Int64 × pg_H) := (if a3 = 0 then (F_X12_bounded_25 a0 a1 h) else (if (1000000000 : Int64) < a1 then (F_X12_bounded_20 a0 a1 h) else (if a1 < (-1000000000 : Int64) then (F_X12_bounded_20 a0 a1 h) else (F_X12_bounded_25 a0 a1 h))))
theorem e_X12_bounded_25 (l : Launch) (D : pg_D)  (a0 : Nat) (a1 : Int64) (h : pg_H) : pg_EvF l D RX12 cX12_bounded 4 (some FieldType.long) "bounded" 0 0 pg_wL (F_X12_bounded_25 a0 a1 h) 25 [(0, pR a0), (1, pL a1)] [] h := by
  unfold F_X12_bounded_25
  refine pg_aload_n (i := 0) dX12_bounded_25 rfl 0 rfl ?_
  refine pg_getI dX12_bounded_26 fl_RX12_255 rfl (fun v1 => ?_)
  refine pg_if_eq (tgt := 36) dX12_bounded_29 rfl ?_ ?_
  · refine pg_lload_n (i := 1) dX12_bounded_36 rfl 1 rfl ?_
    exact pg_lret dX12_bounded_37 rfl rfl
  · refine pg_lconst dX12_bounded_32 cl_0 ?_
    refine pg_goto (tgt := 37) dX12_bounded_33 rfl ?_
    exact pg_lret dX12_bounded_37 rfl rfl
theorem e_X12_bounded_20 (l : Launch) (D : pg_D)  (a0 : Nat) (a1 : Int64) (h : pg_H) : pg_EvF l D RX12 cX12_bounded 4 (some FieldType.long) "bounded" 0 0 pg_wL (F_X12_bounded_20 a0 a1 h) 20 [(0, pR a0), (1, pL a1)] [] h := by
  unfold F_X12_bounded_20
  refine pg_aload_n (i := 0) dX12_bounded_20 rfl 0 rfl ?_
  refine pg_iconst dX12_bounded_21 ci_1 ?_
  refine pg_putZ dX12_bounded_22 fl_RX12_255 (fun z => by cases z) (fun v1 => ?_)
  exact pg_to (e_X12_bounded_25 l D a0 a1 v1) [0, 1] rfl
theorem e_X12_bounded (l : Launch) (D : pg_D)  (a0 : Nat) (a1 : Int64) (a3 : Int32) (h : pg_H) : pg_EvF l D RX12 cX12_bounded 4 (some FieldType.long) "bounded" 0 0 pg_wL (F_X12_bounded a0 a1 a3 h) 0 [(0, pR a0), (1, pL a1), (3, pI a3)] [] h := by
  unfold F_X12_bounded
  refine pg_iload_n (i := 3) dX12_bounded_0 rfl 2 rfl ?_
  refine pg_if_eq (tgt := 25) dX12_bounded_1 rfl ?_ ?_
  · exact pg_to (e_X12_bounded_25 l D a0 a1 h) [0, 1] rfl
  · refine pg_lload_n (i := 1) dX12_bounded_4 rfl 1 rfl ?_
    refine pg_ldc2 (v := (1000000000 : Int64)) dX12_bounded_5 kc_RX12_251 ?_
    refine pg_lcmp_gt (tgt := 20) dX12_bounded_8 dX12_bounded_9 rfl ?_ ?_
    · exact pg_to (e_X12_bounded_20 l D a0 a1 h) [0, 1] rfl
    · refine pg_lload_n (i := 1) dX12_bounded_12 rfl 1 rfl ?_
      refine pg_ldc2 (v := (-1000000000 : Int64)) dX12_bounded_13 kc_RX12_253 ?_
      refine pg_lcmp_ge (tgt := 25) dX12_bounded_16 dX12_bounded_17 rfl ?_ ?_
      · exact pg_to (e_X12_bounded_25 l D a0 a1 h) [0, 1] rfl
      · exact pg_to (e_X12_bounded_20 l D a0 a1 h) [0, 1] rfl
theorem c_X12_bounded (l : Launch) (D : pg_D) (a0 : Nat) (a1 : Int64) (a3 : Int32) (h : pg_H) : ∀ x, F_X12_bounded a0 a1 a3 h = some x → pg_Ct l D yX12_bounded cX12_bounded 4 (some FieldType.long) 0 0 [pR a0, pL a1, pI a3] h (pg_wL x) :=
  pg_Ct.of pn_RX12 (Nat.le_of_ble_eq_true rfl) (e_X12_bounded l D a0 a1 a3 h)
def F_X12_sumOf_95 (g_X12_termOf : Nat → Int32 → pg_H → Option (Int64 × pg_H)) (k6 : Nat → Int32 → Int64 → pg_H → Option (Int64 × pg_H)) (a0 : Nat) (a1 : Int32) (s0 : Int64) (s1 : Nat) (h : pg_H) : Option (Int64 × pg_H) := Option.bind (pg_rcv 12 h s1 (F_X12_bounded s1 s0 a1 h)) fun v1 => (k6 a0 a1 v1.1 v1.2)
def F_X12_sumOf_59 (g_X12_termOf : Nat → Int32 → pg_H → Option (Int64 × pg_H)) (k6 : Nat → Int32 → Int64 → pg_H → Option (Int64 × pg_H)) (a0 : Nat) (a1 : Int32) (a2 : Int64) (s0 : Int32) (h : pg_H) : Option (Int64 × pg_H) := Option.bind (pg_gI 12 19 h a0) fun v1 => Option.bind (pg_pI 12 19 h a0 (v1 + (1 : Int32))) fun v2 => Option.bind (pg_rcv 12 v2 a0 (g_X12_termOf a0 a1 v2)) fun v3 => (if s0 = 0 then (F_X12_sumOf_95 g_X12_termOf k6 a0 a1 (a2 - v3.1) a0 v3.2) else (F_X12_sumOf_95 g_X12_termOf k6 a0 a1 (a2 + v3.1) a0 v3.2))
def F_X12_sumOf_38 (g_X12_termOf : Nat → Int32 → pg_H → Option (Int64 × pg_H)) (k6 : Nat → Int32 → Int64 → pg_H → Option (Int64 × pg_H)) (a0 : Nat) (a1 : Int32) (a2 : Int64) (h : pg_H) : Option (Int64 × pg_H) := Option.bind (pg_gI 12 19 h a0) fun v1 => Option.bind (pg_rcv 12 h a0 (F_X12_codeAt h a0 v1)) fun v2 => Option.bind (F_X12_sign (43 : Int32)) fun v3 => (if v2 = v3 then (F_X12_sumOf_59 g_X12_termOf k6 a0 a1 a2 (1 : Int32) h) else (F_X12_sumOf_59 g_X12_termOf k6 a0 a1 a2 (0 : Int32) h))
def F_X12_sumOf_6 (g_X12_termOf : Nat → Int32 → pg_H → Option (Int64 × pg_H)) : Nat → Nat → Int32 → Int64 → pg_H → Option (Int64 × pg_H)
  | 0 => fun _ _ _ _ => none
  | n + 1 => fun a0 a1 a2 h => Option.bind (pg_gI 12 19 h a0) fun v1 => Option.bind (pg_rcv 12 h a0 (F_X12_codeAt h a0 v1)) fun v2 => Option.bind (F_X12_sign (43 : Int32)) fun v3 => (if v2 = v3 then (F_X12_sumOf_38 g_X12_termOf (F_X12_sumOf_6 g_X12_termOf n) a0 a1 a2 h) else Option.bind (pg_gI 12 19 h a0) fun v4 => Option.bind (pg_rcv 12 h a0 (F_X12_codeAt h a0 v4)) fun v5 => Option.bind (F_X12_sign (45 : Int32)) fun v6 => (if v5 = v6 then (F_X12_sumOf_38 g_X12_termOf (F_X12_sumOf_6 g_X12_termOf n) a0 a1 a2 h) else (some (a2, h))))
def B_X12_sumOf (g_X12_termOf : Nat → Int32 → pg_H → Option (Int64 × pg_H)) (a0 : Nat) (a1 : Int32) (h : pg_H) : Option (Int64 × pg_H) := Option.bind (pg_rcv 12 h a0 (g_X12_termOf a0 a1 h)) fun v1 => (F_X12_sumOf_6 g_X12_termOf pg_fuel a0 a1 v1.1 v1.2)
def F_X12_termOf_130 (g_X12_partOf : Nat → Int32 → pg_H → Option (Int64 × pg_H)) (k6 : Nat → Int32 → Int64 → pg_H → Option (Int64 × pg_H)) (a0 : Nat) (a1 : Int32) (s0 : Int64) (s1 : Nat) (h : pg_H) : Option (Int64 × pg_H) := Option.bind (pg_rcv 12 h s1 (F_X12_bounded s1 s0 a1 h)) fun v1 => (k6 a0 a1 v1.1 v1.2)
def F_X12_termOf_113 (g_X12_partOf : Nat → Int32 → pg_H → Option (Int64 × pg_H)) (k6 : Nat → Int32 → Int64 → pg_H → Option (Int64 × pg_H)) (a0 : Nat) (a1 : Int32) (a2 : Int64) (a4 : Int32) (a5 : Int64) (h : pg_H) : Option (Int64 × pg_H) := (if a4 = 0 then (if a5 = 0 then none else (F_X12_termOf_130 g_X12_partOf k6 a0 a1 (a2 / a5) a0 h)) else (F_X12_termOf_130 g_X12_partOf k6 a0 a1 (a2 * a5) a0 h))
def F_X12_termOf_107 (g_X12_partOf : Nat → Int32 → pg_H → Option (Int64 × pg_H)) (k6 : Nat → Int32 → Int64 → pg_H → Option (Int64 × pg_H)) (a0 : Nat) (a1 : Int32) (a2 : Int64) (a4 : Int32) (s0 : Int32) (s1 : Nat) (h : pg_H) : Option (Int64 × pg_H) := Option.bind (pg_pZ 12 21 h s1 s0) fun v1 => (F_X12_termOf_113 g_X12_partOf k6 a0 a1 a2 a4 (1 : Int64) v1)
def F_X12_termOf_102 (g_X12_partOf : Nat → Int32 → pg_H → Option (Int64 × pg_H)) (k6 : Nat → Int32 → Int64 → pg_H → Option (Int64 × pg_H)) (a0 : Nat) (a1 : Int32) (a2 : Int64) (a4 : Int32) (s0 : Nat) (h : pg_H) : Option (Int64 × pg_H) := (F_X12_termOf_107 g_X12_partOf k6 a0 a1 a2 a4 (1 : Int32) s0 h)
def F_X12_termOf_59 (g_X12_partOf : Nat → Int32 → pg_H → Option (Int64 × pg_H)) (k6 : Nat → Int32 → Int64 → pg_H → Option (Int64 × pg_H)) (a0 : Nat) (a1 : Int32) (a2 : Int64) (s0 : Int32) (h : pg_H) : Option (Int64 × pg_H) := Option.bind (pg_gI 12 19 h a0) fun v1 => Option.bind (pg_pI 12 19 h a0 (v1 + (1 : Int32))) fun v2 => Option.bind (pg_rcv 12 v2 a0 (g_X12_partOf a0 a1 v2)) fun v3 => (if s0 = 0 then (if v3.1 = (0 : Int64) then Option.bind (pg_gI 12 21 v3.2 a0) fun v4 => (if v4 = 0 then (if a1 = 0 then (F_X12_termOf_107 g_X12_partOf k6 a0 a1 a2 s0 (0 : Int32) a0 v3.2) else (F_X12_termOf_102 g_X12_partOf k6 a0 a1 a2 s0 a0 v3.2)) else (F_X12_termOf_102 g_X12_partOf k6 a0 a1 a2 s0 a0 v3.2)) else (F_X12_termOf_113 g_X12_partOf k6 a0 a1 a2 s0 v3.1 v3.2)) else (F_X12_termOf_113 g_X12_partOf k6 a0 a1 a2 s0 v3.1 v3.2))
def F_X12_termOf_38 (g_X12_partOf : Nat → Int32 → pg_H → Option (Int64 × pg_H)) (k6 : Nat → Int32 → Int64 → pg_H → Option (Int64 × pg_H)) (a0 : Nat) (a1 : Int32) (a2 : Int64) (h : pg_H) : Option (Int64 × pg_H) := Option.bind (pg_gI 12 19 h a0) fun v1 => Option.bind (pg_rcv 12 h a0 (F_X12_codeAt h a0 v1)) fun v2 => Option.bind (F_X12_sign (42 : Int32)) fun v3 => (if v2 = v3 then (F_X12_termOf_59 g_X12_partOf k6 a0 a1 a2 (1 : Int32) h) else (F_X12_termOf_59 g_X12_partOf k6 a0 a1 a2 (0 : Int32) h))
def F_X12_termOf_6 (g_X12_partOf : Nat → Int32 → pg_H → Option (Int64 × pg_H)) : Nat → Nat → Int32 → Int64 → pg_H → Option (Int64 × pg_H)
  | 0 => fun _ _ _ _ => none
  | n + 1 => fun a0 a1 a2 h => Option.bind (pg_gI 12 19 h a0) fun v1 => Option.bind (pg_rcv 12 h a0 (F_X12_codeAt h a0 v1)) fun v2 => Option.bind (F_X12_sign (42 : Int32)) fun v3 => (if v2 = v3 then (F_X12_termOf_38 g_X12_partOf (F_X12_termOf_6 g_X12_partOf n) a0 a1 a2 h) else Option.bind (pg_gI 12 19 h a0) fun v4 => Option.bind (pg_rcv 12 h a0 (F_X12_codeAt h a0 v4)) fun v5 => Option.bind (F_X12_sign (47 : Int32)) fun v6 => (if v5 = v6 then (F_X12_termOf_38 g_X12_partOf (F_X12_termOf_6 g_X12_partOf n) a0 a1 a2 h) else (some (a2, h))))
def B_X12_termOf (g_X12_partOf : Nat → Int32 → pg_H → Option (Int64 × pg_H)) (a0 : Nat) (a1 : Int32) (h : pg_H) : Option (Int64 × pg_H) := Option.bind (pg_rcv 12 h a0 (g_X12_partOf a0 a1 h)) fun v1 => (F_X12_termOf_6 g_X12_partOf pg_fuel a0 a1 v1.1 v1.2)
def B_X12_partOf (g_X12_sumOf : Nat → Int32 → pg_H → Option (Int64 × pg_H)) (a0 : Nat) (a1 : Int32) (h : pg_H) : Option (Int64 × pg_H) := Option.bind (F_X12_sign (91 : Int32)) fun v1 => Option.bind (pg_rcv 12 h a0 (F_X12_passes a0 v1 h)) fun v2 => (if v2.1 = 0 then Option.bind (pg_gI 12 19 v2.2 a0) fun v3 => Option.bind (pg_rcv 12 v2.2 a0 (F_X12_codeAt v2.2 a0 v3)) fun v4 => Option.bind (pg_gI 12 19 v2.2 a0) fun v5 => Option.bind (pg_pI 12 19 v2.2 a0 (v5 + (1 : Int32))) fun v6 => (if a1 = 0 then (some ((0 : Int64), v6)) else Option.bind (pg_gI 12 21 v6 a0) fun v7 => (if v7 = 0 then (if v4 = (50 : Int32) then Option.bind (pg_gR 12 3 v6 a0) fun v10 => Option.bind (pg_gI 12 19 v6 a0) fun v11 => Option.bind (pg_aI 21 v6 v10 (((4558 : Int32) + v11) - (1 : Int32))) fun v12 => (some ((v12).toInt64, v6)) else Option.bind (pg_gR 12 22 v6 a0) fun v8 => Option.bind (pg_aI 21 v6 v8 (v4 - (12 : Int32))) fun v9 => (some ((v9).toInt64, v6))) else (some ((0 : Int64), v6)))) else Option.bind (pg_rcv 12 v2.2 a0 (g_X12_sumOf a0 a1 v2.2)) fun v13 => Option.bind (pg_gI 12 19 v13.2 a0) fun v14 => Option.bind (pg_pI 12 19 v13.2 a0 (v14 + (1 : Int32))) fun v15 => (some (v13.1, v15)))
def F_X12_testOf_46 (g_X12_bothOf : Nat → Int32 → pg_H → Option (Int32 × pg_H)) (k6 : Nat → Int32 → Int32 → pg_H → Option (Int32 × pg_H)) (a0 : Nat) (a1 : Int32) (s0 : Int32) (h : pg_H) : Option (Int32 × pg_H) := (k6 a0 a1 s0 h)
def F_X12_testOf_41 (g_X12_bothOf : Nat → Int32 → pg_H → Option (Int32 × pg_H)) (k6 : Nat → Int32 → Int32 → pg_H → Option (Int32 × pg_H)) (a0 : Nat) (a1 : Int32) (h : pg_H) : Option (Int32 × pg_H) := (F_X12_testOf_46 g_X12_bothOf k6 a0 a1 (1 : Int32) h)
def F_X12_testOf_29 (g_X12_bothOf : Nat → Int32 → pg_H → Option (Int32 × pg_H)) (k6 : Nat → Int32 → Int32 → pg_H → Option (Int32 × pg_H)) (a0 : Nat) (a1 : Int32) (a2 : Int32) (s0 : Int32) (s1 : Nat) (h : pg_H) : Option (Int32 × pg_H) := Option.bind (pg_rcv 12 h s1 (g_X12_bothOf s1 s0 h)) fun v1 => (if a2 = 0 then (if v1.1 = 0 then (F_X12_testOf_46 g_X12_bothOf k6 a0 a1 (0 : Int32) v1.2) else (F_X12_testOf_41 g_X12_bothOf k6 a0 a1 v1.2)) else (F_X12_testOf_41 g_X12_bothOf k6 a0 a1 v1.2))
def F_X12_testOf_28 (g_X12_bothOf : Nat → Int32 → pg_H → Option (Int32 × pg_H)) (k6 : Nat → Int32 → Int32 → pg_H → Option (Int32 × pg_H)) (a0 : Nat) (a1 : Int32) (a2 : Int32) (s0 : Nat) (h : pg_H) : Option (Int32 × pg_H) := (F_X12_testOf_29 g_X12_bothOf k6 a0 a1 a2 (0 : Int32) s0 h)
def F_X12_testOf_6 (g_X12_bothOf : Nat → Int32 → pg_H → Option (Int32 × pg_H)) : Nat → Nat → Int32 → Int32 → pg_H → Option (Int32 × pg_H)
  | 0 => fun _ _ _ _ => none
  | n + 1 => fun a0 a1 a2 h => Option.bind (pg_rcv 12 h a0 (F_X12_passes a0 (9 : Int32) h)) fun v1 => (if v1.1 = 0 then (if a2 = 0 ∨ a2 = 1 then some (a2, v1.2) else none) else (if a1 = 0 then (F_X12_testOf_28 g_X12_bothOf (F_X12_testOf_6 g_X12_bothOf n) a0 a1 a2 a0 v1.2) else (if a2 = 0 then (F_X12_testOf_29 g_X12_bothOf (F_X12_testOf_6 g_X12_bothOf n) a0 a1 a2 (1 : Int32) a0 v1.2) else (F_X12_testOf_28 g_X12_bothOf (F_X12_testOf_6 g_X12_bothOf n) a0 a1 a2 a0 v1.2))))
def B_X12_testOf (g_X12_bothOf : Nat → Int32 → pg_H → Option (Int32 × pg_H)) (a0 : Nat) (a1 : Int32) (h : pg_H) : Option (Int32 × pg_H) := Option.bind (pg_rcv 12 h a0 (g_X12_bothOf a0 a1 h)) fun v1 => (F_X12_testOf_6 g_X12_bothOf pg_fuel a0 a1 v1.1 v1.2)
def F_X12_bothOf_46 (g_X12_plainOf : Nat → Int32 → pg_H → Option (Int32 × pg_H)) (k6 : Nat → Int32 → Int32 → pg_H → Option (Int32 × pg_H)) (a0 : Nat) (a1 : Int32) (s0 : Int32) (h : pg_H) : Option (Int32 × pg_H) := (k6 a0 a1 s0 h)
def F_X12_bothOf_45 (g_X12_plainOf : Nat → Int32 → pg_H → Option (Int32 × pg_H)) (k6 : Nat → Int32 → Int32 → pg_H → Option (Int32 × pg_H)) (a0 : Nat) (a1 : Int32) (h : pg_H) : Option (Int32 × pg_H) := (F_X12_bothOf_46 g_X12_plainOf k6 a0 a1 (0 : Int32) h)
def F_X12_bothOf_29 (g_X12_plainOf : Nat → Int32 → pg_H → Option (Int32 × pg_H)) (k6 : Nat → Int32 → Int32 → pg_H → Option (Int32 × pg_H)) (a0 : Nat) (a1 : Int32) (a2 : Int32) (s0 : Int32) (s1 : Nat) (h : pg_H) : Option (Int32 × pg_H) := Option.bind (pg_rcv 12 h s1 (g_X12_plainOf s1 s0 h)) fun v1 => (if a2 = 0 then (F_X12_bothOf_45 g_X12_plainOf k6 a0 a1 v1.2) else (if v1.1 = 0 then (F_X12_bothOf_45 g_X12_plainOf k6 a0 a1 v1.2) else (F_X12_bothOf_46 g_X12_plainOf k6 a0 a1 (1 : Int32) v1.2)))
def F_X12_bothOf_28 (g_X12_plainOf : Nat → Int32 → pg_H → Option (Int32 × pg_H)) (k6 : Nat → Int32 → Int32 → pg_H → Option (Int32 × pg_H)) (a0 : Nat) (a1 : Int32) (a2 : Int32) (s0 : Nat) (h : pg_H) : Option (Int32 × pg_H) := (F_X12_bothOf_29 g_X12_plainOf k6 a0 a1 a2 (0 : Int32) s0 h)
def F_X12_bothOf_6 (g_X12_plainOf : Nat → Int32 → pg_H → Option (Int32 × pg_H)) : Nat → Nat → Int32 → Int32 → pg_H → Option (Int32 × pg_H)
  | 0 => fun _ _ _ _ => none
  | n + 1 => fun a0 a1 a2 h => Option.bind (pg_rcv 12 h a0 (F_X12_passes a0 (10 : Int32) h)) fun v1 => (if v1.1 = 0 then (if a2 = 0 ∨ a2 = 1 then some (a2, v1.2) else none) else (if a1 = 0 then (F_X12_bothOf_28 g_X12_plainOf (F_X12_bothOf_6 g_X12_plainOf n) a0 a1 a2 a0 v1.2) else (if a2 = 0 then (F_X12_bothOf_28 g_X12_plainOf (F_X12_bothOf_6 g_X12_plainOf n) a0 a1 a2 a0 v1.2) else (F_X12_bothOf_29 g_X12_plainOf (F_X12_bothOf_6 g_X12_plainOf n) a0 a1 a2 (1 : Int32) a0 v1.2))))
def B_X12_bothOf (g_X12_plainOf : Nat → Int32 → pg_H → Option (Int32 × pg_H)) (a0 : Nat) (a1 : Int32) (h : pg_H) : Option (Int32 × pg_H) := Option.bind (pg_rcv 12 h a0 (g_X12_plainOf a0 a1 h)) fun v1 => (F_X12_bothOf_6 g_X12_plainOf pg_fuel a0 a1 v1.1 v1.2)
def F_X12_plainOf_20 (g_X12_positiveOf : Nat → Int32 → pg_H → Option (Int32 × pg_H)) (k2 : Nat → Int32 → Int32 → pg_H → Option (Int32 × pg_H)) (a0 : Nat) (a1 : Int32) (s0 : Int32) (h : pg_H) : Option (Int32 × pg_H) := (k2 a0 a1 s0 h)
def F_X12_plainOf_2 (g_X12_positiveOf : Nat → Int32 → pg_H → Option (Int32 × pg_H)) : Nat → Nat → Int32 → Int32 → pg_H → Option (Int32 × pg_H)
  | 0 => fun _ _ _ _ => none
  | n + 1 => fun a0 a1 a2 h => Option.bind (pg_rcv 12 h a0 (F_X12_passes a0 (11 : Int32) h)) fun v1 => (if v1.1 = 0 then Option.bind (pg_rcv 12 v1.2 a0 (g_X12_positiveOf a0 a1 v1.2)) fun v2 => (if v2.1 = a2 then (some ((0 : Int32), v2.2)) else (some ((1 : Int32), v2.2))) else (if a2 = 0 then (F_X12_plainOf_20 g_X12_positiveOf (F_X12_plainOf_2 g_X12_positiveOf n) a0 a1 (1 : Int32) v1.2) else (F_X12_plainOf_20 g_X12_positiveOf (F_X12_plainOf_2 g_X12_positiveOf n) a0 a1 (0 : Int32) v1.2)))
def B_X12_plainOf (g_X12_positiveOf : Nat → Int32 → pg_H → Option (Int32 × pg_H)) (a0 : Nat) (a1 : Int32) (h : pg_H) : Option (Int32 × pg_H) := (F_X12_plainOf_2 g_X12_positiveOf pg_fuel a0 a1 (0 : Int32) h)
def B_X12_positiveOf (g_X12_sumOf : Nat → Int32 → pg_H → Option (Int64 × pg_H)) (g_X12_testOf : Nat → Int32 → pg_H → Option (Int32 × pg_H)) (a0 : Nat) (a1 : Int32) (h : pg_H) : Option (Int32 × pg_H) := Option.bind (F_X12_sign (40 : Int32)) fun v1 => Option.bind (pg_rcv 12 h a0 (F_X12_passes a0 v1 h)) fun v2 => (if v2.1 = 0 then Option.bind (pg_rcv 12 v2.2 a0 (g_X12_sumOf a0 a1 v2.2)) fun v3 => Option.bind (pg_gI 12 19 v3.2 a0) fun v4 => Option.bind (pg_rcv 12 v3.2 a0 (F_X12_codeAt v3.2 a0 v4)) fun v5 => Option.bind (pg_gI 12 19 v3.2 a0) fun v6 => Option.bind (pg_pI 12 19 v3.2 a0 (v6 + (1 : Int32))) fun v7 => Option.bind (pg_rcv 12 v7 a0 (g_X12_sumOf a0 a1 v7)) fun v8 => (if a1 = 0 then (some ((0 : Int32), v8.2)) else Option.bind (pg_gI 12 21 v8.2 a0) fun v9 => (if v9 = 0 then Option.bind (F_X12_sign (60 : Int32)) fun v10 => (if v5 = v10 then (if v3.1 < v8.1 then (some ((1 : Int32), v8.2)) else (some ((0 : Int32), v8.2))) else Option.bind (F_X12_sign (62 : Int32)) fun v11 => (if v5 = v11 then (if v8.1 < v3.1 then (some ((1 : Int32), v8.2)) else (some ((0 : Int32), v8.2))) else (if v3.1 = v8.1 then (some ((1 : Int32), v8.2)) else (some ((0 : Int32), v8.2))))) else (some ((0 : Int32), v8.2)))) else Option.bind (pg_rcv 12 v2.2 a0 (g_X12_testOf a0 a1 v2.2)) fun v12 => Option.bind (pg_gI 12 19 v12.2 a0) fun v13 => Option.bind (pg_pI 12 19 v12.2 a0 (v13 + (1 : Int32))) fun v14 => (if v12.1 = 0 ∨ v12.1 = 1 then some (v12.1, v14) else none))
def FG_X12_sumOf : Nat → (Nat → Int32 → pg_H → Option (Int64 × pg_H)) × (Nat → Int32 → pg_H → Option (Int64 × pg_H)) × (Nat → Int32 → pg_H → Option (Int64 × pg_H)) × (Nat → Int32 → pg_H → Option (Int32 × pg_H)) × (Nat → Int32 → pg_H → Option (Int32 × pg_H)) × (Nat → Int32 → pg_H → Option (Int32 × pg_H)) × (Nat → Int32 → pg_H → Option (Int32 × pg_H))
  | 0 => (fun _ _ _ => none, fun _ _ _ => none, fun _ _ _ => none, fun _ _ _ => none, fun _ _ _ => none, fun _ _ _ => none, fun _ _ _ => none)
  | n + 1 => (B_X12_sumOf ((FG_X12_sumOf n).2.1), B_X12_termOf ((FG_X12_sumOf n).2.2.1), B_X12_partOf ((FG_X12_sumOf n).1), B_X12_testOf ((FG_X12_sumOf n).2.2.2.2.1), B_X12_bothOf ((FG_X12_sumOf n).2.2.2.2.2.1), B_X12_plainOf ((FG_X12_sumOf n).2.2.2.2.2.2), B_X12_positiveOf ((FG_X12_sumOf n).1) ((FG_X12_sumOf n).2.2.2.1))
def F_X12_sumOf (a0 : Nat) (a1 : Int32) (h : pg_H) : Option (Int64 × pg_H) := (FG_X12_sumOf 1300).1 a0 a1 h
def F_X12_termOf (a0 : Nat) (a1 : Int32) (h : pg_H) : Option (Int64 × pg_H) := (FG_X12_sumOf 1300).2.1 a0 a1 h
def F_X12_partOf (a0 : Nat) (a1 : Int32) (h : pg_H) : Option (Int64 × pg_H) := (FG_X12_sumOf 1300).2.2.1 a0 a1 h
def F_X12_testOf (a0 : Nat) (a1 : Int32) (h : pg_H) : Option (Int32 × pg_H) := (FG_X12_sumOf 1300).2.2.2.1 a0 a1 h
def F_X12_bothOf (a0 : Nat) (a1 : Int32) (h : pg_H) : Option (Int32 × pg_H) := (FG_X12_sumOf 1300).2.2.2.2.1 a0 a1 h
def F_X12_plainOf (a0 : Nat) (a1 : Int32) (h : pg_H) : Option (Int32 × pg_H) := (FG_X12_sumOf 1300).2.2.2.2.2.1 a0 a1 h
def F_X12_positiveOf (a0 : Nat) (a1 : Int32) (h : pg_H) : Option (Int32 × pg_H) := (FG_X12_sumOf 1300).2.2.2.2.2.2 a0 a1 h
theorem e_X12_sumOf_95 (l : Launch) (D : pg_D) (dn dm : Nat) (hdn : 2 ≤ dn) (hdm : 60 ≤ dm) (g_X12_termOf : Nat → Int32 → pg_H → Option (Int64 × pg_H)) (hg_X12_termOf : ∀ (a0 : Nat) (a1 : Int32) (h : pg_H) (x : (Int64 × pg_H)), g_X12_termOf a0 a1 h = some x → pg_Ct l D yX12_termOf cX12_termOf 7 (some FieldType.long) dn dm [pR a0, pI a1] h (pg_wL x)) (k6 : Nat → Int32 → Int64 → pg_H → Option (Int64 × pg_H)) (hk6 : ∀ (a0 : Nat) (a1 : Int32) (a2 : Int64) (h : pg_H), pg_EvF l D RX12 cX12_sumOf 7 (some FieldType.long) "sumOf" (dn + 1) (dm + 26) pg_wL (k6 a0 a1 a2 h) 6 [(0, pR a0), (1, pI a1), (2, pL a2)] [] h) (a0 : Nat) (a1 : Int32) (s0 : Int64) (s1 : Nat) (h : pg_H) : pg_EvF l D RX12 cX12_sumOf 7 (some FieldType.long) "sumOf" (dn + 1) (dm + 26) pg_wL (F_X12_sumOf_95 g_X12_termOf k6 a0 a1 s0 s1 h) 95 [(0, pR a0), (1, pI a1)] [pL s0, pR s1] h := by
  unfold F_X12_sumOf_95
  refine pg_iload_n (i := 1) dX12_sumOf_95 rfl 1 rfl ?_
  refine pg_callV_wL (As := [pL s0, pI a1]) (rs := []) dX12_sumOf_96 lk_RX12_263 vy_X12_bounded nd_X12_bounded (c_X12_bounded l D s1 s0 a1 h) rfl rfl (Nat.le_of_ble_eq_true rfl) (by omega) (by omega) (fun v1 => ?_)
  refine pg_lstore_n (i := 2) (lv' := [(2, pL v1.1), (0, pR a0), (1, pI a1)]) dX12_sumOf_99 rfl (by decide) rfl ?_
  refine pg_goto (tgt := 6) dX12_sumOf_100 rfl ?_
  exact pg_to (hk6 a0 a1 v1.1 v1.2) [1, 2, 0] rfl
theorem e_X12_sumOf_59 (l : Launch) (D : pg_D) (dn dm : Nat) (hdn : 2 ≤ dn) (hdm : 60 ≤ dm) (g_X12_termOf : Nat → Int32 → pg_H → Option (Int64 × pg_H)) (hg_X12_termOf : ∀ (a0 : Nat) (a1 : Int32) (h : pg_H) (x : (Int64 × pg_H)), g_X12_termOf a0 a1 h = some x → pg_Ct l D yX12_termOf cX12_termOf 7 (some FieldType.long) dn dm [pR a0, pI a1] h (pg_wL x)) (k6 : Nat → Int32 → Int64 → pg_H → Option (Int64 × pg_H)) (hk6 : ∀ (a0 : Nat) (a1 : Int32) (a2 : Int64) (h : pg_H), pg_EvF l D RX12 cX12_sumOf 7 (some FieldType.long) "sumOf" (dn + 1) (dm + 26) pg_wL (k6 a0 a1 a2 h) 6 [(0, pR a0), (1, pI a1), (2, pL a2)] [] h) (a0 : Nat) (a1 : Int32) (a2 : Int64) (s0 : Int32) (h : pg_H) : pg_EvF l D RX12 cX12_sumOf 7 (some FieldType.long) "sumOf" (dn + 1) (dm + 26) pg_wL (F_X12_sumOf_59 g_X12_termOf k6 a0 a1 a2 s0 h) 59 [(0, pR a0), (1, pI a1), (2, pL a2)] [pI s0] h := by
  unfold F_X12_sumOf_59
  refine pg_istore (lv' := [(4, pI s0), (0, pR a0), (1, pI a1), (2, pL a2)]) dX12_sumOf_59 (by decide) rfl ?_
  refine pg_aload_n (i := 0) dX12_sumOf_61 rfl 1 rfl ?_
  refine pg_dup dX12_sumOf_62 rfl ?_
  refine pg_getI dX12_sumOf_63 fl_RX12_245 rfl (fun v1 => ?_)
  refine pg_iconst dX12_sumOf_66 ci_1 ?_
  refine pg_iadd dX12_sumOf_67 ?_
  refine pg_putI dX12_sumOf_68 fl_RX12_245 (fun z => by cases z) (fun v2 => ?_)
  refine pg_aload_n (i := 0) dX12_sumOf_71 rfl 1 rfl ?_
  refine pg_iload_n (i := 1) dX12_sumOf_72 rfl 2 rfl ?_
  refine pg_callV_wL (As := [pI a1]) (rs := []) dX12_sumOf_73 lk_RX12_259 vy_X12_termOf nd_X12_termOf (hg_X12_termOf a0 a1 v2) rfl rfl (Nat.le_of_ble_eq_true rfl) (Nat.le_refl _) (by omega) (fun v3 => ?_)
  refine pg_lstore (lv' := [(5, pL v3.1), (4, pI s0), (0, pR a0), (1, pI a1), (2, pL a2)]) dX12_sumOf_76 (by decide) rfl ?_
  refine pg_aload_n (i := 0) dX12_sumOf_78 rfl 2 rfl ?_
  refine pg_iload dX12_sumOf_79 1 rfl ?_
  refine pg_if_eq (tgt := 91) dX12_sumOf_81 rfl ?_ ?_
  · refine pg_lload_n (i := 2) dX12_sumOf_91 rfl 4 rfl ?_
    refine pg_lload dX12_sumOf_92 0 rfl ?_
    refine pg_lsub dX12_sumOf_94 ?_
    exact pg_to (e_X12_sumOf_95 l D dn dm hdn hdm g_X12_termOf hg_X12_termOf k6 hk6 a0 a1 (a2 - v3.1) a0 v3.2) [2, 3] rfl
  · refine pg_lload_n (i := 2) dX12_sumOf_84 rfl 4 rfl ?_
    refine pg_lload dX12_sumOf_85 0 rfl ?_
    refine pg_ladd dX12_sumOf_87 ?_
    refine pg_goto (tgt := 95) dX12_sumOf_88 rfl ?_
    exact pg_to (e_X12_sumOf_95 l D dn dm hdn hdm g_X12_termOf hg_X12_termOf k6 hk6 a0 a1 (a2 + v3.1) a0 v3.2) [2, 3] rfl
theorem e_X12_sumOf_38 (l : Launch) (D : pg_D) (dn dm : Nat) (hdn : 2 ≤ dn) (hdm : 60 ≤ dm) (g_X12_termOf : Nat → Int32 → pg_H → Option (Int64 × pg_H)) (hg_X12_termOf : ∀ (a0 : Nat) (a1 : Int32) (h : pg_H) (x : (Int64 × pg_H)), g_X12_termOf a0 a1 h = some x → pg_Ct l D yX12_termOf cX12_termOf 7 (some FieldType.long) dn dm [pR a0, pI a1] h (pg_wL x)) (k6 : Nat → Int32 → Int64 → pg_H → Option (Int64 × pg_H)) (hk6 : ∀ (a0 : Nat) (a1 : Int32) (a2 : Int64) (h : pg_H), pg_EvF l D RX12 cX12_sumOf 7 (some FieldType.long) "sumOf" (dn + 1) (dm + 26) pg_wL (k6 a0 a1 a2 h) 6 [(0, pR a0), (1, pI a1), (2, pL a2)] [] h) (a0 : Nat) (a1 : Int32) (a2 : Int64) (h : pg_H) : pg_EvF l D RX12 cX12_sumOf 7 (some FieldType.long) "sumOf" (dn + 1) (dm + 26) pg_wL (F_X12_sumOf_38 g_X12_termOf k6 a0 a1 a2 h) 38 [(0, pR a0), (1, pI a1), (2, pL a2)] [] h := by
  unfold F_X12_sumOf_38
  refine pg_aload_n (i := 0) dX12_sumOf_38 rfl 0 rfl ?_
  refine pg_aload_n (i := 0) dX12_sumOf_39 rfl 0 rfl ?_
  refine pg_getI dX12_sumOf_40 fl_RX12_245 rfl (fun v1 => ?_)
  refine pg_callV_oI (As := [pI v1]) (rs := []) dX12_sumOf_43 lk_RX12_248 vy_X12_codeAt nd_X12_codeAt (c_X12_codeAt l D h a0 v1) rfl rfl (Nat.le_of_ble_eq_true rfl) (by omega) (by omega) (fun v2 => ?_)
  refine pg_bipush dX12_sumOf_46 cb_43 ?_
  refine pg_callS_oI (As := [pI (43 : Int32)]) (rs := [pI v2]) dX12_sumOf_48 lk_RX12_217 vy_X12_sign nd_X12_sign (c_X12_sign l D (43 : Int32) h) rfl rfl (Nat.le_of_ble_eq_true rfl) (by omega) (by omega) (fun v3 => ?_)
  refine pg_icmp_ne (tgt := 58) dX12_sumOf_51 rfl ?_ ?_
  · refine pg_iconst dX12_sumOf_58 ci_0 ?_
    exact pg_to (e_X12_sumOf_59 l D dn dm hdn hdm g_X12_termOf hg_X12_termOf k6 hk6 a0 a1 a2 (0 : Int32) h) [0, 1, 2] rfl
  · refine pg_iconst dX12_sumOf_54 ci_1 ?_
    refine pg_goto (tgt := 59) dX12_sumOf_55 rfl ?_
    exact pg_to (e_X12_sumOf_59 l D dn dm hdn hdm g_X12_termOf hg_X12_termOf k6 hk6 a0 a1 a2 (1 : Int32) h) [0, 1, 2] rfl
theorem e_X12_sumOf_6 (l : Launch) (D : pg_D) (dn dm : Nat) (hdn : 2 ≤ dn) (hdm : 60 ≤ dm) (g_X12_termOf : Nat → Int32 → pg_H → Option (Int64 × pg_H)) (hg_X12_termOf : ∀ (a0 : Nat) (a1 : Int32) (h : pg_H) (x : (Int64 × pg_H)), g_X12_termOf a0 a1 h = some x → pg_Ct l D yX12_termOf cX12_termOf 7 (some FieldType.long) dn dm [pR a0, pI a1] h (pg_wL x))  : ∀ (n : Nat) (a0 : Nat) (a1 : Int32) (a2 : Int64) (h : pg_H), pg_EvF l D RX12 cX12_sumOf 7 (some FieldType.long) "sumOf" (dn + 1) (dm + 26) pg_wL (F_X12_sumOf_6 g_X12_termOf n a0 a1 a2 h) 6 [(0, pR a0), (1, pI a1), (2, pL a2)] [] h := by
  intro n
  induction n with
  | zero => intro a0 a1 a2 h; exact pg_none
  | succ n ih =>
    intro a0 a1 a2 h
    rw [F_X12_sumOf_6]
    refine pg_aload_n (i := 0) dX12_sumOf_6 rfl 0 rfl ?_
    refine pg_aload_n (i := 0) dX12_sumOf_7 rfl 0 rfl ?_
    refine pg_getI dX12_sumOf_8 fl_RX12_245 rfl (fun v1 => ?_)
    refine pg_callV_oI (As := [pI v1]) (rs := []) dX12_sumOf_11 lk_RX12_248 vy_X12_codeAt nd_X12_codeAt (c_X12_codeAt l D h a0 v1) rfl rfl (Nat.le_of_ble_eq_true rfl) (by omega) (by omega) (fun v2 => ?_)
    refine pg_bipush dX12_sumOf_14 cb_43 ?_
    refine pg_callS_oI (As := [pI (43 : Int32)]) (rs := [pI v2]) dX12_sumOf_16 lk_RX12_217 vy_X12_sign nd_X12_sign (c_X12_sign l D (43 : Int32) h) rfl rfl (Nat.le_of_ble_eq_true rfl) (by omega) (by omega) (fun v3 => ?_)
    refine pg_icmp_eq (tgt := 38) dX12_sumOf_19 rfl ?_ ?_
    · exact pg_to (e_X12_sumOf_38 l D dn dm hdn hdm g_X12_termOf hg_X12_termOf (F_X12_sumOf_6 g_X12_termOf n) ih a0 a1 a2 h) [0, 1, 2] rfl
    · refine pg_aload_n (i := 0) dX12_sumOf_22 rfl 0 rfl ?_
      refine pg_aload_n (i := 0) dX12_sumOf_23 rfl 0 rfl ?_
      refine pg_getI dX12_sumOf_24 fl_RX12_245 rfl (fun v4 => ?_)
      refine pg_callV_oI (As := [pI v4]) (rs := []) dX12_sumOf_27 lk_RX12_248 vy_X12_codeAt nd_X12_codeAt (c_X12_codeAt l D h a0 v4) rfl rfl (Nat.le_of_ble_eq_true rfl) (by omega) (by omega) (fun v5 => ?_)
      refine pg_bipush dX12_sumOf_30 cb_45 ?_
      refine pg_callS_oI (As := [pI (45 : Int32)]) (rs := [pI v5]) dX12_sumOf_32 lk_RX12_217 vy_X12_sign nd_X12_sign (c_X12_sign l D (45 : Int32) h) rfl rfl (Nat.le_of_ble_eq_true rfl) (by omega) (by omega) (fun v6 => ?_)
      refine pg_icmp_ne (tgt := 103) dX12_sumOf_35 rfl ?_ ?_
      · refine pg_lload_n (i := 2) dX12_sumOf_103 rfl 2 rfl ?_
        exact pg_lret dX12_sumOf_104 rfl rfl
      · exact pg_to (e_X12_sumOf_38 l D dn dm hdn hdm g_X12_termOf hg_X12_termOf (F_X12_sumOf_6 g_X12_termOf n) ih a0 a1 a2 h) [0, 1, 2] rfl
theorem e_X12_sumOf (l : Launch) (D : pg_D) (dn dm : Nat) (hdn : 2 ≤ dn) (hdm : 60 ≤ dm) (g_X12_termOf : Nat → Int32 → pg_H → Option (Int64 × pg_H)) (hg_X12_termOf : ∀ (a0 : Nat) (a1 : Int32) (h : pg_H) (x : (Int64 × pg_H)), g_X12_termOf a0 a1 h = some x → pg_Ct l D yX12_termOf cX12_termOf 7 (some FieldType.long) dn dm [pR a0, pI a1] h (pg_wL x)) (a0 : Nat) (a1 : Int32) (h : pg_H) : pg_EvF l D RX12 cX12_sumOf 7 (some FieldType.long) "sumOf" (dn + 1) (dm + 26) pg_wL (B_X12_sumOf g_X12_termOf a0 a1 h) 0 [(0, pR a0), (1, pI a1)] [] h := by
  unfold B_X12_sumOf
  refine pg_aload_n (i := 0) dX12_sumOf_0 rfl 0 rfl ?_
  refine pg_iload_n (i := 1) dX12_sumOf_1 rfl 1 rfl ?_
  refine pg_callV_wL (As := [pI a1]) (rs := []) dX12_sumOf_2 lk_RX12_259 vy_X12_termOf nd_X12_termOf (hg_X12_termOf a0 a1 h) rfl rfl (Nat.le_of_ble_eq_true rfl) (Nat.le_refl _) (by omega) (fun v1 => ?_)
  refine pg_lstore_n (i := 2) (lv' := [(2, pL v1.1), (0, pR a0), (1, pI a1)]) dX12_sumOf_5 rfl (by decide) rfl ?_
  exact pg_to (e_X12_sumOf_6 l D dn dm hdn hdm g_X12_termOf hg_X12_termOf pg_fuel a0 a1 v1.1 v1.2) [1, 2, 0] rfl
theorem e_X12_termOf_130 (l : Launch) (D : pg_D) (dn dm : Nat) (hdn : 2 ≤ dn) (hdm : 60 ≤ dm) (g_X12_partOf : Nat → Int32 → pg_H → Option (Int64 × pg_H)) (hg_X12_partOf : ∀ (a0 : Nat) (a1 : Int32) (h : pg_H) (x : (Int64 × pg_H)), g_X12_partOf a0 a1 h = some x → pg_Ct l D yX12_partOf cX12_partOf 4 (some FieldType.long) dn dm [pR a0, pI a1] h (pg_wL x)) (k6 : Nat → Int32 → Int64 → pg_H → Option (Int64 × pg_H)) (hk6 : ∀ (a0 : Nat) (a1 : Int32) (a2 : Int64) (h : pg_H), pg_EvF l D RX12 cX12_termOf 7 (some FieldType.long) "termOf" (dn + 1) (dm + 26) pg_wL (k6 a0 a1 a2 h) 6 [(0, pR a0), (1, pI a1), (2, pL a2)] [] h) (a0 : Nat) (a1 : Int32) (s0 : Int64) (s1 : Nat) (h : pg_H) : pg_EvF l D RX12 cX12_termOf 7 (some FieldType.long) "termOf" (dn + 1) (dm + 26) pg_wL (F_X12_termOf_130 g_X12_partOf k6 a0 a1 s0 s1 h) 130 [(0, pR a0), (1, pI a1)] [pL s0, pR s1] h := by
  unfold F_X12_termOf_130
  refine pg_iload_n (i := 1) dX12_termOf_130 rfl 1 rfl ?_
  refine pg_callV_wL (As := [pL s0, pI a1]) (rs := []) dX12_termOf_131 lk_RX12_263 vy_X12_bounded nd_X12_bounded (c_X12_bounded l D s1 s0 a1 h) rfl rfl (Nat.le_of_ble_eq_true rfl) (by omega) (by omega) (fun v1 => ?_)
  refine pg_lstore_n (i := 2) (lv' := [(2, pL v1.1), (0, pR a0), (1, pI a1)]) dX12_termOf_134 rfl (by decide) rfl ?_
  refine pg_goto (tgt := 6) dX12_termOf_135 rfl ?_
  exact pg_to (hk6 a0 a1 v1.1 v1.2) [1, 2, 0] rfl
theorem e_X12_termOf_113 (l : Launch) (D : pg_D) (dn dm : Nat) (hdn : 2 ≤ dn) (hdm : 60 ≤ dm) (g_X12_partOf : Nat → Int32 → pg_H → Option (Int64 × pg_H)) (hg_X12_partOf : ∀ (a0 : Nat) (a1 : Int32) (h : pg_H) (x : (Int64 × pg_H)), g_X12_partOf a0 a1 h = some x → pg_Ct l D yX12_partOf cX12_partOf 4 (some FieldType.long) dn dm [pR a0, pI a1] h (pg_wL x)) (k6 : Nat → Int32 → Int64 → pg_H → Option (Int64 × pg_H)) (hk6 : ∀ (a0 : Nat) (a1 : Int32) (a2 : Int64) (h : pg_H), pg_EvF l D RX12 cX12_termOf 7 (some FieldType.long) "termOf" (dn + 1) (dm + 26) pg_wL (k6 a0 a1 a2 h) 6 [(0, pR a0), (1, pI a1), (2, pL a2)] [] h) (a0 : Nat) (a1 : Int32) (a2 : Int64) (a4 : Int32) (a5 : Int64) (h : pg_H) : pg_EvF l D RX12 cX12_termOf 7 (some FieldType.long) "termOf" (dn + 1) (dm + 26) pg_wL (F_X12_termOf_113 g_X12_partOf k6 a0 a1 a2 a4 a5 h) 113 [(0, pR a0), (1, pI a1), (2, pL a2), (4, pI a4), (5, pL a5)] [] h := by
  unfold F_X12_termOf_113
  refine pg_aload_n (i := 0) dX12_termOf_113 rfl 0 rfl ?_
  refine pg_iload dX12_termOf_114 3 rfl ?_
  refine pg_if_eq (tgt := 126) dX12_termOf_116 rfl ?_ ?_
  · refine pg_lload_n (i := 2) dX12_termOf_126 rfl 2 rfl ?_
    refine pg_lload dX12_termOf_127 4 rfl ?_
    refine pg_ldiv dX12_termOf_129 ?_
    exact pg_to (e_X12_termOf_130 l D dn dm hdn hdm g_X12_partOf hg_X12_partOf k6 hk6 a0 a1 (a2 / a5) a0 h) [0, 1] rfl
  · refine pg_lload_n (i := 2) dX12_termOf_119 rfl 2 rfl ?_
    refine pg_lload dX12_termOf_120 4 rfl ?_
    refine pg_lmul dX12_termOf_122 ?_
    refine pg_goto (tgt := 130) dX12_termOf_123 rfl ?_
    exact pg_to (e_X12_termOf_130 l D dn dm hdn hdm g_X12_partOf hg_X12_partOf k6 hk6 a0 a1 (a2 * a5) a0 h) [0, 1] rfl
theorem e_X12_termOf_107 (l : Launch) (D : pg_D) (dn dm : Nat) (hdn : 2 ≤ dn) (hdm : 60 ≤ dm) (g_X12_partOf : Nat → Int32 → pg_H → Option (Int64 × pg_H)) (hg_X12_partOf : ∀ (a0 : Nat) (a1 : Int32) (h : pg_H) (x : (Int64 × pg_H)), g_X12_partOf a0 a1 h = some x → pg_Ct l D yX12_partOf cX12_partOf 4 (some FieldType.long) dn dm [pR a0, pI a1] h (pg_wL x)) (k6 : Nat → Int32 → Int64 → pg_H → Option (Int64 × pg_H)) (hk6 : ∀ (a0 : Nat) (a1 : Int32) (a2 : Int64) (h : pg_H), pg_EvF l D RX12 cX12_termOf 7 (some FieldType.long) "termOf" (dn + 1) (dm + 26) pg_wL (k6 a0 a1 a2 h) 6 [(0, pR a0), (1, pI a1), (2, pL a2)] [] h) (a0 : Nat) (a1 : Int32) (a2 : Int64) (a4 : Int32) (s0 : Int32) (s1 : Nat) (h : pg_H) : pg_EvF l D RX12 cX12_termOf 7 (some FieldType.long) "termOf" (dn + 1) (dm + 26) pg_wL (F_X12_termOf_107 g_X12_partOf k6 a0 a1 a2 a4 s0 s1 h) 107 [(0, pR a0), (1, pI a1), (2, pL a2), (4, pI a4)] [pI s0, pR s1] h := by
  unfold F_X12_termOf_107
  refine pg_putZ dX12_termOf_107 fl_RX12_255 (fun z => by cases z) (fun v1 => ?_)
  refine pg_lconst dX12_termOf_110 cl_1 ?_
  refine pg_lstore (lv' := [(5, pL (1 : Int64)), (0, pR a0), (1, pI a1), (2, pL a2), (4, pI a4)]) dX12_termOf_111 (by decide) rfl ?_
  exact pg_to (e_X12_termOf_113 l D dn dm hdn hdm g_X12_partOf hg_X12_partOf k6 hk6 a0 a1 a2 a4 (1 : Int64) v1) [1, 2, 3, 4, 0] rfl
theorem e_X12_termOf_102 (l : Launch) (D : pg_D) (dn dm : Nat) (hdn : 2 ≤ dn) (hdm : 60 ≤ dm) (g_X12_partOf : Nat → Int32 → pg_H → Option (Int64 × pg_H)) (hg_X12_partOf : ∀ (a0 : Nat) (a1 : Int32) (h : pg_H) (x : (Int64 × pg_H)), g_X12_partOf a0 a1 h = some x → pg_Ct l D yX12_partOf cX12_partOf 4 (some FieldType.long) dn dm [pR a0, pI a1] h (pg_wL x)) (k6 : Nat → Int32 → Int64 → pg_H → Option (Int64 × pg_H)) (hk6 : ∀ (a0 : Nat) (a1 : Int32) (a2 : Int64) (h : pg_H), pg_EvF l D RX12 cX12_termOf 7 (some FieldType.long) "termOf" (dn + 1) (dm + 26) pg_wL (k6 a0 a1 a2 h) 6 [(0, pR a0), (1, pI a1), (2, pL a2)] [] h) (a0 : Nat) (a1 : Int32) (a2 : Int64) (a4 : Int32) (s0 : Nat) (h : pg_H) : pg_EvF l D RX12 cX12_termOf 7 (some FieldType.long) "termOf" (dn + 1) (dm + 26) pg_wL (F_X12_termOf_102 g_X12_partOf k6 a0 a1 a2 a4 s0 h) 102 [(0, pR a0), (1, pI a1), (2, pL a2), (4, pI a4)] [pR s0] h := by
  unfold F_X12_termOf_102
  refine pg_iconst dX12_termOf_102 ci_1 ?_
  refine pg_goto (tgt := 107) dX12_termOf_103 rfl ?_
  exact pg_to (e_X12_termOf_107 l D dn dm hdn hdm g_X12_partOf hg_X12_partOf k6 hk6 a0 a1 a2 a4 (1 : Int32) s0 h) [0, 1, 2, 3] rfl
theorem e_X12_termOf_59 (l : Launch) (D : pg_D) (dn dm : Nat) (hdn : 2 ≤ dn) (hdm : 60 ≤ dm) (g_X12_partOf : Nat → Int32 → pg_H → Option (Int64 × pg_H)) (hg_X12_partOf : ∀ (a0 : Nat) (a1 : Int32) (h : pg_H) (x : (Int64 × pg_H)), g_X12_partOf a0 a1 h = some x → pg_Ct l D yX12_partOf cX12_partOf 4 (some FieldType.long) dn dm [pR a0, pI a1] h (pg_wL x)) (k6 : Nat → Int32 → Int64 → pg_H → Option (Int64 × pg_H)) (hk6 : ∀ (a0 : Nat) (a1 : Int32) (a2 : Int64) (h : pg_H), pg_EvF l D RX12 cX12_termOf 7 (some FieldType.long) "termOf" (dn + 1) (dm + 26) pg_wL (k6 a0 a1 a2 h) 6 [(0, pR a0), (1, pI a1), (2, pL a2)] [] h) (a0 : Nat) (a1 : Int32) (a2 : Int64) (s0 : Int32) (h : pg_H) : pg_EvF l D RX12 cX12_termOf 7 (some FieldType.long) "termOf" (dn + 1) (dm + 26) pg_wL (F_X12_termOf_59 g_X12_partOf k6 a0 a1 a2 s0 h) 59 [(0, pR a0), (1, pI a1), (2, pL a2)] [pI s0] h := by
  unfold F_X12_termOf_59
  refine pg_istore (lv' := [(4, pI s0), (0, pR a0), (1, pI a1), (2, pL a2)]) dX12_termOf_59 (by decide) rfl ?_
  refine pg_aload_n (i := 0) dX12_termOf_61 rfl 1 rfl ?_
  refine pg_dup dX12_termOf_62 rfl ?_
  refine pg_getI dX12_termOf_63 fl_RX12_245 rfl (fun v1 => ?_)
  refine pg_iconst dX12_termOf_66 ci_1 ?_
  refine pg_iadd dX12_termOf_67 ?_
  refine pg_putI dX12_termOf_68 fl_RX12_245 (fun z => by cases z) (fun v2 => ?_)
  refine pg_aload_n (i := 0) dX12_termOf_71 rfl 1 rfl ?_
  refine pg_iload_n (i := 1) dX12_termOf_72 rfl 2 rfl ?_
  refine pg_callV_wL (As := [pI a1]) (rs := []) dX12_termOf_73 lk_RX12_267 vy_X12_partOf nd_X12_partOf (hg_X12_partOf a0 a1 v2) rfl rfl (Nat.le_of_ble_eq_true rfl) (Nat.le_refl _) (by omega) (fun v3 => ?_)
  refine pg_lstore (lv' := [(5, pL v3.1), (4, pI s0), (0, pR a0), (1, pI a1), (2, pL a2)]) dX12_termOf_76 (by decide) rfl ?_
  refine pg_iload dX12_termOf_78 1 rfl ?_
  refine pg_if_ne (tgt := 113) dX12_termOf_80 rfl ?_ ?_
  · exact pg_to (e_X12_termOf_113 l D dn dm hdn hdm g_X12_partOf hg_X12_partOf k6 hk6 a0 a1 a2 s0 v3.1 v3.2) [2, 3, 4, 1, 0] rfl
  · refine pg_lload dX12_termOf_83 0 rfl ?_
    refine pg_lconst dX12_termOf_85 cl_0 ?_
    refine pg_lcmp_ne (tgt := 113) dX12_termOf_86 dX12_termOf_87 rfl ?_ ?_
    · exact pg_to (e_X12_termOf_113 l D dn dm hdn hdm g_X12_partOf hg_X12_partOf k6 hk6 a0 a1 a2 s0 v3.1 v3.2) [2, 3, 4, 1, 0] rfl
    · refine pg_aload_n (i := 0) dX12_termOf_90 rfl 2 rfl ?_
      refine pg_aload_n (i := 0) dX12_termOf_91 rfl 2 rfl ?_
      refine pg_getI dX12_termOf_92 fl_RX12_255 rfl (fun v4 => ?_)
      refine pg_if_ne (tgt := 102) dX12_termOf_95 rfl ?_ ?_
      · exact pg_to (e_X12_termOf_102 l D dn dm hdn hdm g_X12_partOf hg_X12_partOf k6 hk6 a0 a1 a2 s0 a0 v3.2) [2, 3, 4, 1] rfl
      · refine pg_iload_n (i := 1) dX12_termOf_98 rfl 3 rfl ?_
        refine pg_if_eq (tgt := 106) dX12_termOf_99 rfl ?_ ?_
        · refine pg_iconst dX12_termOf_106 ci_0 ?_
          exact pg_to (e_X12_termOf_107 l D dn dm hdn hdm g_X12_partOf hg_X12_partOf k6 hk6 a0 a1 a2 s0 (0 : Int32) a0 v3.2) [2, 3, 4, 1] rfl
        · exact pg_to (e_X12_termOf_102 l D dn dm hdn hdm g_X12_partOf hg_X12_partOf k6 hk6 a0 a1 a2 s0 a0 v3.2) [2, 3, 4, 1] rfl
theorem e_X12_termOf_38 (l : Launch) (D : pg_D) (dn dm : Nat) (hdn : 2 ≤ dn) (hdm : 60 ≤ dm) (g_X12_partOf : Nat → Int32 → pg_H → Option (Int64 × pg_H)) (hg_X12_partOf : ∀ (a0 : Nat) (a1 : Int32) (h : pg_H) (x : (Int64 × pg_H)), g_X12_partOf a0 a1 h = some x → pg_Ct l D yX12_partOf cX12_partOf 4 (some FieldType.long) dn dm [pR a0, pI a1] h (pg_wL x)) (k6 : Nat → Int32 → Int64 → pg_H → Option (Int64 × pg_H)) (hk6 : ∀ (a0 : Nat) (a1 : Int32) (a2 : Int64) (h : pg_H), pg_EvF l D RX12 cX12_termOf 7 (some FieldType.long) "termOf" (dn + 1) (dm + 26) pg_wL (k6 a0 a1 a2 h) 6 [(0, pR a0), (1, pI a1), (2, pL a2)] [] h) (a0 : Nat) (a1 : Int32) (a2 : Int64) (h : pg_H) : pg_EvF l D RX12 cX12_termOf 7 (some FieldType.long) "termOf" (dn + 1) (dm + 26) pg_wL (F_X12_termOf_38 g_X12_partOf k6 a0 a1 a2 h) 38 [(0, pR a0), (1, pI a1), (2, pL a2)] [] h := by
  unfold F_X12_termOf_38
  refine pg_aload_n (i := 0) dX12_termOf_38 rfl 0 rfl ?_
  refine pg_aload_n (i := 0) dX12_termOf_39 rfl 0 rfl ?_
  refine pg_getI dX12_termOf_40 fl_RX12_245 rfl (fun v1 => ?_)
  refine pg_callV_oI (As := [pI v1]) (rs := []) dX12_termOf_43 lk_RX12_248 vy_X12_codeAt nd_X12_codeAt (c_X12_codeAt l D h a0 v1) rfl rfl (Nat.le_of_ble_eq_true rfl) (by omega) (by omega) (fun v2 => ?_)
  refine pg_bipush dX12_termOf_46 cb_42 ?_
  refine pg_callS_oI (As := [pI (42 : Int32)]) (rs := [pI v2]) dX12_termOf_48 lk_RX12_217 vy_X12_sign nd_X12_sign (c_X12_sign l D (42 : Int32) h) rfl rfl (Nat.le_of_ble_eq_true rfl) (by omega) (by omega) (fun v3 => ?_)
  refine pg_icmp_ne (tgt := 58) dX12_termOf_51 rfl ?_ ?_
  · refine pg_iconst dX12_termOf_58 ci_0 ?_
    exact pg_to (e_X12_termOf_59 l D dn dm hdn hdm g_X12_partOf hg_X12_partOf k6 hk6 a0 a1 a2 (0 : Int32) h) [0, 1, 2] rfl
  · refine pg_iconst dX12_termOf_54 ci_1 ?_
    refine pg_goto (tgt := 59) dX12_termOf_55 rfl ?_
    exact pg_to (e_X12_termOf_59 l D dn dm hdn hdm g_X12_partOf hg_X12_partOf k6 hk6 a0 a1 a2 (1 : Int32) h) [0, 1, 2] rfl
theorem e_X12_termOf_6 (l : Launch) (D : pg_D) (dn dm : Nat) (hdn : 2 ≤ dn) (hdm : 60 ≤ dm) (g_X12_partOf : Nat → Int32 → pg_H → Option (Int64 × pg_H)) (hg_X12_partOf : ∀ (a0 : Nat) (a1 : Int32) (h : pg_H) (x : (Int64 × pg_H)), g_X12_partOf a0 a1 h = some x → pg_Ct l D yX12_partOf cX12_partOf 4 (some FieldType.long) dn dm [pR a0, pI a1] h (pg_wL x))  : ∀ (n : Nat) (a0 : Nat) (a1 : Int32) (a2 : Int64) (h : pg_H), pg_EvF l D RX12 cX12_termOf 7 (some FieldType.long) "termOf" (dn + 1) (dm + 26) pg_wL (F_X12_termOf_6 g_X12_partOf n a0 a1 a2 h) 6 [(0, pR a0), (1, pI a1), (2, pL a2)] [] h := by
  intro n
  induction n with
  | zero => intro a0 a1 a2 h; exact pg_none
  | succ n ih =>
    intro a0 a1 a2 h
    rw [F_X12_termOf_6]
    refine pg_aload_n (i := 0) dX12_termOf_6 rfl 0 rfl ?_
    refine pg_aload_n (i := 0) dX12_termOf_7 rfl 0 rfl ?_
    refine pg_getI dX12_termOf_8 fl_RX12_245 rfl (fun v1 => ?_)
    refine pg_callV_oI (As := [pI v1]) (rs := []) dX12_termOf_11 lk_RX12_248 vy_X12_codeAt nd_X12_codeAt (c_X12_codeAt l D h a0 v1) rfl rfl (Nat.le_of_ble_eq_true rfl) (by omega) (by omega) (fun v2 => ?_)
    refine pg_bipush dX12_termOf_14 cb_42 ?_
    refine pg_callS_oI (As := [pI (42 : Int32)]) (rs := [pI v2]) dX12_termOf_16 lk_RX12_217 vy_X12_sign nd_X12_sign (c_X12_sign l D (42 : Int32) h) rfl rfl (Nat.le_of_ble_eq_true rfl) (by omega) (by omega) (fun v3 => ?_)
    refine pg_icmp_eq (tgt := 38) dX12_termOf_19 rfl ?_ ?_
    · exact pg_to (e_X12_termOf_38 l D dn dm hdn hdm g_X12_partOf hg_X12_partOf (F_X12_termOf_6 g_X12_partOf n) ih a0 a1 a2 h) [0, 1, 2] rfl
    · refine pg_aload_n (i := 0) dX12_termOf_22 rfl 0 rfl ?_
      refine pg_aload_n (i := 0) dX12_termOf_23 rfl 0 rfl ?_
      refine pg_getI dX12_termOf_24 fl_RX12_245 rfl (fun v4 => ?_)
      refine pg_callV_oI (As := [pI v4]) (rs := []) dX12_termOf_27 lk_RX12_248 vy_X12_codeAt nd_X12_codeAt (c_X12_codeAt l D h a0 v4) rfl rfl (Nat.le_of_ble_eq_true rfl) (by omega) (by omega) (fun v5 => ?_)
      refine pg_bipush dX12_termOf_30 cb_47 ?_
      refine pg_callS_oI (As := [pI (47 : Int32)]) (rs := [pI v5]) dX12_termOf_32 lk_RX12_217 vy_X12_sign nd_X12_sign (c_X12_sign l D (47 : Int32) h) rfl rfl (Nat.le_of_ble_eq_true rfl) (by omega) (by omega) (fun v6 => ?_)
      refine pg_icmp_ne (tgt := 138) dX12_termOf_35 rfl ?_ ?_
      · refine pg_lload_n (i := 2) dX12_termOf_138 rfl 2 rfl ?_
        exact pg_lret dX12_termOf_139 rfl rfl
      · exact pg_to (e_X12_termOf_38 l D dn dm hdn hdm g_X12_partOf hg_X12_partOf (F_X12_termOf_6 g_X12_partOf n) ih a0 a1 a2 h) [0, 1, 2] rfl
theorem e_X12_termOf (l : Launch) (D : pg_D) (dn dm : Nat) (hdn : 2 ≤ dn) (hdm : 60 ≤ dm) (g_X12_partOf : Nat → Int32 → pg_H → Option (Int64 × pg_H)) (hg_X12_partOf : ∀ (a0 : Nat) (a1 : Int32) (h : pg_H) (x : (Int64 × pg_H)), g_X12_partOf a0 a1 h = some x → pg_Ct l D yX12_partOf cX12_partOf 4 (some FieldType.long) dn dm [pR a0, pI a1] h (pg_wL x)) (a0 : Nat) (a1 : Int32) (h : pg_H) : pg_EvF l D RX12 cX12_termOf 7 (some FieldType.long) "termOf" (dn + 1) (dm + 26) pg_wL (B_X12_termOf g_X12_partOf a0 a1 h) 0 [(0, pR a0), (1, pI a1)] [] h := by
  unfold B_X12_termOf
  refine pg_aload_n (i := 0) dX12_termOf_0 rfl 0 rfl ?_
  refine pg_iload_n (i := 1) dX12_termOf_1 rfl 1 rfl ?_
  refine pg_callV_wL (As := [pI a1]) (rs := []) dX12_termOf_2 lk_RX12_267 vy_X12_partOf nd_X12_partOf (hg_X12_partOf a0 a1 h) rfl rfl (Nat.le_of_ble_eq_true rfl) (Nat.le_refl _) (by omega) (fun v1 => ?_)
  refine pg_lstore_n (i := 2) (lv' := [(2, pL v1.1), (0, pR a0), (1, pI a1)]) dX12_termOf_5 rfl (by decide) rfl ?_
  exact pg_to (e_X12_termOf_6 l D dn dm hdn hdm g_X12_partOf hg_X12_partOf pg_fuel a0 a1 v1.1 v1.2) [1, 2, 0] rfl
theorem e_X12_partOf (l : Launch) (D : pg_D) (dn dm : Nat) (hdn : 2 ≤ dn) (hdm : 60 ≤ dm) (g_X12_sumOf : Nat → Int32 → pg_H → Option (Int64 × pg_H)) (hg_X12_sumOf : ∀ (a0 : Nat) (a1 : Int32) (h : pg_H) (x : (Int64 × pg_H)), g_X12_sumOf a0 a1 h = some x → pg_Ct l D yX12_sumOf cX12_sumOf 7 (some FieldType.long) dn dm [pR a0, pI a1] h (pg_wL x)) (a0 : Nat) (a1 : Int32) (h : pg_H) : pg_EvF l D RX12 cX12_partOf 4 (some FieldType.long) "partOf" (dn + 1) (dm + 26) pg_wL (B_X12_partOf g_X12_sumOf a0 a1 h) 0 [(0, pR a0), (1, pI a1)] [] h := by
  unfold B_X12_partOf
  refine pg_aload_n (i := 0) dX12_partOf_0 rfl 0 rfl ?_
  refine pg_bipush dX12_partOf_1 cb_91 ?_
  refine pg_callS_oI (As := [pI (91 : Int32)]) (rs := [pR a0]) dX12_partOf_3 lk_RX12_217 vy_X12_sign nd_X12_sign (c_X12_sign l D (91 : Int32) h) rfl rfl (Nat.le_of_ble_eq_true rfl) (by omega) (by omega) (fun v1 => ?_)
  refine pg_callV_wI (As := [pI v1]) (rs := []) dX12_partOf_6 lk_RX12_270 vy_X12_passes nd_X12_passes (c_X12_passes l D a0 v1 h) rfl rfl (Nat.le_of_ble_eq_true rfl) (by omega) (by omega) (fun v2 => ?_)
  refine pg_if_eq (tgt := 30) dX12_partOf_9 rfl ?_ ?_
  · refine pg_aload_n (i := 0) dX12_partOf_30 rfl 0 rfl ?_
    refine pg_aload_n (i := 0) dX12_partOf_31 rfl 0 rfl ?_
    refine pg_getI dX12_partOf_32 fl_RX12_245 rfl (fun v3 => ?_)
    refine pg_callV_oI (As := [pI v3]) (rs := []) dX12_partOf_35 lk_RX12_248 vy_X12_codeAt nd_X12_codeAt (c_X12_codeAt l D v2.2 a0 v3) rfl rfl (Nat.le_of_ble_eq_true rfl) (by omega) (by omega) (fun v4 => ?_)
    refine pg_istore_n (i := 2) (lv' := [(2, pI v4), (0, pR a0), (1, pI a1)]) dX12_partOf_38 rfl (by decide) rfl ?_
    refine pg_aload_n (i := 0) dX12_partOf_39 rfl 1 rfl ?_
    refine pg_dup dX12_partOf_40 rfl ?_
    refine pg_getI dX12_partOf_41 fl_RX12_245 rfl (fun v5 => ?_)
    refine pg_iconst dX12_partOf_44 ci_1 ?_
    refine pg_iadd dX12_partOf_45 ?_
    refine pg_putI dX12_partOf_46 fl_RX12_245 (fun z => by cases z) (fun v6 => ?_)
    refine pg_iload_n (i := 1) dX12_partOf_49 rfl 2 rfl ?_
    refine pg_if_eq (tgt := 60) dX12_partOf_50 rfl ?_ ?_
    · refine pg_lconst dX12_partOf_60 cl_0 ?_
      exact pg_lret dX12_partOf_61 rfl rfl
    · refine pg_aload_n (i := 0) dX12_partOf_53 rfl 1 rfl ?_
      refine pg_getI dX12_partOf_54 fl_RX12_255 rfl (fun v7 => ?_)
      refine pg_if_eq (tgt := 62) dX12_partOf_57 rfl ?_ ?_
      · refine pg_iload_n (i := 2) dX12_partOf_62 rfl 0 rfl ?_
        refine pg_bipush dX12_partOf_63 cb_50 ?_
        refine pg_icmp_ne (tgt := 87) dX12_partOf_65 rfl ?_ ?_
        · refine pg_aload_n (i := 0) dX12_partOf_87 rfl 1 rfl ?_
          refine pg_getR dX12_partOf_88 fl_RX12_52 rfl (fun v8 => ?_)
          refine pg_iload_n (i := 2) dX12_partOf_91 rfl 0 rfl ?_
          refine pg_bipush dX12_partOf_92 cb_12 ?_
          refine pg_isub dX12_partOf_94 ?_
          refine pg_iaload dX12_partOf_95 (fun v9 => ?_)
          refine pg_i2l dX12_partOf_96 ?_
          exact pg_lret dX12_partOf_97 rfl rfl
        · refine pg_aload_n (i := 0) dX12_partOf_68 rfl 1 rfl ?_
          refine pg_getR dX12_partOf_69 fl_RX12_20 rfl (fun v10 => ?_)
          refine pg_sipush dX12_partOf_72 cs_4558 ?_
          refine pg_aload_n (i := 0) dX12_partOf_75 rfl 1 rfl ?_
          refine pg_getI dX12_partOf_76 fl_RX12_245 rfl (fun v11 => ?_)
          refine pg_iadd dX12_partOf_79 ?_
          refine pg_iconst dX12_partOf_80 ci_1 ?_
          refine pg_isub dX12_partOf_81 ?_
          refine pg_iaload dX12_partOf_82 (fun v12 => ?_)
          refine pg_i2l dX12_partOf_83 ?_
          refine pg_goto (tgt := 97) dX12_partOf_84 rfl ?_
          exact pg_lret dX12_partOf_97 rfl rfl
      · refine pg_lconst dX12_partOf_60 cl_0 ?_
        exact pg_lret dX12_partOf_61 rfl rfl
  · refine pg_aload_n (i := 0) dX12_partOf_12 rfl 0 rfl ?_
    refine pg_iload_n (i := 1) dX12_partOf_13 rfl 1 rfl ?_
    refine pg_callV_wL (As := [pI a1]) (rs := []) dX12_partOf_14 lk_RX12_273 vy_X12_sumOf nd_X12_sumOf (hg_X12_sumOf a0 a1 v2.2) rfl rfl (Nat.le_of_ble_eq_true rfl) (Nat.le_refl _) (by omega) (fun v13 => ?_)
    refine pg_lstore_n (i := 2) (lv' := [(2, pL v13.1), (0, pR a0), (1, pI a1)]) dX12_partOf_17 rfl (by decide) rfl ?_
    refine pg_aload_n (i := 0) dX12_partOf_18 rfl 1 rfl ?_
    refine pg_dup dX12_partOf_19 rfl ?_
    refine pg_getI dX12_partOf_20 fl_RX12_245 rfl (fun v14 => ?_)
    refine pg_iconst dX12_partOf_23 ci_1 ?_
    refine pg_iadd dX12_partOf_24 ?_
    refine pg_putI dX12_partOf_25 fl_RX12_245 (fun z => by cases z) (fun v15 => ?_)
    refine pg_lload_n (i := 2) dX12_partOf_28 rfl 0 rfl ?_
    exact pg_lret dX12_partOf_29 rfl rfl
theorem e_X12_testOf_46 (l : Launch) (D : pg_D) (dn dm : Nat) (hdn : 2 ≤ dn) (hdm : 60 ≤ dm) (g_X12_bothOf : Nat → Int32 → pg_H → Option (Int32 × pg_H)) (hg_X12_bothOf : ∀ (a0 : Nat) (a1 : Int32) (h : pg_H) (x : (Int32 × pg_H)), g_X12_bothOf a0 a1 h = some x → pg_Ct l D yX12_bothOf cX12_bothOf 4 (some FieldType.boolean) dn dm [pR a0, pI a1] h (pg_wI x)) (k6 : Nat → Int32 → Int32 → pg_H → Option (Int32 × pg_H)) (hk6 : ∀ (a0 : Nat) (a1 : Int32) (a2 : Int32) (h : pg_H), pg_EvF l D RX12 cX12_testOf 4 (some FieldType.boolean) "testOf" (dn + 1) (dm + 26) pg_wI (k6 a0 a1 a2 h) 6 [(0, pR a0), (1, pI a1), (2, pI a2)] [] h) (a0 : Nat) (a1 : Int32) (s0 : Int32) (h : pg_H) : pg_EvF l D RX12 cX12_testOf 4 (some FieldType.boolean) "testOf" (dn + 1) (dm + 26) pg_wI (F_X12_testOf_46 g_X12_bothOf k6 a0 a1 s0 h) 46 [(0, pR a0), (1, pI a1)] [pI s0] h := by
  unfold F_X12_testOf_46
  refine pg_istore_n (i := 2) (lv' := [(2, pI s0), (0, pR a0), (1, pI a1)]) dX12_testOf_46 rfl (by decide) rfl ?_
  refine pg_goto (tgt := 6) dX12_testOf_47 rfl ?_
  exact pg_to (hk6 a0 a1 s0 h) [1, 2, 0] rfl
theorem e_X12_testOf_41 (l : Launch) (D : pg_D) (dn dm : Nat) (hdn : 2 ≤ dn) (hdm : 60 ≤ dm) (g_X12_bothOf : Nat → Int32 → pg_H → Option (Int32 × pg_H)) (hg_X12_bothOf : ∀ (a0 : Nat) (a1 : Int32) (h : pg_H) (x : (Int32 × pg_H)), g_X12_bothOf a0 a1 h = some x → pg_Ct l D yX12_bothOf cX12_bothOf 4 (some FieldType.boolean) dn dm [pR a0, pI a1] h (pg_wI x)) (k6 : Nat → Int32 → Int32 → pg_H → Option (Int32 × pg_H)) (hk6 : ∀ (a0 : Nat) (a1 : Int32) (a2 : Int32) (h : pg_H), pg_EvF l D RX12 cX12_testOf 4 (some FieldType.boolean) "testOf" (dn + 1) (dm + 26) pg_wI (k6 a0 a1 a2 h) 6 [(0, pR a0), (1, pI a1), (2, pI a2)] [] h) (a0 : Nat) (a1 : Int32) (h : pg_H) : pg_EvF l D RX12 cX12_testOf 4 (some FieldType.boolean) "testOf" (dn + 1) (dm + 26) pg_wI (F_X12_testOf_41 g_X12_bothOf k6 a0 a1 h) 41 [(0, pR a0), (1, pI a1)] [] h := by
  unfold F_X12_testOf_41
  refine pg_iconst dX12_testOf_41 ci_1 ?_
  refine pg_goto (tgt := 46) dX12_testOf_42 rfl ?_
  exact pg_to (e_X12_testOf_46 l D dn dm hdn hdm g_X12_bothOf hg_X12_bothOf k6 hk6 a0 a1 (1 : Int32) h) [0, 1] rfl
theorem e_X12_testOf_29 (l : Launch) (D : pg_D) (dn dm : Nat) (hdn : 2 ≤ dn) (hdm : 60 ≤ dm) (g_X12_bothOf : Nat → Int32 → pg_H → Option (Int32 × pg_H)) (hg_X12_bothOf : ∀ (a0 : Nat) (a1 : Int32) (h : pg_H) (x : (Int32 × pg_H)), g_X12_bothOf a0 a1 h = some x → pg_Ct l D yX12_bothOf cX12_bothOf 4 (some FieldType.boolean) dn dm [pR a0, pI a1] h (pg_wI x)) (k6 : Nat → Int32 → Int32 → pg_H → Option (Int32 × pg_H)) (hk6 : ∀ (a0 : Nat) (a1 : Int32) (a2 : Int32) (h : pg_H), pg_EvF l D RX12 cX12_testOf 4 (some FieldType.boolean) "testOf" (dn + 1) (dm + 26) pg_wI (k6 a0 a1 a2 h) 6 [(0, pR a0), (1, pI a1), (2, pI a2)] [] h) (a0 : Nat) (a1 : Int32) (a2 : Int32) (s0 : Int32) (s1 : Nat) (h : pg_H) : pg_EvF l D RX12 cX12_testOf 4 (some FieldType.boolean) "testOf" (dn + 1) (dm + 26) pg_wI (F_X12_testOf_29 g_X12_bothOf k6 a0 a1 a2 s0 s1 h) 29 [(0, pR a0), (1, pI a1), (2, pI a2)] [pI s0, pR s1] h := by
  unfold F_X12_testOf_29
  refine pg_callV_wI (As := [pI s0]) (rs := []) dX12_testOf_29 lk_RX12_276 vy_X12_bothOf nd_X12_bothOf (hg_X12_bothOf s1 s0 h) rfl rfl (Nat.le_of_ble_eq_true rfl) (Nat.le_refl _) (by omega) (fun v1 => ?_)
  refine pg_istore_n (i := 3) (lv' := [(3, pI v1.1), (0, pR a0), (1, pI a1), (2, pI a2)]) dX12_testOf_32 rfl (by decide) rfl ?_
  refine pg_iload_n (i := 2) dX12_testOf_33 rfl 3 rfl ?_
  refine pg_if_ne (tgt := 41) dX12_testOf_34 rfl ?_ ?_
  · exact pg_to (e_X12_testOf_41 l D dn dm hdn hdm g_X12_bothOf hg_X12_bothOf k6 hk6 a0 a1 v1.2) [1, 2] rfl
  · refine pg_iload_n (i := 3) dX12_testOf_37 rfl 0 rfl ?_
    refine pg_if_eq (tgt := 45) dX12_testOf_38 rfl ?_ ?_
    · refine pg_iconst dX12_testOf_45 ci_0 ?_
      exact pg_to (e_X12_testOf_46 l D dn dm hdn hdm g_X12_bothOf hg_X12_bothOf k6 hk6 a0 a1 (0 : Int32) v1.2) [1, 2] rfl
    · exact pg_to (e_X12_testOf_41 l D dn dm hdn hdm g_X12_bothOf hg_X12_bothOf k6 hk6 a0 a1 v1.2) [1, 2] rfl
theorem e_X12_testOf_28 (l : Launch) (D : pg_D) (dn dm : Nat) (hdn : 2 ≤ dn) (hdm : 60 ≤ dm) (g_X12_bothOf : Nat → Int32 → pg_H → Option (Int32 × pg_H)) (hg_X12_bothOf : ∀ (a0 : Nat) (a1 : Int32) (h : pg_H) (x : (Int32 × pg_H)), g_X12_bothOf a0 a1 h = some x → pg_Ct l D yX12_bothOf cX12_bothOf 4 (some FieldType.boolean) dn dm [pR a0, pI a1] h (pg_wI x)) (k6 : Nat → Int32 → Int32 → pg_H → Option (Int32 × pg_H)) (hk6 : ∀ (a0 : Nat) (a1 : Int32) (a2 : Int32) (h : pg_H), pg_EvF l D RX12 cX12_testOf 4 (some FieldType.boolean) "testOf" (dn + 1) (dm + 26) pg_wI (k6 a0 a1 a2 h) 6 [(0, pR a0), (1, pI a1), (2, pI a2)] [] h) (a0 : Nat) (a1 : Int32) (a2 : Int32) (s0 : Nat) (h : pg_H) : pg_EvF l D RX12 cX12_testOf 4 (some FieldType.boolean) "testOf" (dn + 1) (dm + 26) pg_wI (F_X12_testOf_28 g_X12_bothOf k6 a0 a1 a2 s0 h) 28 [(0, pR a0), (1, pI a1), (2, pI a2)] [pR s0] h := by
  unfold F_X12_testOf_28
  refine pg_iconst dX12_testOf_28 ci_0 ?_
  exact pg_to (e_X12_testOf_29 l D dn dm hdn hdm g_X12_bothOf hg_X12_bothOf k6 hk6 a0 a1 a2 (0 : Int32) s0 h) [0, 1, 2] rfl
theorem e_X12_testOf_6 (l : Launch) (D : pg_D) (dn dm : Nat) (hdn : 2 ≤ dn) (hdm : 60 ≤ dm) (g_X12_bothOf : Nat → Int32 → pg_H → Option (Int32 × pg_H)) (hg_X12_bothOf : ∀ (a0 : Nat) (a1 : Int32) (h : pg_H) (x : (Int32 × pg_H)), g_X12_bothOf a0 a1 h = some x → pg_Ct l D yX12_bothOf cX12_bothOf 4 (some FieldType.boolean) dn dm [pR a0, pI a1] h (pg_wI x))  : ∀ (n : Nat) (a0 : Nat) (a1 : Int32) (a2 : Int32) (h : pg_H), pg_EvF l D RX12 cX12_testOf 4 (some FieldType.boolean) "testOf" (dn + 1) (dm + 26) pg_wI (F_X12_testOf_6 g_X12_bothOf n a0 a1 a2 h) 6 [(0, pR a0), (1, pI a1), (2, pI a2)] [] h := by
  intro n
  induction n with
  | zero => intro a0 a1 a2 h; exact pg_none
  | succ n ih =>
    intro a0 a1 a2 h
    rw [F_X12_testOf_6]
    refine pg_aload_n (i := 0) dX12_testOf_6 rfl 0 rfl ?_
    refine pg_bipush dX12_testOf_7 cb_9 ?_
    refine pg_callV_wI (As := [pI (9 : Int32)]) (rs := []) dX12_testOf_9 lk_RX12_270 vy_X12_passes nd_X12_passes (c_X12_passes l D a0 (9 : Int32) h) rfl rfl (Nat.le_of_ble_eq_true rfl) (by omega) (by omega) (fun v1 => ?_)
    refine pg_if_eq (tgt := 50) dX12_testOf_12 rfl ?_ ?_
    · refine pg_iload_n (i := 2) dX12_testOf_50 rfl 2 rfl ?_
      exact pg_zretq dX12_testOf_51 rfl rfl
    · refine pg_aload_n (i := 0) dX12_testOf_15 rfl 0 rfl ?_
      refine pg_iload_n (i := 1) dX12_testOf_16 rfl 1 rfl ?_
      refine pg_if_eq (tgt := 28) dX12_testOf_17 rfl ?_ ?_
      · exact pg_to (e_X12_testOf_28 l D dn dm hdn hdm g_X12_bothOf hg_X12_bothOf (F_X12_testOf_6 g_X12_bothOf n) ih a0 a1 a2 a0 v1.2) [0, 1, 2] rfl
      · refine pg_iload_n (i := 2) dX12_testOf_20 rfl 2 rfl ?_
        refine pg_if_ne (tgt := 28) dX12_testOf_21 rfl ?_ ?_
        · exact pg_to (e_X12_testOf_28 l D dn dm hdn hdm g_X12_bothOf hg_X12_bothOf (F_X12_testOf_6 g_X12_bothOf n) ih a0 a1 a2 a0 v1.2) [0, 1, 2] rfl
        · refine pg_iconst dX12_testOf_24 ci_1 ?_
          refine pg_goto (tgt := 29) dX12_testOf_25 rfl ?_
          exact pg_to (e_X12_testOf_29 l D dn dm hdn hdm g_X12_bothOf hg_X12_bothOf (F_X12_testOf_6 g_X12_bothOf n) ih a0 a1 a2 (1 : Int32) a0 v1.2) [0, 1, 2] rfl
theorem e_X12_testOf (l : Launch) (D : pg_D) (dn dm : Nat) (hdn : 2 ≤ dn) (hdm : 60 ≤ dm) (g_X12_bothOf : Nat → Int32 → pg_H → Option (Int32 × pg_H)) (hg_X12_bothOf : ∀ (a0 : Nat) (a1 : Int32) (h : pg_H) (x : (Int32 × pg_H)), g_X12_bothOf a0 a1 h = some x → pg_Ct l D yX12_bothOf cX12_bothOf 4 (some FieldType.boolean) dn dm [pR a0, pI a1] h (pg_wI x)) (a0 : Nat) (a1 : Int32) (h : pg_H) : pg_EvF l D RX12 cX12_testOf 4 (some FieldType.boolean) "testOf" (dn + 1) (dm + 26) pg_wI (B_X12_testOf g_X12_bothOf a0 a1 h) 0 [(0, pR a0), (1, pI a1)] [] h := by
  unfold B_X12_testOf
  refine pg_aload_n (i := 0) dX12_testOf_0 rfl 0 rfl ?_
  refine pg_iload_n (i := 1) dX12_testOf_1 rfl 1 rfl ?_
  refine pg_callV_wI (As := [pI a1]) (rs := []) dX12_testOf_2 lk_RX12_276 vy_X12_bothOf nd_X12_bothOf (hg_X12_bothOf a0 a1 h) rfl rfl (Nat.le_of_ble_eq_true rfl) (Nat.le_refl _) (by omega) (fun v1 => ?_)
  refine pg_istore_n (i := 2) (lv' := [(2, pI v1.1), (0, pR a0), (1, pI a1)]) dX12_testOf_5 rfl (by decide) rfl ?_
  exact pg_to (e_X12_testOf_6 l D dn dm hdn hdm g_X12_bothOf hg_X12_bothOf pg_fuel a0 a1 v1.1 v1.2) [1, 2, 0] rfl
theorem e_X12_bothOf_46 (l : Launch) (D : pg_D) (dn dm : Nat) (hdn : 2 ≤ dn) (hdm : 60 ≤ dm) (g_X12_plainOf : Nat → Int32 → pg_H → Option (Int32 × pg_H)) (hg_X12_plainOf : ∀ (a0 : Nat) (a1 : Int32) (h : pg_H) (x : (Int32 × pg_H)), g_X12_plainOf a0 a1 h = some x → pg_Ct l D yX12_plainOf cX12_plainOf 3 (some FieldType.boolean) dn dm [pR a0, pI a1] h (pg_wI x)) (k6 : Nat → Int32 → Int32 → pg_H → Option (Int32 × pg_H)) (hk6 : ∀ (a0 : Nat) (a1 : Int32) (a2 : Int32) (h : pg_H), pg_EvF l D RX12 cX12_bothOf 4 (some FieldType.boolean) "bothOf" (dn + 1) (dm + 26) pg_wI (k6 a0 a1 a2 h) 6 [(0, pR a0), (1, pI a1), (2, pI a2)] [] h) (a0 : Nat) (a1 : Int32) (s0 : Int32) (h : pg_H) : pg_EvF l D RX12 cX12_bothOf 4 (some FieldType.boolean) "bothOf" (dn + 1) (dm + 26) pg_wI (F_X12_bothOf_46 g_X12_plainOf k6 a0 a1 s0 h) 46 [(0, pR a0), (1, pI a1)] [pI s0] h := by
  unfold F_X12_bothOf_46
  refine pg_istore_n (i := 2) (lv' := [(2, pI s0), (0, pR a0), (1, pI a1)]) dX12_bothOf_46 rfl (by decide) rfl ?_
  refine pg_goto (tgt := 6) dX12_bothOf_47 rfl ?_
  exact pg_to (hk6 a0 a1 s0 h) [1, 2, 0] rfl
theorem e_X12_bothOf_45 (l : Launch) (D : pg_D) (dn dm : Nat) (hdn : 2 ≤ dn) (hdm : 60 ≤ dm) (g_X12_plainOf : Nat → Int32 → pg_H → Option (Int32 × pg_H)) (hg_X12_plainOf : ∀ (a0 : Nat) (a1 : Int32) (h : pg_H) (x : (Int32 × pg_H)), g_X12_plainOf a0 a1 h = some x → pg_Ct l D yX12_plainOf cX12_plainOf 3 (some FieldType.boolean) dn dm [pR a0, pI a1] h (pg_wI x)) (k6 : Nat → Int32 → Int32 → pg_H → Option (Int32 × pg_H)) (hk6 : ∀ (a0 : Nat) (a1 : Int32) (a2 : Int32) (h : pg_H), pg_EvF l D RX12 cX12_bothOf 4 (some FieldType.boolean) "bothOf" (dn + 1) (dm + 26) pg_wI (k6 a0 a1 a2 h) 6 [(0, pR a0), (1, pI a1), (2, pI a2)] [] h) (a0 : Nat) (a1 : Int32) (h : pg_H) : pg_EvF l D RX12 cX12_bothOf 4 (some FieldType.boolean) "bothOf" (dn + 1) (dm + 26) pg_wI (F_X12_bothOf_45 g_X12_plainOf k6 a0 a1 h) 45 [(0, pR a0), (1, pI a1)] [] h := by
  unfold F_X12_bothOf_45
  refine pg_iconst dX12_bothOf_45 ci_0 ?_
  exact pg_to (e_X12_bothOf_46 l D dn dm hdn hdm g_X12_plainOf hg_X12_plainOf k6 hk6 a0 a1 (0 : Int32) h) [0, 1] rfl
theorem e_X12_bothOf_29 (l : Launch) (D : pg_D) (dn dm : Nat) (hdn : 2 ≤ dn) (hdm : 60 ≤ dm) (g_X12_plainOf : Nat → Int32 → pg_H → Option (Int32 × pg_H)) (hg_X12_plainOf : ∀ (a0 : Nat) (a1 : Int32) (h : pg_H) (x : (Int32 × pg_H)), g_X12_plainOf a0 a1 h = some x → pg_Ct l D yX12_plainOf cX12_plainOf 3 (some FieldType.boolean) dn dm [pR a0, pI a1] h (pg_wI x)) (k6 : Nat → Int32 → Int32 → pg_H → Option (Int32 × pg_H)) (hk6 : ∀ (a0 : Nat) (a1 : Int32) (a2 : Int32) (h : pg_H), pg_EvF l D RX12 cX12_bothOf 4 (some FieldType.boolean) "bothOf" (dn + 1) (dm + 26) pg_wI (k6 a0 a1 a2 h) 6 [(0, pR a0), (1, pI a1), (2, pI a2)] [] h) (a0 : Nat) (a1 : Int32) (a2 : Int32) (s0 : Int32) (s1 : Nat) (h : pg_H) : pg_EvF l D RX12 cX12_bothOf 4 (some FieldType.boolean) "bothOf" (dn + 1) (dm + 26) pg_wI (F_X12_bothOf_29 g_X12_plainOf k6 a0 a1 a2 s0 s1 h) 29 [(0, pR a0), (1, pI a1), (2, pI a2)] [pI s0, pR s1] h := by
  unfold F_X12_bothOf_29
  refine pg_callV_wI (As := [pI s0]) (rs := []) dX12_bothOf_29 lk_RX12_280 vy_X12_plainOf nd_X12_plainOf (hg_X12_plainOf s1 s0 h) rfl rfl (Nat.le_of_ble_eq_true rfl) (Nat.le_refl _) (by omega) (fun v1 => ?_)
  refine pg_istore_n (i := 3) (lv' := [(3, pI v1.1), (0, pR a0), (1, pI a1), (2, pI a2)]) dX12_bothOf_32 rfl (by decide) rfl ?_
  refine pg_iload_n (i := 2) dX12_bothOf_33 rfl 3 rfl ?_
  refine pg_if_eq (tgt := 45) dX12_bothOf_34 rfl ?_ ?_
  · exact pg_to (e_X12_bothOf_45 l D dn dm hdn hdm g_X12_plainOf hg_X12_plainOf k6 hk6 a0 a1 v1.2) [1, 2] rfl
  · refine pg_iload_n (i := 3) dX12_bothOf_37 rfl 0 rfl ?_
    refine pg_if_eq (tgt := 45) dX12_bothOf_38 rfl ?_ ?_
    · exact pg_to (e_X12_bothOf_45 l D dn dm hdn hdm g_X12_plainOf hg_X12_plainOf k6 hk6 a0 a1 v1.2) [1, 2] rfl
    · refine pg_iconst dX12_bothOf_41 ci_1 ?_
      refine pg_goto (tgt := 46) dX12_bothOf_42 rfl ?_
      exact pg_to (e_X12_bothOf_46 l D dn dm hdn hdm g_X12_plainOf hg_X12_plainOf k6 hk6 a0 a1 (1 : Int32) v1.2) [1, 2] rfl
theorem e_X12_bothOf_28 (l : Launch) (D : pg_D) (dn dm : Nat) (hdn : 2 ≤ dn) (hdm : 60 ≤ dm) (g_X12_plainOf : Nat → Int32 → pg_H → Option (Int32 × pg_H)) (hg_X12_plainOf : ∀ (a0 : Nat) (a1 : Int32) (h : pg_H) (x : (Int32 × pg_H)), g_X12_plainOf a0 a1 h = some x → pg_Ct l D yX12_plainOf cX12_plainOf 3 (some FieldType.boolean) dn dm [pR a0, pI a1] h (pg_wI x)) (k6 : Nat → Int32 → Int32 → pg_H → Option (Int32 × pg_H)) (hk6 : ∀ (a0 : Nat) (a1 : Int32) (a2 : Int32) (h : pg_H), pg_EvF l D RX12 cX12_bothOf 4 (some FieldType.boolean) "bothOf" (dn + 1) (dm + 26) pg_wI (k6 a0 a1 a2 h) 6 [(0, pR a0), (1, pI a1), (2, pI a2)] [] h) (a0 : Nat) (a1 : Int32) (a2 : Int32) (s0 : Nat) (h : pg_H) : pg_EvF l D RX12 cX12_bothOf 4 (some FieldType.boolean) "bothOf" (dn + 1) (dm + 26) pg_wI (F_X12_bothOf_28 g_X12_plainOf k6 a0 a1 a2 s0 h) 28 [(0, pR a0), (1, pI a1), (2, pI a2)] [pR s0] h := by
  unfold F_X12_bothOf_28
  refine pg_iconst dX12_bothOf_28 ci_0 ?_
  exact pg_to (e_X12_bothOf_29 l D dn dm hdn hdm g_X12_plainOf hg_X12_plainOf k6 hk6 a0 a1 a2 (0 : Int32) s0 h) [0, 1, 2] rfl
theorem e_X12_bothOf_6 (l : Launch) (D : pg_D) (dn dm : Nat) (hdn : 2 ≤ dn) (hdm : 60 ≤ dm) (g_X12_plainOf : Nat → Int32 → pg_H → Option (Int32 × pg_H)) (hg_X12_plainOf : ∀ (a0 : Nat) (a1 : Int32) (h : pg_H) (x : (Int32 × pg_H)), g_X12_plainOf a0 a1 h = some x → pg_Ct l D yX12_plainOf cX12_plainOf 3 (some FieldType.boolean) dn dm [pR a0, pI a1] h (pg_wI x))  : ∀ (n : Nat) (a0 : Nat) (a1 : Int32) (a2 : Int32) (h : pg_H), pg_EvF l D RX12 cX12_bothOf 4 (some FieldType.boolean) "bothOf" (dn + 1) (dm + 26) pg_wI (F_X12_bothOf_6 g_X12_plainOf n a0 a1 a2 h) 6 [(0, pR a0), (1, pI a1), (2, pI a2)] [] h := by
  intro n
  induction n with
  | zero => intro a0 a1 a2 h; exact pg_none
  | succ n ih =>
    intro a0 a1 a2 h
    rw [F_X12_bothOf_6]
    refine pg_aload_n (i := 0) dX12_bothOf_6 rfl 0 rfl ?_
    refine pg_bipush dX12_bothOf_7 cb_10 ?_
    refine pg_callV_wI (As := [pI (10 : Int32)]) (rs := []) dX12_bothOf_9 lk_RX12_270 vy_X12_passes nd_X12_passes (c_X12_passes l D a0 (10 : Int32) h) rfl rfl (Nat.le_of_ble_eq_true rfl) (by omega) (by omega) (fun v1 => ?_)
    refine pg_if_eq (tgt := 50) dX12_bothOf_12 rfl ?_ ?_
    · refine pg_iload_n (i := 2) dX12_bothOf_50 rfl 2 rfl ?_
      exact pg_zretq dX12_bothOf_51 rfl rfl
    · refine pg_aload_n (i := 0) dX12_bothOf_15 rfl 0 rfl ?_
      refine pg_iload_n (i := 1) dX12_bothOf_16 rfl 1 rfl ?_
      refine pg_if_eq (tgt := 28) dX12_bothOf_17 rfl ?_ ?_
      · exact pg_to (e_X12_bothOf_28 l D dn dm hdn hdm g_X12_plainOf hg_X12_plainOf (F_X12_bothOf_6 g_X12_plainOf n) ih a0 a1 a2 a0 v1.2) [0, 1, 2] rfl
      · refine pg_iload_n (i := 2) dX12_bothOf_20 rfl 2 rfl ?_
        refine pg_if_eq (tgt := 28) dX12_bothOf_21 rfl ?_ ?_
        · exact pg_to (e_X12_bothOf_28 l D dn dm hdn hdm g_X12_plainOf hg_X12_plainOf (F_X12_bothOf_6 g_X12_plainOf n) ih a0 a1 a2 a0 v1.2) [0, 1, 2] rfl
        · refine pg_iconst dX12_bothOf_24 ci_1 ?_
          refine pg_goto (tgt := 29) dX12_bothOf_25 rfl ?_
          exact pg_to (e_X12_bothOf_29 l D dn dm hdn hdm g_X12_plainOf hg_X12_plainOf (F_X12_bothOf_6 g_X12_plainOf n) ih a0 a1 a2 (1 : Int32) a0 v1.2) [0, 1, 2] rfl
theorem e_X12_bothOf (l : Launch) (D : pg_D) (dn dm : Nat) (hdn : 2 ≤ dn) (hdm : 60 ≤ dm) (g_X12_plainOf : Nat → Int32 → pg_H → Option (Int32 × pg_H)) (hg_X12_plainOf : ∀ (a0 : Nat) (a1 : Int32) (h : pg_H) (x : (Int32 × pg_H)), g_X12_plainOf a0 a1 h = some x → pg_Ct l D yX12_plainOf cX12_plainOf 3 (some FieldType.boolean) dn dm [pR a0, pI a1] h (pg_wI x)) (a0 : Nat) (a1 : Int32) (h : pg_H) : pg_EvF l D RX12 cX12_bothOf 4 (some FieldType.boolean) "bothOf" (dn + 1) (dm + 26) pg_wI (B_X12_bothOf g_X12_plainOf a0 a1 h) 0 [(0, pR a0), (1, pI a1)] [] h := by
  unfold B_X12_bothOf
  refine pg_aload_n (i := 0) dX12_bothOf_0 rfl 0 rfl ?_
  refine pg_iload_n (i := 1) dX12_bothOf_1 rfl 1 rfl ?_
  refine pg_callV_wI (As := [pI a1]) (rs := []) dX12_bothOf_2 lk_RX12_280 vy_X12_plainOf nd_X12_plainOf (hg_X12_plainOf a0 a1 h) rfl rfl (Nat.le_of_ble_eq_true rfl) (Nat.le_refl _) (by omega) (fun v1 => ?_)
  refine pg_istore_n (i := 2) (lv' := [(2, pI v1.1), (0, pR a0), (1, pI a1)]) dX12_bothOf_5 rfl (by decide) rfl ?_
  exact pg_to (e_X12_bothOf_6 l D dn dm hdn hdm g_X12_plainOf hg_X12_plainOf pg_fuel a0 a1 v1.1 v1.2) [1, 2, 0] rfl
theorem e_X12_plainOf_20 (l : Launch) (D : pg_D) (dn dm : Nat) (hdn : 2 ≤ dn) (hdm : 60 ≤ dm) (g_X12_positiveOf : Nat → Int32 → pg_H → Option (Int32 × pg_H)) (hg_X12_positiveOf : ∀ (a0 : Nat) (a1 : Int32) (h : pg_H) (x : (Int32 × pg_H)), g_X12_positiveOf a0 a1 h = some x → pg_Ct l D yX12_positiveOf cX12_positiveOf 7 (some FieldType.boolean) dn dm [pR a0, pI a1] h (pg_wI x)) (k2 : Nat → Int32 → Int32 → pg_H → Option (Int32 × pg_H)) (hk2 : ∀ (a0 : Nat) (a1 : Int32) (a2 : Int32) (h : pg_H), pg_EvF l D RX12 cX12_plainOf 3 (some FieldType.boolean) "plainOf" (dn + 1) (dm + 26) pg_wI (k2 a0 a1 a2 h) 2 [(0, pR a0), (1, pI a1), (2, pI a2)] [] h) (a0 : Nat) (a1 : Int32) (s0 : Int32) (h : pg_H) : pg_EvF l D RX12 cX12_plainOf 3 (some FieldType.boolean) "plainOf" (dn + 1) (dm + 26) pg_wI (F_X12_plainOf_20 g_X12_positiveOf k2 a0 a1 s0 h) 20 [(0, pR a0), (1, pI a1)] [pI s0] h := by
  unfold F_X12_plainOf_20
  refine pg_istore_n (i := 2) (lv' := [(2, pI s0), (0, pR a0), (1, pI a1)]) dX12_plainOf_20 rfl (by decide) rfl ?_
  refine pg_goto (tgt := 2) dX12_plainOf_21 rfl ?_
  exact pg_to (hk2 a0 a1 s0 h) [1, 2, 0] rfl
theorem e_X12_plainOf_2 (l : Launch) (D : pg_D) (dn dm : Nat) (hdn : 2 ≤ dn) (hdm : 60 ≤ dm) (g_X12_positiveOf : Nat → Int32 → pg_H → Option (Int32 × pg_H)) (hg_X12_positiveOf : ∀ (a0 : Nat) (a1 : Int32) (h : pg_H) (x : (Int32 × pg_H)), g_X12_positiveOf a0 a1 h = some x → pg_Ct l D yX12_positiveOf cX12_positiveOf 7 (some FieldType.boolean) dn dm [pR a0, pI a1] h (pg_wI x))  : ∀ (n : Nat) (a0 : Nat) (a1 : Int32) (a2 : Int32) (h : pg_H), pg_EvF l D RX12 cX12_plainOf 3 (some FieldType.boolean) "plainOf" (dn + 1) (dm + 26) pg_wI (F_X12_plainOf_2 g_X12_positiveOf n a0 a1 a2 h) 2 [(0, pR a0), (1, pI a1), (2, pI a2)] [] h := by
  intro n
  induction n with
  | zero => intro a0 a1 a2 h; exact pg_none
  | succ n ih =>
    intro a0 a1 a2 h
    rw [F_X12_plainOf_2]
    refine pg_aload_n (i := 0) dX12_plainOf_2 rfl 0 rfl ?_
    refine pg_bipush dX12_plainOf_3 cb_11 ?_
    refine pg_callV_wI (As := [pI (11 : Int32)]) (rs := []) dX12_plainOf_5 lk_RX12_270 vy_X12_passes nd_X12_passes (c_X12_passes l D a0 (11 : Int32) h) rfl rfl (Nat.le_of_ble_eq_true rfl) (by omega) (by omega) (fun v1 => ?_)
    refine pg_if_eq (tgt := 24) dX12_plainOf_8 rfl ?_ ?_
    · refine pg_aload_n (i := 0) dX12_plainOf_24 rfl 0 rfl ?_
      refine pg_iload_n (i := 1) dX12_plainOf_25 rfl 1 rfl ?_
      refine pg_callV_wI (As := [pI a1]) (rs := []) dX12_plainOf_26 lk_RX12_283 vy_X12_positiveOf nd_X12_positiveOf (hg_X12_positiveOf a0 a1 v1.2) rfl rfl (Nat.le_of_ble_eq_true rfl) (Nat.le_refl _) (by omega) (fun v2 => ?_)
      refine pg_iload_n (i := 2) dX12_plainOf_29 rfl 2 rfl ?_
      refine pg_icmp_eq (tgt := 37) dX12_plainOf_30 rfl ?_ ?_
      · refine pg_iconst dX12_plainOf_37 ci_0 ?_
        exact pg_zret dX12_plainOf_38 rfl (Or.inl rfl) rfl
      · refine pg_iconst dX12_plainOf_33 ci_1 ?_
        refine pg_goto (tgt := 38) dX12_plainOf_34 rfl ?_
        exact pg_zret dX12_plainOf_38 rfl (Or.inr rfl) rfl
    · refine pg_iload_n (i := 2) dX12_plainOf_11 rfl 2 rfl ?_
      refine pg_if_ne (tgt := 19) dX12_plainOf_12 rfl ?_ ?_
      · refine pg_iconst dX12_plainOf_19 ci_0 ?_
        exact pg_to (e_X12_plainOf_20 l D dn dm hdn hdm g_X12_positiveOf hg_X12_positiveOf (F_X12_plainOf_2 g_X12_positiveOf n) ih a0 a1 (0 : Int32) v1.2) [0, 1] rfl
      · refine pg_iconst dX12_plainOf_15 ci_1 ?_
        refine pg_goto (tgt := 20) dX12_plainOf_16 rfl ?_
        exact pg_to (e_X12_plainOf_20 l D dn dm hdn hdm g_X12_positiveOf hg_X12_positiveOf (F_X12_plainOf_2 g_X12_positiveOf n) ih a0 a1 (1 : Int32) v1.2) [0, 1] rfl
theorem e_X12_plainOf (l : Launch) (D : pg_D) (dn dm : Nat) (hdn : 2 ≤ dn) (hdm : 60 ≤ dm) (g_X12_positiveOf : Nat → Int32 → pg_H → Option (Int32 × pg_H)) (hg_X12_positiveOf : ∀ (a0 : Nat) (a1 : Int32) (h : pg_H) (x : (Int32 × pg_H)), g_X12_positiveOf a0 a1 h = some x → pg_Ct l D yX12_positiveOf cX12_positiveOf 7 (some FieldType.boolean) dn dm [pR a0, pI a1] h (pg_wI x)) (a0 : Nat) (a1 : Int32) (h : pg_H) : pg_EvF l D RX12 cX12_plainOf 3 (some FieldType.boolean) "plainOf" (dn + 1) (dm + 26) pg_wI (B_X12_plainOf g_X12_positiveOf a0 a1 h) 0 [(0, pR a0), (1, pI a1)] [] h := by
  unfold B_X12_plainOf
  refine pg_iconst dX12_plainOf_0 ci_0 ?_
  refine pg_istore_n (i := 2) (lv' := [(2, pI (0 : Int32)), (0, pR a0), (1, pI a1)]) dX12_plainOf_1 rfl (by decide) rfl ?_
  exact pg_to (e_X12_plainOf_2 l D dn dm hdn hdm g_X12_positiveOf hg_X12_positiveOf pg_fuel a0 a1 (0 : Int32) h) [1, 2, 0] rfl
theorem e_X12_positiveOf (l : Launch) (D : pg_D) (dn dm : Nat) (hdn : 2 ≤ dn) (hdm : 60 ≤ dm) (g_X12_sumOf : Nat → Int32 → pg_H → Option (Int64 × pg_H)) (g_X12_testOf : Nat → Int32 → pg_H → Option (Int32 × pg_H)) (hg_X12_sumOf : ∀ (a0 : Nat) (a1 : Int32) (h : pg_H) (x : (Int64 × pg_H)), g_X12_sumOf a0 a1 h = some x → pg_Ct l D yX12_sumOf cX12_sumOf 7 (some FieldType.long) dn dm [pR a0, pI a1] h (pg_wL x)) (hg_X12_testOf : ∀ (a0 : Nat) (a1 : Int32) (h : pg_H) (x : (Int32 × pg_H)), g_X12_testOf a0 a1 h = some x → pg_Ct l D yX12_testOf cX12_testOf 4 (some FieldType.boolean) dn dm [pR a0, pI a1] h (pg_wI x)) (a0 : Nat) (a1 : Int32) (h : pg_H) : pg_EvF l D RX12 cX12_positiveOf 7 (some FieldType.boolean) "positiveOf" (dn + 1) (dm + 26) pg_wI (B_X12_positiveOf g_X12_sumOf g_X12_testOf a0 a1 h) 0 [(0, pR a0), (1, pI a1)] [] h := by
  unfold B_X12_positiveOf
  refine pg_aload_n (i := 0) dX12_positiveOf_0 rfl 0 rfl ?_
  refine pg_bipush dX12_positiveOf_1 cb_40 ?_
  refine pg_callS_oI (As := [pI (40 : Int32)]) (rs := [pR a0]) dX12_positiveOf_3 lk_RX12_217 vy_X12_sign nd_X12_sign (c_X12_sign l D (40 : Int32) h) rfl rfl (Nat.le_of_ble_eq_true rfl) (by omega) (by omega) (fun v1 => ?_)
  refine pg_callV_wI (As := [pI v1]) (rs := []) dX12_positiveOf_6 lk_RX12_270 vy_X12_passes nd_X12_passes (c_X12_passes l D a0 v1 h) rfl rfl (Nat.le_of_ble_eq_true rfl) (by omega) (by omega) (fun v2 => ?_)
  refine pg_if_eq (tgt := 30) dX12_positiveOf_9 rfl ?_ ?_
  · refine pg_aload_n (i := 0) dX12_positiveOf_30 rfl 0 rfl ?_
    refine pg_iload_n (i := 1) dX12_positiveOf_31 rfl 1 rfl ?_
    refine pg_callV_wL (As := [pI a1]) (rs := []) dX12_positiveOf_32 lk_RX12_273 vy_X12_sumOf nd_X12_sumOf (hg_X12_sumOf a0 a1 v2.2) rfl rfl (Nat.le_of_ble_eq_true rfl) (Nat.le_refl _) (by omega) (fun v3 => ?_)
    refine pg_lstore_n (i := 2) (lv' := [(2, pL v3.1), (0, pR a0), (1, pI a1)]) dX12_positiveOf_35 rfl (by decide) rfl ?_
    refine pg_aload_n (i := 0) dX12_positiveOf_36 rfl 1 rfl ?_
    refine pg_aload_n (i := 0) dX12_positiveOf_37 rfl 1 rfl ?_
    refine pg_getI dX12_positiveOf_38 fl_RX12_245 rfl (fun v4 => ?_)
    refine pg_callV_oI (As := [pI v4]) (rs := []) dX12_positiveOf_41 lk_RX12_248 vy_X12_codeAt nd_X12_codeAt (c_X12_codeAt l D v3.2 a0 v4) rfl rfl (Nat.le_of_ble_eq_true rfl) (by omega) (by omega) (fun v5 => ?_)
    refine pg_istore (lv' := [(4, pI v5), (2, pL v3.1), (0, pR a0), (1, pI a1)]) dX12_positiveOf_44 (by decide) rfl ?_
    refine pg_aload_n (i := 0) dX12_positiveOf_46 rfl 2 rfl ?_
    refine pg_dup dX12_positiveOf_47 rfl ?_
    refine pg_getI dX12_positiveOf_48 fl_RX12_245 rfl (fun v6 => ?_)
    refine pg_iconst dX12_positiveOf_51 ci_1 ?_
    refine pg_iadd dX12_positiveOf_52 ?_
    refine pg_putI dX12_positiveOf_53 fl_RX12_245 (fun z => by cases z) (fun v7 => ?_)
    refine pg_aload_n (i := 0) dX12_positiveOf_56 rfl 2 rfl ?_
    refine pg_iload_n (i := 1) dX12_positiveOf_57 rfl 3 rfl ?_
    refine pg_callV_wL (As := [pI a1]) (rs := []) dX12_positiveOf_58 lk_RX12_273 vy_X12_sumOf nd_X12_sumOf (hg_X12_sumOf a0 a1 v7) rfl rfl (Nat.le_of_ble_eq_true rfl) (Nat.le_refl _) (by omega) (fun v8 => ?_)
    refine pg_lstore (lv' := [(5, pL v8.1), (4, pI v5), (2, pL v3.1), (0, pR a0), (1, pI a1)]) dX12_positiveOf_61 (by decide) rfl ?_
    refine pg_iload_n (i := 1) dX12_positiveOf_63 rfl 4 rfl ?_
    refine pg_if_eq (tgt := 125) dX12_positiveOf_64 rfl ?_ ?_
    · refine pg_iconst dX12_positiveOf_125 ci_0 ?_
      exact pg_zret dX12_positiveOf_126 rfl (Or.inl rfl) rfl
    · refine pg_aload_n (i := 0) dX12_positiveOf_67 rfl 3 rfl ?_
      refine pg_getI dX12_positiveOf_68 fl_RX12_255 rfl (fun v9 => ?_)
      refine pg_if_ne (tgt := 125) dX12_positiveOf_71 rfl ?_ ?_
      · refine pg_iconst dX12_positiveOf_125 ci_0 ?_
        exact pg_zret dX12_positiveOf_126 rfl (Or.inl rfl) rfl
      · refine pg_iload dX12_positiveOf_74 1 rfl ?_
        refine pg_bipush dX12_positiveOf_76 cb_60 ?_
        refine pg_callS_oI (As := [pI (60 : Int32)]) (rs := [pI v5]) dX12_positiveOf_78 lk_RX12_217 vy_X12_sign nd_X12_sign (c_X12_sign l D (60 : Int32) v8.2) rfl rfl (Nat.le_of_ble_eq_true rfl) (by omega) (by omega) (fun v10 => ?_)
        refine pg_icmp_ne (tgt := 94) dX12_positiveOf_81 rfl ?_ ?_
        · refine pg_iload dX12_positiveOf_94 1 rfl ?_
          refine pg_bipush dX12_positiveOf_96 cb_62 ?_
          refine pg_callS_oI (As := [pI (62 : Int32)]) (rs := [pI v5]) dX12_positiveOf_98 lk_RX12_217 vy_X12_sign nd_X12_sign (c_X12_sign l D (62 : Int32) v8.2) rfl rfl (Nat.le_of_ble_eq_true rfl) (by omega) (by omega) (fun v11 => ?_)
          refine pg_icmp_ne (tgt := 114) dX12_positiveOf_101 rfl ?_ ?_
          · refine pg_lload_n (i := 2) dX12_positiveOf_114 rfl 2 rfl ?_
            refine pg_lload dX12_positiveOf_115 0 rfl ?_
            refine pg_lcmp_ne (tgt := 125) dX12_positiveOf_117 dX12_positiveOf_118 rfl ?_ ?_
            · refine pg_iconst dX12_positiveOf_125 ci_0 ?_
              exact pg_zret dX12_positiveOf_126 rfl (Or.inl rfl) rfl
            · refine pg_iconst dX12_positiveOf_121 ci_1 ?_
              refine pg_goto (tgt := 126) dX12_positiveOf_122 rfl ?_
              exact pg_zret dX12_positiveOf_126 rfl (Or.inr rfl) rfl
          · refine pg_lload_n (i := 2) dX12_positiveOf_104 rfl 2 rfl ?_
            refine pg_lload dX12_positiveOf_105 0 rfl ?_
            refine pg_lcmp_le (tgt := 125) dX12_positiveOf_107 dX12_positiveOf_108 rfl ?_ ?_
            · refine pg_iconst dX12_positiveOf_125 ci_0 ?_
              exact pg_zret dX12_positiveOf_126 rfl (Or.inl rfl) rfl
            · refine pg_goto (tgt := 121) dX12_positiveOf_111 rfl ?_
              refine pg_iconst dX12_positiveOf_121 ci_1 ?_
              refine pg_goto (tgt := 126) dX12_positiveOf_122 rfl ?_
              exact pg_zret dX12_positiveOf_126 rfl (Or.inr rfl) rfl
        · refine pg_lload_n (i := 2) dX12_positiveOf_84 rfl 2 rfl ?_
          refine pg_lload dX12_positiveOf_85 0 rfl ?_
          refine pg_lcmp_ge (tgt := 125) dX12_positiveOf_87 dX12_positiveOf_88 rfl ?_ ?_
          · refine pg_iconst dX12_positiveOf_125 ci_0 ?_
            exact pg_zret dX12_positiveOf_126 rfl (Or.inl rfl) rfl
          · refine pg_goto (tgt := 121) dX12_positiveOf_91 rfl ?_
            refine pg_iconst dX12_positiveOf_121 ci_1 ?_
            refine pg_goto (tgt := 126) dX12_positiveOf_122 rfl ?_
            exact pg_zret dX12_positiveOf_126 rfl (Or.inr rfl) rfl
  · refine pg_aload_n (i := 0) dX12_positiveOf_12 rfl 0 rfl ?_
    refine pg_iload_n (i := 1) dX12_positiveOf_13 rfl 1 rfl ?_
    refine pg_callV_wI (As := [pI a1]) (rs := []) dX12_positiveOf_14 lk_RX12_286 vy_X12_testOf nd_X12_testOf (hg_X12_testOf a0 a1 v2.2) rfl rfl (Nat.le_of_ble_eq_true rfl) (Nat.le_refl _) (by omega) (fun v12 => ?_)
    refine pg_istore_n (i := 2) (lv' := [(2, pI v12.1), (0, pR a0), (1, pI a1)]) dX12_positiveOf_17 rfl (by decide) rfl ?_
    refine pg_aload_n (i := 0) dX12_positiveOf_18 rfl 1 rfl ?_
    refine pg_dup dX12_positiveOf_19 rfl ?_
    refine pg_getI dX12_positiveOf_20 fl_RX12_245 rfl (fun v13 => ?_)
    refine pg_iconst dX12_positiveOf_23 ci_1 ?_
    refine pg_iadd dX12_positiveOf_24 ?_
    refine pg_putI dX12_positiveOf_25 fl_RX12_245 (fun z => by cases z) (fun v14 => ?_)
    refine pg_iload_n (i := 2) dX12_positiveOf_28 rfl 0 rfl ?_
    exact pg_zretq dX12_positiveOf_29 rfl rfl
theorem cg_X12_sumOf (l : Launch) (D : pg_D) : ∀ n : Nat, (∀ (a0 : Nat) (a1 : Int32) (h : pg_H) (x : (Int64 × pg_H)), (FG_X12_sumOf n).1 a0 a1 h = some x → pg_Ct l D yX12_sumOf cX12_sumOf 7 (some FieldType.long) (2 + n) (60 + 26 * n) [pR a0, pI a1] h (pg_wL x)) ∧ (∀ (a0 : Nat) (a1 : Int32) (h : pg_H) (x : (Int64 × pg_H)), (FG_X12_sumOf n).2.1 a0 a1 h = some x → pg_Ct l D yX12_termOf cX12_termOf 7 (some FieldType.long) (2 + n) (60 + 26 * n) [pR a0, pI a1] h (pg_wL x)) ∧ (∀ (a0 : Nat) (a1 : Int32) (h : pg_H) (x : (Int64 × pg_H)), (FG_X12_sumOf n).2.2.1 a0 a1 h = some x → pg_Ct l D yX12_partOf cX12_partOf 4 (some FieldType.long) (2 + n) (60 + 26 * n) [pR a0, pI a1] h (pg_wL x)) ∧ (∀ (a0 : Nat) (a1 : Int32) (h : pg_H) (x : (Int32 × pg_H)), (FG_X12_sumOf n).2.2.2.1 a0 a1 h = some x → pg_Ct l D yX12_testOf cX12_testOf 4 (some FieldType.boolean) (2 + n) (60 + 26 * n) [pR a0, pI a1] h (pg_wI x)) ∧ (∀ (a0 : Nat) (a1 : Int32) (h : pg_H) (x : (Int32 × pg_H)), (FG_X12_sumOf n).2.2.2.2.1 a0 a1 h = some x → pg_Ct l D yX12_bothOf cX12_bothOf 4 (some FieldType.boolean) (2 + n) (60 + 26 * n) [pR a0, pI a1] h (pg_wI x)) ∧ (∀ (a0 : Nat) (a1 : Int32) (h : pg_H) (x : (Int32 × pg_H)), (FG_X12_sumOf n).2.2.2.2.2.1 a0 a1 h = some x → pg_Ct l D yX12_plainOf cX12_plainOf 3 (some FieldType.boolean) (2 + n) (60 + 26 * n) [pR a0, pI a1] h (pg_wI x)) ∧ (∀ (a0 : Nat) (a1 : Int32) (h : pg_H) (x : (Int32 × pg_H)), (FG_X12_sumOf n).2.2.2.2.2.2 a0 a1 h = some x → pg_Ct l D yX12_positiveOf cX12_positiveOf 7 (some FieldType.boolean) (2 + n) (60 + 26 * n) [pR a0, pI a1] h (pg_wI x)) := by
  intro n
  induction n with
  | zero => exact ⟨(fun _ _ _ _ hx => by cases hx), (fun _ _ _ _ hx => by cases hx), (fun _ _ _ _ hx => by cases hx), (fun _ _ _ _ hx => by cases hx), (fun _ _ _ _ hx => by cases hx), (fun _ _ _ _ hx => by cases hx), (fun _ _ _ _ hx => by cases hx)⟩
  | succ n ih =>
    have e1 : 2 + (n + 1) = (2 + n) + 1 := by omega
    have e2 : 60 + 26 * (n + 1) = (60 + 26 * n) + 26 := by omega
    rw [e1, e2]
    exact ⟨fun a0 a1 h => pg_Ct.of pn_RX12 (Nat.le_of_ble_eq_true rfl) (e_X12_sumOf l D (2 + n) (60 + 26 * n) (by omega) (by omega) _ (ih.2.1) a0 a1 h), fun a0 a1 h => pg_Ct.of pn_RX12 (Nat.le_of_ble_eq_true rfl) (e_X12_termOf l D (2 + n) (60 + 26 * n) (by omega) (by omega) _ (ih.2.2.1) a0 a1 h), fun a0 a1 h => pg_Ct.of pn_RX12 (Nat.le_of_ble_eq_true rfl) (e_X12_partOf l D (2 + n) (60 + 26 * n) (by omega) (by omega) _ (ih.1) a0 a1 h), fun a0 a1 h => pg_Ct.of pn_RX12 (Nat.le_of_ble_eq_true rfl) (e_X12_testOf l D (2 + n) (60 + 26 * n) (by omega) (by omega) _ (ih.2.2.2.2.1) a0 a1 h), fun a0 a1 h => pg_Ct.of pn_RX12 (Nat.le_of_ble_eq_true rfl) (e_X12_bothOf l D (2 + n) (60 + 26 * n) (by omega) (by omega) _ (ih.2.2.2.2.2.1) a0 a1 h), fun a0 a1 h => pg_Ct.of pn_RX12 (Nat.le_of_ble_eq_true rfl) (e_X12_plainOf l D (2 + n) (60 + 26 * n) (by omega) (by omega) _ (ih.2.2.2.2.2.2) a0 a1 h), fun a0 a1 h => pg_Ct.of pn_RX12 (Nat.le_of_ble_eq_true rfl) (e_X12_positiveOf l D (2 + n) (60 + 26 * n) (by omega) (by omega) _ _ (ih.1) (ih.2.2.2.1) a0 a1 h)⟩
theorem c_X12_sumOf (l : Launch) (D : pg_D) (a0 : Nat) (a1 : Int32) (h : pg_H) : ∀ x, F_X12_sumOf a0 a1 h = some x → pg_Ct l D yX12_sumOf cX12_sumOf 7 (some FieldType.long) 1302 33860 [pR a0, pI a1] h (pg_wL x) := fun x hx => (cg_X12_sumOf l D 1300).1 a0 a1 h x hx
theorem c_X12_termOf (l : Launch) (D : pg_D) (a0 : Nat) (a1 : Int32) (h : pg_H) : ∀ x, F_X12_termOf a0 a1 h = some x → pg_Ct l D yX12_termOf cX12_termOf 7 (some FieldType.long) 1302 33860 [pR a0, pI a1] h (pg_wL x) := fun x hx => (cg_X12_sumOf l D 1300).2.1 a0 a1 h x hx
theorem c_X12_partOf (l : Launch) (D : pg_D) (a0 : Nat) (a1 : Int32) (h : pg_H) : ∀ x, F_X12_partOf a0 a1 h = some x → pg_Ct l D yX12_partOf cX12_partOf 4 (some FieldType.long) 1302 33860 [pR a0, pI a1] h (pg_wL x) := fun x hx => (cg_X12_sumOf l D 1300).2.2.1 a0 a1 h x hx
theorem c_X12_testOf (l : Launch) (D : pg_D) (a0 : Nat) (a1 : Int32) (h : pg_H) : ∀ x, F_X12_testOf a0 a1 h = some x → pg_Ct l D yX12_testOf cX12_testOf 4 (some FieldType.boolean) 1302 33860 [pR a0, pI a1] h (pg_wI x) := fun x hx => (cg_X12_sumOf l D 1300).2.2.2.1 a0 a1 h x hx
theorem c_X12_bothOf (l : Launch) (D : pg_D) (a0 : Nat) (a1 : Int32) (h : pg_H) : ∀ x, F_X12_bothOf a0 a1 h = some x → pg_Ct l D yX12_bothOf cX12_bothOf 4 (some FieldType.boolean) 1302 33860 [pR a0, pI a1] h (pg_wI x) := fun x hx => (cg_X12_sumOf l D 1300).2.2.2.2.1 a0 a1 h x hx
theorem c_X12_plainOf (l : Launch) (D : pg_D) (a0 : Nat) (a1 : Int32) (h : pg_H) : ∀ x, F_X12_plainOf a0 a1 h = some x → pg_Ct l D yX12_plainOf cX12_plainOf 3 (some FieldType.boolean) 1302 33860 [pR a0, pI a1] h (pg_wI x) := fun x hx => (cg_X12_sumOf l D 1300).2.2.2.2.2.1 a0 a1 h x hx
theorem c_X12_positiveOf (l : Launch) (D : pg_D) (a0 : Nat) (a1 : Int32) (h : pg_H) : ∀ x, F_X12_positiveOf a0 a1 h = some x → pg_Ct l D yX12_positiveOf cX12_positiveOf 7 (some FieldType.boolean) 1302 33860 [pR a0, pI a1] h (pg_wI x) := fun x hx => (cg_X12_sumOf l D 1300).2.2.2.2.2.2 a0 a1 h x hx
