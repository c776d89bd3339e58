section PGS
variable {l : Launch} {D : pg_D} {own : String} {cc : ByteArray} {nL : Nat} {ret : Option FieldType} {nm : String} {df dl pc pc' : Nat} {σ τ : Type} {out : σ → Option pg_pv × pg_H} {F A B : Option σ} {lv lv' : List (Nat × pg_pv)} {st st' rest rs : List pg_pv} {h : pg_H}
theorem pg_tr3 : pg_trR D (pg_lim + 3) = .ref (pg_sa D 3) := by
  unfold pg_trR pg_ad
  rw [if_neg (by decide), if_neg (by decide), Nat.add_sub_cancel_left]
theorem pg_tr4 : pg_trR D (pg_lim + 4) = .ref (pg_sa D 4) := by
  unfold pg_trR pg_ad
  rw [if_neg (by decide), if_neg (by decide), Nat.add_sub_cancel_left]
theorem pg_nret {x : σ} {v : Int32} {ty : FieldType} (hd : decode cc pc = .ok (.ireturn, 1)) (hr : ret = some ty) (hn : narrow ty (.int v) = .int v) (ho : out x = (some (pI v), h)) : pg_EvF l D own cc nL ret nm df dl out (some x) pc lv [pI v] h := by
  intro x' hx'
  cases hx'
  rw [ho]
  refine ⟨⟨Nat.le_refl _, Nat.le_refl _⟩, ?_⟩
  intro p e R s m args below meth c C H locs ls cells slots mc ms S h1 h2 h3 h4
  exact pg_retq h1 h2 (W.zret C.1 C.2.1 (C.2.2.2.2.1.trans hr) hn (fun t ht _ => ⟨rfl, by rw [ht]; exact S.1⟩) S.2.2 hd C.2.2.2.2.2.1)
/-- one step that looks at what lay there before -/
theorem pg_look (hs : ∀ {p : Program} {e : Env} {R : Room} {s : State} {m : MethodId} {args : Array Value} {below : List Frame} {meth : Method} {c : Code} {H : Heap} {locs : List Loc} {cells slots : Nat} {Q : State → Prop} {ls : Array Slot}, pg_Cx D own cc nL ret nm df dl p R s m args meth c → pg_World D h H →
    W p l e R s m args below meth c H locs cells slots Q (F0 m pc' ls (st'.map (pg_tr D))) → W p l e R s m args below meth c H locs cells slots Q (F0 m pc ls (st.map (pg_tr D))))
    (k : pg_EvF l D own cc nL ret nm df dl out F pc' lv st' h) : pg_EvF l D own cc nL ret nm df dl out F pc lv st h := by
  intro x hx
  obtain ⟨hm, hk⟩ := k x hx
  refine ⟨hm, ?_⟩
  intro p e R s m args below meth c C H locs ls cells slots mc ms S h1 h2 h3 h4
  exact hs C S.1 (hk p e R s m args below meth c C H locs ls cells slots mc ms S h1 h2 h3 h4)
theorem pg_strval (hd : decode cc pc = .ok (.getfield 9, 3)) (hl : Cond.fieldLink own 9 "java/lang/String" "value" "[B" ∈ pg_W) (kk : pg_EvF l D own cc nL ret nm df dl out F (pc + 3) lv (pR (pg_lim + 4) :: st) h) : pg_EvF l D own cc nL ret nm df dl out F pc lv (pR (pg_lim + 3) :: st) h := by
  refine pg_look (fun C w k => ?_) kk
  obtain ⟨hx, hb, hml, hown, -, -, -, hts, hK, hfr, hlo⟩ := C
  obtain ⟨-, -, ⟨cf, k', fi, f, cell, g1, g2, g3, g4, g5, g6⟩, -⟩ := hK.2.2.2.2.2.1.1 0 (by decide)
  rw [List.map_cons] at k ⊢
  change W _ _ _ _ _ _ _ _ _ _ _ _ _ _ _ (F0 _ _ _ (pg_trR D (pg_lim + 4) :: _)) at k
  change W _ _ _ _ _ _ _ _ _ _ _ _ _ _ _ (F0 _ _ _ (pg_trR D (pg_lim + 3) :: _))
  rw [pg_tr4] at k
  rw [pg_tr3]
  exact W.getf hx hb hown (hts _ hl) g1 g2 ((w.2.2.1 _ (Nat.not_le.mp g6)).trans g3) g4 g5 rfl rfl hd k
theorem pg_strcod (hd : decode cc pc = .ok (.getfield 15, 3)) (hl : Cond.fieldLink own 15 "java/lang/String" "coder" "B" ∈ pg_W) (kk : pg_EvF l D own cc nL ret nm df dl out F (pc + 3) lv (pI 0 :: st) h) : pg_EvF l D own cc nL ret nm df dl out F pc lv (pR (pg_lim + 3) :: st) h := by
  refine pg_look (fun C w k => ?_) kk
  obtain ⟨hx, hb, hml, hown, -, -, -, hts, hK, hfr, hlo⟩ := C
  obtain ⟨-, ⟨cf, k', fi, f, cell, g1, g2, g3, g4, g5, g6⟩, -, -⟩ := hK.2.2.2.2.2.1.1 0 (by decide)
  rw [List.map_cons] at k ⊢
  change W _ _ _ _ _ _ _ _ _ _ _ _ _ _ _ (F0 _ _ _ (pg_trR D (pg_lim + 3) :: _))
  rw [pg_tr3]
  exact W.getf hx hb hown (hts _ hl) g1 g2 ((w.2.2.1 _ (Nat.not_le.mp g6)).trans g3) g4 g5 rfl rfl hd k
theorem pg_sblen (hd : decode cc pc = .ok (.arraylength, 1)) (kk : pg_EvF l D own cc nL ret nm df dl out F (pc + 1) lv (pI 114 :: st) h) : pg_EvF l D own cc nL ret nm df dl out F pc lv (pR (pg_lim + 4) :: st) h := by
  refine pg_look (fun C w k => ?_) kk
  obtain ⟨hx, hb, hml, hown, -, -, -, hts, hK, hfr, hlo⟩ := C
  obtain ⟨-, -, -, cell, g1, g2, g3, g4, g5, g6, g7⟩ := hK.2.2.2.2.2.1.1 0 (by decide)
  rw [List.map_cons] at k ⊢
  change W _ _ _ _ _ _ _ _ _ _ _ _ _ _ _ (F0 _ _ _ (pg_trR D (pg_lim + 4) :: _))
  rw [pg_tr4]
  exact W.alen hx hb ((w.2.2.1 _ (Nat.not_le.mp g7)).trans g1) g2 g5 rfl rfl hd k
theorem pg_sbald {j : Int32} (hj : ¬ (j < 0 ∨ 114 ≤ j.toNatClampNeg)) (hd : decode cc pc = .ok (.baload, 1)) (kk : pg_EvF l D own cc nL ret nm df dl out F (pc + 1) lv (pI (pg_bJ.getD j.toNatClampNeg 0) :: st) h) : pg_EvF l D own cc nL ret nm df dl out F pc lv (pI j :: pR (pg_lim + 4) :: st) h := by
  refine pg_look (fun C w k => ?_) kk
  obtain ⟨hx, hb, hml, hown, -, -, -, hts, hK, hfr, hlo⟩ := C
  obtain ⟨-, -, -, cell, g1, g2, g3, g4, g5, g6, g7⟩ := hK.2.2.2.2.2.1.1 0 (by decide)
  have g4' : 114 ≤ cell.slots.size := g4
  have hlt : j.toNatClampNeg < 114 := Nat.not_le.mp fun q => hj (Or.inr q)
  rw [List.map_cons, List.map_cons] at ⊢
  change W _ _ _ _ _ _ _ _ _ _ _ _ _ _ _ (F0 _ _ _ (.int j :: pg_trR D (pg_lim + 4) :: _))
  rw [pg_tr4]
  exact W.bald hx hb ((w.2.2.1 _ (Nat.not_le.mp g7)).trans g1) g2 g3 (fun q => hj (q.imp id fun z => by omega)) (g6 _ hlt) rfl rfl hd k
theorem pg_getsCS (hd : decode cc pc = .ok (.getstatic 38, 3)) (hw : Cond.fieldLink own 38 "java/lang/String" "COMPACT_STRINGS" "Z" ∈ pg_W) (kk : pg_EvF l D own cc nL ret nm df dl out F (pc + 3) lv (pI 1 :: st) h) : pg_EvF l D own cc nL ret nm df dl out F pc lv st h := by
  refine pg_look (fun C w k => ?_) kk
  obtain ⟨hx, hb, hml, hown, -, -, -, hts, hK, hfr, hlo⟩ := C
  obtain ⟨cf, kf, fi, f, a, cell, g1, g2, g3, g4, g5, g6, g7, g8⟩ := hK.2.2.2.2.2.2.2.1
  exact W.gets hx hb hown (hts _ hw) g1 g2 g3 g4 ((w.2.2.1 a (Nat.not_le.mp g8)).trans g5) (fun z => by rw [z] at g6; cases g6) g7 rfl hd k
theorem pg_getsSI (hd : decode cc pc = .ok (.getstatic 1053, 3)) (hw : Cond.fieldLink own 1053 "jdk/internal/util/Preconditions" "SIOOBE_FORMATTER" "Ljava/util/function/BiFunction;" ∈ pg_W) (kk : pg_EvF l D own cc nL ret nm df dl out F (pc + 3) lv (pR (pg_sa D 6) :: st) h) : pg_EvF l D own cc nL ret nm df dl out F pc lv st h := by
  refine pg_look (fun C w k => ?_) kk
  obtain ⟨hx, hb, hml, hown, -, -, -, hts, hK, hfr, hlo⟩ := C
  obtain ⟨cf, kf, fi, f, a, cell, g1, g2, g3, g4, g5, g6, g7, g8⟩ := hK.2.2.2.2.2.2.2.2.1
  exact W.gets hx hb hown (hts _ hw) g1 g2 g3 g4 ((w.2.2.1 a (Nat.not_le.mp g8)).trans g5) (fun z => by rw [z] at g6; cases g6) g7 rfl hd k
/-- a call that is known to answer v -/
theorem pg_K1 {v x : Int32} (k : pg_EvF l D own cc nL ret nm df dl out F pc lv (pI v :: st) h) : pg_EvF l D own cc nL ret nm df dl out (if x = v then F else none) pc lv (pI x :: st) h := by
  by_cases e : x = v
  · rw [if_pos e, e]; exact k
  · rw [if_neg e]; exact pg_none
theorem pg_callSd {v : Int32} {i maxL df' dl' n : Nat} {y : MethodName} {bytes : ByteArray} {rt : Option FieldType} {As : List pg_pv} (hd : decode cc pc = .ok (.invokestatic i, 3)) (hl : pg_lk own i y) (hy : pg_yS y bytes maxL rt) (hn : pg_nd y n) (hM : pg_Ct l D y bytes maxL rt df' dl' As h (some (pI v), h)) (hA : As.length = n) (hst : st = As.reverse ++ rs) (hcat : (rs.map pg_cat).sum ≤ 8) (hdf : df' + 1 ≤ df) (hdl : 8 + (maxL + 11) + dl' ≤ dl) (kk : pg_EvF l D own cc nL ret nm df dl out F (pc + 3) lv (pI v :: rs) h) : pg_EvF l D own cc nL ret nm df dl out F pc lv st h := by
  have := pg_callS_oI (G := some v) (K := fun x => if x = v then F else none) (out := out) hd hl hy hn (fun x hx => by cases hx; exact hM) hA hst hcat hdf hdl (fun x => pg_K1 kk)
  rw [Option.bind_some, if_pos rfl] at this
  exact this
theorem pg_callSv {i maxL df' dl' n : Nat} {y : MethodName} {bytes : ByteArray} {rt : Option FieldType} {As : List pg_pv} (hd : decode cc pc = .ok (.invokestatic i, 3)) (hl : pg_lk own i y) (hy : pg_yS y bytes maxL rt) (hn : pg_nd y n) (hM : pg_Ct l D y bytes maxL rt df' dl' As h (none, h)) (hA : As.length = n) (hst : st = As.reverse ++ rs) (hcat : (rs.map pg_cat).sum ≤ 8) (hdf : df' + 1 ≤ df) (hdl : 8 + (maxL + 11) + dl' ≤ dl) (kk : pg_EvF l D own cc nL ret nm df dl out F (pc + 3) lv rs h) : pg_EvF l D own cc nL ret nm df dl out F pc lv st h := by
  have := pg_callS_oV (G := some ()) (K := fun _ => F) (out := out) hd hl hy hn (fun x hx => by cases hx; exact hM) hA hst hcat hdf hdl (fun x => kk)
  rw [Option.bind_some] at this
  exact this
/-- a call on the String constant -/
theorem pg_callT {G : Option τ} {K : τ → Option σ} {og : τ → Option pg_pv × pg_H} {i maxL df' dl' n : Nat} {y : MethodName} {bytes : ByteArray} {rt : Option FieldType} {As : List pg_pv} (hd : decode cc pc = .ok (.invokevirtual i, 3)) (hl : Cond.methodLink own i y ∈ pg_W) (hy : y.cls = "java/lang/String" ∧ Cond.instanceMethod y ∈ pg_W ∧ Cond.selects y.cls y y ∈ pg_W ∧ Cond.initialized y.cls ∈ pg_W ∧ Cond.code y bytes maxL rt ∈ pg_W) (hn : pg_nd y n) (hM : ∀ x, G = some x → pg_Ct l D y bytes maxL rt df' dl' (pR (pg_lim + 3) :: As) h (og x)) (hA : As.length = n) (hst : st = As.reverse ++ pR (pg_lim + 3) :: rs) (hcat : (rs.map pg_cat).sum ≤ 8) (hdf : df' + 1 ≤ df) (hdl : 8 + (maxL + 11) + dl' ≤ dl)
    (kk : ∀ x, pg_EvF l D own cc nL ret nm df dl out (K x) (pc + 3) lv ((og x).1.toList ++ rs) (og x).2) : pg_EvF l D own cc nL ret nm df dl out (Option.bind G K) pc lv st h := by
  refine pg_callrow (rs := rs) (fun x hx => ?_) kk
  obtain ⟨hm, hMet⟩ := hM x hx
  refine ⟨hm, (Value.ref (pg_sa D 3) :: As.map (pg_tr D)).toArray, ?_⟩
  intro p e R s m args below meth c0 H locs ls cells slots C w hsz hc1 hs1
  obtain ⟨hx, hb, hml, hown, -, -, -, hts, hK, hfr, hlo⟩ := C
  obtain ⟨hyc, hin, hse, hini, hcode⟩ := hy
  obtain ⟨⟨cell, g1, g2, g3, g4⟩, -⟩ := hK.2.2.2.2.2.1.1 0 (by decide)
  rw [← hyc] at g3
  have hws : ∀ w ∈ Cond.code y bytes maxL rt :: pg_W, w ∈ pg_W := fun w hw => by
    rcases List.mem_cons.mp hw with z | z
    · rw [z]; exact hcode
    · exact z
  have hlen : ∀ sig, parseMethodDescriptor y.desc = some sig → n = sig.parameters.length := fun sig hsig => by
    have z := hn.2.2
    rw [hsig] at z
    exact (Option.some.inj z).symm
  have hp : PreV s H y.cls (pg_sa D 3) (pg_Pc D (pR (pg_lim + 3) :: As) h) (As.map (pg_tr D)) := ⟨pg_blind, ⟨cell, (w.2.2.1 _ (Nat.not_le.mp g4)).trans g1, g2, g3⟩, fun U hU hW => ⟨by rw [← pg_tr3]; rfl, by rw [hU]; exact w, hK.warm hW⟩⟩
  have hstk : st.map (pg_tr D) = (As.map (pg_tr D)).reverse ++ .ref (pg_sa D 3) :: rs.map (pg_tr D) := by
    rw [hst, List.map_append, List.map_reverse, List.map_cons, ← pg_tr3]
    rfl
  have hpay := pay_in (s := s) hts (pg_goodIn hws)
  exact va_runV (Ts := pg_W) ⟨hx, hb, hml, hown, hts⟩ hMet ⟨⟨rfl, rfl, by show df' + 1 ≤ R.frames; omega, by show 8 + (maxL + 11) + dl' ≤ R.locals; omega, hpay, List.mem_cons_self, hts _ hcode, hts _ hini, ⟨hn.1, hn.2.1⟩, hlen, hts _ hl⟩, hts _ hin, hts _ hse⟩ hp rfl (by rw [List.length_map]; exact hA) hsz hstk (lv_room (pg_room hcat)) hd ⟨hc1, hs1⟩
theorem pg_callTd {v : Int32} {i maxL df' dl' n : Nat} {y : MethodName} {bytes : ByteArray} {rt : Option FieldType} {As : List pg_pv} (hd : decode cc pc = .ok (.invokevirtual i, 3)) (hl : Cond.methodLink own i y ∈ pg_W) (hy : y.cls = "java/lang/String" ∧ Cond.instanceMethod y ∈ pg_W ∧ Cond.selects y.cls y y ∈ pg_W ∧ Cond.initialized y.cls ∈ pg_W ∧ Cond.code y bytes maxL rt ∈ pg_W) (hn : pg_nd y n) (hM : pg_Ct l D y bytes maxL rt df' dl' (pR (pg_lim + 3) :: As) h (some (pI v), h)) (hA : As.length = n) (hst : st = As.reverse ++ pR (pg_lim + 3) :: rs) (hcat : (rs.map pg_cat).sum ≤ 8) (hdf : df' + 1 ≤ df) (hdl : 8 + (maxL + 11) + dl' ≤ dl) (kk : pg_EvF l D own cc nL ret nm df dl out F (pc + 3) lv (pI v :: rs) h) : pg_EvF l D own cc nL ret nm df dl out F pc lv st h := by
  have := pg_callT (G := some v) (K := fun x => if x = v then F else none) (og := pg_oI h) (out := out) hd hl hy hn (fun x hx => by cases hx; exact hM) hA hst hcat hdf hdl (fun x => pg_K1 kk)
  rw [Option.bind_some, if_pos rfl] at this
  exact this
end PGS
theorem yt_len : yJ0_length_8abf5.cls = "java/lang/String" ∧ Cond.instanceMethod yJ0_length_8abf5 ∈ pg_W ∧ Cond.selects yJ0_length_8abf5.cls yJ0_length_8abf5 yJ0_length_8abf5 ∈ pg_W ∧ Cond.initialized yJ0_length_8abf5.cls ∈ pg_W ∧ Cond.code yJ0_length_8abf5 cJ0_length_8abf5 1 (some .int) ∈ pg_W := ⟨rfl, tb_3 (i := 128) rfl rfl, tb_3 (i := 129) rfl rfl, tb_1 (i := 16) rfl rfl, tb_3 (i := 130) rfl rfl⟩
theorem yt_cod : yJ0_coder_7d493.cls = "java/lang/String" ∧ Cond.instanceMethod yJ0_coder_7d493 ∈ pg_W ∧ Cond.selects yJ0_coder_7d493.cls yJ0_coder_7d493 yJ0_coder_7d493 ∈ pg_W ∧ Cond.initialized yJ0_coder_7d493.cls ∈ pg_W ∧ Cond.code yJ0_coder_7d493 cJ0_coder_7d493 1 (some .byte) ∈ pg_W := ⟨rfl, tb_3 (i := 132) rfl rfl, tb_3 (i := 133) rfl rfl, tb_1 (i := 16) rfl rfl, tb_3 (i := 134) rfl rfl⟩
theorem yt_at : yJ0_charAt_5068e.cls = "java/lang/String" ∧ Cond.instanceMethod yJ0_charAt_5068e ∈ pg_W ∧ Cond.selects yJ0_charAt_5068e.cls yJ0_charAt_5068e yJ0_charAt_5068e ∈ pg_W ∧ Cond.initialized yJ0_charAt_5068e.cls ∈ pg_W ∧ Cond.code yJ0_charAt_5068e cJ0_charAt_5068e 2 (some .char) ∈ pg_W := ⟨rfl, tb_3 (i := 138) rfl rfl, tb_3 (i := 139) rfl rfl, tb_1 (i := 16) rfl rfl, tb_3 (i := 140) rfl rfl⟩
theorem yt_lat : yJ0_isLatin1_aae02.cls = "java/lang/String" ∧ Cond.instanceMethod yJ0_isLatin1_aae02 ∈ pg_W ∧ Cond.selects yJ0_isLatin1_aae02.cls yJ0_isLatin1_aae02 yJ0_isLatin1_aae02 ∈ pg_W ∧ Cond.initialized yJ0_isLatin1_aae02.cls ∈ pg_W ∧ Cond.code yJ0_isLatin1_aae02 cJ0_isLatin1_aae02 1 (some .boolean) ∈ pg_W := ⟨rfl, tb_3 (i := 142) rfl rfl, tb_3 (i := 143) rfl rfl, tb_1 (i := 16) rfl rfl, tb_3 (i := 144) rfl rfl⟩
theorem yt_ndl : pg_nd yJ0_length_8abf5 0 := ⟨by decide +kernel, by decide +kernel, by decide +kernel⟩
theorem yt_ndc : pg_nd yJ0_coder_7d493 0 := ⟨by decide +kernel, by decide +kernel, by decide +kernel⟩
theorem yt_nda : pg_nd yJ0_charAt_5068e 1 := ⟨by decide +kernel, by decide +kernel, by decide +kernel⟩
theorem yt_ndi : pg_nd yJ0_isLatin1_aae02 0 := ⟨by decide +kernel, by decide +kernel, by decide +kernel⟩
theorem yt_nd1 : pg_nd yJ1_charAt_3b067 2 := ⟨by decide +kernel, by decide +kernel, by decide +kernel⟩
theorem yt_ndk : pg_nd yJ0_checkIndex_df160 2 := ⟨by decide +kernel, by decide +kernel, by decide +kernel⟩
theorem yt_ndp : pg_nd yJ3_checkIndex_8e157 3 := ⟨by decide +kernel, by decide +kernel, by decide +kernel⟩
theorem yt_v1 : pg_yS yJ1_charAt_3b067 cJ1_charAt_3b067 2 (some .char) := ⟨tb_3 (i := 146) rfl rfl, tb_1 (i := 17) rfl rfl, tb_3 (i := 147) rfl rfl⟩
theorem yt_vk : pg_yS yJ0_checkIndex_df160 cJ0_checkIndex_df160 2 none := ⟨tb_3 (i := 149) rfl rfl, tb_1 (i := 16) rfl rfl, tb_3 (i := 150) rfl rfl⟩
theorem yt_vp : pg_yS yJ3_checkIndex_8e157 cJ3_checkIndex_8e157 3 (some .int) := ⟨tb_3 (i := 154) rfl rfl, tb_1 (i := 18) rfl rfl, tb_3 (i := 155) rfl rfl⟩
theorem yt_w9 : Cond.fieldLink RJ0 9 "java/lang/String" "value" "[B" ∈ pg_W := tb_8 (i := 207) rfl rfl
theorem yt_w15 : Cond.fieldLink RJ0 15 "java/lang/String" "coder" "B" ∈ pg_W := tb_8 (i := 208) rfl rfl
theorem yt_w38 : Cond.fieldLink RJ0 38 "java/lang/String" "COMPACT_STRINGS" "Z" ∈ pg_W := tb_3 (i := 135) rfl rfl
theorem yt_w1053 : Cond.fieldLink RJ0 1053 "jdk/internal/util/Preconditions" "SIOOBE_FORMATTER" "Ljava/util/function/BiFunction;" ∈ pg_W := tb_3 (i := 151) rfl rfl
theorem yt_coder (l : Launch) (D : pg_D) (h : pg_H) : pg_Ct l D yJ0_coder_7d493 cJ0_coder_7d493 1 (some .byte) 0 0 [pR (pg_lim + 3)] h (some (pI 0), h) := by
  refine pg_Ct.of (F := some (0 : Int32)) (out := pg_oI h) (by decide +kernel) (Nat.le_of_ble_eq_true rfl) ?_ 0 rfl
  refine pg_getsCS dJ0_coder_7d493_0 yt_w38 ?_
  have k : pg_EvF l D RJ0 cJ0_coder_7d493 1 (some .byte) "coder" 0 0 (pg_oI h) (if (1 : Int32) = 0 then none else some (0 : Int32)) 3 [(0, pR (pg_lim + 3))] [pI 1] h := by
    refine pg_if_eq (tgt := 13) dJ0_coder_7d493_3 rfl pg_none ?_
    refine pg_aload_n (i := 0) dJ0_coder_7d493_6 rfl 0 rfl ?_
    refine pg_strcod dJ0_coder_7d493_7 yt_w15 ?_
    refine pg_goto (tgt := 14) dJ0_coder_7d493_10 rfl ?_
    exact pg_nret dJ0_coder_7d493_14 rfl rfl rfl
  exact k
theorem yt_latin (l : Launch) (D : pg_D) (h : pg_H) : pg_Ct l D yJ0_isLatin1_aae02 cJ0_isLatin1_aae02 1 (some .boolean) 0 0 [pR (pg_lim + 3)] h (some (pI 1), h) := by
  refine pg_Ct.of (F := some (1 : Int32)) (out := pg_oI h) (by decide +kernel) (Nat.le_of_ble_eq_true rfl) ?_ 1 rfl
  refine pg_getsCS dJ0_isLatin1_aae02_0 yt_w38 ?_
  have k : pg_EvF l D RJ0 cJ0_isLatin1_aae02 1 (some .boolean) "isLatin1" 0 0 (pg_oI h) (if (1 : Int32) = 0 then none else (if (0 : Int32) = 0 then some (1 : Int32) else none)) 3 [(0, pR (pg_lim + 3))] [pI 1] h := by
    refine pg_if_eq (tgt := 17) dJ0_isLatin1_aae02_3 rfl pg_none ?_
    refine pg_aload_n (i := 0) dJ0_isLatin1_aae02_6 rfl 0 rfl ?_
    refine pg_strcod dJ0_isLatin1_aae02_7 yt_w15 ?_
    refine pg_if_ne (tgt := 17) dJ0_isLatin1_aae02_10 rfl pg_none ?_
    refine pg_iconst dJ0_isLatin1_aae02_13 ci_1 ?_
    refine pg_goto (tgt := 18) dJ0_isLatin1_aae02_14 rfl ?_
    exact pg_nret dJ0_isLatin1_aae02_18 rfl rfl rfl
  exact k
theorem yt_length (l : Launch) (D : pg_D) (h : pg_H) : pg_Ct l D yJ0_length_8abf5 cJ0_length_8abf5 1 (some .int) 1 30 [pR (pg_lim + 3)] h (some (pI 114), h) := by
  refine pg_Ct.of (F := some (114 : Int32)) (out := pg_oI h) (by decide +kernel) (Nat.le_of_ble_eq_true rfl) ?_ 114 rfl
  refine pg_aload_n (i := 0) (x := pg_lim + 3) dJ0_length_8abf5_0 rfl 0 rfl ?_
  refine pg_strval dJ0_length_8abf5_1 yt_w9 ?_
  refine pg_sblen dJ0_length_8abf5_4 ?_
  refine pg_aload_n (i := 0) (x := pg_lim + 3) dJ0_length_8abf5_5 rfl 0 rfl ?_
  refine pg_callTd (v := 0) (As := []) (rs := [pI 114]) dJ0_length_8abf5_6 (tb_3 (i := 131) rfl rfl) yt_cod yt_ndc (yt_coder l D h) rfl rfl (Nat.le_of_ble_eq_true rfl) (by decide) (by decide) ?_
  refine pg_ishr dJ0_length_8abf5_9 ?_
  exact pg_nret dJ0_length_8abf5_10 rfl rfl rfl
theorem yt_prec (l : Launch) (D : pg_D) (h : pg_H) (j : Int32) (z : Nat) (hj : ¬ (j < 0 ∨ 114 ≤ j.toNatClampNeg)) : pg_Ct l D yJ3_checkIndex_8e157 cJ3_checkIndex_8e157 3 (some .int) 0 0 [pI j, pI 114, pR z] h (some (pI j), h) := by
  have h0 : ¬ j < 0 := fun q => hj (Or.inl q)
  have h1 : j < 114 := by
    rw [Int32.lt_iff_toInt_lt]
    have := pg_nn j h0
    have h2 : ¬ 114 ≤ j.toNatClampNeg := fun q => hj (Or.inr q)
    show j.toInt < 114
    omega
  have k : pg_EvF l D RJ3 cJ3_checkIndex_8e157 3 (some .int) "checkIndex" 0 0 (pg_oI h) (if j < 0 then none else (if j < 114 then some j else none)) 0 [(0, pI j), (1, pI 114), (2, pR z)] [] h := by
    refine pg_iload_n (i := 0) dJ3_checkIndex_8e157_0 rfl 0 rfl ?_
    refine pg_if_lt (tgt := 9) dJ3_checkIndex_8e157_1 rfl pg_none ?_
    refine pg_iload_n (i := 0) dJ3_checkIndex_8e157_4 rfl 0 rfl ?_
    refine pg_iload_n (i := 1) dJ3_checkIndex_8e157_5 rfl 1 rfl ?_
    refine pg_icmp_lt (tgt := 16) dJ3_checkIndex_8e157_6 rfl ?_ pg_none
    refine pg_iload_n (i := 0) dJ3_checkIndex_8e157_16 rfl 0 rfl ?_
    exact pg_nret dJ3_checkIndex_8e157_17 rfl rfl rfl
  rw [if_neg h0, if_pos h1] at k
  exact pg_Ct.of (F := some j) (out := pg_oI h) (by decide +kernel) (Nat.le_of_ble_eq_true rfl) k j rfl
theorem yt_chk (l : Launch) (D : pg_D) (h : pg_H) (j : Int32) (hj : ¬ (j < 0 ∨ 114 ≤ j.toNatClampNeg)) : pg_Ct l D yJ0_checkIndex_df160 cJ0_checkIndex_df160 2 none 1 30 [pI j, pI 114] h (none, h) := by
  refine pg_Ct.of (F := some ()) (out := pg_oV h) (by decide +kernel) (Nat.le_of_ble_eq_true rfl) ?_ () rfl
  refine pg_iload_n (i := 0) (x := j) dJ0_checkIndex_df160_0 rfl 0 rfl ?_
  refine pg_iload_n (i := 1) (x := 114) dJ0_checkIndex_df160_1 rfl 1 rfl ?_
  refine pg_getsSI dJ0_checkIndex_df160_2 yt_w1053 ?_
  refine pg_callSd (v := j) (As := [pI j, pI 114, pR (pg_sa D 6)]) (rs := []) dJ0_checkIndex_df160_5 (Or.inl (tb_3 (i := 153) rfl rfl)) yt_vp yt_ndp (yt_prec l D h j _ hj) rfl rfl (Nat.le_of_ble_eq_true rfl) (by decide) (by decide) ?_
  refine pg_pop dJ0_checkIndex_df160_8 rfl ?_
  exact pg_vret dJ0_checkIndex_df160_9 rfl rfl
theorem yt_byte : ∀ k, k < 114 → ((pg_bJ.getD k 0 &&& 255).toUInt32 % 65536).toInt32 = pg_bJ.getD k 0 ∧ narrow .char (.int (pg_bJ.getD k 0)) = .int (pg_bJ.getD k 0) := by decide +kernel
theorem yt_lat1 (l : Launch) (D : pg_D) (h : pg_H) (j : Int32) (hj : ¬ (j < 0 ∨ 114 ≤ j.toNatClampNeg)) : pg_Ct l D yJ1_charAt_3b067 cJ1_charAt_3b067 2 (some .char) 2 60 [pR (pg_lim + 4), pI j] h (some (pI (pg_bJ.getD j.toNatClampNeg 0)), h) := by
  have hb := yt_byte j.toNatClampNeg (Nat.not_le.mp fun q => hj (Or.inr q))
  refine pg_Ct.of (F := some (pg_bJ.getD j.toNatClampNeg 0)) (out := pg_oI h) (by decide +kernel) (Nat.le_of_ble_eq_true rfl) ?_ _ rfl
  refine pg_iload_n (i := 1) (x := j) dJ1_charAt_3b067_0 rfl 1 rfl ?_
  refine pg_aload_n (i := 0) (x := pg_lim + 4) dJ1_charAt_3b067_1 rfl 0 rfl ?_
  refine pg_sblen dJ1_charAt_3b067_2 ?_
  refine pg_callSv (As := [pI j, pI 114]) (rs := []) dJ1_charAt_3b067_3 (Or.inl (tb_3 (i := 148) rfl rfl)) yt_vk yt_ndk (yt_chk l D h j hj) rfl rfl (Nat.le_of_ble_eq_true rfl) (by decide) (by decide) ?_
  refine pg_aload_n (i := 0) (x := pg_lim + 4) dJ1_charAt_3b067_6 rfl 0 rfl ?_
  refine pg_iload_n (i := 1) (x := j) dJ1_charAt_3b067_7 rfl 1 rfl ?_
  refine pg_sbald hj dJ1_charAt_3b067_8 ?_
  refine pg_sipush (v := 255) dJ1_charAt_3b067_9 (by decide) ?_
  refine pg_iand dJ1_charAt_3b067_12 ?_
  refine pg_i2c dJ1_charAt_3b067_13 ?_
  rw [hb.1]
  exact pg_nret dJ1_charAt_3b067_14 rfl hb.2 rfl
theorem yt_charAt (l : Launch) (D : pg_D) (h : pg_H) (j : Int32) (hj : ¬ (j < 0 ∨ 114 ≤ j.toNatClampNeg)) : pg_Ct l D yJ0_charAt_5068e cJ0_charAt_5068e 2 (some .char) 3 90 [pR (pg_lim + 3), pI j] h (some (pI (pg_bJ.getD j.toNatClampNeg 0)), h) := by
  have hb := yt_byte j.toNatClampNeg (Nat.not_le.mp fun q => hj (Or.inr q))
  refine pg_Ct.of (F := some (pg_bJ.getD j.toNatClampNeg 0)) (out := pg_oI h) (by decide +kernel) (Nat.le_of_ble_eq_true rfl) ?_ _ rfl
  refine pg_aload_n (i := 0) (x := pg_lim + 3) dJ0_charAt_5068e_0 rfl 0 rfl ?_
  refine pg_callTd (v := 1) (As := []) (rs := []) dJ0_charAt_5068e_1 (tb_3 (i := 141) rfl rfl) yt_lat yt_ndi (yt_latin l D h) rfl rfl (Nat.le_of_ble_eq_true rfl) (by decide) (by decide) ?_
  have k : pg_EvF l D RJ0 cJ0_charAt_5068e 2 (some .char) "charAt" 3 90 (pg_oI h) (if (1 : Int32) = 0 then none else some (pg_bJ.getD j.toNatClampNeg 0)) 4 [(0, pR (pg_lim + 3)), (1, pI j)] [pI 1] h := by
    refine pg_if_eq (tgt := 16) dJ0_charAt_5068e_4 rfl pg_none ?_
    refine pg_aload_n (i := 0) dJ0_charAt_5068e_7 rfl 0 rfl ?_
    refine pg_strval dJ0_charAt_5068e_8 yt_w9 ?_
    refine pg_iload_n (i := 1) dJ0_charAt_5068e_11 rfl 1 rfl ?_
    refine pg_callSd (As := [pR (pg_lim + 4), pI j]) (rs := []) dJ0_charAt_5068e_12 (Or.inl (tb_3 (i := 145) rfl rfl)) yt_v1 yt_nd1 (yt_lat1 l D h j hj) rfl rfl (Nat.le_of_ble_eq_true rfl) (by decide) (by decide) ?_
    exact pg_nret dJ0_charAt_5068e_15 rfl hb.2 rfl
  exact k
section PGT
variable {l : Launch} {D : pg_D} {own : String} {cc : ByteArray} {nL : Nat} {ret : Option FieldType} {nm : String} {df dl pc pc' : Nat} {σ τ : Type} {out : σ → Option pg_pv × pg_H} {F A B : Option σ} {lv lv' : List (Nat × pg_pv)} {st st' rest rs : List pg_pv} {h : pg_H}
theorem pg_strlen {K : Int32 → Option σ} {i r : Nat} (hd : decode cc pc = .ok (.invokevirtual i, 3)) (hl : Cond.methodLink own i yJ0_length_8abf5 ∈ pg_W) (hcat : (st.map pg_cat).sum ≤ 8) (hdf : 6 ≤ df) (hdl : 200 ≤ dl) (kk : ∀ x, pg_EvF l D own cc nL ret nm df dl out (K x) (pc + 3) lv (pI x :: st) h) : pg_EvF l D own cc nL ret nm df dl out (Option.bind (pg_slen r) K) pc lv (pR r :: st) h := by
  by_cases hr : r = pg_lim + 3
  · subst hr
    refine pg_callT (og := pg_oI h) (df' := 1) (dl' := 30) (As := []) (rs := st) hd hl yt_len yt_ndl (fun x hx => ?_) rfl rfl hcat (by omega) (by omega) kk
    have e : pg_slen (pg_lim + 3) = some 114 := if_pos rfl
    rw [e] at hx
    cases hx
    exact yt_length l D h
  · have e : pg_slen r = none := if_neg hr
    rw [e]
    exact pg_none
theorem pg_strat {K : Int32 → Option σ} {i r : Nat} {j : Int32} (hd : decode cc pc = .ok (.invokevirtual i, 3)) (hl : Cond.methodLink own i yJ0_charAt_5068e ∈ pg_W) (hcat : (st.map pg_cat).sum ≤ 8) (hdf : 6 ≤ df) (hdl : 200 ≤ dl) (kk : ∀ x, pg_EvF l D own cc nL ret nm df dl out (K x) (pc + 3) lv (pI x :: st) h) : pg_EvF l D own cc nL ret nm df dl out (Option.bind (pg_sat r j) K) pc lv (pI j :: pR r :: st) h := by
  by_cases hr : r = pg_lim + 3 ∧ ¬ (j < 0 ∨ 114 ≤ j.toNatClampNeg)
  · obtain ⟨hr, hj⟩ := hr
    subst hr
    refine pg_callT (og := pg_oI h) (df' := 3) (dl' := 90) (As := [pI j]) (rs := st) hd hl yt_at yt_nda (fun x hx => ?_) rfl rfl hcat (by omega) (by omega) kk
    have e : pg_sat (pg_lim + 3) j = some (pg_bJ.getD j.toNatClampNeg 0) := if_pos ⟨rfl, hj⟩
    rw [e] at hx
    cases hx
    exact yt_charAt l D h j hj
  · have e : pg_sat r j = none := if_neg hr
    rw [e]
    exact pg_none
end PGT
