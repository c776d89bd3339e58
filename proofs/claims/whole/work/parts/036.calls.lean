def pg_args : Nat → List pg_pv → List (Nat × pg_pv)
  | _, [] => []
  | i, v :: vs => (i, v) :: pg_args (if pg_cat v = 2 then i + 2 else i + 1) vs
theorem pg_args_tr (D : pg_D) : ∀ (vs : List pg_pv) (i : Nat), lv_args i (vs.map (pg_tr D)) = (pg_args i vs).map (pg_tq D)
  | [], _ => rfl
  | v :: vs, i => by
    show (i, pg_tr D v) :: lv_args (if (pg_tr D v).category = 2 then i + 2 else i + 1) (vs.map (pg_tr D)) = (i, pg_tr D v) :: (pg_args (if pg_cat v = 2 then i + 2 else i + 1) vs).map (pg_tq D)
    rw [pg_trcat, pg_args_tr D vs]
theorem pg_lg (D : pg_D) : ∀ (vs : List pg_pv), (lg_sl (vs.map (pg_tr D))).length = (vs.map pg_cat).sum
  | [] => rfl
  | v :: vs => by
    have ih := pg_lg D vs
    have hc := pg_trcat (D := D) v
    have e : lg_sl ((v :: vs).map (pg_tr D)) = (if (pg_tr D v).category = 2 then [.val (pg_tr D v), .second] else [.val (pg_tr D v)]) ++ lg_sl (vs.map (pg_tr D)) := rfl
    rw [e, List.length_append, ih, List.map_cons, List.sum_cons, ← hc]
    rcases lv_cat (pg_tr D v) with h | h <;> rw [h] <;> rfl
def pg_Pc (D : pg_D) (As : List pg_pv) (h : pg_H) : Array Value → State → Prop := fun v U => v = (As.map (pg_tr D)).toArray ∧ pg_World D h U.heap ∧ pg_K D U
/-- the contract of a method at these arguments and this heap: it returns res -/
def pg_Ct (l : Launch) (D : pg_D) (y : MethodName) (cc : ByteArray) (nL : Nat) (ret : Option FieldType) (df dl : Nat) (As : List pg_pv) (h : pg_H) (res : Option pg_pv × pg_H) : Prop :=
  (h.1 ≤ res.2.1 ∧ h.2.1 ≤ res.2.2.1) ∧ Met l y (Cond.code y cc nL ret :: pg_W) { frames := df, cells := res.2.1 - h.1, slots := res.2.2.1 - h.2.1, locals := dl } (pg_Pc D As h) (pg_Qc D res) (res.2.1 - h.1) (res.2.2.1 - h.2.1) (pg_A D)
theorem pg_Ct.of {l : Launch} {D : pg_D} {y : MethodName} {cc : ByteArray} {nL : Nat} {ret : Option FieldType} {df dl : Nat} {σ : Type} {out : σ → Option pg_pv × pg_H} {F : Option σ} {As : List pg_pv} {h : pg_H} (hy : plainName y.cls = true) (hlen : (As.map pg_cat).sum ≤ nL) (hev : pg_EvF l D y.cls cc nL ret y.name df dl out F 0 (pg_args 0 As) [] h) (x : σ) (hx : F = some x) : pg_Ct l D y cc nL ret df dl As h (out x) := by
  obtain ⟨hm, hk⟩ := hev x hx
  refine ⟨hm, Met.ofW (cc := cc) (maxL := nL) (ret := ret) hy rfl ?_⟩
  intro p e s m args below meth c s₁ B hml hv
  obtain ⟨rfl, hw, hK⟩ := hv
  have hts := atoms_spec (ws := Cond.code y cc nL ret :: pg_W) B.pre
  have hl := lv_entry (As.map (pg_tr D)) (n := nL) (by rw [pg_lg]; exact hlen)
  rw [pg_args_tr] at hl
  rw [lg_entry_eq]
  exact hk p e _ s m _ below meth c ⟨B.exec, B.bytes, hml, findClass_of_methodNamed B.named, B.returns, B.notSynchronized, (name_of_methodNamed B.named B.method).1, fun w hw => hts w (List.mem_cons_of_mem _ hw), hK, Nat.le_refl _, Nat.le_refl _⟩ s.heap [] _ 0 0 _ _ ⟨hw, hl, fun _ h => by cases h⟩ (by omega) (by omega) (Nat.le_refl _) (Nat.le_refl _)
section PGC
variable {l : Launch} {D : pg_D} {own : String} {cc : ByteArray} {nL : Nat} {ret : Option FieldType} {nm : String} {df dl pc pc' : Nat} {σ τ : Type} {out : σ → Option pg_pv × pg_H} {F A B : Option σ} {lv lv' : List (Nat × pg_pv)} {st st' rest rs : List pg_pv} {h : pg_H}
/-- returns -/
theorem pg_retq {res : Option pg_pv × pg_H} {p : Program} {e : Env} {R : Room} {s : State} {m : MethodId} {args : Array Value} {below : List Frame} {meth : Method} {c : Code} {H : Heap} {locs : List Loc} {cells slots mc ms : Nat} {g : JFrame} (hc : cells + (res.2.1 - h.1) ≤ mc) (hs : slots + (res.2.2.1 - h.2.1) ≤ ms)
    (k : W p l e R s m args below meth c H locs mc ms (MQ below (pg_Qc D res) args s mc ms (pg_A D)) g) : W p l e R s m args below meth c H locs cells slots (MQ below (pg_Qc D res) args s mc ms (pg_A D)) g :=
  W.widen (by omega) (by omega) k
theorem pg_iret {x : σ} {v : Int32} (hd : decode cc pc = .ok (.ireturn, 1)) (hr : ret = some .int) (ho : out x = (some (pI v), h)) : pg_EvF l D own cc nL ret nm df dl out (some x) pc lv [pI v] h := by
  intro x' hx'
  cases hx'
  rw [ho]
  refine ⟨⟨Nat.le_refl _, Nat.le_refl _⟩, ?_⟩
  intro p e R s m args below meth c C H locs ls cells slots mc ms S h1 h2 h3 h4
  exact pg_retq h1 h2 (W.iret C.1 C.2.1 (C.2.2.2.2.1.trans hr) (fun t ht _ => ⟨rfl, by rw [ht]; exact S.1⟩) S.2.2 hd C.2.2.2.2.2.1)
theorem pg_zret {x : σ} {v : Int32} (hd : decode cc pc = .ok (.ireturn, 1)) (hr : ret = some .boolean) (hv : v = 0 ∨ v = 1) (ho : out x = (some (pI v), h)) : pg_EvF l D own cc nL ret nm df dl out (some x) pc lv [pI v] h := by
  intro x' hx'
  cases hx'
  rw [ho]
  refine ⟨⟨Nat.le_refl _, Nat.le_refl _⟩, ?_⟩
  intro p e R s m args below meth c C H locs ls cells slots mc ms S h1 h2 h3 h4
  exact pg_retq h1 h2 (W.zret C.1 C.2.1 (C.2.2.2.2.1.trans hr) (by rcases hv with rfl | rfl <;> rfl) (fun t ht _ => ⟨rfl, by rw [ht]; exact S.1⟩) S.2.2 hd C.2.2.2.2.2.1)
/-- a boolean that is computed -/
theorem pg_zretq {x : σ} {v : Int32} (hd : decode cc pc = .ok (.ireturn, 1)) (hr : ret = some .boolean) (ho : out x = (some (pI v), h)) : pg_EvF l D own cc nL ret nm df dl out (if v = 0 ∨ v = 1 then some x else none) pc lv [pI v] h := by
  by_cases hv : v = 0 ∨ v = 1
  · rw [if_pos hv]
    exact pg_zret hd hr hv ho
  · rw [if_neg hv]
    exact pg_none
theorem pg_lret {x : σ} {v : Int64} (hd : decode cc pc = .ok (.lreturn, 1)) (hr : ret = some .long) (ho : out x = (some (pL v), h)) : pg_EvF l D own cc nL ret nm df dl out (some x) pc lv [pL v] h := by
  intro x' hx'
  cases hx'
  rw [ho]
  refine ⟨⟨Nat.le_refl _, Nat.le_refl _⟩, ?_⟩
  intro p e R s m args below meth c C H locs ls cells slots mc ms S h1 h2 h3 h4
  exact pg_retq h1 h2 (W.lret C.1 C.2.1 (C.2.2.2.2.1.trans hr) (fun t ht _ => ⟨rfl, by rw [ht]; exact S.1⟩) S.2.2 hd C.2.2.2.2.2.1)
theorem pg_aret {x : σ} {v : Nat} {rt : FieldType} (hd : decode cc pc = .ok (.areturn, 1)) (hr : ret = some rt) (hrt : pg_fk rt = 2) (ho : out x = (some (pR v), h)) : pg_EvF l D own cc nL ret nm df dl out (some x) pc lv [pR v] h := by
  intro x' hx'
  cases hx'
  rw [ho]
  refine ⟨⟨Nat.le_refl _, Nat.le_refl _⟩, ?_⟩
  intro p e R s m args below meth c C H locs ls cells slots mc ms S h1 h2 h3 h4
  refine pg_retq h1 h2 (W.aret (v := pg_trR D v) C.1 C.2.1 (C.2.2.2.2.1.trans hr) ?_ ?_ (fun t ht _ => ⟨rfl, by rw [ht]; exact S.1⟩) S.2.2 hd C.2.2.2.2.2.1)
  · cases rt with
    | object n => exact Or.inl ⟨n, rfl⟩
    | array t => exact Or.inr ⟨t, rfl⟩
    | _ => cases hrt
  · unfold pg_trR
    split
    · exact Or.inl rfl
    · exact Or.inr ⟨_, rfl⟩
theorem pg_vret {x : σ} (hd : decode cc pc = .ok (.return_, 1)) (hr : ret = none) (ho : out x = (none, h)) : pg_EvF l D own cc nL ret nm df dl out (some x) pc lv [] h := by
  intro x' hx'
  cases hx'
  rw [ho]
  refine ⟨⟨Nat.le_refl _, Nat.le_refl _⟩, ?_⟩
  intro p e R s m args below meth c C H locs ls cells slots mc ms S h1 h2 h3 h4
  exact pg_retq h1 h2 (W.vret C.1 C.2.1 (C.2.2.2.2.1.trans hr) (fun t ht _ => ⟨rfl, by rw [ht]; exact S.1⟩) S.2.2 hd C.2.2.2.2.2.1)
/-- calls -/
theorem pg_Wcall {res : Option pg_pv × pg_H} {a : Array Value} {rv st0 : List Value} {p : Program} {e : Env} {R : Room} {s : State} {m : MethodId} {args : Array Value} {below : List Frame} {meth : Method} {c : Code} {H : Heap} {locs : List Loc} {ls : Array Slot} {cells slots mc ms : Nat} {Q : State → Prop}
    (hr : va_Run p l e R s m args below meth c H locs cells slots mc ms (F0 m pc ls st0) rv (pg_Qc D res a) (pg_A D)) (hL : ∀ q ∈ locs, pg_A D q.base)
    (kk : ∀ (H1 : Heap) (locs1 : List Loc), pg_World D res.2 H1 → (∀ q ∈ locs1, pg_A D q.base) → W p l e R s m args below meth c H1 locs1 (cells + mc) (slots + ms) Q (F0 m (pc + 3) ls ((res.1.map (pg_tr D)).toList ++ rv))) : W p l e R s m args below meth c H locs cells slots Q (F0 m pc ls st0) := by
  intro T hT X
  obtain ⟨v, st₀, t, T', L, h0, X', hL', e1, e2, ⟨hv, hw⟩, st⟩ := hr T hT X
  have hv' : v = res.1.map (pg_tr D) := by injection hv
  subst hv'
  obtain ⟨t2, a1, b1⟩ := kk T'.heap (locs ++ L) (by rw [e1]; exact hw) (fun q hq => by
    rcases List.mem_append.mp hq with z | z
    · exact hL q z
    · exact hL' q z) T' rfl X'
  exact ⟨t2, st t2 a1, b1⟩
theorem pg_callrow {G : Option τ} {K : τ → Option σ} {og : τ → Option pg_pv × pg_H} (hrun : ∀ x, G = some x → (h.1 ≤ (og x).2.1 ∧ h.2.1 ≤ (og x).2.2.1) ∧ ∃ a : Array Value, ∀ {p : Program} {e : Env} {R : Room} {s : State} {m : MethodId} {args : Array Value} {below : List Frame} {meth : Method} {c : Code} {H : Heap} {locs : List Loc} {ls : Array Slot} {cells slots : Nat}, pg_Cx D own cc nL ret nm df dl p R s m args meth c → pg_World D h H → ls.size = nL → cells + ((og x).2.1 - h.1) ≤ R.cells → slots + ((og x).2.2.1 - h.2.1) ≤ R.slots →
      va_Run p l e R s m args below meth c H locs cells slots ((og x).2.1 - h.1) ((og x).2.2.1 - h.2.1) (F0 m pc ls (st.map (pg_tr D))) (rs.map (pg_tr D)) (pg_Qc D (og x) a) (pg_A D))
    (kk : ∀ x, pg_EvF l D own cc nL ret nm df dl out (K x) (pc + 3) lv ((og x).1.toList ++ rs) (og x).2) : pg_EvF l D own cc nL ret nm df dl out (Option.bind G K) pc lv st h := by
  refine pg_write (hx := fun x => (og x).2) (sx := fun x => (og x).1.toList ++ rs) (fun y hy => ?_) kk
  obtain ⟨hm, a, hr⟩ := hrun y hy
  refine ⟨hm, ?_⟩
  intro p e R s m args below meth c0 H locs cells slots Q ls C hsz w hL hc1 hs1 k0
  refine pg_Wcall (hr C w hsz hc1 hs1) hL fun H1 locs1 hw hl => ?_
  have k1 := k0 H1 locs1 hw hl
  have e1 : ((og y).1.toList ++ rs).map (pg_tr D) = ((og y).1.map (pg_tr D)).toList ++ rs.map (pg_tr D) := by
    rw [List.map_append]
    cases (og y).1 <;> rfl
  rw [e1] at k1
  exact k1
theorem pg_room {rs : List pg_pv} (hcat : (rs.map pg_cat).sum ≤ 8) : ((rs.map (pg_tr D)).map fun v => v.category).sum ≤ 8 := by
  rw [List.map_map]
  have e : (fun v : Value => v.category) ∘ pg_tr D = pg_cat := by
    funext v
    exact pg_trcat v
  rw [e]
  exact hcat
theorem pg_blind {As : List pg_pv} : FrameBlind (pg_Pc D As h) := fun _ U _ _ ⟨q1, q2, q3⟩ => ⟨q1, q2, q3.same rfl⟩
def pg_nd (y : MethodName) (n : Nat) : Prop := y.cls ≠ "java/lang/invoke/MethodHandle" ∧ y.cls ≠ "java/lang/invoke/VarHandle" ∧ (parseMethodDescriptor y.desc).map (fun d => d.parameters.length) = some n
def pg_lk (own : String) (i : Nat) (y : MethodName) : Prop := Cond.methodLink own i y ∈ pg_W ∨ ∃ host, Cond.methodLinkNest own i y host ∈ lw_tbl
def pg_yV (c : Nat) (y : MethodName) (bytes : ByteArray) (maxL : Nat) (rt : Option FieldType) : Prop := c < 13 ∧ (vwCl[c]?).map (fun q => q.1) = some y.cls ∧ Cond.instanceMethod y ∈ pg_W ∧ Cond.selects y.cls y y ∈ pg_W ∧ Cond.initialized y.cls ∈ pg_W ∧ Cond.code y bytes maxL rt ∈ pg_W
def pg_yS (y : MethodName) (bytes : ByteArray) (maxL : Nat) (rt : Option FieldType) : Prop := Cond.static y ∈ pg_W ∧ Cond.initialized y.cls ∈ pg_W ∧ Cond.code y bytes maxL rt ∈ pg_W
def pg_yI (c : Nat) (y : MethodName) (bytes : ByteArray) (maxL : Nat) : Prop := c < 13 ∧ (vwCl[c]?).map (fun q => q.1) = some y.cls ∧ y.name = "<init>" ∧ Cond.instanceMethod y ∈ pg_W ∧ Cond.initialized y.cls ∈ pg_W ∧ Cond.code y bytes maxL none ∈ pg_W
theorem pg_callV {G : Option τ} {K : τ → Option σ} {og : τ → Option pg_pv × pg_H} {i c b maxL df' dl' n : Nat} {y : MethodName} {bytes : ByteArray} {rt : Option FieldType} {As : List pg_pv} (hd : decode cc pc = .ok (.invokevirtual i, 3)) (hl : pg_lk own i y) (hy : pg_yV c y bytes maxL rt) (hn : pg_nd y n) (hM : ∀ x, G = some x → pg_Ct l D y bytes maxL rt df' dl' (pR b :: As) h (og x)) (hA : As.length = n) (hst : st = As.reverse ++ pR b :: rs) (hcat : (rs.map pg_cat).sum ≤ 8) (hdf : df' + 1 ≤ df) (hdl : 8 + (maxL + 11) + dl' ≤ dl)
    (kk : ∀ x, pg_EvF l D own cc nL ret nm df dl out (K x) (pc + 3) lv ((og x).1.toList ++ rs) (og x).2) : pg_EvF l D own cc nL ret nm df dl out (Option.bind (pg_rcv c h b G) K) pc lv st h := by
  refine pg_callrow (rs := rs) (fun x hx => ?_) kk
  unfold pg_rcv at hx
  split at hx
  case isFalse => cases hx
  case isTrue hk =>
    obtain ⟨hm, hMet⟩ := hM x hx
    refine ⟨hm, (Value.ref (pg_ad D b) :: As.map (pg_tr D)).toArray, ?_⟩
    intro p e R s m args below meth c0 H locs ls cells slots C w hsz hc1 hs1
    obtain ⟨hx, hb, hml, hown, -, -, -, hts, hK, hfr, hlo⟩ := C
    obtain ⟨hc, hq, hin, hse, hini, hcode⟩ := hy
    obtain ⟨⟨b1, b2⟩, q, hq', cell, g1, g2, g3, -⟩ := w.obj hk hc
    have hqc : q.1 = y.cls := by
      rw [hq'] at hq
      exact Option.some.inj hq
    have hfc := (hK.1.1 c q hq').2.1
    rw [hqc] at hfc
    have eb : pg_trR D b = .ref (pg_ad D b) := pg_trR_pos b1
    have hws : ∀ w ∈ Cond.code y bytes maxL rt :: pg_W, w ∈ pg_W := fun w hw => by
      rcases List.mem_cons.mp hw with z | z
      · rw [z]; exact hcode
      · exact z
    have hlen : ∀ sig, parseMethodDescriptor y.desc = some sig → n = sig.parameters.length := fun sig hsig => by
      have z := hn.2.2
      rw [hsig] at z
      exact (Option.some.inj z).symm
    have hp : PreV s H y.cls (pg_ad D b) (pg_Pc D (pR b :: As) h) (As.map (pg_tr D)) := ⟨pg_blind, ⟨cell, g1, by rw [g3]; rfl, by rw [g2]; exact hfc⟩, fun U hU hW => ⟨by rw [← eb]; rfl, by rw [hU]; exact w, hK.warm hW⟩⟩
    have hstk : st.map (pg_tr D) = (As.map (pg_tr D)).reverse ++ .ref (pg_ad D b) :: rs.map (pg_tr D) := by
      rw [hst, List.map_append, List.map_reverse, List.map_cons, ← eb]
      rfl
    have hpay := pay_in (s := s) hts (pg_goodIn hws)
    rcases hl with hl | ⟨host, hl⟩
    · exact va_runV (Ts := pg_W) ⟨hx, hb, hml, hown, hts⟩ hMet ⟨⟨rfl, rfl, by show df' + 1 ≤ R.frames; omega, by show 8 + (maxL + 11) + dl' ≤ R.locals; omega, hpay, List.mem_cons_self, hts _ hcode, hts _ hini, ⟨hn.1, hn.2.1⟩, hlen, hts _ hl⟩, hts _ hin, hts _ hse⟩ hp rfl (by rw [List.length_map]; exact hA) hsz hstk (lv_room (pg_room hcat)) hd ⟨hc1, hs1⟩
    · exact va_runVN (Ts := pg_W) ⟨hx, hb, hml, hown, hts⟩ hMet ⟨⟨⟨rfl, rfl, by show df' + 1 ≤ R.frames; omega, by show 8 + (maxL + 11) + dl' ≤ R.locals; omega, hpay, List.mem_cons_self⟩, hts _ hcode, hts _ hini, ⟨hn.1, hn.2.1⟩, hlen, va_Nw.use rfl (hK.2.2.2.2.2.2.2.2.2.1 _ _ _ _ hl)⟩, hts _ hin, hts _ hse⟩ hp rfl (by rw [List.length_map]; exact hA) hsz hstk (lv_room (pg_room hcat)) hd ⟨hc1, hs1⟩
theorem pg_callS {G : Option τ} {K : τ → Option σ} {og : τ → Option pg_pv × pg_H} {i maxL df' dl' n : Nat} {y : MethodName} {bytes : ByteArray} {rt : Option FieldType} {As : List pg_pv} (hd : decode cc pc = .ok (.invokestatic i, 3)) (hl : pg_lk own i y) (hy : pg_yS y bytes maxL rt) (hn : pg_nd y n) (hM : ∀ x, G = some x → pg_Ct l D y bytes maxL rt df' dl' As h (og x)) (hA : As.length = n) (hst : st = As.reverse ++ rs) (hcat : (rs.map pg_cat).sum ≤ 8) (hdf : df' + 1 ≤ df) (hdl : 8 + (maxL + 11) + dl' ≤ dl)
    (kk : ∀ x, pg_EvF l D own cc nL ret nm df dl out (K x) (pc + 3) lv ((og x).1.toList ++ rs) (og x).2) : pg_EvF l D own cc nL ret nm df dl out (Option.bind G K) pc lv st h := by
  refine pg_callrow (rs := rs) (fun x hx => ?_) kk
  obtain ⟨hm, hMet⟩ := hM x hx
  refine ⟨hm, (As.map (pg_tr D)).toArray, ?_⟩
  intro p e R s m args below meth c0 H locs ls cells slots C w hsz hc1 hs1
  obtain ⟨hx, hb, hml, hown, -, -, -, hts, hK, hfr, hlo⟩ := C
  obtain ⟨hstt, hini, hcode⟩ := hy
  have hws : ∀ w ∈ Cond.code y bytes maxL rt :: pg_W, w ∈ pg_W := fun w hw => by
    rcases List.mem_cons.mp hw with z | z
    · rw [z]; exact hcode
    · exact z
  have hlen : ∀ sig, parseMethodDescriptor y.desc = some sig → n = sig.parameters.length := fun sig hsig => by
    have z := hn.2.2
    rw [hsig] at z
    exact (Option.some.inj z).symm
  have hp : PreS s H (pg_Pc D As h) (As.map (pg_tr D)) := ⟨pg_blind, fun U hU hW => ⟨rfl, by rw [hU]; exact w, hK.warm hW⟩⟩
  have hstk : st.map (pg_tr D) = (As.map (pg_tr D)).reverse ++ rs.map (pg_tr D) := by
    rw [hst, List.map_append, List.map_reverse]
  have hpay := pay_in (s := s) hts (pg_goodIn hws)
  rcases hl with hl | ⟨host, hl⟩
  · exact va_runS (Ts := pg_W) ⟨hx, hb, hml, hown, hts⟩ hMet ⟨⟨rfl, rfl, by show df' + 1 ≤ R.frames; omega, by show 8 + (maxL + 11) + dl' ≤ R.locals; omega, hpay, List.mem_cons_self, hts _ hcode, hts _ hini, ⟨hn.1, hn.2.1⟩, hlen, hts _ hl⟩, hts _ hstt⟩ hp rfl (by rw [List.length_map]; exact hA) hsz hstk (lv_room (pg_room hcat)) hd ⟨hc1, hs1⟩
  · exact va_runSN (Ts := pg_W) ⟨hx, hb, hml, hown, hts⟩ hMet ⟨⟨⟨rfl, rfl, by show df' + 1 ≤ R.frames; omega, by show 8 + (maxL + 11) + dl' ≤ R.locals; omega, hpay, List.mem_cons_self⟩, hts _ hcode, hts _ hini, ⟨hn.1, hn.2.1⟩, hlen, va_Nw.use rfl (hK.2.2.2.2.2.2.2.2.2.1 _ _ _ _ hl)⟩, hts _ hstt, trivial⟩ hp rfl (by rw [List.length_map]; exact hA) hsz hstk (lv_room (pg_room hcat)) hd ⟨hc1, hs1⟩
theorem pg_callI {G : Option τ} {K : τ → Option σ} {og : τ → Option pg_pv × pg_H} {i c b maxL df' dl' n : Nat} {y : MethodName} {bytes : ByteArray} {As : List pg_pv} (hd : decode cc pc = .ok (.invokespecial i, 3)) (hl : pg_lk own i y) (hy : pg_yI c y bytes maxL) (hn : pg_nd y n) (hM : ∀ x, G = some x → pg_Ct l D y bytes maxL none df' dl' (pR b :: As) h (og x)) (hA : As.length = n) (hst : st = As.reverse ++ pR b :: rs) (hcat : (rs.map pg_cat).sum ≤ 8) (hdf : df' + 1 ≤ df) (hdl : 8 + (maxL + 11) + dl' ≤ dl)
    (kk : ∀ x, pg_EvF l D own cc nL ret nm df dl out (K x) (pc + 3) lv ((og x).1.toList ++ rs) (og x).2) : pg_EvF l D own cc nL ret nm df dl out (Option.bind (pg_rcv c h b G) K) pc lv st h := by
  refine pg_callrow (rs := rs) (fun x hx => ?_) kk
  unfold pg_rcv at hx
  split at hx
  case isFalse => cases hx
  case isTrue hk =>
    obtain ⟨hm, hMet⟩ := hM x hx
    refine ⟨hm, (Value.ref (pg_ad D b) :: As.map (pg_tr D)).toArray, ?_⟩
    intro p e R s m args below meth c0 H locs ls cells slots C w hsz hc1 hs1
    obtain ⟨hx, hb, hml, hown, -, -, -, hts, hK, hfr, hlo⟩ := C
    obtain ⟨hc, hq, hyn, hin, hini, hcode⟩ := hy
    obtain ⟨⟨b1, b2⟩, -⟩ := w.obj hk hc
    have eb : pg_trR D b = .ref (pg_ad D b) := pg_trR_pos b1
    have hws : ∀ w ∈ Cond.code y bytes maxL none :: pg_W, w ∈ pg_W := fun w hw => by
      rcases List.mem_cons.mp hw with z | z
      · rw [z]; exact hcode
      · exact z
    have hlen : ∀ sig, parseMethodDescriptor y.desc = some sig → n = sig.parameters.length := fun sig hsig => by
      have z := hn.2.2
      rw [hsig] at z
      exact (Option.some.inj z).symm
    have hp : PreS s H (pg_Pc D (pR b :: As) h) (.ref (pg_ad D b) :: As.map (pg_tr D)) := ⟨pg_blind, fun U hU hW => ⟨by rw [← eb]; rfl, by rw [hU]; exact w, hK.warm hW⟩⟩
    have hstk : st.map (pg_tr D) = (As.map (pg_tr D)).reverse ++ .ref (pg_ad D b) :: rs.map (pg_tr D) := by
      rw [hst, List.map_append, List.map_reverse, List.map_cons, ← eb]
      rfl
    have hpay := pay_in (s := s) hts (pg_goodIn hws)
    rcases hl with hl | ⟨host, hl⟩
    · exact va_runI (Ts := pg_W) ⟨hx, hb, hml, hown, hts⟩ hMet ⟨⟨rfl, rfl, by show df' + 1 ≤ R.frames; omega, by show 8 + (maxL + 11) + dl' ≤ R.locals; omega, hpay, List.mem_cons_self, hts _ hcode, hts _ hini, ⟨hn.1, hn.2.1⟩, hlen, hts _ hl⟩, hyn, hts _ hin⟩ hp rfl (by rw [List.length_map]; exact hA) hsz hstk (lv_room (pg_room hcat)) hd ⟨hc1, hs1⟩
    · exact va_runIN (Ts := pg_W) ⟨hx, hb, hml, hown, hts⟩ hMet ⟨⟨⟨rfl, rfl, by show df' + 1 ≤ R.frames; omega, by show 8 + (maxL + 11) + dl' ≤ R.locals; omega, hpay, List.mem_cons_self⟩, hts _ hcode, hts _ hini, ⟨hn.1, hn.2.1⟩, hlen, va_Nw.use rfl (hK.2.2.2.2.2.2.2.2.2.1 _ _ _ _ hl)⟩, hyn, hts _ hin⟩ hp rfl (by rw [List.length_map]; exact hA) hsz hstk (lv_room (pg_room hcat)) hd ⟨hc1, hs1⟩
/-- Object.<init> -/
theorem pg_objInit {i r : Nat} (hd : decode cc pc = .ok (.invokespecial i, 3)) (hl : Cond.methodLink own i Lib.objectInit ∈ pg_W) (hi : Cond.instanceMethod Lib.objectInit ∈ pg_W) (hc : Cond.code Lib.objectInit ⟨#[0xb1]⟩ 1 none ∈ pg_W) (hcat : (st.map pg_cat).sum ≤ 8) (hdf : 1 ≤ df) (hdl : 20 ≤ dl) (kk : pg_EvF l D own cc nL ret nm df dl out F (pc + 3) lv st h) : pg_EvF l D own cc nL ret nm df dl out (if r = 0 then none else F) pc lv (pR r :: st) h := by
  by_cases hr : r = 0
  · rw [if_pos hr]; exact pg_none
  · rw [if_neg hr]
    refine pg_pure (fun {p e R s m args below meth c H locs cells slots Q ls} C L k => ?_) kk
    obtain ⟨hx, hb, hml, hown, -, -, -, hts, hK, hfr, hlo⟩ := C
    have e2 : pg_trR D r = .ref (pg_ad D r) := pg_trR_pos (by omega)
    show W _ _ _ _ _ _ _ _ _ _ _ _ _ _ _ (F0 m pc ls (pg_trR D r :: st.map (pg_tr D)))
    rw [e2]
    have hc8 := pg_room (D := D) hcat
    exact W.objInit hx hb hown (hts _ hl) (hts _ hi) (hts _ hc) rfl (by rw [hml]; exact L.1) rfl hd (by omega) (by show 2 * 0 + _ + 12 ≤ _; omega) k
theorem pg_mmax {i : Nat} {x y : Int32} (hd : decode cc pc = .ok (.invokestatic i, 3)) (hl : Cond.methodLink own i Lib.Math.max.name ∈ pg_W) (h1w : Cond.static Lib.Math.max.name ∈ pg_W) (h2w : Cond.initialized "java/lang/Math" ∈ pg_W) (h3w : Cond.code Lib.Math.max.name Lib.Math.max.code 2 (some .int) ∈ pg_W) (hcat : (st.map pg_cat).sum ≤ 8) (hdf : 1 ≤ df) (hdl : 30 ≤ dl) (kk : pg_EvF l D own cc nL ret nm df dl out F (pc + 3) lv (pI (if x < y then y else x) :: st) h) : pg_EvF l D own cc nL ret nm df dl out F pc lv (pI y :: pI x :: st) h := by
  intro x0 hx0
  obtain ⟨hm, hk⟩ := kk x0 hx0
  refine ⟨hm, ?_⟩
  intro p e R s m args below meth c C H locs ls cells slots mc ms S h1 h2 h3 h4
  have k0 := hk p e R s m args below meth c C H locs ls cells slots mc ms S h1 h2 h3 h4
  obtain ⟨hx, hb, hml, hown, -, -, -, hts, hK, hfr, hlo⟩ := C
  have hc8 := pg_room (D := D) hcat
  exact va_mmax hx hb (by rw [hml]; exact S.2.1.1.symm) hown (hts _ hl) (hts _ h1w) (hts _ h2w) (hts _ h3w) (by omega) (by omega) (by omega) (by omega) hd k0
theorem pg_mmin {i : Nat} {x y : Int32} (hd : decode cc pc = .ok (.invokestatic i, 3)) (hl : Cond.methodLink own i Lib.Math.min.name ∈ pg_W) (h1w : Cond.static Lib.Math.min.name ∈ pg_W) (h2w : Cond.initialized "java/lang/Math" ∈ pg_W) (h3w : Cond.code Lib.Math.min.name Lib.Math.min.code 2 (some .int) ∈ pg_W) (hcat : (st.map pg_cat).sum ≤ 8) (hdf : 1 ≤ df) (hdl : 30 ≤ dl) (kk : pg_EvF l D own cc nL ret nm df dl out F (pc + 3) lv (pI (if y < x then y else x) :: st) h) : pg_EvF l D own cc nL ret nm df dl out F pc lv (pI y :: pI x :: st) h := by
  intro x0 hx0
  obtain ⟨hm, hk⟩ := kk x0 hx0
  refine ⟨hm, ?_⟩
  intro p e R s m args below meth c C H locs ls cells slots mc ms S h1 h2 h3 h4
  have k0 := hk p e R s m args below meth c C H locs ls cells slots mc ms S h1 h2 h3 h4
  obtain ⟨hx, hb, hml, hown, -, -, -, hts, hK, hfr, hlo⟩ := C
  have hc8 := pg_room (D := D) hcat
  exact va_mmin hx hb (by rw [hml]; exact S.2.1.1.symm) hown (hts _ hl) (hts _ h1w) (hts _ h2w) (hts _ h3w) (by omega) (by omega) (by omega) (by omega) hd k0
theorem pg_mmaxL {i : Nat} {x y : Int64} (hd : decode cc pc = .ok (.invokestatic i, 3)) (hl : Cond.methodLink own i Lib.MathLoose.max_long.x ∈ pg_W) (h1w : Cond.static Lib.MathLoose.max_long.x ∈ pg_W) (h2w : Cond.initialized "java/lang/Math" ∈ pg_W) (h3w : Cond.code Lib.MathLoose.max_long.x Lib.MathLoose.max_long.code 4 (some .long) ∈ pg_W) (hcat : (st.map pg_cat).sum ≤ 8) (hdf : 1 ≤ df) (hdl : 30 ≤ dl) (kk : pg_EvF l D own cc nL ret nm df dl out F (pc + 3) lv (pL (if y < x then x else y) :: st) h) : pg_EvF l D own cc nL ret nm df dl out F pc lv (pL y :: pL x :: st) h := by
  intro x0 hx0
  obtain ⟨hm, hk⟩ := kk x0 hx0
  refine ⟨hm, ?_⟩
  intro p e R s m args below meth c C H locs ls cells slots mc ms S h1 h2 h3 h4
  have k0 := hk p e R s m args below meth c C H locs ls cells slots mc ms S h1 h2 h3 h4
  obtain ⟨hx, hb, hml, hown, -, -, -, hts, hK, hfr, hlo⟩ := C
  have hc8 := pg_room (D := D) hcat
  exact va_mmax_long hx hb (by rw [hml]; exact S.2.1.1.symm) hown (hts _ hl) (hts _ h1w) (hts _ h2w) (hts _ h3w) (by omega) (by omega) (by omega) (by omega) hd k0
theorem pg_mminL {i : Nat} {x y : Int64} (hd : decode cc pc = .ok (.invokestatic i, 3)) (hl : Cond.methodLink own i Lib.MathLoose.min_long.x ∈ pg_W) (h1w : Cond.static Lib.MathLoose.min_long.x ∈ pg_W) (h2w : Cond.initialized "java/lang/Math" ∈ pg_W) (h3w : Cond.code Lib.MathLoose.min_long.x Lib.MathLoose.min_long.code 4 (some .long) ∈ pg_W) (hcat : (st.map pg_cat).sum ≤ 8) (hdf : 1 ≤ df) (hdl : 30 ≤ dl) (kk : pg_EvF l D own cc nL ret nm df dl out F (pc + 3) lv (pL (if y < x then y else x) :: st) h) : pg_EvF l D own cc nL ret nm df dl out F pc lv (pL y :: pL x :: st) h := by
  intro x0 hx0
  obtain ⟨hm, hk⟩ := kk x0 hx0
  refine ⟨hm, ?_⟩
  intro p e R s m args below meth c C H locs ls cells slots mc ms S h1 h2 h3 h4
  have k0 := hk p e R s m args below meth c C H locs ls cells slots mc ms S h1 h2 h3 h4
  obtain ⟨hx, hb, hml, hown, -, -, -, hts, hK, hfr, hlo⟩ := C
  have hc8 := pg_room (D := D) hcat
  exact va_mmin_long hx hb (by rw [hml]; exact S.2.1.1.symm) hown (hts _ hl) (hts _ h1w) (hts _ h2w) (hts _ h3w) (by omega) (by omega) (by omega) (by omega) hd k0
/-- the two static arrays -/
theorem pg_getsL {i : Nat} (hd : decode cc pc = .ok (.getstatic i, 3)) (hw : Cond.fieldLink own i RX11 "TERM_LEAST" "[I" ∈ pg_W) (kk : pg_EvF l D own cc nL ret nm df dl out F (pc + 3) lv (pR (pg_lim + 1) :: st) h) : pg_EvF l D own cc nL ret nm df dl out F pc lv st h := by
  intro x hx
  obtain ⟨hm, hk⟩ := kk x hx
  refine ⟨hm, ?_⟩
  intro p e R s m args below meth c C H locs ls cells slots mc ms S h1 h2 h3 h4
  have k0 := hk p e R s m args below meth c C H locs ls cells slots mc ms S h1 h2 h3 h4
  obtain ⟨hx, hb, hml, hown, -, -, -, hts, hK, hfr, hlo⟩ := C
  obtain ⟨cf, kf, fi, f, a, cell, g1, g2, g3, g4, g5, g6, g7, g8⟩ := hK.2.2.2.1
  have ha : a < pg_b D := Nat.not_le.mp g8
  refine W.gets hx hb hown (hts _ hw) g1 g2 g3 g4 ((S.1.2.2.1 a ha).trans g5) (fun z => by rw [z] at g6; cases g6) g7 rfl hd k0
theorem pg_getsM {i : Nat} (hd : decode cc pc = .ok (.getstatic i, 3)) (hw : Cond.fieldLink own i RX11 "TERM_MOST" "[I" ∈ pg_W) (kk : pg_EvF l D own cc nL ret nm df dl out F (pc + 3) lv (pR (pg_lim + 2) :: st) h) : pg_EvF l D own cc nL ret nm df dl out F pc lv st h := by
  intro x hx
  obtain ⟨hm, hk⟩ := kk x hx
  refine ⟨hm, ?_⟩
  intro p e R s m args below meth c C H locs ls cells slots mc ms S h1 h2 h3 h4
  have k0 := hk p e R s m args below meth c C H locs ls cells slots mc ms S h1 h2 h3 h4
  obtain ⟨hx, hb, hml, hown, -, -, -, hts, hK, hfr, hlo⟩ := C
  obtain ⟨cf, kf, fi, f, a, cell, g1, g2, g3, g4, g5, g6, g7, g8⟩ := hK.2.2.2.2.1
  have ha : a < pg_b D := Nat.not_le.mp g8
  refine W.gets hx hb hown (hts _ hw) g1 g2 g3 g4 ((S.1.2.2.1 a ha).trans g5) (fun z => by rw [z] at g6; cases g6) g7 rfl hd k0
end PGC
