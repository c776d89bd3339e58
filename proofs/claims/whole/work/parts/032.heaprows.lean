/-! what the tables say of the classes -/
theorem pg_good : ∀ w ∈ pg_W, (w.onTables && w.keeps) = true ∨ ∃ ty, w = .arrayClass ty := fun w hw => good_of_word (List.mem_filter.mp hw).2
theorem pg_goodIn {ws : List Cond} (h : ∀ w ∈ ws, w ∈ pg_W) : GoodIn pg_W ws := fun w hw => ⟨h w hw, pg_good w (h w hw)⟩
def pg_allIn (ws : List Cond) : Bool := ws.all fun w => lw_tbl.contains w && goodWord w
theorem pg_of_all {ws : List Cond} (h : pg_allIn ws = true) : ∀ w ∈ ws, w ∈ pg_W := by
  intro w hw
  have := List.all_eq_true.mp h w hw
  rw [Bool.and_eq_true] at this
  exact List.mem_filter.mpr ⟨List.contains_iff_mem.mp this.1, this.2⟩
theorem iX0 : ∀ w ∈ u_ws RX0 TX0 3, w ∈ pg_W := pg_of_all (by decide +kernel)
theorem iX1 : ∀ w ∈ u_ws RX1 TX1 2, w ∈ pg_W := pg_of_all (by decide +kernel)
theorem iX2 : ∀ w ∈ u_ws RX2 TX2 5, w ∈ pg_W := pg_of_all (by decide +kernel)
theorem iX3 : ∀ w ∈ u_ws RX3 TX3 9, w ∈ pg_W := pg_of_all (by decide +kernel)
theorem iX4 : ∀ w ∈ u_ws RX4 TX4 9, w ∈ pg_W := pg_of_all (by decide +kernel)
theorem iX5 : ∀ w ∈ u_ws RX5 TX5 9, w ∈ pg_W := pg_of_all (by decide +kernel)
theorem iX6 : ∀ w ∈ u_ws RX6 TX6 9, w ∈ pg_W := pg_of_all (by decide +kernel)
theorem iX7 : ∀ w ∈ u_ws RX7 TX7 4, w ∈ pg_W := pg_of_all (by decide +kernel)
theorem iX8 : ∀ w ∈ u_ws RX8 TX8 2, w ∈ pg_W := pg_of_all (by decide +kernel)
theorem iX9 : ∀ w ∈ u_ws RX9 TX9 1, w ∈ pg_W := pg_of_all (by decide +kernel)
theorem iX10 : ∀ w ∈ u_ws RX10 TX10 6, w ∈ pg_W := pg_of_all (by decide +kernel)
theorem iX11 : ∀ w ∈ u_ws RX11 TX11 16, w ∈ pg_W := pg_of_all (by decide +kernel)
theorem iX12 : ∀ w ∈ u_ws RX12 TX12 46, w ∈ pg_W := pg_of_all (by decide +kernel)
def pg_clsOk (c : Nat) (q : vw_C) : Prop := (∀ w ∈ u_ws q.1 q.2.1 q.2.2, w ∈ pg_W) ∧ (∀ a, a < q.2.2 → ∀ b, b < q.2.2 → a ≠ b → (q.2.1 a).2.1 ≠ (q.2.1 b).2.1) ∧ ∀ k, k < q.2.2 → parseFieldDescriptor (q.2.1 k).2.2.1 = some (pg_cty c k)
theorem pg_cls : ∀ (c : Nat) (q : vw_C), vwCl[c]? = some q → pg_clsOk c q
  | 0, _, h => by cases h; exact ⟨iX0, nmX0, tyX0_ok⟩
  | 1, _, h => by cases h; exact ⟨iX1, nmX1, tyX1_ok⟩
  | 2, _, h => by cases h; exact ⟨iX2, nmX2, tyX2_ok⟩
  | 3, _, h => by cases h; exact ⟨iX3, nmX3, tyX3_ok⟩
  | 4, _, h => by cases h; exact ⟨iX4, nmX4, tyX4_ok⟩
  | 5, _, h => by cases h; exact ⟨iX5, nmX5, tyX5_ok⟩
  | 6, _, h => by cases h; exact ⟨iX6, nmX6, tyX6_ok⟩
  | 7, _, h => by cases h; exact ⟨iX7, nmX7, tyX7_ok⟩
  | 8, _, h => by cases h; exact ⟨iX8, nmX8, tyX8_ok⟩
  | 9, _, h => by cases h; exact ⟨iX9, nmX9, tyX9_ok⟩
  | 10, _, h => by cases h; exact ⟨iX10, nmX10, tyX10_ok⟩
  | 11, _, h => by cases h; exact ⟨iX11, nmX11, tyX11_ok⟩
  | 12, _, h => by cases h; exact ⟨iX12, nmX12, tyX12_ok⟩
  | n + 13, _, h => by simp [vwCl] at h
/-- entry i of own's pool names field k of class c, of type ty, final or not -/
def pg_FL (own : String) (i c k : Nat) (ty : FieldType) (fin : Bool) : Prop :=
  c < 13 ∧ pg_cty c k = ty ∧ ∃ q : vw_C, vwCl[c]? = some q ∧ k < q.2.2 ∧ (q.2.1 k).2.2.2 = fin ∧
  (Cond.fieldLink own i (q.2.1 k).1 (q.2.1 k).2.1 (q.2.1 k).2.2.1 ∈ pg_W ∨ ∃ host, Cond.fieldLinkNest own i (q.2.1 k).1 (q.2.1 k).2.1 (q.2.1 k).2.2.1 host ∈ lw_tbl)
/-- .. and own may put it in its constructor, though it's final -/
def pg_FP (own : String) (i c k : Nat) : Prop := ∃ q : vw_C, vwCl[c]? = some q ∧ (q.2.1 k).1 = own ∧ Cond.fieldLink own i (q.2.1 k).1 (q.2.1 k).2.1 (q.2.1 k).2.2.1 ∈ pg_W
theorem pg_sty_obj {c k : Nat} (hc : c < 13) : pg_sty (c + 1) k = pg_fk (pg_cty c k) := by
  unfold pg_sty
  rw [if_pos (by omega)]
  rfl
section PGR
variable {l : Launch} {D : pg_D} {own : String} {cc : ByteArray} {nL : Nat} {ret : Option FieldType} {nm : String} {df dl pc pc' : Nat} {σ τ : Type} {out : σ → Option pg_pv × pg_H} {F A B : Option σ} {lv lv' : List (Nat × pg_pv)} {st st' rest : List pg_pv} {h : pg_H}
variable {p : Program} {e : Env} {R : Room} {s : State} {m : MethodId} {args : Array Value} {below : List Frame} {meth : Method} {c0 : Code} {H : Heap} {locs : List Loc} {cells slots : Nat} {Q : State → Prop} {ls : Array Slot} {rs : List Value}
theorem pg_Wget {i c k r : Nat} {ty : FieldType} {fin : Bool} (C : pg_Cx D own cc nL ret nm df dl p R s m args meth c0) (w : pg_World D h H) (hk : (pg_k h r).1 = c + 1) (hF : pg_FL own i c k ty fin) (hd : decode cc pc = .ok (.getfield i, 3))
    (kk : W p l e R s m args below meth c0 H locs cells slots Q (F0 m (pc + 3) ls (pg_V D h r k :: rs))) : W p l e R s m args below meth c0 H locs cells slots Q (F0 m pc ls (pg_trR D r :: rs)) := by
  obtain ⟨hx, hb, -, hown, -, -, -, hts, hK, -⟩ := C
  obtain ⟨hc, -, q, hq, hkN, -, hw⟩ := hF
  obtain ⟨⟨h1, h2⟩, q', hq', cell, g1, g2, g3, g4⟩ := w.obj hk hc
  cases hq.symm.trans hq'
  rw [pg_trR_pos h1]
  obtain ⟨hin, -, -⟩ := pg_cls c q hq
  obtain ⟨hS, hfc, kC, hkC, hkind⟩ := hK.1.1 c q hq
  obtain ⟨cf, kf, fi, f, hi, hsl⟩ := hS k hkN
  have hst := (u_facts hfc hkC (u_lays hts hin hkN) hi).1
  rcases hw with hw | ⟨host, hw⟩
  · exact W.getf hx hb hown (hts _ hw) hi hst g1 (by rw [g3]; exact fun z => by cases z) (v := pg_V D h r k) (by rw [hsl, g4 k hkN]) rfl rfl hd kk
  · exact va_Wgetf hx hb hown (va_Nw.use rfl (hK.2.2.2.2.2.2.2.2.2.2.1 _ _ _ _ _ _ hw)) hi hst g1 (by rw [g3]; exact fun z => by cases z) (v := pg_V D h r k) (by rw [hsl, g4 k hkN]) rfl rfl hd kk
theorem pg_Wput {i c k r : Nat} {ty : FieldType} {fin : Bool} {v : Value} (C : pg_Cx D own cc nL ret nm df dl p R s m args meth c0) (w : pg_World D h H) (hk : (pg_k h r).1 = c + 1) (hF : pg_FL own i c k ty fin) (hfin : fin = true → nm = "<init>" ∧ pg_FP own i c k) (hn : narrow ty v = v) (hf : fits ty v = true) (hd : decode cc pc = .ok (.putfield i, 3))
    (kk : ∀ H' : Heap, (∃ q : vw_C, vwCl[c]? = some q ∧ t_OB (pg_ad D r) ((pg_G D).1 c) q.2.2 ((pg_G D).2 c) H' (updV (pg_V D h r) k v)) → H'.size = H.size → (∀ q, q ≠ pg_ad D r → H'[q]? = H[q]?) → ∀ locs', (∀ q ∈ locs', q ∈ locs ∨ q.base = pg_ad D r) → W p l e R s m args below meth c0 H' locs' cells slots Q (F0 m (pc + 3) ls rs)) : W p l e R s m args below meth c0 H locs cells slots Q (F0 m pc ls (v :: pg_trR D r :: rs)) := by
  obtain ⟨hx, hb, -, hown, -, -, hnm, hts, hK, -⟩ := C
  obtain ⟨hc, hty, q, hq, hkN, hfq, hw⟩ := hF
  obtain ⟨⟨h1, h2⟩, q', hq', cell, g1, g2, g3, g4⟩ := w.obj hk hc
  cases hq.symm.trans hq'
  rw [pg_trR_pos h1]
  obtain ⟨hin, hnms, htys⟩ := pg_cls c q hq
  have hap := va_apart (own := own) hts hin (pg_cty c) htys hnms hK.1 hq
  obtain ⟨hS, hfc, kC, hkC, hkind⟩ := hK.1.1 c q hq
  obtain ⟨cf, kf, fi, f, hi, hsl⟩ := hS k hkN
  have hst := (u_facts hfc hkC (u_lays hts hin hkN) hi).1
  have hlay := hts _ (hin _ (u_in_lay hkN))
  have htk := htys k hkN
  rw [hty] at htk
  have hlt : f.slot < cell.slots.size := by rw [hsl]; exact k2_hasslot (g4 k hkN)
  have fin' : ∀ H' : Heap, H'[pg_ad D r]? = some (cell.setSlot f.slot v) → H'.size = H.size → (∀ q, q ≠ pg_ad D r → H'[q]? = H[q]?) → W p l e R s m args below meth c0 H' (locs ++ [⟨pg_ad D r, f.slot⟩]) cells slots Q (F0 m (pc + 3) ls rs) := by
    intro H' e1 e2 e3
    rw [hsl] at e1
    refine kk H' ⟨q, hq, _, e1, g2, g3, t_set g4 hap hkN v⟩ e2 e3 _ fun z hz => ?_
    rcases List.mem_append.mp hz with z1 | z1
    · exact Or.inl z1
    · rw [List.mem_singleton] at z1
      rw [z1]
      exact Or.inr rfl
  cases fin with
  | true =>
    obtain ⟨hfi, q2, hq2, hdecl, hw⟩ := hfin rfl
    cases hq.symm.trans hq2
    unfold u_lay at hlay
    rw [if_pos hfq] at hlay
    have hcf : m.cls = cf := by
      obtain ⟨_, _, c', _, _, _, -, -, hf', -, -, -, hown2, -⟩ := Cond.laysFinal_spec hlay
      have e1 : c' = cf := by have := hi.symm.trans hf'; simp at this; exact this.1.symm
      rw [hdecl] at hown2
      rw [← e1]; exact Option.some.inj (hown.symm.trans hown2)
    have h6 := u_fits hfc hkC hkind (Or.inr hlay) hi htk hn hf
    exact W.putFinK hx hb hown (hts _ hw) hi hst hcf (by rw [hnm]; exact hfi) (by rw [g2]; exact h6) g1 g3 hlt rfl rfl hd fin'
  | false =>
    unfold u_lay at hlay
    rw [if_neg (by rw [hfq]; decide)] at hlay
    have h6 := u_store hfc hkC hkind hlay hi htk hn hf
    rcases hw with hw | ⟨host, hw⟩
    · exact W.putK hx hb (f := f) ⟨hown, hts _ hw, ⟨_, _, _, hi⟩, hst⟩ (by rw [g2]; exact h6) g1 g3 hlt rfl rfl hd fin'
    · exact va_WputK hx hb hown (va_Nw.use rfl (hK.2.2.2.2.2.2.2.2.2.2.1 _ _ _ _ _ _ hw)) hi hst (by rw [g2]; exact h6) g1 g3 hlt rfl rfl hd fin'
theorem pg_getI {K : Int32 → Option σ} {i c k r : Nat} {ty : FieldType} {fin : Bool} (hd : decode cc pc = .ok (.getfield i, 3)) (hF : pg_FL own i c k ty fin) (h0 : pg_fk ty = 0) (kk : ∀ x, pg_EvF l D own cc nL ret nm df dl out (K x) (pc + 3) lv (pI x :: st) h) : pg_EvF l D own cc nL ret nm df dl out (Option.bind (pg_gI c k h r) K) pc lv (pR r :: st) h := by
  refine pg_read (sx := fun x => pI x :: st) (fun y hy => ?_) kk
  intro p e R s m args below meth c0 H locs cells slots Q ls C w k0
  unfold pg_gI at hy
  split at hy
  case isFalse => cases hy
  case isTrue hk =>
    cases hy
    refine pg_Wget C w hk hF hd ?_
    have e1 : pg_V D h r k = .int (pg_i h r k) := by
      unfold pg_V
      rw [hk, pg_sty_obj hF.1, hF.2.1, if_pos h0]
    rw [e1]
    exact k0
theorem pg_getL {K : Int64 → Option σ} {i c k r : Nat} {ty : FieldType} {fin : Bool} (hd : decode cc pc = .ok (.getfield i, 3)) (hF : pg_FL own i c k ty fin) (h0 : pg_fk ty = 1) (kk : ∀ x, pg_EvF l D own cc nL ret nm df dl out (K x) (pc + 3) lv (pL x :: st) h) : pg_EvF l D own cc nL ret nm df dl out (Option.bind (pg_gL c k h r) K) pc lv (pR r :: st) h := by
  refine pg_read (sx := fun x => pL x :: st) (fun y hy => ?_) kk
  intro p e R s m args below meth c0 H locs cells slots Q ls C w k0
  unfold pg_gL at hy
  split at hy
  case isFalse => cases hy
  case isTrue hk =>
    cases hy
    refine pg_Wget C w hk hF hd ?_
    have e1 : pg_V D h r k = .long (pg_l h r k) := by
      unfold pg_V
      rw [hk, pg_sty_obj hF.1, hF.2.1, if_neg (by rw [h0]; decide), if_pos h0]
    rw [e1]
    exact k0
theorem pg_getR {K : Nat → Option σ} {i c k r : Nat} {ty : FieldType} {fin : Bool} (hd : decode cc pc = .ok (.getfield i, 3)) (hF : pg_FL own i c k ty fin) (h0 : pg_fk ty = 2) (kk : ∀ x, pg_EvF l D own cc nL ret nm df dl out (K x) (pc + 3) lv (pR x :: st) h) : pg_EvF l D own cc nL ret nm df dl out (Option.bind (pg_gR c k h r) K) pc lv (pR r :: st) h := by
  refine pg_read (sx := fun x => pR x :: st) (fun y hy => ?_) kk
  intro p e R s m args below meth c0 H locs cells slots Q ls C w k0
  unfold pg_gR at hy
  split at hy
  case isFalse => cases hy
  case isTrue hk =>
    cases hy
    refine pg_Wget C w hk hF hd ?_
    have e1 : pg_V D h r k = pg_trR D (pg_r h r k) := by
      unfold pg_V
      rw [hk, pg_sty_obj hF.1, hF.2.1, if_neg (by rw [h0]; decide), if_neg (by rw [h0]; decide)]
    rw [e1]
    exact k0
/-- a cell of an object changes: the world with it -/
theorem pg_World.putO {c k r : Nat} {h' : pg_H} {H' : Heap} {v : Value} (w : pg_World D h H) (hk : (pg_k h r).1 = c + 1) (hc : c < 13) (hn : h'.1 = h.1) (hk' : pg_k h' = pg_k h) (hi : ∀ r', r' ≠ r → ∀ j, pg_i h' r' j = pg_i h r' j) (hl : ∀ r', r' ≠ r → ∀ j, pg_l h' r' j = pg_l h r' j) (hr : ∀ r', r' ≠ r → ∀ j, pg_r h' r' j = pg_r h r' j)
    (hV : pg_V D h' r = updV (pg_V D h r) k v) (ho : ∃ q : vw_C, vwCl[c]? = some q ∧ t_OB (pg_ad D r) ((pg_G D).1 c) q.2.2 ((pg_G D).2 c) H' (updV (pg_V D h r) k v)) (hs : H'.size = H.size) (hq : ∀ q, q ≠ pg_ad D r → H'[q]? = H[q]?) : pg_World D h' H' := by
  obtain ⟨⟨h1, h2⟩, -⟩ := w.obj hk hc
  refine w.set h1 h2 hn hk' hi hl hr hs hq (Or.inl ?_)
  obtain ⟨q, hq1, hq2⟩ := ho
  exact ⟨c, q, by rw [hk']; exact hk, hc, hq1, by rw [hV]; exact hq2⟩
theorem pg_locs {r : Nat} {locs' : List Loc} (w : pg_World D h H) (h2 : r ≤ h.1) (hL : ∀ q ∈ locs, pg_A D q.base) (hl : ∀ q ∈ locs', q ∈ locs ∨ q.base = pg_ad D r) : ∀ q ∈ locs', pg_A D q.base := by
  intro q hq
  rcases hl q hq with z | z
  · exact hL q z
  · rw [z, w.adr h2]
    exact Nat.le_add_right _ _
theorem pg_putI {K : pg_H → Option σ} {i c k r : Nat} {x : Int32} {fin : Bool} (hd : decode cc pc = .ok (.putfield i, 3)) (hF : pg_FL own i c k .int fin) (hfin : fin = true → nm = "<init>" ∧ pg_FP own i c k) (kk : ∀ h', pg_EvF l D own cc nL ret nm df dl out (K h') (pc + 3) lv st h') : pg_EvF l D own cc nL ret nm df dl out (Option.bind (pg_pI c k h r x) K) pc lv (pI x :: pR r :: st) h := by
  refine pg_write (hx := fun h' => h') (sx := fun _ => st) (fun y hy => ?_) kk
  unfold pg_pI at hy
  split at hy
  case isFalse => cases hy
  case isTrue hk =>
    cases hy
    refine ⟨⟨Nat.le_refl _, Nat.le_refl _⟩, ?_⟩
    intro p e R s m args below meth c0 H locs cells slots Q ls C hsz w hL hc1 hs1 k0
    obtain ⟨⟨h1, h2⟩, -⟩ := w.obj hk hF.1
    refine pg_Wput C w hk hF hfin rfl rfl hd fun H' ho hs hq locs' hl => ?_
    exact W.cs (by simp [pg_si]) (by simp [pg_si]) (k0 H' locs' (w.putO hk hF.1 rfl rfl (fun r' hr' j => pg_up2_ne hr' j) (fun _ _ _ => rfl) (fun _ _ _ => rfl) (pg_V_si (by rw [hk, pg_sty_obj hF.1, hF.2.1]; rfl)) ho hs hq) (pg_locs w h2 hL hl))
theorem pg_putZ {K : pg_H → Option σ} {i c k r : Nat} {x : Int32} {fin : Bool} (hd : decode cc pc = .ok (.putfield i, 3)) (hF : pg_FL own i c k .boolean fin) (hfin : fin = true → nm = "<init>" ∧ pg_FP own i c k) (kk : ∀ h', pg_EvF l D own cc nL ret nm df dl out (K h') (pc + 3) lv st h') : pg_EvF l D own cc nL ret nm df dl out (Option.bind (pg_pZ c k h r x) K) pc lv (pI x :: pR r :: st) h := by
  refine pg_write (hx := fun h' => h') (sx := fun _ => st) (fun y hy => ?_) kk
  unfold pg_pZ at hy
  split at hy
  case isFalse => cases hy
  case isTrue hk =>
    obtain ⟨hk, hz⟩ := hk
    cases hy
    refine ⟨⟨Nat.le_refl _, Nat.le_refl _⟩, ?_⟩
    intro p e R s m args below meth c0 H locs cells slots Q ls C hsz w hL hc1 hs1 k0
    obtain ⟨⟨h1, h2⟩, -⟩ := w.obj hk hF.1
    refine pg_Wput C w hk hF hfin (by rcases hz with rfl | rfl <;> rfl) (by rcases hz with rfl | rfl <;> rfl) hd fun H' ho hs hq locs' hl => ?_
    exact W.cs (by simp [pg_si]) (by simp [pg_si]) (k0 H' locs' (w.putO hk hF.1 rfl rfl (fun r' hr' j => pg_up2_ne hr' j) (fun _ _ _ => rfl) (fun _ _ _ => rfl) (pg_V_si (by rw [hk, pg_sty_obj hF.1, hF.2.1]; rfl)) ho hs hq) (pg_locs w h2 hL hl))
theorem pg_putL {K : pg_H → Option σ} {i c k r : Nat} {x : Int64} {fin : Bool} (hd : decode cc pc = .ok (.putfield i, 3)) (hF : pg_FL own i c k .long fin) (hfin : fin = true → nm = "<init>" ∧ pg_FP own i c k) (kk : ∀ h', pg_EvF l D own cc nL ret nm df dl out (K h') (pc + 3) lv st h') : pg_EvF l D own cc nL ret nm df dl out (Option.bind (pg_pL c k h r x) K) pc lv (pL x :: pR r :: st) h := by
  refine pg_write (hx := fun h' => h') (sx := fun _ => st) (fun y hy => ?_) kk
  unfold pg_pL at hy
  split at hy
  case isFalse => cases hy
  case isTrue hk =>
    cases hy
    refine ⟨⟨Nat.le_refl _, Nat.le_refl _⟩, ?_⟩
    intro p e R s m args below meth c0 H locs cells slots Q ls C hsz w hL hc1 hs1 k0
    obtain ⟨⟨h1, h2⟩, -⟩ := w.obj hk hF.1
    refine pg_Wput C w hk hF hfin rfl rfl hd fun H' ho hs hq locs' hl => ?_
    exact W.cs (by simp [pg_sl]) (by simp [pg_sl]) (k0 H' locs' (w.putO hk hF.1 rfl rfl (fun _ _ _ => rfl) (fun r' hr' j => pg_up2_ne hr' j) (fun _ _ _ => rfl) (pg_V_sl (by rw [hk, pg_sty_obj hF.1, hF.2.1]; rfl)) ho hs hq) (pg_locs w h2 hL hl))
theorem pg_narR {ty : FieldType} {x : Nat} (h0 : pg_fk ty = 2) : narrow ty (pg_trR D x) = pg_trR D x ∧ fits ty (pg_trR D x) = true := by
  unfold pg_trR
  cases ty with
  | object C => split <;> exact ⟨rfl, rfl⟩
  | array t => split <;> exact ⟨rfl, rfl⟩
  | _ => cases h0
theorem pg_putR {K : pg_H → Option σ} {i c k r x : Nat} {ty : FieldType} {fin : Bool} (hd : decode cc pc = .ok (.putfield i, 3)) (hF : pg_FL own i c k ty fin) (h0 : pg_fk ty = 2) (hfin : fin = true → nm = "<init>" ∧ pg_FP own i c k) (kk : ∀ h', pg_EvF l D own cc nL ret nm df dl out (K h') (pc + 3) lv st h') : pg_EvF l D own cc nL ret nm df dl out (Option.bind (pg_pR c k h r x) K) pc lv (pR x :: pR r :: st) h := by
  refine pg_write (hx := fun h' => h') (sx := fun _ => st) (fun y hy => ?_) kk
  unfold pg_pR at hy
  split at hy
  case isFalse => cases hy
  case isTrue hk =>
    cases hy
    refine ⟨⟨Nat.le_refl _, Nat.le_refl _⟩, ?_⟩
    intro p e R s m args below meth c0 H locs cells slots Q ls C hsz w hL hc1 hs1 k0
    obtain ⟨⟨h1, h2⟩, -⟩ := w.obj hk hF.1
    refine pg_Wput C w hk hF hfin (pg_narR h0).1 (pg_narR h0).2 hd fun H' ho hs hq locs' hl => ?_
    exact W.cs (by simp [pg_sr]) (by simp [pg_sr]) (k0 H' locs' (w.putO hk hF.1 rfl rfl (fun _ _ _ => rfl) (fun _ _ _ => rfl) (fun r' hr' j => pg_up2_ne hr' j) (pg_V_sr (by rw [hk, pg_sty_obj hF.1, hF.2.1]; exact h0)) ho hs hq) (pg_locs w h2 hL hl))
end PGR
