/-! THE PURE HEAP: cells counted, slots counted, the kind and length of each cell, ints, longs, references of each cell. A pure reference is a number: 0 is null, k + 1 the k-th cell made since the law began, pg_lim and above the fixed arrays (the script, TERM_LEAST, TERM_MOST). -/
abbrev pg_H : Type := Nat × Nat × (Nat → Nat × Nat) × (Nat → Nat → Int32) × (Nat → Nat → Int64) × (Nat → Nat → Nat)
abbrev pg_pv : Type := Int32 ⊕ Int64 ⊕ Nat
abbrev pI (x : Int32) : pg_pv := .inl x
abbrev pL (x : Int64) : pg_pv := .inr (.inl x)
abbrev pR (x : Nat) : pg_pv := .inr (.inr x)
abbrev pg_lim : Nat := 1099511627776
/-- the machine's side: base, heap at the start, classes' numbers, places of fields, arrays' classes, addresses of the fixed arrays, their classes -/
abbrev pg_D : Type := Nat × Heap × (Nat → ClassId) × (Nat → Nat → Nat) × (Nat → ClassId) × (Nat → Nat) × (Nat → ClassId) × (Nat → Nat × (Nat → Int32))
def pg_b (D : pg_D) : Nat := D.1
def pg_H0 (D : pg_D) : Heap := D.2.1
def pg_G (D : pg_D) : va_G := (D.2.2.1, D.2.2.2.1)
def pg_cA (D : pg_D) : Nat → ClassId := D.2.2.2.2.1
def pg_sa (D : pg_D) : Nat → Nat := D.2.2.2.2.2.1
def pg_sc (D : pg_D) : Nat → ClassId := D.2.2.2.2.2.2.1
/-- what the fixed arrays hold: length and content -/
def pg_sx (D : pg_D) : Nat → Nat × (Nat → Int32) := D.2.2.2.2.2.2.2
def pg_least : Nat × (Nat → Int32) := (4, fun j => ([1, 0, 1, 0] : List Int32).getD j 0)
def pg_most : Nat × (Nat → Int32) := (4, fun j => ([9, 9, 9, 1000] : List Int32).getD j 0)
def pg_ad (D : pg_D) (r : Nat) : Nat := if r < pg_lim then pg_b D + (r - 1) else pg_sa D (r - pg_lim)
def pg_trR (D : pg_D) (r : Nat) : Value := if r = 0 then .null else .ref (pg_ad D r)
def pg_tr (D : pg_D) : pg_pv → Value
  | .inl x => .int x
  | .inr (.inl y) => .long y
  | .inr (.inr r) => pg_trR D r
def pg_tq (D : pg_D) (q : Nat × pg_pv) : Nat × Value := (q.1, pg_tr D q.2)
def pg_cat : pg_pv → Nat
  | .inl _ => 1
  | .inr (.inl _) => 2
  | .inr (.inr _) => 1
def pg_k (h : pg_H) : Nat → Nat × Nat := h.2.2.1
def pg_i (h : pg_H) : Nat → Nat → Int32 := h.2.2.2.1
def pg_l (h : pg_H) : Nat → Nat → Int64 := h.2.2.2.2.1
def pg_r (h : pg_H) : Nat → Nat → Nat := h.2.2.2.2.2
def pg_cty : Nat → Nat → FieldType
  | 0 => tyX0 | 1 => tyX1 | 2 => tyX2 | 3 => tyX3 | 4 => tyX4 | 5 => tyX5 | 6 => tyX6 | 7 => tyX7 | 8 => tyX8 | 9 => tyX9 | 10 => tyX10 | 11 => tyX11 | _ => tyX12
def pg_fk : FieldType → Nat
  | .long => 1
  | .object _ => 2
  | .array _ => 2
  | _ => 0
/-- kinds: c + 1 an object of class c; 20 bytes, 21 ints, 22 longs, 23 booleans, 24 shelves, 25 texts, 26 a fixed array of ints -/
def pg_sty (t k : Nat) : Nat := if t < 20 then pg_fk (pg_cty (t - 1) k) else if t = 22 then 1 else if t = 24 ∨ t = 25 then 2 else 0
def pg_aty : Nat → FieldType
  | 20 => .byte | 21 => .int | 22 => .long | 23 => .boolean | 24 => .object RX5 | _ => .object RX9
def pg_V (D : pg_D) (h : pg_H) (r k : Nat) : Value := if pg_sty (pg_k h r).1 k = 0 then .int (pg_i h r k) else if pg_sty (pg_k h r).1 k = 1 then .long (pg_l h r k) else pg_trR D (pg_r h r k)
def pg_live (h : pg_H) (r : Nat) : Prop := (1 ≤ r ∧ r ≤ h.1) ∨ (pg_lim ≤ r ∧ r < pg_lim + 3)
def pg_cell (D : pg_D) (h : pg_H) (r : Nat) (H : Heap) : Prop :=
  (∃ (c : Nat) (q : vw_C), (pg_k h r).1 = c + 1 ∧ c < 13 ∧ vwCl[c]? = some q ∧ t_OB (pg_ad D r) ((pg_G D).1 c) q.2.2 ((pg_G D).2 c) H (pg_V D h r)) ∨
  (20 ≤ (pg_k h r).1 ∧ (pg_k h r).1 < 26 ∧ H[pg_ad D r]? = some (arrV (pg_cA D (pg_k h r).1) (pg_k h r).2 (pg_V D h r))) ∨
  ((pg_k h r).1 = 26 ∧ pg_lim ≤ r ∧ ∃ cell : Cell, H[pg_ad D r]? = some cell ∧ cell.cls = pg_sc D (r - pg_lim) ∧ (∀ q, cell.vm ≠ .statics q) ∧ cell.vm ≠ .unknown ∧ (pg_sx D (r - pg_lim)).1 ≤ cell.slots.size ∧ cell.slots.size.toInt32 = Int32.ofNat (pg_sx D (r - pg_lim)).1 ∧ ∀ j, j < (pg_sx D (r - pg_lim)).1 → cell.slots[j]? = some (.int ((pg_sx D (r - pg_lim)).2 j)))
/-- the machine's heap holds the pure heap, and what lay there when the law began -/
def pg_World (D : pg_D) (h : pg_H) (H : Heap) : Prop :=
  H.size = pg_b D + h.1 ∧ h.1 < pg_lim ∧ (∀ q, q < pg_b D → H[q]? = (pg_H0 D)[q]?) ∧ ((∀ k, k < 3 → pg_sa D k < pg_b D ∧ (pg_k h (pg_lim + k)).1 = 26) ∧ pg_sx D 1 = pg_least ∧ pg_sx D 2 = pg_most) ∧
  (∀ r, pg_live h r → pg_cell D h r H) ∧ ∀ r, ¬ pg_live h r → pg_k h r = (0, 0)
def pg_isA (U : State) (cA : ClassId) (ty : FieldType) : Prop := ∃ (k : Class) (comp : ClassId), U.vm.classes[cA]? = some k ∧ k.kind = .array comp ty
def pg_txt : String := "weight reads notes copies adds late struck if or and not place chapter wording shared land hand kind lists looked "
def pg_bJ : List Int32 := [119, 101, 105, 103, 104, 116, 32, 114, 101, 97, 100, 115, 32, 110, 111, 116, 101, 115, 32, 99, 111, 112, 105, 101, 115, 32, 97, 100, 100, 115, 32, 108, 97, 116, 101, 32, 115, 116, 114, 117, 99, 107, 32, 105, 102, 32, 111, 114, 32, 97, 110, 100, 32, 110, 111, 116, 32, 112, 108, 97, 99, 101, 32, 99, 104, 97, 112, 116, 101, 114, 32, 119, 111, 114, 100, 105, 110, 103, 32, 115, 104, 97, 114, 101, 100, 32, 108, 97, 110, 100, 32, 104, 97, 110, 100, 32, 107, 105, 110, 100, 32, 108, 105, 115, 116, 115, 32, 108, 111, 111, 107, 101, 100, 32]
/-- the links between nest mates -/
def pg_Ks (U : State) : Prop := (∀ a i x g, Cond.methodLinkNest a i x g ∈ lw_tbl → va_Nw (.methodLinkNest a i x g) U) ∧ (∀ a i b n d g, Cond.fieldLinkNest a i b n d g ∈ lw_tbl → va_Nw (.fieldLinkNest a i b n d g) U) ∧ va_AO RX5 U ∧ va_AO RX9 U
/-- what the tables say, in any frame -/
def pg_K (D : pg_D) (U : State) : Prop :=
  va_K (pg_G D) vwCl [] U ∧ (∀ t, 20 ≤ t → t < 26 → ArrOfT U (pg_cA D t) (pg_aty t) ∧ va_RA U (pg_cA D t) (pg_aty t)) ∧ (∀ k, k < 3 → ArrOfT U (pg_sc D k) .int) ∧
  va_Z RX11 "TERM_LEAST" "[I" (.ref (pg_sa D 1)) (fun q => pg_b D ≤ q) U (pg_H0 D) ∧ va_Z RX11 "TERM_MOST" "[I" (.ref (pg_sa D 2)) (fun q => pg_b D ≤ q) U (pg_H0 D) ∧
  vk_S 1 [114] [pg_bJ] (fun _ => pg_sa D 3) (fun _ => pg_sa D 4) (fun q => pg_b D ≤ q) U (pg_H0 D) ∧ vk_R RX3 116 pg_txt (pg_sa D 3) U ∧
  va_Z "java/lang/String" "COMPACT_STRINGS" "Z" (.int 1) (fun q => pg_b D ≤ q) U (pg_H0 D) ∧ va_Z "jdk/internal/util/Preconditions" "SIOOBE_FORMATTER" "Ljava/util/function/BiFunction;" (pg_trR D (pg_sa D 6)) (fun q => pg_b D ≤ q) U (pg_H0 D) ∧ pg_Ks U
theorem pg_K.go {D : pg_D} {u U : State} (hvm : u.vm.Alike U.vm) (hR : vk_R RX3 116 pg_txt (pg_sa D 3) U) (hN : pg_Ks U) (h : pg_K D u) : pg_K D U :=
  ⟨va_K.moved hvm h.1, fun t h1 h2 => ⟨arrOfT_moved hvm (h.2.1 t h1 h2).1, (h.2.1 t h1 h2).2.moved hvm⟩, fun k hk => arrOfT_moved hvm (h.2.2.1 k hk), h.2.2.2.1.moved hvm, h.2.2.2.2.1.moved hvm, h.2.2.2.2.2.1.moved hvm, hR, h.2.2.2.2.2.2.2.1.moved hvm, h.2.2.2.2.2.2.2.2.1.moved hvm, hN⟩
theorem pg_K.warm {D : pg_D} {u U : State} (hW : u.WarmedH U.vm) (h : pg_K D u) : pg_K D U := h.go hW.alike (vk_R.warm hW h.2.2.2.2.2.2.1) ⟨fun a i x g z => va_Nw.warmM hW (h.2.2.2.2.2.2.2.2.2.1 a i x g z), fun a i b n d g z => va_Nw.warmF hW (h.2.2.2.2.2.2.2.2.2.2.1 a i b n d g z), h.2.2.2.2.2.2.2.2.2.2.2.1.moved hW.alike, h.2.2.2.2.2.2.2.2.2.2.2.2.moved hW.alike⟩
theorem pg_K.same {D : pg_D} {u U : State} (hv : U.vm = u.vm) (h : pg_K D u) : pg_K D U := h.go (by rw [hv]; exact Vm.Alike.refl u.vm) (vk_R.same hv h.2.2.2.2.2.2.1) ⟨fun a i x g z => va_Nw.same rfl hv.symm (h.2.2.2.2.2.2.2.2.2.1 a i x g z), fun a i b n d g z => va_Nw.same rfl hv.symm (h.2.2.2.2.2.2.2.2.2.2.1 a i b n d g z), h.2.2.2.2.2.2.2.2.2.2.2.1.moved (by rw [hv]; exact Vm.Alike.refl u.vm), h.2.2.2.2.2.2.2.2.2.2.2.2.moved (by rw [hv]; exact Vm.Alike.refl u.vm)⟩
def pg_A (D : pg_D) : Nat → Prop := fun q => pg_b D ≤ q
def pg_W : List Cond := lw_tbl.filter goodWord
def pg_Cx (D : pg_D) (own : String) (cc : ByteArray) (nL : Nat) (ret : Option FieldType) (nm : String) (df dl : Nat) (p : Program) (R : Room) (s : State) (m : MethodId) (args : Array Value) (meth : Method) (c : Code) : Prop :=
  p.tables.exec = Jvm.exec ∧ c.code = cc ∧ c.maxLocals = nL ∧ s.vm.findClass own = some m.cls ∧ meth.sig.returnType = ret ∧ meth.locks = false ∧ meth.name = nm ∧ (∀ w ∈ pg_W, w.before args s = true) ∧ pg_K D s ∧ df ≤ R.frames ∧ dl ≤ R.locals
def pg_St (D : pg_D) (nL : Nat) (lv : List (Nat × pg_pv)) (h : pg_H) (H : Heap) (locs : List Loc) (ls : Array Slot) : Prop :=
  pg_World D h H ∧ lv_has ls nL (lv.map (pg_tq D)) ∧ ∀ q ∈ locs, pg_A D q.base
def pg_Qc (D : pg_D) (res : Option pg_pv × pg_H) : Array Value → State → Outcome → State → Prop := fun _ _ o t => o = .returned (res.1.map (pg_tr D)) ∧ pg_World D res.2 t.heap
def pg_Ev (l : Launch) (D : pg_D) (own : String) (cc : ByteArray) (nL : Nat) (ret : Option FieldType) (nm : String) (df dl pc : Nat) (lv : List (Nat × pg_pv)) (st : List pg_pv) (h : pg_H) (res : Option pg_pv × pg_H) : Prop :=
  ∀ (p : Program) (e : Env) (R : Room) (s : State) (m : MethodId) (args : Array Value) (below : List Frame) (meth : Method) (c : Code), pg_Cx D own cc nL ret nm df dl p R s m args meth c →
  ∀ (H : Heap) (locs : List Loc) (ls : Array Slot) (cells slots mc ms : Nat), pg_St D nL lv h H locs ls → cells + (res.2.1 - h.1) ≤ mc → slots + (res.2.2.1 - h.2.1) ≤ ms → mc ≤ R.cells → ms ≤ R.slots →
  W p l e R s m args below meth c H locs cells slots (MQ below (pg_Qc D res) args s mc ms (pg_A D)) (F0 m pc ls (st.map (pg_tr D)))
/-- whatever F says comes out: from here the method returns that, with that heap -/
def pg_EvF {σ : Type} (l : Launch) (D : pg_D) (own : String) (cc : ByteArray) (nL : Nat) (ret : Option FieldType) (nm : String) (df dl : Nat) (out : σ → Option pg_pv × pg_H) (F : Option σ) (pc : Nat) (lv : List (Nat × pg_pv)) (st : List pg_pv) (h : pg_H) : Prop :=
  ∀ x, F = some x → (h.1 ≤ (out x).2.1 ∧ h.2.1 ≤ (out x).2.2.1) ∧ pg_Ev l D own cc nL ret nm df dl pc lv st h (out x)
section PG
variable {l : Launch} {D : pg_D} {own : String} {cc : ByteArray} {nL : Nat} {ret : Option FieldType} {nm : String} {df dl pc pc' : Nat} {σ τ : Type} {out : σ → Option pg_pv × pg_H} {F A B : Option σ} {lv lv' : List (Nat × pg_pv)} {st st' rest : List pg_pv} {h : pg_H}
theorem pg_pure (hs : ∀ {p : Program} {e : Env} {R : Room} {s : State} {m : MethodId} {args : Array Value} {below : List Frame} {meth : Method} {c : Code} {H : Heap} {locs : List Loc} {cells slots : Nat} {Q : State → Prop} {ls : Array Slot}, pg_Cx D own cc nL ret nm df dl p R s m args meth c → lv_has ls nL (lv.map (pg_tq D)) →
    W p l e R s m args below meth c H locs cells slots Q (F0 m pc' ls (st'.map (pg_tr D))) → W p l e R s m args below meth c H locs cells slots Q (F0 m pc ls (st.map (pg_tr D))))
    (k : pg_EvF l D own cc nL ret nm df dl out F pc' lv st' h) : pg_EvF l D own cc nL ret nm df dl out F pc lv st h := by
  intro x hx
  obtain ⟨hm, hk⟩ := k x hx
  refine ⟨hm, ?_⟩
  intro p e R s m args below meth c C H locs ls cells slots mc ms S h1 h2 h3 h4
  exact hs C S.2.1 (hk p e R s m args below meth c C H locs ls cells slots mc ms S h1 h2 h3 h4)
theorem pg_store (hs : ∀ {p : Program} {e : Env} {R : Room} {s : State} {m : MethodId} {args : Array Value} {below : List Frame} {meth : Method} {c : Code} {H : Heap} {locs : List Loc} {cells slots : Nat} {Q : State → Prop} {ls : Array Slot}, pg_Cx D own cc nL ret nm df dl p R s m args meth c → lv_has ls nL (lv.map (pg_tq D)) →
    (∀ ls' : Array Slot, lv_has ls' nL (lv'.map (pg_tq D)) → W p l e R s m args below meth c H locs cells slots Q (F0 m pc' ls' (st'.map (pg_tr D)))) → W p l e R s m args below meth c H locs cells slots Q (F0 m pc ls (st.map (pg_tr D))))
    (k : pg_EvF l D own cc nL ret nm df dl out F pc' lv' st' h) : pg_EvF l D own cc nL ret nm df dl out F pc lv st h := by
  intro x hx
  obtain ⟨hm, hk⟩ := k x hx
  refine ⟨hm, ?_⟩
  intro p e R s m args below meth c C H locs ls cells slots mc ms S h1 h2 h3 h4
  exact hs C S.2.1 (fun ls' hl => hk p e R s m args below meth c C H locs ls' cells slots mc ms ⟨S.1, hl, S.2.2⟩ h1 h2 h3 h4)
/-- a branch -/
theorem pg_br {P : Prop} [Decidable P] {pa pb : Nat} (hs : ∀ {p : Program} {e : Env} {R : Room} {s : State} {m : MethodId} {args : Array Value} {below : List Frame} {meth : Method} {c : Code} {H : Heap} {locs : List Loc} {cells slots : Nat} {Q : State → Prop} {ls : Array Slot}, pg_Cx D own cc nL ret nm df dl p R s m args meth c →
    (P → W p l e R s m args below meth c H locs cells slots Q (F0 m pa ls (st'.map (pg_tr D)))) → (¬ P → W p l e R s m args below meth c H locs cells slots Q (F0 m pb ls (st'.map (pg_tr D)))) → W p l e R s m args below meth c H locs cells slots Q (F0 m pc ls (st.map (pg_tr D))))
    (ka : pg_EvF l D own cc nL ret nm df dl out A pa lv st' h) (kb : pg_EvF l D own cc nL ret nm df dl out B pb lv st' h) : pg_EvF l D own cc nL ret nm df dl out (if P then A else B) pc lv st h := by
  intro x hx
  by_cases hP : P
  · rw [if_pos hP] at hx
    obtain ⟨hm, hk⟩ := ka x hx
    refine ⟨hm, ?_⟩
    intro p e R s m args below meth c C H locs ls cells slots mc ms S h1 h2 h3 h4
    exact hs C (fun _ => hk p e R s m args below meth c C H locs ls cells slots mc ms S h1 h2 h3 h4) (fun n => absurd hP n)
  · rw [if_neg hP] at hx
    obtain ⟨hm, hk⟩ := kb x hx
    refine ⟨hm, ?_⟩
    intro p e R s m args below meth c C H locs ls cells slots mc ms S h1 h2 h3 h4
    exact hs C (fun n => absurd n hP) (fun _ => hk p e R s m args below meth c C H locs ls cells slots mc ms S h1 h2 h3 h4)
/-- a value is read off the heap -/
theorem pg_read {G : Option τ} {K : τ → Option σ} {sx : τ → List pg_pv} (hs : ∀ y, G = some y → ∀ {p : Program} {e : Env} {R : Room} {s : State} {m : MethodId} {args : Array Value} {below : List Frame} {meth : Method} {c : Code} {H : Heap} {locs : List Loc} {cells slots : Nat} {Q : State → Prop} {ls : Array Slot}, pg_Cx D own cc nL ret nm df dl p R s m args meth c → pg_World D h H →
    W p l e R s m args below meth c H locs cells slots Q (F0 m pc' ls ((sx y).map (pg_tr D))) → W p l e R s m args below meth c H locs cells slots Q (F0 m pc ls (st.map (pg_tr D))))
    (k : ∀ y, pg_EvF l D own cc nL ret nm df dl out (K y) pc' lv (sx y) h) : pg_EvF l D own cc nL ret nm df dl out (Option.bind G K) pc lv st h := by
  intro x hx
  obtain ⟨y, hy, hx⟩ := Option.bind_eq_some_iff.mp hx
  obtain ⟨hm, hk⟩ := k y x hx
  refine ⟨hm, ?_⟩
  intro p e R s m args below meth c C H locs ls cells slots mc ms S h1 h2 h3 h4
  exact hs y hy C S.1 (hk p e R s m args below meth c C H locs ls cells slots mc ms S h1 h2 h3 h4)
/-- the heap changes: hx says how -/
theorem pg_write {G : Option τ} {K : τ → Option σ} {sx : τ → List pg_pv} {hx : τ → pg_H} (hs : ∀ y, G = some y → (h.1 ≤ (hx y).1 ∧ h.2.1 ≤ (hx y).2.1) ∧ ∀ {p : Program} {e : Env} {R : Room} {s : State} {m : MethodId} {args : Array Value} {below : List Frame} {meth : Method} {c : Code} {H : Heap} {locs : List Loc} {cells slots : Nat} {Q : State → Prop} {ls : Array Slot}, pg_Cx D own cc nL ret nm df dl p R s m args meth c → ls.size = nL → pg_World D h H → (∀ q ∈ locs, pg_A D q.base) → cells + ((hx y).1 - h.1) ≤ R.cells → slots + ((hx y).2.1 - h.2.1) ≤ R.slots →
    (∀ (H' : Heap) (locs' : List Loc), pg_World D (hx y) H' → (∀ q ∈ locs', pg_A D q.base) → W p l e R s m args below meth c H' locs' (cells + ((hx y).1 - h.1)) (slots + ((hx y).2.1 - h.2.1)) Q (F0 m pc' ls ((sx y).map (pg_tr D)))) → W p l e R s m args below meth c H locs cells slots Q (F0 m pc ls (st.map (pg_tr D))))
    (k : ∀ y, pg_EvF l D own cc nL ret nm df dl out (K y) pc' lv (sx y) (hx y)) : pg_EvF l D own cc nL ret nm df dl out (Option.bind G K) pc lv st h := by
  intro x hx'
  obtain ⟨y, hy, hx'⟩ := Option.bind_eq_some_iff.mp hx'
  obtain ⟨⟨hm1, hm2⟩, hk⟩ := k y x hx'
  obtain ⟨⟨hn1, hn2⟩, hs⟩ := hs y hy
  refine ⟨⟨Nat.le_trans hn1 hm1, Nat.le_trans hn2 hm2⟩, ?_⟩
  intro p e R s m args below meth c C H locs ls cells slots mc ms S h1 h2 h3 h4
  refine hs C S.2.1.1 S.1 S.2.2 (by omega) (by omega) fun H' locs' hW hL => ?_
  exact hk p e R s m args below meth c C H' locs' ls _ _ mc ms ⟨hW, S.2.1, hL⟩ (by omega) (by omega) h3 h4
/-- fewer locals are known -/
theorem pg_sub (ks : List Nat) (hl : ks.filterMap (fun k => lv[k]?) = lv') (k : pg_EvF l D own cc nL ret nm df dl out F pc lv' st h) : pg_EvF l D own cc nL ret nm df dl out F pc lv st h := by
  intro x hx
  obtain ⟨hm, hk⟩ := k x hx
  refine ⟨hm, ?_⟩
  intro p e R s m args below meth c C H locs ls cells slots mc ms S h1 h2 h3 h4
  refine hk p e R s m args below meth c C H locs ls cells slots mc ms ⟨S.1, ⟨S.2.1.1, S.2.1.2.1, fun q hq => ?_⟩, S.2.2⟩ h1 h2 h3 h4
  subst hl
  obtain ⟨q', hq', rfl⟩ := List.mem_map.mp hq
  obtain ⟨i, -, hi⟩ := List.mem_filterMap.mp hq'
  exact S.2.1.2.2 _ (List.mem_map.mpr ⟨q', List.mem_of_getElem? hi, rfl⟩)
theorem pg_none : pg_EvF l D own cc nL ret nm df dl out (none : Option σ) pc lv st h := fun x hx => by cases hx
theorem pg_lvat {i : Nat} {v : pg_pv} (ls : Array Slot) (hl : lv_has ls nL (lv.map (pg_tq D))) (k : Nat) (hk : lv[k]? = some (i, v)) : ls[i]? = some (.val (pg_tr D v)) :=
  lv_at hl k (by rw [List.getElem?_map, hk]; rfl)
theorem pg_trcat (v : pg_pv) : (pg_tr D v).category = pg_cat v := by
  rcases v with x | x | x
  · rfl
  · rfl
  · show (pg_trR D x).category = 1
    unfold pg_trR
    split <;> rfl
theorem pg_filter {i : Nat} {x : pg_pv} (hl : (i, x) :: lv.filter (fun q => !(q.1 == i) && !(q.1 + 1 == i && pg_cat q.2 == 2)) = lv') : (i, pg_tr D x) :: (lv.map (pg_tq D)).filter (fun q => !(q.1 == i) && !(q.1 + 1 == i && q.2.category == 2)) = lv'.map (pg_tq D) := by
  rw [← hl, List.map_cons, List.filter_map]
  congr 2
  congr 1
  funext q
  simp [Function.comp, pg_tq, pg_trcat]
theorem pg_filter2 {i : Nat} {x : pg_pv} (hl : (i, x) :: lv.filter (fun q => !(q.1 == i) && (!(q.1 == i + 1) && !(q.1 + 1 == i && pg_cat q.2 == 2))) = lv') : (i, pg_tr D x) :: (lv.map (pg_tq D)).filter (fun q => !(q.1 == i) && (!(q.1 == i + 1) && !(q.1 + 1 == i && q.2.category == 2))) = lv'.map (pg_tq D) := by
  rw [← hl, List.map_cons, List.filter_map]
  congr 2
  congr 1
  funext q
  simp [Function.comp, pg_tq, pg_trcat]
theorem pg_cmp_v (x y : Int64) : (x < y ∧ lg_cmp x y = -1) ∨ (x = y ∧ lg_cmp x y = 0) ∨ (y < x ∧ lg_cmp x y = 1) := by
  unfold lg_cmp
  by_cases h1 : x > y
  · exact Or.inr (Or.inr ⟨h1, if_pos h1⟩)
  · by_cases h2 : x = y
    · exact Or.inr (Or.inl ⟨h2, by rw [if_neg h1, if_pos h2]⟩)
    · refine Or.inl ⟨?_, by rw [if_neg h1, if_neg h2]⟩
      have h3 : ¬ y < x := h1
      rw [Int64.lt_iff_toInt_lt] at h3 ⊢
      have h4 : x.toInt ≠ y.toInt := fun q => h2 (Int64.toInt_inj.mp q)
      omega
theorem pg_cmp_eq {x y : Int64} (z : lg_cmp x y = 0) : x = y := by
  rcases pg_cmp_v x y with ⟨h1, h2⟩ | ⟨h1, h2⟩ | ⟨h1, h2⟩ <;> rw [h2] at z <;>
    first
    | exact absurd z (by decide)
    | (have h3 := Int64.lt_iff_toInt_lt.mp h1; intro q; have h4 := Int64.lt_iff_toInt_lt.mp q; omega)
    | (have h3 := Int64.lt_iff_toInt_lt.mp h1; intro q; rw [q] at h3; omega)
    | (intro q; have h4 := Int64.lt_iff_toInt_lt.mp q; rw [h1] at h4; omega)
    | exact h1
    | exact absurd z (by decide)
theorem pg_cmpn_eq {x y : Int64} (z : ¬ lg_cmp x y = 0) : ¬ x = y := by
  rcases pg_cmp_v x y with ⟨h1, h2⟩ | ⟨h1, h2⟩ | ⟨h1, h2⟩ <;> rw [h2] at z <;>
    first
    | exact absurd z (by decide)
    | (have h3 := Int64.lt_iff_toInt_lt.mp h1; intro q; have h4 := Int64.lt_iff_toInt_lt.mp q; omega)
    | (have h3 := Int64.lt_iff_toInt_lt.mp h1; intro q; rw [q] at h3; omega)
    | (intro q; have h4 := Int64.lt_iff_toInt_lt.mp q; rw [h1] at h4; omega)
    | exact h1
    | exact absurd z (by decide)
theorem pg_cmp_ne {x y : Int64} (z : ¬ lg_cmp x y = 0) : ¬ x = y := by
  rcases pg_cmp_v x y with ⟨h1, h2⟩ | ⟨h1, h2⟩ | ⟨h1, h2⟩ <;> rw [h2] at z <;>
    first
    | exact absurd z (by decide)
    | (have h3 := Int64.lt_iff_toInt_lt.mp h1; intro q; have h4 := Int64.lt_iff_toInt_lt.mp q; omega)
    | (have h3 := Int64.lt_iff_toInt_lt.mp h1; intro q; rw [q] at h3; omega)
    | (intro q; have h4 := Int64.lt_iff_toInt_lt.mp q; rw [h1] at h4; omega)
    | exact h1
    | exact absurd z (by decide)
theorem pg_cmpn_ne {x y : Int64} (z : ¬ ¬ lg_cmp x y = 0) : x = y := by
  rcases pg_cmp_v x y with ⟨h1, h2⟩ | ⟨h1, h2⟩ | ⟨h1, h2⟩ <;> rw [h2] at z <;>
    first
    | exact absurd z (by decide)
    | (have h3 := Int64.lt_iff_toInt_lt.mp h1; intro q; have h4 := Int64.lt_iff_toInt_lt.mp q; omega)
    | (have h3 := Int64.lt_iff_toInt_lt.mp h1; intro q; rw [q] at h3; omega)
    | (intro q; have h4 := Int64.lt_iff_toInt_lt.mp q; rw [h1] at h4; omega)
    | exact h1
    | exact absurd z (by decide)
theorem pg_cmp_lt {x y : Int64} (z : lg_cmp x y < 0) : x < y := by
  rcases pg_cmp_v x y with ⟨h1, h2⟩ | ⟨h1, h2⟩ | ⟨h1, h2⟩ <;> rw [h2] at z <;>
    first
    | exact absurd z (by decide)
    | (have h3 := Int64.lt_iff_toInt_lt.mp h1; intro q; have h4 := Int64.lt_iff_toInt_lt.mp q; omega)
    | (have h3 := Int64.lt_iff_toInt_lt.mp h1; intro q; rw [q] at h3; omega)
    | (intro q; have h4 := Int64.lt_iff_toInt_lt.mp q; rw [h1] at h4; omega)
    | exact h1
    | exact absurd z (by decide)
theorem pg_cmpn_lt {x y : Int64} (z : ¬ lg_cmp x y < 0) : ¬ x < y := by
  rcases pg_cmp_v x y with ⟨h1, h2⟩ | ⟨h1, h2⟩ | ⟨h1, h2⟩ <;> rw [h2] at z <;>
    first
    | exact absurd z (by decide)
    | (have h3 := Int64.lt_iff_toInt_lt.mp h1; intro q; have h4 := Int64.lt_iff_toInt_lt.mp q; omega)
    | (have h3 := Int64.lt_iff_toInt_lt.mp h1; intro q; rw [q] at h3; omega)
    | (intro q; have h4 := Int64.lt_iff_toInt_lt.mp q; rw [h1] at h4; omega)
    | exact h1
    | exact absurd z (by decide)
theorem pg_cmp_ge {x y : Int64} (z : 0 ≤ lg_cmp x y) : ¬ x < y := by
  rcases pg_cmp_v x y with ⟨h1, h2⟩ | ⟨h1, h2⟩ | ⟨h1, h2⟩ <;> rw [h2] at z <;>
    first
    | exact absurd z (by decide)
    | (have h3 := Int64.lt_iff_toInt_lt.mp h1; intro q; have h4 := Int64.lt_iff_toInt_lt.mp q; omega)
    | (have h3 := Int64.lt_iff_toInt_lt.mp h1; intro q; rw [q] at h3; omega)
    | (intro q; have h4 := Int64.lt_iff_toInt_lt.mp q; rw [h1] at h4; omega)
    | exact h1
    | exact absurd z (by decide)
theorem pg_cmpn_ge {x y : Int64} (z : ¬ 0 ≤ lg_cmp x y) : x < y := by
  rcases pg_cmp_v x y with ⟨h1, h2⟩ | ⟨h1, h2⟩ | ⟨h1, h2⟩ <;> rw [h2] at z <;>
    first
    | exact absurd z (by decide)
    | (have h3 := Int64.lt_iff_toInt_lt.mp h1; intro q; have h4 := Int64.lt_iff_toInt_lt.mp q; omega)
    | (have h3 := Int64.lt_iff_toInt_lt.mp h1; intro q; rw [q] at h3; omega)
    | (intro q; have h4 := Int64.lt_iff_toInt_lt.mp q; rw [h1] at h4; omega)
    | exact h1
    | exact absurd z (by decide)
theorem pg_cmp_gt {x y : Int64} (z : 0 < lg_cmp x y) : y < x := by
  rcases pg_cmp_v x y with ⟨h1, h2⟩ | ⟨h1, h2⟩ | ⟨h1, h2⟩ <;> rw [h2] at z <;>
    first
    | exact absurd z (by decide)
    | (have h3 := Int64.lt_iff_toInt_lt.mp h1; intro q; have h4 := Int64.lt_iff_toInt_lt.mp q; omega)
    | (have h3 := Int64.lt_iff_toInt_lt.mp h1; intro q; rw [q] at h3; omega)
    | (intro q; have h4 := Int64.lt_iff_toInt_lt.mp q; rw [h1] at h4; omega)
    | exact h1
    | exact absurd z (by decide)
theorem pg_cmpn_gt {x y : Int64} (z : ¬ 0 < lg_cmp x y) : ¬ y < x := by
  rcases pg_cmp_v x y with ⟨h1, h2⟩ | ⟨h1, h2⟩ | ⟨h1, h2⟩ <;> rw [h2] at z <;>
    first
    | exact absurd z (by decide)
    | (have h3 := Int64.lt_iff_toInt_lt.mp h1; intro q; have h4 := Int64.lt_iff_toInt_lt.mp q; omega)
    | (have h3 := Int64.lt_iff_toInt_lt.mp h1; intro q; rw [q] at h3; omega)
    | (intro q; have h4 := Int64.lt_iff_toInt_lt.mp q; rw [h1] at h4; omega)
    | exact h1
    | exact absurd z (by decide)
theorem pg_cmp_le {x y : Int64} (z : lg_cmp x y ≤ 0) : ¬ y < x := by
  rcases pg_cmp_v x y with ⟨h1, h2⟩ | ⟨h1, h2⟩ | ⟨h1, h2⟩ <;> rw [h2] at z <;>
    first
    | exact absurd z (by decide)
    | (have h3 := Int64.lt_iff_toInt_lt.mp h1; intro q; have h4 := Int64.lt_iff_toInt_lt.mp q; omega)
    | (have h3 := Int64.lt_iff_toInt_lt.mp h1; intro q; rw [q] at h3; omega)
    | (intro q; have h4 := Int64.lt_iff_toInt_lt.mp q; rw [h1] at h4; omega)
    | exact h1
    | exact absurd z (by decide)
theorem pg_cmpn_le {x y : Int64} (z : ¬ lg_cmp x y ≤ 0) : y < x := by
  rcases pg_cmp_v x y with ⟨h1, h2⟩ | ⟨h1, h2⟩ | ⟨h1, h2⟩ <;> rw [h2] at z <;>
    first
    | exact absurd z (by decide)
    | (have h3 := Int64.lt_iff_toInt_lt.mp h1; intro q; have h4 := Int64.lt_iff_toInt_lt.mp q; omega)
    | (have h3 := Int64.lt_iff_toInt_lt.mp h1; intro q; rw [q] at h3; omega)
    | (intro q; have h4 := Int64.lt_iff_toInt_lt.mp q; rw [h1] at h4; omega)
    | exact h1
    | exact absurd z (by decide)
theorem pg_iconst {n : Int} {v : Int32} (hd : decode cc pc = .ok (.iconst n, 1)) (hv : Int32.ofInt n = v) (k : pg_EvF l D own cc nL ret nm df dl out F (pc + 1) lv (pI v :: st) h) : pg_EvF l D own cc nL ret nm df dl out F pc lv (st) h :=
  pg_pure (fun C L k => lv_iconst C.1 C.2.1 hd hv k) k
theorem pg_bipush {n : Int} {v : Int32} (hd : decode cc pc = .ok (.bipush n, 2)) (hv : (Int8.ofInt n).toInt32 = v) (k : pg_EvF l D own cc nL ret nm df dl out F (pc + 2) lv (pI v :: st) h) : pg_EvF l D own cc nL ret nm df dl out F pc lv (st) h :=
  pg_pure (fun C L k => lv_bipush C.1 C.2.1 hd hv k) k
theorem pg_sipush {n : Int} {v : Int32} (hd : decode cc pc = .ok (.sipush n, 3)) (hv : (Int16.ofInt n).toInt32 = v) (k : pg_EvF l D own cc nL ret nm df dl out F (pc + 3) lv (pI v :: st) h) : pg_EvF l D own cc nL ret nm df dl out F pc lv (st) h :=
  pg_pure (fun C L k => lv_sipush C.1 C.2.1 hd hv k) k
theorem pg_lconst {n : Fin 2} {v : Int64} (hd : decode cc pc = .ok (.lconst n, 1)) (hv : Int64.ofNat (n : Nat) = v) (k : pg_EvF l D own cc nL ret nm df dl out F (pc + 1) lv (pL v :: st) h) : pg_EvF l D own cc nL ret nm df dl out F pc lv (st) h :=
  pg_pure (fun C L k => lv_lconst C.1 C.2.1 hd hv k) k
theorem pg_ldc {i : Nat} {v : Int32} (hd : decode cc pc = .ok (.ldc i, 2)) (hw : Cond.constant own i v ∈ pg_W) (k : pg_EvF l D own cc nL ret nm df dl out F (pc + 2) lv (pI v :: st) h) : pg_EvF l D own cc nL ret nm df dl out F pc lv (st) h :=
  pg_pure (fun C L k => lv_ldc C.1 C.2.1 C.2.2.2.1 (C.2.2.2.2.2.2.2.1 _ hw) hd k) k
theorem pg_ldcw {i : Nat} {v : Int32} (hd : decode cc pc = .ok (.ldc_w i, 3)) (hw : Cond.constant own i v ∈ pg_W) (k : pg_EvF l D own cc nL ret nm df dl out F (pc + 3) lv (pI v :: st) h) : pg_EvF l D own cc nL ret nm df dl out F pc lv (st) h :=
  pg_pure (fun C L k => lv_ldcw C.1 C.2.1 C.2.2.2.1 (C.2.2.2.2.2.2.2.1 _ hw) hd k) k
theorem pg_ldc2 {i : Nat} {v : Int64} (hd : decode cc pc = .ok (.ldc2_w i, 3)) (hw : Cond.constantLong own i v ∈ pg_W) (k : pg_EvF l D own cc nL ret nm df dl out F (pc + 3) lv (pL v :: st) h) : pg_EvF l D own cc nL ret nm df dl out F pc lv (st) h :=
  pg_pure (fun C L k => lv_ldc2 C.1 C.2.1 C.2.2.2.1 (C.2.2.2.2.2.2.2.1 _ hw) hd k) k
theorem pg_null (hd : decode cc pc = .ok (.aconst_null, 1)) (k : pg_EvF l D own cc nL ret nm df dl out F (pc + 1) lv (pR 0 :: st) h) : pg_EvF l D own cc nL ret nm df dl out F pc lv (st) h :=
  pg_pure (fun C L k => lv_null C.1 C.2.1 hd k) k
theorem pg_iload_n {k : Fin 4} {i : Nat} {x : Int32} (hd : decode cc pc = .ok (.iload_n k, 1)) (hi : (k : Nat) = i) (n : Nat) (hk : lv[n]? = some (i, pI x)) (k : pg_EvF l D own cc nL ret nm df dl out F (pc + 1) lv (pI x :: st) h) : pg_EvF l D own cc nL ret nm df dl out F pc lv (st) h :=
  pg_pure (fun C L k => lv_iload_n C.1 C.2.1 hd hi (pg_lvat _ L n hk) k) k
theorem pg_iload {i : Nat} {x : Int32} (hd : decode cc pc = .ok (.iload i, 2)) (n : Nat) (hk : lv[n]? = some (i, pI x)) (k : pg_EvF l D own cc nL ret nm df dl out F (pc + 2) lv (pI x :: st) h) : pg_EvF l D own cc nL ret nm df dl out F pc lv (st) h :=
  pg_pure (fun C L k => lv_iload C.1 C.2.1 hd (pg_lvat _ L n hk) k) k
theorem pg_lload_n {k : Fin 4} {i : Nat} {x : Int64} (hd : decode cc pc = .ok (.lload_n k, 1)) (hi : (k : Nat) = i) (n : Nat) (hk : lv[n]? = some (i, pL x)) (k : pg_EvF l D own cc nL ret nm df dl out F (pc + 1) lv (pL x :: st) h) : pg_EvF l D own cc nL ret nm df dl out F pc lv (st) h :=
  pg_pure (fun C L k => lv_lload_n C.1 C.2.1 hd hi (pg_lvat _ L n hk) k) k
theorem pg_lload {i : Nat} {x : Int64} (hd : decode cc pc = .ok (.lload i, 2)) (n : Nat) (hk : lv[n]? = some (i, pL x)) (k : pg_EvF l D own cc nL ret nm df dl out F (pc + 2) lv (pL x :: st) h) : pg_EvF l D own cc nL ret nm df dl out F pc lv (st) h :=
  pg_pure (fun C L k => lv_lload C.1 C.2.1 hd (pg_lvat _ L n hk) k) k
theorem pg_aload_n {k : Fin 4} {i : Nat} {x : Nat} (hd : decode cc pc = .ok (.aload_n k, 1)) (hi : (k : Nat) = i) (n : Nat) (hk : lv[n]? = some (i, pR x)) (kk : pg_EvF l D own cc nL ret nm df dl out F (pc + 1) lv (pR x :: st) h) : pg_EvF l D own cc nL ret nm df dl out F pc lv st h := by
  refine pg_pure (fun C L k => ?_) kk
  have hz := pg_lvat _ L n hk
  rw [List.map_cons] at k
  change W _ _ _ _ _ _ _ _ _ _ _ _ _ _ _ (F0 _ _ _ (pg_trR D x :: _)) at k
  change _ = some (Slot.val (pg_trR D x)) at hz
  unfold pg_trR at k hz
  by_cases hx : x = 0
  · rw [if_pos hx] at k hz
    exact lv_aload_nN C.1 C.2.1 hd hi hz k
  · rw [if_neg hx] at k hz
    exact lv_aload_n C.1 C.2.1 hd hi hz k
theorem pg_aload {i : Nat} {x : Nat} (hd : decode cc pc = .ok (.aload i, 2)) (n : Nat) (hk : lv[n]? = some (i, pR x)) (kk : pg_EvF l D own cc nL ret nm df dl out F (pc + 2) lv (pR x :: st) h) : pg_EvF l D own cc nL ret nm df dl out F pc lv st h := by
  refine pg_pure (fun C L k => ?_) kk
  have hz := pg_lvat _ L n hk
  rw [List.map_cons] at k
  change W _ _ _ _ _ _ _ _ _ _ _ _ _ _ _ (F0 _ _ _ (pg_trR D x :: _)) at k
  change _ = some (Slot.val (pg_trR D x)) at hz
  unfold pg_trR at k hz
  by_cases hx : x = 0
  · rw [if_pos hx] at k hz
    exact lv_aloadN C.1 C.2.1 hd hz k
  · rw [if_neg hx] at k hz
    exact lv_aload C.1 C.2.1 hd hz k
theorem pg_istore_n {k : Fin 4} {i : Nat} {x : Int32} (hd : decode cc pc = .ok (.istore_n k, 1)) (hi : (k : Nat) = i) (hn : i < nL) (hl : (i, pI x) :: lv.filter (fun q => !(q.1 == i) && !(q.1 + 1 == i && pg_cat q.2 == 2)) = lv') (k : pg_EvF l D own cc nL ret nm df dl out F (pc + 1) lv' st h) : pg_EvF l D own cc nL ret nm df dl out F pc lv (pI x :: st) h :=
  pg_store (fun C L k => lv_istore_n C.1 C.2.1 hd hi L hn (pg_filter hl) k) k
theorem pg_istore {i : Nat} {x : Int32} (hd : decode cc pc = .ok (.istore i, 2)) (hn : i < nL) (hl : (i, pI x) :: lv.filter (fun q => !(q.1 == i) && !(q.1 + 1 == i && pg_cat q.2 == 2)) = lv') (k : pg_EvF l D own cc nL ret nm df dl out F (pc + 2) lv' st h) : pg_EvF l D own cc nL ret nm df dl out F pc lv (pI x :: st) h :=
  pg_store (fun C L k => lv_istore C.1 C.2.1 hd L hn (pg_filter hl) k) k
theorem pg_lstore_n {k : Fin 4} {i : Nat} {x : Int64} (hd : decode cc pc = .ok (.lstore_n k, 1)) (hi : (k : Nat) = i) (hn : i + 1 < nL) (hl : (i, pL x) :: lv.filter (fun q => !(q.1 == i) && (!(q.1 == i + 1) && !(q.1 + 1 == i && pg_cat q.2 == 2))) = lv') (k : pg_EvF l D own cc nL ret nm df dl out F (pc + 1) lv' st h) : pg_EvF l D own cc nL ret nm df dl out F pc lv (pL x :: st) h :=
  pg_store (fun C L k => lv_lstore_n C.1 C.2.1 hd hi L hn (pg_filter2 hl) k) k
theorem pg_lstore {i : Nat} {x : Int64} (hd : decode cc pc = .ok (.lstore i, 2)) (hn : i + 1 < nL) (hl : (i, pL x) :: lv.filter (fun q => !(q.1 == i) && (!(q.1 == i + 1) && !(q.1 + 1 == i && pg_cat q.2 == 2))) = lv') (k : pg_EvF l D own cc nL ret nm df dl out F (pc + 2) lv' st h) : pg_EvF l D own cc nL ret nm df dl out F pc lv (pL x :: st) h :=
  pg_store (fun C L k => lv_lstore C.1 C.2.1 hd L hn (pg_filter2 hl) k) k
theorem pg_astore_n {k : Fin 4} {i : Nat} {x : Nat} (hd : decode cc pc = .ok (.astore_n k, 1)) (hi : (k : Nat) = i) (hn : i < nL) (hl : (i, pR x) :: lv.filter (fun q => !(q.1 == i) && !(q.1 + 1 == i && pg_cat q.2 == 2)) = lv') (kk : pg_EvF l D own cc nL ret nm df dl out F (pc + 1) lv' st h) : pg_EvF l D own cc nL ret nm df dl out F pc lv (pR x :: st) h := by
  refine pg_store (fun C L k => ?_) kk
  rw [List.map_cons]
  change W _ _ _ _ _ _ _ _ _ _ _ _ _ _ _ (F0 _ _ _ (pg_trR D x :: _))
  have hl2 := pg_filter (D := D) hl
  change (i, pg_trR D x) :: _ = _ at hl2
  unfold pg_trR at hl2 ⊢
  by_cases hx : x = 0
  · rw [if_pos hx] at hl2 ⊢
    exact lv_astore_nN C.1 C.2.1 hd hi L hn hl2 k
  · rw [if_neg hx] at hl2 ⊢
    exact lv_astore_n C.1 C.2.1 hd hi L hn hl2 k
theorem pg_astore {i : Nat} {x : Nat} (hd : decode cc pc = .ok (.astore i, 2)) (hn : i < nL) (hl : (i, pR x) :: lv.filter (fun q => !(q.1 == i) && !(q.1 + 1 == i && pg_cat q.2 == 2)) = lv') (kk : pg_EvF l D own cc nL ret nm df dl out F (pc + 2) lv' st h) : pg_EvF l D own cc nL ret nm df dl out F pc lv (pR x :: st) h := by
  refine pg_store (fun C L k => ?_) kk
  rw [List.map_cons]
  change W _ _ _ _ _ _ _ _ _ _ _ _ _ _ _ (F0 _ _ _ (pg_trR D x :: _))
  have hl2 := pg_filter (D := D) hl
  change (i, pg_trR D x) :: _ = _ at hl2
  unfold pg_trR at hl2 ⊢
  by_cases hx : x = 0
  · rw [if_pos hx] at hl2 ⊢
    exact lv_astoreN C.1 C.2.1 hd L hn hl2 k
  · rw [if_neg hx] at hl2 ⊢
    exact lv_astore C.1 C.2.1 hd L hn hl2 k
theorem pg_iinc {i : Nat} {d : Int} {x v : Int32} (hd : decode cc pc = .ok (.iinc i d, 3)) (n : Nat) (hk : lv[n]? = some (i, pI x)) (hv : Int32.ofInt d = v) (hn : i < nL) (hl : (i, pI (x + v)) :: lv.filter (fun q => !(q.1 == i) && !(q.1 + 1 == i && pg_cat q.2 == 2)) = lv') (k : pg_EvF l D own cc nL ret nm df dl out F (pc + 3) lv' st h) : pg_EvF l D own cc nL ret nm df dl out F pc lv st h :=
  pg_store (fun C L k => lv_iinc C.1 C.2.1 hd L (k := n) (by rw [List.getElem?_map, hk]; rfl) (by rw [hv]) hn (pg_filter hl) k) k
theorem pg_iadd {x y : Int32} (hd : decode cc pc = .ok (.iadd, 1)) (k : pg_EvF l D own cc nL ret nm df dl out F (pc + 1) lv (pI (x + y) :: st) h) : pg_EvF l D own cc nL ret nm df dl out F pc lv (pI y :: pI x :: st) h :=
  pg_pure (fun C L k => lv_iadd C.1 C.2.1 hd k) k
theorem pg_isub {x y : Int32} (hd : decode cc pc = .ok (.isub, 1)) (k : pg_EvF l D own cc nL ret nm df dl out F (pc + 1) lv (pI (x - y) :: st) h) : pg_EvF l D own cc nL ret nm df dl out F pc lv (pI y :: pI x :: st) h :=
  pg_pure (fun C L k => lv_isub C.1 C.2.1 hd k) k
theorem pg_imul {x y : Int32} (hd : decode cc pc = .ok (.imul, 1)) (k : pg_EvF l D own cc nL ret nm df dl out F (pc + 1) lv (pI (x * y) :: st) h) : pg_EvF l D own cc nL ret nm df dl out F pc lv (pI y :: pI x :: st) h :=
  pg_pure (fun C L k => lv_imul C.1 C.2.1 hd k) k
theorem pg_iand {x y : Int32} (hd : decode cc pc = .ok (.iand, 1)) (k : pg_EvF l D own cc nL ret nm df dl out F (pc + 1) lv (pI (x &&& y) :: st) h) : pg_EvF l D own cc nL ret nm df dl out F pc lv (pI y :: pI x :: st) h :=
  pg_pure (fun C L k => lv_iand C.1 C.2.1 hd k) k
theorem pg_ior {x y : Int32} (hd : decode cc pc = .ok (.ior, 1)) (k : pg_EvF l D own cc nL ret nm df dl out F (pc + 1) lv (pI (x ||| y) :: st) h) : pg_EvF l D own cc nL ret nm df dl out F pc lv (pI y :: pI x :: st) h :=
  pg_pure (fun C L k => lv_ior C.1 C.2.1 hd k) k
theorem pg_ixor {x y : Int32} (hd : decode cc pc = .ok (.ixor, 1)) (k : pg_EvF l D own cc nL ret nm df dl out F (pc + 1) lv (pI (x ^^^ y) :: st) h) : pg_EvF l D own cc nL ret nm df dl out F pc lv (pI y :: pI x :: st) h :=
  pg_pure (fun C L k => lv_ixor C.1 C.2.1 hd k) k
theorem pg_ishl {x y : Int32} (hd : decode cc pc = .ok (.ishl, 1)) (k : pg_EvF l D own cc nL ret nm df dl out F (pc + 1) lv (pI (x <<< (y &&& 31)) :: st) h) : pg_EvF l D own cc nL ret nm df dl out F pc lv (pI y :: pI x :: st) h :=
  pg_pure (fun C L k => lv_ishl C.1 C.2.1 hd k) k
theorem pg_ishr {x y : Int32} (hd : decode cc pc = .ok (.ishr, 1)) (k : pg_EvF l D own cc nL ret nm df dl out F (pc + 1) lv (pI (x >>> (y &&& 31)) :: st) h) : pg_EvF l D own cc nL ret nm df dl out F pc lv (pI y :: pI x :: st) h :=
  pg_pure (fun C L k => lv_ishr C.1 C.2.1 hd k) k
theorem pg_ladd {x y : Int64} (hd : decode cc pc = .ok (.ladd, 1)) (k : pg_EvF l D own cc nL ret nm df dl out F (pc + 1) lv (pL (x + y) :: st) h) : pg_EvF l D own cc nL ret nm df dl out F pc lv (pL y :: pL x :: st) h :=
  pg_pure (fun C L k => lv_ladd C.1 C.2.1 hd k) k
theorem pg_lsub {x y : Int64} (hd : decode cc pc = .ok (.lsub, 1)) (k : pg_EvF l D own cc nL ret nm df dl out F (pc + 1) lv (pL (x - y) :: st) h) : pg_EvF l D own cc nL ret nm df dl out F pc lv (pL y :: pL x :: st) h :=
  pg_pure (fun C L k => lv_lsub C.1 C.2.1 hd k) k
theorem pg_lmul {x y : Int64} (hd : decode cc pc = .ok (.lmul, 1)) (k : pg_EvF l D own cc nL ret nm df dl out F (pc + 1) lv (pL (x * y) :: st) h) : pg_EvF l D own cc nL ret nm df dl out F pc lv (pL y :: pL x :: st) h :=
  pg_pure (fun C L k => lv_lmul C.1 C.2.1 hd k) k
theorem pg_land {x y : Int64} (hd : decode cc pc = .ok (.land, 1)) (k : pg_EvF l D own cc nL ret nm df dl out F (pc + 1) lv (pL (x &&& y) :: st) h) : pg_EvF l D own cc nL ret nm df dl out F pc lv (pL y :: pL x :: st) h :=
  pg_pure (fun C L k => lv_land C.1 C.2.1 hd k) k
theorem pg_lor {x y : Int64} (hd : decode cc pc = .ok (.lor, 1)) (k : pg_EvF l D own cc nL ret nm df dl out F (pc + 1) lv (pL (x ||| y) :: st) h) : pg_EvF l D own cc nL ret nm df dl out F pc lv (pL y :: pL x :: st) h :=
  pg_pure (fun C L k => lv_lor C.1 C.2.1 hd k) k
theorem pg_iushr {x y : Int32} (hd : decode cc pc = .ok (.iushr, 1)) (k : pg_EvF l D own cc nL ret nm df dl out F (pc + 1) lv (pI (x.toUInt32 >>> (y.toUInt32 &&& Int32.toUInt32 31)).toInt32 :: st) h) : pg_EvF l D own cc nL ret nm df dl out F pc lv (pI y :: pI x :: st) h :=
  pg_pure (fun C L k => lv_iushr C.1 C.2.1 hd rfl k) k
theorem pg_lushr {x : Int64} {y : Int32} (hd : decode cc pc = .ok (.lushr, 1)) (k : pg_EvF l D own cc nL ret nm df dl out F (pc + 1) lv (pL (x.toUInt64 >>> (y.toInt64.toUInt64 &&& Int64.toUInt64 63)).toInt64 :: st) h) : pg_EvF l D own cc nL ret nm df dl out F pc lv (pI y :: pL x :: st) h :=
  pg_pure (fun C L k => lv_lushr C.1 C.2.1 hd rfl k) k
theorem pg_lshl {x : Int64} {y : Int32} (hd : decode cc pc = .ok (.lshl, 1)) (k : pg_EvF l D own cc nL ret nm df dl out F (pc + 1) lv (pL (x <<< (y.toInt64 &&& 63)) :: st) h) : pg_EvF l D own cc nL ret nm df dl out F pc lv (pI y :: pL x :: st) h :=
  pg_pure (fun C L k => lv_lshl C.1 C.2.1 hd rfl k) k
theorem pg_lshr {x : Int64} {y : Int32} (hd : decode cc pc = .ok (.lshr, 1)) (k : pg_EvF l D own cc nL ret nm df dl out F (pc + 1) lv (pL (x >>> (y.toInt64 &&& 63)) :: st) h) : pg_EvF l D own cc nL ret nm df dl out F pc lv (pI y :: pL x :: st) h :=
  pg_pure (fun C L k => lv_lshr C.1 C.2.1 hd rfl k) k
theorem pg_ineg {x : Int32} (hd : decode cc pc = .ok (.ineg, 1)) (k : pg_EvF l D own cc nL ret nm df dl out F (pc + 1) lv (pI (-x) :: st) h) : pg_EvF l D own cc nL ret nm df dl out F pc lv (pI x :: st) h :=
  pg_pure (fun C L k => lv_ineg C.1 C.2.1 hd k) k
theorem pg_i2l {x : Int32} (hd : decode cc pc = .ok (.i2l, 1)) (k : pg_EvF l D own cc nL ret nm df dl out F (pc + 1) lv (pL x.toInt64 :: st) h) : pg_EvF l D own cc nL ret nm df dl out F pc lv (pI x :: st) h :=
  pg_pure (fun C L k => lv_i2l C.1 C.2.1 hd rfl k) k
theorem pg_l2i {x : Int64} (hd : decode cc pc = .ok (.l2i, 1)) (k : pg_EvF l D own cc nL ret nm df dl out F (pc + 1) lv (pI x.toInt32 :: st) h) : pg_EvF l D own cc nL ret nm df dl out F pc lv (pL x :: st) h :=
  pg_pure (fun C L k => lv_l2i C.1 C.2.1 hd rfl k) k
theorem pg_i2b {x : Int32} (hd : decode cc pc = .ok (.i2b, 1)) (k : pg_EvF l D own cc nL ret nm df dl out F (pc + 1) lv (pI x.toInt8.toInt32 :: st) h) : pg_EvF l D own cc nL ret nm df dl out F pc lv (pI x :: st) h :=
  pg_pure (fun C L k => lv_i2b C.1 C.2.1 hd rfl k) k
theorem pg_i2c {x : Int32} (hd : decode cc pc = .ok (.i2c, 1)) (k : pg_EvF l D own cc nL ret nm df dl out F (pc + 1) lv (pI (x.toUInt32 % 65536).toInt32 :: st) h) : pg_EvF l D own cc nL ret nm df dl out F pc lv (pI x :: st) h :=
  pg_pure (fun C L k => lv_i2c C.1 C.2.1 hd rfl k) k
theorem pg_dup {v : pg_pv} (hd : decode cc pc = .ok (.dup, 1)) (hv : pg_cat v = 1) (k : pg_EvF l D own cc nL ret nm df dl out F (pc + 1) lv (v :: v :: st) h) : pg_EvF l D own cc nL ret nm df dl out F pc lv (v :: st) h :=
  pg_pure (fun C L k => lv_dup C.1 C.2.1 hd ((pg_trcat v).trans hv) k) k
theorem pg_pop {v : pg_pv} (hd : decode cc pc = .ok (.pop, 1)) (hv : pg_cat v = 1) (k : pg_EvF l D own cc nL ret nm df dl out F (pc + 1) lv (st) h) : pg_EvF l D own cc nL ret nm df dl out F pc lv (v :: st) h :=
  pg_pure (fun C L k => lv_pop C.1 C.2.1 hd ((pg_trcat v).trans hv) k) k
theorem pg_dup2 {v w : pg_pv} (hd : decode cc pc = .ok (.dup2, 1)) (hv : pg_cat v = 1) (hw : pg_cat w = 1) (k : pg_EvF l D own cc nL ret nm df dl out F (pc + 1) lv (v :: w :: v :: w :: st) h) : pg_EvF l D own cc nL ret nm df dl out F pc lv (v :: w :: st) h :=
  pg_pure (fun C L k => lv_dup2_11 C.1 C.2.1 hd ((pg_trcat v).trans hv) ((pg_trcat w).trans hw) k) k
theorem pg_dup2L {v : pg_pv} (hd : decode cc pc = .ok (.dup2, 1)) (hv : pg_cat v = 2) (k : pg_EvF l D own cc nL ret nm df dl out F (pc + 1) lv (v :: v :: st) h) : pg_EvF l D own cc nL ret nm df dl out F pc lv (v :: st) h :=
  pg_pure (fun C L k => lv_dup2_2 C.1 C.2.1 hd ((pg_trcat v).trans hv) k) k
theorem pg_idiv {x y : Int32} (hd : decode cc pc = .ok (.idiv, 1)) (kk : pg_EvF l D own cc nL ret nm df dl out F (pc + 1) lv (pI (x / y) :: st) h) : pg_EvF l D own cc nL ret nm df dl out (if y = 0 then none else F) pc lv (pI y :: pI x :: st) h := by
  by_cases hy : y = 0
  · rw [if_pos hy]; exact pg_none
  · rw [if_neg hy]
    exact pg_pure (fun C L k => lv_idiv C.1 C.2.1 hd hy k) kk
theorem pg_irem {x y : Int32} (hd : decode cc pc = .ok (.irem, 1)) (kk : pg_EvF l D own cc nL ret nm df dl out F (pc + 1) lv (pI (x - x / y * y) :: st) h) : pg_EvF l D own cc nL ret nm df dl out (if y = 0 then none else F) pc lv (pI y :: pI x :: st) h := by
  by_cases hy : y = 0
  · rw [if_pos hy]; exact pg_none
  · rw [if_neg hy]
    exact pg_pure (fun C L k => lv_irem C.1 C.2.1 hd hy k) kk
theorem pg_ldiv {x y : Int64} (hd : decode cc pc = .ok (.ldiv, 1)) (kk : pg_EvF l D own cc nL ret nm df dl out F (pc + 1) lv (pL (x / y) :: st) h) : pg_EvF l D own cc nL ret nm df dl out (if y = 0 then none else F) pc lv (pL y :: pL x :: st) h := by
  by_cases hy : y = 0
  · rw [if_pos hy]; exact pg_none
  · rw [if_neg hy]
    exact pg_pure (fun C L k => lv_ldiv C.1 C.2.1 hd hy k) kk
theorem pg_lrem {x y : Int64} (hd : decode cc pc = .ok (.lrem, 1)) (kk : pg_EvF l D own cc nL ret nm df dl out F (pc + 1) lv (pL (x - x / y * y) :: st) h) : pg_EvF l D own cc nL ret nm df dl out (if y = 0 then none else F) pc lv (pL y :: pL x :: st) h := by
  by_cases hy : y = 0
  · rw [if_pos hy]; exact pg_none
  · rw [if_neg hy]
    exact pg_pure (fun C L k => lv_lrem C.1 C.2.1 hd hy k) kk
theorem pg_if_eq {J N : Option σ} {x : Int32} {off : Int} {tgt : Nat} (hd : decode cc pc = .ok (.ifCond .eq off, 3)) (ht : (pc : Int) + off = (tgt : Int)) (kj : pg_EvF l D own cc nL ret nm df dl out J tgt lv st h) (kn : pg_EvF l D own cc nL ret nm df dl out N (pc + 3) lv st h) : pg_EvF l D own cc nL ret nm df dl out (if x = 0 then J else N) pc lv (pI x :: st) h :=
  pg_br (fun C ka kb => lv_if_eq C.1 C.2.1 hd ht ka kb) kj kn
theorem pg_if_ne {J N : Option σ} {x : Int32} {off : Int} {tgt : Nat} (hd : decode cc pc = .ok (.ifCond .ne off, 3)) (ht : (pc : Int) + off = (tgt : Int)) (kj : pg_EvF l D own cc nL ret nm df dl out J tgt lv st h) (kn : pg_EvF l D own cc nL ret nm df dl out N (pc + 3) lv st h) : pg_EvF l D own cc nL ret nm df dl out (if x = 0 then N else J) pc lv (pI x :: st) h :=
  pg_br (fun C ka kb => lv_if_ne C.1 C.2.1 hd ht (fun z => kb z) (fun z => ka z)) kn kj
theorem pg_if_lt {J N : Option σ} {x : Int32} {off : Int} {tgt : Nat} (hd : decode cc pc = .ok (.ifCond .lt off, 3)) (ht : (pc : Int) + off = (tgt : Int)) (kj : pg_EvF l D own cc nL ret nm df dl out J tgt lv st h) (kn : pg_EvF l D own cc nL ret nm df dl out N (pc + 3) lv st h) : pg_EvF l D own cc nL ret nm df dl out (if x < 0 then J else N) pc lv (pI x :: st) h :=
  pg_br (fun C ka kb => lv_if_lt C.1 C.2.1 hd ht ka kb) kj kn
theorem pg_if_ge {J N : Option σ} {x : Int32} {off : Int} {tgt : Nat} (hd : decode cc pc = .ok (.ifCond .ge off, 3)) (ht : (pc : Int) + off = (tgt : Int)) (kj : pg_EvF l D own cc nL ret nm df dl out J tgt lv st h) (kn : pg_EvF l D own cc nL ret nm df dl out N (pc + 3) lv st h) : pg_EvF l D own cc nL ret nm df dl out (if x < 0 then N else J) pc lv (pI x :: st) h :=
  pg_br (fun C ka kb => lv_if_ge C.1 C.2.1 hd ht (fun z => kb (Int32.not_lt.mpr z)) (fun z => ka (Int32.not_le.mp z))) kn kj
theorem pg_if_gt {J N : Option σ} {x : Int32} {off : Int} {tgt : Nat} (hd : decode cc pc = .ok (.ifCond .gt off, 3)) (ht : (pc : Int) + off = (tgt : Int)) (kj : pg_EvF l D own cc nL ret nm df dl out J tgt lv st h) (kn : pg_EvF l D own cc nL ret nm df dl out N (pc + 3) lv st h) : pg_EvF l D own cc nL ret nm df dl out (if 0 < x then J else N) pc lv (pI x :: st) h :=
  pg_br (fun C ka kb => lv_if_gt C.1 C.2.1 hd ht ka kb) kj kn
theorem pg_if_le {J N : Option σ} {x : Int32} {off : Int} {tgt : Nat} (hd : decode cc pc = .ok (.ifCond .le off, 3)) (ht : (pc : Int) + off = (tgt : Int)) (kj : pg_EvF l D own cc nL ret nm df dl out J tgt lv st h) (kn : pg_EvF l D own cc nL ret nm df dl out N (pc + 3) lv st h) : pg_EvF l D own cc nL ret nm df dl out (if 0 < x then N else J) pc lv (pI x :: st) h :=
  pg_br (fun C ka kb => lv_if_le C.1 C.2.1 hd ht (fun z => kb (Int32.not_lt.mpr z)) (fun z => ka (Int32.not_le.mp z))) kn kj
theorem pg_icmp_eq {J N : Option σ} {x y : Int32} {off : Int} {tgt : Nat} (hd : decode cc pc = .ok (.if_icmp .eq off, 3)) (ht : (pc : Int) + off = (tgt : Int)) (kj : pg_EvF l D own cc nL ret nm df dl out J tgt lv st h) (kn : pg_EvF l D own cc nL ret nm df dl out N (pc + 3) lv st h) : pg_EvF l D own cc nL ret nm df dl out (if x = y then J else N) pc lv (pI y :: pI x :: st) h :=
  pg_br (fun C ka kb => lv_icmp_eq C.1 C.2.1 hd ht ka kb) kj kn
theorem pg_icmp_ne {J N : Option σ} {x y : Int32} {off : Int} {tgt : Nat} (hd : decode cc pc = .ok (.if_icmp .ne off, 3)) (ht : (pc : Int) + off = (tgt : Int)) (kj : pg_EvF l D own cc nL ret nm df dl out J tgt lv st h) (kn : pg_EvF l D own cc nL ret nm df dl out N (pc + 3) lv st h) : pg_EvF l D own cc nL ret nm df dl out (if x = y then N else J) pc lv (pI y :: pI x :: st) h :=
  pg_br (fun C ka kb => lv_icmp_ne C.1 C.2.1 hd ht (fun z => kb z) (fun z => ka z)) kn kj
theorem pg_icmp_lt {J N : Option σ} {x y : Int32} {off : Int} {tgt : Nat} (hd : decode cc pc = .ok (.if_icmp .lt off, 3)) (ht : (pc : Int) + off = (tgt : Int)) (kj : pg_EvF l D own cc nL ret nm df dl out J tgt lv st h) (kn : pg_EvF l D own cc nL ret nm df dl out N (pc + 3) lv st h) : pg_EvF l D own cc nL ret nm df dl out (if x < y then J else N) pc lv (pI y :: pI x :: st) h :=
  pg_br (fun C ka kb => lv_icmp_lt C.1 C.2.1 hd ht ka kb) kj kn
theorem pg_icmp_ge {J N : Option σ} {x y : Int32} {off : Int} {tgt : Nat} (hd : decode cc pc = .ok (.if_icmp .ge off, 3)) (ht : (pc : Int) + off = (tgt : Int)) (kj : pg_EvF l D own cc nL ret nm df dl out J tgt lv st h) (kn : pg_EvF l D own cc nL ret nm df dl out N (pc + 3) lv st h) : pg_EvF l D own cc nL ret nm df dl out (if x < y then N else J) pc lv (pI y :: pI x :: st) h :=
  pg_br (fun C ka kb => lv_icmp_ge C.1 C.2.1 hd ht (fun z => kb (Int32.not_lt.mpr z)) (fun z => ka (Int32.not_le.mp z))) kn kj
theorem pg_icmp_gt {J N : Option σ} {x y : Int32} {off : Int} {tgt : Nat} (hd : decode cc pc = .ok (.if_icmp .gt off, 3)) (ht : (pc : Int) + off = (tgt : Int)) (kj : pg_EvF l D own cc nL ret nm df dl out J tgt lv st h) (kn : pg_EvF l D own cc nL ret nm df dl out N (pc + 3) lv st h) : pg_EvF l D own cc nL ret nm df dl out (if y < x then J else N) pc lv (pI y :: pI x :: st) h :=
  pg_br (fun C ka kb => lv_icmp_gt C.1 C.2.1 hd ht ka kb) kj kn
theorem pg_icmp_le {J N : Option σ} {x y : Int32} {off : Int} {tgt : Nat} (hd : decode cc pc = .ok (.if_icmp .le off, 3)) (ht : (pc : Int) + off = (tgt : Int)) (kj : pg_EvF l D own cc nL ret nm df dl out J tgt lv st h) (kn : pg_EvF l D own cc nL ret nm df dl out N (pc + 3) lv st h) : pg_EvF l D own cc nL ret nm df dl out (if y < x then N else J) pc lv (pI y :: pI x :: st) h :=
  pg_br (fun C ka kb => lv_icmp_le C.1 C.2.1 hd ht (fun z => kb (Int32.not_lt.mpr z)) (fun z => ka (Int32.not_le.mp z))) kn kj
theorem pg_goto {off : Int} {tgt : Nat} (hd : decode cc pc = .ok (.goto off, 3)) (ht : (pc : Int) + off = (tgt : Int)) (kk : pg_EvF l D own cc nL ret nm df dl out F tgt lv st h) : pg_EvF l D own cc nL ret nm df dl out F pc lv st h :=
  pg_pure (fun C L k => lv_goto C.1 C.2.1 hd ht k) kk
theorem pg_lcmp_eq {J N : Option σ} {x y : Int64} {off : Int} {tgt : Nat} (hc : decode cc pc = .ok (.lcmp, 1)) (hd : decode cc (pc + 1) = .ok (.ifCond .eq off, 3)) (ht : ((pc + 1 : Nat) : Int) + off = (tgt : Int)) (kj : pg_EvF l D own cc nL ret nm df dl out J tgt lv st h) (kn : pg_EvF l D own cc nL ret nm df dl out N (pc + 4) lv st h) : pg_EvF l D own cc nL ret nm df dl out (if x = y then J else N) pc lv (pL y :: pL x :: st) h :=
  pg_br (fun C ka kb => W.lcmp C.1 C.2.1 hc (lv_if_eq C.1 C.2.1 hd ht (fun z => ka (pg_cmp_eq z)) (fun z => kb (pg_cmpn_eq z)))) kj kn
theorem pg_lcmp_ne {J N : Option σ} {x y : Int64} {off : Int} {tgt : Nat} (hc : decode cc pc = .ok (.lcmp, 1)) (hd : decode cc (pc + 1) = .ok (.ifCond .ne off, 3)) (ht : ((pc + 1 : Nat) : Int) + off = (tgt : Int)) (kj : pg_EvF l D own cc nL ret nm df dl out J tgt lv st h) (kn : pg_EvF l D own cc nL ret nm df dl out N (pc + 4) lv st h) : pg_EvF l D own cc nL ret nm df dl out (if x = y then N else J) pc lv (pL y :: pL x :: st) h :=
  pg_br (fun C ka kb => W.lcmp C.1 C.2.1 hc (lv_if_ne C.1 C.2.1 hd ht (fun z => kb (pg_cmp_ne z)) (fun z => ka (pg_cmp_eq z)))) kn kj
theorem pg_lcmp_lt {J N : Option σ} {x y : Int64} {off : Int} {tgt : Nat} (hc : decode cc pc = .ok (.lcmp, 1)) (hd : decode cc (pc + 1) = .ok (.ifCond .lt off, 3)) (ht : ((pc + 1 : Nat) : Int) + off = (tgt : Int)) (kj : pg_EvF l D own cc nL ret nm df dl out J tgt lv st h) (kn : pg_EvF l D own cc nL ret nm df dl out N (pc + 4) lv st h) : pg_EvF l D own cc nL ret nm df dl out (if x < y then J else N) pc lv (pL y :: pL x :: st) h :=
  pg_br (fun C ka kb => W.lcmp C.1 C.2.1 hc (lv_if_lt C.1 C.2.1 hd ht (fun z => ka (pg_cmp_lt z)) (fun z => kb (pg_cmpn_lt z)))) kj kn
theorem pg_lcmp_ge {J N : Option σ} {x y : Int64} {off : Int} {tgt : Nat} (hc : decode cc pc = .ok (.lcmp, 1)) (hd : decode cc (pc + 1) = .ok (.ifCond .ge off, 3)) (ht : ((pc + 1 : Nat) : Int) + off = (tgt : Int)) (kj : pg_EvF l D own cc nL ret nm df dl out J tgt lv st h) (kn : pg_EvF l D own cc nL ret nm df dl out N (pc + 4) lv st h) : pg_EvF l D own cc nL ret nm df dl out (if x < y then N else J) pc lv (pL y :: pL x :: st) h :=
  pg_br (fun C ka kb => W.lcmp C.1 C.2.1 hc (lv_if_ge C.1 C.2.1 hd ht (fun z => kb (pg_cmp_ge z)) (fun z => ka (pg_cmpn_ge z)))) kn kj
theorem pg_lcmp_gt {J N : Option σ} {x y : Int64} {off : Int} {tgt : Nat} (hc : decode cc pc = .ok (.lcmp, 1)) (hd : decode cc (pc + 1) = .ok (.ifCond .gt off, 3)) (ht : ((pc + 1 : Nat) : Int) + off = (tgt : Int)) (kj : pg_EvF l D own cc nL ret nm df dl out J tgt lv st h) (kn : pg_EvF l D own cc nL ret nm df dl out N (pc + 4) lv st h) : pg_EvF l D own cc nL ret nm df dl out (if y < x then J else N) pc lv (pL y :: pL x :: st) h :=
  pg_br (fun C ka kb => W.lcmp C.1 C.2.1 hc (lv_if_gt C.1 C.2.1 hd ht (fun z => ka (pg_cmp_gt z)) (fun z => kb (pg_cmpn_gt z)))) kj kn
theorem pg_lcmp_le {J N : Option σ} {x y : Int64} {off : Int} {tgt : Nat} (hc : decode cc pc = .ok (.lcmp, 1)) (hd : decode cc (pc + 1) = .ok (.ifCond .le off, 3)) (ht : ((pc + 1 : Nat) : Int) + off = (tgt : Int)) (kj : pg_EvF l D own cc nL ret nm df dl out J tgt lv st h) (kn : pg_EvF l D own cc nL ret nm df dl out N (pc + 4) lv st h) : pg_EvF l D own cc nL ret nm df dl out (if y < x then N else J) pc lv (pL y :: pL x :: st) h :=
  pg_br (fun C ka kb => W.lcmp C.1 C.2.1 hc (lv_if_le C.1 C.2.1 hd ht (fun z => kb (pg_cmp_le z)) (fun z => ka (pg_cmpn_le z)))) kn kj
theorem pg_ifnull {J N : Option σ} {x : Nat} {off : Int} {tgt : Nat} (hd : decode cc pc = .ok (.ifnull off, 3)) (ht : (pc : Int) + off = (tgt : Int)) (kj : pg_EvF l D own cc nL ret nm df dl out J tgt lv st h) (kn : pg_EvF l D own cc nL ret nm df dl out N (pc + 3) lv st h) : pg_EvF l D own cc nL ret nm df dl out (if x = 0 then J else N) pc lv (pR x :: st) h := by
  refine pg_br (fun C ka kb => ?_) kj kn
  rw [List.map_cons]
  change W _ _ _ _ _ _ _ _ _ _ _ _ _ _ _ (F0 _ _ _ (pg_trR D x :: _))
  unfold pg_trR
  by_cases hx : x = 0
  · rw [if_pos hx]; exact lv_ifnullN C.1 C.2.1 hd ht (ka hx)
  · rw [if_neg hx]; exact lv_ifnull C.1 C.2.1 hd (kb hx)
theorem pg_ifnonnull {J N : Option σ} {x : Nat} {off : Int} {tgt : Nat} (hd : decode cc pc = .ok (.ifnonnull off, 3)) (ht : (pc : Int) + off = (tgt : Int)) (kj : pg_EvF l D own cc nL ret nm df dl out J tgt lv st h) (kn : pg_EvF l D own cc nL ret nm df dl out N (pc + 3) lv st h) : pg_EvF l D own cc nL ret nm df dl out (if x = 0 then N else J) pc lv (pR x :: st) h := by
  refine pg_br (fun C ka kb => ?_) kn kj
  rw [List.map_cons]
  change W _ _ _ _ _ _ _ _ _ _ _ _ _ _ _ (F0 _ _ _ (pg_trR D x :: _))
  unfold pg_trR
  by_cases hx : x = 0
  · rw [if_pos hx]; exact lv_ifnonnullN C.1 C.2.1 hd (ka hx)
  · rw [if_neg hx]; exact lv_ifnonnull C.1 C.2.1 hd ht (kb hx)
theorem pg_table {dflt lo hi : Int} {offs : Array Int} {len : Nat} {x : Int32} {S : Int → Option σ} (hd : decode cc pc = .ok (.tableswitch dflt lo hi offs, len)) (hlo : (pc : Int) + dflt = (pc' : Int))
    (ko : x.toInt < lo ∨ hi < x.toInt → pg_EvF l D own cc nL ret nm df dl out (S x.toInt) pc' lv st h) (ki : ∀ (j : Nat), ¬ x.toInt < lo → ¬ hi < x.toInt → x.toInt = lo + j → ∃ (off : Int) (tgt : Nat), offs[j]? = some off ∧ (pc : Int) + off = (tgt : Int) ∧ pg_EvF l D own cc nL ret nm df dl out (S x.toInt) tgt lv st h) : pg_EvF l D own cc nL ret nm df dl out (S x.toInt) pc lv (pI x :: st) h := by
  by_cases hr : x.toInt < lo ∨ hi < x.toInt
  · exact pg_pure (fun C L k => lv_tableOut C.1 C.2.1 hd hr hlo k) (ko hr)
  · have h1 : ¬ x.toInt < lo := fun q => hr (Or.inl q)
    have h2 : ¬ hi < x.toInt := fun q => hr (Or.inr q)
    obtain ⟨off, tgt, a1, a2, a3⟩ := ki (x.toInt - lo).toNat h1 h2 (by omega)
    exact pg_pure (fun C L k => lv_tableIn C.1 C.2.1 hd h1 h2 a1 a2 k) a3
end PG
