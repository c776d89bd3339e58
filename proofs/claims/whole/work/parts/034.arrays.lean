section PGA
variable {l : Launch} {D : pg_D} {own : String} {cc : ByteArray} {nL : Nat} {ret : Option FieldType} {nm : String} {df dl pc pc' : Nat} {σ τ : Type} {out : σ → Option pg_pv × pg_H} {F A B : Option σ} {lv lv' : List (Nat × pg_pv)} {st st' rest : List pg_pv} {h : pg_H}
theorem pg_isAr {s : State} {t n : Nat} {V : Nat → Value} (hK : pg_K D s) (h20 : 20 ≤ t) (h26 : t < 26) : s.isArrayOf (arrV (pg_cA D t) n V) (pg_aty t) := (hK.2.1 t h20 h26).1 n V
theorem pg_iaload {K : Int32 → Option σ} {r : Nat} {j : Int32} (hd : decode cc pc = .ok (.iaload, 1)) (kk : ∀ x, pg_EvF l D own cc nL ret nm df dl out (K x) (pc + 1) lv (pI x :: st) h) : pg_EvF l D own cc nL ret nm df dl out (Option.bind (pg_aI 21 h r j) K) pc lv (pI j :: pR r :: st) h := by
  refine pg_read (sx := fun x => pI x :: st) (fun y hy => ?_) kk
  intro p e R s m args below meth c0 H locs cells slots Q ls C w k0
  unfold pg_aI at hy
  split at hy
  case isFalse => cases hy
  case isTrue hk =>
    obtain ⟨hk, hin⟩ := hk
    cases hy
    obtain ⟨⟨h1, h2⟩, hcell⟩ := w.arr hk (by decide) (by decide)
    have hlt : j.toNatClampNeg < (pg_k h r).2 := Nat.not_le.mp fun q => hin (Or.inr q)
    have e1 : pg_V D h r j.toNatClampNeg = .int (pg_i h r j.toNatClampNeg) := by
      unfold pg_V
      rw [hk]
      rfl
    have e2 : pg_trR D r = .ref (pg_ad D r) := pg_trR_pos h1
    show W _ _ _ _ _ _ _ _ _ _ _ _ _ _ _ (F0 m pc ls (.int j :: pg_trR D r :: st.map (pg_tr D)))
    rw [e2]
    exact W.iald (v := .int (pg_i h r j.toNatClampNeg)) C.1 C.2.1 hcell (pg_isAr (t := 21) C.2.2.2.2.2.2.2.2.1 (by decide) (by decide)) (fun q => by cases q) (by rw [arrV_size]; exact hin) (by rw [arrV_read _ _ hlt, e1]) rfl rfl hd k0
theorem pg_baload {K : Int32 → Option σ} {r : Nat} {j : Int32} (hd : decode cc pc = .ok (.baload, 1)) (kk : ∀ x, pg_EvF l D own cc nL ret nm df dl out (K x) (pc + 1) lv (pI x :: st) h) : pg_EvF l D own cc nL ret nm df dl out (Option.bind (pg_aI 20 h r j) K) pc lv (pI j :: pR r :: st) h := by
  refine pg_read (sx := fun x => pI x :: st) (fun y hy => ?_) kk
  intro p e R s m args below meth c0 H locs cells slots Q ls C w k0
  unfold pg_aI at hy
  split at hy
  case isFalse => cases hy
  case isTrue hk =>
    obtain ⟨hk, hin⟩ := hk
    cases hy
    obtain ⟨⟨h1, h2⟩, hcell⟩ := w.arr hk (by decide) (by decide)
    have hlt : j.toNatClampNeg < (pg_k h r).2 := Nat.not_le.mp fun q => hin (Or.inr q)
    have e1 : pg_V D h r j.toNatClampNeg = .int (pg_i h r j.toNatClampNeg) := by
      unfold pg_V
      rw [hk]
      rfl
    have e2 : pg_trR D r = .ref (pg_ad D r) := pg_trR_pos h1
    show W _ _ _ _ _ _ _ _ _ _ _ _ _ _ _ (F0 m pc ls (.int j :: pg_trR D r :: st.map (pg_tr D)))
    rw [e2]
    exact W.bald (v := .int (pg_i h r j.toNatClampNeg)) C.1 C.2.1 hcell (pg_isAr (t := 20) C.2.2.2.2.2.2.2.2.1 (by decide) (by decide)) (fun q => by cases q) (by rw [arrV_size]; exact hin) (by rw [arrV_read _ _ hlt, e1]) rfl rfl hd k0
theorem pg_zaload {K : Int32 → Option σ} {r : Nat} {j : Int32} (hd : decode cc pc = .ok (.baload, 1)) (kk : ∀ x, pg_EvF l D own cc nL ret nm df dl out (K x) (pc + 1) lv (pI x :: st) h) : pg_EvF l D own cc nL ret nm df dl out (Option.bind (pg_aI 23 h r j) K) pc lv (pI j :: pR r :: st) h := by
  refine pg_read (sx := fun x => pI x :: st) (fun y hy => ?_) kk
  intro p e R s m args below meth c0 H locs cells slots Q ls C w k0
  unfold pg_aI at hy
  split at hy
  case isFalse => cases hy
  case isTrue hk =>
    obtain ⟨hk, hin⟩ := hk
    cases hy
    obtain ⟨⟨h1, h2⟩, hcell⟩ := w.arr hk (by decide) (by decide)
    have hlt : j.toNatClampNeg < (pg_k h r).2 := Nat.not_le.mp fun q => hin (Or.inr q)
    have e1 : pg_V D h r j.toNatClampNeg = .int (pg_i h r j.toNatClampNeg) := by
      unfold pg_V
      rw [hk]
      rfl
    have e2 : pg_trR D r = .ref (pg_ad D r) := pg_trR_pos h1
    show W _ _ _ _ _ _ _ _ _ _ _ _ _ _ _ (F0 m pc ls (.int j :: pg_trR D r :: st.map (pg_tr D)))
    rw [e2]
    exact W.zald (v := .int (pg_i h r j.toNatClampNeg)) C.1 C.2.1 hcell (pg_isAr (t := 23) C.2.2.2.2.2.2.2.2.1 (by decide) (by decide)) (fun q => by cases q) (by rw [arrV_size]; exact hin) (by rw [arrV_read _ _ hlt, e1]) rfl rfl hd k0
theorem pg_laload {K : Int64 → Option σ} {r : Nat} {j : Int32} (hd : decode cc pc = .ok (.laload, 1)) (kk : ∀ x, pg_EvF l D own cc nL ret nm df dl out (K x) (pc + 1) lv (pL x :: st) h) : pg_EvF l D own cc nL ret nm df dl out (Option.bind (pg_aL h r j) K) pc lv (pI j :: pR r :: st) h := by
  refine pg_read (sx := fun x => pL x :: st) (fun y hy => ?_) kk
  intro p e R s m args below meth c0 H locs cells slots Q ls C w k0
  unfold pg_aL at hy
  split at hy
  case isFalse => cases hy
  case isTrue hk =>
    obtain ⟨hk, hin⟩ := hk
    cases hy
    obtain ⟨⟨h1, h2⟩, hcell⟩ := w.arr hk (by decide) (by decide)
    have hlt : j.toNatClampNeg < (pg_k h r).2 := Nat.not_le.mp fun q => hin (Or.inr q)
    have e1 : pg_V D h r j.toNatClampNeg = .long (pg_l h r j.toNatClampNeg) := by
      unfold pg_V
      rw [hk]
      rfl
    have e2 : pg_trR D r = .ref (pg_ad D r) := pg_trR_pos h1
    show W _ _ _ _ _ _ _ _ _ _ _ _ _ _ _ (F0 m pc ls (.int j :: pg_trR D r :: st.map (pg_tr D)))
    rw [e2]
    exact W.lald (v := .long (pg_l h r j.toNatClampNeg)) C.1 C.2.1 hcell (pg_isAr (t := 22) C.2.2.2.2.2.2.2.2.1 (by decide) (by decide)) (fun q => by cases q) (by rw [arrV_size]; exact hin) (by rw [arrV_read _ _ hlt, e1]) rfl rfl hd k0
theorem pg_aaload24 {K : Nat → Option σ} {r : Nat} {j : Int32} (hd : decode cc pc = .ok (.aaload, 1)) (kk : ∀ x, pg_EvF l D own cc nL ret nm df dl out (K x) (pc + 1) lv (pR x :: st) h) : pg_EvF l D own cc nL ret nm df dl out (Option.bind (pg_aR 24 h r j) K) pc lv (pI j :: pR r :: st) h := by
  refine pg_read (sx := fun x => pR x :: st) (fun y hy => ?_) kk
  intro p e R s m args below meth c0 H locs cells slots Q ls C w k0
  unfold pg_aR at hy
  split at hy
  case isFalse => cases hy
  case isTrue hk =>
    obtain ⟨hk, hin⟩ := hk
    cases hy
    obtain ⟨⟨h1, h2⟩, hcell⟩ := w.arr hk (by decide) (by decide)
    have hlt : j.toNatClampNeg < (pg_k h r).2 := Nat.not_le.mp fun q => hin (Or.inr q)
    have e1 : pg_V D h r j.toNatClampNeg = pg_trR D (pg_r h r j.toNatClampNeg) := by
      unfold pg_V
      rw [hk]
      rfl
    have e2 : pg_trR D r = .ref (pg_ad D r) := pg_trR_pos h1
    show W _ _ _ _ _ _ _ _ _ _ _ _ _ _ _ (F0 m pc ls (.int j :: pg_trR D r :: st.map (pg_tr D)))
    rw [e2]
    exact W.aald (ty := .object RX5) (v := pg_trR D (pg_r h r j.toNatClampNeg)) C.1 C.2.1 hcell (pg_isAr (t := 24) C.2.2.2.2.2.2.2.2.1 (by decide) (by decide)) rfl (fun q => by cases q) (by rw [arrV_size]; exact hin) (by rw [arrV_read _ _ hlt, e1]) rfl rfl hd k0
theorem pg_aaload25 {K : Nat → Option σ} {r : Nat} {j : Int32} (hd : decode cc pc = .ok (.aaload, 1)) (kk : ∀ x, pg_EvF l D own cc nL ret nm df dl out (K x) (pc + 1) lv (pR x :: st) h) : pg_EvF l D own cc nL ret nm df dl out (Option.bind (pg_aR 25 h r j) K) pc lv (pI j :: pR r :: st) h := by
  refine pg_read (sx := fun x => pR x :: st) (fun y hy => ?_) kk
  intro p e R s m args below meth c0 H locs cells slots Q ls C w k0
  unfold pg_aR at hy
  split at hy
  case isFalse => cases hy
  case isTrue hk =>
    obtain ⟨hk, hin⟩ := hk
    cases hy
    obtain ⟨⟨h1, h2⟩, hcell⟩ := w.arr hk (by decide) (by decide)
    have hlt : j.toNatClampNeg < (pg_k h r).2 := Nat.not_le.mp fun q => hin (Or.inr q)
    have e1 : pg_V D h r j.toNatClampNeg = pg_trR D (pg_r h r j.toNatClampNeg) := by
      unfold pg_V
      rw [hk]
      rfl
    have e2 : pg_trR D r = .ref (pg_ad D r) := pg_trR_pos h1
    show W _ _ _ _ _ _ _ _ _ _ _ _ _ _ _ (F0 m pc ls (.int j :: pg_trR D r :: st.map (pg_tr D)))
    rw [e2]
    exact W.aald (ty := .object RX9) (v := pg_trR D (pg_r h r j.toNatClampNeg)) C.1 C.2.1 hcell (pg_isAr (t := 25) C.2.2.2.2.2.2.2.2.1 (by decide) (by decide)) rfl (fun q => by cases q) (by rw [arrV_size]; exact hin) (by rw [arrV_read _ _ hlt, e1]) rfl rfl hd k0
/-- an array's cell changes: the world with it -/
theorem pg_World.putA {t r k : Nat} {h' : pg_H} {H H' : Heap} {v : Value} (w : pg_World D h H) (hk : (pg_k h r).1 = t) (h20 : 20 ≤ t) (h26 : t < 26) (hn : h'.1 = h.1) (hk' : pg_k h' = pg_k h) (hi : ∀ r', r' ≠ r → ∀ j, pg_i h' r' j = pg_i h r' j) (hl : ∀ r', r' ≠ r → ∀ j, pg_l h' r' j = pg_l h r' j) (hr : ∀ r', r' ≠ r → ∀ j, pg_r h' r' j = pg_r h r' j)
    (hV : pg_V D h' r = updV (pg_V D h r) k v) (ho : H'[pg_ad D r]? = some ((arrV (pg_cA D t) (pg_k h r).2 (pg_V D h r)).setSlot k v)) (hs : H'.size = H.size) (hq : ∀ q, q ≠ pg_ad D r → H'[q]? = H[q]?) : pg_World D h' H' := by
  obtain ⟨⟨h1, h2⟩, -⟩ := w.arr hk h20 h26
  refine w.set h1 h2 hn hk' hi hl hr hs hq (Or.inr (Or.inl ?_))
  rw [hk', hk, hV]
  refine ⟨h20, h26, ?_⟩
  rw [ho, arrV_store]
theorem pg_locs1 {r k : Nat} {H : Heap} {locs : List Loc} (w : pg_World D h H) (h2 : r ≤ h.1) (hL : ∀ q ∈ locs, pg_A D q.base) : ∀ q ∈ locs ++ [⟨pg_ad D r, k⟩], pg_A D q.base := by
  intro q hq
  rcases List.mem_append.mp hq with z | z
  · exact hL q z
  · rw [List.mem_singleton] at z
    rw [z]
    show pg_b D ≤ pg_ad D r
    rw [w.adr h2]
    exact Nat.le_add_right _ _
theorem pg_iastore {K : pg_H → Option σ} {r : Nat} {j : Int32} {x : Int32} (hd : decode cc pc = .ok (.iastore, 1)) (kk : ∀ h', pg_EvF l D own cc nL ret nm df dl out (K h') (pc + 1) lv st h') : pg_EvF l D own cc nL ret nm df dl out (Option.bind (pg_sI 21 h r j x) K) pc lv (pI x :: pI j :: pR r :: st) h := by
  refine pg_write (hx := fun h' => h') (sx := fun _ => st) (fun y hy => ?_) kk
  unfold pg_sI at hy
  split at hy
  case isFalse => cases hy
  case isTrue hk =>
    obtain ⟨hk, hin⟩ := hk
    cases hy
    refine ⟨⟨Nat.le_refl _, Nat.le_refl _⟩, ?_⟩
    intro p e R s m args below meth c0 H locs cells slots Q ls C hsz w hL hc1 hs1 k0
    obtain ⟨⟨h1, h2⟩, hcell⟩ := w.arr hk (by decide) (by decide)
    have e2 : pg_trR D r = .ref (pg_ad D r) := pg_trR_pos h1
    show W _ _ _ _ _ _ _ _ _ _ _ _ _ _ _ (F0 m pc ls (pg_tr D (pI x) :: .int j :: pg_trR D r :: st.map (pg_tr D)))
    rw [e2]
    refine W.iast C.1 C.2.1 hcell (pg_isAr (t := 21) C.2.2.2.2.2.2.2.2.1 (by decide) (by decide)) (fun q => by cases q) (by rw [arrV_size]; exact hin) rfl rfl hd fun H' ho hs hq => ?_
    exact W.cs (by simp [pg_si]) (by simp [pg_si]) (k0 H' _ (w.putA hk (by decide) (by decide) rfl rfl (fun r' hr' j => pg_up2_ne hr' j) (fun _ _ _ => rfl) (fun _ _ _ => rfl) (pg_V_si (by rw [hk]; rfl)) ho hs hq) (pg_locs1 w h2 hL))
theorem pg_bastore {K : pg_H → Option σ} {r : Nat} {j : Int32} {x : Int32} (hd : decode cc pc = .ok (.bastore, 1)) (kk : ∀ h', pg_EvF l D own cc nL ret nm df dl out (K h') (pc + 1) lv st h') : pg_EvF l D own cc nL ret nm df dl out (Option.bind (pg_sI 20 h r j x) K) pc lv (pI x :: pI j :: pR r :: st) h := by
  refine pg_write (hx := fun h' => h') (sx := fun _ => st) (fun y hy => ?_) kk
  unfold pg_sI at hy
  split at hy
  case isFalse => cases hy
  case isTrue hk =>
    obtain ⟨hk, hin⟩ := hk
    cases hy
    refine ⟨⟨Nat.le_refl _, Nat.le_refl _⟩, ?_⟩
    intro p e R s m args below meth c0 H locs cells slots Q ls C hsz w hL hc1 hs1 k0
    obtain ⟨⟨h1, h2⟩, hcell⟩ := w.arr hk (by decide) (by decide)
    have e2 : pg_trR D r = .ref (pg_ad D r) := pg_trR_pos h1
    show W _ _ _ _ _ _ _ _ _ _ _ _ _ _ _ (F0 m pc ls (pg_tr D (pI x) :: .int j :: pg_trR D r :: st.map (pg_tr D)))
    rw [e2]
    refine W.bast C.1 C.2.1 hcell (pg_isAr (t := 20) C.2.2.2.2.2.2.2.2.1 (by decide) (by decide)) (fun q => by cases q) (by rw [arrV_size]; exact hin) rfl rfl hd fun H' ho hs hq => ?_
    exact W.cs (by simp [pg_si]) (by simp [pg_si]) (k0 H' _ (w.putA hk (by decide) (by decide) rfl rfl (fun r' hr' j => pg_up2_ne hr' j) (fun _ _ _ => rfl) (fun _ _ _ => rfl) (pg_V_si (by rw [hk]; rfl)) ho hs hq) (pg_locs1 w h2 hL))
theorem pg_zastore {K : pg_H → Option σ} {r : Nat} {j : Int32} {x : Int32} (hd : decode cc pc = .ok (.bastore, 1)) (kk : ∀ h', pg_EvF l D own cc nL ret nm df dl out (K h') (pc + 1) lv st h') : pg_EvF l D own cc nL ret nm df dl out (Option.bind (pg_sI 23 h r j x) K) pc lv (pI x :: pI j :: pR r :: st) h := by
  refine pg_write (hx := fun h' => h') (sx := fun _ => st) (fun y hy => ?_) kk
  unfold pg_sI at hy
  split at hy
  case isFalse => cases hy
  case isTrue hk =>
    obtain ⟨hk, hin⟩ := hk
    cases hy
    refine ⟨⟨Nat.le_refl _, Nat.le_refl _⟩, ?_⟩
    intro p e R s m args below meth c0 H locs cells slots Q ls C hsz w hL hc1 hs1 k0
    obtain ⟨⟨h1, h2⟩, hcell⟩ := w.arr hk (by decide) (by decide)
    have e2 : pg_trR D r = .ref (pg_ad D r) := pg_trR_pos h1
    show W _ _ _ _ _ _ _ _ _ _ _ _ _ _ _ (F0 m pc ls (pg_tr D (pI x) :: .int j :: pg_trR D r :: st.map (pg_tr D)))
    rw [e2]
    refine W.zast C.1 C.2.1 hcell (pg_isAr (t := 23) C.2.2.2.2.2.2.2.2.1 (by decide) (by decide)) (fun q => by cases q) (by rw [arrV_size]; exact hin) rfl rfl hd fun H' ho hs hq => ?_
    exact W.cs (by simp [pg_si]) (by simp [pg_si]) (k0 H' _ (w.putA hk (by decide) (by decide) rfl rfl (fun r' hr' j => pg_up2_ne hr' j) (fun _ _ _ => rfl) (fun _ _ _ => rfl) (pg_V_si (by rw [hk]; rfl)) ho hs hq) (pg_locs1 w h2 hL))
theorem pg_lastore {K : pg_H → Option σ} {r : Nat} {j : Int32} {x : Int64} (hd : decode cc pc = .ok (.lastore, 1)) (kk : ∀ h', pg_EvF l D own cc nL ret nm df dl out (K h') (pc + 1) lv st h') : pg_EvF l D own cc nL ret nm df dl out (Option.bind (pg_sL h r j x) K) pc lv (pL x :: pI j :: pR r :: st) h := by
  refine pg_write (hx := fun h' => h') (sx := fun _ => st) (fun y hy => ?_) kk
  unfold pg_sL at hy
  split at hy
  case isFalse => cases hy
  case isTrue hk =>
    obtain ⟨hk, hin⟩ := hk
    cases hy
    refine ⟨⟨Nat.le_refl _, Nat.le_refl _⟩, ?_⟩
    intro p e R s m args below meth c0 H locs cells slots Q ls C hsz w hL hc1 hs1 k0
    obtain ⟨⟨h1, h2⟩, hcell⟩ := w.arr hk (by decide) (by decide)
    have e2 : pg_trR D r = .ref (pg_ad D r) := pg_trR_pos h1
    show W _ _ _ _ _ _ _ _ _ _ _ _ _ _ _ (F0 m pc ls (pg_tr D (pL x) :: .int j :: pg_trR D r :: st.map (pg_tr D)))
    rw [e2]
    refine W.last C.1 C.2.1 hcell (pg_isAr (t := 22) C.2.2.2.2.2.2.2.2.1 (by decide) (by decide)) (fun q => by cases q) (by rw [arrV_size]; exact hin) rfl rfl hd fun H' ho hs hq => ?_
    exact W.cs (by simp [pg_sl]) (by simp [pg_sl]) (k0 H' _ (w.putA hk (by decide) (by decide) rfl rfl (fun _ _ _ => rfl) (fun r' hr' j => pg_up2_ne hr' j) (fun _ _ _ => rfl) (pg_V_sl (by rw [hk]; rfl)) ho hs hq) (pg_locs1 w h2 hL))
theorem pg_aastore24 {K : pg_H → Option σ} {r x : Nat} {j : Int32} (hd : decode cc pc = .ok (.aastore, 1)) (kk : ∀ h', pg_EvF l D own cc nL ret nm df dl out (K h') (pc + 1) lv st h') : pg_EvF l D own cc nL ret nm df dl out (Option.bind (pg_sR 24 5 h r j x) K) pc lv (pR x :: pI j :: pR r :: st) h := by
  refine pg_write (hx := fun h' => h') (sx := fun _ => st) (fun y hy => ?_) kk
  unfold pg_sR at hy
  split at hy
  case isFalse => cases hy
  case isTrue hk =>
    obtain ⟨hk, hin, hxx⟩ := hk
    cases hy
    refine ⟨⟨Nat.le_refl _, Nat.le_refl _⟩, ?_⟩
    intro p e R s m args below meth c0 H locs cells slots Q ls C hsz w hL hc1 hs1 k0
    obtain ⟨⟨h1, h2⟩, hcell⟩ := w.arr hk (by decide) (by decide)
    have hK := C.2.2.2.2.2.2.2.2.1
    have e2 : pg_trR D r = .ref (pg_ad D r) := pg_trR_pos h1
    have fin' : ∀ H' : Heap, H'[pg_ad D r]? = some ((arrV (pg_cA D 24) (pg_k h r).2 (pg_V D h r)).setSlot j.toNatClampNeg (pg_trR D x)) → H'.size = H.size → (∀ q, q ≠ pg_ad D r → H'[q]? = H[q]?) → W p l e R s m args below meth c0 H' (locs ++ [⟨pg_ad D r, j.toNatClampNeg⟩]) cells slots Q (F0 m (pc + 1) ls (st.map (pg_tr D))) := fun H' ho hs hq =>
      W.cs (by simp [pg_sr]) (by simp [pg_sr]) (k0 H' _ (w.putA hk (by decide) (by decide) rfl rfl (fun _ _ _ => rfl) (fun _ _ _ => rfl) (fun r' hr' j => pg_up2_ne hr' j) (pg_V_sr (by rw [hk]; rfl)) ho hs hq) (pg_locs1 w h2 hL))
    show W _ _ _ _ _ _ _ _ _ _ _ _ _ _ _ (F0 m pc ls (pg_trR D x :: .int j :: pg_trR D r :: st.map (pg_tr D)))
    rw [e2]
    by_cases hx0 : x = 0
    · subst hx0
      exact va_WaastN C.1 C.2.1 hcell (pg_isAr (t := 24) hK (by decide) (by decide)) (fun q => by cases q) (by rw [arrV_size]; exact hin) rfl rfl hd fin'
    · have hxk := hxx.resolve_left hx0
      obtain ⟨⟨x1, x2⟩, q, hq0, cellV, g1, g2, g3, -⟩ := w.obj hxk (by decide)
      have hqe : q = (RX5, TX5, q.2.2) := by
        have := hq0
        simp [vwCl] at this
        rw [← this]
      have hcls := (hK.1.1 5 q hq0).2
      rw [hqe] at hcls
      obtain ⟨kA, comp, k1, k2, k3, -⟩ := (hK.2.1 24 (by decide) (by decide)).2
      have hcomp : comp = (pg_G D).1 5 := Option.some.inj (k3.symm.trans hcls.1)
      subst hcomp
      obtain ⟨kC, hkC, -⟩ := hcls.2
      have e3 : pg_trR D x = .ref (pg_ad D x) := pg_trR_pos x1
      rw [e3] at fin' ⊢
      exact W.aast C.1 C.2.1 hcell (fun q h => by cases h) (fun h => by cases h) k1 k2 rfl hkC ⟨fun q => hin (Or.inl q), by rw [arrV_size]; exact Nat.not_le.mp fun q => hin (Or.inr q)⟩ g1 (fun q h => by rw [g3] at h; cases h) (by rw [g2]; exact hkC) (by rw [g2]; exact va_assign hcls) rfl rfl hd fin'
theorem pg_aastore25 {K : pg_H → Option σ} {r x : Nat} {j : Int32} (hd : decode cc pc = .ok (.aastore, 1)) (kk : ∀ h', pg_EvF l D own cc nL ret nm df dl out (K h') (pc + 1) lv st h') : pg_EvF l D own cc nL ret nm df dl out (Option.bind (pg_sR 25 9 h r j x) K) pc lv (pR x :: pI j :: pR r :: st) h := by
  refine pg_write (hx := fun h' => h') (sx := fun _ => st) (fun y hy => ?_) kk
  unfold pg_sR at hy
  split at hy
  case isFalse => cases hy
  case isTrue hk =>
    obtain ⟨hk, hin, hxx⟩ := hk
    cases hy
    refine ⟨⟨Nat.le_refl _, Nat.le_refl _⟩, ?_⟩
    intro p e R s m args below meth c0 H locs cells slots Q ls C hsz w hL hc1 hs1 k0
    obtain ⟨⟨h1, h2⟩, hcell⟩ := w.arr hk (by decide) (by decide)
    have hK := C.2.2.2.2.2.2.2.2.1
    have e2 : pg_trR D r = .ref (pg_ad D r) := pg_trR_pos h1
    have fin' : ∀ H' : Heap, H'[pg_ad D r]? = some ((arrV (pg_cA D 25) (pg_k h r).2 (pg_V D h r)).setSlot j.toNatClampNeg (pg_trR D x)) → H'.size = H.size → (∀ q, q ≠ pg_ad D r → H'[q]? = H[q]?) → W p l e R s m args below meth c0 H' (locs ++ [⟨pg_ad D r, j.toNatClampNeg⟩]) cells slots Q (F0 m (pc + 1) ls (st.map (pg_tr D))) := fun H' ho hs hq =>
      W.cs (by simp [pg_sr]) (by simp [pg_sr]) (k0 H' _ (w.putA hk (by decide) (by decide) rfl rfl (fun _ _ _ => rfl) (fun _ _ _ => rfl) (fun r' hr' j => pg_up2_ne hr' j) (pg_V_sr (by rw [hk]; rfl)) ho hs hq) (pg_locs1 w h2 hL))
    show W _ _ _ _ _ _ _ _ _ _ _ _ _ _ _ (F0 m pc ls (pg_trR D x :: .int j :: pg_trR D r :: st.map (pg_tr D)))
    rw [e2]
    by_cases hx0 : x = 0
    · subst hx0
      exact va_WaastN C.1 C.2.1 hcell (pg_isAr (t := 25) hK (by decide) (by decide)) (fun q => by cases q) (by rw [arrV_size]; exact hin) rfl rfl hd fin'
    · have hxk := hxx.resolve_left hx0
      obtain ⟨⟨x1, x2⟩, q, hq0, cellV, g1, g2, g3, -⟩ := w.obj hxk (by decide)
      have hqe : q = (RX9, TX9, q.2.2) := by
        have := hq0
        simp [vwCl] at this
        rw [← this]
      have hcls := (hK.1.1 9 q hq0).2
      rw [hqe] at hcls
      obtain ⟨kA, comp, k1, k2, k3, -⟩ := (hK.2.1 25 (by decide) (by decide)).2
      have hcomp : comp = (pg_G D).1 9 := Option.some.inj (k3.symm.trans hcls.1)
      subst hcomp
      obtain ⟨kC, hkC, -⟩ := hcls.2
      have e3 : pg_trR D x = .ref (pg_ad D x) := pg_trR_pos x1
      rw [e3] at fin' ⊢
      exact W.aast C.1 C.2.1 hcell (fun q h => by cases h) (fun h => by cases h) k1 k2 rfl hkC ⟨fun q => hin (Or.inl q), by rw [arrV_size]; exact Nat.not_le.mp fun q => hin (Or.inr q)⟩ g1 (fun q h => by rw [g3] at h; cases h) (by rw [g2]; exact hkC) (by rw [g2]; exact va_assign hcls) rfl rfl hd fin'
/-- the script (0), TERM_LEAST (1), TERM_MOST (2) -/
def pg_xI (k : Nat) (s : Nat × (Nat → Int32)) (r : Nat) (j : Int32) : Option Int32 := if r = pg_lim + k ∧ ¬ (j < 0 ∨ s.1 ≤ j.toNatClampNeg) then some (s.2 j.toNatClampNeg) else none
def pg_xlen (k : Nat) (s : Nat × (Nat → Int32)) (r : Nat) : Option Int32 := if r = pg_lim + k then some (Int32.ofNat s.1) else none
theorem pg_isFix {s : State} {r : Nat} {cell : Cell} (hK : pg_K D s) (h1 : pg_lim ≤ r) (h2 : r < pg_lim + 3) (hc : cell.cls = pg_sc D (r - pg_lim)) (hv : ∀ q, cell.vm ≠ .statics q) : s.isArrayOf cell .int := by
  obtain ⟨-, k, hk, comp, hkk⟩ := hK.2.2.1 (r - pg_lim) (by omega) 0 (fun _ => .null)
  exact ⟨hv, k, by rw [hc]; exact hk, comp, hkk⟩
theorem pg_xaload {K : Int32 → Option σ} {r : Nat} {j : Int32} {s0 : Nat × (Nat → Int32)} (k : Nat) (hk3 : k < 3) (hs0 : ∀ {H : Heap}, pg_World D h H → pg_sx D k = s0) (hd : decode cc pc = .ok (.iaload, 1)) (kk : ∀ x, pg_EvF l D own cc nL ret nm df dl out (K x) (pc + 1) lv (pI x :: st) h) : pg_EvF l D own cc nL ret nm df dl out (Option.bind (pg_xI k s0 r j) K) pc lv (pI j :: pR r :: st) h := by
  refine pg_read (sx := fun x => pI x :: st) (fun y hy => ?_) kk
  intro p e R s m args below meth c0 H locs cells slots Q ls C w k0
  unfold pg_xI at hy
  split at hy
  case isFalse => cases hy
  case isTrue hk =>
    obtain ⟨rfl, hin⟩ := hk
    cases hy
    obtain ⟨⟨h1, h2⟩, cell, hcell, hcls, hv1, hv2, hsz, hsz2, hval⟩ := w.fix (w.2.2.2.1.1 k hk3).2
    rw [Nat.add_sub_cancel_left, hs0 w] at hsz hval
    have hlt : j.toNatClampNeg < s0.1 := Nat.not_le.mp fun q => hin (Or.inr q)
    have e2 : pg_trR D (pg_lim + k) = .ref (pg_ad D (pg_lim + k)) := pg_trR_pos (Nat.le_trans (by decide) h1)
    show W _ _ _ _ _ _ _ _ _ _ _ _ _ _ _ (F0 m pc ls (.int j :: pg_trR D (pg_lim + k) :: st.map (pg_tr D)))
    rw [e2]
    exact W.iald C.1 C.2.1 hcell (pg_isFix C.2.2.2.2.2.2.2.2.1 h1 h2 hcls hv1) hv2 (fun q => hin (q.imp id fun z => by omega)) (hval _ hlt) rfl rfl hd k0
theorem pg_xalen {K : Int32 → Option σ} {r : Nat} {s0 : Nat × (Nat → Int32)} (k : Nat) (hk3 : k < 3) (hs0 : ∀ {H : Heap}, pg_World D h H → pg_sx D k = s0) (hd : decode cc pc = .ok (.arraylength, 1)) (kk : ∀ x, pg_EvF l D own cc nL ret nm df dl out (K x) (pc + 1) lv (pI x :: st) h) : pg_EvF l D own cc nL ret nm df dl out (Option.bind (pg_xlen k s0 r) K) pc lv (pR r :: st) h := by
  refine pg_read (sx := fun x => pI x :: st) (fun y hy => ?_) kk
  intro p e R s m args below meth c0 H locs cells slots Q ls C w k0
  unfold pg_xlen at hy
  split at hy
  case isFalse => cases hy
  case isTrue hk =>
    subst hk
    cases hy
    obtain ⟨⟨h1, h2⟩, cell, hcell, hcls, hv1, hv2, hsz, hsz2, hval⟩ := w.fix (w.2.2.2.1.1 k hk3).2
    rw [Nat.add_sub_cancel_left, hs0 w] at hsz2
    have e2 : pg_trR D (pg_lim + k) = .ref (pg_ad D (pg_lim + k)) := pg_trR_pos (Nat.le_trans (by decide) h1)
    show W _ _ _ _ _ _ _ _ _ _ _ _ _ _ _ (F0 m pc ls (pg_trR D (pg_lim + k) :: st.map (pg_tr D)))
    rw [e2]
    exact W.alen C.1 C.2.1 hcell (pg_isFix C.2.2.2.2.2.2.2.2.1 h1 h2 hcls hv1) hsz2 rfl rfl hd k0
theorem pg_alen {K : Int32 → Option σ} {r : Nat} (hd : decode cc pc = .ok (.arraylength, 1)) (kk : ∀ x, pg_EvF l D own cc nL ret nm df dl out (K x) (pc + 1) lv (pI x :: st) h) : pg_EvF l D own cc nL ret nm df dl out (Option.bind (pg_len h r) K) pc lv (pR r :: st) h := by
  refine pg_read (sx := fun x => pI x :: st) (fun y hy => ?_) kk
  intro p e R s m args below meth c0 H locs cells slots Q ls C w k0
  unfold pg_len at hy
  split at hy
  case isFalse => cases hy
  case isTrue hk =>
    cases hy
    have hK := C.2.2.2.2.2.2.2.2.1
    show W _ _ _ _ _ _ _ _ _ _ _ _ _ _ _ (F0 m pc ls (pg_trR D r :: st.map (pg_tr D)))
    obtain ⟨⟨h1, h2⟩, hcell⟩ := w.arr rfl hk.1 hk.2
    rw [pg_trR_pos h1]
    exact W.alen C.1 C.2.1 hcell (pg_isAr hK hk.1 hk.2) (by rw [arrV_size]) rfl rfl hd k0
def pg_okty : FieldType → Bool
  | .float => false
  | .double => false
  | _ => true
theorem pg_okcls : ∀ (c : Nat) (q : vw_C), vwCl[c]? = some q → ∀ k, k < q.2.2 → pg_okty (pg_cty c k) = true
  | 0, _, h => by cases h; exact (by decide : ∀ k, k < 3 → pg_okty (tyX0 k) = true)
  | 1, _, h => by cases h; exact (by decide : ∀ k, k < 2 → pg_okty (tyX1 k) = true)
  | 2, _, h => by cases h; exact (by decide : ∀ k, k < 5 → pg_okty (tyX2 k) = true)
  | 3, _, h => by cases h; exact (by decide : ∀ k, k < 9 → pg_okty (tyX3 k) = true)
  | 4, _, h => by cases h; exact (by decide : ∀ k, k < 9 → pg_okty (tyX4 k) = true)
  | 5, _, h => by cases h; exact (by decide : ∀ k, k < 9 → pg_okty (tyX5 k) = true)
  | 6, _, h => by cases h; exact (by decide : ∀ k, k < 9 → pg_okty (tyX6 k) = true)
  | 7, _, h => by cases h; exact (by decide : ∀ k, k < 4 → pg_okty (tyX7 k) = true)
  | 8, _, h => by cases h; exact (by decide : ∀ k, k < 2 → pg_okty (tyX8 k) = true)
  | 9, _, h => by cases h; exact (by decide : ∀ k, k < 1 → pg_okty (tyX9 k) = true)
  | 10, _, h => by cases h; exact (by decide : ∀ k, k < 6 → pg_okty (tyX10 k) = true)
  | 11, _, h => by cases h; exact (by decide : ∀ k, k < 16 → pg_okty (tyX11 k) = true)
  | 12, _, h => by cases h; exact (by decide : ∀ k, k < 46 → pg_okty (tyX12 k) = true)
  | n + 13, _, h => by simp [vwCl] at h
theorem pg_dflt {ty : FieldType} (h : pg_okty ty = true) : defaultValue ty = if pg_fk ty = 0 then .int 0 else if pg_fk ty = 1 then .long 0 else pg_trR D 0 := by
  cases ty <;> first | rfl | cases h
theorem pg_newO {K : Nat × pg_H → Option σ} {i c n : Nat} {q : vw_C} (hd : decode cc pc = .ok (.new i, 3)) (hc : c < 13) (hq : vwCl[c]? = some q) (hn : q.2.2 = n) (hw1 : Cond.classLink own i q.1 ∈ pg_W) (hw2 : Cond.instantiable q.1 n ∈ pg_W) (hw3 : Cond.initialized q.1 ∈ pg_W) (kk : ∀ y, pg_EvF l D own cc nL ret nm df dl out (K y) (pc + 3) lv (pR y.1 :: st) y.2) : pg_EvF l D own cc nL ret nm df dl out (Option.bind (pg_new c n h) K) pc lv st h := by
  refine pg_write (hx := fun y => y.2) (sx := fun y => pR y.1 :: st) (fun y hy => ?_) kk
  unfold pg_new at hy
  split at hy
  case isFalse => cases hy
  case isTrue hlim =>
    cases hy
    refine ⟨⟨Nat.le_succ _, Nat.le_add_right _ _⟩, ?_⟩
    intro p e R s m args below meth c0 H locs cells slots Q ls C hsz w hL hc1 hs1 k0
    obtain ⟨hx, hb, -, hown, -, -, -, hts, hK, -⟩ := C
    have hKn := hK.1.1 c q hq
    obtain ⟨hin, -, htys⟩ := pg_cls c q hq
    have z1 : (pg_pu h (c + 1) n).1 - h.1 = 1 := by show h.1 + 1 - h.1 = 1; omega
    have z2 : (pg_pu h (c + 1) n).2.1 - h.2.1 = n := by show h.2.1 + n - h.2.1 = n; omega
    rw [z1] at hc1
    rw [z2] at hs1
    refine W.newcK hx hb hown (hts _ hw1) (hts _ hw2) (hts _ hw3) rfl hd hc1 hs1 hKn.2.1 rfl fun H1 kC hkC e1 e2 e3 => ?_
    have hw : pg_World D (pg_pu h (c + 1) n) H1 := by
      refine w.push rfl hlim (fun r' hr' => if_neg hr') (fun r' hr' j => congrFun (if_neg hr') j) (fun r' hr' j => congrFun (if_neg hr') j) (fun r' hr' j => congrFun (if_neg hr') j) e2 e3 (Or.inl ⟨c, q, ?_, hc, hq, ?_⟩)
      · show (if h.1 + 1 = h.1 + 1 then (c + 1, n) else pg_k h (h.1 + 1)).1 = c + 1
        rw [if_pos rfl]
      · have ea : pg_ad D (h.1 + 1) = H.size := by
          unfold pg_ad
          rw [if_pos hlim, w.1]
          omega
        rw [ea]
        refine (u_born (pg_cty c) hts hin hKn hkC e1 htys).to fun k hk => ?_
        have es : pg_k (pg_pu h (c + 1) n) (h.1 + 1) = (c + 1, n) := if_pos rfl
        have ei : pg_i (pg_pu h (c + 1) n) (h.1 + 1) = fun _ => 0 := if_pos rfl
        have el : pg_l (pg_pu h (c + 1) n) (h.1 + 1) = fun _ => 0 := if_pos rfl
        have er : pg_r (pg_pu h (c + 1) n) (h.1 + 1) = fun _ => 0 := if_pos rfl
        unfold pg_V
        rw [es, ei, el, er, pg_sty_obj hc]
        exact pg_dflt (pg_okcls c q hq k hk)
    have ea : pg_trR D (h.1 + 1) = .ref H.size := by
      rw [pg_trR_pos (by omega)]
      unfold pg_ad
      rw [if_pos hlim, w.1]
      rfl
    have k1 := k0 H1 locs hw hL
    change W _ _ _ _ _ _ _ _ _ _ _ _ _ _ _ (F0 m (pc + 3) ls (pg_trR D (h.1 + 1) :: st.map (pg_tr D))) at k1
    rw [ea] at k1
    exact W.cs (by rw [z1]) (by rw [z2]) k1
theorem pg_newI {K : Nat × pg_H → Option σ} {x : Int32} (hd : decode cc pc = .ok (.newarray .int, 2)) (hw : Cond.arrayClass .int ∈ pg_W) (kk : ∀ y, pg_EvF l D own cc nL ret nm df dl out (K y) (pc + 2) lv (pR y.1 :: st) y.2) : pg_EvF l D own cc nL ret nm df dl out (Option.bind (pg_newA 21 h x) K) pc lv (pI x :: st) h := by
  refine pg_write (hx := fun y => y.2) (sx := fun y => pR y.1 :: st) (fun y hy => ?_) kk
  unfold pg_newA at hy
  split at hy
  case isFalse => cases hy
  case isTrue hlim =>
    obtain ⟨hlim, hx0, hxb⟩ := hlim
    cases hy
    refine ⟨⟨Nat.le_succ _, Nat.le_add_right _ _⟩, ?_⟩
    intro p e R s m args below meth c0 H locs cells slots Q ls C hsz w hL hc1 hs1 k0
    obtain ⟨hx, hb, -, hown, -, -, -, hts, hK, -⟩ := C
    have z1 : (pg_pu h 21 x.toNatClampNeg).1 - h.1 = 1 := by show h.1 + 1 - h.1 = 1; omega
    have z2 : (pg_pu h 21 x.toNatClampNeg).2.1 - h.2.1 = x.toNatClampNeg := by show h.2.1 + x.toNatClampNeg - h.2.1 = x.toNatClampNeg; omega
    rw [z1] at hc1
    rw [z2] at hs1
    refine va_newaK (atype := .int) hx hb (hts _ hw) rfl hd rfl hx0 rfl (by show x.toNatClampNeg * 4 ≤ 536870912; omega) hc1 hs1 rfl fun H1 cA e1 e2 e3 hAr hNm => ?_
    have hcA : pg_cA D 21 = cA := by
      have z := (hK.2.1 21 (by decide) (by decide)).2
      exact Option.some.inj (Eq.trans (Eq.symm z) hNm)
    have hw : pg_World D (pg_pu h 21 x.toNatClampNeg) H1 := by
      refine w.push rfl hlim (fun r' hr' => if_neg hr') (fun r' hr' j => congrFun (if_neg hr') j) (fun r' hr' j => congrFun (if_neg hr') j) (fun r' hr' j => congrFun (if_neg hr') j) e2 e3 (Or.inr (Or.inl ?_))
      have ea : pg_ad D (h.1 + 1) = H.size := by
        unfold pg_ad
        rw [if_pos hlim, w.1]
        omega
      have es : pg_k (pg_pu h 21 x.toNatClampNeg) (h.1 + 1) = (21, x.toNatClampNeg) := if_pos rfl
      have ei : pg_i (pg_pu h 21 x.toNatClampNeg) (h.1 + 1) = fun _ => 0 := if_pos rfl
      have el : pg_l (pg_pu h 21 x.toNatClampNeg) (h.1 + 1) = fun _ => 0 := if_pos rfl
      rw [ea, es]
      refine ⟨by show 20 ≤ 21; decide, by show 21 < 26; decide, ?_⟩
      rw [e1, hcA]
      have eV : pg_V D (pg_pu h 21 x.toNatClampNeg) (h.1 + 1) = fun _ => defaultValue (newarray.typeOf .int) := by
        funext j
        unfold pg_V
        rw [es, ei, el]
        rfl
      rw [eV]
    have ea : pg_trR D (h.1 + 1) = .ref H.size := by
      rw [pg_trR_pos (by omega)]
      unfold pg_ad
      rw [if_pos hlim, w.1]
      rfl
    have k1 := k0 H1 locs hw hL
    change W _ _ _ _ _ _ _ _ _ _ _ _ _ _ _ (F0 m (pc + 2) ls (pg_trR D (h.1 + 1) :: st.map (pg_tr D))) at k1
    rw [ea] at k1
    exact W.cs (by rw [z1]) (by rw [z2]) k1
theorem pg_newL {K : Nat × pg_H → Option σ} {x : Int32} (hd : decode cc pc = .ok (.newarray .long, 2)) (hw : Cond.arrayClass .long ∈ pg_W) (kk : ∀ y, pg_EvF l D own cc nL ret nm df dl out (K y) (pc + 2) lv (pR y.1 :: st) y.2) : pg_EvF l D own cc nL ret nm df dl out (Option.bind (pg_newA 22 h x) K) pc lv (pI x :: st) h := by
  refine pg_write (hx := fun y => y.2) (sx := fun y => pR y.1 :: st) (fun y hy => ?_) kk
  unfold pg_newA at hy
  split at hy
  case isFalse => cases hy
  case isTrue hlim =>
    obtain ⟨hlim, hx0, hxb⟩ := hlim
    cases hy
    refine ⟨⟨Nat.le_succ _, Nat.le_add_right _ _⟩, ?_⟩
    intro p e R s m args below meth c0 H locs cells slots Q ls C hsz w hL hc1 hs1 k0
    obtain ⟨hx, hb, -, hown, -, -, -, hts, hK, -⟩ := C
    have z1 : (pg_pu h 22 x.toNatClampNeg).1 - h.1 = 1 := by show h.1 + 1 - h.1 = 1; omega
    have z2 : (pg_pu h 22 x.toNatClampNeg).2.1 - h.2.1 = x.toNatClampNeg := by show h.2.1 + x.toNatClampNeg - h.2.1 = x.toNatClampNeg; omega
    rw [z1] at hc1
    rw [z2] at hs1
    refine va_newaK (atype := .long) hx hb (hts _ hw) rfl hd rfl hx0 rfl (by show x.toNatClampNeg * 8 ≤ 536870912; omega) hc1 hs1 rfl fun H1 cA e1 e2 e3 hAr hNm => ?_
    have hcA : pg_cA D 22 = cA := by
      have z := (hK.2.1 22 (by decide) (by decide)).2
      exact Option.some.inj (Eq.trans (Eq.symm z) hNm)
    have hw : pg_World D (pg_pu h 22 x.toNatClampNeg) H1 := by
      refine w.push rfl hlim (fun r' hr' => if_neg hr') (fun r' hr' j => congrFun (if_neg hr') j) (fun r' hr' j => congrFun (if_neg hr') j) (fun r' hr' j => congrFun (if_neg hr') j) e2 e3 (Or.inr (Or.inl ?_))
      have ea : pg_ad D (h.1 + 1) = H.size := by
        unfold pg_ad
        rw [if_pos hlim, w.1]
        omega
      have es : pg_k (pg_pu h 22 x.toNatClampNeg) (h.1 + 1) = (22, x.toNatClampNeg) := if_pos rfl
      have ei : pg_i (pg_pu h 22 x.toNatClampNeg) (h.1 + 1) = fun _ => 0 := if_pos rfl
      have el : pg_l (pg_pu h 22 x.toNatClampNeg) (h.1 + 1) = fun _ => 0 := if_pos rfl
      rw [ea, es]
      refine ⟨by show 20 ≤ 22; decide, by show 22 < 26; decide, ?_⟩
      rw [e1, hcA]
      have eV : pg_V D (pg_pu h 22 x.toNatClampNeg) (h.1 + 1) = fun _ => defaultValue (newarray.typeOf .long) := by
        funext j
        unfold pg_V
        rw [es, ei, el]
        rfl
      rw [eV]
    have ea : pg_trR D (h.1 + 1) = .ref H.size := by
      rw [pg_trR_pos (by omega)]
      unfold pg_ad
      rw [if_pos hlim, w.1]
      rfl
    have k1 := k0 H1 locs hw hL
    change W _ _ _ _ _ _ _ _ _ _ _ _ _ _ _ (F0 m (pc + 2) ls (pg_trR D (h.1 + 1) :: st.map (pg_tr D))) at k1
    rw [ea] at k1
    exact W.cs (by rw [z1]) (by rw [z2]) k1
theorem pg_newZ {K : Nat × pg_H → Option σ} {x : Int32} (hd : decode cc pc = .ok (.newarray .boolean, 2)) (hw : Cond.arrayClass .boolean ∈ pg_W) (kk : ∀ y, pg_EvF l D own cc nL ret nm df dl out (K y) (pc + 2) lv (pR y.1 :: st) y.2) : pg_EvF l D own cc nL ret nm df dl out (Option.bind (pg_newA 23 h x) K) pc lv (pI x :: st) h := by
  refine pg_write (hx := fun y => y.2) (sx := fun y => pR y.1 :: st) (fun y hy => ?_) kk
  unfold pg_newA at hy
  split at hy
  case isFalse => cases hy
  case isTrue hlim =>
    obtain ⟨hlim, hx0, hxb⟩ := hlim
    cases hy
    refine ⟨⟨Nat.le_succ _, Nat.le_add_right _ _⟩, ?_⟩
    intro p e R s m args below meth c0 H locs cells slots Q ls C hsz w hL hc1 hs1 k0
    obtain ⟨hx, hb, -, hown, -, -, -, hts, hK, -⟩ := C
    have z1 : (pg_pu h 23 x.toNatClampNeg).1 - h.1 = 1 := by show h.1 + 1 - h.1 = 1; omega
    have z2 : (pg_pu h 23 x.toNatClampNeg).2.1 - h.2.1 = x.toNatClampNeg := by show h.2.1 + x.toNatClampNeg - h.2.1 = x.toNatClampNeg; omega
    rw [z1] at hc1
    rw [z2] at hs1
    refine va_newaK (atype := .boolean) hx hb (hts _ hw) rfl hd rfl hx0 rfl (by show x.toNatClampNeg * 1 ≤ 536870912; omega) hc1 hs1 rfl fun H1 cA e1 e2 e3 hAr hNm => ?_
    have hcA : pg_cA D 23 = cA := by
      have z := (hK.2.1 23 (by decide) (by decide)).2
      exact Option.some.inj (Eq.trans (Eq.symm z) hNm)
    have hw : pg_World D (pg_pu h 23 x.toNatClampNeg) H1 := by
      refine w.push rfl hlim (fun r' hr' => if_neg hr') (fun r' hr' j => congrFun (if_neg hr') j) (fun r' hr' j => congrFun (if_neg hr') j) (fun r' hr' j => congrFun (if_neg hr') j) e2 e3 (Or.inr (Or.inl ?_))
      have ea : pg_ad D (h.1 + 1) = H.size := by
        unfold pg_ad
        rw [if_pos hlim, w.1]
        omega
      have es : pg_k (pg_pu h 23 x.toNatClampNeg) (h.1 + 1) = (23, x.toNatClampNeg) := if_pos rfl
      have ei : pg_i (pg_pu h 23 x.toNatClampNeg) (h.1 + 1) = fun _ => 0 := if_pos rfl
      have el : pg_l (pg_pu h 23 x.toNatClampNeg) (h.1 + 1) = fun _ => 0 := if_pos rfl
      rw [ea, es]
      refine ⟨by show 20 ≤ 23; decide, by show 23 < 26; decide, ?_⟩
      rw [e1, hcA]
      have eV : pg_V D (pg_pu h 23 x.toNatClampNeg) (h.1 + 1) = fun _ => defaultValue (newarray.typeOf .boolean) := by
        funext j
        unfold pg_V
        rw [es, ei, el]
        rfl
      rw [eV]
    have ea : pg_trR D (h.1 + 1) = .ref H.size := by
      rw [pg_trR_pos (by omega)]
      unfold pg_ad
      rw [if_pos hlim, w.1]
      rfl
    have k1 := k0 H1 locs hw hL
    change W _ _ _ _ _ _ _ _ _ _ _ _ _ _ _ (F0 m (pc + 2) ls (pg_trR D (h.1 + 1) :: st.map (pg_tr D))) at k1
    rw [ea] at k1
    exact W.cs (by rw [z1]) (by rw [z2]) k1
theorem pg_newB {K : Nat × pg_H → Option σ} {x : Int32} (hd : decode cc pc = .ok (.newarray .byte, 2)) (hw : Cond.arrayClass .byte ∈ pg_W) (kk : ∀ y, pg_EvF l D own cc nL ret nm df dl out (K y) (pc + 2) lv (pR y.1 :: st) y.2) : pg_EvF l D own cc nL ret nm df dl out (Option.bind (pg_newA 20 h x) K) pc lv (pI x :: st) h := by
  refine pg_write (hx := fun y => y.2) (sx := fun y => pR y.1 :: st) (fun y hy => ?_) kk
  unfold pg_newA at hy
  split at hy
  case isFalse => cases hy
  case isTrue hlim =>
    obtain ⟨hlim, hx0, hxb⟩ := hlim
    cases hy
    refine ⟨⟨Nat.le_succ _, Nat.le_add_right _ _⟩, ?_⟩
    intro p e R s m args below meth c0 H locs cells slots Q ls C hsz w hL hc1 hs1 k0
    obtain ⟨hx, hb, -, hown, -, -, -, hts, hK, -⟩ := C
    have z1 : (pg_pu h 20 x.toNatClampNeg).1 - h.1 = 1 := by show h.1 + 1 - h.1 = 1; omega
    have z2 : (pg_pu h 20 x.toNatClampNeg).2.1 - h.2.1 = x.toNatClampNeg := by show h.2.1 + x.toNatClampNeg - h.2.1 = x.toNatClampNeg; omega
    rw [z1] at hc1
    rw [z2] at hs1
    refine va_newaK (atype := .byte) hx hb (hts _ hw) rfl hd rfl hx0 rfl (by show x.toNatClampNeg * 1 ≤ 536870912; omega) hc1 hs1 rfl fun H1 cA e1 e2 e3 hAr hNm => ?_
    have hcA : pg_cA D 20 = cA := by
      have z := (hK.2.1 20 (by decide) (by decide)).2
      exact Option.some.inj (Eq.trans (Eq.symm z) hNm)
    have hw : pg_World D (pg_pu h 20 x.toNatClampNeg) H1 := by
      refine w.push rfl hlim (fun r' hr' => if_neg hr') (fun r' hr' j => congrFun (if_neg hr') j) (fun r' hr' j => congrFun (if_neg hr') j) (fun r' hr' j => congrFun (if_neg hr') j) e2 e3 (Or.inr (Or.inl ?_))
      have ea : pg_ad D (h.1 + 1) = H.size := by
        unfold pg_ad
        rw [if_pos hlim, w.1]
        omega
      have es : pg_k (pg_pu h 20 x.toNatClampNeg) (h.1 + 1) = (20, x.toNatClampNeg) := if_pos rfl
      have ei : pg_i (pg_pu h 20 x.toNatClampNeg) (h.1 + 1) = fun _ => 0 := if_pos rfl
      have el : pg_l (pg_pu h 20 x.toNatClampNeg) (h.1 + 1) = fun _ => 0 := if_pos rfl
      rw [ea, es]
      refine ⟨by show 20 ≤ 20; decide, by show 20 < 26; decide, ?_⟩
      rw [e1, hcA]
      have eV : pg_V D (pg_pu h 20 x.toNatClampNeg) (h.1 + 1) = fun _ => defaultValue (newarray.typeOf .byte) := by
        funext j
        unfold pg_V
        rw [es, ei, el]
        rfl
      rw [eV]
    have ea : pg_trR D (h.1 + 1) = .ref H.size := by
      rw [pg_trR_pos (by omega)]
      unfold pg_ad
      rw [if_pos hlim, w.1]
      rfl
    have k1 := k0 H1 locs hw hL
    change W _ _ _ _ _ _ _ _ _ _ _ _ _ _ _ (F0 m (pc + 2) ls (pg_trR D (h.1 + 1) :: st.map (pg_tr D))) at k1
    rw [ea] at k1
    exact W.cs (by rw [z1]) (by rw [z2]) k1
theorem pg_newR24 {K : Nat × pg_H → Option σ} {i : Nat} {x : Int32} (hd : decode cc pc = .ok (.anewarray i, 3)) (hw1 : Cond.classLink own i RX5 ∈ pg_W) (kk : ∀ y, pg_EvF l D own cc nL ret nm df dl out (K y) (pc + 3) lv (pR y.1 :: st) y.2) : pg_EvF l D own cc nL ret nm df dl out (Option.bind (pg_newA 24 h x) K) pc lv (pI x :: st) h := by
  refine pg_write (hx := fun y => y.2) (sx := fun y => pR y.1 :: st) (fun y hy => ?_) kk
  unfold pg_newA at hy
  split at hy
  case isFalse => cases hy
  case isTrue hlim =>
    obtain ⟨hlim, hx0, hxb⟩ := hlim
    cases hy
    refine ⟨⟨Nat.le_succ _, Nat.le_add_right _ _⟩, ?_⟩
    intro p e R s m args below meth c0 H locs cells slots Q ls C hsz w hL hc1 hs1 k0
    obtain ⟨hx, hb, -, hown, -, -, -, hts, hK, -⟩ := C
    have z1 : (pg_pu h 24 x.toNatClampNeg).1 - h.1 = 1 := by show h.1 + 1 - h.1 = 1; omega
    have z2 : (pg_pu h 24 x.toNatClampNeg).2.1 - h.2.1 = x.toNatClampNeg := by show h.2.1 + x.toNatClampNeg - h.2.1 = x.toNatClampNeg; omega
    rw [z1] at hc1
    rw [z2] at hs1
    refine W.anew hx hb hown (hts _ hw1) (va_AO.use (hK.2.2.2.2.2.2.2.2.2.2.2.1)) rfl hd rfl hx0 (by omega) hc1 hs1 fun cA kA comp hNm e1 e2 e3 => ?_
    have hcA : pg_cA D 24 = cA := by
      obtain ⟨kA', comp', -, -, -, z⟩ := (hK.2.1 24 (by decide) (by decide)).2
      exact Option.some.inj (Eq.trans (Eq.symm z) hNm)
    have hw : pg_World D (pg_pu h 24 x.toNatClampNeg) (H.push { cls := cA, slots := Array.replicate x.toNatClampNeg .null, vm := .none }) := by
      refine w.push rfl hlim (fun r' hr' => if_neg hr') (fun r' hr' j => congrFun (if_neg hr') j) (fun r' hr' j => congrFun (if_neg hr') j) (fun r' hr' j => congrFun (if_neg hr') j) (by simp) (fun q hq => by rw [Array.getElem?_push, if_neg (Nat.ne_of_lt hq)]) (Or.inr (Or.inl ?_))
      have ea : pg_ad D (h.1 + 1) = H.size := by
        unfold pg_ad
        rw [if_pos hlim, w.1]
        omega
      have es : pg_k (pg_pu h 24 x.toNatClampNeg) (h.1 + 1) = (24, x.toNatClampNeg) := if_pos rfl
      have er : pg_r (pg_pu h 24 x.toNatClampNeg) (h.1 + 1) = fun _ => 0 := if_pos rfl
      rw [ea, es]
      refine ⟨by show 20 ≤ 24; decide, by show 24 < 26; decide, ?_⟩
      have eV : pg_V D (pg_pu h 24 x.toNatClampNeg) (h.1 + 1) = fun _ => Value.null := by
        funext j
        unfold pg_V
        rw [es, er]
        rfl
      rw [eV, hcA, ← arrV_new]
      simp
    have ea : pg_trR D (h.1 + 1) = .ref H.size := by
      rw [pg_trR_pos (by omega)]
      unfold pg_ad
      rw [if_pos hlim, w.1]
      rfl
    have k1 := k0 _ locs hw hL
    change W _ _ _ _ _ _ _ _ _ _ _ _ _ _ _ (F0 m (pc + 3) ls (pg_trR D (h.1 + 1) :: st.map (pg_tr D))) at k1
    rw [ea] at k1
    exact W.cs (by rw [z1]) (by rw [z2]) k1
theorem pg_newR25 {K : Nat × pg_H → Option σ} {i : Nat} {x : Int32} (hd : decode cc pc = .ok (.anewarray i, 3)) (hw1 : Cond.classLink own i RX9 ∈ pg_W) (kk : ∀ y, pg_EvF l D own cc nL ret nm df dl out (K y) (pc + 3) lv (pR y.1 :: st) y.2) : pg_EvF l D own cc nL ret nm df dl out (Option.bind (pg_newA 25 h x) K) pc lv (pI x :: st) h := by
  refine pg_write (hx := fun y => y.2) (sx := fun y => pR y.1 :: st) (fun y hy => ?_) kk
  unfold pg_newA at hy
  split at hy
  case isFalse => cases hy
  case isTrue hlim =>
    obtain ⟨hlim, hx0, hxb⟩ := hlim
    cases hy
    refine ⟨⟨Nat.le_succ _, Nat.le_add_right _ _⟩, ?_⟩
    intro p e R s m args below meth c0 H locs cells slots Q ls C hsz w hL hc1 hs1 k0
    obtain ⟨hx, hb, -, hown, -, -, -, hts, hK, -⟩ := C
    have z1 : (pg_pu h 25 x.toNatClampNeg).1 - h.1 = 1 := by show h.1 + 1 - h.1 = 1; omega
    have z2 : (pg_pu h 25 x.toNatClampNeg).2.1 - h.2.1 = x.toNatClampNeg := by show h.2.1 + x.toNatClampNeg - h.2.1 = x.toNatClampNeg; omega
    rw [z1] at hc1
    rw [z2] at hs1
    refine W.anew hx hb hown (hts _ hw1) (va_AO.use (hK.2.2.2.2.2.2.2.2.2.2.2.2)) rfl hd rfl hx0 (by omega) hc1 hs1 fun cA kA comp hNm e1 e2 e3 => ?_
    have hcA : pg_cA D 25 = cA := by
      obtain ⟨kA', comp', -, -, -, z⟩ := (hK.2.1 25 (by decide) (by decide)).2
      exact Option.some.inj (Eq.trans (Eq.symm z) hNm)
    have hw : pg_World D (pg_pu h 25 x.toNatClampNeg) (H.push { cls := cA, slots := Array.replicate x.toNatClampNeg .null, vm := .none }) := by
      refine w.push rfl hlim (fun r' hr' => if_neg hr') (fun r' hr' j => congrFun (if_neg hr') j) (fun r' hr' j => congrFun (if_neg hr') j) (fun r' hr' j => congrFun (if_neg hr') j) (by simp) (fun q hq => by rw [Array.getElem?_push, if_neg (Nat.ne_of_lt hq)]) (Or.inr (Or.inl ?_))
      have ea : pg_ad D (h.1 + 1) = H.size := by
        unfold pg_ad
        rw [if_pos hlim, w.1]
        omega
      have es : pg_k (pg_pu h 25 x.toNatClampNeg) (h.1 + 1) = (25, x.toNatClampNeg) := if_pos rfl
      have er : pg_r (pg_pu h 25 x.toNatClampNeg) (h.1 + 1) = fun _ => 0 := if_pos rfl
      rw [ea, es]
      refine ⟨by show 20 ≤ 25; decide, by show 25 < 26; decide, ?_⟩
      have eV : pg_V D (pg_pu h 25 x.toNatClampNeg) (h.1 + 1) = fun _ => Value.null := by
        funext j
        unfold pg_V
        rw [es, er]
        rfl
      rw [eV, hcA, ← arrV_new]
      simp
    have ea : pg_trR D (h.1 + 1) = .ref H.size := by
      rw [pg_trR_pos (by omega)]
      unfold pg_ad
      rw [if_pos hlim, w.1]
      rfl
    have k1 := k0 _ locs hw hL
    change W _ _ _ _ _ _ _ _ _ _ _ _ _ _ _ (F0 m (pc + 3) ls (pg_trR D (h.1 + 1) :: st.map (pg_tr D))) at k1
    rw [ea] at k1
    exact W.cs (by rw [z1]) (by rw [z2]) k1
end PGA
