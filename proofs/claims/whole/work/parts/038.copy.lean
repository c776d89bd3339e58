section PGY
variable {l : Launch} {D : pg_D} {own : String} {cc : ByteArray} {nL : Nat} {ret : Option FieldType} {nm : String} {df dl pc pc' : Nat} {σ τ : Type} {out : σ → Option pg_pv × pg_H} {F A B : Option σ} {lv lv' : List (Nat × pg_pv)} {st st' rest rs : List pg_pv} {h : pg_H}
theorem pg_nn (z : Int32) (hz : ¬ z < 0) : z.toInt = (z.toNatClampNeg : Int) := by
  have hz0 : (0 : Int) ≤ z.toInt := by
    have := Int32.not_lt.mp hz
    simpa using Int32.le_iff_toInt_le.mp this
  show z.toInt = ((z.toInt.toNat : Nat) : Int)
  omega
def pg_cpI (h : pg_H) (a0 : Nat) (sp : Int32) (a : Nat) (dp n : Int32) : pg_H := (h.1, h.2.1, h.2.2.1, (fun r => if r = a then va_cpy (pg_i h a0) (pg_i h a) sp.toNatClampNeg dp.toNatClampNeg n.toNatClampNeg else pg_i h r), h.2.2.2.2.1, h.2.2.2.2.2)
def pg_cpyI (h : pg_H) (a0 : Nat) (sp : Int32) (a : Nat) (dp n : Int32) : Option pg_H := if (pg_k h a0).1 = 21 ∧ (pg_k h a).1 = 21 ∧ ¬ sp < 0 ∧ ¬ dp < 0 ∧ ¬ n < 0 ∧ sp.toNatClampNeg + n.toNatClampNeg ≤ (pg_k h a0).2 ∧ dp.toNatClampNeg + n.toNatClampNeg ≤ (pg_k h a).2 then some (pg_cpI h a0 sp a dp n) else none
theorem pg_acopyI {K : pg_H → Option σ} {i a0 a : Nat} {sp dp n : Int32} (hd : decode cc pc = .ok (.invokestatic i, 3)) (hw1 : Cond.methodLink own i arraycopyName ∈ pg_W) (hw2 : Cond.native arraycopyName ∈ pg_W) (hw3 : Cond.static arraycopyName ∈ pg_W) (hw4 : Cond.initialized "java/lang/System" ∈ pg_W) (hcat : (st.map pg_cat).sum ≤ 8) (hdf : 1 ≤ df) (hdl : 60 ≤ dl) (kk : ∀ h', pg_EvF l D own cc nL ret nm df dl out (K h') (pc + 3) lv st h') : pg_EvF l D own cc nL ret nm df dl out (Option.bind (pg_cpyI h a0 sp a dp n) K) pc lv (pI n :: pI dp :: pR a :: pI sp :: pR a0 :: st) h := by
  refine pg_write (hx := fun h' => h') (sx := fun _ => st) (fun y hy => ?_) kk
  unfold pg_cpyI at hy
  split at hy
  case isFalse => cases hy
  case isTrue hk =>
    obtain ⟨hk0, hk1, h1, h2, h3, h4, h5⟩ := hk
    cases hy
    refine ⟨⟨Nat.le_refl _, Nat.le_refl _⟩, ?_⟩
    intro p e R s m args below meth c0 H locs cells slots Q ls C hsz w hL hc1 hs1 k0
    obtain ⟨hx, hb, hml, hown, -, -, -, hts, hK, hfr, hlo⟩ := C
    obtain ⟨⟨b1, b2⟩, hcell0⟩ := w.arr hk0 (by decide) (by decide)
    obtain ⟨⟨a1, a2⟩, hcell⟩ := w.arr hk1 (by decide) (by decide)
    have hc8 := pg_room (D := D) hcat
    have e0 : pg_trR D a0 = .ref (pg_ad D a0) := pg_trR_pos b1
    have e1 : pg_trR D a = .ref (pg_ad D a) := pg_trR_pos a1
    show W _ _ _ _ _ _ _ _ _ _ _ _ _ _ _ (F0 m pc ls (.int n :: .int dp :: pg_trR D a :: .int sp :: pg_trR D a0 :: st.map (pg_tr D)))
    rw [e0, e1]
    obtain ⟨-, k0', hk0', cm0, hkk0⟩ := (hK.2.1 21 (by decide) (by decide)).1 0 (fun _ => .null)
    intro T hT X
    have v0 : ∀ j, pg_V D h a0 j = .int (pg_i h a0 j) := fun j => by unfold pg_V; rw [hk0]; rfl
    have v1 : ∀ j, pg_V D h a j = .int (pg_i h a j) := fun j => by unfold pg_V; rw [hk1]; rfl
    obtain ⟨vm', X', step⟩ := X.arraycopy hx hown (hts _ hw1) (hts _ hw2) (hts _ hw3) (hts _ hw4) (src := pg_ad D a0) (dst := pg_ad D a) (cs := arrV (pg_cA D 21) (pg_k h a0).2 (pg_V D h a0)) (cd := arrV (pg_cA D 21) (pg_k h a).2 (pg_V D h a)) (srcPos := sp) (destPos := dp) (n := n) (by rw [hT]; exact hcell0) (by rw [hT]; exact hcell)
      (fun _ h => by cases h) (fun _ h => by cases h) (fun h => by cases h) (fun h => by cases h) hk0' hk0' hkk0 hkk0 (by simp [refKind, pg_aty]) h1 h2 h3
      (by rw [pg_nn sp h1, pg_nn n h3, arrV_size]; omega)
      (by rw [pg_nn dp h2, pg_nn n h3, arrV_size]; omega)
      (fun vm₁ _ i hi => by
        have e : (arrV (pg_cA D 21) (pg_k h a0).2 (pg_V D h a0)).slots.getD (sp.toNatClampNeg + i) .null = .int (pg_i h a0 (sp.toNatClampNeg + i)) := by
          rw [Array.getD_eq_getD_getElem?, arrV_read _ _ (by omega), v0]
          rfl
        refine ⟨?_, ?_⟩
        · rw [e]
          rfl
        · rw [e]
          exact trivial)
      (g := F0 m pc ls (.int n :: .int dp :: .ref (pg_ad D a) :: .int sp :: .ref (pg_ad D a0) :: st.map (pg_tr D))) rfl (by rw [hml]; exact hsz) (rest := st.map (pg_tr D)) rfl (by rw [hb]; exact hd) (by omega) (by
        have hz : nativeFrameWords "java/lang/System" "arraycopy" 5 + 11 + 8 ≤ 60 := by decide
        show 2 * 0 + _ + _ ≤ _
        omega)
    have ec : copied (arrV (pg_cA D 21) (pg_k h a0).2 (pg_V D h a0)) (arrV (pg_cA D 21) (pg_k h a).2 (pg_V D h a)) sp dp n = arrV (pg_cA D 21) (pg_k h a).2 (va_cpy (pg_V D h a0) (pg_V D h a) sp.toNatClampNeg dp.toNatClampNeg n.toNatClampNeg) := va_copied (fun z => z) _ _ (pg_V D h a0) (pg_V D h a) h4
    rw [ec] at X' step
    have eV : pg_V D (pg_cpI h a0 sp a dp n) a = va_cpy (pg_V D h a0) (pg_V D h a) sp.toNatClampNeg dp.toNatClampNeg n.toNatClampNeg := by
      funext j
      have e3 : pg_V D (pg_cpI h a0 sp a dp n) a j = .int (pg_i (pg_cpI h a0 sp a dp n) a j) := by
        unfold pg_V
        rw [show pg_k (pg_cpI h a0 sp a dp n) = pg_k h from rfl, hk1]
        rfl
      rw [e3, show pg_i (pg_cpI h a0 sp a dp n) a = va_cpy (pg_i h a0) (pg_i h a) sp.toNatClampNeg dp.toNatClampNeg n.toNatClampNeg from if_pos rfl]
      unfold va_cpy
      split
      · rw [v0]
      · rw [v1]
    have hl : pg_ad D a < H.size := w.ad_lt a1 a2
    generalize hcl : arrV (pg_cA D 21) (pg_k h a).2 (va_cpy (pg_V D h a0) (pg_V D h a) sp.toNatClampNeg dp.toNatClampNeg n.toNatClampNeg) = cl at X' step
    have hw' : pg_World D (pg_cpI h a0 sp a dp n) (H.setIfInBounds (pg_ad D a) cl) := by
      refine w.set a1 a2 rfl rfl (fun r' hr' j => congrFun (if_neg hr') j) (fun _ _ _ => rfl) (fun _ _ _ => rfl) (by simp) (fun q hq => by simp [Array.getElem?_setIfInBounds, Ne.symm hq]) (Or.inr (Or.inl ?_))
      rw [show pg_k (pg_cpI h a0 sp a dp n) = pg_k h from rfl, hk1, eV, hcl]
      exact ⟨by decide, by decide, by simp [Array.getElem?_setIfInBounds, hl]⟩
    have hheap : ((T.setVm vm').setCell (pg_ad D a) cl).heap = H.setIfInBounds (pg_ad D a) cl := by rw [← hT]; rfl
    obtain ⟨t, t1, t2⟩ := W.cs (by simp [pg_cpI]) (by simp [pg_cpI]) (k0 _ _ hw' (fun q hq => by
      rcases List.mem_append.mp hq with z | z
      · exact hL q z
      · obtain ⟨z1, -, z2⟩ := List.mem_map.mp z
        rw [← z2]
        show pg_b D ≤ pg_ad D a
        rw [w.adr a2]
        exact Nat.le_add_right _ _)) _ hheap X'
    exact ⟨t, step t t1, t2⟩
def pg_cpL (h : pg_H) (a0 : Nat) (sp : Int32) (a : Nat) (dp n : Int32) : pg_H := (h.1, h.2.1, h.2.2.1, h.2.2.2.1, (fun r => if r = a then va_cpy (pg_l h a0) (pg_l h a) sp.toNatClampNeg dp.toNatClampNeg n.toNatClampNeg else pg_l h r), h.2.2.2.2.2)
def pg_cpyL (h : pg_H) (a0 : Nat) (sp : Int32) (a : Nat) (dp n : Int32) : Option pg_H := if (pg_k h a0).1 = 22 ∧ (pg_k h a).1 = 22 ∧ ¬ sp < 0 ∧ ¬ dp < 0 ∧ ¬ n < 0 ∧ sp.toNatClampNeg + n.toNatClampNeg ≤ (pg_k h a0).2 ∧ dp.toNatClampNeg + n.toNatClampNeg ≤ (pg_k h a).2 then some (pg_cpL h a0 sp a dp n) else none
theorem pg_acopyL {K : pg_H → Option σ} {i a0 a : Nat} {sp dp n : Int32} (hd : decode cc pc = .ok (.invokestatic i, 3)) (hw1 : Cond.methodLink own i arraycopyName ∈ pg_W) (hw2 : Cond.native arraycopyName ∈ pg_W) (hw3 : Cond.static arraycopyName ∈ pg_W) (hw4 : Cond.initialized "java/lang/System" ∈ pg_W) (hcat : (st.map pg_cat).sum ≤ 8) (hdf : 1 ≤ df) (hdl : 60 ≤ dl) (kk : ∀ h', pg_EvF l D own cc nL ret nm df dl out (K h') (pc + 3) lv st h') : pg_EvF l D own cc nL ret nm df dl out (Option.bind (pg_cpyL h a0 sp a dp n) K) pc lv (pI n :: pI dp :: pR a :: pI sp :: pR a0 :: st) h := by
  refine pg_write (hx := fun h' => h') (sx := fun _ => st) (fun y hy => ?_) kk
  unfold pg_cpyL at hy
  split at hy
  case isFalse => cases hy
  case isTrue hk =>
    obtain ⟨hk0, hk1, h1, h2, h3, h4, h5⟩ := hk
    cases hy
    refine ⟨⟨Nat.le_refl _, Nat.le_refl _⟩, ?_⟩
    intro p e R s m args below meth c0 H locs cells slots Q ls C hsz w hL hc1 hs1 k0
    obtain ⟨hx, hb, hml, hown, -, -, -, hts, hK, hfr, hlo⟩ := C
    obtain ⟨⟨b1, b2⟩, hcell0⟩ := w.arr hk0 (by decide) (by decide)
    obtain ⟨⟨a1, a2⟩, hcell⟩ := w.arr hk1 (by decide) (by decide)
    have hc8 := pg_room (D := D) hcat
    have e0 : pg_trR D a0 = .ref (pg_ad D a0) := pg_trR_pos b1
    have e1 : pg_trR D a = .ref (pg_ad D a) := pg_trR_pos a1
    show W _ _ _ _ _ _ _ _ _ _ _ _ _ _ _ (F0 m pc ls (.int n :: .int dp :: pg_trR D a :: .int sp :: pg_trR D a0 :: st.map (pg_tr D)))
    rw [e0, e1]
    obtain ⟨-, k0', hk0', cm0, hkk0⟩ := (hK.2.1 22 (by decide) (by decide)).1 0 (fun _ => .null)
    intro T hT X
    have v0 : ∀ j, pg_V D h a0 j = .long (pg_l h a0 j) := fun j => by unfold pg_V; rw [hk0]; rfl
    have v1 : ∀ j, pg_V D h a j = .long (pg_l h a j) := fun j => by unfold pg_V; rw [hk1]; rfl
    obtain ⟨vm', X', step⟩ := X.arraycopy hx hown (hts _ hw1) (hts _ hw2) (hts _ hw3) (hts _ hw4) (src := pg_ad D a0) (dst := pg_ad D a) (cs := arrV (pg_cA D 22) (pg_k h a0).2 (pg_V D h a0)) (cd := arrV (pg_cA D 22) (pg_k h a).2 (pg_V D h a)) (srcPos := sp) (destPos := dp) (n := n) (by rw [hT]; exact hcell0) (by rw [hT]; exact hcell)
      (fun _ h => by cases h) (fun _ h => by cases h) (fun h => by cases h) (fun h => by cases h) hk0' hk0' hkk0 hkk0 (by simp [refKind, pg_aty]) h1 h2 h3
      (by rw [pg_nn sp h1, pg_nn n h3, arrV_size]; omega)
      (by rw [pg_nn dp h2, pg_nn n h3, arrV_size]; omega)
      (fun vm₁ _ i hi => by
        have e : (arrV (pg_cA D 22) (pg_k h a0).2 (pg_V D h a0)).slots.getD (sp.toNatClampNeg + i) .null = .long (pg_l h a0 (sp.toNatClampNeg + i)) := by
          rw [Array.getD_eq_getD_getElem?, arrV_read _ _ (by omega), v0]
          rfl
        refine ⟨?_, ?_⟩
        · rw [e]
          rfl
        · rw [e]
          exact trivial)
      (g := F0 m pc ls (.int n :: .int dp :: .ref (pg_ad D a) :: .int sp :: .ref (pg_ad D a0) :: st.map (pg_tr D))) rfl (by rw [hml]; exact hsz) (rest := st.map (pg_tr D)) rfl (by rw [hb]; exact hd) (by omega) (by
        have hz : nativeFrameWords "java/lang/System" "arraycopy" 5 + 11 + 8 ≤ 60 := by decide
        show 2 * 0 + _ + _ ≤ _
        omega)
    have ec : copied (arrV (pg_cA D 22) (pg_k h a0).2 (pg_V D h a0)) (arrV (pg_cA D 22) (pg_k h a).2 (pg_V D h a)) sp dp n = arrV (pg_cA D 22) (pg_k h a).2 (va_cpy (pg_V D h a0) (pg_V D h a) sp.toNatClampNeg dp.toNatClampNeg n.toNatClampNeg) := va_copied (fun z => z) _ _ (pg_V D h a0) (pg_V D h a) h4
    rw [ec] at X' step
    have eV : pg_V D (pg_cpL h a0 sp a dp n) a = va_cpy (pg_V D h a0) (pg_V D h a) sp.toNatClampNeg dp.toNatClampNeg n.toNatClampNeg := by
      funext j
      have e3 : pg_V D (pg_cpL h a0 sp a dp n) a j = .long (pg_l (pg_cpL h a0 sp a dp n) a j) := by
        unfold pg_V
        rw [show pg_k (pg_cpL h a0 sp a dp n) = pg_k h from rfl, hk1]
        rfl
      rw [e3, show pg_l (pg_cpL h a0 sp a dp n) a = va_cpy (pg_l h a0) (pg_l h a) sp.toNatClampNeg dp.toNatClampNeg n.toNatClampNeg from if_pos rfl]
      unfold va_cpy
      split
      · rw [v0]
      · rw [v1]
    have hl : pg_ad D a < H.size := w.ad_lt a1 a2
    generalize hcl : arrV (pg_cA D 22) (pg_k h a).2 (va_cpy (pg_V D h a0) (pg_V D h a) sp.toNatClampNeg dp.toNatClampNeg n.toNatClampNeg) = cl at X' step
    have hw' : pg_World D (pg_cpL h a0 sp a dp n) (H.setIfInBounds (pg_ad D a) cl) := by
      refine w.set a1 a2 rfl rfl (fun _ _ _ => rfl) (fun r' hr' j => congrFun (if_neg hr') j) (fun _ _ _ => rfl) (by simp) (fun q hq => by simp [Array.getElem?_setIfInBounds, Ne.symm hq]) (Or.inr (Or.inl ?_))
      rw [show pg_k (pg_cpL h a0 sp a dp n) = pg_k h from rfl, hk1, eV, hcl]
      exact ⟨by decide, by decide, by simp [Array.getElem?_setIfInBounds, hl]⟩
    have hheap : ((T.setVm vm').setCell (pg_ad D a) cl).heap = H.setIfInBounds (pg_ad D a) cl := by rw [← hT]; rfl
    obtain ⟨t, t1, t2⟩ := W.cs (by simp [pg_cpL]) (by simp [pg_cpL]) (k0 _ _ hw' (fun q hq => by
      rcases List.mem_append.mp hq with z | z
      · exact hL q z
      · obtain ⟨z1, -, z2⟩ := List.mem_map.mp z
        rw [← z2]
        show pg_b D ≤ pg_ad D a
        rw [w.adr a2]
        exact Nat.le_add_right _ _)) _ hheap X'
    exact ⟨t, step t t1, t2⟩
end PGY
