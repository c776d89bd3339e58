/-! THE CLAIM OUT OF ONE WALK OF THE LAW'S BODY. Your part is whole_start (and what it stands on); all else here is the same for every law, but numbers. -/
def R_law : String := "SkyMarginsLaw"
def lw_P (b : Addr) (xs : List Int32) (args : Array Value) (s : State) : Prop := args = #[.ref b] ∧ s.IntsAt b xs ∧ xs.length ≤ 3072 ∧ (Jvm.Cond.and given_1 narrow_1).before args s = true
def lw_Q (_ : Array Value) (s : State) (o : Outcome) (t : State) : Prop := o = .returned (some (.int 1)) ∧ Framed s o t [] 600000 7302250
def lw_Z (below : List Frame) (a : Array Value) (s : State) : State → Prop := fun t => ∃ o, t.status = .running ∧ Ended t below o ∧ lw_Q a s o t
/-- the law's own end, with 1 on the stack, nothing written that was there before, its room as the claim has it -/
theorem lw_ret {p : Program} {l : Launch} {e : Env} {s : State} {m : MethodId} {below : List Frame} {meth : Method} {c : Code} {b : Nat} (hx : p.tables.exec = Jvm.exec) (hb : c.code = code) (hr : meth.sig.returnType = ret) (hlocks : meth.locks = false) {pc : Nat} {H : Heap} {ls : Array Slot} (hdg : decode code pc = .ok (.ireturn, 1)) : W p l e room_1 s m #[Value.ref b] below meth c H [] 600000 7302250 (lw_Z below #[Value.ref b] s) (F0 m pc ls [.int 1]) := by
  intro T hT X
  obtain ⟨fs, hret, hrun, hended, hW, hframe⟩ := X.leave (v := some (.int 1)) (hlocks := hlocks) (fun h => by rw [hr] at h; cases h)
  have hmeth' : T.vm.method? m = some meth := X.method'
  refine ⟨T.setFrames fs, ?_, .returned (some (.int 1)), hrun, hended, rfl, ⟨_, rfl⟩, hW, hframe⟩
  jvm_step X.here [X.here.top, hx, hb, hdg, hmeth', hr, ret, narrow_b1]
  (try refine ⟨rfl, ?_⟩); (try refine ⟨rfl, ?_⟩)
  first | (intro acts; rw [hret _ acts rfl rfl rfl]) | rw [hret _ _ rfl rfl rfl]
  exact Steps.refl _
/-- what holds at the law's entry: the machine, the code, the tables' words (any of lw_tbl by 'hts w (by decide +kernel)'), the script of L ints xs at the cell b, what the Statement gives of the start (any of its parts by flat_of_before) -/
def lw_At (p : Program) (s : State) (m : MethodId) (meth : Method) (c : Code) (b L : Nat) (xs : Nat → Int32) : Prop :=
  p.tables.exec = Jvm.exec ∧ c.code = code ∧ meth.sig.returnType = ret ∧ c.maxLocals = 4 ∧ s.vm.findClass R_law = some m.cls ∧ (∀ w ∈ lw_tbl, w.before #[Value.ref b] s = true) ∧ va_X b L xs s s.heap ∧ b < s.heap.size ∧ meth.locks = false ∧ (Jvm.Cond.and given_1 narrow_1).before #[Value.ref b] s = true

def pg_h0 : pg_H := (0, 0, (fun r => if r = pg_lim then (26, 0) else if r = pg_lim + 1 then (26, 0) else if r = pg_lim + 2 then (26, 0) else (0, 0)), (fun _ _ => 0), (fun _ _ => 0), (fun _ _ => 0))
/-- WHAT IS LEFT: the law's function answers 1, in its room -/
def pg_Law : Prop := ∀ (L : Nat) (xs : Nat → Int32), L ≤ 3072 → ∃ hf : pg_H, F_L_law (L, xs) pg_lim pg_h0 = some (1, hf) ∧ hf.1 ≤ 600000 ∧ hf.2.1 ≤ 7302250
theorem pg_inst : ∀ (k : Nat) (r : vw_C), vwCl[k]? = some r → ∃ n, Cond.instantiable r.1 n ∈ pg_W
  | 0, _, h => by cases h; exact ⟨3, tb_1 (i := 170) rfl rfl⟩
  | 1, _, h => by cases h; exact ⟨2, tb_2 (i := 21) rfl rfl⟩
  | 2, _, h => by cases h; exact ⟨5, tb_2 (i := 15) rfl rfl⟩
  | 3, _, h => by cases h; exact ⟨9, tb_1 (i := 136) rfl rfl⟩
  | 4, _, h => by cases h; exact ⟨9, tb_1 (i := 187) rfl rfl⟩
  | 5, _, h => by cases h; exact ⟨9, tb_1 (i := 32) rfl rfl⟩
  | 6, _, h => by cases h; exact ⟨9, tb_1 (i := 221) rfl rfl⟩
  | 7, _, h => by cases h; exact ⟨4, tb_1 (i := 38) rfl rfl⟩
  | 8, _, h => by cases h; exact ⟨2, tb_1 (i := 121) rfl rfl⟩
  | 9, _, h => by cases h; exact ⟨1, tb_3 (i := 232) rfl rfl⟩
  | 10, _, h => by cases h; exact ⟨6, tb_2 (i := 50) rfl rfl⟩
  | 11, _, h => by cases h; exact ⟨16, tb_1 (i := 24) rfl rfl⟩
  | 12, _, h => by cases h; exact ⟨46, tb_6 (i := 30) rfl rfl⟩
  | n + 13, _, h => by simp [vwCl] at h
theorem pg_framed {s t : State} {o : Outcome} {L : List Loc} {k n : Nat} (h : FrameEnd s o t L k n) (hL : ∀ q ∈ L, s.heap.size ≤ q.base) : Framed s o t [] k n := by
  obtain ⟨h1, h2, a1, a2, a3, a4, a5, a6⟩ := h
  refine ⟨h1, h2, a1, a2, a3, a4, a5, fun a c hc => ?_⟩
  obtain ⟨c', b1, b2, b3, b4⟩ := a6 a c hc
  refine ⟨c', b1, b2, b3, fun i _ => b4 i fun hm => ?_⟩
  have z : s.heap.size ≤ a := hL _ hm
  have z2 : a < s.heap.size := (Array.getElem?_eq_some_iff.mp hc).1
  exact absurd z2 (Nat.not_lt.mpr z)
theorem pg_prim {args : Array Value} {s : State} {ty : FieldType} (hp : ty = .int ∨ ty = .long ∨ ty = .boolean ∨ ty = .byte) (h : (Cond.arrayClass ty).before args s = true) : ∃ cA : ClassId, ArrOfT s cA ty ∧ va_RA s cA ty := by
  obtain ⟨cA, kA, comp, hfind, hk, hkind⟩ := Cond.arrayClass_spec h
  refine ⟨cA, fun n z => ⟨(fun k h => by cases h), kA, hk, comp, hkind⟩, ?_⟩
  rcases hp with rfl | rfl | rfl | rfl <;> exact hfind
theorem pg_over {args : Array Value} {s : State} {C : String} (h : (Cond.arrayOver (.object C)).before args s = true) : ∃ cA : ClassId, ArrOfT s cA (.object C) ∧ va_RA s cA (.object C) := by
  obtain ⟨comp, cA, kA, h1, h2, h3, h4, h5⟩ := Cond.arrayOver_spec h
  exact ⟨cA, fun n z => ⟨(fun k h => by cases h), kA, h3, comp, h4⟩, kA, comp, h3, h4, h1, h5⟩
theorem pg_fl1 : Cond.arrayOf (.static "SkyMargins" "TERM_LEAST" "[I") .int ∈ flatC (Jvm.Cond.and given_1 narrow_1) := by decide +kernel
theorem pg_fl2 : Cond.eq (.length (.static "SkyMargins" "TERM_LEAST" "[I")) (.int 4) ∈ flatC (Jvm.Cond.and given_1 narrow_1) := by decide +kernel
theorem pg_fl3 : ∀ j, j < 4 → Cond.eq (.elem (.static "SkyMargins" "TERM_LEAST" "[I") (.int (Int32.ofNat j))) (.int (([1, 0, 1, 0] : List Int32).getD j 0)) ∈ flatC (Jvm.Cond.and given_1 narrow_1) := by decide +kernel
theorem pg_fl4 : Cond.arrayOf (.static "SkyMargins" "TERM_MOST" "[I") .int ∈ flatC (Jvm.Cond.and given_1 narrow_1) := by decide +kernel
theorem pg_fl5 : Cond.eq (.length (.static "SkyMargins" "TERM_MOST" "[I")) (.int 4) ∈ flatC (Jvm.Cond.and given_1 narrow_1) := by decide +kernel
theorem pg_fl6 : ∀ j, j < 4 → Cond.eq (.elem (.static "SkyMargins" "TERM_MOST" "[I") (.int (Int32.ofNat j))) (.int (([9, 9, 9, 1000] : List Int32).getD j 0)) ∈ flatC (Jvm.Cond.and given_1 narrow_1) := by decide +kernel
theorem pg_fl7 : Cond.exactly (.string "SkyMargins$Parser" 116) "java/lang/String" ∈ flatC (Jvm.Cond.and given_1 narrow_1) := by decide +kernel
theorem pg_fl8 : Cond.eq (.field (.string "SkyMargins$Parser" 116) "java/lang/String" "coder" "B") (.int 0) ∈ flatC (Jvm.Cond.and given_1 narrow_1) := by decide +kernel
theorem pg_fl9 : Cond.arrayOf (.field (.string "SkyMargins$Parser" 116) "java/lang/String" "value" "[B") .byte ∈ flatC (Jvm.Cond.and given_1 narrow_1) := by decide +kernel
theorem pg_fl10 : Cond.eq (.length (.field (.string "SkyMargins$Parser" 116) "java/lang/String" "value" "[B")) (.int 114) ∈ flatC (Jvm.Cond.and given_1 narrow_1) := by decide +kernel
theorem pg_fl11 : ∀ j, j < 114 → Cond.eq (.elem (.field (.string "SkyMargins$Parser" 116) "java/lang/String" "value" "[B") (.int (Int32.ofNat j))) (.int (pg_bJ.getD j 0)) ∈ flatC (Jvm.Cond.and given_1 narrow_1) := by decide +kernel
theorem pg_fl12 : Cond.eq (.static "java/lang/String" "COMPACT_STRINGS" "Z") (.int 1) ∈ flatC (Jvm.Cond.and given_1 narrow_1) := by decide +kernel
theorem pg_fl13 : Cond.isRef (.static "jdk/internal/util/Preconditions" "SIOOBE_FORMATTER" "Ljava/util/function/BiFunction;") ∈ flatC (Jvm.Cond.and given_1 narrow_1) := by decide +kernel
/-- the launch's tables, as data -/
theorem pg_begin {s : State} {args : Array Value} {b L : Nat} {xs : Nat → Int32} (hts : ∀ w ∈ lw_tbl, w.before args s = true) (hX : va_X b L xs s s.heap) (hgv : (Jvm.Cond.and given_1 narrow_1).before args s = true) : ∃ D : pg_D, pg_b D = s.heap.size ∧ pg_sa D 0 = b ∧ pg_K D s ∧ pg_sx D 0 = (L, xs) ∧ pg_World D pg_h0 s.heap := by
  have hA : ∀ a : Nat, a < s.heap.size → ¬ (fun q : Nat => s.heap.size ≤ q) a := fun a h1 h2 => by
    have : s.heap.size ≤ a := h2
    omega
  have hts' : ∀ w ∈ pg_W, w.before args s = true := fun w h => hts w (List.mem_filter.mp h).1
  have hfl := flat_of_before _ hgv
  obtain ⟨f, hf⟩ := Classical.axiomOfChoice (show ∀ k : Nat, ∃ q : ClassId × (Nat → Nat), ∀ r : vw_C, vwCl[k]? = some r → u_Kn s r.1 r.2.1 r.2.2 q.1 q.2 from fun k => by
    cases hk : vwCl[k]? with
    | none => exact ⟨(0, fun _ => 0), fun r h => by cases h⟩
    | some r =>
      obtain ⟨n, hn⟩ := pg_inst k r hk
      obtain ⟨cC, iS, h⟩ := u_known (n := n) hts' (pg_cls k r hk).1 (hts' _ hn)
      exact ⟨(cC, iS), fun r' h' => by cases h'; exact h⟩)
  obtain ⟨ca, hca⟩ := Classical.axiomOfChoice (show ∀ t : Nat, ∃ cA : ClassId, 20 ≤ t → t < 26 → ArrOfT s cA (pg_aty t) ∧ va_RA s cA (pg_aty t) from fun t => by
    by_cases h : 20 ≤ t ∧ t < 26
    · have h6 : t = 20 ∨ t = 21 ∨ t = 22 ∨ t = 23 ∨ t = 24 ∨ t = 25 := by omega
      rcases h6 with rfl | rfl | rfl | rfl | rfl | rfl
      · obtain ⟨cA, h⟩ := pg_prim (ty := .byte) (by simp) (hts' _ pw_arr_byte); exact ⟨cA, fun _ _ => h⟩
      · obtain ⟨cA, h⟩ := pg_prim (ty := .int) (by simp) (hts' _ pw_arr_int); exact ⟨cA, fun _ _ => h⟩
      · obtain ⟨cA, h⟩ := pg_prim (ty := .long) (by simp) (hts' _ pw_arr_long); exact ⟨cA, fun _ _ => h⟩
      · obtain ⟨cA, h⟩ := pg_prim (ty := .boolean) (by simp) (hts' _ pw_arr_boolean); exact ⟨cA, fun _ _ => h⟩
      · obtain ⟨cA, h⟩ := pg_over (hts _ (tc_1 (i := 119) rfl)); exact ⟨cA, fun _ _ => h⟩
      · obtain ⟨cA, h⟩ := pg_over (hts _ (tc_1 (i := 61) rfl)); exact ⟨cA, fun _ _ => h⟩
    · exact ⟨0, fun h1 h2 => absurd ⟨h1, h2⟩ h⟩)
  obtain ⟨scr, x1, x2, x3, x4, x5⟩ := hX
  obtain ⟨t1, e1, T1⟩ := va_Tof (tm := .static "SkyMargins" "TERM_LEAST" "[I") (ty := .int) (N := 4) (f := fun j => .int (([1, 0, 1, 0] : List Int32).getD j 0)) (A := fun q : Nat => s.heap.size ≤ q) (by decide) (hfl _ pg_fl1) (va_eqt (hfl _ pg_fl2)) (fun j hj => va_eqt (hfl _ (pg_fl3 j hj))) hA
  obtain ⟨t2, e2, T2⟩ := va_Tof (tm := .static "SkyMargins" "TERM_MOST" "[I") (ty := .int) (N := 4) (f := fun j => .int (([9, 9, 9, 1000] : List Int32).getD j 0)) (A := fun q : Nat => s.heap.size ≤ q) (by decide) (hfl _ pg_fl4) (va_eqt (hfl _ pg_fl5)) (fun j hj => va_eqt (hfl _ (pg_fl6 j hj))) hA
  have Z1 := va_Zof (hts _ (tc_3 (i := 58) rfl)) (hts _ (tc_1 (i := 1) rfl)) e1 hA
  have Z2 := va_Zof (hts _ (tc_3 (i := 60) rfl)) (hts _ (tc_1 (i := 1) rfl)) e2 hA
  have h0 : ∀ i : Nat, i < 1 → i = 0 := by omega
  obtain ⟨adK, adV, hS, hE⟩ := vk_Sof (args := args) (s := s) (N := 1) (tm := fun _ => .string "SkyMargins$Parser" 116) (len := [114]) (byt := [pg_bJ]) (A := fun q : Nat => s.heap.size ≤ q) (fun i hi => by rw [h0 i hi]; decide) (fun i hi => hfl _ pg_fl7) (fun i hi => hfl _ pg_fl8) (fun i hi => hfl _ pg_fl9)
    (fun i hi => by rw [h0 i hi]; exact hfl _ pg_fl10) (fun i hi j hj => by rw [h0 i hi] at hj ⊢; exact hfl _ (pg_fl11 j hj)) (fun i j hi hj h => by omega) hA
  have Z3 := va_Zof (hts _ (tc_3 (i := 136) rfl)) (hts _ (tc_1 (i := 16) rfl)) (va_eqi (hfl _ pg_fl12)) hA
  have Z4 := va_Zqof (hts _ (tc_3 (i := 152) rfl)) (hts _ (tc_1 (i := 18) rfl)) (hfl _ pg_fl13) hA
  obtain ⟨T1c, p1, p2, p3, p4, p5, p6, p7⟩ := T1
  obtain ⟨T2c, r1, r2, r3, r4, r5, r6, r7⟩ := T2
  have key : ∀ (q5 z6 : Nat), va_Z "jdk/internal/util/Preconditions" "SIOOBE_FORMATTER" "Ljava/util/function/BiFunction;" (if z6 = 0 then .null else .ref q5) (fun q : Nat => s.heap.size ≤ q) s s.heap → (z6 = 0 ∨ z6 = pg_lim + 5) → ∃ D : pg_D, pg_b D = s.heap.size ∧ pg_sa D 0 = b ∧ pg_K D s ∧ pg_sx D 0 = (L, xs) ∧ pg_World D pg_h0 s.heap := by
    intro q5 z6 Z4 hz
    refine ⟨(s.heap.size, s.heap, (fun k => (f k).1), (fun k => (f k).2), ca, (fun k => if k = 0 then b else if k = 1 then t1 else if k = 2 then t2 else if k = 3 then adK 0 else if k = 4 then adV 0 else if k = 5 then q5 else z6), (fun k => if k = 0 then scr.cls else if k = 1 then T1c.cls else T2c.cls), (fun k => if k = 0 then (L, xs) else if k = 1 then pg_least else pg_most)), rfl, rfl, ?_, rfl, ?_⟩
    · refine ⟨⟨fun k r hk => hf k r hk, fun k q h => by simp at h⟩, fun t h1 h2 => hca t h1 h2, fun k hk => ?_, Z1, Z2, ?_, vk_R.of (hts _ (tc_3 (i := 126) rfl)) (hE 0 (by decide)), Z3, ?_, ?_⟩
      · have h3 : k = 0 ∨ k = 1 ∨ k = 2 := by omega
        rcases h3 with rfl | rfl | rfl
        · obtain ⟨-, k', hk', comp, hkk⟩ := x2
          exact fun n z => ⟨(fun q h => by cases h), k', hk', comp, hkk⟩
        · obtain ⟨-, k', hk', comp, hkk⟩ := p2
          exact fun n z => ⟨(fun q h => by cases h), k', hk', comp, hkk⟩
        · obtain ⟨-, k', hk', comp, hkk⟩ := r2
          exact fun n z => ⟨(fun q h => by cases h), k', hk', comp, hkk⟩
      · refine ⟨fun i hi => ?_, fun i j hi hj _ => by omega⟩
        have e : i = 0 := by omega
        subst e
        exact hS.1 0 hi
      · have e : pg_trR ((s.heap.size, s.heap, (fun k => (f k).1), (fun k => (f k).2), ca, (fun k => if k = 0 then b else if k = 1 then t1 else if k = 2 then t2 else if k = 3 then adK 0 else if k = 4 then adV 0 else if k = 5 then q5 else z6), (fun k => if k = 0 then scr.cls else if k = 1 then T1c.cls else T2c.cls), (fun k => if k = 0 then (L, xs) else if k = 1 then pg_least else pg_most)) : pg_D) z6 = (if z6 = 0 then .null else .ref q5) := by
          unfold pg_trR
          rcases hz with rfl | rfl
          · rfl
          · rw [if_neg (by decide), if_neg (by decide)]
            unfold pg_ad
            rw [if_neg (by decide), Nat.add_sub_cancel_left]
            rfl
        show va_Z _ _ _ (pg_trR _ z6) _ _ _
        rw [e]
        exact Z4
      · exact ⟨fun a i x g h => va_Nw.of rfl (hts _ h), fun a i b n d g h => va_Nw.of rfl (hts _ h), va_AO.of (hts _ (tc_1 (i := 119) rfl)), va_AO.of (hts _ (tc_1 (i := 61) rfl))⟩
    · have hk : ∀ r, pg_k pg_h0 r = if r = pg_lim then (26, 0) else if r = pg_lim + 1 then (26, 0) else if r = pg_lim + 2 then (26, 0) else (0, 0) := fun r => rfl
      have lt0 : b < s.heap.size := (Array.getElem?_eq_some_iff.mp x1).1
      have lt1 : t1 < s.heap.size := (Array.getElem?_eq_some_iff.mp p1).1
      have lt2 : t2 < s.heap.size := (Array.getElem?_eq_some_iff.mp r1).1
      refine ⟨rfl, by show 0 < pg_lim; decide, fun q _ => rfl, ⟨fun k hk3 => ?_, rfl, rfl⟩, fun r hr => ?_, fun r hr => ?_⟩
      · have h3 : k = 0 ∨ k = 1 ∨ k = 2 := by omega
        rcases h3 with rfl | rfl | rfl
        · exact ⟨lt0, by rw [hk, if_pos rfl]⟩
        · exact ⟨lt1, by rw [hk, if_neg (by decide), if_pos rfl]⟩
        · exact ⟨lt2, by rw [hk, if_neg (by decide), if_neg (by decide), if_pos rfl]⟩
      · rcases hr with ⟨h1, h2⟩ | ⟨h1, h2⟩
        · exact absurd h2 (by show ¬ r ≤ 0; omega)
        · have h3 : r = pg_lim ∨ r = pg_lim + 1 ∨ r = pg_lim + 2 := by omega
          refine Or.inr (Or.inr ?_)
          rcases h3 with rfl | rfl | rfl
          · exact ⟨by rw [hk, if_pos rfl], h1, scr, x1, rfl, x2.1, x3, by show L ≤ _; rw [x4]; exact Nat.le_refl _, by show _ = Int32.ofNat L; rw [x4], x5⟩
          · exact ⟨by rw [hk, if_neg (by decide), if_pos rfl], h1, T1c, p1, rfl, p2.1, p3, p4, p5, p6⟩
          · exact ⟨by rw [hk, if_neg (by decide), if_neg (by decide), if_pos rfl], h1, T2c, r1, rfl, r2.1, r3, r4, r5, r6⟩
      · have h3 : ¬ (pg_lim ≤ r ∧ r < pg_lim + 3) := fun z => hr (Or.inr z)
        rw [hk, if_neg (by omega), if_neg (by omega), if_neg (by omega)]
  rcases Z4 with Z4 | ⟨t, Z4⟩
  · exact key 0 0 (by rw [if_pos rfl]; exact Z4) (Or.inl rfl)
  · exact key t (pg_lim + 5) (by rw [if_neg (by decide)]; exact Z4) (Or.inr rfl)
/-- the claim's walk, given what is left -/
theorem pg_start (hlaw : pg_Law) {p : Program} {e : Env} {s : State} {m : MethodId} {below : List Frame} {meth : Method} {c : Code} (l : Launch) {b L : Nat} {xs : Nat → Int32} (hL : L ≤ 3072) (C0 : lw_At p s m meth c b L xs) : W p l e room_1 s m #[Value.ref b] below meth c s.heap [] 0 0 (lw_Z below #[Value.ref b] s) (entryFrame m ([Value.ref b] : List Value).toArray 4) := by
  obtain ⟨hx, hb, hr, hml, hown, hts, hX, hbl, hlocks, hgv⟩ := id C0
  obtain ⟨D, hD1, hD2, hK, hD3, hW⟩ := pg_begin hts hX hgv
  obtain ⟨hf, hp, hc, hs⟩ := hlaw L xs hL
  obtain ⟨-, hev⟩ := e_L_law l D meth.name (L, xs) hD3 pg_lim pg_h0 (1, hf) hp
  have hl := lv_entry ([.ref b]) (n := 4) (Nat.le_of_ble_eq_true rfl)
  rw [lg_entry_eq]
  generalize (lg_sl ([.ref b]) ++ List.replicate (4 - (lg_sl ([.ref b])).length) Slot.unset).toArray = ls at hl ⊢
  have hl2 : lv_has ls 4 (([(0, pR pg_lim)] : List (Nat × pg_pv)).map (pg_tq D)) := by
    have e2 : pg_trR D pg_lim = .ref b := by
      unfold pg_trR pg_ad
      rw [if_neg (by decide), if_neg (by decide), Nat.sub_self, hD2]
    show lv_has ls 4 [(0, pg_trR D pg_lim)]
    rw [e2]
    exact hl
  have hts' : ∀ w ∈ pg_W, w.before #[Value.ref b] s = true := fun w h => hts w (List.mem_filter.mp h).1
  have k := hev p e room_1 s m #[Value.ref b] below meth c ⟨hx, hb, hml, hown, hr, hlocks, rfl, hts', hK, by decide, by decide⟩ s.heap [] ls 0 0 600000 7302250 ⟨hW, hl2, fun _ h => by cases h⟩ (by show 0 + (hf.1 - 0) ≤ 600000; omega) (by show 0 + (hf.2.1 - 0) ≤ 7302250; omega) (Nat.le_refl _) (Nat.le_refl _)
  intro T hT X
  obtain ⟨t, st, o, r1, r2, ⟨ho, -⟩, L', hF, hL'⟩ := k T hT X
  refine ⟨t, st, o, r1, r2, ho, pg_framed hF fun q hq => ?_⟩
  have := hL' q hq
  rw [← hD1]
  exact this
