section PGS
variable {l : Launch} {D : pg_D} {own : String} {cc : ByteArray} {nL : Nat} {ret : Option FieldType} {nm : String} {df dl pc pc' : Nat} {σ τ : Type} {out : σ → Option pg_pv × pg_H} {F A B : Option σ} {lv lv' : List (Nat × pg_pv)} {st st' rest rs : List pg_pv} {h : pg_H}
theorem pg_strlen {K : Int32 → Option σ} {i r : Nat} (hd : decode cc pc = .ok (.invokevirtual i, 3)) (hl : Cond.methodLink own i yJ0_length_8abf5 ∈ pg_W) (hcat : (st.map pg_cat).sum ≤ 8) (hdf : 6 ≤ df) (hdl : 200 ≤ dl) (kk : ∀ x, pg_EvF l D own cc nL ret nm df dl out (K x) (pc + 3) lv (pI x :: st) h) : pg_EvF l D own cc nL ret nm df dl out (Option.bind (pg_slen r) K) pc lv (pR r :: st) h := by
  sorry
theorem pg_strat {K : Int32 → Option σ} {i r : Nat} {j : Int32} (hd : decode cc pc = .ok (.invokevirtual i, 3)) (hl : Cond.methodLink own i yJ0_charAt_5068e ∈ pg_W) (hcat : (st.map pg_cat).sum ≤ 8) (hdf : 6 ≤ df) (hdl : 200 ≤ dl) (kk : ∀ x, pg_EvF l D own cc nL ret nm df dl out (K x) (pc + 3) lv (pI x :: st) h) : pg_EvF l D own cc nL ret nm df dl out (Option.bind (pg_sat r j) K) pc lv (pI j :: pR r :: st) h := by
  sorry
end PGS
