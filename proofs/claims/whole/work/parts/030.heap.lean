section PGW
variable {D : pg_D} {h h' : pg_H} {H H' : Heap} {r c t : Nat}
theorem pg_World.live (w : pg_World D h H) (hk : (pg_k h r).1 ≠ 0) : pg_live h r := by
  rcases Classical.em (pg_live h r) with q | q
  · exact q
  · exact absurd (by rw [w.2.2.2.2.2 r q]) hk
theorem pg_World.low (w : pg_World D h H) (hk : (pg_k h r).1 ≠ 0) (hk2 : (pg_k h r).1 ≠ 26) : 1 ≤ r ∧ r ≤ h.1 := by
  rcases w.live hk with q | ⟨q1, q2⟩
  · exact q
  · have e : pg_lim + (r - pg_lim) = r := by omega
    have z := (w.2.2.2.1.1 (r - pg_lim) (by omega)).2
    rw [e] at z
    exact absurd z hk2
theorem pg_World.obj (w : pg_World D h H) (hk : (pg_k h r).1 = c + 1) (hc : c < 13) : (1 ≤ r ∧ r ≤ h.1) ∧ ∃ q : vw_C, vwCl[c]? = some q ∧ t_OB (pg_ad D r) ((pg_G D).1 c) q.2.2 ((pg_G D).2 c) H (pg_V D h r) := by
  refine ⟨w.low (by omega) (by omega), ?_⟩
  rcases w.2.2.2.2.1 r (w.live (by omega)) with ⟨c', q, h1, h2, h3, h4⟩ | ⟨h1, -⟩ | ⟨h1, -⟩
  · have e : c' = c := by omega
    subst e
    exact ⟨q, h3, h4⟩
  · omega
  · omega
theorem pg_World.arr (w : pg_World D h H) (hk : (pg_k h r).1 = t) (h20 : 20 ≤ t) (h26 : t < 26) : (1 ≤ r ∧ r ≤ h.1) ∧ H[pg_ad D r]? = some (arrV (pg_cA D t) (pg_k h r).2 (pg_V D h r)) := by
  refine ⟨w.low (by omega) (by omega), ?_⟩
  rcases w.2.2.2.2.1 r (w.live (by omega)) with ⟨c', q, h1, h2, -⟩ | ⟨-, -, h1⟩ | ⟨h1, -⟩
  · omega
  · rw [hk] at h1
    exact h1
  · omega
theorem pg_World.fix (w : pg_World D h H) (hk : (pg_k h r).1 = 26) : (pg_lim ≤ r ∧ r < pg_lim + 3) ∧ ∃ cell : Cell, H[pg_ad D r]? = some cell ∧ cell.cls = pg_sc D (r - pg_lim) ∧ (∀ q, cell.vm ≠ .statics q) ∧ cell.vm ≠ .unknown ∧ (pg_sx D (r - pg_lim)).1 ≤ cell.slots.size ∧ cell.slots.size.toInt32 = Int32.ofNat (pg_sx D (r - pg_lim)).1 ∧ ∀ j, j < (pg_sx D (r - pg_lim)).1 → cell.slots[j]? = some (.int ((pg_sx D (r - pg_lim)).2 j)) := by
  have hl := w.live (by rw [hk]; decide)
  rcases w.2.2.2.2.1 r hl with ⟨c', q, h1, h2, -⟩ | ⟨-, h1, -⟩ | ⟨-, h0, h2⟩
  · omega
  · omega
  · refine ⟨⟨h0, ?_⟩, h2⟩
    rcases hl with q | q
    · have := w.2.1
      omega
    · exact q.2
theorem pg_World.adr (w : pg_World D h H) (h2 : r ≤ h.1) : pg_ad D r = pg_b D + (r - 1) := if_pos (Nat.lt_of_le_of_lt h2 w.2.1)
theorem pg_trR_pos (h1 : 1 ≤ r) : pg_trR D r = .ref (pg_ad D r) := if_neg (by omega)
theorem pg_V_eq (hk : pg_k h' r = pg_k h r) (hi : ∀ j, pg_i h' r j = pg_i h r j) (hl : ∀ j, pg_l h' r j = pg_l h r j) (hr : ∀ j, pg_r h' r j = pg_r h r j) : pg_V D h' r = pg_V D h r := by
  funext j
  simp only [pg_V, hk, hi, hl, hr]
theorem pg_cell.kept (q : pg_cell D h r H) (hk : pg_k h' r = pg_k h r) (hi : ∀ j, pg_i h' r j = pg_i h r j) (hl : ∀ j, pg_l h' r j = pg_l h r j) (hr : ∀ j, pg_r h' r j = pg_r h r j) (hH : H'[pg_ad D r]? = H[pg_ad D r]?) : pg_cell D h' r H' := by
  have hV : pg_V D h' r = pg_V D h r := pg_V_eq hk hi hl hr
  unfold pg_cell
  rw [hk, hV]
  rcases q with ⟨c, q, h1, h2, h3, h4⟩ | ⟨h1, h2, h3⟩ | ⟨h0, h1, cell, h2, h3, h4, h5, h6, h6', h7⟩
  · exact Or.inl ⟨c, q, h1, h2, h3, h4.kept hH⟩
  · exact Or.inr (Or.inl ⟨h1, h2, hH.trans h3⟩)
  · exact Or.inr (Or.inr ⟨h0, h1, cell, hH.trans h2, h3, h4, h5, h6, h6', h7⟩)
theorem pg_World.ad_lt (w : pg_World D h H) (h1 : 1 ≤ r) (h2 : r ≤ h.1) : pg_ad D r < H.size := by
  rw [w.adr h2, w.1]
  omega
theorem pg_World.ad_ne {r' : Nat} (w : pg_World D h H) (h1 : 1 ≤ r) (h2 : r ≤ h.1) (hl : pg_live h r') (hne : r' ≠ r) : pg_ad D r' ≠ pg_ad D r := by
  rw [w.adr h2]
  rcases hl with ⟨q1, q2⟩ | ⟨q1, q2⟩
  · rw [w.adr q2]
    omega
  · unfold pg_ad
    rw [if_neg (by omega)]
    have := (w.2.2.2.1.1 (r' - pg_lim) (by omega)).1
    omega
/-- one cell's contents change -/
theorem pg_World.set (w : pg_World D h H) (h1 : 1 ≤ r) (h2 : r ≤ h.1) (hn : h'.1 = h.1) (hk : pg_k h' = pg_k h) (hi : ∀ r', r' ≠ r → ∀ j, pg_i h' r' j = pg_i h r' j) (hl : ∀ r', r' ≠ r → ∀ j, pg_l h' r' j = pg_l h r' j) (hr : ∀ r', r' ≠ r → ∀ j, pg_r h' r' j = pg_r h r' j)
    (hs : H'.size = H.size) (ho : ∀ q, q ≠ pg_ad D r → H'[q]? = H[q]?) (hc : pg_cell D h' r H') : pg_World D h' H' := by
  have hlive : ∀ r', pg_live h' r' ↔ pg_live h r' := fun r' => by unfold pg_live; rw [hn]
  refine ⟨by rw [hs, hn]; exact w.1, by rw [hn]; exact w.2.1, fun q hq => ?_, ⟨fun k hk' => by rw [hk]; exact w.2.2.2.1.1 k hk', w.2.2.2.1.2⟩, fun r' hr' => ?_, fun r' hr' => by rw [hk]; exact w.2.2.2.2.2 r' (fun z => hr' ((hlive r').mpr z))⟩
  · rw [ho q (by rw [w.adr h2]; omega)]
    exact w.2.2.1 q hq
  · by_cases e : r' = r
    · subst e
      exact hc
    · have hl' := (hlive r').mp hr'
      exact (w.2.2.2.2.1 r' hl').kept (by rw [hk]) (hi r' e) (hl r' e) (hr r' e) (ho _ (w.ad_ne h1 h2 hl' e))
/-- a cell more -/
theorem pg_World.push (w : pg_World D h H) (hn : h'.1 = h.1 + 1) (hlim : h.1 + 1 < pg_lim) (hk : ∀ r', r' ≠ h.1 + 1 → pg_k h' r' = pg_k h r') (hi : ∀ r', r' ≠ h.1 + 1 → ∀ j, pg_i h' r' j = pg_i h r' j) (hl : ∀ r', r' ≠ h.1 + 1 → ∀ j, pg_l h' r' j = pg_l h r' j) (hr : ∀ r', r' ≠ h.1 + 1 → ∀ j, pg_r h' r' j = pg_r h r' j)
    (hs : H'.size = H.size + 1) (ho : ∀ q, q < H.size → H'[q]? = H[q]?) (hc : pg_cell D h' (h.1 + 1) H') : pg_World D h' H' := by
  have hb : pg_b D ≤ H.size := by rw [w.1]; omega
  refine ⟨by rw [hs, hn, w.1]; omega, by rw [hn]; exact hlim, fun q hq => ?_, ⟨fun k hk' => ?_, w.2.2.2.1.2⟩, fun r' hr' => ?_, fun r' hr' => ?_⟩
  · rw [ho q (by omega)]
    exact w.2.2.1 q hq
  · rw [hk _ (by omega)]
    exact w.2.2.2.1.1 k hk'
  · by_cases e : r' = h.1 + 1
    · subst e
      exact hc
    · have hl' : pg_live h r' := by
        rcases hr' with q | q
        · exact Or.inl ⟨q.1, by omega⟩
        · exact Or.inr q
      refine (w.2.2.2.2.1 r' hl').kept (hk r' e) (hi r' e) (hl r' e) (hr r' e) (ho _ ?_)
      rcases hl' with q | q
      · exact w.ad_lt q.1 q.2
      · have := (w.2.2.2.1.1 (r' - pg_lim) (by omega)).1
        unfold pg_ad
        rw [if_neg (by omega)]
        omega
  · have e : r' ≠ h.1 + 1 := fun e => hr' (Or.inl ⟨by omega, by omega⟩)
    rw [hk r' e]
    refine w.2.2.2.2.2 r' (fun z => hr' ?_)
    rcases z with q | q
    · exact Or.inl ⟨q.1, by omega⟩
    · exact Or.inr q
end PGW
/-! the heap's own operations -/
def pg_up2 {α : Type} (f : Nat → Nat → α) (r k : Nat) (x : α) : Nat → Nat → α := fun r' => if r' = r then (fun k' => if k' = k then x else f r k') else f r'
theorem pg_up2_ne {α : Type} {f : Nat → Nat → α} {r r' k : Nat} {x : α} (hr : r' ≠ r) (j : Nat) : pg_up2 f r k x r' j = f r' j := by
  unfold pg_up2
  rw [if_neg hr]
theorem pg_up2_at {α : Type} {f : Nat → Nat → α} {r k : Nat} {x : α} (j : Nat) : pg_up2 f r k x r j = if j = k then x else f r j := by
  unfold pg_up2
  rw [if_pos rfl]
def pg_si (h : pg_H) (r k : Nat) (x : Int32) : pg_H := (h.1, h.2.1, h.2.2.1, pg_up2 (pg_i h) r k x, h.2.2.2.2.1, h.2.2.2.2.2)
def pg_sl (h : pg_H) (r k : Nat) (x : Int64) : pg_H := (h.1, h.2.1, h.2.2.1, h.2.2.2.1, pg_up2 (pg_l h) r k x, h.2.2.2.2.2)
def pg_sr (h : pg_H) (r k : Nat) (x : Nat) : pg_H := (h.1, h.2.1, h.2.2.1, h.2.2.2.1, h.2.2.2.2.1, pg_up2 (pg_r h) r k x)
/-- the next cell, empty, of kind t and length n -/
def pg_pu (h : pg_H) (t n : Nat) : pg_H := (h.1 + 1, h.2.1 + n, (fun r => if r = h.1 + 1 then (t, n) else pg_k h r), (fun r => if r = h.1 + 1 then (fun _ => 0) else pg_i h r), (fun r => if r = h.1 + 1 then (fun _ => 0) else pg_l h r), (fun r => if r = h.1 + 1 then (fun _ => 0) else pg_r h r))
theorem pg_V_si {D : pg_D} {h : pg_H} {r k : Nat} {x : Int32} (h0 : pg_sty (pg_k h r).1 k = 0) : pg_V D (pg_si h r k x) r = updV (pg_V D h r) k (.int x) := by
  funext j
  show (if pg_sty (pg_k h r).1 j = 0 then Value.int (pg_up2 (pg_i h) r k x r j) else if pg_sty (pg_k h r).1 j = 1 then .long (pg_l h r j) else pg_trR D (pg_r h r j)) = _
  rw [pg_up2_at]
  unfold updV
  by_cases e : j = k
  · subst e
    rw [if_pos h0, if_pos rfl, if_pos rfl]
  · rw [if_neg e, if_neg e]
    rfl
theorem pg_V_sl {D : pg_D} {h : pg_H} {r k : Nat} {x : Int64} (h0 : pg_sty (pg_k h r).1 k = 1) : pg_V D (pg_sl h r k x) r = updV (pg_V D h r) k (.long x) := by
  funext j
  show (if pg_sty (pg_k h r).1 j = 0 then Value.int (pg_i h r j) else if pg_sty (pg_k h r).1 j = 1 then .long (pg_up2 (pg_l h) r k x r j) else pg_trR D (pg_r h r j)) = _
  rw [pg_up2_at]
  unfold updV
  by_cases e : j = k
  · subst e
    rw [if_neg (by rw [h0]; decide), if_pos h0, if_pos rfl, if_pos rfl]
  · rw [if_neg e, if_neg e]
    rfl
theorem pg_V_sr {D : pg_D} {h : pg_H} {r k : Nat} {x : Nat} (h0 : pg_sty (pg_k h r).1 k = 2) : pg_V D (pg_sr h r k x) r = updV (pg_V D h r) k (pg_trR D x) := by
  funext j
  show (if pg_sty (pg_k h r).1 j = 0 then Value.int (pg_i h r j) else if pg_sty (pg_k h r).1 j = 1 then .long (pg_l h r j) else pg_trR D (pg_up2 (pg_r h) r k x r j)) = _
  rw [pg_up2_at]
  unfold updV
  by_cases e : j = k
  · subst e
    rw [if_neg (by rw [h0]; decide), if_neg (by rw [h0]; decide), if_pos rfl, if_pos rfl]
  · rw [if_neg e, if_neg e]
    rfl
def pg_gI (c k : Nat) (h : pg_H) (r : Nat) : Option Int32 := if (pg_k h r).1 = c + 1 then some (pg_i h r k) else none
def pg_gL (c k : Nat) (h : pg_H) (r : Nat) : Option Int64 := if (pg_k h r).1 = c + 1 then some (pg_l h r k) else none
def pg_gR (c k : Nat) (h : pg_H) (r : Nat) : Option Nat := if (pg_k h r).1 = c + 1 then some (pg_r h r k) else none
def pg_pI (c k : Nat) (h : pg_H) (r : Nat) (x : Int32) : Option pg_H := if (pg_k h r).1 = c + 1 then some (pg_si h r k x) else none
def pg_pZ (c k : Nat) (h : pg_H) (r : Nat) (x : Int32) : Option pg_H := if (pg_k h r).1 = c + 1 ∧ (x = 0 ∨ x = 1) then some (pg_si h r k x) else none
def pg_pL (c k : Nat) (h : pg_H) (r : Nat) (x : Int64) : Option pg_H := if (pg_k h r).1 = c + 1 then some (pg_sl h r k x) else none
def pg_pR (c k : Nat) (h : pg_H) (r : Nat) (x : Nat) : Option pg_H := if (pg_k h r).1 = c + 1 then some (pg_sr h r k x) else none
def pg_in (h : pg_H) (t r : Nat) (j : Int32) : Prop := (pg_k h r).1 = t ∧ ¬ (j < 0 ∨ (pg_k h r).2 ≤ j.toNatClampNeg)
theorem pg_in_eq (h : pg_H) (t r : Nat) (j : Int32) : pg_in h t r j = ((pg_k h r).1 = t ∧ ¬ (j < 0 ∨ (pg_k h r).2 ≤ j.toNatClampNeg)) := rfl
def pg_aI (t : Nat) (h : pg_H) (r : Nat) (j : Int32) : Option Int32 := if (pg_k h r).1 = t ∧ ¬ (j < 0 ∨ (pg_k h r).2 ≤ j.toNatClampNeg) then some (pg_i h r j.toNatClampNeg) else none
def pg_aL (h : pg_H) (r : Nat) (j : Int32) : Option Int64 := if (pg_k h r).1 = 22 ∧ ¬ (j < 0 ∨ (pg_k h r).2 ≤ j.toNatClampNeg) then some (pg_l h r j.toNatClampNeg) else none
def pg_aR (t : Nat) (h : pg_H) (r : Nat) (j : Int32) : Option Nat := if (pg_k h r).1 = t ∧ ¬ (j < 0 ∨ (pg_k h r).2 ≤ j.toNatClampNeg) then some (pg_r h r j.toNatClampNeg) else none
/-- what an array of kind t keeps of x -/
def pg_nar (t : Nat) (x : Int32) : Int32 := if t = 20 then x.toInt8.toInt32 else if t = 23 then (x &&& 1) else x
def pg_sI (t : Nat) (h : pg_H) (r : Nat) (j x : Int32) : Option pg_H := if (pg_k h r).1 = t ∧ ¬ (j < 0 ∨ (pg_k h r).2 ≤ j.toNatClampNeg) then some (pg_si h r j.toNatClampNeg (pg_nar t x)) else none
def pg_sL (h : pg_H) (r : Nat) (j : Int32) (x : Int64) : Option pg_H := if (pg_k h r).1 = 22 ∧ ¬ (j < 0 ∨ (pg_k h r).2 ≤ j.toNatClampNeg) then some (pg_sl h r j.toNatClampNeg x) else none
/-- x null or an object of class c -/
def pg_sR (t c : Nat) (h : pg_H) (r : Nat) (j : Int32) (x : Nat) : Option pg_H := if (pg_k h r).1 = t ∧ ¬ (j < 0 ∨ (pg_k h r).2 ≤ j.toNatClampNeg) ∧ (x = 0 ∨ (pg_k h x).1 = c + 1) then some (pg_sr h r j.toNatClampNeg x) else none
def pg_len (h : pg_H) (r : Nat) : Option Int32 := if 20 ≤ (pg_k h r).1 ∧ (pg_k h r).1 < 26 then some (Int32.ofNat (pg_k h r).2) else none
def pg_new (c n : Nat) (h : pg_H) : Option (Nat × pg_H) := if h.1 + 1 < pg_lim then some (h.1 + 1, pg_pu h (c + 1) n) else none
def pg_newA (t : Nat) (h : pg_H) (m : Int32) : Option (Nat × pg_H) := if h.1 + 1 < pg_lim ∧ ¬ m < 0 ∧ m.toNatClampNeg ≤ 67108864 then some (h.1 + 1, pg_pu h t m.toNatClampNeg) else none
/-- the receiver is an object of class c -/
def pg_rcv {τ : Type} (c : Nat) (h : pg_H) (r : Nat) (G : Option τ) : Option τ := if (pg_k h r).1 = c + 1 then G else none
