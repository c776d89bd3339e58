/-! THE LAW OUT OF A SIMULATION (wip/gen/lawsim.py): class at 1, reference at 81, both in one heap -/
theorem lay_k {h : pg_H} (L : Lay h) {r : Nat} (hr : r < 110) : pg_k h r = layK.getD r (0, 0) := L.2.1 r hr
theorem rcv1 {τ : Type} {h : pg_H} (L : Lay h) (G : Option τ) : pg_rcv 11 h 1 G = G := by
  unfold pg_rcv
  rw [lay_k L (by decide)]
  rfl
theorem rcv2 {τ : Type} {h : pg_H} (L : Lay h) (G : Option τ) : pg_rcv 12 h 81 G = G := by
  unfold pg_rcv
  rw [lay_k L (by decide)]
  rfl
/-- room that one call may take -/
def Few (h h' : pg_H) : Prop := h.1 ≤ h'.1 ∧ h'.1 ≤ h.1 + 2 ∧ h'.2.1 ≤ h.2.1 + 500
def Sim_copy (Inv : Nat → pg_H → Prop) : Prop := ∀ (x1 x2 : Int32) (q : Nat) (h : pg_H), q ≤ 600 → Inv q h → ∃ (v : Int32) (h1 : pg_H) (h2 : pg_H), F_X11_copy 1 x1 x2 h = some (v, h1) ∧ Lay h1 ∧ F_X12_copy 81 x1 x2 h1 = some (v, h2) ∧ Inv (q + 1) h2 ∧ Few h h2
def Sim_look (Inv : Nat → pg_H → Prop) : Prop := ∀ (x1 x2 : Int32) (q : Nat) (h : pg_H), q ≤ 600 → Inv q h → ∃ (v : Int32) (h1 : pg_H) (h2 : pg_H), F_X11_look 1 x1 x2 h = some (v, h1) ∧ Lay h1 ∧ F_X12_look 81 x1 x2 h1 = some (v, h2) ∧ Inv (q + 1) h2 ∧ Few h h2
def Sim_stay (Inv : Nat → pg_H → Prop) : Prop := ∀ (x1 x2 x3 x4 : Int32) (q : Nat) (h : pg_H), q ≤ 600 → Inv q h → ∃ (v : Int32) (h1 : pg_H) (h2 : pg_H), F_X11_stay 1 x1 x2 x3 x4 h = some (v, h1) ∧ Lay h1 ∧ F_X12_stay 81 x1 x2 x3 x4 h1 = some (v, h2) ∧ Inv (q + 1) h2 ∧ Few h h2
def Sim_hand (Inv : Nat → pg_H → Prop) : Prop := ∀ (x1 x2 : Int32) (q : Nat) (h : pg_H), q ≤ 600 → Inv q h → ∃ (v : Int32) (h1 : pg_H) (h2 : pg_H), F_X11_hand 1 x1 x2 h = some (v, h1) ∧ Lay h1 ∧ F_X12_hand 81 x1 x2 h1 = some (v, h2) ∧ Inv (q + 1) h2 ∧ Few h h2
def Sim_form (Inv : Nat → pg_H → Prop) : Prop := ∀ (x1 x2 x3 : Int32) (q : Nat) (h : pg_H), q ≤ 600 → Inv q h → ∃ (v : Int32) (h1 : pg_H) (h2 : pg_H), F_X11_form 1 x1 x2 x3 h = some (v, h1) ∧ Lay h1 ∧ F_X12_form 81 x1 x2 x3 h1 = some (v, h2) ∧ Inv (q + 1) h2 ∧ Few h h2
def Sim_sample (Inv : Nat → pg_H → Prop) : Prop := ∀ (x1 x2 x3 : Int32) (q : Nat) (h : pg_H), q ≤ 600 → Inv q h → ∃ (v : Int32) (h1 : pg_H) (h2 : pg_H), F_X11_sample 1 x1 x2 x3 h = some (v, h1) ∧ Lay h1 ∧ F_X12_sample 81 x1 x2 x3 h1 = some (v, h2) ∧ Inv (q + 1) h2 ∧ Few h h2
def Sim_note (Inv : Nat → pg_H → Prop) : Prop := ∀ (x1 x2 x3 x4 x5 : Int32) (q : Nat) (h : pg_H), q ≤ 600 → Inv q h → ∃ (v : Int32) (h1 : pg_H) (h2 : pg_H), F_X11_note 1 x1 x2 x3 x4 x5 h = some (v, h1) ∧ Lay h1 ∧ F_X12_note 81 x1 x2 x3 x4 x5 h1 = some (v, h2) ∧ Inv (q + 1) h2 ∧ Few h h2
def Sim_of (Inv : Nat → pg_H → Prop) : Prop := ∀ (x1 x2 : Int32) (q : Nat) (h : pg_H), q ≤ 600 → Inv q h → ∃ (v : Int32) (h1 : pg_H), F_X11_of 1 x1 x2 h = some (v, h1) ∧ Lay h1 ∧ F_X12_of h1 81 x1 x2 = some v ∧ Inv (q + 1) h1 ∧ Few h h1
def Sim_terms (Inv : Nat → pg_H → Prop) : Prop := ∀ (x1 x2 : Int32) (q : Nat) (h : pg_H), q ≤ 600 → Inv q h → ∃ (v : Int32) (h1 : pg_H) (h2 : pg_H), F_X11_terms 1 x1 x2 h = some (v, h1) ∧ Lay h1 ∧ F_X12_terms 81 x1 x2 h1 = some (v, h2) ∧ Inv (q + 1) h2 ∧ Few h h2
def Sim_feed (Inv : Nat → pg_H → Prop) : Prop := ∀ (x1 x2 x3 x4 x5 : Int32) (q : Nat) (h : pg_H), q ≤ 600 → Inv q h → ∃ (v : Int32) (h1 : pg_H) (h2 : pg_H), F_X11_feed 1 x1 x2 x3 x4 x5 h = some (v, h1) ∧ Lay h1 ∧ F_X12_feed 81 x1 x2 x3 x4 x5 h1 = some (v, h2) ∧ Inv (q + 1) h2 ∧ Few h h2
def Sim_end (Inv : Nat → pg_H → Prop) : Prop := ∀ (x1 : Int32) (q : Nat) (h : pg_H), q ≤ 600 → Inv q h → ∃ (v : Int32) (h1 : pg_H) (h2 : pg_H), F_X11_end 1 x1 h = some (v, h1) ∧ Lay h1 ∧ F_X12_end 81 x1 h1 = some (v, h2) ∧ Inv (q + 1) h2 ∧ Few h h2
def Sim_row (Inv : Nat → pg_H → Prop) : Prop := ∀ (x1 : Int32) (q : Nat) (h : pg_H), q ≤ 600 → Inv q h → ∃ (v : Int32) (h1 : pg_H) (h2 : pg_H), F_X11_row 1 x1 h = some (v, h1) ∧ Lay h1 ∧ F_X12_row 81 x1 h1 = some (v, h2) ∧ Inv (q + 1) h2 ∧ Few h h2
def Sim_trimmed (Inv : Nat → pg_H → Prop) : Prop := ∀ (q : Nat) (h : pg_H), q ≤ 600 → Inv q h → ∃ (v : Int32), F_X11_trimmed h 1 = some v ∧ Lay h ∧ F_X12_trimmed h 81 = some v ∧ Inv (q + 1) h ∧ Few h h
def Sim_text (Inv : Nat → pg_H → Prop) : Prop := ∀ (q : Nat) (h : pg_H), q ≤ 600 → Inv q h → ∃ (v : Int32) (h1 : pg_H) (h2 : pg_H), F_X11_text 1 h = some (v, h1) ∧ Lay h1 ∧ F_X12_text 81 h1 = some (v, h2) ∧ Inv (q + 1) h2 ∧ Few h h2
def Sim_fault (Inv : Nat → pg_H → Prop) : Prop := ∀ (q : Nat) (h : pg_H), q ≤ 600 → Inv q h → ∃ (v : Int32), F_X11_fault h 1 = some v ∧ Lay h ∧ F_X12_fault h 81 = some v ∧ Inv (q + 1) h ∧ Few h h
def Sim_use (Inv : Nat → pg_H → Prop) : Prop := ∀ (x1 : Int32) (q : Nat) (h : pg_H), q ≤ 600 → Inv q h → ∃ (v : Int32) (h1 : pg_H) (h2 : pg_H), F_X11_use 1 x1 h = some (v, h1) ∧ Lay h1 ∧ F_X12_use 81 x1 h1 = some (v, h2) ∧ Inv (q + 1) h2 ∧ Few h h2
def Sim_weight (Inv : Nat → pg_H → Prop) : Prop := ∀ (x1 x2 : Int32) (q : Nat) (h : pg_H), q ≤ 600 → Inv q h → ∃ (v : Int32) (h1 : pg_H) (h2 : pg_H), F_X11_weight 1 x1 x2 h = some (v, h1) ∧ Lay h1 ∧ F_X12_weight 81 x1 x2 h1 = some (v, h2) ∧ Inv (q + 1) h2 ∧ Few h h2
def Sim_may (Inv : Nat → pg_H → Prop) : Prop := ∀ (x1 x2 : Int32) (q : Nat) (h : pg_H), q ≤ 600 → Inv q h → ∃ (v : Int32), F_X11_may h 1 x1 x2 = some v ∧ Lay h ∧ F_X12_may h 81 x1 x2 = some v ∧ Inv (q + 1) h ∧ Few h h
def Sim_cost (Inv : Nat → pg_H → Prop) : Prop := ∀ (x1 x2 : Int32) (q : Nat) (h : pg_H), q ≤ 600 → Inv q h → ∃ (v : Int32) (h1 : pg_H) (h2 : pg_H), F_X11_cost 1 x1 x2 h = some (v, h1) ∧ Lay h1 ∧ F_X12_cost 81 x1 x2 h1 = some (v, h2) ∧ Inv (q + 1) h2 ∧ Few h h2
def Sim_tree (Inv : Nat → pg_H → Prop) : Prop := ∀ (q : Nat) (h : pg_H), q ≤ 600 → Inv q h → ∃ (v : Int32) (h1 : pg_H) (h2 : pg_H), F_X11_tree 1 h = some (v, h1) ∧ Lay h1 ∧ F_X12_tree 81 h1 = some (v, h2) ∧ Inv (q + 1) h2 ∧ Few h h2
def Sim_whose (Inv : Nat → pg_H → Prop) : Prop := ∀ (x1 : Int32) (q : Nat) (h : pg_H), q ≤ 600 → Inv q h → ∃ (v : Int32) (h1 : pg_H) (h2 : pg_H), F_X11_whose 1 x1 h = some (v, h1) ∧ Lay h1 ∧ F_X12_whose 81 x1 h1 = some (v, h2) ∧ Inv (q + 1) h2 ∧ Few h h2
def Sim_sure (Inv : Nat → pg_H → Prop) : Prop := ∀ (x1 : Int32) (q : Nat) (h : pg_H), q ≤ 600 → Inv q h → ∃ (v : Int32) (h1 : pg_H) (h2 : pg_H), F_X11_sure 1 x1 h = some (v, h1) ∧ Lay h1 ∧ F_X12_sure 81 x1 h1 = some (v, h2) ∧ Inv (q + 1) h2 ∧ Few h h2
def Sim_come (Inv : Nat → pg_H → Prop) : Prop := ∀ (x1 x2 : Int32) (q : Nat) (h : pg_H), q ≤ 600 → Inv q h → ∃ (v : Int32) (h1 : pg_H) (h2 : pg_H), F_X11_come 1 x1 x2 h = some (v, h1) ∧ Lay h1 ∧ F_X12_come 81 x1 x2 h1 = some (v, h2) ∧ Inv (q + 1) h2 ∧ Few h h2
def Sim_net (Inv : Nat → pg_H → Prop) : Prop := ∀ (x1 x2 : Int32) (q : Nat) (h : pg_H), q ≤ 600 → Inv q h → ∃ (v : Int32) (h1 : pg_H) (h2 : pg_H), F_X11_net 1 x1 x2 h = some (v, h1) ∧ Lay h1 ∧ F_X12_net 81 x1 x2 h1 = some (v, h2) ∧ Inv (q + 1) h2 ∧ Few h h2
def Sim_agree (Inv : Nat → pg_H → Prop) : Prop := ∀ (x1 x2 : Int32) (q : Nat) (h : pg_H), q ≤ 600 → Inv q h → ∃ (v : Int32) (h1 : pg_H) (h2 : pg_H), F_X11_agree 1 x1 x2 h = some (v, h1) ∧ Lay h1 ∧ F_X12_agree 81 x1 x2 h1 = some (v, h2) ∧ Inv (q + 1) h2 ∧ Few h h2
def Sim_families (Inv : Nat → pg_H → Prop) : Prop := ∀ (q : Nat) (h : pg_H), q ≤ 600 → Inv q h → ∃ (v : Int32) (h1 : pg_H) (h2 : pg_H), F_X11_families 1 h = some (v, h1) ∧ Lay h1 ∧ F_X12_families 81 h1 = some (v, h2) ∧ Inv (q + 1) h2 ∧ Few h h2
def Sim_family (Inv : Nat → pg_H → Prop) : Prop := ∀ (x1 : Int32) (q : Nat) (h : pg_H), q ≤ 600 → Inv q h → ∃ (v : Int32) (h1 : pg_H) (h2 : pg_H), F_X11_family 1 x1 h = some (v, h1) ∧ Lay h1 ∧ F_X12_family 81 x1 h1 = some (v, h2) ∧ Inv (q + 1) h2 ∧ Few h h2
def Sim_joins (Inv : Nat → pg_H → Prop) : Prop := ∀ (x1 : Int32) (q : Nat) (h : pg_H), q ≤ 600 → Inv q h → ∃ (v : Int32) (h1 : pg_H) (h2 : pg_H), F_X11_joins 1 x1 h = some (v, h1) ∧ Lay h1 ∧ F_X12_joins 81 x1 h1 = some (v, h2) ∧ Inv (q + 1) h2 ∧ Few h h2
def Sim_times (Inv : Nat → pg_H → Prop) : Prop := ∀ (x1 x2 x3 : Int32) (q : Nat) (h : pg_H), q ≤ 600 → Inv q h → ∃ (v : Int32) (h1 : pg_H) (h2 : pg_H), F_X11_times 1 x1 x2 x3 h = some (v, h1) ∧ Lay h1 ∧ F_X12_times 81 x1 x2 x3 h1 = some (v, h2) ∧ Inv (q + 1) h2 ∧ Few h h2
def Sim_written (Inv : Nat → pg_H → Prop) : Prop := ∀ (x1 : Int32) (q : Nat) (h : pg_H), q ≤ 600 → Inv q h → ∃ (v : Int32) (h1 : pg_H) (h2 : pg_H), F_X11_written 1 x1 h = some (v, h1) ∧ Lay h1 ∧ F_X12_written 81 x1 h1 = some (v, h2) ∧ Inv (q + 1) h2 ∧ Few h h2
def Sim_towns (Inv : Nat → pg_H → Prop) : Prop := ∀ (x1 : Int32) (q : Nat) (h : pg_H), q ≤ 600 → Inv q h → ∃ (v : Int32), F_X11_towns h 1 x1 = some v ∧ Lay h ∧ F_X12_towns h 81 x1 = some v ∧ Inv (q + 1) h ∧ Few h h
def Sim_dates (Inv : Nat → pg_H → Prop) : Prop := ∀ (x1 x2 : Int32) (q : Nat) (h : pg_H), q ≤ 600 → Inv q h → ∃ (v : Int32) (h1 : pg_H) (h2 : pg_H), F_X11_dates 1 x1 x2 h = some (v, h1) ∧ Lay h1 ∧ F_X12_dates 81 x1 x2 h1 = some (v, h2) ∧ Inv (q + 1) h2 ∧ Few h h2
def Sim_read (Inv : Nat → pg_H → Prop) : Prop := ∀ (x1 x2 : Int32) (q : Nat) (h : pg_H), q ≤ 600 → Inv q h → ∃ (v : Int32) (h1 : pg_H) (h2 : pg_H), F_X11_read 1 x1 x2 h = some (v, h1) ∧ Lay h1 ∧ F_X12_read 81 x1 x2 h1 = some (v, h2) ∧ Inv (q + 1) h2 ∧ Few h h2
def Sim_stops (Inv : Nat → pg_H → Prop) : Prop := ∀ (x1 x2 : Int32) (q : Nat) (h : pg_H), q ≤ 600 → Inv q h → ∃ (v : Int32), F_X11_stops h 1 x1 x2 = some v ∧ Lay h ∧ F_X12_stops h 81 x1 x2 = some v ∧ Inv (q + 1) h ∧ Few h h
def Sim_many (Inv : Nat → pg_H → Prop) : Prop := ∀ (x1 x2 : Int32) (q : Nat) (h : pg_H), q ≤ 600 → Inv q h → ∃ (v : Int32), F_X11_many h 1 x1 x2 = some v ∧ Lay h ∧ F_X12_many h 81 x1 x2 = some v ∧ Inv (q + 1) h ∧ Few h h
def Sim_chao (Inv : Nat → pg_H → Prop) : Prop := ∀ (q : Nat) (h : pg_H), q ≤ 600 → Inv q h → ∃ (v : Int32), F_X11_chao h 1 = some v ∧ Lay h ∧ F_X12_chao h 81 = some v ∧ Inv (q + 1) h ∧ Few h h
def Sim_censor (Inv : Nat → pg_H → Prop) : Prop := ∀ (x1 x2 x3 : Int32) (q : Nat) (h : pg_H), q ≤ 600 → Inv q h → ∃ (v : Int32) (h1 : pg_H) (h2 : pg_H), F_X11_censor 1 x1 x2 x3 h = some (v, h1) ∧ Lay h1 ∧ F_X12_censor 81 x1 x2 x3 h1 = some (v, h2) ∧ Inv (q + 1) h2 ∧ Few h h2
def Sim_late (Inv : Nat → pg_H → Prop) : Prop := ∀ (x1 x2 : Int32) (q : Nat) (h : pg_H), q ≤ 600 → Inv q h → ∃ (v : Int32) (h1 : pg_H) (h2 : pg_H), F_X11_late 1 x1 x2 h = some (v, h1) ∧ Lay h1 ∧ F_X12_late 81 x1 x2 h1 = some (v, h2) ∧ Inv (q + 1) h2 ∧ Few h h2
def Sim_next (Inv : Nat → pg_H → Prop) : Prop := ∀ (x1 : Int32) (q : Nat) (h : pg_H), q ≤ 600 → Inv q h → ∃ (v : Int32), F_X11_next h 1 x1 = some v ∧ Lay h ∧ F_X12_next h 81 x1 = some v ∧ Inv (q + 1) h ∧ Few h h
def Sim_run (Inv : Nat → pg_H → Prop) : Prop := ∀ (x1 : Int32) (q : Nat) (h : pg_H), q ≤ 600 → Inv q h → ∃ (v : Int32) (h1 : pg_H) (h2 : pg_H), F_X11_run 1 x1 h = some (v, h1) ∧ Lay h1 ∧ F_X12_run 81 x1 h1 = some (v, h2) ∧ Inv (q + 1) h2 ∧ Few h h2
def Sim_world (Inv : Nat → pg_H → Prop) : Prop := ∀ (x1 x2 : Int32) (q : Nat) (h : pg_H), q ≤ 600 → Inv q h → ∃ (v : Int32), F_X11_world h 1 x1 x2 = some v ∧ Lay h ∧ F_X12_world h 81 x1 x2 = some v ∧ Inv (q + 1) h ∧ Few h h
def Sim_image (Inv : Nat → pg_H → Prop) : Prop := ∀ (x1 : Int32) (q : Nat) (h : pg_H), q ≤ 600 → Inv q h → ∃ (v : Int32) (h1 : pg_H) (h2 : pg_H), F_X11_image 1 x1 h = some (v, h1) ∧ Lay h1 ∧ F_X12_image 81 x1 h1 = some (v, h2) ∧ Inv (q + 1) h2 ∧ Few h h2
def Sim_back (Inv : Nat → pg_H → Prop) : Prop := ∀ (x1 : Int32) (q : Nat) (h : pg_H), q ≤ 600 → Inv q h → ∃ (v : Int32) (h1 : pg_H) (h2 : pg_H), F_X11_back 1 x1 h = some (v, h1) ∧ Lay h1 ∧ F_X12_back 81 x1 h1 = some (v, h2) ∧ Inv (q + 1) h2 ∧ Few h h2
def Sim_count (Inv : Nat → pg_H → Prop) : Prop := ∀ (x1 : Int32) (q : Nat) (h : pg_H), q ≤ 600 → Inv q h → ∃ (v : Int32), F_X11_count h 1 x1 = some v ∧ Lay h ∧ F_X12_count h 81 x1 = some v ∧ Inv (q + 1) h ∧ Few h h
def Sim_status (Inv : Nat → pg_H → Prop) : Prop := ∀ (q : Nat) (h : pg_H), q ≤ 600 → Inv q h → ∃ (v : Int32), F_X11_status h 1 = some v ∧ Lay h ∧ F_X12_status h 81 = some v ∧ Inv (q + 1) h ∧ Few h h
def SimAll (Inv : Nat → pg_H → Prop) : Prop := Sim_copy Inv ∧ Sim_look Inv ∧ Sim_stay Inv ∧ Sim_hand Inv ∧ Sim_form Inv ∧ Sim_sample Inv ∧ Sim_note Inv ∧ Sim_of Inv ∧ Sim_terms Inv ∧ Sim_feed Inv ∧ Sim_end Inv ∧ Sim_row Inv ∧ Sim_trimmed Inv ∧ Sim_text Inv ∧ Sim_fault Inv ∧ Sim_use Inv ∧ Sim_weight Inv ∧ Sim_may Inv ∧ Sim_cost Inv ∧ Sim_tree Inv ∧ Sim_whose Inv ∧ Sim_sure Inv ∧ Sim_come Inv ∧ Sim_net Inv ∧ Sim_agree Inv ∧ Sim_families Inv ∧ Sim_family Inv ∧ Sim_joins Inv ∧ Sim_times Inv ∧ Sim_written Inv ∧ Sim_towns Inv ∧ Sim_dates Inv ∧ Sim_read Inv ∧ Sim_stops Inv ∧ Sim_many Inv ∧ Sim_chao Inv ∧ Sim_censor Inv ∧ Sim_late Inv ∧ Sim_next Inv ∧ Sim_run Inv ∧ Sim_world Inv ∧ Sim_image Inv ∧ Sim_back Inv ∧ Sim_count Inv ∧ Sim_status Inv
set_option maxHeartbeats 4000000 in
theorem law_run (Inv : Nat → pg_H → Prop) (hLay : ∀ q h, Inv q h → Lay h) (hUp : ∀ q h, Inv q h → Inv (q + 1) h) (S : SimAll Inv) (L : Nat) (xs : Nat → Int32) (hL3 : L ≤ 3072) : ∀ (n p q : Nat) (h : pg_H), Inv q h → 6 * q ≤ p → p ≤ L + 6 → L + 6 < p + 6 * n → ∃ hf : pg_H, F_L_law_18 (L, xs) n pg_lim 1 81 (nI p) h = some (1, hf) ∧ hf.1 ≤ h.1 + (L + 6 - p) ∧ hf.2.1 ≤ h.2.1 + 100 * (L + 6 - p) := by
  unfold SimAll at S
  intro n
  induction n with
  | zero => intro p q h hI hq hp hn; omega
  | succ n ih =>
    intro p q h hI hq hp hn
    have hL := hLay q h hI
    rw [F_L_law_18]
    dsimp only
    have hlen : pg_xlen 0 (L, xs) pg_lim = some (nI L) := if_pos rfl
    rw [hlen, Option.bind_some]
    have e6 : (nI L - (6 : Int32)).toInt = (L : Int) - 6 := by
      rw [Int32.toInt_sub, nI_toInt (by omega)]
      show ((L : Int) - 6).bmod (2 ^ 32) = _
      rw [Int.bmod_eq_of_le (by omega) (by omega)]
    have ep : (nI p).toInt = (p : Int) := nI_toInt (by omega)
    by_cases hend : (nI L - (6 : Int32)) < nI p
    · rw [if_pos hend]
      exact ⟨h, rfl, Nat.le_add_right _ _, Nat.le_add_right _ _⟩
    · rw [if_neg hend]
      rw [Int32.lt_iff_toInt_lt, e6, ep] at hend
      have hpL : p + 6 ≤ L := by omega
      have hx : ∀ k : Nat, k < 6 → pg_xI 0 (L, xs) pg_lim (nI (p + k)) = some (xs (p + k)) := fun k hk => by
        have hc : (nI (p + k)).toNatClampNeg = p + k := nI_clamp (by omega)
        unfold pg_xI
        rw [if_pos ⟨rfl, nI_in (by show p + k < L; omega) (by show L < 2 ^ 31; omega)⟩, hc]
      have hx0 := hx 0 (by decide)
      rw [Nat.add_zero] at hx0
      rw [hx0, Option.bind_some]
      have hx1 : pg_xI 0 (L, xs) pg_lim (nI p + (1 : Int32)) = some (xs (p + 1)) := by rw [← hx 1 (by decide), ← nI_add]; rfl
      have hx2 : pg_xI 0 (L, xs) pg_lim (nI p + (2 : Int32)) = some (xs (p + 2)) := by rw [← hx 2 (by decide), ← nI_add]; rfl
      have hx3 : pg_xI 0 (L, xs) pg_lim (nI p + (3 : Int32)) = some (xs (p + 3)) := by rw [← hx 3 (by decide), ← nI_add]; rfl
      have hx4 : pg_xI 0 (L, xs) pg_lim (nI p + (4 : Int32)) = some (xs (p + 4)) := by rw [← hx 4 (by decide), ← nI_add]; rfl
      have hx5 : pg_xI 0 (L, xs) pg_lim (nI p + (5 : Int32)) = some (xs (p + 5)) := by rw [← hx 5 (by decide), ← nI_add]; rfl
      unfold pg_let
      generalize xs p &&& (63 : Int32) = v3
      dsimp only
      have hnext : ∀ h2 : pg_H, Inv (q + 1) h2 → Few h h2 → ∃ hf : pg_H, F_L_law_1553 (L, xs) (F_L_law_18 (L, xs) n) pg_lim 1 81 (nI p) h2 = some (1, hf) ∧ hf.1 ≤ h.1 + (L + 6 - p) ∧ hf.2.1 ≤ h.2.1 + 100 * (L + 6 - p) := by
        intro h2 hI2 hf2
        obtain ⟨hf, q1, q2, q3⟩ := ih (p + 6) (q + 1) h2 hI2 (by omega) (by omega) (by omega)
        refine ⟨hf, ?_, ?_, ?_⟩
        · unfold F_L_law_1553
          rw [show nI p + (6 : Int32) = nI (p + 6) from nI_add p 6]
          exact q1
        · have := hf2.2.1
          omega
        · have := hf2.2.2
          omega
      by_cases c0 : v3 = (0 : Int32)
      · rw [if_pos c0]
        obtain ⟨v, h1, h2, e1, l1, e2, i2, f2⟩ := S.1 (xs (p + 1)) (xs (p + 2)) q h (by omega) hI
        simp only [hx1, hx2, Option.bind_some, rcv1 hL, rcv2 l1, e1, e2, if_true]
        exact hnext h2 i2 f2
      rw [if_neg c0]
      by_cases c1 : v3 = (1 : Int32)
      · rw [if_pos c1]
        obtain ⟨v, h1, h2, e1, l1, e2, i2, f2⟩ := S.2.1 (xs (p + 1)) (xs (p + 2)) q h (by omega) hI
        simp only [hx1, hx2, Option.bind_some, rcv1 hL, rcv2 l1, e1, e2, if_true]
        exact hnext h2 i2 f2
      rw [if_neg c1]
      by_cases c2 : v3 = (2 : Int32)
      · rw [if_pos c2]
        obtain ⟨v, h1, h2, e1, l1, e2, i2, f2⟩ := S.2.2.1 (xs (p + 1)) (xs (p + 2)) (xs (p + 3)) (xs (p + 4)) q h (by omega) hI
        simp only [hx1, hx2, hx3, hx4, Option.bind_some, rcv1 hL, rcv2 l1, e1, e2, if_true]
        exact hnext h2 i2 f2
      rw [if_neg c2]
      by_cases c3 : v3 = (3 : Int32)
      · rw [if_pos c3]
        obtain ⟨v, h1, h2, e1, l1, e2, i2, f2⟩ := S.2.2.2.1 (xs (p + 1)) (xs (p + 2)) q h (by omega) hI
        simp only [hx1, hx2, Option.bind_some, rcv1 hL, rcv2 l1, e1, e2, if_true]
        exact hnext h2 i2 f2
      rw [if_neg c3]
      by_cases c4 : v3 = (4 : Int32)
      · rw [if_pos c4]
        obtain ⟨v, h1, h2, e1, l1, e2, i2, f2⟩ := S.2.2.2.2.1 (xs (p + 1)) (xs (p + 2)) (xs (p + 3)) q h (by omega) hI
        simp only [hx1, hx2, hx3, Option.bind_some, rcv1 hL, rcv2 l1, e1, e2, if_true]
        exact hnext h2 i2 f2
      rw [if_neg c4]
      by_cases c5 : v3 = (5 : Int32)
      · rw [if_pos c5]
        obtain ⟨v, h1, h2, e1, l1, e2, i2, f2⟩ := S.2.2.2.2.2.1 (xs (p + 1)) (xs (p + 2)) (xs (p + 3)) q h (by omega) hI
        simp only [hx1, hx2, hx3, Option.bind_some, rcv1 hL, rcv2 l1, e1, e2, if_true]
        exact hnext h2 i2 f2
      rw [if_neg c5]
      by_cases c6 : v3 = (6 : Int32)
      · rw [if_pos c6]
        obtain ⟨v, h1, h2, e1, l1, e2, i2, f2⟩ := S.2.2.2.2.2.2.1 (xs (p + 1)) (xs (p + 2)) (xs (p + 3)) (xs (p + 4)) (xs (p + 5)) q h (by omega) hI
        simp only [hx1, hx2, hx3, hx4, hx5, Option.bind_some, rcv1 hL, rcv2 l1, e1, e2, if_true]
        exact hnext h2 i2 f2
      rw [if_neg c6]
      by_cases c7 : v3 = (7 : Int32)
      · rw [if_pos c7]
        obtain ⟨v, h1, e1, l1, e2, i2, f2⟩ := S.2.2.2.2.2.2.2.1 (xs (p + 1)) (xs (p + 2)) q h (by omega) hI
        simp only [hx1, hx2, Option.bind_some, rcv1 hL, rcv2 l1, e1, e2, if_true]
        exact hnext h1 i2 f2
      rw [if_neg c7]
      by_cases c8 : v3 = (8 : Int32)
      · rw [if_pos c8]
        obtain ⟨v, h1, h2, e1, l1, e2, i2, f2⟩ := S.2.2.2.2.2.2.2.2.1 (xs (p + 1)) (xs (p + 2)) q h (by omega) hI
        simp only [hx1, hx2, Option.bind_some, rcv1 hL, rcv2 l1, e1, e2, if_true]
        exact hnext h2 i2 f2
      rw [if_neg c8]
      by_cases c9 : v3 = (9 : Int32)
      · rw [if_pos c9]
        obtain ⟨v, h1, h2, e1, l1, e2, i2, f2⟩ := S.2.2.2.2.2.2.2.2.2.1 (xs (p + 1)) (xs (p + 2)) (xs (p + 3)) (xs (p + 4)) (xs (p + 5)) q h (by omega) hI
        simp only [hx1, hx2, hx3, hx4, hx5, Option.bind_some, rcv1 hL, rcv2 l1, e1, e2, if_true]
        exact hnext h2 i2 f2
      rw [if_neg c9]
      by_cases c10 : v3 = (10 : Int32)
      · rw [if_pos c10]
        obtain ⟨v, h1, h2, e1, l1, e2, i2, f2⟩ := S.2.2.2.2.2.2.2.2.2.2.1 (xs (p + 1)) q h (by omega) hI
        simp only [hx1, Option.bind_some, rcv1 hL, rcv2 l1, e1, e2, if_true]
        exact hnext h2 i2 f2
      rw [if_neg c10]
      by_cases c11 : v3 = (11 : Int32)
      · rw [if_pos c11]
        obtain ⟨v, h1, h2, e1, l1, e2, i2, f2⟩ := S.2.2.2.2.2.2.2.2.2.2.2.1 (xs (p + 1)) q h (by omega) hI
        simp only [hx1, Option.bind_some, rcv1 hL, rcv2 l1, e1, e2, if_true]
        exact hnext h2 i2 f2
      rw [if_neg c11]
      by_cases c12 : v3 = (12 : Int32)
      · rw [if_pos c12]
        obtain ⟨v, e1, l1, e2, i2, f2⟩ := S.2.2.2.2.2.2.2.2.2.2.2.2.1  q h (by omega) hI
        simp only [Option.bind_some, rcv1 hL, rcv2 l1, e1, e2, if_true]
        exact hnext h i2 f2
      rw [if_neg c12]
      by_cases c13 : v3 = (13 : Int32)
      · rw [if_pos c13]
        obtain ⟨v, h1, h2, e1, l1, e2, i2, f2⟩ := S.2.2.2.2.2.2.2.2.2.2.2.2.2.1  q h (by omega) hI
        simp only [Option.bind_some, rcv1 hL, rcv2 l1, e1, e2, if_true]
        exact hnext h2 i2 f2
      rw [if_neg c13]
      by_cases c14 : v3 = (14 : Int32)
      · rw [if_pos c14]
        obtain ⟨v, e1, l1, e2, i2, f2⟩ := S.2.2.2.2.2.2.2.2.2.2.2.2.2.2.1  q h (by omega) hI
        simp only [Option.bind_some, rcv1 hL, rcv2 l1, e1, e2, if_true]
        exact hnext h i2 f2
      rw [if_neg c14]
      by_cases c15 : v3 = (15 : Int32)
      · rw [if_pos c15]
        obtain ⟨v, h1, h2, e1, l1, e2, i2, f2⟩ := S.2.2.2.2.2.2.2.2.2.2.2.2.2.2.2.1 (xs (p + 1)) q h (by omega) hI
        simp only [hx1, Option.bind_some, rcv1 hL, rcv2 l1, e1, e2, if_true]
        exact hnext h2 i2 f2
      rw [if_neg c15]
      by_cases c16 : v3 = (16 : Int32)
      · rw [if_pos c16]
        obtain ⟨v, h1, h2, e1, l1, e2, i2, f2⟩ := S.2.2.2.2.2.2.2.2.2.2.2.2.2.2.2.2.1 (xs (p + 1)) (xs (p + 2)) q h (by omega) hI
        simp only [hx1, hx2, Option.bind_some, rcv1 hL, rcv2 l1, e1, e2, if_true]
        exact hnext h2 i2 f2
      rw [if_neg c16]
      by_cases c17 : v3 = (17 : Int32)
      · rw [if_pos c17]
        obtain ⟨v, e1, l1, e2, i2, f2⟩ := S.2.2.2.2.2.2.2.2.2.2.2.2.2.2.2.2.2.1 (xs (p + 1)) (xs (p + 2)) q h (by omega) hI
        simp only [hx1, hx2, Option.bind_some, rcv1 hL, rcv2 l1, e1, e2, if_true]
        exact hnext h i2 f2
      rw [if_neg c17]
      by_cases c18 : v3 = (18 : Int32)
      · rw [if_pos c18]
        obtain ⟨v, h1, h2, e1, l1, e2, i2, f2⟩ := S.2.2.2.2.2.2.2.2.2.2.2.2.2.2.2.2.2.2.1 (xs (p + 1)) (xs (p + 2)) q h (by omega) hI
        simp only [hx1, hx2, Option.bind_some, rcv1 hL, rcv2 l1, e1, e2, if_true]
        exact hnext h2 i2 f2
      rw [if_neg c18]
      by_cases c19 : v3 = (19 : Int32)
      · rw [if_pos c19]
        obtain ⟨v, h1, h2, e1, l1, e2, i2, f2⟩ := S.2.2.2.2.2.2.2.2.2.2.2.2.2.2.2.2.2.2.2.1  q h (by omega) hI
        simp only [Option.bind_some, rcv1 hL, rcv2 l1, e1, e2, if_true]
        exact hnext h2 i2 f2
      rw [if_neg c19]
      by_cases c20 : v3 = (20 : Int32)
      · rw [if_pos c20]
        obtain ⟨v, h1, h2, e1, l1, e2, i2, f2⟩ := S.2.2.2.2.2.2.2.2.2.2.2.2.2.2.2.2.2.2.2.2.1 (xs (p + 1)) q h (by omega) hI
        simp only [hx1, Option.bind_some, rcv1 hL, rcv2 l1, e1, e2, if_true]
        exact hnext h2 i2 f2
      rw [if_neg c20]
      by_cases c21 : v3 = (21 : Int32)
      · rw [if_pos c21]
        obtain ⟨v, h1, h2, e1, l1, e2, i2, f2⟩ := S.2.2.2.2.2.2.2.2.2.2.2.2.2.2.2.2.2.2.2.2.2.1 (xs (p + 1)) q h (by omega) hI
        simp only [hx1, Option.bind_some, rcv1 hL, rcv2 l1, e1, e2, if_true]
        exact hnext h2 i2 f2
      rw [if_neg c21]
      by_cases c22 : v3 = (22 : Int32)
      · rw [if_pos c22]
        obtain ⟨v, h1, h2, e1, l1, e2, i2, f2⟩ := S.2.2.2.2.2.2.2.2.2.2.2.2.2.2.2.2.2.2.2.2.2.2.1 (xs (p + 1)) (xs (p + 2)) q h (by omega) hI
        simp only [hx1, hx2, Option.bind_some, rcv1 hL, rcv2 l1, e1, e2, if_true]
        exact hnext h2 i2 f2
      rw [if_neg c22]
      by_cases c23 : v3 = (23 : Int32)
      · rw [if_pos c23]
        obtain ⟨v, h1, h2, e1, l1, e2, i2, f2⟩ := S.2.2.2.2.2.2.2.2.2.2.2.2.2.2.2.2.2.2.2.2.2.2.2.1 (xs (p + 1)) (xs (p + 2)) q h (by omega) hI
        simp only [hx1, hx2, Option.bind_some, rcv1 hL, rcv2 l1, e1, e2, if_true]
        exact hnext h2 i2 f2
      rw [if_neg c23]
      by_cases c24 : v3 = (24 : Int32)
      · rw [if_pos c24]
        obtain ⟨v, h1, h2, e1, l1, e2, i2, f2⟩ := S.2.2.2.2.2.2.2.2.2.2.2.2.2.2.2.2.2.2.2.2.2.2.2.2.1 (xs (p + 1)) (xs (p + 2)) q h (by omega) hI
        simp only [hx1, hx2, Option.bind_some, rcv1 hL, rcv2 l1, e1, e2, if_true]
        exact hnext h2 i2 f2
      rw [if_neg c24]
      by_cases c25 : v3 = (25 : Int32)
      · rw [if_pos c25]
        obtain ⟨v, h1, h2, e1, l1, e2, i2, f2⟩ := S.2.2.2.2.2.2.2.2.2.2.2.2.2.2.2.2.2.2.2.2.2.2.2.2.2.1  q h (by omega) hI
        simp only [Option.bind_some, rcv1 hL, rcv2 l1, e1, e2, if_true]
        exact hnext h2 i2 f2
      rw [if_neg c25]
      by_cases c26 : v3 = (26 : Int32)
      · rw [if_pos c26]
        obtain ⟨v, h1, h2, e1, l1, e2, i2, f2⟩ := S.2.2.2.2.2.2.2.2.2.2.2.2.2.2.2.2.2.2.2.2.2.2.2.2.2.2.1 (xs (p + 1)) q h (by omega) hI
        simp only [hx1, Option.bind_some, rcv1 hL, rcv2 l1, e1, e2, if_true]
        exact hnext h2 i2 f2
      rw [if_neg c26]
      by_cases c27 : v3 = (27 : Int32)
      · rw [if_pos c27]
        obtain ⟨v, h1, h2, e1, l1, e2, i2, f2⟩ := S.2.2.2.2.2.2.2.2.2.2.2.2.2.2.2.2.2.2.2.2.2.2.2.2.2.2.2.1 (xs (p + 1)) q h (by omega) hI
        simp only [hx1, Option.bind_some, rcv1 hL, rcv2 l1, e1, e2, if_true]
        exact hnext h2 i2 f2
      rw [if_neg c27]
      by_cases c28 : v3 = (28 : Int32)
      · rw [if_pos c28]
        obtain ⟨v, h1, h2, e1, l1, e2, i2, f2⟩ := S.2.2.2.2.2.2.2.2.2.2.2.2.2.2.2.2.2.2.2.2.2.2.2.2.2.2.2.2.1 (xs (p + 1)) (xs (p + 2)) (xs (p + 3)) q h (by omega) hI
        simp only [hx1, hx2, hx3, Option.bind_some, rcv1 hL, rcv2 l1, e1, e2, if_true]
        exact hnext h2 i2 f2
      rw [if_neg c28]
      by_cases c29 : v3 = (29 : Int32)
      · rw [if_pos c29]
        obtain ⟨v, h1, h2, e1, l1, e2, i2, f2⟩ := S.2.2.2.2.2.2.2.2.2.2.2.2.2.2.2.2.2.2.2.2.2.2.2.2.2.2.2.2.2.1 (xs (p + 1)) q h (by omega) hI
        simp only [hx1, Option.bind_some, rcv1 hL, rcv2 l1, e1, e2, if_true]
        exact hnext h2 i2 f2
      rw [if_neg c29]
      by_cases c30 : v3 = (30 : Int32)
      · rw [if_pos c30]
        obtain ⟨v, e1, l1, e2, i2, f2⟩ := S.2.2.2.2.2.2.2.2.2.2.2.2.2.2.2.2.2.2.2.2.2.2.2.2.2.2.2.2.2.2.1 (xs (p + 1)) q h (by omega) hI
        simp only [hx1, Option.bind_some, rcv1 hL, rcv2 l1, e1, e2, if_true]
        exact hnext h i2 f2
      rw [if_neg c30]
      by_cases c31 : v3 = (31 : Int32)
      · rw [if_pos c31]
        obtain ⟨v, h1, h2, e1, l1, e2, i2, f2⟩ := S.2.2.2.2.2.2.2.2.2.2.2.2.2.2.2.2.2.2.2.2.2.2.2.2.2.2.2.2.2.2.2.1 (xs (p + 1)) (xs (p + 2)) q h (by omega) hI
        simp only [hx1, hx2, Option.bind_some, rcv1 hL, rcv2 l1, e1, e2, if_true]
        exact hnext h2 i2 f2
      rw [if_neg c31]
      by_cases c32 : v3 = (32 : Int32)
      · rw [if_pos c32]
        obtain ⟨v, h1, h2, e1, l1, e2, i2, f2⟩ := S.2.2.2.2.2.2.2.2.2.2.2.2.2.2.2.2.2.2.2.2.2.2.2.2.2.2.2.2.2.2.2.2.1 (xs (p + 1)) (xs (p + 2)) q h (by omega) hI
        simp only [hx1, hx2, Option.bind_some, rcv1 hL, rcv2 l1, e1, e2, if_true]
        exact hnext h2 i2 f2
      rw [if_neg c32]
      by_cases c33 : v3 = (33 : Int32)
      · rw [if_pos c33]
        obtain ⟨v, e1, l1, e2, i2, f2⟩ := S.2.2.2.2.2.2.2.2.2.2.2.2.2.2.2.2.2.2.2.2.2.2.2.2.2.2.2.2.2.2.2.2.2.1 (xs (p + 1)) (xs (p + 2)) q h (by omega) hI
        simp only [hx1, hx2, Option.bind_some, rcv1 hL, rcv2 l1, e1, e2, if_true]
        exact hnext h i2 f2
      rw [if_neg c33]
      by_cases c34 : v3 = (34 : Int32)
      · rw [if_pos c34]
        obtain ⟨v, e1, l1, e2, i2, f2⟩ := S.2.2.2.2.2.2.2.2.2.2.2.2.2.2.2.2.2.2.2.2.2.2.2.2.2.2.2.2.2.2.2.2.2.2.1 (xs (p + 1)) (xs (p + 2)) q h (by omega) hI
        simp only [hx1, hx2, Option.bind_some, rcv1 hL, rcv2 l1, e1, e2, if_true]
        exact hnext h i2 f2
      rw [if_neg c34]
      by_cases c35 : v3 = (35 : Int32)
      · rw [if_pos c35]
        obtain ⟨v, e1, l1, e2, i2, f2⟩ := S.2.2.2.2.2.2.2.2.2.2.2.2.2.2.2.2.2.2.2.2.2.2.2.2.2.2.2.2.2.2.2.2.2.2.2.1  q h (by omega) hI
        simp only [Option.bind_some, rcv1 hL, rcv2 l1, e1, e2, if_true]
        exact hnext h i2 f2
      rw [if_neg c35]
      by_cases c36 : v3 = (36 : Int32)
      · rw [if_pos c36]
        obtain ⟨v, h1, h2, e1, l1, e2, i2, f2⟩ := S.2.2.2.2.2.2.2.2.2.2.2.2.2.2.2.2.2.2.2.2.2.2.2.2.2.2.2.2.2.2.2.2.2.2.2.2.1 (xs (p + 1)) (xs (p + 2)) (xs (p + 3)) q h (by omega) hI
        simp only [hx1, hx2, hx3, Option.bind_some, rcv1 hL, rcv2 l1, e1, e2, if_true]
        exact hnext h2 i2 f2
      rw [if_neg c36]
      by_cases c37 : v3 = (37 : Int32)
      · rw [if_pos c37]
        obtain ⟨v, h1, h2, e1, l1, e2, i2, f2⟩ := S.2.2.2.2.2.2.2.2.2.2.2.2.2.2.2.2.2.2.2.2.2.2.2.2.2.2.2.2.2.2.2.2.2.2.2.2.2.1 (xs (p + 1)) (xs (p + 2)) q h (by omega) hI
        simp only [hx1, hx2, Option.bind_some, rcv1 hL, rcv2 l1, e1, e2, if_true]
        exact hnext h2 i2 f2
      rw [if_neg c37]
      by_cases c38 : v3 = (38 : Int32)
      · rw [if_pos c38]
        obtain ⟨v, e1, l1, e2, i2, f2⟩ := S.2.2.2.2.2.2.2.2.2.2.2.2.2.2.2.2.2.2.2.2.2.2.2.2.2.2.2.2.2.2.2.2.2.2.2.2.2.2.1 (xs (p + 1)) q h (by omega) hI
        simp only [hx1, Option.bind_some, rcv1 hL, rcv2 l1, e1, e2, if_true]
        exact hnext h i2 f2
      rw [if_neg c38]
      by_cases c39 : v3 = (39 : Int32)
      · rw [if_pos c39]
        obtain ⟨v, h1, h2, e1, l1, e2, i2, f2⟩ := S.2.2.2.2.2.2.2.2.2.2.2.2.2.2.2.2.2.2.2.2.2.2.2.2.2.2.2.2.2.2.2.2.2.2.2.2.2.2.2.1 (xs (p + 1)) q h (by omega) hI
        simp only [hx1, Option.bind_some, rcv1 hL, rcv2 l1, e1, e2, if_true]
        exact hnext h2 i2 f2
      rw [if_neg c39]
      by_cases c40 : v3 = (40 : Int32)
      · rw [if_pos c40]
        obtain ⟨v, e1, l1, e2, i2, f2⟩ := S.2.2.2.2.2.2.2.2.2.2.2.2.2.2.2.2.2.2.2.2.2.2.2.2.2.2.2.2.2.2.2.2.2.2.2.2.2.2.2.2.1 (xs (p + 1)) (xs (p + 2)) q h (by omega) hI
        simp only [hx1, hx2, Option.bind_some, rcv1 hL, rcv2 l1, e1, e2, if_true]
        exact hnext h i2 f2
      rw [if_neg c40]
      by_cases c41 : v3 = (41 : Int32)
      · rw [if_pos c41]
        obtain ⟨v, h1, h2, e1, l1, e2, i2, f2⟩ := S.2.2.2.2.2.2.2.2.2.2.2.2.2.2.2.2.2.2.2.2.2.2.2.2.2.2.2.2.2.2.2.2.2.2.2.2.2.2.2.2.2.1 (xs (p + 1)) q h (by omega) hI
        simp only [hx1, Option.bind_some, rcv1 hL, rcv2 l1, e1, e2, if_true]
        exact hnext h2 i2 f2
      rw [if_neg c41]
      by_cases c42 : v3 = (42 : Int32)
      · rw [if_pos c42]
        obtain ⟨v, h1, h2, e1, l1, e2, i2, f2⟩ := S.2.2.2.2.2.2.2.2.2.2.2.2.2.2.2.2.2.2.2.2.2.2.2.2.2.2.2.2.2.2.2.2.2.2.2.2.2.2.2.2.2.2.1 (xs (p + 1)) q h (by omega) hI
        simp only [hx1, Option.bind_some, rcv1 hL, rcv2 l1, e1, e2, if_true]
        exact hnext h2 i2 f2
      rw [if_neg c42]
      by_cases c43 : v3 = (43 : Int32)
      · rw [if_pos c43]
        obtain ⟨v, e1, l1, e2, i2, f2⟩ := S.2.2.2.2.2.2.2.2.2.2.2.2.2.2.2.2.2.2.2.2.2.2.2.2.2.2.2.2.2.2.2.2.2.2.2.2.2.2.2.2.2.2.2.1 (xs (p + 1)) q h (by omega) hI
        simp only [hx1, Option.bind_some, rcv1 hL, rcv2 l1, e1, e2, if_true]
        exact hnext h i2 f2
      rw [if_neg c43]
      by_cases c44 : v3 = (44 : Int32)
      · rw [if_pos c44]
        obtain ⟨v, e1, l1, e2, i2, f2⟩ := S.2.2.2.2.2.2.2.2.2.2.2.2.2.2.2.2.2.2.2.2.2.2.2.2.2.2.2.2.2.2.2.2.2.2.2.2.2.2.2.2.2.2.2.2  q h (by omega) hI
        simp only [Option.bind_some, rcv1 hL, rcv2 l1, e1, e2, if_true]
        exact hnext h i2 f2
      rw [if_neg c44]
      exact hnext h (hUp q h hI) ⟨Nat.le_refl _, Nat.le_add_right _ _, Nat.le_add_right _ _⟩
theorem law_of (Inv : Nat → pg_H → Prop) (hLay : ∀ q h, Inv q h → Lay h) (hUp : ∀ q h, Inv q h → Inv (q + 1) h) (h0 : Inv 0 s0) (S : SimAll Inv) : pg_Law := by
  intro L xs hL
  obtain ⟨hf, q1, q2, q3⟩ := law_run Inv hLay hUp S L xs hL pg_fuel 0 0 s0 h0 (Nat.le_refl _) (Nat.zero_le _) (Nat.lt_of_le_of_lt (show L + 6 ≤ 3078 by omega) (by decide))
  rw [nI_0] at q1
  have a1 := s0_n
  have a2 := s0_s
  revert q2 q3 a1 a2
  generalize hz : s0 = z at *
  intro q2 q3 a1 a2
  refine ⟨hf, ?_, by omega, Nat.le_trans q3 (Nat.le_trans (Nat.add_le_add a2 (Nat.mul_le_mul_left 100 (show L + 6 - 0 ≤ 3078 by omega))) (Nat.le_of_ble_eq_true rfl))⟩
  rw [law_from (L, xs), hz]
  exact q1
