/-! THE BOUND of the cells: two more a call, at most -/
def InvB (q : Nat) (h : pg_H) : Prop := Inv q h ∧ h.1 ≤ 109 + 2 * q
theorem lift_copy : Sim_copy InvB := fun x1 x2 q h hq I => by
  obtain ⟨v, h1, h2, e1, L, e2, J, F⟩ := sim_copy x1 x2 q h hq I.1
  exact ⟨v, h1, h2, e1, L, e2, ⟨J, by have := F.2.1; have := I.2; omega⟩, F⟩
theorem lift_look : Sim_look InvB := fun x1 x2 q h hq I => by
  obtain ⟨v, h1, h2, e1, L, e2, J, F⟩ := sim_look x1 x2 q h hq I.1
  exact ⟨v, h1, h2, e1, L, e2, ⟨J, by have := F.2.1; have := I.2; omega⟩, F⟩
theorem lift_stay : Sim_stay InvB := fun x1 x2 x3 x4 q h hq I => by
  obtain ⟨v, h1, h2, e1, L, e2, J, F⟩ := sim_stay x1 x2 x3 x4 q h hq I.1
  exact ⟨v, h1, h2, e1, L, e2, ⟨J, by have := F.2.1; have := I.2; omega⟩, F⟩
theorem lift_hand : Sim_hand InvB := fun x1 x2 q h hq I => by
  obtain ⟨v, h1, h2, e1, L, e2, J, F⟩ := sim_hand x1 x2 q h hq I.1
  exact ⟨v, h1, h2, e1, L, e2, ⟨J, by have := F.2.1; have := I.2; omega⟩, F⟩
theorem lift_form : Sim_form InvB := fun x1 x2 x3 q h hq I => by
  obtain ⟨v, h1, h2, e1, L, e2, J, F⟩ := sim_form x1 x2 x3 q h hq I.1
  exact ⟨v, h1, h2, e1, L, e2, ⟨J, by have := F.2.1; have := I.2; omega⟩, F⟩
theorem lift_sample : Sim_sample InvB := fun x1 x2 x3 q h hq I => by
  obtain ⟨v, h1, h2, e1, L, e2, J, F⟩ := sim_sample x1 x2 x3 q h hq I.1
  exact ⟨v, h1, h2, e1, L, e2, ⟨J, by have := F.2.1; have := I.2; omega⟩, F⟩
theorem lift_note : Sim_note InvB := fun x1 x2 x3 x4 x5 q h hq I => by
  obtain ⟨v, h1, h2, e1, L, e2, J, F⟩ := sim_note x1 x2 x3 x4 x5 q h hq I.1
  exact ⟨v, h1, h2, e1, L, e2, ⟨J, by have := F.2.1; have := I.2; omega⟩, F⟩
theorem lift_of : Sim_of InvB := fun x1 x2 q h hq I => by
  obtain ⟨v, h1, e1, L, e2, J, F⟩ := sim_of x1 x2 q h hq I.1
  exact ⟨v, h1, e1, L, e2, ⟨J, by have := F.2.1; have := I.2; omega⟩, F⟩
theorem lift_terms : Sim_terms InvB := fun x1 x2 q h hq I => by
  obtain ⟨v, h1, h2, e1, L, e2, J, F⟩ := sim_terms x1 x2 q h hq I.1
  exact ⟨v, h1, h2, e1, L, e2, ⟨J, by have := F.2.1; have := I.2; omega⟩, F⟩
theorem lift_feed : Sim_feed InvB := fun x1 x2 x3 x4 x5 q h hq I => by
  obtain ⟨v, h1, h2, e1, L, e2, J, F⟩ := sim_feed x1 x2 x3 x4 x5 q h hq I.1
  exact ⟨v, h1, h2, e1, L, e2, ⟨J, by have := F.2.1; have := I.2; omega⟩, F⟩
theorem lift_end : Sim_end InvB := fun x1 q h hq I => by
  obtain ⟨v, h1, h2, e1, L, e2, J, F⟩ := sim_end x1 q h hq I.1
  exact ⟨v, h1, h2, e1, L, e2, ⟨J, by have := F.2.1; have := I.2; omega⟩, F⟩
theorem lift_row : Sim_row InvB := fun x1 q h hq I => by
  obtain ⟨v, h1, h2, e1, L, e2, J, F⟩ := sim_row x1 q h hq I.1
  exact ⟨v, h1, h2, e1, L, e2, ⟨J, by have := F.2.1; have := I.2; omega⟩, F⟩
theorem lift_trimmed : Sim_trimmed InvB := fun q h hq I => by
  obtain ⟨v, e1, L, e2, J, F⟩ := sim_trimmed q h hq I.1
  exact ⟨v, e1, L, e2, ⟨J, by have := F.2.1; have := I.2; omega⟩, F⟩
theorem lift_text : Sim_text InvB := fun q h hq I => by
  obtain ⟨v, h1, h2, e1, L, e2, J, F⟩ := sim_text0 q h hq I.1 (by have := I.2; have := hq; show h.1 + 2 < 1099511627776; omega)
  exact ⟨v, h1, h2, e1, L, e2, ⟨J, by have := F.2.1; have := I.2; omega⟩, F⟩
theorem lift_fault : Sim_fault InvB := fun q h hq I => by
  obtain ⟨v, e1, L, e2, J, F⟩ := sim_fault q h hq I.1
  exact ⟨v, e1, L, e2, ⟨J, by have := F.2.1; have := I.2; omega⟩, F⟩
theorem lift_use : Sim_use InvB := fun x1 q h hq I => by
  obtain ⟨v, h1, h2, e1, L, e2, J, F⟩ := sim_use x1 q h hq I.1
  exact ⟨v, h1, h2, e1, L, e2, ⟨J, by have := F.2.1; have := I.2; omega⟩, F⟩
theorem lift_weight : Sim_weight InvB := fun x1 x2 q h hq I => by
  obtain ⟨v, h1, h2, e1, L, e2, J, F⟩ := sim_weight x1 x2 q h hq I.1
  exact ⟨v, h1, h2, e1, L, e2, ⟨J, by have := F.2.1; have := I.2; omega⟩, F⟩
theorem lift_may : Sim_may InvB := fun x1 x2 q h hq I => by
  obtain ⟨v, e1, L, e2, J, F⟩ := sim_may x1 x2 q h hq I.1
  exact ⟨v, e1, L, e2, ⟨J, by have := F.2.1; have := I.2; omega⟩, F⟩
theorem lift_cost : Sim_cost InvB := fun x1 x2 q h hq I => by
  obtain ⟨v, h1, h2, e1, L, e2, J, F⟩ := sim_cost x1 x2 q h hq I.1
  exact ⟨v, h1, h2, e1, L, e2, ⟨J, by have := F.2.1; have := I.2; omega⟩, F⟩
theorem lift_tree : Sim_tree InvB := fun q h hq I => by
  obtain ⟨v, h1, h2, e1, L, e2, J, F⟩ := sim_tree q h hq I.1
  exact ⟨v, h1, h2, e1, L, e2, ⟨J, by have := F.2.1; have := I.2; omega⟩, F⟩
theorem lift_whose : Sim_whose InvB := fun x1 q h hq I => by
  obtain ⟨v, h1, h2, e1, L, e2, J, F⟩ := sim_whose x1 q h hq I.1
  exact ⟨v, h1, h2, e1, L, e2, ⟨J, by have := F.2.1; have := I.2; omega⟩, F⟩
theorem lift_sure : Sim_sure InvB := fun x1 q h hq I => by
  obtain ⟨v, h1, h2, e1, L, e2, J, F⟩ := sim_sure x1 q h hq I.1
  exact ⟨v, h1, h2, e1, L, e2, ⟨J, by have := F.2.1; have := I.2; omega⟩, F⟩
theorem lift_come : Sim_come InvB := fun x1 x2 q h hq I => by
  obtain ⟨v, h1, h2, e1, L, e2, J, F⟩ := sim_come x1 x2 q h hq I.1
  exact ⟨v, h1, h2, e1, L, e2, ⟨J, by have := F.2.1; have := I.2; omega⟩, F⟩
theorem lift_net : Sim_net InvB := fun x1 x2 q h hq I => by
  obtain ⟨v, h1, h2, e1, L, e2, J, F⟩ := sim_net x1 x2 q h hq I.1
  exact ⟨v, h1, h2, e1, L, e2, ⟨J, by have := F.2.1; have := I.2; omega⟩, F⟩
theorem lift_agree : Sim_agree InvB := fun x1 x2 q h hq I => by
  obtain ⟨v, h1, h2, e1, L, e2, J, F⟩ := sim_agree x1 x2 q h hq I.1
  exact ⟨v, h1, h2, e1, L, e2, ⟨J, by have := F.2.1; have := I.2; omega⟩, F⟩
theorem lift_families : Sim_families InvB := fun q h hq I => by
  obtain ⟨v, h1, h2, e1, L, e2, J, F⟩ := sim_families q h hq I.1
  exact ⟨v, h1, h2, e1, L, e2, ⟨J, by have := F.2.1; have := I.2; omega⟩, F⟩
theorem lift_family : Sim_family InvB := fun x1 q h hq I => by
  obtain ⟨v, h1, h2, e1, L, e2, J, F⟩ := sim_family x1 q h hq I.1
  exact ⟨v, h1, h2, e1, L, e2, ⟨J, by have := F.2.1; have := I.2; omega⟩, F⟩
theorem lift_joins : Sim_joins InvB := fun x1 q h hq I => by
  obtain ⟨v, h1, h2, e1, L, e2, J, F⟩ := sim_joins x1 q h hq I.1
  exact ⟨v, h1, h2, e1, L, e2, ⟨J, by have := F.2.1; have := I.2; omega⟩, F⟩
theorem lift_times : Sim_times InvB := fun x1 x2 x3 q h hq I => by
  obtain ⟨v, h1, h2, e1, L, e2, J, F⟩ := sim_times x1 x2 x3 q h hq I.1
  exact ⟨v, h1, h2, e1, L, e2, ⟨J, by have := F.2.1; have := I.2; omega⟩, F⟩
theorem lift_written : Sim_written InvB := fun x1 q h hq I => by
  obtain ⟨v, h1, h2, e1, L, e2, J, F⟩ := sim_written x1 q h hq I.1
  exact ⟨v, h1, h2, e1, L, e2, ⟨J, by have := F.2.1; have := I.2; omega⟩, F⟩
theorem lift_towns : Sim_towns InvB := fun x1 q h hq I => by
  obtain ⟨v, e1, L, e2, J, F⟩ := sim_towns x1 q h hq I.1
  exact ⟨v, e1, L, e2, ⟨J, by have := F.2.1; have := I.2; omega⟩, F⟩
theorem lift_dates : Sim_dates InvB := fun x1 x2 q h hq I => by
  obtain ⟨v, h1, h2, e1, L, e2, J, F⟩ := sim_dates x1 x2 q h hq I.1
  exact ⟨v, h1, h2, e1, L, e2, ⟨J, by have := F.2.1; have := I.2; omega⟩, F⟩
theorem lift_read : Sim_read InvB := fun x1 x2 q h hq I => by
  obtain ⟨v, h1, h2, e1, L, e2, J, F⟩ := sim_read x1 x2 q h hq I.1
  exact ⟨v, h1, h2, e1, L, e2, ⟨J, by have := F.2.1; have := I.2; omega⟩, F⟩
theorem lift_stops : Sim_stops InvB := fun x1 x2 q h hq I => by
  obtain ⟨v, e1, L, e2, J, F⟩ := sim_stops x1 x2 q h hq I.1
  exact ⟨v, e1, L, e2, ⟨J, by have := F.2.1; have := I.2; omega⟩, F⟩
theorem lift_many : Sim_many InvB := fun x1 x2 q h hq I => by
  obtain ⟨v, e1, L, e2, J, F⟩ := sim_many x1 x2 q h hq I.1
  exact ⟨v, e1, L, e2, ⟨J, by have := F.2.1; have := I.2; omega⟩, F⟩
theorem lift_chao : Sim_chao InvB := fun q h hq I => by
  obtain ⟨v, e1, L, e2, J, F⟩ := sim_chao q h hq I.1
  exact ⟨v, e1, L, e2, ⟨J, by have := F.2.1; have := I.2; omega⟩, F⟩
theorem lift_censor : Sim_censor InvB := fun x1 x2 x3 q h hq I => by
  obtain ⟨v, h1, h2, e1, L, e2, J, F⟩ := sim_censor x1 x2 x3 q h hq I.1
  exact ⟨v, h1, h2, e1, L, e2, ⟨J, by have := F.2.1; have := I.2; omega⟩, F⟩
theorem lift_late : Sim_late InvB := fun x1 x2 q h hq I => by
  obtain ⟨v, h1, h2, e1, L, e2, J, F⟩ := sim_late x1 x2 q h hq I.1
  exact ⟨v, h1, h2, e1, L, e2, ⟨J, by have := F.2.1; have := I.2; omega⟩, F⟩
theorem lift_next : Sim_next InvB := fun x1 q h hq I => by
  obtain ⟨v, e1, L, e2, J, F⟩ := sim_next x1 q h hq I.1
  exact ⟨v, e1, L, e2, ⟨J, by have := F.2.1; have := I.2; omega⟩, F⟩
theorem lift_run : Sim_run InvB := fun x1 q h hq I => by
  obtain ⟨v, h1, h2, e1, L, e2, J, F⟩ := sim_run x1 q h hq I.1
  exact ⟨v, h1, h2, e1, L, e2, ⟨J, by have := F.2.1; have := I.2; omega⟩, F⟩
theorem lift_world : Sim_world InvB := fun x1 x2 q h hq I => by
  obtain ⟨v, e1, L, e2, J, F⟩ := sim_world x1 x2 q h hq I.1
  exact ⟨v, e1, L, e2, ⟨J, by have := F.2.1; have := I.2; omega⟩, F⟩
theorem lift_image : Sim_image InvB := fun x1 q h hq I => by
  obtain ⟨v, h1, h2, e1, L, e2, J, F⟩ := sim_image x1 q h hq I.1
  exact ⟨v, h1, h2, e1, L, e2, ⟨J, by have := F.2.1; have := I.2; omega⟩, F⟩
theorem lift_back : Sim_back InvB := fun x1 q h hq I => by
  obtain ⟨v, h1, h2, e1, L, e2, J, F⟩ := sim_back x1 q h hq I.1
  exact ⟨v, h1, h2, e1, L, e2, ⟨J, by have := F.2.1; have := I.2; omega⟩, F⟩
theorem lift_count : Sim_count InvB := fun x1 q h hq I => by
  obtain ⟨v, e1, L, e2, J, F⟩ := sim_count x1 q h hq I.1
  exact ⟨v, e1, L, e2, ⟨J, by have := F.2.1; have := I.2; omega⟩, F⟩
theorem lift_status : Sim_status InvB := fun q h hq I => by
  obtain ⟨v, e1, L, e2, J, F⟩ := sim_status q h hq I.1
  exact ⟨v, e1, L, e2, ⟨J, by have := F.2.1; have := I.2; omega⟩, F⟩
