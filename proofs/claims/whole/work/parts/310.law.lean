/-! THE LAW -/
theorem sim_text : Sim_text Inv := by
  sorry
theorem the_law : pg_Law := law_of Inv (fun _ _ I => I.1) (fun _ _ I => I.up) inv0 ⟨sim_copy, sim_look, sim_stay, sim_hand, sim_form, sim_sample, sim_note, sim_of, sim_terms, sim_feed, sim_end, sim_row, sim_trimmed, sim_text, sim_fault, sim_use, sim_weight, sim_may, sim_cost, sim_tree, sim_whose, sim_sure, sim_come, sim_net, sim_agree, sim_families, sim_family, sim_joins, sim_times, sim_written, sim_towns, sim_dates, sim_read, sim_stops, sim_many, sim_chao, sim_censor, sim_late, sim_next, sim_run, sim_world, sim_image, sim_back, sim_count, sim_status⟩
