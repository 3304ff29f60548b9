/-! PURE 44: the relation between the two objects -/
def RBoth : LRel := fun h_signs s_slots s_wl s_wn s_rt s_rl s_rn i_slots i_wl i_wn i_rt i_rl i_rn h_kept h_pad a_letterCount a_size a_letterMaps a_places a_maps a_from a_lastLetters a_lengths a_groups a_kindOf t_places t_end t_links t_depths n_goneCount n_places n_begin n_end n_rounds n_links n_became n_gone n_renumbered n_seamEnds m_said m_waved m_places m_end m_joints m_netPlaces m_begin m_finish m_rounds m_sews m_state m_images m_isKept m_pad m_wave m_isMade m_cameFrom m_cameBy m_domOf m_ranOf m_isCome m_parent m_letter m_deep m_row m_kept m_from m_by m_toward m_one m_number m_next m_sewSide m_sewFrom m_sewTo => RSt s_slots s_wl s_wn s_rt s_rl s_rn m_state ∧ RIm i_slots i_wl i_wn i_rt i_rl i_rn h_kept m_images m_isKept ∧ RPad h_signs h_pad m_said m_pad ∧ MI a_letterCount a_size a_letterMaps a_places a_maps a_from a_lastLetters a_lengths a_groups a_kindOf ∧ n_goneCount = 0
theorem lp_set : LP_set RBoth := by
  intro y0 y1 h_signs s_slots s_wl s_wn s_rt s_rl s_rn i_slots i_wl i_wn i_rt i_rl i_rn h_kept h_pad a_letterCount a_size a_letterMaps a_places a_maps a_from a_lastLetters a_lengths a_groups a_kindOf t_places t_end t_links t_depths n_goneCount n_places n_begin n_end n_rounds n_links n_became n_gone n_renumbered n_seamEnds m_said m_waved m_places m_end m_joints m_netPlaces m_begin m_finish m_rounds m_sews m_state m_images m_isKept m_pad m_wave m_isMade m_cameFrom m_cameBy m_domOf m_ranOf m_isCome m_parent m_letter m_deep m_row m_kept m_from m_by m_toward m_one m_number m_next m_sewSide m_sewFrom m_sewTo h
  obtain ⟨h1, h2, h3, h4, h5⟩ := h
  exact set_ok h1 y0 y1 (fun _ _ hs => ⟨hs, h2, h3, h4, h5⟩)
theorem lp_of : LP_of RBoth := by
  intro y0 y1 h_signs s_slots s_wl s_wn s_rt s_rl s_rn i_slots i_wl i_wn i_rt i_rl i_rn h_kept h_pad a_letterCount a_size a_letterMaps a_places a_maps a_from a_lastLetters a_lengths a_groups a_kindOf t_places t_end t_links t_depths n_goneCount n_places n_begin n_end n_rounds n_links n_became n_gone n_renumbered n_seamEnds m_said m_waved m_places m_end m_joints m_netPlaces m_begin m_finish m_rounds m_sews m_state m_images m_isKept m_pad m_wave m_isMade m_cameFrom m_cameBy m_domOf m_ranOf m_isCome m_parent m_letter m_deep m_row m_kept m_from m_by m_toward m_one m_number m_next m_sewSide m_sewFrom m_sewTo h
  obtain ⟨h1, h2, h3, h4, h5⟩ := h
  exact of_ok h1 y0 y1 ⟨h1, h2, h3, h4, h5⟩
theorem lp_leads : LP_leads RBoth := by
  intro y0 y1 h_signs s_slots s_wl s_wn s_rt s_rl s_rn i_slots i_wl i_wn i_rt i_rl i_rn h_kept h_pad a_letterCount a_size a_letterMaps a_places a_maps a_from a_lastLetters a_lengths a_groups a_kindOf t_places t_end t_links t_depths n_goneCount n_places n_begin n_end n_rounds n_links n_became n_gone n_renumbered n_seamEnds m_said m_waved m_places m_end m_joints m_netPlaces m_begin m_finish m_rounds m_sews m_state m_images m_isKept m_pad m_wave m_isMade m_cameFrom m_cameBy m_domOf m_ranOf m_isCome m_parent m_letter m_deep m_row m_kept m_from m_by m_toward m_one m_number m_next m_sewSide m_sewFrom m_sewTo h
  obtain ⟨h1, h2, h3, h4, h5⟩ := h
  exact leads_ok h1 y0 y1 ⟨h1, h2, h3, h4, h5⟩
theorem lp_both : LP_both RBoth := by
  intro y0 y1 y2 y3 h_signs s_slots s_wl s_wn s_rt s_rl s_rn i_slots i_wl i_wn i_rt i_rl i_rn h_kept h_pad a_letterCount a_size a_letterMaps a_places a_maps a_from a_lastLetters a_lengths a_groups a_kindOf t_places t_end t_links t_depths n_goneCount n_places n_begin n_end n_rounds n_links n_became n_gone n_renumbered n_seamEnds m_said m_waved m_places m_end m_joints m_netPlaces m_begin m_finish m_rounds m_sews m_state m_images m_isKept m_pad m_wave m_isMade m_cameFrom m_cameBy m_domOf m_ranOf m_isCome m_parent m_letter m_deep m_row m_kept m_from m_by m_toward m_one m_number m_next m_sewSide m_sewFrom m_sewTo h
  obtain ⟨h1, h2, h3, h4, h5⟩ := h
  exact both_ok h1 y0 y1 y2 y3 (fun _ _ hs => ⟨hs, h2, h3, h4, h5⟩)
theorem lp_turn : LP_turn RBoth := by
  intro y0 y1 y2 h_signs s_slots s_wl s_wn s_rt s_rl s_rn i_slots i_wl i_wn i_rt i_rl i_rn h_kept h_pad a_letterCount a_size a_letterMaps a_places a_maps a_from a_lastLetters a_lengths a_groups a_kindOf t_places t_end t_links t_depths n_goneCount n_places n_begin n_end n_rounds n_links n_became n_gone n_renumbered n_seamEnds m_said m_waved m_places m_end m_joints m_netPlaces m_begin m_finish m_rounds m_sews m_state m_images m_isKept m_pad m_wave m_isMade m_cameFrom m_cameBy m_domOf m_ranOf m_isCome m_parent m_letter m_deep m_row m_kept m_from m_by m_toward m_one m_number m_next m_sewSide m_sewFrom m_sewTo h
  obtain ⟨h1, h2, h3, h4, h5⟩ := h
  exact turn_ok h1 y0 y1 y2 (fun _ _ hs => ⟨hs, h2, h3, h4, h5⟩)
theorem lp_below : LP_below RBoth := by
  intro y0 y1 h_signs s_slots s_wl s_wn s_rt s_rl s_rn i_slots i_wl i_wn i_rt i_rl i_rn h_kept h_pad a_letterCount a_size a_letterMaps a_places a_maps a_from a_lastLetters a_lengths a_groups a_kindOf t_places t_end t_links t_depths n_goneCount n_places n_begin n_end n_rounds n_links n_became n_gone n_renumbered n_seamEnds m_said m_waved m_places m_end m_joints m_netPlaces m_begin m_finish m_rounds m_sews m_state m_images m_isKept m_pad m_wave m_isMade m_cameFrom m_cameBy m_domOf m_ranOf m_isCome m_parent m_letter m_deep m_row m_kept m_from m_by m_toward m_one m_number m_next m_sewSide m_sewFrom m_sewTo h
  obtain ⟨h1, h2, h3, h4, h5⟩ := h
  exact below_ok h1 y0 y1 ⟨h1, h2, h3, h4, h5⟩
theorem lp_say : LP_say RBoth := by
  intro y0 h_signs s_slots s_wl s_wn s_rt s_rl s_rn i_slots i_wl i_wn i_rt i_rl i_rn h_kept h_pad a_letterCount a_size a_letterMaps a_places a_maps a_from a_lastLetters a_lengths a_groups a_kindOf t_places t_end t_links t_depths n_goneCount n_places n_begin n_end n_rounds n_links n_became n_gone n_renumbered n_seamEnds m_said m_waved m_places m_end m_joints m_netPlaces m_begin m_finish m_rounds m_sews m_state m_images m_isKept m_pad m_wave m_isMade m_cameFrom m_cameBy m_domOf m_ranOf m_isCome m_parent m_letter m_deep m_row m_kept m_from m_by m_toward m_one m_number m_next m_sewSide m_sewFrom m_sewTo h
  obtain ⟨h1, h2, h3, h4, h5⟩ := h
  exact say_ok h3 y0 (fun _ _ _ _ hp => ⟨h1, h2, hp, h4, h5⟩)
theorem lp_wipe : LP_wipe RBoth := by
  intro h_signs s_slots s_wl s_wn s_rt s_rl s_rn i_slots i_wl i_wn i_rt i_rl i_rn h_kept h_pad a_letterCount a_size a_letterMaps a_places a_maps a_from a_lastLetters a_lengths a_groups a_kindOf t_places t_end t_links t_depths n_goneCount n_places n_begin n_end n_rounds n_links n_became n_gone n_renumbered n_seamEnds m_said m_waved m_places m_end m_joints m_netPlaces m_begin m_finish m_rounds m_sews m_state m_images m_isKept m_pad m_wave m_isMade m_cameFrom m_cameBy m_domOf m_ranOf m_isCome m_parent m_letter m_deep m_row m_kept m_from m_by m_toward m_one m_number m_next m_sewSide m_sewFrom m_sewTo h
  obtain ⟨h1, h2, h3, h4, h5⟩ := h
  exact wipe_ok h3 ⟨h1, h2, ⟨0, by omega, rfl, rfl, fun k hk => by omega⟩, h4, h5⟩
theorem lp_word : LP_word RBoth := by
  intro y0 h_signs s_slots s_wl s_wn s_rt s_rl s_rn i_slots i_wl i_wn i_rt i_rl i_rn h_kept h_pad a_letterCount a_size a_letterMaps a_places a_maps a_from a_lastLetters a_lengths a_groups a_kindOf t_places t_end t_links t_depths n_goneCount n_places n_begin n_end n_rounds n_links n_became n_gone n_renumbered n_seamEnds m_said m_waved m_places m_end m_joints m_netPlaces m_begin m_finish m_rounds m_sews m_state m_images m_isKept m_pad m_wave m_isMade m_cameFrom m_cameBy m_domOf m_ranOf m_isCome m_parent m_letter m_deep m_row m_kept m_from m_by m_toward m_one m_number m_next m_sewSide m_sewFrom m_sewTo h
  obtain ⟨h1, h2, h3, h4, h5⟩ := h
  exact word_ok h1 h3 y0 (fun _ _ _ _ _ hs hp => ⟨hs, h2, hp, h4, h5⟩)
theorem lp_value : LP_value RBoth := by
  intro y0 y1 h_signs s_slots s_wl s_wn s_rt s_rl s_rn i_slots i_wl i_wn i_rt i_rl i_rn h_kept h_pad a_letterCount a_size a_letterMaps a_places a_maps a_from a_lastLetters a_lengths a_groups a_kindOf t_places t_end t_links t_depths n_goneCount n_places n_begin n_end n_rounds n_links n_became n_gone n_renumbered n_seamEnds m_said m_waved m_places m_end m_joints m_netPlaces m_begin m_finish m_rounds m_sews m_state m_images m_isKept m_pad m_wave m_isMade m_cameFrom m_cameBy m_domOf m_ranOf m_isCome m_parent m_letter m_deep m_row m_kept m_from m_by m_toward m_one m_number m_next m_sewSide m_sewFrom m_sewTo h
  obtain ⟨h1, h2, h3, h4, h5⟩ := h
  exact value_ok h1 y0 y1 (fun _ _ hs => ⟨hs, h2, h3, h4, h5⟩)
theorem lp_made : LP_made RBoth := by
  intro y0 y1 h_signs s_slots s_wl s_wn s_rt s_rl s_rn i_slots i_wl i_wn i_rt i_rl i_rn h_kept h_pad a_letterCount a_size a_letterMaps a_places a_maps a_from a_lastLetters a_lengths a_groups a_kindOf t_places t_end t_links t_depths n_goneCount n_places n_begin n_end n_rounds n_links n_became n_gone n_renumbered n_seamEnds m_said m_waved m_places m_end m_joints m_netPlaces m_begin m_finish m_rounds m_sews m_state m_images m_isKept m_pad m_wave m_isMade m_cameFrom m_cameBy m_domOf m_ranOf m_isCome m_parent m_letter m_deep m_row m_kept m_from m_by m_toward m_one m_number m_next m_sewSide m_sewFrom m_sewTo h
  obtain ⟨h1, h2, h3, h4, h5⟩ := h
  exact made_ok h1 h4 y0 y1 (fun _ _ _ _ _ _ _ _ _ _ _ _ _ _ _ _ _ _ hm => ⟨h1, h2, h3, hm, h5⟩)
theorem lp_way : LP_way RBoth := by
  intro y0 y1 y2 h_signs s_slots s_wl s_wn s_rt s_rl s_rn i_slots i_wl i_wn i_rt i_rl i_rn h_kept h_pad a_letterCount a_size a_letterMaps a_places a_maps a_from a_lastLetters a_lengths a_groups a_kindOf t_places t_end t_links t_depths n_goneCount n_places n_begin n_end n_rounds n_links n_became n_gone n_renumbered n_seamEnds m_said m_waved m_places m_end m_joints m_netPlaces m_begin m_finish m_rounds m_sews m_state m_images m_isKept m_pad m_wave m_isMade m_cameFrom m_cameBy m_domOf m_ranOf m_isCome m_parent m_letter m_deep m_row m_kept m_from m_by m_toward m_one m_number m_next m_sewSide m_sewFrom m_sewTo h
  obtain ⟨h1, h2, h3, h4, h5⟩ := h
  exact way_ok h1 h4 y0 y1 y2 (fun _ _ _ _ _ _ _ _ _ _ _ _ _ _ _ hm => ⟨h1, h2, h3, hm, h5⟩)
theorem lp_tree : LP_tree RBoth := by
  intro y0 y1 h_signs s_slots s_wl s_wn s_rt s_rl s_rn i_slots i_wl i_wn i_rt i_rl i_rn h_kept h_pad a_letterCount a_size a_letterMaps a_places a_maps a_from a_lastLetters a_lengths a_groups a_kindOf t_places t_end t_links t_depths n_goneCount n_places n_begin n_end n_rounds n_links n_became n_gone n_renumbered n_seamEnds m_said m_waved m_places m_end m_joints m_netPlaces m_begin m_finish m_rounds m_sews m_state m_images m_isKept m_pad m_wave m_isMade m_cameFrom m_cameBy m_domOf m_ranOf m_isCome m_parent m_letter m_deep m_row m_kept m_from m_by m_toward m_one m_number m_next m_sewSide m_sewFrom m_sewTo h
  obtain ⟨h1, h2, h3, h4, h5⟩ := h
  exact tree_ok h1 y0 y1 (fun _ _ _ _ _ _ _ _ _ _ => ⟨h1, h2, h3, h4, h5⟩)
theorem lp_compare : LP_compare RBoth := by
  intro y0 y1 h_signs s_slots s_wl s_wn s_rt s_rl s_rn i_slots i_wl i_wn i_rt i_rl i_rn h_kept h_pad a_letterCount a_size a_letterMaps a_places a_maps a_from a_lastLetters a_lengths a_groups a_kindOf t_places t_end t_links t_depths n_goneCount n_places n_begin n_end n_rounds n_links n_became n_gone n_renumbered n_seamEnds m_said m_waved m_places m_end m_joints m_netPlaces m_begin m_finish m_rounds m_sews m_state m_images m_isKept m_pad m_wave m_isMade m_cameFrom m_cameBy m_domOf m_ranOf m_isCome m_parent m_letter m_deep m_row m_kept m_from m_by m_toward m_one m_number m_next m_sewSide m_sewFrom m_sewTo h
  obtain ⟨h1, h2, h3, h4, h5⟩ := h
  exact compare_ok h1 y0 y1 (fun _ _ _ _ _ _ _ _ _ _ _ => ⟨h1, h2, h3, h4, h5⟩)
theorem lp_rule : LP_rule RBoth := by
  intro y0 y1 y2 y3 h_signs s_slots s_wl s_wn s_rt s_rl s_rn i_slots i_wl i_wn i_rt i_rl i_rn h_kept h_pad a_letterCount a_size a_letterMaps a_places a_maps a_from a_lastLetters a_lengths a_groups a_kindOf t_places t_end t_links t_depths n_goneCount n_places n_begin n_end n_rounds n_links n_became n_gone n_renumbered n_seamEnds m_said m_waved m_places m_end m_joints m_netPlaces m_begin m_finish m_rounds m_sews m_state m_images m_isKept m_pad m_wave m_isMade m_cameFrom m_cameBy m_domOf m_ranOf m_isCome m_parent m_letter m_deep m_row m_kept m_from m_by m_toward m_one m_number m_next m_sewSide m_sewFrom m_sewTo h
  obtain ⟨h1, h2, h3, h4, h5⟩ := h
  exact rule_ok h1 y0 y1 y2 y3 (fun _ _ _ _ hs => ⟨hs, h2, h3, h4, h5⟩)
theorem lp_net : LP_net RBoth := by
  intro y0 y1 h_signs s_slots s_wl s_wn s_rt s_rl s_rn i_slots i_wl i_wn i_rt i_rl i_rn h_kept h_pad a_letterCount a_size a_letterMaps a_places a_maps a_from a_lastLetters a_lengths a_groups a_kindOf t_places t_end t_links t_depths n_goneCount n_places n_begin n_end n_rounds n_links n_became n_gone n_renumbered n_seamEnds m_said m_waved m_places m_end m_joints m_netPlaces m_begin m_finish m_rounds m_sews m_state m_images m_isKept m_pad m_wave m_isMade m_cameFrom m_cameBy m_domOf m_ranOf m_isCome m_parent m_letter m_deep m_row m_kept m_from m_by m_toward m_one m_number m_next m_sewSide m_sewFrom m_sewTo h
  obtain ⟨h1, h2, h3, h4, h5⟩ := h
  subst h5
  exact net_ok h1 y0 y1 (fun _ _ _ _ _ _ _ _ _ _ _ _ _ _ _ _ _ _ _ _ _ _ _ _ => ⟨h1, h2, h3, h4, rfl⟩)
theorem lp_reads : LP_reads RBoth := by
  intro y0 y1 h_signs s_slots s_wl s_wn s_rt s_rl s_rn i_slots i_wl i_wn i_rt i_rl i_rn h_kept h_pad a_letterCount a_size a_letterMaps a_places a_maps a_from a_lastLetters a_lengths a_groups a_kindOf t_places t_end t_links t_depths n_goneCount n_places n_begin n_end n_rounds n_links n_became n_gone n_renumbered n_seamEnds m_said m_waved m_places m_end m_joints m_netPlaces m_begin m_finish m_rounds m_sews m_state m_images m_isKept m_pad m_wave m_isMade m_cameFrom m_cameBy m_domOf m_ranOf m_isCome m_parent m_letter m_deep m_row m_kept m_from m_by m_toward m_one m_number m_next m_sewSide m_sewFrom m_sewTo h
  obtain ⟨h1, h2, h3, h4, h5⟩ := h
  subst h5
  exact reads_ok h1 y0 y1 (fun _ _ _ _ _ _ _ _ _ _ _ _ _ _ _ _ _ _ _ _ _ _ _ _ => ⟨h1, h2, h3, h4, rfl⟩)
theorem lp_image : LP_image RBoth := by
  intro y0 h_signs s_slots s_wl s_wn s_rt s_rl s_rn i_slots i_wl i_wn i_rt i_rl i_rn h_kept h_pad a_letterCount a_size a_letterMaps a_places a_maps a_from a_lastLetters a_lengths a_groups a_kindOf t_places t_end t_links t_depths n_goneCount n_places n_begin n_end n_rounds n_links n_became n_gone n_renumbered n_seamEnds m_said m_waved m_places m_end m_joints m_netPlaces m_begin m_finish m_rounds m_sews m_state m_images m_isKept m_pad m_wave m_isMade m_cameFrom m_cameBy m_domOf m_ranOf m_isCome m_parent m_letter m_deep m_row m_kept m_from m_by m_toward m_one m_number m_next m_sewSide m_sewFrom m_sewTo h
  obtain ⟨h1, h2, h3, h4, h5⟩ := h
  exact image_ok h1 h2 y0 (fun _ _ _ _ _ _ _ _ _ hi => ⟨h1, hi, h3, h4, h5⟩)
theorem lp_restore : LP_restore RBoth := by
  intro y0 h_signs s_slots s_wl s_wn s_rt s_rl s_rn i_slots i_wl i_wn i_rt i_rl i_rn h_kept h_pad a_letterCount a_size a_letterMaps a_places a_maps a_from a_lastLetters a_lengths a_groups a_kindOf t_places t_end t_links t_depths n_goneCount n_places n_begin n_end n_rounds n_links n_became n_gone n_renumbered n_seamEnds m_said m_waved m_places m_end m_joints m_netPlaces m_begin m_finish m_rounds m_sews m_state m_images m_isKept m_pad m_wave m_isMade m_cameFrom m_cameBy m_domOf m_ranOf m_isCome m_parent m_letter m_deep m_row m_kept m_from m_by m_toward m_one m_number m_next m_sewSide m_sewFrom m_sewTo h
  obtain ⟨h1, h2, h3, h4, h5⟩ := h
  exact restore_ok h1 h2 y0 (fun _ _ _ _ _ _ _ hs => ⟨hs, h2, h3, h4, h5⟩)
theorem lp_count : LP_count RBoth := by
  intro y0 h_signs s_slots s_wl s_wn s_rt s_rl s_rn i_slots i_wl i_wn i_rt i_rl i_rn h_kept h_pad a_letterCount a_size a_letterMaps a_places a_maps a_from a_lastLetters a_lengths a_groups a_kindOf t_places t_end t_links t_depths n_goneCount n_places n_begin n_end n_rounds n_links n_became n_gone n_renumbered n_seamEnds m_said m_waved m_places m_end m_joints m_netPlaces m_begin m_finish m_rounds m_sews m_state m_images m_isKept m_pad m_wave m_isMade m_cameFrom m_cameBy m_domOf m_ranOf m_isCome m_parent m_letter m_deep m_row m_kept m_from m_by m_toward m_one m_number m_next m_sewSide m_sewFrom m_sewTo h
  obtain ⟨h1, h2, h3, h4, h5⟩ := h
  exact count_ok h1 h2 h3 y0 ⟨h1, h2, h3, h4, h5⟩
theorem lp_all : LawPure RBoth := ⟨lp_set, lp_of, lp_leads, lp_both, lp_turn, lp_below, lp_say, lp_wipe, lp_word, lp_value, lp_made, lp_way, lp_tree, lp_compare, lp_rule, lp_net, lp_reads, lp_image, lp_restore, lp_count⟩
theorem RSt_zero : RSt fl6 (fun _ _ => 0) (fun _ => 0) (fun _ => 0) (fun _ _ => 0) (fun _ => 0) fl6 := by
  refine ⟨fun i hi => ⟨7465, VM.id, if_pos hi, if_pos hi⟩, fun w hw => ⟨0, by omega, rfl, ?_, fun k hk => by omega⟩, fun r hr => ⟨Or.inl rfl, ?_⟩, fun d hd => ⟨0, by omega, rfl, ?_, fun k hk => by omega⟩⟩
  · exact if_neg (by omega)
  · exact if_neg (by omega)
  · exact if_neg (by omega)
theorem RB_zero : RBoth (0 : Int32) fl6 (fun _ _ => 0) (fun _ => 0) (fun _ => 0) (fun _ _ => 0) (fun _ => 0) (fun _ => fl6) (fun _ _ _ => 0) (fun _ _ => 0) (fun _ _ => 0) (fun _ _ _ => 0) (fun _ _ => 0) (fun _ => 0) (fun _ => 0) (0 : Int32) (0 : Int32) (fun _ => 0) (fun _ => 0) (fun _ => 0) (fun _ => 0) (fun _ => 0) (fun _ => 0) (fun _ => 0) (fun _ => 0) (0 : Int32) (0 : Int32) (fun _ => 0) (fun _ => 0) (0 : Int32) (0 : Int32) (0 : Int32) (0 : Int32) (0 : Int32) (fun _ => 0) (fun _ => 0) (fun _ => 0) (fun _ => 0) (fun _ => 0) (0 : Int32) (0 : Int32) (0 : Int32) (0 : Int32) (0 : Int32) (0 : Int32) (0 : Int32) (0 : Int32) (0 : Int32) (0 : Int32) fl6 (fun _ => 0) (fun _ => 0) (fun _ => 0) (fun _ => 0) (fun _ => 0) (fun _ => 0) (fun _ => 0) (fun _ => 0) (fun _ => 0) (fun _ => 0) (fun _ => 0) (fun _ => 0) (fun _ => 0) (fun _ => 0) (fun _ => 0) (fun _ => 0) (fun _ => 0) (fun _ => 0) (fun _ => 0) (fun _ => 0) (fun _ => 0) (fun _ => 0) (fun _ => 0) (fun _ => 0) :=
  ⟨RSt_zero, fun k _ => ⟨Or.inl rfl, rfl, fun c => absurd c (show ¬ (0 : Int32) = 1 by decide)⟩, ⟨0, by omega, rfl, rfl, fun k hk => by omega⟩, MI_zero, rfl⟩
