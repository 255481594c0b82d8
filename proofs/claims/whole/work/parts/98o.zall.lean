/-! Layer 2. All the calls together -/
theorem zSim : lSim zRel := ⟨zP_feed, zP_end, zP_house, zP_fault, zP_bed, zP_owl, zP_sound, zP_now, zP_lend, zP_hush, zP_let, zP_shout, zP_hours, zP_undo, zP_hears, zP_would, zP_when, zP_loud, zP_spots, zP_spotAt, zP_next, zP_keen, zP_keenLeast, zP_keenMost, zP_best, zP_bestAt, zP_code, zP_codeAt, zP_duel, zP_duelAt, zP_worth, zP_note, zP_byteAt, zP_drawn, zP_odds, zP_book, zP_told, zP_sentence, zP_said, zP_image, zP_restore, zP_count⟩
theorem rel_ex : ∃ Rel : xMem → xMem → Prop, lSim Rel ∧ Rel mR_OwlsLent mR_Model := ⟨zRel, zSim, zI_rel⟩
