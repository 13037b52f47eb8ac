abbrev Inv : Nat → St → St → Prop := InvP PAt
theorem pure_ok : PureOK Inv := ⟨p_init, p_rower, p_rowerTold, p_sit, p_rig, p_water, p_stroke, p_feed, p_text, p_force, p_plan, p_planned, p_row, p_left, p_rown, p_more, p_change, p_order, p_spurts, p_piece, p_worth, p_go, p_race, p_lanes, p_fair, p_image, p_back, p_count, p_sheet, p_cell, p_copy, p_pieces, p_taken⟩
