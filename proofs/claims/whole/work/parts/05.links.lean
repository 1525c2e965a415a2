-- words of fields, calls, constants, by their places
theorem wt_Held : ∀ w ∈ u_ws R_Held T_Held 4, w ∈ Tw := fun w hw => Tw_in (wi_Held w hw) (List.all_eq_true.mp (show (u_ws R_Held T_Held 4).all goodWord = true by decide +kernel) w hw)
theorem wt_Loops : ∀ w ∈ u_ws R_Loops T_Loops 2, w ∈ Tw := fun w hw => Tw_in (wi_Loops w hw) (List.all_eq_true.mp (show (u_ws R_Loops T_Loops 2).all goodWord = true by decide +kernel) w hw)
theorem wt_Merge : ∀ w ∈ u_ws R_Merge T_Merge 9, w ∈ Tw := fun w hw => Tw_in (wi_Merge w hw) (List.all_eq_true.mp (show (u_ws R_Merge T_Merge 9).all goodWord = true by decide +kernel) w hw)
theorem wt_Moves : ∀ w ∈ u_ws R_Moves T_Moves 4, w ∈ Tw := fun w hw => Tw_in (wi_Moves w hw) (List.all_eq_true.mp (show (u_ws R_Moves T_Moves 4).all goodWord = true by decide +kernel) w hw)
theorem wt_Pad : ∀ w ∈ u_ws R_Pad T_Pad 2, w ∈ Tw := fun w hw => Tw_in (wi_Pad w hw) (List.all_eq_true.mp (show (u_ws R_Pad T_Pad 2).all goodWord = true by decide +kernel) w hw)
theorem wt_Pairs : ∀ w ∈ u_ws R_Pairs T_Pairs 4, w ∈ Tw := fun w hw => Tw_in (wi_Pairs w hw) (List.all_eq_true.mp (show (u_ws R_Pairs T_Pairs 4).all goodWord = true by decide +kernel) w hw)
theorem wt_Side : ∀ w ∈ u_ws R_Side T_Side 2, w ∈ Tw := fun w hw => Tw_in (wi_Side w hw) (List.all_eq_true.mp (show (u_ws R_Side T_Side 2).all goodWord = true by decide +kernel) w hw)
theorem wt_Tree : ∀ w ∈ u_ws R_Tree T_Tree 3, w ∈ Tw := fun w hw => Tw_in (wi_Tree w hw) (List.all_eq_true.mp (show (u_ws R_Tree T_Tree 3).all goodWord = true by decide +kernel) w hw)
theorem wt_MF : ∀ w ∈ u_ws R_MF T_MF 10, w ∈ Tw := fun w hw => Tw_in (wi_MF w hw) (List.all_eq_true.mp (show (u_ws R_MF T_MF 10).all goodWord = true by decide +kernel) w hw)
theorem wt_Mo : ∀ w ∈ u_ws R_Mo T_Mo 27, w ∈ Tw := fun w hw => Tw_in (wi_Mo w hw) (List.all_eq_true.mp (show (u_ws R_Mo T_Mo 27).all goodWord = true by decide +kernel) w hw)
set_option maxRecDepth 100000 in
theorem oi_Tree_3 : OI "MovedFolders$Tree" 3 := ⟨(Tw_in (List.mem_of_getElem? (i := 118) (by decide +kernel)) rfl), (Tw_in (List.mem_of_getElem? (i := 91) (by decide +kernel)) rfl), (Tw_in (List.mem_of_getElem? (i := 92) rfl) rfl)⟩
theorem ac_int : Cond.arrayClass .int ∈ Tw := (Tw_in (List.mem_of_getElem? (i := 106) (by decide +kernel)) rfl)
theorem fp_Tree_9 : FP "MovedFolders$Tree" 9 7 0 (.array .int) true := ⟨R_Tree, T_Tree, 3, ty_Tree, rfl, by decide, wt_Tree, (Tw_in (List.mem_of_getElem? (i := 119) (by decide +kernel)) rfl), ty_Tree_ok, nm_Tree, rfl, by decide +kernel, rfl⟩
theorem fp_Tree_15 : FP "MovedFolders$Tree" 15 7 1 (.array .int) true := ⟨R_Tree, T_Tree, 3, ty_Tree, rfl, by decide, wt_Tree, (Tw_in (List.mem_of_getElem? (i := 120) (by decide +kernel)) rfl), ty_Tree_ok, nm_Tree, rfl, by decide +kernel, rfl⟩
theorem fp_Tree_18 : FP "MovedFolders$Tree" 18 7 2 .int false := ⟨R_Tree, T_Tree, 3, ty_Tree, rfl, by decide, wt_Tree, (Tw_in (List.mem_of_getElem? (i := 121) (by decide +kernel)) rfl), ty_Tree_ok, nm_Tree, rfl, by decide +kernel, rfl⟩
set_option maxRecDepth 100000 in
theorem oi_Held_3 : OI "MovedFolders$Held" 3 := ⟨(Tw_in (List.mem_of_getElem? (i := 112) (by decide +kernel)) rfl), (Tw_in (List.mem_of_getElem? (i := 91) (by decide +kernel)) rfl), (Tw_in (List.mem_of_getElem? (i := 92) rfl) rfl)⟩
theorem nw_Held_9 : NW "MovedFolders$Held" 9 7 [.null, .null, .int 0] 3 := ⟨R_Tree, T_Tree, ty_Tree, rfl, wt_Tree, ty_Tree_ok, (Tw_in (List.mem_of_getElem? (i := 113) (by decide +kernel)) rfl), (Tw_in (List.mem_of_getElem? (i := 114) (by decide +kernel)) rfl), (Tw_in (List.mem_of_getElem? (i := 74) (by decide +kernel)) rfl), by decide +kernel, fun _ => rfl⟩
set_option maxRecDepth 100000 in
theorem cb_Tree_init : CLb y_Tree_init b_Tree_init 1 none 0 := ⟨(List.mem_of_getElem? (i := 117) rfl), (Tw_in (List.mem_of_getElem? (i := 74) (by decide +kernel)) rfl), by decide, by decide, by decide +kernel⟩
theorem cn_Held_11 : CN "MovedFolders$Held" 11 y_Tree_init b_Tree_init 1 0 "MovedFolders" := ⟨cb_Tree_init, List.mem_filter.mpr ⟨(List.mem_of_getElem? (i := 115) (by decide +kernel)), rfl⟩, (Tw_in (List.mem_of_getElem? (i := 116) (by decide +kernel)) rfl), rfl⟩
theorem fp_Held_12 : FP "MovedFolders$Held" 12 0 0 (.object "MovedFolders$Tree") true := ⟨R_Held, T_Held, 4, ty_Held, rfl, by decide, wt_Held, (Tw_in (List.mem_of_getElem? (i := 129) (by decide +kernel)) rfl), ty_Held_ok, nm_Held, rfl, by decide +kernel, rfl⟩
theorem fp_Held_18 : FP "MovedFolders$Held" 18 0 1 (.object "MovedFolders$Tree") false := ⟨R_Held, T_Held, 4, ty_Held, rfl, by decide, wt_Held, (Tw_in (List.mem_of_getElem? (i := 132) (by decide +kernel)) rfl), ty_Held_ok, nm_Held, rfl, by decide +kernel, rfl⟩
theorem fp_Held_21 : FP "MovedFolders$Held" 21 0 2 (.object "MovedFolders$Tree") false := ⟨R_Held, T_Held, 4, ty_Held, rfl, by decide, wt_Held, (Tw_in (List.mem_of_getElem? (i := 135) (by decide +kernel)) rfl), ty_Held_ok, nm_Held, rfl, by decide +kernel, rfl⟩
theorem fp_Held_24 : FP "MovedFolders$Held" 24 0 3 .int false := ⟨R_Held, T_Held, 4, ty_Held, rfl, by decide, wt_Held, (Tw_in (List.mem_of_getElem? (i := 138) (by decide +kernel)) rfl), ty_Held_ok, nm_Held, rfl, by decide +kernel, rfl⟩
theorem fl_Tree_18 : FL "MovedFolders$Tree" 18 7 2 := ⟨R_Tree, T_Tree, 3, rfl, by decide, wt_Tree, (Tw_in (List.mem_of_getElem? (i := 121) (by decide +kernel)) rfl)⟩
theorem fl_Tree_9 : FL "MovedFolders$Tree" 9 7 0 := ⟨R_Tree, T_Tree, 3, rfl, by decide, wt_Tree, (Tw_in (List.mem_of_getElem? (i := 119) (by decide +kernel)) rfl)⟩
theorem fl_Tree_15 : FL "MovedFolders$Tree" 15 7 1 := ⟨R_Tree, T_Tree, 3, rfl, by decide, wt_Tree, (Tw_in (List.mem_of_getElem? (i := 120) (by decide +kernel)) rfl)⟩
theorem fl_Held_12 : FL "MovedFolders$Held" 12 0 0 := ⟨R_Held, T_Held, 4, rfl, by decide, wt_Held, (Tw_in (List.mem_of_getElem? (i := 129) (by decide +kernel)) rfl)⟩
set_option maxRecDepth 100000 in
theorem cb_Tree_take : CLb y_Tree_take b_Tree_take 3 none 1 := ⟨(List.mem_of_getElem? (i := 404) rfl), (Tw_in (List.mem_of_getElem? (i := 74) (by decide +kernel)) rfl), by decide, by decide, by decide +kernel⟩
theorem cv_Held_28 : CV "MovedFolders$Held" 28 7 y_Tree_take b_Tree_take 3 none 1 := ⟨cb_Tree_take, (Tw_in (List.mem_of_getElem? (i := 734) (by decide +kernel)) rfl), (Tw_in (List.mem_of_getElem? (i := 402) (by decide +kernel)) rfl), (Tw_in (List.mem_of_getElem? (i := 403) (by decide +kernel)) rfl), rfl⟩
theorem fl_Held_18 : FL "MovedFolders$Held" 18 0 1 := ⟨R_Held, T_Held, 4, rfl, by decide, wt_Held, (Tw_in (List.mem_of_getElem? (i := 132) (by decide +kernel)) rfl)⟩
theorem fl_Held_21 : FL "MovedFolders$Held" 21 0 2 := ⟨R_Held, T_Held, 4, rfl, by decide, wt_Held, (Tw_in (List.mem_of_getElem? (i := 135) (by decide +kernel)) rfl)⟩
theorem fl_Held_24 : FL "MovedFolders$Held" 24 0 3 := ⟨R_Held, T_Held, 4, rfl, by decide, wt_Held, (Tw_in (List.mem_of_getElem? (i := 138) (by decide +kernel)) rfl)⟩
set_option maxRecDepth 100000 in
theorem oi_Loops_3 : OI "MovedFolders$Loops" 3 := ⟨(Tw_in (List.mem_of_getElem? (i := 210) (by decide +kernel)) rfl), (Tw_in (List.mem_of_getElem? (i := 91) (by decide +kernel)) rfl), (Tw_in (List.mem_of_getElem? (i := 92) rfl) rfl)⟩
theorem fp_Loops_9 : FP "MovedFolders$Loops" 9 1 0 (.array .int) true := ⟨R_Loops, T_Loops, 2, ty_Loops, rfl, by decide, wt_Loops, (Tw_in (List.mem_of_getElem? (i := 211) (by decide +kernel)) rfl), ty_Loops_ok, nm_Loops, rfl, by decide +kernel, rfl⟩
theorem fp_Loops_15 : FP "MovedFolders$Loops" 15 1 1 .int false := ⟨R_Loops, T_Loops, 2, ty_Loops, rfl, by decide, wt_Loops, (Tw_in (List.mem_of_getElem? (i := 212) (by decide +kernel)) rfl), ty_Loops_ok, nm_Loops, rfl, by decide +kernel, rfl⟩
theorem fl_Moves_22 : FL "MovedFolders$Moves" 22 3 3 := ⟨R_Moves, T_Moves, 4, rfl, by decide, wt_Moves, (Tw_in (List.mem_of_getElem? (i := 184) (by decide +kernel)) rfl)⟩
theorem fl_Moves_15 : FL "MovedFolders$Moves" 15 3 1 := ⟨R_Moves, T_Moves, 4, rfl, by decide, wt_Moves, (Tw_in (List.mem_of_getElem? (i := 182) (by decide +kernel)) rfl)⟩
theorem fl_Loops_15 : FL "MovedFolders$Loops" 15 1 1 := ⟨R_Loops, T_Loops, 2, rfl, by decide, wt_Loops, (Tw_in (List.mem_of_getElem? (i := 212) (by decide +kernel)) rfl)⟩
theorem fl_Loops_9 : FL "MovedFolders$Loops" 9 1 0 := ⟨R_Loops, T_Loops, 2, rfl, by decide, wt_Loops, (Tw_in (List.mem_of_getElem? (i := 211) (by decide +kernel)) rfl)⟩
set_option maxRecDepth 100000 in
theorem cb_Loops_isReached : CLb y_Loops_isReached b_Loops_isReached 3 (some .boolean) 1 := ⟨(List.mem_of_getElem? (i := 540) rfl), (Tw_in (List.mem_of_getElem? (i := 78) (by decide +kernel)) rfl), by decide, by decide, by decide +kernel⟩
theorem cv_Loops_40 : CV "MovedFolders$Loops" 40 1 y_Loops_isReached b_Loops_isReached 3 (some .boolean) 1 := ⟨cb_Loops_isReached, (Tw_in (List.mem_of_getElem? (i := 537) (by decide +kernel)) rfl), (Tw_in (List.mem_of_getElem? (i := 539) (by decide +kernel)) rfl), (Tw_in (List.mem_of_getElem? (i := 17) (by decide +kernel)) rfl), rfl⟩
theorem fl_Moves_9 : FL "MovedFolders$Moves" 9 3 0 := ⟨R_Moves, T_Moves, 4, rfl, by decide, wt_Moves, (Tw_in (List.mem_of_getElem? (i := 181) (by decide +kernel)) rfl)⟩
set_option maxRecDepth 100000 in
theorem cb_Moves_placeOf : CLb y_Moves_placeOf b_Moves_placeOf 3 (some .int) 1 := ⟨(List.mem_of_getElem? (i := 490) rfl), (Tw_in (List.mem_of_getElem? (i := 77) (by decide +kernel)) rfl), by decide, by decide, by decide +kernel⟩
theorem cv_Moves_26 : CV "MovedFolders$Moves" 26 3 y_Moves_placeOf b_Moves_placeOf 3 (some .int) 1 := ⟨cb_Moves_placeOf, (Tw_in (List.mem_of_getElem? (i := 487) (by decide +kernel)) rfl), (Tw_in (List.mem_of_getElem? (i := 489) (by decide +kernel)) rfl), (Tw_in (List.mem_of_getElem? (i := 12) (by decide +kernel)) rfl), rfl⟩
set_option maxRecDepth 100000 in
theorem cb_Moves_targetAt : CLb y_Moves_targetAt b_Moves_targetAt 2 (some .int) 1 := ⟨(List.mem_of_getElem? (i := 528) rfl), (Tw_in (List.mem_of_getElem? (i := 77) (by decide +kernel)) rfl), by decide, by decide, by decide +kernel⟩
theorem cv_Moves_30 : CV "MovedFolders$Moves" 30 3 y_Moves_targetAt b_Moves_targetAt 2 (some .int) 1 := ⟨cb_Moves_targetAt, (Tw_in (List.mem_of_getElem? (i := 545) (by decide +kernel)) rfl), (Tw_in (List.mem_of_getElem? (i := 526) (by decide +kernel)) rfl), (Tw_in (List.mem_of_getElem? (i := 527) (by decide +kernel)) rfl), rfl⟩
set_option maxRecDepth 100000 in
theorem cb_Loops_add : CLb y_Loops_add b_Loops_add 2 none 1 := ⟨(List.mem_of_getElem? (i := 536) rfl), (Tw_in (List.mem_of_getElem? (i := 78) (by decide +kernel)) rfl), by decide, by decide, by decide +kernel⟩
theorem cv_Loops_48 : CV "MovedFolders$Loops" 48 1 y_Loops_add b_Loops_add 2 none 1 := ⟨cb_Loops_add, (Tw_in (List.mem_of_getElem? (i := 533) (by decide +kernel)) rfl), (Tw_in (List.mem_of_getElem? (i := 535) (by decide +kernel)) rfl), (Tw_in (List.mem_of_getElem? (i := 16) (by decide +kernel)) rfl), rfl⟩
set_option maxRecDepth 100000 in
theorem cb_Moves_targetOf : CLb y_Moves_targetOf b_Moves_targetOf 2 (some .int) 1 := ⟨(List.mem_of_getElem? (i := 544) rfl), (Tw_in (List.mem_of_getElem? (i := 77) (by decide +kernel)) rfl), by decide, by decide, by decide +kernel⟩
theorem cv_Loops_52 : CV "MovedFolders$Loops" 52 3 y_Moves_targetOf b_Moves_targetOf 2 (some .int) 1 := ⟨cb_Moves_targetOf, (Tw_in (List.mem_of_getElem? (i := 541) (by decide +kernel)) rfl), (Tw_in (List.mem_of_getElem? (i := 542) (by decide +kernel)) rfl), (Tw_in (List.mem_of_getElem? (i := 543) (by decide +kernel)) rfl), rfl⟩
theorem fl_Moves_18 : FL "MovedFolders$Moves" 18 3 2 := ⟨R_Moves, T_Moves, 4, rfl, by decide, wt_Moves, (Tw_in (List.mem_of_getElem? (i := 183) (by decide +kernel)) rfl)⟩
set_option maxRecDepth 100000 in
theorem cb_Moves_size : CLb y_Moves_size b_Moves_size 1 (some .int) 0 := ⟨(List.mem_of_getElem? (i := 524) rfl), (Tw_in (List.mem_of_getElem? (i := 77) (by decide +kernel)) rfl), by decide, by decide, by decide +kernel⟩
theorem cv_Loops_23 : CV "MovedFolders$Loops" 23 3 y_Moves_size b_Moves_size 1 (some .int) 0 := ⟨cb_Moves_size, (Tw_in (List.mem_of_getElem? (i := 521) (by decide +kernel)) rfl), (Tw_in (List.mem_of_getElem? (i := 522) (by decide +kernel)) rfl), (Tw_in (List.mem_of_getElem? (i := 523) (by decide +kernel)) rfl), rfl⟩
theorem cv_Loops_29 : CV "MovedFolders$Loops" 29 3 y_Moves_targetAt b_Moves_targetAt 2 (some .int) 1 := ⟨cb_Moves_targetAt, (Tw_in (List.mem_of_getElem? (i := 525) (by decide +kernel)) rfl), (Tw_in (List.mem_of_getElem? (i := 526) (by decide +kernel)) rfl), (Tw_in (List.mem_of_getElem? (i := 527) (by decide +kernel)) rfl), rfl⟩
set_option maxRecDepth 100000 in
theorem cb_Loops_reachFrom : CLb y_Loops_reachFrom b_Loops_reachFrom 5 none 3 := ⟨(List.mem_of_getElem? (i := 532) rfl), (Tw_in (List.mem_of_getElem? (i := 78) (by decide +kernel)) rfl), by decide, by decide, by decide +kernel⟩
theorem cv_Loops_33 : CV "MovedFolders$Loops" 33 1 y_Loops_reachFrom b_Loops_reachFrom 5 none 3 := ⟨cb_Loops_reachFrom, (Tw_in (List.mem_of_getElem? (i := 529) (by decide +kernel)) rfl), (Tw_in (List.mem_of_getElem? (i := 531) (by decide +kernel)) rfl), (Tw_in (List.mem_of_getElem? (i := 15) (by decide +kernel)) rfl), rfl⟩
set_option maxRecDepth 100000 in
theorem cb_Moves_startAt : CLb y_Moves_startAt b_Moves_startAt 2 (some .int) 1 := ⟨(List.mem_of_getElem? (i := 549) rfl), (Tw_in (List.mem_of_getElem? (i := 77) (by decide +kernel)) rfl), by decide, by decide, by decide +kernel⟩
theorem cv_Loops_37 : CV "MovedFolders$Loops" 37 3 y_Moves_startAt b_Moves_startAt 2 (some .int) 1 := ⟨cb_Moves_startAt, (Tw_in (List.mem_of_getElem? (i := 546) (by decide +kernel)) rfl), (Tw_in (List.mem_of_getElem? (i := 547) (by decide +kernel)) rfl), (Tw_in (List.mem_of_getElem? (i := 548) (by decide +kernel)) rfl), rfl⟩
set_option maxRecDepth 100000 in
theorem cb_Moves_markRound : CLb y_Moves_markRound b_Moves_markRound 3 none 2 := ⟨(List.mem_of_getElem? (i := 553) rfl), (Tw_in (List.mem_of_getElem? (i := 77) (by decide +kernel)) rfl), by decide, by decide, by decide +kernel⟩
theorem cv_Loops_44 : CV "MovedFolders$Loops" 44 3 y_Moves_markRound b_Moves_markRound 3 none 2 := ⟨cb_Moves_markRound, (Tw_in (List.mem_of_getElem? (i := 550) (by decide +kernel)) rfl), (Tw_in (List.mem_of_getElem? (i := 551) (by decide +kernel)) rfl), (Tw_in (List.mem_of_getElem? (i := 552) (by decide +kernel)) rfl), rfl⟩
set_option maxRecDepth 100000 in
theorem cb_Loops_markThose : CLb y_Loops_markThose b_Loops_markThose 5 none 3 := ⟨(List.mem_of_getElem? (i := 520) rfl), (Tw_in (List.mem_of_getElem? (i := 78) (by decide +kernel)) rfl), by decide, by decide, by decide +kernel⟩
theorem cv_Loops_19 : CV "MovedFolders$Loops" 19 1 y_Loops_markThose b_Loops_markThose 5 none 3 := ⟨cb_Loops_markThose, (Tw_in (List.mem_of_getElem? (i := 517) (by decide +kernel)) rfl), (Tw_in (List.mem_of_getElem? (i := 519) (by decide +kernel)) rfl), (Tw_in (List.mem_of_getElem? (i := 14) (by decide +kernel)) rfl), rfl⟩
set_option maxRecDepth 100000 in
theorem oi_Merge_3 : OI "MovedFolders$Merge" 3 := ⟨(Tw_in (List.mem_of_getElem? (i := 223) (by decide +kernel)) rfl), (Tw_in (List.mem_of_getElem? (i := 91) (by decide +kernel)) rfl), (Tw_in (List.mem_of_getElem? (i := 92) rfl) rfl)⟩
theorem fp_Merge_9 : FP "MovedFolders$Merge" 9 2 0 (.array .int) true := ⟨R_Merge, T_Merge, 9, ty_Merge, rfl, by decide, wt_Merge, (Tw_in (List.mem_of_getElem? (i := 224) (by decide +kernel)) rfl), ty_Merge_ok, nm_Merge, rfl, by decide +kernel, rfl⟩
theorem fp_Merge_15 : FP "MovedFolders$Merge" 15 2 1 (.array .int) true := ⟨R_Merge, T_Merge, 9, ty_Merge, rfl, by decide, wt_Merge, (Tw_in (List.mem_of_getElem? (i := 225) (by decide +kernel)) rfl), ty_Merge_ok, nm_Merge, rfl, by decide +kernel, rfl⟩
theorem fp_Merge_18 : FP "MovedFolders$Merge" 18 2 2 (.array .int) true := ⟨R_Merge, T_Merge, 9, ty_Merge, rfl, by decide, wt_Merge, (Tw_in (List.mem_of_getElem? (i := 226) (by decide +kernel)) rfl), ty_Merge_ok, nm_Merge, rfl, by decide +kernel, rfl⟩
theorem fp_Merge_21 : FP "MovedFolders$Merge" 21 2 3 (.array .int) true := ⟨R_Merge, T_Merge, 9, ty_Merge, rfl, by decide, wt_Merge, (Tw_in (List.mem_of_getElem? (i := 227) (by decide +kernel)) rfl), ty_Merge_ok, nm_Merge, rfl, by decide +kernel, rfl⟩
theorem fp_Merge_24 : FP "MovedFolders$Merge" 24 2 4 .int false := ⟨R_Merge, T_Merge, 9, ty_Merge, rfl, by decide, wt_Merge, (Tw_in (List.mem_of_getElem? (i := 228) (by decide +kernel)) rfl), ty_Merge_ok, nm_Merge, rfl, by decide +kernel, rfl⟩
theorem fp_Merge_28 : FP "MovedFolders$Merge" 28 2 5 (.array .int) true := ⟨R_Merge, T_Merge, 9, ty_Merge, rfl, by decide, wt_Merge, (Tw_in (List.mem_of_getElem? (i := 229) (by decide +kernel)) rfl), ty_Merge_ok, nm_Merge, rfl, by decide +kernel, rfl⟩
theorem fp_Merge_31 : FP "MovedFolders$Merge" 31 2 6 (.array .int) true := ⟨R_Merge, T_Merge, 9, ty_Merge, rfl, by decide, wt_Merge, (Tw_in (List.mem_of_getElem? (i := 230) (by decide +kernel)) rfl), ty_Merge_ok, nm_Merge, rfl, by decide +kernel, rfl⟩
theorem fp_Merge_34 : FP "MovedFolders$Merge" 34 2 7 .int false := ⟨R_Merge, T_Merge, 9, ty_Merge, rfl, by decide, wt_Merge, (Tw_in (List.mem_of_getElem? (i := 231) (by decide +kernel)) rfl), ty_Merge_ok, nm_Merge, rfl, by decide +kernel, rfl⟩
theorem fp_Merge_37 : FP "MovedFolders$Merge" 37 2 8 (.array .int) true := ⟨R_Merge, T_Merge, 9, ty_Merge, rfl, by decide, wt_Merge, (Tw_in (List.mem_of_getElem? (i := 232) (by decide +kernel)) rfl), ty_Merge_ok, nm_Merge, rfl, by decide +kernel, rfl⟩
theorem fl_Merge_24 : FL "MovedFolders$Merge" 24 2 4 := ⟨R_Merge, T_Merge, 9, rfl, by decide, wt_Merge, (Tw_in (List.mem_of_getElem? (i := 228) (by decide +kernel)) rfl)⟩
theorem fl_Merge_34 : FL "MovedFolders$Merge" 34 2 7 := ⟨R_Merge, T_Merge, 9, rfl, by decide, wt_Merge, (Tw_in (List.mem_of_getElem? (i := 231) (by decide +kernel)) rfl)⟩
theorem fl_Merge_9 : FL "MovedFolders$Merge" 9 2 0 := ⟨R_Merge, T_Merge, 9, rfl, by decide, wt_Merge, (Tw_in (List.mem_of_getElem? (i := 224) (by decide +kernel)) rfl)⟩
theorem fl_Merge_15 : FL "MovedFolders$Merge" 15 2 1 := ⟨R_Merge, T_Merge, 9, rfl, by decide, wt_Merge, (Tw_in (List.mem_of_getElem? (i := 225) (by decide +kernel)) rfl)⟩
theorem fl_Merge_18 : FL "MovedFolders$Merge" 18 2 2 := ⟨R_Merge, T_Merge, 9, rfl, by decide, wt_Merge, (Tw_in (List.mem_of_getElem? (i := 226) (by decide +kernel)) rfl)⟩
theorem fl_Merge_21 : FL "MovedFolders$Merge" 21 2 3 := ⟨R_Merge, T_Merge, 9, rfl, by decide, wt_Merge, (Tw_in (List.mem_of_getElem? (i := 227) (by decide +kernel)) rfl)⟩
theorem fl_Merge_31 : FL "MovedFolders$Merge" 31 2 6 := ⟨R_Merge, T_Merge, 9, rfl, by decide, wt_Merge, (Tw_in (List.mem_of_getElem? (i := 230) (by decide +kernel)) rfl)⟩
theorem fl_Merge_28 : FL "MovedFolders$Merge" 28 2 5 := ⟨R_Merge, T_Merge, 9, rfl, by decide, wt_Merge, (Tw_in (List.mem_of_getElem? (i := 229) (by decide +kernel)) rfl)⟩
set_option maxRecDepth 100000 in
theorem cb_Tree_find : CLb y_Tree_find b_Tree_find 3 (some .int) 1 := ⟨(List.mem_of_getElem? (i := 359) rfl), (Tw_in (List.mem_of_getElem? (i := 74) (by decide +kernel)) rfl), by decide, by decide, by decide +kernel⟩
theorem cv_Tree_38 : CV "MovedFolders$Tree" 38 7 y_Tree_find b_Tree_find 3 (some .int) 1 := ⟨cb_Tree_find, (Tw_in (List.mem_of_getElem? (i := 356) (by decide +kernel)) rfl), (Tw_in (List.mem_of_getElem? (i := 357) (by decide +kernel)) rfl), (Tw_in (List.mem_of_getElem? (i := 358) (by decide +kernel)) rfl), rfl⟩
set_option maxRecDepth 100000 in
theorem cb_Tree_openFor : CLb y_Tree_openFor b_Tree_openFor 4 (some .int) 1 := ⟨(List.mem_of_getElem? (i := 363) rfl), (Tw_in (List.mem_of_getElem? (i := 74) (by decide +kernel)) rfl), by decide, by decide, by decide +kernel⟩
theorem cv_Tree_41 : CV "MovedFolders$Tree" 41 7 y_Tree_openFor b_Tree_openFor 4 (some .int) 1 := ⟨cb_Tree_openFor, (Tw_in (List.mem_of_getElem? (i := 360) (by decide +kernel)) rfl), (Tw_in (List.mem_of_getElem? (i := 362) (by decide +kernel)) rfl), (Tw_in (List.mem_of_getElem? (i := 5) (by decide +kernel)) rfl), rfl⟩
set_option maxRecDepth 100000 in
theorem cb_Tree_clear : CLb y_Tree_clear b_Tree_clear 1 none 0 := ⟨(List.mem_of_getElem? (i := 716) rfl), (Tw_in (List.mem_of_getElem? (i := 74) (by decide +kernel)) rfl), by decide, by decide, by decide +kernel⟩
theorem cv_Merge_40 : CV "MovedFolders$Merge" 40 7 y_Tree_clear b_Tree_clear 1 none 0 := ⟨cb_Tree_clear, (Tw_in (List.mem_of_getElem? (i := 713) (by decide +kernel)) rfl), (Tw_in (List.mem_of_getElem? (i := 714) (by decide +kernel)) rfl), (Tw_in (List.mem_of_getElem? (i := 715) (by decide +kernel)) rfl), rfl⟩
set_option maxRecDepth 100000 in
theorem cb_Tree_lay : CLb y_Tree_lay b_Tree_lay 4 (some .boolean) 2 := ⟨(List.mem_of_getElem? (i := 355) rfl), (Tw_in (List.mem_of_getElem? (i := 74) (by decide +kernel)) rfl), by decide, by decide, by decide +kernel⟩
theorem cv_Merge_45 : CV "MovedFolders$Merge" 45 7 y_Tree_lay b_Tree_lay 4 (some .boolean) 2 := ⟨cb_Tree_lay, (Tw_in (List.mem_of_getElem? (i := 717) (by decide +kernel)) rfl), (Tw_in (List.mem_of_getElem? (i := 353) (by decide +kernel)) rfl), (Tw_in (List.mem_of_getElem? (i := 354) (by decide +kernel)) rfl), rfl⟩
theorem fl_Pairs_9 : FL "MovedFolders$Pairs" 9 5 0 := ⟨R_Pairs, T_Pairs, 4, rfl, by decide, wt_Pairs, (Tw_in (List.mem_of_getElem? (i := 161) (by decide +kernel)) rfl)⟩
set_option maxRecDepth 100000 in
theorem cb_Tree_has : CLb y_Tree_has b_Tree_has 2 (some .boolean) 1 := ⟨(List.mem_of_getElem? (i := 379) rfl), (Tw_in (List.mem_of_getElem? (i := 74) (by decide +kernel)) rfl), by decide, by decide, by decide +kernel⟩
theorem cv_Tree_22 : CV "MovedFolders$Tree" 22 7 y_Tree_has b_Tree_has 2 (some .boolean) 1 := ⟨cb_Tree_has, (Tw_in (List.mem_of_getElem? (i := 384) (by decide +kernel)) rfl), (Tw_in (List.mem_of_getElem? (i := 377) (by decide +kernel)) rfl), (Tw_in (List.mem_of_getElem? (i := 378) (by decide +kernel)) rfl), rfl⟩
set_option maxRecDepth 100000 in
theorem cb_Letters_folderOf : CLb y_Letters_folderOf b_Letters_folderOf 1 (some .int) 1 := ⟨(List.mem_of_getElem? (i := 486) rfl), (Tw_in (List.mem_of_getElem? (i := 81) (by decide +kernel)) rfl), by decide, by decide, by decide +kernel⟩
theorem cs_Merge_137 : CS "MovedFolders$Merge" 137 y_Letters_folderOf b_Letters_folderOf 1 (some .int) 1 := ⟨cb_Letters_folderOf, (Tw_in (List.mem_of_getElem? (i := 569) (by decide +kernel)) rfl), (Tw_in (List.mem_of_getElem? (i := 485) (by decide +kernel)) rfl)⟩
set_option maxRecDepth 100000 in
theorem cb_Three_differ : CLb y_Three_differ b_Three_differ 3 (some .boolean) 3 := ⟨(List.mem_of_getElem? (i := 572) rfl), (Tw_in (List.mem_of_getElem? (i := 84) (by decide +kernel)) rfl), by decide, by decide, by decide +kernel⟩
theorem cs_Merge_140 : CS "MovedFolders$Merge" 140 y_Three_differ b_Three_differ 3 (some .boolean) 3 := ⟨cb_Three_differ, (Tw_in (List.mem_of_getElem? (i := 570) (by decide +kernel)) rfl), (Tw_in (List.mem_of_getElem? (i := 571) (by decide +kernel)) rfl)⟩
set_option maxRecDepth 100000 in
theorem cb_Letters_nameOf : CLb y_Letters_nameOf b_Letters_nameOf 1 (some .int) 1 := ⟨(List.mem_of_getElem? (i := 470) rfl), (Tw_in (List.mem_of_getElem? (i := 81) (by decide +kernel)) rfl), by decide, by decide, by decide +kernel⟩
theorem cs_Merge_121 : CS "MovedFolders$Merge" 121 y_Letters_nameOf b_Letters_nameOf 1 (some .int) 1 := ⟨cb_Letters_nameOf, (Tw_in (List.mem_of_getElem? (i := 573) (by decide +kernel)) rfl), (Tw_in (List.mem_of_getElem? (i := 469) (by decide +kernel)) rfl)⟩
set_option maxRecDepth 100000 in
theorem cb_Pieces_countOf : CLb y_Pieces_countOf b_Pieces_countOf 4 (some .int) 1 := ⟨(List.mem_of_getElem? (i := 418) rfl), (Tw_in (List.mem_of_getElem? (i := 82) (by decide +kernel)) rfl), by decide, by decide, by decide +kernel⟩
theorem cs_Three_15 : CS "MovedFolders$Three" 15 y_Pieces_countOf b_Pieces_countOf 4 (some .int) 1 := ⟨cb_Pieces_countOf, (Tw_in (List.mem_of_getElem? (i := 581) (by decide +kernel)) rfl), (Tw_in (List.mem_of_getElem? (i := 417) (by decide +kernel)) rfl)⟩
theorem cs_Three_21 : CS "MovedFolders$Three" 21 y_Three_differ b_Three_differ 3 (some .boolean) 3 := ⟨cb_Three_differ, (Tw_in (List.mem_of_getElem? (i := 577) (by decide +kernel)) rfl), (Tw_in (List.mem_of_getElem? (i := 571) (by decide +kernel)) rfl)⟩
set_option maxRecDepth 100000 in
theorem cb_Three_sameCount : CLb y_Three_sameCount b_Three_sameCount 4 (some .boolean) 3 := ⟨(List.mem_of_getElem? (i := 580) rfl), (Tw_in (List.mem_of_getElem? (i := 84) (by decide +kernel)) rfl), by decide, by decide, by decide +kernel⟩
theorem cs_Three_27 : CS "MovedFolders$Three" 27 y_Three_sameCount b_Three_sameCount 4 (some .boolean) 3 := ⟨cb_Three_sameCount, (Tw_in (List.mem_of_getElem? (i := 578) (by decide +kernel)) rfl), (Tw_in (List.mem_of_getElem? (i := 579) (by decide +kernel)) rfl)⟩
set_option maxRecDepth 100000 in
theorem cb_Letters_lengthOf : CLb y_Letters_lengthOf b_Letters_lengthOf 1 (some .int) 1 := ⟨(List.mem_of_getElem? (i := 591) rfl), (Tw_in (List.mem_of_getElem? (i := 81) (by decide +kernel)) rfl), by decide, by decide, by decide +kernel⟩
theorem cs_Moves_33 : CS "MovedFolders$Moves" 33 y_Letters_lengthOf b_Letters_lengthOf 1 (some .int) 1 := ⟨cb_Letters_lengthOf, (Tw_in (List.mem_of_getElem? (i := 589) (by decide +kernel)) rfl), (Tw_in (List.mem_of_getElem? (i := 590) (by decide +kernel)) rfl)⟩
set_option maxRecDepth 100000 in
theorem cb_Letters_firstOf : CLb y_Letters_firstOf b_Letters_firstOf 2 (some .int) 2 := ⟨(List.mem_of_getElem? (i := 594) rfl), (Tw_in (List.mem_of_getElem? (i := 81) (by decide +kernel)) rfl), by decide, by decide, by decide +kernel⟩
theorem cs_Moves_38 : CS "MovedFolders$Moves" 38 y_Letters_firstOf b_Letters_firstOf 2 (some .int) 2 := ⟨cb_Letters_firstOf, (Tw_in (List.mem_of_getElem? (i := 592) (by decide +kernel)) rfl), (Tw_in (List.mem_of_getElem? (i := 593) (by decide +kernel)) rfl)⟩
set_option maxRecDepth 100000 in
theorem cb_Letters_shift : CLb y_Letters_shift b_Letters_shift 5 (some .int) 3 := ⟨(List.mem_of_getElem? (i := 347) rfl), (Tw_in (List.mem_of_getElem? (i := 81) (by decide +kernel)) rfl), by decide, by decide, by decide +kernel⟩
theorem cs_Moves_42 : CS "MovedFolders$Moves" 42 y_Letters_shift b_Letters_shift 5 (some .int) 3 := ⟨cb_Letters_shift, (Tw_in (List.mem_of_getElem? (i := 595) (by decide +kernel)) rfl), (Tw_in (List.mem_of_getElem? (i := 346) (by decide +kernel)) rfl)⟩
set_option maxRecDepth 100000 in
theorem mt_Three_9 : MN "MovedFolders$Three" 9 := ⟨(Tw_in (List.mem_of_getElem? (i := 599) (by decide +kernel)) rfl), (Tw_in (List.mem_of_getElem? (i := 600) (by decide +kernel)) rfl), (Tw_in (List.mem_of_getElem? (i := 83) (by decide +kernel)) rfl), (Tw_in (List.mem_of_getElem? (i := 601) rfl) rfl)⟩
set_option maxRecDepth 100000 in
theorem cb_Three_join : CLb y_Three_join b_Three_join 3 (some .int) 3 := ⟨(List.mem_of_getElem? (i := 598) rfl), (Tw_in (List.mem_of_getElem? (i := 84) (by decide +kernel)) rfl), by decide, by decide, by decide +kernel⟩
theorem cs_Merge_126 : CS "MovedFolders$Merge" 126 y_Three_join b_Three_join 3 (some .int) 3 := ⟨cb_Three_join, (Tw_in (List.mem_of_getElem? (i := 596) (by decide +kernel)) rfl), (Tw_in (List.mem_of_getElem? (i := 597) (by decide +kernel)) rfl)⟩
set_option maxRecDepth 100000 in
theorem cb_Moves_follow : CLb y_Moves_follow b_Moves_follow 8 (some .int) 1 := ⟨(List.mem_of_getElem? (i := 588) rfl), (Tw_in (List.mem_of_getElem? (i := 77) (by decide +kernel)) rfl), by decide, by decide, by decide +kernel⟩
theorem cv_Merge_143 : CV "MovedFolders$Merge" 143 3 y_Moves_follow b_Moves_follow 8 (some .int) 1 := ⟨cb_Moves_follow, (Tw_in (List.mem_of_getElem? (i := 585) (by decide +kernel)) rfl), (Tw_in (List.mem_of_getElem? (i := 586) (by decide +kernel)) rfl), (Tw_in (List.mem_of_getElem? (i := 587) (by decide +kernel)) rfl), rfl⟩
theorem cs_Three_30 : CS "MovedFolders$Three" 30 y_Three_join b_Three_join 3 (some .int) 3 := ⟨cb_Three_join, (Tw_in (List.mem_of_getElem? (i := 605) (by decide +kernel)) rfl), (Tw_in (List.mem_of_getElem? (i := 597) (by decide +kernel)) rfl)⟩
set_option maxRecDepth 100000 in
theorem cb_Merge_isBehind : CLb y_Merge_isBehind b_Merge_isBehind 6 (some .boolean) 5 := ⟨(List.mem_of_getElem? (i := 613) rfl), (Tw_in (List.mem_of_getElem? (i := 79) (by decide +kernel)) rfl), by decide, by decide, by decide +kernel⟩
theorem cv_Merge_159 : CV "MovedFolders$Merge" 159 2 y_Merge_isBehind b_Merge_isBehind 6 (some .boolean) 5 := ⟨cb_Merge_isBehind, (Tw_in (List.mem_of_getElem? (i := 610) (by decide +kernel)) rfl), (Tw_in (List.mem_of_getElem? (i := 612) (by decide +kernel)) rfl), (Tw_in (List.mem_of_getElem? (i := 20) (by decide +kernel)) rfl), rfl⟩
theorem fl_Merge_83 : FL "MovedFolders$Merge" 83 6 0 := ⟨R_Side, T_Side, 2, rfl, by decide, wt_Side, (Tw_in (List.mem_of_getElem? (i := 195) (by decide +kernel)) rfl)⟩
set_option maxRecDepth 100000 in
theorem cb_Pairs_mateOf : CLb y_Pairs_mateOf b_Pairs_mateOf 2 (some .int) 1 := ⟨(List.mem_of_getElem? (i := 502) rfl), (Tw_in (List.mem_of_getElem? (i := 76) (by decide +kernel)) rfl), by decide, by decide, by decide +kernel⟩
theorem cv_Merge_89 : CV "MovedFolders$Merge" 89 5 y_Pairs_mateOf b_Pairs_mateOf 2 (some .int) 1 := ⟨cb_Pairs_mateOf, (Tw_in (List.mem_of_getElem? (i := 563) (by decide +kernel)) rfl), (Tw_in (List.mem_of_getElem? (i := 500) (by decide +kernel)) rfl), (Tw_in (List.mem_of_getElem? (i := 501) (by decide +kernel)) rfl), rfl⟩
theorem fl_Merge_49 : FL "MovedFolders$Merge" 49 0 0 := ⟨R_Held, T_Held, 4, rfl, by decide, wt_Held, (Tw_in (List.mem_of_getElem? (i := 130) (by decide +kernel)) rfl)⟩
set_option maxRecDepth 100000 in
theorem cb_Tree_pathAt : CLb y_Tree_pathAt b_Tree_pathAt 2 (some .int) 1 := ⟨(List.mem_of_getElem? (i := 392) rfl), (Tw_in (List.mem_of_getElem? (i := 74) (by decide +kernel)) rfl), by decide, by decide, by decide +kernel⟩
theorem cv_Merge_95 : CV "MovedFolders$Merge" 95 7 y_Tree_pathAt b_Tree_pathAt 2 (some .int) 1 := ⟨cb_Tree_pathAt, (Tw_in (List.mem_of_getElem? (i := 564) (by decide +kernel)) rfl), (Tw_in (List.mem_of_getElem? (i := 390) (by decide +kernel)) rfl), (Tw_in (List.mem_of_getElem? (i := 391) (by decide +kernel)) rfl), rfl⟩
set_option maxRecDepth 100000 in
theorem cb_Tree_contentAt : CLb y_Tree_contentAt b_Tree_contentAt 2 (some .int) 1 := ⟨(List.mem_of_getElem? (i := 396) rfl), (Tw_in (List.mem_of_getElem? (i := 74) (by decide +kernel)) rfl), by decide, by decide, by decide +kernel⟩
theorem cv_Merge_98 : CV "MovedFolders$Merge" 98 7 y_Tree_contentAt b_Tree_contentAt 2 (some .int) 1 := ⟨cb_Tree_contentAt, (Tw_in (List.mem_of_getElem? (i := 565) (by decide +kernel)) rfl), (Tw_in (List.mem_of_getElem? (i := 394) (by decide +kernel)) rfl), (Tw_in (List.mem_of_getElem? (i := 395) (by decide +kernel)) rfl), rfl⟩
theorem fl_Merge_101 : FL "MovedFolders$Merge" 101 0 1 := ⟨R_Held, T_Held, 4, rfl, by decide, wt_Held, (Tw_in (List.mem_of_getElem? (i := 133) (by decide +kernel)) rfl)⟩
theorem fl_Merge_70 : FL "MovedFolders$Merge" 70 0 2 := ⟨R_Held, T_Held, 4, rfl, by decide, wt_Held, (Tw_in (List.mem_of_getElem? (i := 136) (by decide +kernel)) rfl)⟩
set_option maxRecDepth 100000 in
theorem cb_Merge_pathsClash : CLb y_Merge_pathsClash b_Merge_pathsClash 3 (some .boolean) 3 := ⟨(List.mem_of_getElem? (i := 568) rfl), (Tw_in (List.mem_of_getElem? (i := 79) (by decide +kernel)) rfl), by decide, by decide, by decide +kernel⟩
theorem cs_Merge_104 : CS "MovedFolders$Merge" 104 y_Merge_pathsClash b_Merge_pathsClash 3 (some .boolean) 3 := ⟨cb_Merge_pathsClash, (Tw_in (List.mem_of_getElem? (i := 566) (by decide +kernel)) rfl), (Tw_in (List.mem_of_getElem? (i := 567) (by decide +kernel)) rfl)⟩
set_option maxRecDepth 100000 in
theorem cb_Three_contentsClash : CLb y_Three_contentsClash b_Three_contentsClash 7 (some .boolean) 3 := ⟨(List.mem_of_getElem? (i := 576) rfl), (Tw_in (List.mem_of_getElem? (i := 84) (by decide +kernel)) rfl), by decide, by decide, by decide +kernel⟩
theorem cs_Merge_108 : CS "MovedFolders$Merge" 108 y_Three_contentsClash b_Three_contentsClash 7 (some .boolean) 3 := ⟨cb_Three_contentsClash, (Tw_in (List.mem_of_getElem? (i := 574) (by decide +kernel)) rfl), (Tw_in (List.mem_of_getElem? (i := 575) (by decide +kernel)) rfl)⟩
theorem fl_Merge_113 : FL "MovedFolders$Merge" 113 6 1 := ⟨R_Side, T_Side, 2, rfl, by decide, wt_Side, (Tw_in (List.mem_of_getElem? (i := 198) (by decide +kernel)) rfl)⟩
set_option maxRecDepth 100000 in
theorem cb_Merge_joinFolders : CLb y_Merge_joinFolders b_Merge_joinFolders 8 (some .int) 5 := ⟨(List.mem_of_getElem? (i := 584) rfl), (Tw_in (List.mem_of_getElem? (i := 79) (by decide +kernel)) rfl), by decide, by decide, by decide +kernel⟩
theorem cs_Merge_117 : CS "MovedFolders$Merge" 117 y_Merge_joinFolders b_Merge_joinFolders 8 (some .int) 5 := ⟨cb_Merge_joinFolders, (Tw_in (List.mem_of_getElem? (i := 582) (by decide +kernel)) rfl), (Tw_in (List.mem_of_getElem? (i := 583) (by decide +kernel)) rfl)⟩
set_option maxRecDepth 100000 in
theorem cb_Three_joinContents : CLb y_Three_joinContents b_Three_joinContents 10 (some .int) 3 := ⟨(List.mem_of_getElem? (i := 604) rfl), (Tw_in (List.mem_of_getElem? (i := 84) (by decide +kernel)) rfl), by decide, by decide, by decide +kernel⟩
theorem cs_Merge_130 : CS "MovedFolders$Merge" 130 y_Three_joinContents b_Three_joinContents 10 (some .int) 3 := ⟨cb_Three_joinContents, (Tw_in (List.mem_of_getElem? (i := 602) (by decide +kernel)) rfl), (Tw_in (List.mem_of_getElem? (i := 603) (by decide +kernel)) rfl)⟩
set_option maxRecDepth 100000 in
theorem cb_Merge_add : CLb y_Merge_add b_Merge_add 7 none 4 := ⟨(List.mem_of_getElem? (i := 609) rfl), (Tw_in (List.mem_of_getElem? (i := 79) (by decide +kernel)) rfl), by decide, by decide, by decide +kernel⟩
theorem cv_Merge_133 : CV "MovedFolders$Merge" 133 2 y_Merge_add b_Merge_add 7 none 4 := ⟨cb_Merge_add, (Tw_in (List.mem_of_getElem? (i := 606) (by decide +kernel)) rfl), (Tw_in (List.mem_of_getElem? (i := 608) (by decide +kernel)) rfl), (Tw_in (List.mem_of_getElem? (i := 19) (by decide +kernel)) rfl), rfl⟩
theorem fl_Pairs_18 : FL "MovedFolders$Pairs" 18 5 2 := ⟨R_Pairs, T_Pairs, 4, rfl, by decide, wt_Pairs, (Tw_in (List.mem_of_getElem? (i := 163) (by decide +kernel)) rfl)⟩
set_option maxRecDepth 100000 in
theorem cb_Tree_size : CLb y_Tree_size b_Tree_size 1 (some .int) 0 := ⟨(List.mem_of_getElem? (i := 367) rfl), (Tw_in (List.mem_of_getElem? (i := 74) (by decide +kernel)) rfl), by decide, by decide, by decide +kernel⟩
theorem cv_Merge_55 : CV "MovedFolders$Merge" 55 7 y_Tree_size b_Tree_size 1 (some .int) 0 := ⟨cb_Tree_size, (Tw_in (List.mem_of_getElem? (i := 558) (by decide +kernel)) rfl), (Tw_in (List.mem_of_getElem? (i := 365) (by decide +kernel)) rfl), (Tw_in (List.mem_of_getElem? (i := 366) (by decide +kernel)) rfl), rfl⟩
set_option maxRecDepth 100000 in
theorem cb_Pairs_sourceOf : CLb y_Pairs_sourceOf b_Pairs_sourceOf 2 (some .int) 1 := ⟨(List.mem_of_getElem? (i := 621) rfl), (Tw_in (List.mem_of_getElem? (i := 76) (by decide +kernel)) rfl), by decide, by decide, by decide +kernel⟩
theorem cv_Merge_148 : CV "MovedFolders$Merge" 148 5 y_Pairs_sourceOf b_Pairs_sourceOf 2 (some .int) 1 := ⟨cb_Pairs_sourceOf, (Tw_in (List.mem_of_getElem? (i := 618) (by decide +kernel)) rfl), (Tw_in (List.mem_of_getElem? (i := 619) (by decide +kernel)) rfl), (Tw_in (List.mem_of_getElem? (i := 620) (by decide +kernel)) rfl), rfl⟩
theorem fl_Merge_37 : FL "MovedFolders$Merge" 37 2 8 := ⟨R_Merge, T_Merge, 9, rfl, by decide, wt_Merge, (Tw_in (List.mem_of_getElem? (i := 232) (by decide +kernel)) rfl)⟩
set_option maxRecDepth 100000 in
theorem cb_Merge_newPath : CLb y_Merge_newPath b_Merge_newPath 2 (some .int) 2 := ⟨(List.mem_of_getElem? (i := 624) rfl), (Tw_in (List.mem_of_getElem? (i := 79) (by decide +kernel)) rfl), by decide, by decide, by decide +kernel⟩
theorem cs_Merge_151 : CS "MovedFolders$Merge" 151 y_Merge_newPath b_Merge_newPath 2 (some .int) 2 := ⟨cb_Merge_newPath, (Tw_in (List.mem_of_getElem? (i := 622) (by decide +kernel)) rfl), (Tw_in (List.mem_of_getElem? (i := 623) (by decide +kernel)) rfl)⟩
set_option maxRecDepth 100000 in
theorem cb_Merge_takeSame : CLb y_Merge_takeSame b_Merge_takeSame 5 none 3 := ⟨(List.mem_of_getElem? (i := 632) rfl), (Tw_in (List.mem_of_getElem? (i := 79) (by decide +kernel)) rfl), by decide, by decide, by decide +kernel⟩
theorem cv_Merge_155 : CV "MovedFolders$Merge" 155 2 y_Merge_takeSame b_Merge_takeSame 5 none 3 := ⟨cb_Merge_takeSame, (Tw_in (List.mem_of_getElem? (i := 629) (by decide +kernel)) rfl), (Tw_in (List.mem_of_getElem? (i := 631) (by decide +kernel)) rfl), (Tw_in (List.mem_of_getElem? (i := 23) (by decide +kernel)) rfl), rfl⟩
set_option maxRecDepth 100000 in
theorem cb_Merge_findGoals : CLb y_Merge_findGoals b_Merge_findGoals 6 none 3 := ⟨(List.mem_of_getElem? (i := 617) rfl), (Tw_in (List.mem_of_getElem? (i := 79) (by decide +kernel)) rfl), by decide, by decide, by decide +kernel⟩
theorem cv_Merge_63 : CV "MovedFolders$Merge" 63 2 y_Merge_findGoals b_Merge_findGoals 6 none 3 := ⟨cb_Merge_findGoals, (Tw_in (List.mem_of_getElem? (i := 614) (by decide +kernel)) rfl), (Tw_in (List.mem_of_getElem? (i := 616) (by decide +kernel)) rfl), (Tw_in (List.mem_of_getElem? (i := 21) (by decide +kernel)) rfl), rfl⟩
set_option maxRecDepth 100000 in
theorem cb_Merge_addNewOfOne : CLb y_Merge_addNewOfOne b_Merge_addNewOfOne 7 none 3 := ⟨(List.mem_of_getElem? (i := 628) rfl), (Tw_in (List.mem_of_getElem? (i := 79) (by decide +kernel)) rfl), by decide, by decide, by decide +kernel⟩
theorem cv_Merge_67 : CV "MovedFolders$Merge" 67 2 y_Merge_addNewOfOne b_Merge_addNewOfOne 7 none 3 := ⟨cb_Merge_addNewOfOne, (Tw_in (List.mem_of_getElem? (i := 625) (by decide +kernel)) rfl), (Tw_in (List.mem_of_getElem? (i := 627) (by decide +kernel)) rfl), (Tw_in (List.mem_of_getElem? (i := 22) (by decide +kernel)) rfl), rfl⟩
set_option maxRecDepth 100000 in
theorem cb_Merge_addNewOfTwo : CLb y_Merge_addNewOfTwo b_Merge_addNewOfTwo 3 none 1 := ⟨(List.mem_of_getElem? (i := 636) rfl), (Tw_in (List.mem_of_getElem? (i := 79) (by decide +kernel)) rfl), by decide, by decide, by decide +kernel⟩
theorem cv_Merge_73 : CV "MovedFolders$Merge" 73 2 y_Merge_addNewOfTwo b_Merge_addNewOfTwo 3 none 1 := ⟨cb_Merge_addNewOfTwo, (Tw_in (List.mem_of_getElem? (i := 633) (by decide +kernel)) rfl), (Tw_in (List.mem_of_getElem? (i := 635) (by decide +kernel)) rfl), (Tw_in (List.mem_of_getElem? (i := 24) (by decide +kernel)) rfl), rfl⟩
set_option maxRecDepth 100000 in
theorem cb_Merge_markMeetings : CLb y_Merge_markMeetings b_Merge_markMeetings 2 none 0 := ⟨(List.mem_of_getElem? (i := 640) rfl), (Tw_in (List.mem_of_getElem? (i := 79) (by decide +kernel)) rfl), by decide, by decide, by decide +kernel⟩
theorem cv_Merge_77 : CV "MovedFolders$Merge" 77 2 y_Merge_markMeetings b_Merge_markMeetings 2 none 0 := ⟨cb_Merge_markMeetings, (Tw_in (List.mem_of_getElem? (i := 637) (by decide +kernel)) rfl), (Tw_in (List.mem_of_getElem? (i := 639) (by decide +kernel)) rfl), (Tw_in (List.mem_of_getElem? (i := 25) (by decide +kernel)) rfl), rfl⟩
set_option maxRecDepth 100000 in
theorem cb_Merge_gatherClashes : CLb y_Merge_gatherClashes b_Merge_gatherClashes 2 none 0 := ⟨(List.mem_of_getElem? (i := 644) rfl), (Tw_in (List.mem_of_getElem? (i := 79) (by decide +kernel)) rfl), by decide, by decide, by decide +kernel⟩
theorem cv_Merge_80 : CV "MovedFolders$Merge" 80 2 y_Merge_gatherClashes b_Merge_gatherClashes 2 none 0 := ⟨cb_Merge_gatherClashes, (Tw_in (List.mem_of_getElem? (i := 641) (by decide +kernel)) rfl), (Tw_in (List.mem_of_getElem? (i := 643) (by decide +kernel)) rfl), (Tw_in (List.mem_of_getElem? (i := 26) (by decide +kernel)) rfl), rfl⟩
set_option maxRecDepth 100000 in
theorem cb_Merge_addOld : CLb y_Merge_addOld b_Merge_addOld 16 none 4 := ⟨(List.mem_of_getElem? (i := 562) rfl), (Tw_in (List.mem_of_getElem? (i := 79) (by decide +kernel)) rfl), by decide, by decide, by decide +kernel⟩
theorem cv_Merge_59 : CV "MovedFolders$Merge" 59 2 y_Merge_addOld b_Merge_addOld 16 none 4 := ⟨cb_Merge_addOld, (Tw_in (List.mem_of_getElem? (i := 559) (by decide +kernel)) rfl), (Tw_in (List.mem_of_getElem? (i := 561) (by decide +kernel)) rfl), (Tw_in (List.mem_of_getElem? (i := 18) (by decide +kernel)) rfl), rfl⟩
set_option maxRecDepth 100000 in
theorem oi_Moves_3 : OI "MovedFolders$Moves" 3 := ⟨(Tw_in (List.mem_of_getElem? (i := 180) (by decide +kernel)) rfl), (Tw_in (List.mem_of_getElem? (i := 91) (by decide +kernel)) rfl), (Tw_in (List.mem_of_getElem? (i := 92) rfl) rfl)⟩
theorem fp_Moves_9 : FP "MovedFolders$Moves" 9 3 0 (.array .int) true := ⟨R_Moves, T_Moves, 4, ty_Moves, rfl, by decide, wt_Moves, (Tw_in (List.mem_of_getElem? (i := 181) (by decide +kernel)) rfl), ty_Moves_ok, nm_Moves, rfl, by decide +kernel, rfl⟩
theorem fp_Moves_15 : FP "MovedFolders$Moves" 15 3 1 (.array .int) true := ⟨R_Moves, T_Moves, 4, ty_Moves, rfl, by decide, wt_Moves, (Tw_in (List.mem_of_getElem? (i := 182) (by decide +kernel)) rfl), ty_Moves_ok, nm_Moves, rfl, by decide +kernel, rfl⟩
theorem ac_boolean : Cond.arrayClass .boolean ∈ Tw := (Tw_in (List.mem_of_getElem? (i := 174) (by decide +kernel)) rfl)
theorem fp_Moves_18 : FP "MovedFolders$Moves" 18 3 2 (.array .boolean) true := ⟨R_Moves, T_Moves, 4, ty_Moves, rfl, by decide, wt_Moves, (Tw_in (List.mem_of_getElem? (i := 183) (by decide +kernel)) rfl), ty_Moves_ok, nm_Moves, rfl, by decide +kernel, rfl⟩
theorem fp_Moves_22 : FP "MovedFolders$Moves" 22 3 3 .int false := ⟨R_Moves, T_Moves, 4, ty_Moves, rfl, by decide, wt_Moves, (Tw_in (List.mem_of_getElem? (i := 184) (by decide +kernel)) rfl), ty_Moves_ok, nm_Moves, rfl, by decide +kernel, rfl⟩
theorem cs_Tree_26 : CS "MovedFolders$Tree" 26 y_Letters_folderOf b_Letters_folderOf 1 (some .int) 1 := ⟨cb_Letters_folderOf, (Tw_in (List.mem_of_getElem? (i := 484) (by decide +kernel)) rfl), (Tw_in (List.mem_of_getElem? (i := 485) (by decide +kernel)) rfl)⟩
set_option maxRecDepth 100000 in
theorem cb_Tree_folderAt : CLb y_Tree_folderAt b_Tree_folderAt 2 (some .int) 1 := ⟨(List.mem_of_getElem? (i := 483) rfl), (Tw_in (List.mem_of_getElem? (i := 74) (by decide +kernel)) rfl), by decide, by decide, by decide +kernel⟩
theorem cv_Tree_35 : CV "MovedFolders$Tree" 35 7 y_Tree_folderAt b_Tree_folderAt 2 (some .int) 1 := ⟨cb_Tree_folderAt, (Tw_in (List.mem_of_getElem? (i := 495) (by decide +kernel)) rfl), (Tw_in (List.mem_of_getElem? (i := 481) (by decide +kernel)) rfl), (Tw_in (List.mem_of_getElem? (i := 482) (by decide +kernel)) rfl), rfl⟩
theorem cv_Pairs_24 : CV "MovedFolders$Pairs" 24 7 y_Tree_size b_Tree_size 1 (some .int) 0 := ⟨cb_Tree_size, (Tw_in (List.mem_of_getElem? (i := 448) (by decide +kernel)) rfl), (Tw_in (List.mem_of_getElem? (i := 365) (by decide +kernel)) rfl), (Tw_in (List.mem_of_getElem? (i := 366) (by decide +kernel)) rfl), rfl⟩
theorem cv_Pairs_30 : CV "MovedFolders$Pairs" 30 5 y_Pairs_mateOf b_Pairs_mateOf 2 (some .int) 1 := ⟨cb_Pairs_mateOf, (Tw_in (List.mem_of_getElem? (i := 507) (by decide +kernel)) rfl), (Tw_in (List.mem_of_getElem? (i := 500) (by decide +kernel)) rfl), (Tw_in (List.mem_of_getElem? (i := 501) (by decide +kernel)) rfl), rfl⟩
theorem cv_Pairs_37 : CV "MovedFolders$Pairs" 37 7 y_Tree_folderAt b_Tree_folderAt 2 (some .int) 1 := ⟨cb_Tree_folderAt, (Tw_in (List.mem_of_getElem? (i := 508) (by decide +kernel)) rfl), (Tw_in (List.mem_of_getElem? (i := 481) (by decide +kernel)) rfl), (Tw_in (List.mem_of_getElem? (i := 482) (by decide +kernel)) rfl), rfl⟩
theorem cv_Moves_46 : CV "MovedFolders$Moves" 46 7 y_Tree_size b_Tree_size 1 (some .int) 0 := ⟨cb_Tree_size, (Tw_in (List.mem_of_getElem? (i := 479) (by decide +kernel)) rfl), (Tw_in (List.mem_of_getElem? (i := 365) (by decide +kernel)) rfl), (Tw_in (List.mem_of_getElem? (i := 366) (by decide +kernel)) rfl), rfl⟩
theorem cv_Moves_67 : CV "MovedFolders$Moves" 67 5 y_Pairs_mateOf b_Pairs_mateOf 2 (some .int) 1 := ⟨cb_Pairs_mateOf, (Tw_in (List.mem_of_getElem? (i := 499) (by decide +kernel)) rfl), (Tw_in (List.mem_of_getElem? (i := 500) (by decide +kernel)) rfl), (Tw_in (List.mem_of_getElem? (i := 501) (by decide +kernel)) rfl), rfl⟩
theorem cv_Moves_52 : CV "MovedFolders$Moves" 52 7 y_Tree_folderAt b_Tree_folderAt 2 (some .int) 1 := ⟨cb_Tree_folderAt, (Tw_in (List.mem_of_getElem? (i := 480) (by decide +kernel)) rfl), (Tw_in (List.mem_of_getElem? (i := 481) (by decide +kernel)) rfl), (Tw_in (List.mem_of_getElem? (i := 482) (by decide +kernel)) rfl), rfl⟩
set_option maxRecDepth 100000 in
theorem cb_Pairs_countWent : CLb y_Pairs_countWent b_Pairs_countWent 8 (some .int) 4 := ⟨(List.mem_of_getElem? (i := 506) rfl), (Tw_in (List.mem_of_getElem? (i := 76) (by decide +kernel)) rfl), by decide, by decide, by decide +kernel⟩
theorem cv_Moves_72 : CV "MovedFolders$Moves" 72 5 y_Pairs_countWent b_Pairs_countWent 8 (some .int) 4 := ⟨cb_Pairs_countWent, (Tw_in (List.mem_of_getElem? (i := 503) (by decide +kernel)) rfl), (Tw_in (List.mem_of_getElem? (i := 504) (by decide +kernel)) rfl), (Tw_in (List.mem_of_getElem? (i := 505) (by decide +kernel)) rfl), rfl⟩
set_option maxRecDepth 100000 in
theorem cb_Tree_liesIn : CLb y_Tree_liesIn b_Tree_liesIn 3 (some .boolean) 1 := ⟨(List.mem_of_getElem? (i := 494) rfl), (Tw_in (List.mem_of_getElem? (i := 74) (by decide +kernel)) rfl), by decide, by decide, by decide +kernel⟩
theorem cv_Moves_55 : CV "MovedFolders$Moves" 55 7 y_Tree_liesIn b_Tree_liesIn 3 (some .boolean) 1 := ⟨cb_Tree_liesIn, (Tw_in (List.mem_of_getElem? (i := 491) (by decide +kernel)) rfl), (Tw_in (List.mem_of_getElem? (i := 492) (by decide +kernel)) rfl), (Tw_in (List.mem_of_getElem? (i := 493) (by decide +kernel)) rfl), rfl⟩
set_option maxRecDepth 100000 in
theorem cb_Moves_mostVoted : CLb y_Moves_mostVoted b_Moves_mostVoted 11 (some .int) 4 := ⟨(List.mem_of_getElem? (i := 498) rfl), (Tw_in (List.mem_of_getElem? (i := 77) (by decide +kernel)) rfl), by decide, by decide, by decide +kernel⟩
theorem cs_Moves_59 : CS "MovedFolders$Moves" 59 y_Moves_mostVoted b_Moves_mostVoted 11 (some .int) 4 := ⟨cb_Moves_mostVoted, (Tw_in (List.mem_of_getElem? (i := 496) (by decide +kernel)) rfl), (Tw_in (List.mem_of_getElem? (i := 497) (by decide +kernel)) rfl)⟩
set_option maxRecDepth 100000 in
theorem cb_Moves_add : CLb y_Moves_add b_Moves_add 3 none 2 := ⟨(List.mem_of_getElem? (i := 512) rfl), (Tw_in (List.mem_of_getElem? (i := 77) (by decide +kernel)) rfl), by decide, by decide, by decide +kernel⟩
theorem cv_Moves_63 : CV "MovedFolders$Moves" 63 3 y_Moves_add b_Moves_add 3 none 2 := ⟨cb_Moves_add, (Tw_in (List.mem_of_getElem? (i := 509) (by decide +kernel)) rfl), (Tw_in (List.mem_of_getElem? (i := 511) (by decide +kernel)) rfl), (Tw_in (List.mem_of_getElem? (i := 13) (by decide +kernel)) rfl), rfl⟩
set_option maxRecDepth 100000 in
theorem oi_Pad_3 : OI "MovedFolders$Pad" 3 := ⟨(Tw_in (List.mem_of_getElem? (i := 98) (by decide +kernel)) rfl), (Tw_in (List.mem_of_getElem? (i := 91) (by decide +kernel)) rfl), (Tw_in (List.mem_of_getElem? (i := 92) rfl) rfl)⟩
theorem fp_Pad_9 : FP "MovedFolders$Pad" 9 4 0 (.array .int) true := ⟨R_Pad, T_Pad, 2, ty_Pad, rfl, by decide, wt_Pad, (Tw_in (List.mem_of_getElem? (i := 99) (by decide +kernel)) rfl), ty_Pad_ok, nm_Pad, rfl, by decide +kernel, rfl⟩
theorem fp_Pad_15 : FP "MovedFolders$Pad" 15 4 1 .int false := ⟨R_Pad, T_Pad, 2, ty_Pad, rfl, by decide, wt_Pad, (Tw_in (List.mem_of_getElem? (i := 100) (by decide +kernel)) rfl), ty_Pad_ok, nm_Pad, rfl, by decide +kernel, rfl⟩
theorem fl_Pad_15 : FL "MovedFolders$Pad" 15 4 1 := ⟨R_Pad, T_Pad, 2, rfl, by decide, wt_Pad, (Tw_in (List.mem_of_getElem? (i := 100) (by decide +kernel)) rfl)⟩
theorem fl_Pad_9 : FL "MovedFolders$Pad" 9 4 0 := ⟨R_Pad, T_Pad, 2, rfl, by decide, wt_Pad, (Tw_in (List.mem_of_getElem? (i := 99) (by decide +kernel)) rfl)⟩
set_option maxRecDepth 100000 in
theorem cb_Pad_signAt : CLb y_Pad_signAt b_Pad_signAt 2 (some .int) 1 := ⟨(List.mem_of_getElem? (i := 322) rfl), (Tw_in (List.mem_of_getElem? (i := 72) (by decide +kernel)) rfl), by decide, by decide, by decide +kernel⟩
theorem cv_Pad_19 : CV "MovedFolders$Pad" 19 4 y_Pad_signAt b_Pad_signAt 2 (some .int) 1 := ⟨cb_Pad_signAt, (Tw_in (List.mem_of_getElem? (i := 319) (by decide +kernel)) rfl), (Tw_in (List.mem_of_getElem? (i := 321) (by decide +kernel)) rfl), (Tw_in (List.mem_of_getElem? (i := 2) (by decide +kernel)) rfl), rfl⟩
set_option maxRecDepth 100000 in
theorem cb_Pad_runOf : CLb y_Pad_runOf b_Pad_runOf 8 (some .int) 4 := ⟨(List.mem_of_getElem? (i := 318) rfl), (Tw_in (List.mem_of_getElem? (i := 72) (by decide +kernel)) rfl), by decide, by decide, by decide +kernel⟩
theorem cv_Pad_23 : CV "MovedFolders$Pad" 23 4 y_Pad_runOf b_Pad_runOf 8 (some .int) 4 := ⟨cb_Pad_runOf, (Tw_in (List.mem_of_getElem? (i := 315) (by decide +kernel)) rfl), (Tw_in (List.mem_of_getElem? (i := 317) (by decide +kernel)) rfl), (Tw_in (List.mem_of_getElem? (i := 1) (by decide +kernel)) rfl), rfl⟩
set_option maxRecDepth 100000 in
theorem cb_Pad_letters : CLb y_Pad_letters b_Pad_letters 1 (some .int) 0 := ⟨(List.mem_of_getElem? (i := 314) rfl), (Tw_in (List.mem_of_getElem? (i := 72) (by decide +kernel)) rfl), by decide, by decide, by decide +kernel⟩
theorem cv_Pad_27 : CV "MovedFolders$Pad" 27 4 y_Pad_letters b_Pad_letters 1 (some .int) 0 := ⟨cb_Pad_letters, (Tw_in (List.mem_of_getElem? (i := 311) (by decide +kernel)) rfl), (Tw_in (List.mem_of_getElem? (i := 313) (by decide +kernel)) rfl), (Tw_in (List.mem_of_getElem? (i := 0) (by decide +kernel)) rfl), rfl⟩
set_option maxRecDepth 100000 in
theorem cb_Pad_figures : CLb y_Pad_figures b_Pad_figures 1 (some .int) 0 := ⟨(List.mem_of_getElem? (i := 326) rfl), (Tw_in (List.mem_of_getElem? (i := 72) (by decide +kernel)) rfl), by decide, by decide, by decide +kernel⟩
theorem cv_Pad_31 : CV "MovedFolders$Pad" 31 4 y_Pad_figures b_Pad_figures 1 (some .int) 0 := ⟨cb_Pad_figures, (Tw_in (List.mem_of_getElem? (i := 323) (by decide +kernel)) rfl), (Tw_in (List.mem_of_getElem? (i := 325) (by decide +kernel)) rfl), (Tw_in (List.mem_of_getElem? (i := 3) (by decide +kernel)) rfl), rfl⟩
theorem cs_Pad_34 : CS "MovedFolders$Pad" 34 y_Letters_shift b_Letters_shift 5 (some .int) 3 := ⟨cb_Letters_shift, (Tw_in (List.mem_of_getElem? (i := 345) (by decide +kernel)) rfl), (Tw_in (List.mem_of_getElem? (i := 346) (by decide +kernel)) rfl)⟩
set_option maxRecDepth 100000 in
theorem oi_Pairs_3 : OI "MovedFolders$Pairs" 3 := ⟨(Tw_in (List.mem_of_getElem? (i := 160) (by decide +kernel)) rfl), (Tw_in (List.mem_of_getElem? (i := 91) (by decide +kernel)) rfl), (Tw_in (List.mem_of_getElem? (i := 92) rfl) rfl)⟩
theorem fp_Pairs_9 : FP "MovedFolders$Pairs" 9 5 0 (.array .int) true := ⟨R_Pairs, T_Pairs, 4, ty_Pairs, rfl, by decide, wt_Pairs, (Tw_in (List.mem_of_getElem? (i := 161) (by decide +kernel)) rfl), ty_Pairs_ok, nm_Pairs, rfl, by decide +kernel, rfl⟩
theorem fp_Pairs_15 : FP "MovedFolders$Pairs" 15 5 1 (.array .int) true := ⟨R_Pairs, T_Pairs, 4, ty_Pairs, rfl, by decide, wt_Pairs, (Tw_in (List.mem_of_getElem? (i := 162) (by decide +kernel)) rfl), ty_Pairs_ok, nm_Pairs, rfl, by decide +kernel, rfl⟩
theorem fp_Pairs_18 : FP "MovedFolders$Pairs" 18 5 2 (.array .int) true := ⟨R_Pairs, T_Pairs, 4, ty_Pairs, rfl, by decide, wt_Pairs, (Tw_in (List.mem_of_getElem? (i := 163) (by decide +kernel)) rfl), ty_Pairs_ok, nm_Pairs, rfl, by decide +kernel, rfl⟩
theorem fp_Pairs_21 : FP "MovedFolders$Pairs" 21 5 3 (.array .int) true := ⟨R_Pairs, T_Pairs, 4, ty_Pairs, rfl, by decide, wt_Pairs, (Tw_in (List.mem_of_getElem? (i := 164) (by decide +kernel)) rfl), ty_Pairs_ok, nm_Pairs, rfl, by decide +kernel, rfl⟩
theorem fl_Pairs_15 : FL "MovedFolders$Pairs" 15 5 1 := ⟨R_Pairs, T_Pairs, 4, rfl, by decide, wt_Pairs, (Tw_in (List.mem_of_getElem? (i := 162) (by decide +kernel)) rfl)⟩
theorem cv_Pairs_34 : CV "MovedFolders$Pairs" 34 5 y_Pairs_sourceOf b_Pairs_sourceOf 2 (some .int) 1 := ⟨cb_Pairs_sourceOf, (Tw_in (List.mem_of_getElem? (i := 751) (by decide +kernel)) rfl), (Tw_in (List.mem_of_getElem? (i := 619) (by decide +kernel)) rfl), (Tw_in (List.mem_of_getElem? (i := 620) (by decide +kernel)) rfl), rfl⟩
theorem cv_Pairs_52 : CV "MovedFolders$Pairs" 52 7 y_Tree_pathAt b_Tree_pathAt 2 (some .int) 1 := ⟨cb_Tree_pathAt, (Tw_in (List.mem_of_getElem? (i := 449) (by decide +kernel)) rfl), (Tw_in (List.mem_of_getElem? (i := 390) (by decide +kernel)) rfl), (Tw_in (List.mem_of_getElem? (i := 391) (by decide +kernel)) rfl), rfl⟩
theorem cv_Pairs_55 : CV "MovedFolders$Pairs" 55 7 y_Tree_find b_Tree_find 3 (some .int) 1 := ⟨cb_Tree_find, (Tw_in (List.mem_of_getElem? (i := 450) (by decide +kernel)) rfl), (Tw_in (List.mem_of_getElem? (i := 357) (by decide +kernel)) rfl), (Tw_in (List.mem_of_getElem? (i := 358) (by decide +kernel)) rfl), rfl⟩
set_option maxRecDepth 100000 in
theorem cb_Pairs_join : CLb y_Pairs_join b_Pairs_join 4 none 3 := ⟨(List.mem_of_getElem? (i := 454) rfl), (Tw_in (List.mem_of_getElem? (i := 76) (by decide +kernel)) rfl), by decide, by decide, by decide +kernel⟩
theorem cv_Pairs_58 : CV "MovedFolders$Pairs" 58 5 y_Pairs_join b_Pairs_join 4 none 3 := ⟨cb_Pairs_join, (Tw_in (List.mem_of_getElem? (i := 451) (by decide +kernel)) rfl), (Tw_in (List.mem_of_getElem? (i := 453) (by decide +kernel)) rfl), (Tw_in (List.mem_of_getElem? (i := 9) (by decide +kernel)) rfl), rfl⟩
theorem kl_Pieces_29 : Cond.constantLong "MovedFolders$Pieces" 29 15 ∈ Tw := (Tw_in (List.mem_of_getElem? (i := 428) (by decide +kernel)) rfl)
set_option maxRecDepth 100000 in
theorem mt_Pieces_31 : ML "MovedFolders$Pieces" 31 := ⟨(Tw_in (List.mem_of_getElem? (i := 429) (by decide +kernel)) rfl), (Tw_in (List.mem_of_getElem? (i := 430) (by decide +kernel)) rfl), (Tw_in (List.mem_of_getElem? (i := 83) (by decide +kernel)) rfl), (Tw_in (List.mem_of_getElem? (i := 431) rfl) rfl)⟩
theorem cs_Pieces_9 : CS "MovedFolders$Pieces" 9 y_Pieces_countOf b_Pieces_countOf 4 (some .int) 1 := ⟨cb_Pieces_countOf, (Tw_in (List.mem_of_getElem? (i := 416) (by decide +kernel)) rfl), (Tw_in (List.mem_of_getElem? (i := 417) (by decide +kernel)) rfl)⟩
set_option maxRecDepth 100000 in
theorem mt_Pieces_15 : MX "MovedFolders$Pieces" 15 := ⟨(Tw_in (List.mem_of_getElem? (i := 419) (by decide +kernel)) rfl), (Tw_in (List.mem_of_getElem? (i := 420) (by decide +kernel)) rfl), (Tw_in (List.mem_of_getElem? (i := 83) (by decide +kernel)) rfl), (Tw_in (List.mem_of_getElem? (i := 421) rfl) rfl)⟩
set_option maxRecDepth 100000 in
theorem cb_Pieces_tally : CLb y_Pieces_tally b_Pieces_tally 5 (some .long) 1 := ⟨(List.mem_of_getElem? (i := 424) rfl), (Tw_in (List.mem_of_getElem? (i := 82) (by decide +kernel)) rfl), by decide, by decide, by decide +kernel⟩
theorem cs_Pieces_21 : CS "MovedFolders$Pieces" 21 y_Pieces_tally b_Pieces_tally 5 (some .long) 1 := ⟨cb_Pieces_tally, (Tw_in (List.mem_of_getElem? (i := 422) (by decide +kernel)) rfl), (Tw_in (List.mem_of_getElem? (i := 423) (by decide +kernel)) rfl)⟩
set_option maxRecDepth 100000 in
theorem cb_Pieces_shared : CLb y_Pieces_shared b_Pieces_shared 10 (some .int) 2 := ⟨(List.mem_of_getElem? (i := 427) rfl), (Tw_in (List.mem_of_getElem? (i := 82) (by decide +kernel)) rfl), by decide, by decide, by decide +kernel⟩
theorem cs_Pieces_25 : CS "MovedFolders$Pieces" 25 y_Pieces_shared b_Pieces_shared 10 (some .int) 2 := ⟨cb_Pieces_shared, (Tw_in (List.mem_of_getElem? (i := 425) (by decide +kernel)) rfl), (Tw_in (List.mem_of_getElem? (i := 426) (by decide +kernel)) rfl)⟩
set_option maxRecDepth 100000 in
theorem cb_Pieces_likeness : CLb y_Pieces_likeness b_Pieces_likeness 3 (some .int) 2 := ⟨(List.mem_of_getElem? (i := 415) rfl), (Tw_in (List.mem_of_getElem? (i := 82) (by decide +kernel)) rfl), by decide, by decide, by decide +kernel⟩
theorem cs_Pairs_72 : CS "MovedFolders$Pairs" 72 y_Pieces_likeness b_Pieces_likeness 3 (some .int) 2 := ⟨cb_Pieces_likeness, (Tw_in (List.mem_of_getElem? (i := 463) (by decide +kernel)) rfl), (Tw_in (List.mem_of_getElem? (i := 414) (by decide +kernel)) rfl)⟩
theorem cs_Tree_32 : CS "MovedFolders$Tree" 32 y_Letters_nameOf b_Letters_nameOf 1 (some .int) 1 := ⟨cb_Letters_nameOf, (Tw_in (List.mem_of_getElem? (i := 468) (by decide +kernel)) rfl), (Tw_in (List.mem_of_getElem? (i := 469) (by decide +kernel)) rfl)⟩
theorem cv_Pairs_62 : CV "MovedFolders$Pairs" 62 7 y_Tree_contentAt b_Tree_contentAt 2 (some .int) 1 := ⟨cb_Tree_contentAt, (Tw_in (List.mem_of_getElem? (i := 459) (by decide +kernel)) rfl), (Tw_in (List.mem_of_getElem? (i := 394) (by decide +kernel)) rfl), (Tw_in (List.mem_of_getElem? (i := 395) (by decide +kernel)) rfl), rfl⟩
set_option maxRecDepth 100000 in
theorem cb_Pairs_rankOf : CLb y_Pairs_rankOf b_Pairs_rankOf 4 (some .int) 3 := ⟨(List.mem_of_getElem? (i := 462) rfl), (Tw_in (List.mem_of_getElem? (i := 76) (by decide +kernel)) rfl), by decide, by decide, by decide +kernel⟩
theorem cs_Pairs_65 : CS "MovedFolders$Pairs" 65 y_Pairs_rankOf b_Pairs_rankOf 4 (some .int) 3 := ⟨cb_Pairs_rankOf, (Tw_in (List.mem_of_getElem? (i := 460) (by decide +kernel)) rfl), (Tw_in (List.mem_of_getElem? (i := 461) (by decide +kernel)) rfl)⟩
set_option maxRecDepth 100000 in
theorem cb_Tree_nameAt : CLb y_Tree_nameAt b_Tree_nameAt 2 (some .int) 1 := ⟨(List.mem_of_getElem? (i := 467) rfl), (Tw_in (List.mem_of_getElem? (i := 74) (by decide +kernel)) rfl), by decide, by decide, by decide +kernel⟩
theorem cv_Pairs_69 : CV "MovedFolders$Pairs" 69 7 y_Tree_nameAt b_Tree_nameAt 2 (some .int) 1 := ⟨cb_Tree_nameAt, (Tw_in (List.mem_of_getElem? (i := 464) (by decide +kernel)) rfl), (Tw_in (List.mem_of_getElem? (i := 465) (by decide +kernel)) rfl), (Tw_in (List.mem_of_getElem? (i := 466) (by decide +kernel)) rfl), rfl⟩
theorem fl_Pairs_21 : FL "MovedFolders$Pairs" 21 5 3 := ⟨R_Pairs, T_Pairs, 4, rfl, by decide, wt_Pairs, (Tw_in (List.mem_of_getElem? (i := 164) (by decide +kernel)) rfl)⟩
set_option maxRecDepth 100000 in
theorem cb_Pairs_joinStayed : CLb y_Pairs_joinStayed b_Pairs_joinStayed 5 none 2 := ⟨(List.mem_of_getElem? (i := 447) rfl), (Tw_in (List.mem_of_getElem? (i := 76) (by decide +kernel)) rfl), by decide, by decide, by decide +kernel⟩
theorem cv_Pairs_40 : CV "MovedFolders$Pairs" 40 5 y_Pairs_joinStayed b_Pairs_joinStayed 5 none 2 := ⟨cb_Pairs_joinStayed, (Tw_in (List.mem_of_getElem? (i := 444) (by decide +kernel)) rfl), (Tw_in (List.mem_of_getElem? (i := 446) (by decide +kernel)) rfl), (Tw_in (List.mem_of_getElem? (i := 8) (by decide +kernel)) rfl), rfl⟩
set_option maxRecDepth 100000 in
theorem cb_Pairs_rankOthers : CLb y_Pairs_rankOthers b_Pairs_rankOthers 9 none 3 := ⟨(List.mem_of_getElem? (i := 458) rfl), (Tw_in (List.mem_of_getElem? (i := 76) (by decide +kernel)) rfl), by decide, by decide, by decide +kernel⟩
theorem cv_Pairs_44 : CV "MovedFolders$Pairs" 44 5 y_Pairs_rankOthers b_Pairs_rankOthers 9 none 3 := ⟨cb_Pairs_rankOthers, (Tw_in (List.mem_of_getElem? (i := 455) (by decide +kernel)) rfl), (Tw_in (List.mem_of_getElem? (i := 457) (by decide +kernel)) rfl), (Tw_in (List.mem_of_getElem? (i := 10) (by decide +kernel)) rfl), rfl⟩
set_option maxRecDepth 100000 in
theorem cb_Pairs_joinBest : CLb y_Pairs_joinBest b_Pairs_joinBest 9 (some .boolean) 2 := ⟨(List.mem_of_getElem? (i := 474) rfl), (Tw_in (List.mem_of_getElem? (i := 76) (by decide +kernel)) rfl), by decide, by decide, by decide +kernel⟩
theorem cv_Pairs_48 : CV "MovedFolders$Pairs" 48 5 y_Pairs_joinBest b_Pairs_joinBest 9 (some .boolean) 2 := ⟨cb_Pairs_joinBest, (Tw_in (List.mem_of_getElem? (i := 471) (by decide +kernel)) rfl), (Tw_in (List.mem_of_getElem? (i := 473) (by decide +kernel)) rfl), (Tw_in (List.mem_of_getElem? (i := 11) (by decide +kernel)) rfl), rfl⟩
set_option maxRecDepth 100000 in
theorem oi_Side_1 : OI "MovedFolders$Side" 1 := ⟨(Tw_in (List.mem_of_getElem? (i := 154) (by decide +kernel)) rfl), (Tw_in (List.mem_of_getElem? (i := 91) (by decide +kernel)) rfl), (Tw_in (List.mem_of_getElem? (i := 92) rfl) rfl)⟩
theorem nw_Side_7 : NW "MovedFolders$Side" 7 5 [.null, .null, .null, .null] 4 := ⟨R_Pairs, T_Pairs, ty_Pairs, rfl, wt_Pairs, ty_Pairs_ok, (Tw_in (List.mem_of_getElem? (i := 155) (by decide +kernel)) rfl), (Tw_in (List.mem_of_getElem? (i := 156) (by decide +kernel)) rfl), (Tw_in (List.mem_of_getElem? (i := 76) (by decide +kernel)) rfl), by decide +kernel, fun _ => rfl⟩
set_option maxRecDepth 100000 in
theorem cb_Pairs_init : CLb y_Pairs_init b_Pairs_init 1 none 0 := ⟨(List.mem_of_getElem? (i := 159) rfl), (Tw_in (List.mem_of_getElem? (i := 76) (by decide +kernel)) rfl), by decide, by decide, by decide +kernel⟩
theorem cn_Side_9 : CN "MovedFolders$Side" 9 y_Pairs_init b_Pairs_init 1 0 "MovedFolders" := ⟨cb_Pairs_init, List.mem_filter.mpr ⟨(List.mem_of_getElem? (i := 157) (by decide +kernel)), rfl⟩, (Tw_in (List.mem_of_getElem? (i := 158) (by decide +kernel)) rfl), rfl⟩
theorem fp_Side_10 : FP "MovedFolders$Side" 10 6 0 (.object "MovedFolders$Pairs") true := ⟨R_Side, T_Side, 2, ty_Side, rfl, by decide, wt_Side, (Tw_in (List.mem_of_getElem? (i := 194) (by decide +kernel)) rfl), ty_Side_ok, nm_Side, rfl, by decide +kernel, rfl⟩
theorem nw_Side_16 : NW "MovedFolders$Side" 16 3 [.null, .null, .null, .int 0] 4 := ⟨R_Moves, T_Moves, ty_Moves, rfl, wt_Moves, ty_Moves_ok, (Tw_in (List.mem_of_getElem? (i := 175) (by decide +kernel)) rfl), (Tw_in (List.mem_of_getElem? (i := 176) (by decide +kernel)) rfl), (Tw_in (List.mem_of_getElem? (i := 77) (by decide +kernel)) rfl), by decide +kernel, fun _ => rfl⟩
set_option maxRecDepth 100000 in
theorem cb_Moves_init : CLb y_Moves_init b_Moves_init 1 none 0 := ⟨(List.mem_of_getElem? (i := 179) rfl), (Tw_in (List.mem_of_getElem? (i := 77) (by decide +kernel)) rfl), by decide, by decide, by decide +kernel⟩
theorem cn_Side_18 : CN "MovedFolders$Side" 18 y_Moves_init b_Moves_init 1 0 "MovedFolders" := ⟨cb_Moves_init, List.mem_filter.mpr ⟨(List.mem_of_getElem? (i := 177) (by decide +kernel)), rfl⟩, (Tw_in (List.mem_of_getElem? (i := 178) (by decide +kernel)) rfl), rfl⟩
theorem fp_Side_19 : FP "MovedFolders$Side" 19 6 1 (.object "MovedFolders$Moves") true := ⟨R_Side, T_Side, 2, ty_Side, rfl, by decide, wt_Side, (Tw_in (List.mem_of_getElem? (i := 197) (by decide +kernel)) rfl), ty_Side_ok, nm_Side, rfl, by decide +kernel, rfl⟩
set_option maxRecDepth 100000 in
theorem oi_MF_3 : OI "MovedFolders" 3 := ⟨(Tw_in (List.mem_of_getElem? (i := 90) (by decide +kernel)) rfl), (Tw_in (List.mem_of_getElem? (i := 91) (by decide +kernel)) rfl), (Tw_in (List.mem_of_getElem? (i := 92) rfl) rfl)⟩
theorem nw_MF_9 : NW "MovedFolders" 9 4 [.null, .int 0] 2 := ⟨R_Pad, T_Pad, ty_Pad, rfl, wt_Pad, ty_Pad_ok, (Tw_in (List.mem_of_getElem? (i := 93) (by decide +kernel)) rfl), (Tw_in (List.mem_of_getElem? (i := 94) (by decide +kernel)) rfl), (Tw_in (List.mem_of_getElem? (i := 72) (by decide +kernel)) rfl), by decide +kernel, fun _ => rfl⟩
set_option maxRecDepth 100000 in
theorem cb_Pad_init : CLb y_Pad_init b_Pad_init 1 none 0 := ⟨(List.mem_of_getElem? (i := 97) rfl), (Tw_in (List.mem_of_getElem? (i := 72) (by decide +kernel)) rfl), by decide, by decide, by decide +kernel⟩
theorem cn_MF_11 : CN "MovedFolders" 11 y_Pad_init b_Pad_init 1 0 "MovedFolders" := ⟨cb_Pad_init, List.mem_filter.mpr ⟨(List.mem_of_getElem? (i := 95) (by decide +kernel)), rfl⟩, (Tw_in (List.mem_of_getElem? (i := 96) (by decide +kernel)) rfl), rfl⟩
theorem fp_MF_12 : FP "MovedFolders" 12 8 0 (.object "MovedFolders$Pad") true := ⟨R_MF, T_MF, 10, ty_MF, rfl, by decide, wt_MF, (Tw_in (List.mem_of_getElem? (i := 252) (by decide +kernel)) rfl), ty_MF_ok, nm_MF, rfl, by decide +kernel, rfl⟩
theorem nw_MF_16 : NW "MovedFolders" 16 0 [.null, .null, .null, .int 0] 4 := ⟨R_Held, T_Held, ty_Held, rfl, wt_Held, ty_Held_ok, (Tw_in (List.mem_of_getElem? (i := 107) (by decide +kernel)) rfl), (Tw_in (List.mem_of_getElem? (i := 108) (by decide +kernel)) rfl), (Tw_in (List.mem_of_getElem? (i := 73) (by decide +kernel)) rfl), by decide +kernel, fun _ => rfl⟩
set_option maxRecDepth 100000 in
theorem cb_Held_init : CLb y_Held_init b_Held_init 1 none 0 := ⟨(List.mem_of_getElem? (i := 111) rfl), (Tw_in (List.mem_of_getElem? (i := 73) (by decide +kernel)) rfl), by decide, by decide, by decide +kernel⟩
theorem cn_MF_18 : CN "MovedFolders" 18 y_Held_init b_Held_init 1 0 "MovedFolders" := ⟨cb_Held_init, List.mem_filter.mpr ⟨(List.mem_of_getElem? (i := 109) (by decide +kernel)), rfl⟩, (Tw_in (List.mem_of_getElem? (i := 110) (by decide +kernel)) rfl), rfl⟩
theorem fp_MF_19 : FP "MovedFolders" 19 8 1 (.object "MovedFolders$Held") true := ⟨R_MF, T_MF, 10, ty_MF, rfl, by decide, wt_MF, (Tw_in (List.mem_of_getElem? (i := 253) (by decide +kernel)) rfl), ty_MF_ok, nm_MF, rfl, by decide +kernel, rfl⟩
theorem fp_MF_23 : FP "MovedFolders" 23 8 2 (.object "MovedFolders$Held") true := ⟨R_MF, T_MF, 10, ty_MF, rfl, by decide, wt_MF, (Tw_in (List.mem_of_getElem? (i := 254) (by decide +kernel)) rfl), ty_MF_ok, nm_MF, rfl, by decide +kernel, rfl⟩
theorem fp_MF_26 : FP "MovedFolders" 26 8 3 (.object "MovedFolders$Held") true := ⟨R_MF, T_MF, 10, ty_MF, rfl, by decide, wt_MF, (Tw_in (List.mem_of_getElem? (i := 255) (by decide +kernel)) rfl), ty_MF_ok, nm_MF, rfl, by decide +kernel, rfl⟩
theorem fp_MF_29 : FP "MovedFolders" 29 8 4 (.array .boolean) true := ⟨R_MF, T_MF, 10, ty_MF, rfl, by decide, wt_MF, (Tw_in (List.mem_of_getElem? (i := 256) (by decide +kernel)) rfl), ty_MF_ok, nm_MF, rfl, by decide +kernel, rfl⟩
theorem nw_MF_33 : NW "MovedFolders" 33 6 [.null, .null] 2 := ⟨R_Side, T_Side, ty_Side, rfl, wt_Side, ty_Side_ok, (Tw_in (List.mem_of_getElem? (i := 149) (by decide +kernel)) rfl), (Tw_in (List.mem_of_getElem? (i := 150) (by decide +kernel)) rfl), (Tw_in (List.mem_of_getElem? (i := 75) (by decide +kernel)) rfl), by decide +kernel, fun _ => rfl⟩
set_option maxRecDepth 100000 in
theorem cb_Side_init : CLb y_Side_init b_Side_init 1 none 0 := ⟨(List.mem_of_getElem? (i := 153) rfl), (Tw_in (List.mem_of_getElem? (i := 75) (by decide +kernel)) rfl), by decide, by decide, by decide +kernel⟩
theorem cn_MF_35 : CN "MovedFolders" 35 y_Side_init b_Side_init 1 0 "MovedFolders" := ⟨cb_Side_init, List.mem_filter.mpr ⟨(List.mem_of_getElem? (i := 151) (by decide +kernel)), rfl⟩, (Tw_in (List.mem_of_getElem? (i := 152) (by decide +kernel)) rfl), rfl⟩
theorem fp_MF_36 : FP "MovedFolders" 36 8 5 (.object "MovedFolders$Side") true := ⟨R_MF, T_MF, 10, ty_MF, rfl, by decide, wt_MF, (Tw_in (List.mem_of_getElem? (i := 257) (by decide +kernel)) rfl), ty_MF_ok, nm_MF, rfl, by decide +kernel, rfl⟩
theorem fp_MF_40 : FP "MovedFolders" 40 8 6 (.object "MovedFolders$Side") true := ⟨R_MF, T_MF, 10, ty_MF, rfl, by decide, wt_MF, (Tw_in (List.mem_of_getElem? (i := 258) (by decide +kernel)) rfl), ty_MF_ok, nm_MF, rfl, by decide +kernel, rfl⟩
theorem nw_MF_43 : NW "MovedFolders" 43 1 [.null, .int 0] 2 := ⟨R_Loops, T_Loops, ty_Loops, rfl, wt_Loops, ty_Loops_ok, (Tw_in (List.mem_of_getElem? (i := 205) (by decide +kernel)) rfl), (Tw_in (List.mem_of_getElem? (i := 206) (by decide +kernel)) rfl), (Tw_in (List.mem_of_getElem? (i := 78) (by decide +kernel)) rfl), by decide +kernel, fun _ => rfl⟩
set_option maxRecDepth 100000 in
theorem cb_Loops_init : CLb y_Loops_init b_Loops_init 1 none 0 := ⟨(List.mem_of_getElem? (i := 209) rfl), (Tw_in (List.mem_of_getElem? (i := 78) (by decide +kernel)) rfl), by decide, by decide, by decide +kernel⟩
theorem cn_MF_45 : CN "MovedFolders" 45 y_Loops_init b_Loops_init 1 0 "MovedFolders" := ⟨cb_Loops_init, List.mem_filter.mpr ⟨(List.mem_of_getElem? (i := 207) (by decide +kernel)), rfl⟩, (Tw_in (List.mem_of_getElem? (i := 208) (by decide +kernel)) rfl), rfl⟩
theorem fp_MF_46 : FP "MovedFolders" 46 8 7 (.object "MovedFolders$Loops") true := ⟨R_MF, T_MF, 10, ty_MF, rfl, by decide, wt_MF, (Tw_in (List.mem_of_getElem? (i := 259) (by decide +kernel)) rfl), ty_MF_ok, nm_MF, rfl, by decide +kernel, rfl⟩
theorem nw_MF_50 : NW "MovedFolders" 50 2 [.null, .null, .null, .null, .int 0, .null, .null, .int 0, .null] 9 := ⟨R_Merge, T_Merge, ty_Merge, rfl, wt_Merge, ty_Merge_ok, (Tw_in (List.mem_of_getElem? (i := 218) (by decide +kernel)) rfl), (Tw_in (List.mem_of_getElem? (i := 219) (by decide +kernel)) rfl), (Tw_in (List.mem_of_getElem? (i := 79) (by decide +kernel)) rfl), by decide +kernel, fun _ => rfl⟩
set_option maxRecDepth 100000 in
theorem cb_Merge_init : CLb y_Merge_init b_Merge_init 1 none 0 := ⟨(List.mem_of_getElem? (i := 222) rfl), (Tw_in (List.mem_of_getElem? (i := 79) (by decide +kernel)) rfl), by decide, by decide, by decide +kernel⟩
theorem cn_MF_52 : CN "MovedFolders" 52 y_Merge_init b_Merge_init 1 0 "MovedFolders" := ⟨cb_Merge_init, List.mem_filter.mpr ⟨(List.mem_of_getElem? (i := 220) (by decide +kernel)), rfl⟩, (Tw_in (List.mem_of_getElem? (i := 221) (by decide +kernel)) rfl), rfl⟩
theorem fp_MF_53 : FP "MovedFolders" 53 8 8 (.object "MovedFolders$Merge") true := ⟨R_MF, T_MF, 10, ty_MF, rfl, by decide, wt_MF, (Tw_in (List.mem_of_getElem? (i := 260) (by decide +kernel)) rfl), ty_MF_ok, nm_MF, rfl, by decide +kernel, rfl⟩
theorem fp_MF_57 : FP "MovedFolders" 57 8 9 .boolean false := ⟨R_MF, T_MF, 10, ty_MF, rfl, by decide, wt_MF, (Tw_in (List.mem_of_getElem? (i := 261) (by decide +kernel)) rfl), ty_MF_ok, nm_MF, rfl, by decide +kernel, rfl⟩
theorem fl_MF_12 : FL "MovedFolders" 12 8 0 := ⟨R_MF, T_MF, 10, rfl, by decide, wt_MF, (Tw_in (List.mem_of_getElem? (i := 252) (by decide +kernel)) rfl)⟩
set_option maxRecDepth 100000 in
theorem cb_Pad_add : CLb y_Pad_add b_Pad_add 2 (some .boolean) 1 := ⟨(List.mem_of_getElem? (i := 290) rfl), (Tw_in (List.mem_of_getElem? (i := 72) (by decide +kernel)) rfl), by decide, by decide, by decide +kernel⟩
theorem cv_MF_61 : CV "MovedFolders" 61 4 y_Pad_add b_Pad_add 2 (some .boolean) 1 := ⟨cb_Pad_add, (Tw_in (List.mem_of_getElem? (i := 287) (by decide +kernel)) rfl), (Tw_in (List.mem_of_getElem? (i := 288) (by decide +kernel)) rfl), (Tw_in (List.mem_of_getElem? (i := 289) (by decide +kernel)) rfl), rfl⟩
set_option maxRecDepth 100000 in
theorem cb_Pad_size : CLb y_Pad_size b_Pad_size 1 (some .int) 0 := ⟨(List.mem_of_getElem? (i := 294) rfl), (Tw_in (List.mem_of_getElem? (i := 72) (by decide +kernel)) rfl), by decide, by decide, by decide +kernel⟩
theorem cv_MF_65 : CV "MovedFolders" 65 4 y_Pad_size b_Pad_size 1 (some .int) 0 := ⟨cb_Pad_size, (Tw_in (List.mem_of_getElem? (i := 291) (by decide +kernel)) rfl), (Tw_in (List.mem_of_getElem? (i := 292) (by decide +kernel)) rfl), (Tw_in (List.mem_of_getElem? (i := 293) (by decide +kernel)) rfl), rfl⟩
set_option maxRecDepth 100000 in
theorem cb_Pad_clear : CLb y_Pad_clear b_Pad_clear 1 none 0 := ⟨(List.mem_of_getElem? (i := 302) rfl), (Tw_in (List.mem_of_getElem? (i := 72) (by decide +kernel)) rfl), by decide, by decide, by decide +kernel⟩
theorem cv_MF_69 : CV "MovedFolders" 69 4 y_Pad_clear b_Pad_clear 1 none 0 := ⟨cb_Pad_clear, (Tw_in (List.mem_of_getElem? (i := 299) (by decide +kernel)) rfl), (Tw_in (List.mem_of_getElem? (i := 300) (by decide +kernel)) rfl), (Tw_in (List.mem_of_getElem? (i := 301) (by decide +kernel)) rfl), rfl⟩
set_option maxRecDepth 100000 in
theorem cb_Pad_firstWrong : CLb y_Pad_firstWrong b_Pad_firstWrong 3 (some .int) 0 := ⟨(List.mem_of_getElem? (i := 310) rfl), (Tw_in (List.mem_of_getElem? (i := 72) (by decide +kernel)) rfl), by decide, by decide, by decide +kernel⟩
theorem cv_MF_72 : CV "MovedFolders" 72 4 y_Pad_firstWrong b_Pad_firstWrong 3 (some .int) 0 := ⟨cb_Pad_firstWrong, (Tw_in (List.mem_of_getElem? (i := 307) (by decide +kernel)) rfl), (Tw_in (List.mem_of_getElem? (i := 308) (by decide +kernel)) rfl), (Tw_in (List.mem_of_getElem? (i := 309) (by decide +kernel)) rfl), rfl⟩
set_option maxRecDepth 100000 in
theorem cb_MF_isSide : CLb y_MF_isSide b_MF_isSide 1 (some .boolean) 1 := ⟨(List.mem_of_getElem? (i := 336) rfl), (Tw_in (List.mem_of_getElem? (i := 71) (by decide +kernel)) rfl), by decide, by decide, by decide +kernel⟩
theorem cs_MF_109 : CS "MovedFolders" 109 y_MF_isSide b_MF_isSide 1 (some .boolean) 1 := ⟨cb_MF_isSide, (Tw_in (List.mem_of_getElem? (i := 334) (by decide +kernel)) rfl), (Tw_in (List.mem_of_getElem? (i := 335) (by decide +kernel)) rfl)⟩
theorem fl_MF_19 : FL "MovedFolders" 19 8 1 := ⟨R_MF, T_MF, 10, rfl, by decide, wt_MF, (Tw_in (List.mem_of_getElem? (i := 253) (by decide +kernel)) rfl)⟩
theorem fl_MF_192 : FL "MovedFolders" 192 0 2 := ⟨R_Held, T_Held, 4, rfl, by decide, wt_Held, (Tw_in (List.mem_of_getElem? (i := 137) (by decide +kernel)) rfl)⟩
theorem fl_MF_189 : FL "MovedFolders" 189 0 1 := ⟨R_Held, T_Held, 4, rfl, by decide, wt_Held, (Tw_in (List.mem_of_getElem? (i := 134) (by decide +kernel)) rfl)⟩
theorem fl_MF_112 : FL "MovedFolders" 112 0 0 := ⟨R_Held, T_Held, 4, rfl, by decide, wt_Held, (Tw_in (List.mem_of_getElem? (i := 131) (by decide +kernel)) rfl)⟩
set_option maxRecDepth 100000 in
theorem cb_MF_isTree : CLb y_MF_isTree b_MF_isTree 1 (some .boolean) 1 := ⟨(List.mem_of_getElem? (i := 333) rfl), (Tw_in (List.mem_of_getElem? (i := 71) (by decide +kernel)) rfl), by decide, by decide, by decide +kernel⟩
theorem cs_MF_75 : CS "MovedFolders" 75 y_MF_isTree b_MF_isTree 1 (some .boolean) 1 := ⟨cb_MF_isTree, (Tw_in (List.mem_of_getElem? (i := 331) (by decide +kernel)) rfl), (Tw_in (List.mem_of_getElem? (i := 332) (by decide +kernel)) rfl)⟩
set_option maxRecDepth 100000 in
theorem cb_MF_treeOf : CLb y_MF_treeOf b_MF_treeOf 2 (some (.object "MovedFolders$Tree")) 1 := ⟨(List.mem_of_getElem? (i := 340) rfl), (Tw_in (List.mem_of_getElem? (i := 71) (by decide +kernel)) rfl), by decide, by decide, by decide +kernel⟩
theorem cv_MF_78 : CV "MovedFolders" 78 8 y_MF_treeOf b_MF_treeOf 2 (some (.object "MovedFolders$Tree")) 1 := ⟨cb_MF_treeOf, (Tw_in (List.mem_of_getElem? (i := 337) (by decide +kernel)) rfl), (Tw_in (List.mem_of_getElem? (i := 339) (by decide +kernel)) rfl), (Tw_in (List.mem_of_getElem? (i := 4) (by decide +kernel)) rfl), rfl⟩
set_option maxRecDepth 100000 in
theorem cb_Pad_readPath : CLb y_Pad_readPath b_Pad_readPath 4 (some .int) 0 := ⟨(List.mem_of_getElem? (i := 344) rfl), (Tw_in (List.mem_of_getElem? (i := 72) (by decide +kernel)) rfl), by decide, by decide, by decide +kernel⟩
theorem cv_MF_82 : CV "MovedFolders" 82 4 y_Pad_readPath b_Pad_readPath 4 (some .int) 0 := ⟨cb_Pad_readPath, (Tw_in (List.mem_of_getElem? (i := 341) (by decide +kernel)) rfl), (Tw_in (List.mem_of_getElem? (i := 342) (by decide +kernel)) rfl), (Tw_in (List.mem_of_getElem? (i := 343) (by decide +kernel)) rfl), rfl⟩
set_option maxRecDepth 100000 in
theorem cb_Pad_readContent : CLb y_Pad_readContent b_Pad_readContent 5 (some .int) 0 := ⟨(List.mem_of_getElem? (i := 351) rfl), (Tw_in (List.mem_of_getElem? (i := 72) (by decide +kernel)) rfl), by decide, by decide, by decide +kernel⟩
theorem cv_MF_85 : CV "MovedFolders" 85 4 y_Pad_readContent b_Pad_readContent 5 (some .int) 0 := ⟨cb_Pad_readContent, (Tw_in (List.mem_of_getElem? (i := 348) (by decide +kernel)) rfl), (Tw_in (List.mem_of_getElem? (i := 349) (by decide +kernel)) rfl), (Tw_in (List.mem_of_getElem? (i := 350) (by decide +kernel)) rfl), rfl⟩
theorem cv_MF_88 : CV "MovedFolders" 88 7 y_Tree_lay b_Tree_lay 4 (some .boolean) 2 := ⟨cb_Tree_lay, (Tw_in (List.mem_of_getElem? (i := 352) (by decide +kernel)) rfl), (Tw_in (List.mem_of_getElem? (i := 353) (by decide +kernel)) rfl), (Tw_in (List.mem_of_getElem? (i := 354) (by decide +kernel)) rfl), rfl⟩
theorem cv_MF_94 : CV "MovedFolders" 94 7 y_Tree_size b_Tree_size 1 (some .int) 0 := ⟨cb_Tree_size, (Tw_in (List.mem_of_getElem? (i := 364) (by decide +kernel)) rfl), (Tw_in (List.mem_of_getElem? (i := 365) (by decide +kernel)) rfl), (Tw_in (List.mem_of_getElem? (i := 366) (by decide +kernel)) rfl), rfl⟩
theorem cv_MF_210 : CV "MovedFolders" 210 7 y_Tree_has b_Tree_has 2 (some .boolean) 1 := ⟨cb_Tree_has, (Tw_in (List.mem_of_getElem? (i := 376) (by decide +kernel)) rfl), (Tw_in (List.mem_of_getElem? (i := 377) (by decide +kernel)) rfl), (Tw_in (List.mem_of_getElem? (i := 378) (by decide +kernel)) rfl), rfl⟩
set_option maxRecDepth 100000 in
theorem cb_MF_isFile : CLb y_MF_isFile b_MF_isFile 3 (some .boolean) 2 := ⟨(List.mem_of_getElem? (i := 375) rfl), (Tw_in (List.mem_of_getElem? (i := 71) (by decide +kernel)) rfl), by decide, by decide, by decide +kernel⟩
theorem cv_MF_95 : CV "MovedFolders" 95 8 y_MF_isFile b_MF_isFile 3 (some .boolean) 2 := ⟨cb_MF_isFile, (Tw_in (List.mem_of_getElem? (i := 372) (by decide +kernel)) rfl), (Tw_in (List.mem_of_getElem? (i := 374) (by decide +kernel)) rfl), (Tw_in (List.mem_of_getElem? (i := 6) (by decide +kernel)) rfl), rfl⟩
set_option maxRecDepth 100000 in
theorem cb_Tree_remove : CLb y_Tree_remove b_Tree_remove 3 none 1 := ⟨(List.mem_of_getElem? (i := 383) rfl), (Tw_in (List.mem_of_getElem? (i := 74) (by decide +kernel)) rfl), by decide, by decide, by decide +kernel⟩
theorem cv_MF_98 : CV "MovedFolders" 98 7 y_Tree_remove b_Tree_remove 3 none 1 := ⟨cb_Tree_remove, (Tw_in (List.mem_of_getElem? (i := 380) (by decide +kernel)) rfl), (Tw_in (List.mem_of_getElem? (i := 381) (by decide +kernel)) rfl), (Tw_in (List.mem_of_getElem? (i := 382) (by decide +kernel)) rfl), rfl⟩
theorem cv_MF_102 : CV "MovedFolders" 102 7 y_Tree_pathAt b_Tree_pathAt 2 (some .int) 1 := ⟨cb_Tree_pathAt, (Tw_in (List.mem_of_getElem? (i := 389) (by decide +kernel)) rfl), (Tw_in (List.mem_of_getElem? (i := 390) (by decide +kernel)) rfl), (Tw_in (List.mem_of_getElem? (i := 391) (by decide +kernel)) rfl), rfl⟩
theorem cv_MF_106 : CV "MovedFolders" 106 7 y_Tree_contentAt b_Tree_contentAt 2 (some .int) 1 := ⟨cb_Tree_contentAt, (Tw_in (List.mem_of_getElem? (i := 393) (by decide +kernel)) rfl), (Tw_in (List.mem_of_getElem? (i := 394) (by decide +kernel)) rfl), (Tw_in (List.mem_of_getElem? (i := 395) (by decide +kernel)) rfl), rfl⟩
theorem cv_MF_116 : CV "MovedFolders" 116 7 y_Tree_take b_Tree_take 3 none 1 := ⟨cb_Tree_take, (Tw_in (List.mem_of_getElem? (i := 401) (by decide +kernel)) rfl), (Tw_in (List.mem_of_getElem? (i := 402) (by decide +kernel)) rfl), (Tw_in (List.mem_of_getElem? (i := 403) (by decide +kernel)) rfl), rfl⟩
theorem fl_MF_120 : FL "MovedFolders" 120 0 3 := ⟨R_Held, T_Held, 4, rfl, by decide, wt_Held, (Tw_in (List.mem_of_getElem? (i := 139) (by decide +kernel)) rfl)⟩
theorem fp_MF_120 : FP "MovedFolders" 120 0 3 .int false := ⟨R_Held, T_Held, 4, ty_Held, rfl, by decide, wt_Held, (Tw_in (List.mem_of_getElem? (i := 139) (by decide +kernel)) rfl), ty_Held_ok, nm_Held, rfl, by decide +kernel, rfl⟩
theorem cs_MF_124 : CS "MovedFolders" 124 y_Pieces_likeness b_Pieces_likeness 3 (some .int) 2 := ⟨cb_Pieces_likeness, (Tw_in (List.mem_of_getElem? (i := 413) (by decide +kernel)) rfl), (Tw_in (List.mem_of_getElem? (i := 414) (by decide +kernel)) rfl)⟩
theorem fl_MF_57 : FL "MovedFolders" 57 8 9 := ⟨R_MF, T_MF, 10, rfl, by decide, wt_MF, (Tw_in (List.mem_of_getElem? (i := 261) (by decide +kernel)) rfl)⟩
theorem fl_MF_36 : FL "MovedFolders" 36 8 5 := ⟨R_MF, T_MF, 10, rfl, by decide, wt_MF, (Tw_in (List.mem_of_getElem? (i := 257) (by decide +kernel)) rfl)⟩
theorem fl_MF_137 : FL "MovedFolders" 137 6 0 := ⟨R_Side, T_Side, 2, rfl, by decide, wt_Side, (Tw_in (List.mem_of_getElem? (i := 196) (by decide +kernel)) rfl)⟩
set_option maxRecDepth 100000 in
theorem cb_Pairs_find : CLb y_Pairs_find b_Pairs_find 6 none 3 := ⟨(List.mem_of_getElem? (i := 443) rfl), (Tw_in (List.mem_of_getElem? (i := 76) (by decide +kernel)) rfl), by decide, by decide, by decide +kernel⟩
theorem cv_MF_213 : CV "MovedFolders" 213 5 y_Pairs_find b_Pairs_find 6 none 3 := ⟨cb_Pairs_find, (Tw_in (List.mem_of_getElem? (i := 440) (by decide +kernel)) rfl), (Tw_in (List.mem_of_getElem? (i := 441) (by decide +kernel)) rfl), (Tw_in (List.mem_of_getElem? (i := 442) (by decide +kernel)) rfl), rfl⟩
theorem fl_MF_40 : FL "MovedFolders" 40 8 6 := ⟨R_MF, T_MF, 10, rfl, by decide, wt_MF, (Tw_in (List.mem_of_getElem? (i := 258) (by decide +kernel)) rfl)⟩
theorem fl_MF_161 : FL "MovedFolders" 161 6 1 := ⟨R_Side, T_Side, 2, rfl, by decide, wt_Side, (Tw_in (List.mem_of_getElem? (i := 199) (by decide +kernel)) rfl)⟩
set_option maxRecDepth 100000 in
theorem cb_Moves_find : CLb y_Moves_find b_Moves_find 6 none 3 := ⟨(List.mem_of_getElem? (i := 478) rfl), (Tw_in (List.mem_of_getElem? (i := 77) (by decide +kernel)) rfl), by decide, by decide, by decide +kernel⟩
theorem cv_MF_217 : CV "MovedFolders" 217 3 y_Moves_find b_Moves_find 6 none 3 := ⟨cb_Moves_find, (Tw_in (List.mem_of_getElem? (i := 475) (by decide +kernel)) rfl), (Tw_in (List.mem_of_getElem? (i := 476) (by decide +kernel)) rfl), (Tw_in (List.mem_of_getElem? (i := 477) (by decide +kernel)) rfl), rfl⟩
theorem fl_MF_46 : FL "MovedFolders" 46 8 7 := ⟨R_MF, T_MF, 10, rfl, by decide, wt_MF, (Tw_in (List.mem_of_getElem? (i := 259) (by decide +kernel)) rfl)⟩
set_option maxRecDepth 100000 in
theorem cb_Loops_mark : CLb y_Loops_mark b_Loops_mark 3 none 2 := ⟨(List.mem_of_getElem? (i := 516) rfl), (Tw_in (List.mem_of_getElem? (i := 78) (by decide +kernel)) rfl), by decide, by decide, by decide +kernel⟩
theorem cv_MF_220 : CV "MovedFolders" 220 1 y_Loops_mark b_Loops_mark 3 none 2 := ⟨cb_Loops_mark, (Tw_in (List.mem_of_getElem? (i := 513) (by decide +kernel)) rfl), (Tw_in (List.mem_of_getElem? (i := 514) (by decide +kernel)) rfl), (Tw_in (List.mem_of_getElem? (i := 515) (by decide +kernel)) rfl), rfl⟩
theorem fl_MF_53 : FL "MovedFolders" 53 8 8 := ⟨R_MF, T_MF, 10, rfl, by decide, wt_MF, (Tw_in (List.mem_of_getElem? (i := 260) (by decide +kernel)) rfl)⟩
set_option maxRecDepth 100000 in
theorem cb_Merge_make : CLb y_Merge_make b_Merge_make 5 none 3 := ⟨(List.mem_of_getElem? (i := 557) rfl), (Tw_in (List.mem_of_getElem? (i := 79) (by decide +kernel)) rfl), by decide, by decide, by decide +kernel⟩
theorem cv_MF_224 : CV "MovedFolders" 224 2 y_Merge_make b_Merge_make 5 none 3 := ⟨cb_Merge_make, (Tw_in (List.mem_of_getElem? (i := 554) (by decide +kernel)) rfl), (Tw_in (List.mem_of_getElem? (i := 555) (by decide +kernel)) rfl), (Tw_in (List.mem_of_getElem? (i := 556) (by decide +kernel)) rfl), rfl⟩
set_option maxRecDepth 100000 in
theorem cb_MF_refresh : CLb y_MF_refresh b_MF_refresh 1 none 0 := ⟨(List.mem_of_getElem? (i := 439) rfl), (Tw_in (List.mem_of_getElem? (i := 71) (by decide +kernel)) rfl), by decide, by decide, by decide +kernel⟩
theorem cv_MF_130 : CV "MovedFolders" 130 8 y_MF_refresh b_MF_refresh 1 none 0 := ⟨cb_MF_refresh, (Tw_in (List.mem_of_getElem? (i := 436) (by decide +kernel)) rfl), (Tw_in (List.mem_of_getElem? (i := 438) (by decide +kernel)) rfl), (Tw_in (List.mem_of_getElem? (i := 7) (by decide +kernel)) rfl), rfl⟩
set_option maxRecDepth 100000 in
theorem cb_MF_sideOf : CLb y_MF_sideOf b_MF_sideOf 2 (some (.object "MovedFolders$Side")) 1 := ⟨(List.mem_of_getElem? (i := 648) rfl), (Tw_in (List.mem_of_getElem? (i := 71) (by decide +kernel)) rfl), by decide, by decide, by decide +kernel⟩
theorem cv_MF_133 : CV "MovedFolders" 133 8 y_MF_sideOf b_MF_sideOf 2 (some (.object "MovedFolders$Side")) 1 := ⟨cb_MF_sideOf, (Tw_in (List.mem_of_getElem? (i := 645) (by decide +kernel)) rfl), (Tw_in (List.mem_of_getElem? (i := 647) (by decide +kernel)) rfl), (Tw_in (List.mem_of_getElem? (i := 27) (by decide +kernel)) rfl), rfl⟩
theorem cv_MF_141 : CV "MovedFolders" 141 5 y_Pairs_mateOf b_Pairs_mateOf 2 (some .int) 1 := ⟨cb_Pairs_mateOf, (Tw_in (List.mem_of_getElem? (i := 649) (by decide +kernel)) rfl), (Tw_in (List.mem_of_getElem? (i := 500) (by decide +kernel)) rfl), (Tw_in (List.mem_of_getElem? (i := 501) (by decide +kernel)) rfl), rfl⟩
set_option maxRecDepth 100000 in
theorem cb_Pairs_wayOf : CLb y_Pairs_wayOf b_Pairs_wayOf 2 (some .int) 1 := ⟨(List.mem_of_getElem? (i := 653) rfl), (Tw_in (List.mem_of_getElem? (i := 76) (by decide +kernel)) rfl), by decide, by decide, by decide +kernel⟩
theorem cv_MF_146 : CV "MovedFolders" 146 5 y_Pairs_wayOf b_Pairs_wayOf 2 (some .int) 1 := ⟨cb_Pairs_wayOf, (Tw_in (List.mem_of_getElem? (i := 650) (by decide +kernel)) rfl), (Tw_in (List.mem_of_getElem? (i := 651) (by decide +kernel)) rfl), (Tw_in (List.mem_of_getElem? (i := 652) (by decide +kernel)) rfl), rfl⟩
theorem cv_MF_149 : CV "MovedFolders" 149 5 y_Pairs_sourceOf b_Pairs_sourceOf 2 (some .int) 1 := ⟨cb_Pairs_sourceOf, (Tw_in (List.mem_of_getElem? (i := 658) (by decide +kernel)) rfl), (Tw_in (List.mem_of_getElem? (i := 619) (by decide +kernel)) rfl), (Tw_in (List.mem_of_getElem? (i := 620) (by decide +kernel)) rfl), rfl⟩
set_option maxRecDepth 100000 in
theorem cb_Letters_isFolder : CLb y_Letters_isFolder b_Letters_isFolder 4 (some .boolean) 1 := ⟨(List.mem_of_getElem? (i := 665) rfl), (Tw_in (List.mem_of_getElem? (i := 81) (by decide +kernel)) rfl), by decide, by decide, by decide +kernel⟩
theorem cs_MF_152 : CS "MovedFolders" 152 y_Letters_isFolder b_Letters_isFolder 4 (some .boolean) 1 := ⟨cb_Letters_isFolder, (Tw_in (List.mem_of_getElem? (i := 663) (by decide +kernel)) rfl), (Tw_in (List.mem_of_getElem? (i := 664) (by decide +kernel)) rfl)⟩
theorem cv_MF_157 : CV "MovedFolders" 157 5 y_Pairs_countWent b_Pairs_countWent 8 (some .int) 4 := ⟨cb_Pairs_countWent, (Tw_in (List.mem_of_getElem? (i := 666) (by decide +kernel)) rfl), (Tw_in (List.mem_of_getElem? (i := 504) (by decide +kernel)) rfl), (Tw_in (List.mem_of_getElem? (i := 505) (by decide +kernel)) rfl), rfl⟩
theorem cv_MF_165 : CV "MovedFolders" 165 3 y_Moves_targetOf b_Moves_targetOf 2 (some .int) 1 := ⟨cb_Moves_targetOf, (Tw_in (List.mem_of_getElem? (i := 671) (by decide +kernel)) rfl), (Tw_in (List.mem_of_getElem? (i := 542) (by decide +kernel)) rfl), (Tw_in (List.mem_of_getElem? (i := 543) (by decide +kernel)) rfl), rfl⟩
set_option maxRecDepth 100000 in
theorem cb_Moves_goesRound : CLb y_Moves_goesRound b_Moves_goesRound 3 (some .boolean) 1 := ⟨(List.mem_of_getElem? (i := 675) rfl), (Tw_in (List.mem_of_getElem? (i := 77) (by decide +kernel)) rfl), by decide, by decide, by decide +kernel⟩
theorem cv_MF_170 : CV "MovedFolders" 170 3 y_Moves_goesRound b_Moves_goesRound 3 (some .boolean) 1 := ⟨cb_Moves_goesRound, (Tw_in (List.mem_of_getElem? (i := 672) (by decide +kernel)) rfl), (Tw_in (List.mem_of_getElem? (i := 673) (by decide +kernel)) rfl), (Tw_in (List.mem_of_getElem? (i := 674) (by decide +kernel)) rfl), rfl⟩
theorem cv_MF_173 : CV "MovedFolders" 173 3 y_Moves_follow b_Moves_follow 8 (some .int) 1 := ⟨cb_Moves_follow, (Tw_in (List.mem_of_getElem? (i := 680) (by decide +kernel)) rfl), (Tw_in (List.mem_of_getElem? (i := 586) (by decide +kernel)) rfl), (Tw_in (List.mem_of_getElem? (i := 587) (by decide +kernel)) rfl), rfl⟩
set_option maxRecDepth 100000 in
theorem cb_Merge_tell : CLb y_Merge_tell b_Merge_tell 3 (some .int) 2 := ⟨(List.mem_of_getElem? (i := 692) rfl), (Tw_in (List.mem_of_getElem? (i := 79) (by decide +kernel)) rfl), by decide, by decide, by decide +kernel⟩
theorem cv_MF_177 : CV "MovedFolders" 177 2 y_Merge_tell b_Merge_tell 3 (some .int) 2 := ⟨cb_Merge_tell, (Tw_in (List.mem_of_getElem? (i := 689) (by decide +kernel)) rfl), (Tw_in (List.mem_of_getElem? (i := 690) (by decide +kernel)) rfl), (Tw_in (List.mem_of_getElem? (i := 691) (by decide +kernel)) rfl), rfl⟩
set_option maxRecDepth 100000 in
theorem cb_Merge_size : CLb y_Merge_size b_Merge_size 1 (some .int) 0 := ⟨(List.mem_of_getElem? (i := 688) rfl), (Tw_in (List.mem_of_getElem? (i := 79) (by decide +kernel)) rfl), by decide, by decide, by decide +kernel⟩
theorem cv_MF_176 : CV "MovedFolders" 176 2 y_Merge_size b_Merge_size 1 (some .int) 0 := ⟨cb_Merge_size, (Tw_in (List.mem_of_getElem? (i := 685) (by decide +kernel)) rfl), (Tw_in (List.mem_of_getElem? (i := 686) (by decide +kernel)) rfl), (Tw_in (List.mem_of_getElem? (i := 687) (by decide +kernel)) rfl), rfl⟩
set_option maxRecDepth 100000 in
theorem cb_Merge_tellClash : CLb y_Merge_tellClash b_Merge_tellClash 3 (some .int) 2 := ⟨(List.mem_of_getElem? (i := 704) rfl), (Tw_in (List.mem_of_getElem? (i := 79) (by decide +kernel)) rfl), by decide, by decide, by decide +kernel⟩
theorem cv_MF_183 : CV "MovedFolders" 183 2 y_Merge_tellClash b_Merge_tellClash 3 (some .int) 2 := ⟨cb_Merge_tellClash, (Tw_in (List.mem_of_getElem? (i := 701) (by decide +kernel)) rfl), (Tw_in (List.mem_of_getElem? (i := 702) (by decide +kernel)) rfl), (Tw_in (List.mem_of_getElem? (i := 703) (by decide +kernel)) rfl), rfl⟩
set_option maxRecDepth 100000 in
theorem cb_Merge_clashSize : CLb y_Merge_clashSize b_Merge_clashSize 1 (some .int) 0 := ⟨(List.mem_of_getElem? (i := 700) rfl), (Tw_in (List.mem_of_getElem? (i := 79) (by decide +kernel)) rfl), by decide, by decide, by decide +kernel⟩
theorem cv_MF_180 : CV "MovedFolders" 180 2 y_Merge_clashSize b_Merge_clashSize 1 (some .int) 0 := ⟨cb_Merge_clashSize, (Tw_in (List.mem_of_getElem? (i := 697) (by decide +kernel)) rfl), (Tw_in (List.mem_of_getElem? (i := 698) (by decide +kernel)) rfl), (Tw_in (List.mem_of_getElem? (i := 699) (by decide +kernel)) rfl), rfl⟩
set_option maxRecDepth 100000 in
theorem cb_Merge_writeTo : CLb y_Merge_writeTo b_Merge_writeTo 3 none 1 := ⟨(List.mem_of_getElem? (i := 712) rfl), (Tw_in (List.mem_of_getElem? (i := 79) (by decide +kernel)) rfl), by decide, by decide, by decide +kernel⟩
theorem cv_MF_186 : CV "MovedFolders" 186 2 y_Merge_writeTo b_Merge_writeTo 3 none 1 := ⟨cb_Merge_writeTo, (Tw_in (List.mem_of_getElem? (i := 709) (by decide +kernel)) rfl), (Tw_in (List.mem_of_getElem? (i := 710) (by decide +kernel)) rfl), (Tw_in (List.mem_of_getElem? (i := 711) (by decide +kernel)) rfl), rfl⟩
theorem fp_MF_189 : FP "MovedFolders" 189 0 1 (.object "MovedFolders$Tree") false := ⟨R_Held, T_Held, 4, ty_Held, rfl, by decide, wt_Held, (Tw_in (List.mem_of_getElem? (i := 134) (by decide +kernel)) rfl), ty_Held_ok, nm_Held, rfl, by decide +kernel, rfl⟩
theorem fp_MF_192 : FP "MovedFolders" 192 0 2 (.object "MovedFolders$Tree") false := ⟨R_Held, T_Held, 4, ty_Held, rfl, by decide, wt_Held, (Tw_in (List.mem_of_getElem? (i := 137) (by decide +kernel)) rfl), ty_Held_ok, nm_Held, rfl, by decide +kernel, rfl⟩
theorem fl_MF_26 : FL "MovedFolders" 26 8 3 := ⟨R_MF, T_MF, 10, rfl, by decide, wt_MF, (Tw_in (List.mem_of_getElem? (i := 255) (by decide +kernel)) rfl)⟩
theorem fl_MF_23 : FL "MovedFolders" 23 8 2 := ⟨R_MF, T_MF, 10, rfl, by decide, wt_MF, (Tw_in (List.mem_of_getElem? (i := 254) (by decide +kernel)) rfl)⟩
set_option maxRecDepth 100000 in
theorem cb_MF_imageOf : CLb y_MF_imageOf b_MF_imageOf 2 (some (.object "MovedFolders$Held")) 1 := ⟨(List.mem_of_getElem? (i := 729) rfl), (Tw_in (List.mem_of_getElem? (i := 71) (by decide +kernel)) rfl), by decide, by decide, by decide +kernel⟩
theorem cv_MF_195 : CV "MovedFolders" 195 8 y_MF_imageOf b_MF_imageOf 2 (some (.object "MovedFolders$Held")) 1 := ⟨cb_MF_imageOf, (Tw_in (List.mem_of_getElem? (i := 726) (by decide +kernel)) rfl), (Tw_in (List.mem_of_getElem? (i := 728) (by decide +kernel)) rfl), (Tw_in (List.mem_of_getElem? (i := 28) (by decide +kernel)) rfl), rfl⟩
set_option maxRecDepth 100000 in
theorem cb_Held_take : CLb y_Held_take b_Held_take 2 none 1 := ⟨(List.mem_of_getElem? (i := 733) rfl), (Tw_in (List.mem_of_getElem? (i := 73) (by decide +kernel)) rfl), by decide, by decide, by decide +kernel⟩
theorem cv_MF_199 : CV "MovedFolders" 199 0 y_Held_take b_Held_take 2 none 1 := ⟨cb_Held_take, (Tw_in (List.mem_of_getElem? (i := 730) (by decide +kernel)) rfl), (Tw_in (List.mem_of_getElem? (i := 731) (by decide +kernel)) rfl), (Tw_in (List.mem_of_getElem? (i := 732) (by decide +kernel)) rfl), rfl⟩
theorem fl_MF_29 : FL "MovedFolders" 29 8 4 := ⟨R_MF, T_MF, 10, rfl, by decide, wt_MF, (Tw_in (List.mem_of_getElem? (i := 256) (by decide +kernel)) rfl)⟩
set_option maxRecDepth 100000 in
theorem cb_Pairs_countGone : CLb y_Pairs_countGone b_Pairs_countGone 4 (some .int) 1 := ⟨(List.mem_of_getElem? (i := 746) rfl), (Tw_in (List.mem_of_getElem? (i := 76) (by decide +kernel)) rfl), by decide, by decide, by decide +kernel⟩
theorem cv_MF_202 : CV "MovedFolders" 202 5 y_Pairs_countGone b_Pairs_countGone 4 (some .int) 1 := ⟨cb_Pairs_countGone, (Tw_in (List.mem_of_getElem? (i := 743) (by decide +kernel)) rfl), (Tw_in (List.mem_of_getElem? (i := 744) (by decide +kernel)) rfl), (Tw_in (List.mem_of_getElem? (i := 745) (by decide +kernel)) rfl), rfl⟩
set_option maxRecDepth 100000 in
theorem cb_Pairs_countNew : CLb y_Pairs_countNew b_Pairs_countNew 4 (some .int) 1 := ⟨(List.mem_of_getElem? (i := 750) rfl), (Tw_in (List.mem_of_getElem? (i := 76) (by decide +kernel)) rfl), by decide, by decide, by decide +kernel⟩
theorem cv_MF_206 : CV "MovedFolders" 206 5 y_Pairs_countNew b_Pairs_countNew 4 (some .int) 1 := ⟨cb_Pairs_countNew, (Tw_in (List.mem_of_getElem? (i := 747) (by decide +kernel)) rfl), (Tw_in (List.mem_of_getElem? (i := 748) (by decide +kernel)) rfl), (Tw_in (List.mem_of_getElem? (i := 749) (by decide +kernel)) rfl), rfl⟩
theorem cv_MF_209 : CV "MovedFolders" 209 3 y_Moves_size b_Moves_size 1 (some .int) 0 := ⟨cb_Moves_size, (Tw_in (List.mem_of_getElem? (i := 752) (by decide +kernel)) rfl), (Tw_in (List.mem_of_getElem? (i := 522) (by decide +kernel)) rfl), (Tw_in (List.mem_of_getElem? (i := 523) (by decide +kernel)) rfl), rfl⟩
set_option maxRecDepth 100000 in
theorem oi_Mo_1 : OI "MovedFoldersModel" 1 := ⟨(Tw_in (List.mem_of_getElem? (i := 758) (by decide +kernel)) rfl), (Tw_in (List.mem_of_getElem? (i := 91) (by decide +kernel)) rfl), (Tw_in (List.mem_of_getElem? (i := 92) rfl) rfl)⟩
theorem fp_Mo_7 : FP "MovedFoldersModel" 7 9 0 (.array .int) true := ⟨R_Mo, T_Mo, 27, ty_Mo, rfl, by decide, wt_Mo, (Tw_in (List.mem_of_getElem? (i := 759) (by decide +kernel)) rfl), ty_Mo_ok, nm_Mo, rfl, by decide +kernel, rfl⟩
theorem fp_Mo_13 : FP "MovedFoldersModel" 13 9 1 (.array .int) true := ⟨R_Mo, T_Mo, 27, ty_Mo, rfl, by decide, wt_Mo, (Tw_in (List.mem_of_getElem? (i := 760) (by decide +kernel)) rfl), ty_Mo_ok, nm_Mo, rfl, by decide +kernel, rfl⟩
theorem fp_Mo_16 : FP "MovedFoldersModel" 16 9 2 (.array .int) true := ⟨R_Mo, T_Mo, 27, ty_Mo, rfl, by decide, wt_Mo, (Tw_in (List.mem_of_getElem? (i := 761) (by decide +kernel)) rfl), ty_Mo_ok, nm_Mo, rfl, by decide +kernel, rfl⟩
theorem fp_Mo_19 : FP "MovedFoldersModel" 19 9 3 .int false := ⟨R_Mo, T_Mo, 27, ty_Mo, rfl, by decide, wt_Mo, (Tw_in (List.mem_of_getElem? (i := 762) (by decide +kernel)) rfl), ty_Mo_ok, nm_Mo, rfl, by decide +kernel, rfl⟩
theorem fp_Mo_23 : FP "MovedFoldersModel" 23 9 4 (.array .int) true := ⟨R_Mo, T_Mo, 27, ty_Mo, rfl, by decide, wt_Mo, (Tw_in (List.mem_of_getElem? (i := 763) (by decide +kernel)) rfl), ty_Mo_ok, nm_Mo, rfl, by decide +kernel, rfl⟩
theorem fp_Mo_26 : FP "MovedFoldersModel" 26 9 11 (.array .int) true := ⟨R_Mo, T_Mo, 27, ty_Mo, rfl, by decide, wt_Mo, (Tw_in (List.mem_of_getElem? (i := 770) (by decide +kernel)) rfl), ty_Mo_ok, nm_Mo, rfl, by decide +kernel, rfl⟩
theorem fp_Mo_29 : FP "MovedFoldersModel" 29 9 12 (.array .int) true := ⟨R_Mo, T_Mo, 27, ty_Mo, rfl, by decide, wt_Mo, (Tw_in (List.mem_of_getElem? (i := 771) (by decide +kernel)) rfl), ty_Mo_ok, nm_Mo, rfl, by decide +kernel, rfl⟩
theorem fp_Mo_32 : FP "MovedFoldersModel" 32 9 13 (.array .int) true := ⟨R_Mo, T_Mo, 27, ty_Mo, rfl, by decide, wt_Mo, (Tw_in (List.mem_of_getElem? (i := 772) (by decide +kernel)) rfl), ty_Mo_ok, nm_Mo, rfl, by decide +kernel, rfl⟩
theorem fp_Mo_35 : FP "MovedFoldersModel" 35 9 14 (.array .int) true := ⟨R_Mo, T_Mo, 27, ty_Mo, rfl, by decide, wt_Mo, (Tw_in (List.mem_of_getElem? (i := 773) (by decide +kernel)) rfl), ty_Mo_ok, nm_Mo, rfl, by decide +kernel, rfl⟩
theorem fp_Mo_38 : FP "MovedFoldersModel" 38 9 15 (.array .boolean) true := ⟨R_Mo, T_Mo, 27, ty_Mo, rfl, by decide, wt_Mo, (Tw_in (List.mem_of_getElem? (i := 774) (by decide +kernel)) rfl), ty_Mo_ok, nm_Mo, rfl, by decide +kernel, rfl⟩
theorem fp_Mo_42 : FP "MovedFoldersModel" 42 9 16 (.array .int) true := ⟨R_Mo, T_Mo, 27, ty_Mo, rfl, by decide, wt_Mo, (Tw_in (List.mem_of_getElem? (i := 775) (by decide +kernel)) rfl), ty_Mo_ok, nm_Mo, rfl, by decide +kernel, rfl⟩
theorem fp_Mo_45 : FP "MovedFoldersModel" 45 9 17 (.array .int) true := ⟨R_Mo, T_Mo, 27, ty_Mo, rfl, by decide, wt_Mo, (Tw_in (List.mem_of_getElem? (i := 776) (by decide +kernel)) rfl), ty_Mo_ok, nm_Mo, rfl, by decide +kernel, rfl⟩
theorem fp_Mo_48 : FP "MovedFoldersModel" 48 9 18 (.array .int) true := ⟨R_Mo, T_Mo, 27, ty_Mo, rfl, by decide, wt_Mo, (Tw_in (List.mem_of_getElem? (i := 777) (by decide +kernel)) rfl), ty_Mo_ok, nm_Mo, rfl, by decide +kernel, rfl⟩
theorem fp_Mo_51 : FP "MovedFoldersModel" 51 9 19 (.array .int) true := ⟨R_Mo, T_Mo, 27, ty_Mo, rfl, by decide, wt_Mo, (Tw_in (List.mem_of_getElem? (i := 778) (by decide +kernel)) rfl), ty_Mo_ok, nm_Mo, rfl, by decide +kernel, rfl⟩
theorem fp_Mo_54 : FP "MovedFoldersModel" 54 9 22 (.array .boolean) true := ⟨R_Mo, T_Mo, 27, ty_Mo, rfl, by decide, wt_Mo, (Tw_in (List.mem_of_getElem? (i := 781) (by decide +kernel)) rfl), ty_Mo_ok, nm_Mo, rfl, by decide +kernel, rfl⟩
theorem fp_Mo_57 : FP "MovedFoldersModel" 57 9 23 (.array .int) true := ⟨R_Mo, T_Mo, 27, ty_Mo, rfl, by decide, wt_Mo, (Tw_in (List.mem_of_getElem? (i := 782) (by decide +kernel)) rfl), ty_Mo_ok, nm_Mo, rfl, by decide +kernel, rfl⟩
theorem fp_Mo_60 : FP "MovedFoldersModel" 60 9 24 (.array .boolean) true := ⟨R_Mo, T_Mo, 27, ty_Mo, rfl, by decide, wt_Mo, (Tw_in (List.mem_of_getElem? (i := 783) (by decide +kernel)) rfl), ty_Mo_ok, nm_Mo, rfl, by decide +kernel, rfl⟩
theorem kl_Mo_63 : Cond.constantLong "MovedFoldersModel" 63 2 ∈ Tw := (Tw_in (List.mem_of_getElem? (i := 878) (by decide +kernel)) rfl)
set_option maxRecDepth 100000 in
theorem cb_Mo_in : CLb y_Mo_in b_Mo_in 6 (some .boolean) 3 := ⟨(List.mem_of_getElem? (i := 849) rfl), (Tw_in (List.mem_of_getElem? (i := 80) (by decide +kernel)) rfl), by decide, by decide, by decide +kernel⟩
theorem cs_Mo_65 : CS "MovedFoldersModel" 65 y_Mo_in b_Mo_in 6 (some .boolean) 3 := ⟨cb_Mo_in, (Tw_in (List.mem_of_getElem? (i := 847) (by decide +kernel)) rfl), (Tw_in (List.mem_of_getElem? (i := 848) (by decide +kernel)) rfl)⟩
set_option maxRecDepth 100000 in
theorem cb_Mo_isTree : CLb y_Mo_isTree b_Mo_isTree 1 (some .boolean) 1 := ⟨(List.mem_of_getElem? (i := 877) rfl), (Tw_in (List.mem_of_getElem? (i := 80) (by decide +kernel)) rfl), by decide, by decide, by decide +kernel⟩
theorem cs_Mo_69 : CS "MovedFoldersModel" 69 y_Mo_isTree b_Mo_isTree 1 (some .boolean) 1 := ⟨cb_Mo_isTree, (Tw_in (List.mem_of_getElem? (i := 875) (by decide +kernel)) rfl), (Tw_in (List.mem_of_getElem? (i := 876) (by decide +kernel)) rfl)⟩
theorem fl_Mo_16 : FL "MovedFoldersModel" 16 9 2 := ⟨R_Mo, T_Mo, 27, rfl, by decide, wt_Mo, (Tw_in (List.mem_of_getElem? (i := 761) (by decide +kernel)) rfl)⟩
theorem fl_Mo_7 : FL "MovedFoldersModel" 7 9 0 := ⟨R_Mo, T_Mo, 27, rfl, by decide, wt_Mo, (Tw_in (List.mem_of_getElem? (i := 759) (by decide +kernel)) rfl)⟩
theorem fl_Mo_13 : FL "MovedFoldersModel" 13 9 1 := ⟨R_Mo, T_Mo, 27, rfl, by decide, wt_Mo, (Tw_in (List.mem_of_getElem? (i := 760) (by decide +kernel)) rfl)⟩
theorem kl_Mo_73 : Cond.constantLong "MovedFoldersModel" 73 444 ∈ Tw := (Tw_in (List.mem_of_getElem? (i := 974) (by decide +kernel)) rfl)
theorem kl_Mo_75 : Cond.constantLong "MovedFoldersModel" 75 33 ∈ Tw := (Tw_in (List.mem_of_getElem? (i := 845) (by decide +kernel)) rfl)
theorem kl_Mo_77 : Cond.constantLong "MovedFoldersModel" 77 126 ∈ Tw := (Tw_in (List.mem_of_getElem? (i := 846) (by decide +kernel)) rfl)
theorem fl_Mo_79 : FL "MovedFoldersModel" 79 9 5 := ⟨R_Mo, T_Mo, 27, rfl, by decide, wt_Mo, (Tw_in (List.mem_of_getElem? (i := 764) (by decide +kernel)) rfl)⟩
theorem fl_Mo_23 : FL "MovedFoldersModel" 23 9 4 := ⟨R_Mo, T_Mo, 27, rfl, by decide, wt_Mo, (Tw_in (List.mem_of_getElem? (i := 763) (by decide +kernel)) rfl)⟩
theorem fp_Mo_79 : FP "MovedFoldersModel" 79 9 5 .int false := ⟨R_Mo, T_Mo, 27, ty_Mo, rfl, by decide, wt_Mo, (Tw_in (List.mem_of_getElem? (i := 764) (by decide +kernel)) rfl), ty_Mo_ok, nm_Mo, rfl, by decide +kernel, rfl⟩
theorem kl_Mo_103 : Cond.constantLong "MovedFoldersModel" 103 48 ∈ Tw := (Tw_in (List.mem_of_getElem? (i := 869) (by decide +kernel)) rfl)
theorem kl_Mo_105 : Cond.constantLong "MovedFoldersModel" 105 57 ∈ Tw := (Tw_in (List.mem_of_getElem? (i := 870) (by decide +kernel)) rfl)
theorem fl_Mo_107 : FL "MovedFoldersModel" 107 9 10 := ⟨R_Mo, T_Mo, 27, rfl, by decide, wt_Mo, (Tw_in (List.mem_of_getElem? (i := 769) (by decide +kernel)) rfl)⟩
theorem fl_Mo_110 : FL "MovedFoldersModel" 110 9 9 := ⟨R_Mo, T_Mo, 27, rfl, by decide, wt_Mo, (Tw_in (List.mem_of_getElem? (i := 768) (by decide +kernel)) rfl)⟩
theorem fp_Mo_110 : FP "MovedFoldersModel" 110 9 9 .int false := ⟨R_Mo, T_Mo, 27, ty_Mo, rfl, by decide, wt_Mo, (Tw_in (List.mem_of_getElem? (i := 768) (by decide +kernel)) rfl), ty_Mo_ok, nm_Mo, rfl, by decide +kernel, rfl⟩
theorem fp_Mo_107 : FP "MovedFoldersModel" 107 9 10 .int false := ⟨R_Mo, T_Mo, 27, ty_Mo, rfl, by decide, wt_Mo, (Tw_in (List.mem_of_getElem? (i := 769) (by decide +kernel)) rfl), ty_Mo_ok, nm_Mo, rfl, by decide +kernel, rfl⟩
theorem kl_Mo_96 : Cond.constantLong "MovedFoldersModel" 96 97 ∈ Tw := (Tw_in (List.mem_of_getElem? (i := 867) (by decide +kernel)) rfl)
theorem kl_Mo_98 : Cond.constantLong "MovedFoldersModel" 98 104 ∈ Tw := (Tw_in (List.mem_of_getElem? (i := 868) (by decide +kernel)) rfl)
theorem fp_Mo_100 : FP "MovedFoldersModel" 100 9 8 .int false := ⟨R_Mo, T_Mo, 27, ty_Mo, rfl, by decide, wt_Mo, (Tw_in (List.mem_of_getElem? (i := 767) (by decide +kernel)) rfl), ty_Mo_ok, nm_Mo, rfl, by decide +kernel, rfl⟩
theorem kl_Mo_82 : Cond.constantLong "MovedFoldersModel" 82 65 ∈ Tw := (Tw_in (List.mem_of_getElem? (i := 862) (by decide +kernel)) rfl)
theorem kl_Mo_84 : Cond.constantLong "MovedFoldersModel" 84 68 ∈ Tw := (Tw_in (List.mem_of_getElem? (i := 863) (by decide +kernel)) rfl)
theorem fl_Mo_86 : FL "MovedFoldersModel" 86 9 7 := ⟨R_Mo, T_Mo, 27, rfl, by decide, wt_Mo, (Tw_in (List.mem_of_getElem? (i := 766) (by decide +kernel)) rfl)⟩
theorem fl_Mo_89 : FL "MovedFoldersModel" 89 9 6 := ⟨R_Mo, T_Mo, 27, rfl, by decide, wt_Mo, (Tw_in (List.mem_of_getElem? (i := 765) (by decide +kernel)) rfl)⟩
set_option maxRecDepth 100000 in
theorem cb_Mo_worth : CLb y_Mo_worth b_Mo_worth 1 (some .int) 1 := ⟨(List.mem_of_getElem? (i := 866) rfl), (Tw_in (List.mem_of_getElem? (i := 80) (by decide +kernel)) rfl), by decide, by decide, by decide +kernel⟩
theorem cs_Mo_92 : CS "MovedFoldersModel" 92 y_Mo_worth b_Mo_worth 1 (some .int) 1 := ⟨cb_Mo_worth, (Tw_in (List.mem_of_getElem? (i := 864) (by decide +kernel)) rfl), (Tw_in (List.mem_of_getElem? (i := 865) (by decide +kernel)) rfl)⟩
theorem fp_Mo_89 : FP "MovedFoldersModel" 89 9 6 .int false := ⟨R_Mo, T_Mo, 27, ty_Mo, rfl, by decide, wt_Mo, (Tw_in (List.mem_of_getElem? (i := 765) (by decide +kernel)) rfl), ty_Mo_ok, nm_Mo, rfl, by decide +kernel, rfl⟩
theorem fp_Mo_86 : FP "MovedFoldersModel" 86 9 7 .int false := ⟨R_Mo, T_Mo, 27, ty_Mo, rfl, by decide, wt_Mo, (Tw_in (List.mem_of_getElem? (i := 766) (by decide +kernel)) rfl), ty_Mo_ok, nm_Mo, rfl, by decide +kernel, rfl⟩
set_option maxRecDepth 100000 in
theorem cb_Mo_goOn : CLb y_Mo_goOn b_Mo_goOn 3 (some .int) 2 := ⟨(List.mem_of_getElem? (i := 861) rfl), (Tw_in (List.mem_of_getElem? (i := 80) (by decide +kernel)) rfl), by decide, by decide, by decide +kernel⟩
theorem cv_Mo_113 : CV "MovedFoldersModel" 113 9 y_Mo_goOn b_Mo_goOn 3 (some .int) 2 := ⟨cb_Mo_goOn, (Tw_in (List.mem_of_getElem? (i := 858) (by decide +kernel)) rfl), (Tw_in (List.mem_of_getElem? (i := 860) (by decide +kernel)) rfl), (Tw_in (List.mem_of_getElem? (i := 29) (by decide +kernel)) rfl), rfl⟩
set_option maxRecDepth 100000 in
theorem cb_Mo_fault : CLb y_Mo_fault b_Mo_fault 3 (some .int) 0 := ⟨(List.mem_of_getElem? (i := 857) rfl), (Tw_in (List.mem_of_getElem? (i := 80) (by decide +kernel)) rfl), by decide, by decide, by decide +kernel⟩
theorem cv_Mo_117 : CV "MovedFoldersModel" 117 9 y_Mo_fault b_Mo_fault 3 (some .int) 0 := ⟨cb_Mo_fault, (Tw_in (List.mem_of_getElem? (i := 879) (by decide +kernel)) rfl), (Tw_in (List.mem_of_getElem? (i := 855) (by decide +kernel)) rfl), (Tw_in (List.mem_of_getElem? (i := 856) (by decide +kernel)) rfl), rfl⟩
theorem fl_Mo_100 : FL "MovedFoldersModel" 100 9 8 := ⟨R_Mo, T_Mo, 27, rfl, by decide, wt_Mo, (Tw_in (List.mem_of_getElem? (i := 767) (by decide +kernel)) rfl)⟩
set_option maxRecDepth 100000 in
theorem cb_Mo_placeOf : CLb y_Mo_placeOf b_Mo_placeOf 4 (some .int) 2 := ⟨(List.mem_of_getElem? (i := 883) rfl), (Tw_in (List.mem_of_getElem? (i := 80) (by decide +kernel)) rfl), by decide, by decide, by decide +kernel⟩
theorem cv_Mo_121 : CV "MovedFoldersModel" 121 9 y_Mo_placeOf b_Mo_placeOf 4 (some .int) 2 := ⟨cb_Mo_placeOf, (Tw_in (List.mem_of_getElem? (i := 880) (by decide +kernel)) rfl), (Tw_in (List.mem_of_getElem? (i := 882) (by decide +kernel)) rfl), (Tw_in (List.mem_of_getElem? (i := 30) (by decide +kernel)) rfl), rfl⟩
set_option maxRecDepth 100000 in
theorem cb_Mo_layAt : CLb y_Mo_layAt b_Mo_layAt 6 none 4 := ⟨(List.mem_of_getElem? (i := 887) rfl), (Tw_in (List.mem_of_getElem? (i := 80) (by decide +kernel)) rfl), by decide, by decide, by decide +kernel⟩
theorem cv_Mo_124 : CV "MovedFoldersModel" 124 9 y_Mo_layAt b_Mo_layAt 6 none 4 := ⟨cb_Mo_layAt, (Tw_in (List.mem_of_getElem? (i := 884) (by decide +kernel)) rfl), (Tw_in (List.mem_of_getElem? (i := 886) (by decide +kernel)) rfl), (Tw_in (List.mem_of_getElem? (i := 31) (by decide +kernel)) rfl), rfl⟩
set_option maxRecDepth 100000 in
theorem cb_Mo_isFile : CLb y_Mo_isFile b_Mo_isFile 3 (some .boolean) 2 := ⟨(List.mem_of_getElem? (i := 895) rfl), (Tw_in (List.mem_of_getElem? (i := 80) (by decide +kernel)) rfl), by decide, by decide, by decide +kernel⟩
theorem cv_Mo_128 : CV "MovedFoldersModel" 128 9 y_Mo_isFile b_Mo_isFile 3 (some .boolean) 2 := ⟨cb_Mo_isFile, (Tw_in (List.mem_of_getElem? (i := 892) (by decide +kernel)) rfl), (Tw_in (List.mem_of_getElem? (i := 894) (by decide +kernel)) rfl), (Tw_in (List.mem_of_getElem? (i := 32) (by decide +kernel)) rfl), rfl⟩
set_option maxRecDepth 100000 in
theorem cb_Mo_contentAt : CLb y_Mo_contentAt b_Mo_contentAt 3 (some .int) 2 := ⟨(List.mem_of_getElem? (i := 903) rfl), (Tw_in (List.mem_of_getElem? (i := 80) (by decide +kernel)) rfl), by decide, by decide, by decide +kernel⟩
theorem cv_Mo_132 : CV "MovedFoldersModel" 132 9 y_Mo_contentAt b_Mo_contentAt 3 (some .int) 2 := ⟨cb_Mo_contentAt, (Tw_in (List.mem_of_getElem? (i := 900) (by decide +kernel)) rfl), (Tw_in (List.mem_of_getElem? (i := 902) (by decide +kernel)) rfl), (Tw_in (List.mem_of_getElem? (i := 33) (by decide +kernel)) rfl), rfl⟩
set_option maxRecDepth 100000 in
theorem cb_Mo_isSide : CLb y_Mo_isSide b_Mo_isSide 1 (some .boolean) 1 := ⟨(List.mem_of_getElem? (i := 910) rfl), (Tw_in (List.mem_of_getElem? (i := 80) (by decide +kernel)) rfl), by decide, by decide, by decide +kernel⟩
theorem cs_Mo_135 : CS "MovedFoldersModel" 135 y_Mo_isSide b_Mo_isSide 1 (some .boolean) 1 := ⟨cb_Mo_isSide, (Tw_in (List.mem_of_getElem? (i := 908) (by decide +kernel)) rfl), (Tw_in (List.mem_of_getElem? (i := 909) (by decide +kernel)) rfl)⟩
set_option maxRecDepth 100000 in
theorem cb_Mo_piecesIn : CLb y_Mo_piecesIn b_Mo_piecesIn 3 (some .int) 1 := ⟨(List.mem_of_getElem? (i := 925) rfl), (Tw_in (List.mem_of_getElem? (i := 80) (by decide +kernel)) rfl), by decide, by decide, by decide +kernel⟩
theorem cs_Mo_138 : CS "MovedFoldersModel" 138 y_Mo_piecesIn b_Mo_piecesIn 3 (some .int) 1 := ⟨cb_Mo_piecesIn, (Tw_in (List.mem_of_getElem? (i := 923) (by decide +kernel)) rfl), (Tw_in (List.mem_of_getElem? (i := 924) (by decide +kernel)) rfl)⟩
set_option maxRecDepth 100000 in
theorem cb_Mo_greater : CLb y_Mo_greater b_Mo_greater 2 (some .int) 2 := ⟨(List.mem_of_getElem? (i := 928) rfl), (Tw_in (List.mem_of_getElem? (i := 80) (by decide +kernel)) rfl), by decide, by decide, by decide +kernel⟩
theorem cs_Mo_141 : CS "MovedFoldersModel" 141 y_Mo_greater b_Mo_greater 2 (some .int) 2 := ⟨cb_Mo_greater, (Tw_in (List.mem_of_getElem? (i := 926) (by decide +kernel)) rfl), (Tw_in (List.mem_of_getElem? (i := 927) (by decide +kernel)) rfl)⟩
set_option maxRecDepth 100000 in
theorem cb_Mo_timesIn : CLb y_Mo_timesIn b_Mo_timesIn 4 (some .int) 2 := ⟨(List.mem_of_getElem? (i := 931) rfl), (Tw_in (List.mem_of_getElem? (i := 80) (by decide +kernel)) rfl), by decide, by decide, by decide +kernel⟩
theorem cs_Mo_144 : CS "MovedFoldersModel" 144 y_Mo_timesIn b_Mo_timesIn 4 (some .int) 2 := ⟨cb_Mo_timesIn, (Tw_in (List.mem_of_getElem? (i := 929) (by decide +kernel)) rfl), (Tw_in (List.mem_of_getElem? (i := 930) (by decide +kernel)) rfl)⟩
set_option maxRecDepth 100000 in
theorem cb_Mo_less : CLb y_Mo_less b_Mo_less 2 (some .int) 2 := ⟨(List.mem_of_getElem? (i := 934) rfl), (Tw_in (List.mem_of_getElem? (i := 80) (by decide +kernel)) rfl), by decide, by decide, by decide +kernel⟩
theorem cs_Mo_147 : CS "MovedFoldersModel" 147 y_Mo_less b_Mo_less 2 (some .int) 2 := ⟨cb_Mo_less, (Tw_in (List.mem_of_getElem? (i := 932) (by decide +kernel)) rfl), (Tw_in (List.mem_of_getElem? (i := 933) (by decide +kernel)) rfl)⟩
theorem kl_Mo_150 : Cond.constantLong "MovedFoldersModel" 150 100 ∈ Tw := (Tw_in (List.mem_of_getElem? (i := 915) (by decide +kernel)) rfl)
theorem fl_Mo_19 : FL "MovedFoldersModel" 19 9 3 := ⟨R_Mo, T_Mo, 27, rfl, by decide, wt_Mo, (Tw_in (List.mem_of_getElem? (i := 762) (by decide +kernel)) rfl)⟩
set_option maxRecDepth 100000 in
theorem cb_Mo_alikeOf : CLb y_Mo_alikeOf b_Mo_alikeOf 5 (some .int) 2 := ⟨(List.mem_of_getElem? (i := 922) rfl), (Tw_in (List.mem_of_getElem? (i := 80) (by decide +kernel)) rfl), by decide, by decide, by decide +kernel⟩
theorem cs_Mo_152 : CS "MovedFoldersModel" 152 y_Mo_alikeOf b_Mo_alikeOf 5 (some .int) 2 := ⟨cb_Mo_alikeOf, (Tw_in (List.mem_of_getElem? (i := 920) (by decide +kernel)) rfl), (Tw_in (List.mem_of_getElem? (i := 921) (by decide +kernel)) rfl)⟩
theorem fl_Mo_26 : FL "MovedFoldersModel" 26 9 11 := ⟨R_Mo, T_Mo, 27, rfl, by decide, wt_Mo, (Tw_in (List.mem_of_getElem? (i := 770) (by decide +kernel)) rfl)⟩
theorem fl_Mo_29 : FL "MovedFoldersModel" 29 9 12 := ⟨R_Mo, T_Mo, 27, rfl, by decide, wt_Mo, (Tw_in (List.mem_of_getElem? (i := 771) (by decide +kernel)) rfl)⟩
theorem fl_Mo_32 : FL "MovedFoldersModel" 32 9 13 := ⟨R_Mo, T_Mo, 27, rfl, by decide, wt_Mo, (Tw_in (List.mem_of_getElem? (i := 772) (by decide +kernel)) rfl)⟩
set_option maxRecDepth 100000 in
theorem cb_Mo_isLeft : CLb y_Mo_isLeft b_Mo_isLeft 4 (some .boolean) 3 := ⟨(List.mem_of_getElem? (i := 958) rfl), (Tw_in (List.mem_of_getElem? (i := 80) (by decide +kernel)) rfl), by decide, by decide, by decide +kernel⟩
theorem cv_Mo_155 : CV "MovedFoldersModel" 155 9 y_Mo_isLeft b_Mo_isLeft 4 (some .boolean) 3 := ⟨cb_Mo_isLeft, (Tw_in (List.mem_of_getElem? (i := 955) (by decide +kernel)) rfl), (Tw_in (List.mem_of_getElem? (i := 957) (by decide +kernel)) rfl), (Tw_in (List.mem_of_getElem? (i := 38) (by decide +kernel)) rfl), rfl⟩
set_option maxRecDepth 100000 in
theorem cb_Mo_nameAt : CLb y_Mo_nameAt b_Mo_nameAt 3 (some .int) 2 := ⟨(List.mem_of_getElem? (i := 962) rfl), (Tw_in (List.mem_of_getElem? (i := 80) (by decide +kernel)) rfl), by decide, by decide, by decide +kernel⟩
theorem cv_Mo_159 : CV "MovedFoldersModel" 159 9 y_Mo_nameAt b_Mo_nameAt 3 (some .int) 2 := ⟨cb_Mo_nameAt, (Tw_in (List.mem_of_getElem? (i := 959) (by decide +kernel)) rfl), (Tw_in (List.mem_of_getElem? (i := 961) (by decide +kernel)) rfl), (Tw_in (List.mem_of_getElem? (i := 39) (by decide +kernel)) rfl), rfl⟩
set_option maxRecDepth 100000 in
theorem cb_Mo_join : CLb y_Mo_join b_Mo_join 5 none 4 := ⟨(List.mem_of_getElem? (i := 946) rfl), (Tw_in (List.mem_of_getElem? (i := 80) (by decide +kernel)) rfl), by decide, by decide, by decide +kernel⟩
theorem cv_Mo_166 : CV "MovedFoldersModel" 166 9 y_Mo_join b_Mo_join 5 none 4 := ⟨cb_Mo_join, (Tw_in (List.mem_of_getElem? (i := 943) (by decide +kernel)) rfl), (Tw_in (List.mem_of_getElem? (i := 945) (by decide +kernel)) rfl), (Tw_in (List.mem_of_getElem? (i := 35) (by decide +kernel)) rfl), rfl⟩
set_option maxRecDepth 100000 in
theorem cb_Mo_closeness : CLb y_Mo_closeness b_Mo_closeness 7 (some .int) 4 := ⟨(List.mem_of_getElem? (i := 954) rfl), (Tw_in (List.mem_of_getElem? (i := 80) (by decide +kernel)) rfl), by decide, by decide, by decide +kernel⟩
theorem cv_Mo_162 : CV "MovedFoldersModel" 162 9 y_Mo_closeness b_Mo_closeness 7 (some .int) 4 := ⟨cb_Mo_closeness, (Tw_in (List.mem_of_getElem? (i := 951) (by decide +kernel)) rfl), (Tw_in (List.mem_of_getElem? (i := 953) (by decide +kernel)) rfl), (Tw_in (List.mem_of_getElem? (i := 37) (by decide +kernel)) rfl), rfl⟩
set_option maxRecDepth 100000 in
theorem cb_Mo_isJoined : CLb y_Mo_isJoined b_Mo_isJoined 9 (some .boolean) 2 := ⟨(List.mem_of_getElem? (i := 950) rfl), (Tw_in (List.mem_of_getElem? (i := 80) (by decide +kernel)) rfl), by decide, by decide, by decide +kernel⟩
theorem cv_Mo_169 : CV "MovedFoldersModel" 169 9 y_Mo_isJoined b_Mo_isJoined 9 (some .boolean) 2 := ⟨cb_Mo_isJoined, (Tw_in (List.mem_of_getElem? (i := 947) (by decide +kernel)) rfl), (Tw_in (List.mem_of_getElem? (i := 949) (by decide +kernel)) rfl), (Tw_in (List.mem_of_getElem? (i := 36) (by decide +kernel)) rfl), rfl⟩
set_option maxRecDepth 100000 in
theorem cb_Mo_findPairs : CLb y_Mo_findPairs b_Mo_findPairs 4 none 1 := ⟨(List.mem_of_getElem? (i := 942) rfl), (Tw_in (List.mem_of_getElem? (i := 80) (by decide +kernel)) rfl), by decide, by decide, by decide +kernel⟩
theorem cv_Mo_172 : CV "MovedFoldersModel" 172 9 y_Mo_findPairs b_Mo_findPairs 4 none 1 := ⟨cb_Mo_findPairs, (Tw_in (List.mem_of_getElem? (i := 939) (by decide +kernel)) rfl), (Tw_in (List.mem_of_getElem? (i := 941) (by decide +kernel)) rfl), (Tw_in (List.mem_of_getElem? (i := 34) (by decide +kernel)) rfl), rfl⟩
set_option maxRecDepth 100000 in
theorem cb_Mo_folderAt : CLb y_Mo_folderAt b_Mo_folderAt 3 (some .int) 2 := ⟨(List.mem_of_getElem? (i := 982) rfl), (Tw_in (List.mem_of_getElem? (i := 80) (by decide +kernel)) rfl), by decide, by decide, by decide +kernel⟩
theorem cv_Mo_176 : CV "MovedFoldersModel" 176 9 y_Mo_folderAt b_Mo_folderAt 3 (some .int) 2 := ⟨cb_Mo_folderAt, (Tw_in (List.mem_of_getElem? (i := 979) (by decide +kernel)) rfl), (Tw_in (List.mem_of_getElem? (i := 981) (by decide +kernel)) rfl), (Tw_in (List.mem_of_getElem? (i := 41) (by decide +kernel)) rfl), rfl⟩
set_option maxRecDepth 100000 in
theorem cb_Mo_liesIn : CLb y_Mo_liesIn b_Mo_liesIn 5 (some .boolean) 2 := ⟨(List.mem_of_getElem? (i := 998) rfl), (Tw_in (List.mem_of_getElem? (i := 80) (by decide +kernel)) rfl), by decide, by decide, by decide +kernel⟩
theorem cv_Mo_183 : CV "MovedFoldersModel" 183 9 y_Mo_liesIn b_Mo_liesIn 5 (some .boolean) 2 := ⟨cb_Mo_liesIn, (Tw_in (List.mem_of_getElem? (i := 995) (by decide +kernel)) rfl), (Tw_in (List.mem_of_getElem? (i := 997) (by decide +kernel)) rfl), (Tw_in (List.mem_of_getElem? (i := 44) (by decide +kernel)) rfl), rfl⟩
set_option maxRecDepth 100000 in
theorem cb_Mo_votesOf : CLb y_Mo_votesOf b_Mo_votesOf 7 (some .int) 3 := ⟨(List.mem_of_getElem? (i := 978) rfl), (Tw_in (List.mem_of_getElem? (i := 80) (by decide +kernel)) rfl), by decide, by decide, by decide +kernel⟩
theorem cv_Mo_179 : CV "MovedFoldersModel" 179 9 y_Mo_votesOf b_Mo_votesOf 7 (some .int) 3 := ⟨cb_Mo_votesOf, (Tw_in (List.mem_of_getElem? (i := 975) (by decide +kernel)) rfl), (Tw_in (List.mem_of_getElem? (i := 977) (by decide +kernel)) rfl), (Tw_in (List.mem_of_getElem? (i := 40) (by decide +kernel)) rfl), rfl⟩
theorem fl_Mo_35 : FL "MovedFoldersModel" 35 9 14 := ⟨R_Mo, T_Mo, 27, rfl, by decide, wt_Mo, (Tw_in (List.mem_of_getElem? (i := 773) (by decide +kernel)) rfl)⟩
set_option maxRecDepth 100000 in
theorem cb_Mo_isFolder : CLb y_Mo_isFolder b_Mo_isFolder 4 (some .boolean) 1 := ⟨(List.mem_of_getElem? (i := 973) rfl), (Tw_in (List.mem_of_getElem? (i := 80) (by decide +kernel)) rfl), by decide, by decide, by decide +kernel⟩
theorem cs_Mo_186 : CS "MovedFoldersModel" 186 y_Mo_isFolder b_Mo_isFolder 4 (some .boolean) 1 := ⟨cb_Mo_isFolder, (Tw_in (List.mem_of_getElem? (i := 971) (by decide +kernel)) rfl), (Tw_in (List.mem_of_getElem? (i := 972) (by decide +kernel)) rfl)⟩
set_option maxRecDepth 100000 in
theorem cb_Mo_movedOf : CLb y_Mo_movedOf b_Mo_movedOf 9 (some .int) 2 := ⟨(List.mem_of_getElem? (i := 1002) rfl), (Tw_in (List.mem_of_getElem? (i := 80) (by decide +kernel)) rfl), by decide, by decide, by decide +kernel⟩
theorem cv_Mo_189 : CV "MovedFoldersModel" 189 9 y_Mo_movedOf b_Mo_movedOf 9 (some .int) 2 := ⟨cb_Mo_movedOf, (Tw_in (List.mem_of_getElem? (i := 999) (by decide +kernel)) rfl), (Tw_in (List.mem_of_getElem? (i := 1001) (by decide +kernel)) rfl), (Tw_in (List.mem_of_getElem? (i := 45) (by decide +kernel)) rfl), rfl⟩
set_option maxRecDepth 100000 in
theorem cb_Mo_findMoves : CLb y_Mo_findMoves b_Mo_findMoves 3 none 1 := ⟨(List.mem_of_getElem? (i := 994) rfl), (Tw_in (List.mem_of_getElem? (i := 80) (by decide +kernel)) rfl), by decide, by decide, by decide +kernel⟩
theorem cv_Mo_192 : CV "MovedFoldersModel" 192 9 y_Mo_findMoves b_Mo_findMoves 3 none 1 := ⟨cb_Mo_findMoves, (Tw_in (List.mem_of_getElem? (i := 991) (by decide +kernel)) rfl), (Tw_in (List.mem_of_getElem? (i := 993) (by decide +kernel)) rfl), (Tw_in (List.mem_of_getElem? (i := 43) (by decide +kernel)) rfl), rfl⟩
theorem fl_Mo_38 : FL "MovedFoldersModel" 38 9 15 := ⟨R_Mo, T_Mo, 27, rfl, by decide, wt_Mo, (Tw_in (List.mem_of_getElem? (i := 774) (by decide +kernel)) rfl)⟩
set_option maxRecDepth 100000 in
theorem cb_Mo_isStep : CLb y_Mo_isStep b_Mo_isStep 4 (some .boolean) 2 := ⟨(List.mem_of_getElem? (i := 1010) rfl), (Tw_in (List.mem_of_getElem? (i := 80) (by decide +kernel)) rfl), by decide, by decide, by decide +kernel⟩
theorem cv_Mo_195 : CV "MovedFoldersModel" 195 9 y_Mo_isStep b_Mo_isStep 4 (some .boolean) 2 := ⟨cb_Mo_isStep, (Tw_in (List.mem_of_getElem? (i := 1007) (by decide +kernel)) rfl), (Tw_in (List.mem_of_getElem? (i := 1009) (by decide +kernel)) rfl), (Tw_in (List.mem_of_getElem? (i := 47) (by decide +kernel)) rfl), rfl⟩
set_option maxRecDepth 100000 in
theorem cb_Mo_findBoth : CLb y_Mo_findBoth b_Mo_findBoth 1 none 0 := ⟨(List.mem_of_getElem? (i := 990) rfl), (Tw_in (List.mem_of_getElem? (i := 80) (by decide +kernel)) rfl), by decide, by decide, by decide +kernel⟩
theorem cv_Mo_198 : CV "MovedFoldersModel" 198 9 y_Mo_findBoth b_Mo_findBoth 1 none 0 := ⟨cb_Mo_findBoth, (Tw_in (List.mem_of_getElem? (i := 987) (by decide +kernel)) rfl), (Tw_in (List.mem_of_getElem? (i := 989) (by decide +kernel)) rfl), (Tw_in (List.mem_of_getElem? (i := 42) (by decide +kernel)) rfl), rfl⟩
set_option maxRecDepth 100000 in
theorem cb_Mo_isLoop : CLb y_Mo_isLoop b_Mo_isLoop 7 (some .boolean) 2 := ⟨(List.mem_of_getElem? (i := 1006) rfl), (Tw_in (List.mem_of_getElem? (i := 80) (by decide +kernel)) rfl), by decide, by decide, by decide +kernel⟩
theorem cv_Mo_201 : CV "MovedFoldersModel" 201 9 y_Mo_isLoop b_Mo_isLoop 7 (some .boolean) 2 := ⟨cb_Mo_isLoop, (Tw_in (List.mem_of_getElem? (i := 1003) (by decide +kernel)) rfl), (Tw_in (List.mem_of_getElem? (i := 1005) (by decide +kernel)) rfl), (Tw_in (List.mem_of_getElem? (i := 46) (by decide +kernel)) rfl), rfl⟩
set_option maxRecDepth 100000 in
theorem cb_Mo_letterOf : CLb y_Mo_letterOf b_Mo_letterOf 2 (some .int) 2 := ⟨(List.mem_of_getElem? (i := 1027) rfl), (Tw_in (List.mem_of_getElem? (i := 80) (by decide +kernel)) rfl), by decide, by decide, by decide +kernel⟩
theorem cs_Mo_204 : CS "MovedFoldersModel" 204 y_Mo_letterOf b_Mo_letterOf 2 (some .int) 2 := ⟨cb_Mo_letterOf, (Tw_in (List.mem_of_getElem? (i := 1025) (by decide +kernel)) rfl), (Tw_in (List.mem_of_getElem? (i := 1026) (by decide +kernel)) rfl)⟩
set_option maxRecDepth 100000 in
theorem cb_Mo_lettersIn : CLb y_Mo_lettersIn b_Mo_lettersIn 1 (some .int) 1 := ⟨(List.mem_of_getElem? (i := 1021) rfl), (Tw_in (List.mem_of_getElem? (i := 80) (by decide +kernel)) rfl), by decide, by decide, by decide +kernel⟩
theorem cs_Mo_207 : CS "MovedFoldersModel" 207 y_Mo_lettersIn b_Mo_lettersIn 1 (some .int) 1 := ⟨cb_Mo_lettersIn, (Tw_in (List.mem_of_getElem? (i := 1019) (by decide +kernel)) rfl), (Tw_in (List.mem_of_getElem? (i := 1020) (by decide +kernel)) rfl)⟩
set_option maxRecDepth 100000 in
theorem cb_Mo_headOf : CLb y_Mo_headOf b_Mo_headOf 4 (some .int) 2 := ⟨(List.mem_of_getElem? (i := 1024) rfl), (Tw_in (List.mem_of_getElem? (i := 80) (by decide +kernel)) rfl), by decide, by decide, by decide +kernel⟩
theorem cs_Mo_210 : CS "MovedFoldersModel" 210 y_Mo_headOf b_Mo_headOf 4 (some .int) 2 := ⟨cb_Mo_headOf, (Tw_in (List.mem_of_getElem? (i := 1022) (by decide +kernel)) rfl), (Tw_in (List.mem_of_getElem? (i := 1023) (by decide +kernel)) rfl)⟩
set_option maxRecDepth 100000 in
theorem cb_Mo_joined : CLb y_Mo_joined b_Mo_joined 6 (some .int) 3 := ⟨(List.mem_of_getElem? (i := 1030) rfl), (Tw_in (List.mem_of_getElem? (i := 80) (by decide +kernel)) rfl), by decide, by decide, by decide +kernel⟩
theorem cs_Mo_213 : CS "MovedFoldersModel" 213 y_Mo_joined b_Mo_joined 6 (some .int) 3 := ⟨cb_Mo_joined, (Tw_in (List.mem_of_getElem? (i := 1028) (by decide +kernel)) rfl), (Tw_in (List.mem_of_getElem? (i := 1029) (by decide +kernel)) rfl)⟩
set_option maxRecDepth 100000 in
theorem cb_Mo_destOf : CLb y_Mo_destOf b_Mo_destOf 6 (some .int) 2 := ⟨(List.mem_of_getElem? (i := 1018) rfl), (Tw_in (List.mem_of_getElem? (i := 80) (by decide +kernel)) rfl), by decide, by decide, by decide +kernel⟩
theorem cv_Mo_216 : CV "MovedFoldersModel" 216 9 y_Mo_destOf b_Mo_destOf 6 (some .int) 2 := ⟨cb_Mo_destOf, (Tw_in (List.mem_of_getElem? (i := 1015) (by decide +kernel)) rfl), (Tw_in (List.mem_of_getElem? (i := 1017) (by decide +kernel)) rfl), (Tw_in (List.mem_of_getElem? (i := 48) (by decide +kernel)) rfl), rfl⟩
theorem fl_Mo_42 : FL "MovedFoldersModel" 42 9 16 := ⟨R_Mo, T_Mo, 27, rfl, by decide, wt_Mo, (Tw_in (List.mem_of_getElem? (i := 775) (by decide +kernel)) rfl)⟩
theorem fl_Mo_219 : FL "MovedFoldersModel" 219 9 20 := ⟨R_Mo, T_Mo, 27, rfl, by decide, wt_Mo, (Tw_in (List.mem_of_getElem? (i := 779) (by decide +kernel)) rfl)⟩
theorem fl_Mo_45 : FL "MovedFoldersModel" 45 9 17 := ⟨R_Mo, T_Mo, 27, rfl, by decide, wt_Mo, (Tw_in (List.mem_of_getElem? (i := 776) (by decide +kernel)) rfl)⟩
theorem fl_Mo_48 : FL "MovedFoldersModel" 48 9 18 := ⟨R_Mo, T_Mo, 27, rfl, by decide, wt_Mo, (Tw_in (List.mem_of_getElem? (i := 777) (by decide +kernel)) rfl)⟩
theorem fl_Mo_51 : FL "MovedFoldersModel" 51 9 19 := ⟨R_Mo, T_Mo, 27, rfl, by decide, wt_Mo, (Tw_in (List.mem_of_getElem? (i := 778) (by decide +kernel)) rfl)⟩
theorem fp_Mo_219 : FP "MovedFoldersModel" 219 9 20 .int false := ⟨R_Mo, T_Mo, 27, ty_Mo, rfl, by decide, wt_Mo, (Tw_in (List.mem_of_getElem? (i := 779) (by decide +kernel)) rfl), ty_Mo_ok, nm_Mo, rfl, by decide +kernel, rfl⟩
theorem fl_Mo_222 : FL "MovedFoldersModel" 222 9 21 := ⟨R_Mo, T_Mo, 27, rfl, by decide, wt_Mo, (Tw_in (List.mem_of_getElem? (i := 780) (by decide +kernel)) rfl)⟩
theorem fp_Mo_222 : FP "MovedFoldersModel" 222 9 21 .int false := ⟨R_Mo, T_Mo, 27, ty_Mo, rfl, by decide, wt_Mo, (Tw_in (List.mem_of_getElem? (i := 780) (by decide +kernel)) rfl), ty_Mo_ok, nm_Mo, rfl, by decide +kernel, rfl⟩
set_option maxRecDepth 100000 in
theorem cb_Mo_oneOf : CLb y_Mo_oneOf b_Mo_oneOf 5 (some .int) 4 := ⟨(List.mem_of_getElem? (i := 1059) rfl), (Tw_in (List.mem_of_getElem? (i := 80) (by decide +kernel)) rfl), by decide, by decide, by decide +kernel⟩
theorem cv_Mo_225 : CV "MovedFoldersModel" 225 9 y_Mo_oneOf b_Mo_oneOf 5 (some .int) 4 := ⟨cb_Mo_oneOf, (Tw_in (List.mem_of_getElem? (i := 1056) (by decide +kernel)) rfl), (Tw_in (List.mem_of_getElem? (i := 1058) (by decide +kernel)) rfl), (Tw_in (List.mem_of_getElem? (i := 54) (by decide +kernel)) rfl), rfl⟩
set_option maxRecDepth 100000 in
theorem cb_Mo_pathOn : CLb y_Mo_pathOn b_Mo_pathOn 4 (some .int) 2 := ⟨(List.mem_of_getElem? (i := 1051) rfl), (Tw_in (List.mem_of_getElem? (i := 80) (by decide +kernel)) rfl), by decide, by decide, by decide +kernel⟩
theorem cv_Mo_231 : CV "MovedFoldersModel" 231 9 y_Mo_pathOn b_Mo_pathOn 4 (some .int) 2 := ⟨cb_Mo_pathOn, (Tw_in (List.mem_of_getElem? (i := 1048) (by decide +kernel)) rfl), (Tw_in (List.mem_of_getElem? (i := 1050) (by decide +kernel)) rfl), (Tw_in (List.mem_of_getElem? (i := 52) (by decide +kernel)) rfl), rfl⟩
set_option maxRecDepth 100000 in
theorem cb_Mo_folderOf : CLb y_Mo_folderOf b_Mo_folderOf 4 (some .int) 3 := ⟨(List.mem_of_getElem? (i := 1055) rfl), (Tw_in (List.mem_of_getElem? (i := 80) (by decide +kernel)) rfl), by decide, by decide, by decide +kernel⟩
theorem cv_Mo_234 : CV "MovedFoldersModel" 234 9 y_Mo_folderOf b_Mo_folderOf 4 (some .int) 3 := ⟨cb_Mo_folderOf, (Tw_in (List.mem_of_getElem? (i := 1052) (by decide +kernel)) rfl), (Tw_in (List.mem_of_getElem? (i := 1054) (by decide +kernel)) rfl), (Tw_in (List.mem_of_getElem? (i := 53) (by decide +kernel)) rfl), rfl⟩
set_option maxRecDepth 100000 in
theorem cb_Mo_contentOn : CLb y_Mo_contentOn b_Mo_contentOn 4 (some .int) 2 := ⟨(List.mem_of_getElem? (i := 1063) rfl), (Tw_in (List.mem_of_getElem? (i := 80) (by decide +kernel)) rfl), by decide, by decide, by decide +kernel⟩
theorem cv_Mo_237 : CV "MovedFoldersModel" 237 9 y_Mo_contentOn b_Mo_contentOn 4 (some .int) 2 := ⟨cb_Mo_contentOn, (Tw_in (List.mem_of_getElem? (i := 1060) (by decide +kernel)) rfl), (Tw_in (List.mem_of_getElem? (i := 1062) (by decide +kernel)) rfl), (Tw_in (List.mem_of_getElem? (i := 55) (by decide +kernel)) rfl), rfl⟩
set_option maxRecDepth 100000 in
theorem cb_Mo_contentOf : CLb y_Mo_contentOf b_Mo_contentOf 9 (some .int) 3 := ⟨(List.mem_of_getElem? (i := 1067) rfl), (Tw_in (List.mem_of_getElem? (i := 80) (by decide +kernel)) rfl), by decide, by decide, by decide +kernel⟩
theorem cv_Mo_240 : CV "MovedFoldersModel" 240 9 y_Mo_contentOf b_Mo_contentOf 9 (some .int) 3 := ⟨cb_Mo_contentOf, (Tw_in (List.mem_of_getElem? (i := 1064) (by decide +kernel)) rfl), (Tw_in (List.mem_of_getElem? (i := 1066) (by decide +kernel)) rfl), (Tw_in (List.mem_of_getElem? (i := 56) (by decide +kernel)) rfl), rfl⟩
set_option maxRecDepth 100000 in
theorem cb_Mo_addEntry : CLb y_Mo_addEntry b_Mo_addEntry 5 none 4 := ⟨(List.mem_of_getElem? (i := 1071) rfl), (Tw_in (List.mem_of_getElem? (i := 80) (by decide +kernel)) rfl), by decide, by decide, by decide +kernel⟩
theorem cv_Mo_243 : CV "MovedFoldersModel" 243 9 y_Mo_addEntry b_Mo_addEntry 5 none 4 := ⟨cb_Mo_addEntry, (Tw_in (List.mem_of_getElem? (i := 1068) (by decide +kernel)) rfl), (Tw_in (List.mem_of_getElem? (i := 1070) (by decide +kernel)) rfl), (Tw_in (List.mem_of_getElem? (i := 57) (by decide +kernel)) rfl), rfl⟩
set_option maxRecDepth 100000 in
theorem cb_Mo_isAsBase : CLb y_Mo_isAsBase b_Mo_isAsBase 4 (some .boolean) 2 := ⟨(List.mem_of_getElem? (i := 1047) rfl), (Tw_in (List.mem_of_getElem? (i := 80) (by decide +kernel)) rfl), by decide, by decide, by decide +kernel⟩
theorem cv_Mo_228 : CV "MovedFoldersModel" 228 9 y_Mo_isAsBase b_Mo_isAsBase 4 (some .boolean) 2 := ⟨cb_Mo_isAsBase, (Tw_in (List.mem_of_getElem? (i := 1044) (by decide +kernel)) rfl), (Tw_in (List.mem_of_getElem? (i := 1046) (by decide +kernel)) rfl), (Tw_in (List.mem_of_getElem? (i := 51) (by decide +kernel)) rfl), rfl⟩
theorem fl_Mo_54 : FL "MovedFoldersModel" 54 9 22 := ⟨R_Mo, T_Mo, 27, rfl, by decide, wt_Mo, (Tw_in (List.mem_of_getElem? (i := 781) (by decide +kernel)) rfl)⟩
set_option maxRecDepth 100000 in
theorem cb_Mo_newPath : CLb y_Mo_newPath b_Mo_newPath 3 (some .int) 2 := ⟨(List.mem_of_getElem? (i := 1079) rfl), (Tw_in (List.mem_of_getElem? (i := 80) (by decide +kernel)) rfl), by decide, by decide, by decide +kernel⟩
theorem cv_Mo_246 : CV "MovedFoldersModel" 246 9 y_Mo_newPath b_Mo_newPath 3 (some .int) 2 := ⟨cb_Mo_newPath, (Tw_in (List.mem_of_getElem? (i := 1076) (by decide +kernel)) rfl), (Tw_in (List.mem_of_getElem? (i := 1078) (by decide +kernel)) rfl), (Tw_in (List.mem_of_getElem? (i := 59) (by decide +kernel)) rfl), rfl⟩
set_option maxRecDepth 100000 in
theorem cb_Mo_twinOf : CLb y_Mo_twinOf b_Mo_twinOf 5 (some .int) 2 := ⟨(List.mem_of_getElem? (i := 1083) rfl), (Tw_in (List.mem_of_getElem? (i := 80) (by decide +kernel)) rfl), by decide, by decide, by decide +kernel⟩
theorem cv_Mo_249 : CV "MovedFoldersModel" 249 9 y_Mo_twinOf b_Mo_twinOf 5 (some .int) 2 := ⟨cb_Mo_twinOf, (Tw_in (List.mem_of_getElem? (i := 1080) (by decide +kernel)) rfl), (Tw_in (List.mem_of_getElem? (i := 1082) (by decide +kernel)) rfl), (Tw_in (List.mem_of_getElem? (i := 60) (by decide +kernel)) rfl), rfl⟩
set_option maxRecDepth 100000 in
theorem cb_Mo_isBefore : CLb y_Mo_isBefore b_Mo_isBefore 3 (some .boolean) 2 := ⟨(List.mem_of_getElem? (i := 1095) rfl), (Tw_in (List.mem_of_getElem? (i := 80) (by decide +kernel)) rfl), by decide, by decide, by decide +kernel⟩
theorem cv_Mo_252 : CV "MovedFoldersModel" 252 9 y_Mo_isBefore b_Mo_isBefore 3 (some .boolean) 2 := ⟨cb_Mo_isBefore, (Tw_in (List.mem_of_getElem? (i := 1092) (by decide +kernel)) rfl), (Tw_in (List.mem_of_getElem? (i := 1094) (by decide +kernel)) rfl), (Tw_in (List.mem_of_getElem? (i := 63) (by decide +kernel)) rfl), rfl⟩
set_option maxRecDepth 100000 in
theorem cb_Mo_change : CLb y_Mo_change b_Mo_change 4 none 3 := ⟨(List.mem_of_getElem? (i := 1098) rfl), (Tw_in (List.mem_of_getElem? (i := 80) (by decide +kernel)) rfl), by decide, by decide, by decide +kernel⟩
theorem cs_Mo_255 : CS "MovedFoldersModel" 255 y_Mo_change b_Mo_change 4 none 3 := ⟨cb_Mo_change, (Tw_in (List.mem_of_getElem? (i := 1096) (by decide +kernel)) rfl), (Tw_in (List.mem_of_getElem? (i := 1097) (by decide +kernel)) rfl)⟩
set_option maxRecDepth 100000 in
theorem cb_Mo_mergeNew : CLb y_Mo_mergeNew b_Mo_mergeNew 4 none 0 := ⟨(List.mem_of_getElem? (i := 1075) rfl), (Tw_in (List.mem_of_getElem? (i := 80) (by decide +kernel)) rfl), by decide, by decide, by decide +kernel⟩
theorem cv_Mo_262 : CV "MovedFoldersModel" 262 9 y_Mo_mergeNew b_Mo_mergeNew 4 none 0 := ⟨cb_Mo_mergeNew, (Tw_in (List.mem_of_getElem? (i := 1072) (by decide +kernel)) rfl), (Tw_in (List.mem_of_getElem? (i := 1074) (by decide +kernel)) rfl), (Tw_in (List.mem_of_getElem? (i := 58) (by decide +kernel)) rfl), rfl⟩
set_option maxRecDepth 100000 in
theorem cb_Mo_meetAll : CLb y_Mo_meetAll b_Mo_meetAll 3 none 0 := ⟨(List.mem_of_getElem? (i := 1087) rfl), (Tw_in (List.mem_of_getElem? (i := 80) (by decide +kernel)) rfl), by decide, by decide, by decide +kernel⟩
theorem cv_Mo_265 : CV "MovedFoldersModel" 265 9 y_Mo_meetAll b_Mo_meetAll 3 none 0 := ⟨cb_Mo_meetAll, (Tw_in (List.mem_of_getElem? (i := 1084) (by decide +kernel)) rfl), (Tw_in (List.mem_of_getElem? (i := 1086) (by decide +kernel)) rfl), (Tw_in (List.mem_of_getElem? (i := 61) (by decide +kernel)) rfl), rfl⟩
set_option maxRecDepth 100000 in
theorem cb_Mo_sortAll : CLb y_Mo_sortAll b_Mo_sortAll 3 none 0 := ⟨(List.mem_of_getElem? (i := 1091) rfl), (Tw_in (List.mem_of_getElem? (i := 80) (by decide +kernel)) rfl), by decide, by decide, by decide +kernel⟩
theorem cv_Mo_268 : CV "MovedFoldersModel" 268 9 y_Mo_sortAll b_Mo_sortAll 3 none 0 := ⟨cb_Mo_sortAll, (Tw_in (List.mem_of_getElem? (i := 1088) (by decide +kernel)) rfl), (Tw_in (List.mem_of_getElem? (i := 1090) (by decide +kernel)) rfl), (Tw_in (List.mem_of_getElem? (i := 62) (by decide +kernel)) rfl), rfl⟩
set_option maxRecDepth 100000 in
theorem cb_Mo_mergeOld : CLb y_Mo_mergeOld b_Mo_mergeOld 7 none 1 := ⟨(List.mem_of_getElem? (i := 1043) rfl), (Tw_in (List.mem_of_getElem? (i := 80) (by decide +kernel)) rfl), by decide, by decide, by decide +kernel⟩
theorem cv_Mo_259 : CV "MovedFoldersModel" 259 9 y_Mo_mergeOld b_Mo_mergeOld 7 none 1 := ⟨cb_Mo_mergeOld, (Tw_in (List.mem_of_getElem? (i := 1040) (by decide +kernel)) rfl), (Tw_in (List.mem_of_getElem? (i := 1042) (by decide +kernel)) rfl), (Tw_in (List.mem_of_getElem? (i := 50) (by decide +kernel)) rfl), rfl⟩
theorem kl_Mo_271 : Cond.constantLong "MovedFoldersModel" 271 3 ∈ Tw := (Tw_in (List.mem_of_getElem? (i := 1035) (by decide +kernel)) rfl)
set_option maxRecDepth 100000 in
theorem cb_Mo_merge : CLb y_Mo_merge b_Mo_merge 2 none 0 := ⟨(List.mem_of_getElem? (i := 1039) rfl), (Tw_in (List.mem_of_getElem? (i := 80) (by decide +kernel)) rfl), by decide, by decide, by decide +kernel⟩
theorem cv_Mo_273 : CV "MovedFoldersModel" 273 9 y_Mo_merge b_Mo_merge 2 none 0 := ⟨cb_Mo_merge, (Tw_in (List.mem_of_getElem? (i := 1036) (by decide +kernel)) rfl), (Tw_in (List.mem_of_getElem? (i := 1038) (by decide +kernel)) rfl), (Tw_in (List.mem_of_getElem? (i := 49) (by decide +kernel)) rfl), rfl⟩
set_option maxRecDepth 100000 in
theorem cb_Mo_causesAt : CLb y_Mo_causesAt b_Mo_causesAt 4 (some .int) 1 := ⟨(List.mem_of_getElem? (i := 1106) rfl), (Tw_in (List.mem_of_getElem? (i := 80) (by decide +kernel)) rfl), by decide, by decide, by decide +kernel⟩
theorem cv_Mo_276 : CV "MovedFoldersModel" 276 9 y_Mo_causesAt b_Mo_causesAt 4 (some .int) 1 := ⟨cb_Mo_causesAt, (Tw_in (List.mem_of_getElem? (i := 1103) (by decide +kernel)) rfl), (Tw_in (List.mem_of_getElem? (i := 1105) (by decide +kernel)) rfl), (Tw_in (List.mem_of_getElem? (i := 64) (by decide +kernel)) rfl), rfl⟩
set_option maxRecDepth 100000 in
theorem cb_Mo_clash : CLb y_Mo_clash b_Mo_clash 6 (some .int) 2 := ⟨(List.mem_of_getElem? (i := 1102) rfl), (Tw_in (List.mem_of_getElem? (i := 80) (by decide +kernel)) rfl), by decide, by decide, by decide +kernel⟩
theorem cv_Mo_279 : CV "MovedFoldersModel" 279 9 y_Mo_clash b_Mo_clash 6 (some .int) 2 := ⟨cb_Mo_clash, (Tw_in (List.mem_of_getElem? (i := 1111) (by decide +kernel)) rfl), (Tw_in (List.mem_of_getElem? (i := 1100) (by decide +kernel)) rfl), (Tw_in (List.mem_of_getElem? (i := 1101) (by decide +kernel)) rfl), rfl⟩
theorem fl_Mo_282 : FL "MovedFoldersModel" 282 9 26 := ⟨R_Mo, T_Mo, 27, rfl, by decide, wt_Mo, (Tw_in (List.mem_of_getElem? (i := 785) (by decide +kernel)) rfl)⟩
theorem fl_Mo_57 : FL "MovedFoldersModel" 57 9 23 := ⟨R_Mo, T_Mo, 27, rfl, by decide, wt_Mo, (Tw_in (List.mem_of_getElem? (i := 782) (by decide +kernel)) rfl)⟩
theorem fl_Mo_286 : FL "MovedFoldersModel" 286 9 25 := ⟨R_Mo, T_Mo, 27, rfl, by decide, wt_Mo, (Tw_in (List.mem_of_getElem? (i := 784) (by decide +kernel)) rfl)⟩
theorem fp_Mo_286 : FP "MovedFoldersModel" 286 9 25 .int false := ⟨R_Mo, T_Mo, 27, ty_Mo, rfl, by decide, wt_Mo, (Tw_in (List.mem_of_getElem? (i := 784) (by decide +kernel)) rfl), ty_Mo_ok, nm_Mo, rfl, by decide +kernel, rfl⟩
set_option maxRecDepth 100000 in
theorem cb_Mo_passRow : CLb y_Mo_passRow b_Mo_passRow 4 none 2 := ⟨(List.mem_of_getElem? (i := 1127) rfl), (Tw_in (List.mem_of_getElem? (i := 80) (by decide +kernel)) rfl), by decide, by decide, by decide +kernel⟩
theorem cv_Mo_289 : CV "MovedFoldersModel" 289 9 y_Mo_passRow b_Mo_passRow 4 none 2 := ⟨cb_Mo_passRow, (Tw_in (List.mem_of_getElem? (i := 1124) (by decide +kernel)) rfl), (Tw_in (List.mem_of_getElem? (i := 1126) (by decide +kernel)) rfl), (Tw_in (List.mem_of_getElem? (i := 66) (by decide +kernel)) rfl), rfl⟩
theorem fp_Mo_282 : FP "MovedFoldersModel" 282 9 26 .boolean false := ⟨R_Mo, T_Mo, 27, ty_Mo, rfl, by decide, wt_Mo, (Tw_in (List.mem_of_getElem? (i := 785) (by decide +kernel)) rfl), ty_Mo_ok, nm_Mo, rfl, by decide +kernel, rfl⟩
set_option maxRecDepth 100000 in
theorem cb_Mo_passAll : CLb y_Mo_passAll b_Mo_passAll 1 none 0 := ⟨(List.mem_of_getElem? (i := 1123) rfl), (Tw_in (List.mem_of_getElem? (i := 80) (by decide +kernel)) rfl), by decide, by decide, by decide +kernel⟩
theorem cv_Mo_293 : CV "MovedFoldersModel" 293 9 y_Mo_passAll b_Mo_passAll 1 none 0 := ⟨cb_Mo_passAll, (Tw_in (List.mem_of_getElem? (i := 1120) (by decide +kernel)) rfl), (Tw_in (List.mem_of_getElem? (i := 1122) (by decide +kernel)) rfl), (Tw_in (List.mem_of_getElem? (i := 65) (by decide +kernel)) rfl), rfl⟩
theorem fl_Mo_60 : FL "MovedFoldersModel" 60 9 24 := ⟨R_Mo, T_Mo, 27, rfl, by decide, wt_Mo, (Tw_in (List.mem_of_getElem? (i := 783) (by decide +kernel)) rfl)⟩
set_option maxRecDepth 100000 in
theorem cb_Mo_movedMany : CLb y_Mo_movedMany b_Mo_movedMany 4 (some .int) 1 := ⟨(List.mem_of_getElem? (i := 1151) rfl), (Tw_in (List.mem_of_getElem? (i := 80) (by decide +kernel)) rfl), by decide, by decide, by decide +kernel⟩
theorem cv_Mo_300 : CV "MovedFoldersModel" 300 9 y_Mo_movedMany b_Mo_movedMany 4 (some .int) 1 := ⟨cb_Mo_movedMany, (Tw_in (List.mem_of_getElem? (i := 1148) (by decide +kernel)) rfl), (Tw_in (List.mem_of_getElem? (i := 1150) (by decide +kernel)) rfl), (Tw_in (List.mem_of_getElem? (i := 69) (by decide +kernel)) rfl), rfl⟩
set_option maxRecDepth 100000 in
theorem cb_Mo_lackingOf : CLb y_Mo_lackingOf b_Mo_lackingOf 6 (some .int) 3 := ⟨(List.mem_of_getElem? (i := 1147) rfl), (Tw_in (List.mem_of_getElem? (i := 80) (by decide +kernel)) rfl), by decide, by decide, by decide +kernel⟩
theorem cv_Mo_296 : CV "MovedFoldersModel" 296 9 y_Mo_lackingOf b_Mo_lackingOf 6 (some .int) 3 := ⟨cb_Mo_lackingOf, (Tw_in (List.mem_of_getElem? (i := 1144) (by decide +kernel)) rfl), (Tw_in (List.mem_of_getElem? (i := 1146) (by decide +kernel)) rfl), (Tw_in (List.mem_of_getElem? (i := 68) (by decide +kernel)) rfl), rfl⟩
theorem kl_Mo_303 : Cond.constantLong "MovedFoldersModel" 303 10 ∈ Tw := (Tw_in (List.mem_of_getElem? (i := 1136) (by decide +kernel)) rfl)
theorem kl_Mo_305 : Cond.constantLong "MovedFoldersModel" 305 12 ∈ Tw := (Tw_in (List.mem_of_getElem? (i := 1137) (by decide +kernel)) rfl)
theorem kl_Mo_307 : Cond.constantLong "MovedFoldersModel" 307 20 ∈ Tw := (Tw_in (List.mem_of_getElem? (i := 1138) (by decide +kernel)) rfl)
theorem kl_Mo_309 : Cond.constantLong "MovedFoldersModel" 309 49 ∈ Tw := (Tw_in (List.mem_of_getElem? (i := 1139) (by decide +kernel)) rfl)
set_option maxRecDepth 100000 in
theorem cb_Mo_toldOfSide : CLb y_Mo_toldOfSide b_Mo_toldOfSide 3 (some .int) 2 := ⟨(List.mem_of_getElem? (i := 1143) rfl), (Tw_in (List.mem_of_getElem? (i := 80) (by decide +kernel)) rfl), by decide, by decide, by decide +kernel⟩
theorem cv_Mo_311 : CV "MovedFoldersModel" 311 9 y_Mo_toldOfSide b_Mo_toldOfSide 3 (some .int) 2 := ⟨cb_Mo_toldOfSide, (Tw_in (List.mem_of_getElem? (i := 1140) (by decide +kernel)) rfl), (Tw_in (List.mem_of_getElem? (i := 1142) (by decide +kernel)) rfl), (Tw_in (List.mem_of_getElem? (i := 67) (by decide +kernel)) rfl), rfl⟩
