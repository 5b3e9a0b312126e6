/-! the words of the tables, by their places -/
set_option maxRecDepth 20000 in
theorem i_Answer_init : zMI m_Answer_init 2 := ⟨zq 266 (by decide +kernel) rfl, zq 76 (by decide +kernel) rfl, ⟨by decide, by decide⟩, by decide +kernel, by decide, by decide +kernel⟩
set_option maxRecDepth 20000 in
theorem v_Answer_init : Cond.instanceMethod m_Answer_init.1 ∈ ztbl := zq 265 (by decide +kernel) rfl
set_option maxRecDepth 20000 in
theorem i_Answer_trace : zMI m_Answer_trace 0 := ⟨zq 712 (by decide +kernel) rfl, zq 76 (by decide +kernel) rfl, ⟨by decide, by decide⟩, by decide +kernel, by decide, by decide +kernel⟩
set_option maxRecDepth 20000 in
theorem v_Answer_trace : Cond.instanceMethod m_Answer_trace.1 ∈ ztbl := zq 710 (by decide +kernel) rfl
set_option maxRecDepth 20000 in
theorem w_Answer_trace : Cond.selects m_Answer_trace.1.cls m_Answer_trace.1 m_Answer_trace.1 ∈ ztbl := zq 711 (by decide +kernel) rfl
set_option maxRecDepth 20000 in
theorem i_Answer_goBack : zMI m_Answer_goBack 2 := ⟨zq 724 (by decide +kernel) rfl, zq 76 (by decide +kernel) rfl, ⟨by decide, by decide⟩, by decide +kernel, by decide, by decide +kernel⟩
set_option maxRecDepth 20000 in
theorem v_Answer_goBack : Cond.instanceMethod m_Answer_goBack.1 ∈ ztbl := zq 723 (by decide +kernel) rfl
set_option maxRecDepth 20000 in
theorem w_Answer_goBack : Cond.selects m_Answer_goBack.1.cls m_Answer_goBack.1 m_Answer_goBack.1 ∈ ztbl := zq 17 (by decide +kernel) rfl
set_option maxRecDepth 20000 in
theorem i_Book_init : zMI m_Book_init 0 := ⟨zq 112 (by decide +kernel) rfl, zq 71 (by decide +kernel) rfl, ⟨by decide, by decide⟩, by decide +kernel, by decide, by decide +kernel⟩
set_option maxRecDepth 20000 in
theorem v_Book_init : Cond.instanceMethod m_Book_init.1 ∈ ztbl := zq 111 (by decide +kernel) rfl
set_option maxRecDepth 20000 in
theorem i_Book_copy : zMI m_Book_copy 1 := ⟨zq 887 (by decide +kernel) rfl, zq 71 (by decide +kernel) rfl, ⟨by decide, by decide⟩, by decide +kernel, by decide, by decide +kernel⟩
set_option maxRecDepth 20000 in
theorem v_Book_copy : Cond.instanceMethod m_Book_copy.1 ∈ ztbl := zq 885 (by decide +kernel) rfl
set_option maxRecDepth 20000 in
theorem w_Book_copy : Cond.selects m_Book_copy.1.cls m_Book_copy.1 m_Book_copy.1 ∈ ztbl := zq 886 (by decide +kernel) rfl
set_option maxRecDepth 20000 in
theorem i_Book_wordsMeetNeeds : zMI m_Book_wordsMeetNeeds 0 := ⟨zq 810 (by decide +kernel) rfl, zq 71 (by decide +kernel) rfl, ⟨by decide, by decide⟩, by decide +kernel, by decide, by decide +kernel⟩
set_option maxRecDepth 20000 in
theorem v_Book_wordsMeetNeeds : Cond.instanceMethod m_Book_wordsMeetNeeds.1 ∈ ztbl := zq 808 (by decide +kernel) rfl
set_option maxRecDepth 20000 in
theorem w_Book_wordsMeetNeeds : Cond.selects m_Book_wordsMeetNeeds.1.cls m_Book_wordsMeetNeeds.1 m_Book_wordsMeetNeeds.1 ∈ ztbl := zq 809 (by decide +kernel) rfl
set_option maxRecDepth 20000 in
theorem i_Book_mapOf : zMI m_Book_mapOf 1 := ⟨zq 816 (by decide +kernel) rfl, zq 71 (by decide +kernel) rfl, ⟨by decide, by decide⟩, by decide +kernel, by decide, by decide +kernel⟩
set_option maxRecDepth 20000 in
theorem v_Book_mapOf : Cond.instanceMethod m_Book_mapOf.1 ∈ ztbl := zq 815 (by decide +kernel) rfl
set_option maxRecDepth 20000 in
theorem w_Book_mapOf : Cond.selects m_Book_mapOf.1.cls m_Book_mapOf.1 m_Book_mapOf.1 ∈ ztbl := zq 19 (by decide +kernel) rfl
set_option maxRecDepth 20000 in
theorem i_Machine_init : zMI m_Machine_init 0 := ⟨zq 120 (by decide +kernel) rfl, zq 72 (by decide +kernel) rfl, ⟨by decide, by decide⟩, by decide +kernel, by decide, by decide +kernel⟩
set_option maxRecDepth 20000 in
theorem v_Machine_init : Cond.instanceMethod m_Machine_init.1 ∈ ztbl := zq 119 (by decide +kernel) rfl
set_option maxRecDepth 20000 in
theorem i_Machine_after : zMI m_Machine_after 2 := ⟨zq 424 (by decide +kernel) rfl, zq 72 (by decide +kernel) rfl, ⟨by decide, by decide⟩, by decide +kernel, by decide, by decide +kernel⟩
set_option maxRecDepth 20000 in
theorem v_Machine_after : Cond.instanceMethod m_Machine_after.1 ∈ ztbl := zq 422 (by decide +kernel) rfl
set_option maxRecDepth 20000 in
theorem w_Machine_after : Cond.selects m_Machine_after.1.cls m_Machine_after.1 m_Machine_after.1 ∈ ztbl := zq 423 (by decide +kernel) rfl
set_option maxRecDepth 20000 in
theorem i_Machine_turn : zMI m_Machine_turn 3 := ⟨zq 428 (by decide +kernel) rfl, zq 72 (by decide +kernel) rfl, ⟨by decide, by decide⟩, by decide +kernel, by decide, by decide +kernel⟩
set_option maxRecDepth 20000 in
theorem v_Machine_turn : Cond.instanceMethod m_Machine_turn.1 ∈ ztbl := zq 426 (by decide +kernel) rfl
set_option maxRecDepth 20000 in
theorem w_Machine_turn : Cond.selects m_Machine_turn.1.cls m_Machine_turn.1 m_Machine_turn.1 ∈ ztbl := zq 427 (by decide +kernel) rfl
set_option maxRecDepth 20000 in
theorem i_Machine_mapBehind : zMI m_Machine_mapBehind 2 := ⟨zq 471 (by decide +kernel) rfl, zq 72 (by decide +kernel) rfl, ⟨by decide, by decide⟩, by decide +kernel, by decide, by decide +kernel⟩
set_option maxRecDepth 20000 in
theorem v_Machine_mapBehind : Cond.instanceMethod m_Machine_mapBehind.1 ∈ ztbl := zq 469 (by decide +kernel) rfl
set_option maxRecDepth 20000 in
theorem w_Machine_mapBehind : Cond.selects m_Machine_mapBehind.1.cls m_Machine_mapBehind.1 m_Machine_mapBehind.1 ∈ ztbl := zq 470 (by decide +kernel) rfl
set_option maxRecDepth 20000 in
theorem i_Machine_copy : zMI m_Machine_copy 1 := ⟨zq 892 (by decide +kernel) rfl, zq 72 (by decide +kernel) rfl, ⟨by decide, by decide⟩, by decide +kernel, by decide, by decide +kernel⟩
set_option maxRecDepth 20000 in
theorem v_Machine_copy : Cond.instanceMethod m_Machine_copy.1 ∈ ztbl := zq 890 (by decide +kernel) rfl
set_option maxRecDepth 20000 in
theorem w_Machine_copy : Cond.selects m_Machine_copy.1.cls m_Machine_copy.1 m_Machine_copy.1 ∈ ztbl := zq 891 (by decide +kernel) rfl
set_option maxRecDepth 20000 in
theorem i_Need_ofVariable : zMI m_Need_ofVariable 2 := ⟨zq 446 (by decide +kernel) rfl, zq 80 (by decide +kernel) rfl, ⟨by decide, by decide⟩, by decide +kernel, by decide, by decide +kernel⟩
set_option maxRecDepth 20000 in
theorem s_Need_ofVariable : Cond.static m_Need_ofVariable.1 ∈ ztbl := zq 445 (by decide +kernel) rfl
set_option maxRecDepth 20000 in
theorem i_Need_ofState : zMI m_Need_ofState 2 := ⟨zq 449 (by decide +kernel) rfl, zq 80 (by decide +kernel) rfl, ⟨by decide, by decide⟩, by decide +kernel, by decide, by decide +kernel⟩
set_option maxRecDepth 20000 in
theorem s_Need_ofState : Cond.static m_Need_ofState.1 ∈ ztbl := zq 448 (by decide +kernel) rfl
set_option maxRecDepth 20000 in
theorem i_Need_withVariable : zMI m_Need_withVariable 3 := ⟨zq 652 (by decide +kernel) rfl, zq 80 (by decide +kernel) rfl, ⟨by decide, by decide⟩, by decide +kernel, by decide, by decide +kernel⟩
set_option maxRecDepth 20000 in
theorem s_Need_withVariable : Cond.static m_Need_withVariable.1 ∈ ztbl := zq 651 (by decide +kernel) rfl
set_option maxRecDepth 20000 in
theorem i_Need_withState : zMI m_Need_withState 4 := ⟨zq 452 (by decide +kernel) rfl, zq 80 (by decide +kernel) rfl, ⟨by decide, by decide⟩, by decide +kernel, by decide, by decide +kernel⟩
set_option maxRecDepth 20000 in
theorem s_Need_withState : Cond.static m_Need_withState.1 ∈ ztbl := zq 451 (by decide +kernel) rfl
set_option maxRecDepth 20000 in
theorem i_Need_allows : zMI m_Need_allows 2 := ⟨zq 479 (by decide +kernel) rfl, zq 80 (by decide +kernel) rfl, ⟨by decide, by decide⟩, by decide +kernel, by decide, by decide +kernel⟩
set_option maxRecDepth 20000 in
theorem s_Need_allows : Cond.static m_Need_allows.1 ∈ ztbl := zq 478 (by decide +kernel) rfl
set_option maxRecDepth 20000 in
theorem i_Need_narrowed : zMI m_Need_narrowed 3 := ⟨zq 701 (by decide +kernel) rfl, zq 80 (by decide +kernel) rfl, ⟨by decide, by decide⟩, by decide +kernel, by decide, by decide +kernel⟩
set_option maxRecDepth 20000 in
theorem s_Need_narrowed : Cond.static m_Need_narrowed.1 ∈ ztbl := zq 700 (by decide +kernel) rfl
set_option maxRecDepth 20000 in
theorem i_Need_behindLetter : zMI m_Need_behindLetter 3 := ⟨zq 707 (by decide +kernel) rfl, zq 80 (by decide +kernel) rfl, ⟨by decide, by decide⟩, by decide +kernel, by decide, by decide +kernel⟩
set_option maxRecDepth 20000 in
theorem s_Need_behindLetter : Cond.static m_Need_behindLetter.1 ∈ ztbl := zq 706 (by decide +kernel) rfl
set_option maxRecDepth 20000 in
theorem i_Need_stateOfTurn : zMI m_Need_stateOfTurn 2 := ⟨zq 695 (by decide +kernel) rfl, zq 80 (by decide +kernel) rfl, ⟨by decide, by decide⟩, by decide +kernel, by decide, by decide +kernel⟩
set_option maxRecDepth 20000 in
theorem s_Need_stateOfTurn : Cond.static m_Need_stateOfTurn.1 ∈ ztbl := zq 694 (by decide +kernel) rfl
set_option maxRecDepth 20000 in
theorem i_Need_isTurn : zMI m_Need_isTurn 2 := ⟨zq 691 (by decide +kernel) rfl, zq 80 (by decide +kernel) rfl, ⟨by decide, by decide⟩, by decide +kernel, by decide, by decide +kernel⟩
set_option maxRecDepth 20000 in
theorem s_Need_isTurn : Cond.static m_Need_isTurn.1 ∈ ztbl := zq 690 (by decide +kernel) rfl
set_option maxRecDepth 20000 in
theorem i_Need_behindTurn : zMI m_Need_behindTurn 2 := ⟨zq 698 (by decide +kernel) rfl, zq 80 (by decide +kernel) rfl, ⟨by decide, by decide⟩, by decide +kernel, by decide, by decide +kernel⟩
set_option maxRecDepth 20000 in
theorem s_Need_behindTurn : Cond.static m_Need_behindTurn.1 ∈ ztbl := zq 697 (by decide +kernel) rfl
set_option maxRecDepth 20000 in
theorem i_Need_aheadOfTurn : zMI m_Need_aheadOfTurn 3 := ⟨zq 704 (by decide +kernel) rfl, zq 80 (by decide +kernel) rfl, ⟨by decide, by decide⟩, by decide +kernel, by decide, by decide +kernel⟩
set_option maxRecDepth 20000 in
theorem s_Need_aheadOfTurn : Cond.static m_Need_aheadOfTurn.1 ∈ ztbl := zq 703 (by decide +kernel) rfl
set_option maxRecDepth 20000 in
theorem i_Net_init : zMI m_Net_init 2 := ⟨zq 211 (by decide +kernel) rfl, zq 75 (by decide +kernel) rfl, ⟨by decide, by decide⟩, by decide +kernel, by decide, by decide +kernel⟩
set_option maxRecDepth 20000 in
theorem v_Net_init : Cond.instanceMethod m_Net_init.1 ∈ ztbl := zq 210 (by decide +kernel) rfl
set_option maxRecDepth 20000 in
theorem i_Net_at : zMI m_Net_at 1 := ⟨zq 629 (by decide +kernel) rfl, zq 75 (by decide +kernel) rfl, ⟨by decide, by decide⟩, by decide +kernel, by decide, by decide +kernel⟩
set_option maxRecDepth 20000 in
theorem v_Net_at : Cond.instanceMethod m_Net_at.1 ∈ ztbl := zq 627 (by decide +kernel) rfl
set_option maxRecDepth 20000 in
theorem w_Net_at : Cond.selects m_Net_at.1.cls m_Net_at.1 m_Net_at.1 ∈ ztbl := zq 628 (by decide +kernel) rfl
set_option maxRecDepth 20000 in
theorem i_Net_verdict : zMI m_Net_verdict 0 := ⟨zq 736 (by decide +kernel) rfl, zq 75 (by decide +kernel) rfl, ⟨by decide, by decide⟩, by decide +kernel, by decide, by decide +kernel⟩
set_option maxRecDepth 20000 in
theorem v_Net_verdict : Cond.instanceMethod m_Net_verdict.1 ∈ ztbl := zq 734 (by decide +kernel) rfl
set_option maxRecDepth 20000 in
theorem w_Net_verdict : Cond.selects m_Net_verdict.1.cls m_Net_verdict.1 m_Net_verdict.1 ∈ ztbl := zq 735 (by decide +kernel) rfl
set_option maxRecDepth 20000 in
theorem i_Net_begin : zMI m_Net_begin 0 := ⟨zq 523 (by decide +kernel) rfl, zq 75 (by decide +kernel) rfl, ⟨by decide, by decide⟩, by decide +kernel, by decide, by decide +kernel⟩
set_option maxRecDepth 20000 in
theorem v_Net_begin : Cond.instanceMethod m_Net_begin.1 ∈ ztbl := zq 521 (by decide +kernel) rfl
set_option maxRecDepth 20000 in
theorem w_Net_begin : Cond.selects m_Net_begin.1.cls m_Net_begin.1 m_Net_begin.1 ∈ ztbl := zq 522 (by decide +kernel) rfl
set_option maxRecDepth 20000 in
theorem i_Net_unfold : zMI m_Net_unfold 1 := ⟨zq 625 (by decide +kernel) rfl, zq 75 (by decide +kernel) rfl, ⟨by decide, by decide⟩, by decide +kernel, by decide, by decide +kernel⟩
set_option maxRecDepth 20000 in
theorem v_Net_unfold : Cond.instanceMethod m_Net_unfold.1 ∈ ztbl := zq 623 (by decide +kernel) rfl
set_option maxRecDepth 20000 in
theorem w_Net_unfold : Cond.selects m_Net_unfold.1.cls m_Net_unfold.1 m_Net_unfold.1 ∈ ztbl := zq 624 (by decide +kernel) rfl
set_option maxRecDepth 20000 in
theorem i_Net_draftNothing : zMI m_Net_draftNothing 2 := ⟨zq 641 (by decide +kernel) rfl, zq 75 (by decide +kernel) rfl, ⟨by decide, by decide⟩, by decide +kernel, by decide, by decide +kernel⟩
set_option maxRecDepth 20000 in
theorem v_Net_draftNothing : Cond.instanceMethod m_Net_draftNothing.1 ∈ ztbl := zq 640 (by decide +kernel) rfl
set_option maxRecDepth 20000 in
theorem w_Net_draftNothing : Cond.selects m_Net_draftNothing.1.cls m_Net_draftNothing.1 m_Net_draftNothing.1 ∈ ztbl := zq 11 (by decide +kernel) rfl
set_option maxRecDepth 20000 in
theorem i_Net_draftBegins : zMI m_Net_draftBegins 3 := ⟨zq 680 (by decide +kernel) rfl, zq 75 (by decide +kernel) rfl, ⟨by decide, by decide⟩, by decide +kernel, by decide, by decide +kernel⟩
set_option maxRecDepth 20000 in
theorem v_Net_draftBegins : Cond.instanceMethod m_Net_draftBegins.1 ∈ ztbl := zq 679 (by decide +kernel) rfl
set_option maxRecDepth 20000 in
theorem w_Net_draftBegins : Cond.selects m_Net_draftBegins.1.cls m_Net_draftBegins.1 m_Net_draftBegins.1 ∈ ztbl := zq 15 (by decide +kernel) rfl
set_option maxRecDepth 20000 in
theorem i_Net_draftTurns : zMI m_Net_draftTurns 4 := ⟨zq 688 (by decide +kernel) rfl, zq 75 (by decide +kernel) rfl, ⟨by decide, by decide⟩, by decide +kernel, by decide, by decide +kernel⟩
set_option maxRecDepth 20000 in
theorem v_Net_draftTurns : Cond.instanceMethod m_Net_draftTurns.1 ∈ ztbl := zq 687 (by decide +kernel) rfl
set_option maxRecDepth 20000 in
theorem w_Net_draftTurns : Cond.selects m_Net_draftTurns.1.cls m_Net_draftTurns.1 m_Net_draftTurns.1 ∈ ztbl := zq 16 (by decide +kernel) rfl
set_option maxRecDepth 20000 in
theorem i_Net_addDraft : zMI m_Net_addDraft 2 := ⟨zq 656 (by decide +kernel) rfl, zq 75 (by decide +kernel) rfl, ⟨by decide, by decide⟩, by decide +kernel, by decide, by decide +kernel⟩
set_option maxRecDepth 20000 in
theorem v_Net_addDraft : Cond.instanceMethod m_Net_addDraft.1 ∈ ztbl := zq 655 (by decide +kernel) rfl
set_option maxRecDepth 20000 in
theorem w_Net_addDraft : Cond.selects m_Net_addDraft.1.cls m_Net_addDraft.1 m_Net_addDraft.1 ∈ ztbl := zq 12 (by decide +kernel) rfl
set_option maxRecDepth 20000 in
theorem i_Net_makeLean : zMI m_Net_makeLean 0 := ⟨zq 532 (by decide +kernel) rfl, zq 75 (by decide +kernel) rfl, ⟨by decide, by decide⟩, by decide +kernel, by decide, by decide +kernel⟩
set_option maxRecDepth 20000 in
theorem v_Net_makeLean : Cond.instanceMethod m_Net_makeLean.1 ∈ ztbl := zq 531 (by decide +kernel) rfl
set_option maxRecDepth 20000 in
theorem w_Net_makeLean : Cond.selects m_Net_makeLean.1.cls m_Net_makeLean.1 m_Net_makeLean.1 ∈ ztbl := zq 8 (by decide +kernel) rfl
set_option maxRecDepth 20000 in
theorem i_Net_settleDrafts : zMI m_Net_settleDrafts 1 := ⟨zq 661 (by decide +kernel) rfl, zq 75 (by decide +kernel) rfl, ⟨by decide, by decide⟩, by decide +kernel, by decide, by decide +kernel⟩
set_option maxRecDepth 20000 in
theorem v_Net_settleDrafts : Cond.instanceMethod m_Net_settleDrafts.1 ∈ ztbl := zq 660 (by decide +kernel) rfl
set_option maxRecDepth 20000 in
theorem w_Net_settleDrafts : Cond.selects m_Net_settleDrafts.1.cls m_Net_settleDrafts.1 m_Net_settleDrafts.1 ∈ ztbl := zq 13 (by decide +kernel) rfl
set_option maxRecDepth 20000 in
theorem i_Net_bucketOf : zMI m_Net_bucketOf 1 := ⟨zq 620 (by decide +kernel) rfl, zq 75 (by decide +kernel) rfl, ⟨by decide, by decide⟩, by decide +kernel, by decide, by decide +kernel⟩
set_option maxRecDepth 20000 in
theorem v_Net_bucketOf : Cond.instanceMethod m_Net_bucketOf.1 ∈ ztbl := zq 619 (by decide +kernel) rfl
set_option maxRecDepth 20000 in
theorem w_Net_bucketOf : Cond.selects m_Net_bucketOf.1.cls m_Net_bucketOf.1 m_Net_bucketOf.1 ∈ ztbl := zq 10 (by decide +kernel) rfl
set_option maxRecDepth 20000 in
theorem i_Net_metBefore : zMI m_Net_metBefore 1 := ⟨zq 666 (by decide +kernel) rfl, zq 75 (by decide +kernel) rfl, ⟨by decide, by decide⟩, by decide +kernel, by decide, by decide +kernel⟩
set_option maxRecDepth 20000 in
theorem v_Net_metBefore : Cond.instanceMethod m_Net_metBefore.1 ∈ ztbl := zq 665 (by decide +kernel) rfl
set_option maxRecDepth 20000 in
theorem w_Net_metBefore : Cond.selects m_Net_metBefore.1.cls m_Net_metBefore.1 m_Net_metBefore.1 ∈ ztbl := zq 14 (by decide +kernel) rfl
set_option maxRecDepth 20000 in
theorem i_Net_meet : zMI m_Net_meet 1 := ⟨zq 549 (by decide +kernel) rfl, zq 75 (by decide +kernel) rfl, ⟨by decide, by decide⟩, by decide +kernel, by decide, by decide +kernel⟩
set_option maxRecDepth 20000 in
theorem v_Net_meet : Cond.instanceMethod m_Net_meet.1 ∈ ztbl := zq 548 (by decide +kernel) rfl
set_option maxRecDepth 20000 in
theorem w_Net_meet : Cond.selects m_Net_meet.1.cls m_Net_meet.1 m_Net_meet.1 ∈ ztbl := zq 9 (by decide +kernel) rfl
set_option maxRecDepth 20000 in
theorem i_Node_init : zMI m_Node_init 1 := ⟨zq 553 (by decide +kernel) rfl, zq 82 (by decide +kernel) rfl, ⟨by decide, by decide⟩, by decide +kernel, by decide, by decide +kernel⟩
set_option maxRecDepth 20000 in
theorem v_Node_init : Cond.instanceMethod m_Node_init.1 ∈ ztbl := zq 552 (by decide +kernel) rfl
set_option maxRecDepth 20000 in
theorem i_Node_start : zMI m_Node_start 3 := ⟨zq 614 (by decide +kernel) rfl, zq 82 (by decide +kernel) rfl, ⟨by decide, by decide⟩, by decide +kernel, by decide, by decide +kernel⟩
set_option maxRecDepth 20000 in
theorem v_Node_start : Cond.instanceMethod m_Node_start.1 ∈ ztbl := zq 612 (by decide +kernel) rfl
set_option maxRecDepth 20000 in
theorem w_Node_start : Cond.selects m_Node_start.1.cls m_Node_start.1 m_Node_start.1 ∈ ztbl := zq 613 (by decide +kernel) rfl
set_option maxRecDepth 20000 in
theorem i_Node_addMove : zMI m_Node_addMove 2 := ⟨zq 674 (by decide +kernel) rfl, zq 82 (by decide +kernel) rfl, ⟨by decide, by decide⟩, by decide +kernel, by decide, by decide +kernel⟩
set_option maxRecDepth 20000 in
theorem v_Node_addMove : Cond.instanceMethod m_Node_addMove.1 ∈ ztbl := zq 672 (by decide +kernel) rfl
set_option maxRecDepth 20000 in
theorem w_Node_addMove : Cond.selects m_Node_addMove.1.cls m_Node_addMove.1 m_Node_addMove.1 ∈ ztbl := zq 673 (by decide +kernel) rfl
set_option maxRecDepth 20000 in
theorem i_Row_init : zMI m_Row_init 1 := ⟨zq 95 (by decide +kernel) rfl, zq 69 (by decide +kernel) rfl, ⟨by decide, by decide⟩, by decide +kernel, by decide, by decide +kernel⟩
set_option maxRecDepth 20000 in
theorem v_Row_init : Cond.instanceMethod m_Row_init.1 ∈ ztbl := zq 94 (by decide +kernel) rfl
set_option maxRecDepth 20000 in
theorem i_Row_size : zMI m_Row_size 0 := ⟨zq 375 (by decide +kernel) rfl, zq 69 (by decide +kernel) rfl, ⟨by decide, by decide⟩, by decide +kernel, by decide, by decide +kernel⟩
set_option maxRecDepth 20000 in
theorem v_Row_size : Cond.instanceMethod m_Row_size.1 ∈ ztbl := zq 373 (by decide +kernel) rfl
set_option maxRecDepth 20000 in
theorem w_Row_size : Cond.selects m_Row_size.1.cls m_Row_size.1 m_Row_size.1 ∈ ztbl := zq 374 (by decide +kernel) rfl
set_option maxRecDepth 20000 in
theorem i_Row_at : zMI m_Row_at 1 := ⟨zq 395 (by decide +kernel) rfl, zq 69 (by decide +kernel) rfl, ⟨by decide, by decide⟩, by decide +kernel, by decide, by decide +kernel⟩
set_option maxRecDepth 20000 in
theorem v_Row_at : Cond.instanceMethod m_Row_at.1 ∈ ztbl := zq 393 (by decide +kernel) rfl
set_option maxRecDepth 20000 in
theorem w_Row_at : Cond.selects m_Row_at.1.cls m_Row_at.1 m_Row_at.1 ∈ ztbl := zq 394 (by decide +kernel) rfl
set_option maxRecDepth 20000 in
theorem i_Row_makeEmpty : zMI m_Row_makeEmpty 0 := ⟨zq 383 (by decide +kernel) rfl, zq 69 (by decide +kernel) rfl, ⟨by decide, by decide⟩, by decide +kernel, by decide, by decide +kernel⟩
set_option maxRecDepth 20000 in
theorem v_Row_makeEmpty : Cond.instanceMethod m_Row_makeEmpty.1 ∈ ztbl := zq 381 (by decide +kernel) rfl
set_option maxRecDepth 20000 in
theorem w_Row_makeEmpty : Cond.selects m_Row_makeEmpty.1.cls m_Row_makeEmpty.1 m_Row_makeEmpty.1 ∈ ztbl := zq 382 (by decide +kernel) rfl
set_option maxRecDepth 20000 in
theorem i_Row_push : zMI m_Row_push 1 := ⟨zq 371 (by decide +kernel) rfl, zq 69 (by decide +kernel) rfl, ⟨by decide, by decide⟩, by decide +kernel, by decide, by decide +kernel⟩
set_option maxRecDepth 20000 in
theorem v_Row_push : Cond.instanceMethod m_Row_push.1 ∈ ztbl := zq 369 (by decide +kernel) rfl
set_option maxRecDepth 20000 in
theorem w_Row_push : Cond.selects m_Row_push.1.cls m_Row_push.1 m_Row_push.1 ∈ ztbl := zq 370 (by decide +kernel) rfl
set_option maxRecDepth 20000 in
theorem i_Row_pushAhead : zMI m_Row_pushAhead 1 := ⟨zq 488 (by decide +kernel) rfl, zq 69 (by decide +kernel) rfl, ⟨by decide, by decide⟩, by decide +kernel, by decide, by decide +kernel⟩
set_option maxRecDepth 20000 in
theorem v_Row_pushAhead : Cond.instanceMethod m_Row_pushAhead.1 ∈ ztbl := zq 486 (by decide +kernel) rfl
set_option maxRecDepth 20000 in
theorem w_Row_pushAhead : Cond.selects m_Row_pushAhead.1.cls m_Row_pushAhead.1 m_Row_pushAhead.1 ∈ ztbl := zq 487 (by decide +kernel) rfl
set_option maxRecDepth 20000 in
theorem i_Row_putAhead : zMI m_Row_putAhead 1 := ⟨zq 731 (by decide +kernel) rfl, zq 69 (by decide +kernel) rfl, ⟨by decide, by decide⟩, by decide +kernel, by decide, by decide +kernel⟩
set_option maxRecDepth 20000 in
theorem v_Row_putAhead : Cond.instanceMethod m_Row_putAhead.1 ∈ ztbl := zq 729 (by decide +kernel) rfl
set_option maxRecDepth 20000 in
theorem w_Row_putAhead : Cond.selects m_Row_putAhead.1.cls m_Row_putAhead.1 m_Row_putAhead.1 ∈ ztbl := zq 730 (by decide +kernel) rfl
set_option maxRecDepth 20000 in
theorem i_Row_makeRoom : zMI m_Row_makeRoom 1 := ⟨zq 492 (by decide +kernel) rfl, zq 69 (by decide +kernel) rfl, ⟨by decide, by decide⟩, by decide +kernel, by decide, by decide +kernel⟩
set_option maxRecDepth 20000 in
theorem v_Row_makeRoom : Cond.instanceMethod m_Row_makeRoom.1 ∈ ztbl := zq 491 (by decide +kernel) rfl
set_option maxRecDepth 20000 in
theorem w_Row_makeRoom : Cond.selects m_Row_makeRoom.1.cls m_Row_makeRoom.1 m_Row_makeRoom.1 ∈ ztbl := zq 5 (by decide +kernel) rfl
set_option maxRecDepth 20000 in
theorem i_Row_dropFirst : zMI m_Row_dropFirst 1 := ⟨zq 541 (by decide +kernel) rfl, zq 69 (by decide +kernel) rfl, ⟨by decide, by decide⟩, by decide +kernel, by decide, by decide +kernel⟩
set_option maxRecDepth 20000 in
theorem v_Row_dropFirst : Cond.instanceMethod m_Row_dropFirst.1 ∈ ztbl := zq 539 (by decide +kernel) rfl
set_option maxRecDepth 20000 in
theorem w_Row_dropFirst : Cond.selects m_Row_dropFirst.1.cls m_Row_dropFirst.1 m_Row_dropFirst.1 ∈ ztbl := zq 540 (by decide +kernel) rfl
set_option maxRecDepth 20000 in
theorem i_Row_copy : zMI m_Row_copy 1 := ⟨zq 528 (by decide +kernel) rfl, zq 69 (by decide +kernel) rfl, ⟨by decide, by decide⟩, by decide +kernel, by decide, by decide +kernel⟩
set_option maxRecDepth 20000 in
theorem v_Row_copy : Cond.instanceMethod m_Row_copy.1 ∈ ztbl := zq 526 (by decide +kernel) rfl
set_option maxRecDepth 20000 in
theorem w_Row_copy : Cond.selects m_Row_copy.1.cls m_Row_copy.1 m_Row_copy.1 ∈ ztbl := zq 527 (by decide +kernel) rfl
set_option maxRecDepth 20000 in
theorem i_Row_add : zMI m_Row_add 1 := ⟨zq 805 (by decide +kernel) rfl, zq 69 (by decide +kernel) rfl, ⟨by decide, by decide⟩, by decide +kernel, by decide, by decide +kernel⟩
set_option maxRecDepth 20000 in
theorem v_Row_add : Cond.instanceMethod m_Row_add.1 ∈ ztbl := zq 803 (by decide +kernel) rfl
set_option maxRecDepth 20000 in
theorem w_Row_add : Cond.selects m_Row_add.1.cls m_Row_add.1 m_Row_add.1 ∈ ztbl := zq 804 (by decide +kernel) rfl
set_option maxRecDepth 20000 in
theorem i_Row_copyWithout : zMI m_Row_copyWithout 2 := ⟨zq 648 (by decide +kernel) rfl, zq 69 (by decide +kernel) rfl, ⟨by decide, by decide⟩, by decide +kernel, by decide, by decide +kernel⟩
set_option maxRecDepth 20000 in
theorem v_Row_copyWithout : Cond.instanceMethod m_Row_copyWithout.1 ∈ ztbl := zq 646 (by decide +kernel) rfl
set_option maxRecDepth 20000 in
theorem w_Row_copyWithout : Cond.selects m_Row_copyWithout.1.cls m_Row_copyWithout.1 m_Row_copyWithout.1 ∈ ztbl := zq 647 (by decide +kernel) rfl
set_option maxRecDepth 20000 in
theorem i_Row_copyWithAhead : zMI m_Row_copyWithAhead 3 := ⟨zq 684 (by decide +kernel) rfl, zq 69 (by decide +kernel) rfl, ⟨by decide, by decide⟩, by decide +kernel, by decide, by decide +kernel⟩
set_option maxRecDepth 20000 in
theorem v_Row_copyWithAhead : Cond.instanceMethod m_Row_copyWithAhead.1 ∈ ztbl := zq 682 (by decide +kernel) rfl
set_option maxRecDepth 20000 in
theorem w_Row_copyWithAhead : Cond.selects m_Row_copyWithAhead.1.cls m_Row_copyWithAhead.1 m_Row_copyWithAhead.1 ∈ ztbl := zq 683 (by decide +kernel) rfl
set_option maxRecDepth 20000 in
theorem i_Row_sameAs : zMI m_Row_sameAs 1 := ⟨zq 670 (by decide +kernel) rfl, zq 69 (by decide +kernel) rfl, ⟨by decide, by decide⟩, by decide +kernel, by decide, by decide +kernel⟩
set_option maxRecDepth 20000 in
theorem v_Row_sameAs : Cond.instanceMethod m_Row_sameAs.1 ∈ ztbl := zq 668 (by decide +kernel) rfl
set_option maxRecDepth 20000 in
theorem w_Row_sameAs : Cond.selects m_Row_sameAs.1.cls m_Row_sameAs.1 m_Row_sameAs.1 ∈ ztbl := zq 669 (by decide +kernel) rfl
set_option maxRecDepth 20000 in
theorem i_Row_sameAtFront : zMI m_Row_sameAtFront 1 := ⟨zq 536 (by decide +kernel) rfl, zq 69 (by decide +kernel) rfl, ⟨by decide, by decide⟩, by decide +kernel, by decide, by decide +kernel⟩
set_option maxRecDepth 20000 in
theorem v_Row_sameAtFront : Cond.instanceMethod m_Row_sameAtFront.1 ∈ ztbl := zq 534 (by decide +kernel) rfl
set_option maxRecDepth 20000 in
theorem w_Row_sameAtFront : Cond.selects m_Row_sameAtFront.1.cls m_Row_sameAtFront.1 m_Row_sameAtFront.1 ∈ ztbl := zq 535 (by decide +kernel) rfl
set_option maxRecDepth 20000 in
theorem i_Row_mark : zMI m_Row_mark 0 := ⟨zq 545 (by decide +kernel) rfl, zq 69 (by decide +kernel) rfl, ⟨by decide, by decide⟩, by decide +kernel, by decide, by decide +kernel⟩
set_option maxRecDepth 20000 in
theorem v_Row_mark : Cond.instanceMethod m_Row_mark.1 ∈ ztbl := zq 543 (by decide +kernel) rfl
set_option maxRecDepth 20000 in
theorem w_Row_mark : Cond.selects m_Row_mark.1.cls m_Row_mark.1 m_Row_mark.1 ∈ ztbl := zq 544 (by decide +kernel) rfl
set_option maxRecDepth 20000 in
theorem i_Shorts_init : zMI m_Shorts_init 1 := ⟨zq 183 (by decide +kernel) rfl, zq 74 (by decide +kernel) rfl, ⟨by decide, by decide⟩, by decide +kernel, by decide, by decide +kernel⟩
set_option maxRecDepth 20000 in
theorem v_Shorts_init : Cond.instanceMethod m_Shorts_init.1 ∈ ztbl := zq 182 (by decide +kernel) rfl
set_option maxRecDepth 20000 in
theorem i_Shorts_forget : zMI m_Shorts_forget 0 := ⟨zq 436 (by decide +kernel) rfl, zq 74 (by decide +kernel) rfl, ⟨by decide, by decide⟩, by decide +kernel, by decide, by decide +kernel⟩
set_option maxRecDepth 20000 in
theorem v_Shorts_forget : Cond.instanceMethod m_Shorts_forget.1 ∈ ztbl := zq 434 (by decide +kernel) rfl
set_option maxRecDepth 20000 in
theorem w_Shorts_forget : Cond.selects m_Shorts_forget.1.cls m_Shorts_forget.1 m_Shorts_forget.1 ∈ ztbl := zq 435 (by decide +kernel) rfl
set_option maxRecDepth 20000 in
theorem i_Shorts_refresh : zMI m_Shorts_refresh 0 := ⟨zq 460 (by decide +kernel) rfl, zq 74 (by decide +kernel) rfl, ⟨by decide, by decide⟩, by decide +kernel, by decide, by decide +kernel⟩
set_option maxRecDepth 20000 in
theorem v_Shorts_refresh : Cond.instanceMethod m_Shorts_refresh.1 ∈ ztbl := zq 458 (by decide +kernel) rfl
set_option maxRecDepth 20000 in
theorem w_Shorts_refresh : Cond.selects m_Shorts_refresh.1.cls m_Shorts_refresh.1 m_Shorts_refresh.1 ∈ ztbl := zq 459 (by decide +kernel) rfl
set_option maxRecDepth 20000 in
theorem i_Shorts_meet : zMI m_Shorts_meet 3 := ⟨zq 467 (by decide +kernel) rfl, zq 74 (by decide +kernel) rfl, ⟨by decide, by decide⟩, by decide +kernel, by decide, by decide +kernel⟩
set_option maxRecDepth 20000 in
theorem v_Shorts_meet : Cond.instanceMethod m_Shorts_meet.1 ∈ ztbl := zq 466 (by decide +kernel) rfl
set_option maxRecDepth 20000 in
theorem w_Shorts_meet : Cond.selects m_Shorts_meet.1.cls m_Shorts_meet.1 m_Shorts_meet.1 ∈ ztbl := zq 4 (by decide +kernel) rfl
set_option maxRecDepth 20000 in
theorem i_Shorts_firstFit : zMI m_Shorts_firstFit 1 := ⟨zq 476 (by decide +kernel) rfl, zq 74 (by decide +kernel) rfl, ⟨by decide, by decide⟩, by decide +kernel, by decide, by decide +kernel⟩
set_option maxRecDepth 20000 in
theorem v_Shorts_firstFit : Cond.instanceMethod m_Shorts_firstFit.1 ∈ ztbl := zq 474 (by decide +kernel) rfl
set_option maxRecDepth 20000 in
theorem w_Shorts_firstFit : Cond.selects m_Shorts_firstFit.1.cls m_Shorts_firstFit.1 m_Shorts_firstFit.1 ∈ ztbl := zq 475 (by decide +kernel) rfl
set_option maxRecDepth 20000 in
theorem i_Shorts_anyHopeless : zMI m_Shorts_anyHopeless 1 := ⟨zq 635 (by decide +kernel) rfl, zq 74 (by decide +kernel) rfl, ⟨by decide, by decide⟩, by decide +kernel, by decide, by decide +kernel⟩
set_option maxRecDepth 20000 in
theorem v_Shorts_anyHopeless : Cond.instanceMethod m_Shorts_anyHopeless.1 ∈ ztbl := zq 633 (by decide +kernel) rfl
set_option maxRecDepth 20000 in
theorem w_Shorts_anyHopeless : Cond.selects m_Shorts_anyHopeless.1.cls m_Shorts_anyHopeless.1 m_Shorts_anyHopeless.1 ∈ ztbl := zq 634 (by decide +kernel) rfl
set_option maxRecDepth 20000 in
theorem i_Shorts_write : zMI m_Shorts_write 2 := ⟨zq 483 (by decide +kernel) rfl, zq 74 (by decide +kernel) rfl, ⟨by decide, by decide⟩, by decide +kernel, by decide, by decide +kernel⟩
set_option maxRecDepth 20000 in
theorem v_Shorts_write : Cond.instanceMethod m_Shorts_write.1 ∈ ztbl := zq 481 (by decide +kernel) rfl
set_option maxRecDepth 20000 in
theorem w_Shorts_write : Cond.selects m_Shorts_write.1.cls m_Shorts_write.1 m_Shorts_write.1 ∈ ztbl := zq 482 (by decide +kernel) rfl
set_option maxRecDepth 20000 in
theorem i_Tally_init : zMI m_Tally_init 0 := ⟨zq 312 (by decide +kernel) rfl, zq 78 (by decide +kernel) rfl, ⟨by decide, by decide⟩, by decide +kernel, by decide, by decide +kernel⟩
set_option maxRecDepth 20000 in
theorem v_Tally_init : Cond.instanceMethod m_Tally_init.1 ∈ ztbl := zq 311 (by decide +kernel) rfl
set_option maxRecDepth 20000 in
theorem i_Tally_count : zMI m_Tally_count 1 := ⟨zq 503 (by decide +kernel) rfl, zq 78 (by decide +kernel) rfl, ⟨by decide, by decide⟩, by decide +kernel, by decide, by decide +kernel⟩
set_option maxRecDepth 20000 in
theorem v_Tally_count : Cond.instanceMethod m_Tally_count.1 ∈ ztbl := zq 501 (by decide +kernel) rfl
set_option maxRecDepth 20000 in
theorem w_Tally_count : Cond.selects m_Tally_count.1.cls m_Tally_count.1 m_Tally_count.1 ∈ ztbl := zq 502 (by decide +kernel) rfl
set_option maxRecDepth 20000 in
theorem i_Tally_countRow : zMI m_Tally_countRow 2 := ⟨zq 508 (by decide +kernel) rfl, zq 78 (by decide +kernel) rfl, ⟨by decide, by decide⟩, by decide +kernel, by decide, by decide +kernel⟩
set_option maxRecDepth 20000 in
theorem v_Tally_countRow : Cond.instanceMethod m_Tally_countRow.1 ∈ ztbl := zq 507 (by decide +kernel) rfl
set_option maxRecDepth 20000 in
theorem w_Tally_countRow : Cond.selects m_Tally_countRow.1.cls m_Tally_countRow.1 m_Tally_countRow.1 ∈ ztbl := zq 6 (by decide +kernel) rfl
set_option maxRecDepth 20000 in
theorem i_Tally_mostOfAVariable : zMI m_Tally_mostOfAVariable 0 := ⟨zq 514 (by decide +kernel) rfl, zq 78 (by decide +kernel) rfl, ⟨by decide, by decide⟩, by decide +kernel, by decide, by decide +kernel⟩
set_option maxRecDepth 20000 in
theorem v_Tally_mostOfAVariable : Cond.instanceMethod m_Tally_mostOfAVariable.1 ∈ ztbl := zq 512 (by decide +kernel) rfl
set_option maxRecDepth 20000 in
theorem w_Tally_mostOfAVariable : Cond.selects m_Tally_mostOfAVariable.1.cls m_Tally_mostOfAVariable.1 m_Tally_mostOfAVariable.1 ∈ ztbl := zq 513 (by decide +kernel) rfl
set_option maxRecDepth 20000 in
theorem i_Tally_wordsGive : zMI m_Tally_wordsGive 3 := ⟨zq 832 (by decide +kernel) rfl, zq 78 (by decide +kernel) rfl, ⟨by decide, by decide⟩, by decide +kernel, by decide, by decide +kernel⟩
set_option maxRecDepth 20000 in
theorem v_Tally_wordsGive : Cond.instanceMethod m_Tally_wordsGive.1 ∈ ztbl := zq 830 (by decide +kernel) rfl
set_option maxRecDepth 20000 in
theorem w_Tally_wordsGive : Cond.selects m_Tally_wordsGive.1.cls m_Tally_wordsGive.1 m_Tally_wordsGive.1 ∈ ztbl := zq 831 (by decide +kernel) rfl
set_option maxRecDepth 20000 in
theorem i_Tally_lacking : zMI m_Tally_lacking 1 := ⟨zq 828 (by decide +kernel) rfl, zq 78 (by decide +kernel) rfl, ⟨by decide, by decide⟩, by decide +kernel, by decide, by decide +kernel⟩
set_option maxRecDepth 20000 in
theorem v_Tally_lacking : Cond.instanceMethod m_Tally_lacking.1 ∈ ztbl := zq 826 (by decide +kernel) rfl
set_option maxRecDepth 20000 in
theorem w_Tally_lacking : Cond.selects m_Tally_lacking.1.cls m_Tally_lacking.1 m_Tally_lacking.1 ∈ ztbl := zq 827 (by decide +kernel) rfl
set_option maxRecDepth 20000 in
theorem i_Trial_init : zMI m_Trial_init 0 := ⟨zq 289 (by decide +kernel) rfl, zq 77 (by decide +kernel) rfl, ⟨by decide, by decide⟩, by decide +kernel, by decide, by decide +kernel⟩
set_option maxRecDepth 20000 in
theorem v_Trial_init : Cond.instanceMethod m_Trial_init.1 ∈ ztbl := zq 288 (by decide +kernel) rfl
set_option maxRecDepth 20000 in
theorem i_Trial_seek : zMI m_Trial_seek 2 := ⟨zq 840 (by decide +kernel) rfl, zq 77 (by decide +kernel) rfl, ⟨by decide, by decide⟩, by decide +kernel, by decide, by decide +kernel⟩
set_option maxRecDepth 20000 in
theorem v_Trial_seek : Cond.instanceMethod m_Trial_seek.1 ∈ ztbl := zq 838 (by decide +kernel) rfl
set_option maxRecDepth 20000 in
theorem w_Trial_seek : Cond.selects m_Trial_seek.1.cls m_Trial_seek.1 m_Trial_seek.1 ∈ ztbl := zq 839 (by decide +kernel) rfl
set_option maxRecDepth 20000 in
theorem i_Trial_seekOfSize : zMI m_Trial_seekOfSize 3 := ⟨zq 855 (by decide +kernel) rfl, zq 77 (by decide +kernel) rfl, ⟨by decide, by decide⟩, by decide +kernel, by decide, by decide +kernel⟩
set_option maxRecDepth 20000 in
theorem v_Trial_seekOfSize : Cond.instanceMethod m_Trial_seekOfSize.1 ∈ ztbl := zq 854 (by decide +kernel) rfl
set_option maxRecDepth 20000 in
theorem w_Trial_seekOfSize : Cond.selects m_Trial_seekOfSize.1.cls m_Trial_seekOfSize.1 m_Trial_seekOfSize.1 ∈ ztbl := zq 22 (by decide +kernel) rfl
set_option maxRecDepth 20000 in
theorem i_Trial_seekLast : zMI m_Trial_seekLast 2 := ⟨zq 869 (by decide +kernel) rfl, zq 77 (by decide +kernel) rfl, ⟨by decide, by decide⟩, by decide +kernel, by decide, by decide +kernel⟩
set_option maxRecDepth 20000 in
theorem v_Trial_seekLast : Cond.instanceMethod m_Trial_seekLast.1 ∈ ztbl := zq 868 (by decide +kernel) rfl
set_option maxRecDepth 20000 in
theorem w_Trial_seekLast : Cond.selects m_Trial_seekLast.1.cls m_Trial_seekLast.1 m_Trial_seekLast.1 ∈ ztbl := zq 24 (by decide +kernel) rfl
set_option maxRecDepth 20000 in
theorem i_Trial_choose : zMI m_Trial_choose 2 := ⟨zq 859 (by decide +kernel) rfl, zq 77 (by decide +kernel) rfl, ⟨by decide, by decide⟩, by decide +kernel, by decide, by decide +kernel⟩
set_option maxRecDepth 20000 in
theorem v_Trial_choose : Cond.instanceMethod m_Trial_choose.1 ∈ ztbl := zq 858 (by decide +kernel) rfl
set_option maxRecDepth 20000 in
theorem w_Trial_choose : Cond.selects m_Trial_choose.1.cls m_Trial_choose.1 m_Trial_choose.1 ∈ ztbl := zq 23 (by decide +kernel) rfl
set_option maxRecDepth 20000 in
theorem i_Trial_spelled : zMI m_Trial_spelled 1 := ⟨zq 873 (by decide +kernel) rfl, zq 77 (by decide +kernel) rfl, ⟨by decide, by decide⟩, by decide +kernel, by decide, by decide +kernel⟩
set_option maxRecDepth 20000 in
theorem v_Trial_spelled : Cond.instanceMethod m_Trial_spelled.1 ∈ ztbl := zq 872 (by decide +kernel) rfl
set_option maxRecDepth 20000 in
theorem w_Trial_spelled : Cond.selects m_Trial_spelled.1.cls m_Trial_spelled.1 m_Trial_spelled.1 ∈ ztbl := zq 25 (by decide +kernel) rfl
set_option maxRecDepth 20000 in
theorem i_Trial_sizeOf : zMI m_Trial_sizeOf 1 := ⟨zq 863 (by decide +kernel) rfl, zq 77 (by decide +kernel) rfl, ⟨by decide, by decide⟩, by decide +kernel, by decide, by decide +kernel⟩
set_option maxRecDepth 20000 in
theorem s_Trial_sizeOf : Cond.static m_Trial_sizeOf.1 ∈ ztbl := zq 862 (by decide +kernel) rfl
set_option maxRecDepth 20000 in
theorem i_Trial_findMaps : zMI m_Trial_findMaps 1 := ⟨zq 844 (by decide +kernel) rfl, zq 77 (by decide +kernel) rfl, ⟨by decide, by decide⟩, by decide +kernel, by decide, by decide +kernel⟩
set_option maxRecDepth 20000 in
theorem v_Trial_findMaps : Cond.instanceMethod m_Trial_findMaps.1 ∈ ztbl := zq 843 (by decide +kernel) rfl
set_option maxRecDepth 20000 in
theorem w_Trial_findMaps : Cond.selects m_Trial_findMaps.1.cls m_Trial_findMaps.1 m_Trial_findMaps.1 ∈ ztbl := zq 20 (by decide +kernel) rfl
set_option maxRecDepth 20000 in
theorem i_Trial_allowedWords : zMI m_Trial_allowedWords 1 := ⟨zq 850 (by decide +kernel) rfl, zq 77 (by decide +kernel) rfl, ⟨by decide, by decide⟩, by decide +kernel, by decide, by decide +kernel⟩
set_option maxRecDepth 20000 in
theorem v_Trial_allowedWords : Cond.instanceMethod m_Trial_allowedWords.1 ∈ ztbl := zq 849 (by decide +kernel) rfl
set_option maxRecDepth 20000 in
theorem w_Trial_allowedWords : Cond.selects m_Trial_allowedWords.1.cls m_Trial_allowedWords.1 m_Trial_allowedWords.1 ∈ ztbl := zq 21 (by decide +kernel) rfl
set_option maxRecDepth 20000 in
theorem i_Trial_codeOf : zMI m_Trial_codeOf 1 := ⟨zq 879 (by decide +kernel) rfl, zq 77 (by decide +kernel) rfl, ⟨by decide, by decide⟩, by decide +kernel, by decide, by decide +kernel⟩
set_option maxRecDepth 20000 in
theorem v_Trial_codeOf : Cond.instanceMethod m_Trial_codeOf.1 ∈ ztbl := zq 877 (by decide +kernel) rfl
set_option maxRecDepth 20000 in
theorem w_Trial_codeOf : Cond.selects m_Trial_codeOf.1.cls m_Trial_codeOf.1 m_Trial_codeOf.1 ∈ ztbl := zq 878 (by decide +kernel) rfl
set_option maxRecDepth 20000 in
theorem i_Words_init : zMI m_Words_init 1 := ⟨zq 130 (by decide +kernel) rfl, zq 73 (by decide +kernel) rfl, ⟨by decide, by decide⟩, by decide +kernel, by decide, by decide +kernel⟩
set_option maxRecDepth 20000 in
theorem v_Words_init : Cond.instanceMethod m_Words_init.1 ∈ ztbl := zq 129 (by decide +kernel) rfl
set_option maxRecDepth 20000 in
theorem i_Words_of : zMI m_Words_of 1 := ⟨zq 719 (by decide +kernel) rfl, zq 73 (by decide +kernel) rfl, ⟨by decide, by decide⟩, by decide +kernel, by decide, by decide +kernel⟩
set_option maxRecDepth 20000 in
theorem v_Words_of : Cond.instanceMethod m_Words_of.1 ∈ ztbl := zq 717 (by decide +kernel) rfl
set_option maxRecDepth 20000 in
theorem w_Words_of : Cond.selects m_Words_of.1.cls m_Words_of.1 m_Words_of.1 ∈ ztbl := zq 718 (by decide +kernel) rfl
set_option maxRecDepth 20000 in
theorem i_Words_copy : zMI m_Words_copy 1 := ⟨zq 780 (by decide +kernel) rfl, zq 73 (by decide +kernel) rfl, ⟨by decide, by decide⟩, by decide +kernel, by decide, by decide +kernel⟩
set_option maxRecDepth 20000 in
theorem v_Words_copy : Cond.instanceMethod m_Words_copy.1 ∈ ztbl := zq 778 (by decide +kernel) rfl
set_option maxRecDepth 20000 in
theorem w_Words_copy : Cond.selects m_Words_copy.1.cls m_Words_copy.1 m_Words_copy.1 ∈ ztbl := zq 779 (by decide +kernel) rfl
set_option maxRecDepth 20000 in
theorem i_Words_together : zMI m_Words_together 0 := ⟨zq 785 (by decide +kernel) rfl, zq 73 (by decide +kernel) rfl, ⟨by decide, by decide⟩, by decide +kernel, by decide, by decide +kernel⟩
set_option maxRecDepth 20000 in
theorem v_Words_together : Cond.instanceMethod m_Words_together.1 ∈ ztbl := zq 783 (by decide +kernel) rfl
set_option maxRecDepth 20000 in
theorem w_Words_together : Cond.selects m_Words_together.1.cls m_Words_together.1 m_Words_together.1 ∈ ztbl := zq 784 (by decide +kernel) rfl
set_option maxRecDepth 20000 in
theorem i_Words_longest : zMI m_Words_longest 0 := ⟨zq 774 (by decide +kernel) rfl, zq 73 (by decide +kernel) rfl, ⟨by decide, by decide⟩, by decide +kernel, by decide, by decide +kernel⟩
set_option maxRecDepth 20000 in
theorem v_Words_longest : Cond.instanceMethod m_Words_longest.1 ∈ ztbl := zq 772 (by decide +kernel) rfl
set_option maxRecDepth 20000 in
theorem w_Words_longest : Cond.selects m_Words_longest.1.cls m_Words_longest.1 m_Words_longest.1 ∈ ztbl := zq 773 (by decide +kernel) rfl
set_option maxRecDepth 20000 in
theorem i_Words_spellOut : zMI m_Words_spellOut 2 := ⟨zq 797 (by decide +kernel) rfl, zq 73 (by decide +kernel) rfl, ⟨by decide, by decide⟩, by decide +kernel, by decide, by decide +kernel⟩
set_option maxRecDepth 20000 in
theorem v_Words_spellOut : Cond.instanceMethod m_Words_spellOut.1 ∈ ztbl := zq 795 (by decide +kernel) rfl
set_option maxRecDepth 20000 in
theorem w_Words_spellOut : Cond.selects m_Words_spellOut.1.cls m_Words_spellOut.1 m_Words_spellOut.1 ∈ ztbl := zq 796 (by decide +kernel) rfl
set_option maxRecDepth 20000 in
theorem i_H_init : zMI m_H_init 0 := ⟨zq 87 (by decide +kernel) rfl, zq 68 (by decide +kernel) rfl, ⟨by decide, by decide⟩, by decide +kernel, by decide, by decide +kernel⟩
set_option maxRecDepth 20000 in
theorem v_H_init : Cond.instanceMethod m_H_init.1 ∈ ztbl := zq 86 (by decide +kernel) rfl
set_option maxRecDepth 20000 in
theorem i_H_say : zMI m_H_say 1 := ⟨zq 367 (by decide +kernel) rfl, zq 68 (by decide +kernel) rfl, ⟨by decide, by decide⟩, by decide +kernel, by decide, by decide +kernel⟩
set_option maxRecDepth 20000 in
theorem v_H_say : Cond.instanceMethod m_H_say.1 ∈ ztbl := zq 365 (by decide +kernel) rfl
set_option maxRecDepth 20000 in
theorem w_H_say : Cond.selects m_H_say.1.cls m_H_say.1 m_H_say.1 ∈ ztbl := zq 366 (by decide +kernel) rfl
set_option maxRecDepth 20000 in
theorem i_H_wipe : zMI m_H_wipe 0 := ⟨zq 379 (by decide +kernel) rfl, zq 68 (by decide +kernel) rfl, ⟨by decide, by decide⟩, by decide +kernel, by decide, by decide +kernel⟩
set_option maxRecDepth 20000 in
theorem v_H_wipe : Cond.instanceMethod m_H_wipe.1 ∈ ztbl := zq 377 (by decide +kernel) rfl
set_option maxRecDepth 20000 in
theorem w_H_wipe : Cond.selects m_H_wipe.1.cls m_H_wipe.1 m_H_wipe.1 ∈ ztbl := zq 378 (by decide +kernel) rfl
set_option maxRecDepth 20000 in
theorem i_H_fault : zMI m_H_fault 0 := ⟨zq 387 (by decide +kernel) rfl, zq 68 (by decide +kernel) rfl, ⟨by decide, by decide⟩, by decide +kernel, by decide, by decide +kernel⟩
set_option maxRecDepth 20000 in
theorem v_H_fault : Cond.instanceMethod m_H_fault.1 ∈ ztbl := zq 385 (by decide +kernel) rfl
set_option maxRecDepth 20000 in
theorem w_H_fault : Cond.selects m_H_fault.1.cls m_H_fault.1 m_H_fault.1 ∈ ztbl := zq 386 (by decide +kernel) rfl
set_option maxRecDepth 20000 in
theorem i_H_load : zMI m_H_load 0 := ⟨zq 402 (by decide +kernel) rfl, zq 68 (by decide +kernel) rfl, ⟨by decide, by decide⟩, by decide +kernel, by decide, by decide +kernel⟩
set_option maxRecDepth 20000 in
theorem v_H_load : Cond.instanceMethod m_H_load.1 ∈ ztbl := zq 400 (by decide +kernel) rfl
set_option maxRecDepth 20000 in
theorem w_H_load : Cond.selects m_H_load.1.cls m_H_load.1 m_H_load.1 ∈ ztbl := zq 401 (by decide +kernel) rfl
set_option maxRecDepth 20000 in
theorem i_H_leads : zMI m_H_leads 3 := ⟨zq 414 (by decide +kernel) rfl, zq 68 (by decide +kernel) rfl, ⟨by decide, by decide⟩, by decide +kernel, by decide, by decide +kernel⟩
set_option maxRecDepth 20000 in
theorem v_H_leads : Cond.instanceMethod m_H_leads.1 ∈ ztbl := zq 412 (by decide +kernel) rfl
set_option maxRecDepth 20000 in
theorem w_H_leads : Cond.selects m_H_leads.1.cls m_H_leads.1 m_H_leads.1 ∈ ztbl := zq 413 (by decide +kernel) rfl
set_option maxRecDepth 20000 in
theorem i_H_need : zMI m_H_need 3 := ⟨zq 440 (by decide +kernel) rfl, zq 68 (by decide +kernel) rfl, ⟨by decide, by decide⟩, by decide +kernel, by decide, by decide +kernel⟩
set_option maxRecDepth 20000 in
theorem v_H_need : Cond.instanceMethod m_H_need.1 ∈ ztbl := zq 438 (by decide +kernel) rfl
set_option maxRecDepth 20000 in
theorem w_H_need : Cond.selects m_H_need.1.cls m_H_need.1 m_H_need.1 ∈ ztbl := zq 439 (by decide +kernel) rfl
set_option maxRecDepth 20000 in
theorem i_H_brief : zMI m_H_brief 2 := ⟨zq 456 (by decide +kernel) rfl, zq 68 (by decide +kernel) rfl, ⟨by decide, by decide⟩, by decide +kernel, by decide, by decide +kernel⟩
set_option maxRecDepth 20000 in
theorem v_H_brief : Cond.instanceMethod m_H_brief.1 ∈ ztbl := zq 454 (by decide +kernel) rfl
set_option maxRecDepth 20000 in
theorem w_H_brief : Cond.selects m_H_brief.1.cls m_H_brief.1 m_H_brief.1 ∈ ztbl := zq 455 (by decide +kernel) rfl
set_option maxRecDepth 20000 in
theorem i_H_net : zMI m_H_net 1 := ⟨zq 499 (by decide +kernel) rfl, zq 68 (by decide +kernel) rfl, ⟨by decide, by decide⟩, by decide +kernel, by decide, by decide +kernel⟩
set_option maxRecDepth 20000 in
theorem v_H_net : Cond.instanceMethod m_H_net.1 ∈ ztbl := zq 497 (by decide +kernel) rfl
set_option maxRecDepth 20000 in
theorem w_H_net : Cond.selects m_H_net.1.cls m_H_net.1 m_H_net.1 ∈ ztbl := zq 498 (by decide +kernel) rfl
set_option maxRecDepth 20000 in
theorem i_H_node : zMI m_H_node 2 := ⟨zq 740 (by decide +kernel) rfl, zq 68 (by decide +kernel) rfl, ⟨by decide, by decide⟩, by decide +kernel, by decide, by decide +kernel⟩
set_option maxRecDepth 20000 in
theorem v_H_node : Cond.instanceMethod m_H_node.1 ∈ ztbl := zq 738 (by decide +kernel) rfl
set_option maxRecDepth 20000 in
theorem w_H_node : Cond.selects m_H_node.1.cls m_H_node.1 m_H_node.1 ∈ ztbl := zq 739 (by decide +kernel) rfl
set_option maxRecDepth 20000 in
theorem i_H_symbol : zMI m_H_symbol 3 := ⟨zq 745 (by decide +kernel) rfl, zq 68 (by decide +kernel) rfl, ⟨by decide, by decide⟩, by decide +kernel, by decide, by decide +kernel⟩
set_option maxRecDepth 20000 in
theorem v_H_symbol : Cond.instanceMethod m_H_symbol.1 ∈ ztbl := zq 743 (by decide +kernel) rfl
set_option maxRecDepth 20000 in
theorem w_H_symbol : Cond.selects m_H_symbol.1.cls m_H_symbol.1 m_H_symbol.1 ∈ ztbl := zq 744 (by decide +kernel) rfl
set_option maxRecDepth 20000 in
theorem i_H_needs : zMI m_H_needs 3 := ⟨zq 749 (by decide +kernel) rfl, zq 68 (by decide +kernel) rfl, ⟨by decide, by decide⟩, by decide +kernel, by decide, by decide +kernel⟩
set_option maxRecDepth 20000 in
theorem v_H_needs : Cond.instanceMethod m_H_needs.1 ∈ ztbl := zq 747 (by decide +kernel) rfl
set_option maxRecDepth 20000 in
theorem w_H_needs : Cond.selects m_H_needs.1.cls m_H_needs.1 m_H_needs.1 ∈ ztbl := zq 748 (by decide +kernel) rfl
set_option maxRecDepth 20000 in
theorem i_H_move : zMI m_H_move 3 := ⟨zq 753 (by decide +kernel) rfl, zq 68 (by decide +kernel) rfl, ⟨by decide, by decide⟩, by decide +kernel, by decide, by decide +kernel⟩
set_option maxRecDepth 20000 in
theorem v_H_move : Cond.instanceMethod m_H_move.1 ∈ ztbl := zq 751 (by decide +kernel) rfl
set_option maxRecDepth 20000 in
theorem w_H_move : Cond.selects m_H_move.1.cls m_H_move.1 m_H_move.1 ∈ ztbl := zq 752 (by decide +kernel) rfl
set_option maxRecDepth 20000 in
theorem i_H_answer : zMI m_H_answer 2 := ⟨zq 757 (by decide +kernel) rfl, zq 68 (by decide +kernel) rfl, ⟨by decide, by decide⟩, by decide +kernel, by decide, by decide +kernel⟩
set_option maxRecDepth 20000 in
theorem v_H_answer : Cond.instanceMethod m_H_answer.1 ∈ ztbl := zq 755 (by decide +kernel) rfl
set_option maxRecDepth 20000 in
theorem w_H_answer : Cond.selects m_H_answer.1.cls m_H_answer.1 m_H_answer.1 ∈ ztbl := zq 756 (by decide +kernel) rfl
set_option maxRecDepth 20000 in
theorem i_H_spell : zMI m_H_spell 2 := ⟨zq 762 (by decide +kernel) rfl, zq 68 (by decide +kernel) rfl, ⟨by decide, by decide⟩, by decide +kernel, by decide, by decide +kernel⟩
set_option maxRecDepth 20000 in
theorem v_H_spell : Cond.instanceMethod m_H_spell.1 ∈ ztbl := zq 760 (by decide +kernel) rfl
set_option maxRecDepth 20000 in
theorem w_H_spell : Cond.selects m_H_spell.1.cls m_H_spell.1 m_H_spell.1 ∈ ztbl := zq 761 (by decide +kernel) rfl
set_option maxRecDepth 20000 in
theorem i_H_clear : zMI m_H_clear 1 := ⟨zq 766 (by decide +kernel) rfl, zq 68 (by decide +kernel) rfl, ⟨by decide, by decide⟩, by decide +kernel, by decide, by decide +kernel⟩
set_option maxRecDepth 20000 in
theorem v_H_clear : Cond.instanceMethod m_H_clear.1 ∈ ztbl := zq 764 (by decide +kernel) rfl
set_option maxRecDepth 20000 in
theorem w_H_clear : Cond.selects m_H_clear.1.cls m_H_clear.1 m_H_clear.1 ∈ ztbl := zq 765 (by decide +kernel) rfl
set_option maxRecDepth 20000 in
theorem i_H_take : zMI m_H_take 0 := ⟨zq 770 (by decide +kernel) rfl, zq 68 (by decide +kernel) rfl, ⟨by decide, by decide⟩, by decide +kernel, by decide, by decide +kernel⟩
set_option maxRecDepth 20000 in
theorem v_H_take : Cond.instanceMethod m_H_take.1 ∈ ztbl := zq 768 (by decide +kernel) rfl
set_option maxRecDepth 20000 in
theorem w_H_take : Cond.selects m_H_take.1.cls m_H_take.1 m_H_take.1 ∈ ztbl := zq 769 (by decide +kernel) rfl
set_option maxRecDepth 20000 in
theorem i_H_fits : zMI m_H_fits 0 := ⟨zq 789 (by decide +kernel) rfl, zq 68 (by decide +kernel) rfl, ⟨by decide, by decide⟩, by decide +kernel, by decide, by decide +kernel⟩
set_option maxRecDepth 20000 in
theorem v_H_fits : Cond.instanceMethod m_H_fits.1 ∈ ztbl := zq 787 (by decide +kernel) rfl
set_option maxRecDepth 20000 in
theorem w_H_fits : Cond.selects m_H_fits.1.cls m_H_fits.1 m_H_fits.1 ∈ ztbl := zq 788 (by decide +kernel) rfl
set_option maxRecDepth 20000 in
theorem i_H_lengths : zMI m_H_lengths 2 := ⟨zq 824 (by decide +kernel) rfl, zq 68 (by decide +kernel) rfl, ⟨by decide, by decide⟩, by decide +kernel, by decide, by decide +kernel⟩
set_option maxRecDepth 20000 in
theorem v_H_lengths : Cond.instanceMethod m_H_lengths.1 ∈ ztbl := zq 822 (by decide +kernel) rfl
set_option maxRecDepth 20000 in
theorem w_H_lengths : Cond.selects m_H_lengths.1.cls m_H_lengths.1 m_H_lengths.1 ∈ ztbl := zq 823 (by decide +kernel) rfl
set_option maxRecDepth 20000 in
theorem i_H_shortest : zMI m_H_shortest 1 := ⟨zq 836 (by decide +kernel) rfl, zq 68 (by decide +kernel) rfl, ⟨by decide, by decide⟩, by decide +kernel, by decide, by decide +kernel⟩
set_option maxRecDepth 20000 in
theorem v_H_shortest : Cond.instanceMethod m_H_shortest.1 ∈ ztbl := zq 834 (by decide +kernel) rfl
set_option maxRecDepth 20000 in
theorem w_H_shortest : Cond.selects m_H_shortest.1.cls m_H_shortest.1 m_H_shortest.1 ∈ ztbl := zq 835 (by decide +kernel) rfl
set_option maxRecDepth 20000 in
theorem i_H_image : zMI m_H_image 1 := ⟨zq 883 (by decide +kernel) rfl, zq 68 (by decide +kernel) rfl, ⟨by decide, by decide⟩, by decide +kernel, by decide, by decide +kernel⟩
set_option maxRecDepth 20000 in
theorem v_H_image : Cond.instanceMethod m_H_image.1 ∈ ztbl := zq 881 (by decide +kernel) rfl
set_option maxRecDepth 20000 in
theorem w_H_image : Cond.selects m_H_image.1.cls m_H_image.1 m_H_image.1 ∈ ztbl := zq 882 (by decide +kernel) rfl
set_option maxRecDepth 20000 in
theorem i_H_restore : zMI m_H_restore 1 := ⟨zq 897 (by decide +kernel) rfl, zq 68 (by decide +kernel) rfl, ⟨by decide, by decide⟩, by decide +kernel, by decide, by decide +kernel⟩
set_option maxRecDepth 20000 in
theorem v_H_restore : Cond.instanceMethod m_H_restore.1 ∈ ztbl := zq 895 (by decide +kernel) rfl
set_option maxRecDepth 20000 in
theorem w_H_restore : Cond.selects m_H_restore.1.cls m_H_restore.1 m_H_restore.1 ∈ ztbl := zq 896 (by decide +kernel) rfl
set_option maxRecDepth 20000 in
theorem i_H_told : zMI m_H_told 1 := ⟨zq 901 (by decide +kernel) rfl, zq 68 (by decide +kernel) rfl, ⟨by decide, by decide⟩, by decide +kernel, by decide, by decide +kernel⟩
set_option maxRecDepth 20000 in
theorem v_H_told : Cond.instanceMethod m_H_told.1 ∈ ztbl := zq 899 (by decide +kernel) rfl
set_option maxRecDepth 20000 in
theorem w_H_told : Cond.selects m_H_told.1.cls m_H_told.1 m_H_told.1 ∈ ztbl := zq 900 (by decide +kernel) rfl
set_option maxRecDepth 20000 in
theorem i_H_isLetter : zMI m_H_isLetter 1 := ⟨zq 420 (by decide +kernel) rfl, zq 68 (by decide +kernel) rfl, ⟨by decide, by decide⟩, by decide +kernel, by decide, by decide +kernel⟩
set_option maxRecDepth 20000 in
theorem s_H_isLetter : Cond.static m_H_isLetter.1 ∈ ztbl := zq 419 (by decide +kernel) rfl
set_option maxRecDepth 20000 in
theorem i_H_isVariable : zMI m_H_isVariable 1 := ⟨zq 443 (by decide +kernel) rfl, zq 68 (by decide +kernel) rfl, ⟨by decide, by decide⟩, by decide +kernel, by decide, by decide +kernel⟩
set_option maxRecDepth 20000 in
theorem s_H_isVariable : Cond.static m_H_isVariable.1 ∈ ztbl := zq 442 (by decide +kernel) rfl
set_option maxRecDepth 20000 in
theorem i_H_isState : zMI m_H_isState 1 := ⟨zq 417 (by decide +kernel) rfl, zq 68 (by decide +kernel) rfl, ⟨by decide, by decide⟩, by decide +kernel, by decide, by decide +kernel⟩
set_option maxRecDepth 20000 in
theorem s_H_isState : Cond.static m_H_isState.1 ∈ ztbl := zq 416 (by decide +kernel) rfl
set_option maxRecDepth 20000 in
theorem i_H_sizeOrItem : zMI m_H_sizeOrItem 2 := ⟨zq 495 (by decide +kernel) rfl, zq 68 (by decide +kernel) rfl, ⟨by decide, by decide⟩, by decide +kernel, by decide, by decide +kernel⟩
set_option maxRecDepth 20000 in
theorem s_H_sizeOrItem : Cond.static m_H_sizeOrItem.1 ∈ ztbl := zq 494 (by decide +kernel) rfl
set_option maxRecDepth 20000 in
theorem i_H_symbolOf : zMI m_H_symbolOf 1 := ⟨zq 398 (by decide +kernel) rfl, zq 68 (by decide +kernel) rfl, ⟨by decide, by decide⟩, by decide +kernel, by decide, by decide +kernel⟩
set_option maxRecDepth 20000 in
theorem s_H_symbolOf : Cond.static m_H_symbolOf.1 ∈ ztbl := zq 397 (by decide +kernel) rfl
set_option maxRecDepth 20000 in
theorem i_H_firstFault : zMI m_H_firstFault 0 := ⟨zq 391 (by decide +kernel) rfl, zq 68 (by decide +kernel) rfl, ⟨by decide, by decide⟩, by decide +kernel, by decide, by decide +kernel⟩
set_option maxRecDepth 20000 in
theorem v_H_firstFault : Cond.instanceMethod m_H_firstFault.1 ∈ ztbl := zq 390 (by decide +kernel) rfl
set_option maxRecDepth 20000 in
theorem w_H_firstFault : Cond.selects m_H_firstFault.1.cls m_H_firstFault.1 m_H_firstFault.1 ∈ ztbl := zq 0 (by decide +kernel) rfl
set_option maxRecDepth 20000 in
theorem i_H_pourPad : zMI m_H_pourPad 0 := ⟨zq 406 (by decide +kernel) rfl, zq 68 (by decide +kernel) rfl, ⟨by decide, by decide⟩, by decide +kernel, by decide, by decide +kernel⟩
set_option maxRecDepth 20000 in
theorem v_H_pourPad : Cond.instanceMethod m_H_pourPad.1 ∈ ztbl := zq 405 (by decide +kernel) rfl
set_option maxRecDepth 20000 in
theorem w_H_pourPad : Cond.selects m_H_pourPad.1.cls m_H_pourPad.1 m_H_pourPad.1 ∈ ztbl := zq 1 (by decide +kernel) rfl
set_option maxRecDepth 20000 in
theorem i_H_needsOrRowsChanged : zMI m_H_needsOrRowsChanged 0 := ⟨zq 410 (by decide +kernel) rfl, zq 68 (by decide +kernel) rfl, ⟨by decide, by decide⟩, by decide +kernel, by decide, by decide +kernel⟩
set_option maxRecDepth 20000 in
theorem v_H_needsOrRowsChanged : Cond.instanceMethod m_H_needsOrRowsChanged.1 ∈ ztbl := zq 409 (by decide +kernel) rfl
set_option maxRecDepth 20000 in
theorem w_H_needsOrRowsChanged : Cond.selects m_H_needsOrRowsChanged.1.cls m_H_needsOrRowsChanged.1 m_H_needsOrRowsChanged.1 ∈ ztbl := zq 2 (by decide +kernel) rfl
set_option maxRecDepth 20000 in
theorem i_H_machineChanged : zMI m_H_machineChanged 0 := ⟨zq 432 (by decide +kernel) rfl, zq 68 (by decide +kernel) rfl, ⟨by decide, by decide⟩, by decide +kernel, by decide, by decide +kernel⟩
set_option maxRecDepth 20000 in
theorem v_H_machineChanged : Cond.instanceMethod m_H_machineChanged.1 ∈ ztbl := zq 431 (by decide +kernel) rfl
set_option maxRecDepth 20000 in
theorem w_H_machineChanged : Cond.selects m_H_machineChanged.1.cls m_H_machineChanged.1 m_H_machineChanged.1 ∈ ztbl := zq 3 (by decide +kernel) rfl
set_option maxRecDepth 20000 in
theorem i_H_refreshNet : zMI m_H_refreshNet 0 := ⟨zq 519 (by decide +kernel) rfl, zq 68 (by decide +kernel) rfl, ⟨by decide, by decide⟩, by decide +kernel, by decide, by decide +kernel⟩
set_option maxRecDepth 20000 in
theorem v_H_refreshNet : Cond.instanceMethod m_H_refreshNet.1 ∈ ztbl := zq 518 (by decide +kernel) rfl
set_option maxRecDepth 20000 in
theorem w_H_refreshNet : Cond.selects m_H_refreshNet.1.cls m_H_refreshNet.1 m_H_refreshNet.1 ∈ ztbl := zq 7 (by decide +kernel) rfl
set_option maxRecDepth 20000 in
theorem i_H_wordsMakeRowsOne : zMI m_H_wordsMakeRowsOne 0 := ⟨zq 793 (by decide +kernel) rfl, zq 68 (by decide +kernel) rfl, ⟨by decide, by decide⟩, by decide +kernel, by decide, by decide +kernel⟩
set_option maxRecDepth 20000 in
theorem v_H_wordsMakeRowsOne : Cond.instanceMethod m_H_wordsMakeRowsOne.1 ∈ ztbl := zq 792 (by decide +kernel) rfl
set_option maxRecDepth 20000 in
theorem w_H_wordsMakeRowsOne : Cond.selects m_H_wordsMakeRowsOne.1.cls m_H_wordsMakeRowsOne.1 m_H_wordsMakeRowsOne.1 ∈ ztbl := zq 18 (by decide +kernel) rfl
set_option maxRecDepth 20000 in
theorem i_Mo_init : zMI m_Mo_init 0 := ⟨zq 906 (by decide +kernel) rfl, zq 79 (by decide +kernel) rfl, ⟨by decide, by decide⟩, by decide +kernel, by decide, by decide +kernel⟩
set_option maxRecDepth 20000 in
theorem v_Mo_init : Cond.instanceMethod m_Mo_init.1 ∈ ztbl := zq 905 (by decide +kernel) rfl
set_option maxRecDepth 20000 in
theorem i_Mo_in : zMI m_Mo_in 3 := ⟨zq 1047 (by decide +kernel) rfl, zq 79 (by decide +kernel) rfl, ⟨by decide, by decide⟩, by decide +kernel, by decide, by decide +kernel⟩
set_option maxRecDepth 20000 in
theorem s_Mo_in : Cond.static m_Mo_in.1 ∈ ztbl := zq 1046 (by decide +kernel) rfl
set_option maxRecDepth 20000 in
theorem i_Mo_isThird : zMI m_Mo_isThird 1 := ⟨zq 1074 (by decide +kernel) rfl, zq 79 (by decide +kernel) rfl, ⟨by decide, by decide⟩, by decide +kernel, by decide, by decide +kernel⟩
set_option maxRecDepth 20000 in
theorem s_Mo_isThird : Cond.static m_Mo_isThird.1 ∈ ztbl := zq 1073 (by decide +kernel) rfl
set_option maxRecDepth 20000 in
theorem i_Mo_has : zMI m_Mo_has 2 := ⟨zq 1103 (by decide +kernel) rfl, zq 79 (by decide +kernel) rfl, ⟨by decide, by decide⟩, by decide +kernel, by decide, by decide +kernel⟩
set_option maxRecDepth 20000 in
theorem s_Mo_has : Cond.static m_Mo_has.1 ∈ ztbl := zq 1102 (by decide +kernel) rfl
set_option maxRecDepth 20000 in
theorem i_Mo_say : zMI m_Mo_say 1 := ⟨zq 1042 (by decide +kernel) rfl, zq 79 (by decide +kernel) rfl, ⟨by decide, by decide⟩, by decide +kernel, by decide, by decide +kernel⟩
set_option maxRecDepth 20000 in
theorem v_Mo_say : Cond.instanceMethod m_Mo_say.1 ∈ ztbl := zq 1040 (by decide +kernel) rfl
set_option maxRecDepth 20000 in
theorem w_Mo_say : Cond.selects m_Mo_say.1.cls m_Mo_say.1 m_Mo_say.1 ∈ ztbl := zq 1041 (by decide +kernel) rfl
set_option maxRecDepth 20000 in
theorem i_Mo_wipe : zMI m_Mo_wipe 0 := ⟨zq 1051 (by decide +kernel) rfl, zq 79 (by decide +kernel) rfl, ⟨by decide, by decide⟩, by decide +kernel, by decide, by decide +kernel⟩
set_option maxRecDepth 20000 in
theorem v_Mo_wipe : Cond.instanceMethod m_Mo_wipe.1 ∈ ztbl := zq 1049 (by decide +kernel) rfl
set_option maxRecDepth 20000 in
theorem w_Mo_wipe : Cond.selects m_Mo_wipe.1.cls m_Mo_wipe.1 m_Mo_wipe.1 ∈ ztbl := zq 1050 (by decide +kernel) rfl
set_option maxRecDepth 20000 in
theorem i_Mo_symbolOf : zMI m_Mo_symbolOf 1 := ⟨zq 1058 (by decide +kernel) rfl, zq 79 (by decide +kernel) rfl, ⟨by decide, by decide⟩, by decide +kernel, by decide, by decide +kernel⟩
set_option maxRecDepth 20000 in
theorem s_Mo_symbolOf : Cond.static m_Mo_symbolOf.1 ∈ ztbl := zq 1057 (by decide +kernel) rfl
set_option maxRecDepth 20000 in
theorem i_Mo_fault : zMI m_Mo_fault 0 := ⟨zq 1055 (by decide +kernel) rfl, zq 79 (by decide +kernel) rfl, ⟨by decide, by decide⟩, by decide +kernel, by decide, by decide +kernel⟩
set_option maxRecDepth 20000 in
theorem v_Mo_fault : Cond.instanceMethod m_Mo_fault.1 ∈ ztbl := zq 1053 (by decide +kernel) rfl
set_option maxRecDepth 20000 in
theorem w_Mo_fault : Cond.selects m_Mo_fault.1.cls m_Mo_fault.1 m_Mo_fault.1 ∈ ztbl := zq 1054 (by decide +kernel) rfl
set_option maxRecDepth 20000 in
theorem i_Mo_load : zMI m_Mo_load 0 := ⟨zq 1066 (by decide +kernel) rfl, zq 79 (by decide +kernel) rfl, ⟨by decide, by decide⟩, by decide +kernel, by decide, by decide +kernel⟩
set_option maxRecDepth 20000 in
theorem v_Mo_load : Cond.instanceMethod m_Mo_load.1 ∈ ztbl := zq 1064 (by decide +kernel) rfl
set_option maxRecDepth 20000 in
theorem w_Mo_load : Cond.selects m_Mo_load.1.cls m_Mo_load.1 m_Mo_load.1 ∈ ztbl := zq 1065 (by decide +kernel) rfl
set_option maxRecDepth 20000 in
theorem i_Mo_leads : zMI m_Mo_leads 3 := ⟨zq 1071 (by decide +kernel) rfl, zq 79 (by decide +kernel) rfl, ⟨by decide, by decide⟩, by decide +kernel, by decide, by decide +kernel⟩
set_option maxRecDepth 20000 in
theorem v_Mo_leads : Cond.instanceMethod m_Mo_leads.1 ∈ ztbl := zq 1069 (by decide +kernel) rfl
set_option maxRecDepth 20000 in
theorem w_Mo_leads : Cond.selects m_Mo_leads.1.cls m_Mo_leads.1 m_Mo_leads.1 ∈ ztbl := zq 1070 (by decide +kernel) rfl
set_option maxRecDepth 20000 in
theorem i_Mo_need : zMI m_Mo_need 3 := ⟨zq 1079 (by decide +kernel) rfl, zq 79 (by decide +kernel) rfl, ⟨by decide, by decide⟩, by decide +kernel, by decide, by decide +kernel⟩
set_option maxRecDepth 20000 in
theorem v_Mo_need : Cond.instanceMethod m_Mo_need.1 ∈ ztbl := zq 1077 (by decide +kernel) rfl
set_option maxRecDepth 20000 in
theorem w_Mo_need : Cond.selects m_Mo_need.1.cls m_Mo_need.1 m_Mo_need.1 ∈ ztbl := zq 1078 (by decide +kernel) rfl
set_option maxRecDepth 20000 in
theorem i_Mo_isDone : zMI m_Mo_isDone 3 := ⟨zq 1096 (by decide +kernel) rfl, zq 79 (by decide +kernel) rfl, ⟨by decide, by decide⟩, by decide +kernel, by decide, by decide +kernel⟩
set_option maxRecDepth 20000 in
theorem v_Mo_isDone : Cond.instanceMethod m_Mo_isDone.1 ∈ ztbl := zq 1095 (by decide +kernel) rfl
set_option maxRecDepth 20000 in
theorem w_Mo_isDone : Cond.selects m_Mo_isDone.1.cls m_Mo_isDone.1 m_Mo_isDone.1 ∈ ztbl := zq 28 (by decide +kernel) rfl
set_option maxRecDepth 20000 in
theorem i_Mo_addDone : zMI m_Mo_addDone 5 := ⟨zq 1092 (by decide +kernel) rfl, zq 79 (by decide +kernel) rfl, ⟨by decide, by decide⟩, by decide +kernel, by decide, by decide +kernel⟩
set_option maxRecDepth 20000 in
theorem v_Mo_addDone : Cond.instanceMethod m_Mo_addDone.1 ∈ ztbl := zq 1091 (by decide +kernel) rfl
set_option maxRecDepth 20000 in
theorem w_Mo_addDone : Cond.selects m_Mo_addDone.1.cls m_Mo_addDone.1 m_Mo_addDone.1 ∈ ztbl := zq 27 (by decide +kernel) rfl
set_option maxRecDepth 20000 in
theorem i_Mo_findDone : zMI m_Mo_findDone 0 := ⟨zq 1088 (by decide +kernel) rfl, zq 79 (by decide +kernel) rfl, ⟨by decide, by decide⟩, by decide +kernel, by decide, by decide +kernel⟩
set_option maxRecDepth 20000 in
theorem v_Mo_findDone : Cond.instanceMethod m_Mo_findDone.1 ∈ ztbl := zq 1087 (by decide +kernel) rfl
set_option maxRecDepth 20000 in
theorem w_Mo_findDone : Cond.selects m_Mo_findDone.1.cls m_Mo_findDone.1 m_Mo_findDone.1 ∈ ztbl := zq 26 (by decide +kernel) rfl
set_option maxRecDepth 20000 in
theorem i_Mo_firstFor : zMI m_Mo_firstFor 2 := ⟨zq 1100 (by decide +kernel) rfl, zq 79 (by decide +kernel) rfl, ⟨by decide, by decide⟩, by decide +kernel, by decide, by decide +kernel⟩
set_option maxRecDepth 20000 in
theorem v_Mo_firstFor : Cond.instanceMethod m_Mo_firstFor.1 ∈ ztbl := zq 1099 (by decide +kernel) rfl
set_option maxRecDepth 20000 in
theorem w_Mo_firstFor : Cond.selects m_Mo_firstFor.1.cls m_Mo_firstFor.1 m_Mo_firstFor.1 ∈ ztbl := zq 29 (by decide +kernel) rfl
set_option maxRecDepth 20000 in
theorem i_Mo_brief : zMI m_Mo_brief 2 := ⟨zq 1084 (by decide +kernel) rfl, zq 79 (by decide +kernel) rfl, ⟨by decide, by decide⟩, by decide +kernel, by decide, by decide +kernel⟩
set_option maxRecDepth 20000 in
theorem v_Mo_brief : Cond.instanceMethod m_Mo_brief.1 ∈ ztbl := zq 1082 (by decide +kernel) rfl
set_option maxRecDepth 20000 in
theorem w_Mo_brief : Cond.selects m_Mo_brief.1.cls m_Mo_brief.1 m_Mo_brief.1 ∈ ztbl := zq 1083 (by decide +kernel) rfl
set_option maxRecDepth 20000 in
theorem i_Mo_dropFirst : zMI m_Mo_dropFirst 0 := ⟨zq 1120 (by decide +kernel) rfl, zq 79 (by decide +kernel) rfl, ⟨by decide, by decide⟩, by decide +kernel, by decide, by decide +kernel⟩
set_option maxRecDepth 20000 in
theorem v_Mo_dropFirst : Cond.instanceMethod m_Mo_dropFirst.1 ∈ ztbl := zq 1119 (by decide +kernel) rfl
set_option maxRecDepth 20000 in
theorem w_Mo_dropFirst : Cond.selects m_Mo_dropFirst.1.cls m_Mo_dropFirst.1 m_Mo_dropFirst.1 ∈ ztbl := zq 32 (by decide +kernel) rfl
set_option maxRecDepth 20000 in
theorem i_Mo_lean : zMI m_Mo_lean 0 := ⟨zq 1116 (by decide +kernel) rfl, zq 79 (by decide +kernel) rfl, ⟨by decide, by decide⟩, by decide +kernel, by decide, by decide +kernel⟩
set_option maxRecDepth 20000 in
theorem v_Mo_lean : Cond.instanceMethod m_Mo_lean.1 ∈ ztbl := zq 1115 (by decide +kernel) rfl
set_option maxRecDepth 20000 in
theorem w_Mo_lean : Cond.selects m_Mo_lean.1.cls m_Mo_lean.1 m_Mo_lean.1 ∈ ztbl := zq 31 (by decide +kernel) rfl
set_option maxRecDepth 20000 in
theorem i_Mo_isHopeless : zMI m_Mo_isHopeless 0 := ⟨zq 1179 (by decide +kernel) rfl, zq 79 (by decide +kernel) rfl, ⟨by decide, by decide⟩, by decide +kernel, by decide, by decide +kernel⟩
set_option maxRecDepth 20000 in
theorem v_Mo_isHopeless : Cond.instanceMethod m_Mo_isHopeless.1 ∈ ztbl := zq 1178 (by decide +kernel) rfl
set_option maxRecDepth 20000 in
theorem w_Mo_isHopeless : Cond.selects m_Mo_isHopeless.1.cls m_Mo_isHopeless.1 m_Mo_isHopeless.1 ∈ ztbl := zq 46 (by decide +kernel) rfl
set_option maxRecDepth 20000 in
theorem i_Mo_isSame : zMI m_Mo_isSame 1 := ⟨zq 1187 (by decide +kernel) rfl, zq 79 (by decide +kernel) rfl, ⟨by decide, by decide⟩, by decide +kernel, by decide, by decide +kernel⟩
set_option maxRecDepth 20000 in
theorem v_Mo_isSame : Cond.instanceMethod m_Mo_isSame.1 ∈ ztbl := zq 1186 (by decide +kernel) rfl
set_option maxRecDepth 20000 in
theorem w_Mo_isSame : Cond.selects m_Mo_isSame.1.cls m_Mo_isSame.1 m_Mo_isSame.1 ∈ ztbl := zq 48 (by decide +kernel) rfl
set_option maxRecDepth 20000 in
theorem i_Mo_lookFor : zMI m_Mo_lookFor 0 := ⟨zq 1183 (by decide +kernel) rfl, zq 79 (by decide +kernel) rfl, ⟨by decide, by decide⟩, by decide +kernel, by decide, by decide +kernel⟩
set_option maxRecDepth 20000 in
theorem v_Mo_lookFor : Cond.instanceMethod m_Mo_lookFor.1 ∈ ztbl := zq 1182 (by decide +kernel) rfl
set_option maxRecDepth 20000 in
theorem w_Mo_lookFor : Cond.selects m_Mo_lookFor.1.cls m_Mo_lookFor.1 m_Mo_lookFor.1 ∈ ztbl := zq 47 (by decide +kernel) rfl
set_option maxRecDepth 20000 in
theorem i_Mo_addNode : zMI m_Mo_addNode 3 := ⟨zq 1124 (by decide +kernel) rfl, zq 79 (by decide +kernel) rfl, ⟨by decide, by decide⟩, by decide +kernel, by decide, by decide +kernel⟩
set_option maxRecDepth 20000 in
theorem v_Mo_addNode : Cond.instanceMethod m_Mo_addNode.1 ∈ ztbl := zq 1123 (by decide +kernel) rfl
set_option maxRecDepth 20000 in
theorem w_Mo_addNode : Cond.selects m_Mo_addNode.1.cls m_Mo_addNode.1 m_Mo_addNode.1 ∈ ztbl := zq 33 (by decide +kernel) rfl
set_option maxRecDepth 20000 in
theorem i_Mo_firstOf : zMI m_Mo_firstOf 2 := ⟨zq 1140 (by decide +kernel) rfl, zq 79 (by decide +kernel) rfl, ⟨by decide, by decide⟩, by decide +kernel, by decide, by decide +kernel⟩
set_option maxRecDepth 20000 in
theorem v_Mo_firstOf : Cond.instanceMethod m_Mo_firstOf.1 ∈ ztbl := zq 1139 (by decide +kernel) rfl
set_option maxRecDepth 20000 in
theorem w_Mo_firstOf : Cond.selects m_Mo_firstOf.1.cls m_Mo_firstOf.1 m_Mo_firstOf.1 ∈ ztbl := zq 37 (by decide +kernel) rfl
set_option maxRecDepth 20000 in
theorem i_Mo_isEnd : zMI m_Mo_isEnd 1 := ⟨zq 1128 (by decide +kernel) rfl, zq 79 (by decide +kernel) rfl, ⟨by decide, by decide⟩, by decide +kernel, by decide, by decide +kernel⟩
set_option maxRecDepth 20000 in
theorem v_Mo_isEnd : Cond.instanceMethod m_Mo_isEnd.1 ∈ ztbl := zq 1127 (by decide +kernel) rfl
set_option maxRecDepth 20000 in
theorem w_Mo_isEnd : Cond.selects m_Mo_isEnd.1.cls m_Mo_isEnd.1 m_Mo_isEnd.1 ∈ ztbl := zq 34 (by decide +kernel) rfl
set_option maxRecDepth 20000 in
theorem i_Mo_addMove : zMI m_Mo_addMove 3 := ⟨zq 1144 (by decide +kernel) rfl, zq 79 (by decide +kernel) rfl, ⟨by decide, by decide⟩, by decide +kernel, by decide, by decide +kernel⟩
set_option maxRecDepth 20000 in
theorem v_Mo_addMove : Cond.instanceMethod m_Mo_addMove.1 ∈ ztbl := zq 1143 (by decide +kernel) rfl
set_option maxRecDepth 20000 in
theorem w_Mo_addMove : Cond.selects m_Mo_addMove.1.cls m_Mo_addMove.1 m_Mo_addMove.1 ∈ ztbl := zq 38 (by decide +kernel) rfl
set_option maxRecDepth 20000 in
theorem i_Mo_third : zMI m_Mo_third 1 := ⟨zq 1155 (by decide +kernel) rfl, zq 79 (by decide +kernel) rfl, ⟨by decide, by decide⟩, by decide +kernel, by decide, by decide +kernel⟩
set_option maxRecDepth 20000 in
theorem s_Mo_third : Cond.static m_Mo_third.1 ∈ ztbl := zq 1154 (by decide +kernel) rfl
set_option maxRecDepth 20000 in
theorem i_Mo_isTurn : zMI m_Mo_isTurn 3 := ⟨zq 1152 (by decide +kernel) rfl, zq 79 (by decide +kernel) rfl, ⟨by decide, by decide⟩, by decide +kernel, by decide, by decide +kernel⟩
set_option maxRecDepth 20000 in
theorem v_Mo_isTurn : Cond.instanceMethod m_Mo_isTurn.1 ∈ ztbl := zq 1151 (by decide +kernel) rfl
set_option maxRecDepth 20000 in
theorem w_Mo_isTurn : Cond.selects m_Mo_isTurn.1.cls m_Mo_isTurn.1 m_Mo_isTurn.1 ∈ ztbl := zq 40 (by decide +kernel) rfl
set_option maxRecDepth 20000 in
theorem i_Mo_addBegins : zMI m_Mo_addBegins 3 := ⟨zq 1148 (by decide +kernel) rfl, zq 79 (by decide +kernel) rfl, ⟨by decide, by decide⟩, by decide +kernel, by decide, by decide +kernel⟩
set_option maxRecDepth 20000 in
theorem v_Mo_addBegins : Cond.instanceMethod m_Mo_addBegins.1 ∈ ztbl := zq 1147 (by decide +kernel) rfl
set_option maxRecDepth 20000 in
theorem w_Mo_addBegins : Cond.selects m_Mo_addBegins.1.cls m_Mo_addBegins.1 m_Mo_addBegins.1 ∈ ztbl := zq 39 (by decide +kernel) rfl
set_option maxRecDepth 20000 in
theorem i_Mo_findMoves : zMI m_Mo_findMoves 1 := ⟨zq 1136 (by decide +kernel) rfl, zq 79 (by decide +kernel) rfl, ⟨by decide, by decide⟩, by decide +kernel, by decide, by decide +kernel⟩
set_option maxRecDepth 20000 in
theorem v_Mo_findMoves : Cond.instanceMethod m_Mo_findMoves.1 ∈ ztbl := zq 1135 (by decide +kernel) rfl
set_option maxRecDepth 20000 in
theorem w_Mo_findMoves : Cond.selects m_Mo_findMoves.1.cls m_Mo_findMoves.1 m_Mo_findMoves.1 ∈ ztbl := zq 36 (by decide +kernel) rfl
set_option maxRecDepth 20000 in
theorem i_Mo_layRows : zMI m_Mo_layRows 3 := ⟨zq 1163 (by decide +kernel) rfl, zq 79 (by decide +kernel) rfl, ⟨by decide, by decide⟩, by decide +kernel, by decide, by decide +kernel⟩
set_option maxRecDepth 20000 in
theorem v_Mo_layRows : Cond.instanceMethod m_Mo_layRows.1 ∈ ztbl := zq 1162 (by decide +kernel) rfl
set_option maxRecDepth 20000 in
theorem w_Mo_layRows : Cond.selects m_Mo_layRows.1.cls m_Mo_layRows.1 m_Mo_layRows.1 ∈ ztbl := zq 42 (by decide +kernel) rfl
set_option maxRecDepth 20000 in
theorem i_Mo_letterAhead : zMI m_Mo_letterAhead 3 := ⟨zq 1167 (by decide +kernel) rfl, zq 79 (by decide +kernel) rfl, ⟨by decide, by decide⟩, by decide +kernel, by decide, by decide +kernel⟩
set_option maxRecDepth 20000 in
theorem v_Mo_letterAhead : Cond.instanceMethod m_Mo_letterAhead.1 ∈ ztbl := zq 1166 (by decide +kernel) rfl
set_option maxRecDepth 20000 in
theorem w_Mo_letterAhead : Cond.selects m_Mo_letterAhead.1.cls m_Mo_letterAhead.1 m_Mo_letterAhead.1 ∈ ztbl := zq 43 (by decide +kernel) rfl
set_option maxRecDepth 20000 in
theorem i_Mo_variableAhead : zMI m_Mo_variableAhead 4 := ⟨zq 1171 (by decide +kernel) rfl, zq 79 (by decide +kernel) rfl, ⟨by decide, by decide⟩, by decide +kernel, by decide, by decide +kernel⟩
set_option maxRecDepth 20000 in
theorem v_Mo_variableAhead : Cond.instanceMethod m_Mo_variableAhead.1 ∈ ztbl := zq 1170 (by decide +kernel) rfl
set_option maxRecDepth 20000 in
theorem w_Mo_variableAhead : Cond.selects m_Mo_variableAhead.1.cls m_Mo_variableAhead.1 m_Mo_variableAhead.1 ∈ ztbl := zq 44 (by decide +kernel) rfl
set_option maxRecDepth 20000 in
theorem i_Mo_isNothing : zMI m_Mo_isNothing 2 := ⟨zq 1175 (by decide +kernel) rfl, zq 79 (by decide +kernel) rfl, ⟨by decide, by decide⟩, by decide +kernel, by decide, by decide +kernel⟩
set_option maxRecDepth 20000 in
theorem v_Mo_isNothing : Cond.instanceMethod m_Mo_isNothing.1 ∈ ztbl := zq 1174 (by decide +kernel) rfl
set_option maxRecDepth 20000 in
theorem w_Mo_isNothing : Cond.selects m_Mo_isNothing.1.cls m_Mo_isNothing.1 m_Mo_isNothing.1 ∈ ztbl := zq 45 (by decide +kernel) rfl
set_option maxRecDepth 20000 in
theorem i_Mo_makeMove : zMI m_Mo_makeMove 2 := ⟨zq 1159 (by decide +kernel) rfl, zq 79 (by decide +kernel) rfl, ⟨by decide, by decide⟩, by decide +kernel, by decide, by decide +kernel⟩
set_option maxRecDepth 20000 in
theorem v_Mo_makeMove : Cond.instanceMethod m_Mo_makeMove.1 ∈ ztbl := zq 1158 (by decide +kernel) rfl
set_option maxRecDepth 20000 in
theorem w_Mo_makeMove : Cond.selects m_Mo_makeMove.1.cls m_Mo_makeMove.1 m_Mo_makeMove.1 ∈ ztbl := zq 41 (by decide +kernel) rfl
set_option maxRecDepth 20000 in
theorem i_Mo_goOn : zMI m_Mo_goOn 1 := ⟨zq 1132 (by decide +kernel) rfl, zq 79 (by decide +kernel) rfl, ⟨by decide, by decide⟩, by decide +kernel, by decide, by decide +kernel⟩
set_option maxRecDepth 20000 in
theorem v_Mo_goOn : Cond.instanceMethod m_Mo_goOn.1 ∈ ztbl := zq 1131 (by decide +kernel) rfl
set_option maxRecDepth 20000 in
theorem w_Mo_goOn : Cond.selects m_Mo_goOn.1.cls m_Mo_goOn.1 m_Mo_goOn.1 ∈ ztbl := zq 35 (by decide +kernel) rfl
set_option maxRecDepth 20000 in
theorem i_Mo_findNet : zMI m_Mo_findNet 0 := ⟨zq 1112 (by decide +kernel) rfl, zq 79 (by decide +kernel) rfl, ⟨by decide, by decide⟩, by decide +kernel, by decide, by decide +kernel⟩
set_option maxRecDepth 20000 in
theorem v_Mo_findNet : Cond.instanceMethod m_Mo_findNet.1 ∈ ztbl := zq 1111 (by decide +kernel) rfl
set_option maxRecDepth 20000 in
theorem w_Mo_findNet : Cond.selects m_Mo_findNet.1.cls m_Mo_findNet.1 m_Mo_findNet.1 ∈ ztbl := zq 30 (by decide +kernel) rfl
set_option maxRecDepth 20000 in
theorem i_Mo_firstEnd : zMI m_Mo_firstEnd 0 := ⟨zq 1191 (by decide +kernel) rfl, zq 79 (by decide +kernel) rfl, ⟨by decide, by decide⟩, by decide +kernel, by decide, by decide +kernel⟩
set_option maxRecDepth 20000 in
theorem v_Mo_firstEnd : Cond.instanceMethod m_Mo_firstEnd.1 ∈ ztbl := zq 1190 (by decide +kernel) rfl
set_option maxRecDepth 20000 in
theorem w_Mo_firstEnd : Cond.selects m_Mo_firstEnd.1.cls m_Mo_firstEnd.1 m_Mo_firstEnd.1 ∈ ztbl := zq 49 (by decide +kernel) rfl
set_option maxRecDepth 20000 in
theorem i_Mo_cuts : zMI m_Mo_cuts 0 := ⟨zq 1195 (by decide +kernel) rfl, zq 79 (by decide +kernel) rfl, ⟨by decide, by decide⟩, by decide +kernel, by decide, by decide +kernel⟩
set_option maxRecDepth 20000 in
theorem v_Mo_cuts : Cond.instanceMethod m_Mo_cuts.1 ∈ ztbl := zq 1194 (by decide +kernel) rfl
set_option maxRecDepth 20000 in
theorem w_Mo_cuts : Cond.selects m_Mo_cuts.1.cls m_Mo_cuts.1 m_Mo_cuts.1 ∈ ztbl := zq 50 (by decide +kernel) rfl
set_option maxRecDepth 20000 in
theorem i_Mo_mostOfOne : zMI m_Mo_mostOfOne 0 := ⟨zq 1199 (by decide +kernel) rfl, zq 79 (by decide +kernel) rfl, ⟨by decide, by decide⟩, by decide +kernel, by decide, by decide +kernel⟩
set_option maxRecDepth 20000 in
theorem v_Mo_mostOfOne : Cond.instanceMethod m_Mo_mostOfOne.1 ∈ ztbl := zq 1198 (by decide +kernel) rfl
set_option maxRecDepth 20000 in
theorem w_Mo_mostOfOne : Cond.selects m_Mo_mostOfOne.1.cls m_Mo_mostOfOne.1 m_Mo_mostOfOne.1 ∈ ztbl := zq 51 (by decide +kernel) rfl
set_option maxRecDepth 20000 in
theorem i_Mo_net : zMI m_Mo_net 1 := ⟨zq 1107 (by decide +kernel) rfl, zq 79 (by decide +kernel) rfl, ⟨by decide, by decide⟩, by decide +kernel, by decide, by decide +kernel⟩
set_option maxRecDepth 20000 in
theorem v_Mo_net : Cond.instanceMethod m_Mo_net.1 ∈ ztbl := zq 1105 (by decide +kernel) rfl
set_option maxRecDepth 20000 in
theorem w_Mo_net : Cond.selects m_Mo_net.1.cls m_Mo_net.1 m_Mo_net.1 ∈ ztbl := zq 1106 (by decide +kernel) rfl
set_option maxRecDepth 20000 in
theorem i_Mo_isNode : zMI m_Mo_isNode 1 := ⟨zq 1207 (by decide +kernel) rfl, zq 79 (by decide +kernel) rfl, ⟨by decide, by decide⟩, by decide +kernel, by decide, by decide +kernel⟩
set_option maxRecDepth 20000 in
theorem v_Mo_isNode : Cond.instanceMethod m_Mo_isNode.1 ∈ ztbl := zq 1206 (by decide +kernel) rfl
set_option maxRecDepth 20000 in
theorem w_Mo_isNode : Cond.selects m_Mo_isNode.1.cls m_Mo_isNode.1 m_Mo_isNode.1 ∈ ztbl := zq 52 (by decide +kernel) rfl
set_option maxRecDepth 20000 in
theorem i_Mo_findLeading : zMI m_Mo_findLeading 2 := ⟨zq 1211 (by decide +kernel) rfl, zq 79 (by decide +kernel) rfl, ⟨by decide, by decide⟩, by decide +kernel, by decide, by decide +kernel⟩
set_option maxRecDepth 20000 in
theorem v_Mo_findLeading : Cond.instanceMethod m_Mo_findLeading.1 ∈ ztbl := zq 1210 (by decide +kernel) rfl
set_option maxRecDepth 20000 in
theorem w_Mo_findLeading : Cond.selects m_Mo_findLeading.1.cls m_Mo_findLeading.1 m_Mo_findLeading.1 ∈ ztbl := zq 53 (by decide +kernel) rfl
set_option maxRecDepth 20000 in
theorem i_Mo_node : zMI m_Mo_node 2 := ⟨zq 1203 (by decide +kernel) rfl, zq 79 (by decide +kernel) rfl, ⟨by decide, by decide⟩, by decide +kernel, by decide, by decide +kernel⟩
set_option maxRecDepth 20000 in
theorem v_Mo_node : Cond.instanceMethod m_Mo_node.1 ∈ ztbl := zq 1201 (by decide +kernel) rfl
set_option maxRecDepth 20000 in
theorem w_Mo_node : Cond.selects m_Mo_node.1.cls m_Mo_node.1 m_Mo_node.1 ∈ ztbl := zq 1202 (by decide +kernel) rfl
set_option maxRecDepth 20000 in
theorem i_Mo_symbol : zMI m_Mo_symbol 3 := ⟨zq 1215 (by decide +kernel) rfl, zq 79 (by decide +kernel) rfl, ⟨by decide, by decide⟩, by decide +kernel, by decide, by decide +kernel⟩
set_option maxRecDepth 20000 in
theorem v_Mo_symbol : Cond.instanceMethod m_Mo_symbol.1 ∈ ztbl := zq 1213 (by decide +kernel) rfl
set_option maxRecDepth 20000 in
theorem w_Mo_symbol : Cond.selects m_Mo_symbol.1.cls m_Mo_symbol.1 m_Mo_symbol.1 ∈ ztbl := zq 1214 (by decide +kernel) rfl
set_option maxRecDepth 20000 in
theorem i_Mo_needs : zMI m_Mo_needs 3 := ⟨zq 1219 (by decide +kernel) rfl, zq 79 (by decide +kernel) rfl, ⟨by decide, by decide⟩, by decide +kernel, by decide, by decide +kernel⟩
set_option maxRecDepth 20000 in
theorem v_Mo_needs : Cond.instanceMethod m_Mo_needs.1 ∈ ztbl := zq 1217 (by decide +kernel) rfl
set_option maxRecDepth 20000 in
theorem w_Mo_needs : Cond.selects m_Mo_needs.1.cls m_Mo_needs.1 m_Mo_needs.1 ∈ ztbl := zq 1218 (by decide +kernel) rfl
set_option maxRecDepth 20000 in
theorem i_Mo_move : zMI m_Mo_move 3 := ⟨zq 1223 (by decide +kernel) rfl, zq 79 (by decide +kernel) rfl, ⟨by decide, by decide⟩, by decide +kernel, by decide, by decide +kernel⟩
set_option maxRecDepth 20000 in
theorem v_Mo_move : Cond.instanceMethod m_Mo_move.1 ∈ ztbl := zq 1221 (by decide +kernel) rfl
set_option maxRecDepth 20000 in
theorem w_Mo_move : Cond.selects m_Mo_move.1.cls m_Mo_move.1 m_Mo_move.1 ∈ ztbl := zq 1222 (by decide +kernel) rfl
set_option maxRecDepth 20000 in
theorem i_Mo_ahead : zMI m_Mo_ahead 2 := ⟨zq 1239 (by decide +kernel) rfl, zq 79 (by decide +kernel) rfl, ⟨by decide, by decide⟩, by decide +kernel, by decide, by decide +kernel⟩
set_option maxRecDepth 20000 in
theorem v_Mo_ahead : Cond.instanceMethod m_Mo_ahead.1 ∈ ztbl := zq 1238 (by decide +kernel) rfl
set_option maxRecDepth 20000 in
theorem w_Mo_ahead : Cond.selects m_Mo_ahead.1.cls m_Mo_ahead.1 m_Mo_ahead.1 ∈ ztbl := zq 56 (by decide +kernel) rfl
set_option maxRecDepth 20000 in
theorem i_Mo_undoMove : zMI m_Mo_undoMove 1 := ⟨zq 1235 (by decide +kernel) rfl, zq 79 (by decide +kernel) rfl, ⟨by decide, by decide⟩, by decide +kernel, by decide, by decide +kernel⟩
set_option maxRecDepth 20000 in
theorem v_Mo_undoMove : Cond.instanceMethod m_Mo_undoMove.1 ∈ ztbl := zq 1234 (by decide +kernel) rfl
set_option maxRecDepth 20000 in
theorem w_Mo_undoMove : Cond.selects m_Mo_undoMove.1.cls m_Mo_undoMove.1 m_Mo_undoMove.1 ∈ ztbl := zq 55 (by decide +kernel) rfl
set_option maxRecDepth 20000 in
theorem i_Mo_isAnswered : zMI m_Mo_isAnswered 0 := ⟨zq 1231 (by decide +kernel) rfl, zq 79 (by decide +kernel) rfl, ⟨by decide, by decide⟩, by decide +kernel, by decide, by decide +kernel⟩
set_option maxRecDepth 20000 in
theorem v_Mo_isAnswered : Cond.instanceMethod m_Mo_isAnswered.1 ∈ ztbl := zq 1230 (by decide +kernel) rfl
set_option maxRecDepth 20000 in
theorem w_Mo_isAnswered : Cond.selects m_Mo_isAnswered.1.cls m_Mo_isAnswered.1 m_Mo_isAnswered.1 ∈ ztbl := zq 54 (by decide +kernel) rfl
set_option maxRecDepth 20000 in
theorem i_Mo_answer : zMI m_Mo_answer 2 := ⟨zq 1227 (by decide +kernel) rfl, zq 79 (by decide +kernel) rfl, ⟨by decide, by decide⟩, by decide +kernel, by decide, by decide +kernel⟩
set_option maxRecDepth 20000 in
theorem v_Mo_answer : Cond.instanceMethod m_Mo_answer.1 ∈ ztbl := zq 1225 (by decide +kernel) rfl
set_option maxRecDepth 20000 in
theorem w_Mo_answer : Cond.selects m_Mo_answer.1.cls m_Mo_answer.1 m_Mo_answer.1 ∈ ztbl := zq 1226 (by decide +kernel) rfl
set_option maxRecDepth 20000 in
theorem i_Mo_spell : zMI m_Mo_spell 2 := ⟨zq 1243 (by decide +kernel) rfl, zq 79 (by decide +kernel) rfl, ⟨by decide, by decide⟩, by decide +kernel, by decide, by decide +kernel⟩
set_option maxRecDepth 20000 in
theorem v_Mo_spell : Cond.instanceMethod m_Mo_spell.1 ∈ ztbl := zq 1241 (by decide +kernel) rfl
set_option maxRecDepth 20000 in
theorem w_Mo_spell : Cond.selects m_Mo_spell.1.cls m_Mo_spell.1 m_Mo_spell.1 ∈ ztbl := zq 1242 (by decide +kernel) rfl
set_option maxRecDepth 20000 in
theorem i_Mo_clear : zMI m_Mo_clear 1 := ⟨zq 1247 (by decide +kernel) rfl, zq 79 (by decide +kernel) rfl, ⟨by decide, by decide⟩, by decide +kernel, by decide, by decide +kernel⟩
set_option maxRecDepth 20000 in
theorem v_Mo_clear : Cond.instanceMethod m_Mo_clear.1 ∈ ztbl := zq 1245 (by decide +kernel) rfl
set_option maxRecDepth 20000 in
theorem w_Mo_clear : Cond.selects m_Mo_clear.1.cls m_Mo_clear.1 m_Mo_clear.1 ∈ ztbl := zq 1246 (by decide +kernel) rfl
set_option maxRecDepth 20000 in
theorem i_Mo_take : zMI m_Mo_take 0 := ⟨zq 1251 (by decide +kernel) rfl, zq 79 (by decide +kernel) rfl, ⟨by decide, by decide⟩, by decide +kernel, by decide, by decide +kernel⟩
set_option maxRecDepth 20000 in
theorem v_Mo_take : Cond.instanceMethod m_Mo_take.1 ∈ ztbl := zq 1249 (by decide +kernel) rfl
set_option maxRecDepth 20000 in
theorem w_Mo_take : Cond.selects m_Mo_take.1.cls m_Mo_take.1 m_Mo_take.1 ∈ ztbl := zq 1250 (by decide +kernel) rfl
set_option maxRecDepth 20000 in
theorem i_Mo_addWhole : zMI m_Mo_addWhole 2 := ⟨zq 1271 (by decide +kernel) rfl, zq 79 (by decide +kernel) rfl, ⟨by decide, by decide⟩, by decide +kernel, by decide, by decide +kernel⟩
set_option maxRecDepth 20000 in
theorem v_Mo_addWhole : Cond.instanceMethod m_Mo_addWhole.1 ∈ ztbl := zq 1270 (by decide +kernel) rfl
set_option maxRecDepth 20000 in
theorem w_Mo_addWhole : Cond.selects m_Mo_addWhole.1.cls m_Mo_addWhole.1 m_Mo_addWhole.1 ∈ ztbl := zq 60 (by decide +kernel) rfl
set_option maxRecDepth 20000 in
theorem i_Mo_layWhole : zMI m_Mo_layWhole 1 := ⟨zq 1267 (by decide +kernel) rfl, zq 79 (by decide +kernel) rfl, ⟨by decide, by decide⟩, by decide +kernel, by decide, by decide +kernel⟩
set_option maxRecDepth 20000 in
theorem v_Mo_layWhole : Cond.instanceMethod m_Mo_layWhole.1 ∈ ztbl := zq 1266 (by decide +kernel) rfl
set_option maxRecDepth 20000 in
theorem w_Mo_layWhole : Cond.selects m_Mo_layWhole.1.cls m_Mo_layWhole.1 m_Mo_layWhole.1 ∈ ztbl := zq 59 (by decide +kernel) rfl
set_option maxRecDepth 20000 in
theorem i_Mo_isOne : zMI m_Mo_isOne 0 := ⟨zq 1263 (by decide +kernel) rfl, zq 79 (by decide +kernel) rfl, ⟨by decide, by decide⟩, by decide +kernel, by decide, by decide +kernel⟩
set_option maxRecDepth 20000 in
theorem v_Mo_isOne : Cond.instanceMethod m_Mo_isOne.1 ∈ ztbl := zq 1262 (by decide +kernel) rfl
set_option maxRecDepth 20000 in
theorem w_Mo_isOne : Cond.selects m_Mo_isOne.1.cls m_Mo_isOne.1 m_Mo_isOne.1 ∈ ztbl := zq 58 (by decide +kernel) rfl
set_option maxRecDepth 20000 in
theorem i_Mo_isNeeded : zMI m_Mo_isNeeded 1 := ⟨zq 1259 (by decide +kernel) rfl, zq 79 (by decide +kernel) rfl, ⟨by decide, by decide⟩, by decide +kernel, by decide, by decide +kernel⟩
set_option maxRecDepth 20000 in
theorem v_Mo_isNeeded : Cond.instanceMethod m_Mo_isNeeded.1 ∈ ztbl := zq 1258 (by decide +kernel) rfl
set_option maxRecDepth 20000 in
theorem w_Mo_isNeeded : Cond.selects m_Mo_isNeeded.1.cls m_Mo_isNeeded.1 m_Mo_isNeeded.1 ∈ ztbl := zq 57 (by decide +kernel) rfl
set_option maxRecDepth 20000 in
theorem i_Mo_fits : zMI m_Mo_fits 0 := ⟨zq 1255 (by decide +kernel) rfl, zq 79 (by decide +kernel) rfl, ⟨by decide, by decide⟩, by decide +kernel, by decide, by decide +kernel⟩
set_option maxRecDepth 20000 in
theorem v_Mo_fits : Cond.instanceMethod m_Mo_fits.1 ∈ ztbl := zq 1253 (by decide +kernel) rfl
set_option maxRecDepth 20000 in
theorem w_Mo_fits : Cond.selects m_Mo_fits.1.cls m_Mo_fits.1 m_Mo_fits.1 ∈ ztbl := zq 1254 (by decide +kernel) rfl
set_option maxRecDepth 20000 in
theorem i_Mo_timesIn : zMI m_Mo_timesIn 2 := ⟨zq 1283 (by decide +kernel) rfl, zq 79 (by decide +kernel) rfl, ⟨by decide, by decide⟩, by decide +kernel, by decide, by decide +kernel⟩
set_option maxRecDepth 20000 in
theorem v_Mo_timesIn : Cond.instanceMethod m_Mo_timesIn.1 ∈ ztbl := zq 1282 (by decide +kernel) rfl
set_option maxRecDepth 20000 in
theorem w_Mo_timesIn : Cond.selects m_Mo_timesIn.1.cls m_Mo_timesIn.1 m_Mo_timesIn.1 ∈ ztbl := zq 62 (by decide +kernel) rfl
set_option maxRecDepth 20000 in
theorem i_Mo_isLengths : zMI m_Mo_isLengths 2 := ⟨zq 1279 (by decide +kernel) rfl, zq 79 (by decide +kernel) rfl, ⟨by decide, by decide⟩, by decide +kernel, by decide, by decide +kernel⟩
set_option maxRecDepth 20000 in
theorem v_Mo_isLengths : Cond.instanceMethod m_Mo_isLengths.1 ∈ ztbl := zq 1278 (by decide +kernel) rfl
set_option maxRecDepth 20000 in
theorem w_Mo_isLengths : Cond.selects m_Mo_isLengths.1.cls m_Mo_isLengths.1 m_Mo_isLengths.1 ∈ ztbl := zq 61 (by decide +kernel) rfl
set_option maxRecDepth 20000 in
theorem i_Mo_lengths : zMI m_Mo_lengths 2 := ⟨zq 1275 (by decide +kernel) rfl, zq 79 (by decide +kernel) rfl, ⟨by decide, by decide⟩, by decide +kernel, by decide, by decide +kernel⟩
set_option maxRecDepth 20000 in
theorem v_Mo_lengths : Cond.instanceMethod m_Mo_lengths.1 ∈ ztbl := zq 1273 (by decide +kernel) rfl
set_option maxRecDepth 20000 in
theorem w_Mo_lengths : Cond.selects m_Mo_lengths.1.cls m_Mo_lengths.1 m_Mo_lengths.1 ∈ ztbl := zq 1274 (by decide +kernel) rfl
set_option maxRecDepth 20000 in
theorem i_Mo_tryWord : zMI m_Mo_tryWord 2 := ⟨zq 1296 (by decide +kernel) rfl, zq 79 (by decide +kernel) rfl, ⟨by decide, by decide⟩, by decide +kernel, by decide, by decide +kernel⟩
set_option maxRecDepth 20000 in
theorem v_Mo_tryWord : Cond.instanceMethod m_Mo_tryWord.1 ∈ ztbl := zq 1295 (by decide +kernel) rfl
set_option maxRecDepth 20000 in
theorem w_Mo_tryWord : Cond.selects m_Mo_tryWord.1.cls m_Mo_tryWord.1 m_Mo_tryWord.1 ∈ ztbl := zq 64 (by decide +kernel) rfl
set_option maxRecDepth 20000 in
theorem i_Mo_findShortest : zMI m_Mo_findShortest 0 := ⟨zq 1292 (by decide +kernel) rfl, zq 79 (by decide +kernel) rfl, ⟨by decide, by decide⟩, by decide +kernel, by decide, by decide +kernel⟩
set_option maxRecDepth 20000 in
theorem v_Mo_findShortest : Cond.instanceMethod m_Mo_findShortest.1 ∈ ztbl := zq 1291 (by decide +kernel) rfl
set_option maxRecDepth 20000 in
theorem w_Mo_findShortest : Cond.selects m_Mo_findShortest.1.cls m_Mo_findShortest.1 m_Mo_findShortest.1 ∈ ztbl := zq 63 (by decide +kernel) rfl
set_option maxRecDepth 20000 in
theorem i_Mo_shortest : zMI m_Mo_shortest 1 := ⟨zq 1287 (by decide +kernel) rfl, zq 79 (by decide +kernel) rfl, ⟨by decide, by decide⟩, by decide +kernel, by decide, by decide +kernel⟩
set_option maxRecDepth 20000 in
theorem v_Mo_shortest : Cond.instanceMethod m_Mo_shortest.1 ∈ ztbl := zq 1285 (by decide +kernel) rfl
set_option maxRecDepth 20000 in
theorem w_Mo_shortest : Cond.selects m_Mo_shortest.1.cls m_Mo_shortest.1 m_Mo_shortest.1 ∈ ztbl := zq 1286 (by decide +kernel) rfl
set_option maxRecDepth 20000 in
theorem i_Mo_passRow : zMI m_Mo_passRow 2 := ⟨zq 1308 (by decide +kernel) rfl, zq 79 (by decide +kernel) rfl, ⟨by decide, by decide⟩, by decide +kernel, by decide, by decide +kernel⟩
set_option maxRecDepth 20000 in
theorem v_Mo_passRow : Cond.instanceMethod m_Mo_passRow.1 ∈ ztbl := zq 1307 (by decide +kernel) rfl
set_option maxRecDepth 20000 in
theorem w_Mo_passRow : Cond.selects m_Mo_passRow.1.cls m_Mo_passRow.1 m_Mo_passRow.1 ∈ ztbl := zq 66 (by decide +kernel) rfl
set_option maxRecDepth 20000 in
theorem i_Mo_passAll : zMI m_Mo_passAll 0 := ⟨zq 1304 (by decide +kernel) rfl, zq 79 (by decide +kernel) rfl, ⟨by decide, by decide⟩, by decide +kernel, by decide, by decide +kernel⟩
set_option maxRecDepth 20000 in
theorem v_Mo_passAll : Cond.instanceMethod m_Mo_passAll.1 ∈ ztbl := zq 1303 (by decide +kernel) rfl
set_option maxRecDepth 20000 in
theorem w_Mo_passAll : Cond.selects m_Mo_passAll.1.cls m_Mo_passAll.1 m_Mo_passAll.1 ∈ ztbl := zq 65 (by decide +kernel) rfl
set_option maxRecDepth 20000 in
theorem i_Mo_image : zMI m_Mo_image 1 := ⟨zq 1300 (by decide +kernel) rfl, zq 79 (by decide +kernel) rfl, ⟨by decide, by decide⟩, by decide +kernel, by decide, by decide +kernel⟩
set_option maxRecDepth 20000 in
theorem v_Mo_image : Cond.instanceMethod m_Mo_image.1 ∈ ztbl := zq 1298 (by decide +kernel) rfl
set_option maxRecDepth 20000 in
theorem w_Mo_image : Cond.selects m_Mo_image.1.cls m_Mo_image.1 m_Mo_image.1 ∈ ztbl := zq 1299 (by decide +kernel) rfl
set_option maxRecDepth 20000 in
theorem i_Mo_restore : zMI m_Mo_restore 1 := ⟨zq 1312 (by decide +kernel) rfl, zq 79 (by decide +kernel) rfl, ⟨by decide, by decide⟩, by decide +kernel, by decide, by decide +kernel⟩
set_option maxRecDepth 20000 in
theorem v_Mo_restore : Cond.instanceMethod m_Mo_restore.1 ∈ ztbl := zq 1310 (by decide +kernel) rfl
set_option maxRecDepth 20000 in
theorem w_Mo_restore : Cond.selects m_Mo_restore.1.cls m_Mo_restore.1 m_Mo_restore.1 ∈ ztbl := zq 1311 (by decide +kernel) rfl
set_option maxRecDepth 20000 in
theorem i_Mo_told : zMI m_Mo_told 1 := ⟨zq 1316 (by decide +kernel) rfl, zq 79 (by decide +kernel) rfl, ⟨by decide, by decide⟩, by decide +kernel, by decide, by decide +kernel⟩
set_option maxRecDepth 20000 in
theorem v_Mo_told : Cond.instanceMethod m_Mo_told.1 ∈ ztbl := zq 1314 (by decide +kernel) rfl
set_option maxRecDepth 20000 in
theorem w_Mo_told : Cond.selects m_Mo_told.1.cls m_Mo_told.1 m_Mo_told.1 ∈ ztbl := zq 1315 (by decide +kernel) rfl
set_option maxRecDepth 20000 in
theorem i_Arr_fill : zMI m_Arr_fill 2 := ⟨zq 463 (by decide +kernel) rfl, zq 81 (by decide +kernel) rfl, ⟨by decide, by decide⟩, by decide +kernel, by decide, by decide +kernel⟩
set_option maxRecDepth 20000 in
theorem s_Arr_fill : Cond.static m_Arr_fill.1 ∈ ztbl := zq 462 (by decide +kernel) rfl
set_option maxRecDepth 20000 in
theorem f_H_14 : zFL "HeadSplits" 14 10 0 := ⟨zR_H, zT_H, 14, rfl, by decide, Or.inl (zq 321 (by decide +kernel) rfl)⟩
set_option maxRecDepth 20000 in
theorem p_H_14 : zPL m_H_init 14 10 0 (.object "HeadSplits$Row") := ⟨zR_H, zT_H, 14, rfl, by decide, by decide +kernel, Or.inl ⟨zq 321 (by decide +kernel) rfl, Or.inr ⟨rfl, rfl, rfl⟩⟩⟩
set_option maxRecDepth 20000 in
theorem f_H_21 : zFL "HeadSplits" 21 10 1 := ⟨zR_H, zT_H, 14, rfl, by decide, Or.inl (zq 322 (by decide +kernel) rfl)⟩
set_option maxRecDepth 20000 in
theorem p_H_21 : zPL m_H_init 21 10 1 (.object "HeadSplits$Book") := ⟨zR_H, zT_H, 14, rfl, by decide, by decide +kernel, Or.inl ⟨zq 322 (by decide +kernel) rfl, Or.inr ⟨rfl, rfl, rfl⟩⟩⟩
set_option maxRecDepth 20000 in
theorem f_H_25 : zFL "HeadSplits" 25 10 2 := ⟨zR_H, zT_H, 14, rfl, by decide, Or.inl (zq 323 (by decide +kernel) rfl)⟩
set_option maxRecDepth 20000 in
theorem p_H_25 : zPL m_H_init 25 10 2 (.object "HeadSplits$Book") := ⟨zR_H, zT_H, 14, rfl, by decide, by decide +kernel, Or.inl ⟨zq 323 (by decide +kernel) rfl, Or.inr ⟨rfl, rfl, rfl⟩⟩⟩
set_option maxRecDepth 20000 in
theorem f_H_28 : zFL "HeadSplits" 28 10 3 := ⟨zR_H, zT_H, 14, rfl, by decide, Or.inl (zq 324 (by decide +kernel) rfl)⟩
set_option maxRecDepth 20000 in
theorem p_H_28 : zPL m_H_init 28 10 3 (.object "HeadSplits$Book") := ⟨zR_H, zT_H, 14, rfl, by decide, by decide +kernel, Or.inl ⟨zq 324 (by decide +kernel) rfl, Or.inr ⟨rfl, rfl, rfl⟩⟩⟩
set_option maxRecDepth 20000 in
theorem f_H_33 : zFL "HeadSplits" 33 1 2 := ⟨zR_Book, zT_Book, 6, rfl, by decide, Or.inr ⟨"HeadSplits", zq 156 (by decide +kernel) rfl⟩⟩
set_option maxRecDepth 20000 in
theorem f_H_40 : zFL "HeadSplits" 40 10 4 := ⟨zR_H, zT_H, 14, rfl, by decide, Or.inl (zq 325 (by decide +kernel) rfl)⟩
set_option maxRecDepth 20000 in
theorem p_H_40 : zPL m_H_init 40 10 4 (.object "HeadSplits$Shorts") := ⟨zR_H, zT_H, 14, rfl, by decide, by decide +kernel, Or.inl ⟨zq 325 (by decide +kernel) rfl, Or.inr ⟨rfl, rfl, rfl⟩⟩⟩
set_option maxRecDepth 20000 in
theorem f_H_49 : zFL "HeadSplits" 49 10 5 := ⟨zR_H, zT_H, 14, rfl, by decide, Or.inl (zq 326 (by decide +kernel) rfl)⟩
set_option maxRecDepth 20000 in
theorem p_H_49 : zPL m_H_init 49 10 5 (.object "HeadSplits$Net") := ⟨zR_H, zT_H, 14, rfl, by decide, by decide +kernel, Or.inl ⟨zq 326 (by decide +kernel) rfl, Or.inr ⟨rfl, rfl, rfl⟩⟩⟩
set_option maxRecDepth 20000 in
theorem f_H_58 : zFL "HeadSplits" 58 10 6 := ⟨zR_H, zT_H, 14, rfl, by decide, Or.inl (zq 327 (by decide +kernel) rfl)⟩
set_option maxRecDepth 20000 in
theorem p_H_58 : zPL m_H_init 58 10 6 (.object "HeadSplits$Answer") := ⟨zR_H, zT_H, 14, rfl, by decide, by decide +kernel, Or.inl ⟨zq 327 (by decide +kernel) rfl, Or.inr ⟨rfl, rfl, rfl⟩⟩⟩
set_option maxRecDepth 20000 in
theorem f_H_65 : zFL "HeadSplits" 65 10 7 := ⟨zR_H, zT_H, 14, rfl, by decide, Or.inl (zq 328 (by decide +kernel) rfl)⟩
set_option maxRecDepth 20000 in
theorem p_H_65 : zPL m_H_init 65 10 7 (.object "HeadSplits$Trial") := ⟨zR_H, zT_H, 14, rfl, by decide, by decide +kernel, Or.inl ⟨zq 328 (by decide +kernel) rfl, Or.inr ⟨rfl, rfl, rfl⟩⟩⟩
set_option maxRecDepth 20000 in
theorem f_H_72 : zFL "HeadSplits" 72 10 8 := ⟨zR_H, zT_H, 14, rfl, by decide, Or.inl (zq 329 (by decide +kernel) rfl)⟩
set_option maxRecDepth 20000 in
theorem p_H_72 : zPL m_H_init 72 10 8 (.object "HeadSplits$Tally") := ⟨zR_H, zT_H, 14, rfl, by decide, by decide +kernel, Or.inl ⟨zq 329 (by decide +kernel) rfl, Or.inr ⟨rfl, rfl, rfl⟩⟩⟩
set_option maxRecDepth 20000 in
theorem f_H_76 : zFL "HeadSplits" 76 10 9 := ⟨zR_H, zT_H, 14, rfl, by decide, Or.inl (zq 330 (by decide +kernel) rfl)⟩
set_option maxRecDepth 20000 in
theorem p_H_76 : zPL m_H_init 76 10 9 (.object "HeadSplits$Row") := ⟨zR_H, zT_H, 14, rfl, by decide, by decide +kernel, Or.inl ⟨zq 330 (by decide +kernel) rfl, Or.inr ⟨rfl, rfl, rfl⟩⟩⟩
set_option maxRecDepth 20000 in
theorem f_H_79 : zFL "HeadSplits" 79 10 10 := ⟨zR_H, zT_H, 14, rfl, by decide, Or.inl (zq 331 (by decide +kernel) rfl)⟩
set_option maxRecDepth 20000 in
theorem p_H_79 : zPL m_H_init 79 10 10 (.object "HeadSplits$Row") := ⟨zR_H, zT_H, 14, rfl, by decide, by decide +kernel, Or.inl ⟨zq 331 (by decide +kernel) rfl, Or.inr ⟨rfl, rfl, rfl⟩⟩⟩
set_option maxRecDepth 20000 in
theorem f_H_82 : zFL "HeadSplits" 82 10 11 := ⟨zR_H, zT_H, 14, rfl, by decide, Or.inl (zq 332 (by decide +kernel) rfl)⟩
set_option maxRecDepth 20000 in
theorem p_H_82 : zPL m_H_init 82 10 11 (.object "HeadSplits$Row") := ⟨zR_H, zT_H, 14, rfl, by decide, by decide +kernel, Or.inl ⟨zq 332 (by decide +kernel) rfl, Or.inr ⟨rfl, rfl, rfl⟩⟩⟩
set_option maxRecDepth 20000 in
theorem f_H_105 : zFL "HeadSplits" 105 1 0 := ⟨zR_Book, zT_Book, 6, rfl, by decide, Or.inr ⟨"HeadSplits", zq 149 (by decide +kernel) rfl⟩⟩
set_option maxRecDepth 20000 in
theorem f_H_108 : zFL "HeadSplits" 108 1 1 := ⟨zR_Book, zT_Book, 6, rfl, by decide, Or.inr ⟨"HeadSplits", zq 154 (by decide +kernel) rfl⟩⟩
set_option maxRecDepth 20000 in
theorem f_H_135 : zFL "HeadSplits" 135 1 4 := ⟨zR_Book, zT_Book, 6, rfl, by decide, Or.inr ⟨"HeadSplits", zq 164 (by decide +kernel) rfl⟩⟩
set_option maxRecDepth 20000 in
theorem p_H_135 {mi : ZI} (h : "HeadSplits" = mi.1.cls) : zPL mi 135 1 4 (.int) := by
  have f1 : Cond.fieldLinkNest "HeadSplits" 135 zR_Book (zT_Book 4).2.1 (zT_Book 4).2.2.1 "HeadSplits" ∈ ztbl := zq 164 (by decide +kernel) rfl
  exact ⟨zR_Book, zT_Book, 6, rfl, by decide, by decide +kernel, Or.inr ⟨"HeadSplits", h ▸ f1, rfl⟩⟩
set_option maxRecDepth 20000 in
theorem f_H_174 : zFL "HeadSplits" 174 3 9 := ⟨zR_Net, zT_Net, 13, rfl, by decide, Or.inr ⟨"HeadSplits", zq 227 (by decide +kernel) rfl⟩⟩
set_option maxRecDepth 20000 in
theorem p_H_174 {mi : ZI} (h : "HeadSplits" = mi.1.cls) : zPL mi 174 3 9 (.int) := by
  have f1 : Cond.fieldLinkNest "HeadSplits" 174 zR_Net (zT_Net 9).2.1 (zT_Net 9).2.2.1 "HeadSplits" ∈ ztbl := zq 227 (by decide +kernel) rfl
  exact ⟨zR_Net, zT_Net, 13, rfl, by decide, by decide +kernel, Or.inr ⟨"HeadSplits", h ▸ f1, rfl⟩⟩
set_option maxRecDepth 20000 in
theorem f_H_179 : zFL "HeadSplits" 179 3 10 := ⟨zR_Net, zT_Net, 13, rfl, by decide, Or.inr ⟨"HeadSplits", zq 230 (by decide +kernel) rfl⟩⟩
set_option maxRecDepth 20000 in
theorem p_H_179 {mi : ZI} (h : "HeadSplits" = mi.1.cls) : zPL mi 179 3 10 (.int) := by
  have f1 : Cond.fieldLinkNest "HeadSplits" 179 zR_Net (zT_Net 10).2.1 (zT_Net 10).2.2.1 "HeadSplits" ∈ ztbl := zq 230 (by decide +kernel) rfl
  exact ⟨zR_Net, zT_Net, 13, rfl, by decide, by decide +kernel, Or.inr ⟨"HeadSplits", h ▸ f1, rfl⟩⟩
set_option maxRecDepth 20000 in
theorem f_H_182 : zFL "HeadSplits" 182 3 11 := ⟨zR_Net, zT_Net, 13, rfl, by decide, Or.inr ⟨"HeadSplits", zq 232 (by decide +kernel) rfl⟩⟩
set_option maxRecDepth 20000 in
theorem p_H_182 {mi : ZI} (h : "HeadSplits" = mi.1.cls) : zPL mi 182 3 11 (.int) := by
  have f1 : Cond.fieldLinkNest "HeadSplits" 182 zR_Net (zT_Net 11).2.1 (zT_Net 11).2.2.1 "HeadSplits" ∈ ztbl := zq 232 (by decide +kernel) rfl
  exact ⟨zR_Net, zT_Net, 13, rfl, by decide, by decide +kernel, Or.inr ⟨"HeadSplits", h ▸ f1, rfl⟩⟩
set_option maxRecDepth 20000 in
theorem f_H_185 : zFL "HeadSplits" 185 3 12 := ⟨zR_Net, zT_Net, 13, rfl, by decide, Or.inr ⟨"HeadSplits", zq 234 (by decide +kernel) rfl⟩⟩
set_option maxRecDepth 20000 in
theorem p_H_185 {mi : ZI} (h : "HeadSplits" = mi.1.cls) : zPL mi 185 3 12 (.int) := by
  have f1 : Cond.fieldLinkNest "HeadSplits" 185 zR_Net (zT_Net 12).2.1 (zT_Net 12).2.2.1 "HeadSplits" ∈ ztbl := zq 234 (by decide +kernel) rfl
  exact ⟨zR_Net, zT_Net, 13, rfl, by decide, by decide +kernel, Or.inr ⟨"HeadSplits", h ▸ f1, rfl⟩⟩
set_option maxRecDepth 20000 in
theorem f_H_192 : zFL "HeadSplits" 192 4 1 := ⟨zR_Node, zT_Node, 11, rfl, by decide, Or.inr ⟨"HeadSplits", zq 562 (by decide +kernel) rfl⟩⟩
set_option maxRecDepth 20000 in
theorem f_H_195 : zFL "HeadSplits" 195 4 2 := ⟨zR_Node, zT_Node, 11, rfl, by decide, Or.inr ⟨"HeadSplits", zq 566 (by decide +kernel) rfl⟩⟩
set_option maxRecDepth 20000 in
theorem f_H_196 : zFL "HeadSplits" 196 4 6 := ⟨zR_Node, zT_Node, 11, rfl, by decide, Or.inr ⟨"HeadSplits", zq 577 (by decide +kernel) rfl⟩⟩
set_option maxRecDepth 20000 in
theorem p_H_196 {mi : ZI} (h : "HeadSplits" = mi.1.cls) : zPL mi 196 4 6 (.int) := by
  have f1 : Cond.fieldLinkNest "HeadSplits" 196 zR_Node (zT_Node 6).2.1 (zT_Node 6).2.2.1 "HeadSplits" ∈ ztbl := zq 577 (by decide +kernel) rfl
  exact ⟨zR_Node, zT_Node, 11, rfl, by decide, by decide +kernel, Or.inr ⟨"HeadSplits", h ▸ f1, rfl⟩⟩
set_option maxRecDepth 20000 in
theorem f_H_199 : zFL "HeadSplits" 199 4 7 := ⟨zR_Node, zT_Node, 11, rfl, by decide, Or.inr ⟨"HeadSplits", zq 580 (by decide +kernel) rfl⟩⟩
set_option maxRecDepth 20000 in
theorem p_H_199 {mi : ZI} (h : "HeadSplits" = mi.1.cls) : zPL mi 199 4 7 (.int) := by
  have f1 : Cond.fieldLinkNest "HeadSplits" 199 zR_Node (zT_Node 7).2.1 (zT_Node 7).2.2.1 "HeadSplits" ∈ ztbl := zq 580 (by decide +kernel) rfl
  exact ⟨zR_Node, zT_Node, 11, rfl, by decide, by decide +kernel, Or.inr ⟨"HeadSplits", h ▸ f1, rfl⟩⟩
set_option maxRecDepth 20000 in
theorem f_H_202 : zFL "HeadSplits" 202 4 8 := ⟨zR_Node, zT_Node, 11, rfl, by decide, Or.inr ⟨"HeadSplits", zq 583 (by decide +kernel) rfl⟩⟩
set_option maxRecDepth 20000 in
theorem p_H_202 {mi : ZI} (h : "HeadSplits" = mi.1.cls) : zPL mi 202 4 8 (.int) := by
  have f1 : Cond.fieldLinkNest "HeadSplits" 202 zR_Node (zT_Node 8).2.1 (zT_Node 8).2.2.1 "HeadSplits" ∈ ztbl := zq 583 (by decide +kernel) rfl
  exact ⟨zR_Node, zT_Node, 11, rfl, by decide, by decide +kernel, Or.inr ⟨"HeadSplits", h ▸ f1, rfl⟩⟩
set_option maxRecDepth 20000 in
theorem f_H_205 : zFL "HeadSplits" 205 4 3 := ⟨zR_Node, zT_Node, 11, rfl, by decide, Or.inr ⟨"HeadSplits", zq 568 (by decide +kernel) rfl⟩⟩
set_option maxRecDepth 20000 in
theorem f_H_208 : zFL "HeadSplits" 208 4 10 := ⟨zR_Node, zT_Node, 11, rfl, by decide, Or.inr ⟨"HeadSplits", zq 587 (by decide +kernel) rfl⟩⟩
set_option maxRecDepth 20000 in
theorem p_H_208 {mi : ZI} (h : "HeadSplits" = mi.1.cls) : zPL mi 208 4 10 (.boolean) := by
  have f1 : Cond.fieldLinkNest "HeadSplits" 208 zR_Node (zT_Node 10).2.1 (zT_Node 10).2.2.1 "HeadSplits" ∈ ztbl := zq 587 (by decide +kernel) rfl
  exact ⟨zR_Node, zT_Node, 11, rfl, by decide, by decide +kernel, Or.inr ⟨"HeadSplits", h ▸ f1, rfl⟩⟩
set_option maxRecDepth 20000 in
theorem f_H_214 : zFL "HeadSplits" 214 4 5 := ⟨zR_Node, zT_Node, 11, rfl, by decide, Or.inr ⟨"HeadSplits", zq 574 (by decide +kernel) rfl⟩⟩
set_option maxRecDepth 20000 in
theorem p_H_214 {mi : ZI} (h : "HeadSplits" = mi.1.cls) : zPL mi 214 4 5 (.int) := by
  have f1 : Cond.fieldLinkNest "HeadSplits" 214 zR_Node (zT_Node 5).2.1 (zT_Node 5).2.2.1 "HeadSplits" ∈ ztbl := zq 574 (by decide +kernel) rfl
  exact ⟨zR_Node, zT_Node, 11, rfl, by decide, by decide +kernel, Or.inr ⟨"HeadSplits", h ▸ f1, rfl⟩⟩
set_option maxRecDepth 20000 in
theorem f_H_215 : zFL "HeadSplits" 215 4 4 := ⟨zR_Node, zT_Node, 11, rfl, by decide, Or.inr ⟨"HeadSplits", zq 570 (by decide +kernel) rfl⟩⟩
set_option maxRecDepth 20000 in
theorem f_H_218 : zFL "HeadSplits" 218 0 3 := ⟨zR_Answer, zT_Answer, 4, rfl, by decide, Or.inr ⟨"HeadSplits", zq 275 (by decide +kernel) rfl⟩⟩
set_option maxRecDepth 20000 in
theorem p_H_218 {mi : ZI} (h : "HeadSplits" = mi.1.cls) : zPL mi 218 0 3 (.boolean) := by
  have f1 : Cond.fieldLinkNest "HeadSplits" 218 zR_Answer (zT_Answer 3).2.1 (zT_Answer 3).2.2.1 "HeadSplits" ∈ ztbl := zq 275 (by decide +kernel) rfl
  exact ⟨zR_Answer, zT_Answer, 4, rfl, by decide, by decide +kernel, Or.inr ⟨"HeadSplits", h ▸ f1, rfl⟩⟩
set_option maxRecDepth 20000 in
theorem f_H_221 : zFL "HeadSplits" 221 0 2 := ⟨zR_Answer, zT_Answer, 4, rfl, by decide, Or.inr ⟨"HeadSplits", zq 273 (by decide +kernel) rfl⟩⟩
set_option maxRecDepth 20000 in
theorem f_H_231 : zFL "HeadSplits" 231 1 3 := ⟨zR_Book, zT_Book, 6, rfl, by decide, Or.inr ⟨"HeadSplits", zq 160 (by decide +kernel) rfl⟩⟩
set_option maxRecDepth 20000 in
theorem f_H_256 : zFL "HeadSplits" 256 10 13 := ⟨zR_H, zT_H, 14, rfl, by decide, Or.inl (zq 334 (by decide +kernel) rfl)⟩
set_option maxRecDepth 20000 in
theorem p_H_256 {mi : ZI} (h : "HeadSplits" = mi.1.cls) : zPL mi 256 10 13 (.boolean) := by
  have f1 : Cond.fieldLink "HeadSplits" 256 zR_H (zT_H 13).2.1 (zT_H 13).2.2.1 ∈ ztbl := zq 334 (by decide +kernel) rfl
  exact ⟨zR_H, zT_H, 14, rfl, by decide, by decide +kernel, Or.inl ⟨h ▸ f1, Or.inl rfl⟩⟩
set_option maxRecDepth 20000 in
theorem f_H_263 : zFL "HeadSplits" 263 8 4 := ⟨zR_Trial, zT_Trial, 5, rfl, by decide, Or.inr ⟨"HeadSplits", zq 296 (by decide +kernel) rfl⟩⟩
set_option maxRecDepth 20000 in
theorem p_H_263 {mi : ZI} (h : "HeadSplits" = mi.1.cls) : zPL mi 263 8 4 (.int) := by
  have f1 : Cond.fieldLinkNest "HeadSplits" 263 zR_Trial (zT_Trial 4).2.1 (zT_Trial 4).2.2.1 "HeadSplits" ∈ ztbl := zq 296 (by decide +kernel) rfl
  exact ⟨zR_Trial, zT_Trial, 5, rfl, by decide, by decide +kernel, Or.inr ⟨"HeadSplits", h ▸ f1, rfl⟩⟩
set_option maxRecDepth 20000 in
theorem f_H_270 : zFL "HeadSplits" 270 1 5 := ⟨zR_Book, zT_Book, 6, rfl, by decide, Or.inr ⟨"HeadSplits", zq 165 (by decide +kernel) rfl⟩⟩
set_option maxRecDepth 20000 in
theorem p_H_270 {mi : ZI} (h : "HeadSplits" = mi.1.cls) : zPL mi 270 1 5 (.boolean) := by
  have f1 : Cond.fieldLinkNest "HeadSplits" 270 zR_Book (zT_Book 5).2.1 (zT_Book 5).2.2.1 "HeadSplits" ∈ ztbl := zq 165 (by decide +kernel) rfl
  exact ⟨zR_Book, zT_Book, 6, rfl, by decide, by decide +kernel, Or.inr ⟨"HeadSplits", h ▸ f1, rfl⟩⟩
set_option maxRecDepth 20000 in
theorem f_H_276 : zFL "HeadSplits" 276 10 12 := ⟨zR_H, zT_H, 14, rfl, by decide, Or.inl (zq 333 (by decide +kernel) rfl)⟩
set_option maxRecDepth 20000 in
theorem p_H_276 {mi : ZI} (h : "HeadSplits" = mi.1.cls) : zPL mi 276 10 12 (.boolean) := by
  have f1 : Cond.fieldLink "HeadSplits" 276 zR_H (zT_H 12).2.1 (zT_H 12).2.2.1 ∈ ztbl := zq 333 (by decide +kernel) rfl
  exact ⟨zR_H, zT_H, 14, rfl, by decide, by decide +kernel, Or.inl ⟨h ▸ f1, Or.inl rfl⟩⟩
set_option maxRecDepth 20000 in
theorem f_Answer_14 : zFL "HeadSplits$Answer" 14 0 2 := ⟨zR_Answer, zT_Answer, 4, rfl, by decide, Or.inl (zq 272 (by decide +kernel) rfl)⟩
set_option maxRecDepth 20000 in
theorem p_Answer_14 : zPL m_Answer_init 14 0 2 (.object "HeadSplits$Words") := ⟨zR_Answer, zT_Answer, 4, rfl, by decide, by decide +kernel, Or.inl ⟨zq 272 (by decide +kernel) rfl, Or.inr ⟨rfl, rfl, rfl⟩⟩⟩
set_option maxRecDepth 20000 in
theorem f_Answer_20 : zFL "HeadSplits$Answer" 20 0 0 := ⟨zR_Answer, zT_Answer, 4, rfl, by decide, Or.inl (zq 270 (by decide +kernel) rfl)⟩
set_option maxRecDepth 20000 in
theorem p_Answer_20 : zPL m_Answer_init 20 0 0 (.object "HeadSplits$Net") := ⟨zR_Answer, zT_Answer, 4, rfl, by decide, by decide +kernel, Or.inl ⟨zq 270 (by decide +kernel) rfl, Or.inr ⟨rfl, rfl, rfl⟩⟩⟩
set_option maxRecDepth 20000 in
theorem f_Answer_24 : zFL "HeadSplits$Answer" 24 0 1 := ⟨zR_Answer, zT_Answer, 4, rfl, by decide, Or.inl (zq 271 (by decide +kernel) rfl)⟩
set_option maxRecDepth 20000 in
theorem p_Answer_24 : zPL m_Answer_init 24 0 1 (.object "HeadSplits$Shorts") := ⟨zR_Answer, zT_Answer, 4, rfl, by decide, by decide +kernel, Or.inl ⟨zq 271 (by decide +kernel) rfl, Or.inr ⟨rfl, rfl, rfl⟩⟩⟩
set_option maxRecDepth 20000 in
theorem f_Answer_28 : zFL "HeadSplits$Answer" 28 0 3 := ⟨zR_Answer, zT_Answer, 4, rfl, by decide, Or.inl (zq 274 (by decide +kernel) rfl)⟩
set_option maxRecDepth 20000 in
theorem p_Answer_28 {mi : ZI} (h : "HeadSplits$Answer" = mi.1.cls) : zPL mi 28 0 3 (.boolean) := by
  have f1 : Cond.fieldLink "HeadSplits$Answer" 28 zR_Answer (zT_Answer 3).2.1 (zT_Answer 3).2.2.1 ∈ ztbl := zq 274 (by decide +kernel) rfl
  exact ⟨zR_Answer, zT_Answer, 4, rfl, by decide, by decide +kernel, Or.inl ⟨h ▸ f1, Or.inl rfl⟩⟩
set_option maxRecDepth 20000 in
theorem f_Answer_32 : zFL "HeadSplits$Answer" 32 3 10 := ⟨zR_Net, zT_Net, 13, rfl, by decide, Or.inr ⟨"HeadSplits", zq 228 (by decide +kernel) rfl⟩⟩
set_option maxRecDepth 20000 in
theorem p_Answer_32 {mi : ZI} (h : "HeadSplits$Answer" = mi.1.cls) : zPL mi 32 3 10 (.int) := by
  have f1 : Cond.fieldLinkNest "HeadSplits$Answer" 32 zR_Net (zT_Net 10).2.1 (zT_Net 10).2.2.1 "HeadSplits" ∈ ztbl := zq 228 (by decide +kernel) rfl
  exact ⟨zR_Net, zT_Net, 13, rfl, by decide, by decide +kernel, Or.inr ⟨"HeadSplits", h ▸ f1, rfl⟩⟩
set_option maxRecDepth 20000 in
theorem f_Answer_42 : zFL "HeadSplits$Answer" 42 4 5 := ⟨zR_Node, zT_Node, 11, rfl, by decide, Or.inr ⟨"HeadSplits", zq 572 (by decide +kernel) rfl⟩⟩
set_option maxRecDepth 20000 in
theorem p_Answer_42 {mi : ZI} (h : "HeadSplits$Answer" = mi.1.cls) : zPL mi 42 4 5 (.int) := by
  have f1 : Cond.fieldLinkNest "HeadSplits$Answer" 42 zR_Node (zT_Node 5).2.1 (zT_Node 5).2.2.1 "HeadSplits" ∈ ztbl := zq 572 (by decide +kernel) rfl
  exact ⟨zR_Node, zT_Node, 11, rfl, by decide, by decide +kernel, Or.inr ⟨"HeadSplits", h ▸ f1, rfl⟩⟩
set_option maxRecDepth 20000 in
theorem f_Answer_67 : zFL "HeadSplits$Answer" 67 4 7 := ⟨zR_Node, zT_Node, 11, rfl, by decide, Or.inr ⟨"HeadSplits", zq 579 (by decide +kernel) rfl⟩⟩
set_option maxRecDepth 20000 in
theorem p_Answer_67 {mi : ZI} (h : "HeadSplits$Answer" = mi.1.cls) : zPL mi 67 4 7 (.int) := by
  have f1 : Cond.fieldLinkNest "HeadSplits$Answer" 67 zR_Node (zT_Node 7).2.1 (zT_Node 7).2.2.1 "HeadSplits" ∈ ztbl := zq 579 (by decide +kernel) rfl
  exact ⟨zR_Node, zT_Node, 11, rfl, by decide, by decide +kernel, Or.inr ⟨"HeadSplits", h ▸ f1, rfl⟩⟩
set_option maxRecDepth 20000 in
theorem f_Answer_70 : zFL "HeadSplits$Answer" 70 4 8 := ⟨zR_Node, zT_Node, 11, rfl, by decide, Or.inr ⟨"HeadSplits", zq 582 (by decide +kernel) rfl⟩⟩
set_option maxRecDepth 20000 in
theorem p_Answer_70 {mi : ZI} (h : "HeadSplits$Answer" = mi.1.cls) : zPL mi 70 4 8 (.int) := by
  have f1 : Cond.fieldLinkNest "HeadSplits$Answer" 70 zR_Node (zT_Node 8).2.1 (zT_Node 8).2.2.1 "HeadSplits" ∈ ztbl := zq 582 (by decide +kernel) rfl
  exact ⟨zR_Node, zT_Node, 11, rfl, by decide, by decide +kernel, Or.inr ⟨"HeadSplits", h ▸ f1, rfl⟩⟩
set_option maxRecDepth 20000 in
theorem f_Answer_82 : zFL "HeadSplits$Answer" 82 4 1 := ⟨zR_Node, zT_Node, 11, rfl, by decide, Or.inr ⟨"HeadSplits", zq 560 (by decide +kernel) rfl⟩⟩
set_option maxRecDepth 20000 in
theorem f_Answer_88 : zFL "HeadSplits$Answer" 88 4 2 := ⟨zR_Node, zT_Node, 11, rfl, by decide, Or.inr ⟨"HeadSplits", zq 564 (by decide +kernel) rfl⟩⟩
set_option maxRecDepth 20000 in
theorem f_Book_14 : zFL "HeadSplits$Book" 14 1 0 := ⟨zR_Book, zT_Book, 6, rfl, by decide, Or.inl (zq 145 (by decide +kernel) rfl)⟩
set_option maxRecDepth 20000 in
theorem p_Book_14 : zPL m_Book_init 14 1 0 (.object "HeadSplits$Row") := ⟨zR_Book, zT_Book, 6, rfl, by decide, by decide +kernel, Or.inl ⟨zq 145 (by decide +kernel) rfl, Or.inr ⟨rfl, rfl, rfl⟩⟩⟩
set_option maxRecDepth 20000 in
theorem f_Book_20 : zFL "HeadSplits$Book" 20 1 1 := ⟨zR_Book, zT_Book, 6, rfl, by decide, Or.inl (zq 150 (by decide +kernel) rfl)⟩
set_option maxRecDepth 20000 in
theorem p_Book_20 : zPL m_Book_init 20 1 1 (.object "HeadSplits$Row") := ⟨zR_Book, zT_Book, 6, rfl, by decide, by decide +kernel, Or.inl ⟨zq 150 (by decide +kernel) rfl, Or.inr ⟨rfl, rfl, rfl⟩⟩⟩
set_option maxRecDepth 20000 in
theorem f_Book_26 : zFL "HeadSplits$Book" 26 1 2 := ⟨zR_Book, zT_Book, 6, rfl, by decide, Or.inl (zq 155 (by decide +kernel) rfl)⟩
set_option maxRecDepth 20000 in
theorem p_Book_26 : zPL m_Book_init 26 1 2 (.object "HeadSplits$Machine") := ⟨zR_Book, zT_Book, 6, rfl, by decide, by decide +kernel, Or.inl ⟨zq 155 (by decide +kernel) rfl, Or.inr ⟨rfl, rfl, rfl⟩⟩⟩
set_option maxRecDepth 20000 in
theorem f_Book_33 : zFL "HeadSplits$Book" 33 1 3 := ⟨zR_Book, zT_Book, 6, rfl, by decide, Or.inl (zq 159 (by decide +kernel) rfl)⟩
set_option maxRecDepth 20000 in
theorem p_Book_33 : zPL m_Book_init 33 1 3 (.object "HeadSplits$Words") := ⟨zR_Book, zT_Book, 6, rfl, by decide, by decide +kernel, Or.inl ⟨zq 159 (by decide +kernel) rfl, Or.inr ⟨rfl, rfl, rfl⟩⟩⟩
set_option maxRecDepth 20000 in
theorem f_Book_40 : zFL "HeadSplits$Book" 40 1 4 := ⟨zR_Book, zT_Book, 6, rfl, by decide, Or.inl (zq 161 (by decide +kernel) rfl)⟩
set_option maxRecDepth 20000 in
theorem p_Book_40 {mi : ZI} (h : "HeadSplits$Book" = mi.1.cls) : zPL mi 40 1 4 (.int) := by
  have f1 : Cond.fieldLink "HeadSplits$Book" 40 zR_Book (zT_Book 4).2.1 (zT_Book 4).2.2.1 ∈ ztbl := zq 161 (by decide +kernel) rfl
  exact ⟨zR_Book, zT_Book, 6, rfl, by decide, by decide +kernel, Or.inl ⟨h ▸ f1, Or.inl rfl⟩⟩
set_option maxRecDepth 20000 in
theorem f_Machine_9 : zFL "HeadSplits$Machine" 9 2 0 := ⟨zR_Machine, zT_Machine, 1, rfl, by decide, Or.inl (zq 122 (by decide +kernel) rfl)⟩
set_option maxRecDepth 20000 in
theorem p_Machine_9 : zPL m_Machine_init 9 2 0 (.array .int) := ⟨zR_Machine, zT_Machine, 1, rfl, by decide, by decide +kernel, Or.inl ⟨zq 122 (by decide +kernel) rfl, Or.inr ⟨rfl, rfl, rfl⟩⟩⟩
set_option maxRecDepth 20000 in
theorem f_Net_11 : zFL "HeadSplits$Net" 11 3 2 := ⟨zR_Net, zT_Net, 13, rfl, by decide, Or.inl (zq 219 (by decide +kernel) rfl)⟩
set_option maxRecDepth 20000 in
theorem p_Net_11 : zPL m_Net_init 11 3 2 (.array (.object "HeadSplits$Node")) := ⟨zR_Net, zT_Net, 13, rfl, by decide, by decide +kernel, Or.inl ⟨zq 219 (by decide +kernel) rfl, Or.inr ⟨rfl, rfl, rfl⟩⟩⟩
set_option maxRecDepth 20000 in
theorem f_Net_17 : zFL "HeadSplits$Net" 17 3 3 := ⟨zR_Net, zT_Net, 13, rfl, by decide, Or.inl (zq 220 (by decide +kernel) rfl)⟩
set_option maxRecDepth 20000 in
theorem p_Net_17 : zPL m_Net_init 17 3 3 (.array .int) := ⟨zR_Net, zT_Net, 13, rfl, by decide, by decide +kernel, Or.inl ⟨zq 220 (by decide +kernel) rfl, Or.inr ⟨rfl, rfl, rfl⟩⟩⟩
set_option maxRecDepth 20000 in
theorem f_Net_26 : zFL "HeadSplits$Net" 26 3 4 := ⟨zR_Net, zT_Net, 13, rfl, by decide, Or.inl (zq 221 (by decide +kernel) rfl)⟩
set_option maxRecDepth 20000 in
theorem p_Net_26 : zPL m_Net_init 26 3 4 (.object "HeadSplits$Row") := ⟨zR_Net, zT_Net, 13, rfl, by decide, by decide +kernel, Or.inl ⟨zq 221 (by decide +kernel) rfl, Or.inr ⟨rfl, rfl, rfl⟩⟩⟩
set_option maxRecDepth 20000 in
theorem f_Net_30 : zFL "HeadSplits$Net" 30 3 5 := ⟨zR_Net, zT_Net, 13, rfl, by decide, Or.inl (zq 222 (by decide +kernel) rfl)⟩
set_option maxRecDepth 20000 in
theorem p_Net_30 : zPL m_Net_init 30 3 5 (.object "HeadSplits$Row") := ⟨zR_Net, zT_Net, 13, rfl, by decide, by decide +kernel, Or.inl ⟨zq 222 (by decide +kernel) rfl, Or.inr ⟨rfl, rfl, rfl⟩⟩⟩
set_option maxRecDepth 20000 in
theorem f_Net_33 : zFL "HeadSplits$Net" 33 3 6 := ⟨zR_Net, zT_Net, 13, rfl, by decide, Or.inl (zq 223 (by decide +kernel) rfl)⟩
set_option maxRecDepth 20000 in
theorem p_Net_33 : zPL m_Net_init 33 3 6 (.object "HeadSplits$Row") := ⟨zR_Net, zT_Net, 13, rfl, by decide, by decide +kernel, Or.inl ⟨zq 223 (by decide +kernel) rfl, Or.inr ⟨rfl, rfl, rfl⟩⟩⟩
set_option maxRecDepth 20000 in
theorem f_Net_36 : zFL "HeadSplits$Net" 36 3 7 := ⟨zR_Net, zT_Net, 13, rfl, by decide, Or.inl (zq 224 (by decide +kernel) rfl)⟩
set_option maxRecDepth 20000 in
theorem p_Net_36 : zPL m_Net_init 36 3 7 (.object "HeadSplits$Row") := ⟨zR_Net, zT_Net, 13, rfl, by decide, by decide +kernel, Or.inl ⟨zq 224 (by decide +kernel) rfl, Or.inr ⟨rfl, rfl, rfl⟩⟩⟩
set_option maxRecDepth 20000 in
theorem f_Net_39 : zFL "HeadSplits$Net" 39 3 0 := ⟨zR_Net, zT_Net, 13, rfl, by decide, Or.inl (zq 217 (by decide +kernel) rfl)⟩
set_option maxRecDepth 20000 in
theorem p_Net_39 : zPL m_Net_init 39 3 0 (.object "HeadSplits$Book") := ⟨zR_Net, zT_Net, 13, rfl, by decide, by decide +kernel, Or.inl ⟨zq 217 (by decide +kernel) rfl, Or.inr ⟨rfl, rfl, rfl⟩⟩⟩
set_option maxRecDepth 20000 in
theorem f_Net_43 : zFL "HeadSplits$Net" 43 3 1 := ⟨zR_Net, zT_Net, 13, rfl, by decide, Or.inl (zq 218 (by decide +kernel) rfl)⟩
set_option maxRecDepth 20000 in
theorem p_Net_43 : zPL m_Net_init 43 3 1 (.object "HeadSplits$Shorts") := ⟨zR_Net, zT_Net, 13, rfl, by decide, by decide +kernel, Or.inl ⟨zq 218 (by decide +kernel) rfl, Or.inr ⟨rfl, rfl, rfl⟩⟩⟩
set_option maxRecDepth 20000 in
theorem f_Net_47 : zFL "HeadSplits$Net" 47 3 9 := ⟨zR_Net, zT_Net, 13, rfl, by decide, Or.inl (zq 226 (by decide +kernel) rfl)⟩
set_option maxRecDepth 20000 in
theorem p_Net_47 {mi : ZI} (h : "HeadSplits$Net" = mi.1.cls) : zPL mi 47 3 9 (.int) := by
  have f1 : Cond.fieldLink "HeadSplits$Net" 47 zR_Net (zT_Net 9).2.1 (zT_Net 9).2.2.1 ∈ ztbl := zq 226 (by decide +kernel) rfl
  exact ⟨zR_Net, zT_Net, 13, rfl, by decide, by decide +kernel, Or.inl ⟨h ▸ f1, Or.inl rfl⟩⟩
set_option maxRecDepth 20000 in
theorem f_Net_51 : zFL "HeadSplits$Net" 51 3 10 := ⟨zR_Net, zT_Net, 13, rfl, by decide, Or.inl (zq 229 (by decide +kernel) rfl)⟩
set_option maxRecDepth 20000 in
theorem p_Net_51 {mi : ZI} (h : "HeadSplits$Net" = mi.1.cls) : zPL mi 51 3 10 (.int) := by
  have f1 : Cond.fieldLink "HeadSplits$Net" 51 zR_Net (zT_Net 10).2.1 (zT_Net 10).2.2.1 ∈ ztbl := zq 229 (by decide +kernel) rfl
  exact ⟨zR_Net, zT_Net, 13, rfl, by decide, by decide +kernel, Or.inl ⟨h ▸ f1, Or.inl rfl⟩⟩
set_option maxRecDepth 20000 in
theorem f_Net_54 : zFL "HeadSplits$Net" 54 3 12 := ⟨zR_Net, zT_Net, 13, rfl, by decide, Or.inl (zq 233 (by decide +kernel) rfl)⟩
set_option maxRecDepth 20000 in
theorem p_Net_54 {mi : ZI} (h : "HeadSplits$Net" = mi.1.cls) : zPL mi 54 3 12 (.int) := by
  have f1 : Cond.fieldLink "HeadSplits$Net" 54 zR_Net (zT_Net 12).2.1 (zT_Net 12).2.2.1 ∈ ztbl := zq 233 (by decide +kernel) rfl
  exact ⟨zR_Net, zT_Net, 13, rfl, by decide, by decide +kernel, Or.inl ⟨h ▸ f1, Or.inl rfl⟩⟩
set_option maxRecDepth 20000 in
theorem f_Net_57 : zFL "HeadSplits$Net" 57 3 11 := ⟨zR_Net, zT_Net, 13, rfl, by decide, Or.inl (zq 231 (by decide +kernel) rfl)⟩
set_option maxRecDepth 20000 in
theorem p_Net_57 {mi : ZI} (h : "HeadSplits$Net" = mi.1.cls) : zPL mi 57 3 11 (.int) := by
  have f1 : Cond.fieldLink "HeadSplits$Net" 57 zR_Net (zT_Net 11).2.1 (zT_Net 11).2.2.1 ∈ ztbl := zq 231 (by decide +kernel) rfl
  exact ⟨zR_Net, zT_Net, 13, rfl, by decide, by decide +kernel, Or.inl ⟨h ▸ f1, Or.inl rfl⟩⟩
set_option maxRecDepth 20000 in
theorem f_Net_66 : zFL "HeadSplits$Net" 66 1 0 := ⟨zR_Book, zT_Book, 6, rfl, by decide, Or.inr ⟨"HeadSplits", zq 148 (by decide +kernel) rfl⟩⟩
set_option maxRecDepth 20000 in
theorem f_Net_73 : zFL "HeadSplits$Net" 73 1 1 := ⟨zR_Book, zT_Book, 6, rfl, by decide, Or.inr ⟨"HeadSplits", zq 153 (by decide +kernel) rfl⟩⟩
set_option maxRecDepth 20000 in
theorem f_Net_77 : zFL "HeadSplits$Net" 77 1 4 := ⟨zR_Book, zT_Book, 6, rfl, by decide, Or.inr ⟨"HeadSplits", zq 163 (by decide +kernel) rfl⟩⟩
set_option maxRecDepth 20000 in
theorem p_Net_77 {mi : ZI} (h : "HeadSplits$Net" = mi.1.cls) : zPL mi 77 1 4 (.int) := by
  have f1 : Cond.fieldLinkNest "HeadSplits$Net" 77 zR_Book (zT_Book 4).2.1 (zT_Book 4).2.2.1 "HeadSplits" ∈ ztbl := zq 163 (by decide +kernel) rfl
  exact ⟨zR_Book, zT_Book, 6, rfl, by decide, by decide +kernel, Or.inr ⟨"HeadSplits", h ▸ f1, rfl⟩⟩
set_option maxRecDepth 20000 in
theorem f_Net_87 : zFL "HeadSplits$Net" 87 4 6 := ⟨zR_Node, zT_Node, 11, rfl, by decide, Or.inr ⟨"HeadSplits", zq 576 (by decide +kernel) rfl⟩⟩
set_option maxRecDepth 20000 in
theorem p_Net_87 {mi : ZI} (h : "HeadSplits$Net" = mi.1.cls) : zPL mi 87 4 6 (.int) := by
  have f1 : Cond.fieldLinkNest "HeadSplits$Net" 87 zR_Node (zT_Node 6).2.1 (zT_Node 6).2.2.1 "HeadSplits" ∈ ztbl := zq 576 (by decide +kernel) rfl
  exact ⟨zR_Node, zT_Node, 11, rfl, by decide, by decide +kernel, Or.inr ⟨"HeadSplits", h ▸ f1, rfl⟩⟩
set_option maxRecDepth 20000 in
theorem f_Net_96 : zFL "HeadSplits$Net" 96 4 1 := ⟨zR_Node, zT_Node, 11, rfl, by decide, Or.inr ⟨"HeadSplits", zq 561 (by decide +kernel) rfl⟩⟩
set_option maxRecDepth 20000 in
theorem f_Net_100 : zFL "HeadSplits$Net" 100 4 2 := ⟨zR_Node, zT_Node, 11, rfl, by decide, Or.inr ⟨"HeadSplits", zq 565 (by decide +kernel) rfl⟩⟩
set_option maxRecDepth 20000 in
theorem f_Net_101 : zFL "HeadSplits$Net" 101 4 5 := ⟨zR_Node, zT_Node, 11, rfl, by decide, Or.inr ⟨"HeadSplits", zq 573 (by decide +kernel) rfl⟩⟩
set_option maxRecDepth 20000 in
theorem p_Net_101 {mi : ZI} (h : "HeadSplits$Net" = mi.1.cls) : zPL mi 101 4 5 (.int) := by
  have f1 : Cond.fieldLinkNest "HeadSplits$Net" 101 zR_Node (zT_Node 5).2.1 (zT_Node 5).2.2.1 "HeadSplits" ∈ ztbl := zq 573 (by decide +kernel) rfl
  exact ⟨zR_Node, zT_Node, 11, rfl, by decide, by decide +kernel, Or.inr ⟨"HeadSplits", h ▸ f1, rfl⟩⟩
set_option maxRecDepth 20000 in
theorem f_Net_108 : zFL "HeadSplits$Net" 108 4 0 := ⟨zR_Node, zT_Node, 11, rfl, by decide, Or.inr ⟨"HeadSplits", zq 558 (by decide +kernel) rfl⟩⟩
set_option maxRecDepth 20000 in
theorem f_Net_123 : zFL "HeadSplits$Net" 123 4 10 := ⟨zR_Node, zT_Node, 11, rfl, by decide, Or.inr ⟨"HeadSplits", zq 586 (by decide +kernel) rfl⟩⟩
set_option maxRecDepth 20000 in
theorem p_Net_123 {mi : ZI} (h : "HeadSplits$Net" = mi.1.cls) : zPL mi 123 4 10 (.boolean) := by
  have f1 : Cond.fieldLinkNest "HeadSplits$Net" 123 zR_Node (zT_Node 10).2.1 (zT_Node 10).2.2.1 "HeadSplits" ∈ ztbl := zq 586 (by decide +kernel) rfl
  exact ⟨zR_Node, zT_Node, 11, rfl, by decide, by decide +kernel, Or.inr ⟨"HeadSplits", h ▸ f1, rfl⟩⟩
set_option maxRecDepth 20000 in
theorem f_Net_159 : zFL "HeadSplits$Net" 159 1 2 := ⟨zR_Book, zT_Book, 6, rfl, by decide, Or.inr ⟨"HeadSplits", zq 158 (by decide +kernel) rfl⟩⟩
set_option maxRecDepth 20000 in
theorem f_Net_190 : zFL "HeadSplits$Net" 190 3 8 := ⟨zR_Net, zT_Net, 13, rfl, by decide, Or.inl (zq 225 (by decide +kernel) rfl)⟩
set_option maxRecDepth 20000 in
theorem p_Net_190 {mi : ZI} (h : "HeadSplits$Net" = mi.1.cls) : zPL mi 190 3 8 (.int) := by
  have f1 : Cond.fieldLink "HeadSplits$Net" 190 zR_Net (zT_Net 8).2.1 (zT_Net 8).2.2.1 ∈ ztbl := zq 225 (by decide +kernel) rfl
  exact ⟨zR_Net, zT_Net, 13, rfl, by decide, by decide +kernel, Or.inl ⟨h ▸ f1, Or.inl rfl⟩⟩
set_option maxRecDepth 20000 in
theorem f_Net_212 : zFL "HeadSplits$Net" 212 4 9 := ⟨zR_Node, zT_Node, 11, rfl, by decide, Or.inr ⟨"HeadSplits", zq 584 (by decide +kernel) rfl⟩⟩
set_option maxRecDepth 20000 in
theorem p_Net_212 {mi : ZI} (h : "HeadSplits$Net" = mi.1.cls) : zPL mi 212 4 9 (.int) := by
  have f1 : Cond.fieldLinkNest "HeadSplits$Net" 212 zR_Node (zT_Node 9).2.1 (zT_Node 9).2.2.1 "HeadSplits" ∈ ztbl := zq 584 (by decide +kernel) rfl
  exact ⟨zR_Node, zT_Node, 11, rfl, by decide, by decide +kernel, Or.inr ⟨"HeadSplits", h ▸ f1, rfl⟩⟩
set_option maxRecDepth 20000 in
theorem f_Node_14 : zFL "HeadSplits$Node" 14 4 1 := ⟨zR_Node, zT_Node, 11, rfl, by decide, Or.inl (zq 559 (by decide +kernel) rfl)⟩
set_option maxRecDepth 20000 in
theorem p_Node_14 : zPL m_Node_init 14 4 1 (.object "HeadSplits$Row") := ⟨zR_Node, zT_Node, 11, rfl, by decide, by decide +kernel, Or.inl ⟨zq 559 (by decide +kernel) rfl, Or.inr ⟨rfl, rfl, rfl⟩⟩⟩
set_option maxRecDepth 20000 in
theorem f_Node_20 : zFL "HeadSplits$Node" 20 4 2 := ⟨zR_Node, zT_Node, 11, rfl, by decide, Or.inl (zq 563 (by decide +kernel) rfl)⟩
set_option maxRecDepth 20000 in
theorem p_Node_20 : zPL m_Node_init 20 4 2 (.object "HeadSplits$Row") := ⟨zR_Node, zT_Node, 11, rfl, by decide, by decide +kernel, Or.inl ⟨zq 563 (by decide +kernel) rfl, Or.inr ⟨rfl, rfl, rfl⟩⟩⟩
set_option maxRecDepth 20000 in
theorem f_Node_23 : zFL "HeadSplits$Node" 23 4 3 := ⟨zR_Node, zT_Node, 11, rfl, by decide, Or.inl (zq 567 (by decide +kernel) rfl)⟩
set_option maxRecDepth 20000 in
theorem p_Node_23 : zPL m_Node_init 23 4 3 (.object "HeadSplits$Row") := ⟨zR_Node, zT_Node, 11, rfl, by decide, by decide +kernel, Or.inl ⟨zq 567 (by decide +kernel) rfl, Or.inr ⟨rfl, rfl, rfl⟩⟩⟩
set_option maxRecDepth 20000 in
theorem f_Node_26 : zFL "HeadSplits$Node" 26 4 4 := ⟨zR_Node, zT_Node, 11, rfl, by decide, Or.inl (zq 569 (by decide +kernel) rfl)⟩
set_option maxRecDepth 20000 in
theorem p_Node_26 : zPL m_Node_init 26 4 4 (.object "HeadSplits$Row") := ⟨zR_Node, zT_Node, 11, rfl, by decide, by decide +kernel, Or.inl ⟨zq 569 (by decide +kernel) rfl, Or.inr ⟨rfl, rfl, rfl⟩⟩⟩
set_option maxRecDepth 20000 in
theorem f_Node_29 : zFL "HeadSplits$Node" 29 4 0 := ⟨zR_Node, zT_Node, 11, rfl, by decide, Or.inl (zq 557 (by decide +kernel) rfl)⟩
set_option maxRecDepth 20000 in
theorem p_Node_29 : zPL m_Node_init 29 4 0 (.int) := ⟨zR_Node, zT_Node, 11, rfl, by decide, by decide +kernel, Or.inl ⟨zq 557 (by decide +kernel) rfl, Or.inr ⟨rfl, rfl, rfl⟩⟩⟩
set_option maxRecDepth 20000 in
theorem f_Node_40 : zFL "HeadSplits$Node" 40 4 5 := ⟨zR_Node, zT_Node, 11, rfl, by decide, Or.inl (zq 571 (by decide +kernel) rfl)⟩
set_option maxRecDepth 20000 in
theorem p_Node_40 {mi : ZI} (h : "HeadSplits$Node" = mi.1.cls) : zPL mi 40 4 5 (.int) := by
  have f1 : Cond.fieldLink "HeadSplits$Node" 40 zR_Node (zT_Node 5).2.1 (zT_Node 5).2.2.1 ∈ ztbl := zq 571 (by decide +kernel) rfl
  exact ⟨zR_Node, zT_Node, 11, rfl, by decide, by decide +kernel, Or.inl ⟨h ▸ f1, Or.inl rfl⟩⟩
set_option maxRecDepth 20000 in
theorem f_Node_43 : zFL "HeadSplits$Node" 43 4 6 := ⟨zR_Node, zT_Node, 11, rfl, by decide, Or.inl (zq 575 (by decide +kernel) rfl)⟩
set_option maxRecDepth 20000 in
theorem p_Node_43 {mi : ZI} (h : "HeadSplits$Node" = mi.1.cls) : zPL mi 43 4 6 (.int) := by
  have f1 : Cond.fieldLink "HeadSplits$Node" 43 zR_Node (zT_Node 6).2.1 (zT_Node 6).2.2.1 ∈ ztbl := zq 575 (by decide +kernel) rfl
  exact ⟨zR_Node, zT_Node, 11, rfl, by decide, by decide +kernel, Or.inl ⟨h ▸ f1, Or.inl rfl⟩⟩
set_option maxRecDepth 20000 in
theorem f_Node_46 : zFL "HeadSplits$Node" 46 4 7 := ⟨zR_Node, zT_Node, 11, rfl, by decide, Or.inl (zq 578 (by decide +kernel) rfl)⟩
set_option maxRecDepth 20000 in
theorem p_Node_46 {mi : ZI} (h : "HeadSplits$Node" = mi.1.cls) : zPL mi 46 4 7 (.int) := by
  have f1 : Cond.fieldLink "HeadSplits$Node" 46 zR_Node (zT_Node 7).2.1 (zT_Node 7).2.2.1 ∈ ztbl := zq 578 (by decide +kernel) rfl
  exact ⟨zR_Node, zT_Node, 11, rfl, by decide, by decide +kernel, Or.inl ⟨h ▸ f1, Or.inl rfl⟩⟩
set_option maxRecDepth 20000 in
theorem f_Node_49 : zFL "HeadSplits$Node" 49 4 8 := ⟨zR_Node, zT_Node, 11, rfl, by decide, Or.inl (zq 581 (by decide +kernel) rfl)⟩
set_option maxRecDepth 20000 in
theorem p_Node_49 {mi : ZI} (h : "HeadSplits$Node" = mi.1.cls) : zPL mi 49 4 8 (.int) := by
  have f1 : Cond.fieldLink "HeadSplits$Node" 49 zR_Node (zT_Node 8).2.1 (zT_Node 8).2.2.1 ∈ ztbl := zq 581 (by decide +kernel) rfl
  exact ⟨zR_Node, zT_Node, 11, rfl, by decide, by decide +kernel, Or.inl ⟨h ▸ f1, Or.inl rfl⟩⟩
set_option maxRecDepth 20000 in
theorem f_Node_52 : zFL "HeadSplits$Node" 52 4 10 := ⟨zR_Node, zT_Node, 11, rfl, by decide, Or.inl (zq 585 (by decide +kernel) rfl)⟩
set_option maxRecDepth 20000 in
theorem p_Node_52 {mi : ZI} (h : "HeadSplits$Node" = mi.1.cls) : zPL mi 52 4 10 (.boolean) := by
  have f1 : Cond.fieldLink "HeadSplits$Node" 52 zR_Node (zT_Node 10).2.1 (zT_Node 10).2.2.1 ∈ ztbl := zq 585 (by decide +kernel) rfl
  exact ⟨zR_Node, zT_Node, 11, rfl, by decide, by decide +kernel, Or.inl ⟨h ▸ f1, Or.inl rfl⟩⟩
set_option maxRecDepth 20000 in
theorem f_Row_15 : zFL "HeadSplits$Row" 15 5 0 := ⟨zR_Row, zT_Row, 2, rfl, by decide, Or.inl (zq 100 (by decide +kernel) rfl)⟩
set_option maxRecDepth 20000 in
theorem p_Row_15 : zPL m_Row_init 15 5 0 (.array .int) := ⟨zR_Row, zT_Row, 2, rfl, by decide, by decide +kernel, Or.inl ⟨zq 100 (by decide +kernel) rfl, Or.inr ⟨rfl, rfl, rfl⟩⟩⟩
set_option maxRecDepth 20000 in
theorem f_Row_21 : zFL "HeadSplits$Row" 21 5 1 := ⟨zR_Row, zT_Row, 2, rfl, by decide, Or.inl (zq 101 (by decide +kernel) rfl)⟩
set_option maxRecDepth 20000 in
theorem p_Row_21 {mi : ZI} (h : "HeadSplits$Row" = mi.1.cls) : zPL mi 21 5 1 (.int) := by
  have f1 : Cond.fieldLink "HeadSplits$Row" 21 zR_Row (zT_Row 1).2.1 (zT_Row 1).2.2.1 ∈ ztbl := zq 101 (by decide +kernel) rfl
  exact ⟨zR_Row, zT_Row, 2, rfl, by decide, by decide +kernel, Or.inl ⟨h ▸ f1, Or.inl rfl⟩⟩
set_option maxRecDepth 20000 in
theorem f_Shorts_11 : zFL "HeadSplits$Shorts" 11 6 1 := ⟨zR_Shorts, zT_Shorts, 7, rfl, by decide, Or.inl (zq 186 (by decide +kernel) rfl)⟩
set_option maxRecDepth 20000 in
theorem p_Shorts_11 : zPL m_Shorts_init 11 6 1 (.array .int) := ⟨zR_Shorts, zT_Shorts, 7, rfl, by decide, by decide +kernel, Or.inl ⟨zq 186 (by decide +kernel) rfl, Or.inr ⟨rfl, rfl, rfl⟩⟩⟩
set_option maxRecDepth 20000 in
theorem f_Shorts_15 : zFL "HeadSplits$Shorts" 15 6 2 := ⟨zR_Shorts, zT_Shorts, 7, rfl, by decide, Or.inl (zq 187 (by decide +kernel) rfl)⟩
set_option maxRecDepth 20000 in
theorem p_Shorts_15 : zPL m_Shorts_init 15 6 2 (.array .int) := ⟨zR_Shorts, zT_Shorts, 7, rfl, by decide, by decide +kernel, Or.inl ⟨zq 187 (by decide +kernel) rfl, Or.inr ⟨rfl, rfl, rfl⟩⟩⟩
set_option maxRecDepth 20000 in
theorem f_Shorts_18 : zFL "HeadSplits$Shorts" 18 6 3 := ⟨zR_Shorts, zT_Shorts, 7, rfl, by decide, Or.inl (zq 188 (by decide +kernel) rfl)⟩
set_option maxRecDepth 20000 in
theorem p_Shorts_18 : zPL m_Shorts_init 18 6 3 (.array .int) := ⟨zR_Shorts, zT_Shorts, 7, rfl, by decide, by decide +kernel, Or.inl ⟨zq 188 (by decide +kernel) rfl, Or.inr ⟨rfl, rfl, rfl⟩⟩⟩
set_option maxRecDepth 20000 in
theorem f_Shorts_23 : zFL "HeadSplits$Shorts" 23 6 4 := ⟨zR_Shorts, zT_Shorts, 7, rfl, by decide, Or.inl (zq 189 (by decide +kernel) rfl)⟩
set_option maxRecDepth 20000 in
theorem p_Shorts_23 : zPL m_Shorts_init 23 6 4 (.array .int) := ⟨zR_Shorts, zT_Shorts, 7, rfl, by decide, by decide +kernel, Or.inl ⟨zq 189 (by decide +kernel) rfl, Or.inr ⟨rfl, rfl, rfl⟩⟩⟩
set_option maxRecDepth 20000 in
theorem f_Shorts_26 : zFL "HeadSplits$Shorts" 26 6 0 := ⟨zR_Shorts, zT_Shorts, 7, rfl, by decide, Or.inl (zq 185 (by decide +kernel) rfl)⟩
set_option maxRecDepth 20000 in
theorem p_Shorts_26 : zPL m_Shorts_init 26 6 0 (.object "HeadSplits$Machine") := ⟨zR_Shorts, zT_Shorts, 7, rfl, by decide, by decide +kernel, Or.inl ⟨zq 185 (by decide +kernel) rfl, Or.inr ⟨rfl, rfl, rfl⟩⟩⟩
set_option maxRecDepth 20000 in
theorem f_Shorts_30 : zFL "HeadSplits$Shorts" 30 6 6 := ⟨zR_Shorts, zT_Shorts, 7, rfl, by decide, Or.inl (zq 191 (by decide +kernel) rfl)⟩
set_option maxRecDepth 20000 in
theorem p_Shorts_30 {mi : ZI} (h : "HeadSplits$Shorts" = mi.1.cls) : zPL mi 30 6 6 (.boolean) := by
  have f1 : Cond.fieldLink "HeadSplits$Shorts" 30 zR_Shorts (zT_Shorts 6).2.1 (zT_Shorts 6).2.2.1 ∈ ztbl := zq 191 (by decide +kernel) rfl
  exact ⟨zR_Shorts, zT_Shorts, 7, rfl, by decide, by decide +kernel, Or.inl ⟨h ▸ f1, Or.inl rfl⟩⟩
set_option maxRecDepth 20000 in
theorem f_Shorts_40 : zFL "HeadSplits$Shorts" 40 6 5 := ⟨zR_Shorts, zT_Shorts, 7, rfl, by decide, Or.inl (zq 190 (by decide +kernel) rfl)⟩
set_option maxRecDepth 20000 in
theorem p_Shorts_40 {mi : ZI} (h : "HeadSplits$Shorts" = mi.1.cls) : zPL mi 40 6 5 (.int) := by
  have f1 : Cond.fieldLink "HeadSplits$Shorts" 40 zR_Shorts (zT_Shorts 5).2.1 (zT_Shorts 5).2.2.1 ∈ ztbl := zq 190 (by decide +kernel) rfl
  exact ⟨zR_Shorts, zT_Shorts, 7, rfl, by decide, by decide +kernel, Or.inl ⟨h ▸ f1, Or.inl rfl⟩⟩
set_option maxRecDepth 20000 in
theorem f_Tally_9 : zFL "HeadSplits$Tally" 9 7 0 := ⟨zR_Tally, zT_Tally, 2, rfl, by decide, Or.inl (zq 314 (by decide +kernel) rfl)⟩
set_option maxRecDepth 20000 in
theorem p_Tally_9 : zPL m_Tally_init 9 7 0 (.array .int) := ⟨zR_Tally, zT_Tally, 2, rfl, by decide, by decide +kernel, Or.inl ⟨zq 314 (by decide +kernel) rfl, Or.inr ⟨rfl, rfl, rfl⟩⟩⟩
set_option maxRecDepth 20000 in
theorem f_Tally_15 : zFL "HeadSplits$Tally" 15 7 1 := ⟨zR_Tally, zT_Tally, 2, rfl, by decide, Or.inl (zq 315 (by decide +kernel) rfl)⟩
set_option maxRecDepth 20000 in
theorem p_Tally_15 : zPL m_Tally_init 15 7 1 (.array .int) := ⟨zR_Tally, zT_Tally, 2, rfl, by decide, by decide +kernel, Or.inl ⟨zq 315 (by decide +kernel) rfl, Or.inr ⟨rfl, rfl, rfl⟩⟩⟩
set_option maxRecDepth 20000 in
theorem f_Tally_24 : zFL "HeadSplits$Tally" 24 1 0 := ⟨zR_Book, zT_Book, 6, rfl, by decide, Or.inr ⟨"HeadSplits", zq 146 (by decide +kernel) rfl⟩⟩
set_option maxRecDepth 20000 in
theorem f_Tally_34 : zFL "HeadSplits$Tally" 34 1 1 := ⟨zR_Book, zT_Book, 6, rfl, by decide, Or.inr ⟨"HeadSplits", zq 151 (by decide +kernel) rfl⟩⟩
set_option maxRecDepth 20000 in
theorem f_Trial_11 : zFL "HeadSplits$Trial" 11 8 0 := ⟨zR_Trial, zT_Trial, 5, rfl, by decide, Or.inl (zq 291 (by decide +kernel) rfl)⟩
set_option maxRecDepth 20000 in
theorem p_Trial_11 : zPL m_Trial_init 11 8 0 (.array .int) := ⟨zR_Trial, zT_Trial, 5, rfl, by decide, by decide +kernel, Or.inl ⟨zq 291 (by decide +kernel) rfl, Or.inr ⟨rfl, rfl, rfl⟩⟩⟩
set_option maxRecDepth 20000 in
theorem f_Trial_15 : zFL "HeadSplits$Trial" 15 8 1 := ⟨zR_Trial, zT_Trial, 5, rfl, by decide, Or.inl (zq 292 (by decide +kernel) rfl)⟩
set_option maxRecDepth 20000 in
theorem p_Trial_15 : zPL m_Trial_init 15 8 1 (.array .int) := ⟨zR_Trial, zT_Trial, 5, rfl, by decide, by decide +kernel, Or.inl ⟨zq 292 (by decide +kernel) rfl, Or.inr ⟨rfl, rfl, rfl⟩⟩⟩
set_option maxRecDepth 20000 in
theorem f_Trial_18 : zFL "HeadSplits$Trial" 18 8 2 := ⟨zR_Trial, zT_Trial, 5, rfl, by decide, Or.inl (zq 293 (by decide +kernel) rfl)⟩
set_option maxRecDepth 20000 in
theorem p_Trial_18 : zPL m_Trial_init 18 8 2 (.array .int) := ⟨zR_Trial, zT_Trial, 5, rfl, by decide, by decide +kernel, Or.inl ⟨zq 293 (by decide +kernel) rfl, Or.inr ⟨rfl, rfl, rfl⟩⟩⟩
set_option maxRecDepth 20000 in
theorem f_Trial_21 : zFL "HeadSplits$Trial" 21 8 3 := ⟨zR_Trial, zT_Trial, 5, rfl, by decide, Or.inl (zq 294 (by decide +kernel) rfl)⟩
set_option maxRecDepth 20000 in
theorem p_Trial_21 : zPL m_Trial_init 21 8 3 (.array .int) := ⟨zR_Trial, zT_Trial, 5, rfl, by decide, by decide +kernel, Or.inl ⟨zq 294 (by decide +kernel) rfl, Or.inr ⟨rfl, rfl, rfl⟩⟩⟩
set_option maxRecDepth 20000 in
theorem f_Trial_24 : zFL "HeadSplits$Trial" 24 1 2 := ⟨zR_Book, zT_Book, 6, rfl, by decide, Or.inr ⟨"HeadSplits", zq 157 (by decide +kernel) rfl⟩⟩
set_option maxRecDepth 20000 in
theorem f_Trial_34 : zFL "HeadSplits$Trial" 34 1 4 := ⟨zR_Book, zT_Book, 6, rfl, by decide, Or.inr ⟨"HeadSplits", zq 162 (by decide +kernel) rfl⟩⟩
set_option maxRecDepth 20000 in
theorem p_Trial_34 {mi : ZI} (h : "HeadSplits$Trial" = mi.1.cls) : zPL mi 34 1 4 (.int) := by
  have f1 : Cond.fieldLinkNest "HeadSplits$Trial" 34 zR_Book (zT_Book 4).2.1 (zT_Book 4).2.2.1 "HeadSplits" ∈ ztbl := zq 162 (by decide +kernel) rfl
  exact ⟨zR_Book, zT_Book, 6, rfl, by decide, by decide +kernel, Or.inr ⟨"HeadSplits", h ▸ f1, rfl⟩⟩
set_option maxRecDepth 20000 in
theorem f_Trial_52 : zFL "HeadSplits$Trial" 52 8 4 := ⟨zR_Trial, zT_Trial, 5, rfl, by decide, Or.inl (zq 295 (by decide +kernel) rfl)⟩
set_option maxRecDepth 20000 in
theorem p_Trial_52 {mi : ZI} (h : "HeadSplits$Trial" = mi.1.cls) : zPL mi 52 8 4 (.int) := by
  have f1 : Cond.fieldLink "HeadSplits$Trial" 52 zR_Trial (zT_Trial 4).2.1 (zT_Trial 4).2.2.1 ∈ ztbl := zq 295 (by decide +kernel) rfl
  exact ⟨zR_Trial, zT_Trial, 5, rfl, by decide, by decide +kernel, Or.inl ⟨h ▸ f1, Or.inl rfl⟩⟩
set_option maxRecDepth 20000 in
theorem f_Trial_75 : zFL "HeadSplits$Trial" 75 1 0 := ⟨zR_Book, zT_Book, 6, rfl, by decide, Or.inr ⟨"HeadSplits", zq 147 (by decide +kernel) rfl⟩⟩
set_option maxRecDepth 20000 in
theorem f_Trial_83 : zFL "HeadSplits$Trial" 83 1 1 := ⟨zR_Book, zT_Book, 6, rfl, by decide, Or.inr ⟨"HeadSplits", zq 152 (by decide +kernel) rfl⟩⟩
set_option maxRecDepth 20000 in
theorem f_Words_14 : zFL "HeadSplits$Words" 14 9 0 := ⟨zR_Words, zT_Words, 3, rfl, by decide, Or.inl (zq 134 (by decide +kernel) rfl)⟩
set_option maxRecDepth 20000 in
theorem p_Words_14 : zPL m_Words_init 14 9 0 (.object "HeadSplits$Row") := ⟨zR_Words, zT_Words, 3, rfl, by decide, by decide +kernel, Or.inl ⟨zq 134 (by decide +kernel) rfl, Or.inr ⟨rfl, rfl, rfl⟩⟩⟩
set_option maxRecDepth 20000 in
theorem f_Words_20 : zFL "HeadSplits$Words" 20 9 1 := ⟨zR_Words, zT_Words, 3, rfl, by decide, Or.inl (zq 135 (by decide +kernel) rfl)⟩
set_option maxRecDepth 20000 in
theorem p_Words_20 : zPL m_Words_init 20 9 1 (.object "HeadSplits$Row") := ⟨zR_Words, zT_Words, 3, rfl, by decide, by decide +kernel, Or.inl ⟨zq 135 (by decide +kernel) rfl, Or.inr ⟨rfl, rfl, rfl⟩⟩⟩
set_option maxRecDepth 20000 in
theorem f_Words_23 : zFL "HeadSplits$Words" 23 9 2 := ⟨zR_Words, zT_Words, 3, rfl, by decide, Or.inl (zq 136 (by decide +kernel) rfl)⟩
set_option maxRecDepth 20000 in
theorem p_Words_23 : zPL m_Words_init 23 9 2 (.object "HeadSplits$Row") := ⟨zR_Words, zT_Words, 3, rfl, by decide, by decide +kernel, Or.inl ⟨zq 136 (by decide +kernel) rfl, Or.inr ⟨rfl, rfl, rfl⟩⟩⟩
set_option maxRecDepth 20000 in
theorem f_Mo_7 : zFL "HeadSplitsModel" 7 11 0 := ⟨zR_Mo, zT_Mo, 43, rfl, by decide, Or.inl (zq 908 (by decide +kernel) rfl)⟩
set_option maxRecDepth 20000 in
theorem p_Mo_7 : zPL m_Mo_init 7 11 0 (.array .int) := ⟨zR_Mo, zT_Mo, 43, rfl, by decide, by decide +kernel, Or.inl ⟨zq 908 (by decide +kernel) rfl, Or.inr ⟨rfl, rfl, rfl⟩⟩⟩
set_option maxRecDepth 20000 in
theorem f_Mo_13 : zFL "HeadSplitsModel" 13 11 1 := ⟨zR_Mo, zT_Mo, 43, rfl, by decide, Or.inl (zq 909 (by decide +kernel) rfl)⟩
set_option maxRecDepth 20000 in
theorem p_Mo_13 : zPL m_Mo_init 13 11 1 (.array .int) := ⟨zR_Mo, zT_Mo, 43, rfl, by decide, by decide +kernel, Or.inl ⟨zq 909 (by decide +kernel) rfl, Or.inr ⟨rfl, rfl, rfl⟩⟩⟩
set_option maxRecDepth 20000 in
theorem f_Mo_16 : zFL "HeadSplitsModel" 16 11 2 := ⟨zR_Mo, zT_Mo, 43, rfl, by decide, Or.inl (zq 910 (by decide +kernel) rfl)⟩
set_option maxRecDepth 20000 in
theorem p_Mo_16 : zPL m_Mo_init 16 11 2 (.array .int) := ⟨zR_Mo, zT_Mo, 43, rfl, by decide, by decide +kernel, Or.inl ⟨zq 910 (by decide +kernel) rfl, Or.inr ⟨rfl, rfl, rfl⟩⟩⟩
set_option maxRecDepth 20000 in
theorem f_Mo_19 : zFL "HeadSplitsModel" 19 11 3 := ⟨zR_Mo, zT_Mo, 43, rfl, by decide, Or.inl (zq 911 (by decide +kernel) rfl)⟩
set_option maxRecDepth 20000 in
theorem p_Mo_19 : zPL m_Mo_init 19 11 3 (.array .int) := ⟨zR_Mo, zT_Mo, 43, rfl, by decide, by decide +kernel, Or.inl ⟨zq 911 (by decide +kernel) rfl, Or.inr ⟨rfl, rfl, rfl⟩⟩⟩
set_option maxRecDepth 20000 in
theorem f_Mo_22 : zFL "HeadSplitsModel" 22 11 4 := ⟨zR_Mo, zT_Mo, 43, rfl, by decide, Or.inl (zq 912 (by decide +kernel) rfl)⟩
set_option maxRecDepth 20000 in
theorem p_Mo_22 : zPL m_Mo_init 22 11 4 (.array .int) := ⟨zR_Mo, zT_Mo, 43, rfl, by decide, by decide +kernel, Or.inl ⟨zq 912 (by decide +kernel) rfl, Or.inr ⟨rfl, rfl, rfl⟩⟩⟩
set_option maxRecDepth 20000 in
theorem f_Mo_25 : zFL "HeadSplitsModel" 25 11 5 := ⟨zR_Mo, zT_Mo, 43, rfl, by decide, Or.inl (zq 913 (by decide +kernel) rfl)⟩
set_option maxRecDepth 20000 in
theorem p_Mo_25 : zPL m_Mo_init 25 11 5 (.array .int) := ⟨zR_Mo, zT_Mo, 43, rfl, by decide, by decide +kernel, Or.inl ⟨zq 913 (by decide +kernel) rfl, Or.inr ⟨rfl, rfl, rfl⟩⟩⟩
set_option maxRecDepth 20000 in
theorem f_Mo_28 : zFL "HeadSplitsModel" 28 11 6 := ⟨zR_Mo, zT_Mo, 43, rfl, by decide, Or.inl (zq 914 (by decide +kernel) rfl)⟩
set_option maxRecDepth 20000 in
theorem p_Mo_28 : zPL m_Mo_init 28 11 6 (.array .int) := ⟨zR_Mo, zT_Mo, 43, rfl, by decide, by decide +kernel, Or.inl ⟨zq 914 (by decide +kernel) rfl, Or.inr ⟨rfl, rfl, rfl⟩⟩⟩
set_option maxRecDepth 20000 in
theorem f_Mo_31 : zFL "HeadSplitsModel" 31 11 8 := ⟨zR_Mo, zT_Mo, 43, rfl, by decide, Or.inl (zq 916 (by decide +kernel) rfl)⟩
set_option maxRecDepth 20000 in
theorem p_Mo_31 : zPL m_Mo_init 31 11 8 (.array .int) := ⟨zR_Mo, zT_Mo, 43, rfl, by decide, by decide +kernel, Or.inl ⟨zq 916 (by decide +kernel) rfl, Or.inr ⟨rfl, rfl, rfl⟩⟩⟩
set_option maxRecDepth 20000 in
theorem f_Mo_34 : zFL "HeadSplitsModel" 34 11 9 := ⟨zR_Mo, zT_Mo, 43, rfl, by decide, Or.inl (zq 917 (by decide +kernel) rfl)⟩
set_option maxRecDepth 20000 in
theorem p_Mo_34 : zPL m_Mo_init 34 11 9 (.array .int) := ⟨zR_Mo, zT_Mo, 43, rfl, by decide, by decide +kernel, Or.inl ⟨zq 917 (by decide +kernel) rfl, Or.inr ⟨rfl, rfl, rfl⟩⟩⟩
set_option maxRecDepth 20000 in
theorem f_Mo_37 : zFL "HeadSplitsModel" 37 11 10 := ⟨zR_Mo, zT_Mo, 43, rfl, by decide, Or.inl (zq 918 (by decide +kernel) rfl)⟩
set_option maxRecDepth 20000 in
theorem p_Mo_37 : zPL m_Mo_init 37 11 10 (.array .int) := ⟨zR_Mo, zT_Mo, 43, rfl, by decide, by decide +kernel, Or.inl ⟨zq 918 (by decide +kernel) rfl, Or.inr ⟨rfl, rfl, rfl⟩⟩⟩
set_option maxRecDepth 20000 in
theorem f_Mo_40 : zFL "HeadSplitsModel" 40 11 11 := ⟨zR_Mo, zT_Mo, 43, rfl, by decide, Or.inl (zq 919 (by decide +kernel) rfl)⟩
set_option maxRecDepth 20000 in
theorem p_Mo_40 : zPL m_Mo_init 40 11 11 (.array .int) := ⟨zR_Mo, zT_Mo, 43, rfl, by decide, by decide +kernel, Or.inl ⟨zq 919 (by decide +kernel) rfl, Or.inr ⟨rfl, rfl, rfl⟩⟩⟩
set_option maxRecDepth 20000 in
theorem f_Mo_43 : zFL "HeadSplitsModel" 43 11 12 := ⟨zR_Mo, zT_Mo, 43, rfl, by decide, Or.inl (zq 920 (by decide +kernel) rfl)⟩
set_option maxRecDepth 20000 in
theorem p_Mo_43 : zPL m_Mo_init 43 11 12 (.array .int) := ⟨zR_Mo, zT_Mo, 43, rfl, by decide, by decide +kernel, Or.inl ⟨zq 920 (by decide +kernel) rfl, Or.inr ⟨rfl, rfl, rfl⟩⟩⟩
set_option maxRecDepth 20000 in
theorem f_Mo_46 : zFL "HeadSplitsModel" 46 11 14 := ⟨zR_Mo, zT_Mo, 43, rfl, by decide, Or.inl (zq 922 (by decide +kernel) rfl)⟩
set_option maxRecDepth 20000 in
theorem p_Mo_46 : zPL m_Mo_init 46 11 14 (.array .int) := ⟨zR_Mo, zT_Mo, 43, rfl, by decide, by decide +kernel, Or.inl ⟨zq 922 (by decide +kernel) rfl, Or.inr ⟨rfl, rfl, rfl⟩⟩⟩
set_option maxRecDepth 20000 in
theorem f_Mo_49 : zFL "HeadSplitsModel" 49 11 15 := ⟨zR_Mo, zT_Mo, 43, rfl, by decide, Or.inl (zq 923 (by decide +kernel) rfl)⟩
set_option maxRecDepth 20000 in
theorem p_Mo_49 : zPL m_Mo_init 49 11 15 (.array .int) := ⟨zR_Mo, zT_Mo, 43, rfl, by decide, by decide +kernel, Or.inl ⟨zq 923 (by decide +kernel) rfl, Or.inr ⟨rfl, rfl, rfl⟩⟩⟩
set_option maxRecDepth 20000 in
theorem f_Mo_52 : zFL "HeadSplitsModel" 52 11 16 := ⟨zR_Mo, zT_Mo, 43, rfl, by decide, Or.inl (zq 924 (by decide +kernel) rfl)⟩
set_option maxRecDepth 20000 in
theorem p_Mo_52 : zPL m_Mo_init 52 11 16 (.array .int) := ⟨zR_Mo, zT_Mo, 43, rfl, by decide, by decide +kernel, Or.inl ⟨zq 924 (by decide +kernel) rfl, Or.inr ⟨rfl, rfl, rfl⟩⟩⟩
set_option maxRecDepth 20000 in
theorem f_Mo_55 : zFL "HeadSplitsModel" 55 11 17 := ⟨zR_Mo, zT_Mo, 43, rfl, by decide, Or.inl (zq 925 (by decide +kernel) rfl)⟩
set_option maxRecDepth 20000 in
theorem p_Mo_55 : zPL m_Mo_init 55 11 17 (.array .int) := ⟨zR_Mo, zT_Mo, 43, rfl, by decide, by decide +kernel, Or.inl ⟨zq 925 (by decide +kernel) rfl, Or.inr ⟨rfl, rfl, rfl⟩⟩⟩
set_option maxRecDepth 20000 in
theorem f_Mo_58 : zFL "HeadSplitsModel" 58 11 18 := ⟨zR_Mo, zT_Mo, 43, rfl, by decide, Or.inl (zq 926 (by decide +kernel) rfl)⟩
set_option maxRecDepth 20000 in
theorem p_Mo_58 : zPL m_Mo_init 58 11 18 (.array .int) := ⟨zR_Mo, zT_Mo, 43, rfl, by decide, by decide +kernel, Or.inl ⟨zq 926 (by decide +kernel) rfl, Or.inr ⟨rfl, rfl, rfl⟩⟩⟩
set_option maxRecDepth 20000 in
theorem f_Mo_61 : zFL "HeadSplitsModel" 61 11 19 := ⟨zR_Mo, zT_Mo, 43, rfl, by decide, Or.inl (zq 927 (by decide +kernel) rfl)⟩
set_option maxRecDepth 20000 in
theorem p_Mo_61 : zPL m_Mo_init 61 11 19 (.array .int) := ⟨zR_Mo, zT_Mo, 43, rfl, by decide, by decide +kernel, Or.inl ⟨zq 927 (by decide +kernel) rfl, Or.inr ⟨rfl, rfl, rfl⟩⟩⟩
set_option maxRecDepth 20000 in
theorem f_Mo_64 : zFL "HeadSplitsModel" 64 11 20 := ⟨zR_Mo, zT_Mo, 43, rfl, by decide, Or.inl (zq 928 (by decide +kernel) rfl)⟩
set_option maxRecDepth 20000 in
theorem p_Mo_64 : zPL m_Mo_init 64 11 20 (.array .boolean) := ⟨zR_Mo, zT_Mo, 43, rfl, by decide, by decide +kernel, Or.inl ⟨zq 928 (by decide +kernel) rfl, Or.inr ⟨rfl, rfl, rfl⟩⟩⟩
set_option maxRecDepth 20000 in
theorem f_Mo_68 : zFL "HeadSplitsModel" 68 11 23 := ⟨zR_Mo, zT_Mo, 43, rfl, by decide, Or.inl (zq 931 (by decide +kernel) rfl)⟩
set_option maxRecDepth 20000 in
theorem p_Mo_68 : zPL m_Mo_init 68 11 23 (.array .int) := ⟨zR_Mo, zT_Mo, 43, rfl, by decide, by decide +kernel, Or.inl ⟨zq 931 (by decide +kernel) rfl, Or.inr ⟨rfl, rfl, rfl⟩⟩⟩
set_option maxRecDepth 20000 in
theorem f_Mo_71 : zFL "HeadSplitsModel" 71 11 24 := ⟨zR_Mo, zT_Mo, 43, rfl, by decide, Or.inl (zq 932 (by decide +kernel) rfl)⟩
set_option maxRecDepth 20000 in
theorem p_Mo_71 : zPL m_Mo_init 71 11 24 (.array .int) := ⟨zR_Mo, zT_Mo, 43, rfl, by decide, by decide +kernel, Or.inl ⟨zq 932 (by decide +kernel) rfl, Or.inr ⟨rfl, rfl, rfl⟩⟩⟩
set_option maxRecDepth 20000 in
theorem f_Mo_74 : zFL "HeadSplitsModel" 74 11 25 := ⟨zR_Mo, zT_Mo, 43, rfl, by decide, Or.inl (zq 933 (by decide +kernel) rfl)⟩
set_option maxRecDepth 20000 in
theorem p_Mo_74 : zPL m_Mo_init 74 11 25 (.array .int) := ⟨zR_Mo, zT_Mo, 43, rfl, by decide, by decide +kernel, Or.inl ⟨zq 933 (by decide +kernel) rfl, Or.inr ⟨rfl, rfl, rfl⟩⟩⟩
set_option maxRecDepth 20000 in
theorem f_Mo_77 : zFL "HeadSplitsModel" 77 11 26 := ⟨zR_Mo, zT_Mo, 43, rfl, by decide, Or.inl (zq 934 (by decide +kernel) rfl)⟩
set_option maxRecDepth 20000 in
theorem p_Mo_77 : zPL m_Mo_init 77 11 26 (.array .int) := ⟨zR_Mo, zT_Mo, 43, rfl, by decide, by decide +kernel, Or.inl ⟨zq 934 (by decide +kernel) rfl, Or.inr ⟨rfl, rfl, rfl⟩⟩⟩
set_option maxRecDepth 20000 in
theorem f_Mo_80 : zFL "HeadSplitsModel" 80 11 31 := ⟨zR_Mo, zT_Mo, 43, rfl, by decide, Or.inl (zq 939 (by decide +kernel) rfl)⟩
set_option maxRecDepth 20000 in
theorem p_Mo_80 : zPL m_Mo_init 80 11 31 (.array .int) := ⟨zR_Mo, zT_Mo, 43, rfl, by decide, by decide +kernel, Or.inl ⟨zq 939 (by decide +kernel) rfl, Or.inr ⟨rfl, rfl, rfl⟩⟩⟩
set_option maxRecDepth 20000 in
theorem f_Mo_83 : zFL "HeadSplitsModel" 83 11 32 := ⟨zR_Mo, zT_Mo, 43, rfl, by decide, Or.inl (zq 940 (by decide +kernel) rfl)⟩
set_option maxRecDepth 20000 in
theorem p_Mo_83 : zPL m_Mo_init 83 11 32 (.array .int) := ⟨zR_Mo, zT_Mo, 43, rfl, by decide, by decide +kernel, Or.inl ⟨zq 940 (by decide +kernel) rfl, Or.inr ⟨rfl, rfl, rfl⟩⟩⟩
set_option maxRecDepth 20000 in
theorem f_Mo_86 : zFL "HeadSplitsModel" 86 11 34 := ⟨zR_Mo, zT_Mo, 43, rfl, by decide, Or.inl (zq 942 (by decide +kernel) rfl)⟩
set_option maxRecDepth 20000 in
theorem p_Mo_86 : zPL m_Mo_init 86 11 34 (.array .int) := ⟨zR_Mo, zT_Mo, 43, rfl, by decide, by decide +kernel, Or.inl ⟨zq 942 (by decide +kernel) rfl, Or.inr ⟨rfl, rfl, rfl⟩⟩⟩
set_option maxRecDepth 20000 in
theorem f_Mo_89 : zFL "HeadSplitsModel" 89 11 35 := ⟨zR_Mo, zT_Mo, 43, rfl, by decide, Or.inl (zq 943 (by decide +kernel) rfl)⟩
set_option maxRecDepth 20000 in
theorem p_Mo_89 : zPL m_Mo_init 89 11 35 (.array .int) := ⟨zR_Mo, zT_Mo, 43, rfl, by decide, by decide +kernel, Or.inl ⟨zq 943 (by decide +kernel) rfl, Or.inr ⟨rfl, rfl, rfl⟩⟩⟩
set_option maxRecDepth 20000 in
theorem f_Mo_92 : zFL "HeadSplitsModel" 92 11 36 := ⟨zR_Mo, zT_Mo, 43, rfl, by decide, Or.inl (zq 944 (by decide +kernel) rfl)⟩
set_option maxRecDepth 20000 in
theorem p_Mo_92 : zPL m_Mo_init 92 11 36 (.array .int) := ⟨zR_Mo, zT_Mo, 43, rfl, by decide, by decide +kernel, Or.inl ⟨zq 944 (by decide +kernel) rfl, Or.inr ⟨rfl, rfl, rfl⟩⟩⟩
set_option maxRecDepth 20000 in
theorem f_Mo_95 : zFL "HeadSplitsModel" 95 11 37 := ⟨zR_Mo, zT_Mo, 43, rfl, by decide, Or.inl (zq 945 (by decide +kernel) rfl)⟩
set_option maxRecDepth 20000 in
theorem p_Mo_95 : zPL m_Mo_init 95 11 37 (.array .int) := ⟨zR_Mo, zT_Mo, 43, rfl, by decide, by decide +kernel, Or.inl ⟨zq 945 (by decide +kernel) rfl, Or.inr ⟨rfl, rfl, rfl⟩⟩⟩
set_option maxRecDepth 20000 in
theorem f_Mo_98 : zFL "HeadSplitsModel" 98 11 38 := ⟨zR_Mo, zT_Mo, 43, rfl, by decide, Or.inl (zq 946 (by decide +kernel) rfl)⟩
set_option maxRecDepth 20000 in
theorem p_Mo_98 : zPL m_Mo_init 98 11 38 (.array .int) := ⟨zR_Mo, zT_Mo, 43, rfl, by decide, by decide +kernel, Or.inl ⟨zq 946 (by decide +kernel) rfl, Or.inr ⟨rfl, rfl, rfl⟩⟩⟩
set_option maxRecDepth 20000 in
theorem f_Mo_101 : zFL "HeadSplitsModel" 101 11 39 := ⟨zR_Mo, zT_Mo, 43, rfl, by decide, Or.inl (zq 947 (by decide +kernel) rfl)⟩
set_option maxRecDepth 20000 in
theorem p_Mo_101 : zPL m_Mo_init 101 11 39 (.array .int) := ⟨zR_Mo, zT_Mo, 43, rfl, by decide, by decide +kernel, Or.inl ⟨zq 947 (by decide +kernel) rfl, Or.inr ⟨rfl, rfl, rfl⟩⟩⟩
set_option maxRecDepth 20000 in
theorem f_Mo_104 : zFL "HeadSplitsModel" 104 11 40 := ⟨zR_Mo, zT_Mo, 43, rfl, by decide, Or.inl (zq 948 (by decide +kernel) rfl)⟩
set_option maxRecDepth 20000 in
theorem p_Mo_104 : zPL m_Mo_init 104 11 40 (.array .boolean) := ⟨zR_Mo, zT_Mo, 43, rfl, by decide, by decide +kernel, Or.inl ⟨zq 948 (by decide +kernel) rfl, Or.inr ⟨rfl, rfl, rfl⟩⟩⟩
set_option maxRecDepth 20000 in
theorem f_Mo_117 : zFL "HeadSplitsModel" 117 11 7 := ⟨zR_Mo, zT_Mo, 43, rfl, by decide, Or.inl (zq 915 (by decide +kernel) rfl)⟩
set_option maxRecDepth 20000 in
theorem p_Mo_117 {mi : ZI} (h : "HeadSplitsModel" = mi.1.cls) : zPL mi 117 11 7 (.int) := by
  have f1 : Cond.fieldLink "HeadSplitsModel" 117 zR_Mo (zT_Mo 7).2.1 (zT_Mo 7).2.2.1 ∈ ztbl := zq 915 (by decide +kernel) rfl
  exact ⟨zR_Mo, zT_Mo, 43, rfl, by decide, by decide +kernel, Or.inl ⟨h ▸ f1, Or.inl rfl⟩⟩
set_option maxRecDepth 20000 in
theorem f_Mo_137 : zFL "HeadSplitsModel" 137 11 22 := ⟨zR_Mo, zT_Mo, 43, rfl, by decide, Or.inl (zq 930 (by decide +kernel) rfl)⟩
set_option maxRecDepth 20000 in
theorem p_Mo_137 {mi : ZI} (h : "HeadSplitsModel" = mi.1.cls) : zPL mi 137 11 22 (.boolean) := by
  have f1 : Cond.fieldLink "HeadSplitsModel" 137 zR_Mo (zT_Mo 22).2.1 (zT_Mo 22).2.2.1 ∈ ztbl := zq 930 (by decide +kernel) rfl
  exact ⟨zR_Mo, zT_Mo, 43, rfl, by decide, by decide +kernel, Or.inl ⟨h ▸ f1, Or.inl rfl⟩⟩
set_option maxRecDepth 20000 in
theorem f_Mo_147 : zFL "HeadSplitsModel" 147 11 13 := ⟨zR_Mo, zT_Mo, 43, rfl, by decide, Or.inl (zq 921 (by decide +kernel) rfl)⟩
set_option maxRecDepth 20000 in
theorem p_Mo_147 {mi : ZI} (h : "HeadSplitsModel" = mi.1.cls) : zPL mi 147 11 13 (.int) := by
  have f1 : Cond.fieldLink "HeadSplitsModel" 147 zR_Mo (zT_Mo 13).2.1 (zT_Mo 13).2.2.1 ∈ ztbl := zq 921 (by decide +kernel) rfl
  exact ⟨zR_Mo, zT_Mo, 43, rfl, by decide, by decide +kernel, Or.inl ⟨h ▸ f1, Or.inl rfl⟩⟩
set_option maxRecDepth 20000 in
theorem f_Mo_172 : zFL "HeadSplitsModel" 172 11 21 := ⟨zR_Mo, zT_Mo, 43, rfl, by decide, Or.inl (zq 929 (by decide +kernel) rfl)⟩
set_option maxRecDepth 20000 in
theorem p_Mo_172 {mi : ZI} (h : "HeadSplitsModel" = mi.1.cls) : zPL mi 172 11 21 (.int) := by
  have f1 : Cond.fieldLink "HeadSplitsModel" 172 zR_Mo (zT_Mo 21).2.1 (zT_Mo 21).2.2.1 ∈ ztbl := zq 929 (by decide +kernel) rfl
  exact ⟨zR_Mo, zT_Mo, 43, rfl, by decide, by decide +kernel, Or.inl ⟨h ▸ f1, Or.inl rfl⟩⟩
set_option maxRecDepth 20000 in
theorem f_Mo_178 : zFL "HeadSplitsModel" 178 11 27 := ⟨zR_Mo, zT_Mo, 43, rfl, by decide, Or.inl (zq 935 (by decide +kernel) rfl)⟩
set_option maxRecDepth 20000 in
theorem p_Mo_178 {mi : ZI} (h : "HeadSplitsModel" = mi.1.cls) : zPL mi 178 11 27 (.int) := by
  have f1 : Cond.fieldLink "HeadSplitsModel" 178 zR_Mo (zT_Mo 27).2.1 (zT_Mo 27).2.2.1 ∈ ztbl := zq 935 (by decide +kernel) rfl
  exact ⟨zR_Mo, zT_Mo, 43, rfl, by decide, by decide +kernel, Or.inl ⟨h ▸ f1, Or.inl rfl⟩⟩
set_option maxRecDepth 20000 in
theorem f_Mo_251 : zFL "HeadSplitsModel" 251 11 28 := ⟨zR_Mo, zT_Mo, 43, rfl, by decide, Or.inl (zq 936 (by decide +kernel) rfl)⟩
set_option maxRecDepth 20000 in
theorem p_Mo_251 {mi : ZI} (h : "HeadSplitsModel" = mi.1.cls) : zPL mi 251 11 28 (.int) := by
  have f1 : Cond.fieldLink "HeadSplitsModel" 251 zR_Mo (zT_Mo 28).2.1 (zT_Mo 28).2.2.1 ∈ ztbl := zq 936 (by decide +kernel) rfl
  exact ⟨zR_Mo, zT_Mo, 43, rfl, by decide, by decide +kernel, Or.inl ⟨h ▸ f1, Or.inl rfl⟩⟩
set_option maxRecDepth 20000 in
theorem f_Mo_254 : zFL "HeadSplitsModel" 254 11 29 := ⟨zR_Mo, zT_Mo, 43, rfl, by decide, Or.inl (zq 937 (by decide +kernel) rfl)⟩
set_option maxRecDepth 20000 in
theorem p_Mo_254 {mi : ZI} (h : "HeadSplitsModel" = mi.1.cls) : zPL mi 254 11 29 (.int) := by
  have f1 : Cond.fieldLink "HeadSplitsModel" 254 zR_Mo (zT_Mo 29).2.1 (zT_Mo 29).2.2.1 ∈ ztbl := zq 937 (by decide +kernel) rfl
  exact ⟨zR_Mo, zT_Mo, 43, rfl, by decide, by decide +kernel, Or.inl ⟨h ▸ f1, Or.inl rfl⟩⟩
set_option maxRecDepth 20000 in
theorem f_Mo_257 : zFL "HeadSplitsModel" 257 11 30 := ⟨zR_Mo, zT_Mo, 43, rfl, by decide, Or.inl (zq 938 (by decide +kernel) rfl)⟩
set_option maxRecDepth 20000 in
theorem p_Mo_257 {mi : ZI} (h : "HeadSplitsModel" = mi.1.cls) : zPL mi 257 11 30 (.int) := by
  have f1 : Cond.fieldLink "HeadSplitsModel" 257 zR_Mo (zT_Mo 30).2.1 (zT_Mo 30).2.2.1 ∈ ztbl := zq 938 (by decide +kernel) rfl
  exact ⟨zR_Mo, zT_Mo, 43, rfl, by decide, by decide +kernel, Or.inl ⟨h ▸ f1, Or.inl rfl⟩⟩
set_option maxRecDepth 20000 in
theorem f_Mo_267 : zFL "HeadSplitsModel" 267 11 33 := ⟨zR_Mo, zT_Mo, 43, rfl, by decide, Or.inl (zq 941 (by decide +kernel) rfl)⟩
set_option maxRecDepth 20000 in
theorem p_Mo_267 {mi : ZI} (h : "HeadSplitsModel" = mi.1.cls) : zPL mi 267 11 33 (.boolean) := by
  have f1 : Cond.fieldLink "HeadSplitsModel" 267 zR_Mo (zT_Mo 33).2.1 (zT_Mo 33).2.2.1 ∈ ztbl := zq 941 (by decide +kernel) rfl
  exact ⟨zR_Mo, zT_Mo, 43, rfl, by decide, by decide +kernel, Or.inl ⟨h ▸ f1, Or.inl rfl⟩⟩
set_option maxRecDepth 20000 in
theorem f_Mo_305 : zFL "HeadSplitsModel" 305 11 42 := ⟨zR_Mo, zT_Mo, 43, rfl, by decide, Or.inl (zq 950 (by decide +kernel) rfl)⟩
set_option maxRecDepth 20000 in
theorem p_Mo_305 {mi : ZI} (h : "HeadSplitsModel" = mi.1.cls) : zPL mi 305 11 42 (.boolean) := by
  have f1 : Cond.fieldLink "HeadSplitsModel" 305 zR_Mo (zT_Mo 42).2.1 (zT_Mo 42).2.2.1 ∈ ztbl := zq 950 (by decide +kernel) rfl
  exact ⟨zR_Mo, zT_Mo, 43, rfl, by decide, by decide +kernel, Or.inl ⟨h ▸ f1, Or.inl rfl⟩⟩
set_option maxRecDepth 20000 in
theorem f_Mo_308 : zFL "HeadSplitsModel" 308 11 41 := ⟨zR_Mo, zT_Mo, 43, rfl, by decide, Or.inl (zq 949 (by decide +kernel) rfl)⟩
set_option maxRecDepth 20000 in
theorem p_Mo_308 {mi : ZI} (h : "HeadSplitsModel" = mi.1.cls) : zPL mi 308 11 41 (.int) := by
  have f1 : Cond.fieldLink "HeadSplitsModel" 308 zR_Mo (zT_Mo 41).2.1 (zT_Mo 41).2.2.1 ∈ ztbl := zq 949 (by decide +kernel) rfl
  exact ⟨zR_Mo, zT_Mo, 43, rfl, by decide, by decide +kernel, Or.inl ⟨h ▸ f1, Or.inl rfl⟩⟩
set_option maxRecDepth 20000 in
theorem o_H_3 : Cond.methodLink "HeadSplits" 3 objectInit ∈ ztbl := zq 88 (by decide +kernel) rfl
set_option maxRecDepth 20000 in
theorem l_H_11 : zML "HeadSplits" 11 m_Row_init.1 := Or.inl (zq 93 (by decide +kernel) rfl)
set_option maxRecDepth 20000 in
theorem l_H_20 : zML "HeadSplits" 20 m_Book_init.1 := Or.inr ⟨"HeadSplits", zq 110 (by decide +kernel) rfl⟩
set_option maxRecDepth 20000 in
theorem l_H_37 : zML "HeadSplits" 37 m_Shorts_init.1 := Or.inl (zq 181 (by decide +kernel) rfl)
set_option maxRecDepth 20000 in
theorem l_H_46 : zML "HeadSplits" 46 m_Net_init.1 := Or.inl (zq 209 (by decide +kernel) rfl)
set_option maxRecDepth 20000 in
theorem l_H_55 : zML "HeadSplits" 55 m_Answer_init.1 := Or.inl (zq 264 (by decide +kernel) rfl)
set_option maxRecDepth 20000 in
theorem l_H_64 : zML "HeadSplits" 64 m_Trial_init.1 := Or.inl (zq 287 (by decide +kernel) rfl)
set_option maxRecDepth 20000 in
theorem l_H_71 : zML "HeadSplits" 71 m_Tally_init.1 := Or.inr ⟨"HeadSplits", zq 310 (by decide +kernel) rfl⟩
set_option maxRecDepth 20000 in
theorem l_H_85 : zML "HeadSplits" 85 m_Row_push.1 := Or.inl (zq 368 (by decide +kernel) rfl)
set_option maxRecDepth 20000 in
theorem l_H_89 : zML "HeadSplits" 89 m_Row_size.1 := Or.inl (zq 372 (by decide +kernel) rfl)
set_option maxRecDepth 20000 in
theorem l_H_93 : zML "HeadSplits" 93 m_Row_makeEmpty.1 := Or.inl (zq 380 (by decide +kernel) rfl)
set_option maxRecDepth 20000 in
theorem l_H_96 : zML "HeadSplits" 96 m_H_firstFault.1 := Or.inl (zq 388 (by decide +kernel) rfl)
set_option maxRecDepth 20000 in
theorem l_H_99 : zML "HeadSplits" 99 m_H_pourPad.1 := Or.inl (zq 403 (by decide +kernel) rfl)
set_option maxRecDepth 20000 in
theorem l_H_102 : zML "HeadSplits" 102 m_H_needsOrRowsChanged.1 := Or.inl (zq 407 (by decide +kernel) rfl)
set_option maxRecDepth 20000 in
theorem l_H_111 : zML "HeadSplits" 111 m_H_isState.1 := Or.inl (zq 415 (by decide +kernel) rfl)
set_option maxRecDepth 20000 in
theorem l_H_114 : zML "HeadSplits" 114 m_H_isLetter.1 := Or.inl (zq 418 (by decide +kernel) rfl)
set_option maxRecDepth 20000 in
theorem l_H_117 : zML "HeadSplits" 117 m_Machine_after.1 := Or.inl (zq 421 (by decide +kernel) rfl)
set_option maxRecDepth 20000 in
theorem l_H_123 : zML "HeadSplits" 123 m_Machine_turn.1 := Or.inl (zq 425 (by decide +kernel) rfl)
set_option maxRecDepth 20000 in
theorem l_H_127 : zML "HeadSplits" 127 m_H_machineChanged.1 := Or.inl (zq 429 (by decide +kernel) rfl)
set_option maxRecDepth 20000 in
theorem l_H_130 : zML "HeadSplits" 130 m_H_isVariable.1 := Or.inl (zq 441 (by decide +kernel) rfl)
set_option maxRecDepth 20000 in
theorem l_H_139 : zML "HeadSplits" 139 m_Need_ofVariable.1 := Or.inl (zq 444 (by decide +kernel) rfl)
set_option maxRecDepth 20000 in
theorem l_H_142 : zML "HeadSplits" 142 m_Need_ofState.1 := Or.inl (zq 447 (by decide +kernel) rfl)
set_option maxRecDepth 20000 in
theorem l_H_145 : zML "HeadSplits" 145 m_Need_withState.1 := Or.inl (zq 450 (by decide +kernel) rfl)
set_option maxRecDepth 20000 in
theorem l_H_149 : zML "HeadSplits" 149 m_Shorts_refresh.1 := Or.inl (zq 457 (by decide +kernel) rfl)
set_option maxRecDepth 20000 in
theorem l_H_152 : zML "HeadSplits" 152 m_Shorts_firstFit.1 := Or.inl (zq 473 (by decide +kernel) rfl)
set_option maxRecDepth 20000 in
theorem l_H_156 : zML "HeadSplits" 156 m_Shorts_write.1 := Or.inl (zq 480 (by decide +kernel) rfl)
set_option maxRecDepth 20000 in
theorem l_H_160 : zML "HeadSplits" 160 m_H_sizeOrItem.1 := Or.inl (zq 493 (by decide +kernel) rfl)
set_option maxRecDepth 20000 in
theorem l_H_164 : zML "HeadSplits" 164 m_Tally_count.1 := Or.inl (zq 500 (by decide +kernel) rfl)
set_option maxRecDepth 20000 in
theorem l_H_168 : zML "HeadSplits" 168 m_Tally_mostOfAVariable.1 := Or.inl (zq 511 (by decide +kernel) rfl)
set_option maxRecDepth 20000 in
theorem l_H_171 : zML "HeadSplits" 171 m_H_refreshNet.1 := Or.inl (zq 516 (by decide +kernel) rfl)
set_option maxRecDepth 20000 in
theorem l_H_176 : zML "HeadSplits" 176 m_Net_verdict.1 := Or.inl (zq 733 (by decide +kernel) rfl)
set_option maxRecDepth 20000 in
theorem l_H_188 : zML "HeadSplits" 188 m_Net_at.1 := Or.inl (zq 741 (by decide +kernel) rfl)
set_option maxRecDepth 20000 in
theorem l_H_212 : zML "HeadSplits" 212 m_Row_at.1 := Or.inl (zq 392 (by decide +kernel) rfl)
set_option maxRecDepth 20000 in
theorem l_H_225 : zML "HeadSplits" 225 m_Words_of.1 := Or.inl (zq 758 (by decide +kernel) rfl)
set_option maxRecDepth 20000 in
theorem l_H_232 : zML "HeadSplits" 232 m_Words_longest.1 := Or.inl (zq 771 (by decide +kernel) rfl)
set_option maxRecDepth 20000 in
theorem l_H_235 : zML "HeadSplits" 235 m_Words_copy.1 := Or.inl (zq 777 (by decide +kernel) rfl)
set_option maxRecDepth 20000 in
theorem l_H_239 : zML "HeadSplits" 239 m_Words_together.1 := Or.inl (zq 782 (by decide +kernel) rfl)
set_option maxRecDepth 20000 in
theorem l_H_242 : zML "HeadSplits" 242 m_H_wordsMakeRowsOne.1 := Or.inl (zq 790 (by decide +kernel) rfl)
set_option maxRecDepth 20000 in
theorem l_H_246 : zML "HeadSplits" 246 m_Book_wordsMeetNeeds.1 := Or.inl (zq 807 (by decide +kernel) rfl)
set_option maxRecDepth 20000 in
theorem l_H_249 : zML "HeadSplits" 249 m_Tally_lacking.1 := Or.inl (zq 825 (by decide +kernel) rfl)
set_option maxRecDepth 20000 in
theorem l_H_252 : zML "HeadSplits" 252 m_Tally_wordsGive.1 := Or.inl (zq 829 (by decide +kernel) rfl)
set_option maxRecDepth 20000 in
theorem l_H_259 : zML "HeadSplits" 259 m_Trial_seek.1 := Or.inl (zq 837 (by decide +kernel) rfl)
set_option maxRecDepth 20000 in
theorem l_H_265 : zML "HeadSplits" 265 m_Trial_codeOf.1 := Or.inl (zq 876 (by decide +kernel) rfl)
set_option maxRecDepth 20000 in
theorem l_H_268 : zML "HeadSplits" 268 m_Book_copy.1 := Or.inl (zq 884 (by decide +kernel) rfl)
set_option maxRecDepth 20000 in
theorem l_H_273 : zML "HeadSplits" 273 m_H_symbolOf.1 := Or.inl (zq 396 (by decide +kernel) rfl)
set_option maxRecDepth 20000 in
theorem l_H_279 : zML "HeadSplits" 279 m_Shorts_forget.1 := Or.inl (zq 433 (by decide +kernel) rfl)
set_option maxRecDepth 20000 in
theorem l_H_282 : zML "HeadSplits" 282 m_Net_begin.1 := Or.inl (zq 520 (by decide +kernel) rfl)
set_option maxRecDepth 20000 in
theorem l_H_285 : zML "HeadSplits" 285 m_Net_unfold.1 := Or.inl (zq 622 (by decide +kernel) rfl)
set_option maxRecDepth 20000 in
theorem l_H_288 : zML "HeadSplits" 288 m_Answer_trace.1 := Or.inl (zq 709 (by decide +kernel) rfl)
set_option maxRecDepth 20000 in
theorem l_H_291 : zML "HeadSplits" 291 m_Words_spellOut.1 := Or.inl (zq 794 (by decide +kernel) rfl)
set_option maxRecDepth 20000 in
theorem l_H_295 : zML "HeadSplits" 295 m_Row_sameAs.1 := Or.inl (zq 806 (by decide +kernel) rfl)
set_option maxRecDepth 20000 in
theorem o_Answer_3 : Cond.methodLink "HeadSplits$Answer" 3 objectInit ∈ ztbl := zq 267 (by decide +kernel) rfl
set_option maxRecDepth 20000 in
theorem l_Answer_11 : zML "HeadSplits$Answer" 11 m_Words_init.1 := Or.inl (zq 269 (by decide +kernel) rfl)
set_option maxRecDepth 20000 in
theorem l_Answer_38 : zML "HeadSplits$Answer" 38 m_Net_at.1 := Or.inl (zq 713 (by decide +kernel) rfl)
set_option maxRecDepth 20000 in
theorem l_Answer_47 : zML "HeadSplits$Answer" 47 m_Need_ofVariable.1 := Or.inl (zq 714 (by decide +kernel) rfl)
set_option maxRecDepth 20000 in
theorem l_Answer_53 : zML "HeadSplits$Answer" 53 m_Shorts_firstFit.1 := Or.inl (zq 715 (by decide +kernel) rfl)
set_option maxRecDepth 20000 in
theorem l_Answer_59 : zML "HeadSplits$Answer" 59 m_Words_of.1 := Or.inl (zq 716 (by decide +kernel) rfl)
set_option maxRecDepth 20000 in
theorem l_Answer_63 : zML "HeadSplits$Answer" 63 m_Shorts_write.1 := Or.inl (zq 720 (by decide +kernel) rfl)
set_option maxRecDepth 20000 in
theorem l_Answer_73 : zML "HeadSplits$Answer" 73 m_Answer_goBack.1 := Or.inl (zq 721 (by decide +kernel) rfl)
set_option maxRecDepth 20000 in
theorem l_Answer_77 : zML "HeadSplits$Answer" 77 m_Row_makeEmpty.1 := Or.inl (zq 725 (by decide +kernel) rfl)
set_option maxRecDepth 20000 in
theorem l_Answer_86 : zML "HeadSplits$Answer" 86 m_Row_at.1 := Or.inl (zq 726 (by decide +kernel) rfl)
set_option maxRecDepth 20000 in
theorem l_Answer_91 : zML "HeadSplits$Answer" 91 m_H_isVariable.1 := Or.inr ⟨"HeadSplits", zq 727 (by decide +kernel) rfl⟩
set_option maxRecDepth 20000 in
theorem l_Answer_95 : zML "HeadSplits$Answer" 95 m_Row_putAhead.1 := Or.inl (zq 728 (by decide +kernel) rfl)
set_option maxRecDepth 20000 in
theorem l_Answer_99 : zML "HeadSplits$Answer" 99 m_Row_pushAhead.1 := Or.inl (zq 732 (by decide +kernel) rfl)
set_option maxRecDepth 20000 in
theorem o_Book_3 : Cond.methodLink "HeadSplits$Book" 3 objectInit ∈ ztbl := zq 113 (by decide +kernel) rfl
set_option maxRecDepth 20000 in
theorem l_Book_11 : zML "HeadSplits$Book" 11 m_Row_init.1 := Or.inl (zq 115 (by decide +kernel) rfl)
set_option maxRecDepth 20000 in
theorem l_Book_25 : zML "HeadSplits$Book" 25 m_Machine_init.1 := Or.inl (zq 118 (by decide +kernel) rfl)
set_option maxRecDepth 20000 in
theorem l_Book_32 : zML "HeadSplits$Book" 32 m_Words_init.1 := Or.inl (zq 128 (by decide +kernel) rfl)
set_option maxRecDepth 20000 in
theorem l_Book_44 : zML "HeadSplits$Book" 44 m_Row_copy.1 := Or.inl (zq 888 (by decide +kernel) rfl)
set_option maxRecDepth 20000 in
theorem l_Book_48 : zML "HeadSplits$Book" 48 m_Machine_copy.1 := Or.inl (zq 889 (by decide +kernel) rfl)
set_option maxRecDepth 20000 in
theorem l_Book_51 : zML "HeadSplits$Book" 51 m_Words_copy.1 := Or.inl (zq 893 (by decide +kernel) rfl)
set_option maxRecDepth 20000 in
theorem l_Book_54 : zML "HeadSplits$Book" 54 m_Need_ofVariable.1 := Or.inl (zq 811 (by decide +kernel) rfl)
set_option maxRecDepth 20000 in
theorem l_Book_58 : zML "HeadSplits$Book" 58 m_Words_of.1 := Or.inl (zq 812 (by decide +kernel) rfl)
set_option maxRecDepth 20000 in
theorem l_Book_62 : zML "HeadSplits$Book" 62 m_Book_mapOf.1 := Or.inl (zq 813 (by decide +kernel) rfl)
set_option maxRecDepth 20000 in
theorem l_Book_66 : zML "HeadSplits$Book" 66 m_Need_allows.1 := Or.inl (zq 820 (by decide +kernel) rfl)
set_option maxRecDepth 20000 in
theorem l_Book_70 : zML "HeadSplits$Book" 70 m_Row_size.1 := Or.inl (zq 817 (by decide +kernel) rfl)
set_option maxRecDepth 20000 in
theorem l_Book_74 : zML "HeadSplits$Book" 74 m_Row_at.1 := Or.inl (zq 818 (by decide +kernel) rfl)
set_option maxRecDepth 20000 in
theorem l_Book_78 : zML "HeadSplits$Book" 78 m_Machine_mapBehind.1 := Or.inl (zq 819 (by decide +kernel) rfl)
set_option maxRecDepth 20000 in
theorem o_Machine_3 : Cond.methodLink "HeadSplits$Machine" 3 objectInit ∈ ztbl := zq 121 (by decide +kernel) rfl
set_option maxRecDepth 20000 in
theorem l_Machine_15 : zML "HeadSplits$Machine" 15 m_Machine_after.1 := Or.inl (zq 472 (by decide +kernel) rfl)
set_option maxRecDepth 20000 in
theorem l_Need_11 : zML "HeadSplits$Need" 11 m_Machine_after.1 := Or.inl (zq 708 (by decide +kernel) rfl)
set_option maxRecDepth 20000 in
theorem l_Need_17 : zML "HeadSplits$Need" 17 m_Need_ofState.1 := Or.inl (zq 692 (by decide +kernel) rfl)
set_option maxRecDepth 20000 in
theorem l_Need_20 : zML "HeadSplits$Need" 20 m_Need_narrowed.1 := Or.inl (zq 699 (by decide +kernel) rfl)
set_option maxRecDepth 20000 in
theorem l_Need_24 : zML "HeadSplits$Need" 24 m_Need_stateOfTurn.1 := Or.inl (zq 693 (by decide +kernel) rfl)
set_option maxRecDepth 20000 in
theorem o_Net_3 : Cond.methodLink "HeadSplits$Net" 3 objectInit ∈ ztbl := zq 212 (by decide +kernel) rfl
set_option maxRecDepth 20000 in
theorem l_Net_23 : zML "HeadSplits$Net" 23 m_Row_init.1 := Or.inl (zq 216 (by decide +kernel) rfl)
set_option maxRecDepth 20000 in
theorem l_Net_60 : zML "HeadSplits$Net" 60 m_Arr_fill.1 := Or.inl (zq 524 (by decide +kernel) rfl)
set_option maxRecDepth 20000 in
theorem l_Net_69 : zML "HeadSplits$Net" 69 m_Row_copy.1 := Or.inl (zq 525 (by decide +kernel) rfl)
set_option maxRecDepth 20000 in
theorem l_Net_74 : zML "HeadSplits$Net" 74 m_Net_makeLean.1 := Or.inl (zq 529 (by decide +kernel) rfl)
set_option maxRecDepth 20000 in
theorem l_Net_80 : zML "HeadSplits$Net" 80 m_Net_meet.1 := Or.inl (zq 546 (by decide +kernel) rfl)
set_option maxRecDepth 20000 in
theorem l_Net_84 : zML "HeadSplits$Net" 84 m_Net_at.1 := Or.inl (zq 626 (by decide +kernel) rfl)
set_option maxRecDepth 20000 in
theorem l_Net_90 : Cond.methodLink "HeadSplits$Net" 90 Lib.Math.max.name ∈ ztbl := zq 630 (by decide +kernel) rfl
set_option maxRecDepth 20000 in
theorem l_Net_97 : zML "HeadSplits$Net" 97 m_Row_at.1 := Or.inl (zq 631 (by decide +kernel) rfl)
set_option maxRecDepth 20000 in
theorem l_Net_102 : zML "HeadSplits$Net" 102 m_Shorts_anyHopeless.1 := Or.inl (zq 632 (by decide +kernel) rfl)
set_option maxRecDepth 20000 in
theorem l_Net_111 : zML "HeadSplits$Net" 111 m_Net_draftNothing.1 := Or.inl (zq 638 (by decide +kernel) rfl)
set_option maxRecDepth 20000 in
theorem l_Net_115 : zML "HeadSplits$Net" 115 m_Net_settleDrafts.1 := Or.inl (zq 658 (by decide +kernel) rfl)
set_option maxRecDepth 20000 in
theorem l_Net_119 : zML "HeadSplits$Net" 119 m_Net_draftBegins.1 := Or.inl (zq 677 (by decide +kernel) rfl)
set_option maxRecDepth 20000 in
theorem l_Net_127 : zML "HeadSplits$Net" 127 m_H_isVariable.1 := Or.inr ⟨"HeadSplits", zq 642 (by decide +kernel) rfl⟩
set_option maxRecDepth 20000 in
theorem l_Net_130 : zML "HeadSplits$Net" 130 m_Need_ofVariable.1 := Or.inl (zq 643 (by decide +kernel) rfl)
set_option maxRecDepth 20000 in
theorem l_Net_135 : zML "HeadSplits$Net" 135 m_Need_allows.1 := Or.inl (zq 644 (by decide +kernel) rfl)
set_option maxRecDepth 20000 in
theorem l_Net_139 : zML "HeadSplits$Net" 139 m_Row_copyWithout.1 := Or.inl (zq 645 (by decide +kernel) rfl)
set_option maxRecDepth 20000 in
theorem l_Net_143 : zML "HeadSplits$Net" 143 m_Need_withVariable.1 := Or.inl (zq 650 (by decide +kernel) rfl)
set_option maxRecDepth 20000 in
theorem l_Net_147 : zML "HeadSplits$Net" 147 m_Net_addDraft.1 := Or.inl (zq 653 (by decide +kernel) rfl)
set_option maxRecDepth 20000 in
theorem l_Net_151 : zML "HeadSplits$Net" 151 m_Row_copyWithAhead.1 := Or.inl (zq 681 (by decide +kernel) rfl)
set_option maxRecDepth 20000 in
theorem l_Net_155 : zML "HeadSplits$Net" 155 m_Net_draftTurns.1 := Or.inl (zq 685 (by decide +kernel) rfl)
set_option maxRecDepth 20000 in
theorem l_Net_163 : zML "HeadSplits$Net" 163 m_Need_behindLetter.1 := Or.inl (zq 705 (by decide +kernel) rfl)
set_option maxRecDepth 20000 in
theorem l_Net_167 : zML "HeadSplits$Net" 167 m_Need_isTurn.1 := Or.inl (zq 689 (by decide +kernel) rfl)
set_option maxRecDepth 20000 in
theorem l_Net_170 : zML "HeadSplits$Net" 170 m_Need_behindTurn.1 := Or.inl (zq 696 (by decide +kernel) rfl)
set_option maxRecDepth 20000 in
theorem l_Net_173 : zML "HeadSplits$Net" 173 m_Need_aheadOfTurn.1 := Or.inl (zq 702 (by decide +kernel) rfl)
set_option maxRecDepth 20000 in
theorem l_Net_176 : zML "HeadSplits$Net" 176 m_Row_push.1 := Or.inl (zq 657 (by decide +kernel) rfl)
set_option maxRecDepth 20000 in
theorem l_Net_179 : zML "HeadSplits$Net" 179 m_Row_sameAtFront.1 := Or.inl (zq 533 (by decide +kernel) rfl)
set_option maxRecDepth 20000 in
theorem l_Net_183 : zML "HeadSplits$Net" 183 m_Row_dropFirst.1 := Or.inl (zq 538 (by decide +kernel) rfl)
set_option maxRecDepth 20000 in
theorem l_Net_186 : zML "HeadSplits$Net" 186 m_Row_mark.1 := Or.inl (zq 542 (by decide +kernel) rfl)
set_option maxRecDepth 20000 in
theorem l_Net_192 : zML "HeadSplits$Net" 192 m_Row_size.1 := Or.inl (zq 662 (by decide +kernel) rfl)
set_option maxRecDepth 20000 in
theorem l_Net_195 : zML "HeadSplits$Net" 195 m_Net_metBefore.1 := Or.inl (zq 663 (by decide +kernel) rfl)
set_option maxRecDepth 20000 in
theorem l_Net_198 : zML "HeadSplits$Net" 198 m_Node_addMove.1 := Or.inl (zq 671 (by decide +kernel) rfl)
set_option maxRecDepth 20000 in
theorem l_Net_201 : zML "HeadSplits$Net" 201 m_Row_makeEmpty.1 := Or.inl (zq 676 (by decide +kernel) rfl)
set_option maxRecDepth 20000 in
theorem l_Net_205 : zML "HeadSplits$Net" 205 m_Net_bucketOf.1 := Or.inl (zq 617 (by decide +kernel) rfl)
set_option maxRecDepth 20000 in
theorem l_Net_208 : zML "HeadSplits$Net" 208 m_Row_sameAs.1 := Or.inl (zq 667 (by decide +kernel) rfl)
set_option maxRecDepth 20000 in
theorem l_Net_215 : zML "HeadSplits$Net" 215 m_Node_init.1 := Or.inl (zq 551 (by decide +kernel) rfl)
set_option maxRecDepth 20000 in
theorem l_Net_216 : zML "HeadSplits$Net" 216 m_Node_start.1 := Or.inl (zq 611 (by decide +kernel) rfl)
set_option maxRecDepth 20000 in
theorem o_Node_3 : Cond.methodLink "HeadSplits$Node" 3 objectInit ∈ ztbl := zq 554 (by decide +kernel) rfl
set_option maxRecDepth 20000 in
theorem l_Node_11 : zML "HeadSplits$Node" 11 m_Row_init.1 := Or.inl (zq 556 (by decide +kernel) rfl)
set_option maxRecDepth 20000 in
theorem l_Node_33 : zML "HeadSplits$Node" 33 m_Row_copy.1 := Or.inl (zq 615 (by decide +kernel) rfl)
set_option maxRecDepth 20000 in
theorem l_Node_37 : zML "HeadSplits$Node" 37 m_Row_makeEmpty.1 := Or.inl (zq 616 (by decide +kernel) rfl)
set_option maxRecDepth 20000 in
theorem l_Node_56 : zML "HeadSplits$Node" 56 m_Row_push.1 := Or.inl (zq 675 (by decide +kernel) rfl)
set_option maxRecDepth 20000 in
theorem o_Row_3 : Cond.methodLink "HeadSplits$Row" 3 objectInit ∈ ztbl := zq 96 (by decide +kernel) rfl
set_option maxRecDepth 20000 in
theorem l_Row_9 : Cond.methodLink "HeadSplits$Row" 9 Lib.Math.max.name ∈ ztbl := zq 97 (by decide +kernel) rfl
set_option maxRecDepth 20000 in
theorem l_Row_25 : zML "HeadSplits$Row" 25 m_Row_makeRoom.1 := Or.inl (zq 489 (by decide +kernel) rfl)
set_option maxRecDepth 20000 in
theorem l_Row_29 : zML "HeadSplits$Row" 29 m_Row_push.1 := Or.inl (zq 649 (by decide +kernel) rfl)
set_option maxRecDepth 20000 in
theorem l_Row_32 : zML "HeadSplits$Row" 32 m_Row_at.1 := Or.inl (zq 537 (by decide +kernel) rfl)
set_option maxRecDepth 20000 in
theorem o_Shorts_3 : Cond.methodLink "HeadSplits$Shorts" 3 objectInit ∈ ztbl := zq 184 (by decide +kernel) rfl
set_option maxRecDepth 20000 in
theorem l_Shorts_34 : zML "HeadSplits$Shorts" 34 m_Arr_fill.1 := Or.inl (zq 461 (by decide +kernel) rfl)
set_option maxRecDepth 20000 in
theorem l_Shorts_44 : zML "HeadSplits$Shorts" 44 m_Shorts_meet.1 := Or.inl (zq 464 (by decide +kernel) rfl)
set_option maxRecDepth 20000 in
theorem l_Shorts_48 : zML "HeadSplits$Shorts" 48 m_Machine_mapBehind.1 := Or.inl (zq 468 (by decide +kernel) rfl)
set_option maxRecDepth 20000 in
theorem l_Shorts_54 : zML "HeadSplits$Shorts" 54 m_Need_allows.1 := Or.inl (zq 477 (by decide +kernel) rfl)
set_option maxRecDepth 20000 in
theorem l_Shorts_58 : zML "HeadSplits$Shorts" 58 m_Need_ofVariable.1 := Or.inl (zq 636 (by decide +kernel) rfl)
set_option maxRecDepth 20000 in
theorem l_Shorts_61 : zML "HeadSplits$Shorts" 61 m_Shorts_firstFit.1 := Or.inl (zq 637 (by decide +kernel) rfl)
set_option maxRecDepth 20000 in
theorem l_Shorts_65 : zML "HeadSplits$Shorts" 65 m_Row_makeEmpty.1 := Or.inl (zq 484 (by decide +kernel) rfl)
set_option maxRecDepth 20000 in
theorem l_Shorts_70 : zML "HeadSplits$Shorts" 70 m_Row_pushAhead.1 := Or.inl (zq 485 (by decide +kernel) rfl)
set_option maxRecDepth 20000 in
theorem o_Tally_3 : Cond.methodLink "HeadSplits$Tally" 3 objectInit ∈ ztbl := zq 313 (by decide +kernel) rfl
set_option maxRecDepth 20000 in
theorem l_Tally_18 : zML "HeadSplits$Tally" 18 m_Arr_fill.1 := Or.inl (zq 504 (by decide +kernel) rfl)
set_option maxRecDepth 20000 in
theorem l_Tally_30 : zML "HeadSplits$Tally" 30 m_Tally_countRow.1 := Or.inl (zq 505 (by decide +kernel) rfl)
set_option maxRecDepth 20000 in
theorem l_Tally_37 : zML "HeadSplits$Tally" 37 m_Row_size.1 := Or.inl (zq 509 (by decide +kernel) rfl)
set_option maxRecDepth 20000 in
theorem l_Tally_43 : zML "HeadSplits$Tally" 43 m_Row_at.1 := Or.inl (zq 510 (by decide +kernel) rfl)
set_option maxRecDepth 20000 in
theorem l_Tally_47 : Cond.methodLink "HeadSplits$Tally" 47 Lib.Math.max.name ∈ ztbl := zq 515 (by decide +kernel) rfl
set_option maxRecDepth 20000 in
theorem o_Trial_3 : Cond.methodLink "HeadSplits$Trial" 3 objectInit ∈ ztbl := zq 290 (by decide +kernel) rfl
set_option maxRecDepth 20000 in
theorem l_Trial_30 : zML "HeadSplits$Trial" 30 m_Trial_findMaps.1 := Or.inl (zq 841 (by decide +kernel) rfl)
set_option maxRecDepth 20000 in
theorem l_Trial_38 : zML "HeadSplits$Trial" 38 m_Need_ofVariable.1 := Or.inl (zq 846 (by decide +kernel) rfl)
set_option maxRecDepth 20000 in
theorem l_Trial_44 : zML "HeadSplits$Trial" 44 m_Trial_allowedWords.1 := Or.inl (zq 847 (by decide +kernel) rfl)
set_option maxRecDepth 20000 in
theorem l_Trial_48 : zML "HeadSplits$Trial" 48 m_Trial_seekOfSize.1 := Or.inl (zq 852 (by decide +kernel) rfl)
set_option maxRecDepth 20000 in
theorem l_Trial_55 : zML "HeadSplits$Trial" 55 m_Trial_choose.1 := Or.inl (zq 856 (by decide +kernel) rfl)
set_option maxRecDepth 20000 in
theorem l_Trial_59 : zML "HeadSplits$Trial" 59 m_Trial_sizeOf.1 := Or.inl (zq 861 (by decide +kernel) rfl)
set_option maxRecDepth 20000 in
theorem l_Trial_62 : zML "HeadSplits$Trial" 62 m_Tally_wordsGive.1 := Or.inl (zq 864 (by decide +kernel) rfl)
set_option maxRecDepth 20000 in
theorem l_Trial_68 : zML "HeadSplits$Trial" 68 m_Tally_lacking.1 := Or.inl (zq 865 (by decide +kernel) rfl)
set_option maxRecDepth 20000 in
theorem l_Trial_71 : zML "HeadSplits$Trial" 71 m_Trial_seekLast.1 := Or.inl (zq 866 (by decide +kernel) rfl)
set_option maxRecDepth 20000 in
theorem l_Trial_79 : zML "HeadSplits$Trial" 79 m_Trial_spelled.1 := Or.inl (zq 870 (by decide +kernel) rfl)
set_option maxRecDepth 20000 in
theorem l_Trial_86 : zML "HeadSplits$Trial" 86 m_H_isVariable.1 := Or.inr ⟨"HeadSplits", zq 860 (by decide +kernel) rfl⟩
set_option maxRecDepth 20000 in
theorem l_Trial_90 : zML "HeadSplits$Trial" 90 m_Row_size.1 := Or.inl (zq 874 (by decide +kernel) rfl)
set_option maxRecDepth 20000 in
theorem l_Trial_96 : zML "HeadSplits$Trial" 96 m_Row_at.1 := Or.inl (zq 875 (by decide +kernel) rfl)
set_option maxRecDepth 20000 in
theorem l_Trial_99 : zML "HeadSplits$Trial" 99 m_Machine_mapBehind.1 := Or.inl (zq 845 (by decide +kernel) rfl)
set_option maxRecDepth 20000 in
theorem l_Trial_104 : zML "HeadSplits$Trial" 104 m_Need_allows.1 := Or.inl (zq 851 (by decide +kernel) rfl)
set_option maxRecDepth 20000 in
theorem o_Words_3 : Cond.methodLink "HeadSplits$Words" 3 objectInit ∈ ztbl := zq 131 (by decide +kernel) rfl
set_option maxRecDepth 20000 in
theorem l_Words_11 : zML "HeadSplits$Words" 11 m_Row_init.1 := Or.inl (zq 133 (by decide +kernel) rfl)
set_option maxRecDepth 20000 in
theorem l_Words_26 : zML "HeadSplits$Words" 26 m_Row_copy.1 := Or.inl (zq 781 (by decide +kernel) rfl)
set_option maxRecDepth 20000 in
theorem l_Words_30 : zML "HeadSplits$Words" 30 m_Row_size.1 := Or.inl (zq 775 (by decide +kernel) rfl)
set_option maxRecDepth 20000 in
theorem l_Words_34 : Cond.methodLink "HeadSplits$Words" 34 Lib.Math.max.name ∈ ztbl := zq 776 (by decide +kernel) rfl
set_option maxRecDepth 20000 in
theorem l_Words_40 : zML "HeadSplits$Words" 40 m_Row_makeEmpty.1 := Or.inl (zq 798 (by decide +kernel) rfl)
set_option maxRecDepth 20000 in
theorem l_Words_43 : zML "HeadSplits$Words" 43 m_Row_at.1 := Or.inl (zq 799 (by decide +kernel) rfl)
set_option maxRecDepth 20000 in
theorem l_Words_47 : zML "HeadSplits$Words" 47 m_Row_push.1 := Or.inl (zq 800 (by decide +kernel) rfl)
set_option maxRecDepth 20000 in
theorem l_Words_51 : zML "HeadSplits$Words" 51 m_Words_of.1 := Or.inl (zq 801 (by decide +kernel) rfl)
set_option maxRecDepth 20000 in
theorem l_Words_55 : zML "HeadSplits$Words" 55 m_Row_add.1 := Or.inl (zq 802 (by decide +kernel) rfl)
set_option maxRecDepth 20000 in
theorem l_Law_9 : zML "HeadSplitsLaw" 9 m_H_init.1 := Or.inl (zq 85 (by decide +kernel) rfl)
set_option maxRecDepth 20000 in
theorem l_Law_12 : zML "HeadSplitsLaw" 12 m_Mo_init.1 := Or.inl (zq 904 (by decide +kernel) rfl)
set_option maxRecDepth 20000 in
theorem l_Law_13 : zML "HeadSplitsLaw" 13 m_H_say.1 := Or.inl (zq 364 (by decide +kernel) rfl)
set_option maxRecDepth 20000 in
theorem l_Law_17 : zML "HeadSplitsLaw" 17 m_Mo_say.1 := Or.inl (zq 1039 (by decide +kernel) rfl)
set_option maxRecDepth 20000 in
theorem l_Law_18 : zML "HeadSplitsLaw" 18 m_H_wipe.1 := Or.inl (zq 376 (by decide +kernel) rfl)
set_option maxRecDepth 20000 in
theorem l_Law_22 : zML "HeadSplitsLaw" 22 m_Mo_wipe.1 := Or.inl (zq 1048 (by decide +kernel) rfl)
set_option maxRecDepth 20000 in
theorem l_Law_23 : zML "HeadSplitsLaw" 23 m_H_fault.1 := Or.inl (zq 384 (by decide +kernel) rfl)
set_option maxRecDepth 20000 in
theorem l_Law_26 : zML "HeadSplitsLaw" 26 m_Mo_fault.1 := Or.inl (zq 1052 (by decide +kernel) rfl)
set_option maxRecDepth 20000 in
theorem l_Law_27 : zML "HeadSplitsLaw" 27 m_H_load.1 := Or.inl (zq 399 (by decide +kernel) rfl)
set_option maxRecDepth 20000 in
theorem l_Law_30 : zML "HeadSplitsLaw" 30 m_Mo_load.1 := Or.inl (zq 1063 (by decide +kernel) rfl)
set_option maxRecDepth 20000 in
theorem l_Law_31 : zML "HeadSplitsLaw" 31 m_H_leads.1 := Or.inl (zq 411 (by decide +kernel) rfl)
set_option maxRecDepth 20000 in
theorem l_Law_35 : zML "HeadSplitsLaw" 35 m_Mo_leads.1 := Or.inl (zq 1068 (by decide +kernel) rfl)
set_option maxRecDepth 20000 in
theorem l_Law_36 : zML "HeadSplitsLaw" 36 m_H_need.1 := Or.inl (zq 437 (by decide +kernel) rfl)
set_option maxRecDepth 20000 in
theorem l_Law_39 : zML "HeadSplitsLaw" 39 m_Mo_need.1 := Or.inl (zq 1076 (by decide +kernel) rfl)
set_option maxRecDepth 20000 in
theorem l_Law_40 : zML "HeadSplitsLaw" 40 m_H_brief.1 := Or.inl (zq 453 (by decide +kernel) rfl)
set_option maxRecDepth 20000 in
theorem l_Law_44 : zML "HeadSplitsLaw" 44 m_Mo_brief.1 := Or.inl (zq 1081 (by decide +kernel) rfl)
set_option maxRecDepth 20000 in
theorem l_Law_45 : zML "HeadSplitsLaw" 45 m_H_net.1 := Or.inl (zq 496 (by decide +kernel) rfl)
set_option maxRecDepth 20000 in
theorem l_Law_48 : zML "HeadSplitsLaw" 48 m_Mo_net.1 := Or.inl (zq 1104 (by decide +kernel) rfl)
set_option maxRecDepth 20000 in
theorem l_Law_49 : zML "HeadSplitsLaw" 49 m_H_node.1 := Or.inl (zq 737 (by decide +kernel) rfl)
set_option maxRecDepth 20000 in
theorem l_Law_52 : zML "HeadSplitsLaw" 52 m_Mo_node.1 := Or.inl (zq 1200 (by decide +kernel) rfl)
set_option maxRecDepth 20000 in
theorem l_Law_53 : zML "HeadSplitsLaw" 53 m_H_symbol.1 := Or.inl (zq 742 (by decide +kernel) rfl)
set_option maxRecDepth 20000 in
theorem l_Law_56 : zML "HeadSplitsLaw" 56 m_Mo_symbol.1 := Or.inl (zq 1212 (by decide +kernel) rfl)
set_option maxRecDepth 20000 in
theorem l_Law_57 : zML "HeadSplitsLaw" 57 m_H_needs.1 := Or.inl (zq 746 (by decide +kernel) rfl)
set_option maxRecDepth 20000 in
theorem l_Law_60 : zML "HeadSplitsLaw" 60 m_Mo_needs.1 := Or.inl (zq 1216 (by decide +kernel) rfl)
set_option maxRecDepth 20000 in
theorem l_Law_61 : zML "HeadSplitsLaw" 61 m_H_move.1 := Or.inl (zq 750 (by decide +kernel) rfl)
set_option maxRecDepth 20000 in
theorem l_Law_64 : zML "HeadSplitsLaw" 64 m_Mo_move.1 := Or.inl (zq 1220 (by decide +kernel) rfl)
set_option maxRecDepth 20000 in
theorem l_Law_65 : zML "HeadSplitsLaw" 65 m_H_answer.1 := Or.inl (zq 754 (by decide +kernel) rfl)
set_option maxRecDepth 20000 in
theorem l_Law_68 : zML "HeadSplitsLaw" 68 m_Mo_answer.1 := Or.inl (zq 1224 (by decide +kernel) rfl)
set_option maxRecDepth 20000 in
theorem l_Law_69 : zML "HeadSplitsLaw" 69 m_H_spell.1 := Or.inl (zq 759 (by decide +kernel) rfl)
set_option maxRecDepth 20000 in
theorem l_Law_72 : zML "HeadSplitsLaw" 72 m_Mo_spell.1 := Or.inl (zq 1240 (by decide +kernel) rfl)
set_option maxRecDepth 20000 in
theorem l_Law_73 : zML "HeadSplitsLaw" 73 m_H_clear.1 := Or.inl (zq 763 (by decide +kernel) rfl)
set_option maxRecDepth 20000 in
theorem l_Law_76 : zML "HeadSplitsLaw" 76 m_Mo_clear.1 := Or.inl (zq 1244 (by decide +kernel) rfl)
set_option maxRecDepth 20000 in
theorem l_Law_77 : zML "HeadSplitsLaw" 77 m_H_take.1 := Or.inl (zq 767 (by decide +kernel) rfl)
set_option maxRecDepth 20000 in
theorem l_Law_80 : zML "HeadSplitsLaw" 80 m_Mo_take.1 := Or.inl (zq 1248 (by decide +kernel) rfl)
set_option maxRecDepth 20000 in
theorem l_Law_81 : zML "HeadSplitsLaw" 81 m_H_fits.1 := Or.inl (zq 786 (by decide +kernel) rfl)
set_option maxRecDepth 20000 in
theorem l_Law_84 : zML "HeadSplitsLaw" 84 m_Mo_fits.1 := Or.inl (zq 1252 (by decide +kernel) rfl)
set_option maxRecDepth 20000 in
theorem l_Law_85 : zML "HeadSplitsLaw" 85 m_H_lengths.1 := Or.inl (zq 821 (by decide +kernel) rfl)
set_option maxRecDepth 20000 in
theorem l_Law_88 : zML "HeadSplitsLaw" 88 m_Mo_lengths.1 := Or.inl (zq 1272 (by decide +kernel) rfl)
set_option maxRecDepth 20000 in
theorem l_Law_89 : zML "HeadSplitsLaw" 89 m_H_shortest.1 := Or.inl (zq 833 (by decide +kernel) rfl)
set_option maxRecDepth 20000 in
theorem l_Law_92 : zML "HeadSplitsLaw" 92 m_Mo_shortest.1 := Or.inl (zq 1284 (by decide +kernel) rfl)
set_option maxRecDepth 20000 in
theorem l_Law_93 : zML "HeadSplitsLaw" 93 m_H_image.1 := Or.inl (zq 880 (by decide +kernel) rfl)
set_option maxRecDepth 20000 in
theorem l_Law_96 : zML "HeadSplitsLaw" 96 m_Mo_image.1 := Or.inl (zq 1297 (by decide +kernel) rfl)
set_option maxRecDepth 20000 in
theorem l_Law_97 : zML "HeadSplitsLaw" 97 m_H_restore.1 := Or.inl (zq 894 (by decide +kernel) rfl)
set_option maxRecDepth 20000 in
theorem l_Law_100 : zML "HeadSplitsLaw" 100 m_Mo_restore.1 := Or.inl (zq 1309 (by decide +kernel) rfl)
set_option maxRecDepth 20000 in
theorem l_Law_101 : zML "HeadSplitsLaw" 101 m_H_told.1 := Or.inl (zq 898 (by decide +kernel) rfl)
set_option maxRecDepth 20000 in
theorem l_Law_104 : zML "HeadSplitsLaw" 104 m_Mo_told.1 := Or.inl (zq 1313 (by decide +kernel) rfl)
set_option maxRecDepth 20000 in
theorem o_Mo_1 : Cond.methodLink "HeadSplitsModel" 1 objectInit ∈ ztbl := zq 907 (by decide +kernel) rfl
set_option maxRecDepth 20000 in
theorem l_Mo_109 : zML "HeadSplitsModel" 109 m_Mo_in.1 := Or.inl (zq 1045 (by decide +kernel) rfl)
set_option maxRecDepth 20000 in
theorem l_Mo_129 : zML "HeadSplitsModel" 129 m_Mo_symbolOf.1 := Or.inl (zq 1056 (by decide +kernel) rfl)
set_option maxRecDepth 20000 in
theorem l_Mo_133 : zML "HeadSplitsModel" 133 m_Mo_fault.1 := Or.inl (zq 1067 (by decide +kernel) rfl)
set_option maxRecDepth 20000 in
theorem l_Mo_141 : zML "HeadSplitsModel" 141 m_Mo_isThird.1 := Or.inl (zq 1072 (by decide +kernel) rfl)
set_option maxRecDepth 20000 in
theorem l_Mo_150 : zML "HeadSplitsModel" 150 m_Mo_isDone.1 := Or.inl (zq 1093 (by decide +kernel) rfl)
set_option maxRecDepth 20000 in
theorem l_Mo_154 : zML "HeadSplitsModel" 154 m_Mo_addDone.1 := Or.inl (zq 1089 (by decide +kernel) rfl)
set_option maxRecDepth 20000 in
theorem l_Mo_158 : zML "HeadSplitsModel" 158 m_Mo_has.1 := Or.inl (zq 1101 (by decide +kernel) rfl)
set_option maxRecDepth 20000 in
theorem l_Mo_162 : zML "HeadSplitsModel" 162 m_Mo_findDone.1 := Or.inl (zq 1085 (by decide +kernel) rfl)
set_option maxRecDepth 20000 in
theorem l_Mo_165 : zML "HeadSplitsModel" 165 m_Mo_firstFor.1 := Or.inl (zq 1097 (by decide +kernel) rfl)
set_option maxRecDepth 20000 in
theorem l_Mo_169 : zML "HeadSplitsModel" 169 m_Mo_dropFirst.1 := Or.inl (zq 1117 (by decide +kernel) rfl)
set_option maxRecDepth 20000 in
theorem l_Mo_175 : zML "HeadSplitsModel" 175 m_Mo_isSame.1 := Or.inl (zq 1184 (by decide +kernel) rfl)
set_option maxRecDepth 20000 in
theorem l_Mo_181 : zML "HeadSplitsModel" 181 m_Mo_third.1 := Or.inl (zq 1153 (by decide +kernel) rfl)
set_option maxRecDepth 20000 in
theorem l_Mo_184 : zML "HeadSplitsModel" 184 m_Mo_addMove.1 := Or.inl (zq 1141 (by decide +kernel) rfl)
set_option maxRecDepth 20000 in
theorem l_Mo_188 : zML "HeadSplitsModel" 188 m_Mo_isTurn.1 := Or.inl (zq 1149 (by decide +kernel) rfl)
set_option maxRecDepth 20000 in
theorem l_Mo_191 : zML "HeadSplitsModel" 191 m_Mo_firstOf.1 := Or.inl (zq 1137 (by decide +kernel) rfl)
set_option maxRecDepth 20000 in
theorem l_Mo_195 : zML "HeadSplitsModel" 195 m_Mo_addBegins.1 := Or.inl (zq 1145 (by decide +kernel) rfl)
set_option maxRecDepth 20000 in
theorem l_Mo_198 : zML "HeadSplitsModel" 198 m_Mo_layRows.1 := Or.inl (zq 1160 (by decide +kernel) rfl)
set_option maxRecDepth 20000 in
theorem l_Mo_201 : zML "HeadSplitsModel" 201 m_Mo_letterAhead.1 := Or.inl (zq 1164 (by decide +kernel) rfl)
set_option maxRecDepth 20000 in
theorem l_Mo_204 : zML "HeadSplitsModel" 204 m_Mo_variableAhead.1 := Or.inl (zq 1168 (by decide +kernel) rfl)
set_option maxRecDepth 20000 in
theorem l_Mo_208 : zML "HeadSplitsModel" 208 m_Mo_isNothing.1 := Or.inl (zq 1172 (by decide +kernel) rfl)
set_option maxRecDepth 20000 in
theorem l_Mo_211 : zML "HeadSplitsModel" 211 m_Mo_lean.1 := Or.inl (zq 1113 (by decide +kernel) rfl)
set_option maxRecDepth 20000 in
theorem l_Mo_214 : zML "HeadSplitsModel" 214 m_Mo_isHopeless.1 := Or.inl (zq 1176 (by decide +kernel) rfl)
set_option maxRecDepth 20000 in
theorem l_Mo_218 : zML "HeadSplitsModel" 218 m_Mo_findMoves.1 := Or.inl (zq 1133 (by decide +kernel) rfl)
set_option maxRecDepth 20000 in
theorem l_Mo_222 : zML "HeadSplitsModel" 222 m_Mo_makeMove.1 := Or.inl (zq 1156 (by decide +kernel) rfl)
set_option maxRecDepth 20000 in
theorem l_Mo_225 : zML "HeadSplitsModel" 225 m_Mo_lookFor.1 := Or.inl (zq 1180 (by decide +kernel) rfl)
set_option maxRecDepth 20000 in
theorem l_Mo_228 : zML "HeadSplitsModel" 228 m_Mo_addNode.1 := Or.inl (zq 1121 (by decide +kernel) rfl)
set_option maxRecDepth 20000 in
theorem l_Mo_231 : zML "HeadSplitsModel" 231 m_Mo_isEnd.1 := Or.inl (zq 1125 (by decide +kernel) rfl)
set_option maxRecDepth 20000 in
theorem l_Mo_234 : zML "HeadSplitsModel" 234 m_Mo_goOn.1 := Or.inl (zq 1129 (by decide +kernel) rfl)
set_option maxRecDepth 20000 in
theorem l_Mo_239 : zML "HeadSplitsModel" 239 m_Mo_findNet.1 := Or.inl (zq 1109 (by decide +kernel) rfl)
set_option maxRecDepth 20000 in
theorem l_Mo_242 : zML "HeadSplitsModel" 242 m_Mo_firstEnd.1 := Or.inl (zq 1188 (by decide +kernel) rfl)
set_option maxRecDepth 20000 in
theorem l_Mo_245 : zML "HeadSplitsModel" 245 m_Mo_cuts.1 := Or.inl (zq 1192 (by decide +kernel) rfl)
set_option maxRecDepth 20000 in
theorem l_Mo_248 : zML "HeadSplitsModel" 248 m_Mo_mostOfOne.1 := Or.inl (zq 1196 (by decide +kernel) rfl)
set_option maxRecDepth 20000 in
theorem l_Mo_260 : zML "HeadSplitsModel" 260 m_Mo_isNode.1 := Or.inl (zq 1204 (by decide +kernel) rfl)
set_option maxRecDepth 20000 in
theorem l_Mo_263 : zML "HeadSplitsModel" 263 m_Mo_findLeading.1 := Or.inl (zq 1208 (by decide +kernel) rfl)
set_option maxRecDepth 20000 in
theorem l_Mo_270 : zML "HeadSplitsModel" 270 m_Mo_ahead.1 := Or.inl (zq 1236 (by decide +kernel) rfl)
set_option maxRecDepth 20000 in
theorem l_Mo_273 : zML "HeadSplitsModel" 273 m_Mo_undoMove.1 := Or.inl (zq 1232 (by decide +kernel) rfl)
set_option maxRecDepth 20000 in
theorem l_Mo_276 : zML "HeadSplitsModel" 276 m_Mo_isAnswered.1 := Or.inl (zq 1228 (by decide +kernel) rfl)
set_option maxRecDepth 20000 in
theorem l_Mo_279 : zML "HeadSplitsModel" 279 m_Mo_addWhole.1 := Or.inl (zq 1268 (by decide +kernel) rfl)
set_option maxRecDepth 20000 in
theorem l_Mo_282 : zML "HeadSplitsModel" 282 m_Mo_layWhole.1 := Or.inl (zq 1264 (by decide +kernel) rfl)
set_option maxRecDepth 20000 in
theorem l_Mo_285 : zML "HeadSplitsModel" 285 m_Mo_isNeeded.1 := Or.inl (zq 1256 (by decide +kernel) rfl)
set_option maxRecDepth 20000 in
theorem l_Mo_288 : zML "HeadSplitsModel" 288 m_Mo_isOne.1 := Or.inl (zq 1260 (by decide +kernel) rfl)
set_option maxRecDepth 20000 in
theorem l_Mo_291 : zML "HeadSplitsModel" 291 m_Mo_timesIn.1 := Or.inl (zq 1280 (by decide +kernel) rfl)
set_option maxRecDepth 20000 in
theorem l_Mo_294 : zML "HeadSplitsModel" 294 m_Mo_isLengths.1 := Or.inl (zq 1276 (by decide +kernel) rfl)
set_option maxRecDepth 20000 in
theorem l_Mo_297 : zML "HeadSplitsModel" 297 m_Mo_tryWord.1 := Or.inl (zq 1293 (by decide +kernel) rfl)
set_option maxRecDepth 20000 in
theorem l_Mo_302 : zML "HeadSplitsModel" 302 m_Mo_findShortest.1 := Or.inl (zq 1289 (by decide +kernel) rfl)
set_option maxRecDepth 20000 in
theorem l_Mo_311 : zML "HeadSplitsModel" 311 m_Mo_passRow.1 := Or.inl (zq 1305 (by decide +kernel) rfl)
set_option maxRecDepth 20000 in
theorem l_Mo_315 : zML "HeadSplitsModel" 315 m_Mo_passAll.1 := Or.inl (zq 1301 (by decide +kernel) rfl)
set_option maxRecDepth 20000 in
theorem o_1 : Cond.instanceMethod objectInit ∈ ztbl := zq 89 (by decide +kernel) rfl
set_option maxRecDepth 20000 in
theorem o_2 : Cond.code objectInit ⟨#[0xb1]⟩ 1 none ∈ ztbl := zq 90 (by decide +kernel) rfl
set_option maxRecDepth 20000 in
theorem n_H_9 : zNL "HeadSplits" 9 5 := ⟨zR_Row, zT_Row, 2, rfl, zq 91 (by decide +kernel) rfl, zq 92 (by decide +kernel) rfl, zq 69 (by decide +kernel) rfl⟩
set_option maxRecDepth 20000 in
theorem n_H_18 : zNL "HeadSplits" 18 1 := ⟨zR_Book, zT_Book, 6, rfl, zq 108 (by decide +kernel) rfl, zq 109 (by decide +kernel) rfl, zq 71 (by decide +kernel) rfl⟩
set_option maxRecDepth 20000 in
theorem n_H_31 : zNL "HeadSplits" 31 6 := ⟨zR_Shorts, zT_Shorts, 7, rfl, zq 179 (by decide +kernel) rfl, zq 180 (by decide +kernel) rfl, zq 74 (by decide +kernel) rfl⟩
set_option maxRecDepth 20000 in
theorem n_H_44 : zNL "HeadSplits" 44 3 := ⟨zR_Net, zT_Net, 13, rfl, zq 207 (by decide +kernel) rfl, zq 208 (by decide +kernel) rfl, zq 75 (by decide +kernel) rfl⟩
set_option maxRecDepth 20000 in
theorem n_H_53 : zNL "HeadSplits" 53 0 := ⟨zR_Answer, zT_Answer, 4, rfl, zq 262 (by decide +kernel) rfl, zq 263 (by decide +kernel) rfl, zq 76 (by decide +kernel) rfl⟩
set_option maxRecDepth 20000 in
theorem n_H_62 : zNL "HeadSplits" 62 8 := ⟨zR_Trial, zT_Trial, 5, rfl, zq 285 (by decide +kernel) rfl, zq 286 (by decide +kernel) rfl, zq 77 (by decide +kernel) rfl⟩
set_option maxRecDepth 20000 in
theorem n_H_69 : zNL "HeadSplits" 69 7 := ⟨zR_Tally, zT_Tally, 2, rfl, zq 308 (by decide +kernel) rfl, zq 309 (by decide +kernel) rfl, zq 78 (by decide +kernel) rfl⟩
set_option maxRecDepth 20000 in
theorem n_Answer_9 : zNL "HeadSplits$Answer" 9 9 := ⟨zR_Words, zT_Words, 3, rfl, zq 268 (by decide +kernel) rfl, zq 127 (by decide +kernel) rfl, zq 73 (by decide +kernel) rfl⟩
set_option maxRecDepth 20000 in
theorem n_Book_9 : zNL "HeadSplits$Book" 9 5 := ⟨zR_Row, zT_Row, 2, rfl, zq 114 (by decide +kernel) rfl, zq 92 (by decide +kernel) rfl, zq 69 (by decide +kernel) rfl⟩
set_option maxRecDepth 20000 in
theorem n_Book_23 : zNL "HeadSplits$Book" 23 2 := ⟨zR_Machine, zT_Machine, 1, rfl, zq 116 (by decide +kernel) rfl, zq 117 (by decide +kernel) rfl, zq 72 (by decide +kernel) rfl⟩
set_option maxRecDepth 20000 in
theorem n_Book_30 : zNL "HeadSplits$Book" 30 9 := ⟨zR_Words, zT_Words, 3, rfl, zq 126 (by decide +kernel) rfl, zq 127 (by decide +kernel) rfl, zq 73 (by decide +kernel) rfl⟩
set_option maxRecDepth 20000 in
theorem n_Net_9 : zNL "HeadSplits$Net" 9 4 := ⟨zR_Node, zT_Node, 11, rfl, zq 213 (by decide +kernel) rfl, zq 550 (by decide +kernel) rfl, zq 82 (by decide +kernel) rfl⟩
set_option maxRecDepth 20000 in
theorem nl_Net_9 : Cond.classLink "HeadSplits$Net" 9 "HeadSplits$Node" ∈ ztbl := zq 213 (by decide +kernel) rfl
set_option maxRecDepth 20000 in
theorem n_Net_21 : zNL "HeadSplits$Net" 21 5 := ⟨zR_Row, zT_Row, 2, rfl, zq 215 (by decide +kernel) rfl, zq 92 (by decide +kernel) rfl, zq 69 (by decide +kernel) rfl⟩
set_option maxRecDepth 20000 in
theorem n_Node_9 : zNL "HeadSplits$Node" 9 5 := ⟨zR_Row, zT_Row, 2, rfl, zq 555 (by decide +kernel) rfl, zq 92 (by decide +kernel) rfl, zq 69 (by decide +kernel) rfl⟩
set_option maxRecDepth 20000 in
theorem n_Words_9 : zNL "HeadSplits$Words" 9 5 := ⟨zR_Row, zT_Row, 2, rfl, zq 132 (by decide +kernel) rfl, zq 92 (by decide +kernel) rfl, zq 69 (by decide +kernel) rfl⟩
set_option maxRecDepth 20000 in
theorem n_Law_7 : zNL "HeadSplitsLaw" 7 10 := ⟨zR_H, zT_H, 14, rfl, zq 83 (by decide +kernel) rfl, zq 84 (by decide +kernel) rfl, zq 68 (by decide +kernel) rfl⟩
set_option maxRecDepth 20000 in
theorem n_Law_10 : zNL "HeadSplitsLaw" 10 11 := ⟨zR_Mo, zT_Mo, 43, rfl, zq 902 (by decide +kernel) rfl, zq 903 (by decide +kernel) rfl, zq 79 (by decide +kernel) rfl⟩
set_option maxRecDepth 20000 in
theorem k_Book_39 : Cond.constant "HeadSplits$Book" 39 (134217727) ∈ ztbl := zq 144 (by decide +kernel) rfl
set_option maxRecDepth 20000 in
theorem k_Net_204 : Cond.constant "HeadSplits$Net" 204 (-1640531535) ∈ ztbl := zq 621 (by decide +kernel) rfl
set_option maxRecDepth 20000 in
theorem k_Mo_107 : Cond.constantLong "HeadSplitsModel" 107 (2) ∈ ztbl := zq 1075 (by decide +kernel) rfl
set_option maxRecDepth 20000 in
theorem k_Mo_113 : Cond.constantLong "HeadSplitsModel" 113 (33) ∈ ztbl := zq 1043 (by decide +kernel) rfl
set_option maxRecDepth 20000 in
theorem k_Mo_115 : Cond.constantLong "HeadSplitsModel" 115 (126) ∈ ztbl := zq 1044 (by decide +kernel) rfl
set_option maxRecDepth 20000 in
theorem k_Mo_121 : Cond.constantLong "HeadSplitsModel" 121 (97) ∈ ztbl := zq 1059 (by decide +kernel) rfl
set_option maxRecDepth 20000 in
theorem k_Mo_123 : Cond.constantLong "HeadSplitsModel" 123 (98) ∈ ztbl := zq 1060 (by decide +kernel) rfl
set_option maxRecDepth 20000 in
theorem k_Mo_125 : Cond.constantLong "HeadSplitsModel" 125 (120) ∈ ztbl := zq 1061 (by decide +kernel) rfl
set_option maxRecDepth 20000 in
theorem k_Mo_127 : Cond.constantLong "HeadSplitsModel" 127 (122) ∈ ztbl := zq 1062 (by decide +kernel) rfl
set_option maxRecDepth 20000 in
theorem k_Mo_145 : Cond.constantLong "HeadSplitsModel" 145 (7) ∈ ztbl := zq 1080 (by decide +kernel) rfl
set_option maxRecDepth 20000 in
theorem k_Mo_237 : Cond.constantLong "HeadSplitsModel" 237 (5) ∈ ztbl := zq 1108 (by decide +kernel) rfl
set_option maxRecDepth 20000 in
theorem k_Mo_300 : Cond.constantLong "HeadSplitsModel" 300 (-1) ∈ ztbl := zq 1288 (by decide +kernel) rfl
set_option maxRecDepth 20000 in
theorem k_Mo_318 : Cond.constantLong "HeadSplitsModel" 318 (100) ∈ ztbl := zq 1317 (by decide +kernel) rfl
set_option maxRecDepth 20000 in
theorem k_Mo_320 : Cond.constantLong "HeadSplitsModel" 320 (399) ∈ ztbl := zq 1318 (by decide +kernel) rfl
set_option maxRecDepth 20000 in
theorem k_Mo_322 : Cond.constantLong "HeadSplitsModel" 322 (10) ∈ ztbl := zq 1319 (by decide +kernel) rfl
set_option maxRecDepth 20000 in
theorem k_Mo_324 : Cond.constantLong "HeadSplitsModel" 324 (15) ∈ ztbl := zq 1320 (by decide +kernel) rfl
set_option maxRecDepth 20000 in
theorem k_Mo_326 : Cond.constantLong "HeadSplitsModel" 326 (20) ∈ ztbl := zq 1321 (by decide +kernel) rfl
set_option maxRecDepth 20000 in
theorem k_Mo_328 : Cond.constantLong "HeadSplitsModel" 328 (28) ∈ ztbl := zq 1322 (by decide +kernel) rfl
set_option maxRecDepth 20000 in
theorem k_Mo_330 : Cond.constantLong "HeadSplitsModel" 330 (30) ∈ ztbl := zq 1323 (by decide +kernel) rfl
set_option maxRecDepth 20000 in
theorem k_Mo_332 : Cond.constantLong "HeadSplitsModel" 332 (32) ∈ ztbl := zq 1324 (by decide +kernel) rfl
set_option maxRecDepth 20000 in
theorem a_int : Cond.arrayClass .int ∈ ztbl := zq 107 (by decide +kernel) rfl
set_option maxRecDepth 20000 in
theorem a_bool : Cond.arrayClass .boolean ∈ ztbl := zq 1038 (by decide +kernel) rfl
set_option maxRecDepth 20000 in
theorem a_node : Cond.arrayOver (.object "HeadSplits$Node") ∈ ztbl := zq 214 (by decide +kernel) rfl
set_option maxRecDepth 20000 in
theorem mx_1 : Cond.static Lib.Math.max.name ∈ ztbl := zq 98 (by decide +kernel) rfl
set_option maxRecDepth 20000 in
theorem mx_2 : Cond.initialized "java/lang/Math" ∈ ztbl := zq 70 (by decide +kernel) rfl
set_option maxRecDepth 20000 in
theorem mx_3 : Cond.code Lib.Math.max.name Lib.Math.max.code 2 (some .int) ∈ ztbl := zq 99 (by decide +kernel) rfl
