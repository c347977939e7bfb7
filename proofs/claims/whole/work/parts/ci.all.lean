/-! ===== all calls, over what is kept ===== -/
abbrev IV (n : Nat) (h : ah_T) : Prop := Inv TXm (CCg KXc RXc WXc) (CMg shX) n h
theorem all_c (n : Nat) : lw_All (IV (n + 1)) (IV n) := by
  have T := TXmp
  have C : CCp (CCg KXc RXc WXc) := CCg_p XP_c hW_c
  have M : CMp (CMg shX) := CMg_p shX_p
  have Mw : CMw (CMg shX) := CMg_w
  have Cw : CCw (CCg KXc RXc WXc) := CCg_w
  exact ⟨fun a b => rel_way T C M a b, fun a b => rel_shutter T C M a b, fun a b => rel_of M a b, fun a b c => rel_far XP_c hW_c shX_p a b c, fun a b c => rel_lamp T C M a b c, fun a b c => rel_put T C M a b c, fun a b => rel_fact M a b, fun a b c => rel_turn T C M a b c, rel_undo T C M, fun a b c => rel_lantern T C M a b c, fun a b => rel_go T C M a b, rel_doused T C M, fun a b c => rel_errand T C M a b c, fun a b => rel_terms T C M a b, fun a b c d e => rel_feed T C M a b c d e, fun a => rel_end T C M a, rel_row T C M, rel_ash M, rel_law C M Mw, rel_rounds C M Mw Cw, rel_fault M, rel_stopped M, fun a => rel_force T C M a, fun a b c d => rel_asks XP_c hW_c shX_p a b c d, fun a b c => rel_burns XP_c hW_c shX_p a b c, fun a => rel_bright XP_c hW_c shX_p a, fun a b => rel_night XP_c hW_c shX_p a b, fun a => rel_judge XP_c hW_c shX_p a, fun a b => rel_round XP_c hW_c shX_p Wk_c a b, fun a b c d e => rel_walk XP_c hW_c shX_p KR_c Wk_c a b c d e, fun a b c d e => rel_worst XP_c hW_c shX_p KR_c Wo_c a b c d e, fun a b c d e => rel_hang XP_c hW_c shX_p KR_c Wh_c a b c d e, fun a => rel_shutters XP_c hW_c KR_c Wp_c a, fun a b => rel_would XP_c hW_c shX_p KR_c Wl_c a b, fun a b c => rel_soot T C M a b c, rel_sweep T C M, fun a => rel_stranger XP_c hW_c shX_p KR_c KT_c Ws_c a, fun a => rel_changed XP_c hW_c shX_p KR_c KT_c Wc_c a, fun a b c d => rel_drunk XP_c hW_c shX_p a b c d, fun a => rel_drawn M a, fun a => rel_image T C M a, fun a => rel_back T C M a, fun a => rel_count M a, rel_status M⟩
theorem IV_sh (n : Nat) (h : ah_T) (i : IV n h) : Sh h := i.1
theorem IV_mo (n : Nat) (h : ah_T) (i : IV (n + 1) h) : IV n h := by
  obtain ⟨hs, A, p⟩ := pre_of i
  exact inv_less hs p
