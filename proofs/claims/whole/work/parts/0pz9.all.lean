/-! the pure part -/
theorem pure_all : PureAll := by
  have hc := cut_OK
  obtain ⟨Mr0, s1, s2⟩ := p_start
  refine ⟨Rel, M0C, Mr0, fun j hj => by rw [Nat.zero_add]; exact if_pos hj, M0C_ok, s1, s2, fun k Mc Mr h => h.scr keepC.rfl keepR.rfl (by omega), fun k Mc Mr hk h mc mr p0 p1 p2 h0 h1 h2 => ?_⟩
  exact ⟨p_appendText h p0, p_truncateText h p0, p_load hc h hk, p_errorCode h, p_errorPosition h, p_count h p0, p_shot h p0 p1, p_map h p0 p1, p_ban h p0 p1, p_word h p0 p1, p_piece h p0 p1, p_reel h p0, p_screen h p0, p_spoken h p0, p_account h p0, p_faults h p0, p_fault h p0 p1, p_fits h, p_share h p0, p_pace h, p_best h p0, p_bestWeek h, p_bestSpeed h, p_edit hc h hk, p_say hc h hk, p_assemble hc h hk, p_insert h hk p0 p1 p2, p_trim hc h hk p0 p1, p_remove h hk p0, p_move h hk p0 p1, p_setWeek hc h hk p0, p_setVoice hc h hk p0 p1, p_setSlack hc h hk p0, p_writeReel h, p_writeVoice h, p_output h p0, p_undo hc h, p_save h p0, p_restore hc h p0⟩
