theorem dX11_status_0 : decode cX11_status 0 = .ok (.aload_n 0, 1) := by decide +kernel
theorem dX11_status_1 : decode cX11_status 1 = .ok (.getfield 9, 3) := by decide +kernel
theorem dX11_status_4 : decode cX11_status 4 = .ok (.ireturn, 1) := by decide +kernel
noncomputable def B_X11_status_0 : pb_C := (i_aload 0 (i_getI 0 0 i_iret))
noncomputable def T_X11_status : Nat → pb_C := pb_tt [(0, B_X11_status_0)]
noncomputable def M_X11_status : pb_F := pb_M T_X11_status 1
set_option maxRecDepth 100000 in
set_option maxHeartbeats 4000000 in
theorem S_X11_status (l : Launch) : pb_Sound l yX11_status cX11_status 1 (some .int) 1 M_X11_status := by
  refine pb_sound_of (by decide) m_3_46 ?_
  intro Γ hl0 hRm0 hm X E hr J
  have hnL : ∀ j, j < 1 → j < Γ.2.2.2.2.2.2.2.2.2.2.2.1 := fun j h => by rw [hm]; exact h
  have hR : ∀ (d' mL : Nat), d' + 1 ≤ 1 ∧ 8 + (mL + 11) + d' * 64 ≤ 1 * 64 → (pb_rm d').frames + 1 ≤ Γ.2.2.2.1.frames ∧ 8 + (mL + 11) + (pb_rm d').locals ≤ Γ.2.2.2.1.locals := by rw [hRm0]; exact fun _ _ h => h
  have hRm : 1 ≤ 1 ∧ 64 ≤ 1 * 64 → 1 ≤ Γ.2.2.2.1.frames ∧ 64 ≤ Γ.2.2.2.1.locals := by rw [hRm0]; exact fun h => h
  exact pb_tt_snd _ (List.forall_mem_cons.mpr ⟨(s_aload_n (pc := 0) X dX11_status_0 rfl (s_getI (pc := 1) X dX11_status_1 g_X11_9 (s_iret (pc := 4) X E hr dX11_status_4))), fun _ h => absurd h List.not_mem_nil⟩)
theorem dX11_top_0 : decode cX11_top 0 = .ok (.aload_n 0, 1) := by decide +kernel
theorem dX11_top_1 : decode cX11_top 1 = .ok (.getfield 13, 3) := by decide +kernel
theorem dX11_top_4 : decode cX11_top 4 = .ok (.lreturn, 1) := by decide +kernel
noncomputable def B_X11_top_0 : pb_C := (i_aload 0 (i_getL 0 1 i_lret))
noncomputable def T_X11_top : Nat → pb_C := pb_tt [(0, B_X11_top_0)]
noncomputable def M_X11_top : pb_F := pb_M T_X11_top 1
set_option maxRecDepth 100000 in
set_option maxHeartbeats 4000000 in
theorem S_X11_top (l : Launch) : pb_Sound l yX11_top cX11_top 1 (some .long) 1 M_X11_top := by
  refine pb_sound_of (by decide) m_3_50 ?_
  intro Γ hl0 hRm0 hm X E hr J
  have hnL : ∀ j, j < 1 → j < Γ.2.2.2.2.2.2.2.2.2.2.2.1 := fun j h => by rw [hm]; exact h
  have hR : ∀ (d' mL : Nat), d' + 1 ≤ 1 ∧ 8 + (mL + 11) + d' * 64 ≤ 1 * 64 → (pb_rm d').frames + 1 ≤ Γ.2.2.2.1.frames ∧ 8 + (mL + 11) + (pb_rm d').locals ≤ Γ.2.2.2.1.locals := by rw [hRm0]; exact fun _ _ h => h
  have hRm : 1 ≤ 1 ∧ 64 ≤ 1 * 64 → 1 ≤ Γ.2.2.2.1.frames ∧ 64 ≤ Γ.2.2.2.1.locals := by rw [hRm0]; exact fun h => h
  exact pb_tt_snd _ (List.forall_mem_cons.mpr ⟨(s_aload_n (pc := 0) X dX11_top_0 rfl (s_getL (pc := 1) X dX11_top_1 g_X11_13 (s_lret (pc := 4) X E hr dX11_top_4))), fun _ h => absurd h List.not_mem_nil⟩)
theorem dX11_bottom_0 : decode cX11_bottom 0 = .ok (.aload_n 0, 1) := by decide +kernel
theorem dX11_bottom_1 : decode cX11_bottom 1 = .ok (.getfield 17, 3) := by decide +kernel
theorem dX11_bottom_4 : decode cX11_bottom 4 = .ok (.lreturn, 1) := by decide +kernel
noncomputable def B_X11_bottom_0 : pb_C := (i_aload 0 (i_getL 0 2 i_lret))
noncomputable def T_X11_bottom : Nat → pb_C := pb_tt [(0, B_X11_bottom_0)]
noncomputable def M_X11_bottom : pb_F := pb_M T_X11_bottom 1
set_option maxRecDepth 100000 in
set_option maxHeartbeats 4000000 in
theorem S_X11_bottom (l : Launch) : pb_Sound l yX11_bottom cX11_bottom 1 (some .long) 1 M_X11_bottom := by
  refine pb_sound_of (by decide) m_3_54 ?_
  intro Γ hl0 hRm0 hm X E hr J
  have hnL : ∀ j, j < 1 → j < Γ.2.2.2.2.2.2.2.2.2.2.2.1 := fun j h => by rw [hm]; exact h
  have hR : ∀ (d' mL : Nat), d' + 1 ≤ 1 ∧ 8 + (mL + 11) + d' * 64 ≤ 1 * 64 → (pb_rm d').frames + 1 ≤ Γ.2.2.2.1.frames ∧ 8 + (mL + 11) + (pb_rm d').locals ≤ Γ.2.2.2.1.locals := by rw [hRm0]; exact fun _ _ h => h
  have hRm : 1 ≤ 1 ∧ 64 ≤ 1 * 64 → 1 ≤ Γ.2.2.2.1.frames ∧ 64 ≤ Γ.2.2.2.1.locals := by rw [hRm0]; exact fun h => h
  exact pb_tt_snd _ (List.forall_mem_cons.mpr ⟨(s_aload_n (pc := 0) X dX11_bottom_0 rfl (s_getL (pc := 1) X dX11_bottom_1 g_X11_17 (s_lret (pc := 4) X E hr dX11_bottom_4))), fun _ h => absurd h List.not_mem_nil⟩)
theorem dX11_outside_0 : decode cX11_outside 0 = .ok (.iload_n 0, 1) := by decide +kernel
theorem dX11_outside_1 : decode cX11_outside 1 = .ok (.iload_n 1, 1) := by decide +kernel
theorem dX11_outside_2 : decode cX11_outside 2 = .ok (.if_icmp .lt 8, 3) := by decide +kernel
theorem dX11_outside_5 : decode cX11_outside 5 = .ok (.iload_n 0, 1) := by decide +kernel
theorem dX11_outside_6 : decode cX11_outside 6 = .ok (.iload_n 2, 1) := by decide +kernel
theorem dX11_outside_7 : decode cX11_outside 7 = .ok (.if_icmp .le 7, 3) := by decide +kernel
theorem dX11_outside_10 : decode cX11_outside 10 = .ok (.iconst 1, 1) := by decide +kernel
theorem dX11_outside_11 : decode cX11_outside 11 = .ok (.goto 4, 3) := by decide +kernel
theorem dX11_outside_14 : decode cX11_outside 14 = .ok (.iconst 0, 1) := by decide +kernel
theorem dX11_outside_15 : decode cX11_outside 15 = .ok (.ireturn, 1) := by decide +kernel
noncomputable def B_X11_outside_0 : pb_C := (i_iload 0 (i_iload 1 (i_ic_lt (i_const (.int 1) i_zret) (i_iload 0 (i_iload 2 (i_ic_le (i_const (.int 0) i_zret) (i_const (.int 1) i_zret)))))))
noncomputable def T_X11_outside : Nat → pb_C := pb_tt [(0, B_X11_outside_0)]
noncomputable def M_X11_outside : pb_F := pb_M T_X11_outside 3
set_option maxRecDepth 100000 in
set_option maxHeartbeats 4000000 in
theorem S_X11_outside (l : Launch) : pb_Sound l yX11_outside cX11_outside 3 (some .boolean) 1 M_X11_outside := by
  refine pb_sound_of (by decide) m_3_61 ?_
  intro Γ hl0 hRm0 hm X E hr J
  have hnL : ∀ j, j < 3 → j < Γ.2.2.2.2.2.2.2.2.2.2.2.1 := fun j h => by rw [hm]; exact h
  have hR : ∀ (d' mL : Nat), d' + 1 ≤ 1 ∧ 8 + (mL + 11) + d' * 64 ≤ 1 * 64 → (pb_rm d').frames + 1 ≤ Γ.2.2.2.1.frames ∧ 8 + (mL + 11) + (pb_rm d').locals ≤ Γ.2.2.2.1.locals := by rw [hRm0]; exact fun _ _ h => h
  have hRm : 1 ≤ 1 ∧ 64 ≤ 1 * 64 → 1 ≤ Γ.2.2.2.1.frames ∧ 64 ≤ Γ.2.2.2.1.locals := by rw [hRm0]; exact fun h => h
  exact pb_tt_snd _ (List.forall_mem_cons.mpr ⟨(s_iload_n (pc := 0) X dX11_outside_0 rfl (s_iload_n (pc := 1) X dX11_outside_1 rfl (s_ic_lt (pc := 2) X dX11_outside_2 (by decide) (s_iconst (pc := 10) X dX11_outside_10 rfl (s_goto (pc := 11) X dX11_outside_11 (by decide) (s_zret (pc := 15) X E hr dX11_outside_15))) (s_iload_n (pc := 5) X dX11_outside_5 rfl (s_iload_n (pc := 6) X dX11_outside_6 rfl (s_ic_le (pc := 7) X dX11_outside_7 (by decide) (s_iconst (pc := 14) X dX11_outside_14 rfl (s_zret (pc := 15) X E hr dX11_outside_15)) (s_iconst (pc := 10) X dX11_outside_10 rfl (s_goto (pc := 11) X dX11_outside_11 (by decide) (s_zret (pc := 15) X E hr dX11_outside_15))))))))), fun _ h => absurd h List.not_mem_nil⟩)
theorem dJ7_rangeCheck_23922_0 : decode cJ7_rangeCheck_23922 0 = .ok (.iload_n 1, 1) := by decide +kernel
theorem dJ7_rangeCheck_23922_1 : decode cJ7_rangeCheck_23922 1 = .ok (.iload_n 2, 1) := by decide +kernel
theorem dJ7_rangeCheck_23922_2 : decode cJ7_rangeCheck_23922 2 = .ok (.if_icmp .le 44, 3) := by decide +kernel
theorem dJ7_rangeCheck_23922_5 : decode cJ7_rangeCheck_23922 5 = .ok (.new 43, 3) := by decide +kernel
theorem dJ7_rangeCheck_23922_8 : decode cJ7_rangeCheck_23922 8 = .ok (.dup, 1) := by decide +kernel
theorem dJ7_rangeCheck_23922_9 : decode cJ7_rangeCheck_23922 9 = .ok (.new 45, 3) := by decide +kernel
theorem dJ7_rangeCheck_23922_12 : decode cJ7_rangeCheck_23922 12 = .ok (.dup, 1) := by decide +kernel
theorem dJ7_rangeCheck_23922_13 : decode cJ7_rangeCheck_23922 13 = .ok (.invokespecial 47, 3) := by decide +kernel
theorem dJ7_rangeCheck_23922_16 : decode cJ7_rangeCheck_23922 16 = .ok (.ldc 48, 2) := by decide +kernel
theorem dJ7_rangeCheck_23922_18 : decode cJ7_rangeCheck_23922 18 = .ok (.invokevirtual 50, 3) := by decide +kernel
theorem dJ7_rangeCheck_23922_21 : decode cJ7_rangeCheck_23922 21 = .ok (.iload_n 1, 1) := by decide +kernel
theorem dJ7_rangeCheck_23922_22 : decode cJ7_rangeCheck_23922 22 = .ok (.invokevirtual 54, 3) := by decide +kernel
theorem dJ7_rangeCheck_23922_25 : decode cJ7_rangeCheck_23922 25 = .ok (.ldc 57, 2) := by decide +kernel
theorem dJ7_rangeCheck_23922_27 : decode cJ7_rangeCheck_23922 27 = .ok (.invokevirtual 50, 3) := by decide +kernel
theorem dJ7_rangeCheck_23922_30 : decode cJ7_rangeCheck_23922 30 = .ok (.iload_n 2, 1) := by decide +kernel
theorem dJ7_rangeCheck_23922_31 : decode cJ7_rangeCheck_23922 31 = .ok (.invokevirtual 54, 3) := by decide +kernel
theorem dJ7_rangeCheck_23922_34 : decode cJ7_rangeCheck_23922 34 = .ok (.ldc 59, 2) := by decide +kernel
theorem dJ7_rangeCheck_23922_36 : decode cJ7_rangeCheck_23922 36 = .ok (.invokevirtual 50, 3) := by decide +kernel
theorem dJ7_rangeCheck_23922_39 : decode cJ7_rangeCheck_23922 39 = .ok (.invokevirtual 61, 3) := by decide +kernel
theorem dJ7_rangeCheck_23922_42 : decode cJ7_rangeCheck_23922 42 = .ok (.invokespecial 65, 3) := by decide +kernel
theorem dJ7_rangeCheck_23922_45 : decode cJ7_rangeCheck_23922 45 = .ok (.athrow, 1) := by decide +kernel
theorem dJ7_rangeCheck_23922_46 : decode cJ7_rangeCheck_23922 46 = .ok (.iload_n 1, 1) := by decide +kernel
theorem dJ7_rangeCheck_23922_47 : decode cJ7_rangeCheck_23922 47 = .ok (.ifCond .ge 12, 3) := by decide +kernel
theorem dJ7_rangeCheck_23922_50 : decode cJ7_rangeCheck_23922 50 = .ok (.new 68, 3) := by decide +kernel
theorem dJ7_rangeCheck_23922_53 : decode cJ7_rangeCheck_23922 53 = .ok (.dup, 1) := by decide +kernel
theorem dJ7_rangeCheck_23922_54 : decode cJ7_rangeCheck_23922 54 = .ok (.iload_n 1, 1) := by decide +kernel
theorem dJ7_rangeCheck_23922_55 : decode cJ7_rangeCheck_23922 55 = .ok (.invokespecial 70, 3) := by decide +kernel
theorem dJ7_rangeCheck_23922_58 : decode cJ7_rangeCheck_23922 58 = .ok (.athrow, 1) := by decide +kernel
theorem dJ7_rangeCheck_23922_59 : decode cJ7_rangeCheck_23922 59 = .ok (.iload_n 2, 1) := by decide +kernel
theorem dJ7_rangeCheck_23922_60 : decode cJ7_rangeCheck_23922 60 = .ok (.iload_n 0, 1) := by decide +kernel
theorem dJ7_rangeCheck_23922_61 : decode cJ7_rangeCheck_23922 61 = .ok (.if_icmp .le 12, 3) := by decide +kernel
theorem dJ7_rangeCheck_23922_64 : decode cJ7_rangeCheck_23922 64 = .ok (.new 68, 3) := by decide +kernel
theorem dJ7_rangeCheck_23922_67 : decode cJ7_rangeCheck_23922 67 = .ok (.dup, 1) := by decide +kernel
theorem dJ7_rangeCheck_23922_68 : decode cJ7_rangeCheck_23922 68 = .ok (.iload_n 2, 1) := by decide +kernel
theorem dJ7_rangeCheck_23922_69 : decode cJ7_rangeCheck_23922 69 = .ok (.invokespecial 70, 3) := by decide +kernel
theorem dJ7_rangeCheck_23922_72 : decode cJ7_rangeCheck_23922 72 = .ok (.athrow, 1) := by decide +kernel
theorem dJ7_rangeCheck_23922_73 : decode cJ7_rangeCheck_23922 73 = .ok (.return_, 1) := by decide +kernel
noncomputable def B_J7_rangeCheck_23922_0 : pb_C := (i_iload 1 (i_iload 2 (i_ic_le (i_iload 1 (i_if_ge (i_iload 2 (i_iload 0 (i_ic_le i_vret i_fail))) i_fail)) i_fail)))
noncomputable def T_J7_rangeCheck_23922 : Nat → pb_C := pb_tt [(0, B_J7_rangeCheck_23922_0)]
noncomputable def M_J7_rangeCheck_23922 : pb_F := pb_M T_J7_rangeCheck_23922 3
set_option maxRecDepth 100000 in
set_option maxHeartbeats 4000000 in
theorem S_J7_rangeCheck_23922 (l : Launch) : pb_Sound l yJ7_rangeCheck_23922 cJ7_rangeCheck_23922 3 none 1 M_J7_rangeCheck_23922 := by
  refine pb_sound_of (by decide) m_3_71 ?_
  intro Γ hl0 hRm0 hm X E hr J
  have hnL : ∀ j, j < 3 → j < Γ.2.2.2.2.2.2.2.2.2.2.2.1 := fun j h => by rw [hm]; exact h
  have hR : ∀ (d' mL : Nat), d' + 1 ≤ 1 ∧ 8 + (mL + 11) + d' * 64 ≤ 1 * 64 → (pb_rm d').frames + 1 ≤ Γ.2.2.2.1.frames ∧ 8 + (mL + 11) + (pb_rm d').locals ≤ Γ.2.2.2.1.locals := by rw [hRm0]; exact fun _ _ h => h
  have hRm : 1 ≤ 1 ∧ 64 ≤ 1 * 64 → 1 ≤ Γ.2.2.2.1.frames ∧ 64 ≤ Γ.2.2.2.1.locals := by rw [hRm0]; exact fun h => h
  exact pb_tt_snd _ (List.forall_mem_cons.mpr ⟨(s_iload_n (pc := 0) X dJ7_rangeCheck_23922_0 rfl (s_iload_n (pc := 1) X dJ7_rangeCheck_23922_1 rfl (s_ic_le (pc := 2) X dJ7_rangeCheck_23922_2 (by decide) (s_iload_n (pc := 46) X dJ7_rangeCheck_23922_46 rfl (s_if_ge (pc := 47) X dJ7_rangeCheck_23922_47 (by decide) (s_iload_n (pc := 59) X dJ7_rangeCheck_23922_59 rfl (s_iload_n (pc := 60) X dJ7_rangeCheck_23922_60 rfl (s_ic_le (pc := 61) X dJ7_rangeCheck_23922_61 (by decide) (s_vret (pc := 73) X E hr dJ7_rangeCheck_23922_73) s_fail))) s_fail)) s_fail))), fun _ h => absurd h List.not_mem_nil⟩)
theorem dJ7_fill_bad5a_0 : decode cJ7_fill_bad5a 0 = .ok (.aload_n 0, 1) := by decide +kernel
theorem dJ7_fill_bad5a_1 : decode cJ7_fill_bad5a 1 = .ok (.arraylength, 1) := by decide +kernel
theorem dJ7_fill_bad5a_2 : decode cJ7_fill_bad5a 2 = .ok (.iload_n 1, 1) := by decide +kernel
theorem dJ7_fill_bad5a_3 : decode cJ7_fill_bad5a 3 = .ok (.iload_n 2, 1) := by decide +kernel
theorem dJ7_fill_bad5a_4 : decode cJ7_fill_bad5a 4 = .ok (.invokestatic 13, 3) := by decide +kernel
theorem dJ7_fill_bad5a_7 : decode cJ7_fill_bad5a 7 = .ok (.iload_n 1, 1) := by decide +kernel
theorem dJ7_fill_bad5a_8 : decode cJ7_fill_bad5a 8 = .ok (.istore 5, 2) := by decide +kernel
theorem dJ7_fill_bad5a_10 : decode cJ7_fill_bad5a 10 = .ok (.iload 5, 2) := by decide +kernel
theorem dJ7_fill_bad5a_12 : decode cJ7_fill_bad5a 12 = .ok (.iload_n 2, 1) := by decide +kernel
theorem dJ7_fill_bad5a_13 : decode cJ7_fill_bad5a 13 = .ok (.if_icmp .ge 14, 3) := by decide +kernel
theorem dJ7_fill_bad5a_16 : decode cJ7_fill_bad5a 16 = .ok (.aload_n 0, 1) := by decide +kernel
theorem dJ7_fill_bad5a_17 : decode cJ7_fill_bad5a 17 = .ok (.iload 5, 2) := by decide +kernel
theorem dJ7_fill_bad5a_19 : decode cJ7_fill_bad5a 19 = .ok (.lload_n 3, 1) := by decide +kernel
theorem dJ7_fill_bad5a_20 : decode cJ7_fill_bad5a 20 = .ok (.lastore, 1) := by decide +kernel
theorem dJ7_fill_bad5a_21 : decode cJ7_fill_bad5a 21 = .ok (.iinc 5 1, 3) := by decide +kernel
theorem dJ7_fill_bad5a_24 : decode cJ7_fill_bad5a 24 = .ok (.goto (-14), 3) := by decide +kernel
theorem dJ7_fill_bad5a_27 : decode cJ7_fill_bad5a 27 = .ok (.return_, 1) := by decide +kernel
noncomputable def B_J7_fill_bad5a_2_0 : pb_C := (i_aload 0 (i_alen 2 240 (i_iload 1 (i_iload 2 (i_callS 3 0 M_J7_rangeCheck_23922 (i_iload 1 (i_istore 5 (i_jmp 10 [true, false, true, true, false, true]))))))))
noncomputable def B_J7_fill_bad5a_2_10 : pb_C := (i_iload 5 (i_iload 2 (i_ic_ge i_vret (i_aload 0 (i_iload 5 (i_lload 3 (i_last 2 240 (i_iinc 5 1 (i_jmp 10 [true, false, true, true, false, true])))))))))
noncomputable def T_J7_fill_bad5a_2 : Nat → pb_C := pb_tt [(0, B_J7_fill_bad5a_2_0), (10, B_J7_fill_bad5a_2_10)]
noncomputable def M_J7_fill_bad5a_2 : pb_F := pb_M T_J7_fill_bad5a_2 6
set_option maxRecDepth 100000 in
set_option maxHeartbeats 4000000 in
theorem S_J7_fill_bad5a_2 (l : Launch) : pb_Sound l yJ7_fill_bad5a cJ7_fill_bad5a 6 none 2 M_J7_fill_bad5a_2 := by
  refine pb_sound_of (by decide) m_3_68 ?_
  intro Γ hl0 hRm0 hm X E hr J
  have hnL : ∀ j, j < 6 → j < Γ.2.2.2.2.2.2.2.2.2.2.2.1 := fun j h => by rw [hm]; exact h
  have hR : ∀ (d' mL : Nat), d' + 1 ≤ 2 ∧ 8 + (mL + 11) + d' * 64 ≤ 2 * 64 → (pb_rm d').frames + 1 ≤ Γ.2.2.2.1.frames ∧ 8 + (mL + 11) + (pb_rm d').locals ≤ Γ.2.2.2.1.locals := by rw [hRm0]; exact fun _ _ h => h
  have hRm : 1 ≤ 2 ∧ 64 ≤ 2 * 64 → 1 ≤ Γ.2.2.2.1.frames ∧ 64 ≤ Γ.2.2.2.1.locals := by rw [hRm0]; exact fun h => h
  exact pb_tt_snd _ (List.forall_mem_cons.mpr ⟨(s_aload_n (pc := 0) X dJ7_fill_bad5a_0 rfl (s_alen (pc := 1) X dJ7_fill_bad5a_1 h_2 (fun cs => rfl) (s_iload_n (pc := 2) X dJ7_fill_bad5a_2 rfl (s_iload_n (pc := 3) X dJ7_fill_bad5a_3 rfl (s_callS (pc := 4) X dJ7_fill_bad5a_4 (S_J7_rangeCheck_23922 _) q_J7_13 (hR _ _ (by decide)) (s_iload_n (pc := 7) X dJ7_fill_bad5a_7 rfl (s_istore (pc := 8) X dJ7_fill_bad5a_8 (hnL _ (by decide)) (s_jmp (pc := 10) J [true, false, true, true, false, true])))))))), List.forall_mem_cons.mpr ⟨(s_iload (pc := 10) X dJ7_fill_bad5a_10 (s_iload_n (pc := 12) X dJ7_fill_bad5a_12 rfl (s_ic_ge (pc := 13) X dJ7_fill_bad5a_13 (by decide) (s_vret (pc := 27) X E hr dJ7_fill_bad5a_27) (s_aload_n (pc := 16) X dJ7_fill_bad5a_16 rfl (s_iload (pc := 17) X dJ7_fill_bad5a_17 (s_lload_n (pc := 19) X dJ7_fill_bad5a_19 rfl (s_last (pc := 20) X dJ7_fill_bad5a_20 h_2 (s_iinc (pc := 21) X dJ7_fill_bad5a_21 rfl (s_goto (pc := 24) X dJ7_fill_bad5a_24 (by decide) (s_jmp (pc := 10) J [true, false, true, true, false, true])))))))))), fun _ h => absurd h List.not_mem_nil⟩⟩)
theorem dX8_lay_0 : decode cX8_lay 0 = .ok (.aload_n 0, 1) := by decide +kernel
theorem dX8_lay_1 : decode cX8_lay 1 = .ok (.getfield 15, 3) := by decide +kernel
theorem dX8_lay_4 : decode cX8_lay 4 = .ok (.iload_n 1, 1) := by decide +kernel
theorem dX8_lay_5 : decode cX8_lay 5 = .ok (.iload_n 2, 1) := by decide +kernel
theorem dX8_lay_6 : decode cX8_lay 6 = .ok (.iastore, 1) := by decide +kernel
theorem dX8_lay_7 : decode cX8_lay 7 = .ok (.aload_n 0, 1) := by decide +kernel
theorem dX8_lay_8 : decode cX8_lay 8 = .ok (.getfield 19, 3) := by decide +kernel
theorem dX8_lay_11 : decode cX8_lay 11 = .ok (.iload_n 1, 1) := by decide +kernel
theorem dX8_lay_12 : decode cX8_lay 12 = .ok (.iload_n 3, 1) := by decide +kernel
theorem dX8_lay_13 : decode cX8_lay 13 = .ok (.iastore, 1) := by decide +kernel
theorem dX8_lay_14 : decode cX8_lay 14 = .ok (.aload_n 0, 1) := by decide +kernel
theorem dX8_lay_15 : decode cX8_lay 15 = .ok (.getfield 11, 3) := by decide +kernel
theorem dX8_lay_18 : decode cX8_lay 18 = .ok (.iload_n 1, 1) := by decide +kernel
theorem dX8_lay_19 : decode cX8_lay 19 = .ok (.bipush 60, 2) := by decide +kernel
theorem dX8_lay_21 : decode cX8_lay 21 = .ok (.imul, 1) := by decide +kernel
theorem dX8_lay_22 : decode cX8_lay 22 = .ok (.iload_n 1, 1) := by decide +kernel
theorem dX8_lay_23 : decode cX8_lay 23 = .ok (.bipush 60, 2) := by decide +kernel
theorem dX8_lay_25 : decode cX8_lay 25 = .ok (.imul, 1) := by decide +kernel
theorem dX8_lay_26 : decode cX8_lay 26 = .ok (.iload_n 3, 1) := by decide +kernel
theorem dX8_lay_27 : decode cX8_lay 27 = .ok (.iadd, 1) := by decide +kernel
theorem dX8_lay_28 : decode cX8_lay 28 = .ok (.lconst 0, 1) := by decide +kernel
theorem dX8_lay_29 : decode cX8_lay 29 = .ok (.invokestatic 22, 3) := by decide +kernel
theorem dX8_lay_32 : decode cX8_lay 32 = .ok (.return_, 1) := by decide +kernel
noncomputable def B_X8_lay_0 : pb_C := (i_aload 0 (i_getR 1 3 (i_iload 1 (i_iload 2 (i_ast 3 4 (fun x => x) (i_aload 0 (i_getR 1 4 (i_iload 1 (i_iload 3 (i_ast 4 4 (fun x => x) (i_aload 0 (i_getR 1 2 (i_iload 1 (i_const (.int 60) (i_ibin (· * ·) (i_iload 1 (i_const (.int 60) (i_ibin (· * ·) (i_iload 3 (i_ibin (· + ·) (i_const (.long 0) (i_callS 4 0 M_J7_fill_bad5a_2 i_vret))))))))))))))))))))))
noncomputable def T_X8_lay : Nat → pb_C := pb_tt [(0, B_X8_lay_0)]
noncomputable def M_X8_lay : pb_F := pb_M T_X8_lay 4
set_option maxRecDepth 100000 in
set_option maxHeartbeats 4000000 in
theorem S_X8_lay (l : Launch) : pb_Sound l yX8_lay cX8_lay 4 none 3 M_X8_lay := by
  refine pb_sound_of (by decide) m_3_65 ?_
  intro Γ hl0 hRm0 hm X E hr J
  have hnL : ∀ j, j < 4 → j < Γ.2.2.2.2.2.2.2.2.2.2.2.1 := fun j h => by rw [hm]; exact h
  have hR : ∀ (d' mL : Nat), d' + 1 ≤ 3 ∧ 8 + (mL + 11) + d' * 64 ≤ 3 * 64 → (pb_rm d').frames + 1 ≤ Γ.2.2.2.1.frames ∧ 8 + (mL + 11) + (pb_rm d').locals ≤ Γ.2.2.2.1.locals := by rw [hRm0]; exact fun _ _ h => h
  have hRm : 1 ≤ 3 ∧ 64 ≤ 3 * 64 → 1 ≤ Γ.2.2.2.1.frames ∧ 64 ≤ Γ.2.2.2.1.locals := by rw [hRm0]; exact fun h => h
  exact pb_tt_snd _ (List.forall_mem_cons.mpr ⟨(s_aload_n (pc := 0) X dX8_lay_0 rfl (s_getR (pc := 1) X dX8_lay_1 g_X8_15 (s_iload_n (pc := 4) X dX8_lay_4 rfl (s_iload_n (pc := 5) X dX8_lay_5 rfl (s_iast (pc := 6) X dX8_lay_6 h_3 (s_aload_n (pc := 7) X dX8_lay_7 rfl (s_getR (pc := 8) X dX8_lay_8 g_X8_19 (s_iload_n (pc := 11) X dX8_lay_11 rfl (s_iload_n (pc := 12) X dX8_lay_12 rfl (s_iast (pc := 13) X dX8_lay_13 h_4 (s_aload_n (pc := 14) X dX8_lay_14 rfl (s_getR (pc := 15) X dX8_lay_15 g_X8_11 (s_iload_n (pc := 18) X dX8_lay_18 rfl (s_bipush (pc := 19) X dX8_lay_19 rfl (s_imul (pc := 21) X dX8_lay_21 (s_iload_n (pc := 22) X dX8_lay_22 rfl (s_bipush (pc := 23) X dX8_lay_23 rfl (s_imul (pc := 25) X dX8_lay_25 (s_iload_n (pc := 26) X dX8_lay_26 rfl (s_iadd (pc := 27) X dX8_lay_27 (s_lconst (pc := 28) X dX8_lay_28 rfl (s_callS (pc := 29) X dX8_lay_29 (S_J7_fill_bad5a_2 _) q_X8_22 (hR _ _ (by decide)) (s_vret (pc := 32) X E hr dX8_lay_32))))))))))))))))))))))), fun _ h => absurd h List.not_mem_nil⟩)
theorem dX11_tray_0 : decode cX11_tray 0 = .ok (.iload_n 1, 1) := by decide +kernel
theorem dX11_tray_1 : decode cX11_tray 1 = .ok (.iconst 0, 1) := by decide +kernel
theorem dX11_tray_2 : decode cX11_tray 2 = .ok (.iconst 3, 1) := by decide +kernel
theorem dX11_tray_3 : decode cX11_tray 3 = .ok (.invokestatic 101, 3) := by decide +kernel
theorem dX11_tray_6 : decode cX11_tray 6 = .ok (.ifCond .ne 22, 3) := by decide +kernel
theorem dX11_tray_9 : decode cX11_tray 9 = .ok (.iload_n 2, 1) := by decide +kernel
theorem dX11_tray_10 : decode cX11_tray 10 = .ok (.iconst 0, 1) := by decide +kernel
theorem dX11_tray_11 : decode cX11_tray 11 = .ok (.iconst 3, 1) := by decide +kernel
theorem dX11_tray_12 : decode cX11_tray 12 = .ok (.invokestatic 101, 3) := by decide +kernel
theorem dX11_tray_15 : decode cX11_tray 15 = .ok (.ifCond .ne 13, 3) := by decide +kernel
theorem dX11_tray_18 : decode cX11_tray 18 = .ok (.iload_n 3, 1) := by decide +kernel
theorem dX11_tray_19 : decode cX11_tray 19 = .ok (.iconst 0, 1) := by decide +kernel
theorem dX11_tray_20 : decode cX11_tray 20 = .ok (.bipush 60, 2) := by decide +kernel
theorem dX11_tray_22 : decode cX11_tray 22 = .ok (.invokestatic 101, 3) := by decide +kernel
theorem dX11_tray_25 : decode cX11_tray 25 = .ok (.ifCond .eq 7, 3) := by decide +kernel
theorem dX11_tray_28 : decode cX11_tray 28 = .ok (.iconst 1, 1) := by decide +kernel
theorem dX11_tray_29 : decode cX11_tray 29 = .ok (.goto 4, 3) := by decide +kernel
theorem dX11_tray_32 : decode cX11_tray 32 = .ok (.iconst 0, 1) := by decide +kernel
theorem dX11_tray_33 : decode cX11_tray 33 = .ok (.istore 4, 2) := by decide +kernel
theorem dX11_tray_35 : decode cX11_tray 35 = .ok (.aload_n 0, 1) := by decide +kernel
theorem dX11_tray_36 : decode cX11_tray 36 = .ok (.iload 4, 2) := by decide +kernel
theorem dX11_tray_38 : decode cX11_tray 38 = .ok (.ifCond .eq 7, 3) := by decide +kernel
theorem dX11_tray_41 : decode cX11_tray 41 = .ok (.iconst 1, 1) := by decide +kernel
theorem dX11_tray_42 : decode cX11_tray 42 = .ok (.goto 4, 3) := by decide +kernel
theorem dX11_tray_45 : decode cX11_tray 45 = .ok (.iconst 0, 1) := by decide +kernel
theorem dX11_tray_46 : decode cX11_tray 46 = .ok (.putfield 9, 3) := by decide +kernel
theorem dX11_tray_49 : decode cX11_tray 49 = .ok (.aload_n 0, 1) := by decide +kernel
theorem dX11_tray_50 : decode cX11_tray 50 = .ok (.getfield 9, 3) := by decide +kernel
theorem dX11_tray_53 : decode cX11_tray 53 = .ok (.ifCond .ne 13, 3) := by decide +kernel
theorem dX11_tray_56 : decode cX11_tray 56 = .ok (.aload_n 0, 1) := by decide +kernel
theorem dX11_tray_57 : decode cX11_tray 57 = .ok (.getfield 23, 3) := by decide +kernel
theorem dX11_tray_60 : decode cX11_tray 60 = .ok (.iload_n 1, 1) := by decide +kernel
theorem dX11_tray_61 : decode cX11_tray 61 = .ok (.iload_n 2, 1) := by decide +kernel
theorem dX11_tray_62 : decode cX11_tray 62 = .ok (.iload_n 3, 1) := by decide +kernel
theorem dX11_tray_63 : decode cX11_tray 63 = .ok (.invokevirtual 105, 3) := by decide +kernel
theorem dX11_tray_66 : decode cX11_tray 66 = .ok (.aload_n 0, 1) := by decide +kernel
theorem dX11_tray_67 : decode cX11_tray 67 = .ok (.getfield 9, 3) := by decide +kernel
theorem dX11_tray_70 : decode cX11_tray 70 = .ok (.ifCond .ne 7, 3) := by decide +kernel
theorem dX11_tray_73 : decode cX11_tray 73 = .ok (.iconst 1, 1) := by decide +kernel
theorem dX11_tray_74 : decode cX11_tray 74 = .ok (.goto 4, 3) := by decide +kernel
theorem dX11_tray_77 : decode cX11_tray 77 = .ok (.iconst 0, 1) := by decide +kernel
theorem dX11_tray_78 : decode cX11_tray 78 = .ok (.ireturn, 1) := by decide +kernel
noncomputable def B_X11_tray_0 : pb_C := (i_iload 1 (i_const (.int 0) (i_const (.int 3) (i_callS 3 1 M_X11_outside (i_if_ne (i_const (.int 1) (i_istore 4 (i_aload 0 (i_iload 4 (i_if_eq (i_const (.int 0) (i_jmp 46 [true, true, true, true, false])) (i_const (.int 1) (i_jmp 46 [true, true, true, true, false]))))))) (i_iload 2 (i_const (.int 0) (i_const (.int 3) (i_callS 3 1 M_X11_outside (i_if_ne (i_const (.int 1) (i_istore 4 (i_aload 0 (i_iload 4 (i_if_eq (i_const (.int 0) (i_jmp 46 [true, true, true, true, false])) (i_const (.int 1) (i_jmp 46 [true, true, true, true, false]))))))) (i_iload 3 (i_const (.int 0) (i_const (.int 60) (i_callS 3 1 M_X11_outside (i_if_eq (i_const (.int 0) (i_istore 4 (i_aload 0 (i_iload 4 (i_if_eq (i_const (.int 0) (i_jmp 46 [true, true, true, true, false])) (i_const (.int 1) (i_jmp 46 [true, true, true, true, false]))))))) (i_const (.int 1) (i_istore 4 (i_aload 0 (i_iload 4 (i_if_eq (i_const (.int 0) (i_jmp 46 [true, true, true, true, false])) (i_const (.int 1) (i_jmp 46 [true, true, true, true, false]))))))))))))))))))))))
noncomputable def B_X11_tray_46 : pb_C := (i_putI 0 0 (i_aload 0 (i_getI 0 0 (i_if_ne (i_aload 0 (i_getI 0 0 (i_if_ne (i_const (.int 0) i_zret) (i_const (.int 1) i_zret)))) (i_aload 0 (i_getR 0 1 (i_iload 1 (i_iload 2 (i_iload 3 (i_callV 1 3 0 M_X8_lay (i_aload 0 (i_getI 0 0 (i_if_ne (i_const (.int 0) i_zret) (i_const (.int 1) i_zret))))))))))))))
noncomputable def T_X11_tray : Nat → pb_C := pb_tt [(0, B_X11_tray_0), (46, B_X11_tray_46)]
noncomputable def M_X11_tray : pb_F := pb_M T_X11_tray 5
set_option maxRecDepth 100000 in
set_option maxHeartbeats 4000000 in
theorem S_X11_tray (l : Launch) : pb_Sound l yX11_tray cX11_tray 5 (some .boolean) 4 M_X11_tray := by
  refine pb_sound_of (by decide) m_3_58 ?_
  intro Γ hl0 hRm0 hm X E hr J
  have hnL : ∀ j, j < 5 → j < Γ.2.2.2.2.2.2.2.2.2.2.2.1 := fun j h => by rw [hm]; exact h
  have hR : ∀ (d' mL : Nat), d' + 1 ≤ 4 ∧ 8 + (mL + 11) + d' * 64 ≤ 4 * 64 → (pb_rm d').frames + 1 ≤ Γ.2.2.2.1.frames ∧ 8 + (mL + 11) + (pb_rm d').locals ≤ Γ.2.2.2.1.locals := by rw [hRm0]; exact fun _ _ h => h
  have hRm : 1 ≤ 4 ∧ 64 ≤ 4 * 64 → 1 ≤ Γ.2.2.2.1.frames ∧ 64 ≤ Γ.2.2.2.1.locals := by rw [hRm0]; exact fun h => h
  exact pb_tt_snd _ (List.forall_mem_cons.mpr ⟨(s_iload_n (pc := 0) X dX11_tray_0 rfl (s_iconst (pc := 1) X dX11_tray_1 rfl (s_iconst (pc := 2) X dX11_tray_2 rfl (s_callS (pc := 3) X dX11_tray_3 (S_X11_outside _) q_X11_101 (hR _ _ (by decide)) (s_if_ne (pc := 6) X dX11_tray_6 (by decide) (s_iconst (pc := 28) X dX11_tray_28 rfl (s_goto (pc := 29) X dX11_tray_29 (by decide) (s_istore (pc := 33) X dX11_tray_33 (hnL _ (by decide)) (s_aload_n (pc := 35) X dX11_tray_35 rfl (s_iload (pc := 36) X dX11_tray_36 (s_if_eq (pc := 38) X dX11_tray_38 (by decide) (s_iconst (pc := 45) X dX11_tray_45 rfl (s_jmp (pc := 46) J [true, true, true, true, false])) (s_iconst (pc := 41) X dX11_tray_41 rfl (s_goto (pc := 42) X dX11_tray_42 (by decide) (s_jmp (pc := 46) J [true, true, true, true, false]))))))))) (s_iload_n (pc := 9) X dX11_tray_9 rfl (s_iconst (pc := 10) X dX11_tray_10 rfl (s_iconst (pc := 11) X dX11_tray_11 rfl (s_callS (pc := 12) X dX11_tray_12 (S_X11_outside _) q_X11_101 (hR _ _ (by decide)) (s_if_ne (pc := 15) X dX11_tray_15 (by decide) (s_iconst (pc := 28) X dX11_tray_28 rfl (s_goto (pc := 29) X dX11_tray_29 (by decide) (s_istore (pc := 33) X dX11_tray_33 (hnL _ (by decide)) (s_aload_n (pc := 35) X dX11_tray_35 rfl (s_iload (pc := 36) X dX11_tray_36 (s_if_eq (pc := 38) X dX11_tray_38 (by decide) (s_iconst (pc := 45) X dX11_tray_45 rfl (s_jmp (pc := 46) J [true, true, true, true, false])) (s_iconst (pc := 41) X dX11_tray_41 rfl (s_goto (pc := 42) X dX11_tray_42 (by decide) (s_jmp (pc := 46) J [true, true, true, true, false]))))))))) (s_iload_n (pc := 18) X dX11_tray_18 rfl (s_iconst (pc := 19) X dX11_tray_19 rfl (s_bipush (pc := 20) X dX11_tray_20 rfl (s_callS (pc := 22) X dX11_tray_22 (S_X11_outside _) q_X11_101 (hR _ _ (by decide)) (s_if_eq (pc := 25) X dX11_tray_25 (by decide) (s_iconst (pc := 32) X dX11_tray_32 rfl (s_istore (pc := 33) X dX11_tray_33 (hnL _ (by decide)) (s_aload_n (pc := 35) X dX11_tray_35 rfl (s_iload (pc := 36) X dX11_tray_36 (s_if_eq (pc := 38) X dX11_tray_38 (by decide) (s_iconst (pc := 45) X dX11_tray_45 rfl (s_jmp (pc := 46) J [true, true, true, true, false])) (s_iconst (pc := 41) X dX11_tray_41 rfl (s_goto (pc := 42) X dX11_tray_42 (by decide) (s_jmp (pc := 46) J [true, true, true, true, false])))))))) (s_iconst (pc := 28) X dX11_tray_28 rfl (s_goto (pc := 29) X dX11_tray_29 (by decide) (s_istore (pc := 33) X dX11_tray_33 (hnL _ (by decide)) (s_aload_n (pc := 35) X dX11_tray_35 rfl (s_iload (pc := 36) X dX11_tray_36 (s_if_eq (pc := 38) X dX11_tray_38 (by decide) (s_iconst (pc := 45) X dX11_tray_45 rfl (s_jmp (pc := 46) J [true, true, true, true, false])) (s_iconst (pc := 41) X dX11_tray_41 rfl (s_goto (pc := 42) X dX11_tray_42 (by decide) (s_jmp (pc := 46) J [true, true, true, true, false])))))))))))))))))))))))), List.forall_mem_cons.mpr ⟨(s_putI (pc := 46) X dX11_tray_46 p_X11_9 (s_aload_n (pc := 49) X dX11_tray_49 rfl (s_getI (pc := 50) X dX11_tray_50 g_X11_9 (s_if_ne (pc := 53) X dX11_tray_53 (by decide) (s_aload_n (pc := 66) X dX11_tray_66 rfl (s_getI (pc := 67) X dX11_tray_67 g_X11_9 (s_if_ne (pc := 70) X dX11_tray_70 (by decide) (s_iconst (pc := 77) X dX11_tray_77 rfl (s_zret (pc := 78) X E hr dX11_tray_78)) (s_iconst (pc := 73) X dX11_tray_73 rfl (s_goto (pc := 74) X dX11_tray_74 (by decide) (s_zret (pc := 78) X E hr dX11_tray_78)))))) (s_aload_n (pc := 56) X dX11_tray_56 rfl (s_getR (pc := 57) X dX11_tray_57 g_X11_23 (s_iload_n (pc := 60) X dX11_tray_60 rfl (s_iload_n (pc := 61) X dX11_tray_61 rfl (s_iload_n (pc := 62) X dX11_tray_62 rfl (s_callV (pc := 63) X dX11_tray_63 (S_X8_lay _) q_X11_105 h_1 rfl (hR _ _ (by decide)) (s_aload_n (pc := 66) X dX11_tray_66 rfl (s_getI (pc := 67) X dX11_tray_67 g_X11_9 (s_if_ne (pc := 70) X dX11_tray_70 (by decide) (s_iconst (pc := 77) X dX11_tray_77 rfl (s_zret (pc := 78) X E hr dX11_tray_78)) (s_iconst (pc := 73) X dX11_tray_73 rfl (s_goto (pc := 74) X dX11_tray_74 (by decide) (s_zret (pc := 78) X E hr dX11_tray_78)))))))))))))))), fun _ h => absurd h List.not_mem_nil⟩⟩)
theorem dX8_placeStatus_0 : decode cX8_placeStatus 0 = .ok (.iload_n 1, 1) := by decide +kernel
theorem dX8_placeStatus_1 : decode cX8_placeStatus 1 = .ok (.iconst 0, 1) := by decide +kernel
theorem dX8_placeStatus_2 : decode cX8_placeStatus 2 = .ok (.iconst 3, 1) := by decide +kernel
theorem dX8_placeStatus_3 : decode cX8_placeStatus 3 = .ok (.invokestatic 28, 3) := by decide +kernel
theorem dX8_placeStatus_6 : decode cX8_placeStatus 6 = .ok (.ifCond .eq 5, 3) := by decide +kernel
theorem dX8_placeStatus_9 : decode cX8_placeStatus 9 = .ok (.iconst 1, 1) := by decide +kernel
theorem dX8_placeStatus_10 : decode cX8_placeStatus 10 = .ok (.ireturn, 1) := by decide +kernel
theorem dX8_placeStatus_11 : decode cX8_placeStatus 11 = .ok (.aload_n 0, 1) := by decide +kernel
theorem dX8_placeStatus_12 : decode cX8_placeStatus 12 = .ok (.getfield 19, 3) := by decide +kernel
theorem dX8_placeStatus_15 : decode cX8_placeStatus 15 = .ok (.iload_n 1, 1) := by decide +kernel
theorem dX8_placeStatus_16 : decode cX8_placeStatus 16 = .ok (.iaload, 1) := by decide +kernel
theorem dX8_placeStatus_17 : decode cX8_placeStatus 17 = .ok (.iconst (-1), 1) := by decide +kernel
theorem dX8_placeStatus_18 : decode cX8_placeStatus 18 = .ok (.if_icmp .ne 5, 3) := by decide +kernel
theorem dX8_placeStatus_21 : decode cX8_placeStatus 21 = .ok (.iconst 2, 1) := by decide +kernel
theorem dX8_placeStatus_22 : decode cX8_placeStatus 22 = .ok (.ireturn, 1) := by decide +kernel
theorem dX8_placeStatus_23 : decode cX8_placeStatus 23 = .ok (.iload_n 2, 1) := by decide +kernel
theorem dX8_placeStatus_24 : decode cX8_placeStatus 24 = .ok (.iconst 0, 1) := by decide +kernel
theorem dX8_placeStatus_25 : decode cX8_placeStatus 25 = .ok (.aload_n 0, 1) := by decide +kernel
theorem dX8_placeStatus_26 : decode cX8_placeStatus 26 = .ok (.getfield 19, 3) := by decide +kernel
theorem dX8_placeStatus_29 : decode cX8_placeStatus 29 = .ok (.iload_n 1, 1) := by decide +kernel
theorem dX8_placeStatus_30 : decode cX8_placeStatus 30 = .ok (.iaload, 1) := by decide +kernel
theorem dX8_placeStatus_31 : decode cX8_placeStatus 31 = .ok (.iconst 1, 1) := by decide +kernel
theorem dX8_placeStatus_32 : decode cX8_placeStatus 32 = .ok (.isub, 1) := by decide +kernel
theorem dX8_placeStatus_33 : decode cX8_placeStatus 33 = .ok (.invokestatic 28, 3) := by decide +kernel
theorem dX8_placeStatus_36 : decode cX8_placeStatus 36 = .ok (.ifCond .eq 7, 3) := by decide +kernel
theorem dX8_placeStatus_39 : decode cX8_placeStatus 39 = .ok (.iconst 3, 1) := by decide +kernel
theorem dX8_placeStatus_40 : decode cX8_placeStatus 40 = .ok (.goto 4, 3) := by decide +kernel
theorem dX8_placeStatus_43 : decode cX8_placeStatus 43 = .ok (.iconst 0, 1) := by decide +kernel
theorem dX8_placeStatus_44 : decode cX8_placeStatus 44 = .ok (.ireturn, 1) := by decide +kernel
noncomputable def B_X8_placeStatus_0 : pb_C := (i_iload 1 (i_const (.int 0) (i_const (.int 3) (i_callS 3 1 M_X11_outside (i_if_eq (i_aload 0 (i_getR 1 4 (i_iload 1 (i_ald 4 4 (i_const (.int (-1)) (i_ic_ne (i_iload 2 (i_const (.int 0) (i_aload 0 (i_getR 1 4 (i_iload 1 (i_ald 4 4 (i_const (.int 1) (i_ibin (· - ·) (i_callS 3 1 M_X11_outside (i_if_eq (i_const (.int 0) i_iret) (i_const (.int 3) i_iret))))))))))) (i_const (.int 2) i_iret))))))) (i_const (.int 1) i_iret))))))
noncomputable def T_X8_placeStatus : Nat → pb_C := pb_tt [(0, B_X8_placeStatus_0)]
noncomputable def M_X8_placeStatus : pb_F := pb_M T_X8_placeStatus 3
set_option maxRecDepth 100000 in
set_option maxHeartbeats 4000000 in
theorem S_X8_placeStatus (l : Launch) : pb_Sound l yX8_placeStatus cX8_placeStatus 3 (some .int) 2 M_X8_placeStatus := by
  refine pb_sound_of (by decide) m_3_79 ?_
  intro Γ hl0 hRm0 hm X E hr J
  have hnL : ∀ j, j < 3 → j < Γ.2.2.2.2.2.2.2.2.2.2.2.1 := fun j h => by rw [hm]; exact h
  have hR : ∀ (d' mL : Nat), d' + 1 ≤ 2 ∧ 8 + (mL + 11) + d' * 64 ≤ 2 * 64 → (pb_rm d').frames + 1 ≤ Γ.2.2.2.1.frames ∧ 8 + (mL + 11) + (pb_rm d').locals ≤ Γ.2.2.2.1.locals := by rw [hRm0]; exact fun _ _ h => h
  have hRm : 1 ≤ 2 ∧ 64 ≤ 2 * 64 → 1 ≤ Γ.2.2.2.1.frames ∧ 64 ≤ Γ.2.2.2.1.locals := by rw [hRm0]; exact fun h => h
  exact pb_tt_snd _ (List.forall_mem_cons.mpr ⟨(s_iload_n (pc := 0) X dX8_placeStatus_0 rfl (s_iconst (pc := 1) X dX8_placeStatus_1 rfl (s_iconst (pc := 2) X dX8_placeStatus_2 rfl (s_callS (pc := 3) X dX8_placeStatus_3 (S_X11_outside _) q_X8_28 (hR _ _ (by decide)) (s_if_eq (pc := 6) X dX8_placeStatus_6 (by decide) (s_aload_n (pc := 11) X dX8_placeStatus_11 rfl (s_getR (pc := 12) X dX8_placeStatus_12 g_X8_19 (s_iload_n (pc := 15) X dX8_placeStatus_15 rfl (s_iald (pc := 16) X dX8_placeStatus_16 h_4 (s_iconst (pc := 17) X dX8_placeStatus_17 rfl (s_ic_ne (pc := 18) X dX8_placeStatus_18 (by decide) (s_iload_n (pc := 23) X dX8_placeStatus_23 rfl (s_iconst (pc := 24) X dX8_placeStatus_24 rfl (s_aload_n (pc := 25) X dX8_placeStatus_25 rfl (s_getR (pc := 26) X dX8_placeStatus_26 g_X8_19 (s_iload_n (pc := 29) X dX8_placeStatus_29 rfl (s_iald (pc := 30) X dX8_placeStatus_30 h_4 (s_iconst (pc := 31) X dX8_placeStatus_31 rfl (s_isub (pc := 32) X dX8_placeStatus_32 (s_callS (pc := 33) X dX8_placeStatus_33 (S_X11_outside _) q_X8_28 (hR _ _ (by decide)) (s_if_eq (pc := 36) X dX8_placeStatus_36 (by decide) (s_iconst (pc := 43) X dX8_placeStatus_43 rfl (s_iret (pc := 44) X E hr dX8_placeStatus_44)) (s_iconst (pc := 39) X dX8_placeStatus_39 rfl (s_goto (pc := 40) X dX8_placeStatus_40 (by decide) (s_iret (pc := 44) X E hr dX8_placeStatus_44))))))))))))) (s_iconst (pc := 21) X dX8_placeStatus_21 rfl (s_iret (pc := 22) X E hr dX8_placeStatus_22)))))))) (s_iconst (pc := 9) X dX8_placeStatus_9 rfl (s_iret (pc := 10) X E hr dX8_placeStatus_10))))))), fun _ h => absurd h List.not_mem_nil⟩)
theorem dX8_cut_0 : decode cX8_cut 0 = .ok (.iload_n 2, 1) := by decide +kernel
theorem dX8_cut_1 : decode cX8_cut 1 = .ok (.tableswitch 41 0 2 #[27, 32, 37], 27) := by decide +kernel
theorem dX8_cut_28 : decode cX8_cut 28 = .ok (.lload_n 0, 1) := by decide +kernel
theorem dX8_cut_29 : decode cX8_cut 29 = .ok (.l2i, 1) := by decide +kernel
theorem dX8_cut_30 : decode cX8_cut 30 = .ok (.i2b, 1) := by decide +kernel
theorem dX8_cut_31 : decode cX8_cut 31 = .ok (.i2l, 1) := by decide +kernel
theorem dX8_cut_32 : decode cX8_cut 32 = .ok (.lreturn, 1) := by decide +kernel
theorem dX8_cut_33 : decode cX8_cut 33 = .ok (.lload_n 0, 1) := by decide +kernel
theorem dX8_cut_34 : decode cX8_cut 34 = .ok (.l2i, 1) := by decide +kernel
theorem dX8_cut_35 : decode cX8_cut 35 = .ok (.i2s, 1) := by decide +kernel
theorem dX8_cut_36 : decode cX8_cut 36 = .ok (.i2l, 1) := by decide +kernel
theorem dX8_cut_37 : decode cX8_cut 37 = .ok (.lreturn, 1) := by decide +kernel
theorem dX8_cut_38 : decode cX8_cut 38 = .ok (.lload_n 0, 1) := by decide +kernel
theorem dX8_cut_39 : decode cX8_cut 39 = .ok (.l2i, 1) := by decide +kernel
theorem dX8_cut_40 : decode cX8_cut 40 = .ok (.i2l, 1) := by decide +kernel
theorem dX8_cut_41 : decode cX8_cut 41 = .ok (.lreturn, 1) := by decide +kernel
theorem dX8_cut_42 : decode cX8_cut 42 = .ok (.lload_n 0, 1) := by decide +kernel
theorem dX8_cut_43 : decode cX8_cut 43 = .ok (.lreturn, 1) := by decide +kernel
noncomputable def B_X8_cut_0 : pb_C := (i_iload 2 (i_tb 0 [(i_lload 0 (i_l2i (i_iun (fun x => x.toInt8.toInt32) (i_i2l i_lret)))), (i_lload 0 (i_l2i (i_iun (fun x => x.toInt16.toInt32) (i_i2l i_lret)))), (i_lload 0 (i_l2i (i_i2l i_lret)))] (i_lload 0 i_lret)))
noncomputable def T_X8_cut : Nat → pb_C := pb_tt [(0, B_X8_cut_0)]
noncomputable def M_X8_cut : pb_F := pb_M T_X8_cut 3
set_option maxRecDepth 100000 in
set_option maxHeartbeats 4000000 in
theorem S_X8_cut (l : Launch) : pb_Sound l yX8_cut cX8_cut 3 (some .long) 1 M_X8_cut := by
  refine pb_sound_of (by decide) m_3_87 ?_
  intro Γ hl0 hRm0 hm X E hr J
  have hnL : ∀ j, j < 3 → j < Γ.2.2.2.2.2.2.2.2.2.2.2.1 := fun j h => by rw [hm]; exact h
  have hR : ∀ (d' mL : Nat), d' + 1 ≤ 1 ∧ 8 + (mL + 11) + d' * 64 ≤ 1 * 64 → (pb_rm d').frames + 1 ≤ Γ.2.2.2.1.frames ∧ 8 + (mL + 11) + (pb_rm d').locals ≤ Γ.2.2.2.1.locals := by rw [hRm0]; exact fun _ _ h => h
  have hRm : 1 ≤ 1 ∧ 64 ≤ 1 * 64 → 1 ≤ Γ.2.2.2.1.frames ∧ 64 ≤ Γ.2.2.2.1.locals := by rw [hRm0]; exact fun h => h
  exact pb_tt_snd _ (List.forall_mem_cons.mpr ⟨(s_iload_n (pc := 0) X dX8_cut_0 rfl (s_table (pc := 1) X dX8_cut_1 3 0 (by decide) rfl (by decide) (by decide) 42 (by decide) (s_lload_n (pc := 42) X dX8_cut_42 rfl (s_lret (pc := 43) X E hr dX8_cut_43)) [28, 33, 38] (by decide) (pb_tc_of _ _ (⟨(s_lload_n (pc := 28) X dX8_cut_28 rfl (s_l2i (pc := 29) X dX8_cut_29 (s_i2b (pc := 30) X dX8_cut_30 (s_i2l (pc := 31) X dX8_cut_31 (s_lret (pc := 32) X E hr dX8_cut_32))))), ⟨(s_lload_n (pc := 33) X dX8_cut_33 rfl (s_l2i (pc := 34) X dX8_cut_34 (s_i2s (pc := 35) X dX8_cut_35 (s_i2l (pc := 36) X dX8_cut_36 (s_lret (pc := 37) X E hr dX8_cut_37))))), ⟨(s_lload_n (pc := 38) X dX8_cut_38 rfl (s_l2i (pc := 39) X dX8_cut_39 (s_i2l (pc := 40) X dX8_cut_40 (s_lret (pc := 41) X E hr dX8_cut_41)))), trivial⟩⟩⟩)))), fun _ h => absurd h List.not_mem_nil⟩)
theorem dX8_put_0 : decode cX8_put 0 = .ok (.aload_n 0, 1) := by decide +kernel
theorem dX8_put_1 : decode cX8_put 1 = .ok (.getfield 11, 3) := by decide +kernel
theorem dX8_put_4 : decode cX8_put 4 = .ok (.iload_n 1, 1) := by decide +kernel
theorem dX8_put_5 : decode cX8_put 5 = .ok (.bipush 60, 2) := by decide +kernel
theorem dX8_put_7 : decode cX8_put 7 = .ok (.imul, 1) := by decide +kernel
theorem dX8_put_8 : decode cX8_put 8 = .ok (.iload_n 2, 1) := by decide +kernel
theorem dX8_put_9 : decode cX8_put 9 = .ok (.iadd, 1) := by decide +kernel
theorem dX8_put_10 : decode cX8_put 10 = .ok (.lload_n 3, 1) := by decide +kernel
theorem dX8_put_11 : decode cX8_put 11 = .ok (.aload_n 0, 1) := by decide +kernel
theorem dX8_put_12 : decode cX8_put 12 = .ok (.getfield 15, 3) := by decide +kernel
theorem dX8_put_15 : decode cX8_put 15 = .ok (.iload_n 1, 1) := by decide +kernel
theorem dX8_put_16 : decode cX8_put 16 = .ok (.iaload, 1) := by decide +kernel
theorem dX8_put_17 : decode cX8_put 17 = .ok (.invokestatic 32, 3) := by decide +kernel
theorem dX8_put_20 : decode cX8_put 20 = .ok (.lastore, 1) := by decide +kernel
theorem dX8_put_21 : decode cX8_put 21 = .ok (.return_, 1) := by decide +kernel
noncomputable def B_X8_put_0 : pb_C := (i_aload 0 (i_getR 1 2 (i_iload 1 (i_const (.int 60) (i_ibin (· * ·) (i_iload 2 (i_ibin (· + ·) (i_lload 3 (i_aload 0 (i_getR 1 3 (i_iload 1 (i_ald 3 4 (i_callS 2 2 M_X8_cut (i_last 2 240 i_vret))))))))))))))
noncomputable def T_X8_put : Nat → pb_C := pb_tt [(0, B_X8_put_0)]
noncomputable def M_X8_put : pb_F := pb_M T_X8_put 5
set_option maxRecDepth 100000 in
set_option maxHeartbeats 4000000 in
theorem S_X8_put (l : Launch) : pb_Sound l yX8_put cX8_put 5 none 2 M_X8_put := by
  refine pb_sound_of (by decide) m_3_84 ?_
  intro Γ hl0 hRm0 hm X E hr J
  have hnL : ∀ j, j < 5 → j < Γ.2.2.2.2.2.2.2.2.2.2.2.1 := fun j h => by rw [hm]; exact h
  have hR : ∀ (d' mL : Nat), d' + 1 ≤ 2 ∧ 8 + (mL + 11) + d' * 64 ≤ 2 * 64 → (pb_rm d').frames + 1 ≤ Γ.2.2.2.1.frames ∧ 8 + (mL + 11) + (pb_rm d').locals ≤ Γ.2.2.2.1.locals := by rw [hRm0]; exact fun _ _ h => h
  have hRm : 1 ≤ 2 ∧ 64 ≤ 2 * 64 → 1 ≤ Γ.2.2.2.1.frames ∧ 64 ≤ Γ.2.2.2.1.locals := by rw [hRm0]; exact fun h => h
  exact pb_tt_snd _ (List.forall_mem_cons.mpr ⟨(s_aload_n (pc := 0) X dX8_put_0 rfl (s_getR (pc := 1) X dX8_put_1 g_X8_11 (s_iload_n (pc := 4) X dX8_put_4 rfl (s_bipush (pc := 5) X dX8_put_5 rfl (s_imul (pc := 7) X dX8_put_7 (s_iload_n (pc := 8) X dX8_put_8 rfl (s_iadd (pc := 9) X dX8_put_9 (s_lload_n (pc := 10) X dX8_put_10 rfl (s_aload_n (pc := 11) X dX8_put_11 rfl (s_getR (pc := 12) X dX8_put_12 g_X8_15 (s_iload_n (pc := 15) X dX8_put_15 rfl (s_iald (pc := 16) X dX8_put_16 h_3 (s_callS (pc := 17) X dX8_put_17 (S_X8_cut _) q_X8_32 (hR _ _ (by decide)) (s_last (pc := 20) X dX8_put_20 h_2 (s_vret (pc := 21) X E hr dX8_put_21))))))))))))))), fun _ h => absurd h List.not_mem_nil⟩)
theorem dX11_write_0 : decode cX11_write 0 = .ok (.aload_n 0, 1) := by decide +kernel
theorem dX11_write_1 : decode cX11_write 1 = .ok (.aload_n 0, 1) := by decide +kernel
theorem dX11_write_2 : decode cX11_write 2 = .ok (.getfield 23, 3) := by decide +kernel
theorem dX11_write_5 : decode cX11_write 5 = .ok (.iload_n 1, 1) := by decide +kernel
theorem dX11_write_6 : decode cX11_write 6 = .ok (.iload_n 2, 1) := by decide +kernel
theorem dX11_write_7 : decode cX11_write 7 = .ok (.invokevirtual 109, 3) := by decide +kernel
theorem dX11_write_10 : decode cX11_write 10 = .ok (.putfield 9, 3) := by decide +kernel
theorem dX11_write_13 : decode cX11_write 13 = .ok (.aload_n 0, 1) := by decide +kernel
theorem dX11_write_14 : decode cX11_write 14 = .ok (.getfield 9, 3) := by decide +kernel
theorem dX11_write_17 : decode cX11_write 17 = .ok (.ifCond .ne 13, 3) := by decide +kernel
theorem dX11_write_20 : decode cX11_write 20 = .ok (.aload_n 0, 1) := by decide +kernel
theorem dX11_write_21 : decode cX11_write 21 = .ok (.getfield 23, 3) := by decide +kernel
theorem dX11_write_24 : decode cX11_write 24 = .ok (.iload_n 1, 1) := by decide +kernel
theorem dX11_write_25 : decode cX11_write 25 = .ok (.iload_n 2, 1) := by decide +kernel
theorem dX11_write_26 : decode cX11_write 26 = .ok (.lload_n 3, 1) := by decide +kernel
theorem dX11_write_27 : decode cX11_write 27 = .ok (.invokevirtual 113, 3) := by decide +kernel
theorem dX11_write_30 : decode cX11_write 30 = .ok (.aload_n 0, 1) := by decide +kernel
theorem dX11_write_31 : decode cX11_write 31 = .ok (.getfield 9, 3) := by decide +kernel
theorem dX11_write_34 : decode cX11_write 34 = .ok (.ifCond .ne 7, 3) := by decide +kernel
theorem dX11_write_37 : decode cX11_write 37 = .ok (.iconst 1, 1) := by decide +kernel
theorem dX11_write_38 : decode cX11_write 38 = .ok (.goto 4, 3) := by decide +kernel
theorem dX11_write_41 : decode cX11_write 41 = .ok (.iconst 0, 1) := by decide +kernel
theorem dX11_write_42 : decode cX11_write 42 = .ok (.ireturn, 1) := by decide +kernel
noncomputable def B_X11_write_0 : pb_C := (i_aload 0 (i_aload 0 (i_getR 0 1 (i_iload 1 (i_iload 2 (i_callV 1 2 1 M_X8_placeStatus (i_putI 0 0 (i_aload 0 (i_getI 0 0 (i_if_ne (i_aload 0 (i_getI 0 0 (i_if_ne (i_const (.int 0) i_zret) (i_const (.int 1) i_zret)))) (i_aload 0 (i_getR 0 1 (i_iload 1 (i_iload 2 (i_lload 3 (i_callV 1 3 0 M_X8_put (i_aload 0 (i_getI 0 0 (i_if_ne (i_const (.int 0) i_zret) (i_const (.int 1) i_zret))))))))))))))))))))
noncomputable def T_X11_write : Nat → pb_C := pb_tt [(0, B_X11_write_0)]
noncomputable def M_X11_write : pb_F := pb_M T_X11_write 5
set_option maxRecDepth 100000 in
set_option maxHeartbeats 4000000 in
theorem S_X11_write (l : Launch) : pb_Sound l yX11_write cX11_write 5 (some .boolean) 3 M_X11_write := by
  refine pb_sound_of (by decide) m_3_75 ?_
  intro Γ hl0 hRm0 hm X E hr J
  have hnL : ∀ j, j < 5 → j < Γ.2.2.2.2.2.2.2.2.2.2.2.1 := fun j h => by rw [hm]; exact h
  have hR : ∀ (d' mL : Nat), d' + 1 ≤ 3 ∧ 8 + (mL + 11) + d' * 64 ≤ 3 * 64 → (pb_rm d').frames + 1 ≤ Γ.2.2.2.1.frames ∧ 8 + (mL + 11) + (pb_rm d').locals ≤ Γ.2.2.2.1.locals := by rw [hRm0]; exact fun _ _ h => h
  have hRm : 1 ≤ 3 ∧ 64 ≤ 3 * 64 → 1 ≤ Γ.2.2.2.1.frames ∧ 64 ≤ Γ.2.2.2.1.locals := by rw [hRm0]; exact fun h => h
  exact pb_tt_snd _ (List.forall_mem_cons.mpr ⟨(s_aload_n (pc := 0) X dX11_write_0 rfl (s_aload_n (pc := 1) X dX11_write_1 rfl (s_getR (pc := 2) X dX11_write_2 g_X11_23 (s_iload_n (pc := 5) X dX11_write_5 rfl (s_iload_n (pc := 6) X dX11_write_6 rfl (s_callV (pc := 7) X dX11_write_7 (S_X8_placeStatus _) q_X11_109 h_1 rfl (hR _ _ (by decide)) (s_putI (pc := 10) X dX11_write_10 p_X11_9 (s_aload_n (pc := 13) X dX11_write_13 rfl (s_getI (pc := 14) X dX11_write_14 g_X11_9 (s_if_ne (pc := 17) X dX11_write_17 (by decide) (s_aload_n (pc := 30) X dX11_write_30 rfl (s_getI (pc := 31) X dX11_write_31 g_X11_9 (s_if_ne (pc := 34) X dX11_write_34 (by decide) (s_iconst (pc := 41) X dX11_write_41 rfl (s_zret (pc := 42) X E hr dX11_write_42)) (s_iconst (pc := 37) X dX11_write_37 rfl (s_goto (pc := 38) X dX11_write_38 (by decide) (s_zret (pc := 42) X E hr dX11_write_42)))))) (s_aload_n (pc := 20) X dX11_write_20 rfl (s_getR (pc := 21) X dX11_write_21 g_X11_23 (s_iload_n (pc := 24) X dX11_write_24 rfl (s_iload_n (pc := 25) X dX11_write_25 rfl (s_lload_n (pc := 26) X dX11_write_26 rfl (s_callV (pc := 27) X dX11_write_27 (S_X8_put _) q_X11_113 h_1 rfl (hR _ _ (by decide)) (s_aload_n (pc := 30) X dX11_write_30 rfl (s_getI (pc := 31) X dX11_write_31 g_X11_9 (s_if_ne (pc := 34) X dX11_write_34 (by decide) (s_iconst (pc := 41) X dX11_write_41 rfl (s_zret (pc := 42) X E hr dX11_write_42)) (s_iconst (pc := 37) X dX11_write_37 rfl (s_goto (pc := 38) X dX11_write_38 (by decide) (s_zret (pc := 42) X E hr dX11_write_42)))))))))))))))))))))), fun _ h => absurd h List.not_mem_nil⟩)
theorem dX8_at_0 : decode cX8_at 0 = .ok (.aload_n 0, 1) := by decide +kernel
theorem dX8_at_1 : decode cX8_at 1 = .ok (.getfield 11, 3) := by decide +kernel
theorem dX8_at_4 : decode cX8_at 4 = .ok (.iload_n 1, 1) := by decide +kernel
theorem dX8_at_5 : decode cX8_at 5 = .ok (.bipush 60, 2) := by decide +kernel
theorem dX8_at_7 : decode cX8_at 7 = .ok (.imul, 1) := by decide +kernel
theorem dX8_at_8 : decode cX8_at 8 = .ok (.iload_n 2, 1) := by decide +kernel
theorem dX8_at_9 : decode cX8_at 9 = .ok (.iadd, 1) := by decide +kernel
theorem dX8_at_10 : decode cX8_at 10 = .ok (.laload, 1) := by decide +kernel
theorem dX8_at_11 : decode cX8_at 11 = .ok (.lreturn, 1) := by decide +kernel
noncomputable def B_X8_at_0 : pb_C := (i_aload 0 (i_getR 1 2 (i_iload 1 (i_const (.int 60) (i_ibin (· * ·) (i_iload 2 (i_ibin (· + ·) (i_lald 2 240 i_lret))))))))
noncomputable def T_X8_at : Nat → pb_C := pb_tt [(0, B_X8_at_0)]
noncomputable def M_X8_at : pb_F := pb_M T_X8_at 3
set_option maxRecDepth 100000 in
set_option maxHeartbeats 4000000 in
theorem S_X8_at (l : Launch) : pb_Sound l yX8_at cX8_at 3 (some .long) 1 M_X8_at := by
  refine pb_sound_of (by decide) m_3_95 ?_
  intro Γ hl0 hRm0 hm X E hr J
  have hnL : ∀ j, j < 3 → j < Γ.2.2.2.2.2.2.2.2.2.2.2.1 := fun j h => by rw [hm]; exact h
  have hR : ∀ (d' mL : Nat), d' + 1 ≤ 1 ∧ 8 + (mL + 11) + d' * 64 ≤ 1 * 64 → (pb_rm d').frames + 1 ≤ Γ.2.2.2.1.frames ∧ 8 + (mL + 11) + (pb_rm d').locals ≤ Γ.2.2.2.1.locals := by rw [hRm0]; exact fun _ _ h => h
  have hRm : 1 ≤ 1 ∧ 64 ≤ 1 * 64 → 1 ≤ Γ.2.2.2.1.frames ∧ 64 ≤ Γ.2.2.2.1.locals := by rw [hRm0]; exact fun h => h
  exact pb_tt_snd _ (List.forall_mem_cons.mpr ⟨(s_aload_n (pc := 0) X dX8_at_0 rfl (s_getR (pc := 1) X dX8_at_1 g_X8_11 (s_iload_n (pc := 4) X dX8_at_4 rfl (s_bipush (pc := 5) X dX8_at_5 rfl (s_imul (pc := 7) X dX8_at_7 (s_iload_n (pc := 8) X dX8_at_8 rfl (s_iadd (pc := 9) X dX8_at_9 (s_lald (pc := 10) X dX8_at_10 h_2 (s_lret (pc := 11) X E hr dX8_at_11))))))))), fun _ h => absurd h List.not_mem_nil⟩)
theorem dX11_read_0 : decode cX11_read 0 = .ok (.aload_n 0, 1) := by decide +kernel
theorem dX11_read_1 : decode cX11_read 1 = .ok (.aload_n 0, 1) := by decide +kernel
theorem dX11_read_2 : decode cX11_read 2 = .ok (.getfield 23, 3) := by decide +kernel
theorem dX11_read_5 : decode cX11_read 5 = .ok (.iload_n 1, 1) := by decide +kernel
theorem dX11_read_6 : decode cX11_read 6 = .ok (.iload_n 2, 1) := by decide +kernel
theorem dX11_read_7 : decode cX11_read 7 = .ok (.invokevirtual 109, 3) := by decide +kernel
theorem dX11_read_10 : decode cX11_read 10 = .ok (.putfield 9, 3) := by decide +kernel
theorem dX11_read_13 : decode cX11_read 13 = .ok (.aload_n 0, 1) := by decide +kernel
theorem dX11_read_14 : decode cX11_read 14 = .ok (.getfield 9, 3) := by decide +kernel
theorem dX11_read_17 : decode cX11_read 17 = .ok (.ifCond .ne 15, 3) := by decide +kernel
theorem dX11_read_20 : decode cX11_read 20 = .ok (.aload_n 0, 1) := by decide +kernel
theorem dX11_read_21 : decode cX11_read 21 = .ok (.getfield 23, 3) := by decide +kernel
theorem dX11_read_24 : decode cX11_read 24 = .ok (.iload_n 1, 1) := by decide +kernel
theorem dX11_read_25 : decode cX11_read 25 = .ok (.iload_n 2, 1) := by decide +kernel
theorem dX11_read_26 : decode cX11_read 26 = .ok (.invokevirtual 117, 3) := by decide +kernel
theorem dX11_read_29 : decode cX11_read 29 = .ok (.goto 6, 3) := by decide +kernel
theorem dX11_read_32 : decode cX11_read 32 = .ok (.ldc2_w 121, 3) := by decide +kernel
theorem dX11_read_35 : decode cX11_read 35 = .ok (.lreturn, 1) := by decide +kernel
noncomputable def B_X11_read_0 : pb_C := (i_aload 0 (i_aload 0 (i_getR 0 1 (i_iload 1 (i_iload 2 (i_callV 1 2 1 M_X8_placeStatus (i_putI 0 0 (i_aload 0 (i_getI 0 0 (i_if_ne (i_const (.long (-1)) i_lret) (i_aload 0 (i_getR 0 1 (i_iload 1 (i_iload 2 (i_callV 1 2 2 M_X8_at i_lret)))))))))))))))
noncomputable def T_X11_read : Nat → pb_C := pb_tt [(0, B_X11_read_0)]
noncomputable def M_X11_read : pb_F := pb_M T_X11_read 3
set_option maxRecDepth 100000 in
set_option maxHeartbeats 4000000 in
theorem S_X11_read (l : Launch) : pb_Sound l yX11_read cX11_read 3 (some .long) 3 M_X11_read := by
  refine pb_sound_of (by decide) m_3_91 ?_
  intro Γ hl0 hRm0 hm X E hr J
  have hnL : ∀ j, j < 3 → j < Γ.2.2.2.2.2.2.2.2.2.2.2.1 := fun j h => by rw [hm]; exact h
  have hR : ∀ (d' mL : Nat), d' + 1 ≤ 3 ∧ 8 + (mL + 11) + d' * 64 ≤ 3 * 64 → (pb_rm d').frames + 1 ≤ Γ.2.2.2.1.frames ∧ 8 + (mL + 11) + (pb_rm d').locals ≤ Γ.2.2.2.1.locals := by rw [hRm0]; exact fun _ _ h => h
  have hRm : 1 ≤ 3 ∧ 64 ≤ 3 * 64 → 1 ≤ Γ.2.2.2.1.frames ∧ 64 ≤ Γ.2.2.2.1.locals := by rw [hRm0]; exact fun h => h
  exact pb_tt_snd _ (List.forall_mem_cons.mpr ⟨(s_aload_n (pc := 0) X dX11_read_0 rfl (s_aload_n (pc := 1) X dX11_read_1 rfl (s_getR (pc := 2) X dX11_read_2 g_X11_23 (s_iload_n (pc := 5) X dX11_read_5 rfl (s_iload_n (pc := 6) X dX11_read_6 rfl (s_callV (pc := 7) X dX11_read_7 (S_X8_placeStatus _) q_X11_109 h_1 rfl (hR _ _ (by decide)) (s_putI (pc := 10) X dX11_read_10 p_X11_9 (s_aload_n (pc := 13) X dX11_read_13 rfl (s_getI (pc := 14) X dX11_read_14 g_X11_9 (s_if_ne (pc := 17) X dX11_read_17 (by decide) (s_ldc2 (pc := 32) X dX11_read_32 m_3_96 (s_lret (pc := 35) X E hr dX11_read_35)) (s_aload_n (pc := 20) X dX11_read_20 rfl (s_getR (pc := 21) X dX11_read_21 g_X11_23 (s_iload_n (pc := 24) X dX11_read_24 rfl (s_iload_n (pc := 25) X dX11_read_25 rfl (s_callV (pc := 26) X dX11_read_26 (S_X8_at _) q_X11_117 h_1 rfl (hR _ _ (by decide)) (s_goto (pc := 29) X dX11_read_29 (by decide) (s_lret (pc := 35) X E hr dX11_read_35))))))))))))))))), fun _ h => absurd h List.not_mem_nil⟩)
theorem dX8_pourStatus_0 : decode cX8_pourStatus 0 = .ok (.iload_n 1, 1) := by decide +kernel
theorem dX8_pourStatus_1 : decode cX8_pourStatus 1 = .ok (.iconst 0, 1) := by decide +kernel
theorem dX8_pourStatus_2 : decode cX8_pourStatus 2 = .ok (.iconst 3, 1) := by decide +kernel
theorem dX8_pourStatus_3 : decode cX8_pourStatus 3 = .ok (.invokestatic 28, 3) := by decide +kernel
theorem dX8_pourStatus_6 : decode cX8_pourStatus 6 = .ok (.ifCond .ne 26, 3) := by decide +kernel
theorem dX8_pourStatus_9 : decode cX8_pourStatus 9 = .ok (.iload_n 3, 1) := by decide +kernel
theorem dX8_pourStatus_10 : decode cX8_pourStatus 10 = .ok (.iconst 0, 1) := by decide +kernel
theorem dX8_pourStatus_11 : decode cX8_pourStatus 11 = .ok (.iconst 3, 1) := by decide +kernel
theorem dX8_pourStatus_12 : decode cX8_pourStatus 12 = .ok (.invokestatic 28, 3) := by decide +kernel
theorem dX8_pourStatus_15 : decode cX8_pourStatus 15 = .ok (.ifCond .ne 17, 3) := by decide +kernel
theorem dX8_pourStatus_18 : decode cX8_pourStatus 18 = .ok (.iload_n 2, 1) := by decide +kernel
theorem dX8_pourStatus_19 : decode cX8_pourStatus 19 = .ok (.ifCond .lt 13, 3) := by decide +kernel
theorem dX8_pourStatus_22 : decode cX8_pourStatus 22 = .ok (.iload 4, 2) := by decide +kernel
theorem dX8_pourStatus_24 : decode cX8_pourStatus 24 = .ok (.ifCond .lt 8, 3) := by decide +kernel
theorem dX8_pourStatus_27 : decode cX8_pourStatus 27 = .ok (.iload 5, 2) := by decide +kernel
theorem dX8_pourStatus_29 : decode cX8_pourStatus 29 = .ok (.ifCond .ge 5, 3) := by decide +kernel
theorem dX8_pourStatus_32 : decode cX8_pourStatus 32 = .ok (.iconst 1, 1) := by decide +kernel
theorem dX8_pourStatus_33 : decode cX8_pourStatus 33 = .ok (.ireturn, 1) := by decide +kernel
theorem dX8_pourStatus_34 : decode cX8_pourStatus 34 = .ok (.aload_n 0, 1) := by decide +kernel
theorem dX8_pourStatus_35 : decode cX8_pourStatus 35 = .ok (.getfield 19, 3) := by decide +kernel
theorem dX8_pourStatus_38 : decode cX8_pourStatus 38 = .ok (.iload_n 1, 1) := by decide +kernel
theorem dX8_pourStatus_39 : decode cX8_pourStatus 39 = .ok (.iaload, 1) := by decide +kernel
theorem dX8_pourStatus_40 : decode cX8_pourStatus 40 = .ok (.iconst (-1), 1) := by decide +kernel
theorem dX8_pourStatus_41 : decode cX8_pourStatus 41 = .ok (.if_icmp .eq 13, 3) := by decide +kernel
theorem dX8_pourStatus_44 : decode cX8_pourStatus 44 = .ok (.aload_n 0, 1) := by decide +kernel
theorem dX8_pourStatus_45 : decode cX8_pourStatus 45 = .ok (.getfield 19, 3) := by decide +kernel
theorem dX8_pourStatus_48 : decode cX8_pourStatus 48 = .ok (.iload_n 3, 1) := by decide +kernel
theorem dX8_pourStatus_49 : decode cX8_pourStatus 49 = .ok (.iaload, 1) := by decide +kernel
theorem dX8_pourStatus_50 : decode cX8_pourStatus 50 = .ok (.iconst (-1), 1) := by decide +kernel
theorem dX8_pourStatus_51 : decode cX8_pourStatus 51 = .ok (.if_icmp .ne 5, 3) := by decide +kernel
theorem dX8_pourStatus_54 : decode cX8_pourStatus 54 = .ok (.iconst 2, 1) := by decide +kernel
theorem dX8_pourStatus_55 : decode cX8_pourStatus 55 = .ok (.ireturn, 1) := by decide +kernel
theorem dX8_pourStatus_56 : decode cX8_pourStatus 56 = .ok (.aload_n 0, 1) := by decide +kernel
theorem dX8_pourStatus_57 : decode cX8_pourStatus 57 = .ok (.getfield 15, 3) := by decide +kernel
theorem dX8_pourStatus_60 : decode cX8_pourStatus 60 = .ok (.iload_n 1, 1) := by decide +kernel
theorem dX8_pourStatus_61 : decode cX8_pourStatus 61 = .ok (.iaload, 1) := by decide +kernel
theorem dX8_pourStatus_62 : decode cX8_pourStatus 62 = .ok (.aload_n 0, 1) := by decide +kernel
theorem dX8_pourStatus_63 : decode cX8_pourStatus 63 = .ok (.getfield 15, 3) := by decide +kernel
theorem dX8_pourStatus_66 : decode cX8_pourStatus 66 = .ok (.iload_n 3, 1) := by decide +kernel
theorem dX8_pourStatus_67 : decode cX8_pourStatus 67 = .ok (.iaload, 1) := by decide +kernel
theorem dX8_pourStatus_68 : decode cX8_pourStatus 68 = .ok (.if_icmp .eq 6, 3) := by decide +kernel
theorem dX8_pourStatus_71 : decode cX8_pourStatus 71 = .ok (.bipush 8, 2) := by decide +kernel
theorem dX8_pourStatus_73 : decode cX8_pourStatus 73 = .ok (.ireturn, 1) := by decide +kernel
theorem dX8_pourStatus_74 : decode cX8_pourStatus 74 = .ok (.iload_n 2, 1) := by decide +kernel
theorem dX8_pourStatus_75 : decode cX8_pourStatus 75 = .ok (.i2l, 1) := by decide +kernel
theorem dX8_pourStatus_76 : decode cX8_pourStatus 76 = .ok (.iload 5, 2) := by decide +kernel
theorem dX8_pourStatus_78 : decode cX8_pourStatus 78 = .ok (.i2l, 1) := by decide +kernel
theorem dX8_pourStatus_79 : decode cX8_pourStatus 79 = .ok (.ladd, 1) := by decide +kernel
theorem dX8_pourStatus_80 : decode cX8_pourStatus 80 = .ok (.aload_n 0, 1) := by decide +kernel
theorem dX8_pourStatus_81 : decode cX8_pourStatus 81 = .ok (.getfield 19, 3) := by decide +kernel
theorem dX8_pourStatus_84 : decode cX8_pourStatus 84 = .ok (.iload_n 1, 1) := by decide +kernel
theorem dX8_pourStatus_85 : decode cX8_pourStatus 85 = .ok (.iaload, 1) := by decide +kernel
theorem dX8_pourStatus_86 : decode cX8_pourStatus 86 = .ok (.i2l, 1) := by decide +kernel
theorem dX8_pourStatus_87 : decode cX8_pourStatus 87 = .ok (.lcmp, 1) := by decide +kernel
theorem dX8_pourStatus_88 : decode cX8_pourStatus 88 = .ok (.ifCond .gt 21, 3) := by decide +kernel
theorem dX8_pourStatus_91 : decode cX8_pourStatus 91 = .ok (.iload 4, 2) := by decide +kernel
theorem dX8_pourStatus_93 : decode cX8_pourStatus 93 = .ok (.i2l, 1) := by decide +kernel
theorem dX8_pourStatus_94 : decode cX8_pourStatus 94 = .ok (.iload 5, 2) := by decide +kernel
theorem dX8_pourStatus_96 : decode cX8_pourStatus 96 = .ok (.i2l, 1) := by decide +kernel
theorem dX8_pourStatus_97 : decode cX8_pourStatus 97 = .ok (.ladd, 1) := by decide +kernel
theorem dX8_pourStatus_98 : decode cX8_pourStatus 98 = .ok (.aload_n 0, 1) := by decide +kernel
theorem dX8_pourStatus_99 : decode cX8_pourStatus 99 = .ok (.getfield 19, 3) := by decide +kernel
theorem dX8_pourStatus_102 : decode cX8_pourStatus 102 = .ok (.iload_n 3, 1) := by decide +kernel
theorem dX8_pourStatus_103 : decode cX8_pourStatus 103 = .ok (.iaload, 1) := by decide +kernel
theorem dX8_pourStatus_104 : decode cX8_pourStatus 104 = .ok (.i2l, 1) := by decide +kernel
theorem dX8_pourStatus_105 : decode cX8_pourStatus 105 = .ok (.lcmp, 1) := by decide +kernel
theorem dX8_pourStatus_106 : decode cX8_pourStatus 106 = .ok (.ifCond .le 7, 3) := by decide +kernel
theorem dX8_pourStatus_109 : decode cX8_pourStatus 109 = .ok (.iconst 1, 1) := by decide +kernel
theorem dX8_pourStatus_110 : decode cX8_pourStatus 110 = .ok (.goto 4, 3) := by decide +kernel
theorem dX8_pourStatus_113 : decode cX8_pourStatus 113 = .ok (.iconst 0, 1) := by decide +kernel
theorem dX8_pourStatus_114 : decode cX8_pourStatus 114 = .ok (.istore 6, 2) := by decide +kernel
theorem dX8_pourStatus_116 : decode cX8_pourStatus 116 = .ok (.iload 6, 2) := by decide +kernel
theorem dX8_pourStatus_118 : decode cX8_pourStatus 118 = .ok (.ifCond .eq 7, 3) := by decide +kernel
theorem dX8_pourStatus_121 : decode cX8_pourStatus 121 = .ok (.iconst 3, 1) := by decide +kernel
theorem dX8_pourStatus_122 : decode cX8_pourStatus 122 = .ok (.goto 4, 3) := by decide +kernel
theorem dX8_pourStatus_125 : decode cX8_pourStatus 125 = .ok (.iconst 0, 1) := by decide +kernel
theorem dX8_pourStatus_126 : decode cX8_pourStatus 126 = .ok (.ireturn, 1) := by decide +kernel
noncomputable def B_X8_pourStatus_0 : pb_C := (i_iload 1 (i_const (.int 0) (i_const (.int 3) (i_callS 3 1 M_X11_outside (i_if_ne (i_const (.int 1) i_iret) (i_iload 3 (i_const (.int 0) (i_const (.int 3) (i_callS 3 1 M_X11_outside (i_if_ne (i_const (.int 1) i_iret) (i_iload 2 (i_if_lt (i_const (.int 1) i_iret) (i_iload 4 (i_if_lt (i_const (.int 1) i_iret) (i_iload 5 (i_if_ge (i_aload 0 (i_getR 1 4 (i_iload 1 (i_ald 4 4 (i_const (.int (-1)) (i_ic_eq (i_const (.int 2) i_iret) (i_aload 0 (i_getR 1 4 (i_iload 3 (i_ald 4 4 (i_const (.int (-1)) (i_ic_ne (i_aload 0 (i_getR 1 3 (i_iload 1 (i_ald 3 4 (i_aload 0 (i_getR 1 3 (i_iload 3 (i_ald 3 4 (i_ic_eq (i_iload 2 (i_i2l (i_iload 5 (i_i2l (i_lbin (· + ·) (i_aload 0 (i_getR 1 4 (i_iload 1 (i_ald 4 4 (i_i2l (i_lcmp (i_if_gt (i_const (.int 1) (i_istore 6 (i_iload 6 (i_if_eq (i_const (.int 0) i_iret) (i_const (.int 3) i_iret))))) (i_iload 4 (i_i2l (i_iload 5 (i_i2l (i_lbin (· + ·) (i_aload 0 (i_getR 1 4 (i_iload 3 (i_ald 4 4 (i_i2l (i_lcmp (i_if_le (i_const (.int 0) (i_istore 6 (i_iload 6 (i_if_eq (i_const (.int 0) i_iret) (i_const (.int 3) i_iret))))) (i_const (.int 1) (i_istore 6 (i_iload 6 (i_if_eq (i_const (.int 0) i_iret) (i_const (.int 3) i_iret))))))))))))))))))))))))))))) (i_const (.int 8) i_iret)))))))))) (i_const (.int 2) i_iret))))))))))))) (i_const (.int 1) i_iret)))))))))))))))))
noncomputable def T_X8_pourStatus : Nat → pb_C := pb_tt [(0, B_X8_pourStatus_0)]
noncomputable def M_X8_pourStatus : pb_F := pb_M T_X8_pourStatus 7
set_option maxRecDepth 100000 in
set_option maxHeartbeats 4000000 in
theorem S_X8_pourStatus (l : Launch) : pb_Sound l yX8_pourStatus cX8_pourStatus 7 (some .int) 2 M_X8_pourStatus := by
  refine pb_sound_of (by decide) m_3_104 ?_
  intro Γ hl0 hRm0 hm X E hr J
  have hnL : ∀ j, j < 7 → j < Γ.2.2.2.2.2.2.2.2.2.2.2.1 := fun j h => by rw [hm]; exact h
  have hR : ∀ (d' mL : Nat), d' + 1 ≤ 2 ∧ 8 + (mL + 11) + d' * 64 ≤ 2 * 64 → (pb_rm d').frames + 1 ≤ Γ.2.2.2.1.frames ∧ 8 + (mL + 11) + (pb_rm d').locals ≤ Γ.2.2.2.1.locals := by rw [hRm0]; exact fun _ _ h => h
  have hRm : 1 ≤ 2 ∧ 64 ≤ 2 * 64 → 1 ≤ Γ.2.2.2.1.frames ∧ 64 ≤ Γ.2.2.2.1.locals := by rw [hRm0]; exact fun h => h
  exact pb_tt_snd _ (List.forall_mem_cons.mpr ⟨(s_iload_n (pc := 0) X dX8_pourStatus_0 rfl (s_iconst (pc := 1) X dX8_pourStatus_1 rfl (s_iconst (pc := 2) X dX8_pourStatus_2 rfl (s_callS (pc := 3) X dX8_pourStatus_3 (S_X11_outside _) q_X8_28 (hR _ _ (by decide)) (s_if_ne (pc := 6) X dX8_pourStatus_6 (by decide) (s_iconst (pc := 32) X dX8_pourStatus_32 rfl (s_iret (pc := 33) X E hr dX8_pourStatus_33)) (s_iload_n (pc := 9) X dX8_pourStatus_9 rfl (s_iconst (pc := 10) X dX8_pourStatus_10 rfl (s_iconst (pc := 11) X dX8_pourStatus_11 rfl (s_callS (pc := 12) X dX8_pourStatus_12 (S_X11_outside _) q_X8_28 (hR _ _ (by decide)) (s_if_ne (pc := 15) X dX8_pourStatus_15 (by decide) (s_iconst (pc := 32) X dX8_pourStatus_32 rfl (s_iret (pc := 33) X E hr dX8_pourStatus_33)) (s_iload_n (pc := 18) X dX8_pourStatus_18 rfl (s_if_lt (pc := 19) X dX8_pourStatus_19 (by decide) (s_iconst (pc := 32) X dX8_pourStatus_32 rfl (s_iret (pc := 33) X E hr dX8_pourStatus_33)) (s_iload (pc := 22) X dX8_pourStatus_22 (s_if_lt (pc := 24) X dX8_pourStatus_24 (by decide) (s_iconst (pc := 32) X dX8_pourStatus_32 rfl (s_iret (pc := 33) X E hr dX8_pourStatus_33)) (s_iload (pc := 27) X dX8_pourStatus_27 (s_if_ge (pc := 29) X dX8_pourStatus_29 (by decide) (s_aload_n (pc := 34) X dX8_pourStatus_34 rfl (s_getR (pc := 35) X dX8_pourStatus_35 g_X8_19 (s_iload_n (pc := 38) X dX8_pourStatus_38 rfl (s_iald (pc := 39) X dX8_pourStatus_39 h_4 (s_iconst (pc := 40) X dX8_pourStatus_40 rfl (s_ic_eq (pc := 41) X dX8_pourStatus_41 (by decide) (s_iconst (pc := 54) X dX8_pourStatus_54 rfl (s_iret (pc := 55) X E hr dX8_pourStatus_55)) (s_aload_n (pc := 44) X dX8_pourStatus_44 rfl (s_getR (pc := 45) X dX8_pourStatus_45 g_X8_19 (s_iload_n (pc := 48) X dX8_pourStatus_48 rfl (s_iald (pc := 49) X dX8_pourStatus_49 h_4 (s_iconst (pc := 50) X dX8_pourStatus_50 rfl (s_ic_ne (pc := 51) X dX8_pourStatus_51 (by decide) (s_aload_n (pc := 56) X dX8_pourStatus_56 rfl (s_getR (pc := 57) X dX8_pourStatus_57 g_X8_15 (s_iload_n (pc := 60) X dX8_pourStatus_60 rfl (s_iald (pc := 61) X dX8_pourStatus_61 h_3 (s_aload_n (pc := 62) X dX8_pourStatus_62 rfl (s_getR (pc := 63) X dX8_pourStatus_63 g_X8_15 (s_iload_n (pc := 66) X dX8_pourStatus_66 rfl (s_iald (pc := 67) X dX8_pourStatus_67 h_3 (s_ic_eq (pc := 68) X dX8_pourStatus_68 (by decide) (s_iload_n (pc := 74) X dX8_pourStatus_74 rfl (s_i2l (pc := 75) X dX8_pourStatus_75 (s_iload (pc := 76) X dX8_pourStatus_76 (s_i2l (pc := 78) X dX8_pourStatus_78 (s_ladd (pc := 79) X dX8_pourStatus_79 (s_aload_n (pc := 80) X dX8_pourStatus_80 rfl (s_getR (pc := 81) X dX8_pourStatus_81 g_X8_19 (s_iload_n (pc := 84) X dX8_pourStatus_84 rfl (s_iald (pc := 85) X dX8_pourStatus_85 h_4 (s_i2l (pc := 86) X dX8_pourStatus_86 (s_lcmp (pc := 87) X dX8_pourStatus_87 (s_if_gt (pc := 88) X dX8_pourStatus_88 (by decide) (s_iconst (pc := 109) X dX8_pourStatus_109 rfl (s_goto (pc := 110) X dX8_pourStatus_110 (by decide) (s_istore (pc := 114) X dX8_pourStatus_114 (hnL _ (by decide)) (s_iload (pc := 116) X dX8_pourStatus_116 (s_if_eq (pc := 118) X dX8_pourStatus_118 (by decide) (s_iconst (pc := 125) X dX8_pourStatus_125 rfl (s_iret (pc := 126) X E hr dX8_pourStatus_126)) (s_iconst (pc := 121) X dX8_pourStatus_121 rfl (s_goto (pc := 122) X dX8_pourStatus_122 (by decide) (s_iret (pc := 126) X E hr dX8_pourStatus_126)))))))) (s_iload (pc := 91) X dX8_pourStatus_91 (s_i2l (pc := 93) X dX8_pourStatus_93 (s_iload (pc := 94) X dX8_pourStatus_94 (s_i2l (pc := 96) X dX8_pourStatus_96 (s_ladd (pc := 97) X dX8_pourStatus_97 (s_aload_n (pc := 98) X dX8_pourStatus_98 rfl (s_getR (pc := 99) X dX8_pourStatus_99 g_X8_19 (s_iload_n (pc := 102) X dX8_pourStatus_102 rfl (s_iald (pc := 103) X dX8_pourStatus_103 h_4 (s_i2l (pc := 104) X dX8_pourStatus_104 (s_lcmp (pc := 105) X dX8_pourStatus_105 (s_if_le (pc := 106) X dX8_pourStatus_106 (by decide) (s_iconst (pc := 113) X dX8_pourStatus_113 rfl (s_istore (pc := 114) X dX8_pourStatus_114 (hnL _ (by decide)) (s_iload (pc := 116) X dX8_pourStatus_116 (s_if_eq (pc := 118) X dX8_pourStatus_118 (by decide) (s_iconst (pc := 125) X dX8_pourStatus_125 rfl (s_iret (pc := 126) X E hr dX8_pourStatus_126)) (s_iconst (pc := 121) X dX8_pourStatus_121 rfl (s_goto (pc := 122) X dX8_pourStatus_122 (by decide) (s_iret (pc := 126) X E hr dX8_pourStatus_126))))))) (s_iconst (pc := 109) X dX8_pourStatus_109 rfl (s_goto (pc := 110) X dX8_pourStatus_110 (by decide) (s_istore (pc := 114) X dX8_pourStatus_114 (hnL _ (by decide)) (s_iload (pc := 116) X dX8_pourStatus_116 (s_if_eq (pc := 118) X dX8_pourStatus_118 (by decide) (s_iconst (pc := 125) X dX8_pourStatus_125 rfl (s_iret (pc := 126) X E hr dX8_pourStatus_126)) (s_iconst (pc := 121) X dX8_pourStatus_121 rfl (s_goto (pc := 122) X dX8_pourStatus_122 (by decide) (s_iret (pc := 126) X E hr dX8_pourStatus_126)))))))))))))))))))))))))))))))) (s_bipush (pc := 71) X dX8_pourStatus_71 rfl (s_iret (pc := 73) X E hr dX8_pourStatus_73))))))))))) (s_iconst (pc := 54) X dX8_pourStatus_54 rfl (s_iret (pc := 55) X E hr dX8_pourStatus_55)))))))))))))) (s_iconst (pc := 32) X dX8_pourStatus_32 rfl (s_iret (pc := 33) X E hr dX8_pourStatus_33)))))))))))))))))), fun _ h => absurd h List.not_mem_nil⟩)
theorem dX8_move_0 : decode cX8_move 0 = .ok (.aload_n 0, 1) := by decide +kernel
theorem dX8_move_1 : decode cX8_move 1 = .ok (.getfield 11, 3) := by decide +kernel
theorem dX8_move_4 : decode cX8_move 4 = .ok (.iload_n 1, 1) := by decide +kernel
theorem dX8_move_5 : decode cX8_move 5 = .ok (.bipush 60, 2) := by decide +kernel
theorem dX8_move_7 : decode cX8_move 7 = .ok (.imul, 1) := by decide +kernel
theorem dX8_move_8 : decode cX8_move 8 = .ok (.iload_n 2, 1) := by decide +kernel
theorem dX8_move_9 : decode cX8_move 9 = .ok (.iadd, 1) := by decide +kernel
theorem dX8_move_10 : decode cX8_move 10 = .ok (.aload_n 0, 1) := by decide +kernel
theorem dX8_move_11 : decode cX8_move 11 = .ok (.getfield 11, 3) := by decide +kernel
theorem dX8_move_14 : decode cX8_move 14 = .ok (.iload_n 3, 1) := by decide +kernel
theorem dX8_move_15 : decode cX8_move 15 = .ok (.bipush 60, 2) := by decide +kernel
theorem dX8_move_17 : decode cX8_move 17 = .ok (.imul, 1) := by decide +kernel
theorem dX8_move_18 : decode cX8_move 18 = .ok (.iload 4, 2) := by decide +kernel
theorem dX8_move_20 : decode cX8_move 20 = .ok (.iadd, 1) := by decide +kernel
theorem dX8_move_21 : decode cX8_move 21 = .ok (.iload 5, 2) := by decide +kernel
theorem dX8_move_23 : decode cX8_move 23 = .ok (.invokestatic 36, 3) := by decide +kernel
theorem dX8_move_26 : decode cX8_move 26 = .ok (.return_, 1) := by decide +kernel
noncomputable def B_X8_move_0 : pb_C := (i_aload 0 (i_getR 1 2 (i_iload 1 (i_const (.int 60) (i_ibin (· * ·) (i_iload 2 (i_ibin (· + ·) (i_aload 0 (i_getR 1 2 (i_iload 3 (i_const (.int 60) (i_ibin (· * ·) (i_iload 4 (i_ibin (· + ·) (i_iload 5 (i_copyL 2 240 2 240 i_vret))))))))))))))))
noncomputable def T_X8_move : Nat → pb_C := pb_tt [(0, B_X8_move_0)]
noncomputable def M_X8_move : pb_F := pb_M T_X8_move 6
set_option maxRecDepth 100000 in
set_option maxHeartbeats 4000000 in
theorem S_X8_move (l : Launch) : pb_Sound l yX8_move cX8_move 6 none 1 M_X8_move := by
  refine pb_sound_of (by decide) m_3_108 ?_
  intro Γ hl0 hRm0 hm X E hr J
  have hnL : ∀ j, j < 6 → j < Γ.2.2.2.2.2.2.2.2.2.2.2.1 := fun j h => by rw [hm]; exact h
  have hR : ∀ (d' mL : Nat), d' + 1 ≤ 1 ∧ 8 + (mL + 11) + d' * 64 ≤ 1 * 64 → (pb_rm d').frames + 1 ≤ Γ.2.2.2.1.frames ∧ 8 + (mL + 11) + (pb_rm d').locals ≤ Γ.2.2.2.1.locals := by rw [hRm0]; exact fun _ _ h => h
  have hRm : 1 ≤ 1 ∧ 64 ≤ 1 * 64 → 1 ≤ Γ.2.2.2.1.frames ∧ 64 ≤ Γ.2.2.2.1.locals := by rw [hRm0]; exact fun h => h
  exact pb_tt_snd _ (List.forall_mem_cons.mpr ⟨(s_aload_n (pc := 0) X dX8_move_0 rfl (s_getR (pc := 1) X dX8_move_1 g_X8_11 (s_iload_n (pc := 4) X dX8_move_4 rfl (s_bipush (pc := 5) X dX8_move_5 rfl (s_imul (pc := 7) X dX8_move_7 (s_iload_n (pc := 8) X dX8_move_8 rfl (s_iadd (pc := 9) X dX8_move_9 (s_aload_n (pc := 10) X dX8_move_10 rfl (s_getR (pc := 11) X dX8_move_11 g_X8_11 (s_iload_n (pc := 14) X dX8_move_14 rfl (s_bipush (pc := 15) X dX8_move_15 rfl (s_imul (pc := 17) X dX8_move_17 (s_iload (pc := 18) X dX8_move_18 (s_iadd (pc := 20) X dX8_move_20 (s_iload (pc := 21) X dX8_move_21 (s_copyL (pc := 23) X dX8_move_23 m_3_109 m_nat h_2 h_2 (hRm (by decide)) (s_vret (pc := 26) X E hr dX8_move_26))))))))))))))))), fun _ h => absurd h List.not_mem_nil⟩)
theorem dX11_pour_0 : decode cX11_pour 0 = .ok (.aload_n 0, 1) := by decide +kernel
theorem dX11_pour_1 : decode cX11_pour 1 = .ok (.aload_n 0, 1) := by decide +kernel
theorem dX11_pour_2 : decode cX11_pour 2 = .ok (.getfield 23, 3) := by decide +kernel
theorem dX11_pour_5 : decode cX11_pour 5 = .ok (.iload_n 1, 1) := by decide +kernel
theorem dX11_pour_6 : decode cX11_pour 6 = .ok (.iload_n 2, 1) := by decide +kernel
theorem dX11_pour_7 : decode cX11_pour 7 = .ok (.iload_n 3, 1) := by decide +kernel
theorem dX11_pour_8 : decode cX11_pour 8 = .ok (.iload 4, 2) := by decide +kernel
theorem dX11_pour_10 : decode cX11_pour 10 = .ok (.iload 5, 2) := by decide +kernel
theorem dX11_pour_12 : decode cX11_pour 12 = .ok (.invokevirtual 123, 3) := by decide +kernel
theorem dX11_pour_15 : decode cX11_pour 15 = .ok (.putfield 9, 3) := by decide +kernel
theorem dX11_pour_18 : decode cX11_pour 18 = .ok (.aload_n 0, 1) := by decide +kernel
theorem dX11_pour_19 : decode cX11_pour 19 = .ok (.getfield 9, 3) := by decide +kernel
theorem dX11_pour_22 : decode cX11_pour 22 = .ok (.ifCond .ne 17, 3) := by decide +kernel
theorem dX11_pour_25 : decode cX11_pour 25 = .ok (.aload_n 0, 1) := by decide +kernel
theorem dX11_pour_26 : decode cX11_pour 26 = .ok (.getfield 23, 3) := by decide +kernel
theorem dX11_pour_29 : decode cX11_pour 29 = .ok (.iload_n 1, 1) := by decide +kernel
theorem dX11_pour_30 : decode cX11_pour 30 = .ok (.iload_n 2, 1) := by decide +kernel
theorem dX11_pour_31 : decode cX11_pour 31 = .ok (.iload_n 3, 1) := by decide +kernel
theorem dX11_pour_32 : decode cX11_pour 32 = .ok (.iload 4, 2) := by decide +kernel
theorem dX11_pour_34 : decode cX11_pour 34 = .ok (.iload 5, 2) := by decide +kernel
theorem dX11_pour_36 : decode cX11_pour 36 = .ok (.invokevirtual 127, 3) := by decide +kernel
theorem dX11_pour_39 : decode cX11_pour 39 = .ok (.aload_n 0, 1) := by decide +kernel
theorem dX11_pour_40 : decode cX11_pour 40 = .ok (.getfield 9, 3) := by decide +kernel
theorem dX11_pour_43 : decode cX11_pour 43 = .ok (.ifCond .ne 7, 3) := by decide +kernel
theorem dX11_pour_46 : decode cX11_pour 46 = .ok (.iconst 1, 1) := by decide +kernel
theorem dX11_pour_47 : decode cX11_pour 47 = .ok (.goto 4, 3) := by decide +kernel
theorem dX11_pour_50 : decode cX11_pour 50 = .ok (.iconst 0, 1) := by decide +kernel
theorem dX11_pour_51 : decode cX11_pour 51 = .ok (.ireturn, 1) := by decide +kernel
noncomputable def B_X11_pour_0 : pb_C := (i_aload 0 (i_aload 0 (i_getR 0 1 (i_iload 1 (i_iload 2 (i_iload 3 (i_iload 4 (i_iload 5 (i_callV 1 5 1 M_X8_pourStatus (i_putI 0 0 (i_aload 0 (i_getI 0 0 (i_if_ne (i_aload 0 (i_getI 0 0 (i_if_ne (i_const (.int 0) i_zret) (i_const (.int 1) i_zret)))) (i_aload 0 (i_getR 0 1 (i_iload 1 (i_iload 2 (i_iload 3 (i_iload 4 (i_iload 5 (i_callV 1 5 0 M_X8_move (i_aload 0 (i_getI 0 0 (i_if_ne (i_const (.int 0) i_zret) (i_const (.int 1) i_zret)))))))))))))))))))))))))
noncomputable def T_X11_pour : Nat → pb_C := pb_tt [(0, B_X11_pour_0)]
noncomputable def M_X11_pour : pb_F := pb_M T_X11_pour 6
set_option maxRecDepth 100000 in
set_option maxHeartbeats 4000000 in
theorem S_X11_pour (l : Launch) : pb_Sound l yX11_pour cX11_pour 6 (some .boolean) 3 M_X11_pour := by
  refine pb_sound_of (by decide) m_3_100 ?_
  intro Γ hl0 hRm0 hm X E hr J
  have hnL : ∀ j, j < 6 → j < Γ.2.2.2.2.2.2.2.2.2.2.2.1 := fun j h => by rw [hm]; exact h
  have hR : ∀ (d' mL : Nat), d' + 1 ≤ 3 ∧ 8 + (mL + 11) + d' * 64 ≤ 3 * 64 → (pb_rm d').frames + 1 ≤ Γ.2.2.2.1.frames ∧ 8 + (mL + 11) + (pb_rm d').locals ≤ Γ.2.2.2.1.locals := by rw [hRm0]; exact fun _ _ h => h
  have hRm : 1 ≤ 3 ∧ 64 ≤ 3 * 64 → 1 ≤ Γ.2.2.2.1.frames ∧ 64 ≤ Γ.2.2.2.1.locals := by rw [hRm0]; exact fun h => h
  exact pb_tt_snd _ (List.forall_mem_cons.mpr ⟨(s_aload_n (pc := 0) X dX11_pour_0 rfl (s_aload_n (pc := 1) X dX11_pour_1 rfl (s_getR (pc := 2) X dX11_pour_2 g_X11_23 (s_iload_n (pc := 5) X dX11_pour_5 rfl (s_iload_n (pc := 6) X dX11_pour_6 rfl (s_iload_n (pc := 7) X dX11_pour_7 rfl (s_iload (pc := 8) X dX11_pour_8 (s_iload (pc := 10) X dX11_pour_10 (s_callV (pc := 12) X dX11_pour_12 (S_X8_pourStatus _) q_X11_123 h_1 rfl (hR _ _ (by decide)) (s_putI (pc := 15) X dX11_pour_15 p_X11_9 (s_aload_n (pc := 18) X dX11_pour_18 rfl (s_getI (pc := 19) X dX11_pour_19 g_X11_9 (s_if_ne (pc := 22) X dX11_pour_22 (by decide) (s_aload_n (pc := 39) X dX11_pour_39 rfl (s_getI (pc := 40) X dX11_pour_40 g_X11_9 (s_if_ne (pc := 43) X dX11_pour_43 (by decide) (s_iconst (pc := 50) X dX11_pour_50 rfl (s_zret (pc := 51) X E hr dX11_pour_51)) (s_iconst (pc := 46) X dX11_pour_46 rfl (s_goto (pc := 47) X dX11_pour_47 (by decide) (s_zret (pc := 51) X E hr dX11_pour_51)))))) (s_aload_n (pc := 25) X dX11_pour_25 rfl (s_getR (pc := 26) X dX11_pour_26 g_X11_23 (s_iload_n (pc := 29) X dX11_pour_29 rfl (s_iload_n (pc := 30) X dX11_pour_30 rfl (s_iload_n (pc := 31) X dX11_pour_31 rfl (s_iload (pc := 32) X dX11_pour_32 (s_iload (pc := 34) X dX11_pour_34 (s_callV (pc := 36) X dX11_pour_36 (S_X8_move _) q_X11_127 h_1 rfl (hR _ _ (by decide)) (s_aload_n (pc := 39) X dX11_pour_39 rfl (s_getI (pc := 40) X dX11_pour_40 g_X11_9 (s_if_ne (pc := 43) X dX11_pour_43 (by decide) (s_iconst (pc := 50) X dX11_pour_50 rfl (s_zret (pc := 51) X E hr dX11_pour_51)) (s_iconst (pc := 46) X dX11_pour_46 rfl (s_goto (pc := 47) X dX11_pour_47 (by decide) (s_zret (pc := 51) X E hr dX11_pour_51))))))))))))))))))))))))))), fun _ h => absurd h List.not_mem_nil⟩)
theorem dX1_addFamily_0 : decode cX1_addFamily 0 = .ok (.aload_n 0, 1) := by decide +kernel
theorem dX1_addFamily_1 : decode cX1_addFamily 1 = .ok (.getfield 9, 3) := by decide +kernel
theorem dX1_addFamily_4 : decode cX1_addFamily 4 = .ok (.aload_n 0, 1) := by decide +kernel
theorem dX1_addFamily_5 : decode cX1_addFamily 5 = .ok (.getfield 63, 3) := by decide +kernel
theorem dX1_addFamily_8 : decode cX1_addFamily 8 = .ok (.iload_n 1, 1) := by decide +kernel
theorem dX1_addFamily_9 : decode cX1_addFamily 9 = .ok (.iastore, 1) := by decide +kernel
theorem dX1_addFamily_10 : decode cX1_addFamily 10 = .ok (.aload_n 0, 1) := by decide +kernel
theorem dX1_addFamily_11 : decode cX1_addFamily 11 = .ok (.getfield 15, 3) := by decide +kernel
theorem dX1_addFamily_14 : decode cX1_addFamily 14 = .ok (.aload_n 0, 1) := by decide +kernel
theorem dX1_addFamily_15 : decode cX1_addFamily 15 = .ok (.getfield 63, 3) := by decide +kernel
theorem dX1_addFamily_18 : decode cX1_addFamily 18 = .ok (.iload_n 2, 1) := by decide +kernel
theorem dX1_addFamily_19 : decode cX1_addFamily 19 = .ok (.iastore, 1) := by decide +kernel
theorem dX1_addFamily_20 : decode cX1_addFamily 20 = .ok (.aload_n 0, 1) := by decide +kernel
theorem dX1_addFamily_21 : decode cX1_addFamily 21 = .ok (.dup, 1) := by decide +kernel
theorem dX1_addFamily_22 : decode cX1_addFamily 22 = .ok (.getfield 63, 3) := by decide +kernel
theorem dX1_addFamily_25 : decode cX1_addFamily 25 = .ok (.iconst 1, 1) := by decide +kernel
theorem dX1_addFamily_26 : decode cX1_addFamily 26 = .ok (.iadd, 1) := by decide +kernel
theorem dX1_addFamily_27 : decode cX1_addFamily 27 = .ok (.putfield 63, 3) := by decide +kernel
theorem dX1_addFamily_30 : decode cX1_addFamily 30 = .ok (.aload_n 0, 1) := by decide +kernel
theorem dX1_addFamily_31 : decode cX1_addFamily 31 = .ok (.getfield 63, 3) := by decide +kernel
theorem dX1_addFamily_34 : decode cX1_addFamily 34 = .ok (.iconst 1, 1) := by decide +kernel
theorem dX1_addFamily_35 : decode cX1_addFamily 35 = .ok (.isub, 1) := by decide +kernel
theorem dX1_addFamily_36 : decode cX1_addFamily 36 = .ok (.ireturn, 1) := by decide +kernel
noncomputable def B_X1_addFamily_0 : pb_C := (i_aload 0 (i_getR 5 6 (i_aload 0 (i_getI 5 0 (i_iload 1 (i_ast 6 12 (fun x => x) (i_aload 0 (i_getR 5 7 (i_aload 0 (i_getI 5 0 (i_iload 2 (i_ast 7 12 (fun x => x) (i_aload 0 (i_dupR (i_getI 5 0 (i_const (.int 1) (i_ibin (· + ·) (i_putI 5 0 (i_aload 0 (i_getI 5 0 (i_const (.int 1) (i_ibin (· - ·) i_iret))))))))))))))))))))))
noncomputable def T_X1_addFamily : Nat → pb_C := pb_tt [(0, B_X1_addFamily_0)]
noncomputable def M_X1_addFamily : pb_F := pb_M T_X1_addFamily 3
set_option maxRecDepth 100000 in
set_option maxHeartbeats 4000000 in
theorem S_X1_addFamily (l : Launch) : pb_Sound l yX1_addFamily cX1_addFamily 3 (some .int) 1 M_X1_addFamily := by
  refine pb_sound_of (by decide) m_3_119 ?_
  intro Γ hl0 hRm0 hm X E hr J
  have hnL : ∀ j, j < 3 → j < Γ.2.2.2.2.2.2.2.2.2.2.2.1 := fun j h => by rw [hm]; exact h
  have hR : ∀ (d' mL : Nat), d' + 1 ≤ 1 ∧ 8 + (mL + 11) + d' * 64 ≤ 1 * 64 → (pb_rm d').frames + 1 ≤ Γ.2.2.2.1.frames ∧ 8 + (mL + 11) + (pb_rm d').locals ≤ Γ.2.2.2.1.locals := by rw [hRm0]; exact fun _ _ h => h
  have hRm : 1 ≤ 1 ∧ 64 ≤ 1 * 64 → 1 ≤ Γ.2.2.2.1.frames ∧ 64 ≤ Γ.2.2.2.1.locals := by rw [hRm0]; exact fun h => h
  exact pb_tt_snd _ (List.forall_mem_cons.mpr ⟨(s_aload_n (pc := 0) X dX1_addFamily_0 rfl (s_getR (pc := 1) X dX1_addFamily_1 g_X1_9 (s_aload_n (pc := 4) X dX1_addFamily_4 rfl (s_getI (pc := 5) X dX1_addFamily_5 g_X1_63 (s_iload_n (pc := 8) X dX1_addFamily_8 rfl (s_iast (pc := 9) X dX1_addFamily_9 h_6 (s_aload_n (pc := 10) X dX1_addFamily_10 rfl (s_getR (pc := 11) X dX1_addFamily_11 g_X1_15 (s_aload_n (pc := 14) X dX1_addFamily_14 rfl (s_getI (pc := 15) X dX1_addFamily_15 g_X1_63 (s_iload_n (pc := 18) X dX1_addFamily_18 rfl (s_iast (pc := 19) X dX1_addFamily_19 h_7 (s_aload_n (pc := 20) X dX1_addFamily_20 rfl (s_dupR (pc := 21) X dX1_addFamily_21 (s_getI (pc := 22) X dX1_addFamily_22 g_X1_63 (s_iconst (pc := 25) X dX1_addFamily_25 rfl (s_iadd (pc := 26) X dX1_addFamily_26 (s_putI (pc := 27) X dX1_addFamily_27 p_X1_63 (s_aload_n (pc := 30) X dX1_addFamily_30 rfl (s_getI (pc := 31) X dX1_addFamily_31 g_X1_63 (s_iconst (pc := 34) X dX1_addFamily_34 rfl (s_isub (pc := 35) X dX1_addFamily_35 (s_iret (pc := 36) X E hr dX1_addFamily_36))))))))))))))))))))))), fun _ h => absurd h List.not_mem_nil⟩)
theorem dX11_family_0 : decode cX11_family 0 = .ok (.iload_n 1, 1) := by decide +kernel
theorem dX11_family_1 : decode cX11_family 1 = .ok (.iconst 0, 1) := by decide +kernel
theorem dX11_family_2 : decode cX11_family 2 = .ok (.iconst 3, 1) := by decide +kernel
theorem dX11_family_3 : decode cX11_family 3 = .ok (.invokestatic 101, 3) := by decide +kernel
theorem dX11_family_6 : decode cX11_family 6 = .ok (.ifCond .ne 12, 3) := by decide +kernel
theorem dX11_family_9 : decode cX11_family 9 = .ok (.iload_n 2, 1) := by decide +kernel
theorem dX11_family_10 : decode cX11_family 10 = .ok (.iconst 0, 1) := by decide +kernel
theorem dX11_family_11 : decode cX11_family 11 = .ok (.iconst 3, 1) := by decide +kernel
theorem dX11_family_12 : decode cX11_family 12 = .ok (.invokestatic 101, 3) := by decide +kernel
theorem dX11_family_15 : decode cX11_family 15 = .ok (.ifCond .eq 11, 3) := by decide +kernel
theorem dX11_family_18 : decode cX11_family 18 = .ok (.aload_n 0, 1) := by decide +kernel
theorem dX11_family_19 : decode cX11_family 19 = .ok (.iconst 1, 1) := by decide +kernel
theorem dX11_family_20 : decode cX11_family 20 = .ok (.putfield 9, 3) := by decide +kernel
theorem dX11_family_23 : decode cX11_family 23 = .ok (.goto 24, 3) := by decide +kernel
theorem dX11_family_26 : decode cX11_family 26 = .ok (.aload_n 0, 1) := by decide +kernel
theorem dX11_family_27 : decode cX11_family 27 = .ok (.aload_n 0, 1) := by decide +kernel
theorem dX11_family_28 : decode cX11_family 28 = .ok (.getfield 30, 3) := by decide +kernel
theorem dX11_family_31 : decode cX11_family 31 = .ok (.getfield 131, 3) := by decide +kernel
theorem dX11_family_34 : decode cX11_family 34 = .ok (.bipush 12, 2) := by decide +kernel
theorem dX11_family_36 : decode cX11_family 36 = .ok (.if_icmp .lt 7, 3) := by decide +kernel
theorem dX11_family_39 : decode cX11_family 39 = .ok (.iconst 4, 1) := by decide +kernel
theorem dX11_family_40 : decode cX11_family 40 = .ok (.goto 4, 3) := by decide +kernel
theorem dX11_family_43 : decode cX11_family 43 = .ok (.iconst 0, 1) := by decide +kernel
theorem dX11_family_44 : decode cX11_family 44 = .ok (.putfield 9, 3) := by decide +kernel
theorem dX11_family_47 : decode cX11_family 47 = .ok (.aload_n 0, 1) := by decide +kernel
theorem dX11_family_48 : decode cX11_family 48 = .ok (.getfield 9, 3) := by decide +kernel
theorem dX11_family_51 : decode cX11_family 51 = .ok (.ifCond .ne 15, 3) := by decide +kernel
theorem dX11_family_54 : decode cX11_family 54 = .ok (.aload_n 0, 1) := by decide +kernel
theorem dX11_family_55 : decode cX11_family 55 = .ok (.getfield 30, 3) := by decide +kernel
theorem dX11_family_58 : decode cX11_family 58 = .ok (.iload_n 1, 1) := by decide +kernel
theorem dX11_family_59 : decode cX11_family 59 = .ok (.iload_n 2, 1) := by decide +kernel
theorem dX11_family_60 : decode cX11_family 60 = .ok (.invokevirtual 134, 3) := by decide +kernel
theorem dX11_family_63 : decode cX11_family 63 = .ok (.goto 4, 3) := by decide +kernel
theorem dX11_family_66 : decode cX11_family 66 = .ok (.iconst (-1), 1) := by decide +kernel
theorem dX11_family_67 : decode cX11_family 67 = .ok (.ireturn, 1) := by decide +kernel
noncomputable def B_X11_family_0 : pb_C := (i_iload 1 (i_const (.int 0) (i_const (.int 3) (i_callS 3 1 M_X11_outside (i_if_ne (i_jmp 18 [true, true, true]) (i_iload 2 (i_const (.int 0) (i_const (.int 3) (i_callS 3 1 M_X11_outside (i_if_eq (i_aload 0 (i_aload 0 (i_getR 0 5 (i_getI 5 0 (i_const (.int 12) (i_ic_lt (i_const (.int 0) (i_jmp 44 [true, true, true])) (i_const (.int 4) (i_jmp 44 [true, true, true])))))))) (i_jmp 18 [true, true, true])))))))))))
noncomputable def B_X11_family_18 : pb_C := (i_aload 0 (i_const (.int 1) (i_putI 0 0 (i_aload 0 (i_getI 0 0 (i_if_ne (i_const (.int (-1)) i_iret) (i_aload 0 (i_getR 0 5 (i_iload 1 (i_iload 2 (i_callV 5 2 1 M_X1_addFamily i_iret)))))))))))
noncomputable def B_X11_family_44 : pb_C := (i_putI 0 0 (i_aload 0 (i_getI 0 0 (i_if_ne (i_const (.int (-1)) i_iret) (i_aload 0 (i_getR 0 5 (i_iload 1 (i_iload 2 (i_callV 5 2 1 M_X1_addFamily i_iret)))))))))
noncomputable def T_X11_family : Nat → pb_C := pb_tt [(0, B_X11_family_0), (18, B_X11_family_18), (44, B_X11_family_44)]
noncomputable def M_X11_family : pb_F := pb_M T_X11_family 3
set_option maxRecDepth 100000 in
set_option maxHeartbeats 4000000 in
theorem S_X11_family (l : Launch) : pb_Sound l yX11_family cX11_family 3 (some .int) 2 M_X11_family := by
  refine pb_sound_of (by decide) m_3_115 ?_
  intro Γ hl0 hRm0 hm X E hr J
  have hnL : ∀ j, j < 3 → j < Γ.2.2.2.2.2.2.2.2.2.2.2.1 := fun j h => by rw [hm]; exact h
  have hR : ∀ (d' mL : Nat), d' + 1 ≤ 2 ∧ 8 + (mL + 11) + d' * 64 ≤ 2 * 64 → (pb_rm d').frames + 1 ≤ Γ.2.2.2.1.frames ∧ 8 + (mL + 11) + (pb_rm d').locals ≤ Γ.2.2.2.1.locals := by rw [hRm0]; exact fun _ _ h => h
  have hRm : 1 ≤ 2 ∧ 64 ≤ 2 * 64 → 1 ≤ Γ.2.2.2.1.frames ∧ 64 ≤ Γ.2.2.2.1.locals := by rw [hRm0]; exact fun h => h
  exact pb_tt_snd _ (List.forall_mem_cons.mpr ⟨(s_iload_n (pc := 0) X dX11_family_0 rfl (s_iconst (pc := 1) X dX11_family_1 rfl (s_iconst (pc := 2) X dX11_family_2 rfl (s_callS (pc := 3) X dX11_family_3 (S_X11_outside _) q_X11_101 (hR _ _ (by decide)) (s_if_ne (pc := 6) X dX11_family_6 (by decide) (s_jmp (pc := 18) J [true, true, true]) (s_iload_n (pc := 9) X dX11_family_9 rfl (s_iconst (pc := 10) X dX11_family_10 rfl (s_iconst (pc := 11) X dX11_family_11 rfl (s_callS (pc := 12) X dX11_family_12 (S_X11_outside _) q_X11_101 (hR _ _ (by decide)) (s_if_eq (pc := 15) X dX11_family_15 (by decide) (s_aload_n (pc := 26) X dX11_family_26 rfl (s_aload_n (pc := 27) X dX11_family_27 rfl (s_getR (pc := 28) X dX11_family_28 g_X11_30 (s_getI (pc := 31) X dX11_family_31 g_X11_131 (s_bipush (pc := 34) X dX11_family_34 rfl (s_ic_lt (pc := 36) X dX11_family_36 (by decide) (s_iconst (pc := 43) X dX11_family_43 rfl (s_jmp (pc := 44) J [true, true, true])) (s_iconst (pc := 39) X dX11_family_39 rfl (s_goto (pc := 40) X dX11_family_40 (by decide) (s_jmp (pc := 44) J [true, true, true]))))))))) (s_jmp (pc := 18) J [true, true, true]))))))))))), List.forall_mem_cons.mpr ⟨(s_aload_n (pc := 18) X dX11_family_18 rfl (s_iconst (pc := 19) X dX11_family_19 rfl (s_putI (pc := 20) X dX11_family_20 p_X11_9 (s_goto (pc := 23) X dX11_family_23 (by decide) (s_aload_n (pc := 47) X dX11_family_47 rfl (s_getI (pc := 48) X dX11_family_48 g_X11_9 (s_if_ne (pc := 51) X dX11_family_51 (by decide) (s_iconst (pc := 66) X dX11_family_66 rfl (s_iret (pc := 67) X E hr dX11_family_67)) (s_aload_n (pc := 54) X dX11_family_54 rfl (s_getR (pc := 55) X dX11_family_55 g_X11_30 (s_iload_n (pc := 58) X dX11_family_58 rfl (s_iload_n (pc := 59) X dX11_family_59 rfl (s_callV (pc := 60) X dX11_family_60 (S_X1_addFamily _) q_X11_134 h_5 rfl (hR _ _ (by decide)) (s_goto (pc := 63) X dX11_family_63 (by decide) (s_iret (pc := 67) X E hr dX11_family_67)))))))))))))), List.forall_mem_cons.mpr ⟨(s_putI (pc := 44) X dX11_family_44 p_X11_9 (s_aload_n (pc := 47) X dX11_family_47 rfl (s_getI (pc := 48) X dX11_family_48 g_X11_9 (s_if_ne (pc := 51) X dX11_family_51 (by decide) (s_iconst (pc := 66) X dX11_family_66 rfl (s_iret (pc := 67) X E hr dX11_family_67)) (s_aload_n (pc := 54) X dX11_family_54 rfl (s_getR (pc := 55) X dX11_family_55 g_X11_30 (s_iload_n (pc := 58) X dX11_family_58 rfl (s_iload_n (pc := 59) X dX11_family_59 rfl (s_callV (pc := 60) X dX11_family_60 (S_X1_addFamily _) q_X11_134 h_5 rfl (hR _ _ (by decide)) (s_goto (pc := 63) X dX11_family_63 (by decide) (s_iret (pc := 67) X E hr dX11_family_67))))))))))), fun _ h => absurd h List.not_mem_nil⟩⟩⟩)
theorem dX1_wordOrNone_0 : decode cX1_wordOrNone 0 = .ok (.lload_n 0, 1) := by decide +kernel
theorem dX1_wordOrNone_1 : decode cX1_wordOrNone 1 = .ok (.lstore_n 2, 1) := by decide +kernel
theorem dX1_wordOrNone_2 : decode cX1_wordOrNone 2 = .ok (.iconst 0, 1) := by decide +kernel
theorem dX1_wordOrNone_3 : decode cX1_wordOrNone 3 = .ok (.istore 4, 2) := by decide +kernel
theorem dX1_wordOrNone_5 : decode cX1_wordOrNone 5 = .ok (.iload 4, 2) := by decide +kernel
theorem dX1_wordOrNone_7 : decode cX1_wordOrNone 7 = .ok (.bipush 8, 2) := by decide +kernel
theorem dX1_wordOrNone_9 : decode cX1_wordOrNone 9 = .ok (.if_icmp .ge 36, 3) := by decide +kernel
theorem dX1_wordOrNone_12 : decode cX1_wordOrNone 12 = .ok (.lload_n 2, 1) := by decide +kernel
theorem dX1_wordOrNone_13 : decode cX1_wordOrNone 13 = .ok (.lconst 0, 1) := by decide +kernel
theorem dX1_wordOrNone_14 : decode cX1_wordOrNone 14 = .ok (.lcmp, 1) := by decide +kernel
theorem dX1_wordOrNone_15 : decode cX1_wordOrNone 15 = .ok (.ifCond .eq 30, 3) := by decide +kernel
theorem dX1_wordOrNone_18 : decode cX1_wordOrNone 18 = .ok (.lload_n 2, 1) := by decide +kernel
theorem dX1_wordOrNone_19 : decode cX1_wordOrNone 19 = .ok (.ldc2_w 79, 3) := by decide +kernel
theorem dX1_wordOrNone_22 : decode cX1_wordOrNone 22 = .ok (.land, 1) := by decide +kernel
theorem dX1_wordOrNone_23 : decode cX1_wordOrNone 23 = .ok (.l2i, 1) := by decide +kernel
theorem dX1_wordOrNone_24 : decode cX1_wordOrNone 24 = .ok (.iconst 1, 1) := by decide +kernel
theorem dX1_wordOrNone_25 : decode cX1_wordOrNone 25 = .ok (.bipush 26, 2) := by decide +kernel
theorem dX1_wordOrNone_27 : decode cX1_wordOrNone 27 = .ok (.invokestatic 81, 3) := by decide +kernel
theorem dX1_wordOrNone_30 : decode cX1_wordOrNone 30 = .ok (.ifCond .eq 5, 3) := by decide +kernel
theorem dX1_wordOrNone_33 : decode cX1_wordOrNone 33 = .ok (.iconst 0, 1) := by decide +kernel
theorem dX1_wordOrNone_34 : decode cX1_wordOrNone 34 = .ok (.ireturn, 1) := by decide +kernel
theorem dX1_wordOrNone_35 : decode cX1_wordOrNone 35 = .ok (.lload_n 2, 1) := by decide +kernel
theorem dX1_wordOrNone_36 : decode cX1_wordOrNone 36 = .ok (.iconst 5, 1) := by decide +kernel
theorem dX1_wordOrNone_37 : decode cX1_wordOrNone 37 = .ok (.lushr, 1) := by decide +kernel
theorem dX1_wordOrNone_38 : decode cX1_wordOrNone 38 = .ok (.lstore_n 2, 1) := by decide +kernel
theorem dX1_wordOrNone_39 : decode cX1_wordOrNone 39 = .ok (.iinc 4 1, 3) := by decide +kernel
theorem dX1_wordOrNone_42 : decode cX1_wordOrNone 42 = .ok (.goto (-37), 3) := by decide +kernel
theorem dX1_wordOrNone_45 : decode cX1_wordOrNone 45 = .ok (.lload_n 2, 1) := by decide +kernel
theorem dX1_wordOrNone_46 : decode cX1_wordOrNone 46 = .ok (.lconst 0, 1) := by decide +kernel
theorem dX1_wordOrNone_47 : decode cX1_wordOrNone 47 = .ok (.lcmp, 1) := by decide +kernel
theorem dX1_wordOrNone_48 : decode cX1_wordOrNone 48 = .ok (.ifCond .ne 7, 3) := by decide +kernel
theorem dX1_wordOrNone_51 : decode cX1_wordOrNone 51 = .ok (.iconst 1, 1) := by decide +kernel
theorem dX1_wordOrNone_52 : decode cX1_wordOrNone 52 = .ok (.goto 4, 3) := by decide +kernel
theorem dX1_wordOrNone_55 : decode cX1_wordOrNone 55 = .ok (.iconst 0, 1) := by decide +kernel
theorem dX1_wordOrNone_56 : decode cX1_wordOrNone 56 = .ok (.ireturn, 1) := by decide +kernel
noncomputable def B_X1_wordOrNone_0 : pb_C := (i_lload 0 (i_lstore 2 (i_const (.int 0) (i_istore 4 (i_jmp 5 [false, false, true, false, true])))))
noncomputable def B_X1_wordOrNone_5 : pb_C := (i_iload 4 (i_const (.int 8) (i_ic_ge (i_lload 2 (i_const (.long 0) (i_lcmp (i_if_ne (i_const (.int 0) i_zret) (i_const (.int 1) i_zret))))) (i_lload 2 (i_const (.long 0) (i_lcmp (i_if_eq (i_lload 2 (i_const (.long 0) (i_lcmp (i_if_ne (i_const (.int 0) i_zret) (i_const (.int 1) i_zret))))) (i_lload 2 (i_const (.long (31)) (i_lbin (· &&& ·) (i_l2i (i_const (.int 1) (i_const (.int 26) (i_callS 3 1 M_X11_outside (i_if_eq (i_lload 2 (i_const (.int 5) (i_lsh (fun x y => (x.toUInt64 >>> (y.toInt64.toUInt64 &&& Int64.toUInt64 63)).toInt64) (i_lstore 2 (i_iinc 4 1 (i_jmp 5 [false, false, true, false, true])))))) (i_const (.int 0) i_zret))))))))))))))))
noncomputable def T_X1_wordOrNone : Nat → pb_C := pb_tt [(0, B_X1_wordOrNone_0), (5, B_X1_wordOrNone_5)]
noncomputable def M_X1_wordOrNone : pb_F := pb_M T_X1_wordOrNone 5
set_option maxRecDepth 100000 in
set_option maxHeartbeats 4000000 in
theorem S_X1_wordOrNone (l : Launch) : pb_Sound l yX1_wordOrNone cX1_wordOrNone 5 (some .boolean) 2 M_X1_wordOrNone := by
  refine pb_sound_of (by decide) m_3_126 ?_
  intro Γ hl0 hRm0 hm X E hr J
  have hnL : ∀ j, j < 5 → j < Γ.2.2.2.2.2.2.2.2.2.2.2.1 := fun j h => by rw [hm]; exact h
  have hR : ∀ (d' mL : Nat), d' + 1 ≤ 2 ∧ 8 + (mL + 11) + d' * 64 ≤ 2 * 64 → (pb_rm d').frames + 1 ≤ Γ.2.2.2.1.frames ∧ 8 + (mL + 11) + (pb_rm d').locals ≤ Γ.2.2.2.1.locals := by rw [hRm0]; exact fun _ _ h => h
  have hRm : 1 ≤ 2 ∧ 64 ≤ 2 * 64 → 1 ≤ Γ.2.2.2.1.frames ∧ 64 ≤ Γ.2.2.2.1.locals := by rw [hRm0]; exact fun h => h
  exact pb_tt_snd _ (List.forall_mem_cons.mpr ⟨(s_lload_n (pc := 0) X dX1_wordOrNone_0 rfl (s_lstore_n (pc := 1) X dX1_wordOrNone_1 rfl (hnL _ (by decide)) (s_iconst (pc := 2) X dX1_wordOrNone_2 rfl (s_istore (pc := 3) X dX1_wordOrNone_3 (hnL _ (by decide)) (s_jmp (pc := 5) J [false, false, true, false, true]))))), List.forall_mem_cons.mpr ⟨(s_iload (pc := 5) X dX1_wordOrNone_5 (s_bipush (pc := 7) X dX1_wordOrNone_7 rfl (s_ic_ge (pc := 9) X dX1_wordOrNone_9 (by decide) (s_lload_n (pc := 45) X dX1_wordOrNone_45 rfl (s_lconst (pc := 46) X dX1_wordOrNone_46 rfl (s_lcmp (pc := 47) X dX1_wordOrNone_47 (s_if_ne (pc := 48) X dX1_wordOrNone_48 (by decide) (s_iconst (pc := 55) X dX1_wordOrNone_55 rfl (s_zret (pc := 56) X E hr dX1_wordOrNone_56)) (s_iconst (pc := 51) X dX1_wordOrNone_51 rfl (s_goto (pc := 52) X dX1_wordOrNone_52 (by decide) (s_zret (pc := 56) X E hr dX1_wordOrNone_56))))))) (s_lload_n (pc := 12) X dX1_wordOrNone_12 rfl (s_lconst (pc := 13) X dX1_wordOrNone_13 rfl (s_lcmp (pc := 14) X dX1_wordOrNone_14 (s_if_eq (pc := 15) X dX1_wordOrNone_15 (by decide) (s_lload_n (pc := 45) X dX1_wordOrNone_45 rfl (s_lconst (pc := 46) X dX1_wordOrNone_46 rfl (s_lcmp (pc := 47) X dX1_wordOrNone_47 (s_if_ne (pc := 48) X dX1_wordOrNone_48 (by decide) (s_iconst (pc := 55) X dX1_wordOrNone_55 rfl (s_zret (pc := 56) X E hr dX1_wordOrNone_56)) (s_iconst (pc := 51) X dX1_wordOrNone_51 rfl (s_goto (pc := 52) X dX1_wordOrNone_52 (by decide) (s_zret (pc := 56) X E hr dX1_wordOrNone_56))))))) (s_lload_n (pc := 18) X dX1_wordOrNone_18 rfl (s_ldc2 (pc := 19) X dX1_wordOrNone_19 m_3_127 (s_land (pc := 22) X dX1_wordOrNone_22 (s_l2i (pc := 23) X dX1_wordOrNone_23 (s_iconst (pc := 24) X dX1_wordOrNone_24 rfl (s_bipush (pc := 25) X dX1_wordOrNone_25 rfl (s_callS (pc := 27) X dX1_wordOrNone_27 (S_X11_outside _) q_X1_81 (hR _ _ (by decide)) (s_if_eq (pc := 30) X dX1_wordOrNone_30 (by decide) (s_lload_n (pc := 35) X dX1_wordOrNone_35 rfl (s_iconst (pc := 36) X dX1_wordOrNone_36 rfl (s_lushr (pc := 37) X dX1_wordOrNone_37 (s_lstore_n (pc := 38) X dX1_wordOrNone_38 rfl (hnL _ (by decide)) (s_iinc (pc := 39) X dX1_wordOrNone_39 rfl (s_goto (pc := 42) X dX1_wordOrNone_42 (by decide) (s_jmp (pc := 5) J [false, false, true, false, true]))))))) (s_iconst (pc := 33) X dX1_wordOrNone_33 rfl (s_zret (pc := 34) X E hr dX1_wordOrNone_34))))))))))))))))), fun _ h => absurd h List.not_mem_nil⟩⟩)
theorem dX1_tellWords_0 : decode cX1_tellWords 0 = .ok (.aload_n 0, 1) := by decide +kernel
theorem dX1_tellWords_1 : decode cX1_tellWords 1 = .ok (.getfield 56, 3) := by decide +kernel
theorem dX1_tellWords_4 : decode cX1_tellWords 4 = .ok (.iconst 0, 1) := by decide +kernel
theorem dX1_tellWords_5 : decode cX1_tellWords 5 = .ok (.lload_n 1, 1) := by decide +kernel
theorem dX1_tellWords_6 : decode cX1_tellWords 6 = .ok (.lastore, 1) := by decide +kernel
theorem dX1_tellWords_7 : decode cX1_tellWords 7 = .ok (.aload_n 0, 1) := by decide +kernel
theorem dX1_tellWords_8 : decode cX1_tellWords 8 = .ok (.getfield 56, 3) := by decide +kernel
theorem dX1_tellWords_11 : decode cX1_tellWords 11 = .ok (.iconst 1, 1) := by decide +kernel
theorem dX1_tellWords_12 : decode cX1_tellWords 12 = .ok (.lload_n 3, 1) := by decide +kernel
theorem dX1_tellWords_13 : decode cX1_tellWords 13 = .ok (.lastore, 1) := by decide +kernel
theorem dX1_tellWords_14 : decode cX1_tellWords 14 = .ok (.aload_n 0, 1) := by decide +kernel
theorem dX1_tellWords_15 : decode cX1_tellWords 15 = .ok (.getfield 56, 3) := by decide +kernel
theorem dX1_tellWords_18 : decode cX1_tellWords 18 = .ok (.iconst 2, 1) := by decide +kernel
theorem dX1_tellWords_19 : decode cX1_tellWords 19 = .ok (.lload 5, 2) := by decide +kernel
theorem dX1_tellWords_21 : decode cX1_tellWords 21 = .ok (.lastore, 1) := by decide +kernel
theorem dX1_tellWords_22 : decode cX1_tellWords 22 = .ok (.return_, 1) := by decide +kernel
noncomputable def B_X1_tellWords_0 : pb_C := (i_aload 0 (i_getR 5 20 (i_const (.int 0) (i_lload 1 (i_last 20 3 (i_aload 0 (i_getR 5 20 (i_const (.int 1) (i_lload 3 (i_last 20 3 (i_aload 0 (i_getR 5 20 (i_const (.int 2) (i_lload 5 (i_last 20 3 i_vret)))))))))))))))
noncomputable def T_X1_tellWords : Nat → pb_C := pb_tt [(0, B_X1_tellWords_0)]
noncomputable def M_X1_tellWords : pb_F := pb_M T_X1_tellWords 7
set_option maxRecDepth 100000 in
set_option maxHeartbeats 4000000 in
theorem S_X1_tellWords (l : Launch) : pb_Sound l yX1_tellWords cX1_tellWords 7 none 1 M_X1_tellWords := by
  refine pb_sound_of (by decide) m_3_132 ?_
  intro Γ hl0 hRm0 hm X E hr J
  have hnL : ∀ j, j < 7 → j < Γ.2.2.2.2.2.2.2.2.2.2.2.1 := fun j h => by rw [hm]; exact h
  have hR : ∀ (d' mL : Nat), d' + 1 ≤ 1 ∧ 8 + (mL + 11) + d' * 64 ≤ 1 * 64 → (pb_rm d').frames + 1 ≤ Γ.2.2.2.1.frames ∧ 8 + (mL + 11) + (pb_rm d').locals ≤ Γ.2.2.2.1.locals := by rw [hRm0]; exact fun _ _ h => h
  have hRm : 1 ≤ 1 ∧ 64 ≤ 1 * 64 → 1 ≤ Γ.2.2.2.1.frames ∧ 64 ≤ Γ.2.2.2.1.locals := by rw [hRm0]; exact fun h => h
  exact pb_tt_snd _ (List.forall_mem_cons.mpr ⟨(s_aload_n (pc := 0) X dX1_tellWords_0 rfl (s_getR (pc := 1) X dX1_tellWords_1 g_X1_56 (s_iconst (pc := 4) X dX1_tellWords_4 rfl (s_lload_n (pc := 5) X dX1_tellWords_5 rfl (s_last (pc := 6) X dX1_tellWords_6 h_20 (s_aload_n (pc := 7) X dX1_tellWords_7 rfl (s_getR (pc := 8) X dX1_tellWords_8 g_X1_56 (s_iconst (pc := 11) X dX1_tellWords_11 rfl (s_lload_n (pc := 12) X dX1_tellWords_12 rfl (s_last (pc := 13) X dX1_tellWords_13 h_20 (s_aload_n (pc := 14) X dX1_tellWords_14 rfl (s_getR (pc := 15) X dX1_tellWords_15 g_X1_56 (s_iconst (pc := 18) X dX1_tellWords_18 rfl (s_lload (pc := 19) X dX1_tellWords_19 (s_last (pc := 21) X dX1_tellWords_21 h_20 (s_vret (pc := 22) X E hr dX1_tellWords_22)))))))))))))))), fun _ h => absurd h List.not_mem_nil⟩)
theorem dX11_words_0 : decode cX11_words 0 = .ok (.lload_n 1, 1) := by decide +kernel
theorem dX11_words_1 : decode cX11_words 1 = .ok (.lconst 0, 1) := by decide +kernel
theorem dX11_words_2 : decode cX11_words 2 = .ok (.lcmp, 1) := by decide +kernel
theorem dX11_words_3 : decode cX11_words 3 = .ok (.ifCond .eq 16, 3) := by decide +kernel
theorem dX11_words_6 : decode cX11_words 6 = .ok (.lload_n 3, 1) := by decide +kernel
theorem dX11_words_7 : decode cX11_words 7 = .ok (.lconst 0, 1) := by decide +kernel
theorem dX11_words_8 : decode cX11_words 8 = .ok (.lcmp, 1) := by decide +kernel
theorem dX11_words_9 : decode cX11_words 9 = .ok (.ifCond .ne 14, 3) := by decide +kernel
theorem dX11_words_12 : decode cX11_words 12 = .ok (.lload 5, 2) := by decide +kernel
theorem dX11_words_14 : decode cX11_words 14 = .ok (.lconst 0, 1) := by decide +kernel
theorem dX11_words_15 : decode cX11_words 15 = .ok (.lcmp, 1) := by decide +kernel
theorem dX11_words_16 : decode cX11_words 16 = .ok (.ifCond .eq 7, 3) := by decide +kernel
theorem dX11_words_19 : decode cX11_words 19 = .ok (.iconst 1, 1) := by decide +kernel
theorem dX11_words_20 : decode cX11_words 20 = .ok (.goto 4, 3) := by decide +kernel
theorem dX11_words_23 : decode cX11_words 23 = .ok (.iconst 0, 1) := by decide +kernel
theorem dX11_words_24 : decode cX11_words 24 = .ok (.istore 7, 2) := by decide +kernel
theorem dX11_words_26 : decode cX11_words 26 = .ok (.iload 7, 2) := by decide +kernel
theorem dX11_words_28 : decode cX11_words 28 = .ok (.ifCond .ne 25, 3) := by decide +kernel
theorem dX11_words_31 : decode cX11_words 31 = .ok (.lload_n 1, 1) := by decide +kernel
theorem dX11_words_32 : decode cX11_words 32 = .ok (.invokestatic 137, 3) := by decide +kernel
theorem dX11_words_35 : decode cX11_words 35 = .ok (.ifCond .eq 18, 3) := by decide +kernel
theorem dX11_words_38 : decode cX11_words 38 = .ok (.lload_n 3, 1) := by decide +kernel
theorem dX11_words_39 : decode cX11_words 39 = .ok (.invokestatic 137, 3) := by decide +kernel
theorem dX11_words_42 : decode cX11_words 42 = .ok (.ifCond .eq 11, 3) := by decide +kernel
theorem dX11_words_45 : decode cX11_words 45 = .ok (.lload 5, 2) := by decide +kernel
theorem dX11_words_47 : decode cX11_words 47 = .ok (.invokestatic 137, 3) := by decide +kernel
theorem dX11_words_50 : decode cX11_words 50 = .ok (.ifCond .ne 7, 3) := by decide +kernel
theorem dX11_words_53 : decode cX11_words 53 = .ok (.iconst 1, 1) := by decide +kernel
theorem dX11_words_54 : decode cX11_words 54 = .ok (.goto 4, 3) := by decide +kernel
theorem dX11_words_57 : decode cX11_words 57 = .ok (.iconst 0, 1) := by decide +kernel
theorem dX11_words_58 : decode cX11_words 58 = .ok (.istore 8, 2) := by decide +kernel
theorem dX11_words_60 : decode cX11_words 60 = .ok (.aload_n 0, 1) := by decide +kernel
theorem dX11_words_61 : decode cX11_words 61 = .ok (.iload 8, 2) := by decide +kernel
theorem dX11_words_63 : decode cX11_words 63 = .ok (.ifCond .eq 7, 3) := by decide +kernel
theorem dX11_words_66 : decode cX11_words 66 = .ok (.iconst 1, 1) := by decide +kernel
theorem dX11_words_67 : decode cX11_words 67 = .ok (.goto 4, 3) := by decide +kernel
theorem dX11_words_70 : decode cX11_words 70 = .ok (.iconst 0, 1) := by decide +kernel
theorem dX11_words_71 : decode cX11_words 71 = .ok (.putfield 9, 3) := by decide +kernel
theorem dX11_words_74 : decode cX11_words 74 = .ok (.aload_n 0, 1) := by decide +kernel
theorem dX11_words_75 : decode cX11_words 75 = .ok (.getfield 9, 3) := by decide +kernel
theorem dX11_words_78 : decode cX11_words 78 = .ok (.ifCond .ne 14, 3) := by decide +kernel
theorem dX11_words_81 : decode cX11_words 81 = .ok (.aload_n 0, 1) := by decide +kernel
theorem dX11_words_82 : decode cX11_words 82 = .ok (.getfield 30, 3) := by decide +kernel
theorem dX11_words_85 : decode cX11_words 85 = .ok (.lload_n 1, 1) := by decide +kernel
theorem dX11_words_86 : decode cX11_words 86 = .ok (.lload_n 3, 1) := by decide +kernel
theorem dX11_words_87 : decode cX11_words 87 = .ok (.lload 5, 2) := by decide +kernel
theorem dX11_words_89 : decode cX11_words 89 = .ok (.invokevirtual 141, 3) := by decide +kernel
theorem dX11_words_92 : decode cX11_words 92 = .ok (.aload_n 0, 1) := by decide +kernel
theorem dX11_words_93 : decode cX11_words 93 = .ok (.getfield 9, 3) := by decide +kernel
theorem dX11_words_96 : decode cX11_words 96 = .ok (.ifCond .ne 7, 3) := by decide +kernel
theorem dX11_words_99 : decode cX11_words 99 = .ok (.iconst 1, 1) := by decide +kernel
theorem dX11_words_100 : decode cX11_words 100 = .ok (.goto 4, 3) := by decide +kernel
theorem dX11_words_103 : decode cX11_words 103 = .ok (.iconst 0, 1) := by decide +kernel
theorem dX11_words_104 : decode cX11_words 104 = .ok (.ireturn, 1) := by decide +kernel
noncomputable def B_X11_words_0 : pb_C := (i_lload 1 (i_const (.long 0) (i_lcmp (i_if_eq (i_const (.int 1) (i_jmp 24 [true, true, false, true, false, true, false, false, false])) (i_lload 3 (i_const (.long 0) (i_lcmp (i_if_ne (i_const (.int 0) (i_jmp 24 [true, true, false, true, false, true, false, false, false])) (i_lload 5 (i_const (.long 0) (i_lcmp (i_if_eq (i_const (.int 0) (i_jmp 24 [true, true, false, true, false, true, false, false, false])) (i_const (.int 1) (i_jmp 24 [true, true, false, true, false, true, false, false, false]))))))))))))))
noncomputable def B_X11_words_24 : pb_C := (i_istore 7 (i_iload 7 (i_if_ne (i_const (.int 1) (i_istore 8 (i_aload 0 (i_iload 8 (i_if_eq (i_const (.int 0) (i_jmp 71 [true, true, false, true, false, true, false, false, false])) (i_const (.int 1) (i_jmp 71 [true, true, false, true, false, true, false, false, false]))))))) (i_lload 1 (i_callS 1 1 M_X1_wordOrNone (i_if_eq (i_const (.int 1) (i_istore 8 (i_aload 0 (i_iload 8 (i_if_eq (i_const (.int 0) (i_jmp 71 [true, true, false, true, false, true, false, false, false])) (i_const (.int 1) (i_jmp 71 [true, true, false, true, false, true, false, false, false]))))))) (i_lload 3 (i_callS 1 1 M_X1_wordOrNone (i_if_eq (i_const (.int 1) (i_istore 8 (i_aload 0 (i_iload 8 (i_if_eq (i_const (.int 0) (i_jmp 71 [true, true, false, true, false, true, false, false, false])) (i_const (.int 1) (i_jmp 71 [true, true, false, true, false, true, false, false, false]))))))) (i_lload 5 (i_callS 1 1 M_X1_wordOrNone (i_if_ne (i_const (.int 0) (i_istore 8 (i_aload 0 (i_iload 8 (i_if_eq (i_const (.int 0) (i_jmp 71 [true, true, false, true, false, true, false, false, false])) (i_const (.int 1) (i_jmp 71 [true, true, false, true, false, true, false, false, false]))))))) (i_const (.int 1) (i_istore 8 (i_aload 0 (i_iload 8 (i_if_eq (i_const (.int 0) (i_jmp 71 [true, true, false, true, false, true, false, false, false])) (i_const (.int 1) (i_jmp 71 [true, true, false, true, false, true, false, false, false])))))))))))))))))))
noncomputable def B_X11_words_71 : pb_C := (i_putI 0 0 (i_aload 0 (i_getI 0 0 (i_if_ne (i_aload 0 (i_getI 0 0 (i_if_ne (i_const (.int 0) i_zret) (i_const (.int 1) i_zret)))) (i_aload 0 (i_getR 0 5 (i_lload 1 (i_lload 3 (i_lload 5 (i_callV 5 3 0 M_X1_tellWords (i_aload 0 (i_getI 0 0 (i_if_ne (i_const (.int 0) i_zret) (i_const (.int 1) i_zret))))))))))))))
noncomputable def T_X11_words : Nat → pb_C := pb_tt [(0, B_X11_words_0), (24, B_X11_words_24), (71, B_X11_words_71)]
noncomputable def M_X11_words : pb_F := pb_M T_X11_words 9
set_option maxRecDepth 100000 in
set_option maxHeartbeats 4000000 in
theorem S_X11_words (l : Launch) : pb_Sound l yX11_words cX11_words 9 (some .boolean) 3 M_X11_words := by
  refine pb_sound_of (by decide) m_3_123 ?_
  intro Γ hl0 hRm0 hm X E hr J
  have hnL : ∀ j, j < 9 → j < Γ.2.2.2.2.2.2.2.2.2.2.2.1 := fun j h => by rw [hm]; exact h
  have hR : ∀ (d' mL : Nat), d' + 1 ≤ 3 ∧ 8 + (mL + 11) + d' * 64 ≤ 3 * 64 → (pb_rm d').frames + 1 ≤ Γ.2.2.2.1.frames ∧ 8 + (mL + 11) + (pb_rm d').locals ≤ Γ.2.2.2.1.locals := by rw [hRm0]; exact fun _ _ h => h
  have hRm : 1 ≤ 3 ∧ 64 ≤ 3 * 64 → 1 ≤ Γ.2.2.2.1.frames ∧ 64 ≤ Γ.2.2.2.1.locals := by rw [hRm0]; exact fun h => h
  exact pb_tt_snd _ (List.forall_mem_cons.mpr ⟨(s_lload_n (pc := 0) X dX11_words_0 rfl (s_lconst (pc := 1) X dX11_words_1 rfl (s_lcmp (pc := 2) X dX11_words_2 (s_if_eq (pc := 3) X dX11_words_3 (by decide) (s_iconst (pc := 19) X dX11_words_19 rfl (s_goto (pc := 20) X dX11_words_20 (by decide) (s_jmp (pc := 24) J [true, true, false, true, false, true, false, false, false]))) (s_lload_n (pc := 6) X dX11_words_6 rfl (s_lconst (pc := 7) X dX11_words_7 rfl (s_lcmp (pc := 8) X dX11_words_8 (s_if_ne (pc := 9) X dX11_words_9 (by decide) (s_iconst (pc := 23) X dX11_words_23 rfl (s_jmp (pc := 24) J [true, true, false, true, false, true, false, false, false])) (s_lload (pc := 12) X dX11_words_12 (s_lconst (pc := 14) X dX11_words_14 rfl (s_lcmp (pc := 15) X dX11_words_15 (s_if_eq (pc := 16) X dX11_words_16 (by decide) (s_iconst (pc := 23) X dX11_words_23 rfl (s_jmp (pc := 24) J [true, true, false, true, false, true, false, false, false])) (s_iconst (pc := 19) X dX11_words_19 rfl (s_goto (pc := 20) X dX11_words_20 (by decide) (s_jmp (pc := 24) J [true, true, false, true, false, true, false, false, false]))))))))))))))), List.forall_mem_cons.mpr ⟨(s_istore (pc := 24) X dX11_words_24 (hnL _ (by decide)) (s_iload (pc := 26) X dX11_words_26 (s_if_ne (pc := 28) X dX11_words_28 (by decide) (s_iconst (pc := 53) X dX11_words_53 rfl (s_goto (pc := 54) X dX11_words_54 (by decide) (s_istore (pc := 58) X dX11_words_58 (hnL _ (by decide)) (s_aload_n (pc := 60) X dX11_words_60 rfl (s_iload (pc := 61) X dX11_words_61 (s_if_eq (pc := 63) X dX11_words_63 (by decide) (s_iconst (pc := 70) X dX11_words_70 rfl (s_jmp (pc := 71) J [true, true, false, true, false, true, false, false, false])) (s_iconst (pc := 66) X dX11_words_66 rfl (s_goto (pc := 67) X dX11_words_67 (by decide) (s_jmp (pc := 71) J [true, true, false, true, false, true, false, false, false]))))))))) (s_lload_n (pc := 31) X dX11_words_31 rfl (s_callS (pc := 32) X dX11_words_32 (S_X1_wordOrNone _) q_X11_137 (hR _ _ (by decide)) (s_if_eq (pc := 35) X dX11_words_35 (by decide) (s_iconst (pc := 53) X dX11_words_53 rfl (s_goto (pc := 54) X dX11_words_54 (by decide) (s_istore (pc := 58) X dX11_words_58 (hnL _ (by decide)) (s_aload_n (pc := 60) X dX11_words_60 rfl (s_iload (pc := 61) X dX11_words_61 (s_if_eq (pc := 63) X dX11_words_63 (by decide) (s_iconst (pc := 70) X dX11_words_70 rfl (s_jmp (pc := 71) J [true, true, false, true, false, true, false, false, false])) (s_iconst (pc := 66) X dX11_words_66 rfl (s_goto (pc := 67) X dX11_words_67 (by decide) (s_jmp (pc := 71) J [true, true, false, true, false, true, false, false, false]))))))))) (s_lload_n (pc := 38) X dX11_words_38 rfl (s_callS (pc := 39) X dX11_words_39 (S_X1_wordOrNone _) q_X11_137 (hR _ _ (by decide)) (s_if_eq (pc := 42) X dX11_words_42 (by decide) (s_iconst (pc := 53) X dX11_words_53 rfl (s_goto (pc := 54) X dX11_words_54 (by decide) (s_istore (pc := 58) X dX11_words_58 (hnL _ (by decide)) (s_aload_n (pc := 60) X dX11_words_60 rfl (s_iload (pc := 61) X dX11_words_61 (s_if_eq (pc := 63) X dX11_words_63 (by decide) (s_iconst (pc := 70) X dX11_words_70 rfl (s_jmp (pc := 71) J [true, true, false, true, false, true, false, false, false])) (s_iconst (pc := 66) X dX11_words_66 rfl (s_goto (pc := 67) X dX11_words_67 (by decide) (s_jmp (pc := 71) J [true, true, false, true, false, true, false, false, false]))))))))) (s_lload (pc := 45) X dX11_words_45 (s_callS (pc := 47) X dX11_words_47 (S_X1_wordOrNone _) q_X11_137 (hR _ _ (by decide)) (s_if_ne (pc := 50) X dX11_words_50 (by decide) (s_iconst (pc := 57) X dX11_words_57 rfl (s_istore (pc := 58) X dX11_words_58 (hnL _ (by decide)) (s_aload_n (pc := 60) X dX11_words_60 rfl (s_iload (pc := 61) X dX11_words_61 (s_if_eq (pc := 63) X dX11_words_63 (by decide) (s_iconst (pc := 70) X dX11_words_70 rfl (s_jmp (pc := 71) J [true, true, false, true, false, true, false, false, false])) (s_iconst (pc := 66) X dX11_words_66 rfl (s_goto (pc := 67) X dX11_words_67 (by decide) (s_jmp (pc := 71) J [true, true, false, true, false, true, false, false, false])))))))) (s_iconst (pc := 53) X dX11_words_53 rfl (s_goto (pc := 54) X dX11_words_54 (by decide) (s_istore (pc := 58) X dX11_words_58 (hnL _ (by decide)) (s_aload_n (pc := 60) X dX11_words_60 rfl (s_iload (pc := 61) X dX11_words_61 (s_if_eq (pc := 63) X dX11_words_63 (by decide) (s_iconst (pc := 70) X dX11_words_70 rfl (s_jmp (pc := 71) J [true, true, false, true, false, true, false, false, false])) (s_iconst (pc := 66) X dX11_words_66 rfl (s_goto (pc := 67) X dX11_words_67 (by decide) (s_jmp (pc := 71) J [true, true, false, true, false, true, false, false, false]))))))))))))))))))))), List.forall_mem_cons.mpr ⟨(s_putI (pc := 71) X dX11_words_71 p_X11_9 (s_aload_n (pc := 74) X dX11_words_74 rfl (s_getI (pc := 75) X dX11_words_75 g_X11_9 (s_if_ne (pc := 78) X dX11_words_78 (by decide) (s_aload_n (pc := 92) X dX11_words_92 rfl (s_getI (pc := 93) X dX11_words_93 g_X11_9 (s_if_ne (pc := 96) X dX11_words_96 (by decide) (s_iconst (pc := 103) X dX11_words_103 rfl (s_zret (pc := 104) X E hr dX11_words_104)) (s_iconst (pc := 99) X dX11_words_99 rfl (s_goto (pc := 100) X dX11_words_100 (by decide) (s_zret (pc := 104) X E hr dX11_words_104)))))) (s_aload_n (pc := 81) X dX11_words_81 rfl (s_getR (pc := 82) X dX11_words_82 g_X11_30 (s_lload_n (pc := 85) X dX11_words_85 rfl (s_lload_n (pc := 86) X dX11_words_86 rfl (s_lload (pc := 87) X dX11_words_87 (s_callV (pc := 89) X dX11_words_89 (S_X1_tellWords _) q_X11_141 h_5 rfl (hR _ _ (by decide)) (s_aload_n (pc := 92) X dX11_words_92 rfl (s_getI (pc := 93) X dX11_words_93 g_X11_9 (s_if_ne (pc := 96) X dX11_words_96 (by decide) (s_iconst (pc := 103) X dX11_words_103 rfl (s_zret (pc := 104) X E hr dX11_words_104)) (s_iconst (pc := 99) X dX11_words_99 rfl (s_goto (pc := 100) X dX11_words_100 (by decide) (s_zret (pc := 104) X E hr dX11_words_104)))))))))))))))), fun _ h => absurd h List.not_mem_nil⟩⟩⟩)
theorem dX1_hasFamily_0 : decode cX1_hasFamily 0 = .ok (.iload_n 1, 1) := by decide +kernel
theorem dX1_hasFamily_1 : decode cX1_hasFamily 1 = .ok (.ifCond .lt 15, 3) := by decide +kernel
theorem dX1_hasFamily_4 : decode cX1_hasFamily 4 = .ok (.iload_n 1, 1) := by decide +kernel
theorem dX1_hasFamily_5 : decode cX1_hasFamily 5 = .ok (.aload_n 0, 1) := by decide +kernel
theorem dX1_hasFamily_6 : decode cX1_hasFamily 6 = .ok (.getfield 63, 3) := by decide +kernel
theorem dX1_hasFamily_9 : decode cX1_hasFamily 9 = .ok (.if_icmp .ge 7, 3) := by decide +kernel
theorem dX1_hasFamily_12 : decode cX1_hasFamily 12 = .ok (.iconst 1, 1) := by decide +kernel
theorem dX1_hasFamily_13 : decode cX1_hasFamily 13 = .ok (.goto 4, 3) := by decide +kernel
theorem dX1_hasFamily_16 : decode cX1_hasFamily 16 = .ok (.iconst 0, 1) := by decide +kernel
theorem dX1_hasFamily_17 : decode cX1_hasFamily 17 = .ok (.ireturn, 1) := by decide +kernel
noncomputable def B_X1_hasFamily_0 : pb_C := (i_iload 1 (i_if_lt (i_const (.int 0) i_zret) (i_iload 1 (i_aload 0 (i_getI 5 0 (i_ic_ge (i_const (.int 0) i_zret) (i_const (.int 1) i_zret)))))))
noncomputable def T_X1_hasFamily : Nat → pb_C := pb_tt [(0, B_X1_hasFamily_0)]
noncomputable def M_X1_hasFamily : pb_F := pb_M T_X1_hasFamily 2
set_option maxRecDepth 100000 in
set_option maxHeartbeats 4000000 in
theorem S_X1_hasFamily (l : Launch) : pb_Sound l yX1_hasFamily cX1_hasFamily 2 (some .boolean) 1 M_X1_hasFamily := by
  refine pb_sound_of (by decide) m_3_144 ?_
  intro Γ hl0 hRm0 hm X E hr J
  have hnL : ∀ j, j < 2 → j < Γ.2.2.2.2.2.2.2.2.2.2.2.1 := fun j h => by rw [hm]; exact h
  have hR : ∀ (d' mL : Nat), d' + 1 ≤ 1 ∧ 8 + (mL + 11) + d' * 64 ≤ 1 * 64 → (pb_rm d').frames + 1 ≤ Γ.2.2.2.1.frames ∧ 8 + (mL + 11) + (pb_rm d').locals ≤ Γ.2.2.2.1.locals := by rw [hRm0]; exact fun _ _ h => h
  have hRm : 1 ≤ 1 ∧ 64 ≤ 1 * 64 → 1 ≤ Γ.2.2.2.1.frames ∧ 64 ≤ Γ.2.2.2.1.locals := by rw [hRm0]; exact fun h => h
  exact pb_tt_snd _ (List.forall_mem_cons.mpr ⟨(s_iload_n (pc := 0) X dX1_hasFamily_0 rfl (s_if_lt (pc := 1) X dX1_hasFamily_1 (by decide) (s_iconst (pc := 16) X dX1_hasFamily_16 rfl (s_zret (pc := 17) X E hr dX1_hasFamily_17)) (s_iload_n (pc := 4) X dX1_hasFamily_4 rfl (s_aload_n (pc := 5) X dX1_hasFamily_5 rfl (s_getI (pc := 6) X dX1_hasFamily_6 g_X1_63 (s_ic_ge (pc := 9) X dX1_hasFamily_9 (by decide) (s_iconst (pc := 16) X dX1_hasFamily_16 rfl (s_zret (pc := 17) X E hr dX1_hasFamily_17)) (s_iconst (pc := 12) X dX1_hasFamily_12 rfl (s_goto (pc := 13) X dX1_hasFamily_13 (by decide) (s_zret (pc := 17) X E hr dX1_hasFamily_17))))))))), fun _ h => absurd h List.not_mem_nil⟩)
theorem dX11_noFamilyWeek_0 : decode cX11_noFamilyWeek 0 = .ok (.aload_n 0, 1) := by decide +kernel
theorem dX11_noFamilyWeek_1 : decode cX11_noFamilyWeek 1 = .ok (.getfield 30, 3) := by decide +kernel
theorem dX11_noFamilyWeek_4 : decode cX11_noFamilyWeek 4 = .ok (.iload_n 1, 1) := by decide +kernel
theorem dX11_noFamilyWeek_5 : decode cX11_noFamilyWeek 5 = .ok (.invokevirtual 293, 3) := by decide +kernel
theorem dX11_noFamilyWeek_8 : decode cX11_noFamilyWeek 8 = .ok (.ifCond .eq 14, 3) := by decide +kernel
theorem dX11_noFamilyWeek_11 : decode cX11_noFamilyWeek 11 = .ok (.iload_n 2, 1) := by decide +kernel
theorem dX11_noFamilyWeek_12 : decode cX11_noFamilyWeek 12 = .ok (.iconst 0, 1) := by decide +kernel
theorem dX11_noFamilyWeek_13 : decode cX11_noFamilyWeek 13 = .ok (.sipush 519, 3) := by decide +kernel
theorem dX11_noFamilyWeek_16 : decode cX11_noFamilyWeek 16 = .ok (.invokestatic 101, 3) := by decide +kernel
theorem dX11_noFamilyWeek_19 : decode cX11_noFamilyWeek 19 = .ok (.ifCond .eq 7, 3) := by decide +kernel
theorem dX11_noFamilyWeek_22 : decode cX11_noFamilyWeek 22 = .ok (.iconst 1, 1) := by decide +kernel
theorem dX11_noFamilyWeek_23 : decode cX11_noFamilyWeek 23 = .ok (.goto 4, 3) := by decide +kernel
theorem dX11_noFamilyWeek_26 : decode cX11_noFamilyWeek 26 = .ok (.iconst 0, 1) := by decide +kernel
theorem dX11_noFamilyWeek_27 : decode cX11_noFamilyWeek 27 = .ok (.ireturn, 1) := by decide +kernel
noncomputable def B_X11_noFamilyWeek_0 : pb_C := (i_aload 0 (i_getR 0 5 (i_iload 1 (i_callV 5 1 1 M_X1_hasFamily (i_if_eq (i_const (.int 1) i_zret) (i_iload 2 (i_const (.int 0) (i_const (.int 519) (i_callS 3 1 M_X11_outside (i_if_eq (i_const (.int 0) i_zret) (i_const (.int 1) i_zret)))))))))))
noncomputable def T_X11_noFamilyWeek : Nat → pb_C := pb_tt [(0, B_X11_noFamilyWeek_0)]
noncomputable def M_X11_noFamilyWeek : pb_F := pb_M T_X11_noFamilyWeek 3
set_option maxRecDepth 100000 in
set_option maxHeartbeats 4000000 in
theorem S_X11_noFamilyWeek (l : Launch) : pb_Sound l yX11_noFamilyWeek cX11_noFamilyWeek 3 (some .boolean) 2 M_X11_noFamilyWeek := by
  refine pb_sound_of (by decide) m_3_140 ?_
  intro Γ hl0 hRm0 hm X E hr J
  have hnL : ∀ j, j < 3 → j < Γ.2.2.2.2.2.2.2.2.2.2.2.1 := fun j h => by rw [hm]; exact h
  have hR : ∀ (d' mL : Nat), d' + 1 ≤ 2 ∧ 8 + (mL + 11) + d' * 64 ≤ 2 * 64 → (pb_rm d').frames + 1 ≤ Γ.2.2.2.1.frames ∧ 8 + (mL + 11) + (pb_rm d').locals ≤ Γ.2.2.2.1.locals := by rw [hRm0]; exact fun _ _ h => h
  have hRm : 1 ≤ 2 ∧ 64 ≤ 2 * 64 → 1 ≤ Γ.2.2.2.1.frames ∧ 64 ≤ Γ.2.2.2.1.locals := by rw [hRm0]; exact fun h => h
  exact pb_tt_snd _ (List.forall_mem_cons.mpr ⟨(s_aload_n (pc := 0) X dX11_noFamilyWeek_0 rfl (s_getR (pc := 1) X dX11_noFamilyWeek_1 g_X11_30 (s_iload_n (pc := 4) X dX11_noFamilyWeek_4 rfl (s_callV (pc := 5) X dX11_noFamilyWeek_5 (S_X1_hasFamily _) q_X11_293 h_5 rfl (hR _ _ (by decide)) (s_if_eq (pc := 8) X dX11_noFamilyWeek_8 (by decide) (s_iconst (pc := 22) X dX11_noFamilyWeek_22 rfl (s_goto (pc := 23) X dX11_noFamilyWeek_23 (by decide) (s_zret (pc := 27) X E hr dX11_noFamilyWeek_27))) (s_iload_n (pc := 11) X dX11_noFamilyWeek_11 rfl (s_iconst (pc := 12) X dX11_noFamilyWeek_12 rfl (s_sipush (pc := 13) X dX11_noFamilyWeek_13 rfl (s_callS (pc := 16) X dX11_noFamilyWeek_16 (S_X11_outside _) q_X11_101 (hR _ _ (by decide)) (s_if_eq (pc := 19) X dX11_noFamilyWeek_19 (by decide) (s_iconst (pc := 26) X dX11_noFamilyWeek_26 rfl (s_zret (pc := 27) X E hr dX11_noFamilyWeek_27)) (s_iconst (pc := 22) X dX11_noFamilyWeek_22 rfl (s_goto (pc := 23) X dX11_noFamilyWeek_23 (by decide) (s_zret (pc := 27) X E hr dX11_noFamilyWeek_27))))))))))))), fun _ h => absurd h List.not_mem_nil⟩)
theorem dX11_badEntry_0 : decode cX11_badEntry 0 = .ok (.iload_n 0, 1) := by decide +kernel
theorem dX11_badEntry_1 : decode cX11_badEntry 1 = .ok (.iconst 1, 1) := by decide +kernel
theorem dX11_badEntry_2 : decode cX11_badEntry 2 = .ok (.sipush 20000, 3) := by decide +kernel
theorem dX11_badEntry_5 : decode cX11_badEntry 5 = .ok (.invokestatic 101, 3) := by decide +kernel
theorem dX11_badEntry_8 : decode cX11_badEntry 8 = .ok (.ifCond .ne 14, 3) := by decide +kernel
theorem dX11_badEntry_11 : decode cX11_badEntry 11 = .ok (.iload_n 1, 1) := by decide +kernel
theorem dX11_badEntry_12 : decode cX11_badEntry 12 = .ok (.iconst 0, 1) := by decide +kernel
theorem dX11_badEntry_13 : decode cX11_badEntry 13 = .ok (.sipush 9999, 3) := by decide +kernel
theorem dX11_badEntry_16 : decode cX11_badEntry 16 = .ok (.invokestatic 101, 3) := by decide +kernel
theorem dX11_badEntry_19 : decode cX11_badEntry 19 = .ok (.ifCond .eq 7, 3) := by decide +kernel
theorem dX11_badEntry_22 : decode cX11_badEntry 22 = .ok (.iconst 1, 1) := by decide +kernel
theorem dX11_badEntry_23 : decode cX11_badEntry 23 = .ok (.goto 4, 3) := by decide +kernel
theorem dX11_badEntry_26 : decode cX11_badEntry 26 = .ok (.iconst 0, 1) := by decide +kernel
theorem dX11_badEntry_27 : decode cX11_badEntry 27 = .ok (.ireturn, 1) := by decide +kernel
noncomputable def B_X11_badEntry_0 : pb_C := (i_iload 0 (i_const (.int 1) (i_const (.int 20000) (i_callS 3 1 M_X11_outside (i_if_ne (i_const (.int 1) i_zret) (i_iload 1 (i_const (.int 0) (i_const (.int 9999) (i_callS 3 1 M_X11_outside (i_if_eq (i_const (.int 0) i_zret) (i_const (.int 1) i_zret)))))))))))
noncomputable def T_X11_badEntry : Nat → pb_C := pb_tt [(0, B_X11_badEntry_0)]
noncomputable def M_X11_badEntry : pb_F := pb_M T_X11_badEntry 2
set_option maxRecDepth 100000 in
set_option maxHeartbeats 4000000 in
theorem S_X11_badEntry (l : Launch) : pb_Sound l yX11_badEntry cX11_badEntry 2 (some .boolean) 2 M_X11_badEntry := by
  refine pb_sound_of (by decide) m_3_147 ?_
  intro Γ hl0 hRm0 hm X E hr J
  have hnL : ∀ j, j < 2 → j < Γ.2.2.2.2.2.2.2.2.2.2.2.1 := fun j h => by rw [hm]; exact h
  have hR : ∀ (d' mL : Nat), d' + 1 ≤ 2 ∧ 8 + (mL + 11) + d' * 64 ≤ 2 * 64 → (pb_rm d').frames + 1 ≤ Γ.2.2.2.1.frames ∧ 8 + (mL + 11) + (pb_rm d').locals ≤ Γ.2.2.2.1.locals := by rw [hRm0]; exact fun _ _ h => h
  have hRm : 1 ≤ 2 ∧ 64 ≤ 2 * 64 → 1 ≤ Γ.2.2.2.1.frames ∧ 64 ≤ Γ.2.2.2.1.locals := by rw [hRm0]; exact fun h => h
  exact pb_tt_snd _ (List.forall_mem_cons.mpr ⟨(s_iload_n (pc := 0) X dX11_badEntry_0 rfl (s_iconst (pc := 1) X dX11_badEntry_1 rfl (s_sipush (pc := 2) X dX11_badEntry_2 rfl (s_callS (pc := 5) X dX11_badEntry_5 (S_X11_outside _) q_X11_101 (hR _ _ (by decide)) (s_if_ne (pc := 8) X dX11_badEntry_8 (by decide) (s_iconst (pc := 22) X dX11_badEntry_22 rfl (s_goto (pc := 23) X dX11_badEntry_23 (by decide) (s_zret (pc := 27) X E hr dX11_badEntry_27))) (s_iload_n (pc := 11) X dX11_badEntry_11 rfl (s_iconst (pc := 12) X dX11_badEntry_12 rfl (s_sipush (pc := 13) X dX11_badEntry_13 rfl (s_callS (pc := 16) X dX11_badEntry_16 (S_X11_outside _) q_X11_101 (hR _ _ (by decide)) (s_if_eq (pc := 19) X dX11_badEntry_19 (by decide) (s_iconst (pc := 26) X dX11_badEntry_26 rfl (s_zret (pc := 27) X E hr dX11_badEntry_27)) (s_iconst (pc := 22) X dX11_badEntry_22 rfl (s_goto (pc := 23) X dX11_badEntry_23 (by decide) (s_zret (pc := 27) X E hr dX11_badEntry_27))))))))))))), fun _ h => absurd h List.not_mem_nil⟩)
theorem dX1_addLine_0 : decode cX1_addLine 0 = .ok (.aload_n 0, 1) := by decide +kernel
theorem dX1_addLine_1 : decode cX1_addLine 1 = .ok (.getfield 66, 3) := by decide +kernel
theorem dX1_addLine_4 : decode cX1_addLine 4 = .ok (.istore 8, 2) := by decide +kernel
theorem dX1_addLine_6 : decode cX1_addLine 6 = .ok (.aload_n 0, 1) := by decide +kernel
theorem dX1_addLine_7 : decode cX1_addLine 7 = .ok (.getfield 18, 3) := by decide +kernel
theorem dX1_addLine_10 : decode cX1_addLine 10 = .ok (.iload 8, 2) := by decide +kernel
theorem dX1_addLine_12 : decode cX1_addLine 12 = .ok (.iload_n 1, 1) := by decide +kernel
theorem dX1_addLine_13 : decode cX1_addLine 13 = .ok (.iastore, 1) := by decide +kernel
theorem dX1_addLine_14 : decode cX1_addLine 14 = .ok (.aload_n 0, 1) := by decide +kernel
theorem dX1_addLine_15 : decode cX1_addLine 15 = .ok (.getfield 21, 3) := by decide +kernel
theorem dX1_addLine_18 : decode cX1_addLine 18 = .ok (.iload 8, 2) := by decide +kernel
theorem dX1_addLine_20 : decode cX1_addLine 20 = .ok (.iload_n 2, 1) := by decide +kernel
theorem dX1_addLine_21 : decode cX1_addLine 21 = .ok (.iastore, 1) := by decide +kernel
theorem dX1_addLine_22 : decode cX1_addLine 22 = .ok (.aload_n 0, 1) := by decide +kernel
theorem dX1_addLine_23 : decode cX1_addLine 23 = .ok (.getfield 24, 3) := by decide +kernel
theorem dX1_addLine_26 : decode cX1_addLine 26 = .ok (.iload 8, 2) := by decide +kernel
theorem dX1_addLine_28 : decode cX1_addLine 28 = .ok (.iload_n 3, 1) := by decide +kernel
theorem dX1_addLine_29 : decode cX1_addLine 29 = .ok (.iastore, 1) := by decide +kernel
theorem dX1_addLine_30 : decode cX1_addLine 30 = .ok (.aload_n 0, 1) := by decide +kernel
theorem dX1_addLine_31 : decode cX1_addLine 31 = .ok (.getfield 27, 3) := by decide +kernel
theorem dX1_addLine_34 : decode cX1_addLine 34 = .ok (.iload 8, 2) := by decide +kernel
theorem dX1_addLine_36 : decode cX1_addLine 36 = .ok (.iload 6, 2) := by decide +kernel
theorem dX1_addLine_38 : decode cX1_addLine 38 = .ok (.iastore, 1) := by decide +kernel
theorem dX1_addLine_39 : decode cX1_addLine 39 = .ok (.aload_n 0, 1) := by decide +kernel
theorem dX1_addLine_40 : decode cX1_addLine 40 = .ok (.getfield 30, 3) := by decide +kernel
theorem dX1_addLine_43 : decode cX1_addLine 43 = .ok (.iload 8, 2) := by decide +kernel
theorem dX1_addLine_45 : decode cX1_addLine 45 = .ok (.iload 5, 2) := by decide +kernel
theorem dX1_addLine_47 : decode cX1_addLine 47 = .ok (.bastore, 1) := by decide +kernel
theorem dX1_addLine_48 : decode cX1_addLine 48 = .ok (.aload_n 0, 1) := by decide +kernel
theorem dX1_addLine_49 : decode cX1_addLine 49 = .ok (.getfield 34, 3) := by decide +kernel
theorem dX1_addLine_52 : decode cX1_addLine 52 = .ok (.iload 8, 2) := by decide +kernel
theorem dX1_addLine_54 : decode cX1_addLine 54 = .ok (.iload 7, 2) := by decide +kernel
theorem dX1_addLine_56 : decode cX1_addLine 56 = .ok (.iastore, 1) := by decide +kernel
theorem dX1_addLine_57 : decode cX1_addLine 57 = .ok (.aload_n 0, 1) := by decide +kernel
theorem dX1_addLine_58 : decode cX1_addLine 58 = .ok (.getfield 41, 3) := by decide +kernel
theorem dX1_addLine_61 : decode cX1_addLine 61 = .ok (.iload 8, 2) := by decide +kernel
theorem dX1_addLine_63 : decode cX1_addLine 63 = .ok (.iload 4, 2) := by decide +kernel
theorem dX1_addLine_65 : decode cX1_addLine 65 = .ok (.iastore, 1) := by decide +kernel
theorem dX1_addLine_66 : decode cX1_addLine 66 = .ok (.aload_n 0, 1) := by decide +kernel
theorem dX1_addLine_67 : decode cX1_addLine 67 = .ok (.getfield 44, 3) := by decide +kernel
theorem dX1_addLine_70 : decode cX1_addLine 70 = .ok (.iload 8, 2) := by decide +kernel
theorem dX1_addLine_72 : decode cX1_addLine 72 = .ok (.iload 4, 2) := by decide +kernel
theorem dX1_addLine_74 : decode cX1_addLine 74 = .ok (.iastore, 1) := by decide +kernel
theorem dX1_addLine_75 : decode cX1_addLine 75 = .ok (.aload_n 0, 1) := by decide +kernel
theorem dX1_addLine_76 : decode cX1_addLine 76 = .ok (.getfield 56, 3) := by decide +kernel
theorem dX1_addLine_79 : decode cX1_addLine 79 = .ok (.iconst 0, 1) := by decide +kernel
theorem dX1_addLine_80 : decode cX1_addLine 80 = .ok (.aload_n 0, 1) := by decide +kernel
theorem dX1_addLine_81 : decode cX1_addLine 81 = .ok (.getfield 37, 3) := by decide +kernel
theorem dX1_addLine_84 : decode cX1_addLine 84 = .ok (.iload 8, 2) := by decide +kernel
theorem dX1_addLine_86 : decode cX1_addLine 86 = .ok (.iconst 3, 1) := by decide +kernel
theorem dX1_addLine_87 : decode cX1_addLine 87 = .ok (.imul, 1) := by decide +kernel
theorem dX1_addLine_88 : decode cX1_addLine 88 = .ok (.iconst 3, 1) := by decide +kernel
theorem dX1_addLine_89 : decode cX1_addLine 89 = .ok (.invokestatic 85, 3) := by decide +kernel
theorem dX1_addLine_92 : decode cX1_addLine 92 = .ok (.aload_n 0, 1) := by decide +kernel
theorem dX1_addLine_93 : decode cX1_addLine 93 = .ok (.lconst 0, 1) := by decide +kernel
theorem dX1_addLine_94 : decode cX1_addLine 94 = .ok (.lconst 0, 1) := by decide +kernel
theorem dX1_addLine_95 : decode cX1_addLine 95 = .ok (.lconst 0, 1) := by decide +kernel
theorem dX1_addLine_96 : decode cX1_addLine 96 = .ok (.invokevirtual 91, 3) := by decide +kernel
theorem dX1_addLine_99 : decode cX1_addLine 99 = .ok (.aload_n 0, 1) := by decide +kernel
theorem dX1_addLine_100 : decode cX1_addLine 100 = .ok (.iload 7, 2) := by decide +kernel
theorem dX1_addLine_102 : decode cX1_addLine 102 = .ok (.putfield 95, 3) := by decide +kernel
theorem dX1_addLine_105 : decode cX1_addLine 105 = .ok (.aload_n 0, 1) := by decide +kernel
theorem dX1_addLine_106 : decode cX1_addLine 106 = .ok (.dup, 1) := by decide +kernel
theorem dX1_addLine_107 : decode cX1_addLine 107 = .ok (.getfield 66, 3) := by decide +kernel
theorem dX1_addLine_110 : decode cX1_addLine 110 = .ok (.iconst 1, 1) := by decide +kernel
theorem dX1_addLine_111 : decode cX1_addLine 111 = .ok (.iadd, 1) := by decide +kernel
theorem dX1_addLine_112 : decode cX1_addLine 112 = .ok (.putfield 66, 3) := by decide +kernel
theorem dX1_addLine_115 : decode cX1_addLine 115 = .ok (.iload 8, 2) := by decide +kernel
theorem dX1_addLine_117 : decode cX1_addLine 117 = .ok (.ireturn, 1) := by decide +kernel
noncomputable def B_X1_addLine_0 : pb_C := (i_aload 0 (i_getI 5 3 (i_istore 8 (i_aload 0 (i_getR 5 8 (i_iload 8 (i_iload 1 (i_ast 8 200 (fun x => x) (i_aload 0 (i_getR 5 9 (i_iload 8 (i_iload 2 (i_ast 9 200 (fun x => x) (i_aload 0 (i_getR 5 10 (i_iload 8 (i_iload 3 (i_ast 10 200 (fun x => x) (i_aload 0 (i_getR 5 11 (i_iload 8 (i_iload 6 (i_ast 11 200 (fun x => x) (i_aload 0 (i_getR 5 12 (i_iload 8 (i_iload 5 (i_ast 12 200 (vp_nar .boolean) (i_aload 0 (i_getR 5 13 (i_iload 8 (i_iload 7 (i_ast 13 200 (fun x => x) (i_aload 0 (i_getR 5 15 (i_iload 8 (i_iload 4 (i_ast 15 200 (fun x => x) (i_aload 0 (i_getR 5 16 (i_iload 8 (i_iload 4 (i_ast 16 200 (fun x => x) (i_aload 0 (i_getR 5 20 (i_const (.int 0) (i_aload 0 (i_getR 5 14 (i_iload 8 (i_const (.int 3) (i_ibin (· * ·) (i_const (.int 3) (i_copyL 20 3 14 600 (i_aload 0 (i_const (.long 0) (i_const (.long 0) (i_const (.long 0) (i_callV 5 3 0 M_X1_tellWords (i_aload 0 (i_iload 7 (i_putI 5 18 (i_aload 0 (i_dupR (i_getI 5 3 (i_const (.int 1) (i_ibin (· + ·) (i_putI 5 3 (i_iload 8 i_iret))))))))))))))))))))))))))))))))))))))))))))))))))))))))))))))))))))
noncomputable def T_X1_addLine : Nat → pb_C := pb_tt [(0, B_X1_addLine_0)]
noncomputable def M_X1_addLine : pb_F := pb_M T_X1_addLine 9
set_option maxRecDepth 100000 in
set_option maxHeartbeats 4000000 in
theorem S_X1_addLine (l : Launch) : pb_Sound l yX1_addLine cX1_addLine 9 (some .int) 2 M_X1_addLine := by
  refine pb_sound_of (by decide) m_3_155 ?_
  intro Γ hl0 hRm0 hm X E hr J
  have hnL : ∀ j, j < 9 → j < Γ.2.2.2.2.2.2.2.2.2.2.2.1 := fun j h => by rw [hm]; exact h
  have hR : ∀ (d' mL : Nat), d' + 1 ≤ 2 ∧ 8 + (mL + 11) + d' * 64 ≤ 2 * 64 → (pb_rm d').frames + 1 ≤ Γ.2.2.2.1.frames ∧ 8 + (mL + 11) + (pb_rm d').locals ≤ Γ.2.2.2.1.locals := by rw [hRm0]; exact fun _ _ h => h
  have hRm : 1 ≤ 2 ∧ 64 ≤ 2 * 64 → 1 ≤ Γ.2.2.2.1.frames ∧ 64 ≤ Γ.2.2.2.1.locals := by rw [hRm0]; exact fun h => h
  exact pb_tt_snd _ (List.forall_mem_cons.mpr ⟨(s_aload_n (pc := 0) X dX1_addLine_0 rfl (s_getI (pc := 1) X dX1_addLine_1 g_X1_66 (s_istore (pc := 4) X dX1_addLine_4 (hnL _ (by decide)) (s_aload_n (pc := 6) X dX1_addLine_6 rfl (s_getR (pc := 7) X dX1_addLine_7 g_X1_18 (s_iload (pc := 10) X dX1_addLine_10 (s_iload_n (pc := 12) X dX1_addLine_12 rfl (s_iast (pc := 13) X dX1_addLine_13 h_8 (s_aload_n (pc := 14) X dX1_addLine_14 rfl (s_getR (pc := 15) X dX1_addLine_15 g_X1_21 (s_iload (pc := 18) X dX1_addLine_18 (s_iload_n (pc := 20) X dX1_addLine_20 rfl (s_iast (pc := 21) X dX1_addLine_21 h_9 (s_aload_n (pc := 22) X dX1_addLine_22 rfl (s_getR (pc := 23) X dX1_addLine_23 g_X1_24 (s_iload (pc := 26) X dX1_addLine_26 (s_iload_n (pc := 28) X dX1_addLine_28 rfl (s_iast (pc := 29) X dX1_addLine_29 h_10 (s_aload_n (pc := 30) X dX1_addLine_30 rfl (s_getR (pc := 31) X dX1_addLine_31 g_X1_27 (s_iload (pc := 34) X dX1_addLine_34 (s_iload (pc := 36) X dX1_addLine_36 (s_iast (pc := 38) X dX1_addLine_38 h_11 (s_aload_n (pc := 39) X dX1_addLine_39 rfl (s_getR (pc := 40) X dX1_addLine_40 g_X1_30 (s_iload (pc := 43) X dX1_addLine_43 (s_iload (pc := 45) X dX1_addLine_45 (s_zast (pc := 47) X dX1_addLine_47 h_12 (s_aload_n (pc := 48) X dX1_addLine_48 rfl (s_getR (pc := 49) X dX1_addLine_49 g_X1_34 (s_iload (pc := 52) X dX1_addLine_52 (s_iload (pc := 54) X dX1_addLine_54 (s_iast (pc := 56) X dX1_addLine_56 h_13 (s_aload_n (pc := 57) X dX1_addLine_57 rfl (s_getR (pc := 58) X dX1_addLine_58 g_X1_41 (s_iload (pc := 61) X dX1_addLine_61 (s_iload (pc := 63) X dX1_addLine_63 (s_iast (pc := 65) X dX1_addLine_65 h_15 (s_aload_n (pc := 66) X dX1_addLine_66 rfl (s_getR (pc := 67) X dX1_addLine_67 g_X1_44 (s_iload (pc := 70) X dX1_addLine_70 (s_iload (pc := 72) X dX1_addLine_72 (s_iast (pc := 74) X dX1_addLine_74 h_16 (s_aload_n (pc := 75) X dX1_addLine_75 rfl (s_getR (pc := 76) X dX1_addLine_76 g_X1_56 (s_iconst (pc := 79) X dX1_addLine_79 rfl (s_aload_n (pc := 80) X dX1_addLine_80 rfl (s_getR (pc := 81) X dX1_addLine_81 g_X1_37 (s_iload (pc := 84) X dX1_addLine_84 (s_iconst (pc := 86) X dX1_addLine_86 rfl (s_imul (pc := 87) X dX1_addLine_87 (s_iconst (pc := 88) X dX1_addLine_88 rfl (s_copyL (pc := 89) X dX1_addLine_89 m_3_156 m_nat h_20 h_14 (hRm (by decide)) (s_aload_n (pc := 92) X dX1_addLine_92 rfl (s_lconst (pc := 93) X dX1_addLine_93 rfl (s_lconst (pc := 94) X dX1_addLine_94 rfl (s_lconst (pc := 95) X dX1_addLine_95 rfl (s_callV (pc := 96) X dX1_addLine_96 (S_X1_tellWords _) q_X1_91 h_5 rfl (hR _ _ (by decide)) (s_aload_n (pc := 99) X dX1_addLine_99 rfl (s_iload (pc := 100) X dX1_addLine_100 (s_putI (pc := 102) X dX1_addLine_102 p_X1_95 (s_aload_n (pc := 105) X dX1_addLine_105 rfl (s_dupR (pc := 106) X dX1_addLine_106 (s_getI (pc := 107) X dX1_addLine_107 g_X1_66 (s_iconst (pc := 110) X dX1_addLine_110 rfl (s_iadd (pc := 111) X dX1_addLine_111 (s_putI (pc := 112) X dX1_addLine_112 p_X1_66 (s_iload (pc := 115) X dX1_addLine_115 (s_iret (pc := 117) X E hr dX1_addLine_117))))))))))))))))))))))))))))))))))))))))))))))))))))))))))))))))))))), fun _ h => absurd h List.not_mem_nil⟩)
theorem dX1_wordsTold_0 : decode cX1_wordsTold 0 = .ok (.aload_n 0, 1) := by decide +kernel
theorem dX1_wordsTold_1 : decode cX1_wordsTold 1 = .ok (.getfield 56, 3) := by decide +kernel
theorem dX1_wordsTold_4 : decode cX1_wordsTold 4 = .ok (.iconst 0, 1) := by decide +kernel
theorem dX1_wordsTold_5 : decode cX1_wordsTold 5 = .ok (.laload, 1) := by decide +kernel
theorem dX1_wordsTold_6 : decode cX1_wordsTold 6 = .ok (.lconst 0, 1) := by decide +kernel
theorem dX1_wordsTold_7 : decode cX1_wordsTold 7 = .ok (.lcmp, 1) := by decide +kernel
theorem dX1_wordsTold_8 : decode cX1_wordsTold 8 = .ok (.ifCond .eq 7, 3) := by decide +kernel
theorem dX1_wordsTold_11 : decode cX1_wordsTold 11 = .ok (.iconst 1, 1) := by decide +kernel
theorem dX1_wordsTold_12 : decode cX1_wordsTold 12 = .ok (.goto 4, 3) := by decide +kernel
theorem dX1_wordsTold_15 : decode cX1_wordsTold 15 = .ok (.iconst 0, 1) := by decide +kernel
theorem dX1_wordsTold_16 : decode cX1_wordsTold 16 = .ok (.ireturn, 1) := by decide +kernel
noncomputable def B_X1_wordsTold_0 : pb_C := (i_aload 0 (i_getR 5 20 (i_const (.int 0) (i_lald 20 3 (i_const (.long 0) (i_lcmp (i_if_eq (i_const (.int 0) i_zret) (i_const (.int 1) i_zret))))))))
noncomputable def T_X1_wordsTold : Nat → pb_C := pb_tt [(0, B_X1_wordsTold_0)]
noncomputable def M_X1_wordsTold : pb_F := pb_M T_X1_wordsTold 1
set_option maxRecDepth 100000 in
set_option maxHeartbeats 4000000 in
theorem S_X1_wordsTold (l : Launch) : pb_Sound l yX1_wordsTold cX1_wordsTold 1 (some .boolean) 1 M_X1_wordsTold := by
  refine pb_sound_of (by decide) m_3_151 ?_
  intro Γ hl0 hRm0 hm X E hr J
  have hnL : ∀ j, j < 1 → j < Γ.2.2.2.2.2.2.2.2.2.2.2.1 := fun j h => by rw [hm]; exact h
  have hR : ∀ (d' mL : Nat), d' + 1 ≤ 1 ∧ 8 + (mL + 11) + d' * 64 ≤ 1 * 64 → (pb_rm d').frames + 1 ≤ Γ.2.2.2.1.frames ∧ 8 + (mL + 11) + (pb_rm d').locals ≤ Γ.2.2.2.1.locals := by rw [hRm0]; exact fun _ _ h => h
  have hRm : 1 ≤ 1 ∧ 64 ≤ 1 * 64 → 1 ≤ Γ.2.2.2.1.frames ∧ 64 ≤ Γ.2.2.2.1.locals := by rw [hRm0]; exact fun h => h
  exact pb_tt_snd _ (List.forall_mem_cons.mpr ⟨(s_aload_n (pc := 0) X dX1_wordsTold_0 rfl (s_getR (pc := 1) X dX1_wordsTold_1 g_X1_56 (s_iconst (pc := 4) X dX1_wordsTold_4 rfl (s_lald (pc := 5) X dX1_wordsTold_5 h_20 (s_lconst (pc := 6) X dX1_wordsTold_6 rfl (s_lcmp (pc := 7) X dX1_wordsTold_7 (s_if_eq (pc := 8) X dX1_wordsTold_8 (by decide) (s_iconst (pc := 15) X dX1_wordsTold_15 rfl (s_zret (pc := 16) X E hr dX1_wordsTold_16)) (s_iconst (pc := 11) X dX1_wordsTold_11 rfl (s_goto (pc := 12) X dX1_wordsTold_12 (by decide) (s_zret (pc := 16) X E hr dX1_wordsTold_16)))))))))), fun _ h => absurd h List.not_mem_nil⟩)
theorem dX11_line_0 : decode cX11_line 0 = .ok (.aload_n 0, 1) := by decide +kernel
theorem dX11_line_1 : decode cX11_line 1 = .ok (.iload_n 1, 1) := by decide +kernel
theorem dX11_line_2 : decode cX11_line 2 = .ok (.iload_n 2, 1) := by decide +kernel
theorem dX11_line_3 : decode cX11_line 3 = .ok (.invokevirtual 145, 3) := by decide +kernel
theorem dX11_line_6 : decode cX11_line 6 = .ok (.ifCond .ne 34, 3) := by decide +kernel
theorem dX11_line_9 : decode cX11_line 9 = .ok (.iload_n 3, 1) := by decide +kernel
theorem dX11_line_10 : decode cX11_line 10 = .ok (.iconst 0, 1) := by decide +kernel
theorem dX11_line_11 : decode cX11_line 11 = .ok (.bipush 9, 2) := by decide +kernel
theorem dX11_line_13 : decode cX11_line 13 = .ok (.invokestatic 101, 3) := by decide +kernel
theorem dX11_line_16 : decode cX11_line 16 = .ok (.ifCond .ne 24, 3) := by decide +kernel
theorem dX11_line_19 : decode cX11_line 19 = .ok (.iload 6, 2) := by decide +kernel
theorem dX11_line_21 : decode cX11_line 21 = .ok (.iconst 0, 1) := by decide +kernel
theorem dX11_line_22 : decode cX11_line 22 = .ok (.bipush 7, 2) := by decide +kernel
theorem dX11_line_24 : decode cX11_line 24 = .ok (.invokestatic 101, 3) := by decide +kernel
theorem dX11_line_27 : decode cX11_line 27 = .ok (.ifCond .ne 13, 3) := by decide +kernel
theorem dX11_line_30 : decode cX11_line 30 = .ok (.iload 4, 2) := by decide +kernel
theorem dX11_line_32 : decode cX11_line 32 = .ok (.iload 7, 2) := by decide +kernel
theorem dX11_line_34 : decode cX11_line 34 = .ok (.invokestatic 149, 3) := by decide +kernel
theorem dX11_line_37 : decode cX11_line 37 = .ok (.ifCond .eq 11, 3) := by decide +kernel
theorem dX11_line_40 : decode cX11_line 40 = .ok (.aload_n 0, 1) := by decide +kernel
theorem dX11_line_41 : decode cX11_line 41 = .ok (.iconst 1, 1) := by decide +kernel
theorem dX11_line_42 : decode cX11_line 42 = .ok (.putfield 9, 3) := by decide +kernel
theorem dX11_line_45 : decode cX11_line 45 = .ok (.goto 64, 3) := by decide +kernel
theorem dX11_line_48 : decode cX11_line 48 = .ok (.aload_n 0, 1) := by decide +kernel
theorem dX11_line_49 : decode cX11_line 49 = .ok (.getfield 30, 3) := by decide +kernel
theorem dX11_line_52 : decode cX11_line 52 = .ok (.getfield 152, 3) := by decide +kernel
theorem dX11_line_55 : decode cX11_line 55 = .ok (.sipush 200, 3) := by decide +kernel
theorem dX11_line_58 : decode cX11_line 58 = .ok (.if_icmp .lt 11, 3) := by decide +kernel
theorem dX11_line_61 : decode cX11_line 61 = .ok (.aload_n 0, 1) := by decide +kernel
theorem dX11_line_62 : decode cX11_line 62 = .ok (.iconst 4, 1) := by decide +kernel
theorem dX11_line_63 : decode cX11_line 63 = .ok (.putfield 9, 3) := by decide +kernel
theorem dX11_line_66 : decode cX11_line 66 = .ok (.goto 43, 3) := by decide +kernel
theorem dX11_line_69 : decode cX11_line 69 = .ok (.iload 7, 2) := by decide +kernel
theorem dX11_line_71 : decode cX11_line 71 = .ok (.aload_n 0, 1) := by decide +kernel
theorem dX11_line_72 : decode cX11_line 72 = .ok (.getfield 30, 3) := by decide +kernel
theorem dX11_line_75 : decode cX11_line 75 = .ok (.getfield 155, 3) := by decide +kernel
theorem dX11_line_78 : decode cX11_line 78 = .ok (.if_icmp .ge 11, 3) := by decide +kernel
theorem dX11_line_81 : decode cX11_line 81 = .ok (.aload_n 0, 1) := by decide +kernel
theorem dX11_line_82 : decode cX11_line 82 = .ok (.iconst 5, 1) := by decide +kernel
theorem dX11_line_83 : decode cX11_line 83 = .ok (.putfield 9, 3) := by decide +kernel
theorem dX11_line_86 : decode cX11_line 86 = .ok (.goto 23, 3) := by decide +kernel
theorem dX11_line_89 : decode cX11_line 89 = .ok (.aload_n 0, 1) := by decide +kernel
theorem dX11_line_90 : decode cX11_line 90 = .ok (.aload_n 0, 1) := by decide +kernel
theorem dX11_line_91 : decode cX11_line 91 = .ok (.getfield 30, 3) := by decide +kernel
theorem dX11_line_94 : decode cX11_line 94 = .ok (.invokevirtual 158, 3) := by decide +kernel
theorem dX11_line_97 : decode cX11_line 97 = .ok (.ifCond .eq 7, 3) := by decide +kernel
theorem dX11_line_100 : decode cX11_line 100 = .ok (.iconst 0, 1) := by decide +kernel
theorem dX11_line_101 : decode cX11_line 101 = .ok (.goto 5, 3) := by decide +kernel
theorem dX11_line_104 : decode cX11_line 104 = .ok (.bipush 6, 2) := by decide +kernel
theorem dX11_line_106 : decode cX11_line 106 = .ok (.putfield 9, 3) := by decide +kernel
theorem dX11_line_109 : decode cX11_line 109 = .ok (.aload_n 0, 1) := by decide +kernel
theorem dX11_line_110 : decode cX11_line 110 = .ok (.getfield 9, 3) := by decide +kernel
theorem dX11_line_113 : decode cX11_line 113 = .ok (.ifCond .ne 24, 3) := by decide +kernel
theorem dX11_line_116 : decode cX11_line 116 = .ok (.aload_n 0, 1) := by decide +kernel
theorem dX11_line_117 : decode cX11_line 117 = .ok (.getfield 30, 3) := by decide +kernel
theorem dX11_line_120 : decode cX11_line 120 = .ok (.iload_n 1, 1) := by decide +kernel
theorem dX11_line_121 : decode cX11_line 121 = .ok (.iload_n 2, 1) := by decide +kernel
theorem dX11_line_122 : decode cX11_line 122 = .ok (.iload_n 3, 1) := by decide +kernel
theorem dX11_line_123 : decode cX11_line 123 = .ok (.iload 4, 2) := by decide +kernel
theorem dX11_line_125 : decode cX11_line 125 = .ok (.iload 5, 2) := by decide +kernel
theorem dX11_line_127 : decode cX11_line 127 = .ok (.iload 6, 2) := by decide +kernel
theorem dX11_line_129 : decode cX11_line 129 = .ok (.iload 7, 2) := by decide +kernel
theorem dX11_line_131 : decode cX11_line 131 = .ok (.invokevirtual 162, 3) := by decide +kernel
theorem dX11_line_134 : decode cX11_line 134 = .ok (.goto 4, 3) := by decide +kernel
theorem dX11_line_137 : decode cX11_line 137 = .ok (.iconst (-1), 1) := by decide +kernel
theorem dX11_line_138 : decode cX11_line 138 = .ok (.ireturn, 1) := by decide +kernel
noncomputable def B_X11_line_0 : pb_C := (i_aload 0 (i_iload 1 (i_iload 2 (i_callV 0 2 1 M_X11_noFamilyWeek (i_if_ne (i_aload 0 (i_const (.int 1) (i_putI 0 0 (i_jmp 109 [true, true, true, true, true, true, true, true])))) (i_iload 3 (i_const (.int 0) (i_const (.int 9) (i_callS 3 1 M_X11_outside (i_if_ne (i_aload 0 (i_const (.int 1) (i_putI 0 0 (i_jmp 109 [true, true, true, true, true, true, true, true])))) (i_iload 6 (i_const (.int 0) (i_const (.int 7) (i_callS 3 1 M_X11_outside (i_if_ne (i_aload 0 (i_const (.int 1) (i_putI 0 0 (i_jmp 109 [true, true, true, true, true, true, true, true])))) (i_iload 4 (i_iload 7 (i_callS 2 1 M_X11_badEntry (i_if_eq (i_aload 0 (i_getR 0 5 (i_getI 5 3 (i_const (.int 200) (i_ic_lt (i_iload 7 (i_aload 0 (i_getR 0 5 (i_getI 5 18 (i_ic_ge (i_aload 0 (i_aload 0 (i_getR 0 5 (i_callV 5 0 1 M_X1_wordsTold (i_if_eq (i_const (.int 6) (i_putI 0 0 (i_jmp 109 [true, true, true, true, true, true, true, true]))) (i_const (.int 0) (i_putI 0 0 (i_jmp 109 [true, true, true, true, true, true, true, true])))))))) (i_aload 0 (i_const (.int 5) (i_putI 0 0 (i_jmp 109 [true, true, true, true, true, true, true, true]))))))))) (i_aload 0 (i_const (.int 4) (i_putI 0 0 (i_jmp 109 [true, true, true, true, true, true, true, true]))))))))) (i_aload 0 (i_const (.int 1) (i_putI 0 0 (i_jmp 109 [true, true, true, true, true, true, true, true])))))))))))))))))))))))
noncomputable def B_X11_line_109 : pb_C := (i_aload 0 (i_getI 0 0 (i_if_ne (i_const (.int (-1)) i_iret) (i_aload 0 (i_getR 0 5 (i_iload 1 (i_iload 2 (i_iload 3 (i_iload 4 (i_iload 5 (i_iload 6 (i_iload 7 (i_callV 5 7 1 M_X1_addLine i_iret)))))))))))))
noncomputable def T_X11_line : Nat → pb_C := pb_tt [(0, B_X11_line_0), (109, B_X11_line_109)]
noncomputable def M_X11_line : pb_F := pb_M T_X11_line 8
set_option maxRecDepth 100000 in
set_option maxHeartbeats 4000000 in
theorem S_X11_line (l : Launch) : pb_Sound l yX11_line cX11_line 8 (some .int) 3 M_X11_line := by
  refine pb_sound_of (by decide) m_3_136 ?_
  intro Γ hl0 hRm0 hm X E hr J
  have hnL : ∀ j, j < 8 → j < Γ.2.2.2.2.2.2.2.2.2.2.2.1 := fun j h => by rw [hm]; exact h
  have hR : ∀ (d' mL : Nat), d' + 1 ≤ 3 ∧ 8 + (mL + 11) + d' * 64 ≤ 3 * 64 → (pb_rm d').frames + 1 ≤ Γ.2.2.2.1.frames ∧ 8 + (mL + 11) + (pb_rm d').locals ≤ Γ.2.2.2.1.locals := by rw [hRm0]; exact fun _ _ h => h
  have hRm : 1 ≤ 3 ∧ 64 ≤ 3 * 64 → 1 ≤ Γ.2.2.2.1.frames ∧ 64 ≤ Γ.2.2.2.1.locals := by rw [hRm0]; exact fun h => h
  exact pb_tt_snd _ (List.forall_mem_cons.mpr ⟨(s_aload_n (pc := 0) X dX11_line_0 rfl (s_iload_n (pc := 1) X dX11_line_1 rfl (s_iload_n (pc := 2) X dX11_line_2 rfl (s_callV (pc := 3) X dX11_line_3 (S_X11_noFamilyWeek _) q_X11_145 h_0 rfl (hR _ _ (by decide)) (s_if_ne (pc := 6) X dX11_line_6 (by decide) (s_aload_n (pc := 40) X dX11_line_40 rfl (s_iconst (pc := 41) X dX11_line_41 rfl (s_putI (pc := 42) X dX11_line_42 p_X11_9 (s_goto (pc := 45) X dX11_line_45 (by decide) (s_jmp (pc := 109) J [true, true, true, true, true, true, true, true]))))) (s_iload_n (pc := 9) X dX11_line_9 rfl (s_iconst (pc := 10) X dX11_line_10 rfl (s_bipush (pc := 11) X dX11_line_11 rfl (s_callS (pc := 13) X dX11_line_13 (S_X11_outside _) q_X11_101 (hR _ _ (by decide)) (s_if_ne (pc := 16) X dX11_line_16 (by decide) (s_aload_n (pc := 40) X dX11_line_40 rfl (s_iconst (pc := 41) X dX11_line_41 rfl (s_putI (pc := 42) X dX11_line_42 p_X11_9 (s_goto (pc := 45) X dX11_line_45 (by decide) (s_jmp (pc := 109) J [true, true, true, true, true, true, true, true]))))) (s_iload (pc := 19) X dX11_line_19 (s_iconst (pc := 21) X dX11_line_21 rfl (s_bipush (pc := 22) X dX11_line_22 rfl (s_callS (pc := 24) X dX11_line_24 (S_X11_outside _) q_X11_101 (hR _ _ (by decide)) (s_if_ne (pc := 27) X dX11_line_27 (by decide) (s_aload_n (pc := 40) X dX11_line_40 rfl (s_iconst (pc := 41) X dX11_line_41 rfl (s_putI (pc := 42) X dX11_line_42 p_X11_9 (s_goto (pc := 45) X dX11_line_45 (by decide) (s_jmp (pc := 109) J [true, true, true, true, true, true, true, true]))))) (s_iload (pc := 30) X dX11_line_30 (s_iload (pc := 32) X dX11_line_32 (s_callS (pc := 34) X dX11_line_34 (S_X11_badEntry _) q_X11_149 (hR _ _ (by decide)) (s_if_eq (pc := 37) X dX11_line_37 (by decide) (s_aload_n (pc := 48) X dX11_line_48 rfl (s_getR (pc := 49) X dX11_line_49 g_X11_30 (s_getI (pc := 52) X dX11_line_52 g_X11_152 (s_sipush (pc := 55) X dX11_line_55 rfl (s_ic_lt (pc := 58) X dX11_line_58 (by decide) (s_iload (pc := 69) X dX11_line_69 (s_aload_n (pc := 71) X dX11_line_71 rfl (s_getR (pc := 72) X dX11_line_72 g_X11_30 (s_getI (pc := 75) X dX11_line_75 g_X11_155 (s_ic_ge (pc := 78) X dX11_line_78 (by decide) (s_aload_n (pc := 89) X dX11_line_89 rfl (s_aload_n (pc := 90) X dX11_line_90 rfl (s_getR (pc := 91) X dX11_line_91 g_X11_30 (s_callV (pc := 94) X dX11_line_94 (S_X1_wordsTold _) q_X11_158 h_5 rfl (hR _ _ (by decide)) (s_if_eq (pc := 97) X dX11_line_97 (by decide) (s_bipush (pc := 104) X dX11_line_104 rfl (s_putI (pc := 106) X dX11_line_106 p_X11_9 (s_jmp (pc := 109) J [true, true, true, true, true, true, true, true]))) (s_iconst (pc := 100) X dX11_line_100 rfl (s_goto (pc := 101) X dX11_line_101 (by decide) (s_putI (pc := 106) X dX11_line_106 p_X11_9 (s_jmp (pc := 109) J [true, true, true, true, true, true, true, true]))))))))) (s_aload_n (pc := 81) X dX11_line_81 rfl (s_iconst (pc := 82) X dX11_line_82 rfl (s_putI (pc := 83) X dX11_line_83 p_X11_9 (s_goto (pc := 86) X dX11_line_86 (by decide) (s_jmp (pc := 109) J [true, true, true, true, true, true, true, true])))))))))) (s_aload_n (pc := 61) X dX11_line_61 rfl (s_iconst (pc := 62) X dX11_line_62 rfl (s_putI (pc := 63) X dX11_line_63 p_X11_9 (s_goto (pc := 66) X dX11_line_66 (by decide) (s_jmp (pc := 109) J [true, true, true, true, true, true, true, true])))))))))) (s_aload_n (pc := 40) X dX11_line_40 rfl (s_iconst (pc := 41) X dX11_line_41 rfl (s_putI (pc := 42) X dX11_line_42 p_X11_9 (s_goto (pc := 45) X dX11_line_45 (by decide) (s_jmp (pc := 109) J [true, true, true, true, true, true, true, true])))))))))))))))))))))))), List.forall_mem_cons.mpr ⟨(s_aload_n (pc := 109) X dX11_line_109 rfl (s_getI (pc := 110) X dX11_line_110 g_X11_9 (s_if_ne (pc := 113) X dX11_line_113 (by decide) (s_iconst (pc := 137) X dX11_line_137 rfl (s_iret (pc := 138) X E hr dX11_line_138)) (s_aload_n (pc := 116) X dX11_line_116 rfl (s_getR (pc := 117) X dX11_line_117 g_X11_30 (s_iload_n (pc := 120) X dX11_line_120 rfl (s_iload_n (pc := 121) X dX11_line_121 rfl (s_iload_n (pc := 122) X dX11_line_122 rfl (s_iload (pc := 123) X dX11_line_123 (s_iload (pc := 125) X dX11_line_125 (s_iload (pc := 127) X dX11_line_127 (s_iload (pc := 129) X dX11_line_129 (s_callV (pc := 131) X dX11_line_131 (S_X1_addLine _) q_X11_162 h_5 rfl (hR _ _ (by decide)) (s_goto (pc := 134) X dX11_line_134 (by decide) (s_iret (pc := 138) X E hr dX11_line_138))))))))))))))), fun _ h => absurd h List.not_mem_nil⟩⟩)
theorem dX1_hasLine_0 : decode cX1_hasLine 0 = .ok (.iload_n 1, 1) := by decide +kernel
theorem dX1_hasLine_1 : decode cX1_hasLine 1 = .ok (.ifCond .lt 15, 3) := by decide +kernel
theorem dX1_hasLine_4 : decode cX1_hasLine 4 = .ok (.iload_n 1, 1) := by decide +kernel
theorem dX1_hasLine_5 : decode cX1_hasLine 5 = .ok (.aload_n 0, 1) := by decide +kernel
theorem dX1_hasLine_6 : decode cX1_hasLine 6 = .ok (.getfield 66, 3) := by decide +kernel
theorem dX1_hasLine_9 : decode cX1_hasLine 9 = .ok (.if_icmp .ge 7, 3) := by decide +kernel
theorem dX1_hasLine_12 : decode cX1_hasLine 12 = .ok (.iconst 1, 1) := by decide +kernel
theorem dX1_hasLine_13 : decode cX1_hasLine 13 = .ok (.goto 4, 3) := by decide +kernel
theorem dX1_hasLine_16 : decode cX1_hasLine 16 = .ok (.iconst 0, 1) := by decide +kernel
theorem dX1_hasLine_17 : decode cX1_hasLine 17 = .ok (.ireturn, 1) := by decide +kernel
noncomputable def B_X1_hasLine_0 : pb_C := (i_iload 1 (i_if_lt (i_const (.int 0) i_zret) (i_iload 1 (i_aload 0 (i_getI 5 3 (i_ic_ge (i_const (.int 0) i_zret) (i_const (.int 1) i_zret)))))))
noncomputable def T_X1_hasLine : Nat → pb_C := pb_tt [(0, B_X1_hasLine_0)]
noncomputable def M_X1_hasLine : pb_F := pb_M T_X1_hasLine 2
set_option maxRecDepth 100000 in
set_option maxHeartbeats 4000000 in
theorem S_X1_hasLine (l : Launch) : pb_Sound l yX1_hasLine cX1_hasLine 2 (some .boolean) 1 M_X1_hasLine := by
  refine pb_sound_of (by decide) m_3_165 ?_
  intro Γ hl0 hRm0 hm X E hr J
  have hnL : ∀ j, j < 2 → j < Γ.2.2.2.2.2.2.2.2.2.2.2.1 := fun j h => by rw [hm]; exact h
  have hR : ∀ (d' mL : Nat), d' + 1 ≤ 1 ∧ 8 + (mL + 11) + d' * 64 ≤ 1 * 64 → (pb_rm d').frames + 1 ≤ Γ.2.2.2.1.frames ∧ 8 + (mL + 11) + (pb_rm d').locals ≤ Γ.2.2.2.1.locals := by rw [hRm0]; exact fun _ _ h => h
  have hRm : 1 ≤ 1 ∧ 64 ≤ 1 * 64 → 1 ≤ Γ.2.2.2.1.frames ∧ 64 ≤ Γ.2.2.2.1.locals := by rw [hRm0]; exact fun h => h
  exact pb_tt_snd _ (List.forall_mem_cons.mpr ⟨(s_iload_n (pc := 0) X dX1_hasLine_0 rfl (s_if_lt (pc := 1) X dX1_hasLine_1 (by decide) (s_iconst (pc := 16) X dX1_hasLine_16 rfl (s_zret (pc := 17) X E hr dX1_hasLine_17)) (s_iload_n (pc := 4) X dX1_hasLine_4 rfl (s_aload_n (pc := 5) X dX1_hasLine_5 rfl (s_getI (pc := 6) X dX1_hasLine_6 g_X1_66 (s_ic_ge (pc := 9) X dX1_hasLine_9 (by decide) (s_iconst (pc := 16) X dX1_hasLine_16 rfl (s_zret (pc := 17) X E hr dX1_hasLine_17)) (s_iconst (pc := 12) X dX1_hasLine_12 rfl (s_goto (pc := 13) X dX1_hasLine_13 (by decide) (s_zret (pc := 17) X E hr dX1_hasLine_17))))))))), fun _ h => absurd h List.not_mem_nil⟩)
theorem dX1_lookFrom_0 : decode cX1_lookFrom 0 = .ok (.aload_n 0, 1) := by decide +kernel
theorem dX1_lookFrom_1 : decode cX1_lookFrom 1 = .ok (.iload_n 1, 1) := by decide +kernel
theorem dX1_lookFrom_2 : decode cX1_lookFrom 2 = .ok (.putfield 59, 3) := by decide +kernel
theorem dX1_lookFrom_5 : decode cX1_lookFrom 5 = .ok (.aload_n 0, 1) := by decide +kernel
theorem dX1_lookFrom_6 : decode cX1_lookFrom 6 = .ok (.getfield 41, 3) := by decide +kernel
theorem dX1_lookFrom_9 : decode cX1_lookFrom 9 = .ok (.iconst 0, 1) := by decide +kernel
theorem dX1_lookFrom_10 : decode cX1_lookFrom 10 = .ok (.aload_n 0, 1) := by decide +kernel
theorem dX1_lookFrom_11 : decode cX1_lookFrom 11 = .ok (.getfield 44, 3) := by decide +kernel
theorem dX1_lookFrom_14 : decode cX1_lookFrom 14 = .ok (.iconst 0, 1) := by decide +kernel
theorem dX1_lookFrom_15 : decode cX1_lookFrom 15 = .ok (.aload_n 0, 1) := by decide +kernel
theorem dX1_lookFrom_16 : decode cX1_lookFrom 16 = .ok (.getfield 66, 3) := by decide +kernel
theorem dX1_lookFrom_19 : decode cX1_lookFrom 19 = .ok (.invokestatic 85, 3) := by decide +kernel
theorem dX1_lookFrom_22 : decode cX1_lookFrom 22 = .ok (.iconst 0, 1) := by decide +kernel
theorem dX1_lookFrom_23 : decode cX1_lookFrom 23 = .ok (.istore_n 2, 1) := by decide +kernel
theorem dX1_lookFrom_24 : decode cX1_lookFrom 24 = .ok (.iload_n 2, 1) := by decide +kernel
theorem dX1_lookFrom_25 : decode cX1_lookFrom 25 = .ok (.aload_n 0, 1) := by decide +kernel
theorem dX1_lookFrom_26 : decode cX1_lookFrom 26 = .ok (.getfield 98, 3) := by decide +kernel
theorem dX1_lookFrom_29 : decode cX1_lookFrom 29 = .ok (.if_icmp .ge 36, 3) := by decide +kernel
theorem dX1_lookFrom_32 : decode cX1_lookFrom 32 = .ok (.aload_n 0, 1) := by decide +kernel
theorem dX1_lookFrom_33 : decode cX1_lookFrom 33 = .ok (.getfield 53, 3) := by decide +kernel
theorem dX1_lookFrom_36 : decode cX1_lookFrom 36 = .ok (.iload_n 2, 1) := by decide +kernel
theorem dX1_lookFrom_37 : decode cX1_lookFrom 37 = .ok (.iaload, 1) := by decide +kernel
theorem dX1_lookFrom_38 : decode cX1_lookFrom 38 = .ok (.iload_n 1, 1) := by decide +kernel
theorem dX1_lookFrom_39 : decode cX1_lookFrom 39 = .ok (.if_icmp .gt 20, 3) := by decide +kernel
theorem dX1_lookFrom_42 : decode cX1_lookFrom 42 = .ok (.aload_n 0, 1) := by decide +kernel
theorem dX1_lookFrom_43 : decode cX1_lookFrom 43 = .ok (.getfield 44, 3) := by decide +kernel
theorem dX1_lookFrom_46 : decode cX1_lookFrom 46 = .ok (.aload_n 0, 1) := by decide +kernel
theorem dX1_lookFrom_47 : decode cX1_lookFrom 47 = .ok (.getfield 47, 3) := by decide +kernel
theorem dX1_lookFrom_50 : decode cX1_lookFrom 50 = .ok (.iload_n 2, 1) := by decide +kernel
theorem dX1_lookFrom_51 : decode cX1_lookFrom 51 = .ok (.iaload, 1) := by decide +kernel
theorem dX1_lookFrom_52 : decode cX1_lookFrom 52 = .ok (.aload_n 0, 1) := by decide +kernel
theorem dX1_lookFrom_53 : decode cX1_lookFrom 53 = .ok (.getfield 50, 3) := by decide +kernel
theorem dX1_lookFrom_56 : decode cX1_lookFrom 56 = .ok (.iload_n 2, 1) := by decide +kernel
theorem dX1_lookFrom_57 : decode cX1_lookFrom 57 = .ok (.iaload, 1) := by decide +kernel
theorem dX1_lookFrom_58 : decode cX1_lookFrom 58 = .ok (.iastore, 1) := by decide +kernel
theorem dX1_lookFrom_59 : decode cX1_lookFrom 59 = .ok (.iinc 2 1, 3) := by decide +kernel
theorem dX1_lookFrom_62 : decode cX1_lookFrom 62 = .ok (.goto (-38), 3) := by decide +kernel
theorem dX1_lookFrom_65 : decode cX1_lookFrom 65 = .ok (.return_, 1) := by decide +kernel
noncomputable def B_X1_lookFrom_0 : pb_C := (i_aload 0 (i_iload 1 (i_putI 5 19 (i_aload 0 (i_getR 5 15 (i_const (.int 0) (i_aload 0 (i_getR 5 16 (i_const (.int 0) (i_aload 0 (i_getI 5 3 (i_copy 15 200 16 200 (i_const (.int 0) (i_istore 2 (i_jmp 24 [true, true, true])))))))))))))))
noncomputable def B_X1_lookFrom_24 : pb_C := (i_iload 2 (i_aload 0 (i_getI 5 13 (i_ic_ge i_vret (i_aload 0 (i_getR 5 19 (i_iload 2 (i_ald 19 60 (i_iload 1 (i_ic_gt (i_iinc 2 1 (i_jmp 24 [true, true, true])) (i_aload 0 (i_getR 5 16 (i_aload 0 (i_getR 5 17 (i_iload 2 (i_ald 17 60 (i_aload 0 (i_getR 5 18 (i_iload 2 (i_ald 18 60 (i_ast 16 200 (fun x => x) (i_iinc 2 1 (i_jmp 24 [true, true, true])))))))))))))))))))))))
noncomputable def T_X1_lookFrom : Nat → pb_C := pb_tt [(0, B_X1_lookFrom_0), (24, B_X1_lookFrom_24)]
noncomputable def M_X1_lookFrom : pb_F := pb_M T_X1_lookFrom 3
set_option maxRecDepth 100000 in
set_option maxHeartbeats 4000000 in
theorem S_X1_lookFrom (l : Launch) : pb_Sound l yX1_lookFrom cX1_lookFrom 3 none 1 M_X1_lookFrom := by
  refine pb_sound_of (by decide) m_3_173 ?_
  intro Γ hl0 hRm0 hm X E hr J
  have hnL : ∀ j, j < 3 → j < Γ.2.2.2.2.2.2.2.2.2.2.2.1 := fun j h => by rw [hm]; exact h
  have hR : ∀ (d' mL : Nat), d' + 1 ≤ 1 ∧ 8 + (mL + 11) + d' * 64 ≤ 1 * 64 → (pb_rm d').frames + 1 ≤ Γ.2.2.2.1.frames ∧ 8 + (mL + 11) + (pb_rm d').locals ≤ Γ.2.2.2.1.locals := by rw [hRm0]; exact fun _ _ h => h
  have hRm : 1 ≤ 1 ∧ 64 ≤ 1 * 64 → 1 ≤ Γ.2.2.2.1.frames ∧ 64 ≤ Γ.2.2.2.1.locals := by rw [hRm0]; exact fun h => h
  exact pb_tt_snd _ (List.forall_mem_cons.mpr ⟨(s_aload_n (pc := 0) X dX1_lookFrom_0 rfl (s_iload_n (pc := 1) X dX1_lookFrom_1 rfl (s_putI (pc := 2) X dX1_lookFrom_2 p_X1_59 (s_aload_n (pc := 5) X dX1_lookFrom_5 rfl (s_getR (pc := 6) X dX1_lookFrom_6 g_X1_41 (s_iconst (pc := 9) X dX1_lookFrom_9 rfl (s_aload_n (pc := 10) X dX1_lookFrom_10 rfl (s_getR (pc := 11) X dX1_lookFrom_11 g_X1_44 (s_iconst (pc := 14) X dX1_lookFrom_14 rfl (s_aload_n (pc := 15) X dX1_lookFrom_15 rfl (s_getI (pc := 16) X dX1_lookFrom_16 g_X1_66 (s_copy (pc := 19) X dX1_lookFrom_19 m_3_156 m_nat h_15 h_16 (hRm (by decide)) (s_iconst (pc := 22) X dX1_lookFrom_22 rfl (s_istore_n (pc := 23) X dX1_lookFrom_23 rfl (hnL _ (by decide)) (s_jmp (pc := 24) J [true, true, true]))))))))))))))), List.forall_mem_cons.mpr ⟨(s_iload_n (pc := 24) X dX1_lookFrom_24 rfl (s_aload_n (pc := 25) X dX1_lookFrom_25 rfl (s_getI (pc := 26) X dX1_lookFrom_26 g_X1_98 (s_ic_ge (pc := 29) X dX1_lookFrom_29 (by decide) (s_vret (pc := 65) X E hr dX1_lookFrom_65) (s_aload_n (pc := 32) X dX1_lookFrom_32 rfl (s_getR (pc := 33) X dX1_lookFrom_33 g_X1_53 (s_iload_n (pc := 36) X dX1_lookFrom_36 rfl (s_iald (pc := 37) X dX1_lookFrom_37 h_19 (s_iload_n (pc := 38) X dX1_lookFrom_38 rfl (s_ic_gt (pc := 39) X dX1_lookFrom_39 (by decide) (s_iinc (pc := 59) X dX1_lookFrom_59 rfl (s_goto (pc := 62) X dX1_lookFrom_62 (by decide) (s_jmp (pc := 24) J [true, true, true]))) (s_aload_n (pc := 42) X dX1_lookFrom_42 rfl (s_getR (pc := 43) X dX1_lookFrom_43 g_X1_44 (s_aload_n (pc := 46) X dX1_lookFrom_46 rfl (s_getR (pc := 47) X dX1_lookFrom_47 g_X1_47 (s_iload_n (pc := 50) X dX1_lookFrom_50 rfl (s_iald (pc := 51) X dX1_lookFrom_51 h_17 (s_aload_n (pc := 52) X dX1_lookFrom_52 rfl (s_getR (pc := 53) X dX1_lookFrom_53 g_X1_50 (s_iload_n (pc := 56) X dX1_lookFrom_56 rfl (s_iald (pc := 57) X dX1_lookFrom_57 h_18 (s_iast (pc := 58) X dX1_lookFrom_58 h_16 (s_iinc (pc := 59) X dX1_lookFrom_59 rfl (s_goto (pc := 62) X dX1_lookFrom_62 (by decide) (s_jmp (pc := 24) J [true, true, true])))))))))))))))))))))))), fun _ h => absurd h List.not_mem_nil⟩⟩)
theorem dX1_addReading_0 : decode cX1_addReading 0 = .ok (.aload_n 0, 1) := by decide +kernel
theorem dX1_addReading_1 : decode cX1_addReading 1 = .ok (.getfield 47, 3) := by decide +kernel
theorem dX1_addReading_4 : decode cX1_addReading 4 = .ok (.aload_n 0, 1) := by decide +kernel
theorem dX1_addReading_5 : decode cX1_addReading 5 = .ok (.getfield 98, 3) := by decide +kernel
theorem dX1_addReading_8 : decode cX1_addReading 8 = .ok (.iload_n 1, 1) := by decide +kernel
theorem dX1_addReading_9 : decode cX1_addReading 9 = .ok (.iastore, 1) := by decide +kernel
theorem dX1_addReading_10 : decode cX1_addReading 10 = .ok (.aload_n 0, 1) := by decide +kernel
theorem dX1_addReading_11 : decode cX1_addReading 11 = .ok (.getfield 50, 3) := by decide +kernel
theorem dX1_addReading_14 : decode cX1_addReading 14 = .ok (.aload_n 0, 1) := by decide +kernel
theorem dX1_addReading_15 : decode cX1_addReading 15 = .ok (.getfield 98, 3) := by decide +kernel
theorem dX1_addReading_18 : decode cX1_addReading 18 = .ok (.iload_n 2, 1) := by decide +kernel
theorem dX1_addReading_19 : decode cX1_addReading 19 = .ok (.iastore, 1) := by decide +kernel
theorem dX1_addReading_20 : decode cX1_addReading 20 = .ok (.aload_n 0, 1) := by decide +kernel
theorem dX1_addReading_21 : decode cX1_addReading 21 = .ok (.getfield 53, 3) := by decide +kernel
theorem dX1_addReading_24 : decode cX1_addReading 24 = .ok (.aload_n 0, 1) := by decide +kernel
theorem dX1_addReading_25 : decode cX1_addReading 25 = .ok (.getfield 98, 3) := by decide +kernel
theorem dX1_addReading_28 : decode cX1_addReading 28 = .ok (.iload_n 3, 1) := by decide +kernel
theorem dX1_addReading_29 : decode cX1_addReading 29 = .ok (.iastore, 1) := by decide +kernel
theorem dX1_addReading_30 : decode cX1_addReading 30 = .ok (.aload_n 0, 1) := by decide +kernel
theorem dX1_addReading_31 : decode cX1_addReading 31 = .ok (.dup, 1) := by decide +kernel
theorem dX1_addReading_32 : decode cX1_addReading 32 = .ok (.getfield 98, 3) := by decide +kernel
theorem dX1_addReading_35 : decode cX1_addReading 35 = .ok (.iconst 1, 1) := by decide +kernel
theorem dX1_addReading_36 : decode cX1_addReading 36 = .ok (.iadd, 1) := by decide +kernel
theorem dX1_addReading_37 : decode cX1_addReading 37 = .ok (.putfield 98, 3) := by decide +kernel
theorem dX1_addReading_40 : decode cX1_addReading 40 = .ok (.aload_n 0, 1) := by decide +kernel
theorem dX1_addReading_41 : decode cX1_addReading 41 = .ok (.iload_n 3, 1) := by decide +kernel
theorem dX1_addReading_42 : decode cX1_addReading 42 = .ok (.putfield 95, 3) := by decide +kernel
theorem dX1_addReading_45 : decode cX1_addReading 45 = .ok (.aload_n 0, 1) := by decide +kernel
theorem dX1_addReading_46 : decode cX1_addReading 46 = .ok (.aload_n 0, 1) := by decide +kernel
theorem dX1_addReading_47 : decode cX1_addReading 47 = .ok (.getfield 59, 3) := by decide +kernel
theorem dX1_addReading_50 : decode cX1_addReading 50 = .ok (.invokevirtual 101, 3) := by decide +kernel
theorem dX1_addReading_53 : decode cX1_addReading 53 = .ok (.return_, 1) := by decide +kernel
noncomputable def B_X1_addReading_0 : pb_C := (i_aload 0 (i_getR 5 17 (i_aload 0 (i_getI 5 13 (i_iload 1 (i_ast 17 60 (fun x => x) (i_aload 0 (i_getR 5 18 (i_aload 0 (i_getI 5 13 (i_iload 2 (i_ast 18 60 (fun x => x) (i_aload 0 (i_getR 5 19 (i_aload 0 (i_getI 5 13 (i_iload 3 (i_ast 19 60 (fun x => x) (i_aload 0 (i_dupR (i_getI 5 13 (i_const (.int 1) (i_ibin (· + ·) (i_putI 5 13 (i_aload 0 (i_iload 3 (i_putI 5 18 (i_aload 0 (i_aload 0 (i_getI 5 19 (i_callV 5 1 0 M_X1_lookFrom i_vret)))))))))))))))))))))))))))))))
noncomputable def T_X1_addReading : Nat → pb_C := pb_tt [(0, B_X1_addReading_0)]
noncomputable def M_X1_addReading : pb_F := pb_M T_X1_addReading 4
set_option maxRecDepth 100000 in
set_option maxHeartbeats 4000000 in
theorem S_X1_addReading (l : Launch) : pb_Sound l yX1_addReading cX1_addReading 4 none 2 M_X1_addReading := by
  refine pb_sound_of (by decide) m_3_169 ?_
  intro Γ hl0 hRm0 hm X E hr J
  have hnL : ∀ j, j < 4 → j < Γ.2.2.2.2.2.2.2.2.2.2.2.1 := fun j h => by rw [hm]; exact h
  have hR : ∀ (d' mL : Nat), d' + 1 ≤ 2 ∧ 8 + (mL + 11) + d' * 64 ≤ 2 * 64 → (pb_rm d').frames + 1 ≤ Γ.2.2.2.1.frames ∧ 8 + (mL + 11) + (pb_rm d').locals ≤ Γ.2.2.2.1.locals := by rw [hRm0]; exact fun _ _ h => h
  have hRm : 1 ≤ 2 ∧ 64 ≤ 2 * 64 → 1 ≤ Γ.2.2.2.1.frames ∧ 64 ≤ Γ.2.2.2.1.locals := by rw [hRm0]; exact fun h => h
  exact pb_tt_snd _ (List.forall_mem_cons.mpr ⟨(s_aload_n (pc := 0) X dX1_addReading_0 rfl (s_getR (pc := 1) X dX1_addReading_1 g_X1_47 (s_aload_n (pc := 4) X dX1_addReading_4 rfl (s_getI (pc := 5) X dX1_addReading_5 g_X1_98 (s_iload_n (pc := 8) X dX1_addReading_8 rfl (s_iast (pc := 9) X dX1_addReading_9 h_17 (s_aload_n (pc := 10) X dX1_addReading_10 rfl (s_getR (pc := 11) X dX1_addReading_11 g_X1_50 (s_aload_n (pc := 14) X dX1_addReading_14 rfl (s_getI (pc := 15) X dX1_addReading_15 g_X1_98 (s_iload_n (pc := 18) X dX1_addReading_18 rfl (s_iast (pc := 19) X dX1_addReading_19 h_18 (s_aload_n (pc := 20) X dX1_addReading_20 rfl (s_getR (pc := 21) X dX1_addReading_21 g_X1_53 (s_aload_n (pc := 24) X dX1_addReading_24 rfl (s_getI (pc := 25) X dX1_addReading_25 g_X1_98 (s_iload_n (pc := 28) X dX1_addReading_28 rfl (s_iast (pc := 29) X dX1_addReading_29 h_19 (s_aload_n (pc := 30) X dX1_addReading_30 rfl (s_dupR (pc := 31) X dX1_addReading_31 (s_getI (pc := 32) X dX1_addReading_32 g_X1_98 (s_iconst (pc := 35) X dX1_addReading_35 rfl (s_iadd (pc := 36) X dX1_addReading_36 (s_putI (pc := 37) X dX1_addReading_37 p_X1_98 (s_aload_n (pc := 40) X dX1_addReading_40 rfl (s_iload_n (pc := 41) X dX1_addReading_41 rfl (s_putI (pc := 42) X dX1_addReading_42 p_X1_95 (s_aload_n (pc := 45) X dX1_addReading_45 rfl (s_aload_n (pc := 46) X dX1_addReading_46 rfl (s_getI (pc := 47) X dX1_addReading_47 g_X1_59 (s_callV (pc := 50) X dX1_addReading_50 (S_X1_lookFrom _) q_X1_101 h_5 rfl (hR _ _ (by decide)) (s_vret (pc := 53) X E hr dX1_addReading_53)))))))))))))))))))))))))))))))), fun _ h => absurd h List.not_mem_nil⟩)
theorem dX11_reading_0 : decode cX11_reading 0 = .ok (.aload_n 0, 1) := by decide +kernel
theorem dX11_reading_1 : decode cX11_reading 1 = .ok (.getfield 30, 3) := by decide +kernel
theorem dX11_reading_4 : decode cX11_reading 4 = .ok (.iload_n 1, 1) := by decide +kernel
theorem dX11_reading_5 : decode cX11_reading 5 = .ok (.invokevirtual 166, 3) := by decide +kernel
theorem dX11_reading_8 : decode cX11_reading 8 = .ok (.ifCond .eq 11, 3) := by decide +kernel
theorem dX11_reading_11 : decode cX11_reading 11 = .ok (.iload_n 2, 1) := by decide +kernel
theorem dX11_reading_12 : decode cX11_reading 12 = .ok (.iload_n 3, 1) := by decide +kernel
theorem dX11_reading_13 : decode cX11_reading 13 = .ok (.invokestatic 149, 3) := by decide +kernel
theorem dX11_reading_16 : decode cX11_reading 16 = .ok (.ifCond .eq 11, 3) := by decide +kernel
theorem dX11_reading_19 : decode cX11_reading 19 = .ok (.aload_n 0, 1) := by decide +kernel
theorem dX11_reading_20 : decode cX11_reading 20 = .ok (.iconst 1, 1) := by decide +kernel
theorem dX11_reading_21 : decode cX11_reading 21 = .ok (.putfield 9, 3) := by decide +kernel
theorem dX11_reading_24 : decode cX11_reading 24 = .ok (.goto 43, 3) := by decide +kernel
theorem dX11_reading_27 : decode cX11_reading 27 = .ok (.aload_n 0, 1) := by decide +kernel
theorem dX11_reading_28 : decode cX11_reading 28 = .ok (.getfield 30, 3) := by decide +kernel
theorem dX11_reading_31 : decode cX11_reading 31 = .ok (.getfield 170, 3) := by decide +kernel
theorem dX11_reading_34 : decode cX11_reading 34 = .ok (.bipush 60, 2) := by decide +kernel
theorem dX11_reading_36 : decode cX11_reading 36 = .ok (.if_icmp .lt 11, 3) := by decide +kernel
theorem dX11_reading_39 : decode cX11_reading 39 = .ok (.aload_n 0, 1) := by decide +kernel
theorem dX11_reading_40 : decode cX11_reading 40 = .ok (.iconst 4, 1) := by decide +kernel
theorem dX11_reading_41 : decode cX11_reading 41 = .ok (.putfield 9, 3) := by decide +kernel
theorem dX11_reading_44 : decode cX11_reading 44 = .ok (.goto 23, 3) := by decide +kernel
theorem dX11_reading_47 : decode cX11_reading 47 = .ok (.aload_n 0, 1) := by decide +kernel
theorem dX11_reading_48 : decode cX11_reading 48 = .ok (.iload_n 3, 1) := by decide +kernel
theorem dX11_reading_49 : decode cX11_reading 49 = .ok (.aload_n 0, 1) := by decide +kernel
theorem dX11_reading_50 : decode cX11_reading 50 = .ok (.getfield 30, 3) := by decide +kernel
theorem dX11_reading_53 : decode cX11_reading 53 = .ok (.getfield 155, 3) := by decide +kernel
theorem dX11_reading_56 : decode cX11_reading 56 = .ok (.if_icmp .ge 7, 3) := by decide +kernel
theorem dX11_reading_59 : decode cX11_reading 59 = .ok (.iconst 5, 1) := by decide +kernel
theorem dX11_reading_60 : decode cX11_reading 60 = .ok (.goto 4, 3) := by decide +kernel
theorem dX11_reading_63 : decode cX11_reading 63 = .ok (.iconst 0, 1) := by decide +kernel
theorem dX11_reading_64 : decode cX11_reading 64 = .ok (.putfield 9, 3) := by decide +kernel
theorem dX11_reading_67 : decode cX11_reading 67 = .ok (.aload_n 0, 1) := by decide +kernel
theorem dX11_reading_68 : decode cX11_reading 68 = .ok (.getfield 9, 3) := by decide +kernel
theorem dX11_reading_71 : decode cX11_reading 71 = .ok (.ifCond .ne 13, 3) := by decide +kernel
theorem dX11_reading_74 : decode cX11_reading 74 = .ok (.aload_n 0, 1) := by decide +kernel
theorem dX11_reading_75 : decode cX11_reading 75 = .ok (.getfield 30, 3) := by decide +kernel
theorem dX11_reading_78 : decode cX11_reading 78 = .ok (.iload_n 1, 1) := by decide +kernel
theorem dX11_reading_79 : decode cX11_reading 79 = .ok (.iload_n 2, 1) := by decide +kernel
theorem dX11_reading_80 : decode cX11_reading 80 = .ok (.iload_n 3, 1) := by decide +kernel
theorem dX11_reading_81 : decode cX11_reading 81 = .ok (.invokevirtual 173, 3) := by decide +kernel
theorem dX11_reading_84 : decode cX11_reading 84 = .ok (.aload_n 0, 1) := by decide +kernel
theorem dX11_reading_85 : decode cX11_reading 85 = .ok (.getfield 9, 3) := by decide +kernel
theorem dX11_reading_88 : decode cX11_reading 88 = .ok (.ifCond .ne 7, 3) := by decide +kernel
theorem dX11_reading_91 : decode cX11_reading 91 = .ok (.iconst 1, 1) := by decide +kernel
theorem dX11_reading_92 : decode cX11_reading 92 = .ok (.goto 4, 3) := by decide +kernel
theorem dX11_reading_95 : decode cX11_reading 95 = .ok (.iconst 0, 1) := by decide +kernel
theorem dX11_reading_96 : decode cX11_reading 96 = .ok (.ireturn, 1) := by decide +kernel
noncomputable def B_X11_reading_0 : pb_C := (i_aload 0 (i_getR 0 5 (i_iload 1 (i_callV 5 1 1 M_X1_hasLine (i_if_eq (i_aload 0 (i_const (.int 1) (i_putI 0 0 (i_jmp 67 [true, true, true, true])))) (i_iload 2 (i_iload 3 (i_callS 2 1 M_X11_badEntry (i_if_eq (i_aload 0 (i_getR 0 5 (i_getI 5 13 (i_const (.int 60) (i_ic_lt (i_aload 0 (i_iload 3 (i_aload 0 (i_getR 0 5 (i_getI 5 18 (i_ic_ge (i_const (.int 0) (i_putI 0 0 (i_jmp 67 [true, true, true, true]))) (i_const (.int 5) (i_putI 0 0 (i_jmp 67 [true, true, true, true]))))))))) (i_aload 0 (i_const (.int 4) (i_putI 0 0 (i_jmp 67 [true, true, true, true]))))))))) (i_aload 0 (i_const (.int 1) (i_putI 0 0 (i_jmp 67 [true, true, true, true])))))))))))))
noncomputable def B_X11_reading_67 : pb_C := (i_aload 0 (i_getI 0 0 (i_if_ne (i_aload 0 (i_getI 0 0 (i_if_ne (i_const (.int 0) i_zret) (i_const (.int 1) i_zret)))) (i_aload 0 (i_getR 0 5 (i_iload 1 (i_iload 2 (i_iload 3 (i_callV 5 3 0 M_X1_addReading (i_aload 0 (i_getI 0 0 (i_if_ne (i_const (.int 0) i_zret) (i_const (.int 1) i_zret)))))))))))))
noncomputable def T_X11_reading : Nat → pb_C := pb_tt [(0, B_X11_reading_0), (67, B_X11_reading_67)]
noncomputable def M_X11_reading : pb_F := pb_M T_X11_reading 4
set_option maxRecDepth 100000 in
set_option maxHeartbeats 4000000 in
theorem S_X11_reading (l : Launch) : pb_Sound l yX11_reading cX11_reading 4 (some .boolean) 3 M_X11_reading := by
  refine pb_sound_of (by decide) m_3_161 ?_
  intro Γ hl0 hRm0 hm X E hr J
  have hnL : ∀ j, j < 4 → j < Γ.2.2.2.2.2.2.2.2.2.2.2.1 := fun j h => by rw [hm]; exact h
  have hR : ∀ (d' mL : Nat), d' + 1 ≤ 3 ∧ 8 + (mL + 11) + d' * 64 ≤ 3 * 64 → (pb_rm d').frames + 1 ≤ Γ.2.2.2.1.frames ∧ 8 + (mL + 11) + (pb_rm d').locals ≤ Γ.2.2.2.1.locals := by rw [hRm0]; exact fun _ _ h => h
  have hRm : 1 ≤ 3 ∧ 64 ≤ 3 * 64 → 1 ≤ Γ.2.2.2.1.frames ∧ 64 ≤ Γ.2.2.2.1.locals := by rw [hRm0]; exact fun h => h
  exact pb_tt_snd _ (List.forall_mem_cons.mpr ⟨(s_aload_n (pc := 0) X dX11_reading_0 rfl (s_getR (pc := 1) X dX11_reading_1 g_X11_30 (s_iload_n (pc := 4) X dX11_reading_4 rfl (s_callV (pc := 5) X dX11_reading_5 (S_X1_hasLine _) q_X11_166 h_5 rfl (hR _ _ (by decide)) (s_if_eq (pc := 8) X dX11_reading_8 (by decide) (s_aload_n (pc := 19) X dX11_reading_19 rfl (s_iconst (pc := 20) X dX11_reading_20 rfl (s_putI (pc := 21) X dX11_reading_21 p_X11_9 (s_goto (pc := 24) X dX11_reading_24 (by decide) (s_jmp (pc := 67) J [true, true, true, true]))))) (s_iload_n (pc := 11) X dX11_reading_11 rfl (s_iload_n (pc := 12) X dX11_reading_12 rfl (s_callS (pc := 13) X dX11_reading_13 (S_X11_badEntry _) q_X11_149 (hR _ _ (by decide)) (s_if_eq (pc := 16) X dX11_reading_16 (by decide) (s_aload_n (pc := 27) X dX11_reading_27 rfl (s_getR (pc := 28) X dX11_reading_28 g_X11_30 (s_getI (pc := 31) X dX11_reading_31 g_X11_170 (s_bipush (pc := 34) X dX11_reading_34 rfl (s_ic_lt (pc := 36) X dX11_reading_36 (by decide) (s_aload_n (pc := 47) X dX11_reading_47 rfl (s_iload_n (pc := 48) X dX11_reading_48 rfl (s_aload_n (pc := 49) X dX11_reading_49 rfl (s_getR (pc := 50) X dX11_reading_50 g_X11_30 (s_getI (pc := 53) X dX11_reading_53 g_X11_155 (s_ic_ge (pc := 56) X dX11_reading_56 (by decide) (s_iconst (pc := 63) X dX11_reading_63 rfl (s_putI (pc := 64) X dX11_reading_64 p_X11_9 (s_jmp (pc := 67) J [true, true, true, true]))) (s_iconst (pc := 59) X dX11_reading_59 rfl (s_goto (pc := 60) X dX11_reading_60 (by decide) (s_putI (pc := 64) X dX11_reading_64 p_X11_9 (s_jmp (pc := 67) J [true, true, true, true])))))))))) (s_aload_n (pc := 39) X dX11_reading_39 rfl (s_iconst (pc := 40) X dX11_reading_40 rfl (s_putI (pc := 41) X dX11_reading_41 p_X11_9 (s_goto (pc := 44) X dX11_reading_44 (by decide) (s_jmp (pc := 67) J [true, true, true, true])))))))))) (s_aload_n (pc := 19) X dX11_reading_19 rfl (s_iconst (pc := 20) X dX11_reading_20 rfl (s_putI (pc := 21) X dX11_reading_21 p_X11_9 (s_goto (pc := 24) X dX11_reading_24 (by decide) (s_jmp (pc := 67) J [true, true, true, true])))))))))))))), List.forall_mem_cons.mpr ⟨(s_aload_n (pc := 67) X dX11_reading_67 rfl (s_getI (pc := 68) X dX11_reading_68 g_X11_9 (s_if_ne (pc := 71) X dX11_reading_71 (by decide) (s_aload_n (pc := 84) X dX11_reading_84 rfl (s_getI (pc := 85) X dX11_reading_85 g_X11_9 (s_if_ne (pc := 88) X dX11_reading_88 (by decide) (s_iconst (pc := 95) X dX11_reading_95 rfl (s_zret (pc := 96) X E hr dX11_reading_96)) (s_iconst (pc := 91) X dX11_reading_91 rfl (s_goto (pc := 92) X dX11_reading_92 (by decide) (s_zret (pc := 96) X E hr dX11_reading_96)))))) (s_aload_n (pc := 74) X dX11_reading_74 rfl (s_getR (pc := 75) X dX11_reading_75 g_X11_30 (s_iload_n (pc := 78) X dX11_reading_78 rfl (s_iload_n (pc := 79) X dX11_reading_79 rfl (s_iload_n (pc := 80) X dX11_reading_80 rfl (s_callV (pc := 81) X dX11_reading_81 (S_X1_addReading _) q_X11_173 h_5 rfl (hR _ _ (by decide)) (s_aload_n (pc := 84) X dX11_reading_84 rfl (s_getI (pc := 85) X dX11_reading_85 g_X11_9 (s_if_ne (pc := 88) X dX11_reading_88 (by decide) (s_iconst (pc := 95) X dX11_reading_95 rfl (s_zret (pc := 96) X E hr dX11_reading_96)) (s_iconst (pc := 91) X dX11_reading_91 rfl (s_goto (pc := 92) X dX11_reading_92 (by decide) (s_zret (pc := 96) X E hr dX11_reading_96))))))))))))))), fun _ h => absurd h List.not_mem_nil⟩⟩)
theorem dX11_asof_0 : decode cX11_asof 0 = .ok (.aload_n 0, 1) := by decide +kernel
theorem dX11_asof_1 : decode cX11_asof 1 = .ok (.iload_n 1, 1) := by decide +kernel
theorem dX11_asof_2 : decode cX11_asof 2 = .ok (.iconst 0, 1) := by decide +kernel
theorem dX11_asof_3 : decode cX11_asof 3 = .ok (.sipush 9999, 3) := by decide +kernel
theorem dX11_asof_6 : decode cX11_asof 6 = .ok (.invokestatic 101, 3) := by decide +kernel
theorem dX11_asof_9 : decode cX11_asof 9 = .ok (.ifCond .eq 7, 3) := by decide +kernel
theorem dX11_asof_12 : decode cX11_asof 12 = .ok (.iconst 1, 1) := by decide +kernel
theorem dX11_asof_13 : decode cX11_asof 13 = .ok (.goto 4, 3) := by decide +kernel
theorem dX11_asof_16 : decode cX11_asof 16 = .ok (.iconst 0, 1) := by decide +kernel
theorem dX11_asof_17 : decode cX11_asof 17 = .ok (.putfield 9, 3) := by decide +kernel
theorem dX11_asof_20 : decode cX11_asof 20 = .ok (.aload_n 0, 1) := by decide +kernel
theorem dX11_asof_21 : decode cX11_asof 21 = .ok (.getfield 9, 3) := by decide +kernel
theorem dX11_asof_24 : decode cX11_asof 24 = .ok (.ifCond .ne 11, 3) := by decide +kernel
theorem dX11_asof_27 : decode cX11_asof 27 = .ok (.aload_n 0, 1) := by decide +kernel
theorem dX11_asof_28 : decode cX11_asof 28 = .ok (.getfield 30, 3) := by decide +kernel
theorem dX11_asof_31 : decode cX11_asof 31 = .ok (.iload_n 1, 1) := by decide +kernel
theorem dX11_asof_32 : decode cX11_asof 32 = .ok (.invokevirtual 176, 3) := by decide +kernel
theorem dX11_asof_35 : decode cX11_asof 35 = .ok (.aload_n 0, 1) := by decide +kernel
theorem dX11_asof_36 : decode cX11_asof 36 = .ok (.getfield 9, 3) := by decide +kernel
theorem dX11_asof_39 : decode cX11_asof 39 = .ok (.ifCond .ne 7, 3) := by decide +kernel
theorem dX11_asof_42 : decode cX11_asof 42 = .ok (.iconst 1, 1) := by decide +kernel
theorem dX11_asof_43 : decode cX11_asof 43 = .ok (.goto 4, 3) := by decide +kernel
theorem dX11_asof_46 : decode cX11_asof 46 = .ok (.iconst 0, 1) := by decide +kernel
theorem dX11_asof_47 : decode cX11_asof 47 = .ok (.ireturn, 1) := by decide +kernel
noncomputable def B_X11_asof_0 : pb_C := (i_aload 0 (i_iload 1 (i_const (.int 0) (i_const (.int 9999) (i_callS 3 1 M_X11_outside (i_if_eq (i_const (.int 0) (i_jmp 17 [true, true])) (i_const (.int 1) (i_jmp 17 [true, true]))))))))
noncomputable def B_X11_asof_17 : pb_C := (i_putI 0 0 (i_aload 0 (i_getI 0 0 (i_if_ne (i_aload 0 (i_getI 0 0 (i_if_ne (i_const (.int 0) i_zret) (i_const (.int 1) i_zret)))) (i_aload 0 (i_getR 0 5 (i_iload 1 (i_callV 5 1 0 M_X1_lookFrom (i_aload 0 (i_getI 0 0 (i_if_ne (i_const (.int 0) i_zret) (i_const (.int 1) i_zret))))))))))))
noncomputable def T_X11_asof : Nat → pb_C := pb_tt [(0, B_X11_asof_0), (17, B_X11_asof_17)]
noncomputable def M_X11_asof : pb_F := pb_M T_X11_asof 2
set_option maxRecDepth 100000 in
set_option maxHeartbeats 4000000 in
theorem S_X11_asof (l : Launch) : pb_Sound l yX11_asof cX11_asof 2 (some .boolean) 2 M_X11_asof := by
  refine pb_sound_of (by decide) m_3_177 ?_
  intro Γ hl0 hRm0 hm X E hr J
  have hnL : ∀ j, j < 2 → j < Γ.2.2.2.2.2.2.2.2.2.2.2.1 := fun j h => by rw [hm]; exact h
  have hR : ∀ (d' mL : Nat), d' + 1 ≤ 2 ∧ 8 + (mL + 11) + d' * 64 ≤ 2 * 64 → (pb_rm d').frames + 1 ≤ Γ.2.2.2.1.frames ∧ 8 + (mL + 11) + (pb_rm d').locals ≤ Γ.2.2.2.1.locals := by rw [hRm0]; exact fun _ _ h => h
  have hRm : 1 ≤ 2 ∧ 64 ≤ 2 * 64 → 1 ≤ Γ.2.2.2.1.frames ∧ 64 ≤ Γ.2.2.2.1.locals := by rw [hRm0]; exact fun h => h
  exact pb_tt_snd _ (List.forall_mem_cons.mpr ⟨(s_aload_n (pc := 0) X dX11_asof_0 rfl (s_iload_n (pc := 1) X dX11_asof_1 rfl (s_iconst (pc := 2) X dX11_asof_2 rfl (s_sipush (pc := 3) X dX11_asof_3 rfl (s_callS (pc := 6) X dX11_asof_6 (S_X11_outside _) q_X11_101 (hR _ _ (by decide)) (s_if_eq (pc := 9) X dX11_asof_9 (by decide) (s_iconst (pc := 16) X dX11_asof_16 rfl (s_jmp (pc := 17) J [true, true])) (s_iconst (pc := 12) X dX11_asof_12 rfl (s_goto (pc := 13) X dX11_asof_13 (by decide) (s_jmp (pc := 17) J [true, true]))))))))), List.forall_mem_cons.mpr ⟨(s_putI (pc := 17) X dX11_asof_17 p_X11_9 (s_aload_n (pc := 20) X dX11_asof_20 rfl (s_getI (pc := 21) X dX11_asof_21 g_X11_9 (s_if_ne (pc := 24) X dX11_asof_24 (by decide) (s_aload_n (pc := 35) X dX11_asof_35 rfl (s_getI (pc := 36) X dX11_asof_36 g_X11_9 (s_if_ne (pc := 39) X dX11_asof_39 (by decide) (s_iconst (pc := 46) X dX11_asof_46 rfl (s_zret (pc := 47) X E hr dX11_asof_47)) (s_iconst (pc := 42) X dX11_asof_42 rfl (s_goto (pc := 43) X dX11_asof_43 (by decide) (s_zret (pc := 47) X E hr dX11_asof_47)))))) (s_aload_n (pc := 27) X dX11_asof_27 rfl (s_getR (pc := 28) X dX11_asof_28 g_X11_30 (s_iload_n (pc := 31) X dX11_asof_31 rfl (s_callV (pc := 32) X dX11_asof_32 (S_X1_lookFrom _) q_X11_176 h_5 rfl (hR _ _ (by decide)) (s_aload_n (pc := 35) X dX11_asof_35 rfl (s_getI (pc := 36) X dX11_asof_36 g_X11_9 (s_if_ne (pc := 39) X dX11_asof_39 (by decide) (s_iconst (pc := 46) X dX11_asof_46 rfl (s_zret (pc := 47) X E hr dX11_asof_47)) (s_iconst (pc := 42) X dX11_asof_42 rfl (s_goto (pc := 43) X dX11_asof_43 (by decide) (s_zret (pc := 47) X E hr dX11_asof_47)))))))))))))), fun _ h => absurd h List.not_mem_nil⟩⟩)
theorem dX1_isKnown_0 : decode cX1_isKnown 0 = .ok (.aload_n 0, 1) := by decide +kernel
theorem dX1_isKnown_1 : decode cX1_isKnown 1 = .ok (.getfield 34, 3) := by decide +kernel
theorem dX1_isKnown_4 : decode cX1_isKnown 4 = .ok (.iload_n 1, 1) := by decide +kernel
theorem dX1_isKnown_5 : decode cX1_isKnown 5 = .ok (.iaload, 1) := by decide +kernel
theorem dX1_isKnown_6 : decode cX1_isKnown 6 = .ok (.aload_n 0, 1) := by decide +kernel
theorem dX1_isKnown_7 : decode cX1_isKnown 7 = .ok (.getfield 59, 3) := by decide +kernel
theorem dX1_isKnown_10 : decode cX1_isKnown 10 = .ok (.if_icmp .gt 7, 3) := by decide +kernel
theorem dX1_isKnown_13 : decode cX1_isKnown 13 = .ok (.iconst 1, 1) := by decide +kernel
theorem dX1_isKnown_14 : decode cX1_isKnown 14 = .ok (.goto 4, 3) := by decide +kernel
theorem dX1_isKnown_17 : decode cX1_isKnown 17 = .ok (.iconst 0, 1) := by decide +kernel
theorem dX1_isKnown_18 : decode cX1_isKnown 18 = .ok (.ireturn, 1) := by decide +kernel
noncomputable def B_X1_isKnown_0 : pb_C := (i_aload 0 (i_getR 5 13 (i_iload 1 (i_ald 13 200 (i_aload 0 (i_getI 5 19 (i_ic_gt (i_const (.int 0) i_zret) (i_const (.int 1) i_zret))))))))
noncomputable def T_X1_isKnown : Nat → pb_C := pb_tt [(0, B_X1_isKnown_0)]
noncomputable def M_X1_isKnown : pb_F := pb_M T_X1_isKnown 2
set_option maxRecDepth 100000 in
set_option maxHeartbeats 4000000 in
theorem S_X1_isKnown (l : Launch) : pb_Sound l yX1_isKnown cX1_isKnown 2 (some .boolean) 1 M_X1_isKnown := by
  refine pb_sound_of (by decide) m_3_191 ?_
  intro Γ hl0 hRm0 hm X E hr J
  have hnL : ∀ j, j < 2 → j < Γ.2.2.2.2.2.2.2.2.2.2.2.1 := fun j h => by rw [hm]; exact h
  have hR : ∀ (d' mL : Nat), d' + 1 ≤ 1 ∧ 8 + (mL + 11) + d' * 64 ≤ 1 * 64 → (pb_rm d').frames + 1 ≤ Γ.2.2.2.1.frames ∧ 8 + (mL + 11) + (pb_rm d').locals ≤ Γ.2.2.2.1.locals := by rw [hRm0]; exact fun _ _ h => h
  have hRm : 1 ≤ 1 ∧ 64 ≤ 1 * 64 → 1 ≤ Γ.2.2.2.1.frames ∧ 64 ≤ Γ.2.2.2.1.locals := by rw [hRm0]; exact fun h => h
  exact pb_tt_snd _ (List.forall_mem_cons.mpr ⟨(s_aload_n (pc := 0) X dX1_isKnown_0 rfl (s_getR (pc := 1) X dX1_isKnown_1 g_X1_34 (s_iload_n (pc := 4) X dX1_isKnown_4 rfl (s_iald (pc := 5) X dX1_isKnown_5 h_13 (s_aload_n (pc := 6) X dX1_isKnown_6 rfl (s_getI (pc := 7) X dX1_isKnown_7 g_X1_59 (s_ic_gt (pc := 10) X dX1_isKnown_10 (by decide) (s_iconst (pc := 17) X dX1_isKnown_17 rfl (s_zret (pc := 18) X E hr dX1_isKnown_18)) (s_iconst (pc := 13) X dX1_isKnown_13 rfl (s_goto (pc := 14) X dX1_isKnown_14 (by decide) (s_zret (pc := 18) X E hr dX1_isKnown_18)))))))))), fun _ h => absurd h List.not_mem_nil⟩)
theorem dX1_lineStatus_0 : decode cX1_lineStatus 0 = .ok (.aload_n 0, 1) := by decide +kernel
theorem dX1_lineStatus_1 : decode cX1_lineStatus 1 = .ok (.iload_n 1, 1) := by decide +kernel
theorem dX1_lineStatus_2 : decode cX1_lineStatus 2 = .ok (.invokevirtual 73, 3) := by decide +kernel
theorem dX1_lineStatus_5 : decode cX1_lineStatus 5 = .ok (.ifCond .ne 5, 3) := by decide +kernel
theorem dX1_lineStatus_8 : decode cX1_lineStatus 8 = .ok (.iconst 1, 1) := by decide +kernel
theorem dX1_lineStatus_9 : decode cX1_lineStatus 9 = .ok (.ireturn, 1) := by decide +kernel
theorem dX1_lineStatus_10 : decode cX1_lineStatus 10 = .ok (.aload_n 0, 1) := by decide +kernel
theorem dX1_lineStatus_11 : decode cX1_lineStatus 11 = .ok (.iload_n 1, 1) := by decide +kernel
theorem dX1_lineStatus_12 : decode cX1_lineStatus 12 = .ok (.invokevirtual 76, 3) := by decide +kernel
theorem dX1_lineStatus_15 : decode cX1_lineStatus 15 = .ok (.ifCond .eq 7, 3) := by decide +kernel
theorem dX1_lineStatus_18 : decode cX1_lineStatus 18 = .ok (.iconst 0, 1) := by decide +kernel
theorem dX1_lineStatus_19 : decode cX1_lineStatus 19 = .ok (.goto 5, 3) := by decide +kernel
theorem dX1_lineStatus_22 : decode cX1_lineStatus 22 = .ok (.bipush 6, 2) := by decide +kernel
theorem dX1_lineStatus_24 : decode cX1_lineStatus 24 = .ok (.ireturn, 1) := by decide +kernel
noncomputable def B_X1_lineStatus_0 : pb_C := (i_aload 0 (i_iload 1 (i_callV 5 1 1 M_X1_hasLine (i_if_ne (i_aload 0 (i_iload 1 (i_callV 5 1 1 M_X1_isKnown (i_if_eq (i_const (.int 6) i_iret) (i_const (.int 0) i_iret))))) (i_const (.int 1) i_iret)))))
noncomputable def T_X1_lineStatus : Nat → pb_C := pb_tt [(0, B_X1_lineStatus_0)]
noncomputable def M_X1_lineStatus : pb_F := pb_M T_X1_lineStatus 2
set_option maxRecDepth 100000 in
set_option maxHeartbeats 4000000 in
theorem S_X1_lineStatus (l : Launch) : pb_Sound l yX1_lineStatus cX1_lineStatus 2 (some .int) 2 M_X1_lineStatus := by
  refine pb_sound_of (by decide) m_3_186 ?_
  intro Γ hl0 hRm0 hm X E hr J
  have hnL : ∀ j, j < 2 → j < Γ.2.2.2.2.2.2.2.2.2.2.2.1 := fun j h => by rw [hm]; exact h
  have hR : ∀ (d' mL : Nat), d' + 1 ≤ 2 ∧ 8 + (mL + 11) + d' * 64 ≤ 2 * 64 → (pb_rm d').frames + 1 ≤ Γ.2.2.2.1.frames ∧ 8 + (mL + 11) + (pb_rm d').locals ≤ Γ.2.2.2.1.locals := by rw [hRm0]; exact fun _ _ h => h
  have hRm : 1 ≤ 2 ∧ 64 ≤ 2 * 64 → 1 ≤ Γ.2.2.2.1.frames ∧ 64 ≤ Γ.2.2.2.1.locals := by rw [hRm0]; exact fun h => h
  exact pb_tt_snd _ (List.forall_mem_cons.mpr ⟨(s_aload_n (pc := 0) X dX1_lineStatus_0 rfl (s_iload_n (pc := 1) X dX1_lineStatus_1 rfl (s_callV (pc := 2) X dX1_lineStatus_2 (S_X1_hasLine _) q_X1_73 h_5 rfl (hR _ _ (by decide)) (s_if_ne (pc := 5) X dX1_lineStatus_5 (by decide) (s_aload_n (pc := 10) X dX1_lineStatus_10 rfl (s_iload_n (pc := 11) X dX1_lineStatus_11 rfl (s_callV (pc := 12) X dX1_lineStatus_12 (S_X1_isKnown _) q_X1_76 h_5 rfl (hR _ _ (by decide)) (s_if_eq (pc := 15) X dX1_lineStatus_15 (by decide) (s_bipush (pc := 22) X dX1_lineStatus_22 rfl (s_iret (pc := 24) X E hr dX1_lineStatus_24)) (s_iconst (pc := 18) X dX1_lineStatus_18 rfl (s_goto (pc := 19) X dX1_lineStatus_19 (by decide) (s_iret (pc := 24) X E hr dX1_lineStatus_24))))))) (s_iconst (pc := 8) X dX1_lineStatus_8 rfl (s_iret (pc := 9) X E hr dX1_lineStatus_9)))))), fun _ h => absurd h List.not_mem_nil⟩)
theorem dX11_pence_0 : decode cX11_pence 0 = .ok (.aload_n 0, 1) := by decide +kernel
theorem dX11_pence_1 : decode cX11_pence 1 = .ok (.aload_n 0, 1) := by decide +kernel
theorem dX11_pence_2 : decode cX11_pence 2 = .ok (.getfield 30, 3) := by decide +kernel
theorem dX11_pence_5 : decode cX11_pence 5 = .ok (.iload_n 1, 1) := by decide +kernel
theorem dX11_pence_6 : decode cX11_pence 6 = .ok (.invokevirtual 180, 3) := by decide +kernel
theorem dX11_pence_9 : decode cX11_pence 9 = .ok (.putfield 9, 3) := by decide +kernel
theorem dX11_pence_12 : decode cX11_pence 12 = .ok (.aload_n 0, 1) := by decide +kernel
theorem dX11_pence_13 : decode cX11_pence 13 = .ok (.getfield 9, 3) := by decide +kernel
theorem dX11_pence_16 : decode cX11_pence 16 = .ok (.ifCond .ne 15, 3) := by decide +kernel
theorem dX11_pence_19 : decode cX11_pence 19 = .ok (.aload_n 0, 1) := by decide +kernel
theorem dX11_pence_20 : decode cX11_pence 20 = .ok (.getfield 30, 3) := by decide +kernel
theorem dX11_pence_23 : decode cX11_pence 23 = .ok (.getfield 184, 3) := by decide +kernel
theorem dX11_pence_26 : decode cX11_pence 26 = .ok (.iload_n 1, 1) := by decide +kernel
theorem dX11_pence_27 : decode cX11_pence 27 = .ok (.iaload, 1) := by decide +kernel
theorem dX11_pence_28 : decode cX11_pence 28 = .ok (.goto 4, 3) := by decide +kernel
theorem dX11_pence_31 : decode cX11_pence 31 = .ok (.iconst (-1), 1) := by decide +kernel
theorem dX11_pence_32 : decode cX11_pence 32 = .ok (.ireturn, 1) := by decide +kernel
noncomputable def B_X11_pence_0 : pb_C := (i_aload 0 (i_aload 0 (i_getR 0 5 (i_iload 1 (i_callV 5 1 1 M_X1_lineStatus (i_putI 0 0 (i_aload 0 (i_getI 0 0 (i_if_ne (i_const (.int (-1)) i_iret) (i_aload 0 (i_getR 0 5 (i_getR 5 16 (i_iload 1 (i_ald 16 200 i_iret))))))))))))))
noncomputable def T_X11_pence : Nat → pb_C := pb_tt [(0, B_X11_pence_0)]
noncomputable def M_X11_pence : pb_F := pb_M T_X11_pence 2
set_option maxRecDepth 100000 in
set_option maxHeartbeats 4000000 in
theorem S_X11_pence (l : Launch) : pb_Sound l yX11_pence cX11_pence 2 (some .int) 3 M_X11_pence := by
  refine pb_sound_of (by decide) m_3_182 ?_
  intro Γ hl0 hRm0 hm X E hr J
  have hnL : ∀ j, j < 2 → j < Γ.2.2.2.2.2.2.2.2.2.2.2.1 := fun j h => by rw [hm]; exact h
  have hR : ∀ (d' mL : Nat), d' + 1 ≤ 3 ∧ 8 + (mL + 11) + d' * 64 ≤ 3 * 64 → (pb_rm d').frames + 1 ≤ Γ.2.2.2.1.frames ∧ 8 + (mL + 11) + (pb_rm d').locals ≤ Γ.2.2.2.1.locals := by rw [hRm0]; exact fun _ _ h => h
  have hRm : 1 ≤ 3 ∧ 64 ≤ 3 * 64 → 1 ≤ Γ.2.2.2.1.frames ∧ 64 ≤ Γ.2.2.2.1.locals := by rw [hRm0]; exact fun h => h
  exact pb_tt_snd _ (List.forall_mem_cons.mpr ⟨(s_aload_n (pc := 0) X dX11_pence_0 rfl (s_aload_n (pc := 1) X dX11_pence_1 rfl (s_getR (pc := 2) X dX11_pence_2 g_X11_30 (s_iload_n (pc := 5) X dX11_pence_5 rfl (s_callV (pc := 6) X dX11_pence_6 (S_X1_lineStatus _) q_X11_180 h_5 rfl (hR _ _ (by decide)) (s_putI (pc := 9) X dX11_pence_9 p_X11_9 (s_aload_n (pc := 12) X dX11_pence_12 rfl (s_getI (pc := 13) X dX11_pence_13 g_X11_9 (s_if_ne (pc := 16) X dX11_pence_16 (by decide) (s_iconst (pc := 31) X dX11_pence_31 rfl (s_iret (pc := 32) X E hr dX11_pence_32)) (s_aload_n (pc := 19) X dX11_pence_19 rfl (s_getR (pc := 20) X dX11_pence_20 g_X11_30 (s_getR (pc := 23) X dX11_pence_23 g_X11_184 (s_iload_n (pc := 26) X dX11_pence_26 rfl (s_iald (pc := 27) X dX11_pence_27 h_16 (s_goto (pc := 28) X dX11_pence_28 (by decide) (s_iret (pc := 32) X E hr dX11_pence_32)))))))))))))))), fun _ h => absurd h List.not_mem_nil⟩)
theorem dX5_appendFour_0 : decode cX5_appendFour 0 = .ok (.bipush 24, 2) := by decide +kernel
theorem dX5_appendFour_2 : decode cX5_appendFour 2 = .ok (.istore_n 2, 1) := by decide +kernel
theorem dX5_appendFour_3 : decode cX5_appendFour 3 = .ok (.iload_n 2, 1) := by decide +kernel
theorem dX5_appendFour_4 : decode cX5_appendFour 4 = .ok (.ifCond .lt 42, 3) := by decide +kernel
theorem dX5_appendFour_7 : decode cX5_appendFour 7 = .ok (.aload_n 0, 1) := by decide +kernel
theorem dX5_appendFour_8 : decode cX5_appendFour 8 = .ok (.getfield 23, 3) := by decide +kernel
theorem dX5_appendFour_11 : decode cX5_appendFour 11 = .ok (.sipush 600, 3) := by decide +kernel
theorem dX5_appendFour_14 : decode cX5_appendFour 14 = .ok (.if_icmp .ge 32, 3) := by decide +kernel
theorem dX5_appendFour_17 : decode cX5_appendFour 17 = .ok (.aload_n 0, 1) := by decide +kernel
theorem dX5_appendFour_18 : decode cX5_appendFour 18 = .ok (.getfield 9, 3) := by decide +kernel
theorem dX5_appendFour_21 : decode cX5_appendFour 21 = .ok (.aload_n 0, 1) := by decide +kernel
theorem dX5_appendFour_22 : decode cX5_appendFour 22 = .ok (.getfield 23, 3) := by decide +kernel
theorem dX5_appendFour_25 : decode cX5_appendFour 25 = .ok (.iload_n 1, 1) := by decide +kernel
theorem dX5_appendFour_26 : decode cX5_appendFour 26 = .ok (.iload_n 2, 1) := by decide +kernel
theorem dX5_appendFour_27 : decode cX5_appendFour 27 = .ok (.ishr, 1) := by decide +kernel
theorem dX5_appendFour_28 : decode cX5_appendFour 28 = .ok (.i2b, 1) := by decide +kernel
theorem dX5_appendFour_29 : decode cX5_appendFour 29 = .ok (.bastore, 1) := by decide +kernel
theorem dX5_appendFour_30 : decode cX5_appendFour 30 = .ok (.aload_n 0, 1) := by decide +kernel
theorem dX5_appendFour_31 : decode cX5_appendFour 31 = .ok (.dup, 1) := by decide +kernel
theorem dX5_appendFour_32 : decode cX5_appendFour 32 = .ok (.getfield 23, 3) := by decide +kernel
theorem dX5_appendFour_35 : decode cX5_appendFour 35 = .ok (.iconst 1, 1) := by decide +kernel
theorem dX5_appendFour_36 : decode cX5_appendFour 36 = .ok (.iadd, 1) := by decide +kernel
theorem dX5_appendFour_37 : decode cX5_appendFour 37 = .ok (.putfield 23, 3) := by decide +kernel
theorem dX5_appendFour_40 : decode cX5_appendFour 40 = .ok (.iinc 2 (-8), 3) := by decide +kernel
theorem dX5_appendFour_43 : decode cX5_appendFour 43 = .ok (.goto (-40), 3) := by decide +kernel
theorem dX5_appendFour_46 : decode cX5_appendFour 46 = .ok (.return_, 1) := by decide +kernel
noncomputable def B_X5_appendFour_0 : pb_C := (i_const (.int 24) (i_istore 2 (i_jmp 3 [true, true, true])))
noncomputable def B_X5_appendFour_3 : pb_C := (i_iload 2 (i_if_lt i_vret (i_aload 0 (i_getI 21 1 (i_const (.int 600) (i_ic_ge i_vret (i_aload 0 (i_getR 21 22 (i_aload 0 (i_getI 21 1 (i_iload 1 (i_iload 2 (i_ibin (fun x y => x >>> (y &&& 31)) (i_iun (fun x => x.toInt8.toInt32) (i_ast 22 600 (vp_nar .byte) (i_aload 0 (i_dupR (i_getI 21 1 (i_const (.int 1) (i_ibin (· + ·) (i_putI 21 1 (i_iinc 2 (-8) (i_jmp 3 [true, true, true])))))))))))))))))))))))
noncomputable def T_X5_appendFour : Nat → pb_C := pb_tt [(0, B_X5_appendFour_0), (3, B_X5_appendFour_3)]
noncomputable def M_X5_appendFour : pb_F := pb_M T_X5_appendFour 3
set_option maxRecDepth 100000 in
set_option maxHeartbeats 4000000 in
theorem S_X5_appendFour (l : Launch) : pb_Sound l yX5_appendFour cX5_appendFour 3 none 1 M_X5_appendFour := by
  refine pb_sound_of (by decide) m_3_203 ?_
  intro Γ hl0 hRm0 hm X E hr J
  have hnL : ∀ j, j < 3 → j < Γ.2.2.2.2.2.2.2.2.2.2.2.1 := fun j h => by rw [hm]; exact h
  have hR : ∀ (d' mL : Nat), d' + 1 ≤ 1 ∧ 8 + (mL + 11) + d' * 64 ≤ 1 * 64 → (pb_rm d').frames + 1 ≤ Γ.2.2.2.1.frames ∧ 8 + (mL + 11) + (pb_rm d').locals ≤ Γ.2.2.2.1.locals := by rw [hRm0]; exact fun _ _ h => h
  have hRm : 1 ≤ 1 ∧ 64 ≤ 1 * 64 → 1 ≤ Γ.2.2.2.1.frames ∧ 64 ≤ Γ.2.2.2.1.locals := by rw [hRm0]; exact fun h => h
  exact pb_tt_snd _ (List.forall_mem_cons.mpr ⟨(s_bipush (pc := 0) X dX5_appendFour_0 rfl (s_istore_n (pc := 2) X dX5_appendFour_2 rfl (hnL _ (by decide)) (s_jmp (pc := 3) J [true, true, true]))), List.forall_mem_cons.mpr ⟨(s_iload_n (pc := 3) X dX5_appendFour_3 rfl (s_if_lt (pc := 4) X dX5_appendFour_4 (by decide) (s_vret (pc := 46) X E hr dX5_appendFour_46) (s_aload_n (pc := 7) X dX5_appendFour_7 rfl (s_getI (pc := 8) X dX5_appendFour_8 g_X5_23 (s_sipush (pc := 11) X dX5_appendFour_11 rfl (s_ic_ge (pc := 14) X dX5_appendFour_14 (by decide) (s_vret (pc := 46) X E hr dX5_appendFour_46) (s_aload_n (pc := 17) X dX5_appendFour_17 rfl (s_getR (pc := 18) X dX5_appendFour_18 g_X5_9 (s_aload_n (pc := 21) X dX5_appendFour_21 rfl (s_getI (pc := 22) X dX5_appendFour_22 g_X5_23 (s_iload_n (pc := 25) X dX5_appendFour_25 rfl (s_iload_n (pc := 26) X dX5_appendFour_26 rfl (s_ishr (pc := 27) X dX5_appendFour_27 (s_i2b (pc := 28) X dX5_appendFour_28 (s_bast (pc := 29) X dX5_appendFour_29 h_22 (s_aload_n (pc := 30) X dX5_appendFour_30 rfl (s_dupR (pc := 31) X dX5_appendFour_31 (s_getI (pc := 32) X dX5_appendFour_32 g_X5_23 (s_iconst (pc := 35) X dX5_appendFour_35 rfl (s_iadd (pc := 36) X dX5_appendFour_36 (s_putI (pc := 37) X dX5_appendFour_37 p_X5_23 (s_iinc (pc := 40) X dX5_appendFour_40 rfl (s_goto (pc := 43) X dX5_appendFour_43 (by decide) (s_jmp (pc := 3) J [true, true, true])))))))))))))))))))))))), fun _ h => absurd h List.not_mem_nil⟩⟩)
theorem dX5_append_0 : decode cX5_append 0 = .ok (.aload_n 0, 1) := by decide +kernel
theorem dX5_append_1 : decode cX5_append 1 = .ok (.getfield 23, 3) := by decide +kernel
theorem dX5_append_4 : decode cX5_append 4 = .ok (.bipush 20, 2) := by decide +kernel
theorem dX5_append_6 : decode cX5_append 6 = .ok (.iadd, 1) := by decide +kernel
theorem dX5_append_7 : decode cX5_append 7 = .ok (.sipush 600, 3) := by decide +kernel
theorem dX5_append_10 : decode cX5_append 10 = .ok (.if_icmp .le 5, 3) := by decide +kernel
theorem dX5_append_13 : decode cX5_append 13 = .ok (.iconst (-1), 1) := by decide +kernel
theorem dX5_append_14 : decode cX5_append 14 = .ok (.ireturn, 1) := by decide +kernel
theorem dX5_append_15 : decode cX5_append 15 = .ok (.aload_n 0, 1) := by decide +kernel
theorem dX5_append_16 : decode cX5_append 16 = .ok (.iload_n 1, 1) := by decide +kernel
theorem dX5_append_17 : decode cX5_append 17 = .ok (.invokevirtual 27, 3) := by decide +kernel
theorem dX5_append_20 : decode cX5_append 20 = .ok (.aload_n 0, 1) := by decide +kernel
theorem dX5_append_21 : decode cX5_append 21 = .ok (.iload_n 2, 1) := by decide +kernel
theorem dX5_append_22 : decode cX5_append 22 = .ok (.invokevirtual 27, 3) := by decide +kernel
theorem dX5_append_25 : decode cX5_append 25 = .ok (.aload_n 0, 1) := by decide +kernel
theorem dX5_append_26 : decode cX5_append 26 = .ok (.iload_n 3, 1) := by decide +kernel
theorem dX5_append_27 : decode cX5_append 27 = .ok (.invokevirtual 27, 3) := by decide +kernel
theorem dX5_append_30 : decode cX5_append 30 = .ok (.aload_n 0, 1) := by decide +kernel
theorem dX5_append_31 : decode cX5_append 31 = .ok (.iload 4, 2) := by decide +kernel
theorem dX5_append_33 : decode cX5_append 33 = .ok (.invokevirtual 27, 3) := by decide +kernel
theorem dX5_append_36 : decode cX5_append 36 = .ok (.aload_n 0, 1) := by decide +kernel
theorem dX5_append_37 : decode cX5_append 37 = .ok (.iload 5, 2) := by decide +kernel
theorem dX5_append_39 : decode cX5_append 39 = .ok (.invokevirtual 27, 3) := by decide +kernel
theorem dX5_append_42 : decode cX5_append 42 = .ok (.aload_n 0, 1) := by decide +kernel
theorem dX5_append_43 : decode cX5_append 43 = .ok (.getfield 23, 3) := by decide +kernel
theorem dX5_append_46 : decode cX5_append 46 = .ok (.ireturn, 1) := by decide +kernel
noncomputable def B_X5_append_0 : pb_C := (i_aload 0 (i_getI 21 1 (i_const (.int 20) (i_ibin (· + ·) (i_const (.int 600) (i_ic_le (i_aload 0 (i_iload 1 (i_callV 21 1 0 M_X5_appendFour (i_aload 0 (i_iload 2 (i_callV 21 1 0 M_X5_appendFour (i_aload 0 (i_iload 3 (i_callV 21 1 0 M_X5_appendFour (i_aload 0 (i_iload 4 (i_callV 21 1 0 M_X5_appendFour (i_aload 0 (i_iload 5 (i_callV 21 1 0 M_X5_appendFour (i_aload 0 (i_getI 21 1 i_iret))))))))))))))))) (i_const (.int (-1)) i_iret)))))))
noncomputable def T_X5_append : Nat → pb_C := pb_tt [(0, B_X5_append_0)]
noncomputable def M_X5_append : pb_F := pb_M T_X5_append 6
set_option maxRecDepth 100000 in
set_option maxHeartbeats 4000000 in
theorem S_X5_append (l : Launch) : pb_Sound l yX5_append cX5_append 6 (some .int) 2 M_X5_append := by
  refine pb_sound_of (by decide) m_3_199 ?_
  intro Γ hl0 hRm0 hm X E hr J
  have hnL : ∀ j, j < 6 → j < Γ.2.2.2.2.2.2.2.2.2.2.2.1 := fun j h => by rw [hm]; exact h
  have hR : ∀ (d' mL : Nat), d' + 1 ≤ 2 ∧ 8 + (mL + 11) + d' * 64 ≤ 2 * 64 → (pb_rm d').frames + 1 ≤ Γ.2.2.2.1.frames ∧ 8 + (mL + 11) + (pb_rm d').locals ≤ Γ.2.2.2.1.locals := by rw [hRm0]; exact fun _ _ h => h
  have hRm : 1 ≤ 2 ∧ 64 ≤ 2 * 64 → 1 ≤ Γ.2.2.2.1.frames ∧ 64 ≤ Γ.2.2.2.1.locals := by rw [hRm0]; exact fun h => h
  exact pb_tt_snd _ (List.forall_mem_cons.mpr ⟨(s_aload_n (pc := 0) X dX5_append_0 rfl (s_getI (pc := 1) X dX5_append_1 g_X5_23 (s_bipush (pc := 4) X dX5_append_4 rfl (s_iadd (pc := 6) X dX5_append_6 (s_sipush (pc := 7) X dX5_append_7 rfl (s_ic_le (pc := 10) X dX5_append_10 (by decide) (s_aload_n (pc := 15) X dX5_append_15 rfl (s_iload_n (pc := 16) X dX5_append_16 rfl (s_callV (pc := 17) X dX5_append_17 (S_X5_appendFour _) q_X5_27 h_21 rfl (hR _ _ (by decide)) (s_aload_n (pc := 20) X dX5_append_20 rfl (s_iload_n (pc := 21) X dX5_append_21 rfl (s_callV (pc := 22) X dX5_append_22 (S_X5_appendFour _) q_X5_27 h_21 rfl (hR _ _ (by decide)) (s_aload_n (pc := 25) X dX5_append_25 rfl (s_iload_n (pc := 26) X dX5_append_26 rfl (s_callV (pc := 27) X dX5_append_27 (S_X5_appendFour _) q_X5_27 h_21 rfl (hR _ _ (by decide)) (s_aload_n (pc := 30) X dX5_append_30 rfl (s_iload (pc := 31) X dX5_append_31 (s_callV (pc := 33) X dX5_append_33 (S_X5_appendFour _) q_X5_27 h_21 rfl (hR _ _ (by decide)) (s_aload_n (pc := 36) X dX5_append_36 rfl (s_iload (pc := 37) X dX5_append_37 (s_callV (pc := 39) X dX5_append_39 (S_X5_appendFour _) q_X5_27 h_21 rfl (hR _ _ (by decide)) (s_aload_n (pc := 42) X dX5_append_42 rfl (s_getI (pc := 43) X dX5_append_43 g_X5_23 (s_iret (pc := 46) X E hr dX5_append_46)))))))))))))))))) (s_iconst (pc := 13) X dX5_append_13 rfl (s_iret (pc := 14) X E hr dX5_append_14)))))))), fun _ h => absurd h List.not_mem_nil⟩)
theorem dX11_feed_0 : decode cX11_feed 0 = .ok (.aload_n 0, 1) := by decide +kernel
theorem dX11_feed_1 : decode cX11_feed 1 = .ok (.getfield 37, 3) := by decide +kernel
theorem dX11_feed_4 : decode cX11_feed 4 = .ok (.iload_n 1, 1) := by decide +kernel
theorem dX11_feed_5 : decode cX11_feed 5 = .ok (.iload_n 2, 1) := by decide +kernel
theorem dX11_feed_6 : decode cX11_feed 6 = .ok (.iload_n 3, 1) := by decide +kernel
theorem dX11_feed_7 : decode cX11_feed 7 = .ok (.iload 4, 2) := by decide +kernel
theorem dX11_feed_9 : decode cX11_feed 9 = .ok (.iload 5, 2) := by decide +kernel
theorem dX11_feed_11 : decode cX11_feed 11 = .ok (.invokevirtual 188, 3) := by decide +kernel
theorem dX11_feed_14 : decode cX11_feed 14 = .ok (.ireturn, 1) := by decide +kernel
noncomputable def B_X11_feed_0 : pb_C := (i_aload 0 (i_getR 0 21 (i_iload 1 (i_iload 2 (i_iload 3 (i_iload 4 (i_iload 5 (i_callV 21 5 1 M_X5_append i_iret))))))))
noncomputable def T_X11_feed : Nat → pb_C := pb_tt [(0, B_X11_feed_0)]
noncomputable def M_X11_feed : pb_F := pb_M T_X11_feed 6
set_option maxRecDepth 100000 in
set_option maxHeartbeats 4000000 in
theorem S_X11_feed (l : Launch) : pb_Sound l yX11_feed cX11_feed 6 (some .int) 3 M_X11_feed := by
  refine pb_sound_of (by decide) m_3_195 ?_
  intro Γ hl0 hRm0 hm X E hr J
  have hnL : ∀ j, j < 6 → j < Γ.2.2.2.2.2.2.2.2.2.2.2.1 := fun j h => by rw [hm]; exact h
  have hR : ∀ (d' mL : Nat), d' + 1 ≤ 3 ∧ 8 + (mL + 11) + d' * 64 ≤ 3 * 64 → (pb_rm d').frames + 1 ≤ Γ.2.2.2.1.frames ∧ 8 + (mL + 11) + (pb_rm d').locals ≤ Γ.2.2.2.1.locals := by rw [hRm0]; exact fun _ _ h => h
  have hRm : 1 ≤ 3 ∧ 64 ≤ 3 * 64 → 1 ≤ Γ.2.2.2.1.frames ∧ 64 ≤ Γ.2.2.2.1.locals := by rw [hRm0]; exact fun h => h
  exact pb_tt_snd _ (List.forall_mem_cons.mpr ⟨(s_aload_n (pc := 0) X dX11_feed_0 rfl (s_getR (pc := 1) X dX11_feed_1 g_X11_37 (s_iload_n (pc := 4) X dX11_feed_4 rfl (s_iload_n (pc := 5) X dX11_feed_5 rfl (s_iload_n (pc := 6) X dX11_feed_6 rfl (s_iload (pc := 7) X dX11_feed_7 (s_iload (pc := 9) X dX11_feed_9 (s_callV (pc := 11) X dX11_feed_11 (S_X5_append _) q_X11_188 h_21 rfl (hR _ _ (by decide)) (s_iret (pc := 14) X E hr dX11_feed_14))))))))), fun _ h => absurd h List.not_mem_nil⟩)
theorem dX0_addEdition_0 : decode cX0_addEdition 0 = .ok (.aload_n 1, 1) := by decide +kernel
theorem dX0_addEdition_1 : decode cX0_addEdition 1 = .ok (.iconst 0, 1) := by decide +kernel
theorem dX0_addEdition_2 : decode cX0_addEdition 2 = .ok (.aload_n 0, 1) := by decide +kernel
theorem dX0_addEdition_3 : decode cX0_addEdition 3 = .ok (.getfield 9, 3) := by decide +kernel
theorem dX0_addEdition_6 : decode cX0_addEdition 6 = .ok (.aload_n 0, 1) := by decide +kernel
theorem dX0_addEdition_7 : decode cX0_addEdition 7 = .ok (.getfield 32, 3) := by decide +kernel
theorem dX0_addEdition_10 : decode cX0_addEdition 10 = .ok (.sipush 600, 3) := by decide +kernel
theorem dX0_addEdition_13 : decode cX0_addEdition 13 = .ok (.imul, 1) := by decide +kernel
theorem dX0_addEdition_14 : decode cX0_addEdition 14 = .ok (.iload_n 2, 1) := by decide +kernel
theorem dX0_addEdition_15 : decode cX0_addEdition 15 = .ok (.invokestatic 36, 3) := by decide +kernel
theorem dX0_addEdition_18 : decode cX0_addEdition 18 = .ok (.aload_n 0, 1) := by decide +kernel
theorem dX0_addEdition_19 : decode cX0_addEdition 19 = .ok (.getfield 15, 3) := by decide +kernel
theorem dX0_addEdition_22 : decode cX0_addEdition 22 = .ok (.aload_n 0, 1) := by decide +kernel
theorem dX0_addEdition_23 : decode cX0_addEdition 23 = .ok (.getfield 32, 3) := by decide +kernel
theorem dX0_addEdition_26 : decode cX0_addEdition 26 = .ok (.iload_n 2, 1) := by decide +kernel
theorem dX0_addEdition_27 : decode cX0_addEdition 27 = .ok (.iastore, 1) := by decide +kernel
theorem dX0_addEdition_28 : decode cX0_addEdition 28 = .ok (.aload_n 0, 1) := by decide +kernel
theorem dX0_addEdition_29 : decode cX0_addEdition 29 = .ok (.dup, 1) := by decide +kernel
theorem dX0_addEdition_30 : decode cX0_addEdition 30 = .ok (.getfield 32, 3) := by decide +kernel
theorem dX0_addEdition_33 : decode cX0_addEdition 33 = .ok (.iconst 1, 1) := by decide +kernel
theorem dX0_addEdition_34 : decode cX0_addEdition 34 = .ok (.iadd, 1) := by decide +kernel
theorem dX0_addEdition_35 : decode cX0_addEdition 35 = .ok (.putfield 32, 3) := by decide +kernel
theorem dX0_addEdition_38 : decode cX0_addEdition 38 = .ok (.aload_n 0, 1) := by decide +kernel
theorem dX0_addEdition_39 : decode cX0_addEdition 39 = .ok (.getfield 32, 3) := by decide +kernel
theorem dX0_addEdition_42 : decode cX0_addEdition 42 = .ok (.iconst 1, 1) := by decide +kernel
theorem dX0_addEdition_43 : decode cX0_addEdition 43 = .ok (.isub, 1) := by decide +kernel
theorem dX0_addEdition_44 : decode cX0_addEdition 44 = .ok (.ireturn, 1) := by decide +kernel
noncomputable def B_X0_addEdition_24_0 : pb_C := (i_aload 1 (i_const (.int 0) (i_aload 0 (i_getR 25 26 (i_aload 0 (i_getI 25 1 (i_const (.int 600) (i_ibin (· * ·) (i_iload 2 (i_copyL 24 600 26 3000 (i_aload 0 (i_getR 25 27 (i_aload 0 (i_getI 25 1 (i_iload 2 (i_ast 27 5 (fun x => x) (i_aload 0 (i_dupR (i_getI 25 1 (i_const (.int 1) (i_ibin (· + ·) (i_putI 25 1 (i_aload 0 (i_getI 25 1 (i_const (.int 1) (i_ibin (· - ·) i_iret))))))))))))))))))))))))))
noncomputable def T_X0_addEdition_24 : Nat → pb_C := pb_tt [(0, B_X0_addEdition_24_0)]
noncomputable def M_X0_addEdition_24 : pb_F := pb_M T_X0_addEdition_24 3
set_option maxRecDepth 100000 in
set_option maxHeartbeats 4000000 in
theorem S_X0_addEdition_24 (l : Launch) : pb_Sound l yX0_addEdition cX0_addEdition 3 (some .int) 1 M_X0_addEdition_24 := by
  refine pb_sound_of (by decide) m_4_174 ?_
  intro Γ hl0 hRm0 hm X E hr J
  have hnL : ∀ j, j < 3 → j < Γ.2.2.2.2.2.2.2.2.2.2.2.1 := fun j h => by rw [hm]; exact h
  have hR : ∀ (d' mL : Nat), d' + 1 ≤ 1 ∧ 8 + (mL + 11) + d' * 64 ≤ 1 * 64 → (pb_rm d').frames + 1 ≤ Γ.2.2.2.1.frames ∧ 8 + (mL + 11) + (pb_rm d').locals ≤ Γ.2.2.2.1.locals := by rw [hRm0]; exact fun _ _ h => h
  have hRm : 1 ≤ 1 ∧ 64 ≤ 1 * 64 → 1 ≤ Γ.2.2.2.1.frames ∧ 64 ≤ Γ.2.2.2.1.locals := by rw [hRm0]; exact fun h => h
  exact pb_tt_snd _ (List.forall_mem_cons.mpr ⟨(s_aload_n (pc := 0) X dX0_addEdition_0 rfl (s_iconst (pc := 1) X dX0_addEdition_1 rfl (s_aload_n (pc := 2) X dX0_addEdition_2 rfl (s_getR (pc := 3) X dX0_addEdition_3 g_X0_9 (s_aload_n (pc := 6) X dX0_addEdition_6 rfl (s_getI (pc := 7) X dX0_addEdition_7 g_X0_32 (s_sipush (pc := 10) X dX0_addEdition_10 rfl (s_imul (pc := 13) X dX0_addEdition_13 (s_iload_n (pc := 14) X dX0_addEdition_14 rfl (s_copyL (pc := 15) X dX0_addEdition_15 m_4_175 m_nat h_24 h_26 (hRm (by decide)) (s_aload_n (pc := 18) X dX0_addEdition_18 rfl (s_getR (pc := 19) X dX0_addEdition_19 g_X0_15 (s_aload_n (pc := 22) X dX0_addEdition_22 rfl (s_getI (pc := 23) X dX0_addEdition_23 g_X0_32 (s_iload_n (pc := 26) X dX0_addEdition_26 rfl (s_iast (pc := 27) X dX0_addEdition_27 h_27 (s_aload_n (pc := 28) X dX0_addEdition_28 rfl (s_dupR (pc := 29) X dX0_addEdition_29 (s_getI (pc := 30) X dX0_addEdition_30 g_X0_32 (s_iconst (pc := 33) X dX0_addEdition_33 rfl (s_iadd (pc := 34) X dX0_addEdition_34 (s_putI (pc := 35) X dX0_addEdition_35 p_X0_32 (s_aload_n (pc := 38) X dX0_addEdition_38 rfl (s_getI (pc := 39) X dX0_addEdition_39 g_X0_32 (s_iconst (pc := 42) X dX0_addEdition_42 rfl (s_isub (pc := 43) X dX0_addEdition_43 (s_iret (pc := 44) X E hr dX0_addEdition_44))))))))))))))))))))))))))), fun _ h => absurd h List.not_mem_nil⟩)
theorem dX5_isLetter_0 : decode cX5_isLetter 0 = .ok (.iload_n 0, 1) := by decide +kernel
theorem dX5_isLetter_1 : decode cX5_isLetter 1 = .ok (.bipush 97, 2) := by decide +kernel
theorem dX5_isLetter_3 : decode cX5_isLetter 3 = .ok (.if_icmp .lt 13, 3) := by decide +kernel
theorem dX5_isLetter_6 : decode cX5_isLetter 6 = .ok (.iload_n 0, 1) := by decide +kernel
theorem dX5_isLetter_7 : decode cX5_isLetter 7 = .ok (.bipush 122, 2) := by decide +kernel
theorem dX5_isLetter_9 : decode cX5_isLetter 9 = .ok (.if_icmp .gt 7, 3) := by decide +kernel
theorem dX5_isLetter_12 : decode cX5_isLetter 12 = .ok (.iconst 1, 1) := by decide +kernel
theorem dX5_isLetter_13 : decode cX5_isLetter 13 = .ok (.goto 4, 3) := by decide +kernel
theorem dX5_isLetter_16 : decode cX5_isLetter 16 = .ok (.iconst 0, 1) := by decide +kernel
theorem dX5_isLetter_17 : decode cX5_isLetter 17 = .ok (.ireturn, 1) := by decide +kernel
noncomputable def B_X5_isLetter_0 : pb_C := (i_iload 0 (i_const (.int 97) (i_ic_lt (i_const (.int 0) i_zret) (i_iload 0 (i_const (.int 122) (i_ic_gt (i_const (.int 0) i_zret) (i_const (.int 1) i_zret)))))))
noncomputable def T_X5_isLetter : Nat → pb_C := pb_tt [(0, B_X5_isLetter_0)]
noncomputable def M_X5_isLetter : pb_F := pb_M T_X5_isLetter 1
set_option maxRecDepth 100000 in
set_option maxHeartbeats 4000000 in
theorem S_X5_isLetter (l : Launch) : pb_Sound l yX5_isLetter cX5_isLetter 1 (some .boolean) 1 M_X5_isLetter := by
  refine pb_sound_of (by decide) m_3_221 ?_
  intro Γ hl0 hRm0 hm X E hr J
  have hnL : ∀ j, j < 1 → j < Γ.2.2.2.2.2.2.2.2.2.2.2.1 := fun j h => by rw [hm]; exact h
  have hR : ∀ (d' mL : Nat), d' + 1 ≤ 1 ∧ 8 + (mL + 11) + d' * 64 ≤ 1 * 64 → (pb_rm d').frames + 1 ≤ Γ.2.2.2.1.frames ∧ 8 + (mL + 11) + (pb_rm d').locals ≤ Γ.2.2.2.1.locals := by rw [hRm0]; exact fun _ _ h => h
  have hRm : 1 ≤ 1 ∧ 64 ≤ 1 * 64 → 1 ≤ Γ.2.2.2.1.frames ∧ 64 ≤ Γ.2.2.2.1.locals := by rw [hRm0]; exact fun h => h
  exact pb_tt_snd _ (List.forall_mem_cons.mpr ⟨(s_iload_n (pc := 0) X dX5_isLetter_0 rfl (s_bipush (pc := 1) X dX5_isLetter_1 rfl (s_ic_lt (pc := 3) X dX5_isLetter_3 (by decide) (s_iconst (pc := 16) X dX5_isLetter_16 rfl (s_zret (pc := 17) X E hr dX5_isLetter_17)) (s_iload_n (pc := 6) X dX5_isLetter_6 rfl (s_bipush (pc := 7) X dX5_isLetter_7 rfl (s_ic_gt (pc := 9) X dX5_isLetter_9 (by decide) (s_iconst (pc := 16) X dX5_isLetter_16 rfl (s_zret (pc := 17) X E hr dX5_isLetter_17)) (s_iconst (pc := 12) X dX5_isLetter_12 rfl (s_goto (pc := 13) X dX5_isLetter_13 (by decide) (s_zret (pc := 17) X E hr dX5_isLetter_17))))))))), fun _ h => absurd h List.not_mem_nil⟩)
theorem dX5_isLongWord_0 : decode cX5_isLongWord 0 = .ok (.aload_n 0, 1) := by decide +kernel
theorem dX5_isLongWord_1 : decode cX5_isLongWord 1 = .ok (.getfield 57, 3) := by decide +kernel
theorem dX5_isLongWord_4 : decode cX5_isLongWord 4 = .ok (.aload_n 0, 1) := by decide +kernel
theorem dX5_isLongWord_5 : decode cX5_isLongWord 5 = .ok (.getfield 78, 3) := by decide +kernel
theorem dX5_isLongWord_8 : decode cX5_isLongWord 8 = .ok (.isub, 1) := by decide +kernel
theorem dX5_isLongWord_9 : decode cX5_isLongWord 9 = .ok (.bipush 8, 2) := by decide +kernel
theorem dX5_isLongWord_11 : decode cX5_isLongWord 11 = .ok (.if_icmp .le 7, 3) := by decide +kernel
theorem dX5_isLongWord_14 : decode cX5_isLongWord 14 = .ok (.iconst 1, 1) := by decide +kernel
theorem dX5_isLongWord_15 : decode cX5_isLongWord 15 = .ok (.goto 4, 3) := by decide +kernel
theorem dX5_isLongWord_18 : decode cX5_isLongWord 18 = .ok (.iconst 0, 1) := by decide +kernel
theorem dX5_isLongWord_19 : decode cX5_isLongWord 19 = .ok (.ireturn, 1) := by decide +kernel
noncomputable def B_X5_isLongWord_0 : pb_C := (i_aload 0 (i_getI 21 5 (i_aload 0 (i_getI 21 4 (i_ibin (· - ·) (i_const (.int 8) (i_ic_le (i_const (.int 0) i_zret) (i_const (.int 1) i_zret))))))))
noncomputable def T_X5_isLongWord : Nat → pb_C := pb_tt [(0, B_X5_isLongWord_0)]
noncomputable def M_X5_isLongWord : pb_F := pb_M T_X5_isLongWord 1
set_option maxRecDepth 100000 in
set_option maxHeartbeats 4000000 in
theorem S_X5_isLongWord (l : Launch) : pb_Sound l yX5_isLongWord cX5_isLongWord 1 (some .boolean) 1 M_X5_isLongWord := by
  refine pb_sound_of (by decide) m_3_231 ?_
  intro Γ hl0 hRm0 hm X E hr J
  have hnL : ∀ j, j < 1 → j < Γ.2.2.2.2.2.2.2.2.2.2.2.1 := fun j h => by rw [hm]; exact h
  have hR : ∀ (d' mL : Nat), d' + 1 ≤ 1 ∧ 8 + (mL + 11) + d' * 64 ≤ 1 * 64 → (pb_rm d').frames + 1 ≤ Γ.2.2.2.1.frames ∧ 8 + (mL + 11) + (pb_rm d').locals ≤ Γ.2.2.2.1.locals := by rw [hRm0]; exact fun _ _ h => h
  have hRm : 1 ≤ 1 ∧ 64 ≤ 1 * 64 → 1 ≤ Γ.2.2.2.1.frames ∧ 64 ≤ Γ.2.2.2.1.locals := by rw [hRm0]; exact fun h => h
  exact pb_tt_snd _ (List.forall_mem_cons.mpr ⟨(s_aload_n (pc := 0) X dX5_isLongWord_0 rfl (s_getI (pc := 1) X dX5_isLongWord_1 g_X5_57 (s_aload_n (pc := 4) X dX5_isLongWord_4 rfl (s_getI (pc := 5) X dX5_isLongWord_5 g_X5_78 (s_isub (pc := 8) X dX5_isLongWord_8 (s_bipush (pc := 9) X dX5_isLongWord_9 rfl (s_ic_le (pc := 11) X dX5_isLongWord_11 (by decide) (s_iconst (pc := 18) X dX5_isLongWord_18 rfl (s_zret (pc := 19) X E hr dX5_isLongWord_19)) (s_iconst (pc := 14) X dX5_isLongWord_14 rfl (s_goto (pc := 15) X dX5_isLongWord_15 (by decide) (s_zret (pc := 19) X E hr dX5_isLongWord_19)))))))))), fun _ h => absurd h List.not_mem_nil⟩)
theorem dX5_nextWord_0 : decode cX5_nextWord 0 = .ok (.aload_n 0, 1) := by decide +kernel
theorem dX5_nextWord_1 : decode cX5_nextWord 1 = .ok (.lconst 0, 1) := by decide +kernel
theorem dX5_nextWord_2 : decode cX5_nextWord 2 = .ok (.putfield 102, 3) := by decide +kernel
theorem dX5_nextWord_5 : decode cX5_nextWord 5 = .ok (.aload_n 0, 1) := by decide +kernel
theorem dX5_nextWord_6 : decode cX5_nextWord 6 = .ok (.getfield 57, 3) := by decide +kernel
theorem dX5_nextWord_9 : decode cX5_nextWord 9 = .ok (.aload_n 0, 1) := by decide +kernel
theorem dX5_nextWord_10 : decode cX5_nextWord 10 = .ok (.getfield 54, 3) := by decide +kernel
theorem dX5_nextWord_13 : decode cX5_nextWord 13 = .ok (.if_icmp .ge 57, 3) := by decide +kernel
theorem dX5_nextWord_16 : decode cX5_nextWord 16 = .ok (.aload_n 0, 1) := by decide +kernel
theorem dX5_nextWord_17 : decode cX5_nextWord 17 = .ok (.getfield 9, 3) := by decide +kernel
theorem dX5_nextWord_20 : decode cX5_nextWord 20 = .ok (.aload_n 0, 1) := by decide +kernel
theorem dX5_nextWord_21 : decode cX5_nextWord 21 = .ok (.getfield 57, 3) := by decide +kernel
theorem dX5_nextWord_24 : decode cX5_nextWord 24 = .ok (.baload, 1) := by decide +kernel
theorem dX5_nextWord_25 : decode cX5_nextWord 25 = .ok (.invokestatic 81, 3) := by decide +kernel
theorem dX5_nextWord_28 : decode cX5_nextWord 28 = .ok (.ifCond .eq 42, 3) := by decide +kernel
theorem dX5_nextWord_31 : decode cX5_nextWord 31 = .ok (.aload_n 0, 1) := by decide +kernel
theorem dX5_nextWord_32 : decode cX5_nextWord 32 = .ok (.aload_n 0, 1) := by decide +kernel
theorem dX5_nextWord_33 : decode cX5_nextWord 33 = .ok (.getfield 102, 3) := by decide +kernel
theorem dX5_nextWord_36 : decode cX5_nextWord 36 = .ok (.iconst 5, 1) := by decide +kernel
theorem dX5_nextWord_37 : decode cX5_nextWord 37 = .ok (.lshl, 1) := by decide +kernel
theorem dX5_nextWord_38 : decode cX5_nextWord 38 = .ok (.aload_n 0, 1) := by decide +kernel
theorem dX5_nextWord_39 : decode cX5_nextWord 39 = .ok (.getfield 9, 3) := by decide +kernel
theorem dX5_nextWord_42 : decode cX5_nextWord 42 = .ok (.aload_n 0, 1) := by decide +kernel
theorem dX5_nextWord_43 : decode cX5_nextWord 43 = .ok (.getfield 57, 3) := by decide +kernel
theorem dX5_nextWord_46 : decode cX5_nextWord 46 = .ok (.baload, 1) := by decide +kernel
theorem dX5_nextWord_47 : decode cX5_nextWord 47 = .ok (.bipush 97, 2) := by decide +kernel
theorem dX5_nextWord_49 : decode cX5_nextWord 49 = .ok (.isub, 1) := by decide +kernel
theorem dX5_nextWord_50 : decode cX5_nextWord 50 = .ok (.iconst 1, 1) := by decide +kernel
theorem dX5_nextWord_51 : decode cX5_nextWord 51 = .ok (.iadd, 1) := by decide +kernel
theorem dX5_nextWord_52 : decode cX5_nextWord 52 = .ok (.i2l, 1) := by decide +kernel
theorem dX5_nextWord_53 : decode cX5_nextWord 53 = .ok (.lor, 1) := by decide +kernel
theorem dX5_nextWord_54 : decode cX5_nextWord 54 = .ok (.putfield 102, 3) := by decide +kernel
theorem dX5_nextWord_57 : decode cX5_nextWord 57 = .ok (.aload_n 0, 1) := by decide +kernel
theorem dX5_nextWord_58 : decode cX5_nextWord 58 = .ok (.dup, 1) := by decide +kernel
theorem dX5_nextWord_59 : decode cX5_nextWord 59 = .ok (.getfield 57, 3) := by decide +kernel
theorem dX5_nextWord_62 : decode cX5_nextWord 62 = .ok (.iconst 1, 1) := by decide +kernel
theorem dX5_nextWord_63 : decode cX5_nextWord 63 = .ok (.iadd, 1) := by decide +kernel
theorem dX5_nextWord_64 : decode cX5_nextWord 64 = .ok (.putfield 57, 3) := by decide +kernel
theorem dX5_nextWord_67 : decode cX5_nextWord 67 = .ok (.goto (-62), 3) := by decide +kernel
theorem dX5_nextWord_70 : decode cX5_nextWord 70 = .ok (.aload_n 0, 1) := by decide +kernel
theorem dX5_nextWord_71 : decode cX5_nextWord 71 = .ok (.bipush 13, 2) := by decide +kernel
theorem dX5_nextWord_73 : decode cX5_nextWord 73 = .ok (.putfield 75, 3) := by decide +kernel
theorem dX5_nextWord_76 : decode cX5_nextWord 76 = .ok (.iconst 0, 1) := by decide +kernel
theorem dX5_nextWord_77 : decode cX5_nextWord 77 = .ok (.istore_n 1, 1) := by decide +kernel
theorem dX5_nextWord_78 : decode cX5_nextWord 78 = .ok (.iload_n 1, 1) := by decide +kernel
theorem dX5_nextWord_79 : decode cX5_nextWord 79 = .ok (.getstatic 106, 3) := by decide +kernel
theorem dX5_nextWord_82 : decode cX5_nextWord 82 = .ok (.arraylength, 1) := by decide +kernel
theorem dX5_nextWord_83 : decode cX5_nextWord 83 = .ok (.if_icmp .ge 34, 3) := by decide +kernel
theorem dX5_nextWord_86 : decode cX5_nextWord 86 = .ok (.aload_n 0, 1) := by decide +kernel
theorem dX5_nextWord_87 : decode cX5_nextWord 87 = .ok (.getfield 102, 3) := by decide +kernel
theorem dX5_nextWord_90 : decode cX5_nextWord 90 = .ok (.getstatic 106, 3) := by decide +kernel
theorem dX5_nextWord_93 : decode cX5_nextWord 93 = .ok (.iload_n 1, 1) := by decide +kernel
theorem dX5_nextWord_94 : decode cX5_nextWord 94 = .ok (.laload, 1) := by decide +kernel
theorem dX5_nextWord_95 : decode cX5_nextWord 95 = .ok (.lcmp, 1) := by decide +kernel
theorem dX5_nextWord_96 : decode cX5_nextWord 96 = .ok (.ifCond .ne 15, 3) := by decide +kernel
theorem dX5_nextWord_99 : decode cX5_nextWord 99 = .ok (.aload_n 0, 1) := by decide +kernel
theorem dX5_nextWord_100 : decode cX5_nextWord 100 = .ok (.invokevirtual 109, 3) := by decide +kernel
theorem dX5_nextWord_103 : decode cX5_nextWord 103 = .ok (.ifCond .ne 8, 3) := by decide +kernel
theorem dX5_nextWord_106 : decode cX5_nextWord 106 = .ok (.aload_n 0, 1) := by decide +kernel
theorem dX5_nextWord_107 : decode cX5_nextWord 107 = .ok (.iload_n 1, 1) := by decide +kernel
theorem dX5_nextWord_108 : decode cX5_nextWord 108 = .ok (.putfield 75, 3) := by decide +kernel
theorem dX5_nextWord_111 : decode cX5_nextWord 111 = .ok (.iinc 1 1, 3) := by decide +kernel
theorem dX5_nextWord_114 : decode cX5_nextWord 114 = .ok (.goto (-36), 3) := by decide +kernel
theorem dX5_nextWord_117 : decode cX5_nextWord 117 = .ok (.return_, 1) := by decide +kernel
noncomputable def B_X5_nextWord_0 : pb_C := (i_aload 0 (i_const (.long 0) (i_putL 21 6 (i_jmp 5 [true, false]))))
noncomputable def B_X5_nextWord_5 : pb_C := (i_aload 0 (i_getI 21 5 (i_aload 0 (i_getI 21 2 (i_ic_ge (i_aload 0 (i_const (.int 13) (i_putI 21 3 (i_const (.int 0) (i_istore 1 (i_jmp 78 [true, true])))))) (i_aload 0 (i_getR 21 22 (i_aload 0 (i_getI 21 5 (i_ald 22 600 (i_callS 1 1 M_X5_isLetter (i_if_eq (i_aload 0 (i_const (.int 13) (i_putI 21 3 (i_const (.int 0) (i_istore 1 (i_jmp 78 [true, true])))))) (i_aload 0 (i_aload 0 (i_getL 21 6 (i_const (.int 5) (i_lsh (fun x y => x <<< (y.toInt64 &&& 63)) (i_aload 0 (i_getR 21 22 (i_aload 0 (i_getI 21 5 (i_ald 22 600 (i_const (.int 97) (i_ibin (· - ·) (i_const (.int 1) (i_ibin (· + ·) (i_i2l (i_lbin (· ||| ·) (i_putL 21 6 (i_aload 0 (i_dupR (i_getI 21 5 (i_const (.int 1) (i_ibin (· + ·) (i_putI 21 5 (i_jmp 5 [true, false]))))))))))))))))))))))))))))))))))))
noncomputable def B_X5_nextWord_78 : pb_C := (i_iload 1 (i_const (.ref 320) (i_alen 320 13 (i_ic_ge i_vret (i_aload 0 (i_getL 21 6 (i_const (.ref 320) (i_iload 1 (i_clald 320 13 (fun j => pb_keys.getD j 0) (i_lcmp (i_if_ne (i_iinc 1 1 (i_jmp 78 [true, true])) (i_aload 0 (i_callV 21 0 1 M_X5_isLongWord (i_if_ne (i_iinc 1 1 (i_jmp 78 [true, true])) (i_aload 0 (i_iload 1 (i_putI 21 3 (i_iinc 1 1 (i_jmp 78 [true, true])))))))))))))))))))
noncomputable def T_X5_nextWord : Nat → pb_C := pb_tt [(0, B_X5_nextWord_0), (5, B_X5_nextWord_5), (78, B_X5_nextWord_78)]
noncomputable def M_X5_nextWord : pb_F := pb_M T_X5_nextWord 2
set_option maxRecDepth 100000 in
set_option maxHeartbeats 4000000 in
theorem S_X5_nextWord (l : Launch) : pb_Sound l yX5_nextWord cX5_nextWord 2 none 2 M_X5_nextWord := by
  refine pb_sound_of (by decide) m_3_225 ?_
  intro Γ hl0 hRm0 hm X E hr J
  have hnL : ∀ j, j < 2 → j < Γ.2.2.2.2.2.2.2.2.2.2.2.1 := fun j h => by rw [hm]; exact h
  have hR : ∀ (d' mL : Nat), d' + 1 ≤ 2 ∧ 8 + (mL + 11) + d' * 64 ≤ 2 * 64 → (pb_rm d').frames + 1 ≤ Γ.2.2.2.1.frames ∧ 8 + (mL + 11) + (pb_rm d').locals ≤ Γ.2.2.2.1.locals := by rw [hRm0]; exact fun _ _ h => h
  have hRm : 1 ≤ 2 ∧ 64 ≤ 2 * 64 → 1 ≤ Γ.2.2.2.1.frames ∧ 64 ≤ Γ.2.2.2.1.locals := by rw [hRm0]; exact fun h => h
  exact pb_tt_snd _ (List.forall_mem_cons.mpr ⟨(s_aload_n (pc := 0) X dX5_nextWord_0 rfl (s_lconst (pc := 1) X dX5_nextWord_1 rfl (s_putL (pc := 2) X dX5_nextWord_2 p_X5_102 (s_jmp (pc := 5) J [true, false])))), List.forall_mem_cons.mpr ⟨(s_aload_n (pc := 5) X dX5_nextWord_5 rfl (s_getI (pc := 6) X dX5_nextWord_6 g_X5_57 (s_aload_n (pc := 9) X dX5_nextWord_9 rfl (s_getI (pc := 10) X dX5_nextWord_10 g_X5_54 (s_ic_ge (pc := 13) X dX5_nextWord_13 (by decide) (s_aload_n (pc := 70) X dX5_nextWord_70 rfl (s_bipush (pc := 71) X dX5_nextWord_71 rfl (s_putI (pc := 73) X dX5_nextWord_73 p_X5_75 (s_iconst (pc := 76) X dX5_nextWord_76 rfl (s_istore_n (pc := 77) X dX5_nextWord_77 rfl (hnL _ (by decide)) (s_jmp (pc := 78) J [true, true])))))) (s_aload_n (pc := 16) X dX5_nextWord_16 rfl (s_getR (pc := 17) X dX5_nextWord_17 g_X5_9 (s_aload_n (pc := 20) X dX5_nextWord_20 rfl (s_getI (pc := 21) X dX5_nextWord_21 g_X5_57 (s_bald (pc := 24) X dX5_nextWord_24 h_22 (s_callS (pc := 25) X dX5_nextWord_25 (S_X5_isLetter _) q_X5_81 (hR _ _ (by decide)) (s_if_eq (pc := 28) X dX5_nextWord_28 (by decide) (s_aload_n (pc := 70) X dX5_nextWord_70 rfl (s_bipush (pc := 71) X dX5_nextWord_71 rfl (s_putI (pc := 73) X dX5_nextWord_73 p_X5_75 (s_iconst (pc := 76) X dX5_nextWord_76 rfl (s_istore_n (pc := 77) X dX5_nextWord_77 rfl (hnL _ (by decide)) (s_jmp (pc := 78) J [true, true])))))) (s_aload_n (pc := 31) X dX5_nextWord_31 rfl (s_aload_n (pc := 32) X dX5_nextWord_32 rfl (s_getL (pc := 33) X dX5_nextWord_33 g_X5_102 (s_iconst (pc := 36) X dX5_nextWord_36 rfl (s_lshl (pc := 37) X dX5_nextWord_37 (s_aload_n (pc := 38) X dX5_nextWord_38 rfl (s_getR (pc := 39) X dX5_nextWord_39 g_X5_9 (s_aload_n (pc := 42) X dX5_nextWord_42 rfl (s_getI (pc := 43) X dX5_nextWord_43 g_X5_57 (s_bald (pc := 46) X dX5_nextWord_46 h_22 (s_bipush (pc := 47) X dX5_nextWord_47 rfl (s_isub (pc := 49) X dX5_nextWord_49 (s_iconst (pc := 50) X dX5_nextWord_50 rfl (s_iadd (pc := 51) X dX5_nextWord_51 (s_i2l (pc := 52) X dX5_nextWord_52 (s_lor (pc := 53) X dX5_nextWord_53 (s_putL (pc := 54) X dX5_nextWord_54 p_X5_102 (s_aload_n (pc := 57) X dX5_nextWord_57 rfl (s_dupR (pc := 58) X dX5_nextWord_58 (s_getI (pc := 59) X dX5_nextWord_59 g_X5_57 (s_iconst (pc := 62) X dX5_nextWord_62 rfl (s_iadd (pc := 63) X dX5_nextWord_63 (s_putI (pc := 64) X dX5_nextWord_64 p_X5_57 (s_goto (pc := 67) X dX5_nextWord_67 (by decide) (s_jmp (pc := 5) J [true, false]))))))))))))))))))))))))))))))))))))), List.forall_mem_cons.mpr ⟨(s_iload_n (pc := 78) X dX5_nextWord_78 rfl (s_gets (pc := 79) X dX5_nextWord_79 (v := (.ref 320)) m_3_226 (fun ad A U H h => h.2.2.1) (s_calen (pc := 82) X dX5_nextWord_82 (o := 320) (n := 13) (fun ad A U H h => h.2.2.2.1) (s_ic_ge (pc := 83) X dX5_nextWord_83 (by decide) (s_vret (pc := 117) X E hr dX5_nextWord_117) (s_aload_n (pc := 86) X dX5_nextWord_86 rfl (s_getL (pc := 87) X dX5_nextWord_87 g_X5_102 (s_gets (pc := 90) X dX5_nextWord_90 (v := (.ref 320)) m_3_226 (fun ad A U H h => h.2.2.1) (s_iload_n (pc := 93) X dX5_nextWord_93 rfl (s_clald (pc := 94) X dX5_nextWord_94 (o := 320) (n := 13) (f := fun j => pb_keys.getD j 0) (fun ad A U H h => h.2.2.2.1) (s_lcmp (pc := 95) X dX5_nextWord_95 (s_if_ne (pc := 96) X dX5_nextWord_96 (by decide) (s_iinc (pc := 111) X dX5_nextWord_111 rfl (s_goto (pc := 114) X dX5_nextWord_114 (by decide) (s_jmp (pc := 78) J [true, true]))) (s_aload_n (pc := 99) X dX5_nextWord_99 rfl (s_callV (pc := 100) X dX5_nextWord_100 (S_X5_isLongWord _) q_X5_109 h_21 rfl (hR _ _ (by decide)) (s_if_ne (pc := 103) X dX5_nextWord_103 (by decide) (s_iinc (pc := 111) X dX5_nextWord_111 rfl (s_goto (pc := 114) X dX5_nextWord_114 (by decide) (s_jmp (pc := 78) J [true, true]))) (s_aload_n (pc := 106) X dX5_nextWord_106 rfl (s_iload_n (pc := 107) X dX5_nextWord_107 rfl (s_putI (pc := 108) X dX5_nextWord_108 p_X5_75 (s_iinc (pc := 111) X dX5_nextWord_111 rfl (s_goto (pc := 114) X dX5_nextWord_114 (by decide) (s_jmp (pc := 78) J [true, true])))))))))))))))))))), fun _ h => absurd h List.not_mem_nil⟩⟩⟩)
theorem dX5_isDigit_0 : decode cX5_isDigit 0 = .ok (.iload_n 0, 1) := by decide +kernel
theorem dX5_isDigit_1 : decode cX5_isDigit 1 = .ok (.bipush 48, 2) := by decide +kernel
theorem dX5_isDigit_3 : decode cX5_isDigit 3 = .ok (.if_icmp .lt 13, 3) := by decide +kernel
theorem dX5_isDigit_6 : decode cX5_isDigit 6 = .ok (.iload_n 0, 1) := by decide +kernel
theorem dX5_isDigit_7 : decode cX5_isDigit 7 = .ok (.bipush 57, 2) := by decide +kernel
theorem dX5_isDigit_9 : decode cX5_isDigit 9 = .ok (.if_icmp .gt 7, 3) := by decide +kernel
theorem dX5_isDigit_12 : decode cX5_isDigit 12 = .ok (.iconst 1, 1) := by decide +kernel
theorem dX5_isDigit_13 : decode cX5_isDigit 13 = .ok (.goto 4, 3) := by decide +kernel
theorem dX5_isDigit_16 : decode cX5_isDigit 16 = .ok (.iconst 0, 1) := by decide +kernel
theorem dX5_isDigit_17 : decode cX5_isDigit 17 = .ok (.ireturn, 1) := by decide +kernel
noncomputable def B_X5_isDigit_0 : pb_C := (i_iload 0 (i_const (.int 48) (i_ic_lt (i_const (.int 0) i_zret) (i_iload 0 (i_const (.int 57) (i_ic_gt (i_const (.int 0) i_zret) (i_const (.int 1) i_zret)))))))
noncomputable def T_X5_isDigit : Nat → pb_C := pb_tt [(0, B_X5_isDigit_0)]
noncomputable def M_X5_isDigit : pb_F := pb_M T_X5_isDigit 1
set_option maxRecDepth 100000 in
set_option maxHeartbeats 4000000 in
theorem S_X5_isDigit (l : Launch) : pb_Sound l yX5_isDigit cX5_isDigit 1 (some .boolean) 1 M_X5_isDigit := by
  refine pb_sound_of (by decide) m_3_234 ?_
  intro Γ hl0 hRm0 hm X E hr J
  have hnL : ∀ j, j < 1 → j < Γ.2.2.2.2.2.2.2.2.2.2.2.1 := fun j h => by rw [hm]; exact h
  have hR : ∀ (d' mL : Nat), d' + 1 ≤ 1 ∧ 8 + (mL + 11) + d' * 64 ≤ 1 * 64 → (pb_rm d').frames + 1 ≤ Γ.2.2.2.1.frames ∧ 8 + (mL + 11) + (pb_rm d').locals ≤ Γ.2.2.2.1.locals := by rw [hRm0]; exact fun _ _ h => h
  have hRm : 1 ≤ 1 ∧ 64 ≤ 1 * 64 → 1 ≤ Γ.2.2.2.1.frames ∧ 64 ≤ Γ.2.2.2.1.locals := by rw [hRm0]; exact fun h => h
  exact pb_tt_snd _ (List.forall_mem_cons.mpr ⟨(s_iload_n (pc := 0) X dX5_isDigit_0 rfl (s_bipush (pc := 1) X dX5_isDigit_1 rfl (s_ic_lt (pc := 3) X dX5_isDigit_3 (by decide) (s_iconst (pc := 16) X dX5_isDigit_16 rfl (s_zret (pc := 17) X E hr dX5_isDigit_17)) (s_iload_n (pc := 6) X dX5_isDigit_6 rfl (s_bipush (pc := 7) X dX5_isDigit_7 rfl (s_ic_gt (pc := 9) X dX5_isDigit_9 (by decide) (s_iconst (pc := 16) X dX5_isDigit_16 rfl (s_zret (pc := 17) X E hr dX5_isDigit_17)) (s_iconst (pc := 12) X dX5_isDigit_12 rfl (s_goto (pc := 13) X dX5_isDigit_13 (by decide) (s_zret (pc := 17) X E hr dX5_isDigit_17))))))))), fun _ h => absurd h List.not_mem_nil⟩)
theorem dX5_nextNumber_0 : decode cX5_nextNumber 0 = .ok (.aload_n 0, 1) := by decide +kernel
theorem dX5_nextNumber_1 : decode cX5_nextNumber 1 = .ok (.lconst 0, 1) := by decide +kernel
theorem dX5_nextNumber_2 : decode cX5_nextNumber 2 = .ok (.putfield 102, 3) := by decide +kernel
theorem dX5_nextNumber_5 : decode cX5_nextNumber 5 = .ok (.aload_n 0, 1) := by decide +kernel
theorem dX5_nextNumber_6 : decode cX5_nextNumber 6 = .ok (.getfield 57, 3) := by decide +kernel
theorem dX5_nextNumber_9 : decode cX5_nextNumber 9 = .ok (.aload_n 0, 1) := by decide +kernel
theorem dX5_nextNumber_10 : decode cX5_nextNumber 10 = .ok (.getfield 54, 3) := by decide +kernel
theorem dX5_nextNumber_13 : decode cX5_nextNumber 13 = .ok (.if_icmp .ge 58, 3) := by decide +kernel
theorem dX5_nextNumber_16 : decode cX5_nextNumber 16 = .ok (.aload_n 0, 1) := by decide +kernel
theorem dX5_nextNumber_17 : decode cX5_nextNumber 17 = .ok (.getfield 9, 3) := by decide +kernel
theorem dX5_nextNumber_20 : decode cX5_nextNumber 20 = .ok (.aload_n 0, 1) := by decide +kernel
theorem dX5_nextNumber_21 : decode cX5_nextNumber 21 = .ok (.getfield 57, 3) := by decide +kernel
theorem dX5_nextNumber_24 : decode cX5_nextNumber 24 = .ok (.baload, 1) := by decide +kernel
theorem dX5_nextNumber_25 : decode cX5_nextNumber 25 = .ok (.invokestatic 88, 3) := by decide +kernel
theorem dX5_nextNumber_28 : decode cX5_nextNumber 28 = .ok (.ifCond .eq 43, 3) := by decide +kernel
theorem dX5_nextNumber_31 : decode cX5_nextNumber 31 = .ok (.aload_n 0, 1) := by decide +kernel
theorem dX5_nextNumber_32 : decode cX5_nextNumber 32 = .ok (.aload_n 0, 1) := by decide +kernel
theorem dX5_nextNumber_33 : decode cX5_nextNumber 33 = .ok (.getfield 102, 3) := by decide +kernel
theorem dX5_nextNumber_36 : decode cX5_nextNumber 36 = .ok (.ldc2_w 115, 3) := by decide +kernel
theorem dX5_nextNumber_39 : decode cX5_nextNumber 39 = .ok (.lmul, 1) := by decide +kernel
theorem dX5_nextNumber_40 : decode cX5_nextNumber 40 = .ok (.aload_n 0, 1) := by decide +kernel
theorem dX5_nextNumber_41 : decode cX5_nextNumber 41 = .ok (.getfield 9, 3) := by decide +kernel
theorem dX5_nextNumber_44 : decode cX5_nextNumber 44 = .ok (.aload_n 0, 1) := by decide +kernel
theorem dX5_nextNumber_45 : decode cX5_nextNumber 45 = .ok (.getfield 57, 3) := by decide +kernel
theorem dX5_nextNumber_48 : decode cX5_nextNumber 48 = .ok (.baload, 1) := by decide +kernel
theorem dX5_nextNumber_49 : decode cX5_nextNumber 49 = .ok (.i2l, 1) := by decide +kernel
theorem dX5_nextNumber_50 : decode cX5_nextNumber 50 = .ok (.ladd, 1) := by decide +kernel
theorem dX5_nextNumber_51 : decode cX5_nextNumber 51 = .ok (.ldc2_w 117, 3) := by decide +kernel
theorem dX5_nextNumber_54 : decode cX5_nextNumber 54 = .ok (.lsub, 1) := by decide +kernel
theorem dX5_nextNumber_55 : decode cX5_nextNumber 55 = .ok (.putfield 102, 3) := by decide +kernel
theorem dX5_nextNumber_58 : decode cX5_nextNumber 58 = .ok (.aload_n 0, 1) := by decide +kernel
theorem dX5_nextNumber_59 : decode cX5_nextNumber 59 = .ok (.dup, 1) := by decide +kernel
theorem dX5_nextNumber_60 : decode cX5_nextNumber 60 = .ok (.getfield 57, 3) := by decide +kernel
theorem dX5_nextNumber_63 : decode cX5_nextNumber 63 = .ok (.iconst 1, 1) := by decide +kernel
theorem dX5_nextNumber_64 : decode cX5_nextNumber 64 = .ok (.iadd, 1) := by decide +kernel
theorem dX5_nextNumber_65 : decode cX5_nextNumber 65 = .ok (.putfield 57, 3) := by decide +kernel
theorem dX5_nextNumber_68 : decode cX5_nextNumber 68 = .ok (.goto (-63), 3) := by decide +kernel
theorem dX5_nextNumber_71 : decode cX5_nextNumber 71 = .ok (.aload_n 0, 1) := by decide +kernel
theorem dX5_nextNumber_72 : decode cX5_nextNumber 72 = .ok (.aload_n 0, 1) := by decide +kernel
theorem dX5_nextNumber_73 : decode cX5_nextNumber 73 = .ok (.getfield 57, 3) := by decide +kernel
theorem dX5_nextNumber_76 : decode cX5_nextNumber 76 = .ok (.aload_n 0, 1) := by decide +kernel
theorem dX5_nextNumber_77 : decode cX5_nextNumber 77 = .ok (.getfield 78, 3) := by decide +kernel
theorem dX5_nextNumber_80 : decode cX5_nextNumber 80 = .ok (.isub, 1) := by decide +kernel
theorem dX5_nextNumber_81 : decode cX5_nextNumber 81 = .ok (.iconst 5, 1) := by decide +kernel
theorem dX5_nextNumber_82 : decode cX5_nextNumber 82 = .ok (.if_icmp .le 8, 3) := by decide +kernel
theorem dX5_nextNumber_85 : decode cX5_nextNumber 85 = .ok (.bipush 16, 2) := by decide +kernel
theorem dX5_nextNumber_87 : decode cX5_nextNumber 87 = .ok (.goto 5, 3) := by decide +kernel
theorem dX5_nextNumber_90 : decode cX5_nextNumber 90 = .ok (.bipush 14, 2) := by decide +kernel
theorem dX5_nextNumber_92 : decode cX5_nextNumber 92 = .ok (.putfield 75, 3) := by decide +kernel
theorem dX5_nextNumber_95 : decode cX5_nextNumber 95 = .ok (.return_, 1) := by decide +kernel
noncomputable def B_X5_nextNumber_0 : pb_C := (i_aload 0 (i_const (.long 0) (i_putL 21 6 (i_jmp 5 [true]))))
noncomputable def B_X5_nextNumber_5 : pb_C := (i_aload 0 (i_getI 21 5 (i_aload 0 (i_getI 21 2 (i_ic_ge (i_jmp 71 [true]) (i_aload 0 (i_getR 21 22 (i_aload 0 (i_getI 21 5 (i_ald 22 600 (i_callS 1 1 M_X5_isDigit (i_if_eq (i_jmp 71 [true]) (i_aload 0 (i_aload 0 (i_getL 21 6 (i_const (.long (10)) (i_lbin (· * ·) (i_aload 0 (i_getR 21 22 (i_aload 0 (i_getI 21 5 (i_ald 22 600 (i_i2l (i_lbin (· + ·) (i_const (.long (48)) (i_lbin (· - ·) (i_putL 21 6 (i_aload 0 (i_dupR (i_getI 21 5 (i_const (.int 1) (i_ibin (· + ·) (i_putI 21 5 (i_jmp 5 [true]))))))))))))))))))))))))))))))))))
noncomputable def B_X5_nextNumber_71 : pb_C := (i_aload 0 (i_aload 0 (i_getI 21 5 (i_aload 0 (i_getI 21 4 (i_ibin (· - ·) (i_const (.int 5) (i_ic_le (i_const (.int 14) (i_putI 21 3 i_vret)) (i_const (.int 16) (i_putI 21 3 i_vret))))))))))
noncomputable def T_X5_nextNumber : Nat → pb_C := pb_tt [(0, B_X5_nextNumber_0), (5, B_X5_nextNumber_5), (71, B_X5_nextNumber_71)]
noncomputable def M_X5_nextNumber : pb_F := pb_M T_X5_nextNumber 1
set_option maxRecDepth 100000 in
set_option maxHeartbeats 4000000 in
theorem S_X5_nextNumber (l : Launch) : pb_Sound l yX5_nextNumber cX5_nextNumber 1 none 2 M_X5_nextNumber := by
  refine pb_sound_of (by decide) m_3_238 ?_
  intro Γ hl0 hRm0 hm X E hr J
  have hnL : ∀ j, j < 1 → j < Γ.2.2.2.2.2.2.2.2.2.2.2.1 := fun j h => by rw [hm]; exact h
  have hR : ∀ (d' mL : Nat), d' + 1 ≤ 2 ∧ 8 + (mL + 11) + d' * 64 ≤ 2 * 64 → (pb_rm d').frames + 1 ≤ Γ.2.2.2.1.frames ∧ 8 + (mL + 11) + (pb_rm d').locals ≤ Γ.2.2.2.1.locals := by rw [hRm0]; exact fun _ _ h => h
  have hRm : 1 ≤ 2 ∧ 64 ≤ 2 * 64 → 1 ≤ Γ.2.2.2.1.frames ∧ 64 ≤ Γ.2.2.2.1.locals := by rw [hRm0]; exact fun h => h
  exact pb_tt_snd _ (List.forall_mem_cons.mpr ⟨(s_aload_n (pc := 0) X dX5_nextNumber_0 rfl (s_lconst (pc := 1) X dX5_nextNumber_1 rfl (s_putL (pc := 2) X dX5_nextNumber_2 p_X5_102 (s_jmp (pc := 5) J [true])))), List.forall_mem_cons.mpr ⟨(s_aload_n (pc := 5) X dX5_nextNumber_5 rfl (s_getI (pc := 6) X dX5_nextNumber_6 g_X5_57 (s_aload_n (pc := 9) X dX5_nextNumber_9 rfl (s_getI (pc := 10) X dX5_nextNumber_10 g_X5_54 (s_ic_ge (pc := 13) X dX5_nextNumber_13 (by decide) (s_jmp (pc := 71) J [true]) (s_aload_n (pc := 16) X dX5_nextNumber_16 rfl (s_getR (pc := 17) X dX5_nextNumber_17 g_X5_9 (s_aload_n (pc := 20) X dX5_nextNumber_20 rfl (s_getI (pc := 21) X dX5_nextNumber_21 g_X5_57 (s_bald (pc := 24) X dX5_nextNumber_24 h_22 (s_callS (pc := 25) X dX5_nextNumber_25 (S_X5_isDigit _) q_X5_88 (hR _ _ (by decide)) (s_if_eq (pc := 28) X dX5_nextNumber_28 (by decide) (s_jmp (pc := 71) J [true]) (s_aload_n (pc := 31) X dX5_nextNumber_31 rfl (s_aload_n (pc := 32) X dX5_nextNumber_32 rfl (s_getL (pc := 33) X dX5_nextNumber_33 g_X5_102 (s_ldc2 (pc := 36) X dX5_nextNumber_36 m_3_239 (s_lmul (pc := 39) X dX5_nextNumber_39 (s_aload_n (pc := 40) X dX5_nextNumber_40 rfl (s_getR (pc := 41) X dX5_nextNumber_41 g_X5_9 (s_aload_n (pc := 44) X dX5_nextNumber_44 rfl (s_getI (pc := 45) X dX5_nextNumber_45 g_X5_57 (s_bald (pc := 48) X dX5_nextNumber_48 h_22 (s_i2l (pc := 49) X dX5_nextNumber_49 (s_ladd (pc := 50) X dX5_nextNumber_50 (s_ldc2 (pc := 51) X dX5_nextNumber_51 m_4_0 (s_lsub (pc := 54) X dX5_nextNumber_54 (s_putL (pc := 55) X dX5_nextNumber_55 p_X5_102 (s_aload_n (pc := 58) X dX5_nextNumber_58 rfl (s_dupR (pc := 59) X dX5_nextNumber_59 (s_getI (pc := 60) X dX5_nextNumber_60 g_X5_57 (s_iconst (pc := 63) X dX5_nextNumber_63 rfl (s_iadd (pc := 64) X dX5_nextNumber_64 (s_putI (pc := 65) X dX5_nextNumber_65 p_X5_57 (s_goto (pc := 68) X dX5_nextNumber_68 (by decide) (s_jmp (pc := 5) J [true]))))))))))))))))))))))))))))))))))), List.forall_mem_cons.mpr ⟨(s_aload_n (pc := 71) X dX5_nextNumber_71 rfl (s_aload_n (pc := 72) X dX5_nextNumber_72 rfl (s_getI (pc := 73) X dX5_nextNumber_73 g_X5_57 (s_aload_n (pc := 76) X dX5_nextNumber_76 rfl (s_getI (pc := 77) X dX5_nextNumber_77 g_X5_78 (s_isub (pc := 80) X dX5_nextNumber_80 (s_iconst (pc := 81) X dX5_nextNumber_81 rfl (s_ic_le (pc := 82) X dX5_nextNumber_82 (by decide) (s_bipush (pc := 90) X dX5_nextNumber_90 rfl (s_putI (pc := 92) X dX5_nextNumber_92 p_X5_75 (s_vret (pc := 95) X E hr dX5_nextNumber_95))) (s_bipush (pc := 85) X dX5_nextNumber_85 rfl (s_goto (pc := 87) X dX5_nextNumber_87 (by decide) (s_putI (pc := 92) X dX5_nextNumber_92 p_X5_75 (s_vret (pc := 95) X E hr dX5_nextNumber_95)))))))))))), fun _ h => absurd h List.not_mem_nil⟩⟩⟩)
theorem dJ0_isLatin1_aae02_0 : decode cJ0_isLatin1_aae02 0 = .ok (.getstatic 38, 3) := by decide +kernel
theorem dJ0_isLatin1_aae02_3 : decode cJ0_isLatin1_aae02 3 = .ok (.ifCond .eq 14, 3) := by decide +kernel
theorem dJ0_isLatin1_aae02_6 : decode cJ0_isLatin1_aae02 6 = .ok (.aload_n 0, 1) := by decide +kernel
theorem dJ0_isLatin1_aae02_7 : decode cJ0_isLatin1_aae02 7 = .ok (.getfield 15, 3) := by decide +kernel
theorem dJ0_isLatin1_aae02_10 : decode cJ0_isLatin1_aae02 10 = .ok (.ifCond .ne 7, 3) := by decide +kernel
theorem dJ0_isLatin1_aae02_13 : decode cJ0_isLatin1_aae02 13 = .ok (.iconst 1, 1) := by decide +kernel
theorem dJ0_isLatin1_aae02_14 : decode cJ0_isLatin1_aae02 14 = .ok (.goto 4, 3) := by decide +kernel
theorem dJ0_isLatin1_aae02_17 : decode cJ0_isLatin1_aae02 17 = .ok (.iconst 0, 1) := by decide +kernel
theorem dJ0_isLatin1_aae02_18 : decode cJ0_isLatin1_aae02 18 = .ok (.ireturn, 1) := by decide +kernel
noncomputable def B_J0_isLatin1_aae02_300_0 : pb_C := (i_const (.int 1) (i_if_eq (i_const (.int 0) i_zret) (i_aload 0 (i_getC 300 (.int 0) (i_if_ne (i_const (.int 0) i_zret) (i_const (.int 1) i_zret))))))
noncomputable def T_J0_isLatin1_aae02_300 : Nat → pb_C := pb_tt [(0, B_J0_isLatin1_aae02_300_0)]
noncomputable def M_J0_isLatin1_aae02_300 : pb_F := pb_M T_J0_isLatin1_aae02_300 1
set_option maxRecDepth 100000 in
set_option maxHeartbeats 4000000 in
theorem S_J0_isLatin1_aae02_300 (l : Launch) : pb_Sound l yJ0_isLatin1_aae02 cJ0_isLatin1_aae02 1 (some .boolean) 1 M_J0_isLatin1_aae02_300 := by
  refine pb_sound_of (by decide) m_4_13 ?_
  intro Γ hl0 hRm0 hm X E hr J
  have hnL : ∀ j, j < 1 → j < Γ.2.2.2.2.2.2.2.2.2.2.2.1 := fun j h => by rw [hm]; exact h
  have hR : ∀ (d' mL : Nat), d' + 1 ≤ 1 ∧ 8 + (mL + 11) + d' * 64 ≤ 1 * 64 → (pb_rm d').frames + 1 ≤ Γ.2.2.2.1.frames ∧ 8 + (mL + 11) + (pb_rm d').locals ≤ Γ.2.2.2.1.locals := by rw [hRm0]; exact fun _ _ h => h
  have hRm : 1 ≤ 1 ∧ 64 ≤ 1 * 64 → 1 ≤ Γ.2.2.2.1.frames ∧ 64 ≤ Γ.2.2.2.1.locals := by rw [hRm0]; exact fun h => h
  exact pb_tt_snd _ (List.forall_mem_cons.mpr ⟨(s_gets (pc := 0) X dJ0_isLatin1_aae02_0 (v := (.int 1)) m_4_14 (fun ad A U H h => h.2.2.2.2.1) (s_if_eq (pc := 3) X dJ0_isLatin1_aae02_3 (by decide) (s_iconst (pc := 17) X dJ0_isLatin1_aae02_17 rfl (s_zret (pc := 18) X E hr dJ0_isLatin1_aae02_18)) (s_aload_n (pc := 6) X dJ0_isLatin1_aae02_6 rfl (s_getC (pc := 7) X dJ0_isLatin1_aae02_7 (o := 300) (v := .int 0) m_9_166 (fun ad A U H h => (h.1.1 0 (by decide)).2.1) (s_if_ne (pc := 10) X dJ0_isLatin1_aae02_10 (by decide) (s_iconst (pc := 17) X dJ0_isLatin1_aae02_17 rfl (s_zret (pc := 18) X E hr dJ0_isLatin1_aae02_18)) (s_iconst (pc := 13) X dJ0_isLatin1_aae02_13 rfl (s_goto (pc := 14) X dJ0_isLatin1_aae02_14 (by decide) (s_zret (pc := 18) X E hr dJ0_isLatin1_aae02_18)))))))), fun _ h => absurd h List.not_mem_nil⟩)
theorem dJ0_coder_7d493_0 : decode cJ0_coder_7d493 0 = .ok (.getstatic 38, 3) := by decide +kernel
theorem dJ0_coder_7d493_3 : decode cJ0_coder_7d493 3 = .ok (.ifCond .eq 10, 3) := by decide +kernel
theorem dJ0_coder_7d493_6 : decode cJ0_coder_7d493 6 = .ok (.aload_n 0, 1) := by decide +kernel
theorem dJ0_coder_7d493_7 : decode cJ0_coder_7d493 7 = .ok (.getfield 15, 3) := by decide +kernel
theorem dJ0_coder_7d493_10 : decode cJ0_coder_7d493 10 = .ok (.goto 4, 3) := by decide +kernel
theorem dJ0_coder_7d493_13 : decode cJ0_coder_7d493 13 = .ok (.iconst 1, 1) := by decide +kernel
theorem dJ0_coder_7d493_14 : decode cJ0_coder_7d493 14 = .ok (.ireturn, 1) := by decide +kernel
noncomputable def B_J0_coder_7d493_300_0 : pb_C := (i_const (.int 1) (i_if_eq (i_const (.int 1) (i_nret (fun x => x.toInt8.toInt32))) (i_aload 0 (i_getC 300 (.int 0) (i_nret (fun x => x.toInt8.toInt32))))))
noncomputable def T_J0_coder_7d493_300 : Nat → pb_C := pb_tt [(0, B_J0_coder_7d493_300_0)]
noncomputable def M_J0_coder_7d493_300 : pb_F := pb_M T_J0_coder_7d493_300 1
set_option maxRecDepth 100000 in
set_option maxHeartbeats 4000000 in
theorem S_J0_coder_7d493_300 (l : Launch) : pb_Sound l yJ0_coder_7d493 cJ0_coder_7d493 1 (some .byte) 1 M_J0_coder_7d493_300 := by
  refine pb_sound_of (by decide) m_4_23 ?_
  intro Γ hl0 hRm0 hm X E hr J
  have hnL : ∀ j, j < 1 → j < Γ.2.2.2.2.2.2.2.2.2.2.2.1 := fun j h => by rw [hm]; exact h
  have hR : ∀ (d' mL : Nat), d' + 1 ≤ 1 ∧ 8 + (mL + 11) + d' * 64 ≤ 1 * 64 → (pb_rm d').frames + 1 ≤ Γ.2.2.2.1.frames ∧ 8 + (mL + 11) + (pb_rm d').locals ≤ Γ.2.2.2.1.locals := by rw [hRm0]; exact fun _ _ h => h
  have hRm : 1 ≤ 1 ∧ 64 ≤ 1 * 64 → 1 ≤ Γ.2.2.2.1.frames ∧ 64 ≤ Γ.2.2.2.1.locals := by rw [hRm0]; exact fun h => h
  exact pb_tt_snd _ (List.forall_mem_cons.mpr ⟨(s_gets (pc := 0) X dJ0_coder_7d493_0 (v := (.int 1)) m_4_14 (fun ad A U H h => h.2.2.2.2.1) (s_if_eq (pc := 3) X dJ0_coder_7d493_3 (by decide) (s_iconst (pc := 13) X dJ0_coder_7d493_13 rfl (s_bret (pc := 14) X E hr dJ0_coder_7d493_14)) (s_aload_n (pc := 6) X dJ0_coder_7d493_6 rfl (s_getC (pc := 7) X dJ0_coder_7d493_7 (o := 300) (v := .int 0) m_9_166 (fun ad A U H h => (h.1.1 0 (by decide)).2.1) (s_goto (pc := 10) X dJ0_coder_7d493_10 (by decide) (s_bret (pc := 14) X E hr dJ0_coder_7d493_14)))))), fun _ h => absurd h List.not_mem_nil⟩)
theorem dJ0_length_8abf5_0 : decode cJ0_length_8abf5 0 = .ok (.aload_n 0, 1) := by decide +kernel
theorem dJ0_length_8abf5_1 : decode cJ0_length_8abf5 1 = .ok (.getfield 9, 3) := by decide +kernel
theorem dJ0_length_8abf5_4 : decode cJ0_length_8abf5 4 = .ok (.arraylength, 1) := by decide +kernel
theorem dJ0_length_8abf5_5 : decode cJ0_length_8abf5 5 = .ok (.aload_n 0, 1) := by decide +kernel
theorem dJ0_length_8abf5_6 : decode cJ0_length_8abf5 6 = .ok (.invokevirtual 335, 3) := by decide +kernel
theorem dJ0_length_8abf5_9 : decode cJ0_length_8abf5 9 = .ok (.ishr, 1) := by decide +kernel
theorem dJ0_length_8abf5_10 : decode cJ0_length_8abf5 10 = .ok (.ireturn, 1) := by decide +kernel
noncomputable def B_J0_length_8abf5_300_0 : pb_C := (i_aload 0 (i_getC 300 (.ref 310) (i_alen 310 10 (i_aload 0 (i_callV (300 + 0) 0 1 M_J0_coder_7d493_300 (i_ibin (fun x y => x >>> (y &&& 31)) i_iret))))))
noncomputable def T_J0_length_8abf5_300 : Nat → pb_C := pb_tt [(0, B_J0_length_8abf5_300_0)]
noncomputable def M_J0_length_8abf5_300 : pb_F := pb_M T_J0_length_8abf5_300 1
set_option maxRecDepth 100000 in
set_option maxHeartbeats 4000000 in
theorem S_J0_length_8abf5_300 (l : Launch) : pb_Sound l yJ0_length_8abf5 cJ0_length_8abf5 1 (some .int) 2 M_J0_length_8abf5_300 := by
  refine pb_sound_of (by decide) m_4_19 ?_
  intro Γ hl0 hRm0 hm X E hr J
  have hnL : ∀ j, j < 1 → j < Γ.2.2.2.2.2.2.2.2.2.2.2.1 := fun j h => by rw [hm]; exact h
  have hR : ∀ (d' mL : Nat), d' + 1 ≤ 2 ∧ 8 + (mL + 11) + d' * 64 ≤ 2 * 64 → (pb_rm d').frames + 1 ≤ Γ.2.2.2.1.frames ∧ 8 + (mL + 11) + (pb_rm d').locals ≤ Γ.2.2.2.1.locals := by rw [hRm0]; exact fun _ _ h => h
  have hRm : 1 ≤ 2 ∧ 64 ≤ 2 * 64 → 1 ≤ Γ.2.2.2.1.frames ∧ 64 ≤ Γ.2.2.2.1.locals := by rw [hRm0]; exact fun h => h
  exact pb_tt_snd _ (List.forall_mem_cons.mpr ⟨(s_aload_n (pc := 0) X dJ0_length_8abf5_0 rfl (s_getC (pc := 1) X dJ0_length_8abf5_1 (o := 300) (v := .ref 310) m_9_167 (fun ad A U H h => (h.1.1 0 (by decide)).2.2.1) (s_calen (pc := 4) X dJ0_length_8abf5_4 (o := 310) (n := 10) (fun ad A U H h => (h.1.1 0 (by decide)).2.2.2) (s_aload_n (pc := 5) X dJ0_length_8abf5_5 rfl (s_callT (pc := 6) X dJ0_length_8abf5_6 (i := 0) (S_J0_coder_7d493_300 _) q_J0_335 (by decide) rfl (hR _ _ (by decide)) (s_ishr (pc := 9) X dJ0_length_8abf5_9 (s_iret (pc := 10) X E hr dJ0_length_8abf5_10))))))), fun _ h => absurd h List.not_mem_nil⟩)
theorem dJ1_canEncode_9a6ad_0 : decode cJ1_canEncode_9a6ad 0 = .ok (.iload_n 0, 1) := by decide +kernel
theorem dJ1_canEncode_9a6ad_1 : decode cJ1_canEncode_9a6ad 1 = .ok (.ifCond .lt 14, 3) := by decide +kernel
theorem dJ1_canEncode_9a6ad_4 : decode cJ1_canEncode_9a6ad 4 = .ok (.iload_n 0, 1) := by decide +kernel
theorem dJ1_canEncode_9a6ad_5 : decode cJ1_canEncode_9a6ad 5 = .ok (.sipush 255, 3) := by decide +kernel
theorem dJ1_canEncode_9a6ad_8 : decode cJ1_canEncode_9a6ad 8 = .ok (.if_icmp .gt 7, 3) := by decide +kernel
theorem dJ1_canEncode_9a6ad_11 : decode cJ1_canEncode_9a6ad 11 = .ok (.iconst 1, 1) := by decide +kernel
theorem dJ1_canEncode_9a6ad_12 : decode cJ1_canEncode_9a6ad 12 = .ok (.goto 4, 3) := by decide +kernel
theorem dJ1_canEncode_9a6ad_15 : decode cJ1_canEncode_9a6ad 15 = .ok (.iconst 0, 1) := by decide +kernel
theorem dJ1_canEncode_9a6ad_16 : decode cJ1_canEncode_9a6ad 16 = .ok (.ireturn, 1) := by decide +kernel
noncomputable def B_J1_canEncode_9a6ad_0 : pb_C := (i_iload 0 (i_if_lt (i_const (.int 0) i_zret) (i_iload 0 (i_const (.int 255) (i_ic_gt (i_const (.int 0) i_zret) (i_const (.int 1) i_zret))))))
noncomputable def T_J1_canEncode_9a6ad : Nat → pb_C := pb_tt [(0, B_J1_canEncode_9a6ad_0)]
noncomputable def M_J1_canEncode_9a6ad : pb_F := pb_M T_J1_canEncode_9a6ad 1
set_option maxRecDepth 100000 in
set_option maxHeartbeats 4000000 in
theorem S_J1_canEncode_9a6ad (l : Launch) : pb_Sound l yJ1_canEncode_9a6ad cJ1_canEncode_9a6ad 1 (some .boolean) 1 M_J1_canEncode_9a6ad := by
  refine pb_sound_of (by decide) m_4_29 ?_
  intro Γ hl0 hRm0 hm X E hr J
  have hnL : ∀ j, j < 1 → j < Γ.2.2.2.2.2.2.2.2.2.2.2.1 := fun j h => by rw [hm]; exact h
  have hR : ∀ (d' mL : Nat), d' + 1 ≤ 1 ∧ 8 + (mL + 11) + d' * 64 ≤ 1 * 64 → (pb_rm d').frames + 1 ≤ Γ.2.2.2.1.frames ∧ 8 + (mL + 11) + (pb_rm d').locals ≤ Γ.2.2.2.1.locals := by rw [hRm0]; exact fun _ _ h => h
  have hRm : 1 ≤ 1 ∧ 64 ≤ 1 * 64 → 1 ≤ Γ.2.2.2.1.frames ∧ 64 ≤ Γ.2.2.2.1.locals := by rw [hRm0]; exact fun h => h
  exact pb_tt_snd _ (List.forall_mem_cons.mpr ⟨(s_iload_n (pc := 0) X dJ1_canEncode_9a6ad_0 rfl (s_if_lt (pc := 1) X dJ1_canEncode_9a6ad_1 (by decide) (s_iconst (pc := 15) X dJ1_canEncode_9a6ad_15 rfl (s_zret (pc := 16) X E hr dJ1_canEncode_9a6ad_16)) (s_iload_n (pc := 4) X dJ1_canEncode_9a6ad_4 rfl (s_sipush (pc := 5) X dJ1_canEncode_9a6ad_5 rfl (s_ic_gt (pc := 8) X dJ1_canEncode_9a6ad_8 (by decide) (s_iconst (pc := 15) X dJ1_canEncode_9a6ad_15 rfl (s_zret (pc := 16) X E hr dJ1_canEncode_9a6ad_16)) (s_iconst (pc := 11) X dJ1_canEncode_9a6ad_11 rfl (s_goto (pc := 12) X dJ1_canEncode_9a6ad_12 (by decide) (s_zret (pc := 16) X E hr dJ1_canEncode_9a6ad_16)))))))), fun _ h => absurd h List.not_mem_nil⟩)
theorem dJ1_indexOfChar_4cfef_0 : decode cJ1_indexOfChar_4cfef 0 = .ok (.iload_n 1, 1) := by decide +kernel
theorem dJ1_indexOfChar_4cfef_1 : decode cJ1_indexOfChar_4cfef 1 = .ok (.i2b, 1) := by decide +kernel
theorem dJ1_indexOfChar_4cfef_2 : decode cJ1_indexOfChar_4cfef 2 = .ok (.istore 4, 2) := by decide +kernel
theorem dJ1_indexOfChar_4cfef_4 : decode cJ1_indexOfChar_4cfef 4 = .ok (.iload_n 2, 1) := by decide +kernel
theorem dJ1_indexOfChar_4cfef_5 : decode cJ1_indexOfChar_4cfef 5 = .ok (.istore 5, 2) := by decide +kernel
theorem dJ1_indexOfChar_4cfef_7 : decode cJ1_indexOfChar_4cfef 7 = .ok (.iload 5, 2) := by decide +kernel
theorem dJ1_indexOfChar_4cfef_9 : decode cJ1_indexOfChar_4cfef 9 = .ok (.iload_n 3, 1) := by decide +kernel
theorem dJ1_indexOfChar_4cfef_10 : decode cJ1_indexOfChar_4cfef 10 = .ok (.if_icmp .ge 21, 3) := by decide +kernel
theorem dJ1_indexOfChar_4cfef_13 : decode cJ1_indexOfChar_4cfef 13 = .ok (.aload_n 0, 1) := by decide +kernel
theorem dJ1_indexOfChar_4cfef_14 : decode cJ1_indexOfChar_4cfef 14 = .ok (.iload 5, 2) := by decide +kernel
theorem dJ1_indexOfChar_4cfef_16 : decode cJ1_indexOfChar_4cfef 16 = .ok (.baload, 1) := by decide +kernel
theorem dJ1_indexOfChar_4cfef_17 : decode cJ1_indexOfChar_4cfef 17 = .ok (.iload 4, 2) := by decide +kernel
theorem dJ1_indexOfChar_4cfef_19 : decode cJ1_indexOfChar_4cfef 19 = .ok (.if_icmp .ne 6, 3) := by decide +kernel
theorem dJ1_indexOfChar_4cfef_22 : decode cJ1_indexOfChar_4cfef 22 = .ok (.iload 5, 2) := by decide +kernel
theorem dJ1_indexOfChar_4cfef_24 : decode cJ1_indexOfChar_4cfef 24 = .ok (.ireturn, 1) := by decide +kernel
theorem dJ1_indexOfChar_4cfef_25 : decode cJ1_indexOfChar_4cfef 25 = .ok (.iinc 5 1, 3) := by decide +kernel
theorem dJ1_indexOfChar_4cfef_28 : decode cJ1_indexOfChar_4cfef 28 = .ok (.goto (-21), 3) := by decide +kernel
theorem dJ1_indexOfChar_4cfef_31 : decode cJ1_indexOfChar_4cfef 31 = .ok (.iconst (-1), 1) := by decide +kernel
theorem dJ1_indexOfChar_4cfef_32 : decode cJ1_indexOfChar_4cfef 32 = .ok (.ireturn, 1) := by decide +kernel
noncomputable def B_J1_indexOfChar_4cfef_310_0 : pb_C := (i_iload 1 (i_iun (fun x => x.toInt8.toInt32) (i_istore 4 (i_iload 2 (i_istore 5 (i_jmp 7 [true, false, false, true, true, true]))))))
noncomputable def B_J1_indexOfChar_4cfef_310_7 : pb_C := (i_iload 5 (i_iload 3 (i_ic_ge (i_const (.int (-1)) i_iret) (i_aload 0 (i_iload 5 (i_cald 310 10 (fun j => (pb_strs.getD 0 []).getD j 0) (i_iload 4 (i_ic_ne (i_iinc 5 1 (i_jmp 7 [true, false, false, true, true, true])) (i_iload 5 i_iret)))))))))
noncomputable def T_J1_indexOfChar_4cfef_310 : Nat → pb_C := pb_tt [(0, B_J1_indexOfChar_4cfef_310_0), (7, B_J1_indexOfChar_4cfef_310_7)]
noncomputable def M_J1_indexOfChar_4cfef_310 : pb_F := pb_M T_J1_indexOfChar_4cfef_310 6
set_option maxRecDepth 100000 in
set_option maxHeartbeats 4000000 in
theorem S_J1_indexOfChar_4cfef_310 (l : Launch) : pb_Sound l yJ1_indexOfChar_4cfef cJ1_indexOfChar_4cfef 6 (some .int) 1 M_J1_indexOfChar_4cfef_310 := by
  refine pb_sound_of (by decide) m_4_36 ?_
  intro Γ hl0 hRm0 hm X E hr J
  have hnL : ∀ j, j < 6 → j < Γ.2.2.2.2.2.2.2.2.2.2.2.1 := fun j h => by rw [hm]; exact h
  have hR : ∀ (d' mL : Nat), d' + 1 ≤ 1 ∧ 8 + (mL + 11) + d' * 64 ≤ 1 * 64 → (pb_rm d').frames + 1 ≤ Γ.2.2.2.1.frames ∧ 8 + (mL + 11) + (pb_rm d').locals ≤ Γ.2.2.2.1.locals := by rw [hRm0]; exact fun _ _ h => h
  have hRm : 1 ≤ 1 ∧ 64 ≤ 1 * 64 → 1 ≤ Γ.2.2.2.1.frames ∧ 64 ≤ Γ.2.2.2.1.locals := by rw [hRm0]; exact fun h => h
  exact pb_tt_snd _ (List.forall_mem_cons.mpr ⟨(s_iload_n (pc := 0) X dJ1_indexOfChar_4cfef_0 rfl (s_i2b (pc := 1) X dJ1_indexOfChar_4cfef_1 (s_istore (pc := 2) X dJ1_indexOfChar_4cfef_2 (hnL _ (by decide)) (s_iload_n (pc := 4) X dJ1_indexOfChar_4cfef_4 rfl (s_istore (pc := 5) X dJ1_indexOfChar_4cfef_5 (hnL _ (by decide)) (s_jmp (pc := 7) J [true, false, false, true, true, true])))))), List.forall_mem_cons.mpr ⟨(s_iload (pc := 7) X dJ1_indexOfChar_4cfef_7 (s_iload_n (pc := 9) X dJ1_indexOfChar_4cfef_9 rfl (s_ic_ge (pc := 10) X dJ1_indexOfChar_4cfef_10 (by decide) (s_iconst (pc := 31) X dJ1_indexOfChar_4cfef_31 rfl (s_iret (pc := 32) X E hr dJ1_indexOfChar_4cfef_32)) (s_aload_n (pc := 13) X dJ1_indexOfChar_4cfef_13 rfl (s_iload (pc := 14) X dJ1_indexOfChar_4cfef_14 (s_cald (pc := 16) X dJ1_indexOfChar_4cfef_16 (o := 310) (n := 10) (f := fun j => (pb_strs.getD 0 []).getD j 0) (fun ad A U H h => (h.1.1 0 (by decide)).2.2.2) (s_iload (pc := 17) X dJ1_indexOfChar_4cfef_17 (s_ic_ne (pc := 19) X dJ1_indexOfChar_4cfef_19 (by decide) (s_iinc (pc := 25) X dJ1_indexOfChar_4cfef_25 rfl (s_goto (pc := 28) X dJ1_indexOfChar_4cfef_28 (by decide) (s_jmp (pc := 7) J [true, false, false, true, true, true]))) (s_iload (pc := 22) X dJ1_indexOfChar_4cfef_22 (s_iret (pc := 24) X E hr dJ1_indexOfChar_4cfef_24)))))))))), fun _ h => absurd h List.not_mem_nil⟩⟩)
theorem dJ1_indexOf_4cfef_0 : decode cJ1_indexOf_4cfef 0 = .ok (.iload_n 1, 1) := by decide +kernel
theorem dJ1_indexOf_4cfef_1 : decode cJ1_indexOf_4cfef 1 = .ok (.invokestatic 88, 3) := by decide +kernel
theorem dJ1_indexOf_4cfef_4 : decode cJ1_indexOf_4cfef 4 = .ok (.ifCond .ne 5, 3) := by decide +kernel
theorem dJ1_indexOf_4cfef_7 : decode cJ1_indexOf_4cfef 7 = .ok (.iconst (-1), 1) := by decide +kernel
theorem dJ1_indexOf_4cfef_8 : decode cJ1_indexOf_4cfef 8 = .ok (.ireturn, 1) := by decide +kernel
theorem dJ1_indexOf_4cfef_9 : decode cJ1_indexOf_4cfef 9 = .ok (.iload_n 2, 1) := by decide +kernel
theorem dJ1_indexOf_4cfef_10 : decode cJ1_indexOf_4cfef 10 = .ok (.iconst 0, 1) := by decide +kernel
theorem dJ1_indexOf_4cfef_11 : decode cJ1_indexOf_4cfef 11 = .ok (.invokestatic 92, 3) := by decide +kernel
theorem dJ1_indexOf_4cfef_14 : decode cJ1_indexOf_4cfef 14 = .ok (.istore_n 2, 1) := by decide +kernel
theorem dJ1_indexOf_4cfef_15 : decode cJ1_indexOf_4cfef 15 = .ok (.iload_n 3, 1) := by decide +kernel
theorem dJ1_indexOf_4cfef_16 : decode cJ1_indexOf_4cfef 16 = .ok (.aload_n 0, 1) := by decide +kernel
theorem dJ1_indexOf_4cfef_17 : decode cJ1_indexOf_4cfef 17 = .ok (.arraylength, 1) := by decide +kernel
theorem dJ1_indexOf_4cfef_18 : decode cJ1_indexOf_4cfef 18 = .ok (.invokestatic 38, 3) := by decide +kernel
theorem dJ1_indexOf_4cfef_21 : decode cJ1_indexOf_4cfef 21 = .ok (.istore_n 3, 1) := by decide +kernel
theorem dJ1_indexOf_4cfef_22 : decode cJ1_indexOf_4cfef 22 = .ok (.iload_n 2, 1) := by decide +kernel
theorem dJ1_indexOf_4cfef_23 : decode cJ1_indexOf_4cfef 23 = .ok (.iload_n 3, 1) := by decide +kernel
theorem dJ1_indexOf_4cfef_24 : decode cJ1_indexOf_4cfef 24 = .ok (.if_icmp .lt 5, 3) := by decide +kernel
theorem dJ1_indexOf_4cfef_27 : decode cJ1_indexOf_4cfef 27 = .ok (.iconst (-1), 1) := by decide +kernel
theorem dJ1_indexOf_4cfef_28 : decode cJ1_indexOf_4cfef 28 = .ok (.ireturn, 1) := by decide +kernel
theorem dJ1_indexOf_4cfef_29 : decode cJ1_indexOf_4cfef 29 = .ok (.aload_n 0, 1) := by decide +kernel
theorem dJ1_indexOf_4cfef_30 : decode cJ1_indexOf_4cfef 30 = .ok (.iload_n 1, 1) := by decide +kernel
theorem dJ1_indexOf_4cfef_31 : decode cJ1_indexOf_4cfef 31 = .ok (.iload_n 2, 1) := by decide +kernel
theorem dJ1_indexOf_4cfef_32 : decode cJ1_indexOf_4cfef 32 = .ok (.iload_n 3, 1) := by decide +kernel
theorem dJ1_indexOf_4cfef_33 : decode cJ1_indexOf_4cfef 33 = .ok (.invokestatic 95, 3) := by decide +kernel
theorem dJ1_indexOf_4cfef_36 : decode cJ1_indexOf_4cfef 36 = .ok (.ireturn, 1) := by decide +kernel
noncomputable def B_J1_indexOf_4cfef_310_0 : pb_C := (i_iload 1 (i_callS 1 1 M_J1_canEncode_9a6ad (i_if_ne (i_iload 2 (i_const (.int 0) (i_mI2 pb_max (i_istore 2 (i_iload 3 (i_aload 0 (i_alen 310 10 (i_mI2 pb_min (i_istore 3 (i_iload 2 (i_iload 3 (i_ic_lt (i_aload 0 (i_iload 1 (i_iload 2 (i_iload 3 (i_callS 4 1 M_J1_indexOfChar_4cfef_310 i_iret))))) (i_const (.int (-1)) i_iret))))))))))))) (i_const (.int (-1)) i_iret))))
noncomputable def T_J1_indexOf_4cfef_310 : Nat → pb_C := pb_tt [(0, B_J1_indexOf_4cfef_310_0)]
noncomputable def M_J1_indexOf_4cfef_310 : pb_F := pb_M T_J1_indexOf_4cfef_310 4
set_option maxRecDepth 100000 in
set_option maxHeartbeats 4000000 in
theorem S_J1_indexOf_4cfef_310 (l : Launch) : pb_Sound l yJ1_indexOf_4cfef cJ1_indexOf_4cfef 4 (some .int) 2 M_J1_indexOf_4cfef_310 := by
  refine pb_sound_of (by decide) m_4_26 ?_
  intro Γ hl0 hRm0 hm X E hr J
  have hnL : ∀ j, j < 4 → j < Γ.2.2.2.2.2.2.2.2.2.2.2.1 := fun j h => by rw [hm]; exact h
  have hR : ∀ (d' mL : Nat), d' + 1 ≤ 2 ∧ 8 + (mL + 11) + d' * 64 ≤ 2 * 64 → (pb_rm d').frames + 1 ≤ Γ.2.2.2.1.frames ∧ 8 + (mL + 11) + (pb_rm d').locals ≤ Γ.2.2.2.1.locals := by rw [hRm0]; exact fun _ _ h => h
  have hRm : 1 ≤ 2 ∧ 64 ≤ 2 * 64 → 1 ≤ Γ.2.2.2.1.frames ∧ 64 ≤ Γ.2.2.2.1.locals := by rw [hRm0]; exact fun h => h
  exact pb_tt_snd _ (List.forall_mem_cons.mpr ⟨(s_iload_n (pc := 0) X dJ1_indexOf_4cfef_0 rfl (s_callS (pc := 1) X dJ1_indexOf_4cfef_1 (S_J1_canEncode_9a6ad _) q_J1_88 (hR _ _ (by decide)) (s_if_ne (pc := 4) X dJ1_indexOf_4cfef_4 (by decide) (s_iload_n (pc := 9) X dJ1_indexOf_4cfef_9 rfl (s_iconst (pc := 10) X dJ1_indexOf_4cfef_10 rfl (s_mmax (pc := 11) X dJ1_indexOf_4cfef_11 m_4_30 mm_mmax (hRm (by decide)) (s_istore_n (pc := 14) X dJ1_indexOf_4cfef_14 rfl (hnL _ (by decide)) (s_iload_n (pc := 15) X dJ1_indexOf_4cfef_15 rfl (s_aload_n (pc := 16) X dJ1_indexOf_4cfef_16 rfl (s_calen (pc := 17) X dJ1_indexOf_4cfef_17 (o := 310) (n := 10) (fun ad A U H h => (h.1.1 0 (by decide)).2.2.2) (s_mmin (pc := 18) X dJ1_indexOf_4cfef_18 m_4_33 mm_mmin (hRm (by decide)) (s_istore_n (pc := 21) X dJ1_indexOf_4cfef_21 rfl (hnL _ (by decide)) (s_iload_n (pc := 22) X dJ1_indexOf_4cfef_22 rfl (s_iload_n (pc := 23) X dJ1_indexOf_4cfef_23 rfl (s_ic_lt (pc := 24) X dJ1_indexOf_4cfef_24 (by decide) (s_aload_n (pc := 29) X dJ1_indexOf_4cfef_29 rfl (s_iload_n (pc := 30) X dJ1_indexOf_4cfef_30 rfl (s_iload_n (pc := 31) X dJ1_indexOf_4cfef_31 rfl (s_iload_n (pc := 32) X dJ1_indexOf_4cfef_32 rfl (s_callS (pc := 33) X dJ1_indexOf_4cfef_33 (S_J1_indexOfChar_4cfef_310 _) q_J1_95 (hR _ _ (by decide)) (s_iret (pc := 36) X E hr dJ1_indexOf_4cfef_36)))))) (s_iconst (pc := 27) X dJ1_indexOf_4cfef_27 rfl (s_iret (pc := 28) X E hr dJ1_indexOf_4cfef_28)))))))))))))) (s_iconst (pc := 7) X dJ1_indexOf_4cfef_7 rfl (s_iret (pc := 8) X E hr dJ1_indexOf_4cfef_8))))), fun _ h => absurd h List.not_mem_nil⟩)
