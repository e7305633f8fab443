theorem dX7_waysOf_0 : decode cX7_waysOf 0 = .ok (.aload_n 0, 1) := by decide +kernel
theorem dX7_waysOf_1 : decode cX7_waysOf 1 = .ok (.iload_n 1, 1) := by decide +kernel
theorem dX7_waysOf_2 : decode cX7_waysOf 2 = .ok (.iload_n 2, 1) := by decide +kernel
theorem dX7_waysOf_3 : decode cX7_waysOf 3 = .ok (.invokevirtual 55, 3) := by decide +kernel
theorem dX7_waysOf_6 : decode cX7_waysOf 6 = .ok (.aload_n 0, 1) := by decide +kernel
theorem dX7_waysOf_7 : decode cX7_waysOf 7 = .ok (.aload_n 0, 1) := by decide +kernel
theorem dX7_waysOf_8 : decode cX7_waysOf 8 = .ok (.getfield 32, 3) := by decide +kernel
theorem dX7_waysOf_11 : decode cX7_waysOf 11 = .ok (.getfield 46, 3) := by decide +kernel
theorem dX7_waysOf_14 : decode cX7_waysOf 14 = .ok (.iload_n 1, 1) := by decide +kernel
theorem dX7_waysOf_15 : decode cX7_waysOf 15 = .ok (.iaload, 1) := by decide +kernel
theorem dX7_waysOf_16 : decode cX7_waysOf 16 = .ok (.iconst 0, 1) := by decide +kernel
theorem dX7_waysOf_17 : decode cX7_waysOf 17 = .ok (.invokevirtual 59, 3) := by decide +kernel
theorem dX7_waysOf_20 : decode cX7_waysOf 20 = .ok (.aload_n 0, 1) := by decide +kernel
theorem dX7_waysOf_21 : decode cX7_waysOf 21 = .ok (.getfield 28, 3) := by decide +kernel
theorem dX7_waysOf_24 : decode cX7_waysOf 24 = .ok (.aload_n 0, 1) := by decide +kernel
theorem dX7_waysOf_25 : decode cX7_waysOf 25 = .ok (.getfield 32, 3) := by decide +kernel
theorem dX7_waysOf_28 : decode cX7_waysOf 28 = .ok (.getfield 46, 3) := by decide +kernel
theorem dX7_waysOf_31 : decode cX7_waysOf 31 = .ok (.iload_n 1, 1) := by decide +kernel
theorem dX7_waysOf_32 : decode cX7_waysOf 32 = .ok (.iaload, 1) := by decide +kernel
theorem dX7_waysOf_33 : decode cX7_waysOf 33 = .ok (.laload, 1) := by decide +kernel
theorem dX7_waysOf_34 : decode cX7_waysOf 34 = .ok (.lreturn, 1) := by decide +kernel
noncomputable def B_X7_waysOf_0 : pb_C := (i_aload 0 (i_iload 1 (i_iload 2 (i_callV 39 2 0 M_X7_gatherThings (i_aload 0 (i_aload 0 (i_getR 39 5 (i_getR 5 16 (i_iload 1 (i_ald 16 200 (i_const (.int 0) (i_callV 39 2 0 M_X7_countWays (i_aload 0 (i_getR 39 44 (i_aload 0 (i_getR 39 5 (i_getR 5 16 (i_iload 1 (i_ald 16 200 (i_lald 44 2001 i_lret))))))))))))))))))))
noncomputable def T_X7_waysOf : Nat → pb_C := pb_tt [(0, B_X7_waysOf_0)]
noncomputable def M_X7_waysOf : pb_F := pb_M T_X7_waysOf 3
set_option maxRecDepth 100000 in
set_option maxHeartbeats 4000000 in
theorem S_X7_waysOf (l : Launch) : pb_Sound l yX7_waysOf cX7_waysOf 3 (some .long) 4 M_X7_waysOf := by
  refine pb_sound_of (by decide) m_5_138 ?_
  intro Γ hl0 hRm0 hm X E hr J
  have hnL : ∀ j, j < 3 → j < Γ.2.2.2.2.2.2.2.2.2.2.2.1 := fun j h => by rw [hm]; exact h
  have hR : ∀ (d' mL : Nat), d' + 1 ≤ 4 ∧ 8 + (mL + 11) + d' * 64 ≤ 4 * 64 → (pb_rm d').frames + 1 ≤ Γ.2.2.2.1.frames ∧ 8 + (mL + 11) + (pb_rm d').locals ≤ Γ.2.2.2.1.locals := by rw [hRm0]; exact fun _ _ h => h
  have hRm : 1 ≤ 4 ∧ 64 ≤ 4 * 64 → 1 ≤ Γ.2.2.2.1.frames ∧ 64 ≤ Γ.2.2.2.1.locals := by rw [hRm0]; exact fun h => h
  exact pb_tt_snd _ (List.forall_mem_cons.mpr ⟨(s_aload_n (pc := 0) X dX7_waysOf_0 rfl (s_iload_n (pc := 1) X dX7_waysOf_1 rfl (s_iload_n (pc := 2) X dX7_waysOf_2 rfl (s_callV (pc := 3) X dX7_waysOf_3 (S_X7_gatherThings _) q_X7_55 h_39 rfl (hR _ _ (by decide)) (s_aload_n (pc := 6) X dX7_waysOf_6 rfl (s_aload_n (pc := 7) X dX7_waysOf_7 rfl (s_getR (pc := 8) X dX7_waysOf_8 g_X7_32 (s_getR (pc := 11) X dX7_waysOf_11 g_X7_46 (s_iload_n (pc := 14) X dX7_waysOf_14 rfl (s_iald (pc := 15) X dX7_waysOf_15 h_16 (s_iconst (pc := 16) X dX7_waysOf_16 rfl (s_callV (pc := 17) X dX7_waysOf_17 (S_X7_countWays _) q_X7_59 h_39 rfl (hR _ _ (by decide)) (s_aload_n (pc := 20) X dX7_waysOf_20 rfl (s_getR (pc := 21) X dX7_waysOf_21 g_X7_28 (s_aload_n (pc := 24) X dX7_waysOf_24 rfl (s_getR (pc := 25) X dX7_waysOf_25 g_X7_32 (s_getR (pc := 28) X dX7_waysOf_28 g_X7_46 (s_iload_n (pc := 31) X dX7_waysOf_31 rfl (s_iald (pc := 32) X dX7_waysOf_32 h_16 (s_lald (pc := 33) X dX7_waysOf_33 h_44 (s_lret (pc := 34) X E hr dX7_waysOf_34))))))))))))))))))))), fun _ h => absurd h List.not_mem_nil⟩)
theorem dX11_ways_0 : decode cX11_ways 0 = .ok (.aload_n 0, 1) := by decide +kernel
theorem dX11_ways_1 : decode cX11_ways 1 = .ok (.aload_n 0, 1) := by decide +kernel
theorem dX11_ways_2 : decode cX11_ways 2 = .ok (.iload_n 1, 1) := by decide +kernel
theorem dX11_ways_3 : decode cX11_ways 3 = .ok (.iload_n 2, 1) := by decide +kernel
theorem dX11_ways_4 : decode cX11_ways 4 = .ok (.invokevirtual 277, 3) := by decide +kernel
theorem dX11_ways_7 : decode cX11_ways 7 = .ok (.putfield 9, 3) := by decide +kernel
theorem dX11_ways_10 : decode cX11_ways 10 = .ok (.aload_n 0, 1) := by decide +kernel
theorem dX11_ways_11 : decode cX11_ways 11 = .ok (.getfield 9, 3) := by decide +kernel
theorem dX11_ways_14 : decode cX11_ways 14 = .ok (.ifCond .ne 15, 3) := by decide +kernel
theorem dX11_ways_17 : decode cX11_ways 17 = .ok (.aload_n 0, 1) := by decide +kernel
theorem dX11_ways_18 : decode cX11_ways 18 = .ok (.getfield 62, 3) := by decide +kernel
theorem dX11_ways_21 : decode cX11_ways 21 = .ok (.iload_n 1, 1) := by decide +kernel
theorem dX11_ways_22 : decode cX11_ways 22 = .ok (.iload_n 2, 1) := by decide +kernel
theorem dX11_ways_23 : decode cX11_ways 23 = .ok (.invokevirtual 280, 3) := by decide +kernel
theorem dX11_ways_26 : decode cX11_ways 26 = .ok (.goto 6, 3) := by decide +kernel
theorem dX11_ways_29 : decode cX11_ways 29 = .ok (.ldc2_w 121, 3) := by decide +kernel
theorem dX11_ways_32 : decode cX11_ways 32 = .ok (.lreturn, 1) := by decide +kernel
noncomputable def B_X11_ways_0 : pb_C := (i_aload 0 (i_aload 0 (i_iload 1 (i_iload 2 (i_callV 0 2 1 M_X11_sundriesStatus (i_putI 0 0 (i_aload 0 (i_getI 0 0 (i_if_ne (i_const (.long (-1)) i_lret) (i_aload 0 (i_getR 0 39 (i_iload 1 (i_iload 2 (i_callV 39 2 2 M_X7_waysOf i_lret))))))))))))))
noncomputable def T_X11_ways : Nat → pb_C := pb_tt [(0, B_X11_ways_0)]
noncomputable def M_X11_ways : pb_F := pb_M T_X11_ways 3
set_option maxRecDepth 100000 in
set_option maxHeartbeats 4000000 in
theorem S_X11_ways (l : Launch) : pb_Sound l yX11_ways cX11_ways 3 (some .long) 6 M_X11_ways := by
  refine pb_sound_of (by decide) m_5_124 ?_
  intro Γ hl0 hRm0 hm X E hr J
  have hnL : ∀ j, j < 3 → j < Γ.2.2.2.2.2.2.2.2.2.2.2.1 := fun j h => by rw [hm]; exact h
  have hR : ∀ (d' mL : Nat), d' + 1 ≤ 6 ∧ 8 + (mL + 11) + d' * 64 ≤ 6 * 64 → (pb_rm d').frames + 1 ≤ Γ.2.2.2.1.frames ∧ 8 + (mL + 11) + (pb_rm d').locals ≤ Γ.2.2.2.1.locals := by rw [hRm0]; exact fun _ _ h => h
  have hRm : 1 ≤ 6 ∧ 64 ≤ 6 * 64 → 1 ≤ Γ.2.2.2.1.frames ∧ 64 ≤ Γ.2.2.2.1.locals := by rw [hRm0]; exact fun h => h
  exact pb_tt_snd _ (List.forall_mem_cons.mpr ⟨(s_aload_n (pc := 0) X dX11_ways_0 rfl (s_aload_n (pc := 1) X dX11_ways_1 rfl (s_iload_n (pc := 2) X dX11_ways_2 rfl (s_iload_n (pc := 3) X dX11_ways_3 rfl (s_callV (pc := 4) X dX11_ways_4 (S_X11_sundriesStatus _) q_X11_277 h_0 rfl (hR _ _ (by decide)) (s_putI (pc := 7) X dX11_ways_7 p_X11_9 (s_aload_n (pc := 10) X dX11_ways_10 rfl (s_getI (pc := 11) X dX11_ways_11 g_X11_9 (s_if_ne (pc := 14) X dX11_ways_14 (by decide) (s_ldc2 (pc := 29) X dX11_ways_29 m_3_96 (s_lret (pc := 32) X E hr dX11_ways_32)) (s_aload_n (pc := 17) X dX11_ways_17 rfl (s_getR (pc := 18) X dX11_ways_18 g_X11_62 (s_iload_n (pc := 21) X dX11_ways_21 rfl (s_iload_n (pc := 22) X dX11_ways_22 rfl (s_callV (pc := 23) X dX11_ways_23 (S_X7_waysOf _) q_X11_280 h_39 rfl (hR _ _ (by decide)) (s_goto (pc := 26) X dX11_ways_26 (by decide) (s_lret (pc := 32) X E hr dX11_ways_32)))))))))))))))), fun _ h => absurd h List.not_mem_nil⟩)
theorem dX7_findSpan_0 : decode cX7_findSpan 0 = .ok (.aload_n 0, 1) := by decide +kernel
theorem dX7_findSpan_1 : decode cX7_findSpan 1 = .ok (.iload_n 1, 1) := by decide +kernel
theorem dX7_findSpan_2 : decode cX7_findSpan 2 = .ok (.iload_n 2, 1) := by decide +kernel
theorem dX7_findSpan_3 : decode cX7_findSpan 3 = .ok (.invokevirtual 55, 3) := by decide +kernel
theorem dX7_findSpan_6 : decode cX7_findSpan 6 = .ok (.aload_n 0, 1) := by decide +kernel
theorem dX7_findSpan_7 : decode cX7_findSpan 7 = .ok (.iconst (-1), 1) := by decide +kernel
theorem dX7_findSpan_8 : decode cX7_findSpan 8 = .ok (.putfield 62, 3) := by decide +kernel
theorem dX7_findSpan_11 : decode cX7_findSpan 11 = .ok (.aload_n 0, 1) := by decide +kernel
theorem dX7_findSpan_12 : decode cX7_findSpan 12 = .ok (.getfield 15, 3) := by decide +kernel
theorem dX7_findSpan_15 : decode cX7_findSpan 15 = .ok (.iload_n 3, 1) := by decide +kernel
theorem dX7_findSpan_16 : decode cX7_findSpan 16 = .ok (.iaload, 1) := by decide +kernel
theorem dX7_findSpan_17 : decode cX7_findSpan 17 = .ok (.iconst (-1), 1) := by decide +kernel
theorem dX7_findSpan_18 : decode cX7_findSpan 18 = .ok (.if_icmp .ne 5, 3) := by decide +kernel
theorem dX7_findSpan_21 : decode cX7_findSpan 21 = .ok (.iconst 0, 1) := by decide +kernel
theorem dX7_findSpan_22 : decode cX7_findSpan 22 = .ok (.ireturn, 1) := by decide +kernel
theorem dX7_findSpan_23 : decode cX7_findSpan 23 = .ok (.aload_n 0, 1) := by decide +kernel
theorem dX7_findSpan_24 : decode cX7_findSpan 24 = .ok (.getfield 32, 3) := by decide +kernel
theorem dX7_findSpan_27 : decode cX7_findSpan 27 = .ok (.getfield 46, 3) := by decide +kernel
theorem dX7_findSpan_30 : decode cX7_findSpan 30 = .ok (.iload_n 1, 1) := by decide +kernel
theorem dX7_findSpan_31 : decode cX7_findSpan 31 = .ok (.iaload, 1) := by decide +kernel
theorem dX7_findSpan_32 : decode cX7_findSpan 32 = .ok (.istore 4, 2) := by decide +kernel
theorem dX7_findSpan_34 : decode cX7_findSpan 34 = .ok (.aload_n 0, 1) := by decide +kernel
theorem dX7_findSpan_35 : decode cX7_findSpan 35 = .ok (.iload 4, 2) := by decide +kernel
theorem dX7_findSpan_37 : decode cX7_findSpan 37 = .ok (.iload_n 3, 1) := by decide +kernel
theorem dX7_findSpan_38 : decode cX7_findSpan 38 = .ok (.invokevirtual 59, 3) := by decide +kernel
theorem dX7_findSpan_41 : decode cX7_findSpan 41 = .ok (.iconst 0, 1) := by decide +kernel
theorem dX7_findSpan_42 : decode cX7_findSpan 42 = .ok (.istore 5, 2) := by decide +kernel
theorem dX7_findSpan_44 : decode cX7_findSpan 44 = .ok (.iload 5, 2) := by decide +kernel
theorem dX7_findSpan_46 : decode cX7_findSpan 46 = .ok (.aload_n 0, 1) := by decide +kernel
theorem dX7_findSpan_47 : decode cX7_findSpan 47 = .ok (.getfield 22, 3) := by decide +kernel
theorem dX7_findSpan_50 : decode cX7_findSpan 50 = .ok (.iload_n 3, 1) := by decide +kernel
theorem dX7_findSpan_51 : decode cX7_findSpan 51 = .ok (.iaload, 1) := by decide +kernel
theorem dX7_findSpan_52 : decode cX7_findSpan 52 = .ok (.if_icmp .gt 64, 3) := by decide +kernel
theorem dX7_findSpan_55 : decode cX7_findSpan 55 = .ok (.iload 4, 2) := by decide +kernel
theorem dX7_findSpan_57 : decode cX7_findSpan 57 = .ok (.ifCond .lt 59, 3) := by decide +kernel
theorem dX7_findSpan_60 : decode cX7_findSpan 60 = .ok (.aload_n 0, 1) := by decide +kernel
theorem dX7_findSpan_61 : decode cX7_findSpan 61 = .ok (.getfield 28, 3) := by decide +kernel
theorem dX7_findSpan_64 : decode cX7_findSpan 64 = .ok (.iload 4, 2) := by decide +kernel
theorem dX7_findSpan_66 : decode cX7_findSpan 66 = .ok (.laload, 1) := by decide +kernel
theorem dX7_findSpan_67 : decode cX7_findSpan 67 = .ok (.lconst 0, 1) := by decide +kernel
theorem dX7_findSpan_68 : decode cX7_findSpan 68 = .ok (.lcmp, 1) := by decide +kernel
theorem dX7_findSpan_69 : decode cX7_findSpan 69 = .ok (.ifCond .eq 30, 3) := by decide +kernel
theorem dX7_findSpan_72 : decode cX7_findSpan 72 = .ok (.aload_n 0, 1) := by decide +kernel
theorem dX7_findSpan_73 : decode cX7_findSpan 73 = .ok (.aload_n 0, 1) := by decide +kernel
theorem dX7_findSpan_74 : decode cX7_findSpan 74 = .ok (.getfield 62, 3) := by decide +kernel
theorem dX7_findSpan_77 : decode cX7_findSpan 77 = .ok (.iconst (-1), 1) := by decide +kernel
theorem dX7_findSpan_78 : decode cX7_findSpan 78 = .ok (.if_icmp .ne 8, 3) := by decide +kernel
theorem dX7_findSpan_81 : decode cX7_findSpan 81 = .ok (.iload 5, 2) := by decide +kernel
theorem dX7_findSpan_83 : decode cX7_findSpan 83 = .ok (.goto 7, 3) := by decide +kernel
theorem dX7_findSpan_86 : decode cX7_findSpan 86 = .ok (.aload_n 0, 1) := by decide +kernel
theorem dX7_findSpan_87 : decode cX7_findSpan 87 = .ok (.getfield 62, 3) := by decide +kernel
theorem dX7_findSpan_90 : decode cX7_findSpan 90 = .ok (.putfield 62, 3) := by decide +kernel
theorem dX7_findSpan_93 : decode cX7_findSpan 93 = .ok (.aload_n 0, 1) := by decide +kernel
theorem dX7_findSpan_94 : decode cX7_findSpan 94 = .ok (.iload 5, 2) := by decide +kernel
theorem dX7_findSpan_96 : decode cX7_findSpan 96 = .ok (.putfield 65, 3) := by decide +kernel
theorem dX7_findSpan_99 : decode cX7_findSpan 99 = .ok (.iload 4, 2) := by decide +kernel
theorem dX7_findSpan_101 : decode cX7_findSpan 101 = .ok (.aload_n 0, 1) := by decide +kernel
theorem dX7_findSpan_102 : decode cX7_findSpan 102 = .ok (.getfield 19, 3) := by decide +kernel
theorem dX7_findSpan_105 : decode cX7_findSpan 105 = .ok (.iload_n 3, 1) := by decide +kernel
theorem dX7_findSpan_106 : decode cX7_findSpan 106 = .ok (.iaload, 1) := by decide +kernel
theorem dX7_findSpan_107 : decode cX7_findSpan 107 = .ok (.isub, 1) := by decide +kernel
theorem dX7_findSpan_108 : decode cX7_findSpan 108 = .ok (.istore 4, 2) := by decide +kernel
theorem dX7_findSpan_110 : decode cX7_findSpan 110 = .ok (.iinc 5 1, 3) := by decide +kernel
theorem dX7_findSpan_113 : decode cX7_findSpan 113 = .ok (.goto (-69), 3) := by decide +kernel
theorem dX7_findSpan_116 : decode cX7_findSpan 116 = .ok (.aload_n 0, 1) := by decide +kernel
theorem dX7_findSpan_117 : decode cX7_findSpan 117 = .ok (.getfield 62, 3) := by decide +kernel
theorem dX7_findSpan_120 : decode cX7_findSpan 120 = .ok (.iconst (-1), 1) := by decide +kernel
theorem dX7_findSpan_121 : decode cX7_findSpan 121 = .ok (.if_icmp .eq 7, 3) := by decide +kernel
theorem dX7_findSpan_124 : decode cX7_findSpan 124 = .ok (.iconst 1, 1) := by decide +kernel
theorem dX7_findSpan_125 : decode cX7_findSpan 125 = .ok (.goto 4, 3) := by decide +kernel
theorem dX7_findSpan_128 : decode cX7_findSpan 128 = .ok (.iconst 0, 1) := by decide +kernel
theorem dX7_findSpan_129 : decode cX7_findSpan 129 = .ok (.ireturn, 1) := by decide +kernel
noncomputable def B_X7_findSpan_0 : pb_C := (i_aload 0 (i_iload 1 (i_iload 2 (i_callV 39 2 0 M_X7_gatherThings (i_aload 0 (i_const (.int (-1)) (i_putI 39 8 (i_aload 0 (i_getR 39 40 (i_iload 3 (i_ald 40 16 (i_const (.int (-1)) (i_ic_ne (i_aload 0 (i_getR 39 5 (i_getR 5 16 (i_iload 1 (i_ald 16 200 (i_istore 4 (i_aload 0 (i_iload 4 (i_iload 3 (i_callV 39 2 0 M_X7_countWays (i_const (.int 0) (i_istore 5 (i_jmp 44 [true, false, false, true, true, true]))))))))))))) (i_const (.int 0) i_zret))))))))))))))
noncomputable def B_X7_findSpan_44 : pb_C := (i_iload 5 (i_aload 0 (i_getR 39 42 (i_iload 3 (i_ald 42 16 (i_ic_gt (i_aload 0 (i_getI 39 8 (i_const (.int (-1)) (i_ic_eq (i_const (.int 0) i_zret) (i_const (.int 1) i_zret))))) (i_iload 4 (i_if_lt (i_aload 0 (i_getI 39 8 (i_const (.int (-1)) (i_ic_eq (i_const (.int 0) i_zret) (i_const (.int 1) i_zret))))) (i_aload 0 (i_getR 39 44 (i_iload 4 (i_lald 44 2001 (i_const (.long 0) (i_lcmp (i_if_eq (i_iload 4 (i_aload 0 (i_getR 39 41 (i_iload 3 (i_ald 41 16 (i_ibin (· - ·) (i_istore 4 (i_iinc 5 1 (i_jmp 44 [true, false, false, true, true, true]))))))))) (i_aload 0 (i_aload 0 (i_getI 39 8 (i_const (.int (-1)) (i_ic_ne (i_aload 0 (i_getI 39 8 (i_jmp 90 [true, false, false, true, true, true]))) (i_iload 5 (i_jmp 90 [true, false, false, true, true, true]))))))))))))))))))))))
noncomputable def B_X7_findSpan_90 : pb_C := (i_putI 39 8 (i_aload 0 (i_iload 5 (i_putI 39 9 (i_iload 4 (i_aload 0 (i_getR 39 41 (i_iload 3 (i_ald 41 16 (i_ibin (· - ·) (i_istore 4 (i_iinc 5 1 (i_jmp 44 [true, false, false, true, true, true])))))))))))))
noncomputable def T_X7_findSpan : Nat → pb_C := pb_tt [(0, B_X7_findSpan_0), (44, B_X7_findSpan_44), (90, B_X7_findSpan_90)]
noncomputable def M_X7_findSpan : pb_F := pb_M T_X7_findSpan 6
set_option maxRecDepth 100000 in
set_option maxHeartbeats 4000000 in
theorem S_X7_findSpan (l : Launch) : pb_Sound l yX7_findSpan cX7_findSpan 6 (some .boolean) 4 M_X7_findSpan := by
  refine pb_sound_of (by decide) m_5_186 ?_
  intro Γ hl0 hRm0 hm X E hr J
  have hnL : ∀ j, j < 6 → j < Γ.2.2.2.2.2.2.2.2.2.2.2.1 := fun j h => by rw [hm]; exact h
  have hR : ∀ (d' mL : Nat), d' + 1 ≤ 4 ∧ 8 + (mL + 11) + d' * 64 ≤ 4 * 64 → (pb_rm d').frames + 1 ≤ Γ.2.2.2.1.frames ∧ 8 + (mL + 11) + (pb_rm d').locals ≤ Γ.2.2.2.1.locals := by rw [hRm0]; exact fun _ _ h => h
  have hRm : 1 ≤ 4 ∧ 64 ≤ 4 * 64 → 1 ≤ Γ.2.2.2.1.frames ∧ 64 ≤ Γ.2.2.2.1.locals := by rw [hRm0]; exact fun h => h
  exact pb_tt_snd _ (List.forall_mem_cons.mpr ⟨(s_aload_n (pc := 0) X dX7_findSpan_0 rfl (s_iload_n (pc := 1) X dX7_findSpan_1 rfl (s_iload_n (pc := 2) X dX7_findSpan_2 rfl (s_callV (pc := 3) X dX7_findSpan_3 (S_X7_gatherThings _) q_X7_55 h_39 rfl (hR _ _ (by decide)) (s_aload_n (pc := 6) X dX7_findSpan_6 rfl (s_iconst (pc := 7) X dX7_findSpan_7 rfl (s_putI (pc := 8) X dX7_findSpan_8 p_X7_62 (s_aload_n (pc := 11) X dX7_findSpan_11 rfl (s_getR (pc := 12) X dX7_findSpan_12 g_X7_15 (s_iload_n (pc := 15) X dX7_findSpan_15 rfl (s_iald (pc := 16) X dX7_findSpan_16 h_40 (s_iconst (pc := 17) X dX7_findSpan_17 rfl (s_ic_ne (pc := 18) X dX7_findSpan_18 (by decide) (s_aload_n (pc := 23) X dX7_findSpan_23 rfl (s_getR (pc := 24) X dX7_findSpan_24 g_X7_32 (s_getR (pc := 27) X dX7_findSpan_27 g_X7_46 (s_iload_n (pc := 30) X dX7_findSpan_30 rfl (s_iald (pc := 31) X dX7_findSpan_31 h_16 (s_istore (pc := 32) X dX7_findSpan_32 (hnL _ (by decide)) (s_aload_n (pc := 34) X dX7_findSpan_34 rfl (s_iload (pc := 35) X dX7_findSpan_35 (s_iload_n (pc := 37) X dX7_findSpan_37 rfl (s_callV (pc := 38) X dX7_findSpan_38 (S_X7_countWays _) q_X7_59 h_39 rfl (hR _ _ (by decide)) (s_iconst (pc := 41) X dX7_findSpan_41 rfl (s_istore (pc := 42) X dX7_findSpan_42 (hnL _ (by decide)) (s_jmp (pc := 44) J [true, false, false, true, true, true]))))))))))))) (s_iconst (pc := 21) X dX7_findSpan_21 rfl (s_zret (pc := 22) X E hr dX7_findSpan_22))))))))))))))), List.forall_mem_cons.mpr ⟨(s_iload (pc := 44) X dX7_findSpan_44 (s_aload_n (pc := 46) X dX7_findSpan_46 rfl (s_getR (pc := 47) X dX7_findSpan_47 g_X7_22 (s_iload_n (pc := 50) X dX7_findSpan_50 rfl (s_iald (pc := 51) X dX7_findSpan_51 h_42 (s_ic_gt (pc := 52) X dX7_findSpan_52 (by decide) (s_aload_n (pc := 116) X dX7_findSpan_116 rfl (s_getI (pc := 117) X dX7_findSpan_117 g_X7_62 (s_iconst (pc := 120) X dX7_findSpan_120 rfl (s_ic_eq (pc := 121) X dX7_findSpan_121 (by decide) (s_iconst (pc := 128) X dX7_findSpan_128 rfl (s_zret (pc := 129) X E hr dX7_findSpan_129)) (s_iconst (pc := 124) X dX7_findSpan_124 rfl (s_goto (pc := 125) X dX7_findSpan_125 (by decide) (s_zret (pc := 129) X E hr dX7_findSpan_129))))))) (s_iload (pc := 55) X dX7_findSpan_55 (s_if_lt (pc := 57) X dX7_findSpan_57 (by decide) (s_aload_n (pc := 116) X dX7_findSpan_116 rfl (s_getI (pc := 117) X dX7_findSpan_117 g_X7_62 (s_iconst (pc := 120) X dX7_findSpan_120 rfl (s_ic_eq (pc := 121) X dX7_findSpan_121 (by decide) (s_iconst (pc := 128) X dX7_findSpan_128 rfl (s_zret (pc := 129) X E hr dX7_findSpan_129)) (s_iconst (pc := 124) X dX7_findSpan_124 rfl (s_goto (pc := 125) X dX7_findSpan_125 (by decide) (s_zret (pc := 129) X E hr dX7_findSpan_129))))))) (s_aload_n (pc := 60) X dX7_findSpan_60 rfl (s_getR (pc := 61) X dX7_findSpan_61 g_X7_28 (s_iload (pc := 64) X dX7_findSpan_64 (s_lald (pc := 66) X dX7_findSpan_66 h_44 (s_lconst (pc := 67) X dX7_findSpan_67 rfl (s_lcmp (pc := 68) X dX7_findSpan_68 (s_if_eq (pc := 69) X dX7_findSpan_69 (by decide) (s_iload (pc := 99) X dX7_findSpan_99 (s_aload_n (pc := 101) X dX7_findSpan_101 rfl (s_getR (pc := 102) X dX7_findSpan_102 g_X7_19 (s_iload_n (pc := 105) X dX7_findSpan_105 rfl (s_iald (pc := 106) X dX7_findSpan_106 h_41 (s_isub (pc := 107) X dX7_findSpan_107 (s_istore (pc := 108) X dX7_findSpan_108 (hnL _ (by decide)) (s_iinc (pc := 110) X dX7_findSpan_110 rfl (s_goto (pc := 113) X dX7_findSpan_113 (by decide) (s_jmp (pc := 44) J [true, false, false, true, true, true])))))))))) (s_aload_n (pc := 72) X dX7_findSpan_72 rfl (s_aload_n (pc := 73) X dX7_findSpan_73 rfl (s_getI (pc := 74) X dX7_findSpan_74 g_X7_62 (s_iconst (pc := 77) X dX7_findSpan_77 rfl (s_ic_ne (pc := 78) X dX7_findSpan_78 (by decide) (s_aload_n (pc := 86) X dX7_findSpan_86 rfl (s_getI (pc := 87) X dX7_findSpan_87 g_X7_62 (s_jmp (pc := 90) J [true, false, false, true, true, true]))) (s_iload (pc := 81) X dX7_findSpan_81 (s_goto (pc := 83) X dX7_findSpan_83 (by decide) (s_jmp (pc := 90) J [true, false, false, true, true, true]))))))))))))))))))))))), List.forall_mem_cons.mpr ⟨(s_putI (pc := 90) X dX7_findSpan_90 p_X7_62 (s_aload_n (pc := 93) X dX7_findSpan_93 rfl (s_iload (pc := 94) X dX7_findSpan_94 (s_putI (pc := 96) X dX7_findSpan_96 p_X7_65 (s_iload (pc := 99) X dX7_findSpan_99 (s_aload_n (pc := 101) X dX7_findSpan_101 rfl (s_getR (pc := 102) X dX7_findSpan_102 g_X7_19 (s_iload_n (pc := 105) X dX7_findSpan_105 rfl (s_iald (pc := 106) X dX7_findSpan_106 h_41 (s_isub (pc := 107) X dX7_findSpan_107 (s_istore (pc := 108) X dX7_findSpan_108 (hnL _ (by decide)) (s_iinc (pc := 110) X dX7_findSpan_110 rfl (s_goto (pc := 113) X dX7_findSpan_113 (by decide) (s_jmp (pc := 44) J [true, false, false, true, true, true])))))))))))))), fun _ h => absurd h List.not_mem_nil⟩⟩⟩)
theorem dX11_span_0 : decode cX11_span 0 = .ok (.iload_n 3, 1) := by decide +kernel
theorem dX11_span_1 : decode cX11_span 1 = .ok (.iconst 1, 1) := by decide +kernel
theorem dX11_span_2 : decode cX11_span 2 = .ok (.bipush 15, 2) := by decide +kernel
theorem dX11_span_4 : decode cX11_span 4 = .ok (.invokestatic 101, 3) := by decide +kernel
theorem dX11_span_7 : decode cX11_span 7 = .ok (.ifCond .ne 13, 3) := by decide +kernel
theorem dX11_span_10 : decode cX11_span 10 = .ok (.iload 4, 2) := by decide +kernel
theorem dX11_span_12 : decode cX11_span 12 = .ok (.iconst 0, 1) := by decide +kernel
theorem dX11_span_13 : decode cX11_span 13 = .ok (.iconst 1, 1) := by decide +kernel
theorem dX11_span_14 : decode cX11_span 14 = .ok (.invokestatic 101, 3) := by decide +kernel
theorem dX11_span_17 : decode cX11_span 17 = .ok (.ifCond .eq 7, 3) := by decide +kernel
theorem dX11_span_20 : decode cX11_span 20 = .ok (.iconst 1, 1) := by decide +kernel
theorem dX11_span_21 : decode cX11_span 21 = .ok (.goto 4, 3) := by decide +kernel
theorem dX11_span_24 : decode cX11_span 24 = .ok (.iconst 0, 1) := by decide +kernel
theorem dX11_span_25 : decode cX11_span 25 = .ok (.istore 5, 2) := by decide +kernel
theorem dX11_span_27 : decode cX11_span 27 = .ok (.aload_n 0, 1) := by decide +kernel
theorem dX11_span_28 : decode cX11_span 28 = .ok (.iload 5, 2) := by decide +kernel
theorem dX11_span_30 : decode cX11_span 30 = .ok (.ifCond .eq 7, 3) := by decide +kernel
theorem dX11_span_33 : decode cX11_span 33 = .ok (.iconst 1, 1) := by decide +kernel
theorem dX11_span_34 : decode cX11_span 34 = .ok (.goto 9, 3) := by decide +kernel
theorem dX11_span_37 : decode cX11_span 37 = .ok (.aload_n 0, 1) := by decide +kernel
theorem dX11_span_38 : decode cX11_span 38 = .ok (.iload_n 1, 1) := by decide +kernel
theorem dX11_span_39 : decode cX11_span 39 = .ok (.iload_n 2, 1) := by decide +kernel
theorem dX11_span_40 : decode cX11_span 40 = .ok (.invokevirtual 277, 3) := by decide +kernel
theorem dX11_span_43 : decode cX11_span 43 = .ok (.putfield 9, 3) := by decide +kernel
theorem dX11_span_46 : decode cX11_span 46 = .ok (.aload_n 0, 1) := by decide +kernel
theorem dX11_span_47 : decode cX11_span 47 = .ok (.getfield 9, 3) := by decide +kernel
theorem dX11_span_50 : decode cX11_span 50 = .ok (.ifCond .ne 22, 3) := by decide +kernel
theorem dX11_span_53 : decode cX11_span 53 = .ok (.aload_n 0, 1) := by decide +kernel
theorem dX11_span_54 : decode cX11_span 54 = .ok (.getfield 62, 3) := by decide +kernel
theorem dX11_span_57 : decode cX11_span 57 = .ok (.iload_n 1, 1) := by decide +kernel
theorem dX11_span_58 : decode cX11_span 58 = .ok (.iload_n 2, 1) := by decide +kernel
theorem dX11_span_59 : decode cX11_span 59 = .ok (.iload_n 3, 1) := by decide +kernel
theorem dX11_span_60 : decode cX11_span 60 = .ok (.invokevirtual 283, 3) := by decide +kernel
theorem dX11_span_63 : decode cX11_span 63 = .ok (.ifCond .ne 9, 3) := by decide +kernel
theorem dX11_span_66 : decode cX11_span 66 = .ok (.aload_n 0, 1) := by decide +kernel
theorem dX11_span_67 : decode cX11_span 67 = .ok (.bipush 6, 2) := by decide +kernel
theorem dX11_span_69 : decode cX11_span 69 = .ok (.putfield 9, 3) := by decide +kernel
theorem dX11_span_72 : decode cX11_span 72 = .ok (.aload_n 0, 1) := by decide +kernel
theorem dX11_span_73 : decode cX11_span 73 = .ok (.getfield 9, 3) := by decide +kernel
theorem dX11_span_76 : decode cX11_span 76 = .ok (.ifCond .eq 5, 3) := by decide +kernel
theorem dX11_span_79 : decode cX11_span 79 = .ok (.iconst (-1), 1) := by decide +kernel
theorem dX11_span_80 : decode cX11_span 80 = .ok (.ireturn, 1) := by decide +kernel
theorem dX11_span_81 : decode cX11_span 81 = .ok (.iload 4, 2) := by decide +kernel
theorem dX11_span_83 : decode cX11_span 83 = .ok (.ifCond .ne 13, 3) := by decide +kernel
theorem dX11_span_86 : decode cX11_span 86 = .ok (.aload_n 0, 1) := by decide +kernel
theorem dX11_span_87 : decode cX11_span 87 = .ok (.getfield 62, 3) := by decide +kernel
theorem dX11_span_90 : decode cX11_span 90 = .ok (.getfield 286, 3) := by decide +kernel
theorem dX11_span_93 : decode cX11_span 93 = .ok (.goto 10, 3) := by decide +kernel
theorem dX11_span_96 : decode cX11_span 96 = .ok (.aload_n 0, 1) := by decide +kernel
theorem dX11_span_97 : decode cX11_span 97 = .ok (.getfield 62, 3) := by decide +kernel
theorem dX11_span_100 : decode cX11_span 100 = .ok (.getfield 287, 3) := by decide +kernel
theorem dX11_span_103 : decode cX11_span 103 = .ok (.ireturn, 1) := by decide +kernel
noncomputable def B_X11_span_0 : pb_C := (i_iload 3 (i_const (.int 1) (i_const (.int 15) (i_callS 3 1 M_X11_outside (i_if_ne (i_jmp 20 [true, true, true, true, true, false]) (i_iload 4 (i_const (.int 0) (i_const (.int 1) (i_callS 3 1 M_X11_outside (i_if_eq (i_const (.int 0) (i_istore 5 (i_aload 0 (i_iload 5 (i_if_eq (i_aload 0 (i_iload 1 (i_iload 2 (i_callV 0 2 1 M_X11_sundriesStatus (i_jmp 43 [true, true, true, true, true, false]))))) (i_const (.int 1) (i_jmp 43 [true, true, true, true, true, false]))))))) (i_jmp 20 [true, true, true, true, true, false])))))))))))
noncomputable def B_X11_span_20 : pb_C := (i_const (.int 1) (i_istore 5 (i_aload 0 (i_iload 5 (i_if_eq (i_aload 0 (i_iload 1 (i_iload 2 (i_callV 0 2 1 M_X11_sundriesStatus (i_jmp 43 [true, true, true, true, true, false]))))) (i_const (.int 1) (i_jmp 43 [true, true, true, true, true, false])))))))
noncomputable def B_X11_span_43 : pb_C := (i_putI 0 0 (i_aload 0 (i_getI 0 0 (i_if_ne (i_jmp 72 [true, false, false, false, true, false]) (i_aload 0 (i_getR 0 39 (i_iload 1 (i_iload 2 (i_iload 3 (i_callV 39 3 1 M_X7_findSpan (i_if_ne (i_jmp 72 [true, false, false, false, true, false]) (i_aload 0 (i_const (.int 6) (i_putI 0 0 (i_jmp 72 [true, false, false, false, true, false])))))))))))))))
noncomputable def B_X11_span_72 : pb_C := (i_aload 0 (i_getI 0 0 (i_if_eq (i_iload 4 (i_if_ne (i_aload 0 (i_getR 0 39 (i_getI 39 9 i_iret))) (i_aload 0 (i_getR 0 39 (i_getI 39 8 i_iret))))) (i_const (.int (-1)) i_iret))))
noncomputable def T_X11_span : Nat → pb_C := pb_tt [(0, B_X11_span_0), (20, B_X11_span_20), (43, B_X11_span_43), (72, B_X11_span_72)]
noncomputable def M_X11_span : pb_F := pb_M T_X11_span 6
set_option maxRecDepth 100000 in
set_option maxHeartbeats 4000000 in
theorem S_X11_span (l : Launch) : pb_Sound l yX11_span cX11_span 6 (some .int) 6 M_X11_span := by
  refine pb_sound_of (by decide) m_5_182 ?_
  intro Γ hl0 hRm0 hm X E hr J
  have hnL : ∀ j, j < 6 → j < Γ.2.2.2.2.2.2.2.2.2.2.2.1 := fun j h => by rw [hm]; exact h
  have hR : ∀ (d' mL : Nat), d' + 1 ≤ 6 ∧ 8 + (mL + 11) + d' * 64 ≤ 6 * 64 → (pb_rm d').frames + 1 ≤ Γ.2.2.2.1.frames ∧ 8 + (mL + 11) + (pb_rm d').locals ≤ Γ.2.2.2.1.locals := by rw [hRm0]; exact fun _ _ h => h
  have hRm : 1 ≤ 6 ∧ 64 ≤ 6 * 64 → 1 ≤ Γ.2.2.2.1.frames ∧ 64 ≤ Γ.2.2.2.1.locals := by rw [hRm0]; exact fun h => h
  exact pb_tt_snd _ (List.forall_mem_cons.mpr ⟨(s_iload_n (pc := 0) X dX11_span_0 rfl (s_iconst (pc := 1) X dX11_span_1 rfl (s_bipush (pc := 2) X dX11_span_2 rfl (s_callS (pc := 4) X dX11_span_4 (S_X11_outside _) q_X11_101 (hR _ _ (by decide)) (s_if_ne (pc := 7) X dX11_span_7 (by decide) (s_jmp (pc := 20) J [true, true, true, true, true, false]) (s_iload (pc := 10) X dX11_span_10 (s_iconst (pc := 12) X dX11_span_12 rfl (s_iconst (pc := 13) X dX11_span_13 rfl (s_callS (pc := 14) X dX11_span_14 (S_X11_outside _) q_X11_101 (hR _ _ (by decide)) (s_if_eq (pc := 17) X dX11_span_17 (by decide) (s_iconst (pc := 24) X dX11_span_24 rfl (s_istore (pc := 25) X dX11_span_25 (hnL _ (by decide)) (s_aload_n (pc := 27) X dX11_span_27 rfl (s_iload (pc := 28) X dX11_span_28 (s_if_eq (pc := 30) X dX11_span_30 (by decide) (s_aload_n (pc := 37) X dX11_span_37 rfl (s_iload_n (pc := 38) X dX11_span_38 rfl (s_iload_n (pc := 39) X dX11_span_39 rfl (s_callV (pc := 40) X dX11_span_40 (S_X11_sundriesStatus _) q_X11_277 h_0 rfl (hR _ _ (by decide)) (s_jmp (pc := 43) J [true, true, true, true, true, false]))))) (s_iconst (pc := 33) X dX11_span_33 rfl (s_goto (pc := 34) X dX11_span_34 (by decide) (s_jmp (pc := 43) J [true, true, true, true, true, false])))))))) (s_jmp (pc := 20) J [true, true, true, true, true, false]))))))))))), List.forall_mem_cons.mpr ⟨(s_iconst (pc := 20) X dX11_span_20 rfl (s_goto (pc := 21) X dX11_span_21 (by decide) (s_istore (pc := 25) X dX11_span_25 (hnL _ (by decide)) (s_aload_n (pc := 27) X dX11_span_27 rfl (s_iload (pc := 28) X dX11_span_28 (s_if_eq (pc := 30) X dX11_span_30 (by decide) (s_aload_n (pc := 37) X dX11_span_37 rfl (s_iload_n (pc := 38) X dX11_span_38 rfl (s_iload_n (pc := 39) X dX11_span_39 rfl (s_callV (pc := 40) X dX11_span_40 (S_X11_sundriesStatus _) q_X11_277 h_0 rfl (hR _ _ (by decide)) (s_jmp (pc := 43) J [true, true, true, true, true, false]))))) (s_iconst (pc := 33) X dX11_span_33 rfl (s_goto (pc := 34) X dX11_span_34 (by decide) (s_jmp (pc := 43) J [true, true, true, true, true, false]))))))))), List.forall_mem_cons.mpr ⟨(s_putI (pc := 43) X dX11_span_43 p_X11_9 (s_aload_n (pc := 46) X dX11_span_46 rfl (s_getI (pc := 47) X dX11_span_47 g_X11_9 (s_if_ne (pc := 50) X dX11_span_50 (by decide) (s_jmp (pc := 72) J [true, false, false, false, true, false]) (s_aload_n (pc := 53) X dX11_span_53 rfl (s_getR (pc := 54) X dX11_span_54 g_X11_62 (s_iload_n (pc := 57) X dX11_span_57 rfl (s_iload_n (pc := 58) X dX11_span_58 rfl (s_iload_n (pc := 59) X dX11_span_59 rfl (s_callV (pc := 60) X dX11_span_60 (S_X7_findSpan _) q_X11_283 h_39 rfl (hR _ _ (by decide)) (s_if_ne (pc := 63) X dX11_span_63 (by decide) (s_jmp (pc := 72) J [true, false, false, false, true, false]) (s_aload_n (pc := 66) X dX11_span_66 rfl (s_bipush (pc := 67) X dX11_span_67 rfl (s_putI (pc := 69) X dX11_span_69 p_X11_9 (s_jmp (pc := 72) J [true, false, false, false, true, false]))))))))))))))), List.forall_mem_cons.mpr ⟨(s_aload_n (pc := 72) X dX11_span_72 rfl (s_getI (pc := 73) X dX11_span_73 g_X11_9 (s_if_eq (pc := 76) X dX11_span_76 (by decide) (s_iload (pc := 81) X dX11_span_81 (s_if_ne (pc := 83) X dX11_span_83 (by decide) (s_aload_n (pc := 96) X dX11_span_96 rfl (s_getR (pc := 97) X dX11_span_97 g_X11_62 (s_getI (pc := 100) X dX11_span_100 g_X11_287 (s_iret (pc := 103) X E hr dX11_span_103)))) (s_aload_n (pc := 86) X dX11_span_86 rfl (s_getR (pc := 87) X dX11_span_87 g_X11_62 (s_getI (pc := 90) X dX11_span_90 g_X11_286 (s_goto (pc := 93) X dX11_span_93 (by decide) (s_iret (pc := 103) X E hr dX11_span_103))))))) (s_iconst (pc := 79) X dX11_span_79 rfl (s_iret (pc := 80) X E hr dX11_span_80))))), fun _ h => absurd h List.not_mem_nil⟩⟩⟩⟩)
theorem dX3_addMember_0 : decode cX3_addMember 0 = .ok (.aload_n 0, 1) := by decide +kernel
theorem dX3_addMember_1 : decode cX3_addMember 1 = .ok (.getfield 11, 3) := by decide +kernel
theorem dX3_addMember_4 : decode cX3_addMember 4 = .ok (.aload_n 0, 1) := by decide +kernel
theorem dX3_addMember_5 : decode cX3_addMember 5 = .ok (.getfield 27, 3) := by decide +kernel
theorem dX3_addMember_8 : decode cX3_addMember 8 = .ok (.iload_n 1, 1) := by decide +kernel
theorem dX3_addMember_9 : decode cX3_addMember 9 = .ok (.iastore, 1) := by decide +kernel
theorem dX3_addMember_10 : decode cX3_addMember 10 = .ok (.aload_n 0, 1) := by decide +kernel
theorem dX3_addMember_11 : decode cX3_addMember 11 = .ok (.getfield 15, 3) := by decide +kernel
theorem dX3_addMember_14 : decode cX3_addMember 14 = .ok (.aload_n 0, 1) := by decide +kernel
theorem dX3_addMember_15 : decode cX3_addMember 15 = .ok (.getfield 27, 3) := by decide +kernel
theorem dX3_addMember_18 : decode cX3_addMember 18 = .ok (.iload_n 2, 1) := by decide +kernel
theorem dX3_addMember_19 : decode cX3_addMember 19 = .ok (.iastore, 1) := by decide +kernel
theorem dX3_addMember_20 : decode cX3_addMember 20 = .ok (.aload_n 0, 1) := by decide +kernel
theorem dX3_addMember_21 : decode cX3_addMember 21 = .ok (.getfield 18, 3) := by decide +kernel
theorem dX3_addMember_24 : decode cX3_addMember 24 = .ok (.aload_n 0, 1) := by decide +kernel
theorem dX3_addMember_25 : decode cX3_addMember 25 = .ok (.getfield 27, 3) := by decide +kernel
theorem dX3_addMember_28 : decode cX3_addMember 28 = .ok (.iload_n 3, 1) := by decide +kernel
theorem dX3_addMember_29 : decode cX3_addMember 29 = .ok (.iastore, 1) := by decide +kernel
theorem dX3_addMember_30 : decode cX3_addMember 30 = .ok (.aload_n 0, 1) := by decide +kernel
theorem dX3_addMember_31 : decode cX3_addMember 31 = .ok (.getfield 21, 3) := by decide +kernel
theorem dX3_addMember_34 : decode cX3_addMember 34 = .ok (.aload_n 0, 1) := by decide +kernel
theorem dX3_addMember_35 : decode cX3_addMember 35 = .ok (.getfield 27, 3) := by decide +kernel
theorem dX3_addMember_38 : decode cX3_addMember 38 = .ok (.iload 4, 2) := by decide +kernel
theorem dX3_addMember_40 : decode cX3_addMember 40 = .ok (.iastore, 1) := by decide +kernel
theorem dX3_addMember_41 : decode cX3_addMember 41 = .ok (.aload_n 0, 1) := by decide +kernel
theorem dX3_addMember_42 : decode cX3_addMember 42 = .ok (.dup, 1) := by decide +kernel
theorem dX3_addMember_43 : decode cX3_addMember 43 = .ok (.getfield 27, 3) := by decide +kernel
theorem dX3_addMember_46 : decode cX3_addMember 46 = .ok (.iconst 1, 1) := by decide +kernel
theorem dX3_addMember_47 : decode cX3_addMember 47 = .ok (.iadd, 1) := by decide +kernel
theorem dX3_addMember_48 : decode cX3_addMember 48 = .ok (.putfield 27, 3) := by decide +kernel
theorem dX3_addMember_51 : decode cX3_addMember 51 = .ok (.return_, 1) := by decide +kernel
noncomputable def B_X3_addMember_0 : pb_C := (i_aload 0 (i_getR 45 46 (i_aload 0 (i_getI 45 0 (i_iload 1 (i_ast 46 40 (fun x => x) (i_aload 0 (i_getR 45 47 (i_aload 0 (i_getI 45 0 (i_iload 2 (i_ast 47 40 (fun x => x) (i_aload 0 (i_getR 45 48 (i_aload 0 (i_getI 45 0 (i_iload 3 (i_ast 48 40 (fun x => x) (i_aload 0 (i_getR 45 49 (i_aload 0 (i_getI 45 0 (i_iload 4 (i_ast 49 40 (fun x => x) (i_aload 0 (i_dupR (i_getI 45 0 (i_const (.int 1) (i_ibin (· + ·) (i_putI 45 0 i_vret))))))))))))))))))))))))))))))
noncomputable def T_X3_addMember : Nat → pb_C := pb_tt [(0, B_X3_addMember_0)]
noncomputable def M_X3_addMember : pb_F := pb_M T_X3_addMember 5
set_option maxRecDepth 100000 in
set_option maxHeartbeats 4000000 in
theorem S_X3_addMember (l : Launch) : pb_Sound l yX3_addMember cX3_addMember 5 none 1 M_X3_addMember := by
  refine pb_sound_of (by decide) m_5_194 ?_
  intro Γ hl0 hRm0 hm X E hr J
  have hnL : ∀ j, j < 5 → j < Γ.2.2.2.2.2.2.2.2.2.2.2.1 := fun j h => by rw [hm]; exact h
  have hR : ∀ (d' mL : Nat), d' + 1 ≤ 1 ∧ 8 + (mL + 11) + d' * 64 ≤ 1 * 64 → (pb_rm d').frames + 1 ≤ Γ.2.2.2.1.frames ∧ 8 + (mL + 11) + (pb_rm d').locals ≤ Γ.2.2.2.1.locals := by rw [hRm0]; exact fun _ _ h => h
  have hRm : 1 ≤ 1 ∧ 64 ≤ 1 * 64 → 1 ≤ Γ.2.2.2.1.frames ∧ 64 ≤ Γ.2.2.2.1.locals := by rw [hRm0]; exact fun h => h
  exact pb_tt_snd _ (List.forall_mem_cons.mpr ⟨(s_aload_n (pc := 0) X dX3_addMember_0 rfl (s_getR (pc := 1) X dX3_addMember_1 g_X3_11 (s_aload_n (pc := 4) X dX3_addMember_4 rfl (s_getI (pc := 5) X dX3_addMember_5 g_X3_27 (s_iload_n (pc := 8) X dX3_addMember_8 rfl (s_iast (pc := 9) X dX3_addMember_9 h_46 (s_aload_n (pc := 10) X dX3_addMember_10 rfl (s_getR (pc := 11) X dX3_addMember_11 g_X3_15 (s_aload_n (pc := 14) X dX3_addMember_14 rfl (s_getI (pc := 15) X dX3_addMember_15 g_X3_27 (s_iload_n (pc := 18) X dX3_addMember_18 rfl (s_iast (pc := 19) X dX3_addMember_19 h_47 (s_aload_n (pc := 20) X dX3_addMember_20 rfl (s_getR (pc := 21) X dX3_addMember_21 g_X3_18 (s_aload_n (pc := 24) X dX3_addMember_24 rfl (s_getI (pc := 25) X dX3_addMember_25 g_X3_27 (s_iload_n (pc := 28) X dX3_addMember_28 rfl (s_iast (pc := 29) X dX3_addMember_29 h_48 (s_aload_n (pc := 30) X dX3_addMember_30 rfl (s_getR (pc := 31) X dX3_addMember_31 g_X3_21 (s_aload_n (pc := 34) X dX3_addMember_34 rfl (s_getI (pc := 35) X dX3_addMember_35 g_X3_27 (s_iload (pc := 38) X dX3_addMember_38 (s_iast (pc := 40) X dX3_addMember_40 h_49 (s_aload_n (pc := 41) X dX3_addMember_41 rfl (s_dupR (pc := 42) X dX3_addMember_42 (s_getI (pc := 43) X dX3_addMember_43 g_X3_27 (s_iconst (pc := 46) X dX3_addMember_46 rfl (s_iadd (pc := 47) X dX3_addMember_47 (s_putI (pc := 48) X dX3_addMember_48 p_X3_27 (s_vret (pc := 51) X E hr dX3_addMember_51))))))))))))))))))))))))))))))), fun _ h => absurd h List.not_mem_nil⟩)
theorem dX11_member_0 : decode cX11_member 0 = .ok (.iload_n 3, 1) := by decide +kernel
theorem dX11_member_1 : decode cX11_member 1 = .ok (.iconst 0, 1) := by decide +kernel
theorem dX11_member_2 : decode cX11_member 2 = .ok (.sipush 519, 3) := by decide +kernel
theorem dX11_member_5 : decode cX11_member 5 = .ok (.invokestatic 101, 3) := by decide +kernel
theorem dX11_member_8 : decode cX11_member 8 = .ok (.ifCond .ne 24, 3) := by decide +kernel
theorem dX11_member_11 : decode cX11_member 11 = .ok (.iload 4, 2) := by decide +kernel
theorem dX11_member_13 : decode cX11_member 13 = .ok (.iload_n 3, 1) := by decide +kernel
theorem dX11_member_14 : decode cX11_member 14 = .ok (.sipush 519, 3) := by decide +kernel
theorem dX11_member_17 : decode cX11_member 17 = .ok (.invokestatic 101, 3) := by decide +kernel
theorem dX11_member_20 : decode cX11_member 20 = .ok (.ifCond .ne 12, 3) := by decide +kernel
theorem dX11_member_23 : decode cX11_member 23 = .ok (.iload_n 3, 1) := by decide +kernel
theorem dX11_member_24 : decode cX11_member 24 = .ok (.iload_n 2, 1) := by decide +kernel
theorem dX11_member_25 : decode cX11_member 25 = .ok (.if_icmp .lt 7, 3) := by decide +kernel
theorem dX11_member_28 : decode cX11_member 28 = .ok (.iconst 1, 1) := by decide +kernel
theorem dX11_member_29 : decode cX11_member 29 = .ok (.goto 4, 3) := by decide +kernel
theorem dX11_member_32 : decode cX11_member 32 = .ok (.iconst 0, 1) := by decide +kernel
theorem dX11_member_33 : decode cX11_member 33 = .ok (.istore 5, 2) := by decide +kernel
theorem dX11_member_35 : decode cX11_member 35 = .ok (.aload_n 0, 1) := by decide +kernel
theorem dX11_member_36 : decode cX11_member 36 = .ok (.getfield 30, 3) := by decide +kernel
theorem dX11_member_39 : decode cX11_member 39 = .ok (.iload_n 1, 1) := by decide +kernel
theorem dX11_member_40 : decode cX11_member 40 = .ok (.invokevirtual 293, 3) := by decide +kernel
theorem dX11_member_43 : decode cX11_member 43 = .ok (.ifCond .eq 21, 3) := by decide +kernel
theorem dX11_member_46 : decode cX11_member 46 = .ok (.iload_n 2, 1) := by decide +kernel
theorem dX11_member_47 : decode cX11_member 47 = .ok (.sipush (-5200), 3) := by decide +kernel
theorem dX11_member_50 : decode cX11_member 50 = .ok (.sipush 519, 3) := by decide +kernel
theorem dX11_member_53 : decode cX11_member 53 = .ok (.invokestatic 101, 3) := by decide +kernel
theorem dX11_member_56 : decode cX11_member 56 = .ok (.ifCond .ne 8, 3) := by decide +kernel
theorem dX11_member_59 : decode cX11_member 59 = .ok (.iload 5, 2) := by decide +kernel
theorem dX11_member_61 : decode cX11_member 61 = .ok (.ifCond .ne 11, 3) := by decide +kernel
theorem dX11_member_64 : decode cX11_member 64 = .ok (.aload_n 0, 1) := by decide +kernel
theorem dX11_member_65 : decode cX11_member 65 = .ok (.iconst 1, 1) := by decide +kernel
theorem dX11_member_66 : decode cX11_member 66 = .ok (.putfield 9, 3) := by decide +kernel
theorem dX11_member_69 : decode cX11_member 69 = .ok (.goto 24, 3) := by decide +kernel
theorem dX11_member_72 : decode cX11_member 72 = .ok (.aload_n 0, 1) := by decide +kernel
theorem dX11_member_73 : decode cX11_member 73 = .ok (.aload_n 0, 1) := by decide +kernel
theorem dX11_member_74 : decode cX11_member 74 = .ok (.getfield 69, 3) := by decide +kernel
theorem dX11_member_77 : decode cX11_member 77 = .ok (.getfield 296, 3) := by decide +kernel
theorem dX11_member_80 : decode cX11_member 80 = .ok (.bipush 40, 2) := by decide +kernel
theorem dX11_member_82 : decode cX11_member 82 = .ok (.if_icmp .lt 7, 3) := by decide +kernel
theorem dX11_member_85 : decode cX11_member 85 = .ok (.iconst 4, 1) := by decide +kernel
theorem dX11_member_86 : decode cX11_member 86 = .ok (.goto 4, 3) := by decide +kernel
theorem dX11_member_89 : decode cX11_member 89 = .ok (.iconst 0, 1) := by decide +kernel
theorem dX11_member_90 : decode cX11_member 90 = .ok (.putfield 9, 3) := by decide +kernel
theorem dX11_member_93 : decode cX11_member 93 = .ok (.aload_n 0, 1) := by decide +kernel
theorem dX11_member_94 : decode cX11_member 94 = .ok (.getfield 9, 3) := by decide +kernel
theorem dX11_member_97 : decode cX11_member 97 = .ok (.ifCond .ne 15, 3) := by decide +kernel
theorem dX11_member_100 : decode cX11_member 100 = .ok (.aload_n 0, 1) := by decide +kernel
theorem dX11_member_101 : decode cX11_member 101 = .ok (.getfield 69, 3) := by decide +kernel
theorem dX11_member_104 : decode cX11_member 104 = .ok (.iload_n 1, 1) := by decide +kernel
theorem dX11_member_105 : decode cX11_member 105 = .ok (.iload_n 2, 1) := by decide +kernel
theorem dX11_member_106 : decode cX11_member 106 = .ok (.iload_n 3, 1) := by decide +kernel
theorem dX11_member_107 : decode cX11_member 107 = .ok (.iload 4, 2) := by decide +kernel
theorem dX11_member_109 : decode cX11_member 109 = .ok (.invokevirtual 299, 3) := by decide +kernel
theorem dX11_member_112 : decode cX11_member 112 = .ok (.aload_n 0, 1) := by decide +kernel
theorem dX11_member_113 : decode cX11_member 113 = .ok (.getfield 9, 3) := by decide +kernel
theorem dX11_member_116 : decode cX11_member 116 = .ok (.ifCond .ne 7, 3) := by decide +kernel
theorem dX11_member_119 : decode cX11_member 119 = .ok (.iconst 1, 1) := by decide +kernel
theorem dX11_member_120 : decode cX11_member 120 = .ok (.goto 4, 3) := by decide +kernel
theorem dX11_member_123 : decode cX11_member 123 = .ok (.iconst 0, 1) := by decide +kernel
theorem dX11_member_124 : decode cX11_member 124 = .ok (.ireturn, 1) := by decide +kernel
noncomputable def B_X11_member_0 : pb_C := (i_iload 3 (i_const (.int 0) (i_const (.int 519) (i_callS 3 1 M_X11_outside (i_if_ne (i_const (.int 0) (i_jmp 33 [true, true, true, true, true, false])) (i_iload 4 (i_iload 3 (i_const (.int 519) (i_callS 3 1 M_X11_outside (i_if_ne (i_const (.int 0) (i_jmp 33 [true, true, true, true, true, false])) (i_iload 3 (i_iload 2 (i_ic_lt (i_const (.int 0) (i_jmp 33 [true, true, true, true, true, false])) (i_const (.int 1) (i_jmp 33 [true, true, true, true, true, false])))))))))))))))
noncomputable def B_X11_member_33 : pb_C := (i_istore 5 (i_aload 0 (i_getR 0 5 (i_iload 1 (i_callV 5 1 1 M_X1_hasFamily (i_if_eq (i_aload 0 (i_const (.int 1) (i_putI 0 0 (i_jmp 93 [true, true, true, true, true, false])))) (i_iload 2 (i_const (.int (-5200)) (i_const (.int 519) (i_callS 3 1 M_X11_outside (i_if_ne (i_aload 0 (i_const (.int 1) (i_putI 0 0 (i_jmp 93 [true, true, true, true, true, false])))) (i_iload 5 (i_if_ne (i_aload 0 (i_aload 0 (i_getR 0 45 (i_getI 45 0 (i_const (.int 40) (i_ic_lt (i_const (.int 0) (i_putI 0 0 (i_jmp 93 [true, true, true, true, true, false]))) (i_const (.int 4) (i_putI 0 0 (i_jmp 93 [true, true, true, true, true, false]))))))))) (i_aload 0 (i_const (.int 1) (i_putI 0 0 (i_jmp 93 [true, true, true, true, true, false])))))))))))))))))
noncomputable def B_X11_member_93 : pb_C := (i_aload 0 (i_getI 0 0 (i_if_ne (i_aload 0 (i_getI 0 0 (i_if_ne (i_const (.int 0) i_zret) (i_const (.int 1) i_zret)))) (i_aload 0 (i_getR 0 45 (i_iload 1 (i_iload 2 (i_iload 3 (i_iload 4 (i_callV 45 4 0 M_X3_addMember (i_aload 0 (i_getI 0 0 (i_if_ne (i_const (.int 0) i_zret) (i_const (.int 1) i_zret))))))))))))))
noncomputable def T_X11_member : Nat → pb_C := pb_tt [(0, B_X11_member_0), (33, B_X11_member_33), (93, B_X11_member_93)]
noncomputable def M_X11_member : pb_F := pb_M T_X11_member 6
set_option maxRecDepth 100000 in
set_option maxHeartbeats 4000000 in
theorem S_X11_member (l : Launch) : pb_Sound l yX11_member cX11_member 6 (some .boolean) 2 M_X11_member := by
  refine pb_sound_of (by decide) m_5_190 ?_
  intro Γ hl0 hRm0 hm X E hr J
  have hnL : ∀ j, j < 6 → j < Γ.2.2.2.2.2.2.2.2.2.2.2.1 := fun j h => by rw [hm]; exact h
  have hR : ∀ (d' mL : Nat), d' + 1 ≤ 2 ∧ 8 + (mL + 11) + d' * 64 ≤ 2 * 64 → (pb_rm d').frames + 1 ≤ Γ.2.2.2.1.frames ∧ 8 + (mL + 11) + (pb_rm d').locals ≤ Γ.2.2.2.1.locals := by rw [hRm0]; exact fun _ _ h => h
  have hRm : 1 ≤ 2 ∧ 64 ≤ 2 * 64 → 1 ≤ Γ.2.2.2.1.frames ∧ 64 ≤ Γ.2.2.2.1.locals := by rw [hRm0]; exact fun h => h
  exact pb_tt_snd _ (List.forall_mem_cons.mpr ⟨(s_iload_n (pc := 0) X dX11_member_0 rfl (s_iconst (pc := 1) X dX11_member_1 rfl (s_sipush (pc := 2) X dX11_member_2 rfl (s_callS (pc := 5) X dX11_member_5 (S_X11_outside _) q_X11_101 (hR _ _ (by decide)) (s_if_ne (pc := 8) X dX11_member_8 (by decide) (s_iconst (pc := 32) X dX11_member_32 rfl (s_jmp (pc := 33) J [true, true, true, true, true, false])) (s_iload (pc := 11) X dX11_member_11 (s_iload_n (pc := 13) X dX11_member_13 rfl (s_sipush (pc := 14) X dX11_member_14 rfl (s_callS (pc := 17) X dX11_member_17 (S_X11_outside _) q_X11_101 (hR _ _ (by decide)) (s_if_ne (pc := 20) X dX11_member_20 (by decide) (s_iconst (pc := 32) X dX11_member_32 rfl (s_jmp (pc := 33) J [true, true, true, true, true, false])) (s_iload_n (pc := 23) X dX11_member_23 rfl (s_iload_n (pc := 24) X dX11_member_24 rfl (s_ic_lt (pc := 25) X dX11_member_25 (by decide) (s_iconst (pc := 32) X dX11_member_32 rfl (s_jmp (pc := 33) J [true, true, true, true, true, false])) (s_iconst (pc := 28) X dX11_member_28 rfl (s_goto (pc := 29) X dX11_member_29 (by decide) (s_jmp (pc := 33) J [true, true, true, true, true, false])))))))))))))))), List.forall_mem_cons.mpr ⟨(s_istore (pc := 33) X dX11_member_33 (hnL _ (by decide)) (s_aload_n (pc := 35) X dX11_member_35 rfl (s_getR (pc := 36) X dX11_member_36 g_X11_30 (s_iload_n (pc := 39) X dX11_member_39 rfl (s_callV (pc := 40) X dX11_member_40 (S_X1_hasFamily _) q_X11_293 h_5 rfl (hR _ _ (by decide)) (s_if_eq (pc := 43) X dX11_member_43 (by decide) (s_aload_n (pc := 64) X dX11_member_64 rfl (s_iconst (pc := 65) X dX11_member_65 rfl (s_putI (pc := 66) X dX11_member_66 p_X11_9 (s_goto (pc := 69) X dX11_member_69 (by decide) (s_jmp (pc := 93) J [true, true, true, true, true, false]))))) (s_iload_n (pc := 46) X dX11_member_46 rfl (s_sipush (pc := 47) X dX11_member_47 rfl (s_sipush (pc := 50) X dX11_member_50 rfl (s_callS (pc := 53) X dX11_member_53 (S_X11_outside _) q_X11_101 (hR _ _ (by decide)) (s_if_ne (pc := 56) X dX11_member_56 (by decide) (s_aload_n (pc := 64) X dX11_member_64 rfl (s_iconst (pc := 65) X dX11_member_65 rfl (s_putI (pc := 66) X dX11_member_66 p_X11_9 (s_goto (pc := 69) X dX11_member_69 (by decide) (s_jmp (pc := 93) J [true, true, true, true, true, false]))))) (s_iload (pc := 59) X dX11_member_59 (s_if_ne (pc := 61) X dX11_member_61 (by decide) (s_aload_n (pc := 72) X dX11_member_72 rfl (s_aload_n (pc := 73) X dX11_member_73 rfl (s_getR (pc := 74) X dX11_member_74 g_X11_69 (s_getI (pc := 77) X dX11_member_77 g_X11_296 (s_bipush (pc := 80) X dX11_member_80 rfl (s_ic_lt (pc := 82) X dX11_member_82 (by decide) (s_iconst (pc := 89) X dX11_member_89 rfl (s_putI (pc := 90) X dX11_member_90 p_X11_9 (s_jmp (pc := 93) J [true, true, true, true, true, false]))) (s_iconst (pc := 85) X dX11_member_85 rfl (s_goto (pc := 86) X dX11_member_86 (by decide) (s_putI (pc := 90) X dX11_member_90 p_X11_9 (s_jmp (pc := 93) J [true, true, true, true, true, false])))))))))) (s_aload_n (pc := 64) X dX11_member_64 rfl (s_iconst (pc := 65) X dX11_member_65 rfl (s_putI (pc := 66) X dX11_member_66 p_X11_9 (s_goto (pc := 69) X dX11_member_69 (by decide) (s_jmp (pc := 93) J [true, true, true, true, true, false])))))))))))))))))), List.forall_mem_cons.mpr ⟨(s_aload_n (pc := 93) X dX11_member_93 rfl (s_getI (pc := 94) X dX11_member_94 g_X11_9 (s_if_ne (pc := 97) X dX11_member_97 (by decide) (s_aload_n (pc := 112) X dX11_member_112 rfl (s_getI (pc := 113) X dX11_member_113 g_X11_9 (s_if_ne (pc := 116) X dX11_member_116 (by decide) (s_iconst (pc := 123) X dX11_member_123 rfl (s_zret (pc := 124) X E hr dX11_member_124)) (s_iconst (pc := 119) X dX11_member_119 rfl (s_goto (pc := 120) X dX11_member_120 (by decide) (s_zret (pc := 124) X E hr dX11_member_124)))))) (s_aload_n (pc := 100) X dX11_member_100 rfl (s_getR (pc := 101) X dX11_member_101 g_X11_69 (s_iload_n (pc := 104) X dX11_member_104 rfl (s_iload_n (pc := 105) X dX11_member_105 rfl (s_iload_n (pc := 106) X dX11_member_106 rfl (s_iload (pc := 107) X dX11_member_107 (s_callV (pc := 109) X dX11_member_109 (S_X3_addMember _) q_X11_299 h_45 rfl (hR _ _ (by decide)) (s_aload_n (pc := 112) X dX11_member_112 rfl (s_getI (pc := 113) X dX11_member_113 g_X11_9 (s_if_ne (pc := 116) X dX11_member_116 (by decide) (s_iconst (pc := 123) X dX11_member_123 rfl (s_zret (pc := 124) X E hr dX11_member_124)) (s_iconst (pc := 119) X dX11_member_119 rfl (s_goto (pc := 120) X dX11_member_120 (by decide) (s_zret (pc := 124) X E hr dX11_member_124)))))))))))))))), fun _ h => absurd h List.not_mem_nil⟩⟩⟩)
theorem dX3_rescale_0 : decode cX3_rescale 0 = .ok (.aload_n 0, 1) := by decide +kernel
theorem dX3_rescale_1 : decode cX3_rescale 1 = .ok (.getfield 24, 3) := by decide +kernel
theorem dX3_rescale_4 : decode cX3_rescale 4 = .ok (.iconst 0, 1) := by decide +kernel
theorem dX3_rescale_5 : decode cX3_rescale 5 = .ok (.iload_n 1, 1) := by decide +kernel
theorem dX3_rescale_6 : decode cX3_rescale 6 = .ok (.iastore, 1) := by decide +kernel
theorem dX3_rescale_7 : decode cX3_rescale 7 = .ok (.aload_n 0, 1) := by decide +kernel
theorem dX3_rescale_8 : decode cX3_rescale 8 = .ok (.getfield 24, 3) := by decide +kernel
theorem dX3_rescale_11 : decode cX3_rescale 11 = .ok (.iconst 1, 1) := by decide +kernel
theorem dX3_rescale_12 : decode cX3_rescale 12 = .ok (.iload_n 2, 1) := by decide +kernel
theorem dX3_rescale_13 : decode cX3_rescale 13 = .ok (.iastore, 1) := by decide +kernel
theorem dX3_rescale_14 : decode cX3_rescale 14 = .ok (.aload_n 0, 1) := by decide +kernel
theorem dX3_rescale_15 : decode cX3_rescale 15 = .ok (.getfield 24, 3) := by decide +kernel
theorem dX3_rescale_18 : decode cX3_rescale 18 = .ok (.iconst 2, 1) := by decide +kernel
theorem dX3_rescale_19 : decode cX3_rescale 19 = .ok (.iload_n 3, 1) := by decide +kernel
theorem dX3_rescale_20 : decode cX3_rescale 20 = .ok (.iastore, 1) := by decide +kernel
theorem dX3_rescale_21 : decode cX3_rescale 21 = .ok (.aload_n 0, 1) := by decide +kernel
theorem dX3_rescale_22 : decode cX3_rescale 22 = .ok (.getfield 24, 3) := by decide +kernel
theorem dX3_rescale_25 : decode cX3_rescale 25 = .ok (.iconst 3, 1) := by decide +kernel
theorem dX3_rescale_26 : decode cX3_rescale 26 = .ok (.iload 4, 2) := by decide +kernel
theorem dX3_rescale_28 : decode cX3_rescale 28 = .ok (.iastore, 1) := by decide +kernel
theorem dX3_rescale_29 : decode cX3_rescale 29 = .ok (.return_, 1) := by decide +kernel
noncomputable def B_X3_rescale_0 : pb_C := (i_aload 0 (i_getR 45 50 (i_const (.int 0) (i_iload 1 (i_ast 50 4 (fun x => x) (i_aload 0 (i_getR 45 50 (i_const (.int 1) (i_iload 2 (i_ast 50 4 (fun x => x) (i_aload 0 (i_getR 45 50 (i_const (.int 2) (i_iload 3 (i_ast 50 4 (fun x => x) (i_aload 0 (i_getR 45 50 (i_const (.int 3) (i_iload 4 (i_ast 50 4 (fun x => x) i_vret))))))))))))))))))))
noncomputable def T_X3_rescale : Nat → pb_C := pb_tt [(0, B_X3_rescale_0)]
noncomputable def M_X3_rescale : pb_F := pb_M T_X3_rescale 5
set_option maxRecDepth 100000 in
set_option maxHeartbeats 4000000 in
theorem S_X3_rescale (l : Launch) : pb_Sound l yX3_rescale cX3_rescale 5 none 1 M_X3_rescale := by
  refine pb_sound_of (by decide) m_5_202 ?_
  intro Γ hl0 hRm0 hm X E hr J
  have hnL : ∀ j, j < 5 → j < Γ.2.2.2.2.2.2.2.2.2.2.2.1 := fun j h => by rw [hm]; exact h
  have hR : ∀ (d' mL : Nat), d' + 1 ≤ 1 ∧ 8 + (mL + 11) + d' * 64 ≤ 1 * 64 → (pb_rm d').frames + 1 ≤ Γ.2.2.2.1.frames ∧ 8 + (mL + 11) + (pb_rm d').locals ≤ Γ.2.2.2.1.locals := by rw [hRm0]; exact fun _ _ h => h
  have hRm : 1 ≤ 1 ∧ 64 ≤ 1 * 64 → 1 ≤ Γ.2.2.2.1.frames ∧ 64 ≤ Γ.2.2.2.1.locals := by rw [hRm0]; exact fun h => h
  exact pb_tt_snd _ (List.forall_mem_cons.mpr ⟨(s_aload_n (pc := 0) X dX3_rescale_0 rfl (s_getR (pc := 1) X dX3_rescale_1 g_X3_24 (s_iconst (pc := 4) X dX3_rescale_4 rfl (s_iload_n (pc := 5) X dX3_rescale_5 rfl (s_iast (pc := 6) X dX3_rescale_6 h_50 (s_aload_n (pc := 7) X dX3_rescale_7 rfl (s_getR (pc := 8) X dX3_rescale_8 g_X3_24 (s_iconst (pc := 11) X dX3_rescale_11 rfl (s_iload_n (pc := 12) X dX3_rescale_12 rfl (s_iast (pc := 13) X dX3_rescale_13 h_50 (s_aload_n (pc := 14) X dX3_rescale_14 rfl (s_getR (pc := 15) X dX3_rescale_15 g_X3_24 (s_iconst (pc := 18) X dX3_rescale_18 rfl (s_iload_n (pc := 19) X dX3_rescale_19 rfl (s_iast (pc := 20) X dX3_rescale_20 h_50 (s_aload_n (pc := 21) X dX3_rescale_21 rfl (s_getR (pc := 22) X dX3_rescale_22 g_X3_24 (s_iconst (pc := 25) X dX3_rescale_25 rfl (s_iload (pc := 26) X dX3_rescale_26 (s_iast (pc := 28) X dX3_rescale_28 h_50 (s_vret (pc := 29) X E hr dX3_rescale_29))))))))))))))))))))), fun _ h => absurd h List.not_mem_nil⟩)
theorem dX11_scale_0 : decode cX11_scale 0 = .ok (.iload_n 1, 1) := by decide +kernel
theorem dX11_scale_1 : decode cX11_scale 1 = .ok (.iconst 0, 1) := by decide +kernel
theorem dX11_scale_2 : decode cX11_scale 2 = .ok (.bipush 100, 2) := by decide +kernel
theorem dX11_scale_4 : decode cX11_scale 4 = .ok (.invokestatic 101, 3) := by decide +kernel
theorem dX11_scale_7 : decode cX11_scale 7 = .ok (.ifCond .ne 34, 3) := by decide +kernel
theorem dX11_scale_10 : decode cX11_scale 10 = .ok (.iload_n 2, 1) := by decide +kernel
theorem dX11_scale_11 : decode cX11_scale 11 = .ok (.iconst 0, 1) := by decide +kernel
theorem dX11_scale_12 : decode cX11_scale 12 = .ok (.bipush 100, 2) := by decide +kernel
theorem dX11_scale_14 : decode cX11_scale 14 = .ok (.invokestatic 101, 3) := by decide +kernel
theorem dX11_scale_17 : decode cX11_scale 17 = .ok (.ifCond .ne 24, 3) := by decide +kernel
theorem dX11_scale_20 : decode cX11_scale 20 = .ok (.iload_n 3, 1) := by decide +kernel
theorem dX11_scale_21 : decode cX11_scale 21 = .ok (.iconst 0, 1) := by decide +kernel
theorem dX11_scale_22 : decode cX11_scale 22 = .ok (.bipush 100, 2) := by decide +kernel
theorem dX11_scale_24 : decode cX11_scale 24 = .ok (.invokestatic 101, 3) := by decide +kernel
theorem dX11_scale_27 : decode cX11_scale 27 = .ok (.ifCond .ne 14, 3) := by decide +kernel
theorem dX11_scale_30 : decode cX11_scale 30 = .ok (.iload 4, 2) := by decide +kernel
theorem dX11_scale_32 : decode cX11_scale 32 = .ok (.iconst 0, 1) := by decide +kernel
theorem dX11_scale_33 : decode cX11_scale 33 = .ok (.bipush 100, 2) := by decide +kernel
theorem dX11_scale_35 : decode cX11_scale 35 = .ok (.invokestatic 101, 3) := by decide +kernel
theorem dX11_scale_38 : decode cX11_scale 38 = .ok (.ifCond .eq 7, 3) := by decide +kernel
theorem dX11_scale_41 : decode cX11_scale 41 = .ok (.iconst 1, 1) := by decide +kernel
theorem dX11_scale_42 : decode cX11_scale 42 = .ok (.goto 4, 3) := by decide +kernel
theorem dX11_scale_45 : decode cX11_scale 45 = .ok (.iconst 0, 1) := by decide +kernel
theorem dX11_scale_46 : decode cX11_scale 46 = .ok (.istore 5, 2) := by decide +kernel
theorem dX11_scale_48 : decode cX11_scale 48 = .ok (.aload_n 0, 1) := by decide +kernel
theorem dX11_scale_49 : decode cX11_scale 49 = .ok (.iload 5, 2) := by decide +kernel
theorem dX11_scale_51 : decode cX11_scale 51 = .ok (.ifCond .eq 7, 3) := by decide +kernel
theorem dX11_scale_54 : decode cX11_scale 54 = .ok (.iconst 1, 1) := by decide +kernel
theorem dX11_scale_55 : decode cX11_scale 55 = .ok (.goto 4, 3) := by decide +kernel
theorem dX11_scale_58 : decode cX11_scale 58 = .ok (.iconst 0, 1) := by decide +kernel
theorem dX11_scale_59 : decode cX11_scale 59 = .ok (.putfield 9, 3) := by decide +kernel
theorem dX11_scale_62 : decode cX11_scale 62 = .ok (.aload_n 0, 1) := by decide +kernel
theorem dX11_scale_63 : decode cX11_scale 63 = .ok (.getfield 9, 3) := by decide +kernel
theorem dX11_scale_66 : decode cX11_scale 66 = .ok (.ifCond .ne 15, 3) := by decide +kernel
theorem dX11_scale_69 : decode cX11_scale 69 = .ok (.aload_n 0, 1) := by decide +kernel
theorem dX11_scale_70 : decode cX11_scale 70 = .ok (.getfield 69, 3) := by decide +kernel
theorem dX11_scale_73 : decode cX11_scale 73 = .ok (.iload_n 1, 1) := by decide +kernel
theorem dX11_scale_74 : decode cX11_scale 74 = .ok (.iload_n 2, 1) := by decide +kernel
theorem dX11_scale_75 : decode cX11_scale 75 = .ok (.iload_n 3, 1) := by decide +kernel
theorem dX11_scale_76 : decode cX11_scale 76 = .ok (.iload 4, 2) := by decide +kernel
theorem dX11_scale_78 : decode cX11_scale 78 = .ok (.invokevirtual 303, 3) := by decide +kernel
theorem dX11_scale_81 : decode cX11_scale 81 = .ok (.aload_n 0, 1) := by decide +kernel
theorem dX11_scale_82 : decode cX11_scale 82 = .ok (.getfield 9, 3) := by decide +kernel
theorem dX11_scale_85 : decode cX11_scale 85 = .ok (.ifCond .ne 7, 3) := by decide +kernel
theorem dX11_scale_88 : decode cX11_scale 88 = .ok (.iconst 1, 1) := by decide +kernel
theorem dX11_scale_89 : decode cX11_scale 89 = .ok (.goto 4, 3) := by decide +kernel
theorem dX11_scale_92 : decode cX11_scale 92 = .ok (.iconst 0, 1) := by decide +kernel
theorem dX11_scale_93 : decode cX11_scale 93 = .ok (.ireturn, 1) := by decide +kernel
noncomputable def B_X11_scale_0 : pb_C := (i_iload 1 (i_const (.int 0) (i_const (.int 100) (i_callS 3 1 M_X11_outside (i_if_ne (i_const (.int 1) (i_istore 5 (i_aload 0 (i_iload 5 (i_if_eq (i_const (.int 0) (i_jmp 59 [true, true, true, true, true, false])) (i_const (.int 1) (i_jmp 59 [true, true, true, true, true, false]))))))) (i_iload 2 (i_const (.int 0) (i_const (.int 100) (i_callS 3 1 M_X11_outside (i_if_ne (i_const (.int 1) (i_istore 5 (i_aload 0 (i_iload 5 (i_if_eq (i_const (.int 0) (i_jmp 59 [true, true, true, true, true, false])) (i_const (.int 1) (i_jmp 59 [true, true, true, true, true, false]))))))) (i_iload 3 (i_const (.int 0) (i_const (.int 100) (i_callS 3 1 M_X11_outside (i_if_ne (i_const (.int 1) (i_istore 5 (i_aload 0 (i_iload 5 (i_if_eq (i_const (.int 0) (i_jmp 59 [true, true, true, true, true, false])) (i_const (.int 1) (i_jmp 59 [true, true, true, true, true, false]))))))) (i_iload 4 (i_const (.int 0) (i_const (.int 100) (i_callS 3 1 M_X11_outside (i_if_eq (i_const (.int 0) (i_istore 5 (i_aload 0 (i_iload 5 (i_if_eq (i_const (.int 0) (i_jmp 59 [true, true, true, true, true, false])) (i_const (.int 1) (i_jmp 59 [true, true, true, true, true, false]))))))) (i_const (.int 1) (i_istore 5 (i_aload 0 (i_iload 5 (i_if_eq (i_const (.int 0) (i_jmp 59 [true, true, true, true, true, false])) (i_const (.int 1) (i_jmp 59 [true, true, true, true, true, false])))))))))))))))))))))))))))
noncomputable def B_X11_scale_59 : pb_C := (i_putI 0 0 (i_aload 0 (i_getI 0 0 (i_if_ne (i_aload 0 (i_getI 0 0 (i_if_ne (i_const (.int 0) i_zret) (i_const (.int 1) i_zret)))) (i_aload 0 (i_getR 0 45 (i_iload 1 (i_iload 2 (i_iload 3 (i_iload 4 (i_callV 45 4 0 M_X3_rescale (i_aload 0 (i_getI 0 0 (i_if_ne (i_const (.int 0) i_zret) (i_const (.int 1) i_zret)))))))))))))))
noncomputable def T_X11_scale : Nat → pb_C := pb_tt [(0, B_X11_scale_0), (59, B_X11_scale_59)]
noncomputable def M_X11_scale : pb_F := pb_M T_X11_scale 6
set_option maxRecDepth 100000 in
set_option maxHeartbeats 4000000 in
theorem S_X11_scale (l : Launch) : pb_Sound l yX11_scale cX11_scale 6 (some .boolean) 2 M_X11_scale := by
  refine pb_sound_of (by decide) m_5_198 ?_
  intro Γ hl0 hRm0 hm X E hr J
  have hnL : ∀ j, j < 6 → j < Γ.2.2.2.2.2.2.2.2.2.2.2.1 := fun j h => by rw [hm]; exact h
  have hR : ∀ (d' mL : Nat), d' + 1 ≤ 2 ∧ 8 + (mL + 11) + d' * 64 ≤ 2 * 64 → (pb_rm d').frames + 1 ≤ Γ.2.2.2.1.frames ∧ 8 + (mL + 11) + (pb_rm d').locals ≤ Γ.2.2.2.1.locals := by rw [hRm0]; exact fun _ _ h => h
  have hRm : 1 ≤ 2 ∧ 64 ≤ 2 * 64 → 1 ≤ Γ.2.2.2.1.frames ∧ 64 ≤ Γ.2.2.2.1.locals := by rw [hRm0]; exact fun h => h
  exact pb_tt_snd _ (List.forall_mem_cons.mpr ⟨(s_iload_n (pc := 0) X dX11_scale_0 rfl (s_iconst (pc := 1) X dX11_scale_1 rfl (s_bipush (pc := 2) X dX11_scale_2 rfl (s_callS (pc := 4) X dX11_scale_4 (S_X11_outside _) q_X11_101 (hR _ _ (by decide)) (s_if_ne (pc := 7) X dX11_scale_7 (by decide) (s_iconst (pc := 41) X dX11_scale_41 rfl (s_goto (pc := 42) X dX11_scale_42 (by decide) (s_istore (pc := 46) X dX11_scale_46 (hnL _ (by decide)) (s_aload_n (pc := 48) X dX11_scale_48 rfl (s_iload (pc := 49) X dX11_scale_49 (s_if_eq (pc := 51) X dX11_scale_51 (by decide) (s_iconst (pc := 58) X dX11_scale_58 rfl (s_jmp (pc := 59) J [true, true, true, true, true, false])) (s_iconst (pc := 54) X dX11_scale_54 rfl (s_goto (pc := 55) X dX11_scale_55 (by decide) (s_jmp (pc := 59) J [true, true, true, true, true, false]))))))))) (s_iload_n (pc := 10) X dX11_scale_10 rfl (s_iconst (pc := 11) X dX11_scale_11 rfl (s_bipush (pc := 12) X dX11_scale_12 rfl (s_callS (pc := 14) X dX11_scale_14 (S_X11_outside _) q_X11_101 (hR _ _ (by decide)) (s_if_ne (pc := 17) X dX11_scale_17 (by decide) (s_iconst (pc := 41) X dX11_scale_41 rfl (s_goto (pc := 42) X dX11_scale_42 (by decide) (s_istore (pc := 46) X dX11_scale_46 (hnL _ (by decide)) (s_aload_n (pc := 48) X dX11_scale_48 rfl (s_iload (pc := 49) X dX11_scale_49 (s_if_eq (pc := 51) X dX11_scale_51 (by decide) (s_iconst (pc := 58) X dX11_scale_58 rfl (s_jmp (pc := 59) J [true, true, true, true, true, false])) (s_iconst (pc := 54) X dX11_scale_54 rfl (s_goto (pc := 55) X dX11_scale_55 (by decide) (s_jmp (pc := 59) J [true, true, true, true, true, false]))))))))) (s_iload_n (pc := 20) X dX11_scale_20 rfl (s_iconst (pc := 21) X dX11_scale_21 rfl (s_bipush (pc := 22) X dX11_scale_22 rfl (s_callS (pc := 24) X dX11_scale_24 (S_X11_outside _) q_X11_101 (hR _ _ (by decide)) (s_if_ne (pc := 27) X dX11_scale_27 (by decide) (s_iconst (pc := 41) X dX11_scale_41 rfl (s_goto (pc := 42) X dX11_scale_42 (by decide) (s_istore (pc := 46) X dX11_scale_46 (hnL _ (by decide)) (s_aload_n (pc := 48) X dX11_scale_48 rfl (s_iload (pc := 49) X dX11_scale_49 (s_if_eq (pc := 51) X dX11_scale_51 (by decide) (s_iconst (pc := 58) X dX11_scale_58 rfl (s_jmp (pc := 59) J [true, true, true, true, true, false])) (s_iconst (pc := 54) X dX11_scale_54 rfl (s_goto (pc := 55) X dX11_scale_55 (by decide) (s_jmp (pc := 59) J [true, true, true, true, true, false]))))))))) (s_iload (pc := 30) X dX11_scale_30 (s_iconst (pc := 32) X dX11_scale_32 rfl (s_bipush (pc := 33) X dX11_scale_33 rfl (s_callS (pc := 35) X dX11_scale_35 (S_X11_outside _) q_X11_101 (hR _ _ (by decide)) (s_if_eq (pc := 38) X dX11_scale_38 (by decide) (s_iconst (pc := 45) X dX11_scale_45 rfl (s_istore (pc := 46) X dX11_scale_46 (hnL _ (by decide)) (s_aload_n (pc := 48) X dX11_scale_48 rfl (s_iload (pc := 49) X dX11_scale_49 (s_if_eq (pc := 51) X dX11_scale_51 (by decide) (s_iconst (pc := 58) X dX11_scale_58 rfl (s_jmp (pc := 59) J [true, true, true, true, true, false])) (s_iconst (pc := 54) X dX11_scale_54 rfl (s_goto (pc := 55) X dX11_scale_55 (by decide) (s_jmp (pc := 59) J [true, true, true, true, true, false])))))))) (s_iconst (pc := 41) X dX11_scale_41 rfl (s_goto (pc := 42) X dX11_scale_42 (by decide) (s_istore (pc := 46) X dX11_scale_46 (hnL _ (by decide)) (s_aload_n (pc := 48) X dX11_scale_48 rfl (s_iload (pc := 49) X dX11_scale_49 (s_if_eq (pc := 51) X dX11_scale_51 (by decide) (s_iconst (pc := 58) X dX11_scale_58 rfl (s_jmp (pc := 59) J [true, true, true, true, true, false])) (s_iconst (pc := 54) X dX11_scale_54 rfl (s_goto (pc := 55) X dX11_scale_55 (by decide) (s_jmp (pc := 59) J [true, true, true, true, true, false]))))))))))))))))))))))))))))), List.forall_mem_cons.mpr ⟨(s_putI (pc := 59) X dX11_scale_59 p_X11_9 (s_aload_n (pc := 62) X dX11_scale_62 rfl (s_getI (pc := 63) X dX11_scale_63 g_X11_9 (s_if_ne (pc := 66) X dX11_scale_66 (by decide) (s_aload_n (pc := 81) X dX11_scale_81 rfl (s_getI (pc := 82) X dX11_scale_82 g_X11_9 (s_if_ne (pc := 85) X dX11_scale_85 (by decide) (s_iconst (pc := 92) X dX11_scale_92 rfl (s_zret (pc := 93) X E hr dX11_scale_93)) (s_iconst (pc := 88) X dX11_scale_88 rfl (s_goto (pc := 89) X dX11_scale_89 (by decide) (s_zret (pc := 93) X E hr dX11_scale_93)))))) (s_aload_n (pc := 69) X dX11_scale_69 rfl (s_getR (pc := 70) X dX11_scale_70 g_X11_69 (s_iload_n (pc := 73) X dX11_scale_73 rfl (s_iload_n (pc := 74) X dX11_scale_74 rfl (s_iload_n (pc := 75) X dX11_scale_75 rfl (s_iload (pc := 76) X dX11_scale_76 (s_callV (pc := 78) X dX11_scale_78 (S_X3_rescale _) q_X11_303 h_45 rfl (hR _ _ (by decide)) (s_aload_n (pc := 81) X dX11_scale_81 rfl (s_getI (pc := 82) X dX11_scale_82 g_X11_9 (s_if_ne (pc := 85) X dX11_scale_85 (by decide) (s_iconst (pc := 92) X dX11_scale_92 rfl (s_zret (pc := 93) X E hr dX11_scale_93)) (s_iconst (pc := 88) X dX11_scale_88 rfl (s_goto (pc := 89) X dX11_scale_89 (by decide) (s_zret (pc := 93) X E hr dX11_scale_93))))))))))))))))), fun _ h => absurd h List.not_mem_nil⟩⟩)
theorem dX3_together_0 : decode cX3_together 0 = .ok (.iconst 0, 1) := by decide +kernel
theorem dX3_together_1 : decode cX3_together 1 = .ok (.istore_n 3, 1) := by decide +kernel
theorem dX3_together_2 : decode cX3_together 2 = .ok (.iconst 0, 1) := by decide +kernel
theorem dX3_together_3 : decode cX3_together 3 = .ok (.istore 4, 2) := by decide +kernel
theorem dX3_together_5 : decode cX3_together 5 = .ok (.iload 4, 2) := by decide +kernel
theorem dX3_together_7 : decode cX3_together 7 = .ok (.aload_n 0, 1) := by decide +kernel
theorem dX3_together_8 : decode cX3_together 8 = .ok (.getfield 27, 3) := by decide +kernel
theorem dX3_together_11 : decode cX3_together 11 = .ok (.if_icmp .ge 76, 3) := by decide +kernel
theorem dX3_together_14 : decode cX3_together 14 = .ok (.aload_n 0, 1) := by decide +kernel
theorem dX3_together_15 : decode cX3_together 15 = .ok (.getfield 11, 3) := by decide +kernel
theorem dX3_together_18 : decode cX3_together 18 = .ok (.iload 4, 2) := by decide +kernel
theorem dX3_together_20 : decode cX3_together 20 = .ok (.iaload, 1) := by decide +kernel
theorem dX3_together_21 : decode cX3_together 21 = .ok (.iload_n 1, 1) := by decide +kernel
theorem dX3_together_22 : decode cX3_together 22 = .ok (.if_icmp .ne 59, 3) := by decide +kernel
theorem dX3_together_25 : decode cX3_together 25 = .ok (.aload_n 0, 1) := by decide +kernel
theorem dX3_together_26 : decode cX3_together 26 = .ok (.getfield 18, 3) := by decide +kernel
theorem dX3_together_29 : decode cX3_together 29 = .ok (.iload 4, 2) := by decide +kernel
theorem dX3_together_31 : decode cX3_together 31 = .ok (.iaload, 1) := by decide +kernel
theorem dX3_together_32 : decode cX3_together 32 = .ok (.iload_n 2, 1) := by decide +kernel
theorem dX3_together_33 : decode cX3_together 33 = .ok (.if_icmp .gt 48, 3) := by decide +kernel
theorem dX3_together_36 : decode cX3_together 36 = .ok (.iload_n 2, 1) := by decide +kernel
theorem dX3_together_37 : decode cX3_together 37 = .ok (.aload_n 0, 1) := by decide +kernel
theorem dX3_together_38 : decode cX3_together 38 = .ok (.getfield 21, 3) := by decide +kernel
theorem dX3_together_41 : decode cX3_together 41 = .ok (.iload 4, 2) := by decide +kernel
theorem dX3_together_43 : decode cX3_together 43 = .ok (.iaload, 1) := by decide +kernel
theorem dX3_together_44 : decode cX3_together 44 = .ok (.if_icmp .gt 37, 3) := by decide +kernel
theorem dX3_together_47 : decode cX3_together 47 = .ok (.iload_n 2, 1) := by decide +kernel
theorem dX3_together_48 : decode cX3_together 48 = .ok (.aload_n 0, 1) := by decide +kernel
theorem dX3_together_49 : decode cX3_together 49 = .ok (.getfield 15, 3) := by decide +kernel
theorem dX3_together_52 : decode cX3_together 52 = .ok (.iload 4, 2) := by decide +kernel
theorem dX3_together_54 : decode cX3_together 54 = .ok (.iaload, 1) := by decide +kernel
theorem dX3_together_55 : decode cX3_together 55 = .ok (.isub, 1) := by decide +kernel
theorem dX3_together_56 : decode cX3_together 56 = .ok (.bipush 52, 2) := by decide +kernel
theorem dX3_together_58 : decode cX3_together 58 = .ok (.idiv, 1) := by decide +kernel
theorem dX3_together_59 : decode cX3_together 59 = .ok (.istore 5, 2) := by decide +kernel
theorem dX3_together_61 : decode cX3_together 61 = .ok (.iload_n 3, 1) := by decide +kernel
theorem dX3_together_62 : decode cX3_together 62 = .ok (.aload_n 0, 1) := by decide +kernel
theorem dX3_together_63 : decode cX3_together 63 = .ok (.getfield 24, 3) := by decide +kernel
theorem dX3_together_66 : decode cX3_together 66 = .ok (.iconst 3, 1) := by decide +kernel
theorem dX3_together_67 : decode cX3_together 67 = .ok (.iconst 0, 1) := by decide +kernel
theorem dX3_together_68 : decode cX3_together 68 = .ok (.iload 5, 2) := by decide +kernel
theorem dX3_together_70 : decode cX3_together 70 = .ok (.iconst 5, 1) := by decide +kernel
theorem dX3_together_71 : decode cX3_together 71 = .ok (.idiv, 1) := by decide +kernel
theorem dX3_together_72 : decode cX3_together 72 = .ok (.invokestatic 31, 3) := by decide +kernel
theorem dX3_together_75 : decode cX3_together 75 = .ok (.invokestatic 37, 3) := by decide +kernel
theorem dX3_together_78 : decode cX3_together 78 = .ok (.iaload, 1) := by decide +kernel
theorem dX3_together_79 : decode cX3_together 79 = .ok (.iadd, 1) := by decide +kernel
theorem dX3_together_80 : decode cX3_together 80 = .ok (.istore_n 3, 1) := by decide +kernel
theorem dX3_together_81 : decode cX3_together 81 = .ok (.iinc 4 1, 3) := by decide +kernel
theorem dX3_together_84 : decode cX3_together 84 = .ok (.goto (-79), 3) := by decide +kernel
theorem dX3_together_87 : decode cX3_together 87 = .ok (.iload_n 3, 1) := by decide +kernel
theorem dX3_together_88 : decode cX3_together 88 = .ok (.ireturn, 1) := by decide +kernel
noncomputable def B_X3_together_0 : pb_C := (i_const (.int 0) (i_istore 3 (i_const (.int 0) (i_istore 4 (i_jmp 5 [true, true, true, true, true, false])))))
noncomputable def B_X3_together_5 : pb_C := (i_iload 4 (i_aload 0 (i_getI 45 0 (i_ic_ge (i_iload 3 i_iret) (i_aload 0 (i_getR 45 46 (i_iload 4 (i_ald 46 40 (i_iload 1 (i_ic_ne (i_iinc 4 1 (i_jmp 5 [true, true, true, true, true, false])) (i_aload 0 (i_getR 45 48 (i_iload 4 (i_ald 48 40 (i_iload 2 (i_ic_gt (i_iinc 4 1 (i_jmp 5 [true, true, true, true, true, false])) (i_iload 2 (i_aload 0 (i_getR 45 49 (i_iload 4 (i_ald 49 40 (i_ic_gt (i_iinc 4 1 (i_jmp 5 [true, true, true, true, true, false])) (i_iload 2 (i_aload 0 (i_getR 45 47 (i_iload 4 (i_ald 47 40 (i_ibin (· - ·) (i_const (.int 52) (i_idivr (· / ·) (i_istore 5 (i_iload 3 (i_aload 0 (i_getR 45 50 (i_const (.int 3) (i_const (.int 0) (i_iload 5 (i_const (.int 5) (i_idivr (· / ·) (i_mI2 pb_max (i_mI2 pb_min (i_ald 50 4 (i_ibin (· + ·) (i_istore 3 (i_iinc 4 1 (i_jmp 5 [true, true, true, true, true, false]))))))))))))))))))))))))))))))))))))))))))))))
noncomputable def T_X3_together : Nat → pb_C := pb_tt [(0, B_X3_together_0), (5, B_X3_together_5)]
noncomputable def M_X3_together : pb_F := pb_M T_X3_together 6
set_option maxRecDepth 100000 in
set_option maxHeartbeats 4000000 in
theorem S_X3_together (l : Launch) : pb_Sound l yX3_together cX3_together 6 (some .int) 1 M_X3_together := by
  refine pb_sound_of (by decide) m_5_210 ?_
  intro Γ hl0 hRm0 hm X E hr J
  have hnL : ∀ j, j < 6 → j < Γ.2.2.2.2.2.2.2.2.2.2.2.1 := fun j h => by rw [hm]; exact h
  have hR : ∀ (d' mL : Nat), d' + 1 ≤ 1 ∧ 8 + (mL + 11) + d' * 64 ≤ 1 * 64 → (pb_rm d').frames + 1 ≤ Γ.2.2.2.1.frames ∧ 8 + (mL + 11) + (pb_rm d').locals ≤ Γ.2.2.2.1.locals := by rw [hRm0]; exact fun _ _ h => h
  have hRm : 1 ≤ 1 ∧ 64 ≤ 1 * 64 → 1 ≤ Γ.2.2.2.1.frames ∧ 64 ≤ Γ.2.2.2.1.locals := by rw [hRm0]; exact fun h => h
  exact pb_tt_snd _ (List.forall_mem_cons.mpr ⟨(s_iconst (pc := 0) X dX3_together_0 rfl (s_istore_n (pc := 1) X dX3_together_1 rfl (hnL _ (by decide)) (s_iconst (pc := 2) X dX3_together_2 rfl (s_istore (pc := 3) X dX3_together_3 (hnL _ (by decide)) (s_jmp (pc := 5) J [true, true, true, true, true, false]))))), List.forall_mem_cons.mpr ⟨(s_iload (pc := 5) X dX3_together_5 (s_aload_n (pc := 7) X dX3_together_7 rfl (s_getI (pc := 8) X dX3_together_8 g_X3_27 (s_ic_ge (pc := 11) X dX3_together_11 (by decide) (s_iload_n (pc := 87) X dX3_together_87 rfl (s_iret (pc := 88) X E hr dX3_together_88)) (s_aload_n (pc := 14) X dX3_together_14 rfl (s_getR (pc := 15) X dX3_together_15 g_X3_11 (s_iload (pc := 18) X dX3_together_18 (s_iald (pc := 20) X dX3_together_20 h_46 (s_iload_n (pc := 21) X dX3_together_21 rfl (s_ic_ne (pc := 22) X dX3_together_22 (by decide) (s_iinc (pc := 81) X dX3_together_81 rfl (s_goto (pc := 84) X dX3_together_84 (by decide) (s_jmp (pc := 5) J [true, true, true, true, true, false]))) (s_aload_n (pc := 25) X dX3_together_25 rfl (s_getR (pc := 26) X dX3_together_26 g_X3_18 (s_iload (pc := 29) X dX3_together_29 (s_iald (pc := 31) X dX3_together_31 h_48 (s_iload_n (pc := 32) X dX3_together_32 rfl (s_ic_gt (pc := 33) X dX3_together_33 (by decide) (s_iinc (pc := 81) X dX3_together_81 rfl (s_goto (pc := 84) X dX3_together_84 (by decide) (s_jmp (pc := 5) J [true, true, true, true, true, false]))) (s_iload_n (pc := 36) X dX3_together_36 rfl (s_aload_n (pc := 37) X dX3_together_37 rfl (s_getR (pc := 38) X dX3_together_38 g_X3_21 (s_iload (pc := 41) X dX3_together_41 (s_iald (pc := 43) X dX3_together_43 h_49 (s_ic_gt (pc := 44) X dX3_together_44 (by decide) (s_iinc (pc := 81) X dX3_together_81 rfl (s_goto (pc := 84) X dX3_together_84 (by decide) (s_jmp (pc := 5) J [true, true, true, true, true, false]))) (s_iload_n (pc := 47) X dX3_together_47 rfl (s_aload_n (pc := 48) X dX3_together_48 rfl (s_getR (pc := 49) X dX3_together_49 g_X3_15 (s_iload (pc := 52) X dX3_together_52 (s_iald (pc := 54) X dX3_together_54 h_47 (s_isub (pc := 55) X dX3_together_55 (s_bipush (pc := 56) X dX3_together_56 rfl (s_idiv (pc := 58) X dX3_together_58 (s_istore (pc := 59) X dX3_together_59 (hnL _ (by decide)) (s_iload_n (pc := 61) X dX3_together_61 rfl (s_aload_n (pc := 62) X dX3_together_62 rfl (s_getR (pc := 63) X dX3_together_63 g_X3_24 (s_iconst (pc := 66) X dX3_together_66 rfl (s_iconst (pc := 67) X dX3_together_67 rfl (s_iload (pc := 68) X dX3_together_68 (s_iconst (pc := 70) X dX3_together_70 rfl (s_idiv (pc := 71) X dX3_together_71 (s_mmax (pc := 72) X dX3_together_72 m_5_211 mm_mmax (hRm (by decide)) (s_mmin (pc := 75) X dX3_together_75 m_5_212 mm_mmin (hRm (by decide)) (s_iald (pc := 78) X dX3_together_78 h_50 (s_iadd (pc := 79) X dX3_together_79 (s_istore_n (pc := 80) X dX3_together_80 rfl (hnL _ (by decide)) (s_iinc (pc := 81) X dX3_together_81 rfl (s_goto (pc := 84) X dX3_together_84 (by decide) (s_jmp (pc := 5) J [true, true, true, true, true, false]))))))))))))))))))))))))))))))))))))))))))))))), fun _ h => absurd h List.not_mem_nil⟩⟩)
theorem dX11_mouths_0 : decode cX11_mouths 0 = .ok (.aload_n 0, 1) := by decide +kernel
theorem dX11_mouths_1 : decode cX11_mouths 1 = .ok (.aload_n 0, 1) := by decide +kernel
theorem dX11_mouths_2 : decode cX11_mouths 2 = .ok (.iload_n 1, 1) := by decide +kernel
theorem dX11_mouths_3 : decode cX11_mouths 3 = .ok (.iload_n 2, 1) := by decide +kernel
theorem dX11_mouths_4 : decode cX11_mouths 4 = .ok (.invokevirtual 145, 3) := by decide +kernel
theorem dX11_mouths_7 : decode cX11_mouths 7 = .ok (.ifCond .eq 7, 3) := by decide +kernel
theorem dX11_mouths_10 : decode cX11_mouths 10 = .ok (.iconst 1, 1) := by decide +kernel
theorem dX11_mouths_11 : decode cX11_mouths 11 = .ok (.goto 4, 3) := by decide +kernel
theorem dX11_mouths_14 : decode cX11_mouths 14 = .ok (.iconst 0, 1) := by decide +kernel
theorem dX11_mouths_15 : decode cX11_mouths 15 = .ok (.putfield 9, 3) := by decide +kernel
theorem dX11_mouths_18 : decode cX11_mouths 18 = .ok (.aload_n 0, 1) := by decide +kernel
theorem dX11_mouths_19 : decode cX11_mouths 19 = .ok (.getfield 9, 3) := by decide +kernel
theorem dX11_mouths_22 : decode cX11_mouths 22 = .ok (.ifCond .ne 15, 3) := by decide +kernel
theorem dX11_mouths_25 : decode cX11_mouths 25 = .ok (.aload_n 0, 1) := by decide +kernel
theorem dX11_mouths_26 : decode cX11_mouths 26 = .ok (.getfield 69, 3) := by decide +kernel
theorem dX11_mouths_29 : decode cX11_mouths 29 = .ok (.iload_n 1, 1) := by decide +kernel
theorem dX11_mouths_30 : decode cX11_mouths 30 = .ok (.iload_n 2, 1) := by decide +kernel
theorem dX11_mouths_31 : decode cX11_mouths 31 = .ok (.invokevirtual 306, 3) := by decide +kernel
theorem dX11_mouths_34 : decode cX11_mouths 34 = .ok (.goto 4, 3) := by decide +kernel
theorem dX11_mouths_37 : decode cX11_mouths 37 = .ok (.iconst (-1), 1) := by decide +kernel
theorem dX11_mouths_38 : decode cX11_mouths 38 = .ok (.ireturn, 1) := by decide +kernel
noncomputable def B_X11_mouths_0 : pb_C := (i_aload 0 (i_aload 0 (i_iload 1 (i_iload 2 (i_callV 0 2 1 M_X11_noFamilyWeek (i_if_eq (i_const (.int 0) (i_jmp 15 [true, true, true])) (i_const (.int 1) (i_jmp 15 [true, true, true]))))))))
noncomputable def B_X11_mouths_15 : pb_C := (i_putI 0 0 (i_aload 0 (i_getI 0 0 (i_if_ne (i_const (.int (-1)) i_iret) (i_aload 0 (i_getR 0 45 (i_iload 1 (i_iload 2 (i_callV 45 2 1 M_X3_together i_iret)))))))))
noncomputable def T_X11_mouths : Nat → pb_C := pb_tt [(0, B_X11_mouths_0), (15, B_X11_mouths_15)]
noncomputable def M_X11_mouths : pb_F := pb_M T_X11_mouths 3
set_option maxRecDepth 100000 in
set_option maxHeartbeats 4000000 in
theorem S_X11_mouths (l : Launch) : pb_Sound l yX11_mouths cX11_mouths 3 (some .int) 3 M_X11_mouths := by
  refine pb_sound_of (by decide) m_5_206 ?_
  intro Γ hl0 hRm0 hm X E hr J
  have hnL : ∀ j, j < 3 → j < Γ.2.2.2.2.2.2.2.2.2.2.2.1 := fun j h => by rw [hm]; exact h
  have hR : ∀ (d' mL : Nat), d' + 1 ≤ 3 ∧ 8 + (mL + 11) + d' * 64 ≤ 3 * 64 → (pb_rm d').frames + 1 ≤ Γ.2.2.2.1.frames ∧ 8 + (mL + 11) + (pb_rm d').locals ≤ Γ.2.2.2.1.locals := by rw [hRm0]; exact fun _ _ h => h
  have hRm : 1 ≤ 3 ∧ 64 ≤ 3 * 64 → 1 ≤ Γ.2.2.2.1.frames ∧ 64 ≤ Γ.2.2.2.1.locals := by rw [hRm0]; exact fun h => h
  exact pb_tt_snd _ (List.forall_mem_cons.mpr ⟨(s_aload_n (pc := 0) X dX11_mouths_0 rfl (s_aload_n (pc := 1) X dX11_mouths_1 rfl (s_iload_n (pc := 2) X dX11_mouths_2 rfl (s_iload_n (pc := 3) X dX11_mouths_3 rfl (s_callV (pc := 4) X dX11_mouths_4 (S_X11_noFamilyWeek _) q_X11_145 h_0 rfl (hR _ _ (by decide)) (s_if_eq (pc := 7) X dX11_mouths_7 (by decide) (s_iconst (pc := 14) X dX11_mouths_14 rfl (s_jmp (pc := 15) J [true, true, true])) (s_iconst (pc := 10) X dX11_mouths_10 rfl (s_goto (pc := 11) X dX11_mouths_11 (by decide) (s_jmp (pc := 15) J [true, true, true]))))))))), List.forall_mem_cons.mpr ⟨(s_putI (pc := 15) X dX11_mouths_15 p_X11_9 (s_aload_n (pc := 18) X dX11_mouths_18 rfl (s_getI (pc := 19) X dX11_mouths_19 g_X11_9 (s_if_ne (pc := 22) X dX11_mouths_22 (by decide) (s_iconst (pc := 37) X dX11_mouths_37 rfl (s_iret (pc := 38) X E hr dX11_mouths_38)) (s_aload_n (pc := 25) X dX11_mouths_25 rfl (s_getR (pc := 26) X dX11_mouths_26 g_X11_69 (s_iload_n (pc := 29) X dX11_mouths_29 rfl (s_iload_n (pc := 30) X dX11_mouths_30 rfl (s_callV (pc := 31) X dX11_mouths_31 (S_X3_together _) q_X11_306 h_45 rfl (hR _ _ (by decide)) (s_goto (pc := 34) X dX11_mouths_34 (by decide) (s_iret (pc := 38) X E hr dX11_mouths_38))))))))))), fun _ h => absurd h List.not_mem_nil⟩⟩)
theorem dX11_commonDivisor_0 : decode cX11_commonDivisor 0 = .ok (.lload_n 0, 1) := by decide +kernel
theorem dX11_commonDivisor_1 : decode cX11_commonDivisor 1 = .ok (.lstore 4, 2) := by decide +kernel
theorem dX11_commonDivisor_3 : decode cX11_commonDivisor 3 = .ok (.lload_n 2, 1) := by decide +kernel
theorem dX11_commonDivisor_4 : decode cX11_commonDivisor 4 = .ok (.lstore 6, 2) := by decide +kernel
theorem dX11_commonDivisor_6 : decode cX11_commonDivisor 6 = .ok (.iconst 0, 1) := by decide +kernel
theorem dX11_commonDivisor_7 : decode cX11_commonDivisor 7 = .ok (.istore 8, 2) := by decide +kernel
theorem dX11_commonDivisor_9 : decode cX11_commonDivisor 9 = .ok (.iload 8, 2) := by decide +kernel
theorem dX11_commonDivisor_11 : decode cX11_commonDivisor 11 = .ok (.sipush 128, 3) := by decide +kernel
theorem dX11_commonDivisor_14 : decode cX11_commonDivisor 14 = .ok (.if_icmp .ge 31, 3) := by decide +kernel
theorem dX11_commonDivisor_17 : decode cX11_commonDivisor 17 = .ok (.lload 6, 2) := by decide +kernel
theorem dX11_commonDivisor_19 : decode cX11_commonDivisor 19 = .ok (.lconst 0, 1) := by decide +kernel
theorem dX11_commonDivisor_20 : decode cX11_commonDivisor 20 = .ok (.lcmp, 1) := by decide +kernel
theorem dX11_commonDivisor_21 : decode cX11_commonDivisor 21 = .ok (.ifCond .eq 24, 3) := by decide +kernel
theorem dX11_commonDivisor_24 : decode cX11_commonDivisor 24 = .ok (.lload 4, 2) := by decide +kernel
theorem dX11_commonDivisor_26 : decode cX11_commonDivisor 26 = .ok (.lload 6, 2) := by decide +kernel
theorem dX11_commonDivisor_28 : decode cX11_commonDivisor 28 = .ok (.lrem, 1) := by decide +kernel
theorem dX11_commonDivisor_29 : decode cX11_commonDivisor 29 = .ok (.lstore 9, 2) := by decide +kernel
theorem dX11_commonDivisor_31 : decode cX11_commonDivisor 31 = .ok (.lload 6, 2) := by decide +kernel
theorem dX11_commonDivisor_33 : decode cX11_commonDivisor 33 = .ok (.lstore 4, 2) := by decide +kernel
theorem dX11_commonDivisor_35 : decode cX11_commonDivisor 35 = .ok (.lload 9, 2) := by decide +kernel
theorem dX11_commonDivisor_37 : decode cX11_commonDivisor 37 = .ok (.lstore 6, 2) := by decide +kernel
theorem dX11_commonDivisor_39 : decode cX11_commonDivisor 39 = .ok (.iinc 8 1, 3) := by decide +kernel
theorem dX11_commonDivisor_42 : decode cX11_commonDivisor 42 = .ok (.goto (-33), 3) := by decide +kernel
theorem dX11_commonDivisor_45 : decode cX11_commonDivisor 45 = .ok (.lload 4, 2) := by decide +kernel
theorem dX11_commonDivisor_47 : decode cX11_commonDivisor 47 = .ok (.lreturn, 1) := by decide +kernel
noncomputable def B_X11_commonDivisor_0 : pb_C := (i_lload 0 (i_lstore 4 (i_lload 2 (i_lstore 6 (i_const (.int 0) (i_istore 8 (i_jmp 9 [false, false, false, false, true, false, true, false, true, false, false])))))))
noncomputable def B_X11_commonDivisor_9 : pb_C := (i_iload 8 (i_const (.int 128) (i_ic_ge (i_lload 4 i_lret) (i_lload 6 (i_const (.long 0) (i_lcmp (i_if_eq (i_lload 4 i_lret) (i_lload 4 (i_lload 6 (i_ldivr (fun x y => x - x / y * y) (i_lstore 9 (i_lload 6 (i_lstore 4 (i_lload 9 (i_lstore 6 (i_iinc 8 1 (i_jmp 9 [false, false, false, false, true, false, true, false, true, false, false])))))))))))))))))
noncomputable def T_X11_commonDivisor : Nat → pb_C := pb_tt [(0, B_X11_commonDivisor_0), (9, B_X11_commonDivisor_9)]
noncomputable def M_X11_commonDivisor : pb_F := pb_M T_X11_commonDivisor 11
set_option maxRecDepth 100000 in
set_option maxHeartbeats 4000000 in
theorem S_X11_commonDivisor (l : Launch) : pb_Sound l yX11_commonDivisor cX11_commonDivisor 11 (some .long) 1 M_X11_commonDivisor := by
  refine pb_sound_of (by decide) m_5_227 ?_
  intro Γ hl0 hRm0 hm X E hr J
  have hnL : ∀ j, j < 11 → j < Γ.2.2.2.2.2.2.2.2.2.2.2.1 := fun j h => by rw [hm]; exact h
  have hR : ∀ (d' mL : Nat), d' + 1 ≤ 1 ∧ 8 + (mL + 11) + d' * 64 ≤ 1 * 64 → (pb_rm d').frames + 1 ≤ Γ.2.2.2.1.frames ∧ 8 + (mL + 11) + (pb_rm d').locals ≤ Γ.2.2.2.1.locals := by rw [hRm0]; exact fun _ _ h => h
  have hRm : 1 ≤ 1 ∧ 64 ≤ 1 * 64 → 1 ≤ Γ.2.2.2.1.frames ∧ 64 ≤ Γ.2.2.2.1.locals := by rw [hRm0]; exact fun h => h
  exact pb_tt_snd _ (List.forall_mem_cons.mpr ⟨(s_lload_n (pc := 0) X dX11_commonDivisor_0 rfl (s_lstore (pc := 1) X dX11_commonDivisor_1 (hnL _ (by decide)) (s_lload_n (pc := 3) X dX11_commonDivisor_3 rfl (s_lstore (pc := 4) X dX11_commonDivisor_4 (hnL _ (by decide)) (s_iconst (pc := 6) X dX11_commonDivisor_6 rfl (s_istore (pc := 7) X dX11_commonDivisor_7 (hnL _ (by decide)) (s_jmp (pc := 9) J [false, false, false, false, true, false, true, false, true, false, false]))))))), List.forall_mem_cons.mpr ⟨(s_iload (pc := 9) X dX11_commonDivisor_9 (s_sipush (pc := 11) X dX11_commonDivisor_11 rfl (s_ic_ge (pc := 14) X dX11_commonDivisor_14 (by decide) (s_lload (pc := 45) X dX11_commonDivisor_45 (s_lret (pc := 47) X E hr dX11_commonDivisor_47)) (s_lload (pc := 17) X dX11_commonDivisor_17 (s_lconst (pc := 19) X dX11_commonDivisor_19 rfl (s_lcmp (pc := 20) X dX11_commonDivisor_20 (s_if_eq (pc := 21) X dX11_commonDivisor_21 (by decide) (s_lload (pc := 45) X dX11_commonDivisor_45 (s_lret (pc := 47) X E hr dX11_commonDivisor_47)) (s_lload (pc := 24) X dX11_commonDivisor_24 (s_lload (pc := 26) X dX11_commonDivisor_26 (s_lrem (pc := 28) X dX11_commonDivisor_28 (s_lstore (pc := 29) X dX11_commonDivisor_29 (hnL _ (by decide)) (s_lload (pc := 31) X dX11_commonDivisor_31 (s_lstore (pc := 33) X dX11_commonDivisor_33 (hnL _ (by decide)) (s_lload (pc := 35) X dX11_commonDivisor_35 (s_lstore (pc := 37) X dX11_commonDivisor_37 (hnL _ (by decide)) (s_iinc (pc := 39) X dX11_commonDivisor_39 rfl (s_goto (pc := 42) X dX11_commonDivisor_42 (by decide) (s_jmp (pc := 9) J [false, false, false, false, true, false, true, false, true, false, false])))))))))))))))))), fun _ h => absurd h List.not_mem_nil⟩⟩)
theorem dX11_tellFraction_0 : decode cX11_tellFraction 0 = .ok (.lconst 1, 1) := by decide +kernel
theorem dX11_tellFraction_1 : decode cX11_tellFraction 1 = .ok (.lload_n 1, 1) := by decide +kernel
theorem dX11_tellFraction_2 : decode cX11_tellFraction 2 = .ok (.invokestatic 377, 3) := by decide +kernel
theorem dX11_tellFraction_5 : decode cX11_tellFraction 5 = .ok (.lload_n 3, 1) := by decide +kernel
theorem dX11_tellFraction_6 : decode cX11_tellFraction 6 = .ok (.invokestatic 383, 3) := by decide +kernel
theorem dX11_tellFraction_9 : decode cX11_tellFraction 9 = .ok (.invokestatic 387, 3) := by decide +kernel
theorem dX11_tellFraction_12 : decode cX11_tellFraction 12 = .ok (.lstore 5, 2) := by decide +kernel
theorem dX11_tellFraction_14 : decode cX11_tellFraction 14 = .ok (.aload_n 0, 1) := by decide +kernel
theorem dX11_tellFraction_15 : decode cX11_tellFraction 15 = .ok (.lload_n 1, 1) := by decide +kernel
theorem dX11_tellFraction_16 : decode cX11_tellFraction 16 = .ok (.lload 5, 2) := by decide +kernel
theorem dX11_tellFraction_18 : decode cX11_tellFraction 18 = .ok (.ldiv, 1) := by decide +kernel
theorem dX11_tellFraction_19 : decode cX11_tellFraction 19 = .ok (.putfield 13, 3) := by decide +kernel
theorem dX11_tellFraction_22 : decode cX11_tellFraction 22 = .ok (.aload_n 0, 1) := by decide +kernel
theorem dX11_tellFraction_23 : decode cX11_tellFraction 23 = .ok (.lconst 1, 1) := by decide +kernel
theorem dX11_tellFraction_24 : decode cX11_tellFraction 24 = .ok (.lload_n 3, 1) := by decide +kernel
theorem dX11_tellFraction_25 : decode cX11_tellFraction 25 = .ok (.lload 5, 2) := by decide +kernel
theorem dX11_tellFraction_27 : decode cX11_tellFraction 27 = .ok (.ldiv, 1) := by decide +kernel
theorem dX11_tellFraction_28 : decode cX11_tellFraction 28 = .ok (.invokestatic 387, 3) := by decide +kernel
theorem dX11_tellFraction_31 : decode cX11_tellFraction 31 = .ok (.putfield 17, 3) := by decide +kernel
theorem dX11_tellFraction_34 : decode cX11_tellFraction 34 = .ok (.lload_n 1, 1) := by decide +kernel
theorem dX11_tellFraction_35 : decode cX11_tellFraction 35 = .ok (.lconst 0, 1) := by decide +kernel
theorem dX11_tellFraction_36 : decode cX11_tellFraction 36 = .ok (.lcmp, 1) := by decide +kernel
theorem dX11_tellFraction_37 : decode cX11_tellFraction 37 = .ok (.ifCond .ne 5, 3) := by decide +kernel
theorem dX11_tellFraction_40 : decode cX11_tellFraction 40 = .ok (.iconst 0, 1) := by decide +kernel
theorem dX11_tellFraction_41 : decode cX11_tellFraction 41 = .ok (.ireturn, 1) := by decide +kernel
theorem dX11_tellFraction_42 : decode cX11_tellFraction 42 = .ok (.lload_n 1, 1) := by decide +kernel
theorem dX11_tellFraction_43 : decode cX11_tellFraction 43 = .ok (.lconst 0, 1) := by decide +kernel
theorem dX11_tellFraction_44 : decode cX11_tellFraction 44 = .ok (.lcmp, 1) := by decide +kernel
theorem dX11_tellFraction_45 : decode cX11_tellFraction 45 = .ok (.ifCond .le 7, 3) := by decide +kernel
theorem dX11_tellFraction_48 : decode cX11_tellFraction 48 = .ok (.iconst 1, 1) := by decide +kernel
theorem dX11_tellFraction_49 : decode cX11_tellFraction 49 = .ok (.goto 4, 3) := by decide +kernel
theorem dX11_tellFraction_52 : decode cX11_tellFraction 52 = .ok (.iconst (-1), 1) := by decide +kernel
theorem dX11_tellFraction_53 : decode cX11_tellFraction 53 = .ok (.ireturn, 1) := by decide +kernel
noncomputable def B_X11_tellFraction_0 : pb_C := (i_const (.long 1) (i_lload 1 (i_mL1 pb_absL (i_lload 3 (i_callS 2 2 M_X11_commonDivisor (i_mL2 pb_maxL (i_lstore 5 (i_aload 0 (i_lload 1 (i_lload 5 (i_ldivr (· / ·) (i_putL 0 1 (i_aload 0 (i_const (.long 1) (i_lload 3 (i_lload 5 (i_ldivr (· / ·) (i_mL2 pb_maxL (i_putL 0 2 (i_lload 1 (i_const (.long 0) (i_lcmp (i_if_ne (i_lload 1 (i_const (.long 0) (i_lcmp (i_if_le (i_const (.int (-1)) i_iret) (i_const (.int 1) i_iret))))) (i_const (.int 0) i_iret))))))))))))))))))))))))
noncomputable def T_X11_tellFraction : Nat → pb_C := pb_tt [(0, B_X11_tellFraction_0)]
noncomputable def M_X11_tellFraction : pb_F := pb_M T_X11_tellFraction 7
set_option maxRecDepth 100000 in
set_option maxHeartbeats 4000000 in
theorem S_X11_tellFraction (l : Launch) : pb_Sound l yX11_tellFraction cX11_tellFraction 7 (some .int) 2 M_X11_tellFraction := by
  refine pb_sound_of (by decide) m_5_221 ?_
  intro Γ hl0 hRm0 hm X E hr J
  have hnL : ∀ j, j < 7 → j < Γ.2.2.2.2.2.2.2.2.2.2.2.1 := fun j h => by rw [hm]; exact h
  have hR : ∀ (d' mL : Nat), d' + 1 ≤ 2 ∧ 8 + (mL + 11) + d' * 64 ≤ 2 * 64 → (pb_rm d').frames + 1 ≤ Γ.2.2.2.1.frames ∧ 8 + (mL + 11) + (pb_rm d').locals ≤ Γ.2.2.2.1.locals := by rw [hRm0]; exact fun _ _ h => h
  have hRm : 1 ≤ 2 ∧ 64 ≤ 2 * 64 → 1 ≤ Γ.2.2.2.1.frames ∧ 64 ≤ Γ.2.2.2.1.locals := by rw [hRm0]; exact fun h => h
  exact pb_tt_snd _ (List.forall_mem_cons.mpr ⟨(s_lconst (pc := 0) X dX11_tellFraction_0 rfl (s_lload_n (pc := 1) X dX11_tellFraction_1 rfl (s_mabsL (pc := 2) X dX11_tellFraction_2 m_5_222 mm_mabsL (hRm (by decide)) (s_lload_n (pc := 5) X dX11_tellFraction_5 rfl (s_callS (pc := 6) X dX11_tellFraction_6 (S_X11_commonDivisor _) q_X11_383 (hR _ _ (by decide)) (s_mmaxL (pc := 9) X dX11_tellFraction_9 m_5_228 mm_mmaxL (hRm (by decide)) (s_lstore (pc := 12) X dX11_tellFraction_12 (hnL _ (by decide)) (s_aload_n (pc := 14) X dX11_tellFraction_14 rfl (s_lload_n (pc := 15) X dX11_tellFraction_15 rfl (s_lload (pc := 16) X dX11_tellFraction_16 (s_ldiv (pc := 18) X dX11_tellFraction_18 (s_putL (pc := 19) X dX11_tellFraction_19 p_X11_13 (s_aload_n (pc := 22) X dX11_tellFraction_22 rfl (s_lconst (pc := 23) X dX11_tellFraction_23 rfl (s_lload_n (pc := 24) X dX11_tellFraction_24 rfl (s_lload (pc := 25) X dX11_tellFraction_25 (s_ldiv (pc := 27) X dX11_tellFraction_27 (s_mmaxL (pc := 28) X dX11_tellFraction_28 m_5_228 mm_mmaxL (hRm (by decide)) (s_putL (pc := 31) X dX11_tellFraction_31 p_X11_17 (s_lload_n (pc := 34) X dX11_tellFraction_34 rfl (s_lconst (pc := 35) X dX11_tellFraction_35 rfl (s_lcmp (pc := 36) X dX11_tellFraction_36 (s_if_ne (pc := 37) X dX11_tellFraction_37 (by decide) (s_lload_n (pc := 42) X dX11_tellFraction_42 rfl (s_lconst (pc := 43) X dX11_tellFraction_43 rfl (s_lcmp (pc := 44) X dX11_tellFraction_44 (s_if_le (pc := 45) X dX11_tellFraction_45 (by decide) (s_iconst (pc := 52) X dX11_tellFraction_52 rfl (s_iret (pc := 53) X E hr dX11_tellFraction_53)) (s_iconst (pc := 48) X dX11_tellFraction_48 rfl (s_goto (pc := 49) X dX11_tellFraction_49 (by decide) (s_iret (pc := 53) X E hr dX11_tellFraction_53))))))) (s_iconst (pc := 40) X dX11_tellFraction_40 rfl (s_iret (pc := 41) X E hr dX11_tellFraction_41))))))))))))))))))))))))), fun _ h => absurd h List.not_mem_nil⟩)
theorem dX11_share_0 : decode cX11_share 0 = .ok (.aload_n 0, 1) := by decide +kernel
theorem dX11_share_1 : decode cX11_share 1 = .ok (.iload_n 1, 1) := by decide +kernel
theorem dX11_share_2 : decode cX11_share 2 = .ok (.iload_n 2, 1) := by decide +kernel
theorem dX11_share_3 : decode cX11_share 3 = .ok (.iload_n 3, 1) := by decide +kernel
theorem dX11_share_4 : decode cX11_share 4 = .ok (.iload 4, 2) := by decide +kernel
theorem dX11_share_6 : decode cX11_share 6 = .ok (.invokevirtual 232, 3) := by decide +kernel
theorem dX11_share_9 : decode cX11_share 9 = .ok (.ifCond .eq 11, 3) := by decide +kernel
theorem dX11_share_12 : decode cX11_share 12 = .ok (.aload_n 0, 1) := by decide +kernel
theorem dX11_share_13 : decode cX11_share 13 = .ok (.iconst 1, 1) := by decide +kernel
theorem dX11_share_14 : decode cX11_share 14 = .ok (.putfield 9, 3) := by decide +kernel
theorem dX11_share_17 : decode cX11_share 17 = .ok (.goto 25, 3) := by decide +kernel
theorem dX11_share_20 : decode cX11_share 20 = .ok (.aload_n 0, 1) := by decide +kernel
theorem dX11_share_21 : decode cX11_share 21 = .ok (.aload_n 0, 1) := by decide +kernel
theorem dX11_share_22 : decode cX11_share 22 = .ok (.getfield 69, 3) := by decide +kernel
theorem dX11_share_25 : decode cX11_share 25 = .ok (.iload_n 1, 1) := by decide +kernel
theorem dX11_share_26 : decode cX11_share 26 = .ok (.iload_n 2, 1) := by decide +kernel
theorem dX11_share_27 : decode cX11_share 27 = .ok (.invokevirtual 306, 3) := by decide +kernel
theorem dX11_share_30 : decode cX11_share 30 = .ok (.ifCond .le 7, 3) := by decide +kernel
theorem dX11_share_33 : decode cX11_share 33 = .ok (.iconst 0, 1) := by decide +kernel
theorem dX11_share_34 : decode cX11_share 34 = .ok (.goto 5, 3) := by decide +kernel
theorem dX11_share_37 : decode cX11_share 37 = .ok (.bipush 6, 2) := by decide +kernel
theorem dX11_share_39 : decode cX11_share 39 = .ok (.putfield 9, 3) := by decide +kernel
theorem dX11_share_42 : decode cX11_share 42 = .ok (.aload_n 0, 1) := by decide +kernel
theorem dX11_share_43 : decode cX11_share 43 = .ok (.getfield 9, 3) := by decide +kernel
theorem dX11_share_46 : decode cX11_share 46 = .ok (.ifCond .eq 5, 3) := by decide +kernel
theorem dX11_share_49 : decode cX11_share 49 = .ok (.iconst (-1), 1) := by decide +kernel
theorem dX11_share_50 : decode cX11_share 50 = .ok (.ireturn, 1) := by decide +kernel
theorem dX11_share_51 : decode cX11_share 51 = .ok (.aload_n 0, 1) := by decide +kernel
theorem dX11_share_52 : decode cX11_share 52 = .ok (.ldc2_w 309, 3) := by decide +kernel
theorem dX11_share_55 : decode cX11_share 55 = .ok (.aload_n 0, 1) := by decide +kernel
theorem dX11_share_56 : decode cX11_share 56 = .ok (.getfield 46, 3) := by decide +kernel
theorem dX11_share_59 : decode cX11_share 59 = .ok (.iload_n 1, 1) := by decide +kernel
theorem dX11_share_60 : decode cX11_share 60 = .ok (.iload_n 2, 1) := by decide +kernel
theorem dX11_share_61 : decode cX11_share 61 = .ok (.iload_n 3, 1) := by decide +kernel
theorem dX11_share_62 : decode cX11_share 62 = .ok (.iload 4, 2) := by decide +kernel
theorem dX11_share_64 : decode cX11_share 64 = .ok (.invokevirtual 236, 3) := by decide +kernel
theorem dX11_share_67 : decode cX11_share 67 = .ok (.i2l, 1) := by decide +kernel
theorem dX11_share_68 : decode cX11_share 68 = .ok (.lmul, 1) := by decide +kernel
theorem dX11_share_69 : decode cX11_share 69 = .ok (.aload_n 0, 1) := by decide +kernel
theorem dX11_share_70 : decode cX11_share 70 = .ok (.getfield 69, 3) := by decide +kernel
theorem dX11_share_73 : decode cX11_share 73 = .ok (.iload_n 1, 1) := by decide +kernel
theorem dX11_share_74 : decode cX11_share 74 = .ok (.iload_n 2, 1) := by decide +kernel
theorem dX11_share_75 : decode cX11_share 75 = .ok (.invokevirtual 306, 3) := by decide +kernel
theorem dX11_share_78 : decode cX11_share 78 = .ok (.i2l, 1) := by decide +kernel
theorem dX11_share_79 : decode cX11_share 79 = .ok (.invokevirtual 311, 3) := by decide +kernel
theorem dX11_share_82 : decode cX11_share 82 = .ok (.ireturn, 1) := by decide +kernel
noncomputable def B_X11_share_0 : pb_C := (i_aload 0 (i_iload 1 (i_iload 2 (i_iload 3 (i_iload 4 (i_callV 0 4 1 M_X11_noSpending (i_if_eq (i_aload 0 (i_aload 0 (i_getR 0 45 (i_iload 1 (i_iload 2 (i_callV 45 2 1 M_X3_together (i_if_le (i_const (.int 6) (i_putI 0 0 (i_jmp 42 [true, true, true, true, true]))) (i_const (.int 0) (i_putI 0 0 (i_jmp 42 [true, true, true, true, true])))))))))) (i_aload 0 (i_const (.int 1) (i_putI 0 0 (i_jmp 42 [true, true, true, true, true])))))))))))
noncomputable def B_X11_share_42 : pb_C := (i_aload 0 (i_getI 0 0 (i_if_eq (i_aload 0 (i_const (.long (100)) (i_aload 0 (i_getR 0 25 (i_iload 1 (i_iload 2 (i_iload 3 (i_iload 4 (i_callV 25 4 1 M_X0_spentOn (i_i2l (i_lbin (· * ·) (i_aload 0 (i_getR 0 45 (i_iload 1 (i_iload 2 (i_callV 45 2 1 M_X3_together (i_i2l (i_callV 0 2 1 M_X11_tellFraction i_iret)))))))))))))))))) (i_const (.int (-1)) i_iret))))
noncomputable def T_X11_share : Nat → pb_C := pb_tt [(0, B_X11_share_0), (42, B_X11_share_42)]
noncomputable def M_X11_share : pb_F := pb_M T_X11_share 5
set_option maxRecDepth 100000 in
set_option maxHeartbeats 4000000 in
theorem S_X11_share (l : Launch) : pb_Sound l yX11_share cX11_share 5 (some .int) 6 M_X11_share := by
  refine pb_sound_of (by decide) m_5_216 ?_
  intro Γ hl0 hRm0 hm X E hr J
  have hnL : ∀ j, j < 5 → j < Γ.2.2.2.2.2.2.2.2.2.2.2.1 := fun j h => by rw [hm]; exact h
  have hR : ∀ (d' mL : Nat), d' + 1 ≤ 6 ∧ 8 + (mL + 11) + d' * 64 ≤ 6 * 64 → (pb_rm d').frames + 1 ≤ Γ.2.2.2.1.frames ∧ 8 + (mL + 11) + (pb_rm d').locals ≤ Γ.2.2.2.1.locals := by rw [hRm0]; exact fun _ _ h => h
  have hRm : 1 ≤ 6 ∧ 64 ≤ 6 * 64 → 1 ≤ Γ.2.2.2.1.frames ∧ 64 ≤ Γ.2.2.2.1.locals := by rw [hRm0]; exact fun h => h
  exact pb_tt_snd _ (List.forall_mem_cons.mpr ⟨(s_aload_n (pc := 0) X dX11_share_0 rfl (s_iload_n (pc := 1) X dX11_share_1 rfl (s_iload_n (pc := 2) X dX11_share_2 rfl (s_iload_n (pc := 3) X dX11_share_3 rfl (s_iload (pc := 4) X dX11_share_4 (s_callV (pc := 6) X dX11_share_6 (S_X11_noSpending _) q_X11_232 h_0 rfl (hR _ _ (by decide)) (s_if_eq (pc := 9) X dX11_share_9 (by decide) (s_aload_n (pc := 20) X dX11_share_20 rfl (s_aload_n (pc := 21) X dX11_share_21 rfl (s_getR (pc := 22) X dX11_share_22 g_X11_69 (s_iload_n (pc := 25) X dX11_share_25 rfl (s_iload_n (pc := 26) X dX11_share_26 rfl (s_callV (pc := 27) X dX11_share_27 (S_X3_together _) q_X11_306 h_45 rfl (hR _ _ (by decide)) (s_if_le (pc := 30) X dX11_share_30 (by decide) (s_bipush (pc := 37) X dX11_share_37 rfl (s_putI (pc := 39) X dX11_share_39 p_X11_9 (s_jmp (pc := 42) J [true, true, true, true, true]))) (s_iconst (pc := 33) X dX11_share_33 rfl (s_goto (pc := 34) X dX11_share_34 (by decide) (s_putI (pc := 39) X dX11_share_39 p_X11_9 (s_jmp (pc := 42) J [true, true, true, true, true]))))))))))) (s_aload_n (pc := 12) X dX11_share_12 rfl (s_iconst (pc := 13) X dX11_share_13 rfl (s_putI (pc := 14) X dX11_share_14 p_X11_9 (s_goto (pc := 17) X dX11_share_17 (by decide) (s_jmp (pc := 42) J [true, true, true, true, true])))))))))))), List.forall_mem_cons.mpr ⟨(s_aload_n (pc := 42) X dX11_share_42 rfl (s_getI (pc := 43) X dX11_share_43 g_X11_9 (s_if_eq (pc := 46) X dX11_share_46 (by decide) (s_aload_n (pc := 51) X dX11_share_51 rfl (s_ldc2 (pc := 52) X dX11_share_52 m_5_217 (s_aload_n (pc := 55) X dX11_share_55 rfl (s_getR (pc := 56) X dX11_share_56 g_X11_46 (s_iload_n (pc := 59) X dX11_share_59 rfl (s_iload_n (pc := 60) X dX11_share_60 rfl (s_iload_n (pc := 61) X dX11_share_61 rfl (s_iload (pc := 62) X dX11_share_62 (s_callV (pc := 64) X dX11_share_64 (S_X0_spentOn _) q_X11_236 h_25 rfl (hR _ _ (by decide)) (s_i2l (pc := 67) X dX11_share_67 (s_lmul (pc := 68) X dX11_share_68 (s_aload_n (pc := 69) X dX11_share_69 rfl (s_getR (pc := 70) X dX11_share_70 g_X11_69 (s_iload_n (pc := 73) X dX11_share_73 rfl (s_iload_n (pc := 74) X dX11_share_74 rfl (s_callV (pc := 75) X dX11_share_75 (S_X3_together _) q_X11_306 h_45 rfl (hR _ _ (by decide)) (s_i2l (pc := 78) X dX11_share_78 (s_callV (pc := 79) X dX11_share_79 (S_X11_tellFraction _) q_X11_311 h_0 rfl (hR _ _ (by decide)) (s_iret (pc := 82) X E hr dX11_share_82))))))))))))))))))) (s_iconst (pc := 49) X dX11_share_49 rfl (s_iret (pc := 50) X E hr dX11_share_50))))), fun _ h => absurd h List.not_mem_nil⟩⟩)
theorem dX4_insert_0 : decode cX4_insert 0 = .ok (.aload_n 0, 1) := by decide +kernel
theorem dX4_insert_1 : decode cX4_insert 1 = .ok (.getfield 30, 3) := by decide +kernel
theorem dX4_insert_4 : decode cX4_insert 4 = .ok (.istore_n 3, 1) := by decide +kernel
theorem dX4_insert_5 : decode cX4_insert 5 = .ok (.iload_n 3, 1) := by decide +kernel
theorem dX4_insert_6 : decode cX4_insert 6 = .ok (.ifCond .le 60, 3) := by decide +kernel
theorem dX4_insert_9 : decode cX4_insert 9 = .ok (.iload_n 1, 1) := by decide +kernel
theorem dX4_insert_10 : decode cX4_insert 10 = .ok (.aload_n 0, 1) := by decide +kernel
theorem dX4_insert_11 : decode cX4_insert 11 = .ok (.getfield 19, 3) := by decide +kernel
theorem dX4_insert_14 : decode cX4_insert 14 = .ok (.iload_n 3, 1) := by decide +kernel
theorem dX4_insert_15 : decode cX4_insert 15 = .ok (.iconst 1, 1) := by decide +kernel
theorem dX4_insert_16 : decode cX4_insert 16 = .ok (.isub, 1) := by decide +kernel
theorem dX4_insert_17 : decode cX4_insert 17 = .ok (.iaload, 1) := by decide +kernel
theorem dX4_insert_18 : decode cX4_insert 18 = .ok (.imul, 1) := by decide +kernel
theorem dX4_insert_19 : decode cX4_insert 19 = .ok (.aload_n 0, 1) := by decide +kernel
theorem dX4_insert_20 : decode cX4_insert 20 = .ok (.getfield 15, 3) := by decide +kernel
theorem dX4_insert_23 : decode cX4_insert 23 = .ok (.iload_n 3, 1) := by decide +kernel
theorem dX4_insert_24 : decode cX4_insert 24 = .ok (.iconst 1, 1) := by decide +kernel
theorem dX4_insert_25 : decode cX4_insert 25 = .ok (.isub, 1) := by decide +kernel
theorem dX4_insert_26 : decode cX4_insert 26 = .ok (.iaload, 1) := by decide +kernel
theorem dX4_insert_27 : decode cX4_insert 27 = .ok (.iload_n 2, 1) := by decide +kernel
theorem dX4_insert_28 : decode cX4_insert 28 = .ok (.imul, 1) := by decide +kernel
theorem dX4_insert_29 : decode cX4_insert 29 = .ok (.if_icmp .ge 37, 3) := by decide +kernel
theorem dX4_insert_32 : decode cX4_insert 32 = .ok (.aload_n 0, 1) := by decide +kernel
theorem dX4_insert_33 : decode cX4_insert 33 = .ok (.getfield 15, 3) := by decide +kernel
theorem dX4_insert_36 : decode cX4_insert 36 = .ok (.iload_n 3, 1) := by decide +kernel
theorem dX4_insert_37 : decode cX4_insert 37 = .ok (.aload_n 0, 1) := by decide +kernel
theorem dX4_insert_38 : decode cX4_insert 38 = .ok (.getfield 15, 3) := by decide +kernel
theorem dX4_insert_41 : decode cX4_insert 41 = .ok (.iload_n 3, 1) := by decide +kernel
theorem dX4_insert_42 : decode cX4_insert 42 = .ok (.iconst 1, 1) := by decide +kernel
theorem dX4_insert_43 : decode cX4_insert 43 = .ok (.isub, 1) := by decide +kernel
theorem dX4_insert_44 : decode cX4_insert 44 = .ok (.iaload, 1) := by decide +kernel
theorem dX4_insert_45 : decode cX4_insert 45 = .ok (.iastore, 1) := by decide +kernel
theorem dX4_insert_46 : decode cX4_insert 46 = .ok (.aload_n 0, 1) := by decide +kernel
theorem dX4_insert_47 : decode cX4_insert 47 = .ok (.getfield 19, 3) := by decide +kernel
theorem dX4_insert_50 : decode cX4_insert 50 = .ok (.iload_n 3, 1) := by decide +kernel
theorem dX4_insert_51 : decode cX4_insert 51 = .ok (.aload_n 0, 1) := by decide +kernel
theorem dX4_insert_52 : decode cX4_insert 52 = .ok (.getfield 19, 3) := by decide +kernel
theorem dX4_insert_55 : decode cX4_insert 55 = .ok (.iload_n 3, 1) := by decide +kernel
theorem dX4_insert_56 : decode cX4_insert 56 = .ok (.iconst 1, 1) := by decide +kernel
theorem dX4_insert_57 : decode cX4_insert 57 = .ok (.isub, 1) := by decide +kernel
theorem dX4_insert_58 : decode cX4_insert 58 = .ok (.iaload, 1) := by decide +kernel
theorem dX4_insert_59 : decode cX4_insert 59 = .ok (.iastore, 1) := by decide +kernel
theorem dX4_insert_60 : decode cX4_insert 60 = .ok (.iinc 3 (-1), 3) := by decide +kernel
theorem dX4_insert_63 : decode cX4_insert 63 = .ok (.goto (-58), 3) := by decide +kernel
theorem dX4_insert_66 : decode cX4_insert 66 = .ok (.aload_n 0, 1) := by decide +kernel
theorem dX4_insert_67 : decode cX4_insert 67 = .ok (.getfield 15, 3) := by decide +kernel
theorem dX4_insert_70 : decode cX4_insert 70 = .ok (.iload_n 3, 1) := by decide +kernel
theorem dX4_insert_71 : decode cX4_insert 71 = .ok (.iload_n 1, 1) := by decide +kernel
theorem dX4_insert_72 : decode cX4_insert 72 = .ok (.iastore, 1) := by decide +kernel
theorem dX4_insert_73 : decode cX4_insert 73 = .ok (.aload_n 0, 1) := by decide +kernel
theorem dX4_insert_74 : decode cX4_insert 74 = .ok (.getfield 19, 3) := by decide +kernel
theorem dX4_insert_77 : decode cX4_insert 77 = .ok (.iload_n 3, 1) := by decide +kernel
theorem dX4_insert_78 : decode cX4_insert 78 = .ok (.iload_n 2, 1) := by decide +kernel
theorem dX4_insert_79 : decode cX4_insert 79 = .ok (.iastore, 1) := by decide +kernel
theorem dX4_insert_80 : decode cX4_insert 80 = .ok (.aload_n 0, 1) := by decide +kernel
theorem dX4_insert_81 : decode cX4_insert 81 = .ok (.dup, 1) := by decide +kernel
theorem dX4_insert_82 : decode cX4_insert 82 = .ok (.getfield 30, 3) := by decide +kernel
theorem dX4_insert_85 : decode cX4_insert 85 = .ok (.iconst 1, 1) := by decide +kernel
theorem dX4_insert_86 : decode cX4_insert 86 = .ok (.iadd, 1) := by decide +kernel
theorem dX4_insert_87 : decode cX4_insert 87 = .ok (.putfield 30, 3) := by decide +kernel
theorem dX4_insert_90 : decode cX4_insert 90 = .ok (.return_, 1) := by decide +kernel
noncomputable def B_X4_insert_0 : pb_C := (i_aload 0 (i_getI 51 3 (i_istore 3 (i_jmp 5 [true, true, true, true]))))
noncomputable def B_X4_insert_5 : pb_C := (i_iload 3 (i_if_le (i_jmp 66 [true, true, true, true]) (i_iload 1 (i_aload 0 (i_getR 51 53 (i_iload 3 (i_const (.int 1) (i_ibin (· - ·) (i_ald 53 200 (i_ibin (· * ·) (i_aload 0 (i_getR 51 52 (i_iload 3 (i_const (.int 1) (i_ibin (· - ·) (i_ald 52 200 (i_iload 2 (i_ibin (· * ·) (i_ic_ge (i_jmp 66 [true, true, true, true]) (i_aload 0 (i_getR 51 52 (i_iload 3 (i_aload 0 (i_getR 51 52 (i_iload 3 (i_const (.int 1) (i_ibin (· - ·) (i_ald 52 200 (i_ast 52 200 (fun x => x) (i_aload 0 (i_getR 51 53 (i_iload 3 (i_aload 0 (i_getR 51 53 (i_iload 3 (i_const (.int 1) (i_ibin (· - ·) (i_ald 53 200 (i_ast 53 200 (fun x => x) (i_iinc 3 (-1) (i_jmp 5 [true, true, true, true])))))))))))))))))))))))))))))))))))))))))
noncomputable def B_X4_insert_66 : pb_C := (i_aload 0 (i_getR 51 52 (i_iload 3 (i_iload 1 (i_ast 52 200 (fun x => x) (i_aload 0 (i_getR 51 53 (i_iload 3 (i_iload 2 (i_ast 53 200 (fun x => x) (i_aload 0 (i_dupR (i_getI 51 3 (i_const (.int 1) (i_ibin (· + ·) (i_putI 51 3 i_vret))))))))))))))))
noncomputable def T_X4_insert : Nat → pb_C := pb_tt [(0, B_X4_insert_0), (5, B_X4_insert_5), (66, B_X4_insert_66)]
noncomputable def M_X4_insert : pb_F := pb_M T_X4_insert 4
set_option maxRecDepth 100000 in
set_option maxHeartbeats 4000000 in
theorem S_X4_insert (l : Launch) : pb_Sound l yX4_insert cX4_insert 4 none 1 M_X4_insert := by
  refine pb_sound_of (by decide) m_6_3 ?_
  intro Γ hl0 hRm0 hm X E hr J
  have hnL : ∀ j, j < 4 → j < Γ.2.2.2.2.2.2.2.2.2.2.2.1 := fun j h => by rw [hm]; exact h
  have hR : ∀ (d' mL : Nat), d' + 1 ≤ 1 ∧ 8 + (mL + 11) + d' * 64 ≤ 1 * 64 → (pb_rm d').frames + 1 ≤ Γ.2.2.2.1.frames ∧ 8 + (mL + 11) + (pb_rm d').locals ≤ Γ.2.2.2.1.locals := by rw [hRm0]; exact fun _ _ h => h
  have hRm : 1 ≤ 1 ∧ 64 ≤ 1 * 64 → 1 ≤ Γ.2.2.2.1.frames ∧ 64 ≤ Γ.2.2.2.1.locals := by rw [hRm0]; exact fun h => h
  exact pb_tt_snd _ (List.forall_mem_cons.mpr ⟨(s_aload_n (pc := 0) X dX4_insert_0 rfl (s_getI (pc := 1) X dX4_insert_1 g_X4_30 (s_istore_n (pc := 4) X dX4_insert_4 rfl (hnL _ (by decide)) (s_jmp (pc := 5) J [true, true, true, true])))), List.forall_mem_cons.mpr ⟨(s_iload_n (pc := 5) X dX4_insert_5 rfl (s_if_le (pc := 6) X dX4_insert_6 (by decide) (s_jmp (pc := 66) J [true, true, true, true]) (s_iload_n (pc := 9) X dX4_insert_9 rfl (s_aload_n (pc := 10) X dX4_insert_10 rfl (s_getR (pc := 11) X dX4_insert_11 g_X4_19 (s_iload_n (pc := 14) X dX4_insert_14 rfl (s_iconst (pc := 15) X dX4_insert_15 rfl (s_isub (pc := 16) X dX4_insert_16 (s_iald (pc := 17) X dX4_insert_17 h_53 (s_imul (pc := 18) X dX4_insert_18 (s_aload_n (pc := 19) X dX4_insert_19 rfl (s_getR (pc := 20) X dX4_insert_20 g_X4_15 (s_iload_n (pc := 23) X dX4_insert_23 rfl (s_iconst (pc := 24) X dX4_insert_24 rfl (s_isub (pc := 25) X dX4_insert_25 (s_iald (pc := 26) X dX4_insert_26 h_52 (s_iload_n (pc := 27) X dX4_insert_27 rfl (s_imul (pc := 28) X dX4_insert_28 (s_ic_ge (pc := 29) X dX4_insert_29 (by decide) (s_jmp (pc := 66) J [true, true, true, true]) (s_aload_n (pc := 32) X dX4_insert_32 rfl (s_getR (pc := 33) X dX4_insert_33 g_X4_15 (s_iload_n (pc := 36) X dX4_insert_36 rfl (s_aload_n (pc := 37) X dX4_insert_37 rfl (s_getR (pc := 38) X dX4_insert_38 g_X4_15 (s_iload_n (pc := 41) X dX4_insert_41 rfl (s_iconst (pc := 42) X dX4_insert_42 rfl (s_isub (pc := 43) X dX4_insert_43 (s_iald (pc := 44) X dX4_insert_44 h_52 (s_iast (pc := 45) X dX4_insert_45 h_52 (s_aload_n (pc := 46) X dX4_insert_46 rfl (s_getR (pc := 47) X dX4_insert_47 g_X4_19 (s_iload_n (pc := 50) X dX4_insert_50 rfl (s_aload_n (pc := 51) X dX4_insert_51 rfl (s_getR (pc := 52) X dX4_insert_52 g_X4_19 (s_iload_n (pc := 55) X dX4_insert_55 rfl (s_iconst (pc := 56) X dX4_insert_56 rfl (s_isub (pc := 57) X dX4_insert_57 (s_iald (pc := 58) X dX4_insert_58 h_53 (s_iast (pc := 59) X dX4_insert_59 h_53 (s_iinc (pc := 60) X dX4_insert_60 rfl (s_goto (pc := 63) X dX4_insert_63 (by decide) (s_jmp (pc := 5) J [true, true, true, true])))))))))))))))))))))))))))))))))))))))))), List.forall_mem_cons.mpr ⟨(s_aload_n (pc := 66) X dX4_insert_66 rfl (s_getR (pc := 67) X dX4_insert_67 g_X4_15 (s_iload_n (pc := 70) X dX4_insert_70 rfl (s_iload_n (pc := 71) X dX4_insert_71 rfl (s_iast (pc := 72) X dX4_insert_72 h_52 (s_aload_n (pc := 73) X dX4_insert_73 rfl (s_getR (pc := 74) X dX4_insert_74 g_X4_19 (s_iload_n (pc := 77) X dX4_insert_77 rfl (s_iload_n (pc := 78) X dX4_insert_78 rfl (s_iast (pc := 79) X dX4_insert_79 h_53 (s_aload_n (pc := 80) X dX4_insert_80 rfl (s_dupR (pc := 81) X dX4_insert_81 (s_getI (pc := 82) X dX4_insert_82 g_X4_30 (s_iconst (pc := 85) X dX4_insert_85 rfl (s_iadd (pc := 86) X dX4_insert_86 (s_putI (pc := 87) X dX4_insert_87 p_X4_30 (s_vret (pc := 90) X E hr dX4_insert_90))))))))))))))))), fun _ h => absurd h List.not_mem_nil⟩⟩⟩)
theorem dJ6_bitCount_0f7a4_0 : decode cJ6_bitCount_0f7a4 0 = .ok (.iload_n 0, 1) := by decide +kernel
theorem dJ6_bitCount_0f7a4_1 : decode cJ6_bitCount_0f7a4 1 = .ok (.iload_n 0, 1) := by decide +kernel
theorem dJ6_bitCount_0f7a4_2 : decode cJ6_bitCount_0f7a4 2 = .ok (.iconst 1, 1) := by decide +kernel
theorem dJ6_bitCount_0f7a4_3 : decode cJ6_bitCount_0f7a4 3 = .ok (.iushr, 1) := by decide +kernel
theorem dJ6_bitCount_0f7a4_4 : decode cJ6_bitCount_0f7a4 4 = .ok (.ldc_w 265, 3) := by decide +kernel
theorem dJ6_bitCount_0f7a4_7 : decode cJ6_bitCount_0f7a4 7 = .ok (.iand, 1) := by decide +kernel
theorem dJ6_bitCount_0f7a4_8 : decode cJ6_bitCount_0f7a4 8 = .ok (.isub, 1) := by decide +kernel
theorem dJ6_bitCount_0f7a4_9 : decode cJ6_bitCount_0f7a4 9 = .ok (.istore_n 0, 1) := by decide +kernel
theorem dJ6_bitCount_0f7a4_10 : decode cJ6_bitCount_0f7a4 10 = .ok (.iload_n 0, 1) := by decide +kernel
theorem dJ6_bitCount_0f7a4_11 : decode cJ6_bitCount_0f7a4 11 = .ok (.ldc_w 266, 3) := by decide +kernel
theorem dJ6_bitCount_0f7a4_14 : decode cJ6_bitCount_0f7a4 14 = .ok (.iand, 1) := by decide +kernel
theorem dJ6_bitCount_0f7a4_15 : decode cJ6_bitCount_0f7a4 15 = .ok (.iload_n 0, 1) := by decide +kernel
theorem dJ6_bitCount_0f7a4_16 : decode cJ6_bitCount_0f7a4 16 = .ok (.iconst 2, 1) := by decide +kernel
theorem dJ6_bitCount_0f7a4_17 : decode cJ6_bitCount_0f7a4 17 = .ok (.iushr, 1) := by decide +kernel
theorem dJ6_bitCount_0f7a4_18 : decode cJ6_bitCount_0f7a4 18 = .ok (.ldc_w 266, 3) := by decide +kernel
theorem dJ6_bitCount_0f7a4_21 : decode cJ6_bitCount_0f7a4 21 = .ok (.iand, 1) := by decide +kernel
theorem dJ6_bitCount_0f7a4_22 : decode cJ6_bitCount_0f7a4 22 = .ok (.iadd, 1) := by decide +kernel
theorem dJ6_bitCount_0f7a4_23 : decode cJ6_bitCount_0f7a4 23 = .ok (.istore_n 0, 1) := by decide +kernel
theorem dJ6_bitCount_0f7a4_24 : decode cJ6_bitCount_0f7a4 24 = .ok (.iload_n 0, 1) := by decide +kernel
theorem dJ6_bitCount_0f7a4_25 : decode cJ6_bitCount_0f7a4 25 = .ok (.iload_n 0, 1) := by decide +kernel
theorem dJ6_bitCount_0f7a4_26 : decode cJ6_bitCount_0f7a4 26 = .ok (.iconst 4, 1) := by decide +kernel
theorem dJ6_bitCount_0f7a4_27 : decode cJ6_bitCount_0f7a4 27 = .ok (.iushr, 1) := by decide +kernel
theorem dJ6_bitCount_0f7a4_28 : decode cJ6_bitCount_0f7a4 28 = .ok (.iadd, 1) := by decide +kernel
theorem dJ6_bitCount_0f7a4_29 : decode cJ6_bitCount_0f7a4 29 = .ok (.ldc_w 267, 3) := by decide +kernel
theorem dJ6_bitCount_0f7a4_32 : decode cJ6_bitCount_0f7a4 32 = .ok (.iand, 1) := by decide +kernel
theorem dJ6_bitCount_0f7a4_33 : decode cJ6_bitCount_0f7a4 33 = .ok (.istore_n 0, 1) := by decide +kernel
theorem dJ6_bitCount_0f7a4_34 : decode cJ6_bitCount_0f7a4 34 = .ok (.iload_n 0, 1) := by decide +kernel
theorem dJ6_bitCount_0f7a4_35 : decode cJ6_bitCount_0f7a4 35 = .ok (.iload_n 0, 1) := by decide +kernel
theorem dJ6_bitCount_0f7a4_36 : decode cJ6_bitCount_0f7a4 36 = .ok (.bipush 8, 2) := by decide +kernel
theorem dJ6_bitCount_0f7a4_38 : decode cJ6_bitCount_0f7a4 38 = .ok (.iushr, 1) := by decide +kernel
theorem dJ6_bitCount_0f7a4_39 : decode cJ6_bitCount_0f7a4 39 = .ok (.iadd, 1) := by decide +kernel
theorem dJ6_bitCount_0f7a4_40 : decode cJ6_bitCount_0f7a4 40 = .ok (.istore_n 0, 1) := by decide +kernel
theorem dJ6_bitCount_0f7a4_41 : decode cJ6_bitCount_0f7a4 41 = .ok (.iload_n 0, 1) := by decide +kernel
theorem dJ6_bitCount_0f7a4_42 : decode cJ6_bitCount_0f7a4 42 = .ok (.iload_n 0, 1) := by decide +kernel
theorem dJ6_bitCount_0f7a4_43 : decode cJ6_bitCount_0f7a4 43 = .ok (.bipush 16, 2) := by decide +kernel
theorem dJ6_bitCount_0f7a4_45 : decode cJ6_bitCount_0f7a4 45 = .ok (.iushr, 1) := by decide +kernel
theorem dJ6_bitCount_0f7a4_46 : decode cJ6_bitCount_0f7a4 46 = .ok (.iadd, 1) := by decide +kernel
theorem dJ6_bitCount_0f7a4_47 : decode cJ6_bitCount_0f7a4 47 = .ok (.istore_n 0, 1) := by decide +kernel
theorem dJ6_bitCount_0f7a4_48 : decode cJ6_bitCount_0f7a4 48 = .ok (.iload_n 0, 1) := by decide +kernel
theorem dJ6_bitCount_0f7a4_49 : decode cJ6_bitCount_0f7a4 49 = .ok (.bipush 63, 2) := by decide +kernel
theorem dJ6_bitCount_0f7a4_51 : decode cJ6_bitCount_0f7a4 51 = .ok (.iand, 1) := by decide +kernel
theorem dJ6_bitCount_0f7a4_52 : decode cJ6_bitCount_0f7a4 52 = .ok (.ireturn, 1) := by decide +kernel
noncomputable def B_J6_bitCount_0f7a4_0 : pb_C := (i_iload 0 (i_iload 0 (i_const (.int 1) (i_ibin (fun x y => (x.toUInt32 >>> (y.toUInt32 &&& Int32.toUInt32 31)).toInt32) (i_const (.int (1431655765)) (i_ibin (· &&& ·) (i_ibin (· - ·) (i_istore 0 (i_iload 0 (i_const (.int (858993459)) (i_ibin (· &&& ·) (i_iload 0 (i_const (.int 2) (i_ibin (fun x y => (x.toUInt32 >>> (y.toUInt32 &&& Int32.toUInt32 31)).toInt32) (i_const (.int (858993459)) (i_ibin (· &&& ·) (i_ibin (· + ·) (i_istore 0 (i_iload 0 (i_iload 0 (i_const (.int 4) (i_ibin (fun x y => (x.toUInt32 >>> (y.toUInt32 &&& Int32.toUInt32 31)).toInt32) (i_ibin (· + ·) (i_const (.int (252645135)) (i_ibin (· &&& ·) (i_istore 0 (i_iload 0 (i_iload 0 (i_const (.int 8) (i_ibin (fun x y => (x.toUInt32 >>> (y.toUInt32 &&& Int32.toUInt32 31)).toInt32) (i_ibin (· + ·) (i_istore 0 (i_iload 0 (i_iload 0 (i_const (.int 16) (i_ibin (fun x y => (x.toUInt32 >>> (y.toUInt32 &&& Int32.toUInt32 31)).toInt32) (i_ibin (· + ·) (i_istore 0 (i_iload 0 (i_const (.int 63) (i_ibin (· &&& ·) i_iret)))))))))))))))))))))))))))))))))))))))))
noncomputable def T_J6_bitCount_0f7a4 : Nat → pb_C := pb_tt [(0, B_J6_bitCount_0f7a4_0)]
noncomputable def M_J6_bitCount_0f7a4 : pb_F := pb_M T_J6_bitCount_0f7a4 1
set_option maxRecDepth 100000 in
set_option maxHeartbeats 4000000 in
theorem S_J6_bitCount_0f7a4 (l : Launch) : pb_Sound l yJ6_bitCount_0f7a4 cJ6_bitCount_0f7a4 1 (some .int) 1 M_J6_bitCount_0f7a4 := by
  refine pb_sound_of (by decide) m_6_6 ?_
  intro Γ hl0 hRm0 hm X E hr J
  have hnL : ∀ j, j < 1 → j < Γ.2.2.2.2.2.2.2.2.2.2.2.1 := fun j h => by rw [hm]; exact h
  have hR : ∀ (d' mL : Nat), d' + 1 ≤ 1 ∧ 8 + (mL + 11) + d' * 64 ≤ 1 * 64 → (pb_rm d').frames + 1 ≤ Γ.2.2.2.1.frames ∧ 8 + (mL + 11) + (pb_rm d').locals ≤ Γ.2.2.2.1.locals := by rw [hRm0]; exact fun _ _ h => h
  have hRm : 1 ≤ 1 ∧ 64 ≤ 1 * 64 → 1 ≤ Γ.2.2.2.1.frames ∧ 64 ≤ Γ.2.2.2.1.locals := by rw [hRm0]; exact fun h => h
  exact pb_tt_snd _ (List.forall_mem_cons.mpr ⟨(s_iload_n (pc := 0) X dJ6_bitCount_0f7a4_0 rfl (s_iload_n (pc := 1) X dJ6_bitCount_0f7a4_1 rfl (s_iconst (pc := 2) X dJ6_bitCount_0f7a4_2 rfl (s_iushr (pc := 3) X dJ6_bitCount_0f7a4_3 (s_ldc_w (pc := 4) X dJ6_bitCount_0f7a4_4 m_6_7 (s_iand (pc := 7) X dJ6_bitCount_0f7a4_7 (s_isub (pc := 8) X dJ6_bitCount_0f7a4_8 (s_istore_n (pc := 9) X dJ6_bitCount_0f7a4_9 rfl (hnL _ (by decide)) (s_iload_n (pc := 10) X dJ6_bitCount_0f7a4_10 rfl (s_ldc_w (pc := 11) X dJ6_bitCount_0f7a4_11 m_6_8 (s_iand (pc := 14) X dJ6_bitCount_0f7a4_14 (s_iload_n (pc := 15) X dJ6_bitCount_0f7a4_15 rfl (s_iconst (pc := 16) X dJ6_bitCount_0f7a4_16 rfl (s_iushr (pc := 17) X dJ6_bitCount_0f7a4_17 (s_ldc_w (pc := 18) X dJ6_bitCount_0f7a4_18 m_6_8 (s_iand (pc := 21) X dJ6_bitCount_0f7a4_21 (s_iadd (pc := 22) X dJ6_bitCount_0f7a4_22 (s_istore_n (pc := 23) X dJ6_bitCount_0f7a4_23 rfl (hnL _ (by decide)) (s_iload_n (pc := 24) X dJ6_bitCount_0f7a4_24 rfl (s_iload_n (pc := 25) X dJ6_bitCount_0f7a4_25 rfl (s_iconst (pc := 26) X dJ6_bitCount_0f7a4_26 rfl (s_iushr (pc := 27) X dJ6_bitCount_0f7a4_27 (s_iadd (pc := 28) X dJ6_bitCount_0f7a4_28 (s_ldc_w (pc := 29) X dJ6_bitCount_0f7a4_29 m_6_9 (s_iand (pc := 32) X dJ6_bitCount_0f7a4_32 (s_istore_n (pc := 33) X dJ6_bitCount_0f7a4_33 rfl (hnL _ (by decide)) (s_iload_n (pc := 34) X dJ6_bitCount_0f7a4_34 rfl (s_iload_n (pc := 35) X dJ6_bitCount_0f7a4_35 rfl (s_bipush (pc := 36) X dJ6_bitCount_0f7a4_36 rfl (s_iushr (pc := 38) X dJ6_bitCount_0f7a4_38 (s_iadd (pc := 39) X dJ6_bitCount_0f7a4_39 (s_istore_n (pc := 40) X dJ6_bitCount_0f7a4_40 rfl (hnL _ (by decide)) (s_iload_n (pc := 41) X dJ6_bitCount_0f7a4_41 rfl (s_iload_n (pc := 42) X dJ6_bitCount_0f7a4_42 rfl (s_bipush (pc := 43) X dJ6_bitCount_0f7a4_43 rfl (s_iushr (pc := 45) X dJ6_bitCount_0f7a4_45 (s_iadd (pc := 46) X dJ6_bitCount_0f7a4_46 (s_istore_n (pc := 47) X dJ6_bitCount_0f7a4_47 rfl (hnL _ (by decide)) (s_iload_n (pc := 48) X dJ6_bitCount_0f7a4_48 rfl (s_bipush (pc := 49) X dJ6_bitCount_0f7a4_49 rfl (s_iand (pc := 51) X dJ6_bitCount_0f7a4_51 (s_iret (pc := 52) X E hr dJ6_bitCount_0f7a4_52)))))))))))))))))))))))))))))))))))))))))), fun _ h => absurd h List.not_mem_nil⟩)
theorem dX4_gather_0 : decode cX4_gather 0 = .ok (.iconst 0, 1) := by decide +kernel
theorem dX4_gather_1 : decode cX4_gather 1 = .ok (.istore 4, 2) := by decide +kernel
theorem dX4_gather_3 : decode cX4_gather 3 = .ok (.aload_n 0, 1) := by decide +kernel
theorem dX4_gather_4 : decode cX4_gather 4 = .ok (.iconst 0, 1) := by decide +kernel
theorem dX4_gather_5 : decode cX4_gather 5 = .ok (.putfield 30, 3) := by decide +kernel
theorem dX4_gather_8 : decode cX4_gather 8 = .ok (.iconst 0, 1) := by decide +kernel
theorem dX4_gather_9 : decode cX4_gather 9 = .ok (.istore 5, 2) := by decide +kernel
theorem dX4_gather_11 : decode cX4_gather 11 = .ok (.iload 5, 2) := by decide +kernel
theorem dX4_gather_13 : decode cX4_gather 13 = .ok (.aload_n 0, 1) := by decide +kernel
theorem dX4_gather_14 : decode cX4_gather 14 = .ok (.getfield 22, 3) := by decide +kernel
theorem dX4_gather_17 : decode cX4_gather 17 = .ok (.getfield 33, 3) := by decide +kernel
theorem dX4_gather_20 : decode cX4_gather 20 = .ok (.if_icmp .ge 105, 3) := by decide +kernel
theorem dX4_gather_23 : decode cX4_gather 23 = .ok (.aload_n 0, 1) := by decide +kernel
theorem dX4_gather_24 : decode cX4_gather 24 = .ok (.getfield 22, 3) := by decide +kernel
theorem dX4_gather_27 : decode cX4_gather 27 = .ok (.getfield 38, 3) := by decide +kernel
theorem dX4_gather_30 : decode cX4_gather 30 = .ok (.iload 5, 2) := by decide +kernel
theorem dX4_gather_32 : decode cX4_gather 32 = .ok (.iaload, 1) := by decide +kernel
theorem dX4_gather_33 : decode cX4_gather 33 = .ok (.bipush 52, 2) := by decide +kernel
theorem dX4_gather_35 : decode cX4_gather 35 = .ok (.idiv, 1) := by decide +kernel
theorem dX4_gather_36 : decode cX4_gather 36 = .ok (.iload_n 2, 1) := by decide +kernel
theorem dX4_gather_37 : decode cX4_gather 37 = .ok (.if_icmp .ne 7, 3) := by decide +kernel
theorem dX4_gather_40 : decode cX4_gather 40 = .ok (.iconst 1, 1) := by decide +kernel
theorem dX4_gather_41 : decode cX4_gather 41 = .ok (.goto 4, 3) := by decide +kernel
theorem dX4_gather_44 : decode cX4_gather 44 = .ok (.iconst 0, 1) := by decide +kernel
theorem dX4_gather_45 : decode cX4_gather 45 = .ok (.istore 6, 2) := by decide +kernel
theorem dX4_gather_47 : decode cX4_gather 47 = .ok (.iload 6, 2) := by decide +kernel
theorem dX4_gather_49 : decode cX4_gather 49 = .ok (.ifCond .eq 70, 3) := by decide +kernel
theorem dX4_gather_52 : decode cX4_gather 52 = .ok (.aload_n 0, 1) := by decide +kernel
theorem dX4_gather_53 : decode cX4_gather 53 = .ok (.getfield 22, 3) := by decide +kernel
theorem dX4_gather_56 : decode cX4_gather 56 = .ok (.iload 5, 2) := by decide +kernel
theorem dX4_gather_58 : decode cX4_gather 58 = .ok (.invokevirtual 41, 3) := by decide +kernel
theorem dX4_gather_61 : decode cX4_gather 61 = .ok (.ifCond .eq 58, 3) := by decide +kernel
theorem dX4_gather_64 : decode cX4_gather 64 = .ok (.aload_n 0, 1) := by decide +kernel
theorem dX4_gather_65 : decode cX4_gather 65 = .ok (.getfield 26, 3) := by decide +kernel
theorem dX4_gather_68 : decode cX4_gather 68 = .ok (.iload 5, 2) := by decide +kernel
theorem dX4_gather_70 : decode cX4_gather 70 = .ok (.iload_n 3, 1) := by decide +kernel
theorem dX4_gather_71 : decode cX4_gather 71 = .ok (.invokevirtual 45, 3) := by decide +kernel
theorem dX4_gather_74 : decode cX4_gather 74 = .ok (.iload_n 1, 1) := by decide +kernel
theorem dX4_gather_75 : decode cX4_gather 75 = .ok (.if_icmp .ne 44, 3) := by decide +kernel
theorem dX4_gather_78 : decode cX4_gather 78 = .ok (.aload_n 0, 1) := by decide +kernel
theorem dX4_gather_79 : decode cX4_gather 79 = .ok (.aload_n 0, 1) := by decide +kernel
theorem dX4_gather_80 : decode cX4_gather 80 = .ok (.getfield 22, 3) := by decide +kernel
theorem dX4_gather_83 : decode cX4_gather 83 = .ok (.getfield 51, 3) := by decide +kernel
theorem dX4_gather_86 : decode cX4_gather 86 = .ok (.iload 5, 2) := by decide +kernel
theorem dX4_gather_88 : decode cX4_gather 88 = .ok (.iaload, 1) := by decide +kernel
theorem dX4_gather_89 : decode cX4_gather 89 = .ok (.aload_n 0, 1) := by decide +kernel
theorem dX4_gather_90 : decode cX4_gather 90 = .ok (.getfield 26, 3) := by decide +kernel
theorem dX4_gather_93 : decode cX4_gather 93 = .ok (.iload 5, 2) := by decide +kernel
theorem dX4_gather_95 : decode cX4_gather 95 = .ok (.iload_n 3, 1) := by decide +kernel
theorem dX4_gather_96 : decode cX4_gather 96 = .ok (.invokevirtual 54, 3) := by decide +kernel
theorem dX4_gather_99 : decode cX4_gather 99 = .ok (.invokevirtual 57, 3) := by decide +kernel
theorem dX4_gather_102 : decode cX4_gather 102 = .ok (.iload 4, 2) := by decide +kernel
theorem dX4_gather_104 : decode cX4_gather 104 = .ok (.iconst 1, 1) := by decide +kernel
theorem dX4_gather_105 : decode cX4_gather 105 = .ok (.aload_n 0, 1) := by decide +kernel
theorem dX4_gather_106 : decode cX4_gather 106 = .ok (.getfield 22, 3) := by decide +kernel
theorem dX4_gather_109 : decode cX4_gather 109 = .ok (.getfield 61, 3) := by decide +kernel
theorem dX4_gather_112 : decode cX4_gather 112 = .ok (.iload 5, 2) := by decide +kernel
theorem dX4_gather_114 : decode cX4_gather 114 = .ok (.iaload, 1) := by decide +kernel
theorem dX4_gather_115 : decode cX4_gather 115 = .ok (.ishl, 1) := by decide +kernel
theorem dX4_gather_116 : decode cX4_gather 116 = .ok (.ior, 1) := by decide +kernel
theorem dX4_gather_117 : decode cX4_gather 117 = .ok (.istore 4, 2) := by decide +kernel
theorem dX4_gather_119 : decode cX4_gather 119 = .ok (.iinc 5 1, 3) := by decide +kernel
theorem dX4_gather_122 : decode cX4_gather 122 = .ok (.goto (-111), 3) := by decide +kernel
theorem dX4_gather_125 : decode cX4_gather 125 = .ok (.aload_n 0, 1) := by decide +kernel
theorem dX4_gather_126 : decode cX4_gather 126 = .ok (.getfield 30, 3) := by decide +kernel
theorem dX4_gather_129 : decode cX4_gather 129 = .ok (.ifCond .ne 6, 3) := by decide +kernel
theorem dX4_gather_132 : decode cX4_gather 132 = .ok (.bipush 6, 2) := by decide +kernel
theorem dX4_gather_134 : decode cX4_gather 134 = .ok (.ireturn, 1) := by decide +kernel
theorem dX4_gather_135 : decode cX4_gather 135 = .ok (.iload 4, 2) := by decide +kernel
theorem dX4_gather_137 : decode cX4_gather 137 = .ok (.invokestatic 64, 3) := by decide +kernel
theorem dX4_gather_140 : decode cX4_gather 140 = .ok (.aload_n 0, 1) := by decide +kernel
theorem dX4_gather_141 : decode cX4_gather 141 = .ok (.getfield 9, 3) := by decide +kernel
theorem dX4_gather_144 : decode cX4_gather 144 = .ok (.if_icmp .ge 8, 3) := by decide +kernel
theorem dX4_gather_147 : decode cX4_gather 147 = .ok (.bipush 7, 2) := by decide +kernel
theorem dX4_gather_149 : decode cX4_gather 149 = .ok (.goto 4, 3) := by decide +kernel
theorem dX4_gather_152 : decode cX4_gather 152 = .ok (.iconst 0, 1) := by decide +kernel
theorem dX4_gather_153 : decode cX4_gather 153 = .ok (.ireturn, 1) := by decide +kernel
noncomputable def B_X4_gather_0 : pb_C := (i_const (.int 0) (i_istore 4 (i_aload 0 (i_const (.int 0) (i_putI 51 3 (i_const (.int 0) (i_istore 5 (i_jmp 11 [true, true, true, true, true, true, false]))))))))
noncomputable def B_X4_gather_11 : pb_C := (i_iload 5 (i_aload 0 (i_getR 51 5 (i_getI 5 3 (i_ic_ge (i_aload 0 (i_getI 51 3 (i_if_ne (i_iload 4 (i_callS 1 1 M_J6_bitCount_0f7a4 (i_aload 0 (i_getI 51 2 (i_ic_ge (i_const (.int 0) i_iret) (i_const (.int 7) i_iret)))))) (i_const (.int 6) i_iret)))) (i_aload 0 (i_getR 51 5 (i_getR 5 9 (i_iload 5 (i_ald 9 200 (i_const (.int 52) (i_idivr (· / ·) (i_iload 2 (i_ic_ne (i_const (.int 0) (i_jmp 45 [true, true, true, true, true, true, false])) (i_const (.int 1) (i_jmp 45 [true, true, true, true, true, true, false]))))))))))))))))
noncomputable def B_X4_gather_45 : pb_C := (i_istore 6 (i_iload 6 (i_if_eq (i_iinc 5 1 (i_jmp 11 [true, true, true, true, true, true, false])) (i_aload 0 (i_getR 51 5 (i_iload 5 (i_callV 5 1 1 M_X1_went (i_if_eq (i_iinc 5 1 (i_jmp 11 [true, true, true, true, true, true, false])) (i_aload 0 (i_getR 51 25 (i_iload 5 (i_iload 3 (i_callV 25 2 1 M_X0_kindOf (i_iload 1 (i_ic_ne (i_iinc 5 1 (i_jmp 11 [true, true, true, true, true, true, false])) (i_aload 0 (i_aload 0 (i_getR 51 5 (i_getR 5 16 (i_iload 5 (i_ald 16 200 (i_aload 0 (i_getR 51 25 (i_iload 5 (i_iload 3 (i_callV 25 2 1 M_X0_unitsOf (i_callV 51 2 0 M_X4_insert (i_iload 4 (i_const (.int 1) (i_aload 0 (i_getR 51 5 (i_getR 5 8 (i_iload 5 (i_ald 8 200 (i_ibin (fun x y => x <<< (y &&& 31)) (i_ibin (· ||| ·) (i_istore 4 (i_iinc 5 1 (i_jmp 11 [true, true, true, true, true, true, false])))))))))))))))))))))))))))))))))))))))
noncomputable def T_X4_gather : Nat → pb_C := pb_tt [(0, B_X4_gather_0), (11, B_X4_gather_11), (45, B_X4_gather_45)]
noncomputable def M_X4_gather : pb_F := pb_M T_X4_gather 7
set_option maxRecDepth 100000 in
set_option maxHeartbeats 4000000 in
theorem S_X4_gather (l : Launch) : pb_Sound l yX4_gather cX4_gather 7 (some .int) 2 M_X4_gather := by
  refine pb_sound_of (by decide) m_5_236 ?_
  intro Γ hl0 hRm0 hm X E hr J
  have hnL : ∀ j, j < 7 → j < Γ.2.2.2.2.2.2.2.2.2.2.2.1 := fun j h => by rw [hm]; exact h
  have hR : ∀ (d' mL : Nat), d' + 1 ≤ 2 ∧ 8 + (mL + 11) + d' * 64 ≤ 2 * 64 → (pb_rm d').frames + 1 ≤ Γ.2.2.2.1.frames ∧ 8 + (mL + 11) + (pb_rm d').locals ≤ Γ.2.2.2.1.locals := by rw [hRm0]; exact fun _ _ h => h
  have hRm : 1 ≤ 2 ∧ 64 ≤ 2 * 64 → 1 ≤ Γ.2.2.2.1.frames ∧ 64 ≤ Γ.2.2.2.1.locals := by rw [hRm0]; exact fun h => h
  exact pb_tt_snd _ (List.forall_mem_cons.mpr ⟨(s_iconst (pc := 0) X dX4_gather_0 rfl (s_istore (pc := 1) X dX4_gather_1 (hnL _ (by decide)) (s_aload_n (pc := 3) X dX4_gather_3 rfl (s_iconst (pc := 4) X dX4_gather_4 rfl (s_putI (pc := 5) X dX4_gather_5 p_X4_30 (s_iconst (pc := 8) X dX4_gather_8 rfl (s_istore (pc := 9) X dX4_gather_9 (hnL _ (by decide)) (s_jmp (pc := 11) J [true, true, true, true, true, true, false])))))))), List.forall_mem_cons.mpr ⟨(s_iload (pc := 11) X dX4_gather_11 (s_aload_n (pc := 13) X dX4_gather_13 rfl (s_getR (pc := 14) X dX4_gather_14 g_X4_22 (s_getI (pc := 17) X dX4_gather_17 g_X4_33 (s_ic_ge (pc := 20) X dX4_gather_20 (by decide) (s_aload_n (pc := 125) X dX4_gather_125 rfl (s_getI (pc := 126) X dX4_gather_126 g_X4_30 (s_if_ne (pc := 129) X dX4_gather_129 (by decide) (s_iload (pc := 135) X dX4_gather_135 (s_callS (pc := 137) X dX4_gather_137 (S_J6_bitCount_0f7a4 _) q_X4_64 (hR _ _ (by decide)) (s_aload_n (pc := 140) X dX4_gather_140 rfl (s_getI (pc := 141) X dX4_gather_141 g_X4_9 (s_ic_ge (pc := 144) X dX4_gather_144 (by decide) (s_iconst (pc := 152) X dX4_gather_152 rfl (s_iret (pc := 153) X E hr dX4_gather_153)) (s_bipush (pc := 147) X dX4_gather_147 rfl (s_goto (pc := 149) X dX4_gather_149 (by decide) (s_iret (pc := 153) X E hr dX4_gather_153)))))))) (s_bipush (pc := 132) X dX4_gather_132 rfl (s_iret (pc := 134) X E hr dX4_gather_134))))) (s_aload_n (pc := 23) X dX4_gather_23 rfl (s_getR (pc := 24) X dX4_gather_24 g_X4_22 (s_getR (pc := 27) X dX4_gather_27 g_X4_38 (s_iload (pc := 30) X dX4_gather_30 (s_iald (pc := 32) X dX4_gather_32 h_9 (s_bipush (pc := 33) X dX4_gather_33 rfl (s_idiv (pc := 35) X dX4_gather_35 (s_iload_n (pc := 36) X dX4_gather_36 rfl (s_ic_ne (pc := 37) X dX4_gather_37 (by decide) (s_iconst (pc := 44) X dX4_gather_44 rfl (s_jmp (pc := 45) J [true, true, true, true, true, true, false])) (s_iconst (pc := 40) X dX4_gather_40 rfl (s_goto (pc := 41) X dX4_gather_41 (by decide) (s_jmp (pc := 45) J [true, true, true, true, true, true, false]))))))))))))))))), List.forall_mem_cons.mpr ⟨(s_istore (pc := 45) X dX4_gather_45 (hnL _ (by decide)) (s_iload (pc := 47) X dX4_gather_47 (s_if_eq (pc := 49) X dX4_gather_49 (by decide) (s_iinc (pc := 119) X dX4_gather_119 rfl (s_goto (pc := 122) X dX4_gather_122 (by decide) (s_jmp (pc := 11) J [true, true, true, true, true, true, false]))) (s_aload_n (pc := 52) X dX4_gather_52 rfl (s_getR (pc := 53) X dX4_gather_53 g_X4_22 (s_iload (pc := 56) X dX4_gather_56 (s_callV (pc := 58) X dX4_gather_58 (S_X1_went _) q_X4_41 h_5 rfl (hR _ _ (by decide)) (s_if_eq (pc := 61) X dX4_gather_61 (by decide) (s_iinc (pc := 119) X dX4_gather_119 rfl (s_goto (pc := 122) X dX4_gather_122 (by decide) (s_jmp (pc := 11) J [true, true, true, true, true, true, false]))) (s_aload_n (pc := 64) X dX4_gather_64 rfl (s_getR (pc := 65) X dX4_gather_65 g_X4_26 (s_iload (pc := 68) X dX4_gather_68 (s_iload_n (pc := 70) X dX4_gather_70 rfl (s_callV (pc := 71) X dX4_gather_71 (S_X0_kindOf _) q_X4_45 h_25 rfl (hR _ _ (by decide)) (s_iload_n (pc := 74) X dX4_gather_74 rfl (s_ic_ne (pc := 75) X dX4_gather_75 (by decide) (s_iinc (pc := 119) X dX4_gather_119 rfl (s_goto (pc := 122) X dX4_gather_122 (by decide) (s_jmp (pc := 11) J [true, true, true, true, true, true, false]))) (s_aload_n (pc := 78) X dX4_gather_78 rfl (s_aload_n (pc := 79) X dX4_gather_79 rfl (s_getR (pc := 80) X dX4_gather_80 g_X4_22 (s_getR (pc := 83) X dX4_gather_83 g_X4_51 (s_iload (pc := 86) X dX4_gather_86 (s_iald (pc := 88) X dX4_gather_88 h_16 (s_aload_n (pc := 89) X dX4_gather_89 rfl (s_getR (pc := 90) X dX4_gather_90 g_X4_26 (s_iload (pc := 93) X dX4_gather_93 (s_iload_n (pc := 95) X dX4_gather_95 rfl (s_callV (pc := 96) X dX4_gather_96 (S_X0_unitsOf _) q_X4_54 h_25 rfl (hR _ _ (by decide)) (s_callV (pc := 99) X dX4_gather_99 (S_X4_insert _) q_X4_57 h_51 rfl (hR _ _ (by decide)) (s_iload (pc := 102) X dX4_gather_102 (s_iconst (pc := 104) X dX4_gather_104 rfl (s_aload_n (pc := 105) X dX4_gather_105 rfl (s_getR (pc := 106) X dX4_gather_106 g_X4_22 (s_getR (pc := 109) X dX4_gather_109 g_X4_61 (s_iload (pc := 112) X dX4_gather_112 (s_iald (pc := 114) X dX4_gather_114 h_8 (s_ishl (pc := 115) X dX4_gather_115 (s_ior (pc := 116) X dX4_gather_116 (s_istore (pc := 117) X dX4_gather_117 (hnL _ (by decide)) (s_iinc (pc := 119) X dX4_gather_119 rfl (s_goto (pc := 122) X dX4_gather_122 (by decide) (s_jmp (pc := 11) J [true, true, true, true, true, true, false])))))))))))))))))))))))))))))))))))))))), fun _ h => absurd h List.not_mem_nil⟩⟩⟩)
theorem dX4_placeOf_0 : decode cX4_placeOf 0 = .ok (.iload_n 1, 1) := by decide +kernel
theorem dX4_placeOf_1 : decode cX4_placeOf 1 = .ok (.ifCond .ne 5, 3) := by decide +kernel
theorem dX4_placeOf_4 : decode cX4_placeOf 4 = .ok (.iconst 0, 1) := by decide +kernel
theorem dX4_placeOf_5 : decode cX4_placeOf 5 = .ok (.ireturn, 1) := by decide +kernel
theorem dX4_placeOf_6 : decode cX4_placeOf 6 = .ok (.iconst 0, 1) := by decide +kernel
theorem dX4_placeOf_7 : decode cX4_placeOf 7 = .ok (.iload_n 1, 1) := by decide +kernel
theorem dX4_placeOf_8 : decode cX4_placeOf 8 = .ok (.iconst 1, 1) := by decide +kernel
theorem dX4_placeOf_9 : decode cX4_placeOf 9 = .ok (.if_icmp .ne 14, 3) := by decide +kernel
theorem dX4_placeOf_12 : decode cX4_placeOf 12 = .ok (.aload_n 0, 1) := by decide +kernel
theorem dX4_placeOf_13 : decode cX4_placeOf 13 = .ok (.getfield 30, 3) := by decide +kernel
theorem dX4_placeOf_16 : decode cX4_placeOf 16 = .ok (.iconst 1, 1) := by decide +kernel
theorem dX4_placeOf_17 : decode cX4_placeOf 17 = .ok (.isub, 1) := by decide +kernel
theorem dX4_placeOf_18 : decode cX4_placeOf 18 = .ok (.iconst 2, 1) := by decide +kernel
theorem dX4_placeOf_19 : decode cX4_placeOf 19 = .ok (.idiv, 1) := by decide +kernel
theorem dX4_placeOf_20 : decode cX4_placeOf 20 = .ok (.goto 9, 3) := by decide +kernel
theorem dX4_placeOf_23 : decode cX4_placeOf 23 = .ok (.aload_n 0, 1) := by decide +kernel
theorem dX4_placeOf_24 : decode cX4_placeOf 24 = .ok (.getfield 30, 3) := by decide +kernel
theorem dX4_placeOf_27 : decode cX4_placeOf 27 = .ok (.iconst 1, 1) := by decide +kernel
theorem dX4_placeOf_28 : decode cX4_placeOf 28 = .ok (.isub, 1) := by decide +kernel
theorem dX4_placeOf_29 : decode cX4_placeOf 29 = .ok (.invokestatic 70, 3) := by decide +kernel
theorem dX4_placeOf_32 : decode cX4_placeOf 32 = .ok (.ireturn, 1) := by decide +kernel
noncomputable def B_X4_placeOf_0 : pb_C := (i_iload 1 (i_if_ne (i_const (.int 0) (i_iload 1 (i_const (.int 1) (i_ic_ne (i_aload 0 (i_getI 51 3 (i_const (.int 1) (i_ibin (· - ·) (i_mI2 pb_max i_iret))))) (i_aload 0 (i_getI 51 3 (i_const (.int 1) (i_ibin (· - ·) (i_const (.int 2) (i_idivr (· / ·) (i_mI2 pb_max i_iret))))))))))) (i_const (.int 0) i_iret)))
noncomputable def T_X4_placeOf : Nat → pb_C := pb_tt [(0, B_X4_placeOf_0)]
noncomputable def M_X4_placeOf : pb_F := pb_M T_X4_placeOf 2
set_option maxRecDepth 100000 in
set_option maxHeartbeats 4000000 in
theorem S_X4_placeOf (l : Launch) : pb_Sound l yX4_placeOf cX4_placeOf 2 (some .int) 1 M_X4_placeOf := by
  refine pb_sound_of (by decide) m_6_13 ?_
  intro Γ hl0 hRm0 hm X E hr J
  have hnL : ∀ j, j < 2 → j < Γ.2.2.2.2.2.2.2.2.2.2.2.1 := fun j h => by rw [hm]; exact h
  have hR : ∀ (d' mL : Nat), d' + 1 ≤ 1 ∧ 8 + (mL + 11) + d' * 64 ≤ 1 * 64 → (pb_rm d').frames + 1 ≤ Γ.2.2.2.1.frames ∧ 8 + (mL + 11) + (pb_rm d').locals ≤ Γ.2.2.2.1.locals := by rw [hRm0]; exact fun _ _ h => h
  have hRm : 1 ≤ 1 ∧ 64 ≤ 1 * 64 → 1 ≤ Γ.2.2.2.1.frames ∧ 64 ≤ Γ.2.2.2.1.locals := by rw [hRm0]; exact fun h => h
  exact pb_tt_snd _ (List.forall_mem_cons.mpr ⟨(s_iload_n (pc := 0) X dX4_placeOf_0 rfl (s_if_ne (pc := 1) X dX4_placeOf_1 (by decide) (s_iconst (pc := 6) X dX4_placeOf_6 rfl (s_iload_n (pc := 7) X dX4_placeOf_7 rfl (s_iconst (pc := 8) X dX4_placeOf_8 rfl (s_ic_ne (pc := 9) X dX4_placeOf_9 (by decide) (s_aload_n (pc := 23) X dX4_placeOf_23 rfl (s_getI (pc := 24) X dX4_placeOf_24 g_X4_30 (s_iconst (pc := 27) X dX4_placeOf_27 rfl (s_isub (pc := 28) X dX4_placeOf_28 (s_mmax (pc := 29) X dX4_placeOf_29 m_6_14 mm_mmax (hRm (by decide)) (s_iret (pc := 32) X E hr dX4_placeOf_32)))))) (s_aload_n (pc := 12) X dX4_placeOf_12 rfl (s_getI (pc := 13) X dX4_placeOf_13 g_X4_30 (s_iconst (pc := 16) X dX4_placeOf_16 rfl (s_isub (pc := 17) X dX4_placeOf_17 (s_iconst (pc := 18) X dX4_placeOf_18 rfl (s_idiv (pc := 19) X dX4_placeOf_19 (s_goto (pc := 20) X dX4_placeOf_20 (by decide) (s_mmax (pc := 29) X dX4_placeOf_29 m_6_14 mm_mmax (hRm (by decide)) (s_iret (pc := 32) X E hr dX4_placeOf_32))))))))))))) (s_iconst (pc := 4) X dX4_placeOf_4 rfl (s_iret (pc := 5) X E hr dX4_placeOf_5)))), fun _ h => absurd h List.not_mem_nil⟩)
theorem dX11_price_0 : decode cX11_price 0 = .ok (.iload_n 1, 1) := by decide +kernel
theorem dX11_price_1 : decode cX11_price 1 = .ok (.iconst 0, 1) := by decide +kernel
theorem dX11_price_2 : decode cX11_price 2 = .ok (.bipush 15, 2) := by decide +kernel
theorem dX11_price_4 : decode cX11_price 4 = .ok (.invokestatic 101, 3) := by decide +kernel
theorem dX11_price_7 : decode cX11_price 7 = .ok (.ifCond .ne 13, 3) := by decide +kernel
theorem dX11_price_10 : decode cX11_price 10 = .ok (.iload_n 2, 1) := by decide +kernel
theorem dX11_price_11 : decode cX11_price 11 = .ok (.iconst 0, 1) := by decide +kernel
theorem dX11_price_12 : decode cX11_price 12 = .ok (.bipush 9, 2) := by decide +kernel
theorem dX11_price_14 : decode cX11_price 14 = .ok (.invokestatic 101, 3) := by decide +kernel
theorem dX11_price_17 : decode cX11_price 17 = .ok (.ifCond .eq 7, 3) := by decide +kernel
theorem dX11_price_20 : decode cX11_price 20 = .ok (.iconst 1, 1) := by decide +kernel
theorem dX11_price_21 : decode cX11_price 21 = .ok (.goto 4, 3) := by decide +kernel
theorem dX11_price_24 : decode cX11_price 24 = .ok (.iconst 0, 1) := by decide +kernel
theorem dX11_price_25 : decode cX11_price 25 = .ok (.istore 5, 2) := by decide +kernel
theorem dX11_price_27 : decode cX11_price 27 = .ok (.iload 5, 2) := by decide +kernel
theorem dX11_price_29 : decode cX11_price 29 = .ok (.ifCond .ne 24, 3) := by decide +kernel
theorem dX11_price_32 : decode cX11_price 32 = .ok (.aload_n 0, 1) := by decide +kernel
theorem dX11_price_33 : decode cX11_price 33 = .ok (.getfield 46, 3) := by decide +kernel
theorem dX11_price_36 : decode cX11_price 36 = .ok (.iload_n 3, 1) := by decide +kernel
theorem dX11_price_37 : decode cX11_price 37 = .ok (.invokevirtual 214, 3) := by decide +kernel
theorem dX11_price_40 : decode cX11_price 40 = .ok (.ifCond .eq 13, 3) := by decide +kernel
theorem dX11_price_43 : decode cX11_price 43 = .ok (.iload 4, 2) := by decide +kernel
theorem dX11_price_45 : decode cX11_price 45 = .ok (.iconst 0, 1) := by decide +kernel
theorem dX11_price_46 : decode cX11_price 46 = .ok (.iconst 2, 1) := by decide +kernel
theorem dX11_price_47 : decode cX11_price 47 = .ok (.invokestatic 101, 3) := by decide +kernel
theorem dX11_price_50 : decode cX11_price 50 = .ok (.ifCond .eq 11, 3) := by decide +kernel
theorem dX11_price_53 : decode cX11_price 53 = .ok (.aload_n 0, 1) := by decide +kernel
theorem dX11_price_54 : decode cX11_price 54 = .ok (.iconst 1, 1) := by decide +kernel
theorem dX11_price_55 : decode cX11_price 55 = .ok (.putfield 9, 3) := by decide +kernel
theorem dX11_price_58 : decode cX11_price 58 = .ok (.goto 17, 3) := by decide +kernel
theorem dX11_price_61 : decode cX11_price 61 = .ok (.aload_n 0, 1) := by decide +kernel
theorem dX11_price_62 : decode cX11_price 62 = .ok (.aload_n 0, 1) := by decide +kernel
theorem dX11_price_63 : decode cX11_price 63 = .ok (.getfield 76, 3) := by decide +kernel
theorem dX11_price_66 : decode cX11_price 66 = .ok (.iload_n 1, 1) := by decide +kernel
theorem dX11_price_67 : decode cX11_price 67 = .ok (.iload_n 2, 1) := by decide +kernel
theorem dX11_price_68 : decode cX11_price 68 = .ok (.iload_n 3, 1) := by decide +kernel
theorem dX11_price_69 : decode cX11_price 69 = .ok (.invokevirtual 315, 3) := by decide +kernel
theorem dX11_price_72 : decode cX11_price 72 = .ok (.putfield 9, 3) := by decide +kernel
theorem dX11_price_75 : decode cX11_price 75 = .ok (.aload_n 0, 1) := by decide +kernel
theorem dX11_price_76 : decode cX11_price 76 = .ok (.getfield 9, 3) := by decide +kernel
theorem dX11_price_79 : decode cX11_price 79 = .ok (.ifCond .eq 5, 3) := by decide +kernel
theorem dX11_price_82 : decode cX11_price 82 = .ok (.iconst (-1), 1) := by decide +kernel
theorem dX11_price_83 : decode cX11_price 83 = .ok (.ireturn, 1) := by decide +kernel
theorem dX11_price_84 : decode cX11_price 84 = .ok (.aload_n 0, 1) := by decide +kernel
theorem dX11_price_85 : decode cX11_price 85 = .ok (.getfield 76, 3) := by decide +kernel
theorem dX11_price_88 : decode cX11_price 88 = .ok (.iload 4, 2) := by decide +kernel
theorem dX11_price_90 : decode cX11_price 90 = .ok (.invokevirtual 319, 3) := by decide +kernel
theorem dX11_price_93 : decode cX11_price 93 = .ok (.istore 6, 2) := by decide +kernel
theorem dX11_price_95 : decode cX11_price 95 = .ok (.aload_n 0, 1) := by decide +kernel
theorem dX11_price_96 : decode cX11_price 96 = .ok (.aload_n 0, 1) := by decide +kernel
theorem dX11_price_97 : decode cX11_price 97 = .ok (.getfield 76, 3) := by decide +kernel
theorem dX11_price_100 : decode cX11_price 100 = .ok (.getfield 322, 3) := by decide +kernel
theorem dX11_price_103 : decode cX11_price 103 = .ok (.iload 6, 2) := by decide +kernel
theorem dX11_price_105 : decode cX11_price 105 = .ok (.iaload, 1) := by decide +kernel
theorem dX11_price_106 : decode cX11_price 106 = .ok (.i2l, 1) := by decide +kernel
theorem dX11_price_107 : decode cX11_price 107 = .ok (.aload_n 0, 1) := by decide +kernel
theorem dX11_price_108 : decode cX11_price 108 = .ok (.getfield 76, 3) := by decide +kernel
theorem dX11_price_111 : decode cX11_price 111 = .ok (.getfield 325, 3) := by decide +kernel
theorem dX11_price_114 : decode cX11_price 114 = .ok (.iload 6, 2) := by decide +kernel
theorem dX11_price_116 : decode cX11_price 116 = .ok (.iaload, 1) := by decide +kernel
theorem dX11_price_117 : decode cX11_price 117 = .ok (.i2l, 1) := by decide +kernel
theorem dX11_price_118 : decode cX11_price 118 = .ok (.invokevirtual 311, 3) := by decide +kernel
theorem dX11_price_121 : decode cX11_price 121 = .ok (.ireturn, 1) := by decide +kernel
noncomputable def B_X11_price_0 : pb_C := (i_iload 1 (i_const (.int 0) (i_const (.int 15) (i_callS 3 1 M_X11_outside (i_if_ne (i_const (.int 1) (i_jmp 25 [true, true, true, true, true, false, false])) (i_iload 2 (i_const (.int 0) (i_const (.int 9) (i_callS 3 1 M_X11_outside (i_if_eq (i_const (.int 0) (i_jmp 25 [true, true, true, true, true, false, false])) (i_const (.int 1) (i_jmp 25 [true, true, true, true, true, false, false]))))))))))))
noncomputable def B_X11_price_25 : pb_C := (i_istore 5 (i_iload 5 (i_if_ne (i_aload 0 (i_const (.int 1) (i_putI 0 0 (i_jmp 75 [true, false, false, false, true, false, false])))) (i_aload 0 (i_getR 0 25 (i_iload 3 (i_callV 25 1 1 M_X0_judgeBy (i_if_eq (i_aload 0 (i_const (.int 1) (i_putI 0 0 (i_jmp 75 [true, false, false, false, true, false, false])))) (i_iload 4 (i_const (.int 0) (i_const (.int 2) (i_callS 3 1 M_X11_outside (i_if_eq (i_aload 0 (i_aload 0 (i_getR 0 51 (i_iload 1 (i_iload 2 (i_iload 3 (i_callV 51 3 1 M_X4_gather (i_putI 0 0 (i_jmp 75 [true, false, false, false, true, false, false]))))))))) (i_aload 0 (i_const (.int 1) (i_putI 0 0 (i_jmp 75 [true, false, false, false, true, false, false])))))))))))))))))
noncomputable def B_X11_price_75 : pb_C := (i_aload 0 (i_getI 0 0 (i_if_eq (i_aload 0 (i_getR 0 51 (i_iload 4 (i_callV 51 1 1 M_X4_placeOf (i_istore 6 (i_aload 0 (i_aload 0 (i_getR 0 51 (i_getR 51 52 (i_iload 6 (i_ald 52 200 (i_i2l (i_aload 0 (i_getR 0 51 (i_getR 51 53 (i_iload 6 (i_ald 53 200 (i_i2l (i_callV 0 2 1 M_X11_tellFraction i_iret))))))))))))))))))) (i_const (.int (-1)) i_iret))))
noncomputable def T_X11_price : Nat → pb_C := pb_tt [(0, B_X11_price_0), (25, B_X11_price_25), (75, B_X11_price_75)]
noncomputable def M_X11_price : pb_F := pb_M T_X11_price 7
set_option maxRecDepth 100000 in
set_option maxHeartbeats 4000000 in
theorem S_X11_price (l : Launch) : pb_Sound l yX11_price cX11_price 7 (some .int) 5 M_X11_price := by
  refine pb_sound_of (by decide) m_5_232 ?_
  intro Γ hl0 hRm0 hm X E hr J
  have hnL : ∀ j, j < 7 → j < Γ.2.2.2.2.2.2.2.2.2.2.2.1 := fun j h => by rw [hm]; exact h
  have hR : ∀ (d' mL : Nat), d' + 1 ≤ 5 ∧ 8 + (mL + 11) + d' * 64 ≤ 5 * 64 → (pb_rm d').frames + 1 ≤ Γ.2.2.2.1.frames ∧ 8 + (mL + 11) + (pb_rm d').locals ≤ Γ.2.2.2.1.locals := by rw [hRm0]; exact fun _ _ h => h
  have hRm : 1 ≤ 5 ∧ 64 ≤ 5 * 64 → 1 ≤ Γ.2.2.2.1.frames ∧ 64 ≤ Γ.2.2.2.1.locals := by rw [hRm0]; exact fun h => h
  exact pb_tt_snd _ (List.forall_mem_cons.mpr ⟨(s_iload_n (pc := 0) X dX11_price_0 rfl (s_iconst (pc := 1) X dX11_price_1 rfl (s_bipush (pc := 2) X dX11_price_2 rfl (s_callS (pc := 4) X dX11_price_4 (S_X11_outside _) q_X11_101 (hR _ _ (by decide)) (s_if_ne (pc := 7) X dX11_price_7 (by decide) (s_iconst (pc := 20) X dX11_price_20 rfl (s_goto (pc := 21) X dX11_price_21 (by decide) (s_jmp (pc := 25) J [true, true, true, true, true, false, false]))) (s_iload_n (pc := 10) X dX11_price_10 rfl (s_iconst (pc := 11) X dX11_price_11 rfl (s_bipush (pc := 12) X dX11_price_12 rfl (s_callS (pc := 14) X dX11_price_14 (S_X11_outside _) q_X11_101 (hR _ _ (by decide)) (s_if_eq (pc := 17) X dX11_price_17 (by decide) (s_iconst (pc := 24) X dX11_price_24 rfl (s_jmp (pc := 25) J [true, true, true, true, true, false, false])) (s_iconst (pc := 20) X dX11_price_20 rfl (s_goto (pc := 21) X dX11_price_21 (by decide) (s_jmp (pc := 25) J [true, true, true, true, true, false, false]))))))))))))), List.forall_mem_cons.mpr ⟨(s_istore (pc := 25) X dX11_price_25 (hnL _ (by decide)) (s_iload (pc := 27) X dX11_price_27 (s_if_ne (pc := 29) X dX11_price_29 (by decide) (s_aload_n (pc := 53) X dX11_price_53 rfl (s_iconst (pc := 54) X dX11_price_54 rfl (s_putI (pc := 55) X dX11_price_55 p_X11_9 (s_goto (pc := 58) X dX11_price_58 (by decide) (s_jmp (pc := 75) J [true, false, false, false, true, false, false]))))) (s_aload_n (pc := 32) X dX11_price_32 rfl (s_getR (pc := 33) X dX11_price_33 g_X11_46 (s_iload_n (pc := 36) X dX11_price_36 rfl (s_callV (pc := 37) X dX11_price_37 (S_X0_judgeBy _) q_X11_214 h_25 rfl (hR _ _ (by decide)) (s_if_eq (pc := 40) X dX11_price_40 (by decide) (s_aload_n (pc := 53) X dX11_price_53 rfl (s_iconst (pc := 54) X dX11_price_54 rfl (s_putI (pc := 55) X dX11_price_55 p_X11_9 (s_goto (pc := 58) X dX11_price_58 (by decide) (s_jmp (pc := 75) J [true, false, false, false, true, false, false]))))) (s_iload (pc := 43) X dX11_price_43 (s_iconst (pc := 45) X dX11_price_45 rfl (s_iconst (pc := 46) X dX11_price_46 rfl (s_callS (pc := 47) X dX11_price_47 (S_X11_outside _) q_X11_101 (hR _ _ (by decide)) (s_if_eq (pc := 50) X dX11_price_50 (by decide) (s_aload_n (pc := 61) X dX11_price_61 rfl (s_aload_n (pc := 62) X dX11_price_62 rfl (s_getR (pc := 63) X dX11_price_63 g_X11_76 (s_iload_n (pc := 66) X dX11_price_66 rfl (s_iload_n (pc := 67) X dX11_price_67 rfl (s_iload_n (pc := 68) X dX11_price_68 rfl (s_callV (pc := 69) X dX11_price_69 (S_X4_gather _) q_X11_315 h_51 rfl (hR _ _ (by decide)) (s_putI (pc := 72) X dX11_price_72 p_X11_9 (s_jmp (pc := 75) J [true, false, false, false, true, false, false]))))))))) (s_aload_n (pc := 53) X dX11_price_53 rfl (s_iconst (pc := 54) X dX11_price_54 rfl (s_putI (pc := 55) X dX11_price_55 p_X11_9 (s_goto (pc := 58) X dX11_price_58 (by decide) (s_jmp (pc := 75) J [true, false, false, false, true, false, false])))))))))))))))))), List.forall_mem_cons.mpr ⟨(s_aload_n (pc := 75) X dX11_price_75 rfl (s_getI (pc := 76) X dX11_price_76 g_X11_9 (s_if_eq (pc := 79) X dX11_price_79 (by decide) (s_aload_n (pc := 84) X dX11_price_84 rfl (s_getR (pc := 85) X dX11_price_85 g_X11_76 (s_iload (pc := 88) X dX11_price_88 (s_callV (pc := 90) X dX11_price_90 (S_X4_placeOf _) q_X11_319 h_51 rfl (hR _ _ (by decide)) (s_istore (pc := 93) X dX11_price_93 (hnL _ (by decide)) (s_aload_n (pc := 95) X dX11_price_95 rfl (s_aload_n (pc := 96) X dX11_price_96 rfl (s_getR (pc := 97) X dX11_price_97 g_X11_76 (s_getR (pc := 100) X dX11_price_100 g_X11_322 (s_iload (pc := 103) X dX11_price_103 (s_iald (pc := 105) X dX11_price_105 h_52 (s_i2l (pc := 106) X dX11_price_106 (s_aload_n (pc := 107) X dX11_price_107 rfl (s_getR (pc := 108) X dX11_price_108 g_X11_76 (s_getR (pc := 111) X dX11_price_111 g_X11_325 (s_iload (pc := 114) X dX11_price_114 (s_iald (pc := 116) X dX11_price_116 h_53 (s_i2l (pc := 117) X dX11_price_117 (s_callV (pc := 118) X dX11_price_118 (S_X11_tellFraction _) q_X11_311 h_0 rfl (hR _ _ (by decide)) (s_iret (pc := 121) X E hr dX11_price_121)))))))))))))))))))) (s_iconst (pc := 82) X dX11_price_82 rfl (s_iret (pc := 83) X E hr dX11_price_83))))), fun _ h => absurd h List.not_mem_nil⟩⟩⟩)
noncomputable def B_J7_fill_53178_55_0 : pb_C := (i_const (.int 0) (i_istore 2 (i_aload 0 (i_alen 55 8 (i_istore 3 (i_jmp 5 [true, true, true, true]))))))
noncomputable def B_J7_fill_53178_55_5 : pb_C := (i_iload 2 (i_iload 3 (i_ic_ge i_vret (i_aload 0 (i_iload 2 (i_iload 1 (i_ast 55 8 (fun x => x) (i_iinc 2 1 (i_jmp 5 [true, true, true, true])))))))))
noncomputable def T_J7_fill_53178_55 : Nat → pb_C := pb_tt [(0, B_J7_fill_53178_55_0), (5, B_J7_fill_53178_55_5)]
noncomputable def M_J7_fill_53178_55 : pb_F := pb_M T_J7_fill_53178_55 4
set_option maxRecDepth 100000 in
set_option maxHeartbeats 4000000 in
theorem S_J7_fill_53178_55 (l : Launch) : pb_Sound l yJ7_fill_53178 cJ7_fill_53178 4 none 1 M_J7_fill_53178_55 := by
  refine pb_sound_of (by decide) m_5_145 ?_
  intro Γ hl0 hRm0 hm X E hr J
  have hnL : ∀ j, j < 4 → j < Γ.2.2.2.2.2.2.2.2.2.2.2.1 := fun j h => by rw [hm]; exact h
  have hR : ∀ (d' mL : Nat), d' + 1 ≤ 1 ∧ 8 + (mL + 11) + d' * 64 ≤ 1 * 64 → (pb_rm d').frames + 1 ≤ Γ.2.2.2.1.frames ∧ 8 + (mL + 11) + (pb_rm d').locals ≤ Γ.2.2.2.1.locals := by rw [hRm0]; exact fun _ _ h => h
  have hRm : 1 ≤ 1 ∧ 64 ≤ 1 * 64 → 1 ≤ Γ.2.2.2.1.frames ∧ 64 ≤ Γ.2.2.2.1.locals := by rw [hRm0]; exact fun h => h
  exact pb_tt_snd _ (List.forall_mem_cons.mpr ⟨(s_iconst (pc := 0) X dJ7_fill_53178_0 rfl (s_istore_n (pc := 1) X dJ7_fill_53178_1 rfl (hnL _ (by decide)) (s_aload_n (pc := 2) X dJ7_fill_53178_2 rfl (s_alen (pc := 3) X dJ7_fill_53178_3 h_55 (fun cs => rfl) (s_istore_n (pc := 4) X dJ7_fill_53178_4 rfl (hnL _ (by decide)) (s_jmp (pc := 5) J [true, true, true, true])))))), List.forall_mem_cons.mpr ⟨(s_iload_n (pc := 5) X dJ7_fill_53178_5 rfl (s_iload_n (pc := 6) X dJ7_fill_53178_6 rfl (s_ic_ge (pc := 7) X dJ7_fill_53178_7 (by decide) (s_vret (pc := 20) X E hr dJ7_fill_53178_20) (s_aload_n (pc := 10) X dJ7_fill_53178_10 rfl (s_iload_n (pc := 11) X dJ7_fill_53178_11 rfl (s_iload_n (pc := 12) X dJ7_fill_53178_12 rfl (s_iast (pc := 13) X dJ7_fill_53178_13 h_55 (s_iinc (pc := 14) X dJ7_fill_53178_14 rfl (s_goto (pc := 17) X dJ7_fill_53178_17 (by decide) (s_jmp (pc := 5) J [true, true, true, true])))))))))), fun _ h => absurd h List.not_mem_nil⟩⟩)
theorem dX9_unlikeHands_0 : decode cX9_unlikeHands 0 = .ok (.aload_n 0, 1) := by decide +kernel
theorem dX9_unlikeHands_1 : decode cX9_unlikeHands 1 = .ok (.getfield 9, 3) := by decide +kernel
theorem dX9_unlikeHands_4 : decode cX9_unlikeHands 4 = .ok (.iconst 0, 1) := by decide +kernel
theorem dX9_unlikeHands_5 : decode cX9_unlikeHands 5 = .ok (.invokestatic 22, 3) := by decide +kernel
theorem dX9_unlikeHands_8 : decode cX9_unlikeHands 8 = .ok (.iconst 0, 1) := by decide +kernel
theorem dX9_unlikeHands_9 : decode cX9_unlikeHands 9 = .ok (.istore 4, 2) := by decide +kernel
theorem dX9_unlikeHands_11 : decode cX9_unlikeHands 11 = .ok (.iconst 0, 1) := by decide +kernel
theorem dX9_unlikeHands_12 : decode cX9_unlikeHands 12 = .ok (.istore 5, 2) := by decide +kernel
theorem dX9_unlikeHands_14 : decode cX9_unlikeHands 14 = .ok (.iconst 0, 1) := by decide +kernel
theorem dX9_unlikeHands_15 : decode cX9_unlikeHands 15 = .ok (.istore 6, 2) := by decide +kernel
theorem dX9_unlikeHands_17 : decode cX9_unlikeHands 17 = .ok (.iload 6, 2) := by decide +kernel
theorem dX9_unlikeHands_19 : decode cX9_unlikeHands 19 = .ok (.aload_n 0, 1) := by decide +kernel
theorem dX9_unlikeHands_20 : decode cX9_unlikeHands 20 = .ok (.getfield 18, 3) := by decide +kernel
theorem dX9_unlikeHands_23 : decode cX9_unlikeHands 23 = .ok (.getfield 28, 3) := by decide +kernel
theorem dX9_unlikeHands_26 : decode cX9_unlikeHands 26 = .ok (.if_icmp .ge 105, 3) := by decide +kernel
theorem dX9_unlikeHands_29 : decode cX9_unlikeHands 29 = .ok (.aload_n 0, 1) := by decide +kernel
theorem dX9_unlikeHands_30 : decode cX9_unlikeHands 30 = .ok (.getfield 18, 3) := by decide +kernel
theorem dX9_unlikeHands_33 : decode cX9_unlikeHands 33 = .ok (.getfield 34, 3) := by decide +kernel
theorem dX9_unlikeHands_36 : decode cX9_unlikeHands 36 = .ok (.iload 6, 2) := by decide +kernel
theorem dX9_unlikeHands_38 : decode cX9_unlikeHands 38 = .ok (.iaload, 1) := by decide +kernel
theorem dX9_unlikeHands_39 : decode cX9_unlikeHands 39 = .ok (.iload_n 2, 1) := by decide +kernel
theorem dX9_unlikeHands_40 : decode cX9_unlikeHands 40 = .ok (.iload_n 3, 1) := by decide +kernel
theorem dX9_unlikeHands_41 : decode cX9_unlikeHands 41 = .ok (.invokestatic 37, 3) := by decide +kernel
theorem dX9_unlikeHands_44 : decode cX9_unlikeHands 44 = .ok (.ifCond .ne 7, 3) := by decide +kernel
theorem dX9_unlikeHands_47 : decode cX9_unlikeHands 47 = .ok (.iconst 1, 1) := by decide +kernel
theorem dX9_unlikeHands_48 : decode cX9_unlikeHands 48 = .ok (.goto 4, 3) := by decide +kernel
theorem dX9_unlikeHands_51 : decode cX9_unlikeHands 51 = .ok (.iconst 0, 1) := by decide +kernel
theorem dX9_unlikeHands_52 : decode cX9_unlikeHands 52 = .ok (.istore 7, 2) := by decide +kernel
theorem dX9_unlikeHands_54 : decode cX9_unlikeHands 54 = .ok (.iload 7, 2) := by decide +kernel
theorem dX9_unlikeHands_56 : decode cX9_unlikeHands 56 = .ok (.ifCond .eq 69, 3) := by decide +kernel
theorem dX9_unlikeHands_59 : decode cX9_unlikeHands 59 = .ok (.aload_n 0, 1) := by decide +kernel
theorem dX9_unlikeHands_60 : decode cX9_unlikeHands 60 = .ok (.getfield 18, 3) := by decide +kernel
theorem dX9_unlikeHands_63 : decode cX9_unlikeHands 63 = .ok (.getfield 41, 3) := by decide +kernel
theorem dX9_unlikeHands_66 : decode cX9_unlikeHands 66 = .ok (.iload 6, 2) := by decide +kernel
theorem dX9_unlikeHands_68 : decode cX9_unlikeHands 68 = .ok (.iaload, 1) := by decide +kernel
theorem dX9_unlikeHands_69 : decode cX9_unlikeHands 69 = .ok (.iload_n 1, 1) := by decide +kernel
theorem dX9_unlikeHands_70 : decode cX9_unlikeHands 70 = .ok (.if_icmp .ne 55, 3) := by decide +kernel
theorem dX9_unlikeHands_73 : decode cX9_unlikeHands 73 = .ok (.aload_n 0, 1) := by decide +kernel
theorem dX9_unlikeHands_74 : decode cX9_unlikeHands 74 = .ok (.getfield 18, 3) := by decide +kernel
theorem dX9_unlikeHands_77 : decode cX9_unlikeHands 77 = .ok (.iload 6, 2) := by decide +kernel
theorem dX9_unlikeHands_79 : decode cX9_unlikeHands 79 = .ok (.invokevirtual 44, 3) := by decide +kernel
theorem dX9_unlikeHands_82 : decode cX9_unlikeHands 82 = .ok (.ifCond .eq 43, 3) := by decide +kernel
theorem dX9_unlikeHands_85 : decode cX9_unlikeHands 85 = .ok (.aload_n 0, 1) := by decide +kernel
theorem dX9_unlikeHands_86 : decode cX9_unlikeHands 86 = .ok (.getfield 18, 3) := by decide +kernel
theorem dX9_unlikeHands_89 : decode cX9_unlikeHands 89 = .ok (.getfield 48, 3) := by decide +kernel
theorem dX9_unlikeHands_92 : decode cX9_unlikeHands 92 = .ok (.iload 6, 2) := by decide +kernel
theorem dX9_unlikeHands_94 : decode cX9_unlikeHands 94 = .ok (.iaload, 1) := by decide +kernel
theorem dX9_unlikeHands_95 : decode cX9_unlikeHands 95 = .ok (.istore 8, 2) := by decide +kernel
theorem dX9_unlikeHands_97 : decode cX9_unlikeHands 97 = .ok (.aload_n 0, 1) := by decide +kernel
theorem dX9_unlikeHands_98 : decode cX9_unlikeHands 98 = .ok (.getfield 9, 3) := by decide +kernel
theorem dX9_unlikeHands_101 : decode cX9_unlikeHands 101 = .ok (.iload 8, 2) := by decide +kernel
theorem dX9_unlikeHands_103 : decode cX9_unlikeHands 103 = .ok (.dup2, 1) := by decide +kernel
theorem dX9_unlikeHands_104 : decode cX9_unlikeHands 104 = .ok (.iaload, 1) := by decide +kernel
theorem dX9_unlikeHands_105 : decode cX9_unlikeHands 105 = .ok (.iconst 1, 1) := by decide +kernel
theorem dX9_unlikeHands_106 : decode cX9_unlikeHands 106 = .ok (.iadd, 1) := by decide +kernel
theorem dX9_unlikeHands_107 : decode cX9_unlikeHands 107 = .ok (.iastore, 1) := by decide +kernel
theorem dX9_unlikeHands_108 : decode cX9_unlikeHands 108 = .ok (.iload 5, 2) := by decide +kernel
theorem dX9_unlikeHands_110 : decode cX9_unlikeHands 110 = .ok (.aload_n 0, 1) := by decide +kernel
theorem dX9_unlikeHands_111 : decode cX9_unlikeHands 111 = .ok (.getfield 9, 3) := by decide +kernel
theorem dX9_unlikeHands_114 : decode cX9_unlikeHands 114 = .ok (.iload 8, 2) := by decide +kernel
theorem dX9_unlikeHands_116 : decode cX9_unlikeHands 116 = .ok (.iaload, 1) := by decide +kernel
theorem dX9_unlikeHands_117 : decode cX9_unlikeHands 117 = .ok (.invokestatic 51, 3) := by decide +kernel
theorem dX9_unlikeHands_120 : decode cX9_unlikeHands 120 = .ok (.istore 5, 2) := by decide +kernel
theorem dX9_unlikeHands_122 : decode cX9_unlikeHands 122 = .ok (.iinc 4 1, 3) := by decide +kernel
theorem dX9_unlikeHands_125 : decode cX9_unlikeHands 125 = .ok (.iinc 6 1, 3) := by decide +kernel
theorem dX9_unlikeHands_128 : decode cX9_unlikeHands 128 = .ok (.goto (-111), 3) := by decide +kernel
theorem dX9_unlikeHands_131 : decode cX9_unlikeHands 131 = .ok (.iload 4, 2) := by decide +kernel
theorem dX9_unlikeHands_133 : decode cX9_unlikeHands 133 = .ok (.ifCond .ne 7, 3) := by decide +kernel
theorem dX9_unlikeHands_136 : decode cX9_unlikeHands 136 = .ok (.iconst (-1), 1) := by decide +kernel
theorem dX9_unlikeHands_137 : decode cX9_unlikeHands 137 = .ok (.goto 8, 3) := by decide +kernel
theorem dX9_unlikeHands_140 : decode cX9_unlikeHands 140 = .ok (.iload 4, 2) := by decide +kernel
theorem dX9_unlikeHands_142 : decode cX9_unlikeHands 142 = .ok (.iload 5, 2) := by decide +kernel
theorem dX9_unlikeHands_144 : decode cX9_unlikeHands 144 = .ok (.isub, 1) := by decide +kernel
theorem dX9_unlikeHands_145 : decode cX9_unlikeHands 145 = .ok (.ireturn, 1) := by decide +kernel
noncomputable def B_X9_unlikeHands_0 : pb_C := (i_aload 0 (i_getR 54 55 (i_const (.int 0) (i_callS 2 0 M_J7_fill_53178_55 (i_const (.int 0) (i_istore 4 (i_const (.int 0) (i_istore 5 (i_const (.int 0) (i_istore 6 (i_jmp 17 [true, true, true, true, true, true, true, false, false])))))))))))
noncomputable def B_X9_unlikeHands_17 : pb_C := (i_iload 6 (i_aload 0 (i_getR 54 5 (i_getI 5 3 (i_ic_ge (i_iload 4 (i_if_ne (i_iload 4 (i_iload 5 (i_ibin (· - ·) i_iret))) (i_const (.int (-1)) i_iret))) (i_aload 0 (i_getR 54 5 (i_getR 5 9 (i_iload 6 (i_ald 9 200 (i_iload 2 (i_iload 3 (i_callS 3 1 M_X11_outside (i_if_ne (i_const (.int 0) (i_jmp 52 [true, true, true, true, true, true, true, false, false])) (i_const (.int 1) (i_jmp 52 [true, true, true, true, true, true, true, false, false]))))))))))))))))
noncomputable def B_X9_unlikeHands_52 : pb_C := (i_istore 7 (i_iload 7 (i_if_eq (i_iinc 6 1 (i_jmp 17 [true, true, true, true, true, true, true, false, false])) (i_aload 0 (i_getR 54 5 (i_getR 5 8 (i_iload 6 (i_ald 8 200 (i_iload 1 (i_ic_ne (i_iinc 6 1 (i_jmp 17 [true, true, true, true, true, true, true, false, false])) (i_aload 0 (i_getR 54 5 (i_iload 6 (i_callV 5 1 1 M_X1_isKnown (i_if_eq (i_iinc 6 1 (i_jmp 17 [true, true, true, true, true, true, true, false, false])) (i_aload 0 (i_getR 54 5 (i_getR 5 11 (i_iload 6 (i_ald 11 200 (i_istore 8 (i_aload 0 (i_getR 54 55 (i_iload 8 (i_dup2 (i_ald 55 8 (i_const (.int 1) (i_ibin (· + ·) (i_ast 55 8 (fun x => x) (i_iload 5 (i_aload 0 (i_getR 54 55 (i_iload 8 (i_ald 55 8 (i_mI2 pb_max (i_istore 5 (i_iinc 4 1 (i_iinc 6 1 (i_jmp 17 [true, true, true, true, true, true, true, false, false])))))))))))))))))))))))))))))))))))))))
noncomputable def T_X9_unlikeHands : Nat → pb_C := pb_tt [(0, B_X9_unlikeHands_0), (17, B_X9_unlikeHands_17), (52, B_X9_unlikeHands_52)]
noncomputable def M_X9_unlikeHands : pb_F := pb_M T_X9_unlikeHands 9
set_option maxRecDepth 100000 in
set_option maxHeartbeats 4000000 in
theorem S_X9_unlikeHands (l : Launch) : pb_Sound l yX9_unlikeHands cX9_unlikeHands 9 (some .int) 2 M_X9_unlikeHands := by
  refine pb_sound_of (by decide) m_6_22 ?_
  intro Γ hl0 hRm0 hm X E hr J
  have hnL : ∀ j, j < 9 → j < Γ.2.2.2.2.2.2.2.2.2.2.2.1 := fun j h => by rw [hm]; exact h
  have hR : ∀ (d' mL : Nat), d' + 1 ≤ 2 ∧ 8 + (mL + 11) + d' * 64 ≤ 2 * 64 → (pb_rm d').frames + 1 ≤ Γ.2.2.2.1.frames ∧ 8 + (mL + 11) + (pb_rm d').locals ≤ Γ.2.2.2.1.locals := by rw [hRm0]; exact fun _ _ h => h
  have hRm : 1 ≤ 2 ∧ 64 ≤ 2 * 64 → 1 ≤ Γ.2.2.2.1.frames ∧ 64 ≤ Γ.2.2.2.1.locals := by rw [hRm0]; exact fun h => h
  exact pb_tt_snd _ (List.forall_mem_cons.mpr ⟨(s_aload_n (pc := 0) X dX9_unlikeHands_0 rfl (s_getR (pc := 1) X dX9_unlikeHands_1 g_X9_9 (s_iconst (pc := 4) X dX9_unlikeHands_4 rfl (s_callS (pc := 5) X dX9_unlikeHands_5 (S_J7_fill_53178_55 _) q_X9_22 (hR _ _ (by decide)) (s_iconst (pc := 8) X dX9_unlikeHands_8 rfl (s_istore (pc := 9) X dX9_unlikeHands_9 (hnL _ (by decide)) (s_iconst (pc := 11) X dX9_unlikeHands_11 rfl (s_istore (pc := 12) X dX9_unlikeHands_12 (hnL _ (by decide)) (s_iconst (pc := 14) X dX9_unlikeHands_14 rfl (s_istore (pc := 15) X dX9_unlikeHands_15 (hnL _ (by decide)) (s_jmp (pc := 17) J [true, true, true, true, true, true, true, false, false]))))))))))), List.forall_mem_cons.mpr ⟨(s_iload (pc := 17) X dX9_unlikeHands_17 (s_aload_n (pc := 19) X dX9_unlikeHands_19 rfl (s_getR (pc := 20) X dX9_unlikeHands_20 g_X9_18 (s_getI (pc := 23) X dX9_unlikeHands_23 g_X9_28 (s_ic_ge (pc := 26) X dX9_unlikeHands_26 (by decide) (s_iload (pc := 131) X dX9_unlikeHands_131 (s_if_ne (pc := 133) X dX9_unlikeHands_133 (by decide) (s_iload (pc := 140) X dX9_unlikeHands_140 (s_iload (pc := 142) X dX9_unlikeHands_142 (s_isub (pc := 144) X dX9_unlikeHands_144 (s_iret (pc := 145) X E hr dX9_unlikeHands_145)))) (s_iconst (pc := 136) X dX9_unlikeHands_136 rfl (s_goto (pc := 137) X dX9_unlikeHands_137 (by decide) (s_iret (pc := 145) X E hr dX9_unlikeHands_145))))) (s_aload_n (pc := 29) X dX9_unlikeHands_29 rfl (s_getR (pc := 30) X dX9_unlikeHands_30 g_X9_18 (s_getR (pc := 33) X dX9_unlikeHands_33 g_X9_34 (s_iload (pc := 36) X dX9_unlikeHands_36 (s_iald (pc := 38) X dX9_unlikeHands_38 h_9 (s_iload_n (pc := 39) X dX9_unlikeHands_39 rfl (s_iload_n (pc := 40) X dX9_unlikeHands_40 rfl (s_callS (pc := 41) X dX9_unlikeHands_41 (S_X11_outside _) q_X9_37 (hR _ _ (by decide)) (s_if_ne (pc := 44) X dX9_unlikeHands_44 (by decide) (s_iconst (pc := 51) X dX9_unlikeHands_51 rfl (s_jmp (pc := 52) J [true, true, true, true, true, true, true, false, false])) (s_iconst (pc := 47) X dX9_unlikeHands_47 rfl (s_goto (pc := 48) X dX9_unlikeHands_48 (by decide) (s_jmp (pc := 52) J [true, true, true, true, true, true, true, false, false]))))))))))))))))), List.forall_mem_cons.mpr ⟨(s_istore (pc := 52) X dX9_unlikeHands_52 (hnL _ (by decide)) (s_iload (pc := 54) X dX9_unlikeHands_54 (s_if_eq (pc := 56) X dX9_unlikeHands_56 (by decide) (s_iinc (pc := 125) X dX9_unlikeHands_125 rfl (s_goto (pc := 128) X dX9_unlikeHands_128 (by decide) (s_jmp (pc := 17) J [true, true, true, true, true, true, true, false, false]))) (s_aload_n (pc := 59) X dX9_unlikeHands_59 rfl (s_getR (pc := 60) X dX9_unlikeHands_60 g_X9_18 (s_getR (pc := 63) X dX9_unlikeHands_63 g_X9_41 (s_iload (pc := 66) X dX9_unlikeHands_66 (s_iald (pc := 68) X dX9_unlikeHands_68 h_8 (s_iload_n (pc := 69) X dX9_unlikeHands_69 rfl (s_ic_ne (pc := 70) X dX9_unlikeHands_70 (by decide) (s_iinc (pc := 125) X dX9_unlikeHands_125 rfl (s_goto (pc := 128) X dX9_unlikeHands_128 (by decide) (s_jmp (pc := 17) J [true, true, true, true, true, true, true, false, false]))) (s_aload_n (pc := 73) X dX9_unlikeHands_73 rfl (s_getR (pc := 74) X dX9_unlikeHands_74 g_X9_18 (s_iload (pc := 77) X dX9_unlikeHands_77 (s_callV (pc := 79) X dX9_unlikeHands_79 (S_X1_isKnown _) q_X9_44 h_5 rfl (hR _ _ (by decide)) (s_if_eq (pc := 82) X dX9_unlikeHands_82 (by decide) (s_iinc (pc := 125) X dX9_unlikeHands_125 rfl (s_goto (pc := 128) X dX9_unlikeHands_128 (by decide) (s_jmp (pc := 17) J [true, true, true, true, true, true, true, false, false]))) (s_aload_n (pc := 85) X dX9_unlikeHands_85 rfl (s_getR (pc := 86) X dX9_unlikeHands_86 g_X9_18 (s_getR (pc := 89) X dX9_unlikeHands_89 g_X9_48 (s_iload (pc := 92) X dX9_unlikeHands_92 (s_iald (pc := 94) X dX9_unlikeHands_94 h_11 (s_istore (pc := 95) X dX9_unlikeHands_95 (hnL _ (by decide)) (s_aload_n (pc := 97) X dX9_unlikeHands_97 rfl (s_getR (pc := 98) X dX9_unlikeHands_98 g_X9_9 (s_iload (pc := 101) X dX9_unlikeHands_101 (s_dup2 (pc := 103) X dX9_unlikeHands_103 (s_iald (pc := 104) X dX9_unlikeHands_104 h_55 (s_iconst (pc := 105) X dX9_unlikeHands_105 rfl (s_iadd (pc := 106) X dX9_unlikeHands_106 (s_iast (pc := 107) X dX9_unlikeHands_107 h_55 (s_iload (pc := 108) X dX9_unlikeHands_108 (s_aload_n (pc := 110) X dX9_unlikeHands_110 rfl (s_getR (pc := 111) X dX9_unlikeHands_111 g_X9_9 (s_iload (pc := 114) X dX9_unlikeHands_114 (s_iald (pc := 116) X dX9_unlikeHands_116 h_55 (s_mmax (pc := 117) X dX9_unlikeHands_117 m_6_26 mm_mmax (hRm (by decide)) (s_istore (pc := 120) X dX9_unlikeHands_120 (hnL _ (by decide)) (s_iinc (pc := 122) X dX9_unlikeHands_122 rfl (s_iinc (pc := 125) X dX9_unlikeHands_125 rfl (s_goto (pc := 128) X dX9_unlikeHands_128 (by decide) (s_jmp (pc := 17) J [true, true, true, true, true, true, true, false, false])))))))))))))))))))))))))))))))))))))))), fun _ h => absurd h List.not_mem_nil⟩⟩⟩)
theorem dX9_unlikeAt_0 : decode cX9_unlikeAt 0 = .ok (.aload_n 0, 1) := by decide +kernel
theorem dX9_unlikeAt_1 : decode cX9_unlikeAt 1 = .ok (.iload_n 1, 1) := by decide +kernel
theorem dX9_unlikeAt_2 : decode cX9_unlikeAt 2 = .ok (.iconst 0, 1) := by decide +kernel
theorem dX9_unlikeAt_3 : decode cX9_unlikeAt 3 = .ok (.iload_n 2, 1) := by decide +kernel
theorem dX9_unlikeAt_4 : decode cX9_unlikeAt 4 = .ok (.iconst 1, 1) := by decide +kernel
theorem dX9_unlikeAt_5 : decode cX9_unlikeAt 5 = .ok (.isub, 1) := by decide +kernel
theorem dX9_unlikeAt_6 : decode cX9_unlikeAt 6 = .ok (.invokevirtual 60, 3) := by decide +kernel
theorem dX9_unlikeAt_9 : decode cX9_unlikeAt 9 = .ok (.istore_n 3, 1) := by decide +kernel
theorem dX9_unlikeAt_10 : decode cX9_unlikeAt 10 = .ok (.aload_n 0, 1) := by decide +kernel
theorem dX9_unlikeAt_11 : decode cX9_unlikeAt 11 = .ok (.iload_n 1, 1) := by decide +kernel
theorem dX9_unlikeAt_12 : decode cX9_unlikeAt 12 = .ok (.iload_n 2, 1) := by decide +kernel
theorem dX9_unlikeAt_13 : decode cX9_unlikeAt 13 = .ok (.sipush 519, 3) := by decide +kernel
theorem dX9_unlikeAt_16 : decode cX9_unlikeAt 16 = .ok (.invokevirtual 60, 3) := by decide +kernel
theorem dX9_unlikeAt_19 : decode cX9_unlikeAt 19 = .ok (.istore 4, 2) := by decide +kernel
theorem dX9_unlikeAt_21 : decode cX9_unlikeAt 21 = .ok (.iload_n 3, 1) := by decide +kernel
theorem dX9_unlikeAt_22 : decode cX9_unlikeAt 22 = .ok (.iconst (-1), 1) := by decide +kernel
theorem dX9_unlikeAt_23 : decode cX9_unlikeAt 23 = .ok (.if_icmp .eq 9, 3) := by decide +kernel
theorem dX9_unlikeAt_26 : decode cX9_unlikeAt 26 = .ok (.iload 4, 2) := by decide +kernel
theorem dX9_unlikeAt_28 : decode cX9_unlikeAt 28 = .ok (.iconst (-1), 1) := by decide +kernel
theorem dX9_unlikeAt_29 : decode cX9_unlikeAt 29 = .ok (.if_icmp .ne 7, 3) := by decide +kernel
theorem dX9_unlikeAt_32 : decode cX9_unlikeAt 32 = .ok (.iconst (-1), 1) := by decide +kernel
theorem dX9_unlikeAt_33 : decode cX9_unlikeAt 33 = .ok (.goto 7, 3) := by decide +kernel
theorem dX9_unlikeAt_36 : decode cX9_unlikeAt 36 = .ok (.iload_n 3, 1) := by decide +kernel
theorem dX9_unlikeAt_37 : decode cX9_unlikeAt 37 = .ok (.iload 4, 2) := by decide +kernel
theorem dX9_unlikeAt_39 : decode cX9_unlikeAt 39 = .ok (.iadd, 1) := by decide +kernel
theorem dX9_unlikeAt_40 : decode cX9_unlikeAt 40 = .ok (.ireturn, 1) := by decide +kernel
noncomputable def B_X9_unlikeAt_0 : pb_C := (i_aload 0 (i_iload 1 (i_const (.int 0) (i_iload 2 (i_const (.int 1) (i_ibin (· - ·) (i_callV 54 3 1 M_X9_unlikeHands (i_istore 3 (i_aload 0 (i_iload 1 (i_iload 2 (i_const (.int 519) (i_callV 54 3 1 M_X9_unlikeHands (i_istore 4 (i_iload 3 (i_const (.int (-1)) (i_ic_eq (i_const (.int (-1)) i_iret) (i_iload 4 (i_const (.int (-1)) (i_ic_ne (i_iload 3 (i_iload 4 (i_ibin (· + ·) i_iret))) (i_const (.int (-1)) i_iret)))))))))))))))))))))
noncomputable def T_X9_unlikeAt : Nat → pb_C := pb_tt [(0, B_X9_unlikeAt_0)]
noncomputable def M_X9_unlikeAt : pb_F := pb_M T_X9_unlikeAt 5
set_option maxRecDepth 100000 in
set_option maxHeartbeats 4000000 in
theorem S_X9_unlikeAt (l : Launch) : pb_Sound l yX9_unlikeAt cX9_unlikeAt 5 (some .int) 3 M_X9_unlikeAt := by
  refine pb_sound_of (by decide) m_6_34 ?_
  intro Γ hl0 hRm0 hm X E hr J
  have hnL : ∀ j, j < 5 → j < Γ.2.2.2.2.2.2.2.2.2.2.2.1 := fun j h => by rw [hm]; exact h
  have hR : ∀ (d' mL : Nat), d' + 1 ≤ 3 ∧ 8 + (mL + 11) + d' * 64 ≤ 3 * 64 → (pb_rm d').frames + 1 ≤ Γ.2.2.2.1.frames ∧ 8 + (mL + 11) + (pb_rm d').locals ≤ Γ.2.2.2.1.locals := by rw [hRm0]; exact fun _ _ h => h
  have hRm : 1 ≤ 3 ∧ 64 ≤ 3 * 64 → 1 ≤ Γ.2.2.2.1.frames ∧ 64 ≤ Γ.2.2.2.1.locals := by rw [hRm0]; exact fun h => h
  exact pb_tt_snd _ (List.forall_mem_cons.mpr ⟨(s_aload_n (pc := 0) X dX9_unlikeAt_0 rfl (s_iload_n (pc := 1) X dX9_unlikeAt_1 rfl (s_iconst (pc := 2) X dX9_unlikeAt_2 rfl (s_iload_n (pc := 3) X dX9_unlikeAt_3 rfl (s_iconst (pc := 4) X dX9_unlikeAt_4 rfl (s_isub (pc := 5) X dX9_unlikeAt_5 (s_callV (pc := 6) X dX9_unlikeAt_6 (S_X9_unlikeHands _) q_X9_60 h_54 rfl (hR _ _ (by decide)) (s_istore_n (pc := 9) X dX9_unlikeAt_9 rfl (hnL _ (by decide)) (s_aload_n (pc := 10) X dX9_unlikeAt_10 rfl (s_iload_n (pc := 11) X dX9_unlikeAt_11 rfl (s_iload_n (pc := 12) X dX9_unlikeAt_12 rfl (s_sipush (pc := 13) X dX9_unlikeAt_13 rfl (s_callV (pc := 16) X dX9_unlikeAt_16 (S_X9_unlikeHands _) q_X9_60 h_54 rfl (hR _ _ (by decide)) (s_istore (pc := 19) X dX9_unlikeAt_19 (hnL _ (by decide)) (s_iload_n (pc := 21) X dX9_unlikeAt_21 rfl (s_iconst (pc := 22) X dX9_unlikeAt_22 rfl (s_ic_eq (pc := 23) X dX9_unlikeAt_23 (by decide) (s_iconst (pc := 32) X dX9_unlikeAt_32 rfl (s_goto (pc := 33) X dX9_unlikeAt_33 (by decide) (s_iret (pc := 40) X E hr dX9_unlikeAt_40))) (s_iload (pc := 26) X dX9_unlikeAt_26 (s_iconst (pc := 28) X dX9_unlikeAt_28 rfl (s_ic_ne (pc := 29) X dX9_unlikeAt_29 (by decide) (s_iload_n (pc := 36) X dX9_unlikeAt_36 rfl (s_iload (pc := 37) X dX9_unlikeAt_37 (s_iadd (pc := 39) X dX9_unlikeAt_39 (s_iret (pc := 40) X E hr dX9_unlikeAt_40)))) (s_iconst (pc := 32) X dX9_unlikeAt_32 rfl (s_goto (pc := 33) X dX9_unlikeAt_33 (by decide) (s_iret (pc := 40) X E hr dX9_unlikeAt_40))))))))))))))))))))))), fun _ h => absurd h List.not_mem_nil⟩)
theorem dX9_bestChange_0 : decode cX9_bestChange 0 = .ok (.iconst (-1), 1) := by decide +kernel
theorem dX9_bestChange_1 : decode cX9_bestChange 1 = .ok (.istore_n 3, 1) := by decide +kernel
theorem dX9_bestChange_2 : decode cX9_bestChange 2 = .ok (.iconst (-1), 1) := by decide +kernel
theorem dX9_bestChange_3 : decode cX9_bestChange 3 = .ok (.istore 4, 2) := by decide +kernel
theorem dX9_bestChange_5 : decode cX9_bestChange 5 = .ok (.iconst 0, 1) := by decide +kernel
theorem dX9_bestChange_6 : decode cX9_bestChange 6 = .ok (.istore 5, 2) := by decide +kernel
theorem dX9_bestChange_8 : decode cX9_bestChange 8 = .ok (.iload 5, 2) := by decide +kernel
theorem dX9_bestChange_10 : decode cX9_bestChange 10 = .ok (.aload_n 0, 1) := by decide +kernel
theorem dX9_bestChange_11 : decode cX9_bestChange 11 = .ok (.getfield 18, 3) := by decide +kernel
theorem dX9_bestChange_14 : decode cX9_bestChange 14 = .ok (.getfield 28, 3) := by decide +kernel
theorem dX9_bestChange_17 : decode cX9_bestChange 17 = .ok (.if_icmp .ge 109, 3) := by decide +kernel
theorem dX9_bestChange_20 : decode cX9_bestChange 20 = .ok (.aload_n 0, 1) := by decide +kernel
theorem dX9_bestChange_21 : decode cX9_bestChange 21 = .ok (.getfield 18, 3) := by decide +kernel
theorem dX9_bestChange_24 : decode cX9_bestChange 24 = .ok (.getfield 41, 3) := by decide +kernel
theorem dX9_bestChange_27 : decode cX9_bestChange 27 = .ok (.iload 5, 2) := by decide +kernel
theorem dX9_bestChange_29 : decode cX9_bestChange 29 = .ok (.iaload, 1) := by decide +kernel
theorem dX9_bestChange_30 : decode cX9_bestChange 30 = .ok (.iload_n 1, 1) := by decide +kernel
theorem dX9_bestChange_31 : decode cX9_bestChange 31 = .ok (.if_icmp .ne 89, 3) := by decide +kernel
theorem dX9_bestChange_34 : decode cX9_bestChange 34 = .ok (.aload_n 0, 1) := by decide +kernel
theorem dX9_bestChange_35 : decode cX9_bestChange 35 = .ok (.getfield 18, 3) := by decide +kernel
theorem dX9_bestChange_38 : decode cX9_bestChange 38 = .ok (.iload 5, 2) := by decide +kernel
theorem dX9_bestChange_40 : decode cX9_bestChange 40 = .ok (.invokevirtual 44, 3) := by decide +kernel
theorem dX9_bestChange_43 : decode cX9_bestChange 43 = .ok (.ifCond .eq 77, 3) := by decide +kernel
theorem dX9_bestChange_46 : decode cX9_bestChange 46 = .ok (.aload_n 0, 1) := by decide +kernel
theorem dX9_bestChange_47 : decode cX9_bestChange 47 = .ok (.getfield 18, 3) := by decide +kernel
theorem dX9_bestChange_50 : decode cX9_bestChange 50 = .ok (.getfield 34, 3) := by decide +kernel
theorem dX9_bestChange_53 : decode cX9_bestChange 53 = .ok (.iload 5, 2) := by decide +kernel
theorem dX9_bestChange_55 : decode cX9_bestChange 55 = .ok (.iaload, 1) := by decide +kernel
theorem dX9_bestChange_56 : decode cX9_bestChange 56 = .ok (.iconst 1, 1) := by decide +kernel
theorem dX9_bestChange_57 : decode cX9_bestChange 57 = .ok (.iadd, 1) := by decide +kernel
theorem dX9_bestChange_58 : decode cX9_bestChange 58 = .ok (.istore 6, 2) := by decide +kernel
theorem dX9_bestChange_60 : decode cX9_bestChange 60 = .ok (.aload_n 0, 1) := by decide +kernel
theorem dX9_bestChange_61 : decode cX9_bestChange 61 = .ok (.iload_n 1, 1) := by decide +kernel
theorem dX9_bestChange_62 : decode cX9_bestChange 62 = .ok (.iload 6, 2) := by decide +kernel
theorem dX9_bestChange_64 : decode cX9_bestChange 64 = .ok (.invokevirtual 57, 3) := by decide +kernel
theorem dX9_bestChange_67 : decode cX9_bestChange 67 = .ok (.istore 7, 2) := by decide +kernel
theorem dX9_bestChange_69 : decode cX9_bestChange 69 = .ok (.iload 4, 2) := by decide +kernel
theorem dX9_bestChange_71 : decode cX9_bestChange 71 = .ok (.iconst (-1), 1) := by decide +kernel
theorem dX9_bestChange_72 : decode cX9_bestChange 72 = .ok (.if_icmp .eq 23, 3) := by decide +kernel
theorem dX9_bestChange_75 : decode cX9_bestChange 75 = .ok (.iload 7, 2) := by decide +kernel
theorem dX9_bestChange_77 : decode cX9_bestChange 77 = .ok (.iload 4, 2) := by decide +kernel
theorem dX9_bestChange_79 : decode cX9_bestChange 79 = .ok (.if_icmp .lt 16, 3) := by decide +kernel
theorem dX9_bestChange_82 : decode cX9_bestChange 82 = .ok (.iload 7, 2) := by decide +kernel
theorem dX9_bestChange_84 : decode cX9_bestChange 84 = .ok (.iload 4, 2) := by decide +kernel
theorem dX9_bestChange_86 : decode cX9_bestChange 86 = .ok (.if_icmp .ne 13, 3) := by decide +kernel
theorem dX9_bestChange_89 : decode cX9_bestChange 89 = .ok (.iload 6, 2) := by decide +kernel
theorem dX9_bestChange_91 : decode cX9_bestChange 91 = .ok (.iload_n 3, 1) := by decide +kernel
theorem dX9_bestChange_92 : decode cX9_bestChange 92 = .ok (.if_icmp .ge 7, 3) := by decide +kernel
theorem dX9_bestChange_95 : decode cX9_bestChange 95 = .ok (.iconst 1, 1) := by decide +kernel
theorem dX9_bestChange_96 : decode cX9_bestChange 96 = .ok (.goto 4, 3) := by decide +kernel
theorem dX9_bestChange_99 : decode cX9_bestChange 99 = .ok (.iconst 0, 1) := by decide +kernel
theorem dX9_bestChange_100 : decode cX9_bestChange 100 = .ok (.istore 8, 2) := by decide +kernel
theorem dX9_bestChange_102 : decode cX9_bestChange 102 = .ok (.iload 7, 2) := by decide +kernel
theorem dX9_bestChange_104 : decode cX9_bestChange 104 = .ok (.iconst (-1), 1) := by decide +kernel
theorem dX9_bestChange_105 : decode cX9_bestChange 105 = .ok (.if_icmp .eq 15, 3) := by decide +kernel
theorem dX9_bestChange_108 : decode cX9_bestChange 108 = .ok (.iload 8, 2) := by decide +kernel
theorem dX9_bestChange_110 : decode cX9_bestChange 110 = .ok (.ifCond .eq 10, 3) := by decide +kernel
theorem dX9_bestChange_113 : decode cX9_bestChange 113 = .ok (.iload 6, 2) := by decide +kernel
theorem dX9_bestChange_115 : decode cX9_bestChange 115 = .ok (.istore_n 3, 1) := by decide +kernel
theorem dX9_bestChange_116 : decode cX9_bestChange 116 = .ok (.iload 7, 2) := by decide +kernel
theorem dX9_bestChange_118 : decode cX9_bestChange 118 = .ok (.istore 4, 2) := by decide +kernel
theorem dX9_bestChange_120 : decode cX9_bestChange 120 = .ok (.iinc 5 1, 3) := by decide +kernel
theorem dX9_bestChange_123 : decode cX9_bestChange 123 = .ok (.goto (-115), 3) := by decide +kernel
theorem dX9_bestChange_126 : decode cX9_bestChange 126 = .ok (.iload_n 2, 1) := by decide +kernel
theorem dX9_bestChange_127 : decode cX9_bestChange 127 = .ok (.ifCond .ne 7, 3) := by decide +kernel
theorem dX9_bestChange_130 : decode cX9_bestChange 130 = .ok (.iload_n 3, 1) := by decide +kernel
theorem dX9_bestChange_131 : decode cX9_bestChange 131 = .ok (.goto 5, 3) := by decide +kernel
theorem dX9_bestChange_134 : decode cX9_bestChange 134 = .ok (.iload 4, 2) := by decide +kernel
theorem dX9_bestChange_136 : decode cX9_bestChange 136 = .ok (.ireturn, 1) := by decide +kernel
noncomputable def B_X9_bestChange_0 : pb_C := (i_const (.int (-1)) (i_istore 3 (i_const (.int (-1)) (i_istore 4 (i_const (.int 0) (i_istore 5 (i_jmp 8 [true, true, true, true, true, true, false, false, false])))))))
noncomputable def B_X9_bestChange_8 : pb_C := (i_iload 5 (i_aload 0 (i_getR 54 5 (i_getI 5 3 (i_ic_ge (i_iload 2 (i_if_ne (i_iload 4 i_iret) (i_iload 3 i_iret))) (i_aload 0 (i_getR 54 5 (i_getR 5 8 (i_iload 5 (i_ald 8 200 (i_iload 1 (i_ic_ne (i_iinc 5 1 (i_jmp 8 [true, true, true, true, true, true, false, false, false])) (i_aload 0 (i_getR 54 5 (i_iload 5 (i_callV 5 1 1 M_X1_isKnown (i_if_eq (i_iinc 5 1 (i_jmp 8 [true, true, true, true, true, true, false, false, false])) (i_aload 0 (i_getR 54 5 (i_getR 5 9 (i_iload 5 (i_ald 9 200 (i_const (.int 1) (i_ibin (· + ·) (i_istore 6 (i_aload 0 (i_iload 1 (i_iload 6 (i_callV 54 2 1 M_X9_unlikeAt (i_istore 7 (i_iload 4 (i_const (.int (-1)) (i_ic_eq (i_const (.int 1) (i_jmp 100 [true, true, true, true, true, true, true, true, false])) (i_iload 7 (i_iload 4 (i_ic_lt (i_const (.int 1) (i_jmp 100 [true, true, true, true, true, true, true, true, false])) (i_iload 7 (i_iload 4 (i_ic_ne (i_const (.int 0) (i_jmp 100 [true, true, true, true, true, true, true, true, false])) (i_iload 6 (i_iload 3 (i_ic_ge (i_const (.int 0) (i_jmp 100 [true, true, true, true, true, true, true, true, false])) (i_const (.int 1) (i_jmp 100 [true, true, true, true, true, true, true, true, false]))))))))))))))))))))))))))))))))))))))))))))
noncomputable def B_X9_bestChange_100 : pb_C := (i_istore 8 (i_iload 7 (i_const (.int (-1)) (i_ic_eq (i_iinc 5 1 (i_jmp 8 [true, true, true, true, true, true, false, false, false])) (i_iload 8 (i_if_eq (i_iinc 5 1 (i_jmp 8 [true, true, true, true, true, true, false, false, false])) (i_iload 6 (i_istore 3 (i_iload 7 (i_istore 4 (i_iinc 5 1 (i_jmp 8 [true, true, true, true, true, true, false, false, false]))))))))))))
noncomputable def T_X9_bestChange : Nat → pb_C := pb_tt [(0, B_X9_bestChange_0), (8, B_X9_bestChange_8), (100, B_X9_bestChange_100)]
noncomputable def M_X9_bestChange : pb_F := pb_M T_X9_bestChange 9
set_option maxRecDepth 100000 in
set_option maxHeartbeats 4000000 in
theorem S_X9_bestChange (l : Launch) : pb_Sound l yX9_bestChange cX9_bestChange 9 (some .int) 4 M_X9_bestChange := by
  refine pb_sound_of (by decide) m_6_30 ?_
  intro Γ hl0 hRm0 hm X E hr J
  have hnL : ∀ j, j < 9 → j < Γ.2.2.2.2.2.2.2.2.2.2.2.1 := fun j h => by rw [hm]; exact h
  have hR : ∀ (d' mL : Nat), d' + 1 ≤ 4 ∧ 8 + (mL + 11) + d' * 64 ≤ 4 * 64 → (pb_rm d').frames + 1 ≤ Γ.2.2.2.1.frames ∧ 8 + (mL + 11) + (pb_rm d').locals ≤ Γ.2.2.2.1.locals := by rw [hRm0]; exact fun _ _ h => h
  have hRm : 1 ≤ 4 ∧ 64 ≤ 4 * 64 → 1 ≤ Γ.2.2.2.1.frames ∧ 64 ≤ Γ.2.2.2.1.locals := by rw [hRm0]; exact fun h => h
  exact pb_tt_snd _ (List.forall_mem_cons.mpr ⟨(s_iconst (pc := 0) X dX9_bestChange_0 rfl (s_istore_n (pc := 1) X dX9_bestChange_1 rfl (hnL _ (by decide)) (s_iconst (pc := 2) X dX9_bestChange_2 rfl (s_istore (pc := 3) X dX9_bestChange_3 (hnL _ (by decide)) (s_iconst (pc := 5) X dX9_bestChange_5 rfl (s_istore (pc := 6) X dX9_bestChange_6 (hnL _ (by decide)) (s_jmp (pc := 8) J [true, true, true, true, true, true, false, false, false]))))))), List.forall_mem_cons.mpr ⟨(s_iload (pc := 8) X dX9_bestChange_8 (s_aload_n (pc := 10) X dX9_bestChange_10 rfl (s_getR (pc := 11) X dX9_bestChange_11 g_X9_18 (s_getI (pc := 14) X dX9_bestChange_14 g_X9_28 (s_ic_ge (pc := 17) X dX9_bestChange_17 (by decide) (s_iload_n (pc := 126) X dX9_bestChange_126 rfl (s_if_ne (pc := 127) X dX9_bestChange_127 (by decide) (s_iload (pc := 134) X dX9_bestChange_134 (s_iret (pc := 136) X E hr dX9_bestChange_136)) (s_iload_n (pc := 130) X dX9_bestChange_130 rfl (s_goto (pc := 131) X dX9_bestChange_131 (by decide) (s_iret (pc := 136) X E hr dX9_bestChange_136))))) (s_aload_n (pc := 20) X dX9_bestChange_20 rfl (s_getR (pc := 21) X dX9_bestChange_21 g_X9_18 (s_getR (pc := 24) X dX9_bestChange_24 g_X9_41 (s_iload (pc := 27) X dX9_bestChange_27 (s_iald (pc := 29) X dX9_bestChange_29 h_8 (s_iload_n (pc := 30) X dX9_bestChange_30 rfl (s_ic_ne (pc := 31) X dX9_bestChange_31 (by decide) (s_iinc (pc := 120) X dX9_bestChange_120 rfl (s_goto (pc := 123) X dX9_bestChange_123 (by decide) (s_jmp (pc := 8) J [true, true, true, true, true, true, false, false, false]))) (s_aload_n (pc := 34) X dX9_bestChange_34 rfl (s_getR (pc := 35) X dX9_bestChange_35 g_X9_18 (s_iload (pc := 38) X dX9_bestChange_38 (s_callV (pc := 40) X dX9_bestChange_40 (S_X1_isKnown _) q_X9_44 h_5 rfl (hR _ _ (by decide)) (s_if_eq (pc := 43) X dX9_bestChange_43 (by decide) (s_iinc (pc := 120) X dX9_bestChange_120 rfl (s_goto (pc := 123) X dX9_bestChange_123 (by decide) (s_jmp (pc := 8) J [true, true, true, true, true, true, false, false, false]))) (s_aload_n (pc := 46) X dX9_bestChange_46 rfl (s_getR (pc := 47) X dX9_bestChange_47 g_X9_18 (s_getR (pc := 50) X dX9_bestChange_50 g_X9_34 (s_iload (pc := 53) X dX9_bestChange_53 (s_iald (pc := 55) X dX9_bestChange_55 h_9 (s_iconst (pc := 56) X dX9_bestChange_56 rfl (s_iadd (pc := 57) X dX9_bestChange_57 (s_istore (pc := 58) X dX9_bestChange_58 (hnL _ (by decide)) (s_aload_n (pc := 60) X dX9_bestChange_60 rfl (s_iload_n (pc := 61) X dX9_bestChange_61 rfl (s_iload (pc := 62) X dX9_bestChange_62 (s_callV (pc := 64) X dX9_bestChange_64 (S_X9_unlikeAt _) q_X9_57 h_54 rfl (hR _ _ (by decide)) (s_istore (pc := 67) X dX9_bestChange_67 (hnL _ (by decide)) (s_iload (pc := 69) X dX9_bestChange_69 (s_iconst (pc := 71) X dX9_bestChange_71 rfl (s_ic_eq (pc := 72) X dX9_bestChange_72 (by decide) (s_iconst (pc := 95) X dX9_bestChange_95 rfl (s_goto (pc := 96) X dX9_bestChange_96 (by decide) (s_jmp (pc := 100) J [true, true, true, true, true, true, true, true, false]))) (s_iload (pc := 75) X dX9_bestChange_75 (s_iload (pc := 77) X dX9_bestChange_77 (s_ic_lt (pc := 79) X dX9_bestChange_79 (by decide) (s_iconst (pc := 95) X dX9_bestChange_95 rfl (s_goto (pc := 96) X dX9_bestChange_96 (by decide) (s_jmp (pc := 100) J [true, true, true, true, true, true, true, true, false]))) (s_iload (pc := 82) X dX9_bestChange_82 (s_iload (pc := 84) X dX9_bestChange_84 (s_ic_ne (pc := 86) X dX9_bestChange_86 (by decide) (s_iconst (pc := 99) X dX9_bestChange_99 rfl (s_jmp (pc := 100) J [true, true, true, true, true, true, true, true, false])) (s_iload (pc := 89) X dX9_bestChange_89 (s_iload_n (pc := 91) X dX9_bestChange_91 rfl (s_ic_ge (pc := 92) X dX9_bestChange_92 (by decide) (s_iconst (pc := 99) X dX9_bestChange_99 rfl (s_jmp (pc := 100) J [true, true, true, true, true, true, true, true, false])) (s_iconst (pc := 95) X dX9_bestChange_95 rfl (s_goto (pc := 96) X dX9_bestChange_96 (by decide) (s_jmp (pc := 100) J [true, true, true, true, true, true, true, true, false]))))))))))))))))))))))))))))))))))))))))))))), List.forall_mem_cons.mpr ⟨(s_istore (pc := 100) X dX9_bestChange_100 (hnL _ (by decide)) (s_iload (pc := 102) X dX9_bestChange_102 (s_iconst (pc := 104) X dX9_bestChange_104 rfl (s_ic_eq (pc := 105) X dX9_bestChange_105 (by decide) (s_iinc (pc := 120) X dX9_bestChange_120 rfl (s_goto (pc := 123) X dX9_bestChange_123 (by decide) (s_jmp (pc := 8) J [true, true, true, true, true, true, false, false, false]))) (s_iload (pc := 108) X dX9_bestChange_108 (s_if_eq (pc := 110) X dX9_bestChange_110 (by decide) (s_iinc (pc := 120) X dX9_bestChange_120 rfl (s_goto (pc := 123) X dX9_bestChange_123 (by decide) (s_jmp (pc := 8) J [true, true, true, true, true, true, false, false, false]))) (s_iload (pc := 113) X dX9_bestChange_113 (s_istore_n (pc := 115) X dX9_bestChange_115 rfl (hnL _ (by decide)) (s_iload (pc := 116) X dX9_bestChange_116 (s_istore (pc := 118) X dX9_bestChange_118 (hnL _ (by decide)) (s_iinc (pc := 120) X dX9_bestChange_120 rfl (s_goto (pc := 123) X dX9_bestChange_123 (by decide) (s_jmp (pc := 8) J [true, true, true, true, true, true, false, false, false]))))))))))))), fun _ h => absurd h List.not_mem_nil⟩⟩⟩)
theorem dX11_change_0 : decode cX11_change 0 = .ok (.aload_n 0, 1) := by decide +kernel
theorem dX11_change_1 : decode cX11_change 1 = .ok (.getfield 30, 3) := by decide +kernel
theorem dX11_change_4 : decode cX11_change 4 = .ok (.iload_n 1, 1) := by decide +kernel
theorem dX11_change_5 : decode cX11_change 5 = .ok (.invokevirtual 293, 3) := by decide +kernel
theorem dX11_change_8 : decode cX11_change 8 = .ok (.ifCond .eq 12, 3) := by decide +kernel
theorem dX11_change_11 : decode cX11_change 11 = .ok (.iload_n 2, 1) := by decide +kernel
theorem dX11_change_12 : decode cX11_change 12 = .ok (.iconst 0, 1) := by decide +kernel
theorem dX11_change_13 : decode cX11_change 13 = .ok (.iconst 2, 1) := by decide +kernel
theorem dX11_change_14 : decode cX11_change 14 = .ok (.invokestatic 101, 3) := by decide +kernel
theorem dX11_change_17 : decode cX11_change 17 = .ok (.ifCond .eq 10, 3) := by decide +kernel
theorem dX11_change_20 : decode cX11_change 20 = .ok (.aload_n 0, 1) := by decide +kernel
theorem dX11_change_21 : decode cX11_change 21 = .ok (.iconst 1, 1) := by decide +kernel
theorem dX11_change_22 : decode cX11_change 22 = .ok (.putfield 9, 3) := by decide +kernel
theorem dX11_change_25 : decode cX11_change 25 = .ok (.iconst (-1), 1) := by decide +kernel
theorem dX11_change_26 : decode cX11_change 26 = .ok (.ireturn, 1) := by decide +kernel
theorem dX11_change_27 : decode cX11_change 27 = .ok (.iload_n 2, 1) := by decide +kernel
theorem dX11_change_28 : decode cX11_change 28 = .ok (.iconst 2, 1) := by decide +kernel
theorem dX11_change_29 : decode cX11_change 29 = .ok (.if_icmp .ne 18, 3) := by decide +kernel
theorem dX11_change_32 : decode cX11_change 32 = .ok (.aload_n 0, 1) := by decide +kernel
theorem dX11_change_33 : decode cX11_change 33 = .ok (.getfield 83, 3) := by decide +kernel
theorem dX11_change_36 : decode cX11_change 36 = .ok (.iload_n 1, 1) := by decide +kernel
theorem dX11_change_37 : decode cX11_change 37 = .ok (.iconst 0, 1) := by decide +kernel
theorem dX11_change_38 : decode cX11_change 38 = .ok (.sipush 519, 3) := by decide +kernel
theorem dX11_change_41 : decode cX11_change 41 = .ok (.invokevirtual 328, 3) := by decide +kernel
theorem dX11_change_44 : decode cX11_change 44 = .ok (.goto 12, 3) := by decide +kernel
theorem dX11_change_47 : decode cX11_change 47 = .ok (.aload_n 0, 1) := by decide +kernel
theorem dX11_change_48 : decode cX11_change 48 = .ok (.getfield 83, 3) := by decide +kernel
theorem dX11_change_51 : decode cX11_change 51 = .ok (.iload_n 1, 1) := by decide +kernel
theorem dX11_change_52 : decode cX11_change 52 = .ok (.iload_n 2, 1) := by decide +kernel
theorem dX11_change_53 : decode cX11_change 53 = .ok (.invokevirtual 331, 3) := by decide +kernel
theorem dX11_change_56 : decode cX11_change 56 = .ok (.istore_n 3, 1) := by decide +kernel
theorem dX11_change_57 : decode cX11_change 57 = .ok (.aload_n 0, 1) := by decide +kernel
theorem dX11_change_58 : decode cX11_change 58 = .ok (.iload_n 3, 1) := by decide +kernel
theorem dX11_change_59 : decode cX11_change 59 = .ok (.iconst (-1), 1) := by decide +kernel
theorem dX11_change_60 : decode cX11_change 60 = .ok (.if_icmp .ne 8, 3) := by decide +kernel
theorem dX11_change_63 : decode cX11_change 63 = .ok (.bipush 6, 2) := by decide +kernel
theorem dX11_change_65 : decode cX11_change 65 = .ok (.goto 4, 3) := by decide +kernel
theorem dX11_change_68 : decode cX11_change 68 = .ok (.iconst 0, 1) := by decide +kernel
theorem dX11_change_69 : decode cX11_change 69 = .ok (.putfield 9, 3) := by decide +kernel
theorem dX11_change_72 : decode cX11_change 72 = .ok (.iload_n 3, 1) := by decide +kernel
theorem dX11_change_73 : decode cX11_change 73 = .ok (.ireturn, 1) := by decide +kernel
noncomputable def B_X11_change_0 : pb_C := (i_aload 0 (i_getR 0 5 (i_iload 1 (i_callV 5 1 1 M_X1_hasFamily (i_if_eq (i_aload 0 (i_const (.int 1) (i_putI 0 0 (i_const (.int (-1)) i_iret)))) (i_iload 2 (i_const (.int 0) (i_const (.int 2) (i_callS 3 1 M_X11_outside (i_if_eq (i_iload 2 (i_const (.int 2) (i_ic_ne (i_aload 0 (i_getR 0 54 (i_iload 1 (i_iload 2 (i_callV 54 2 1 M_X9_bestChange (i_jmp 56 [true, false, false, false])))))) (i_aload 0 (i_getR 0 54 (i_iload 1 (i_const (.int 0) (i_const (.int 519) (i_callV 54 3 1 M_X9_unlikeHands (i_jmp 56 [true, false, false, false])))))))))) (i_aload 0 (i_const (.int 1) (i_putI 0 0 (i_const (.int (-1)) i_iret))))))))))))))
noncomputable def B_X11_change_56 : pb_C := (i_istore 3 (i_aload 0 (i_iload 3 (i_const (.int (-1)) (i_ic_ne (i_const (.int 0) (i_putI 0 0 (i_iload 3 i_iret))) (i_const (.int 6) (i_putI 0 0 (i_iload 3 i_iret))))))))
noncomputable def T_X11_change : Nat → pb_C := pb_tt [(0, B_X11_change_0), (56, B_X11_change_56)]
noncomputable def M_X11_change : pb_F := pb_M T_X11_change 4
set_option maxRecDepth 100000 in
set_option maxHeartbeats 4000000 in
theorem S_X11_change (l : Launch) : pb_Sound l yX11_change cX11_change 4 (some .int) 5 M_X11_change := by
  refine pb_sound_of (by decide) m_6_18 ?_
  intro Γ hl0 hRm0 hm X E hr J
  have hnL : ∀ j, j < 4 → j < Γ.2.2.2.2.2.2.2.2.2.2.2.1 := fun j h => by rw [hm]; exact h
  have hR : ∀ (d' mL : Nat), d' + 1 ≤ 5 ∧ 8 + (mL + 11) + d' * 64 ≤ 5 * 64 → (pb_rm d').frames + 1 ≤ Γ.2.2.2.1.frames ∧ 8 + (mL + 11) + (pb_rm d').locals ≤ Γ.2.2.2.1.locals := by rw [hRm0]; exact fun _ _ h => h
  have hRm : 1 ≤ 5 ∧ 64 ≤ 5 * 64 → 1 ≤ Γ.2.2.2.1.frames ∧ 64 ≤ Γ.2.2.2.1.locals := by rw [hRm0]; exact fun h => h
  exact pb_tt_snd _ (List.forall_mem_cons.mpr ⟨(s_aload_n (pc := 0) X dX11_change_0 rfl (s_getR (pc := 1) X dX11_change_1 g_X11_30 (s_iload_n (pc := 4) X dX11_change_4 rfl (s_callV (pc := 5) X dX11_change_5 (S_X1_hasFamily _) q_X11_293 h_5 rfl (hR _ _ (by decide)) (s_if_eq (pc := 8) X dX11_change_8 (by decide) (s_aload_n (pc := 20) X dX11_change_20 rfl (s_iconst (pc := 21) X dX11_change_21 rfl (s_putI (pc := 22) X dX11_change_22 p_X11_9 (s_iconst (pc := 25) X dX11_change_25 rfl (s_iret (pc := 26) X E hr dX11_change_26))))) (s_iload_n (pc := 11) X dX11_change_11 rfl (s_iconst (pc := 12) X dX11_change_12 rfl (s_iconst (pc := 13) X dX11_change_13 rfl (s_callS (pc := 14) X dX11_change_14 (S_X11_outside _) q_X11_101 (hR _ _ (by decide)) (s_if_eq (pc := 17) X dX11_change_17 (by decide) (s_iload_n (pc := 27) X dX11_change_27 rfl (s_iconst (pc := 28) X dX11_change_28 rfl (s_ic_ne (pc := 29) X dX11_change_29 (by decide) (s_aload_n (pc := 47) X dX11_change_47 rfl (s_getR (pc := 48) X dX11_change_48 g_X11_83 (s_iload_n (pc := 51) X dX11_change_51 rfl (s_iload_n (pc := 52) X dX11_change_52 rfl (s_callV (pc := 53) X dX11_change_53 (S_X9_bestChange _) q_X11_331 h_54 rfl (hR _ _ (by decide)) (s_jmp (pc := 56) J [true, false, false, false])))))) (s_aload_n (pc := 32) X dX11_change_32 rfl (s_getR (pc := 33) X dX11_change_33 g_X11_83 (s_iload_n (pc := 36) X dX11_change_36 rfl (s_iconst (pc := 37) X dX11_change_37 rfl (s_sipush (pc := 38) X dX11_change_38 rfl (s_callV (pc := 41) X dX11_change_41 (S_X9_unlikeHands _) q_X11_328 h_54 rfl (hR _ _ (by decide)) (s_goto (pc := 44) X dX11_change_44 (by decide) (s_jmp (pc := 56) J [true, false, false, false]))))))))))) (s_aload_n (pc := 20) X dX11_change_20 rfl (s_iconst (pc := 21) X dX11_change_21 rfl (s_putI (pc := 22) X dX11_change_22 p_X11_9 (s_iconst (pc := 25) X dX11_change_25 rfl (s_iret (pc := 26) X E hr dX11_change_26))))))))))))))), List.forall_mem_cons.mpr ⟨(s_istore_n (pc := 56) X dX11_change_56 rfl (hnL _ (by decide)) (s_aload_n (pc := 57) X dX11_change_57 rfl (s_iload_n (pc := 58) X dX11_change_58 rfl (s_iconst (pc := 59) X dX11_change_59 rfl (s_ic_ne (pc := 60) X dX11_change_60 (by decide) (s_iconst (pc := 68) X dX11_change_68 rfl (s_putI (pc := 69) X dX11_change_69 p_X11_9 (s_iload_n (pc := 72) X dX11_change_72 rfl (s_iret (pc := 73) X E hr dX11_change_73)))) (s_bipush (pc := 63) X dX11_change_63 rfl (s_goto (pc := 65) X dX11_change_65 (by decide) (s_putI (pc := 69) X dX11_change_69 p_X11_9 (s_iload_n (pc := 72) X dX11_change_72 rfl (s_iret (pc := 73) X E hr dX11_change_73)))))))))), fun _ h => absurd h List.not_mem_nil⟩⟩)
theorem dX10_takeMargins_0 : decode cX10_takeMargins 0 = .ok (.iconst 0, 1) := by decide +kernel
theorem dX10_takeMargins_1 : decode cX10_takeMargins 1 = .ok (.istore_n 3, 1) := by decide +kernel
theorem dX10_takeMargins_2 : decode cX10_takeMargins 2 = .ok (.iload_n 3, 1) := by decide +kernel
theorem dX10_takeMargins_3 : decode cX10_takeMargins 3 = .ok (.bipush 8, 2) := by decide +kernel
theorem dX10_takeMargins_5 : decode cX10_takeMargins 5 = .ok (.if_icmp .ge 44, 3) := by decide +kernel
theorem dX10_takeMargins_8 : decode cX10_takeMargins 8 = .ok (.aload_n 1, 1) := by decide +kernel
theorem dX10_takeMargins_9 : decode cX10_takeMargins 9 = .ok (.iload_n 2, 1) := by decide +kernel
theorem dX10_takeMargins_10 : decode cX10_takeMargins 10 = .ok (.iload_n 3, 1) := by decide +kernel
theorem dX10_takeMargins_11 : decode cX10_takeMargins 11 = .ok (.invokevirtual 23, 3) := by decide +kernel
theorem dX10_takeMargins_14 : decode cX10_takeMargins 14 = .ok (.lstore 4, 2) := by decide +kernel
theorem dX10_takeMargins_16 : decode cX10_takeMargins 16 = .ok (.lload 4, 2) := by decide +kernel
theorem dX10_takeMargins_18 : decode cX10_takeMargins 18 = .ok (.lconst 0, 1) := by decide +kernel
theorem dX10_takeMargins_19 : decode cX10_takeMargins 19 = .ok (.lcmp, 1) := by decide +kernel
theorem dX10_takeMargins_20 : decode cX10_takeMargins 20 = .ok (.ifCond .lt 12, 3) := by decide +kernel
theorem dX10_takeMargins_23 : decode cX10_takeMargins 23 = .ok (.lload 4, 2) := by decide +kernel
theorem dX10_takeMargins_25 : decode cX10_takeMargins 25 = .ok (.ldc2_w 29, 3) := by decide +kernel
theorem dX10_takeMargins_28 : decode cX10_takeMargins 28 = .ok (.lcmp, 1) := by decide +kernel
theorem dX10_takeMargins_29 : decode cX10_takeMargins 29 = .ok (.ifCond .le 5, 3) := by decide +kernel
theorem dX10_takeMargins_32 : decode cX10_takeMargins 32 = .ok (.iconst 0, 1) := by decide +kernel
theorem dX10_takeMargins_33 : decode cX10_takeMargins 33 = .ok (.ireturn, 1) := by decide +kernel
theorem dX10_takeMargins_34 : decode cX10_takeMargins 34 = .ok (.aload_n 0, 1) := by decide +kernel
theorem dX10_takeMargins_35 : decode cX10_takeMargins 35 = .ok (.getfield 13, 3) := by decide +kernel
theorem dX10_takeMargins_38 : decode cX10_takeMargins 38 = .ok (.iload_n 3, 1) := by decide +kernel
theorem dX10_takeMargins_39 : decode cX10_takeMargins 39 = .ok (.lload 4, 2) := by decide +kernel
theorem dX10_takeMargins_41 : decode cX10_takeMargins 41 = .ok (.l2i, 1) := by decide +kernel
theorem dX10_takeMargins_42 : decode cX10_takeMargins 42 = .ok (.iastore, 1) := by decide +kernel
theorem dX10_takeMargins_43 : decode cX10_takeMargins 43 = .ok (.iinc 3 1, 3) := by decide +kernel
theorem dX10_takeMargins_46 : decode cX10_takeMargins 46 = .ok (.goto (-44), 3) := by decide +kernel
theorem dX10_takeMargins_49 : decode cX10_takeMargins 49 = .ok (.iconst 1, 1) := by decide +kernel
theorem dX10_takeMargins_50 : decode cX10_takeMargins 50 = .ok (.ireturn, 1) := by decide +kernel
noncomputable def B_X10_takeMargins_1_0 : pb_C := (i_const (.int 0) (i_istore 3 (i_jmp 2 [true, true, true, true, false, false])))
noncomputable def B_X10_takeMargins_1_2 : pb_C := (i_iload 3 (i_const (.int 8) (i_ic_ge (i_const (.int 1) i_zret) (i_aload 1 (i_iload 2 (i_iload 3 (i_callV 1 2 2 M_X8_at (i_lstore 4 (i_lload 4 (i_const (.long 0) (i_lcmp (i_if_lt (i_const (.int 0) i_zret) (i_lload 4 (i_const (.long (100)) (i_lcmp (i_if_le (i_aload 0 (i_getR 57 59 (i_iload 3 (i_lload 4 (i_l2i (i_ast 59 8 (fun x => x) (i_iinc 3 1 (i_jmp 2 [true, true, true, true, false, false])))))))) (i_const (.int 0) i_zret)))))))))))))))))
noncomputable def T_X10_takeMargins_1 : Nat → pb_C := pb_tt [(0, B_X10_takeMargins_1_0), (2, B_X10_takeMargins_1_2)]
noncomputable def M_X10_takeMargins_1 : pb_F := pb_M T_X10_takeMargins_1 6
set_option maxRecDepth 100000 in
set_option maxHeartbeats 4000000 in
theorem S_X10_takeMargins_1 (l : Launch) : pb_Sound l yX10_takeMargins cX10_takeMargins 6 (some .boolean) 2 M_X10_takeMargins_1 := by
  refine pb_sound_of (by decide) m_6_43 ?_
  intro Γ hl0 hRm0 hm X E hr J
  have hnL : ∀ j, j < 6 → j < Γ.2.2.2.2.2.2.2.2.2.2.2.1 := fun j h => by rw [hm]; exact h
  have hR : ∀ (d' mL : Nat), d' + 1 ≤ 2 ∧ 8 + (mL + 11) + d' * 64 ≤ 2 * 64 → (pb_rm d').frames + 1 ≤ Γ.2.2.2.1.frames ∧ 8 + (mL + 11) + (pb_rm d').locals ≤ Γ.2.2.2.1.locals := by rw [hRm0]; exact fun _ _ h => h
  have hRm : 1 ≤ 2 ∧ 64 ≤ 2 * 64 → 1 ≤ Γ.2.2.2.1.frames ∧ 64 ≤ Γ.2.2.2.1.locals := by rw [hRm0]; exact fun h => h
  exact pb_tt_snd _ (List.forall_mem_cons.mpr ⟨(s_iconst (pc := 0) X dX10_takeMargins_0 rfl (s_istore_n (pc := 1) X dX10_takeMargins_1 rfl (hnL _ (by decide)) (s_jmp (pc := 2) J [true, true, true, true, false, false]))), List.forall_mem_cons.mpr ⟨(s_iload_n (pc := 2) X dX10_takeMargins_2 rfl (s_bipush (pc := 3) X dX10_takeMargins_3 rfl (s_ic_ge (pc := 5) X dX10_takeMargins_5 (by decide) (s_iconst (pc := 49) X dX10_takeMargins_49 rfl (s_zret (pc := 50) X E hr dX10_takeMargins_50)) (s_aload_n (pc := 8) X dX10_takeMargins_8 rfl (s_iload_n (pc := 9) X dX10_takeMargins_9 rfl (s_iload_n (pc := 10) X dX10_takeMargins_10 rfl (s_callV (pc := 11) X dX10_takeMargins_11 (S_X8_at _) q_X10_23 h_1 rfl (hR _ _ (by decide)) (s_lstore (pc := 14) X dX10_takeMargins_14 (hnL _ (by decide)) (s_lload (pc := 16) X dX10_takeMargins_16 (s_lconst (pc := 18) X dX10_takeMargins_18 rfl (s_lcmp (pc := 19) X dX10_takeMargins_19 (s_if_lt (pc := 20) X dX10_takeMargins_20 (by decide) (s_iconst (pc := 32) X dX10_takeMargins_32 rfl (s_zret (pc := 33) X E hr dX10_takeMargins_33)) (s_lload (pc := 23) X dX10_takeMargins_23 (s_ldc2 (pc := 25) X dX10_takeMargins_25 m_6_45 (s_lcmp (pc := 28) X dX10_takeMargins_28 (s_if_le (pc := 29) X dX10_takeMargins_29 (by decide) (s_aload_n (pc := 34) X dX10_takeMargins_34 rfl (s_getR (pc := 35) X dX10_takeMargins_35 g_X10_13 (s_iload_n (pc := 38) X dX10_takeMargins_38 rfl (s_lload (pc := 39) X dX10_takeMargins_39 (s_l2i (pc := 41) X dX10_takeMargins_41 (s_iast (pc := 42) X dX10_takeMargins_42 h_59 (s_iinc (pc := 43) X dX10_takeMargins_43 rfl (s_goto (pc := 46) X dX10_takeMargins_46 (by decide) (s_jmp (pc := 2) J [true, true, true, true, false, false]))))))))) (s_iconst (pc := 32) X dX10_takeMargins_32 rfl (s_zret (pc := 33) X E hr dX10_takeMargins_33)))))))))))))))))), fun _ h => absurd h List.not_mem_nil⟩⟩)
noncomputable def B_J7_fill_53178_60_0 : pb_C := (i_const (.int 0) (i_istore 2 (i_aload 0 (i_alen 60 16 (i_istore 3 (i_jmp 5 [true, true, true, true]))))))
noncomputable def B_J7_fill_53178_60_5 : pb_C := (i_iload 2 (i_iload 3 (i_ic_ge i_vret (i_aload 0 (i_iload 2 (i_iload 1 (i_ast 60 16 (fun x => x) (i_iinc 2 1 (i_jmp 5 [true, true, true, true])))))))))
noncomputable def T_J7_fill_53178_60 : Nat → pb_C := pb_tt [(0, B_J7_fill_53178_60_0), (5, B_J7_fill_53178_60_5)]
noncomputable def M_J7_fill_53178_60 : pb_F := pb_M T_J7_fill_53178_60 4
set_option maxRecDepth 100000 in
set_option maxHeartbeats 4000000 in
theorem S_J7_fill_53178_60 (l : Launch) : pb_Sound l yJ7_fill_53178 cJ7_fill_53178 4 none 1 M_J7_fill_53178_60 := by
  refine pb_sound_of (by decide) m_5_145 ?_
  intro Γ hl0 hRm0 hm X E hr J
  have hnL : ∀ j, j < 4 → j < Γ.2.2.2.2.2.2.2.2.2.2.2.1 := fun j h => by rw [hm]; exact h
  have hR : ∀ (d' mL : Nat), d' + 1 ≤ 1 ∧ 8 + (mL + 11) + d' * 64 ≤ 1 * 64 → (pb_rm d').frames + 1 ≤ Γ.2.2.2.1.frames ∧ 8 + (mL + 11) + (pb_rm d').locals ≤ Γ.2.2.2.1.locals := by rw [hRm0]; exact fun _ _ h => h
  have hRm : 1 ≤ 1 ∧ 64 ≤ 1 * 64 → 1 ≤ Γ.2.2.2.1.frames ∧ 64 ≤ Γ.2.2.2.1.locals := by rw [hRm0]; exact fun h => h
  exact pb_tt_snd _ (List.forall_mem_cons.mpr ⟨(s_iconst (pc := 0) X dJ7_fill_53178_0 rfl (s_istore_n (pc := 1) X dJ7_fill_53178_1 rfl (hnL _ (by decide)) (s_aload_n (pc := 2) X dJ7_fill_53178_2 rfl (s_alen (pc := 3) X dJ7_fill_53178_3 h_60 (fun cs => rfl) (s_istore_n (pc := 4) X dJ7_fill_53178_4 rfl (hnL _ (by decide)) (s_jmp (pc := 5) J [true, true, true, true])))))), List.forall_mem_cons.mpr ⟨(s_iload_n (pc := 5) X dJ7_fill_53178_5 rfl (s_iload_n (pc := 6) X dJ7_fill_53178_6 rfl (s_ic_ge (pc := 7) X dJ7_fill_53178_7 (by decide) (s_vret (pc := 20) X E hr dJ7_fill_53178_20) (s_aload_n (pc := 10) X dJ7_fill_53178_10 rfl (s_iload_n (pc := 11) X dJ7_fill_53178_11 rfl (s_iload_n (pc := 12) X dJ7_fill_53178_12 rfl (s_iast (pc := 13) X dJ7_fill_53178_13 h_60 (s_iinc (pc := 14) X dJ7_fill_53178_14 rfl (s_goto (pc := 17) X dJ7_fill_53178_17 (by decide) (s_jmp (pc := 5) J [true, true, true, true])))))))))), fun _ h => absurd h List.not_mem_nil⟩⟩)
theorem dX10_cellOf_0 : decode cX10_cellOf 0 = .ok (.aload_n 0, 1) := by decide +kernel
theorem dX10_cellOf_1 : decode cX10_cellOf 1 = .ok (.getfield 19, 3) := by decide +kernel
theorem dX10_cellOf_4 : decode cX10_cellOf 4 = .ok (.getfield 49, 3) := by decide +kernel
theorem dX10_cellOf_7 : decode cX10_cellOf 7 = .ok (.iload_n 1, 1) := by decide +kernel
theorem dX10_cellOf_8 : decode cX10_cellOf 8 = .ok (.iaload, 1) := by decide +kernel
theorem dX10_cellOf_9 : decode cX10_cellOf 9 = .ok (.iconst 4, 1) := by decide +kernel
theorem dX10_cellOf_10 : decode cX10_cellOf 10 = .ok (.imul, 1) := by decide +kernel
theorem dX10_cellOf_11 : decode cX10_cellOf 11 = .ok (.aload_n 0, 1) := by decide +kernel
theorem dX10_cellOf_12 : decode cX10_cellOf 12 = .ok (.getfield 19, 3) := by decide +kernel
theorem dX10_cellOf_15 : decode cX10_cellOf 15 = .ok (.getfield 54, 3) := by decide +kernel
theorem dX10_cellOf_18 : decode cX10_cellOf 18 = .ok (.iload_n 1, 1) := by decide +kernel
theorem dX10_cellOf_19 : decode cX10_cellOf 19 = .ok (.iaload, 1) := by decide +kernel
theorem dX10_cellOf_20 : decode cX10_cellOf 20 = .ok (.iadd, 1) := by decide +kernel
theorem dX10_cellOf_21 : decode cX10_cellOf 21 = .ok (.ireturn, 1) := by decide +kernel
noncomputable def B_X10_cellOf_0 : pb_C := (i_aload 0 (i_getR 57 5 (i_getR 5 6 (i_iload 1 (i_ald 6 12 (i_const (.int 4) (i_ibin (· * ·) (i_aload 0 (i_getR 57 5 (i_getR 5 7 (i_iload 1 (i_ald 7 12 (i_ibin (· + ·) i_iret)))))))))))))
noncomputable def T_X10_cellOf : Nat → pb_C := pb_tt [(0, B_X10_cellOf_0)]
noncomputable def M_X10_cellOf : pb_F := pb_M T_X10_cellOf 2
set_option maxRecDepth 100000 in
set_option maxHeartbeats 4000000 in
theorem S_X10_cellOf (l : Launch) : pb_Sound l yX10_cellOf cX10_cellOf 2 (some .int) 1 M_X10_cellOf := by
  refine pb_sound_of (by decide) m_6_54 ?_
  intro Γ hl0 hRm0 hm X E hr J
  have hnL : ∀ j, j < 2 → j < Γ.2.2.2.2.2.2.2.2.2.2.2.1 := fun j h => by rw [hm]; exact h
  have hR : ∀ (d' mL : Nat), d' + 1 ≤ 1 ∧ 8 + (mL + 11) + d' * 64 ≤ 1 * 64 → (pb_rm d').frames + 1 ≤ Γ.2.2.2.1.frames ∧ 8 + (mL + 11) + (pb_rm d').locals ≤ Γ.2.2.2.1.locals := by rw [hRm0]; exact fun _ _ h => h
  have hRm : 1 ≤ 1 ∧ 64 ≤ 1 * 64 → 1 ≤ Γ.2.2.2.1.frames ∧ 64 ≤ Γ.2.2.2.1.locals := by rw [hRm0]; exact fun h => h
  exact pb_tt_snd _ (List.forall_mem_cons.mpr ⟨(s_aload_n (pc := 0) X dX10_cellOf_0 rfl (s_getR (pc := 1) X dX10_cellOf_1 g_X10_19 (s_getR (pc := 4) X dX10_cellOf_4 g_X10_49 (s_iload_n (pc := 7) X dX10_cellOf_7 rfl (s_iald (pc := 8) X dX10_cellOf_8 h_6 (s_iconst (pc := 9) X dX10_cellOf_9 rfl (s_imul (pc := 10) X dX10_cellOf_10 (s_aload_n (pc := 11) X dX10_cellOf_11 rfl (s_getR (pc := 12) X dX10_cellOf_12 g_X10_19 (s_getR (pc := 15) X dX10_cellOf_15 g_X10_54 (s_iload_n (pc := 18) X dX10_cellOf_18 rfl (s_iald (pc := 19) X dX10_cellOf_19 h_7 (s_iadd (pc := 20) X dX10_cellOf_20 (s_iret (pc := 21) X E hr dX10_cellOf_21)))))))))))))), fun _ h => absurd h List.not_mem_nil⟩)
theorem dX10_cutBehind_0 : decode cX10_cutBehind 0 = .ok (.iconst 0, 1) := by decide +kernel
theorem dX10_cutBehind_1 : decode cX10_cutBehind 1 = .ok (.istore_n 2, 1) := by decide +kernel
theorem dX10_cutBehind_2 : decode cX10_cutBehind 2 = .ok (.iconst 0, 1) := by decide +kernel
theorem dX10_cutBehind_3 : decode cX10_cutBehind 3 = .ok (.istore_n 3, 1) := by decide +kernel
theorem dX10_cutBehind_4 : decode cX10_cutBehind 4 = .ok (.iload_n 3, 1) := by decide +kernel
theorem dX10_cutBehind_5 : decode cX10_cutBehind 5 = .ok (.iconst 4, 1) := by decide +kernel
theorem dX10_cutBehind_6 : decode cX10_cutBehind 6 = .ok (.if_icmp .ge 30, 3) := by decide +kernel
theorem dX10_cutBehind_9 : decode cX10_cutBehind 9 = .ok (.iload_n 1, 1) := by decide +kernel
theorem dX10_cutBehind_10 : decode cX10_cutBehind 10 = .ok (.iload_n 3, 1) := by decide +kernel
theorem dX10_cutBehind_11 : decode cX10_cutBehind 11 = .ok (.ishr, 1) := by decide +kernel
theorem dX10_cutBehind_12 : decode cX10_cutBehind 12 = .ok (.iconst 1, 1) := by decide +kernel
theorem dX10_cutBehind_13 : decode cX10_cutBehind 13 = .ok (.iand, 1) := by decide +kernel
theorem dX10_cutBehind_14 : decode cX10_cutBehind 14 = .ok (.ifCond .ne 16, 3) := by decide +kernel
theorem dX10_cutBehind_17 : decode cX10_cutBehind 17 = .ok (.iload_n 2, 1) := by decide +kernel
theorem dX10_cutBehind_18 : decode cX10_cutBehind 18 = .ok (.iconst 0, 1) := by decide +kernel
theorem dX10_cutBehind_19 : decode cX10_cutBehind 19 = .ok (.aload_n 0, 1) := by decide +kernel
theorem dX10_cutBehind_20 : decode cX10_cutBehind 20 = .ok (.getfield 13, 3) := by decide +kernel
theorem dX10_cutBehind_23 : decode cX10_cutBehind 23 = .ok (.iload_n 3, 1) := by decide +kernel
theorem dX10_cutBehind_24 : decode cX10_cutBehind 24 = .ok (.iaload, 1) := by decide +kernel
theorem dX10_cutBehind_25 : decode cX10_cutBehind 25 = .ok (.invokestatic 69, 3) := by decide +kernel
theorem dX10_cutBehind_28 : decode cX10_cutBehind 28 = .ok (.iadd, 1) := by decide +kernel
theorem dX10_cutBehind_29 : decode cX10_cutBehind 29 = .ok (.istore_n 2, 1) := by decide +kernel
theorem dX10_cutBehind_30 : decode cX10_cutBehind 30 = .ok (.iinc 3 1, 3) := by decide +kernel
theorem dX10_cutBehind_33 : decode cX10_cutBehind 33 = .ok (.goto (-29), 3) := by decide +kernel
theorem dX10_cutBehind_36 : decode cX10_cutBehind 36 = .ok (.iconst 0, 1) := by decide +kernel
theorem dX10_cutBehind_37 : decode cX10_cutBehind 37 = .ok (.istore_n 3, 1) := by decide +kernel
theorem dX10_cutBehind_38 : decode cX10_cutBehind 38 = .ok (.iload_n 3, 1) := by decide +kernel
theorem dX10_cutBehind_39 : decode cX10_cutBehind 39 = .ok (.iconst 4, 1) := by decide +kernel
theorem dX10_cutBehind_40 : decode cX10_cutBehind 40 = .ok (.if_icmp .ge 70, 3) := by decide +kernel
theorem dX10_cutBehind_43 : decode cX10_cutBehind 43 = .ok (.iconst 0, 1) := by decide +kernel
theorem dX10_cutBehind_44 : decode cX10_cutBehind 44 = .ok (.istore 4, 2) := by decide +kernel
theorem dX10_cutBehind_46 : decode cX10_cutBehind 46 = .ok (.iconst 0, 1) := by decide +kernel
theorem dX10_cutBehind_47 : decode cX10_cutBehind 47 = .ok (.istore 5, 2) := by decide +kernel
theorem dX10_cutBehind_49 : decode cX10_cutBehind 49 = .ok (.iload 5, 2) := by decide +kernel
theorem dX10_cutBehind_51 : decode cX10_cutBehind 51 = .ok (.iconst 4, 1) := by decide +kernel
theorem dX10_cutBehind_52 : decode cX10_cutBehind 52 = .ok (.if_icmp .ge 32, 3) := by decide +kernel
theorem dX10_cutBehind_55 : decode cX10_cutBehind 55 = .ok (.iload 4, 2) := by decide +kernel
theorem dX10_cutBehind_57 : decode cX10_cutBehind 57 = .ok (.iload_n 1, 1) := by decide +kernel
theorem dX10_cutBehind_58 : decode cX10_cutBehind 58 = .ok (.iload 5, 2) := by decide +kernel
theorem dX10_cutBehind_60 : decode cX10_cutBehind 60 = .ok (.ishr, 1) := by decide +kernel
theorem dX10_cutBehind_61 : decode cX10_cutBehind 61 = .ok (.iconst 1, 1) := by decide +kernel
theorem dX10_cutBehind_62 : decode cX10_cutBehind 62 = .ok (.iand, 1) := by decide +kernel
theorem dX10_cutBehind_63 : decode cX10_cutBehind 63 = .ok (.aload_n 0, 1) := by decide +kernel
theorem dX10_cutBehind_64 : decode cX10_cutBehind 64 = .ok (.getfield 16, 3) := by decide +kernel
theorem dX10_cutBehind_67 : decode cX10_cutBehind 67 = .ok (.iload 5, 2) := by decide +kernel
theorem dX10_cutBehind_69 : decode cX10_cutBehind 69 = .ok (.iconst 4, 1) := by decide +kernel
theorem dX10_cutBehind_70 : decode cX10_cutBehind 70 = .ok (.imul, 1) := by decide +kernel
theorem dX10_cutBehind_71 : decode cX10_cutBehind 71 = .ok (.iload_n 3, 1) := by decide +kernel
theorem dX10_cutBehind_72 : decode cX10_cutBehind 72 = .ok (.iadd, 1) := by decide +kernel
theorem dX10_cutBehind_73 : decode cX10_cutBehind 73 = .ok (.iaload, 1) := by decide +kernel
theorem dX10_cutBehind_74 : decode cX10_cutBehind 74 = .ok (.imul, 1) := by decide +kernel
theorem dX10_cutBehind_75 : decode cX10_cutBehind 75 = .ok (.iadd, 1) := by decide +kernel
theorem dX10_cutBehind_76 : decode cX10_cutBehind 76 = .ok (.istore 4, 2) := by decide +kernel
theorem dX10_cutBehind_78 : decode cX10_cutBehind 78 = .ok (.iinc 5 1, 3) := by decide +kernel
theorem dX10_cutBehind_81 : decode cX10_cutBehind 81 = .ok (.goto (-32), 3) := by decide +kernel
theorem dX10_cutBehind_84 : decode cX10_cutBehind 84 = .ok (.iload_n 2, 1) := by decide +kernel
theorem dX10_cutBehind_85 : decode cX10_cutBehind 85 = .ok (.iload 4, 2) := by decide +kernel
theorem dX10_cutBehind_87 : decode cX10_cutBehind 87 = .ok (.iconst 0, 1) := by decide +kernel
theorem dX10_cutBehind_88 : decode cX10_cutBehind 88 = .ok (.aload_n 0, 1) := by decide +kernel
theorem dX10_cutBehind_89 : decode cX10_cutBehind 89 = .ok (.getfield 13, 3) := by decide +kernel
theorem dX10_cutBehind_92 : decode cX10_cutBehind 92 = .ok (.iconst 4, 1) := by decide +kernel
theorem dX10_cutBehind_93 : decode cX10_cutBehind 93 = .ok (.iload_n 3, 1) := by decide +kernel
theorem dX10_cutBehind_94 : decode cX10_cutBehind 94 = .ok (.iadd, 1) := by decide +kernel
theorem dX10_cutBehind_95 : decode cX10_cutBehind 95 = .ok (.iaload, 1) := by decide +kernel
theorem dX10_cutBehind_96 : decode cX10_cutBehind 96 = .ok (.invokestatic 69, 3) := by decide +kernel
theorem dX10_cutBehind_99 : decode cX10_cutBehind 99 = .ok (.invokestatic 65, 3) := by decide +kernel
theorem dX10_cutBehind_102 : decode cX10_cutBehind 102 = .ok (.iadd, 1) := by decide +kernel
theorem dX10_cutBehind_103 : decode cX10_cutBehind 103 = .ok (.istore_n 2, 1) := by decide +kernel
theorem dX10_cutBehind_104 : decode cX10_cutBehind 104 = .ok (.iinc 3 1, 3) := by decide +kernel
theorem dX10_cutBehind_107 : decode cX10_cutBehind 107 = .ok (.goto (-69), 3) := by decide +kernel
theorem dX10_cutBehind_110 : decode cX10_cutBehind 110 = .ok (.iload_n 2, 1) := by decide +kernel
theorem dX10_cutBehind_111 : decode cX10_cutBehind 111 = .ok (.ireturn, 1) := by decide +kernel
noncomputable def B_X10_cutBehind_0 : pb_C := (i_const (.int 0) (i_istore 2 (i_const (.int 0) (i_istore 3 (i_jmp 4 [true, true, true, true, false, false])))))
noncomputable def B_X10_cutBehind_4 : pb_C := (i_iload 3 (i_const (.int 4) (i_ic_ge (i_const (.int 0) (i_istore 3 (i_jmp 38 [true, true, true, true, false, false]))) (i_iload 1 (i_iload 3 (i_ibin (fun x y => x >>> (y &&& 31)) (i_const (.int 1) (i_ibin (· &&& ·) (i_if_ne (i_iinc 3 1 (i_jmp 4 [true, true, true, true, false, false])) (i_iload 2 (i_const (.int 0) (i_aload 0 (i_getR 57 59 (i_iload 3 (i_ald 59 8 (i_mI2 pb_max (i_ibin (· + ·) (i_istore 2 (i_iinc 3 1 (i_jmp 4 [true, true, true, true, false, false]))))))))))))))))))))
noncomputable def B_X10_cutBehind_38 : pb_C := (i_iload 3 (i_const (.int 4) (i_ic_ge (i_iload 2 i_iret) (i_const (.int 0) (i_istore 4 (i_const (.int 0) (i_istore 5 (i_jmp 49 [true, true, true, true, true, true]))))))))
noncomputable def B_X10_cutBehind_49 : pb_C := (i_iload 5 (i_const (.int 4) (i_ic_ge (i_iload 2 (i_iload 4 (i_const (.int 0) (i_aload 0 (i_getR 57 59 (i_const (.int 4) (i_iload 3 (i_ibin (· + ·) (i_ald 59 8 (i_mI2 pb_max (i_mI2 pb_min (i_ibin (· + ·) (i_istore 2 (i_iinc 3 1 (i_jmp 38 [true, true, true, true, false, false]))))))))))))))) (i_iload 4 (i_iload 1 (i_iload 5 (i_ibin (fun x y => x >>> (y &&& 31)) (i_const (.int 1) (i_ibin (· &&& ·) (i_aload 0 (i_getR 57 60 (i_iload 5 (i_const (.int 4) (i_ibin (· * ·) (i_iload 3 (i_ibin (· + ·) (i_ald 60 16 (i_ibin (· * ·) (i_ibin (· + ·) (i_istore 4 (i_iinc 5 1 (i_jmp 49 [true, true, true, true, true, true]))))))))))))))))))))))
noncomputable def T_X10_cutBehind : Nat → pb_C := pb_tt [(0, B_X10_cutBehind_0), (4, B_X10_cutBehind_4), (38, B_X10_cutBehind_38), (49, B_X10_cutBehind_49)]
noncomputable def M_X10_cutBehind : pb_F := pb_M T_X10_cutBehind 6
set_option maxRecDepth 100000 in
set_option maxHeartbeats 4000000 in
theorem S_X10_cutBehind (l : Launch) : pb_Sound l yX10_cutBehind cX10_cutBehind 6 (some .int) 1 M_X10_cutBehind := by
  refine pb_sound_of (by decide) m_6_63 ?_
  intro Γ hl0 hRm0 hm X E hr J
  have hnL : ∀ j, j < 6 → j < Γ.2.2.2.2.2.2.2.2.2.2.2.1 := fun j h => by rw [hm]; exact h
  have hR : ∀ (d' mL : Nat), d' + 1 ≤ 1 ∧ 8 + (mL + 11) + d' * 64 ≤ 1 * 64 → (pb_rm d').frames + 1 ≤ Γ.2.2.2.1.frames ∧ 8 + (mL + 11) + (pb_rm d').locals ≤ Γ.2.2.2.1.locals := by rw [hRm0]; exact fun _ _ h => h
  have hRm : 1 ≤ 1 ∧ 64 ≤ 1 * 64 → 1 ≤ Γ.2.2.2.1.frames ∧ 64 ≤ Γ.2.2.2.1.locals := by rw [hRm0]; exact fun h => h
  exact pb_tt_snd _ (List.forall_mem_cons.mpr ⟨(s_iconst (pc := 0) X dX10_cutBehind_0 rfl (s_istore_n (pc := 1) X dX10_cutBehind_1 rfl (hnL _ (by decide)) (s_iconst (pc := 2) X dX10_cutBehind_2 rfl (s_istore_n (pc := 3) X dX10_cutBehind_3 rfl (hnL _ (by decide)) (s_jmp (pc := 4) J [true, true, true, true, false, false]))))), List.forall_mem_cons.mpr ⟨(s_iload_n (pc := 4) X dX10_cutBehind_4 rfl (s_iconst (pc := 5) X dX10_cutBehind_5 rfl (s_ic_ge (pc := 6) X dX10_cutBehind_6 (by decide) (s_iconst (pc := 36) X dX10_cutBehind_36 rfl (s_istore_n (pc := 37) X dX10_cutBehind_37 rfl (hnL _ (by decide)) (s_jmp (pc := 38) J [true, true, true, true, false, false]))) (s_iload_n (pc := 9) X dX10_cutBehind_9 rfl (s_iload_n (pc := 10) X dX10_cutBehind_10 rfl (s_ishr (pc := 11) X dX10_cutBehind_11 (s_iconst (pc := 12) X dX10_cutBehind_12 rfl (s_iand (pc := 13) X dX10_cutBehind_13 (s_if_ne (pc := 14) X dX10_cutBehind_14 (by decide) (s_iinc (pc := 30) X dX10_cutBehind_30 rfl (s_goto (pc := 33) X dX10_cutBehind_33 (by decide) (s_jmp (pc := 4) J [true, true, true, true, false, false]))) (s_iload_n (pc := 17) X dX10_cutBehind_17 rfl (s_iconst (pc := 18) X dX10_cutBehind_18 rfl (s_aload_n (pc := 19) X dX10_cutBehind_19 rfl (s_getR (pc := 20) X dX10_cutBehind_20 g_X10_13 (s_iload_n (pc := 23) X dX10_cutBehind_23 rfl (s_iald (pc := 24) X dX10_cutBehind_24 h_59 (s_mmax (pc := 25) X dX10_cutBehind_25 m_6_64 mm_mmax (hRm (by decide)) (s_iadd (pc := 28) X dX10_cutBehind_28 (s_istore_n (pc := 29) X dX10_cutBehind_29 rfl (hnL _ (by decide)) (s_iinc (pc := 30) X dX10_cutBehind_30 rfl (s_goto (pc := 33) X dX10_cutBehind_33 (by decide) (s_jmp (pc := 4) J [true, true, true, true, false, false]))))))))))))))))))))), List.forall_mem_cons.mpr ⟨(s_iload_n (pc := 38) X dX10_cutBehind_38 rfl (s_iconst (pc := 39) X dX10_cutBehind_39 rfl (s_ic_ge (pc := 40) X dX10_cutBehind_40 (by decide) (s_iload_n (pc := 110) X dX10_cutBehind_110 rfl (s_iret (pc := 111) X E hr dX10_cutBehind_111)) (s_iconst (pc := 43) X dX10_cutBehind_43 rfl (s_istore (pc := 44) X dX10_cutBehind_44 (hnL _ (by decide)) (s_iconst (pc := 46) X dX10_cutBehind_46 rfl (s_istore (pc := 47) X dX10_cutBehind_47 (hnL _ (by decide)) (s_jmp (pc := 49) J [true, true, true, true, true, true])))))))), List.forall_mem_cons.mpr ⟨(s_iload (pc := 49) X dX10_cutBehind_49 (s_iconst (pc := 51) X dX10_cutBehind_51 rfl (s_ic_ge (pc := 52) X dX10_cutBehind_52 (by decide) (s_iload_n (pc := 84) X dX10_cutBehind_84 rfl (s_iload (pc := 85) X dX10_cutBehind_85 (s_iconst (pc := 87) X dX10_cutBehind_87 rfl (s_aload_n (pc := 88) X dX10_cutBehind_88 rfl (s_getR (pc := 89) X dX10_cutBehind_89 g_X10_13 (s_iconst (pc := 92) X dX10_cutBehind_92 rfl (s_iload_n (pc := 93) X dX10_cutBehind_93 rfl (s_iadd (pc := 94) X dX10_cutBehind_94 (s_iald (pc := 95) X dX10_cutBehind_95 h_59 (s_mmax (pc := 96) X dX10_cutBehind_96 m_6_64 mm_mmax (hRm (by decide)) (s_mmin (pc := 99) X dX10_cutBehind_99 m_6_65 mm_mmin (hRm (by decide)) (s_iadd (pc := 102) X dX10_cutBehind_102 (s_istore_n (pc := 103) X dX10_cutBehind_103 rfl (hnL _ (by decide)) (s_iinc (pc := 104) X dX10_cutBehind_104 rfl (s_goto (pc := 107) X dX10_cutBehind_107 (by decide) (s_jmp (pc := 38) J [true, true, true, true, false, false])))))))))))))))) (s_iload (pc := 55) X dX10_cutBehind_55 (s_iload_n (pc := 57) X dX10_cutBehind_57 rfl (s_iload (pc := 58) X dX10_cutBehind_58 (s_ishr (pc := 60) X dX10_cutBehind_60 (s_iconst (pc := 61) X dX10_cutBehind_61 rfl (s_iand (pc := 62) X dX10_cutBehind_62 (s_aload_n (pc := 63) X dX10_cutBehind_63 rfl (s_getR (pc := 64) X dX10_cutBehind_64 g_X10_16 (s_iload (pc := 67) X dX10_cutBehind_67 (s_iconst (pc := 69) X dX10_cutBehind_69 rfl (s_imul (pc := 70) X dX10_cutBehind_70 (s_iload_n (pc := 71) X dX10_cutBehind_71 rfl (s_iadd (pc := 72) X dX10_cutBehind_72 (s_iald (pc := 73) X dX10_cutBehind_73 h_60 (s_imul (pc := 74) X dX10_cutBehind_74 (s_iadd (pc := 75) X dX10_cutBehind_75 (s_istore (pc := 76) X dX10_cutBehind_76 (hnL _ (by decide)) (s_iinc (pc := 78) X dX10_cutBehind_78 rfl (s_goto (pc := 81) X dX10_cutBehind_81 (by decide) (s_jmp (pc := 49) J [true, true, true, true, true, true]))))))))))))))))))))))), fun _ h => absurd h List.not_mem_nil⟩⟩⟩⟩)
theorem dX10_leastUnlike_0 : decode cX10_leastUnlike 0 = .ok (.iconst 0, 1) := by decide +kernel
theorem dX10_leastUnlike_1 : decode cX10_leastUnlike 1 = .ok (.istore_n 1, 1) := by decide +kernel
theorem dX10_leastUnlike_2 : decode cX10_leastUnlike 2 = .ok (.iconst 0, 1) := by decide +kernel
theorem dX10_leastUnlike_3 : decode cX10_leastUnlike 3 = .ok (.istore_n 2, 1) := by decide +kernel
theorem dX10_leastUnlike_4 : decode cX10_leastUnlike 4 = .ok (.iload_n 2, 1) := by decide +kernel
theorem dX10_leastUnlike_5 : decode cX10_leastUnlike 5 = .ok (.bipush 8, 2) := by decide +kernel
theorem dX10_leastUnlike_7 : decode cX10_leastUnlike 7 = .ok (.if_icmp .ge 21, 3) := by decide +kernel
theorem dX10_leastUnlike_10 : decode cX10_leastUnlike 10 = .ok (.iload_n 1, 1) := by decide +kernel
theorem dX10_leastUnlike_11 : decode cX10_leastUnlike 11 = .ok (.aload_n 0, 1) := by decide +kernel
theorem dX10_leastUnlike_12 : decode cX10_leastUnlike 12 = .ok (.getfield 13, 3) := by decide +kernel
theorem dX10_leastUnlike_15 : decode cX10_leastUnlike 15 = .ok (.iload_n 2, 1) := by decide +kernel
theorem dX10_leastUnlike_16 : decode cX10_leastUnlike 16 = .ok (.iaload, 1) := by decide +kernel
theorem dX10_leastUnlike_17 : decode cX10_leastUnlike 17 = .ok (.invokestatic 57, 3) := by decide +kernel
theorem dX10_leastUnlike_20 : decode cX10_leastUnlike 20 = .ok (.iadd, 1) := by decide +kernel
theorem dX10_leastUnlike_21 : decode cX10_leastUnlike 21 = .ok (.istore_n 1, 1) := by decide +kernel
theorem dX10_leastUnlike_22 : decode cX10_leastUnlike 22 = .ok (.iinc 2 1, 3) := by decide +kernel
theorem dX10_leastUnlike_25 : decode cX10_leastUnlike 25 = .ok (.goto (-21), 3) := by decide +kernel
theorem dX10_leastUnlike_28 : decode cX10_leastUnlike 28 = .ok (.iload_n 1, 1) := by decide +kernel
theorem dX10_leastUnlike_29 : decode cX10_leastUnlike 29 = .ok (.istore_n 2, 1) := by decide +kernel
theorem dX10_leastUnlike_30 : decode cX10_leastUnlike 30 = .ok (.iconst 0, 1) := by decide +kernel
theorem dX10_leastUnlike_31 : decode cX10_leastUnlike 31 = .ok (.istore_n 3, 1) := by decide +kernel
theorem dX10_leastUnlike_32 : decode cX10_leastUnlike 32 = .ok (.iload_n 3, 1) := by decide +kernel
theorem dX10_leastUnlike_33 : decode cX10_leastUnlike 33 = .ok (.bipush 16, 2) := by decide +kernel
theorem dX10_leastUnlike_35 : decode cX10_leastUnlike 35 = .ok (.if_icmp .ge 19, 3) := by decide +kernel
theorem dX10_leastUnlike_38 : decode cX10_leastUnlike 38 = .ok (.iload_n 2, 1) := by decide +kernel
theorem dX10_leastUnlike_39 : decode cX10_leastUnlike 39 = .ok (.aload_n 0, 1) := by decide +kernel
theorem dX10_leastUnlike_40 : decode cX10_leastUnlike 40 = .ok (.iload_n 3, 1) := by decide +kernel
theorem dX10_leastUnlike_41 : decode cX10_leastUnlike 41 = .ok (.invokevirtual 62, 3) := by decide +kernel
theorem dX10_leastUnlike_44 : decode cX10_leastUnlike 44 = .ok (.invokestatic 65, 3) := by decide +kernel
theorem dX10_leastUnlike_47 : decode cX10_leastUnlike 47 = .ok (.istore_n 2, 1) := by decide +kernel
theorem dX10_leastUnlike_48 : decode cX10_leastUnlike 48 = .ok (.iinc 3 1, 3) := by decide +kernel
theorem dX10_leastUnlike_51 : decode cX10_leastUnlike 51 = .ok (.goto (-19), 3) := by decide +kernel
theorem dX10_leastUnlike_54 : decode cX10_leastUnlike 54 = .ok (.iload_n 1, 1) := by decide +kernel
theorem dX10_leastUnlike_55 : decode cX10_leastUnlike 55 = .ok (.iconst 2, 1) := by decide +kernel
theorem dX10_leastUnlike_56 : decode cX10_leastUnlike 56 = .ok (.iload_n 2, 1) := by decide +kernel
theorem dX10_leastUnlike_57 : decode cX10_leastUnlike 57 = .ok (.imul, 1) := by decide +kernel
theorem dX10_leastUnlike_58 : decode cX10_leastUnlike 58 = .ok (.isub, 1) := by decide +kernel
theorem dX10_leastUnlike_59 : decode cX10_leastUnlike 59 = .ok (.ireturn, 1) := by decide +kernel
noncomputable def B_X10_leastUnlike_0 : pb_C := (i_const (.int 0) (i_istore 1 (i_const (.int 0) (i_istore 2 (i_jmp 4 [true, true, true, false])))))
noncomputable def B_X10_leastUnlike_4 : pb_C := (i_iload 2 (i_const (.int 8) (i_ic_ge (i_iload 1 (i_istore 2 (i_const (.int 0) (i_istore 3 (i_jmp 32 [true, true, true, true]))))) (i_iload 1 (i_aload 0 (i_getR 57 59 (i_iload 2 (i_ald 59 8 (i_mI1 pb_abs (i_ibin (· + ·) (i_istore 1 (i_iinc 2 1 (i_jmp 4 [true, true, true, false])))))))))))))
noncomputable def B_X10_leastUnlike_32 : pb_C := (i_iload 3 (i_const (.int 16) (i_ic_ge (i_iload 1 (i_const (.int 2) (i_iload 2 (i_ibin (· * ·) (i_ibin (· - ·) i_iret))))) (i_iload 2 (i_aload 0 (i_iload 3 (i_callV 57 1 1 M_X10_cutBehind (i_mI2 pb_min (i_istore 2 (i_iinc 3 1 (i_jmp 32 [true, true, true, true])))))))))))
noncomputable def T_X10_leastUnlike : Nat → pb_C := pb_tt [(0, B_X10_leastUnlike_0), (4, B_X10_leastUnlike_4), (32, B_X10_leastUnlike_32)]
noncomputable def M_X10_leastUnlike : pb_F := pb_M T_X10_leastUnlike 4
set_option maxRecDepth 100000 in
set_option maxHeartbeats 4000000 in
theorem S_X10_leastUnlike (l : Launch) : pb_Sound l yX10_leastUnlike cX10_leastUnlike 4 (some .int) 2 M_X10_leastUnlike := by
  refine pb_sound_of (by decide) m_6_58 ?_
  intro Γ hl0 hRm0 hm X E hr J
  have hnL : ∀ j, j < 4 → j < Γ.2.2.2.2.2.2.2.2.2.2.2.1 := fun j h => by rw [hm]; exact h
  have hR : ∀ (d' mL : Nat), d' + 1 ≤ 2 ∧ 8 + (mL + 11) + d' * 64 ≤ 2 * 64 → (pb_rm d').frames + 1 ≤ Γ.2.2.2.1.frames ∧ 8 + (mL + 11) + (pb_rm d').locals ≤ Γ.2.2.2.1.locals := by rw [hRm0]; exact fun _ _ h => h
  have hRm : 1 ≤ 2 ∧ 64 ≤ 2 * 64 → 1 ≤ Γ.2.2.2.1.frames ∧ 64 ≤ Γ.2.2.2.1.locals := by rw [hRm0]; exact fun h => h
  exact pb_tt_snd _ (List.forall_mem_cons.mpr ⟨(s_iconst (pc := 0) X dX10_leastUnlike_0 rfl (s_istore_n (pc := 1) X dX10_leastUnlike_1 rfl (hnL _ (by decide)) (s_iconst (pc := 2) X dX10_leastUnlike_2 rfl (s_istore_n (pc := 3) X dX10_leastUnlike_3 rfl (hnL _ (by decide)) (s_jmp (pc := 4) J [true, true, true, false]))))), List.forall_mem_cons.mpr ⟨(s_iload_n (pc := 4) X dX10_leastUnlike_4 rfl (s_bipush (pc := 5) X dX10_leastUnlike_5 rfl (s_ic_ge (pc := 7) X dX10_leastUnlike_7 (by decide) (s_iload_n (pc := 28) X dX10_leastUnlike_28 rfl (s_istore_n (pc := 29) X dX10_leastUnlike_29 rfl (hnL _ (by decide)) (s_iconst (pc := 30) X dX10_leastUnlike_30 rfl (s_istore_n (pc := 31) X dX10_leastUnlike_31 rfl (hnL _ (by decide)) (s_jmp (pc := 32) J [true, true, true, true]))))) (s_iload_n (pc := 10) X dX10_leastUnlike_10 rfl (s_aload_n (pc := 11) X dX10_leastUnlike_11 rfl (s_getR (pc := 12) X dX10_leastUnlike_12 g_X10_13 (s_iload_n (pc := 15) X dX10_leastUnlike_15 rfl (s_iald (pc := 16) X dX10_leastUnlike_16 h_59 (s_mabs (pc := 17) X dX10_leastUnlike_17 m_6_59 mm_mabs (hRm (by decide)) (s_iadd (pc := 20) X dX10_leastUnlike_20 (s_istore_n (pc := 21) X dX10_leastUnlike_21 rfl (hnL _ (by decide)) (s_iinc (pc := 22) X dX10_leastUnlike_22 rfl (s_goto (pc := 25) X dX10_leastUnlike_25 (by decide) (s_jmp (pc := 4) J [true, true, true, false])))))))))))))), List.forall_mem_cons.mpr ⟨(s_iload_n (pc := 32) X dX10_leastUnlike_32 rfl (s_bipush (pc := 33) X dX10_leastUnlike_33 rfl (s_ic_ge (pc := 35) X dX10_leastUnlike_35 (by decide) (s_iload_n (pc := 54) X dX10_leastUnlike_54 rfl (s_iconst (pc := 55) X dX10_leastUnlike_55 rfl (s_iload_n (pc := 56) X dX10_leastUnlike_56 rfl (s_imul (pc := 57) X dX10_leastUnlike_57 (s_isub (pc := 58) X dX10_leastUnlike_58 (s_iret (pc := 59) X E hr dX10_leastUnlike_59)))))) (s_iload_n (pc := 38) X dX10_leastUnlike_38 rfl (s_aload_n (pc := 39) X dX10_leastUnlike_39 rfl (s_iload_n (pc := 40) X dX10_leastUnlike_40 rfl (s_callV (pc := 41) X dX10_leastUnlike_41 (S_X10_cutBehind _) q_X10_62 h_57 rfl (hR _ _ (by decide)) (s_mmin (pc := 44) X dX10_leastUnlike_44 m_6_65 mm_mmin (hRm (by decide)) (s_istore_n (pc := 47) X dX10_leastUnlike_47 rfl (hnL _ (by decide)) (s_iinc (pc := 48) X dX10_leastUnlike_48 rfl (s_goto (pc := 51) X dX10_leastUnlike_51 (by decide) (s_jmp (pc := 32) J [true, true, true, true])))))))))))), fun _ h => absurd h List.not_mem_nil⟩⟩⟩)
theorem dX10_findNearest_0 : decode cX10_findNearest 0 = .ok (.aload_n 0, 1) := by decide +kernel
theorem dX10_findNearest_1 : decode cX10_findNearest 1 = .ok (.iload_n 1, 1) := by decide +kernel
theorem dX10_findNearest_2 : decode cX10_findNearest 2 = .ok (.putfield 31, 3) := by decide +kernel
theorem dX10_findNearest_5 : decode cX10_findNearest 5 = .ok (.aload_n 0, 1) := by decide +kernel
theorem dX10_findNearest_6 : decode cX10_findNearest 6 = .ok (.getfield 16, 3) := by decide +kernel
theorem dX10_findNearest_9 : decode cX10_findNearest 9 = .ok (.iconst 0, 1) := by decide +kernel
theorem dX10_findNearest_10 : decode cX10_findNearest 10 = .ok (.invokestatic 35, 3) := by decide +kernel
theorem dX10_findNearest_13 : decode cX10_findNearest 13 = .ok (.iconst 0, 1) := by decide +kernel
theorem dX10_findNearest_14 : decode cX10_findNearest 14 = .ok (.istore_n 3, 1) := by decide +kernel
theorem dX10_findNearest_15 : decode cX10_findNearest 15 = .ok (.iload_n 3, 1) := by decide +kernel
theorem dX10_findNearest_16 : decode cX10_findNearest 16 = .ok (.iload_n 1, 1) := by decide +kernel
theorem dX10_findNearest_17 : decode cX10_findNearest 17 = .ok (.if_icmp .ge 23, 3) := by decide +kernel
theorem dX10_findNearest_20 : decode cX10_findNearest 20 = .ok (.aload_n 0, 1) := by decide +kernel
theorem dX10_findNearest_21 : decode cX10_findNearest 21 = .ok (.getfield 16, 3) := by decide +kernel
theorem dX10_findNearest_24 : decode cX10_findNearest 24 = .ok (.aload_n 0, 1) := by decide +kernel
theorem dX10_findNearest_25 : decode cX10_findNearest 25 = .ok (.iload_n 3, 1) := by decide +kernel
theorem dX10_findNearest_26 : decode cX10_findNearest 26 = .ok (.invokevirtual 41, 3) := by decide +kernel
theorem dX10_findNearest_29 : decode cX10_findNearest 29 = .ok (.dup2, 1) := by decide +kernel
theorem dX10_findNearest_30 : decode cX10_findNearest 30 = .ok (.iaload, 1) := by decide +kernel
theorem dX10_findNearest_31 : decode cX10_findNearest 31 = .ok (.iload_n 2, 1) := by decide +kernel
theorem dX10_findNearest_32 : decode cX10_findNearest 32 = .ok (.iadd, 1) := by decide +kernel
theorem dX10_findNearest_33 : decode cX10_findNearest 33 = .ok (.iastore, 1) := by decide +kernel
theorem dX10_findNearest_34 : decode cX10_findNearest 34 = .ok (.iinc 3 1, 3) := by decide +kernel
theorem dX10_findNearest_37 : decode cX10_findNearest 37 = .ok (.goto (-22), 3) := by decide +kernel
theorem dX10_findNearest_40 : decode cX10_findNearest 40 = .ok (.aload_n 0, 1) := by decide +kernel
theorem dX10_findNearest_41 : decode cX10_findNearest 41 = .ok (.invokevirtual 45, 3) := by decide +kernel
theorem dX10_findNearest_44 : decode cX10_findNearest 44 = .ok (.istore_n 3, 1) := by decide +kernel
theorem dX10_findNearest_45 : decode cX10_findNearest 45 = .ok (.iconst 0, 1) := by decide +kernel
theorem dX10_findNearest_46 : decode cX10_findNearest 46 = .ok (.istore 4, 2) := by decide +kernel
theorem dX10_findNearest_48 : decode cX10_findNearest 48 = .ok (.iload 4, 2) := by decide +kernel
theorem dX10_findNearest_50 : decode cX10_findNearest 50 = .ok (.iload_n 1, 1) := by decide +kernel
theorem dX10_findNearest_51 : decode cX10_findNearest 51 = .ok (.if_icmp .ge 105, 3) := by decide +kernel
theorem dX10_findNearest_54 : decode cX10_findNearest 54 = .ok (.aload_n 0, 1) := by decide +kernel
theorem dX10_findNearest_55 : decode cX10_findNearest 55 = .ok (.getfield 16, 3) := by decide +kernel
theorem dX10_findNearest_58 : decode cX10_findNearest 58 = .ok (.aload_n 0, 1) := by decide +kernel
theorem dX10_findNearest_59 : decode cX10_findNearest 59 = .ok (.iload 4, 2) := by decide +kernel
theorem dX10_findNearest_61 : decode cX10_findNearest 61 = .ok (.invokevirtual 41, 3) := by decide +kernel
theorem dX10_findNearest_64 : decode cX10_findNearest 64 = .ok (.dup2, 1) := by decide +kernel
theorem dX10_findNearest_65 : decode cX10_findNearest 65 = .ok (.iaload, 1) := by decide +kernel
theorem dX10_findNearest_66 : decode cX10_findNearest 66 = .ok (.iload_n 2, 1) := by decide +kernel
theorem dX10_findNearest_67 : decode cX10_findNearest 67 = .ok (.isub, 1) := by decide +kernel
theorem dX10_findNearest_68 : decode cX10_findNearest 68 = .ok (.iastore, 1) := by decide +kernel
theorem dX10_findNearest_69 : decode cX10_findNearest 69 = .ok (.aload_n 0, 1) := by decide +kernel
theorem dX10_findNearest_70 : decode cX10_findNearest 70 = .ok (.getfield 9, 3) := by decide +kernel
theorem dX10_findNearest_73 : decode cX10_findNearest 73 = .ok (.iload 4, 2) := by decide +kernel
theorem dX10_findNearest_75 : decode cX10_findNearest 75 = .ok (.iconst 0, 1) := by decide +kernel
theorem dX10_findNearest_76 : decode cX10_findNearest 76 = .ok (.iastore, 1) := by decide +kernel
theorem dX10_findNearest_77 : decode cX10_findNearest 77 = .ok (.aload_n 0, 1) := by decide +kernel
theorem dX10_findNearest_78 : decode cX10_findNearest 78 = .ok (.getfield 9, 3) := by decide +kernel
theorem dX10_findNearest_81 : decode cX10_findNearest 81 = .ok (.iload 4, 2) := by decide +kernel
theorem dX10_findNearest_83 : decode cX10_findNearest 83 = .ok (.iaload, 1) := by decide +kernel
theorem dX10_findNearest_84 : decode cX10_findNearest 84 = .ok (.iload_n 2, 1) := by decide +kernel
theorem dX10_findNearest_85 : decode cX10_findNearest 85 = .ok (.if_icmp .ge 65, 3) := by decide +kernel
theorem dX10_findNearest_88 : decode cX10_findNearest 88 = .ok (.aload_n 0, 1) := by decide +kernel
theorem dX10_findNearest_89 : decode cX10_findNearest 89 = .ok (.invokevirtual 45, 3) := by decide +kernel
theorem dX10_findNearest_92 : decode cX10_findNearest 92 = .ok (.iload_n 3, 1) := by decide +kernel
theorem dX10_findNearest_93 : decode cX10_findNearest 93 = .ok (.if_icmp .le 57, 3) := by decide +kernel
theorem dX10_findNearest_96 : decode cX10_findNearest 96 = .ok (.aload_n 0, 1) := by decide +kernel
theorem dX10_findNearest_97 : decode cX10_findNearest 97 = .ok (.getfield 9, 3) := by decide +kernel
theorem dX10_findNearest_100 : decode cX10_findNearest 100 = .ok (.iload 4, 2) := by decide +kernel
theorem dX10_findNearest_102 : decode cX10_findNearest 102 = .ok (.dup2, 1) := by decide +kernel
theorem dX10_findNearest_103 : decode cX10_findNearest 103 = .ok (.iaload, 1) := by decide +kernel
theorem dX10_findNearest_104 : decode cX10_findNearest 104 = .ok (.iconst 1, 1) := by decide +kernel
theorem dX10_findNearest_105 : decode cX10_findNearest 105 = .ok (.iadd, 1) := by decide +kernel
theorem dX10_findNearest_106 : decode cX10_findNearest 106 = .ok (.iastore, 1) := by decide +kernel
theorem dX10_findNearest_107 : decode cX10_findNearest 107 = .ok (.aload_n 0, 1) := by decide +kernel
theorem dX10_findNearest_108 : decode cX10_findNearest 108 = .ok (.getfield 13, 3) := by decide +kernel
theorem dX10_findNearest_111 : decode cX10_findNearest 111 = .ok (.aload_n 0, 1) := by decide +kernel
theorem dX10_findNearest_112 : decode cX10_findNearest 112 = .ok (.getfield 19, 3) := by decide +kernel
theorem dX10_findNearest_115 : decode cX10_findNearest 115 = .ok (.getfield 49, 3) := by decide +kernel
theorem dX10_findNearest_118 : decode cX10_findNearest 118 = .ok (.iload 4, 2) := by decide +kernel
theorem dX10_findNearest_120 : decode cX10_findNearest 120 = .ok (.iaload, 1) := by decide +kernel
theorem dX10_findNearest_121 : decode cX10_findNearest 121 = .ok (.dup2, 1) := by decide +kernel
theorem dX10_findNearest_122 : decode cX10_findNearest 122 = .ok (.iaload, 1) := by decide +kernel
theorem dX10_findNearest_123 : decode cX10_findNearest 123 = .ok (.iconst 1, 1) := by decide +kernel
theorem dX10_findNearest_124 : decode cX10_findNearest 124 = .ok (.isub, 1) := by decide +kernel
theorem dX10_findNearest_125 : decode cX10_findNearest 125 = .ok (.iastore, 1) := by decide +kernel
theorem dX10_findNearest_126 : decode cX10_findNearest 126 = .ok (.aload_n 0, 1) := by decide +kernel
theorem dX10_findNearest_127 : decode cX10_findNearest 127 = .ok (.getfield 13, 3) := by decide +kernel
theorem dX10_findNearest_130 : decode cX10_findNearest 130 = .ok (.iconst 4, 1) := by decide +kernel
theorem dX10_findNearest_131 : decode cX10_findNearest 131 = .ok (.aload_n 0, 1) := by decide +kernel
theorem dX10_findNearest_132 : decode cX10_findNearest 132 = .ok (.getfield 19, 3) := by decide +kernel
theorem dX10_findNearest_135 : decode cX10_findNearest 135 = .ok (.getfield 54, 3) := by decide +kernel
theorem dX10_findNearest_138 : decode cX10_findNearest 138 = .ok (.iload 4, 2) := by decide +kernel
theorem dX10_findNearest_140 : decode cX10_findNearest 140 = .ok (.iaload, 1) := by decide +kernel
theorem dX10_findNearest_141 : decode cX10_findNearest 141 = .ok (.iadd, 1) := by decide +kernel
theorem dX10_findNearest_142 : decode cX10_findNearest 142 = .ok (.dup2, 1) := by decide +kernel
theorem dX10_findNearest_143 : decode cX10_findNearest 143 = .ok (.iaload, 1) := by decide +kernel
theorem dX10_findNearest_144 : decode cX10_findNearest 144 = .ok (.iconst 1, 1) := by decide +kernel
theorem dX10_findNearest_145 : decode cX10_findNearest 145 = .ok (.isub, 1) := by decide +kernel
theorem dX10_findNearest_146 : decode cX10_findNearest 146 = .ok (.iastore, 1) := by decide +kernel
theorem dX10_findNearest_147 : decode cX10_findNearest 147 = .ok (.goto (-70), 3) := by decide +kernel
theorem dX10_findNearest_150 : decode cX10_findNearest 150 = .ok (.iinc 4 1, 3) := by decide +kernel
theorem dX10_findNearest_153 : decode cX10_findNearest 153 = .ok (.goto (-105), 3) := by decide +kernel
theorem dX10_findNearest_156 : decode cX10_findNearest 156 = .ok (.iload_n 3, 1) := by decide +kernel
theorem dX10_findNearest_157 : decode cX10_findNearest 157 = .ok (.ireturn, 1) := by decide +kernel
noncomputable def B_X10_findNearest_0 : pb_C := (i_aload 0 (i_iload 1 (i_putI 57 1 (i_aload 0 (i_getR 57 60 (i_const (.int 0) (i_callS 2 0 M_J7_fill_53178_60 (i_const (.int 0) (i_istore 3 (i_jmp 15 [true, true, true, true, false]))))))))))
noncomputable def B_X10_findNearest_15 : pb_C := (i_iload 3 (i_iload 1 (i_ic_ge (i_aload 0 (i_callV 57 0 1 M_X10_leastUnlike (i_istore 3 (i_const (.int 0) (i_istore 4 (i_jmp 48 [true, true, true, true, true])))))) (i_aload 0 (i_getR 57 60 (i_aload 0 (i_iload 3 (i_callV 57 1 1 M_X10_cellOf (i_dup2 (i_ald 60 16 (i_iload 2 (i_ibin (· + ·) (i_ast 60 16 (fun x => x) (i_iinc 3 1 (i_jmp 15 [true, true, true, true, false])))))))))))))))
noncomputable def B_X10_findNearest_48 : pb_C := (i_iload 4 (i_iload 1 (i_ic_ge (i_iload 3 i_iret) (i_aload 0 (i_getR 57 60 (i_aload 0 (i_iload 4 (i_callV 57 1 1 M_X10_cellOf (i_dup2 (i_ald 60 16 (i_iload 2 (i_ibin (· - ·) (i_ast 60 16 (fun x => x) (i_aload 0 (i_getR 57 58 (i_iload 4 (i_const (.int 0) (i_ast 58 8 (fun x => x) (i_jmp 77 [true, true, true, true, true])))))))))))))))))))
noncomputable def B_X10_findNearest_77 : pb_C := (i_aload 0 (i_getR 57 58 (i_iload 4 (i_ald 58 8 (i_iload 2 (i_ic_ge (i_iinc 4 1 (i_jmp 48 [true, true, true, true, true])) (i_aload 0 (i_callV 57 0 1 M_X10_leastUnlike (i_iload 3 (i_ic_le (i_iinc 4 1 (i_jmp 48 [true, true, true, true, true])) (i_aload 0 (i_getR 57 58 (i_iload 4 (i_dup2 (i_ald 58 8 (i_const (.int 1) (i_ibin (· + ·) (i_ast 58 8 (fun x => x) (i_aload 0 (i_getR 57 59 (i_aload 0 (i_getR 57 5 (i_getR 5 6 (i_iload 4 (i_ald 6 12 (i_dup2 (i_ald 59 8 (i_const (.int 1) (i_ibin (· - ·) (i_ast 59 8 (fun x => x) (i_aload 0 (i_getR 57 59 (i_const (.int 4) (i_aload 0 (i_getR 57 5 (i_getR 5 7 (i_iload 4 (i_ald 7 12 (i_ibin (· + ·) (i_dup2 (i_ald 59 8 (i_const (.int 1) (i_ibin (· - ·) (i_ast 59 8 (fun x => x) (i_jmp 77 [true, true, true, true, true])))))))))))))))))))))))))))))))))))))))))))))
noncomputable def T_X10_findNearest : Nat → pb_C := pb_tt [(0, B_X10_findNearest_0), (15, B_X10_findNearest_15), (48, B_X10_findNearest_48), (77, B_X10_findNearest_77)]
noncomputable def M_X10_findNearest : pb_F := pb_M T_X10_findNearest 5
set_option maxRecDepth 100000 in
set_option maxHeartbeats 4000000 in
theorem S_X10_findNearest (l : Launch) : pb_Sound l yX10_findNearest cX10_findNearest 5 (some .int) 3 M_X10_findNearest := by
  refine pb_sound_of (by decide) m_6_49 ?_
  intro Γ hl0 hRm0 hm X E hr J
  have hnL : ∀ j, j < 5 → j < Γ.2.2.2.2.2.2.2.2.2.2.2.1 := fun j h => by rw [hm]; exact h
  have hR : ∀ (d' mL : Nat), d' + 1 ≤ 3 ∧ 8 + (mL + 11) + d' * 64 ≤ 3 * 64 → (pb_rm d').frames + 1 ≤ Γ.2.2.2.1.frames ∧ 8 + (mL + 11) + (pb_rm d').locals ≤ Γ.2.2.2.1.locals := by rw [hRm0]; exact fun _ _ h => h
  have hRm : 1 ≤ 3 ∧ 64 ≤ 3 * 64 → 1 ≤ Γ.2.2.2.1.frames ∧ 64 ≤ Γ.2.2.2.1.locals := by rw [hRm0]; exact fun h => h
  exact pb_tt_snd _ (List.forall_mem_cons.mpr ⟨(s_aload_n (pc := 0) X dX10_findNearest_0 rfl (s_iload_n (pc := 1) X dX10_findNearest_1 rfl (s_putI (pc := 2) X dX10_findNearest_2 p_X10_31 (s_aload_n (pc := 5) X dX10_findNearest_5 rfl (s_getR (pc := 6) X dX10_findNearest_6 g_X10_16 (s_iconst (pc := 9) X dX10_findNearest_9 rfl (s_callS (pc := 10) X dX10_findNearest_10 (S_J7_fill_53178_60 _) q_X10_35 (hR _ _ (by decide)) (s_iconst (pc := 13) X dX10_findNearest_13 rfl (s_istore_n (pc := 14) X dX10_findNearest_14 rfl (hnL _ (by decide)) (s_jmp (pc := 15) J [true, true, true, true, false])))))))))), List.forall_mem_cons.mpr ⟨(s_iload_n (pc := 15) X dX10_findNearest_15 rfl (s_iload_n (pc := 16) X dX10_findNearest_16 rfl (s_ic_ge (pc := 17) X dX10_findNearest_17 (by decide) (s_aload_n (pc := 40) X dX10_findNearest_40 rfl (s_callV (pc := 41) X dX10_findNearest_41 (S_X10_leastUnlike _) q_X10_45 h_57 rfl (hR _ _ (by decide)) (s_istore_n (pc := 44) X dX10_findNearest_44 rfl (hnL _ (by decide)) (s_iconst (pc := 45) X dX10_findNearest_45 rfl (s_istore (pc := 46) X dX10_findNearest_46 (hnL _ (by decide)) (s_jmp (pc := 48) J [true, true, true, true, true])))))) (s_aload_n (pc := 20) X dX10_findNearest_20 rfl (s_getR (pc := 21) X dX10_findNearest_21 g_X10_16 (s_aload_n (pc := 24) X dX10_findNearest_24 rfl (s_iload_n (pc := 25) X dX10_findNearest_25 rfl (s_callV (pc := 26) X dX10_findNearest_26 (S_X10_cellOf _) q_X10_41 h_57 rfl (hR _ _ (by decide)) (s_dup2 (pc := 29) X dX10_findNearest_29 (s_iald (pc := 30) X dX10_findNearest_30 h_60 (s_iload_n (pc := 31) X dX10_findNearest_31 rfl (s_iadd (pc := 32) X dX10_findNearest_32 (s_iast (pc := 33) X dX10_findNearest_33 h_60 (s_iinc (pc := 34) X dX10_findNearest_34 rfl (s_goto (pc := 37) X dX10_findNearest_37 (by decide) (s_jmp (pc := 15) J [true, true, true, true, false])))))))))))))))), List.forall_mem_cons.mpr ⟨(s_iload (pc := 48) X dX10_findNearest_48 (s_iload_n (pc := 50) X dX10_findNearest_50 rfl (s_ic_ge (pc := 51) X dX10_findNearest_51 (by decide) (s_iload_n (pc := 156) X dX10_findNearest_156 rfl (s_iret (pc := 157) X E hr dX10_findNearest_157)) (s_aload_n (pc := 54) X dX10_findNearest_54 rfl (s_getR (pc := 55) X dX10_findNearest_55 g_X10_16 (s_aload_n (pc := 58) X dX10_findNearest_58 rfl (s_iload (pc := 59) X dX10_findNearest_59 (s_callV (pc := 61) X dX10_findNearest_61 (S_X10_cellOf _) q_X10_41 h_57 rfl (hR _ _ (by decide)) (s_dup2 (pc := 64) X dX10_findNearest_64 (s_iald (pc := 65) X dX10_findNearest_65 h_60 (s_iload_n (pc := 66) X dX10_findNearest_66 rfl (s_isub (pc := 67) X dX10_findNearest_67 (s_iast (pc := 68) X dX10_findNearest_68 h_60 (s_aload_n (pc := 69) X dX10_findNearest_69 rfl (s_getR (pc := 70) X dX10_findNearest_70 g_X10_9 (s_iload (pc := 73) X dX10_findNearest_73 (s_iconst (pc := 75) X dX10_findNearest_75 rfl (s_iast (pc := 76) X dX10_findNearest_76 h_58 (s_jmp (pc := 77) J [true, true, true, true, true]))))))))))))))))))), List.forall_mem_cons.mpr ⟨(s_aload_n (pc := 77) X dX10_findNearest_77 rfl (s_getR (pc := 78) X dX10_findNearest_78 g_X10_9 (s_iload (pc := 81) X dX10_findNearest_81 (s_iald (pc := 83) X dX10_findNearest_83 h_58 (s_iload_n (pc := 84) X dX10_findNearest_84 rfl (s_ic_ge (pc := 85) X dX10_findNearest_85 (by decide) (s_iinc (pc := 150) X dX10_findNearest_150 rfl (s_goto (pc := 153) X dX10_findNearest_153 (by decide) (s_jmp (pc := 48) J [true, true, true, true, true]))) (s_aload_n (pc := 88) X dX10_findNearest_88 rfl (s_callV (pc := 89) X dX10_findNearest_89 (S_X10_leastUnlike _) q_X10_45 h_57 rfl (hR _ _ (by decide)) (s_iload_n (pc := 92) X dX10_findNearest_92 rfl (s_ic_le (pc := 93) X dX10_findNearest_93 (by decide) (s_iinc (pc := 150) X dX10_findNearest_150 rfl (s_goto (pc := 153) X dX10_findNearest_153 (by decide) (s_jmp (pc := 48) J [true, true, true, true, true]))) (s_aload_n (pc := 96) X dX10_findNearest_96 rfl (s_getR (pc := 97) X dX10_findNearest_97 g_X10_9 (s_iload (pc := 100) X dX10_findNearest_100 (s_dup2 (pc := 102) X dX10_findNearest_102 (s_iald (pc := 103) X dX10_findNearest_103 h_58 (s_iconst (pc := 104) X dX10_findNearest_104 rfl (s_iadd (pc := 105) X dX10_findNearest_105 (s_iast (pc := 106) X dX10_findNearest_106 h_58 (s_aload_n (pc := 107) X dX10_findNearest_107 rfl (s_getR (pc := 108) X dX10_findNearest_108 g_X10_13 (s_aload_n (pc := 111) X dX10_findNearest_111 rfl (s_getR (pc := 112) X dX10_findNearest_112 g_X10_19 (s_getR (pc := 115) X dX10_findNearest_115 g_X10_49 (s_iload (pc := 118) X dX10_findNearest_118 (s_iald (pc := 120) X dX10_findNearest_120 h_6 (s_dup2 (pc := 121) X dX10_findNearest_121 (s_iald (pc := 122) X dX10_findNearest_122 h_59 (s_iconst (pc := 123) X dX10_findNearest_123 rfl (s_isub (pc := 124) X dX10_findNearest_124 (s_iast (pc := 125) X dX10_findNearest_125 h_59 (s_aload_n (pc := 126) X dX10_findNearest_126 rfl (s_getR (pc := 127) X dX10_findNearest_127 g_X10_13 (s_iconst (pc := 130) X dX10_findNearest_130 rfl (s_aload_n (pc := 131) X dX10_findNearest_131 rfl (s_getR (pc := 132) X dX10_findNearest_132 g_X10_19 (s_getR (pc := 135) X dX10_findNearest_135 g_X10_54 (s_iload (pc := 138) X dX10_findNearest_138 (s_iald (pc := 140) X dX10_findNearest_140 h_7 (s_iadd (pc := 141) X dX10_findNearest_141 (s_dup2 (pc := 142) X dX10_findNearest_142 (s_iald (pc := 143) X dX10_findNearest_143 h_59 (s_iconst (pc := 144) X dX10_findNearest_144 rfl (s_isub (pc := 145) X dX10_findNearest_145 (s_iast (pc := 146) X dX10_findNearest_146 h_59 (s_goto (pc := 147) X dX10_findNearest_147 (by decide) (s_jmp (pc := 77) J [true, true, true, true, true])))))))))))))))))))))))))))))))))))))))))))))), fun _ h => absurd h List.not_mem_nil⟩⟩⟩⟩)
theorem dX11_weights_0 : decode cX11_weights 0 = .ok (.iload_n 1, 1) := by decide +kernel
theorem dX11_weights_1 : decode cX11_weights 1 = .ok (.iconst 1, 1) := by decide +kernel
theorem dX11_weights_2 : decode cX11_weights 2 = .ok (.bipush 8, 2) := by decide +kernel
theorem dX11_weights_4 : decode cX11_weights 4 = .ok (.invokestatic 101, 3) := by decide +kernel
theorem dX11_weights_7 : decode cX11_weights 7 = .ok (.ifCond .ne 23, 3) := by decide +kernel
theorem dX11_weights_10 : decode cX11_weights 10 = .ok (.iload_n 1, 1) := by decide +kernel
theorem dX11_weights_11 : decode cX11_weights 11 = .ok (.aload_n 0, 1) := by decide +kernel
theorem dX11_weights_12 : decode cX11_weights 12 = .ok (.getfield 30, 3) := by decide +kernel
theorem dX11_weights_15 : decode cX11_weights 15 = .ok (.getfield 131, 3) := by decide +kernel
theorem dX11_weights_18 : decode cX11_weights 18 = .ok (.if_icmp .gt 12, 3) := by decide +kernel
theorem dX11_weights_21 : decode cX11_weights 21 = .ok (.iload_n 2, 1) := by decide +kernel
theorem dX11_weights_22 : decode cX11_weights 22 = .ok (.iconst 1, 1) := by decide +kernel
theorem dX11_weights_23 : decode cX11_weights 23 = .ok (.iconst 4, 1) := by decide +kernel
theorem dX11_weights_24 : decode cX11_weights 24 = .ok (.invokestatic 101, 3) := by decide +kernel
theorem dX11_weights_27 : decode cX11_weights 27 = .ok (.ifCond .eq 11, 3) := by decide +kernel
theorem dX11_weights_30 : decode cX11_weights 30 = .ok (.aload_n 0, 1) := by decide +kernel
theorem dX11_weights_31 : decode cX11_weights 31 = .ok (.iconst 1, 1) := by decide +kernel
theorem dX11_weights_32 : decode cX11_weights 32 = .ok (.putfield 9, 3) := by decide +kernel
theorem dX11_weights_35 : decode cX11_weights 35 = .ok (.goto 17, 3) := by decide +kernel
theorem dX11_weights_38 : decode cX11_weights 38 = .ok (.aload_n 0, 1) := by decide +kernel
theorem dX11_weights_39 : decode cX11_weights 39 = .ok (.aload_n 0, 1) := by decide +kernel
theorem dX11_weights_40 : decode cX11_weights 40 = .ok (.getfield 23, 3) := by decide +kernel
theorem dX11_weights_43 : decode cX11_weights 43 = .ok (.iload_n 3, 1) := by decide +kernel
theorem dX11_weights_44 : decode cX11_weights 44 = .ok (.bipush 7, 2) := by decide +kernel
theorem dX11_weights_46 : decode cX11_weights 46 = .ok (.invokevirtual 109, 3) := by decide +kernel
theorem dX11_weights_49 : decode cX11_weights 49 = .ok (.putfield 9, 3) := by decide +kernel
theorem dX11_weights_52 : decode cX11_weights 52 = .ok (.aload_n 0, 1) := by decide +kernel
theorem dX11_weights_53 : decode cX11_weights 53 = .ok (.getfield 9, 3) := by decide +kernel
theorem dX11_weights_56 : decode cX11_weights 56 = .ok (.ifCond .ne 23, 3) := by decide +kernel
theorem dX11_weights_59 : decode cX11_weights 59 = .ok (.aload_n 0, 1) := by decide +kernel
theorem dX11_weights_60 : decode cX11_weights 60 = .ok (.getfield 90, 3) := by decide +kernel
theorem dX11_weights_63 : decode cX11_weights 63 = .ok (.aload_n 0, 1) := by decide +kernel
theorem dX11_weights_64 : decode cX11_weights 64 = .ok (.getfield 23, 3) := by decide +kernel
theorem dX11_weights_67 : decode cX11_weights 67 = .ok (.iload_n 3, 1) := by decide +kernel
theorem dX11_weights_68 : decode cX11_weights 68 = .ok (.invokevirtual 334, 3) := by decide +kernel
theorem dX11_weights_71 : decode cX11_weights 71 = .ok (.ifCond .ne 8, 3) := by decide +kernel
theorem dX11_weights_74 : decode cX11_weights 74 = .ok (.aload_n 0, 1) := by decide +kernel
theorem dX11_weights_75 : decode cX11_weights 75 = .ok (.iconst 1, 1) := by decide +kernel
theorem dX11_weights_76 : decode cX11_weights 76 = .ok (.putfield 9, 3) := by decide +kernel
theorem dX11_weights_79 : decode cX11_weights 79 = .ok (.aload_n 0, 1) := by decide +kernel
theorem dX11_weights_80 : decode cX11_weights 80 = .ok (.getfield 9, 3) := by decide +kernel
theorem dX11_weights_83 : decode cX11_weights 83 = .ok (.ifCond .ne 15, 3) := by decide +kernel
theorem dX11_weights_86 : decode cX11_weights 86 = .ok (.aload_n 0, 1) := by decide +kernel
theorem dX11_weights_87 : decode cX11_weights 87 = .ok (.getfield 90, 3) := by decide +kernel
theorem dX11_weights_90 : decode cX11_weights 90 = .ok (.iload_n 1, 1) := by decide +kernel
theorem dX11_weights_91 : decode cX11_weights 91 = .ok (.iload_n 2, 1) := by decide +kernel
theorem dX11_weights_92 : decode cX11_weights 92 = .ok (.invokevirtual 338, 3) := by decide +kernel
theorem dX11_weights_95 : decode cX11_weights 95 = .ok (.goto 4, 3) := by decide +kernel
theorem dX11_weights_98 : decode cX11_weights 98 = .ok (.iconst (-1), 1) := by decide +kernel
theorem dX11_weights_99 : decode cX11_weights 99 = .ok (.ireturn, 1) := by decide +kernel
noncomputable def B_X11_weights_0 : pb_C := (i_iload 1 (i_const (.int 1) (i_const (.int 8) (i_callS 3 1 M_X11_outside (i_if_ne (i_aload 0 (i_const (.int 1) (i_putI 0 0 (i_jmp 52 [true, true, true, true])))) (i_iload 1 (i_aload 0 (i_getR 0 5 (i_getI 5 0 (i_ic_gt (i_aload 0 (i_const (.int 1) (i_putI 0 0 (i_jmp 52 [true, true, true, true])))) (i_iload 2 (i_const (.int 1) (i_const (.int 4) (i_callS 3 1 M_X11_outside (i_if_eq (i_aload 0 (i_aload 0 (i_getR 0 1 (i_iload 3 (i_const (.int 7) (i_callV 1 2 1 M_X8_placeStatus (i_putI 0 0 (i_jmp 52 [true, true, true, true])))))))) (i_aload 0 (i_const (.int 1) (i_putI 0 0 (i_jmp 52 [true, true, true, true])))))))))))))))))))
noncomputable def B_X11_weights_52 : pb_C := (i_aload 0 (i_getI 0 0 (i_if_ne (i_aload 0 (i_getI 0 0 (i_if_ne (i_const (.int (-1)) i_iret) (i_aload 0 (i_getR 0 57 (i_iload 1 (i_iload 2 (i_callV 57 2 1 M_X10_findNearest i_iret)))))))) (i_aload 0 (i_getR 0 57 (i_aload 0 (i_getR 0 1 (i_iload 3 (i_callV 57 2 1 M_X10_takeMargins_1 (i_if_ne (i_aload 0 (i_getI 0 0 (i_if_ne (i_const (.int (-1)) i_iret) (i_aload 0 (i_getR 0 57 (i_iload 1 (i_iload 2 (i_callV 57 2 1 M_X10_findNearest i_iret)))))))) (i_aload 0 (i_const (.int 1) (i_putI 0 0 (i_aload 0 (i_getI 0 0 (i_if_ne (i_const (.int (-1)) i_iret) (i_aload 0 (i_getR 0 57 (i_iload 1 (i_iload 2 (i_callV 57 2 1 M_X10_findNearest i_iret)))))))))))))))))))))
noncomputable def T_X11_weights : Nat → pb_C := pb_tt [(0, B_X11_weights_0), (52, B_X11_weights_52)]
noncomputable def M_X11_weights : pb_F := pb_M T_X11_weights 4
set_option maxRecDepth 100000 in
set_option maxHeartbeats 4000000 in
theorem S_X11_weights (l : Launch) : pb_Sound l yX11_weights cX11_weights 4 (some .int) 4 M_X11_weights := by
  refine pb_sound_of (by decide) m_6_39 ?_
  intro Γ hl0 hRm0 hm X E hr J
  have hnL : ∀ j, j < 4 → j < Γ.2.2.2.2.2.2.2.2.2.2.2.1 := fun j h => by rw [hm]; exact h
  have hR : ∀ (d' mL : Nat), d' + 1 ≤ 4 ∧ 8 + (mL + 11) + d' * 64 ≤ 4 * 64 → (pb_rm d').frames + 1 ≤ Γ.2.2.2.1.frames ∧ 8 + (mL + 11) + (pb_rm d').locals ≤ Γ.2.2.2.1.locals := by rw [hRm0]; exact fun _ _ h => h
  have hRm : 1 ≤ 4 ∧ 64 ≤ 4 * 64 → 1 ≤ Γ.2.2.2.1.frames ∧ 64 ≤ Γ.2.2.2.1.locals := by rw [hRm0]; exact fun h => h
  exact pb_tt_snd _ (List.forall_mem_cons.mpr ⟨(s_iload_n (pc := 0) X dX11_weights_0 rfl (s_iconst (pc := 1) X dX11_weights_1 rfl (s_bipush (pc := 2) X dX11_weights_2 rfl (s_callS (pc := 4) X dX11_weights_4 (S_X11_outside _) q_X11_101 (hR _ _ (by decide)) (s_if_ne (pc := 7) X dX11_weights_7 (by decide) (s_aload_n (pc := 30) X dX11_weights_30 rfl (s_iconst (pc := 31) X dX11_weights_31 rfl (s_putI (pc := 32) X dX11_weights_32 p_X11_9 (s_goto (pc := 35) X dX11_weights_35 (by decide) (s_jmp (pc := 52) J [true, true, true, true]))))) (s_iload_n (pc := 10) X dX11_weights_10 rfl (s_aload_n (pc := 11) X dX11_weights_11 rfl (s_getR (pc := 12) X dX11_weights_12 g_X11_30 (s_getI (pc := 15) X dX11_weights_15 g_X11_131 (s_ic_gt (pc := 18) X dX11_weights_18 (by decide) (s_aload_n (pc := 30) X dX11_weights_30 rfl (s_iconst (pc := 31) X dX11_weights_31 rfl (s_putI (pc := 32) X dX11_weights_32 p_X11_9 (s_goto (pc := 35) X dX11_weights_35 (by decide) (s_jmp (pc := 52) J [true, true, true, true]))))) (s_iload_n (pc := 21) X dX11_weights_21 rfl (s_iconst (pc := 22) X dX11_weights_22 rfl (s_iconst (pc := 23) X dX11_weights_23 rfl (s_callS (pc := 24) X dX11_weights_24 (S_X11_outside _) q_X11_101 (hR _ _ (by decide)) (s_if_eq (pc := 27) X dX11_weights_27 (by decide) (s_aload_n (pc := 38) X dX11_weights_38 rfl (s_aload_n (pc := 39) X dX11_weights_39 rfl (s_getR (pc := 40) X dX11_weights_40 g_X11_23 (s_iload_n (pc := 43) X dX11_weights_43 rfl (s_bipush (pc := 44) X dX11_weights_44 rfl (s_callV (pc := 46) X dX11_weights_46 (S_X8_placeStatus _) q_X11_109 h_1 rfl (hR _ _ (by decide)) (s_putI (pc := 49) X dX11_weights_49 p_X11_9 (s_jmp (pc := 52) J [true, true, true, true])))))))) (s_aload_n (pc := 30) X dX11_weights_30 rfl (s_iconst (pc := 31) X dX11_weights_31 rfl (s_putI (pc := 32) X dX11_weights_32 p_X11_9 (s_goto (pc := 35) X dX11_weights_35 (by decide) (s_jmp (pc := 52) J [true, true, true, true])))))))))))))))))))), List.forall_mem_cons.mpr ⟨(s_aload_n (pc := 52) X dX11_weights_52 rfl (s_getI (pc := 53) X dX11_weights_53 g_X11_9 (s_if_ne (pc := 56) X dX11_weights_56 (by decide) (s_aload_n (pc := 79) X dX11_weights_79 rfl (s_getI (pc := 80) X dX11_weights_80 g_X11_9 (s_if_ne (pc := 83) X dX11_weights_83 (by decide) (s_iconst (pc := 98) X dX11_weights_98 rfl (s_iret (pc := 99) X E hr dX11_weights_99)) (s_aload_n (pc := 86) X dX11_weights_86 rfl (s_getR (pc := 87) X dX11_weights_87 g_X11_90 (s_iload_n (pc := 90) X dX11_weights_90 rfl (s_iload_n (pc := 91) X dX11_weights_91 rfl (s_callV (pc := 92) X dX11_weights_92 (S_X10_findNearest _) q_X11_338 h_57 rfl (hR _ _ (by decide)) (s_goto (pc := 95) X dX11_weights_95 (by decide) (s_iret (pc := 99) X E hr dX11_weights_99)))))))))) (s_aload_n (pc := 59) X dX11_weights_59 rfl (s_getR (pc := 60) X dX11_weights_60 g_X11_90 (s_aload_n (pc := 63) X dX11_weights_63 rfl (s_getR (pc := 64) X dX11_weights_64 g_X11_23 (s_iload_n (pc := 67) X dX11_weights_67 rfl (s_callV (pc := 68) X dX11_weights_68 (S_X10_takeMargins_1 _) q_X11_334 h_57 rfl (hR _ _ (by decide)) (s_if_ne (pc := 71) X dX11_weights_71 (by decide) (s_aload_n (pc := 79) X dX11_weights_79 rfl (s_getI (pc := 80) X dX11_weights_80 g_X11_9 (s_if_ne (pc := 83) X dX11_weights_83 (by decide) (s_iconst (pc := 98) X dX11_weights_98 rfl (s_iret (pc := 99) X E hr dX11_weights_99)) (s_aload_n (pc := 86) X dX11_weights_86 rfl (s_getR (pc := 87) X dX11_weights_87 g_X11_90 (s_iload_n (pc := 90) X dX11_weights_90 rfl (s_iload_n (pc := 91) X dX11_weights_91 rfl (s_callV (pc := 92) X dX11_weights_92 (S_X10_findNearest _) q_X11_338 h_57 rfl (hR _ _ (by decide)) (s_goto (pc := 95) X dX11_weights_95 (by decide) (s_iret (pc := 99) X E hr dX11_weights_99)))))))))) (s_aload_n (pc := 74) X dX11_weights_74 rfl (s_iconst (pc := 75) X dX11_weights_75 rfl (s_putI (pc := 76) X dX11_weights_76 p_X11_9 (s_aload_n (pc := 79) X dX11_weights_79 rfl (s_getI (pc := 80) X dX11_weights_80 g_X11_9 (s_if_ne (pc := 83) X dX11_weights_83 (by decide) (s_iconst (pc := 98) X dX11_weights_98 rfl (s_iret (pc := 99) X E hr dX11_weights_99)) (s_aload_n (pc := 86) X dX11_weights_86 rfl (s_getR (pc := 87) X dX11_weights_87 g_X11_90 (s_iload_n (pc := 90) X dX11_weights_90 rfl (s_iload_n (pc := 91) X dX11_weights_91 rfl (s_callV (pc := 92) X dX11_weights_92 (S_X10_findNearest _) q_X11_338 h_57 rfl (hR _ _ (by decide)) (s_goto (pc := 95) X dX11_weights_95 (by decide) (s_iret (pc := 99) X E hr dX11_weights_99))))))))))))))))))))))), fun _ h => absurd h List.not_mem_nil⟩⟩)
