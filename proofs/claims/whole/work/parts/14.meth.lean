theorem dX11_weight_0 : decode cX11_weight 0 = .ok (.iload_n 1, 1) := by decide +kernel
theorem dX11_weight_1 : decode cX11_weight 1 = .ok (.ifCond .ge 11, 3) := by decide +kernel
theorem dX11_weight_4 : decode cX11_weight 4 = .ok (.aload_n 0, 1) := by decide +kernel
theorem dX11_weight_5 : decode cX11_weight 5 = .ok (.iconst 1, 1) := by decide +kernel
theorem dX11_weight_6 : decode cX11_weight 6 = .ok (.putfield 9, 3) := by decide +kernel
theorem dX11_weight_9 : decode cX11_weight 9 = .ok (.goto 24, 3) := by decide +kernel
theorem dX11_weight_12 : decode cX11_weight 12 = .ok (.aload_n 0, 1) := by decide +kernel
theorem dX11_weight_13 : decode cX11_weight 13 = .ok (.iload_n 1, 1) := by decide +kernel
theorem dX11_weight_14 : decode cX11_weight 14 = .ok (.aload_n 0, 1) := by decide +kernel
theorem dX11_weight_15 : decode cX11_weight 15 = .ok (.getfield 90, 3) := by decide +kernel
theorem dX11_weight_18 : decode cX11_weight 18 = .ok (.getfield 341, 3) := by decide +kernel
theorem dX11_weight_21 : decode cX11_weight 21 = .ok (.if_icmp .ge 7, 3) := by decide +kernel
theorem dX11_weight_24 : decode cX11_weight 24 = .ok (.iconst 0, 1) := by decide +kernel
theorem dX11_weight_25 : decode cX11_weight 25 = .ok (.goto 5, 3) := by decide +kernel
theorem dX11_weight_28 : decode cX11_weight 28 = .ok (.bipush 6, 2) := by decide +kernel
theorem dX11_weight_30 : decode cX11_weight 30 = .ok (.putfield 9, 3) := by decide +kernel
theorem dX11_weight_33 : decode cX11_weight 33 = .ok (.aload_n 0, 1) := by decide +kernel
theorem dX11_weight_34 : decode cX11_weight 34 = .ok (.getfield 9, 3) := by decide +kernel
theorem dX11_weight_37 : decode cX11_weight 37 = .ok (.ifCond .ne 15, 3) := by decide +kernel
theorem dX11_weight_40 : decode cX11_weight 40 = .ok (.aload_n 0, 1) := by decide +kernel
theorem dX11_weight_41 : decode cX11_weight 41 = .ok (.getfield 90, 3) := by decide +kernel
theorem dX11_weight_44 : decode cX11_weight 44 = .ok (.getfield 344, 3) := by decide +kernel
theorem dX11_weight_47 : decode cX11_weight 47 = .ok (.iload_n 1, 1) := by decide +kernel
theorem dX11_weight_48 : decode cX11_weight 48 = .ok (.iaload, 1) := by decide +kernel
theorem dX11_weight_49 : decode cX11_weight 49 = .ok (.goto 4, 3) := by decide +kernel
theorem dX11_weight_52 : decode cX11_weight 52 = .ok (.iconst (-1), 1) := by decide +kernel
theorem dX11_weight_53 : decode cX11_weight 53 = .ok (.ireturn, 1) := by decide +kernel
noncomputable def B_X11_weight_0 : pb_C := (i_iload 1 (i_if_ge (i_aload 0 (i_iload 1 (i_aload 0 (i_getR 0 57 (i_getI 57 1 (i_ic_ge (i_const (.int 6) (i_jmp 30 [true, true])) (i_const (.int 0) (i_jmp 30 [true, true])))))))) (i_aload 0 (i_const (.int 1) (i_putI 0 0 (i_aload 0 (i_getI 0 0 (i_if_ne (i_const (.int (-1)) i_iret) (i_aload 0 (i_getR 0 57 (i_getR 57 58 (i_iload 1 (i_ald 58 8 i_iret)))))))))))))
noncomputable def B_X11_weight_30 : pb_C := (i_putI 0 0 (i_aload 0 (i_getI 0 0 (i_if_ne (i_const (.int (-1)) i_iret) (i_aload 0 (i_getR 0 57 (i_getR 57 58 (i_iload 1 (i_ald 58 8 i_iret)))))))))
noncomputable def T_X11_weight : Nat → pb_C := pb_tt [(0, B_X11_weight_0), (30, B_X11_weight_30)]
noncomputable def M_X11_weight : pb_F := pb_M T_X11_weight 2
set_option maxRecDepth 100000 in
set_option maxHeartbeats 4000000 in
theorem S_X11_weight (l : Launch) : pb_Sound l yX11_weight cX11_weight 2 (some .int) 1 M_X11_weight := by
  refine pb_sound_of (by decide) m_6_69 ?_
  intro Γ hl0 hRm0 hm X E hr J
  have hnL : ∀ j, j < 2 → j < Γ.2.2.2.2.2.2.2.2.2.2.2.1 := fun j h => by rw [hm]; exact h
  have hR : ∀ (d' mL : Nat), d' + 1 ≤ 1 ∧ 8 + (mL + 11) + d' * 64 ≤ 1 * 64 → (pb_rm d').frames + 1 ≤ Γ.2.2.2.1.frames ∧ 8 + (mL + 11) + (pb_rm d').locals ≤ Γ.2.2.2.1.locals := by rw [hRm0]; exact fun _ _ h => h
  have hRm : 1 ≤ 1 ∧ 64 ≤ 1 * 64 → 1 ≤ Γ.2.2.2.1.frames ∧ 64 ≤ Γ.2.2.2.1.locals := by rw [hRm0]; exact fun h => h
  exact pb_tt_snd _ (List.forall_mem_cons.mpr ⟨(s_iload_n (pc := 0) X dX11_weight_0 rfl (s_if_ge (pc := 1) X dX11_weight_1 (by decide) (s_aload_n (pc := 12) X dX11_weight_12 rfl (s_iload_n (pc := 13) X dX11_weight_13 rfl (s_aload_n (pc := 14) X dX11_weight_14 rfl (s_getR (pc := 15) X dX11_weight_15 g_X11_90 (s_getI (pc := 18) X dX11_weight_18 g_X11_341 (s_ic_ge (pc := 21) X dX11_weight_21 (by decide) (s_bipush (pc := 28) X dX11_weight_28 rfl (s_jmp (pc := 30) J [true, true])) (s_iconst (pc := 24) X dX11_weight_24 rfl (s_goto (pc := 25) X dX11_weight_25 (by decide) (s_jmp (pc := 30) J [true, true]))))))))) (s_aload_n (pc := 4) X dX11_weight_4 rfl (s_iconst (pc := 5) X dX11_weight_5 rfl (s_putI (pc := 6) X dX11_weight_6 p_X11_9 (s_goto (pc := 9) X dX11_weight_9 (by decide) (s_aload_n (pc := 33) X dX11_weight_33 rfl (s_getI (pc := 34) X dX11_weight_34 g_X11_9 (s_if_ne (pc := 37) X dX11_weight_37 (by decide) (s_iconst (pc := 52) X dX11_weight_52 rfl (s_iret (pc := 53) X E hr dX11_weight_53)) (s_aload_n (pc := 40) X dX11_weight_40 rfl (s_getR (pc := 41) X dX11_weight_41 g_X11_90 (s_getR (pc := 44) X dX11_weight_44 g_X11_344 (s_iload_n (pc := 47) X dX11_weight_47 rfl (s_iald (pc := 48) X dX11_weight_48 h_58 (s_goto (pc := 49) X dX11_weight_49 (by decide) (s_iret (pc := 53) X E hr dX11_weight_53)))))))))))))))), List.forall_mem_cons.mpr ⟨(s_putI (pc := 30) X dX11_weight_30 p_X11_9 (s_aload_n (pc := 33) X dX11_weight_33 rfl (s_getI (pc := 34) X dX11_weight_34 g_X11_9 (s_if_ne (pc := 37) X dX11_weight_37 (by decide) (s_iconst (pc := 52) X dX11_weight_52 rfl (s_iret (pc := 53) X E hr dX11_weight_53)) (s_aload_n (pc := 40) X dX11_weight_40 rfl (s_getR (pc := 41) X dX11_weight_41 g_X11_90 (s_getR (pc := 44) X dX11_weight_44 g_X11_344 (s_iload_n (pc := 47) X dX11_weight_47 rfl (s_iald (pc := 48) X dX11_weight_48 h_58 (s_goto (pc := 49) X dX11_weight_49 (by decide) (s_iret (pc := 53) X E hr dX11_weight_53))))))))))), fun _ h => absurd h List.not_mem_nil⟩⟩)
noncomputable def B_J7_fill_53178_56_0 : pb_C := (i_const (.int 0) (i_istore 2 (i_aload 0 (i_alen 56 520 (i_istore 3 (i_jmp 5 [true, true, true, true]))))))
noncomputable def B_J7_fill_53178_56_5 : pb_C := (i_iload 2 (i_iload 3 (i_ic_ge i_vret (i_aload 0 (i_iload 2 (i_iload 1 (i_ast 56 520 (fun x => x) (i_iinc 2 1 (i_jmp 5 [true, true, true, true])))))))))
noncomputable def T_J7_fill_53178_56 : Nat → pb_C := pb_tt [(0, B_J7_fill_53178_56_0), (5, B_J7_fill_53178_56_5)]
noncomputable def M_J7_fill_53178_56 : pb_F := pb_M T_J7_fill_53178_56 4
set_option maxRecDepth 100000 in
set_option maxHeartbeats 4000000 in
theorem S_J7_fill_53178_56 (l : Launch) : pb_Sound l yJ7_fill_53178 cJ7_fill_53178 4 none 1 M_J7_fill_53178_56 := by
  refine pb_sound_of (by decide) m_5_145 ?_
  intro Γ hl0 hRm0 hm X E hr J
  have hnL : ∀ j, j < 4 → j < Γ.2.2.2.2.2.2.2.2.2.2.2.1 := fun j h => by rw [hm]; exact h
  have hR : ∀ (d' mL : Nat), d' + 1 ≤ 1 ∧ 8 + (mL + 11) + d' * 64 ≤ 1 * 64 → (pb_rm d').frames + 1 ≤ Γ.2.2.2.1.frames ∧ 8 + (mL + 11) + (pb_rm d').locals ≤ Γ.2.2.2.1.locals := by rw [hRm0]; exact fun _ _ h => h
  have hRm : 1 ≤ 1 ∧ 64 ≤ 1 * 64 → 1 ≤ Γ.2.2.2.1.frames ∧ 64 ≤ Γ.2.2.2.1.locals := by rw [hRm0]; exact fun h => h
  exact pb_tt_snd _ (List.forall_mem_cons.mpr ⟨(s_iconst (pc := 0) X dJ7_fill_53178_0 rfl (s_istore_n (pc := 1) X dJ7_fill_53178_1 rfl (hnL _ (by decide)) (s_aload_n (pc := 2) X dJ7_fill_53178_2 rfl (s_alen (pc := 3) X dJ7_fill_53178_3 h_56 (fun cs => rfl) (s_istore_n (pc := 4) X dJ7_fill_53178_4 rfl (hnL _ (by decide)) (s_jmp (pc := 5) J [true, true, true, true])))))), List.forall_mem_cons.mpr ⟨(s_iload_n (pc := 5) X dJ7_fill_53178_5 rfl (s_iload_n (pc := 6) X dJ7_fill_53178_6 rfl (s_ic_ge (pc := 7) X dJ7_fill_53178_7 (by decide) (s_vret (pc := 20) X E hr dJ7_fill_53178_20) (s_aload_n (pc := 10) X dJ7_fill_53178_10 rfl (s_iload_n (pc := 11) X dJ7_fill_53178_11 rfl (s_iload_n (pc := 12) X dJ7_fill_53178_12 rfl (s_iast (pc := 13) X dJ7_fill_53178_13 h_56 (s_iinc (pc := 14) X dJ7_fill_53178_14 rfl (s_goto (pc := 17) X dJ7_fill_53178_17 (by decide) (s_jmp (pc := 5) J [true, true, true, true])))))))))), fun _ h => absurd h List.not_mem_nil⟩⟩)
theorem dX9_layOut_0 : decode cX9_layOut 0 = .ok (.aload_n 0, 1) := by decide +kernel
theorem dX9_layOut_1 : decode cX9_layOut 1 = .ok (.getfield 15, 3) := by decide +kernel
theorem dX9_layOut_4 : decode cX9_layOut 4 = .ok (.iconst 0, 1) := by decide +kernel
theorem dX9_layOut_5 : decode cX9_layOut 5 = .ok (.invokestatic 22, 3) := by decide +kernel
theorem dX9_layOut_8 : decode cX9_layOut 8 = .ok (.aload_n 0, 1) := by decide +kernel
theorem dX9_layOut_9 : decode cX9_layOut 9 = .ok (.sipush 519, 3) := by decide +kernel
theorem dX9_layOut_12 : decode cX9_layOut 12 = .ok (.putfield 64, 3) := by decide +kernel
theorem dX9_layOut_15 : decode cX9_layOut 15 = .ok (.aload_n 0, 1) := by decide +kernel
theorem dX9_layOut_16 : decode cX9_layOut 16 = .ok (.iconst 0, 1) := by decide +kernel
theorem dX9_layOut_17 : decode cX9_layOut 17 = .ok (.putfield 67, 3) := by decide +kernel
theorem dX9_layOut_20 : decode cX9_layOut 20 = .ok (.iconst 0, 1) := by decide +kernel
theorem dX9_layOut_21 : decode cX9_layOut 21 = .ok (.istore_n 2, 1) := by decide +kernel
theorem dX9_layOut_22 : decode cX9_layOut 22 = .ok (.iload_n 2, 1) := by decide +kernel
theorem dX9_layOut_23 : decode cX9_layOut 23 = .ok (.aload_n 0, 1) := by decide +kernel
theorem dX9_layOut_24 : decode cX9_layOut 24 = .ok (.getfield 18, 3) := by decide +kernel
theorem dX9_layOut_27 : decode cX9_layOut 27 = .ok (.getfield 28, 3) := by decide +kernel
theorem dX9_layOut_30 : decode cX9_layOut 30 = .ok (.if_icmp .ge 73, 3) := by decide +kernel
theorem dX9_layOut_33 : decode cX9_layOut 33 = .ok (.aload_n 0, 1) := by decide +kernel
theorem dX9_layOut_34 : decode cX9_layOut 34 = .ok (.getfield 18, 3) := by decide +kernel
theorem dX9_layOut_37 : decode cX9_layOut 37 = .ok (.iload_n 2, 1) := by decide +kernel
theorem dX9_layOut_38 : decode cX9_layOut 38 = .ok (.iload_n 1, 1) := by decide +kernel
theorem dX9_layOut_39 : decode cX9_layOut 39 = .ok (.invokevirtual 70, 3) := by decide +kernel
theorem dX9_layOut_42 : decode cX9_layOut 42 = .ok (.ifCond .eq 55, 3) := by decide +kernel
theorem dX9_layOut_45 : decode cX9_layOut 45 = .ok (.aload_n 0, 1) := by decide +kernel
theorem dX9_layOut_46 : decode cX9_layOut 46 = .ok (.getfield 18, 3) := by decide +kernel
theorem dX9_layOut_49 : decode cX9_layOut 49 = .ok (.getfield 34, 3) := by decide +kernel
theorem dX9_layOut_52 : decode cX9_layOut 52 = .ok (.iload_n 2, 1) := by decide +kernel
theorem dX9_layOut_53 : decode cX9_layOut 53 = .ok (.iaload, 1) := by decide +kernel
theorem dX9_layOut_54 : decode cX9_layOut 54 = .ok (.istore_n 3, 1) := by decide +kernel
theorem dX9_layOut_55 : decode cX9_layOut 55 = .ok (.aload_n 0, 1) := by decide +kernel
theorem dX9_layOut_56 : decode cX9_layOut 56 = .ok (.getfield 15, 3) := by decide +kernel
theorem dX9_layOut_59 : decode cX9_layOut 59 = .ok (.iload_n 3, 1) := by decide +kernel
theorem dX9_layOut_60 : decode cX9_layOut 60 = .ok (.dup2, 1) := by decide +kernel
theorem dX9_layOut_61 : decode cX9_layOut 61 = .ok (.iaload, 1) := by decide +kernel
theorem dX9_layOut_62 : decode cX9_layOut 62 = .ok (.aload_n 0, 1) := by decide +kernel
theorem dX9_layOut_63 : decode cX9_layOut 63 = .ok (.getfield 18, 3) := by decide +kernel
theorem dX9_layOut_66 : decode cX9_layOut 66 = .ok (.getfield 74, 3) := by decide +kernel
theorem dX9_layOut_69 : decode cX9_layOut 69 = .ok (.iload_n 2, 1) := by decide +kernel
theorem dX9_layOut_70 : decode cX9_layOut 70 = .ok (.iaload, 1) := by decide +kernel
theorem dX9_layOut_71 : decode cX9_layOut 71 = .ok (.iadd, 1) := by decide +kernel
theorem dX9_layOut_72 : decode cX9_layOut 72 = .ok (.iastore, 1) := by decide +kernel
theorem dX9_layOut_73 : decode cX9_layOut 73 = .ok (.aload_n 0, 1) := by decide +kernel
theorem dX9_layOut_74 : decode cX9_layOut 74 = .ok (.aload_n 0, 1) := by decide +kernel
theorem dX9_layOut_75 : decode cX9_layOut 75 = .ok (.getfield 64, 3) := by decide +kernel
theorem dX9_layOut_78 : decode cX9_layOut 78 = .ok (.iload_n 3, 1) := by decide +kernel
theorem dX9_layOut_79 : decode cX9_layOut 79 = .ok (.invokestatic 77, 3) := by decide +kernel
theorem dX9_layOut_82 : decode cX9_layOut 82 = .ok (.putfield 64, 3) := by decide +kernel
theorem dX9_layOut_85 : decode cX9_layOut 85 = .ok (.aload_n 0, 1) := by decide +kernel
theorem dX9_layOut_86 : decode cX9_layOut 86 = .ok (.aload_n 0, 1) := by decide +kernel
theorem dX9_layOut_87 : decode cX9_layOut 87 = .ok (.getfield 67, 3) := by decide +kernel
theorem dX9_layOut_90 : decode cX9_layOut 90 = .ok (.iload_n 3, 1) := by decide +kernel
theorem dX9_layOut_91 : decode cX9_layOut 91 = .ok (.invokestatic 51, 3) := by decide +kernel
theorem dX9_layOut_94 : decode cX9_layOut 94 = .ok (.putfield 67, 3) := by decide +kernel
theorem dX9_layOut_97 : decode cX9_layOut 97 = .ok (.iinc 2 1, 3) := by decide +kernel
theorem dX9_layOut_100 : decode cX9_layOut 100 = .ok (.goto (-78), 3) := by decide +kernel
theorem dX9_layOut_103 : decode cX9_layOut 103 = .ok (.return_, 1) := by decide +kernel
noncomputable def B_X9_layOut_0 : pb_C := (i_aload 0 (i_getR 54 56 (i_const (.int 0) (i_callS 2 0 M_J7_fill_53178_56 (i_aload 0 (i_const (.int 519) (i_putI 54 3 (i_aload 0 (i_const (.int 0) (i_putI 54 4 (i_const (.int 0) (i_istore 2 (i_jmp 22 [true, true, true, false])))))))))))))
noncomputable def B_X9_layOut_22 : pb_C := (i_iload 2 (i_aload 0 (i_getR 54 5 (i_getI 5 3 (i_ic_ge i_vret (i_aload 0 (i_getR 54 5 (i_iload 2 (i_iload 1 (i_callV 5 2 1 M_X1_wentFrom (i_if_eq (i_iinc 2 1 (i_jmp 22 [true, true, true, false])) (i_aload 0 (i_getR 54 5 (i_getR 5 9 (i_iload 2 (i_ald 9 200 (i_istore 3 (i_aload 0 (i_getR 54 56 (i_iload 3 (i_dup2 (i_ald 56 520 (i_aload 0 (i_getR 54 5 (i_getR 5 16 (i_iload 2 (i_ald 16 200 (i_ibin (· + ·) (i_ast 56 520 (fun x => x) (i_aload 0 (i_aload 0 (i_getI 54 3 (i_iload 3 (i_mI2 pb_min (i_putI 54 3 (i_aload 0 (i_aload 0 (i_getI 54 4 (i_iload 3 (i_mI2 pb_max (i_putI 54 4 (i_iinc 2 1 (i_jmp 22 [true, true, true, false])))))))))))))))))))))))))))))))))))))))))))
noncomputable def T_X9_layOut : Nat → pb_C := pb_tt [(0, B_X9_layOut_0), (22, B_X9_layOut_22)]
noncomputable def M_X9_layOut : pb_F := pb_M T_X9_layOut 4
set_option maxRecDepth 100000 in
set_option maxHeartbeats 4000000 in
theorem S_X9_layOut (l : Launch) : pb_Sound l yX9_layOut cX9_layOut 4 none 3 M_X9_layOut := by
  refine pb_sound_of (by decide) m_6_81 ?_
  intro Γ hl0 hRm0 hm X E hr J
  have hnL : ∀ j, j < 4 → j < Γ.2.2.2.2.2.2.2.2.2.2.2.1 := fun j h => by rw [hm]; exact h
  have hR : ∀ (d' mL : Nat), d' + 1 ≤ 3 ∧ 8 + (mL + 11) + d' * 64 ≤ 3 * 64 → (pb_rm d').frames + 1 ≤ Γ.2.2.2.1.frames ∧ 8 + (mL + 11) + (pb_rm d').locals ≤ Γ.2.2.2.1.locals := by rw [hRm0]; exact fun _ _ h => h
  have hRm : 1 ≤ 3 ∧ 64 ≤ 3 * 64 → 1 ≤ Γ.2.2.2.1.frames ∧ 64 ≤ Γ.2.2.2.1.locals := by rw [hRm0]; exact fun h => h
  exact pb_tt_snd _ (List.forall_mem_cons.mpr ⟨(s_aload_n (pc := 0) X dX9_layOut_0 rfl (s_getR (pc := 1) X dX9_layOut_1 g_X9_15 (s_iconst (pc := 4) X dX9_layOut_4 rfl (s_callS (pc := 5) X dX9_layOut_5 (S_J7_fill_53178_56 _) q_X9_22 (hR _ _ (by decide)) (s_aload_n (pc := 8) X dX9_layOut_8 rfl (s_sipush (pc := 9) X dX9_layOut_9 rfl (s_putI (pc := 12) X dX9_layOut_12 p_X9_64 (s_aload_n (pc := 15) X dX9_layOut_15 rfl (s_iconst (pc := 16) X dX9_layOut_16 rfl (s_putI (pc := 17) X dX9_layOut_17 p_X9_67 (s_iconst (pc := 20) X dX9_layOut_20 rfl (s_istore_n (pc := 21) X dX9_layOut_21 rfl (hnL _ (by decide)) (s_jmp (pc := 22) J [true, true, true, false]))))))))))))), List.forall_mem_cons.mpr ⟨(s_iload_n (pc := 22) X dX9_layOut_22 rfl (s_aload_n (pc := 23) X dX9_layOut_23 rfl (s_getR (pc := 24) X dX9_layOut_24 g_X9_18 (s_getI (pc := 27) X dX9_layOut_27 g_X9_28 (s_ic_ge (pc := 30) X dX9_layOut_30 (by decide) (s_vret (pc := 103) X E hr dX9_layOut_103) (s_aload_n (pc := 33) X dX9_layOut_33 rfl (s_getR (pc := 34) X dX9_layOut_34 g_X9_18 (s_iload_n (pc := 37) X dX9_layOut_37 rfl (s_iload_n (pc := 38) X dX9_layOut_38 rfl (s_callV (pc := 39) X dX9_layOut_39 (S_X1_wentFrom _) q_X9_70 h_5 rfl (hR _ _ (by decide)) (s_if_eq (pc := 42) X dX9_layOut_42 (by decide) (s_iinc (pc := 97) X dX9_layOut_97 rfl (s_goto (pc := 100) X dX9_layOut_100 (by decide) (s_jmp (pc := 22) J [true, true, true, false]))) (s_aload_n (pc := 45) X dX9_layOut_45 rfl (s_getR (pc := 46) X dX9_layOut_46 g_X9_18 (s_getR (pc := 49) X dX9_layOut_49 g_X9_34 (s_iload_n (pc := 52) X dX9_layOut_52 rfl (s_iald (pc := 53) X dX9_layOut_53 h_9 (s_istore_n (pc := 54) X dX9_layOut_54 rfl (hnL _ (by decide)) (s_aload_n (pc := 55) X dX9_layOut_55 rfl (s_getR (pc := 56) X dX9_layOut_56 g_X9_15 (s_iload_n (pc := 59) X dX9_layOut_59 rfl (s_dup2 (pc := 60) X dX9_layOut_60 (s_iald (pc := 61) X dX9_layOut_61 h_56 (s_aload_n (pc := 62) X dX9_layOut_62 rfl (s_getR (pc := 63) X dX9_layOut_63 g_X9_18 (s_getR (pc := 66) X dX9_layOut_66 g_X9_74 (s_iload_n (pc := 69) X dX9_layOut_69 rfl (s_iald (pc := 70) X dX9_layOut_70 h_16 (s_iadd (pc := 71) X dX9_layOut_71 (s_iast (pc := 72) X dX9_layOut_72 h_56 (s_aload_n (pc := 73) X dX9_layOut_73 rfl (s_aload_n (pc := 74) X dX9_layOut_74 rfl (s_getI (pc := 75) X dX9_layOut_75 g_X9_64 (s_iload_n (pc := 78) X dX9_layOut_78 rfl (s_mmin (pc := 79) X dX9_layOut_79 m_6_83 mm_mmin (hRm (by decide)) (s_putI (pc := 82) X dX9_layOut_82 p_X9_64 (s_aload_n (pc := 85) X dX9_layOut_85 rfl (s_aload_n (pc := 86) X dX9_layOut_86 rfl (s_getI (pc := 87) X dX9_layOut_87 g_X9_67 (s_iload_n (pc := 90) X dX9_layOut_90 rfl (s_mmax (pc := 91) X dX9_layOut_91 m_6_26 mm_mmax (hRm (by decide)) (s_putI (pc := 94) X dX9_layOut_94 p_X9_67 (s_iinc (pc := 97) X dX9_layOut_97 rfl (s_goto (pc := 100) X dX9_layOut_100 (by decide) (s_jmp (pc := 22) J [true, true, true, false])))))))))))))))))))))))))))))))))))))))))))), fun _ h => absurd h List.not_mem_nil⟩⟩)
theorem dX9_countGaps_0 : decode cX9_countGaps 0 = .ok (.aload_n 0, 1) := by decide +kernel
theorem dX9_countGaps_1 : decode cX9_countGaps 1 = .ok (.iload_n 1, 1) := by decide +kernel
theorem dX9_countGaps_2 : decode cX9_countGaps 2 = .ok (.invokevirtual 80, 3) := by decide +kernel
theorem dX9_countGaps_5 : decode cX9_countGaps 5 = .ok (.iconst 0, 1) := by decide +kernel
theorem dX9_countGaps_6 : decode cX9_countGaps 6 = .ok (.istore_n 2, 1) := by decide +kernel
theorem dX9_countGaps_7 : decode cX9_countGaps 7 = .ok (.aload_n 0, 1) := by decide +kernel
theorem dX9_countGaps_8 : decode cX9_countGaps 8 = .ok (.getfield 64, 3) := by decide +kernel
theorem dX9_countGaps_11 : decode cX9_countGaps 11 = .ok (.istore_n 3, 1) := by decide +kernel
theorem dX9_countGaps_12 : decode cX9_countGaps 12 = .ok (.iload_n 3, 1) := by decide +kernel
theorem dX9_countGaps_13 : decode cX9_countGaps 13 = .ok (.aload_n 0, 1) := by decide +kernel
theorem dX9_countGaps_14 : decode cX9_countGaps 14 = .ok (.getfield 67, 3) := by decide +kernel
theorem dX9_countGaps_17 : decode cX9_countGaps 17 = .ok (.if_icmp .gt 21, 3) := by decide +kernel
theorem dX9_countGaps_20 : decode cX9_countGaps 20 = .ok (.aload_n 0, 1) := by decide +kernel
theorem dX9_countGaps_21 : decode cX9_countGaps 21 = .ok (.getfield 15, 3) := by decide +kernel
theorem dX9_countGaps_24 : decode cX9_countGaps 24 = .ok (.iload_n 3, 1) := by decide +kernel
theorem dX9_countGaps_25 : decode cX9_countGaps 25 = .ok (.iaload, 1) := by decide +kernel
theorem dX9_countGaps_26 : decode cX9_countGaps 26 = .ok (.ifCond .ne 6, 3) := by decide +kernel
theorem dX9_countGaps_29 : decode cX9_countGaps 29 = .ok (.iinc 2 1, 3) := by decide +kernel
theorem dX9_countGaps_32 : decode cX9_countGaps 32 = .ok (.iinc 3 1, 3) := by decide +kernel
theorem dX9_countGaps_35 : decode cX9_countGaps 35 = .ok (.goto (-23), 3) := by decide +kernel
theorem dX9_countGaps_38 : decode cX9_countGaps 38 = .ok (.iload_n 2, 1) := by decide +kernel
theorem dX9_countGaps_39 : decode cX9_countGaps 39 = .ok (.ireturn, 1) := by decide +kernel
noncomputable def B_X9_countGaps_0 : pb_C := (i_aload 0 (i_iload 1 (i_callV 54 1 0 M_X9_layOut (i_const (.int 0) (i_istore 2 (i_aload 0 (i_getI 54 3 (i_istore 3 (i_jmp 12 [true, false, true, true])))))))))
noncomputable def B_X9_countGaps_12 : pb_C := (i_iload 3 (i_aload 0 (i_getI 54 4 (i_ic_gt (i_iload 2 i_iret) (i_aload 0 (i_getR 54 56 (i_iload 3 (i_ald 56 520 (i_if_ne (i_iinc 3 1 (i_jmp 12 [true, false, true, true])) (i_iinc 2 1 (i_iinc 3 1 (i_jmp 12 [true, false, true, true]))))))))))))
noncomputable def T_X9_countGaps : Nat → pb_C := pb_tt [(0, B_X9_countGaps_0), (12, B_X9_countGaps_12)]
noncomputable def M_X9_countGaps : pb_F := pb_M T_X9_countGaps 4
set_option maxRecDepth 100000 in
set_option maxHeartbeats 4000000 in
theorem S_X9_countGaps (l : Launch) : pb_Sound l yX9_countGaps cX9_countGaps 4 (some .int) 4 M_X9_countGaps := by
  refine pb_sound_of (by decide) m_6_77 ?_
  intro Γ hl0 hRm0 hm X E hr J
  have hnL : ∀ j, j < 4 → j < Γ.2.2.2.2.2.2.2.2.2.2.2.1 := fun j h => by rw [hm]; exact h
  have hR : ∀ (d' mL : Nat), d' + 1 ≤ 4 ∧ 8 + (mL + 11) + d' * 64 ≤ 4 * 64 → (pb_rm d').frames + 1 ≤ Γ.2.2.2.1.frames ∧ 8 + (mL + 11) + (pb_rm d').locals ≤ Γ.2.2.2.1.locals := by rw [hRm0]; exact fun _ _ h => h
  have hRm : 1 ≤ 4 ∧ 64 ≤ 4 * 64 → 1 ≤ Γ.2.2.2.1.frames ∧ 64 ≤ Γ.2.2.2.1.locals := by rw [hRm0]; exact fun h => h
  exact pb_tt_snd _ (List.forall_mem_cons.mpr ⟨(s_aload_n (pc := 0) X dX9_countGaps_0 rfl (s_iload_n (pc := 1) X dX9_countGaps_1 rfl (s_callV (pc := 2) X dX9_countGaps_2 (S_X9_layOut _) q_X9_80 h_54 rfl (hR _ _ (by decide)) (s_iconst (pc := 5) X dX9_countGaps_5 rfl (s_istore_n (pc := 6) X dX9_countGaps_6 rfl (hnL _ (by decide)) (s_aload_n (pc := 7) X dX9_countGaps_7 rfl (s_getI (pc := 8) X dX9_countGaps_8 g_X9_64 (s_istore_n (pc := 11) X dX9_countGaps_11 rfl (hnL _ (by decide)) (s_jmp (pc := 12) J [true, false, true, true]))))))))), List.forall_mem_cons.mpr ⟨(s_iload_n (pc := 12) X dX9_countGaps_12 rfl (s_aload_n (pc := 13) X dX9_countGaps_13 rfl (s_getI (pc := 14) X dX9_countGaps_14 g_X9_67 (s_ic_gt (pc := 17) X dX9_countGaps_17 (by decide) (s_iload_n (pc := 38) X dX9_countGaps_38 rfl (s_iret (pc := 39) X E hr dX9_countGaps_39)) (s_aload_n (pc := 20) X dX9_countGaps_20 rfl (s_getR (pc := 21) X dX9_countGaps_21 g_X9_15 (s_iload_n (pc := 24) X dX9_countGaps_24 rfl (s_iald (pc := 25) X dX9_countGaps_25 h_56 (s_if_ne (pc := 26) X dX9_countGaps_26 (by decide) (s_iinc (pc := 32) X dX9_countGaps_32 rfl (s_goto (pc := 35) X dX9_countGaps_35 (by decide) (s_jmp (pc := 12) J [true, false, true, true]))) (s_iinc (pc := 29) X dX9_countGaps_29 rfl (s_iinc (pc := 32) X dX9_countGaps_32 rfl (s_goto (pc := 35) X dX9_countGaps_35 (by decide) (s_jmp (pc := 12) J [true, false, true, true]))))))))))))), fun _ h => absurd h List.not_mem_nil⟩⟩)
theorem dX11_gaps_0 : decode cX11_gaps 0 = .ok (.aload_n 0, 1) := by decide +kernel
theorem dX11_gaps_1 : decode cX11_gaps 1 = .ok (.aload_n 0, 1) := by decide +kernel
theorem dX11_gaps_2 : decode cX11_gaps 2 = .ok (.getfield 30, 3) := by decide +kernel
theorem dX11_gaps_5 : decode cX11_gaps 5 = .ok (.iload_n 1, 1) := by decide +kernel
theorem dX11_gaps_6 : decode cX11_gaps 6 = .ok (.invokevirtual 293, 3) := by decide +kernel
theorem dX11_gaps_9 : decode cX11_gaps 9 = .ok (.ifCond .eq 7, 3) := by decide +kernel
theorem dX11_gaps_12 : decode cX11_gaps 12 = .ok (.iconst 0, 1) := by decide +kernel
theorem dX11_gaps_13 : decode cX11_gaps 13 = .ok (.goto 4, 3) := by decide +kernel
theorem dX11_gaps_16 : decode cX11_gaps 16 = .ok (.iconst 1, 1) := by decide +kernel
theorem dX11_gaps_17 : decode cX11_gaps 17 = .ok (.putfield 9, 3) := by decide +kernel
theorem dX11_gaps_20 : decode cX11_gaps 20 = .ok (.aload_n 0, 1) := by decide +kernel
theorem dX11_gaps_21 : decode cX11_gaps 21 = .ok (.getfield 9, 3) := by decide +kernel
theorem dX11_gaps_24 : decode cX11_gaps 24 = .ok (.ifCond .ne 14, 3) := by decide +kernel
theorem dX11_gaps_27 : decode cX11_gaps 27 = .ok (.aload_n 0, 1) := by decide +kernel
theorem dX11_gaps_28 : decode cX11_gaps 28 = .ok (.getfield 83, 3) := by decide +kernel
theorem dX11_gaps_31 : decode cX11_gaps 31 = .ok (.iload_n 1, 1) := by decide +kernel
theorem dX11_gaps_32 : decode cX11_gaps 32 = .ok (.invokevirtual 347, 3) := by decide +kernel
theorem dX11_gaps_35 : decode cX11_gaps 35 = .ok (.goto 4, 3) := by decide +kernel
theorem dX11_gaps_38 : decode cX11_gaps 38 = .ok (.iconst (-1), 1) := by decide +kernel
theorem dX11_gaps_39 : decode cX11_gaps 39 = .ok (.ireturn, 1) := by decide +kernel
noncomputable def B_X11_gaps_0 : pb_C := (i_aload 0 (i_aload 0 (i_getR 0 5 (i_iload 1 (i_callV 5 1 1 M_X1_hasFamily (i_if_eq (i_const (.int 1) (i_putI 0 0 (i_aload 0 (i_getI 0 0 (i_if_ne (i_const (.int (-1)) i_iret) (i_aload 0 (i_getR 0 54 (i_iload 1 (i_callV 54 1 1 M_X9_countGaps i_iret))))))))) (i_const (.int 0) (i_putI 0 0 (i_aload 0 (i_getI 0 0 (i_if_ne (i_const (.int (-1)) i_iret) (i_aload 0 (i_getR 0 54 (i_iload 1 (i_callV 54 1 1 M_X9_countGaps i_iret)))))))))))))))
noncomputable def T_X11_gaps : Nat → pb_C := pb_tt [(0, B_X11_gaps_0)]
noncomputable def M_X11_gaps : pb_F := pb_M T_X11_gaps 2
set_option maxRecDepth 100000 in
set_option maxHeartbeats 4000000 in
theorem S_X11_gaps (l : Launch) : pb_Sound l yX11_gaps cX11_gaps 2 (some .int) 5 M_X11_gaps := by
  refine pb_sound_of (by decide) m_6_73 ?_
  intro Γ hl0 hRm0 hm X E hr J
  have hnL : ∀ j, j < 2 → j < Γ.2.2.2.2.2.2.2.2.2.2.2.1 := fun j h => by rw [hm]; exact h
  have hR : ∀ (d' mL : Nat), d' + 1 ≤ 5 ∧ 8 + (mL + 11) + d' * 64 ≤ 5 * 64 → (pb_rm d').frames + 1 ≤ Γ.2.2.2.1.frames ∧ 8 + (mL + 11) + (pb_rm d').locals ≤ Γ.2.2.2.1.locals := by rw [hRm0]; exact fun _ _ h => h
  have hRm : 1 ≤ 5 ∧ 64 ≤ 5 * 64 → 1 ≤ Γ.2.2.2.1.frames ∧ 64 ≤ Γ.2.2.2.1.locals := by rw [hRm0]; exact fun h => h
  exact pb_tt_snd _ (List.forall_mem_cons.mpr ⟨(s_aload_n (pc := 0) X dX11_gaps_0 rfl (s_aload_n (pc := 1) X dX11_gaps_1 rfl (s_getR (pc := 2) X dX11_gaps_2 g_X11_30 (s_iload_n (pc := 5) X dX11_gaps_5 rfl (s_callV (pc := 6) X dX11_gaps_6 (S_X1_hasFamily _) q_X11_293 h_5 rfl (hR _ _ (by decide)) (s_if_eq (pc := 9) X dX11_gaps_9 (by decide) (s_iconst (pc := 16) X dX11_gaps_16 rfl (s_putI (pc := 17) X dX11_gaps_17 p_X11_9 (s_aload_n (pc := 20) X dX11_gaps_20 rfl (s_getI (pc := 21) X dX11_gaps_21 g_X11_9 (s_if_ne (pc := 24) X dX11_gaps_24 (by decide) (s_iconst (pc := 38) X dX11_gaps_38 rfl (s_iret (pc := 39) X E hr dX11_gaps_39)) (s_aload_n (pc := 27) X dX11_gaps_27 rfl (s_getR (pc := 28) X dX11_gaps_28 g_X11_83 (s_iload_n (pc := 31) X dX11_gaps_31 rfl (s_callV (pc := 32) X dX11_gaps_32 (S_X9_countGaps _) q_X11_347 h_54 rfl (hR _ _ (by decide)) (s_goto (pc := 35) X dX11_gaps_35 (by decide) (s_iret (pc := 39) X E hr dX11_gaps_39))))))))))) (s_iconst (pc := 12) X dX11_gaps_12 rfl (s_goto (pc := 13) X dX11_gaps_13 (by decide) (s_putI (pc := 17) X dX11_gaps_17 p_X11_9 (s_aload_n (pc := 20) X dX11_gaps_20 rfl (s_getI (pc := 21) X dX11_gaps_21 g_X11_9 (s_if_ne (pc := 24) X dX11_gaps_24 (by decide) (s_iconst (pc := 38) X dX11_gaps_38 rfl (s_iret (pc := 39) X E hr dX11_gaps_39)) (s_aload_n (pc := 27) X dX11_gaps_27 rfl (s_getR (pc := 28) X dX11_gaps_28 g_X11_83 (s_iload_n (pc := 31) X dX11_gaps_31 rfl (s_callV (pc := 32) X dX11_gaps_32 (S_X9_countGaps _) q_X11_347 h_54 rfl (hR _ _ (by decide)) (s_goto (pc := 35) X dX11_gaps_35 (by decide) (s_iret (pc := 39) X E hr dX11_gaps_39)))))))))))))))))), fun _ h => absurd h List.not_mem_nil⟩)
theorem dX9_findBounds_0 : decode cX9_findBounds 0 = .ok (.aload_n 0, 1) := by decide +kernel
theorem dX9_findBounds_1 : decode cX9_findBounds 1 = .ok (.iload_n 1, 1) := by decide +kernel
theorem dX9_findBounds_2 : decode cX9_findBounds 2 = .ok (.invokevirtual 80, 3) := by decide +kernel
theorem dX9_findBounds_5 : decode cX9_findBounds 5 = .ok (.aload_n 0, 1) := by decide +kernel
theorem dX9_findBounds_6 : decode cX9_findBounds 6 = .ok (.iconst (-1), 1) := by decide +kernel
theorem dX9_findBounds_7 : decode cX9_findBounds 7 = .ok (.putfield 84, 3) := by decide +kernel
theorem dX9_findBounds_10 : decode cX9_findBounds 10 = .ok (.aload_n 0, 1) := by decide +kernel
theorem dX9_findBounds_11 : decode cX9_findBounds 11 = .ok (.iconst (-1), 1) := by decide +kernel
theorem dX9_findBounds_12 : decode cX9_findBounds 12 = .ok (.putfield 87, 3) := by decide +kernel
theorem dX9_findBounds_15 : decode cX9_findBounds 15 = .ok (.iload_n 2, 1) := by decide +kernel
theorem dX9_findBounds_16 : decode cX9_findBounds 16 = .ok (.aload_n 0, 1) := by decide +kernel
theorem dX9_findBounds_17 : decode cX9_findBounds 17 = .ok (.getfield 64, 3) := by decide +kernel
theorem dX9_findBounds_20 : decode cX9_findBounds 20 = .ok (.if_icmp .lt 20, 3) := by decide +kernel
theorem dX9_findBounds_23 : decode cX9_findBounds 23 = .ok (.iload_n 2, 1) := by decide +kernel
theorem dX9_findBounds_24 : decode cX9_findBounds 24 = .ok (.aload_n 0, 1) := by decide +kernel
theorem dX9_findBounds_25 : decode cX9_findBounds 25 = .ok (.getfield 67, 3) := by decide +kernel
theorem dX9_findBounds_28 : decode cX9_findBounds 28 = .ok (.if_icmp .gt 12, 3) := by decide +kernel
theorem dX9_findBounds_31 : decode cX9_findBounds 31 = .ok (.aload_n 0, 1) := by decide +kernel
theorem dX9_findBounds_32 : decode cX9_findBounds 32 = .ok (.getfield 15, 3) := by decide +kernel
theorem dX9_findBounds_35 : decode cX9_findBounds 35 = .ok (.iload_n 2, 1) := by decide +kernel
theorem dX9_findBounds_36 : decode cX9_findBounds 36 = .ok (.iaload, 1) := by decide +kernel
theorem dX9_findBounds_37 : decode cX9_findBounds 37 = .ok (.ifCond .eq 5, 3) := by decide +kernel
theorem dX9_findBounds_40 : decode cX9_findBounds 40 = .ok (.iconst 0, 1) := by decide +kernel
theorem dX9_findBounds_41 : decode cX9_findBounds 41 = .ok (.ireturn, 1) := by decide +kernel
theorem dX9_findBounds_42 : decode cX9_findBounds 42 = .ok (.iconst 0, 1) := by decide +kernel
theorem dX9_findBounds_43 : decode cX9_findBounds 43 = .ok (.iload_n 2, 1) := by decide +kernel
theorem dX9_findBounds_44 : decode cX9_findBounds 44 = .ok (.iload_n 3, 1) := by decide +kernel
theorem dX9_findBounds_45 : decode cX9_findBounds 45 = .ok (.isub, 1) := by decide +kernel
theorem dX9_findBounds_46 : decode cX9_findBounds 46 = .ok (.invokestatic 51, 3) := by decide +kernel
theorem dX9_findBounds_49 : decode cX9_findBounds 49 = .ok (.istore 4, 2) := by decide +kernel
theorem dX9_findBounds_51 : decode cX9_findBounds 51 = .ok (.iload 4, 2) := by decide +kernel
theorem dX9_findBounds_53 : decode cX9_findBounds 53 = .ok (.sipush 519, 3) := by decide +kernel
theorem dX9_findBounds_56 : decode cX9_findBounds 56 = .ok (.iload_n 2, 1) := by decide +kernel
theorem dX9_findBounds_57 : decode cX9_findBounds 57 = .ok (.iload_n 3, 1) := by decide +kernel
theorem dX9_findBounds_58 : decode cX9_findBounds 58 = .ok (.iadd, 1) := by decide +kernel
theorem dX9_findBounds_59 : decode cX9_findBounds 59 = .ok (.invokestatic 77, 3) := by decide +kernel
theorem dX9_findBounds_62 : decode cX9_findBounds 62 = .ok (.if_icmp .gt 73, 3) := by decide +kernel
theorem dX9_findBounds_65 : decode cX9_findBounds 65 = .ok (.aload_n 0, 1) := by decide +kernel
theorem dX9_findBounds_66 : decode cX9_findBounds 66 = .ok (.getfield 15, 3) := by decide +kernel
theorem dX9_findBounds_69 : decode cX9_findBounds 69 = .ok (.iload 4, 2) := by decide +kernel
theorem dX9_findBounds_71 : decode cX9_findBounds 71 = .ok (.iaload, 1) := by decide +kernel
theorem dX9_findBounds_72 : decode cX9_findBounds 72 = .ok (.ifCond .le 57, 3) := by decide +kernel
theorem dX9_findBounds_75 : decode cX9_findBounds 75 = .ok (.aload_n 0, 1) := by decide +kernel
theorem dX9_findBounds_76 : decode cX9_findBounds 76 = .ok (.aload_n 0, 1) := by decide +kernel
theorem dX9_findBounds_77 : decode cX9_findBounds 77 = .ok (.getfield 84, 3) := by decide +kernel
theorem dX9_findBounds_80 : decode cX9_findBounds 80 = .ok (.iconst (-1), 1) := by decide +kernel
theorem dX9_findBounds_81 : decode cX9_findBounds 81 = .ok (.if_icmp .ne 13, 3) := by decide +kernel
theorem dX9_findBounds_84 : decode cX9_findBounds 84 = .ok (.aload_n 0, 1) := by decide +kernel
theorem dX9_findBounds_85 : decode cX9_findBounds 85 = .ok (.getfield 15, 3) := by decide +kernel
theorem dX9_findBounds_88 : decode cX9_findBounds 88 = .ok (.iload 4, 2) := by decide +kernel
theorem dX9_findBounds_90 : decode cX9_findBounds 90 = .ok (.iaload, 1) := by decide +kernel
theorem dX9_findBounds_91 : decode cX9_findBounds 91 = .ok (.goto 17, 3) := by decide +kernel
theorem dX9_findBounds_94 : decode cX9_findBounds 94 = .ok (.aload_n 0, 1) := by decide +kernel
theorem dX9_findBounds_95 : decode cX9_findBounds 95 = .ok (.getfield 84, 3) := by decide +kernel
theorem dX9_findBounds_98 : decode cX9_findBounds 98 = .ok (.aload_n 0, 1) := by decide +kernel
theorem dX9_findBounds_99 : decode cX9_findBounds 99 = .ok (.getfield 15, 3) := by decide +kernel
theorem dX9_findBounds_102 : decode cX9_findBounds 102 = .ok (.iload 4, 2) := by decide +kernel
theorem dX9_findBounds_104 : decode cX9_findBounds 104 = .ok (.iaload, 1) := by decide +kernel
theorem dX9_findBounds_105 : decode cX9_findBounds 105 = .ok (.invokestatic 77, 3) := by decide +kernel
theorem dX9_findBounds_108 : decode cX9_findBounds 108 = .ok (.putfield 84, 3) := by decide +kernel
theorem dX9_findBounds_111 : decode cX9_findBounds 111 = .ok (.aload_n 0, 1) := by decide +kernel
theorem dX9_findBounds_112 : decode cX9_findBounds 112 = .ok (.aload_n 0, 1) := by decide +kernel
theorem dX9_findBounds_113 : decode cX9_findBounds 113 = .ok (.getfield 87, 3) := by decide +kernel
theorem dX9_findBounds_116 : decode cX9_findBounds 116 = .ok (.aload_n 0, 1) := by decide +kernel
theorem dX9_findBounds_117 : decode cX9_findBounds 117 = .ok (.getfield 15, 3) := by decide +kernel
theorem dX9_findBounds_120 : decode cX9_findBounds 120 = .ok (.iload 4, 2) := by decide +kernel
theorem dX9_findBounds_122 : decode cX9_findBounds 122 = .ok (.iaload, 1) := by decide +kernel
theorem dX9_findBounds_123 : decode cX9_findBounds 123 = .ok (.invokestatic 51, 3) := by decide +kernel
theorem dX9_findBounds_126 : decode cX9_findBounds 126 = .ok (.putfield 87, 3) := by decide +kernel
theorem dX9_findBounds_129 : decode cX9_findBounds 129 = .ok (.iinc 4 1, 3) := by decide +kernel
theorem dX9_findBounds_132 : decode cX9_findBounds 132 = .ok (.goto (-81), 3) := by decide +kernel
theorem dX9_findBounds_135 : decode cX9_findBounds 135 = .ok (.aload_n 0, 1) := by decide +kernel
theorem dX9_findBounds_136 : decode cX9_findBounds 136 = .ok (.getfield 84, 3) := by decide +kernel
theorem dX9_findBounds_139 : decode cX9_findBounds 139 = .ok (.iconst (-1), 1) := by decide +kernel
theorem dX9_findBounds_140 : decode cX9_findBounds 140 = .ok (.if_icmp .eq 7, 3) := by decide +kernel
theorem dX9_findBounds_143 : decode cX9_findBounds 143 = .ok (.iconst 1, 1) := by decide +kernel
theorem dX9_findBounds_144 : decode cX9_findBounds 144 = .ok (.goto 4, 3) := by decide +kernel
theorem dX9_findBounds_147 : decode cX9_findBounds 147 = .ok (.iconst 0, 1) := by decide +kernel
theorem dX9_findBounds_148 : decode cX9_findBounds 148 = .ok (.ireturn, 1) := by decide +kernel
noncomputable def B_X9_findBounds_0 : pb_C := (i_aload 0 (i_iload 1 (i_callV 54 1 0 M_X9_layOut (i_aload 0 (i_const (.int (-1)) (i_putI 54 5 (i_aload 0 (i_const (.int (-1)) (i_putI 54 6 (i_iload 2 (i_aload 0 (i_getI 54 3 (i_ic_lt (i_const (.int 0) i_zret) (i_iload 2 (i_aload 0 (i_getI 54 4 (i_ic_gt (i_const (.int 0) i_zret) (i_aload 0 (i_getR 54 56 (i_iload 2 (i_ald 56 520 (i_if_eq (i_const (.int 0) (i_iload 2 (i_iload 3 (i_ibin (· - ·) (i_mI2 pb_max (i_istore 4 (i_jmp 51 [true, false, true, true, true]))))))) (i_const (.int 0) i_zret)))))))))))))))))))))))
noncomputable def B_X9_findBounds_51 : pb_C := (i_iload 4 (i_const (.int 519) (i_iload 2 (i_iload 3 (i_ibin (· + ·) (i_mI2 pb_min (i_ic_gt (i_aload 0 (i_getI 54 5 (i_const (.int (-1)) (i_ic_eq (i_const (.int 0) i_zret) (i_const (.int 1) i_zret))))) (i_aload 0 (i_getR 54 56 (i_iload 4 (i_ald 56 520 (i_if_le (i_iinc 4 1 (i_jmp 51 [true, false, true, true, true])) (i_aload 0 (i_aload 0 (i_getI 54 5 (i_const (.int (-1)) (i_ic_ne (i_aload 0 (i_getI 54 5 (i_aload 0 (i_getR 54 56 (i_iload 4 (i_ald 56 520 (i_mI2 pb_min (i_jmp 108 [true, false, true, true, true])))))))) (i_aload 0 (i_getR 54 56 (i_iload 4 (i_ald 56 520 (i_jmp 108 [true, false, true, true, true]))))))))))))))))))))))
noncomputable def B_X9_findBounds_108 : pb_C := (i_putI 54 5 (i_aload 0 (i_aload 0 (i_getI 54 6 (i_aload 0 (i_getR 54 56 (i_iload 4 (i_ald 56 520 (i_mI2 pb_max (i_putI 54 6 (i_iinc 4 1 (i_jmp 51 [true, false, true, true, true]))))))))))))
noncomputable def T_X9_findBounds : Nat → pb_C := pb_tt [(0, B_X9_findBounds_0), (51, B_X9_findBounds_51), (108, B_X9_findBounds_108)]
noncomputable def M_X9_findBounds : pb_F := pb_M T_X9_findBounds 5
set_option maxRecDepth 100000 in
set_option maxHeartbeats 4000000 in
theorem S_X9_findBounds (l : Launch) : pb_Sound l yX9_findBounds cX9_findBounds 5 (some .boolean) 4 M_X9_findBounds := by
  refine pb_sound_of (by decide) m_6_91 ?_
  intro Γ hl0 hRm0 hm X E hr J
  have hnL : ∀ j, j < 5 → j < Γ.2.2.2.2.2.2.2.2.2.2.2.1 := fun j h => by rw [hm]; exact h
  have hR : ∀ (d' mL : Nat), d' + 1 ≤ 4 ∧ 8 + (mL + 11) + d' * 64 ≤ 4 * 64 → (pb_rm d').frames + 1 ≤ Γ.2.2.2.1.frames ∧ 8 + (mL + 11) + (pb_rm d').locals ≤ Γ.2.2.2.1.locals := by rw [hRm0]; exact fun _ _ h => h
  have hRm : 1 ≤ 4 ∧ 64 ≤ 4 * 64 → 1 ≤ Γ.2.2.2.1.frames ∧ 64 ≤ Γ.2.2.2.1.locals := by rw [hRm0]; exact fun h => h
  exact pb_tt_snd _ (List.forall_mem_cons.mpr ⟨(s_aload_n (pc := 0) X dX9_findBounds_0 rfl (s_iload_n (pc := 1) X dX9_findBounds_1 rfl (s_callV (pc := 2) X dX9_findBounds_2 (S_X9_layOut _) q_X9_80 h_54 rfl (hR _ _ (by decide)) (s_aload_n (pc := 5) X dX9_findBounds_5 rfl (s_iconst (pc := 6) X dX9_findBounds_6 rfl (s_putI (pc := 7) X dX9_findBounds_7 p_X9_84 (s_aload_n (pc := 10) X dX9_findBounds_10 rfl (s_iconst (pc := 11) X dX9_findBounds_11 rfl (s_putI (pc := 12) X dX9_findBounds_12 p_X9_87 (s_iload_n (pc := 15) X dX9_findBounds_15 rfl (s_aload_n (pc := 16) X dX9_findBounds_16 rfl (s_getI (pc := 17) X dX9_findBounds_17 g_X9_64 (s_ic_lt (pc := 20) X dX9_findBounds_20 (by decide) (s_iconst (pc := 40) X dX9_findBounds_40 rfl (s_zret (pc := 41) X E hr dX9_findBounds_41)) (s_iload_n (pc := 23) X dX9_findBounds_23 rfl (s_aload_n (pc := 24) X dX9_findBounds_24 rfl (s_getI (pc := 25) X dX9_findBounds_25 g_X9_67 (s_ic_gt (pc := 28) X dX9_findBounds_28 (by decide) (s_iconst (pc := 40) X dX9_findBounds_40 rfl (s_zret (pc := 41) X E hr dX9_findBounds_41)) (s_aload_n (pc := 31) X dX9_findBounds_31 rfl (s_getR (pc := 32) X dX9_findBounds_32 g_X9_15 (s_iload_n (pc := 35) X dX9_findBounds_35 rfl (s_iald (pc := 36) X dX9_findBounds_36 h_56 (s_if_eq (pc := 37) X dX9_findBounds_37 (by decide) (s_iconst (pc := 42) X dX9_findBounds_42 rfl (s_iload_n (pc := 43) X dX9_findBounds_43 rfl (s_iload_n (pc := 44) X dX9_findBounds_44 rfl (s_isub (pc := 45) X dX9_findBounds_45 (s_mmax (pc := 46) X dX9_findBounds_46 m_6_26 mm_mmax (hRm (by decide)) (s_istore (pc := 49) X dX9_findBounds_49 (hnL _ (by decide)) (s_jmp (pc := 51) J [true, false, true, true, true]))))))) (s_iconst (pc := 40) X dX9_findBounds_40 rfl (s_zret (pc := 41) X E hr dX9_findBounds_41)))))))))))))))))))))))), List.forall_mem_cons.mpr ⟨(s_iload (pc := 51) X dX9_findBounds_51 (s_sipush (pc := 53) X dX9_findBounds_53 rfl (s_iload_n (pc := 56) X dX9_findBounds_56 rfl (s_iload_n (pc := 57) X dX9_findBounds_57 rfl (s_iadd (pc := 58) X dX9_findBounds_58 (s_mmin (pc := 59) X dX9_findBounds_59 m_6_83 mm_mmin (hRm (by decide)) (s_ic_gt (pc := 62) X dX9_findBounds_62 (by decide) (s_aload_n (pc := 135) X dX9_findBounds_135 rfl (s_getI (pc := 136) X dX9_findBounds_136 g_X9_84 (s_iconst (pc := 139) X dX9_findBounds_139 rfl (s_ic_eq (pc := 140) X dX9_findBounds_140 (by decide) (s_iconst (pc := 147) X dX9_findBounds_147 rfl (s_zret (pc := 148) X E hr dX9_findBounds_148)) (s_iconst (pc := 143) X dX9_findBounds_143 rfl (s_goto (pc := 144) X dX9_findBounds_144 (by decide) (s_zret (pc := 148) X E hr dX9_findBounds_148))))))) (s_aload_n (pc := 65) X dX9_findBounds_65 rfl (s_getR (pc := 66) X dX9_findBounds_66 g_X9_15 (s_iload (pc := 69) X dX9_findBounds_69 (s_iald (pc := 71) X dX9_findBounds_71 h_56 (s_if_le (pc := 72) X dX9_findBounds_72 (by decide) (s_iinc (pc := 129) X dX9_findBounds_129 rfl (s_goto (pc := 132) X dX9_findBounds_132 (by decide) (s_jmp (pc := 51) J [true, false, true, true, true]))) (s_aload_n (pc := 75) X dX9_findBounds_75 rfl (s_aload_n (pc := 76) X dX9_findBounds_76 rfl (s_getI (pc := 77) X dX9_findBounds_77 g_X9_84 (s_iconst (pc := 80) X dX9_findBounds_80 rfl (s_ic_ne (pc := 81) X dX9_findBounds_81 (by decide) (s_aload_n (pc := 94) X dX9_findBounds_94 rfl (s_getI (pc := 95) X dX9_findBounds_95 g_X9_84 (s_aload_n (pc := 98) X dX9_findBounds_98 rfl (s_getR (pc := 99) X dX9_findBounds_99 g_X9_15 (s_iload (pc := 102) X dX9_findBounds_102 (s_iald (pc := 104) X dX9_findBounds_104 h_56 (s_mmin (pc := 105) X dX9_findBounds_105 m_6_83 mm_mmin (hRm (by decide)) (s_jmp (pc := 108) J [true, false, true, true, true])))))))) (s_aload_n (pc := 84) X dX9_findBounds_84 rfl (s_getR (pc := 85) X dX9_findBounds_85 g_X9_15 (s_iload (pc := 88) X dX9_findBounds_88 (s_iald (pc := 90) X dX9_findBounds_90 h_56 (s_goto (pc := 91) X dX9_findBounds_91 (by decide) (s_jmp (pc := 108) J [true, false, true, true, true]))))))))))))))))))))))), List.forall_mem_cons.mpr ⟨(s_putI (pc := 108) X dX9_findBounds_108 p_X9_84 (s_aload_n (pc := 111) X dX9_findBounds_111 rfl (s_aload_n (pc := 112) X dX9_findBounds_112 rfl (s_getI (pc := 113) X dX9_findBounds_113 g_X9_87 (s_aload_n (pc := 116) X dX9_findBounds_116 rfl (s_getR (pc := 117) X dX9_findBounds_117 g_X9_15 (s_iload (pc := 120) X dX9_findBounds_120 (s_iald (pc := 122) X dX9_findBounds_122 h_56 (s_mmax (pc := 123) X dX9_findBounds_123 m_6_26 mm_mmax (hRm (by decide)) (s_putI (pc := 126) X dX9_findBounds_126 p_X9_87 (s_iinc (pc := 129) X dX9_findBounds_129 rfl (s_goto (pc := 132) X dX9_findBounds_132 (by decide) (s_jmp (pc := 51) J [true, false, true, true, true]))))))))))))), fun _ h => absurd h List.not_mem_nil⟩⟩⟩)
theorem dX11_bound_0 : decode cX11_bound 0 = .ok (.aload_n 0, 1) := by decide +kernel
theorem dX11_bound_1 : decode cX11_bound 1 = .ok (.iload_n 1, 1) := by decide +kernel
theorem dX11_bound_2 : decode cX11_bound 2 = .ok (.iload_n 2, 1) := by decide +kernel
theorem dX11_bound_3 : decode cX11_bound 3 = .ok (.invokevirtual 145, 3) := by decide +kernel
theorem dX11_bound_6 : decode cX11_bound 6 = .ok (.ifCond .ne 23, 3) := by decide +kernel
theorem dX11_bound_9 : decode cX11_bound 9 = .ok (.iload_n 3, 1) := by decide +kernel
theorem dX11_bound_10 : decode cX11_bound 10 = .ok (.iconst 1, 1) := by decide +kernel
theorem dX11_bound_11 : decode cX11_bound 11 = .ok (.bipush 60, 2) := by decide +kernel
theorem dX11_bound_13 : decode cX11_bound 13 = .ok (.invokestatic 101, 3) := by decide +kernel
theorem dX11_bound_16 : decode cX11_bound 16 = .ok (.ifCond .ne 13, 3) := by decide +kernel
theorem dX11_bound_19 : decode cX11_bound 19 = .ok (.iload 4, 2) := by decide +kernel
theorem dX11_bound_21 : decode cX11_bound 21 = .ok (.iconst 0, 1) := by decide +kernel
theorem dX11_bound_22 : decode cX11_bound 22 = .ok (.iconst 1, 1) := by decide +kernel
theorem dX11_bound_23 : decode cX11_bound 23 = .ok (.invokestatic 101, 3) := by decide +kernel
theorem dX11_bound_26 : decode cX11_bound 26 = .ok (.ifCond .eq 11, 3) := by decide +kernel
theorem dX11_bound_29 : decode cX11_bound 29 = .ok (.aload_n 0, 1) := by decide +kernel
theorem dX11_bound_30 : decode cX11_bound 30 = .ok (.iconst 1, 1) := by decide +kernel
theorem dX11_bound_31 : decode cX11_bound 31 = .ok (.putfield 9, 3) := by decide +kernel
theorem dX11_bound_34 : decode cX11_bound 34 = .ok (.goto 26, 3) := by decide +kernel
theorem dX11_bound_37 : decode cX11_bound 37 = .ok (.aload_n 0, 1) := by decide +kernel
theorem dX11_bound_38 : decode cX11_bound 38 = .ok (.aload_n 0, 1) := by decide +kernel
theorem dX11_bound_39 : decode cX11_bound 39 = .ok (.getfield 83, 3) := by decide +kernel
theorem dX11_bound_42 : decode cX11_bound 42 = .ok (.iload_n 1, 1) := by decide +kernel
theorem dX11_bound_43 : decode cX11_bound 43 = .ok (.iload_n 2, 1) := by decide +kernel
theorem dX11_bound_44 : decode cX11_bound 44 = .ok (.iload_n 3, 1) := by decide +kernel
theorem dX11_bound_45 : decode cX11_bound 45 = .ok (.invokevirtual 350, 3) := by decide +kernel
theorem dX11_bound_48 : decode cX11_bound 48 = .ok (.ifCond .eq 7, 3) := by decide +kernel
theorem dX11_bound_51 : decode cX11_bound 51 = .ok (.iconst 0, 1) := by decide +kernel
theorem dX11_bound_52 : decode cX11_bound 52 = .ok (.goto 5, 3) := by decide +kernel
theorem dX11_bound_55 : decode cX11_bound 55 = .ok (.bipush 6, 2) := by decide +kernel
theorem dX11_bound_57 : decode cX11_bound 57 = .ok (.putfield 9, 3) := by decide +kernel
theorem dX11_bound_60 : decode cX11_bound 60 = .ok (.aload_n 0, 1) := by decide +kernel
theorem dX11_bound_61 : decode cX11_bound 61 = .ok (.getfield 9, 3) := by decide +kernel
theorem dX11_bound_64 : decode cX11_bound 64 = .ok (.ifCond .eq 5, 3) := by decide +kernel
theorem dX11_bound_67 : decode cX11_bound 67 = .ok (.iconst (-1), 1) := by decide +kernel
theorem dX11_bound_68 : decode cX11_bound 68 = .ok (.ireturn, 1) := by decide +kernel
theorem dX11_bound_69 : decode cX11_bound 69 = .ok (.iload 4, 2) := by decide +kernel
theorem dX11_bound_71 : decode cX11_bound 71 = .ok (.ifCond .ne 13, 3) := by decide +kernel
theorem dX11_bound_74 : decode cX11_bound 74 = .ok (.aload_n 0, 1) := by decide +kernel
theorem dX11_bound_75 : decode cX11_bound 75 = .ok (.getfield 83, 3) := by decide +kernel
theorem dX11_bound_78 : decode cX11_bound 78 = .ok (.getfield 353, 3) := by decide +kernel
theorem dX11_bound_81 : decode cX11_bound 81 = .ok (.goto 10, 3) := by decide +kernel
theorem dX11_bound_84 : decode cX11_bound 84 = .ok (.aload_n 0, 1) := by decide +kernel
theorem dX11_bound_85 : decode cX11_bound 85 = .ok (.getfield 83, 3) := by decide +kernel
theorem dX11_bound_88 : decode cX11_bound 88 = .ok (.getfield 356, 3) := by decide +kernel
theorem dX11_bound_91 : decode cX11_bound 91 = .ok (.ireturn, 1) := by decide +kernel
noncomputable def B_X11_bound_0 : pb_C := (i_aload 0 (i_iload 1 (i_iload 2 (i_callV 0 2 1 M_X11_noFamilyWeek (i_if_ne (i_aload 0 (i_const (.int 1) (i_putI 0 0 (i_jmp 60 [true, false, false, false, true])))) (i_iload 3 (i_const (.int 1) (i_const (.int 60) (i_callS 3 1 M_X11_outside (i_if_ne (i_aload 0 (i_const (.int 1) (i_putI 0 0 (i_jmp 60 [true, false, false, false, true])))) (i_iload 4 (i_const (.int 0) (i_const (.int 1) (i_callS 3 1 M_X11_outside (i_if_eq (i_aload 0 (i_aload 0 (i_getR 0 54 (i_iload 1 (i_iload 2 (i_iload 3 (i_callV 54 3 1 M_X9_findBounds (i_if_eq (i_const (.int 6) (i_putI 0 0 (i_jmp 60 [true, false, false, false, true]))) (i_const (.int 0) (i_putI 0 0 (i_jmp 60 [true, false, false, false, true]))))))))))) (i_aload 0 (i_const (.int 1) (i_putI 0 0 (i_jmp 60 [true, false, false, false, true])))))))))))))))))))
noncomputable def B_X11_bound_60 : pb_C := (i_aload 0 (i_getI 0 0 (i_if_eq (i_iload 4 (i_if_ne (i_aload 0 (i_getR 0 54 (i_getI 54 6 i_iret))) (i_aload 0 (i_getR 0 54 (i_getI 54 5 i_iret))))) (i_const (.int (-1)) i_iret))))
noncomputable def T_X11_bound : Nat → pb_C := pb_tt [(0, B_X11_bound_0), (60, B_X11_bound_60)]
noncomputable def M_X11_bound : pb_F := pb_M T_X11_bound 5
set_option maxRecDepth 100000 in
set_option maxHeartbeats 4000000 in
theorem S_X11_bound (l : Launch) : pb_Sound l yX11_bound cX11_bound 5 (some .int) 5 M_X11_bound := by
  refine pb_sound_of (by decide) m_6_87 ?_
  intro Γ hl0 hRm0 hm X E hr J
  have hnL : ∀ j, j < 5 → j < Γ.2.2.2.2.2.2.2.2.2.2.2.1 := fun j h => by rw [hm]; exact h
  have hR : ∀ (d' mL : Nat), d' + 1 ≤ 5 ∧ 8 + (mL + 11) + d' * 64 ≤ 5 * 64 → (pb_rm d').frames + 1 ≤ Γ.2.2.2.1.frames ∧ 8 + (mL + 11) + (pb_rm d').locals ≤ Γ.2.2.2.1.locals := by rw [hRm0]; exact fun _ _ h => h
  have hRm : 1 ≤ 5 ∧ 64 ≤ 5 * 64 → 1 ≤ Γ.2.2.2.1.frames ∧ 64 ≤ Γ.2.2.2.1.locals := by rw [hRm0]; exact fun h => h
  exact pb_tt_snd _ (List.forall_mem_cons.mpr ⟨(s_aload_n (pc := 0) X dX11_bound_0 rfl (s_iload_n (pc := 1) X dX11_bound_1 rfl (s_iload_n (pc := 2) X dX11_bound_2 rfl (s_callV (pc := 3) X dX11_bound_3 (S_X11_noFamilyWeek _) q_X11_145 h_0 rfl (hR _ _ (by decide)) (s_if_ne (pc := 6) X dX11_bound_6 (by decide) (s_aload_n (pc := 29) X dX11_bound_29 rfl (s_iconst (pc := 30) X dX11_bound_30 rfl (s_putI (pc := 31) X dX11_bound_31 p_X11_9 (s_goto (pc := 34) X dX11_bound_34 (by decide) (s_jmp (pc := 60) J [true, false, false, false, true]))))) (s_iload_n (pc := 9) X dX11_bound_9 rfl (s_iconst (pc := 10) X dX11_bound_10 rfl (s_bipush (pc := 11) X dX11_bound_11 rfl (s_callS (pc := 13) X dX11_bound_13 (S_X11_outside _) q_X11_101 (hR _ _ (by decide)) (s_if_ne (pc := 16) X dX11_bound_16 (by decide) (s_aload_n (pc := 29) X dX11_bound_29 rfl (s_iconst (pc := 30) X dX11_bound_30 rfl (s_putI (pc := 31) X dX11_bound_31 p_X11_9 (s_goto (pc := 34) X dX11_bound_34 (by decide) (s_jmp (pc := 60) J [true, false, false, false, true]))))) (s_iload (pc := 19) X dX11_bound_19 (s_iconst (pc := 21) X dX11_bound_21 rfl (s_iconst (pc := 22) X dX11_bound_22 rfl (s_callS (pc := 23) X dX11_bound_23 (S_X11_outside _) q_X11_101 (hR _ _ (by decide)) (s_if_eq (pc := 26) X dX11_bound_26 (by decide) (s_aload_n (pc := 37) X dX11_bound_37 rfl (s_aload_n (pc := 38) X dX11_bound_38 rfl (s_getR (pc := 39) X dX11_bound_39 g_X11_83 (s_iload_n (pc := 42) X dX11_bound_42 rfl (s_iload_n (pc := 43) X dX11_bound_43 rfl (s_iload_n (pc := 44) X dX11_bound_44 rfl (s_callV (pc := 45) X dX11_bound_45 (S_X9_findBounds _) q_X11_350 h_54 rfl (hR _ _ (by decide)) (s_if_eq (pc := 48) X dX11_bound_48 (by decide) (s_bipush (pc := 55) X dX11_bound_55 rfl (s_putI (pc := 57) X dX11_bound_57 p_X11_9 (s_jmp (pc := 60) J [true, false, false, false, true]))) (s_iconst (pc := 51) X dX11_bound_51 rfl (s_goto (pc := 52) X dX11_bound_52 (by decide) (s_putI (pc := 57) X dX11_bound_57 p_X11_9 (s_jmp (pc := 60) J [true, false, false, false, true])))))))))))) (s_aload_n (pc := 29) X dX11_bound_29 rfl (s_iconst (pc := 30) X dX11_bound_30 rfl (s_putI (pc := 31) X dX11_bound_31 p_X11_9 (s_goto (pc := 34) X dX11_bound_34 (by decide) (s_jmp (pc := 60) J [true, false, false, false, true])))))))))))))))))))), List.forall_mem_cons.mpr ⟨(s_aload_n (pc := 60) X dX11_bound_60 rfl (s_getI (pc := 61) X dX11_bound_61 g_X11_9 (s_if_eq (pc := 64) X dX11_bound_64 (by decide) (s_iload (pc := 69) X dX11_bound_69 (s_if_ne (pc := 71) X dX11_bound_71 (by decide) (s_aload_n (pc := 84) X dX11_bound_84 rfl (s_getR (pc := 85) X dX11_bound_85 g_X11_83 (s_getI (pc := 88) X dX11_bound_88 g_X11_356 (s_iret (pc := 91) X E hr dX11_bound_91)))) (s_aload_n (pc := 74) X dX11_bound_74 rfl (s_getR (pc := 75) X dX11_bound_75 g_X11_83 (s_getI (pc := 78) X dX11_bound_78 g_X11_353 (s_goto (pc := 81) X dX11_bound_81 (by decide) (s_iret (pc := 91) X E hr dX11_bound_91))))))) (s_iconst (pc := 67) X dX11_bound_67 rfl (s_iret (pc := 68) X E hr dX11_bound_68))))), fun _ h => absurd h List.not_mem_nil⟩⟩)
theorem dX2_addLoss_0 : decode cX2_addLoss 0 = .ok (.aload_n 0, 1) := by decide +kernel
theorem dX2_addLoss_1 : decode cX2_addLoss 1 = .ok (.getfield 11, 3) := by decide +kernel
theorem dX2_addLoss_4 : decode cX2_addLoss 4 = .ok (.aload_n 0, 1) := by decide +kernel
theorem dX2_addLoss_5 : decode cX2_addLoss 5 = .ok (.getfield 26, 3) := by decide +kernel
theorem dX2_addLoss_8 : decode cX2_addLoss 8 = .ok (.iload_n 1, 1) := by decide +kernel
theorem dX2_addLoss_9 : decode cX2_addLoss 9 = .ok (.iastore, 1) := by decide +kernel
theorem dX2_addLoss_10 : decode cX2_addLoss 10 = .ok (.aload_n 0, 1) := by decide +kernel
theorem dX2_addLoss_11 : decode cX2_addLoss 11 = .ok (.getfield 15, 3) := by decide +kernel
theorem dX2_addLoss_14 : decode cX2_addLoss 14 = .ok (.aload_n 0, 1) := by decide +kernel
theorem dX2_addLoss_15 : decode cX2_addLoss 15 = .ok (.getfield 26, 3) := by decide +kernel
theorem dX2_addLoss_18 : decode cX2_addLoss 18 = .ok (.iload_n 2, 1) := by decide +kernel
theorem dX2_addLoss_19 : decode cX2_addLoss 19 = .ok (.iastore, 1) := by decide +kernel
theorem dX2_addLoss_20 : decode cX2_addLoss 20 = .ok (.aload_n 0, 1) := by decide +kernel
theorem dX2_addLoss_21 : decode cX2_addLoss 21 = .ok (.dup, 1) := by decide +kernel
theorem dX2_addLoss_22 : decode cX2_addLoss 22 = .ok (.getfield 26, 3) := by decide +kernel
theorem dX2_addLoss_25 : decode cX2_addLoss 25 = .ok (.iconst 1, 1) := by decide +kernel
theorem dX2_addLoss_26 : decode cX2_addLoss 26 = .ok (.iadd, 1) := by decide +kernel
theorem dX2_addLoss_27 : decode cX2_addLoss 27 = .ok (.putfield 26, 3) := by decide +kernel
theorem dX2_addLoss_30 : decode cX2_addLoss 30 = .ok (.aload_n 0, 1) := by decide +kernel
theorem dX2_addLoss_31 : decode cX2_addLoss 31 = .ok (.getfield 26, 3) := by decide +kernel
theorem dX2_addLoss_34 : decode cX2_addLoss 34 = .ok (.iconst 1, 1) := by decide +kernel
theorem dX2_addLoss_35 : decode cX2_addLoss 35 = .ok (.isub, 1) := by decide +kernel
theorem dX2_addLoss_36 : decode cX2_addLoss 36 = .ok (.ireturn, 1) := by decide +kernel
noncomputable def B_X2_addLoss_0 : pb_C := (i_aload 0 (i_getR 61 62 (i_aload 0 (i_getI 61 2 (i_iload 1 (i_ast 62 12 (fun x => x) (i_aload 0 (i_getR 61 63 (i_aload 0 (i_getI 61 2 (i_iload 2 (i_ast 63 12 (fun x => x) (i_aload 0 (i_dupR (i_getI 61 2 (i_const (.int 1) (i_ibin (· + ·) (i_putI 61 2 (i_aload 0 (i_getI 61 2 (i_const (.int 1) (i_ibin (· - ·) i_iret))))))))))))))))))))))
noncomputable def T_X2_addLoss : Nat → pb_C := pb_tt [(0, B_X2_addLoss_0)]
noncomputable def M_X2_addLoss : pb_F := pb_M T_X2_addLoss 3
set_option maxRecDepth 100000 in
set_option maxHeartbeats 4000000 in
theorem S_X2_addLoss (l : Launch) : pb_Sound l yX2_addLoss cX2_addLoss 3 (some .int) 1 M_X2_addLoss := by
  refine pb_sound_of (by decide) m_6_99 ?_
  intro Γ hl0 hRm0 hm X E hr J
  have hnL : ∀ j, j < 3 → j < Γ.2.2.2.2.2.2.2.2.2.2.2.1 := fun j h => by rw [hm]; exact h
  have hR : ∀ (d' mL : Nat), d' + 1 ≤ 1 ∧ 8 + (mL + 11) + d' * 64 ≤ 1 * 64 → (pb_rm d').frames + 1 ≤ Γ.2.2.2.1.frames ∧ 8 + (mL + 11) + (pb_rm d').locals ≤ Γ.2.2.2.1.locals := by rw [hRm0]; exact fun _ _ h => h
  have hRm : 1 ≤ 1 ∧ 64 ≤ 1 * 64 → 1 ≤ Γ.2.2.2.1.frames ∧ 64 ≤ Γ.2.2.2.1.locals := by rw [hRm0]; exact fun h => h
  exact pb_tt_snd _ (List.forall_mem_cons.mpr ⟨(s_aload_n (pc := 0) X dX2_addLoss_0 rfl (s_getR (pc := 1) X dX2_addLoss_1 g_X2_11 (s_aload_n (pc := 4) X dX2_addLoss_4 rfl (s_getI (pc := 5) X dX2_addLoss_5 g_X2_26 (s_iload_n (pc := 8) X dX2_addLoss_8 rfl (s_iast (pc := 9) X dX2_addLoss_9 h_62 (s_aload_n (pc := 10) X dX2_addLoss_10 rfl (s_getR (pc := 11) X dX2_addLoss_11 g_X2_15 (s_aload_n (pc := 14) X dX2_addLoss_14 rfl (s_getI (pc := 15) X dX2_addLoss_15 g_X2_26 (s_iload_n (pc := 18) X dX2_addLoss_18 rfl (s_iast (pc := 19) X dX2_addLoss_19 h_63 (s_aload_n (pc := 20) X dX2_addLoss_20 rfl (s_dupR (pc := 21) X dX2_addLoss_21 (s_getI (pc := 22) X dX2_addLoss_22 g_X2_26 (s_iconst (pc := 25) X dX2_addLoss_25 rfl (s_iadd (pc := 26) X dX2_addLoss_26 (s_putI (pc := 27) X dX2_addLoss_27 p_X2_26 (s_aload_n (pc := 30) X dX2_addLoss_30 rfl (s_getI (pc := 31) X dX2_addLoss_31 g_X2_26 (s_iconst (pc := 34) X dX2_addLoss_34 rfl (s_isub (pc := 35) X dX2_addLoss_35 (s_iret (pc := 36) X E hr dX2_addLoss_36))))))))))))))))))))))), fun _ h => absurd h List.not_mem_nil⟩)
theorem dX11_loss_0 : decode cX11_loss 0 = .ok (.aload_n 0, 1) := by decide +kernel
theorem dX11_loss_1 : decode cX11_loss 1 = .ok (.iload_n 1, 1) := by decide +kernel
theorem dX11_loss_2 : decode cX11_loss 2 = .ok (.iload_n 2, 1) := by decide +kernel
theorem dX11_loss_3 : decode cX11_loss 3 = .ok (.invokevirtual 145, 3) := by decide +kernel
theorem dX11_loss_6 : decode cX11_loss 6 = .ok (.ifCond .eq 11, 3) := by decide +kernel
theorem dX11_loss_9 : decode cX11_loss 9 = .ok (.aload_n 0, 1) := by decide +kernel
theorem dX11_loss_10 : decode cX11_loss 10 = .ok (.iconst 1, 1) := by decide +kernel
theorem dX11_loss_11 : decode cX11_loss 11 = .ok (.putfield 9, 3) := by decide +kernel
theorem dX11_loss_14 : decode cX11_loss 14 = .ok (.goto 24, 3) := by decide +kernel
theorem dX11_loss_17 : decode cX11_loss 17 = .ok (.aload_n 0, 1) := by decide +kernel
theorem dX11_loss_18 : decode cX11_loss 18 = .ok (.aload_n 0, 1) := by decide +kernel
theorem dX11_loss_19 : decode cX11_loss 19 = .ok (.getfield 97, 3) := by decide +kernel
theorem dX11_loss_22 : decode cX11_loss 22 = .ok (.getfield 357, 3) := by decide +kernel
theorem dX11_loss_25 : decode cX11_loss 25 = .ok (.bipush 12, 2) := by decide +kernel
theorem dX11_loss_27 : decode cX11_loss 27 = .ok (.if_icmp .lt 7, 3) := by decide +kernel
theorem dX11_loss_30 : decode cX11_loss 30 = .ok (.iconst 4, 1) := by decide +kernel
theorem dX11_loss_31 : decode cX11_loss 31 = .ok (.goto 4, 3) := by decide +kernel
theorem dX11_loss_34 : decode cX11_loss 34 = .ok (.iconst 0, 1) := by decide +kernel
theorem dX11_loss_35 : decode cX11_loss 35 = .ok (.putfield 9, 3) := by decide +kernel
theorem dX11_loss_38 : decode cX11_loss 38 = .ok (.aload_n 0, 1) := by decide +kernel
theorem dX11_loss_39 : decode cX11_loss 39 = .ok (.getfield 9, 3) := by decide +kernel
theorem dX11_loss_42 : decode cX11_loss 42 = .ok (.ifCond .ne 15, 3) := by decide +kernel
theorem dX11_loss_45 : decode cX11_loss 45 = .ok (.aload_n 0, 1) := by decide +kernel
theorem dX11_loss_46 : decode cX11_loss 46 = .ok (.getfield 97, 3) := by decide +kernel
theorem dX11_loss_49 : decode cX11_loss 49 = .ok (.iload_n 1, 1) := by decide +kernel
theorem dX11_loss_50 : decode cX11_loss 50 = .ok (.iload_n 2, 1) := by decide +kernel
theorem dX11_loss_51 : decode cX11_loss 51 = .ok (.invokevirtual 359, 3) := by decide +kernel
theorem dX11_loss_54 : decode cX11_loss 54 = .ok (.goto 4, 3) := by decide +kernel
theorem dX11_loss_57 : decode cX11_loss 57 = .ok (.iconst (-1), 1) := by decide +kernel
theorem dX11_loss_58 : decode cX11_loss 58 = .ok (.ireturn, 1) := by decide +kernel
noncomputable def B_X11_loss_0 : pb_C := (i_aload 0 (i_iload 1 (i_iload 2 (i_callV 0 2 1 M_X11_noFamilyWeek (i_if_eq (i_aload 0 (i_aload 0 (i_getR 0 61 (i_getI 61 2 (i_const (.int 12) (i_ic_lt (i_const (.int 0) (i_jmp 35 [true, true, true])) (i_const (.int 4) (i_jmp 35 [true, true, true])))))))) (i_aload 0 (i_const (.int 1) (i_putI 0 0 (i_aload 0 (i_getI 0 0 (i_if_ne (i_const (.int (-1)) i_iret) (i_aload 0 (i_getR 0 61 (i_iload 1 (i_iload 2 (i_callV 61 2 1 M_X2_addLoss i_iret))))))))))))))))
noncomputable def B_X11_loss_35 : pb_C := (i_putI 0 0 (i_aload 0 (i_getI 0 0 (i_if_ne (i_const (.int (-1)) i_iret) (i_aload 0 (i_getR 0 61 (i_iload 1 (i_iload 2 (i_callV 61 2 1 M_X2_addLoss i_iret)))))))))
noncomputable def T_X11_loss : Nat → pb_C := pb_tt [(0, B_X11_loss_0), (35, B_X11_loss_35)]
noncomputable def M_X11_loss : pb_F := pb_M T_X11_loss 3
set_option maxRecDepth 100000 in
set_option maxHeartbeats 4000000 in
theorem S_X11_loss (l : Launch) : pb_Sound l yX11_loss cX11_loss 3 (some .int) 3 M_X11_loss := by
  refine pb_sound_of (by decide) m_6_95 ?_
  intro Γ hl0 hRm0 hm X E hr J
  have hnL : ∀ j, j < 3 → j < Γ.2.2.2.2.2.2.2.2.2.2.2.1 := fun j h => by rw [hm]; exact h
  have hR : ∀ (d' mL : Nat), d' + 1 ≤ 3 ∧ 8 + (mL + 11) + d' * 64 ≤ 3 * 64 → (pb_rm d').frames + 1 ≤ Γ.2.2.2.1.frames ∧ 8 + (mL + 11) + (pb_rm d').locals ≤ Γ.2.2.2.1.locals := by rw [hRm0]; exact fun _ _ h => h
  have hRm : 1 ≤ 3 ∧ 64 ≤ 3 * 64 → 1 ≤ Γ.2.2.2.1.frames ∧ 64 ≤ Γ.2.2.2.1.locals := by rw [hRm0]; exact fun h => h
  exact pb_tt_snd _ (List.forall_mem_cons.mpr ⟨(s_aload_n (pc := 0) X dX11_loss_0 rfl (s_iload_n (pc := 1) X dX11_loss_1 rfl (s_iload_n (pc := 2) X dX11_loss_2 rfl (s_callV (pc := 3) X dX11_loss_3 (S_X11_noFamilyWeek _) q_X11_145 h_0 rfl (hR _ _ (by decide)) (s_if_eq (pc := 6) X dX11_loss_6 (by decide) (s_aload_n (pc := 17) X dX11_loss_17 rfl (s_aload_n (pc := 18) X dX11_loss_18 rfl (s_getR (pc := 19) X dX11_loss_19 g_X11_97 (s_getI (pc := 22) X dX11_loss_22 g_X11_357 (s_bipush (pc := 25) X dX11_loss_25 rfl (s_ic_lt (pc := 27) X dX11_loss_27 (by decide) (s_iconst (pc := 34) X dX11_loss_34 rfl (s_jmp (pc := 35) J [true, true, true])) (s_iconst (pc := 30) X dX11_loss_30 rfl (s_goto (pc := 31) X dX11_loss_31 (by decide) (s_jmp (pc := 35) J [true, true, true]))))))))) (s_aload_n (pc := 9) X dX11_loss_9 rfl (s_iconst (pc := 10) X dX11_loss_10 rfl (s_putI (pc := 11) X dX11_loss_11 p_X11_9 (s_goto (pc := 14) X dX11_loss_14 (by decide) (s_aload_n (pc := 38) X dX11_loss_38 rfl (s_getI (pc := 39) X dX11_loss_39 g_X11_9 (s_if_ne (pc := 42) X dX11_loss_42 (by decide) (s_iconst (pc := 57) X dX11_loss_57 rfl (s_iret (pc := 58) X E hr dX11_loss_58)) (s_aload_n (pc := 45) X dX11_loss_45 rfl (s_getR (pc := 46) X dX11_loss_46 g_X11_97 (s_iload_n (pc := 49) X dX11_loss_49 rfl (s_iload_n (pc := 50) X dX11_loss_50 rfl (s_callV (pc := 51) X dX11_loss_51 (S_X2_addLoss _) q_X11_359 h_61 rfl (hR _ _ (by decide)) (s_goto (pc := 54) X dX11_loss_54 (by decide) (s_iret (pc := 58) X E hr dX11_loss_58))))))))))))))))))), List.forall_mem_cons.mpr ⟨(s_putI (pc := 35) X dX11_loss_35 p_X11_9 (s_aload_n (pc := 38) X dX11_loss_38 rfl (s_getI (pc := 39) X dX11_loss_39 g_X11_9 (s_if_ne (pc := 42) X dX11_loss_42 (by decide) (s_iconst (pc := 57) X dX11_loss_57 rfl (s_iret (pc := 58) X E hr dX11_loss_58)) (s_aload_n (pc := 45) X dX11_loss_45 rfl (s_getR (pc := 46) X dX11_loss_46 g_X11_97 (s_iload_n (pc := 49) X dX11_loss_49 rfl (s_iload_n (pc := 50) X dX11_loss_50 rfl (s_callV (pc := 51) X dX11_loss_51 (S_X2_addLoss _) q_X11_359 h_61 rfl (hR _ _ (by decide)) (s_goto (pc := 54) X dX11_loss_54 (by decide) (s_iret (pc := 58) X E hr dX11_loss_58))))))))))), fun _ h => absurd h List.not_mem_nil⟩⟩)
theorem dJ13_bitCount_95d88_0 : decode cJ13_bitCount_95d88 0 = .ok (.lload_n 0, 1) := by decide +kernel
theorem dJ13_bitCount_95d88_1 : decode cJ13_bitCount_95d88 1 = .ok (.lload_n 0, 1) := by decide +kernel
theorem dJ13_bitCount_95d88_2 : decode cJ13_bitCount_95d88 2 = .ok (.iconst 1, 1) := by decide +kernel
theorem dJ13_bitCount_95d88_3 : decode cJ13_bitCount_95d88 3 = .ok (.lushr, 1) := by decide +kernel
theorem dJ13_bitCount_95d88_4 : decode cJ13_bitCount_95d88 4 = .ok (.ldc2_w 314, 3) := by decide +kernel
theorem dJ13_bitCount_95d88_7 : decode cJ13_bitCount_95d88 7 = .ok (.land, 1) := by decide +kernel
theorem dJ13_bitCount_95d88_8 : decode cJ13_bitCount_95d88 8 = .ok (.lsub, 1) := by decide +kernel
theorem dJ13_bitCount_95d88_9 : decode cJ13_bitCount_95d88 9 = .ok (.lstore_n 0, 1) := by decide +kernel
theorem dJ13_bitCount_95d88_10 : decode cJ13_bitCount_95d88 10 = .ok (.lload_n 0, 1) := by decide +kernel
theorem dJ13_bitCount_95d88_11 : decode cJ13_bitCount_95d88 11 = .ok (.ldc2_w 316, 3) := by decide +kernel
theorem dJ13_bitCount_95d88_14 : decode cJ13_bitCount_95d88 14 = .ok (.land, 1) := by decide +kernel
theorem dJ13_bitCount_95d88_15 : decode cJ13_bitCount_95d88 15 = .ok (.lload_n 0, 1) := by decide +kernel
theorem dJ13_bitCount_95d88_16 : decode cJ13_bitCount_95d88 16 = .ok (.iconst 2, 1) := by decide +kernel
theorem dJ13_bitCount_95d88_17 : decode cJ13_bitCount_95d88 17 = .ok (.lushr, 1) := by decide +kernel
theorem dJ13_bitCount_95d88_18 : decode cJ13_bitCount_95d88 18 = .ok (.ldc2_w 316, 3) := by decide +kernel
theorem dJ13_bitCount_95d88_21 : decode cJ13_bitCount_95d88 21 = .ok (.land, 1) := by decide +kernel
theorem dJ13_bitCount_95d88_22 : decode cJ13_bitCount_95d88 22 = .ok (.ladd, 1) := by decide +kernel
theorem dJ13_bitCount_95d88_23 : decode cJ13_bitCount_95d88 23 = .ok (.lstore_n 0, 1) := by decide +kernel
theorem dJ13_bitCount_95d88_24 : decode cJ13_bitCount_95d88 24 = .ok (.lload_n 0, 1) := by decide +kernel
theorem dJ13_bitCount_95d88_25 : decode cJ13_bitCount_95d88 25 = .ok (.lload_n 0, 1) := by decide +kernel
theorem dJ13_bitCount_95d88_26 : decode cJ13_bitCount_95d88 26 = .ok (.iconst 4, 1) := by decide +kernel
theorem dJ13_bitCount_95d88_27 : decode cJ13_bitCount_95d88 27 = .ok (.lushr, 1) := by decide +kernel
theorem dJ13_bitCount_95d88_28 : decode cJ13_bitCount_95d88 28 = .ok (.ladd, 1) := by decide +kernel
theorem dJ13_bitCount_95d88_29 : decode cJ13_bitCount_95d88 29 = .ok (.ldc2_w 318, 3) := by decide +kernel
theorem dJ13_bitCount_95d88_32 : decode cJ13_bitCount_95d88 32 = .ok (.land, 1) := by decide +kernel
theorem dJ13_bitCount_95d88_33 : decode cJ13_bitCount_95d88 33 = .ok (.lstore_n 0, 1) := by decide +kernel
theorem dJ13_bitCount_95d88_34 : decode cJ13_bitCount_95d88 34 = .ok (.lload_n 0, 1) := by decide +kernel
theorem dJ13_bitCount_95d88_35 : decode cJ13_bitCount_95d88 35 = .ok (.lload_n 0, 1) := by decide +kernel
theorem dJ13_bitCount_95d88_36 : decode cJ13_bitCount_95d88 36 = .ok (.bipush 8, 2) := by decide +kernel
theorem dJ13_bitCount_95d88_38 : decode cJ13_bitCount_95d88 38 = .ok (.lushr, 1) := by decide +kernel
theorem dJ13_bitCount_95d88_39 : decode cJ13_bitCount_95d88 39 = .ok (.ladd, 1) := by decide +kernel
theorem dJ13_bitCount_95d88_40 : decode cJ13_bitCount_95d88 40 = .ok (.lstore_n 0, 1) := by decide +kernel
theorem dJ13_bitCount_95d88_41 : decode cJ13_bitCount_95d88 41 = .ok (.lload_n 0, 1) := by decide +kernel
theorem dJ13_bitCount_95d88_42 : decode cJ13_bitCount_95d88 42 = .ok (.lload_n 0, 1) := by decide +kernel
theorem dJ13_bitCount_95d88_43 : decode cJ13_bitCount_95d88 43 = .ok (.bipush 16, 2) := by decide +kernel
theorem dJ13_bitCount_95d88_45 : decode cJ13_bitCount_95d88 45 = .ok (.lushr, 1) := by decide +kernel
theorem dJ13_bitCount_95d88_46 : decode cJ13_bitCount_95d88 46 = .ok (.ladd, 1) := by decide +kernel
theorem dJ13_bitCount_95d88_47 : decode cJ13_bitCount_95d88 47 = .ok (.lstore_n 0, 1) := by decide +kernel
theorem dJ13_bitCount_95d88_48 : decode cJ13_bitCount_95d88 48 = .ok (.lload_n 0, 1) := by decide +kernel
theorem dJ13_bitCount_95d88_49 : decode cJ13_bitCount_95d88 49 = .ok (.lload_n 0, 1) := by decide +kernel
theorem dJ13_bitCount_95d88_50 : decode cJ13_bitCount_95d88 50 = .ok (.bipush 32, 2) := by decide +kernel
theorem dJ13_bitCount_95d88_52 : decode cJ13_bitCount_95d88 52 = .ok (.lushr, 1) := by decide +kernel
theorem dJ13_bitCount_95d88_53 : decode cJ13_bitCount_95d88 53 = .ok (.ladd, 1) := by decide +kernel
theorem dJ13_bitCount_95d88_54 : decode cJ13_bitCount_95d88 54 = .ok (.lstore_n 0, 1) := by decide +kernel
theorem dJ13_bitCount_95d88_55 : decode cJ13_bitCount_95d88 55 = .ok (.lload_n 0, 1) := by decide +kernel
theorem dJ13_bitCount_95d88_56 : decode cJ13_bitCount_95d88 56 = .ok (.l2i, 1) := by decide +kernel
theorem dJ13_bitCount_95d88_57 : decode cJ13_bitCount_95d88 57 = .ok (.bipush 127, 2) := by decide +kernel
theorem dJ13_bitCount_95d88_59 : decode cJ13_bitCount_95d88 59 = .ok (.iand, 1) := by decide +kernel
theorem dJ13_bitCount_95d88_60 : decode cJ13_bitCount_95d88 60 = .ok (.ireturn, 1) := by decide +kernel
noncomputable def B_J13_bitCount_95d88_0 : pb_C := (i_lload 0 (i_lload 0 (i_const (.int 1) (i_lsh (fun x y => (x.toUInt64 >>> (y.toInt64.toUInt64 &&& Int64.toUInt64 63)).toInt64) (i_const (.long (6148914691236517205)) (i_lbin (· &&& ·) (i_lbin (· - ·) (i_lstore 0 (i_lload 0 (i_const (.long (3689348814741910323)) (i_lbin (· &&& ·) (i_lload 0 (i_const (.int 2) (i_lsh (fun x y => (x.toUInt64 >>> (y.toInt64.toUInt64 &&& Int64.toUInt64 63)).toInt64) (i_const (.long (3689348814741910323)) (i_lbin (· &&& ·) (i_lbin (· + ·) (i_lstore 0 (i_lload 0 (i_lload 0 (i_const (.int 4) (i_lsh (fun x y => (x.toUInt64 >>> (y.toInt64.toUInt64 &&& Int64.toUInt64 63)).toInt64) (i_lbin (· + ·) (i_const (.long (1085102592571150095)) (i_lbin (· &&& ·) (i_lstore 0 (i_lload 0 (i_lload 0 (i_const (.int 8) (i_lsh (fun x y => (x.toUInt64 >>> (y.toInt64.toUInt64 &&& Int64.toUInt64 63)).toInt64) (i_lbin (· + ·) (i_lstore 0 (i_lload 0 (i_lload 0 (i_const (.int 16) (i_lsh (fun x y => (x.toUInt64 >>> (y.toInt64.toUInt64 &&& Int64.toUInt64 63)).toInt64) (i_lbin (· + ·) (i_lstore 0 (i_lload 0 (i_lload 0 (i_const (.int 32) (i_lsh (fun x y => (x.toUInt64 >>> (y.toInt64.toUInt64 &&& Int64.toUInt64 63)).toInt64) (i_lbin (· + ·) (i_lstore 0 (i_lload 0 (i_l2i (i_const (.int 127) (i_ibin (· &&& ·) i_iret))))))))))))))))))))))))))))))))))))))))))))))))
noncomputable def T_J13_bitCount_95d88 : Nat → pb_C := pb_tt [(0, B_J13_bitCount_95d88_0)]
noncomputable def M_J13_bitCount_95d88 : pb_F := pb_M T_J13_bitCount_95d88 2
set_option maxRecDepth 100000 in
set_option maxHeartbeats 4000000 in
theorem S_J13_bitCount_95d88 (l : Launch) : pb_Sound l yJ13_bitCount_95d88 cJ13_bitCount_95d88 2 (some .int) 1 M_J13_bitCount_95d88 := by
  refine pb_sound_of (by decide) m_6_124 ?_
  intro Γ hl0 hRm0 hm X E hr J
  have hnL : ∀ j, j < 2 → j < Γ.2.2.2.2.2.2.2.2.2.2.2.1 := fun j h => by rw [hm]; exact h
  have hR : ∀ (d' mL : Nat), d' + 1 ≤ 1 ∧ 8 + (mL + 11) + d' * 64 ≤ 1 * 64 → (pb_rm d').frames + 1 ≤ Γ.2.2.2.1.frames ∧ 8 + (mL + 11) + (pb_rm d').locals ≤ Γ.2.2.2.1.locals := by rw [hRm0]; exact fun _ _ h => h
  have hRm : 1 ≤ 1 ∧ 64 ≤ 1 * 64 → 1 ≤ Γ.2.2.2.1.frames ∧ 64 ≤ Γ.2.2.2.1.locals := by rw [hRm0]; exact fun h => h
  exact pb_tt_snd _ (List.forall_mem_cons.mpr ⟨(s_lload_n (pc := 0) X dJ13_bitCount_95d88_0 rfl (s_lload_n (pc := 1) X dJ13_bitCount_95d88_1 rfl (s_iconst (pc := 2) X dJ13_bitCount_95d88_2 rfl (s_lushr (pc := 3) X dJ13_bitCount_95d88_3 (s_ldc2 (pc := 4) X dJ13_bitCount_95d88_4 m_6_125 (s_land (pc := 7) X dJ13_bitCount_95d88_7 (s_lsub (pc := 8) X dJ13_bitCount_95d88_8 (s_lstore_n (pc := 9) X dJ13_bitCount_95d88_9 rfl (hnL _ (by decide)) (s_lload_n (pc := 10) X dJ13_bitCount_95d88_10 rfl (s_ldc2 (pc := 11) X dJ13_bitCount_95d88_11 m_6_126 (s_land (pc := 14) X dJ13_bitCount_95d88_14 (s_lload_n (pc := 15) X dJ13_bitCount_95d88_15 rfl (s_iconst (pc := 16) X dJ13_bitCount_95d88_16 rfl (s_lushr (pc := 17) X dJ13_bitCount_95d88_17 (s_ldc2 (pc := 18) X dJ13_bitCount_95d88_18 m_6_126 (s_land (pc := 21) X dJ13_bitCount_95d88_21 (s_ladd (pc := 22) X dJ13_bitCount_95d88_22 (s_lstore_n (pc := 23) X dJ13_bitCount_95d88_23 rfl (hnL _ (by decide)) (s_lload_n (pc := 24) X dJ13_bitCount_95d88_24 rfl (s_lload_n (pc := 25) X dJ13_bitCount_95d88_25 rfl (s_iconst (pc := 26) X dJ13_bitCount_95d88_26 rfl (s_lushr (pc := 27) X dJ13_bitCount_95d88_27 (s_ladd (pc := 28) X dJ13_bitCount_95d88_28 (s_ldc2 (pc := 29) X dJ13_bitCount_95d88_29 m_6_127 (s_land (pc := 32) X dJ13_bitCount_95d88_32 (s_lstore_n (pc := 33) X dJ13_bitCount_95d88_33 rfl (hnL _ (by decide)) (s_lload_n (pc := 34) X dJ13_bitCount_95d88_34 rfl (s_lload_n (pc := 35) X dJ13_bitCount_95d88_35 rfl (s_bipush (pc := 36) X dJ13_bitCount_95d88_36 rfl (s_lushr (pc := 38) X dJ13_bitCount_95d88_38 (s_ladd (pc := 39) X dJ13_bitCount_95d88_39 (s_lstore_n (pc := 40) X dJ13_bitCount_95d88_40 rfl (hnL _ (by decide)) (s_lload_n (pc := 41) X dJ13_bitCount_95d88_41 rfl (s_lload_n (pc := 42) X dJ13_bitCount_95d88_42 rfl (s_bipush (pc := 43) X dJ13_bitCount_95d88_43 rfl (s_lushr (pc := 45) X dJ13_bitCount_95d88_45 (s_ladd (pc := 46) X dJ13_bitCount_95d88_46 (s_lstore_n (pc := 47) X dJ13_bitCount_95d88_47 rfl (hnL _ (by decide)) (s_lload_n (pc := 48) X dJ13_bitCount_95d88_48 rfl (s_lload_n (pc := 49) X dJ13_bitCount_95d88_49 rfl (s_bipush (pc := 50) X dJ13_bitCount_95d88_50 rfl (s_lushr (pc := 52) X dJ13_bitCount_95d88_52 (s_ladd (pc := 53) X dJ13_bitCount_95d88_53 (s_lstore_n (pc := 54) X dJ13_bitCount_95d88_54 rfl (hnL _ (by decide)) (s_lload_n (pc := 55) X dJ13_bitCount_95d88_55 rfl (s_l2i (pc := 56) X dJ13_bitCount_95d88_56 (s_bipush (pc := 57) X dJ13_bitCount_95d88_57 rfl (s_iand (pc := 59) X dJ13_bitCount_95d88_59 (s_iret (pc := 60) X E hr dJ13_bitCount_95d88_60))))))))))))))))))))))))))))))))))))))))))))))))), fun _ h => absurd h List.not_mem_nil⟩)
theorem dX2_wentInEach_0 : decode cX2_wentInEach 0 = .ok (.lconst 0, 1) := by decide +kernel
theorem dX2_wentInEach_1 : decode cX2_wentInEach 1 = .ok (.lstore 4, 2) := by decide +kernel
theorem dX2_wentInEach_3 : decode cX2_wentInEach 3 = .ok (.iconst 0, 1) := by decide +kernel
theorem dX2_wentInEach_4 : decode cX2_wentInEach 4 = .ok (.istore 6, 2) := by decide +kernel
theorem dX2_wentInEach_6 : decode cX2_wentInEach 6 = .ok (.iload 6, 2) := by decide +kernel
theorem dX2_wentInEach_8 : decode cX2_wentInEach 8 = .ok (.aload_n 0, 1) := by decide +kernel
theorem dX2_wentInEach_9 : decode cX2_wentInEach 9 = .ok (.getfield 18, 3) := by decide +kernel
theorem dX2_wentInEach_12 : decode cX2_wentInEach 12 = .ok (.getfield 62, 3) := by decide +kernel
theorem dX2_wentInEach_15 : decode cX2_wentInEach 15 = .ok (.if_icmp .ge 61, 3) := by decide +kernel
theorem dX2_wentInEach_18 : decode cX2_wentInEach 18 = .ok (.aload_n 0, 1) := by decide +kernel
theorem dX2_wentInEach_19 : decode cX2_wentInEach 19 = .ok (.getfield 18, 3) := by decide +kernel
theorem dX2_wentInEach_22 : decode cX2_wentInEach 22 = .ok (.getfield 65, 3) := by decide +kernel
theorem dX2_wentInEach_25 : decode cX2_wentInEach 25 = .ok (.iload 6, 2) := by decide +kernel
theorem dX2_wentInEach_27 : decode cX2_wentInEach 27 = .ok (.iaload, 1) := by decide +kernel
theorem dX2_wentInEach_28 : decode cX2_wentInEach 28 = .ok (.iload_n 2, 1) := by decide +kernel
theorem dX2_wentInEach_29 : decode cX2_wentInEach 29 = .ok (.iload_n 3, 1) := by decide +kernel
theorem dX2_wentInEach_30 : decode cX2_wentInEach 30 = .ok (.isub, 1) := by decide +kernel
theorem dX2_wentInEach_31 : decode cX2_wentInEach 31 = .ok (.isub, 1) := by decide +kernel
theorem dX2_wentInEach_32 : decode cX2_wentInEach 32 = .ok (.istore 7, 2) := by decide +kernel
theorem dX2_wentInEach_34 : decode cX2_wentInEach 34 = .ok (.iload 7, 2) := by decide +kernel
theorem dX2_wentInEach_36 : decode cX2_wentInEach 36 = .ok (.iconst 0, 1) := by decide +kernel
theorem dX2_wentInEach_37 : decode cX2_wentInEach 37 = .ok (.iconst 2, 1) := by decide +kernel
theorem dX2_wentInEach_38 : decode cX2_wentInEach 38 = .ok (.iload_n 3, 1) := by decide +kernel
theorem dX2_wentInEach_39 : decode cX2_wentInEach 39 = .ok (.imul, 1) := by decide +kernel
theorem dX2_wentInEach_40 : decode cX2_wentInEach 40 = .ok (.iconst 1, 1) := by decide +kernel
theorem dX2_wentInEach_41 : decode cX2_wentInEach 41 = .ok (.isub, 1) := by decide +kernel
theorem dX2_wentInEach_42 : decode cX2_wentInEach 42 = .ok (.invokestatic 30, 3) := by decide +kernel
theorem dX2_wentInEach_45 : decode cX2_wentInEach 45 = .ok (.ifCond .ne 25, 3) := by decide +kernel
theorem dX2_wentInEach_48 : decode cX2_wentInEach 48 = .ok (.aload_n 0, 1) := by decide +kernel
theorem dX2_wentInEach_49 : decode cX2_wentInEach 49 = .ok (.getfield 18, 3) := by decide +kernel
theorem dX2_wentInEach_52 : decode cX2_wentInEach 52 = .ok (.iload 6, 2) := by decide +kernel
theorem dX2_wentInEach_54 : decode cX2_wentInEach 54 = .ok (.iload_n 1, 1) := by decide +kernel
theorem dX2_wentInEach_55 : decode cX2_wentInEach 55 = .ok (.invokevirtual 66, 3) := by decide +kernel
theorem dX2_wentInEach_58 : decode cX2_wentInEach 58 = .ok (.ifCond .eq 12, 3) := by decide +kernel
theorem dX2_wentInEach_61 : decode cX2_wentInEach 61 = .ok (.lload 4, 2) := by decide +kernel
theorem dX2_wentInEach_63 : decode cX2_wentInEach 63 = .ok (.lconst 1, 1) := by decide +kernel
theorem dX2_wentInEach_64 : decode cX2_wentInEach 64 = .ok (.iload 7, 2) := by decide +kernel
theorem dX2_wentInEach_66 : decode cX2_wentInEach 66 = .ok (.lshl, 1) := by decide +kernel
theorem dX2_wentInEach_67 : decode cX2_wentInEach 67 = .ok (.lor, 1) := by decide +kernel
theorem dX2_wentInEach_68 : decode cX2_wentInEach 68 = .ok (.lstore 4, 2) := by decide +kernel
theorem dX2_wentInEach_70 : decode cX2_wentInEach 70 = .ok (.iinc 6 1, 3) := by decide +kernel
theorem dX2_wentInEach_73 : decode cX2_wentInEach 73 = .ok (.goto (-67), 3) := by decide +kernel
theorem dX2_wentInEach_76 : decode cX2_wentInEach 76 = .ok (.lload 4, 2) := by decide +kernel
theorem dX2_wentInEach_78 : decode cX2_wentInEach 78 = .ok (.invokestatic 70, 3) := by decide +kernel
theorem dX2_wentInEach_81 : decode cX2_wentInEach 81 = .ok (.iconst 2, 1) := by decide +kernel
theorem dX2_wentInEach_82 : decode cX2_wentInEach 82 = .ok (.iload_n 3, 1) := by decide +kernel
theorem dX2_wentInEach_83 : decode cX2_wentInEach 83 = .ok (.imul, 1) := by decide +kernel
theorem dX2_wentInEach_84 : decode cX2_wentInEach 84 = .ok (.if_icmp .ne 7, 3) := by decide +kernel
theorem dX2_wentInEach_87 : decode cX2_wentInEach 87 = .ok (.iconst 1, 1) := by decide +kernel
theorem dX2_wentInEach_88 : decode cX2_wentInEach 88 = .ok (.goto 4, 3) := by decide +kernel
theorem dX2_wentInEach_91 : decode cX2_wentInEach 91 = .ok (.iconst 0, 1) := by decide +kernel
theorem dX2_wentInEach_92 : decode cX2_wentInEach 92 = .ok (.ireturn, 1) := by decide +kernel
noncomputable def B_X2_wentInEach_0 : pb_C := (i_const (.long 0) (i_lstore 4 (i_const (.int 0) (i_istore 6 (i_jmp 6 [true, true, true, true, true, false, true, false])))))
noncomputable def B_X2_wentInEach_6 : pb_C := (i_iload 6 (i_aload 0 (i_getR 61 5 (i_getI 5 3 (i_ic_ge (i_lload 4 (i_callS 1 1 M_J13_bitCount_95d88 (i_const (.int 2) (i_iload 3 (i_ibin (· * ·) (i_ic_ne (i_const (.int 0) i_zret) (i_const (.int 1) i_zret))))))) (i_aload 0 (i_getR 61 5 (i_getR 5 9 (i_iload 6 (i_ald 9 200 (i_iload 2 (i_iload 3 (i_ibin (· - ·) (i_ibin (· - ·) (i_istore 7 (i_iload 7 (i_const (.int 0) (i_const (.int 2) (i_iload 3 (i_ibin (· * ·) (i_const (.int 1) (i_ibin (· - ·) (i_callS 3 1 M_X11_outside (i_if_ne (i_iinc 6 1 (i_jmp 6 [true, true, true, true, true, false, true, false])) (i_aload 0 (i_getR 61 5 (i_iload 6 (i_iload 1 (i_callV 5 2 1 M_X1_wentFrom (i_if_eq (i_iinc 6 1 (i_jmp 6 [true, true, true, true, true, false, true, false])) (i_lload 4 (i_const (.long 1) (i_iload 7 (i_lsh (fun x y => x <<< (y.toInt64 &&& 63)) (i_lbin (· ||| ·) (i_lstore 4 (i_iinc 6 1 (i_jmp 6 [true, true, true, true, true, false, true, false]))))))))))))))))))))))))))))))))))))))
noncomputable def T_X2_wentInEach : Nat → pb_C := pb_tt [(0, B_X2_wentInEach_0), (6, B_X2_wentInEach_6)]
noncomputable def M_X2_wentInEach : pb_F := pb_M T_X2_wentInEach 8
set_option maxRecDepth 100000 in
set_option maxHeartbeats 4000000 in
theorem S_X2_wentInEach (l : Launch) : pb_Sound l yX2_wentInEach cX2_wentInEach 8 (some .boolean) 3 M_X2_wentInEach := by
  refine pb_sound_of (by decide) m_6_120 ?_
  intro Γ hl0 hRm0 hm X E hr J
  have hnL : ∀ j, j < 8 → j < Γ.2.2.2.2.2.2.2.2.2.2.2.1 := fun j h => by rw [hm]; exact h
  have hR : ∀ (d' mL : Nat), d' + 1 ≤ 3 ∧ 8 + (mL + 11) + d' * 64 ≤ 3 * 64 → (pb_rm d').frames + 1 ≤ Γ.2.2.2.1.frames ∧ 8 + (mL + 11) + (pb_rm d').locals ≤ Γ.2.2.2.1.locals := by rw [hRm0]; exact fun _ _ h => h
  have hRm : 1 ≤ 3 ∧ 64 ≤ 3 * 64 → 1 ≤ Γ.2.2.2.1.frames ∧ 64 ≤ Γ.2.2.2.1.locals := by rw [hRm0]; exact fun h => h
  exact pb_tt_snd _ (List.forall_mem_cons.mpr ⟨(s_lconst (pc := 0) X dX2_wentInEach_0 rfl (s_lstore (pc := 1) X dX2_wentInEach_1 (hnL _ (by decide)) (s_iconst (pc := 3) X dX2_wentInEach_3 rfl (s_istore (pc := 4) X dX2_wentInEach_4 (hnL _ (by decide)) (s_jmp (pc := 6) J [true, true, true, true, true, false, true, false]))))), List.forall_mem_cons.mpr ⟨(s_iload (pc := 6) X dX2_wentInEach_6 (s_aload_n (pc := 8) X dX2_wentInEach_8 rfl (s_getR (pc := 9) X dX2_wentInEach_9 g_X2_18 (s_getI (pc := 12) X dX2_wentInEach_12 g_X2_62 (s_ic_ge (pc := 15) X dX2_wentInEach_15 (by decide) (s_lload (pc := 76) X dX2_wentInEach_76 (s_callS (pc := 78) X dX2_wentInEach_78 (S_J13_bitCount_95d88 _) q_X2_70 (hR _ _ (by decide)) (s_iconst (pc := 81) X dX2_wentInEach_81 rfl (s_iload_n (pc := 82) X dX2_wentInEach_82 rfl (s_imul (pc := 83) X dX2_wentInEach_83 (s_ic_ne (pc := 84) X dX2_wentInEach_84 (by decide) (s_iconst (pc := 91) X dX2_wentInEach_91 rfl (s_zret (pc := 92) X E hr dX2_wentInEach_92)) (s_iconst (pc := 87) X dX2_wentInEach_87 rfl (s_goto (pc := 88) X dX2_wentInEach_88 (by decide) (s_zret (pc := 92) X E hr dX2_wentInEach_92))))))))) (s_aload_n (pc := 18) X dX2_wentInEach_18 rfl (s_getR (pc := 19) X dX2_wentInEach_19 g_X2_18 (s_getR (pc := 22) X dX2_wentInEach_22 g_X2_65 (s_iload (pc := 25) X dX2_wentInEach_25 (s_iald (pc := 27) X dX2_wentInEach_27 h_9 (s_iload_n (pc := 28) X dX2_wentInEach_28 rfl (s_iload_n (pc := 29) X dX2_wentInEach_29 rfl (s_isub (pc := 30) X dX2_wentInEach_30 (s_isub (pc := 31) X dX2_wentInEach_31 (s_istore (pc := 32) X dX2_wentInEach_32 (hnL _ (by decide)) (s_iload (pc := 34) X dX2_wentInEach_34 (s_iconst (pc := 36) X dX2_wentInEach_36 rfl (s_iconst (pc := 37) X dX2_wentInEach_37 rfl (s_iload_n (pc := 38) X dX2_wentInEach_38 rfl (s_imul (pc := 39) X dX2_wentInEach_39 (s_iconst (pc := 40) X dX2_wentInEach_40 rfl (s_isub (pc := 41) X dX2_wentInEach_41 (s_callS (pc := 42) X dX2_wentInEach_42 (S_X11_outside _) q_X2_30 (hR _ _ (by decide)) (s_if_ne (pc := 45) X dX2_wentInEach_45 (by decide) (s_iinc (pc := 70) X dX2_wentInEach_70 rfl (s_goto (pc := 73) X dX2_wentInEach_73 (by decide) (s_jmp (pc := 6) J [true, true, true, true, true, false, true, false]))) (s_aload_n (pc := 48) X dX2_wentInEach_48 rfl (s_getR (pc := 49) X dX2_wentInEach_49 g_X2_18 (s_iload (pc := 52) X dX2_wentInEach_52 (s_iload_n (pc := 54) X dX2_wentInEach_54 rfl (s_callV (pc := 55) X dX2_wentInEach_55 (S_X1_wentFrom _) q_X2_66 h_5 rfl (hR _ _ (by decide)) (s_if_eq (pc := 58) X dX2_wentInEach_58 (by decide) (s_iinc (pc := 70) X dX2_wentInEach_70 rfl (s_goto (pc := 73) X dX2_wentInEach_73 (by decide) (s_jmp (pc := 6) J [true, true, true, true, true, false, true, false]))) (s_lload (pc := 61) X dX2_wentInEach_61 (s_lconst (pc := 63) X dX2_wentInEach_63 rfl (s_iload (pc := 64) X dX2_wentInEach_64 (s_lshl (pc := 66) X dX2_wentInEach_66 (s_lor (pc := 67) X dX2_wentInEach_67 (s_lstore (pc := 68) X dX2_wentInEach_68 (hnL _ (by decide)) (s_iinc (pc := 70) X dX2_wentInEach_70 rfl (s_goto (pc := 73) X dX2_wentInEach_73 (by decide) (s_jmp (pc := 6) J [true, true, true, true, true, false, true, false]))))))))))))))))))))))))))))))))))))))), fun _ h => absurd h List.not_mem_nil⟩⟩)
theorem dX2_lostNear_0 : decode cX2_lostNear 0 = .ok (.iconst 0, 1) := by decide +kernel
theorem dX2_lostNear_1 : decode cX2_lostNear 1 = .ok (.istore 4, 2) := by decide +kernel
theorem dX2_lostNear_3 : decode cX2_lostNear 3 = .ok (.iload 4, 2) := by decide +kernel
theorem dX2_lostNear_5 : decode cX2_lostNear 5 = .ok (.aload_n 0, 1) := by decide +kernel
theorem dX2_lostNear_6 : decode cX2_lostNear 6 = .ok (.getfield 26, 3) := by decide +kernel
theorem dX2_lostNear_9 : decode cX2_lostNear 9 = .ok (.if_icmp .ge 43, 3) := by decide +kernel
theorem dX2_lostNear_12 : decode cX2_lostNear 12 = .ok (.aload_n 0, 1) := by decide +kernel
theorem dX2_lostNear_13 : decode cX2_lostNear 13 = .ok (.getfield 11, 3) := by decide +kernel
theorem dX2_lostNear_16 : decode cX2_lostNear 16 = .ok (.iload 4, 2) := by decide +kernel
theorem dX2_lostNear_18 : decode cX2_lostNear 18 = .ok (.iaload, 1) := by decide +kernel
theorem dX2_lostNear_19 : decode cX2_lostNear 19 = .ok (.iload_n 1, 1) := by decide +kernel
theorem dX2_lostNear_20 : decode cX2_lostNear 20 = .ok (.if_icmp .ne 26, 3) := by decide +kernel
theorem dX2_lostNear_23 : decode cX2_lostNear 23 = .ok (.aload_n 0, 1) := by decide +kernel
theorem dX2_lostNear_24 : decode cX2_lostNear 24 = .ok (.getfield 15, 3) := by decide +kernel
theorem dX2_lostNear_27 : decode cX2_lostNear 27 = .ok (.iload 4, 2) := by decide +kernel
theorem dX2_lostNear_29 : decode cX2_lostNear 29 = .ok (.iaload, 1) := by decide +kernel
theorem dX2_lostNear_30 : decode cX2_lostNear 30 = .ok (.iload_n 2, 1) := by decide +kernel
theorem dX2_lostNear_31 : decode cX2_lostNear 31 = .ok (.iload_n 3, 1) := by decide +kernel
theorem dX2_lostNear_32 : decode cX2_lostNear 32 = .ok (.isub, 1) := by decide +kernel
theorem dX2_lostNear_33 : decode cX2_lostNear 33 = .ok (.iload_n 2, 1) := by decide +kernel
theorem dX2_lostNear_34 : decode cX2_lostNear 34 = .ok (.iload_n 3, 1) := by decide +kernel
theorem dX2_lostNear_35 : decode cX2_lostNear 35 = .ok (.iadd, 1) := by decide +kernel
theorem dX2_lostNear_36 : decode cX2_lostNear 36 = .ok (.iconst 1, 1) := by decide +kernel
theorem dX2_lostNear_37 : decode cX2_lostNear 37 = .ok (.isub, 1) := by decide +kernel
theorem dX2_lostNear_38 : decode cX2_lostNear 38 = .ok (.invokestatic 30, 3) := by decide +kernel
theorem dX2_lostNear_41 : decode cX2_lostNear 41 = .ok (.ifCond .ne 5, 3) := by decide +kernel
theorem dX2_lostNear_44 : decode cX2_lostNear 44 = .ok (.iconst 1, 1) := by decide +kernel
theorem dX2_lostNear_45 : decode cX2_lostNear 45 = .ok (.ireturn, 1) := by decide +kernel
theorem dX2_lostNear_46 : decode cX2_lostNear 46 = .ok (.iinc 4 1, 3) := by decide +kernel
theorem dX2_lostNear_49 : decode cX2_lostNear 49 = .ok (.goto (-46), 3) := by decide +kernel
theorem dX2_lostNear_52 : decode cX2_lostNear 52 = .ok (.iconst 0, 1) := by decide +kernel
theorem dX2_lostNear_53 : decode cX2_lostNear 53 = .ok (.ireturn, 1) := by decide +kernel
noncomputable def B_X2_lostNear_0 : pb_C := (i_const (.int 0) (i_istore 4 (i_jmp 3 [true, true, true, true, true])))
noncomputable def B_X2_lostNear_3 : pb_C := (i_iload 4 (i_aload 0 (i_getI 61 2 (i_ic_ge (i_const (.int 0) i_zret) (i_aload 0 (i_getR 61 62 (i_iload 4 (i_ald 62 12 (i_iload 1 (i_ic_ne (i_iinc 4 1 (i_jmp 3 [true, true, true, true, true])) (i_aload 0 (i_getR 61 63 (i_iload 4 (i_ald 63 12 (i_iload 2 (i_iload 3 (i_ibin (· - ·) (i_iload 2 (i_iload 3 (i_ibin (· + ·) (i_const (.int 1) (i_ibin (· - ·) (i_callS 3 1 M_X11_outside (i_if_ne (i_iinc 4 1 (i_jmp 3 [true, true, true, true, true])) (i_const (.int 1) i_zret)))))))))))))))))))))))))
noncomputable def T_X2_lostNear : Nat → pb_C := pb_tt [(0, B_X2_lostNear_0), (3, B_X2_lostNear_3)]
noncomputable def M_X2_lostNear : pb_F := pb_M T_X2_lostNear 5
set_option maxRecDepth 100000 in
set_option maxHeartbeats 4000000 in
theorem S_X2_lostNear (l : Launch) : pb_Sound l yX2_lostNear cX2_lostNear 5 (some .boolean) 2 M_X2_lostNear := by
  refine pb_sound_of (by decide) m_6_131 ?_
  intro Γ hl0 hRm0 hm X E hr J
  have hnL : ∀ j, j < 5 → j < Γ.2.2.2.2.2.2.2.2.2.2.2.1 := fun j h => by rw [hm]; exact h
  have hR : ∀ (d' mL : Nat), d' + 1 ≤ 2 ∧ 8 + (mL + 11) + d' * 64 ≤ 2 * 64 → (pb_rm d').frames + 1 ≤ Γ.2.2.2.1.frames ∧ 8 + (mL + 11) + (pb_rm d').locals ≤ Γ.2.2.2.1.locals := by rw [hRm0]; exact fun _ _ h => h
  have hRm : 1 ≤ 2 ∧ 64 ≤ 2 * 64 → 1 ≤ Γ.2.2.2.1.frames ∧ 64 ≤ Γ.2.2.2.1.locals := by rw [hRm0]; exact fun h => h
  exact pb_tt_snd _ (List.forall_mem_cons.mpr ⟨(s_iconst (pc := 0) X dX2_lostNear_0 rfl (s_istore (pc := 1) X dX2_lostNear_1 (hnL _ (by decide)) (s_jmp (pc := 3) J [true, true, true, true, true]))), List.forall_mem_cons.mpr ⟨(s_iload (pc := 3) X dX2_lostNear_3 (s_aload_n (pc := 5) X dX2_lostNear_5 rfl (s_getI (pc := 6) X dX2_lostNear_6 g_X2_26 (s_ic_ge (pc := 9) X dX2_lostNear_9 (by decide) (s_iconst (pc := 52) X dX2_lostNear_52 rfl (s_zret (pc := 53) X E hr dX2_lostNear_53)) (s_aload_n (pc := 12) X dX2_lostNear_12 rfl (s_getR (pc := 13) X dX2_lostNear_13 g_X2_11 (s_iload (pc := 16) X dX2_lostNear_16 (s_iald (pc := 18) X dX2_lostNear_18 h_62 (s_iload_n (pc := 19) X dX2_lostNear_19 rfl (s_ic_ne (pc := 20) X dX2_lostNear_20 (by decide) (s_iinc (pc := 46) X dX2_lostNear_46 rfl (s_goto (pc := 49) X dX2_lostNear_49 (by decide) (s_jmp (pc := 3) J [true, true, true, true, true]))) (s_aload_n (pc := 23) X dX2_lostNear_23 rfl (s_getR (pc := 24) X dX2_lostNear_24 g_X2_15 (s_iload (pc := 27) X dX2_lostNear_27 (s_iald (pc := 29) X dX2_lostNear_29 h_63 (s_iload_n (pc := 30) X dX2_lostNear_30 rfl (s_iload_n (pc := 31) X dX2_lostNear_31 rfl (s_isub (pc := 32) X dX2_lostNear_32 (s_iload_n (pc := 33) X dX2_lostNear_33 rfl (s_iload_n (pc := 34) X dX2_lostNear_34 rfl (s_iadd (pc := 35) X dX2_lostNear_35 (s_iconst (pc := 36) X dX2_lostNear_36 rfl (s_isub (pc := 37) X dX2_lostNear_37 (s_callS (pc := 38) X dX2_lostNear_38 (S_X11_outside _) q_X2_30 (hR _ _ (by decide)) (s_if_ne (pc := 41) X dX2_lostNear_41 (by decide) (s_iinc (pc := 46) X dX2_lostNear_46 rfl (s_goto (pc := 49) X dX2_lostNear_49 (by decide) (s_jmp (pc := 3) J [true, true, true, true, true]))) (s_iconst (pc := 44) X dX2_lostNear_44 rfl (s_zret (pc := 45) X E hr dX2_lostNear_45)))))))))))))))))))))))))), fun _ h => absurd h List.not_mem_nil⟩⟩)
theorem dX2_isLike_0 : decode cX2_isLike 0 = .ok (.aload_n 0, 1) := by decide +kernel
theorem dX2_isLike_1 : decode cX2_isLike 1 = .ok (.getfield 11, 3) := by decide +kernel
theorem dX2_isLike_4 : decode cX2_isLike 4 = .ok (.iload_n 1, 1) := by decide +kernel
theorem dX2_isLike_5 : decode cX2_isLike 5 = .ok (.iaload, 1) := by decide +kernel
theorem dX2_isLike_6 : decode cX2_isLike 6 = .ok (.istore 4, 2) := by decide +kernel
theorem dX2_isLike_8 : decode cX2_isLike 8 = .ok (.iload_n 2, 1) := by decide +kernel
theorem dX2_isLike_9 : decode cX2_isLike 9 = .ok (.iload 4, 2) := by decide +kernel
theorem dX2_isLike_11 : decode cX2_isLike 11 = .ok (.if_icmp .eq 29, 3) := by decide +kernel
theorem dX2_isLike_14 : decode cX2_isLike 14 = .ok (.aload_n 0, 1) := by decide +kernel
theorem dX2_isLike_15 : decode cX2_isLike 15 = .ok (.getfield 18, 3) := by decide +kernel
theorem dX2_isLike_18 : decode cX2_isLike 18 = .ok (.getfield 56, 3) := by decide +kernel
theorem dX2_isLike_21 : decode cX2_isLike 21 = .ok (.iload_n 2, 1) := by decide +kernel
theorem dX2_isLike_22 : decode cX2_isLike 22 = .ok (.iaload, 1) := by decide +kernel
theorem dX2_isLike_23 : decode cX2_isLike 23 = .ok (.aload_n 0, 1) := by decide +kernel
theorem dX2_isLike_24 : decode cX2_isLike 24 = .ok (.getfield 18, 3) := by decide +kernel
theorem dX2_isLike_27 : decode cX2_isLike 27 = .ok (.getfield 56, 3) := by decide +kernel
theorem dX2_isLike_30 : decode cX2_isLike 30 = .ok (.iload 4, 2) := by decide +kernel
theorem dX2_isLike_32 : decode cX2_isLike 32 = .ok (.iaload, 1) := by decide +kernel
theorem dX2_isLike_33 : decode cX2_isLike 33 = .ok (.if_icmp .ne 7, 3) := by decide +kernel
theorem dX2_isLike_36 : decode cX2_isLike 36 = .ok (.iconst 1, 1) := by decide +kernel
theorem dX2_isLike_37 : decode cX2_isLike 37 = .ok (.goto 4, 3) := by decide +kernel
theorem dX2_isLike_40 : decode cX2_isLike 40 = .ok (.iconst 0, 1) := by decide +kernel
theorem dX2_isLike_41 : decode cX2_isLike 41 = .ok (.istore 5, 2) := by decide +kernel
theorem dX2_isLike_43 : decode cX2_isLike 43 = .ok (.iload 5, 2) := by decide +kernel
theorem dX2_isLike_45 : decode cX2_isLike 45 = .ok (.ifCond .eq 37, 3) := by decide +kernel
theorem dX2_isLike_48 : decode cX2_isLike 48 = .ok (.aload_n 0, 1) := by decide +kernel
theorem dX2_isLike_49 : decode cX2_isLike 49 = .ok (.iload_n 2, 1) := by decide +kernel
theorem dX2_isLike_50 : decode cX2_isLike 50 = .ok (.aload_n 0, 1) := by decide +kernel
theorem dX2_isLike_51 : decode cX2_isLike 51 = .ok (.getfield 15, 3) := by decide +kernel
theorem dX2_isLike_54 : decode cX2_isLike 54 = .ok (.iload_n 1, 1) := by decide +kernel
theorem dX2_isLike_55 : decode cX2_isLike 55 = .ok (.iaload, 1) := by decide +kernel
theorem dX2_isLike_56 : decode cX2_isLike 56 = .ok (.iload_n 3, 1) := by decide +kernel
theorem dX2_isLike_57 : decode cX2_isLike 57 = .ok (.invokevirtual 53, 3) := by decide +kernel
theorem dX2_isLike_60 : decode cX2_isLike 60 = .ok (.ifCond .eq 22, 3) := by decide +kernel
theorem dX2_isLike_63 : decode cX2_isLike 63 = .ok (.aload_n 0, 1) := by decide +kernel
theorem dX2_isLike_64 : decode cX2_isLike 64 = .ok (.iload_n 2, 1) := by decide +kernel
theorem dX2_isLike_65 : decode cX2_isLike 65 = .ok (.aload_n 0, 1) := by decide +kernel
theorem dX2_isLike_66 : decode cX2_isLike 66 = .ok (.getfield 15, 3) := by decide +kernel
theorem dX2_isLike_69 : decode cX2_isLike 69 = .ok (.iload_n 1, 1) := by decide +kernel
theorem dX2_isLike_70 : decode cX2_isLike 70 = .ok (.iaload, 1) := by decide +kernel
theorem dX2_isLike_71 : decode cX2_isLike 71 = .ok (.iload_n 3, 1) := by decide +kernel
theorem dX2_isLike_72 : decode cX2_isLike 72 = .ok (.invokevirtual 59, 3) := by decide +kernel
theorem dX2_isLike_75 : decode cX2_isLike 75 = .ok (.ifCond .ne 7, 3) := by decide +kernel
theorem dX2_isLike_78 : decode cX2_isLike 78 = .ok (.iconst 1, 1) := by decide +kernel
theorem dX2_isLike_79 : decode cX2_isLike 79 = .ok (.goto 4, 3) := by decide +kernel
theorem dX2_isLike_82 : decode cX2_isLike 82 = .ok (.iconst 0, 1) := by decide +kernel
theorem dX2_isLike_83 : decode cX2_isLike 83 = .ok (.ireturn, 1) := by decide +kernel
noncomputable def B_X2_isLike_0 : pb_C := (i_aload 0 (i_getR 61 62 (i_iload 1 (i_ald 62 12 (i_istore 4 (i_iload 2 (i_iload 4 (i_ic_eq (i_const (.int 0) (i_jmp 41 [true, true, true, true, false, false])) (i_aload 0 (i_getR 61 5 (i_getR 5 6 (i_iload 2 (i_ald 6 12 (i_aload 0 (i_getR 61 5 (i_getR 5 6 (i_iload 4 (i_ald 6 12 (i_ic_ne (i_const (.int 0) (i_jmp 41 [true, true, true, true, false, false])) (i_const (.int 1) (i_jmp 41 [true, true, true, true, false, false])))))))))))))))))))))
noncomputable def B_X2_isLike_41 : pb_C := (i_istore 5 (i_iload 5 (i_if_eq (i_const (.int 0) i_zret) (i_aload 0 (i_iload 2 (i_aload 0 (i_getR 61 63 (i_iload 1 (i_ald 63 12 (i_iload 3 (i_callV 61 3 1 M_X2_wentInEach (i_if_eq (i_const (.int 0) i_zret) (i_aload 0 (i_iload 2 (i_aload 0 (i_getR 61 63 (i_iload 1 (i_ald 63 12 (i_iload 3 (i_callV 61 3 1 M_X2_lostNear (i_if_ne (i_const (.int 0) i_zret) (i_const (.int 1) i_zret))))))))))))))))))))))
noncomputable def T_X2_isLike : Nat → pb_C := pb_tt [(0, B_X2_isLike_0), (41, B_X2_isLike_41)]
noncomputable def M_X2_isLike : pb_F := pb_M T_X2_isLike 6
set_option maxRecDepth 100000 in
set_option maxHeartbeats 4000000 in
theorem S_X2_isLike (l : Launch) : pb_Sound l yX2_isLike cX2_isLike 6 (some .boolean) 4 M_X2_isLike := by
  refine pb_sound_of (by decide) m_6_116 ?_
  intro Γ hl0 hRm0 hm X E hr J
  have hnL : ∀ j, j < 6 → j < Γ.2.2.2.2.2.2.2.2.2.2.2.1 := fun j h => by rw [hm]; exact h
  have hR : ∀ (d' mL : Nat), d' + 1 ≤ 4 ∧ 8 + (mL + 11) + d' * 64 ≤ 4 * 64 → (pb_rm d').frames + 1 ≤ Γ.2.2.2.1.frames ∧ 8 + (mL + 11) + (pb_rm d').locals ≤ Γ.2.2.2.1.locals := by rw [hRm0]; exact fun _ _ h => h
  have hRm : 1 ≤ 4 ∧ 64 ≤ 4 * 64 → 1 ≤ Γ.2.2.2.1.frames ∧ 64 ≤ Γ.2.2.2.1.locals := by rw [hRm0]; exact fun h => h
  exact pb_tt_snd _ (List.forall_mem_cons.mpr ⟨(s_aload_n (pc := 0) X dX2_isLike_0 rfl (s_getR (pc := 1) X dX2_isLike_1 g_X2_11 (s_iload_n (pc := 4) X dX2_isLike_4 rfl (s_iald (pc := 5) X dX2_isLike_5 h_62 (s_istore (pc := 6) X dX2_isLike_6 (hnL _ (by decide)) (s_iload_n (pc := 8) X dX2_isLike_8 rfl (s_iload (pc := 9) X dX2_isLike_9 (s_ic_eq (pc := 11) X dX2_isLike_11 (by decide) (s_iconst (pc := 40) X dX2_isLike_40 rfl (s_jmp (pc := 41) J [true, true, true, true, false, false])) (s_aload_n (pc := 14) X dX2_isLike_14 rfl (s_getR (pc := 15) X dX2_isLike_15 g_X2_18 (s_getR (pc := 18) X dX2_isLike_18 g_X2_56 (s_iload_n (pc := 21) X dX2_isLike_21 rfl (s_iald (pc := 22) X dX2_isLike_22 h_6 (s_aload_n (pc := 23) X dX2_isLike_23 rfl (s_getR (pc := 24) X dX2_isLike_24 g_X2_18 (s_getR (pc := 27) X dX2_isLike_27 g_X2_56 (s_iload (pc := 30) X dX2_isLike_30 (s_iald (pc := 32) X dX2_isLike_32 h_6 (s_ic_ne (pc := 33) X dX2_isLike_33 (by decide) (s_iconst (pc := 40) X dX2_isLike_40 rfl (s_jmp (pc := 41) J [true, true, true, true, false, false])) (s_iconst (pc := 36) X dX2_isLike_36 rfl (s_goto (pc := 37) X dX2_isLike_37 (by decide) (s_jmp (pc := 41) J [true, true, true, true, false, false])))))))))))))))))))))), List.forall_mem_cons.mpr ⟨(s_istore (pc := 41) X dX2_isLike_41 (hnL _ (by decide)) (s_iload (pc := 43) X dX2_isLike_43 (s_if_eq (pc := 45) X dX2_isLike_45 (by decide) (s_iconst (pc := 82) X dX2_isLike_82 rfl (s_zret (pc := 83) X E hr dX2_isLike_83)) (s_aload_n (pc := 48) X dX2_isLike_48 rfl (s_iload_n (pc := 49) X dX2_isLike_49 rfl (s_aload_n (pc := 50) X dX2_isLike_50 rfl (s_getR (pc := 51) X dX2_isLike_51 g_X2_15 (s_iload_n (pc := 54) X dX2_isLike_54 rfl (s_iald (pc := 55) X dX2_isLike_55 h_63 (s_iload_n (pc := 56) X dX2_isLike_56 rfl (s_callV (pc := 57) X dX2_isLike_57 (S_X2_wentInEach _) q_X2_53 h_61 rfl (hR _ _ (by decide)) (s_if_eq (pc := 60) X dX2_isLike_60 (by decide) (s_iconst (pc := 82) X dX2_isLike_82 rfl (s_zret (pc := 83) X E hr dX2_isLike_83)) (s_aload_n (pc := 63) X dX2_isLike_63 rfl (s_iload_n (pc := 64) X dX2_isLike_64 rfl (s_aload_n (pc := 65) X dX2_isLike_65 rfl (s_getR (pc := 66) X dX2_isLike_66 g_X2_15 (s_iload_n (pc := 69) X dX2_isLike_69 rfl (s_iald (pc := 70) X dX2_isLike_70 h_63 (s_iload_n (pc := 71) X dX2_isLike_71 rfl (s_callV (pc := 72) X dX2_isLike_72 (S_X2_lostNear _) q_X2_59 h_61 rfl (hR _ _ (by decide)) (s_if_ne (pc := 75) X dX2_isLike_75 (by decide) (s_iconst (pc := 82) X dX2_isLike_82 rfl (s_zret (pc := 83) X E hr dX2_isLike_83)) (s_iconst (pc := 78) X dX2_isLike_78 rfl (s_goto (pc := 79) X dX2_isLike_79 (by decide) (s_zret (pc := 83) X E hr dX2_isLike_83)))))))))))))))))))))))), fun _ h => absurd h List.not_mem_nil⟩⟩)
theorem dX2_turn_0 : decode cX2_turn 0 = .ok (.lconst 0, 1) := by decide +kernel
theorem dX2_turn_1 : decode cX2_turn 1 = .ok (.lstore 6, 2) := by decide +kernel
theorem dX2_turn_3 : decode cX2_turn 3 = .ok (.iconst 0, 1) := by decide +kernel
theorem dX2_turn_4 : decode cX2_turn 4 = .ok (.istore 8, 2) := by decide +kernel
theorem dX2_turn_6 : decode cX2_turn 6 = .ok (.iload 8, 2) := by decide +kernel
theorem dX2_turn_8 : decode cX2_turn 8 = .ok (.aload_n 0, 1) := by decide +kernel
theorem dX2_turn_9 : decode cX2_turn 9 = .ok (.getfield 18, 3) := by decide +kernel
theorem dX2_turn_12 : decode cX2_turn 12 = .ok (.getfield 62, 3) := by decide +kernel
theorem dX2_turn_15 : decode cX2_turn 15 = .ok (.if_icmp .ge 114, 3) := by decide +kernel
theorem dX2_turn_18 : decode cX2_turn 18 = .ok (.aload_n 0, 1) := by decide +kernel
theorem dX2_turn_19 : decode cX2_turn 19 = .ok (.getfield 18, 3) := by decide +kernel
theorem dX2_turn_22 : decode cX2_turn 22 = .ok (.getfield 65, 3) := by decide +kernel
theorem dX2_turn_25 : decode cX2_turn 25 = .ok (.iload 8, 2) := by decide +kernel
theorem dX2_turn_27 : decode cX2_turn 27 = .ok (.iaload, 1) := by decide +kernel
theorem dX2_turn_28 : decode cX2_turn 28 = .ok (.iload_n 2, 1) := by decide +kernel
theorem dX2_turn_29 : decode cX2_turn 29 = .ok (.isub, 1) := by decide +kernel
theorem dX2_turn_30 : decode cX2_turn 30 = .ok (.istore 9, 2) := by decide +kernel
theorem dX2_turn_32 : decode cX2_turn 32 = .ok (.iload 9, 2) := by decide +kernel
theorem dX2_turn_34 : decode cX2_turn 34 = .ok (.iload 5, 2) := by decide +kernel
theorem dX2_turn_36 : decode cX2_turn 36 = .ok (.ineg, 1) := by decide +kernel
theorem dX2_turn_37 : decode cX2_turn 37 = .ok (.iload 5, 2) := by decide +kernel
theorem dX2_turn_39 : decode cX2_turn 39 = .ok (.iconst 1, 1) := by decide +kernel
theorem dX2_turn_40 : decode cX2_turn 40 = .ok (.isub, 1) := by decide +kernel
theorem dX2_turn_41 : decode cX2_turn 41 = .ok (.invokestatic 30, 3) := by decide +kernel
theorem dX2_turn_44 : decode cX2_turn 44 = .ok (.ifCond .ne 7, 3) := by decide +kernel
theorem dX2_turn_47 : decode cX2_turn 47 = .ok (.iconst 1, 1) := by decide +kernel
theorem dX2_turn_48 : decode cX2_turn 48 = .ok (.goto 4, 3) := by decide +kernel
theorem dX2_turn_51 : decode cX2_turn 51 = .ok (.iconst 0, 1) := by decide +kernel
theorem dX2_turn_52 : decode cX2_turn 52 = .ok (.istore 10, 2) := by decide +kernel
theorem dX2_turn_54 : decode cX2_turn 54 = .ok (.iload 10, 2) := by decide +kernel
theorem dX2_turn_56 : decode cX2_turn 56 = .ok (.ifCond .eq 67, 3) := by decide +kernel
theorem dX2_turn_59 : decode cX2_turn 59 = .ok (.aload_n 0, 1) := by decide +kernel
theorem dX2_turn_60 : decode cX2_turn 60 = .ok (.getfield 18, 3) := by decide +kernel
theorem dX2_turn_63 : decode cX2_turn 63 = .ok (.iload 8, 2) := by decide +kernel
theorem dX2_turn_65 : decode cX2_turn 65 = .ok (.iload_n 1, 1) := by decide +kernel
theorem dX2_turn_66 : decode cX2_turn 66 = .ok (.invokevirtual 66, 3) := by decide +kernel
theorem dX2_turn_69 : decode cX2_turn 69 = .ok (.ifCond .eq 54, 3) := by decide +kernel
theorem dX2_turn_72 : decode cX2_turn 72 = .ok (.aload_n 0, 1) := by decide +kernel
theorem dX2_turn_73 : decode cX2_turn 73 = .ok (.getfield 22, 3) := by decide +kernel
theorem dX2_turn_76 : decode cX2_turn 76 = .ok (.iload 8, 2) := by decide +kernel
theorem dX2_turn_78 : decode cX2_turn 78 = .ok (.iload_n 3, 1) := by decide +kernel
theorem dX2_turn_79 : decode cX2_turn 79 = .ok (.iload 4, 2) := by decide +kernel
theorem dX2_turn_81 : decode cX2_turn 81 = .ok (.invokevirtual 76, 3) := by decide +kernel
theorem dX2_turn_84 : decode cX2_turn 84 = .ok (.ifCond .eq 39, 3) := by decide +kernel
theorem dX2_turn_87 : decode cX2_turn 87 = .ok (.lload 6, 2) := by decide +kernel
theorem dX2_turn_89 : decode cX2_turn 89 = .ok (.iload 9, 2) := by decide +kernel
theorem dX2_turn_91 : decode cX2_turn 91 = .ok (.ifCond .lt 17, 3) := by decide +kernel
theorem dX2_turn_94 : decode cX2_turn 94 = .ok (.aload_n 0, 1) := by decide +kernel
theorem dX2_turn_95 : decode cX2_turn 95 = .ok (.getfield 18, 3) := by decide +kernel
theorem dX2_turn_98 : decode cX2_turn 98 = .ok (.getfield 81, 3) := by decide +kernel
theorem dX2_turn_101 : decode cX2_turn 101 = .ok (.iload 8, 2) := by decide +kernel
theorem dX2_turn_103 : decode cX2_turn 103 = .ok (.iaload, 1) := by decide +kernel
theorem dX2_turn_104 : decode cX2_turn 104 = .ok (.i2l, 1) := by decide +kernel
theorem dX2_turn_105 : decode cX2_turn 105 = .ok (.goto 15, 3) := by decide +kernel
theorem dX2_turn_108 : decode cX2_turn 108 = .ok (.aload_n 0, 1) := by decide +kernel
theorem dX2_turn_109 : decode cX2_turn 109 = .ok (.getfield 18, 3) := by decide +kernel
theorem dX2_turn_112 : decode cX2_turn 112 = .ok (.getfield 81, 3) := by decide +kernel
theorem dX2_turn_115 : decode cX2_turn 115 = .ok (.iload 8, 2) := by decide +kernel
theorem dX2_turn_117 : decode cX2_turn 117 = .ok (.iaload, 1) := by decide +kernel
theorem dX2_turn_118 : decode cX2_turn 118 = .ok (.ineg, 1) := by decide +kernel
theorem dX2_turn_119 : decode cX2_turn 119 = .ok (.i2l, 1) := by decide +kernel
theorem dX2_turn_120 : decode cX2_turn 120 = .ok (.ladd, 1) := by decide +kernel
theorem dX2_turn_121 : decode cX2_turn 121 = .ok (.lstore 6, 2) := by decide +kernel
theorem dX2_turn_123 : decode cX2_turn 123 = .ok (.iinc 8 1, 3) := by decide +kernel
theorem dX2_turn_126 : decode cX2_turn 126 = .ok (.goto (-120), 3) := by decide +kernel
theorem dX2_turn_129 : decode cX2_turn 129 = .ok (.lload 6, 2) := by decide +kernel
theorem dX2_turn_131 : decode cX2_turn 131 = .ok (.lreturn, 1) := by decide +kernel
noncomputable def B_X2_turn_0 : pb_C := (i_const (.long 0) (i_lstore 6 (i_const (.int 0) (i_istore 8 (i_jmp 6 [true, true, true, true, true, true, true, false, true, false, false])))))
noncomputable def B_X2_turn_6 : pb_C := (i_iload 8 (i_aload 0 (i_getR 61 5 (i_getI 5 3 (i_ic_ge (i_lload 6 i_lret) (i_aload 0 (i_getR 61 5 (i_getR 5 9 (i_iload 8 (i_ald 9 200 (i_iload 2 (i_ibin (· - ·) (i_istore 9 (i_iload 9 (i_iload 5 (i_iun (fun x => -x) (i_iload 5 (i_const (.int 1) (i_ibin (· - ·) (i_callS 3 1 M_X11_outside (i_if_ne (i_const (.int 0) (i_jmp 52 [true, true, true, true, true, true, true, false, true, true, false])) (i_const (.int 1) (i_jmp 52 [true, true, true, true, true, true, true, false, true, true, false])))))))))))))))))))))))
noncomputable def B_X2_turn_52 : pb_C := (i_istore 10 (i_iload 10 (i_if_eq (i_iinc 8 1 (i_jmp 6 [true, true, true, true, true, true, true, false, true, false, false])) (i_aload 0 (i_getR 61 5 (i_iload 8 (i_iload 1 (i_callV 5 2 1 M_X1_wentFrom (i_if_eq (i_iinc 8 1 (i_jmp 6 [true, true, true, true, true, true, true, false, true, false, false])) (i_aload 0 (i_getR 61 25 (i_iload 8 (i_iload 3 (i_iload 4 (i_callV 25 3 1 M_X0_isOn (i_if_eq (i_iinc 8 1 (i_jmp 6 [true, true, true, true, true, true, true, false, true, false, false])) (i_lload 6 (i_iload 9 (i_if_lt (i_aload 0 (i_getR 61 5 (i_getR 5 16 (i_iload 8 (i_ald 16 200 (i_iun (fun x => -x) (i_i2l (i_lbin (· + ·) (i_lstore 6 (i_iinc 8 1 (i_jmp 6 [true, true, true, true, true, true, true, false, true, false, false]))))))))))) (i_aload 0 (i_getR 61 5 (i_getR 5 16 (i_iload 8 (i_ald 16 200 (i_i2l (i_lbin (· + ·) (i_lstore 6 (i_iinc 8 1 (i_jmp 6 [true, true, true, true, true, true, true, false, true, false, false])))))))))))))))))))))))))))))
noncomputable def T_X2_turn : Nat → pb_C := pb_tt [(0, B_X2_turn_0), (6, B_X2_turn_6), (52, B_X2_turn_52)]
noncomputable def M_X2_turn : pb_F := pb_M T_X2_turn 11
set_option maxRecDepth 100000 in
set_option maxHeartbeats 4000000 in
theorem S_X2_turn (l : Launch) : pb_Sound l yX2_turn cX2_turn 11 (some .long) 3 M_X2_turn := by
  refine pb_sound_of (by decide) m_6_135 ?_
  intro Γ hl0 hRm0 hm X E hr J
  have hnL : ∀ j, j < 11 → j < Γ.2.2.2.2.2.2.2.2.2.2.2.1 := fun j h => by rw [hm]; exact h
  have hR : ∀ (d' mL : Nat), d' + 1 ≤ 3 ∧ 8 + (mL + 11) + d' * 64 ≤ 3 * 64 → (pb_rm d').frames + 1 ≤ Γ.2.2.2.1.frames ∧ 8 + (mL + 11) + (pb_rm d').locals ≤ Γ.2.2.2.1.locals := by rw [hRm0]; exact fun _ _ h => h
  have hRm : 1 ≤ 3 ∧ 64 ≤ 3 * 64 → 1 ≤ Γ.2.2.2.1.frames ∧ 64 ≤ Γ.2.2.2.1.locals := by rw [hRm0]; exact fun h => h
  exact pb_tt_snd _ (List.forall_mem_cons.mpr ⟨(s_lconst (pc := 0) X dX2_turn_0 rfl (s_lstore (pc := 1) X dX2_turn_1 (hnL _ (by decide)) (s_iconst (pc := 3) X dX2_turn_3 rfl (s_istore (pc := 4) X dX2_turn_4 (hnL _ (by decide)) (s_jmp (pc := 6) J [true, true, true, true, true, true, true, false, true, false, false]))))), List.forall_mem_cons.mpr ⟨(s_iload (pc := 6) X dX2_turn_6 (s_aload_n (pc := 8) X dX2_turn_8 rfl (s_getR (pc := 9) X dX2_turn_9 g_X2_18 (s_getI (pc := 12) X dX2_turn_12 g_X2_62 (s_ic_ge (pc := 15) X dX2_turn_15 (by decide) (s_lload (pc := 129) X dX2_turn_129 (s_lret (pc := 131) X E hr dX2_turn_131)) (s_aload_n (pc := 18) X dX2_turn_18 rfl (s_getR (pc := 19) X dX2_turn_19 g_X2_18 (s_getR (pc := 22) X dX2_turn_22 g_X2_65 (s_iload (pc := 25) X dX2_turn_25 (s_iald (pc := 27) X dX2_turn_27 h_9 (s_iload_n (pc := 28) X dX2_turn_28 rfl (s_isub (pc := 29) X dX2_turn_29 (s_istore (pc := 30) X dX2_turn_30 (hnL _ (by decide)) (s_iload (pc := 32) X dX2_turn_32 (s_iload (pc := 34) X dX2_turn_34 (s_ineg (pc := 36) X dX2_turn_36 (s_iload (pc := 37) X dX2_turn_37 (s_iconst (pc := 39) X dX2_turn_39 rfl (s_isub (pc := 40) X dX2_turn_40 (s_callS (pc := 41) X dX2_turn_41 (S_X11_outside _) q_X2_30 (hR _ _ (by decide)) (s_if_ne (pc := 44) X dX2_turn_44 (by decide) (s_iconst (pc := 51) X dX2_turn_51 rfl (s_jmp (pc := 52) J [true, true, true, true, true, true, true, false, true, true, false])) (s_iconst (pc := 47) X dX2_turn_47 rfl (s_goto (pc := 48) X dX2_turn_48 (by decide) (s_jmp (pc := 52) J [true, true, true, true, true, true, true, false, true, true, false])))))))))))))))))))))))), List.forall_mem_cons.mpr ⟨(s_istore (pc := 52) X dX2_turn_52 (hnL _ (by decide)) (s_iload (pc := 54) X dX2_turn_54 (s_if_eq (pc := 56) X dX2_turn_56 (by decide) (s_iinc (pc := 123) X dX2_turn_123 rfl (s_goto (pc := 126) X dX2_turn_126 (by decide) (s_jmp (pc := 6) J [true, true, true, true, true, true, true, false, true, false, false]))) (s_aload_n (pc := 59) X dX2_turn_59 rfl (s_getR (pc := 60) X dX2_turn_60 g_X2_18 (s_iload (pc := 63) X dX2_turn_63 (s_iload_n (pc := 65) X dX2_turn_65 rfl (s_callV (pc := 66) X dX2_turn_66 (S_X1_wentFrom _) q_X2_66 h_5 rfl (hR _ _ (by decide)) (s_if_eq (pc := 69) X dX2_turn_69 (by decide) (s_iinc (pc := 123) X dX2_turn_123 rfl (s_goto (pc := 126) X dX2_turn_126 (by decide) (s_jmp (pc := 6) J [true, true, true, true, true, true, true, false, true, false, false]))) (s_aload_n (pc := 72) X dX2_turn_72 rfl (s_getR (pc := 73) X dX2_turn_73 g_X2_22 (s_iload (pc := 76) X dX2_turn_76 (s_iload_n (pc := 78) X dX2_turn_78 rfl (s_iload (pc := 79) X dX2_turn_79 (s_callV (pc := 81) X dX2_turn_81 (S_X0_isOn _) q_X2_76 h_25 rfl (hR _ _ (by decide)) (s_if_eq (pc := 84) X dX2_turn_84 (by decide) (s_iinc (pc := 123) X dX2_turn_123 rfl (s_goto (pc := 126) X dX2_turn_126 (by decide) (s_jmp (pc := 6) J [true, true, true, true, true, true, true, false, true, false, false]))) (s_lload (pc := 87) X dX2_turn_87 (s_iload (pc := 89) X dX2_turn_89 (s_if_lt (pc := 91) X dX2_turn_91 (by decide) (s_aload_n (pc := 108) X dX2_turn_108 rfl (s_getR (pc := 109) X dX2_turn_109 g_X2_18 (s_getR (pc := 112) X dX2_turn_112 g_X2_81 (s_iload (pc := 115) X dX2_turn_115 (s_iald (pc := 117) X dX2_turn_117 h_16 (s_ineg (pc := 118) X dX2_turn_118 (s_i2l (pc := 119) X dX2_turn_119 (s_ladd (pc := 120) X dX2_turn_120 (s_lstore (pc := 121) X dX2_turn_121 (hnL _ (by decide)) (s_iinc (pc := 123) X dX2_turn_123 rfl (s_goto (pc := 126) X dX2_turn_126 (by decide) (s_jmp (pc := 6) J [true, true, true, true, true, true, true, false, true, false, false])))))))))))) (s_aload_n (pc := 94) X dX2_turn_94 rfl (s_getR (pc := 95) X dX2_turn_95 g_X2_18 (s_getR (pc := 98) X dX2_turn_98 g_X2_81 (s_iload (pc := 101) X dX2_turn_101 (s_iald (pc := 103) X dX2_turn_103 h_16 (s_i2l (pc := 104) X dX2_turn_104 (s_goto (pc := 105) X dX2_turn_105 (by decide) (s_ladd (pc := 120) X dX2_turn_120 (s_lstore (pc := 121) X dX2_turn_121 (hnL _ (by decide)) (s_iinc (pc := 123) X dX2_turn_123 rfl (s_goto (pc := 126) X dX2_turn_126 (by decide) (s_jmp (pc := 6) J [true, true, true, true, true, true, true, false, true, false, false]))))))))))))))))))))))))))))))), fun _ h => absurd h List.not_mem_nil⟩⟩⟩)
theorem dX2_measure_0 : decode cX2_measure 0 = .ok (.aload_n 0, 1) := by decide +kernel
theorem dX2_measure_1 : decode cX2_measure 1 = .ok (.getfield 15, 3) := by decide +kernel
theorem dX2_measure_4 : decode cX2_measure 4 = .ok (.iload_n 1, 1) := by decide +kernel
theorem dX2_measure_5 : decode cX2_measure 5 = .ok (.iaload, 1) := by decide +kernel
theorem dX2_measure_6 : decode cX2_measure 6 = .ok (.istore 5, 2) := by decide +kernel
theorem dX2_measure_8 : decode cX2_measure 8 = .ok (.lconst 0, 1) := by decide +kernel
theorem dX2_measure_9 : decode cX2_measure 9 = .ok (.lstore 6, 2) := by decide +kernel
theorem dX2_measure_11 : decode cX2_measure 11 = .ok (.lconst 0, 1) := by decide +kernel
theorem dX2_measure_12 : decode cX2_measure 12 = .ok (.lstore 8, 2) := by decide +kernel
theorem dX2_measure_14 : decode cX2_measure 14 = .ok (.iconst 0, 1) := by decide +kernel
theorem dX2_measure_15 : decode cX2_measure 15 = .ok (.istore 10, 2) := by decide +kernel
theorem dX2_measure_17 : decode cX2_measure 17 = .ok (.iload 10, 2) := by decide +kernel
theorem dX2_measure_19 : decode cX2_measure 19 = .ok (.aload_n 0, 1) := by decide +kernel
theorem dX2_measure_20 : decode cX2_measure 20 = .ok (.getfield 18, 3) := by decide +kernel
theorem dX2_measure_23 : decode cX2_measure 23 = .ok (.getfield 34, 3) := by decide +kernel
theorem dX2_measure_26 : decode cX2_measure 26 = .ok (.if_icmp .ge 44, 3) := by decide +kernel
theorem dX2_measure_29 : decode cX2_measure 29 = .ok (.aload_n 0, 1) := by decide +kernel
theorem dX2_measure_30 : decode cX2_measure 30 = .ok (.iload_n 1, 1) := by decide +kernel
theorem dX2_measure_31 : decode cX2_measure 31 = .ok (.iload 10, 2) := by decide +kernel
theorem dX2_measure_33 : decode cX2_measure 33 = .ok (.iload 4, 2) := by decide +kernel
theorem dX2_measure_35 : decode cX2_measure 35 = .ok (.invokevirtual 39, 3) := by decide +kernel
theorem dX2_measure_38 : decode cX2_measure 38 = .ok (.ifCond .eq 26, 3) := by decide +kernel
theorem dX2_measure_41 : decode cX2_measure 41 = .ok (.lload 6, 2) := by decide +kernel
theorem dX2_measure_43 : decode cX2_measure 43 = .ok (.lconst 1, 1) := by decide +kernel
theorem dX2_measure_44 : decode cX2_measure 44 = .ok (.ladd, 1) := by decide +kernel
theorem dX2_measure_45 : decode cX2_measure 45 = .ok (.lstore 6, 2) := by decide +kernel
theorem dX2_measure_47 : decode cX2_measure 47 = .ok (.lload 8, 2) := by decide +kernel
theorem dX2_measure_49 : decode cX2_measure 49 = .ok (.aload_n 0, 1) := by decide +kernel
theorem dX2_measure_50 : decode cX2_measure 50 = .ok (.iload 10, 2) := by decide +kernel
theorem dX2_measure_52 : decode cX2_measure 52 = .ok (.iload 5, 2) := by decide +kernel
theorem dX2_measure_54 : decode cX2_measure 54 = .ok (.iload_n 2, 1) := by decide +kernel
theorem dX2_measure_55 : decode cX2_measure 55 = .ok (.iload_n 3, 1) := by decide +kernel
theorem dX2_measure_56 : decode cX2_measure 56 = .ok (.iload 4, 2) := by decide +kernel
theorem dX2_measure_58 : decode cX2_measure 58 = .ok (.invokevirtual 42, 3) := by decide +kernel
theorem dX2_measure_61 : decode cX2_measure 61 = .ok (.ladd, 1) := by decide +kernel
theorem dX2_measure_62 : decode cX2_measure 62 = .ok (.lstore 8, 2) := by decide +kernel
theorem dX2_measure_64 : decode cX2_measure 64 = .ok (.iinc 10 1, 3) := by decide +kernel
theorem dX2_measure_67 : decode cX2_measure 67 = .ok (.goto (-50), 3) := by decide +kernel
theorem dX2_measure_70 : decode cX2_measure 70 = .ok (.aload_n 0, 1) := by decide +kernel
theorem dX2_measure_71 : decode cX2_measure 71 = .ok (.aload_n 0, 1) := by decide +kernel
theorem dX2_measure_72 : decode cX2_measure 72 = .ok (.aload_n 0, 1) := by decide +kernel
theorem dX2_measure_73 : decode cX2_measure 73 = .ok (.getfield 11, 3) := by decide +kernel
theorem dX2_measure_76 : decode cX2_measure 76 = .ok (.iload_n 1, 1) := by decide +kernel
theorem dX2_measure_77 : decode cX2_measure 77 = .ok (.iaload, 1) := by decide +kernel
theorem dX2_measure_78 : decode cX2_measure 78 = .ok (.iload 5, 2) := by decide +kernel
theorem dX2_measure_80 : decode cX2_measure 80 = .ok (.iload_n 2, 1) := by decide +kernel
theorem dX2_measure_81 : decode cX2_measure 81 = .ok (.iload_n 3, 1) := by decide +kernel
theorem dX2_measure_82 : decode cX2_measure 82 = .ok (.iload 4, 2) := by decide +kernel
theorem dX2_measure_84 : decode cX2_measure 84 = .ok (.invokevirtual 42, 3) := by decide +kernel
theorem dX2_measure_87 : decode cX2_measure 87 = .ok (.lload 6, 2) := by decide +kernel
theorem dX2_measure_89 : decode cX2_measure 89 = .ok (.lmul, 1) := by decide +kernel
theorem dX2_measure_90 : decode cX2_measure 90 = .ok (.lload 8, 2) := by decide +kernel
theorem dX2_measure_92 : decode cX2_measure 92 = .ok (.lsub, 1) := by decide +kernel
theorem dX2_measure_93 : decode cX2_measure 93 = .ok (.putfield 46, 3) := by decide +kernel
theorem dX2_measure_96 : decode cX2_measure 96 = .ok (.aload_n 0, 1) := by decide +kernel
theorem dX2_measure_97 : decode cX2_measure 97 = .ok (.lload 6, 2) := by decide +kernel
theorem dX2_measure_99 : decode cX2_measure 99 = .ok (.putfield 50, 3) := by decide +kernel
theorem dX2_measure_102 : decode cX2_measure 102 = .ok (.lload 6, 2) := by decide +kernel
theorem dX2_measure_104 : decode cX2_measure 104 = .ok (.lconst 0, 1) := by decide +kernel
theorem dX2_measure_105 : decode cX2_measure 105 = .ok (.lcmp, 1) := by decide +kernel
theorem dX2_measure_106 : decode cX2_measure 106 = .ok (.ifCond .le 24, 3) := by decide +kernel
theorem dX2_measure_109 : decode cX2_measure 109 = .ok (.aload_n 0, 1) := by decide +kernel
theorem dX2_measure_110 : decode cX2_measure 110 = .ok (.aload_n 0, 1) := by decide +kernel
theorem dX2_measure_111 : decode cX2_measure 111 = .ok (.getfield 11, 3) := by decide +kernel
theorem dX2_measure_114 : decode cX2_measure 114 = .ok (.iload_n 1, 1) := by decide +kernel
theorem dX2_measure_115 : decode cX2_measure 115 = .ok (.iaload, 1) := by decide +kernel
theorem dX2_measure_116 : decode cX2_measure 116 = .ok (.iload 5, 2) := by decide +kernel
theorem dX2_measure_118 : decode cX2_measure 118 = .ok (.iload 4, 2) := by decide +kernel
theorem dX2_measure_120 : decode cX2_measure 120 = .ok (.invokevirtual 53, 3) := by decide +kernel
theorem dX2_measure_123 : decode cX2_measure 123 = .ok (.ifCond .eq 7, 3) := by decide +kernel
theorem dX2_measure_126 : decode cX2_measure 126 = .ok (.iconst 1, 1) := by decide +kernel
theorem dX2_measure_127 : decode cX2_measure 127 = .ok (.goto 4, 3) := by decide +kernel
theorem dX2_measure_130 : decode cX2_measure 130 = .ok (.iconst 0, 1) := by decide +kernel
theorem dX2_measure_131 : decode cX2_measure 131 = .ok (.ireturn, 1) := by decide +kernel
noncomputable def B_X2_measure_0 : pb_C := (i_aload 0 (i_getR 61 63 (i_iload 1 (i_ald 63 12 (i_istore 5 (i_const (.long 0) (i_lstore 6 (i_const (.long 0) (i_lstore 8 (i_const (.int 0) (i_istore 10 (i_jmp 17 [true, true, true, true, true, true, true, false, true, false, true]))))))))))))
noncomputable def B_X2_measure_17 : pb_C := (i_iload 10 (i_aload 0 (i_getR 61 5 (i_getI 5 0 (i_ic_ge (i_aload 0 (i_aload 0 (i_aload 0 (i_getR 61 62 (i_iload 1 (i_ald 62 12 (i_iload 5 (i_iload 2 (i_iload 3 (i_iload 4 (i_callV 61 5 2 M_X2_turn (i_lload 6 (i_lbin (· * ·) (i_lload 8 (i_lbin (· - ·) (i_putL 61 5 (i_aload 0 (i_lload 6 (i_putL 61 6 (i_lload 6 (i_const (.long 0) (i_lcmp (i_if_le (i_const (.int 0) i_zret) (i_aload 0 (i_aload 0 (i_getR 61 62 (i_iload 1 (i_ald 62 12 (i_iload 5 (i_iload 4 (i_callV 61 3 1 M_X2_wentInEach (i_if_eq (i_const (.int 0) i_zret) (i_const (.int 1) i_zret))))))))))))))))))))))))))))))))) (i_aload 0 (i_iload 1 (i_iload 10 (i_iload 4 (i_callV 61 3 1 M_X2_isLike (i_if_eq (i_iinc 10 1 (i_jmp 17 [true, true, true, true, true, true, true, false, true, false, true])) (i_lload 6 (i_const (.long 1) (i_lbin (· + ·) (i_lstore 6 (i_lload 8 (i_aload 0 (i_iload 10 (i_iload 5 (i_iload 2 (i_iload 3 (i_iload 4 (i_callV 61 5 2 M_X2_turn (i_lbin (· + ·) (i_lstore 8 (i_iinc 10 1 (i_jmp 17 [true, true, true, true, true, true, true, false, true, false, true])))))))))))))))))))))))))))
noncomputable def T_X2_measure : Nat → pb_C := pb_tt [(0, B_X2_measure_0), (17, B_X2_measure_17)]
noncomputable def M_X2_measure : pb_F := pb_M T_X2_measure 11
set_option maxRecDepth 100000 in
set_option maxHeartbeats 4000000 in
theorem S_X2_measure (l : Launch) : pb_Sound l yX2_measure cX2_measure 11 (some .boolean) 5 M_X2_measure := by
  refine pb_sound_of (by decide) m_6_112 ?_
  intro Γ hl0 hRm0 hm X E hr J
  have hnL : ∀ j, j < 11 → j < Γ.2.2.2.2.2.2.2.2.2.2.2.1 := fun j h => by rw [hm]; exact h
  have hR : ∀ (d' mL : Nat), d' + 1 ≤ 5 ∧ 8 + (mL + 11) + d' * 64 ≤ 5 * 64 → (pb_rm d').frames + 1 ≤ Γ.2.2.2.1.frames ∧ 8 + (mL + 11) + (pb_rm d').locals ≤ Γ.2.2.2.1.locals := by rw [hRm0]; exact fun _ _ h => h
  have hRm : 1 ≤ 5 ∧ 64 ≤ 5 * 64 → 1 ≤ Γ.2.2.2.1.frames ∧ 64 ≤ Γ.2.2.2.1.locals := by rw [hRm0]; exact fun h => h
  exact pb_tt_snd _ (List.forall_mem_cons.mpr ⟨(s_aload_n (pc := 0) X dX2_measure_0 rfl (s_getR (pc := 1) X dX2_measure_1 g_X2_15 (s_iload_n (pc := 4) X dX2_measure_4 rfl (s_iald (pc := 5) X dX2_measure_5 h_63 (s_istore (pc := 6) X dX2_measure_6 (hnL _ (by decide)) (s_lconst (pc := 8) X dX2_measure_8 rfl (s_lstore (pc := 9) X dX2_measure_9 (hnL _ (by decide)) (s_lconst (pc := 11) X dX2_measure_11 rfl (s_lstore (pc := 12) X dX2_measure_12 (hnL _ (by decide)) (s_iconst (pc := 14) X dX2_measure_14 rfl (s_istore (pc := 15) X dX2_measure_15 (hnL _ (by decide)) (s_jmp (pc := 17) J [true, true, true, true, true, true, true, false, true, false, true])))))))))))), List.forall_mem_cons.mpr ⟨(s_iload (pc := 17) X dX2_measure_17 (s_aload_n (pc := 19) X dX2_measure_19 rfl (s_getR (pc := 20) X dX2_measure_20 g_X2_18 (s_getI (pc := 23) X dX2_measure_23 g_X2_34 (s_ic_ge (pc := 26) X dX2_measure_26 (by decide) (s_aload_n (pc := 70) X dX2_measure_70 rfl (s_aload_n (pc := 71) X dX2_measure_71 rfl (s_aload_n (pc := 72) X dX2_measure_72 rfl (s_getR (pc := 73) X dX2_measure_73 g_X2_11 (s_iload_n (pc := 76) X dX2_measure_76 rfl (s_iald (pc := 77) X dX2_measure_77 h_62 (s_iload (pc := 78) X dX2_measure_78 (s_iload_n (pc := 80) X dX2_measure_80 rfl (s_iload_n (pc := 81) X dX2_measure_81 rfl (s_iload (pc := 82) X dX2_measure_82 (s_callV (pc := 84) X dX2_measure_84 (S_X2_turn _) q_X2_42 h_61 rfl (hR _ _ (by decide)) (s_lload (pc := 87) X dX2_measure_87 (s_lmul (pc := 89) X dX2_measure_89 (s_lload (pc := 90) X dX2_measure_90 (s_lsub (pc := 92) X dX2_measure_92 (s_putL (pc := 93) X dX2_measure_93 p_X2_46 (s_aload_n (pc := 96) X dX2_measure_96 rfl (s_lload (pc := 97) X dX2_measure_97 (s_putL (pc := 99) X dX2_measure_99 p_X2_50 (s_lload (pc := 102) X dX2_measure_102 (s_lconst (pc := 104) X dX2_measure_104 rfl (s_lcmp (pc := 105) X dX2_measure_105 (s_if_le (pc := 106) X dX2_measure_106 (by decide) (s_iconst (pc := 130) X dX2_measure_130 rfl (s_zret (pc := 131) X E hr dX2_measure_131)) (s_aload_n (pc := 109) X dX2_measure_109 rfl (s_aload_n (pc := 110) X dX2_measure_110 rfl (s_getR (pc := 111) X dX2_measure_111 g_X2_11 (s_iload_n (pc := 114) X dX2_measure_114 rfl (s_iald (pc := 115) X dX2_measure_115 h_62 (s_iload (pc := 116) X dX2_measure_116 (s_iload (pc := 118) X dX2_measure_118 (s_callV (pc := 120) X dX2_measure_120 (S_X2_wentInEach _) q_X2_53 h_61 rfl (hR _ _ (by decide)) (s_if_eq (pc := 123) X dX2_measure_123 (by decide) (s_iconst (pc := 130) X dX2_measure_130 rfl (s_zret (pc := 131) X E hr dX2_measure_131)) (s_iconst (pc := 126) X dX2_measure_126 rfl (s_goto (pc := 127) X dX2_measure_127 (by decide) (s_zret (pc := 131) X E hr dX2_measure_131))))))))))))))))))))))))))))))))))) (s_aload_n (pc := 29) X dX2_measure_29 rfl (s_iload_n (pc := 30) X dX2_measure_30 rfl (s_iload (pc := 31) X dX2_measure_31 (s_iload (pc := 33) X dX2_measure_33 (s_callV (pc := 35) X dX2_measure_35 (S_X2_isLike _) q_X2_39 h_61 rfl (hR _ _ (by decide)) (s_if_eq (pc := 38) X dX2_measure_38 (by decide) (s_iinc (pc := 64) X dX2_measure_64 rfl (s_goto (pc := 67) X dX2_measure_67 (by decide) (s_jmp (pc := 17) J [true, true, true, true, true, true, true, false, true, false, true]))) (s_lload (pc := 41) X dX2_measure_41 (s_lconst (pc := 43) X dX2_measure_43 rfl (s_ladd (pc := 44) X dX2_measure_44 (s_lstore (pc := 45) X dX2_measure_45 (hnL _ (by decide)) (s_lload (pc := 47) X dX2_measure_47 (s_aload_n (pc := 49) X dX2_measure_49 rfl (s_iload (pc := 50) X dX2_measure_50 (s_iload (pc := 52) X dX2_measure_52 (s_iload_n (pc := 54) X dX2_measure_54 rfl (s_iload_n (pc := 55) X dX2_measure_55 rfl (s_iload (pc := 56) X dX2_measure_56 (s_callV (pc := 58) X dX2_measure_58 (S_X2_turn _) q_X2_42 h_61 rfl (hR _ _ (by decide)) (s_ladd (pc := 61) X dX2_measure_61 (s_lstore (pc := 62) X dX2_measure_62 (hnL _ (by decide)) (s_iinc (pc := 64) X dX2_measure_64 rfl (s_goto (pc := 67) X dX2_measure_67 (by decide) (s_jmp (pc := 17) J [true, true, true, true, true, true, true, false, true, false, true])))))))))))))))))))))))))))), fun _ h => absurd h List.not_mem_nil⟩⟩)
theorem dX2_spanStatus_0 : decode cX2_spanStatus 0 = .ok (.iload_n 1, 1) := by decide +kernel
theorem dX2_spanStatus_1 : decode cX2_spanStatus 1 = .ok (.iconst 0, 1) := by decide +kernel
theorem dX2_spanStatus_2 : decode cX2_spanStatus 2 = .ok (.aload_n 0, 1) := by decide +kernel
theorem dX2_spanStatus_3 : decode cX2_spanStatus 3 = .ok (.getfield 26, 3) := by decide +kernel
theorem dX2_spanStatus_6 : decode cX2_spanStatus 6 = .ok (.iconst 1, 1) := by decide +kernel
theorem dX2_spanStatus_7 : decode cX2_spanStatus 7 = .ok (.isub, 1) := by decide +kernel
theorem dX2_spanStatus_8 : decode cX2_spanStatus 8 = .ok (.invokestatic 30, 3) := by decide +kernel
theorem dX2_spanStatus_11 : decode cX2_spanStatus 11 = .ok (.ifCond .ne 13, 3) := by decide +kernel
theorem dX2_spanStatus_14 : decode cX2_spanStatus 14 = .ok (.iload_n 2, 1) := by decide +kernel
theorem dX2_spanStatus_15 : decode cX2_spanStatus 15 = .ok (.iconst 1, 1) := by decide +kernel
theorem dX2_spanStatus_16 : decode cX2_spanStatus 16 = .ok (.bipush 26, 2) := by decide +kernel
theorem dX2_spanStatus_18 : decode cX2_spanStatus 18 = .ok (.invokestatic 30, 3) := by decide +kernel
theorem dX2_spanStatus_21 : decode cX2_spanStatus 21 = .ok (.ifCond .eq 5, 3) := by decide +kernel
theorem dX2_spanStatus_24 : decode cX2_spanStatus 24 = .ok (.iconst 1, 1) := by decide +kernel
theorem dX2_spanStatus_25 : decode cX2_spanStatus 25 = .ok (.ireturn, 1) := by decide +kernel
theorem dX2_spanStatus_26 : decode cX2_spanStatus 26 = .ok (.aload_n 0, 1) := by decide +kernel
theorem dX2_spanStatus_27 : decode cX2_spanStatus 27 = .ok (.getfield 15, 3) := by decide +kernel
theorem dX2_spanStatus_30 : decode cX2_spanStatus 30 = .ok (.iload_n 1, 1) := by decide +kernel
theorem dX2_spanStatus_31 : decode cX2_spanStatus 31 = .ok (.iaload, 1) := by decide +kernel
theorem dX2_spanStatus_32 : decode cX2_spanStatus 32 = .ok (.iload_n 2, 1) := by decide +kernel
theorem dX2_spanStatus_33 : decode cX2_spanStatus 33 = .ok (.isub, 1) := by decide +kernel
theorem dX2_spanStatus_34 : decode cX2_spanStatus 34 = .ok (.ifCond .lt 23, 3) := by decide +kernel
theorem dX2_spanStatus_37 : decode cX2_spanStatus 37 = .ok (.aload_n 0, 1) := by decide +kernel
theorem dX2_spanStatus_38 : decode cX2_spanStatus 38 = .ok (.getfield 15, 3) := by decide +kernel
theorem dX2_spanStatus_41 : decode cX2_spanStatus 41 = .ok (.iload_n 1, 1) := by decide +kernel
theorem dX2_spanStatus_42 : decode cX2_spanStatus 42 = .ok (.iaload, 1) := by decide +kernel
theorem dX2_spanStatus_43 : decode cX2_spanStatus 43 = .ok (.iload_n 2, 1) := by decide +kernel
theorem dX2_spanStatus_44 : decode cX2_spanStatus 44 = .ok (.iadd, 1) := by decide +kernel
theorem dX2_spanStatus_45 : decode cX2_spanStatus 45 = .ok (.iconst 1, 1) := by decide +kernel
theorem dX2_spanStatus_46 : decode cX2_spanStatus 46 = .ok (.isub, 1) := by decide +kernel
theorem dX2_spanStatus_47 : decode cX2_spanStatus 47 = .ok (.sipush 519, 3) := by decide +kernel
theorem dX2_spanStatus_50 : decode cX2_spanStatus 50 = .ok (.if_icmp .gt 7, 3) := by decide +kernel
theorem dX2_spanStatus_53 : decode cX2_spanStatus 53 = .ok (.iconst 1, 1) := by decide +kernel
theorem dX2_spanStatus_54 : decode cX2_spanStatus 54 = .ok (.goto 4, 3) := by decide +kernel
theorem dX2_spanStatus_57 : decode cX2_spanStatus 57 = .ok (.iconst 0, 1) := by decide +kernel
theorem dX2_spanStatus_58 : decode cX2_spanStatus 58 = .ok (.istore_n 3, 1) := by decide +kernel
theorem dX2_spanStatus_59 : decode cX2_spanStatus 59 = .ok (.iload_n 3, 1) := by decide +kernel
theorem dX2_spanStatus_60 : decode cX2_spanStatus 60 = .ok (.ifCond .eq 7, 3) := by decide +kernel
theorem dX2_spanStatus_63 : decode cX2_spanStatus 63 = .ok (.iconst 0, 1) := by decide +kernel
theorem dX2_spanStatus_64 : decode cX2_spanStatus 64 = .ok (.goto 5, 3) := by decide +kernel
theorem dX2_spanStatus_67 : decode cX2_spanStatus 67 = .ok (.bipush 6, 2) := by decide +kernel
theorem dX2_spanStatus_69 : decode cX2_spanStatus 69 = .ok (.ireturn, 1) := by decide +kernel
noncomputable def B_X2_spanStatus_0 : pb_C := (i_iload 1 (i_const (.int 0) (i_aload 0 (i_getI 61 2 (i_const (.int 1) (i_ibin (· - ·) (i_callS 3 1 M_X11_outside (i_if_ne (i_const (.int 1) i_iret) (i_iload 2 (i_const (.int 1) (i_const (.int 26) (i_callS 3 1 M_X11_outside (i_if_eq (i_aload 0 (i_getR 61 63 (i_iload 1 (i_ald 63 12 (i_iload 2 (i_ibin (· - ·) (i_if_lt (i_const (.int 0) (i_istore 3 (i_iload 3 (i_if_eq (i_const (.int 6) i_iret) (i_const (.int 0) i_iret))))) (i_aload 0 (i_getR 61 63 (i_iload 1 (i_ald 63 12 (i_iload 2 (i_ibin (· + ·) (i_const (.int 1) (i_ibin (· - ·) (i_const (.int 519) (i_ic_gt (i_const (.int 0) (i_istore 3 (i_iload 3 (i_if_eq (i_const (.int 6) i_iret) (i_const (.int 0) i_iret))))) (i_const (.int 1) (i_istore 3 (i_iload 3 (i_if_eq (i_const (.int 6) i_iret) (i_const (.int 0) i_iret)))))))))))))))))))))) (i_const (.int 1) i_iret))))))))))))))
noncomputable def T_X2_spanStatus : Nat → pb_C := pb_tt [(0, B_X2_spanStatus_0)]
noncomputable def M_X2_spanStatus : pb_F := pb_M T_X2_spanStatus 4
set_option maxRecDepth 100000 in
set_option maxHeartbeats 4000000 in
theorem S_X2_spanStatus (l : Launch) : pb_Sound l yX2_spanStatus cX2_spanStatus 4 (some .int) 2 M_X2_spanStatus := by
  refine pb_sound_of (by decide) m_6_107 ?_
  intro Γ hl0 hRm0 hm X E hr J
  have hnL : ∀ j, j < 4 → j < Γ.2.2.2.2.2.2.2.2.2.2.2.1 := fun j h => by rw [hm]; exact h
  have hR : ∀ (d' mL : Nat), d' + 1 ≤ 2 ∧ 8 + (mL + 11) + d' * 64 ≤ 2 * 64 → (pb_rm d').frames + 1 ≤ Γ.2.2.2.1.frames ∧ 8 + (mL + 11) + (pb_rm d').locals ≤ Γ.2.2.2.1.locals := by rw [hRm0]; exact fun _ _ h => h
  have hRm : 1 ≤ 2 ∧ 64 ≤ 2 * 64 → 1 ≤ Γ.2.2.2.1.frames ∧ 64 ≤ Γ.2.2.2.1.locals := by rw [hRm0]; exact fun h => h
  exact pb_tt_snd _ (List.forall_mem_cons.mpr ⟨(s_iload_n (pc := 0) X dX2_spanStatus_0 rfl (s_iconst (pc := 1) X dX2_spanStatus_1 rfl (s_aload_n (pc := 2) X dX2_spanStatus_2 rfl (s_getI (pc := 3) X dX2_spanStatus_3 g_X2_26 (s_iconst (pc := 6) X dX2_spanStatus_6 rfl (s_isub (pc := 7) X dX2_spanStatus_7 (s_callS (pc := 8) X dX2_spanStatus_8 (S_X11_outside _) q_X2_30 (hR _ _ (by decide)) (s_if_ne (pc := 11) X dX2_spanStatus_11 (by decide) (s_iconst (pc := 24) X dX2_spanStatus_24 rfl (s_iret (pc := 25) X E hr dX2_spanStatus_25)) (s_iload_n (pc := 14) X dX2_spanStatus_14 rfl (s_iconst (pc := 15) X dX2_spanStatus_15 rfl (s_bipush (pc := 16) X dX2_spanStatus_16 rfl (s_callS (pc := 18) X dX2_spanStatus_18 (S_X11_outside _) q_X2_30 (hR _ _ (by decide)) (s_if_eq (pc := 21) X dX2_spanStatus_21 (by decide) (s_aload_n (pc := 26) X dX2_spanStatus_26 rfl (s_getR (pc := 27) X dX2_spanStatus_27 g_X2_15 (s_iload_n (pc := 30) X dX2_spanStatus_30 rfl (s_iald (pc := 31) X dX2_spanStatus_31 h_63 (s_iload_n (pc := 32) X dX2_spanStatus_32 rfl (s_isub (pc := 33) X dX2_spanStatus_33 (s_if_lt (pc := 34) X dX2_spanStatus_34 (by decide) (s_iconst (pc := 57) X dX2_spanStatus_57 rfl (s_istore_n (pc := 58) X dX2_spanStatus_58 rfl (hnL _ (by decide)) (s_iload_n (pc := 59) X dX2_spanStatus_59 rfl (s_if_eq (pc := 60) X dX2_spanStatus_60 (by decide) (s_bipush (pc := 67) X dX2_spanStatus_67 rfl (s_iret (pc := 69) X E hr dX2_spanStatus_69)) (s_iconst (pc := 63) X dX2_spanStatus_63 rfl (s_goto (pc := 64) X dX2_spanStatus_64 (by decide) (s_iret (pc := 69) X E hr dX2_spanStatus_69))))))) (s_aload_n (pc := 37) X dX2_spanStatus_37 rfl (s_getR (pc := 38) X dX2_spanStatus_38 g_X2_15 (s_iload_n (pc := 41) X dX2_spanStatus_41 rfl (s_iald (pc := 42) X dX2_spanStatus_42 h_63 (s_iload_n (pc := 43) X dX2_spanStatus_43 rfl (s_iadd (pc := 44) X dX2_spanStatus_44 (s_iconst (pc := 45) X dX2_spanStatus_45 rfl (s_isub (pc := 46) X dX2_spanStatus_46 (s_sipush (pc := 47) X dX2_spanStatus_47 rfl (s_ic_gt (pc := 50) X dX2_spanStatus_50 (by decide) (s_iconst (pc := 57) X dX2_spanStatus_57 rfl (s_istore_n (pc := 58) X dX2_spanStatus_58 rfl (hnL _ (by decide)) (s_iload_n (pc := 59) X dX2_spanStatus_59 rfl (s_if_eq (pc := 60) X dX2_spanStatus_60 (by decide) (s_bipush (pc := 67) X dX2_spanStatus_67 rfl (s_iret (pc := 69) X E hr dX2_spanStatus_69)) (s_iconst (pc := 63) X dX2_spanStatus_63 rfl (s_goto (pc := 64) X dX2_spanStatus_64 (by decide) (s_iret (pc := 69) X E hr dX2_spanStatus_69))))))) (s_iconst (pc := 53) X dX2_spanStatus_53 rfl (s_goto (pc := 54) X dX2_spanStatus_54 (by decide) (s_istore_n (pc := 58) X dX2_spanStatus_58 rfl (hnL _ (by decide)) (s_iload_n (pc := 59) X dX2_spanStatus_59 rfl (s_if_eq (pc := 60) X dX2_spanStatus_60 (by decide) (s_bipush (pc := 67) X dX2_spanStatus_67 rfl (s_iret (pc := 69) X E hr dX2_spanStatus_69)) (s_iconst (pc := 63) X dX2_spanStatus_63 rfl (s_goto (pc := 64) X dX2_spanStatus_64 (by decide) (s_iret (pc := 69) X E hr dX2_spanStatus_69))))))))))))))))))))))))) (s_iconst (pc := 24) X dX2_spanStatus_24 rfl (s_iret (pc := 25) X E hr dX2_spanStatus_25))))))))))))))), fun _ h => absurd h List.not_mem_nil⟩)
theorem dX11_fell_0 : decode cX11_fell 0 = .ok (.iload_n 2, 1) := by decide +kernel
theorem dX11_fell_1 : decode cX11_fell 1 = .ok (.iconst (-1), 1) := by decide +kernel
theorem dX11_fell_2 : decode cX11_fell 2 = .ok (.bipush 15, 2) := by decide +kernel
theorem dX11_fell_4 : decode cX11_fell 4 = .ok (.invokestatic 101, 3) := by decide +kernel
theorem dX11_fell_7 : decode cX11_fell 7 = .ok (.ifCond .ne 14, 3) := by decide +kernel
theorem dX11_fell_10 : decode cX11_fell 10 = .ok (.aload_n 0, 1) := by decide +kernel
theorem dX11_fell_11 : decode cX11_fell 11 = .ok (.getfield 46, 3) := by decide +kernel
theorem dX11_fell_14 : decode cX11_fell 14 = .ok (.iload_n 3, 1) := by decide +kernel
theorem dX11_fell_15 : decode cX11_fell 15 = .ok (.invokevirtual 214, 3) := by decide +kernel
theorem dX11_fell_18 : decode cX11_fell 18 = .ok (.ifCond .ne 7, 3) := by decide +kernel
theorem dX11_fell_21 : decode cX11_fell 21 = .ok (.iconst 1, 1) := by decide +kernel
theorem dX11_fell_22 : decode cX11_fell 22 = .ok (.goto 4, 3) := by decide +kernel
theorem dX11_fell_25 : decode cX11_fell 25 = .ok (.iconst 0, 1) := by decide +kernel
theorem dX11_fell_26 : decode cX11_fell 26 = .ok (.istore 5, 2) := by decide +kernel
theorem dX11_fell_28 : decode cX11_fell 28 = .ok (.aload_n 0, 1) := by decide +kernel
theorem dX11_fell_29 : decode cX11_fell 29 = .ok (.iload 5, 2) := by decide +kernel
theorem dX11_fell_31 : decode cX11_fell 31 = .ok (.ifCond .eq 7, 3) := by decide +kernel
theorem dX11_fell_34 : decode cX11_fell 34 = .ok (.iconst 1, 1) := by decide +kernel
theorem dX11_fell_35 : decode cX11_fell 35 = .ok (.goto 13, 3) := by decide +kernel
theorem dX11_fell_38 : decode cX11_fell 38 = .ok (.aload_n 0, 1) := by decide +kernel
theorem dX11_fell_39 : decode cX11_fell 39 = .ok (.getfield 97, 3) := by decide +kernel
theorem dX11_fell_42 : decode cX11_fell 42 = .ok (.iload_n 1, 1) := by decide +kernel
theorem dX11_fell_43 : decode cX11_fell 43 = .ok (.iload 4, 2) := by decide +kernel
theorem dX11_fell_45 : decode cX11_fell 45 = .ok (.invokevirtual 362, 3) := by decide +kernel
theorem dX11_fell_48 : decode cX11_fell 48 = .ok (.putfield 9, 3) := by decide +kernel
theorem dX11_fell_51 : decode cX11_fell 51 = .ok (.aload_n 0, 1) := by decide +kernel
theorem dX11_fell_52 : decode cX11_fell 52 = .ok (.getfield 9, 3) := by decide +kernel
theorem dX11_fell_55 : decode cX11_fell 55 = .ok (.ifCond .ne 24, 3) := by decide +kernel
theorem dX11_fell_58 : decode cX11_fell 58 = .ok (.aload_n 0, 1) := by decide +kernel
theorem dX11_fell_59 : decode cX11_fell 59 = .ok (.getfield 97, 3) := by decide +kernel
theorem dX11_fell_62 : decode cX11_fell 62 = .ok (.iload_n 1, 1) := by decide +kernel
theorem dX11_fell_63 : decode cX11_fell 63 = .ok (.iload_n 2, 1) := by decide +kernel
theorem dX11_fell_64 : decode cX11_fell 64 = .ok (.iload_n 3, 1) := by decide +kernel
theorem dX11_fell_65 : decode cX11_fell 65 = .ok (.iload 4, 2) := by decide +kernel
theorem dX11_fell_67 : decode cX11_fell 67 = .ok (.invokevirtual 365, 3) := by decide +kernel
theorem dX11_fell_70 : decode cX11_fell 70 = .ok (.ifCond .ne 9, 3) := by decide +kernel
theorem dX11_fell_73 : decode cX11_fell 73 = .ok (.aload_n 0, 1) := by decide +kernel
theorem dX11_fell_74 : decode cX11_fell 74 = .ok (.bipush 6, 2) := by decide +kernel
theorem dX11_fell_76 : decode cX11_fell 76 = .ok (.putfield 9, 3) := by decide +kernel
theorem dX11_fell_79 : decode cX11_fell 79 = .ok (.aload_n 0, 1) := by decide +kernel
theorem dX11_fell_80 : decode cX11_fell 80 = .ok (.getfield 9, 3) := by decide +kernel
theorem dX11_fell_83 : decode cX11_fell 83 = .ok (.ifCond .ne 24, 3) := by decide +kernel
theorem dX11_fell_86 : decode cX11_fell 86 = .ok (.aload_n 0, 1) := by decide +kernel
theorem dX11_fell_87 : decode cX11_fell 87 = .ok (.aload_n 0, 1) := by decide +kernel
theorem dX11_fell_88 : decode cX11_fell 88 = .ok (.getfield 97, 3) := by decide +kernel
theorem dX11_fell_91 : decode cX11_fell 91 = .ok (.getfield 368, 3) := by decide +kernel
theorem dX11_fell_94 : decode cX11_fell 94 = .ok (.aload_n 0, 1) := by decide +kernel
theorem dX11_fell_95 : decode cX11_fell 95 = .ok (.getfield 97, 3) := by decide +kernel
theorem dX11_fell_98 : decode cX11_fell 98 = .ok (.getfield 371, 3) := by decide +kernel
theorem dX11_fell_101 : decode cX11_fell 101 = .ok (.invokevirtual 311, 3) := by decide +kernel
theorem dX11_fell_104 : decode cX11_fell 104 = .ok (.goto 4, 3) := by decide +kernel
theorem dX11_fell_107 : decode cX11_fell 107 = .ok (.iconst (-1), 1) := by decide +kernel
theorem dX11_fell_108 : decode cX11_fell 108 = .ok (.ireturn, 1) := by decide +kernel
noncomputable def B_X11_fell_0 : pb_C := (i_iload 2 (i_const (.int (-1)) (i_const (.int 15) (i_callS 3 1 M_X11_outside (i_if_ne (i_const (.int 1) (i_jmp 26 [true, true, true, true, true, false])) (i_aload 0 (i_getR 0 25 (i_iload 3 (i_callV 25 1 1 M_X0_judgeBy (i_if_ne (i_const (.int 0) (i_jmp 26 [true, true, true, true, true, false])) (i_const (.int 1) (i_jmp 26 [true, true, true, true, true, false]))))))))))))
noncomputable def B_X11_fell_26 : pb_C := (i_istore 5 (i_aload 0 (i_iload 5 (i_if_eq (i_aload 0 (i_getR 0 61 (i_iload 1 (i_iload 4 (i_callV 61 2 1 M_X2_spanStatus (i_jmp 48 [true, true, true, true, true, false])))))) (i_const (.int 1) (i_jmp 48 [true, true, true, true, true, false]))))))
noncomputable def B_X11_fell_48 : pb_C := (i_putI 0 0 (i_aload 0 (i_getI 0 0 (i_if_ne (i_jmp 79 [true, false, false, false, false, false]) (i_aload 0 (i_getR 0 61 (i_iload 1 (i_iload 2 (i_iload 3 (i_iload 4 (i_callV 61 4 1 M_X2_measure (i_if_ne (i_jmp 79 [true, false, false, false, false, false]) (i_aload 0 (i_const (.int 6) (i_putI 0 0 (i_jmp 79 [true, false, false, false, false, false]))))))))))))))))
noncomputable def B_X11_fell_79 : pb_C := (i_aload 0 (i_getI 0 0 (i_if_ne (i_const (.int (-1)) i_iret) (i_aload 0 (i_aload 0 (i_getR 0 61 (i_getL 61 5 (i_aload 0 (i_getR 0 61 (i_getL 61 6 (i_callV 0 2 1 M_X11_tellFraction i_iret)))))))))))
noncomputable def T_X11_fell : Nat → pb_C := pb_tt [(0, B_X11_fell_0), (26, B_X11_fell_26), (48, B_X11_fell_48), (79, B_X11_fell_79)]
noncomputable def M_X11_fell : pb_F := pb_M T_X11_fell 6
set_option maxRecDepth 100000 in
set_option maxHeartbeats 4000000 in
theorem S_X11_fell (l : Launch) : pb_Sound l yX11_fell cX11_fell 6 (some .int) 6 M_X11_fell := by
  refine pb_sound_of (by decide) m_6_103 ?_
  intro Γ hl0 hRm0 hm X E hr J
  have hnL : ∀ j, j < 6 → j < Γ.2.2.2.2.2.2.2.2.2.2.2.1 := fun j h => by rw [hm]; exact h
  have hR : ∀ (d' mL : Nat), d' + 1 ≤ 6 ∧ 8 + (mL + 11) + d' * 64 ≤ 6 * 64 → (pb_rm d').frames + 1 ≤ Γ.2.2.2.1.frames ∧ 8 + (mL + 11) + (pb_rm d').locals ≤ Γ.2.2.2.1.locals := by rw [hRm0]; exact fun _ _ h => h
  have hRm : 1 ≤ 6 ∧ 64 ≤ 6 * 64 → 1 ≤ Γ.2.2.2.1.frames ∧ 64 ≤ Γ.2.2.2.1.locals := by rw [hRm0]; exact fun h => h
  exact pb_tt_snd _ (List.forall_mem_cons.mpr ⟨(s_iload_n (pc := 0) X dX11_fell_0 rfl (s_iconst (pc := 1) X dX11_fell_1 rfl (s_bipush (pc := 2) X dX11_fell_2 rfl (s_callS (pc := 4) X dX11_fell_4 (S_X11_outside _) q_X11_101 (hR _ _ (by decide)) (s_if_ne (pc := 7) X dX11_fell_7 (by decide) (s_iconst (pc := 21) X dX11_fell_21 rfl (s_goto (pc := 22) X dX11_fell_22 (by decide) (s_jmp (pc := 26) J [true, true, true, true, true, false]))) (s_aload_n (pc := 10) X dX11_fell_10 rfl (s_getR (pc := 11) X dX11_fell_11 g_X11_46 (s_iload_n (pc := 14) X dX11_fell_14 rfl (s_callV (pc := 15) X dX11_fell_15 (S_X0_judgeBy _) q_X11_214 h_25 rfl (hR _ _ (by decide)) (s_if_ne (pc := 18) X dX11_fell_18 (by decide) (s_iconst (pc := 25) X dX11_fell_25 rfl (s_jmp (pc := 26) J [true, true, true, true, true, false])) (s_iconst (pc := 21) X dX11_fell_21 rfl (s_goto (pc := 22) X dX11_fell_22 (by decide) (s_jmp (pc := 26) J [true, true, true, true, true, false]))))))))))))), List.forall_mem_cons.mpr ⟨(s_istore (pc := 26) X dX11_fell_26 (hnL _ (by decide)) (s_aload_n (pc := 28) X dX11_fell_28 rfl (s_iload (pc := 29) X dX11_fell_29 (s_if_eq (pc := 31) X dX11_fell_31 (by decide) (s_aload_n (pc := 38) X dX11_fell_38 rfl (s_getR (pc := 39) X dX11_fell_39 g_X11_97 (s_iload_n (pc := 42) X dX11_fell_42 rfl (s_iload (pc := 43) X dX11_fell_43 (s_callV (pc := 45) X dX11_fell_45 (S_X2_spanStatus _) q_X11_362 h_61 rfl (hR _ _ (by decide)) (s_jmp (pc := 48) J [true, true, true, true, true, false])))))) (s_iconst (pc := 34) X dX11_fell_34 rfl (s_goto (pc := 35) X dX11_fell_35 (by decide) (s_jmp (pc := 48) J [true, true, true, true, true, false]))))))), List.forall_mem_cons.mpr ⟨(s_putI (pc := 48) X dX11_fell_48 p_X11_9 (s_aload_n (pc := 51) X dX11_fell_51 rfl (s_getI (pc := 52) X dX11_fell_52 g_X11_9 (s_if_ne (pc := 55) X dX11_fell_55 (by decide) (s_jmp (pc := 79) J [true, false, false, false, false, false]) (s_aload_n (pc := 58) X dX11_fell_58 rfl (s_getR (pc := 59) X dX11_fell_59 g_X11_97 (s_iload_n (pc := 62) X dX11_fell_62 rfl (s_iload_n (pc := 63) X dX11_fell_63 rfl (s_iload_n (pc := 64) X dX11_fell_64 rfl (s_iload (pc := 65) X dX11_fell_65 (s_callV (pc := 67) X dX11_fell_67 (S_X2_measure _) q_X11_365 h_61 rfl (hR _ _ (by decide)) (s_if_ne (pc := 70) X dX11_fell_70 (by decide) (s_jmp (pc := 79) J [true, false, false, false, false, false]) (s_aload_n (pc := 73) X dX11_fell_73 rfl (s_bipush (pc := 74) X dX11_fell_74 rfl (s_putI (pc := 76) X dX11_fell_76 p_X11_9 (s_jmp (pc := 79) J [true, false, false, false, false, false])))))))))))))))), List.forall_mem_cons.mpr ⟨(s_aload_n (pc := 79) X dX11_fell_79 rfl (s_getI (pc := 80) X dX11_fell_80 g_X11_9 (s_if_ne (pc := 83) X dX11_fell_83 (by decide) (s_iconst (pc := 107) X dX11_fell_107 rfl (s_iret (pc := 108) X E hr dX11_fell_108)) (s_aload_n (pc := 86) X dX11_fell_86 rfl (s_aload_n (pc := 87) X dX11_fell_87 rfl (s_getR (pc := 88) X dX11_fell_88 g_X11_97 (s_getL (pc := 91) X dX11_fell_91 g_X11_368 (s_aload_n (pc := 94) X dX11_fell_94 rfl (s_getR (pc := 95) X dX11_fell_95 g_X11_97 (s_getL (pc := 98) X dX11_fell_98 g_X11_371 (s_callV (pc := 101) X dX11_fell_101 (S_X11_tellFraction _) q_X11_311 h_0 rfl (hR _ _ (by decide)) (s_goto (pc := 104) X dX11_fell_104 (by decide) (s_iret (pc := 108) X E hr dX11_fell_108))))))))))))), fun _ h => absurd h List.not_mem_nil⟩⟩⟩⟩)
theorem dX2_countLikes_0 : decode cX2_countLikes 0 = .ok (.iconst 0, 1) := by decide +kernel
theorem dX2_countLikes_1 : decode cX2_countLikes 1 = .ok (.istore_n 3, 1) := by decide +kernel
theorem dX2_countLikes_2 : decode cX2_countLikes 2 = .ok (.iconst 0, 1) := by decide +kernel
theorem dX2_countLikes_3 : decode cX2_countLikes 3 = .ok (.istore 4, 2) := by decide +kernel
theorem dX2_countLikes_5 : decode cX2_countLikes 5 = .ok (.iload 4, 2) := by decide +kernel
theorem dX2_countLikes_7 : decode cX2_countLikes 7 = .ok (.aload_n 0, 1) := by decide +kernel
theorem dX2_countLikes_8 : decode cX2_countLikes 8 = .ok (.getfield 18, 3) := by decide +kernel
theorem dX2_countLikes_11 : decode cX2_countLikes 11 = .ok (.getfield 34, 3) := by decide +kernel
theorem dX2_countLikes_14 : decode cX2_countLikes 14 = .ok (.if_icmp .ge 23, 3) := by decide +kernel
theorem dX2_countLikes_17 : decode cX2_countLikes 17 = .ok (.aload_n 0, 1) := by decide +kernel
theorem dX2_countLikes_18 : decode cX2_countLikes 18 = .ok (.iload_n 1, 1) := by decide +kernel
theorem dX2_countLikes_19 : decode cX2_countLikes 19 = .ok (.iload 4, 2) := by decide +kernel
theorem dX2_countLikes_21 : decode cX2_countLikes 21 = .ok (.iload_n 2, 1) := by decide +kernel
theorem dX2_countLikes_22 : decode cX2_countLikes 22 = .ok (.invokevirtual 39, 3) := by decide +kernel
theorem dX2_countLikes_25 : decode cX2_countLikes 25 = .ok (.ifCond .eq 6, 3) := by decide +kernel
theorem dX2_countLikes_28 : decode cX2_countLikes 28 = .ok (.iinc 3 1, 3) := by decide +kernel
theorem dX2_countLikes_31 : decode cX2_countLikes 31 = .ok (.iinc 4 1, 3) := by decide +kernel
theorem dX2_countLikes_34 : decode cX2_countLikes 34 = .ok (.goto (-29), 3) := by decide +kernel
theorem dX2_countLikes_37 : decode cX2_countLikes 37 = .ok (.iload_n 3, 1) := by decide +kernel
theorem dX2_countLikes_38 : decode cX2_countLikes 38 = .ok (.ireturn, 1) := by decide +kernel
noncomputable def B_X2_countLikes_0 : pb_C := (i_const (.int 0) (i_istore 3 (i_const (.int 0) (i_istore 4 (i_jmp 5 [true, true, true, true, true])))))
noncomputable def B_X2_countLikes_5 : pb_C := (i_iload 4 (i_aload 0 (i_getR 61 5 (i_getI 5 0 (i_ic_ge (i_iload 3 i_iret) (i_aload 0 (i_iload 1 (i_iload 4 (i_iload 2 (i_callV 61 3 1 M_X2_isLike (i_if_eq (i_iinc 4 1 (i_jmp 5 [true, true, true, true, true])) (i_iinc 3 1 (i_iinc 4 1 (i_jmp 5 [true, true, true, true, true]))))))))))))))
noncomputable def T_X2_countLikes : Nat → pb_C := pb_tt [(0, B_X2_countLikes_0), (5, B_X2_countLikes_5)]
noncomputable def M_X2_countLikes : pb_F := pb_M T_X2_countLikes 5
set_option maxRecDepth 100000 in
set_option maxHeartbeats 4000000 in
theorem S_X2_countLikes (l : Launch) : pb_Sound l yX2_countLikes cX2_countLikes 5 (some .int) 5 M_X2_countLikes := by
  refine pb_sound_of (by decide) m_6_144 ?_
  intro Γ hl0 hRm0 hm X E hr J
  have hnL : ∀ j, j < 5 → j < Γ.2.2.2.2.2.2.2.2.2.2.2.1 := fun j h => by rw [hm]; exact h
  have hR : ∀ (d' mL : Nat), d' + 1 ≤ 5 ∧ 8 + (mL + 11) + d' * 64 ≤ 5 * 64 → (pb_rm d').frames + 1 ≤ Γ.2.2.2.1.frames ∧ 8 + (mL + 11) + (pb_rm d').locals ≤ Γ.2.2.2.1.locals := by rw [hRm0]; exact fun _ _ h => h
  have hRm : 1 ≤ 5 ∧ 64 ≤ 5 * 64 → 1 ≤ Γ.2.2.2.1.frames ∧ 64 ≤ Γ.2.2.2.1.locals := by rw [hRm0]; exact fun h => h
  exact pb_tt_snd _ (List.forall_mem_cons.mpr ⟨(s_iconst (pc := 0) X dX2_countLikes_0 rfl (s_istore_n (pc := 1) X dX2_countLikes_1 rfl (hnL _ (by decide)) (s_iconst (pc := 2) X dX2_countLikes_2 rfl (s_istore (pc := 3) X dX2_countLikes_3 (hnL _ (by decide)) (s_jmp (pc := 5) J [true, true, true, true, true]))))), List.forall_mem_cons.mpr ⟨(s_iload (pc := 5) X dX2_countLikes_5 (s_aload_n (pc := 7) X dX2_countLikes_7 rfl (s_getR (pc := 8) X dX2_countLikes_8 g_X2_18 (s_getI (pc := 11) X dX2_countLikes_11 g_X2_34 (s_ic_ge (pc := 14) X dX2_countLikes_14 (by decide) (s_iload_n (pc := 37) X dX2_countLikes_37 rfl (s_iret (pc := 38) X E hr dX2_countLikes_38)) (s_aload_n (pc := 17) X dX2_countLikes_17 rfl (s_iload_n (pc := 18) X dX2_countLikes_18 rfl (s_iload (pc := 19) X dX2_countLikes_19 (s_iload_n (pc := 21) X dX2_countLikes_21 rfl (s_callV (pc := 22) X dX2_countLikes_22 (S_X2_isLike _) q_X2_39 h_61 rfl (hR _ _ (by decide)) (s_if_eq (pc := 25) X dX2_countLikes_25 (by decide) (s_iinc (pc := 31) X dX2_countLikes_31 rfl (s_goto (pc := 34) X dX2_countLikes_34 (by decide) (s_jmp (pc := 5) J [true, true, true, true, true]))) (s_iinc (pc := 28) X dX2_countLikes_28 rfl (s_iinc (pc := 31) X dX2_countLikes_31 rfl (s_goto (pc := 34) X dX2_countLikes_34 (by decide) (s_jmp (pc := 5) J [true, true, true, true, true]))))))))))))))), fun _ h => absurd h List.not_mem_nil⟩⟩)
theorem dX11_likes_0 : decode cX11_likes 0 = .ok (.aload_n 0, 1) := by decide +kernel
theorem dX11_likes_1 : decode cX11_likes 1 = .ok (.aload_n 0, 1) := by decide +kernel
theorem dX11_likes_2 : decode cX11_likes 2 = .ok (.getfield 97, 3) := by decide +kernel
theorem dX11_likes_5 : decode cX11_likes 5 = .ok (.iload_n 1, 1) := by decide +kernel
theorem dX11_likes_6 : decode cX11_likes 6 = .ok (.iload_n 2, 1) := by decide +kernel
theorem dX11_likes_7 : decode cX11_likes 7 = .ok (.invokevirtual 362, 3) := by decide +kernel
theorem dX11_likes_10 : decode cX11_likes 10 = .ok (.putfield 9, 3) := by decide +kernel
theorem dX11_likes_13 : decode cX11_likes 13 = .ok (.aload_n 0, 1) := by decide +kernel
theorem dX11_likes_14 : decode cX11_likes 14 = .ok (.getfield 9, 3) := by decide +kernel
theorem dX11_likes_17 : decode cX11_likes 17 = .ok (.ifCond .ne 15, 3) := by decide +kernel
theorem dX11_likes_20 : decode cX11_likes 20 = .ok (.aload_n 0, 1) := by decide +kernel
theorem dX11_likes_21 : decode cX11_likes 21 = .ok (.getfield 97, 3) := by decide +kernel
theorem dX11_likes_24 : decode cX11_likes 24 = .ok (.iload_n 1, 1) := by decide +kernel
theorem dX11_likes_25 : decode cX11_likes 25 = .ok (.iload_n 2, 1) := by decide +kernel
theorem dX11_likes_26 : decode cX11_likes 26 = .ok (.invokevirtual 374, 3) := by decide +kernel
theorem dX11_likes_29 : decode cX11_likes 29 = .ok (.goto 4, 3) := by decide +kernel
theorem dX11_likes_32 : decode cX11_likes 32 = .ok (.iconst (-1), 1) := by decide +kernel
theorem dX11_likes_33 : decode cX11_likes 33 = .ok (.ireturn, 1) := by decide +kernel
noncomputable def B_X11_likes_0 : pb_C := (i_aload 0 (i_aload 0 (i_getR 0 61 (i_iload 1 (i_iload 2 (i_callV 61 2 1 M_X2_spanStatus (i_putI 0 0 (i_aload 0 (i_getI 0 0 (i_if_ne (i_const (.int (-1)) i_iret) (i_aload 0 (i_getR 0 61 (i_iload 1 (i_iload 2 (i_callV 61 2 1 M_X2_countLikes i_iret)))))))))))))))
noncomputable def T_X11_likes : Nat → pb_C := pb_tt [(0, B_X11_likes_0)]
noncomputable def M_X11_likes : pb_F := pb_M T_X11_likes 3
set_option maxRecDepth 100000 in
set_option maxHeartbeats 4000000 in
theorem S_X11_likes (l : Launch) : pb_Sound l yX11_likes cX11_likes 3 (some .int) 6 M_X11_likes := by
  refine pb_sound_of (by decide) m_6_140 ?_
  intro Γ hl0 hRm0 hm X E hr J
  have hnL : ∀ j, j < 3 → j < Γ.2.2.2.2.2.2.2.2.2.2.2.1 := fun j h => by rw [hm]; exact h
  have hR : ∀ (d' mL : Nat), d' + 1 ≤ 6 ∧ 8 + (mL + 11) + d' * 64 ≤ 6 * 64 → (pb_rm d').frames + 1 ≤ Γ.2.2.2.1.frames ∧ 8 + (mL + 11) + (pb_rm d').locals ≤ Γ.2.2.2.1.locals := by rw [hRm0]; exact fun _ _ h => h
  have hRm : 1 ≤ 6 ∧ 64 ≤ 6 * 64 → 1 ≤ Γ.2.2.2.1.frames ∧ 64 ≤ Γ.2.2.2.1.locals := by rw [hRm0]; exact fun h => h
  exact pb_tt_snd _ (List.forall_mem_cons.mpr ⟨(s_aload_n (pc := 0) X dX11_likes_0 rfl (s_aload_n (pc := 1) X dX11_likes_1 rfl (s_getR (pc := 2) X dX11_likes_2 g_X11_97 (s_iload_n (pc := 5) X dX11_likes_5 rfl (s_iload_n (pc := 6) X dX11_likes_6 rfl (s_callV (pc := 7) X dX11_likes_7 (S_X2_spanStatus _) q_X11_362 h_61 rfl (hR _ _ (by decide)) (s_putI (pc := 10) X dX11_likes_10 p_X11_9 (s_aload_n (pc := 13) X dX11_likes_13 rfl (s_getI (pc := 14) X dX11_likes_14 g_X11_9 (s_if_ne (pc := 17) X dX11_likes_17 (by decide) (s_iconst (pc := 32) X dX11_likes_32 rfl (s_iret (pc := 33) X E hr dX11_likes_33)) (s_aload_n (pc := 20) X dX11_likes_20 rfl (s_getR (pc := 21) X dX11_likes_21 g_X11_97 (s_iload_n (pc := 24) X dX11_likes_24 rfl (s_iload_n (pc := 25) X dX11_likes_25 rfl (s_callV (pc := 26) X dX11_likes_26 (S_X2_countLikes _) q_X11_374 h_61 rfl (hR _ _ (by decide)) (s_goto (pc := 29) X dX11_likes_29 (by decide) (s_iret (pc := 33) X E hr dX11_likes_33))))))))))))))))), fun _ h => absurd h List.not_mem_nil⟩)
theorem dX12_status_0 : decode cX12_status 0 = .ok (.aload_n 0, 1) := by decide +kernel
theorem dX12_status_1 : decode cX12_status 1 = .ok (.getfield 231, 3) := by decide +kernel
theorem dX12_status_4 : decode cX12_status 4 = .ok (.ireturn, 1) := by decide +kernel
noncomputable def B_X12_status_0 : pb_C := (i_aload 0 (i_getI 64 0 i_iret))
noncomputable def T_X12_status : Nat → pb_C := pb_tt [(0, B_X12_status_0)]
noncomputable def M_X12_status : pb_F := pb_M T_X12_status 1
set_option maxRecDepth 100000 in
set_option maxHeartbeats 4000000 in
theorem S_X12_status (l : Launch) : pb_Sound l yX12_status cX12_status 1 (some .int) 1 M_X12_status := by
  refine pb_sound_of (by decide) m_7_218 ?_
  intro Γ hl0 hRm0 hm X E hr J
  have hnL : ∀ j, j < 1 → j < Γ.2.2.2.2.2.2.2.2.2.2.2.1 := fun j h => by rw [hm]; exact h
  have hR : ∀ (d' mL : Nat), d' + 1 ≤ 1 ∧ 8 + (mL + 11) + d' * 64 ≤ 1 * 64 → (pb_rm d').frames + 1 ≤ Γ.2.2.2.1.frames ∧ 8 + (mL + 11) + (pb_rm d').locals ≤ Γ.2.2.2.1.locals := by rw [hRm0]; exact fun _ _ h => h
  have hRm : 1 ≤ 1 ∧ 64 ≤ 1 * 64 → 1 ≤ Γ.2.2.2.1.frames ∧ 64 ≤ Γ.2.2.2.1.locals := by rw [hRm0]; exact fun h => h
  exact pb_tt_snd _ (List.forall_mem_cons.mpr ⟨(s_aload_n (pc := 0) X dX12_status_0 rfl (s_getI (pc := 1) X dX12_status_1 g_X12_231 (s_iret (pc := 4) X E hr dX12_status_4))), fun _ h => absurd h List.not_mem_nil⟩)
theorem dX12_top_0 : decode cX12_top 0 = .ok (.aload_n 0, 1) := by decide +kernel
theorem dX12_top_1 : decode cX12_top 1 = .ok (.getfield 234, 3) := by decide +kernel
theorem dX12_top_4 : decode cX12_top 4 = .ok (.lreturn, 1) := by decide +kernel
noncomputable def B_X12_top_0 : pb_C := (i_aload 0 (i_getL 64 1 i_lret))
noncomputable def T_X12_top : Nat → pb_C := pb_tt [(0, B_X12_top_0)]
noncomputable def M_X12_top : pb_F := pb_M T_X12_top 1
set_option maxRecDepth 100000 in
set_option maxHeartbeats 4000000 in
theorem S_X12_top (l : Launch) : pb_Sound l yX12_top cX12_top 1 (some .long) 1 M_X12_top := by
  refine pb_sound_of (by decide) m_7_222 ?_
  intro Γ hl0 hRm0 hm X E hr J
  have hnL : ∀ j, j < 1 → j < Γ.2.2.2.2.2.2.2.2.2.2.2.1 := fun j h => by rw [hm]; exact h
  have hR : ∀ (d' mL : Nat), d' + 1 ≤ 1 ∧ 8 + (mL + 11) + d' * 64 ≤ 1 * 64 → (pb_rm d').frames + 1 ≤ Γ.2.2.2.1.frames ∧ 8 + (mL + 11) + (pb_rm d').locals ≤ Γ.2.2.2.1.locals := by rw [hRm0]; exact fun _ _ h => h
  have hRm : 1 ≤ 1 ∧ 64 ≤ 1 * 64 → 1 ≤ Γ.2.2.2.1.frames ∧ 64 ≤ Γ.2.2.2.1.locals := by rw [hRm0]; exact fun h => h
  exact pb_tt_snd _ (List.forall_mem_cons.mpr ⟨(s_aload_n (pc := 0) X dX12_top_0 rfl (s_getL (pc := 1) X dX12_top_1 g_X12_234 (s_lret (pc := 4) X E hr dX12_top_4))), fun _ h => absurd h List.not_mem_nil⟩)
theorem dX12_bottom_0 : decode cX12_bottom 0 = .ok (.aload_n 0, 1) := by decide +kernel
theorem dX12_bottom_1 : decode cX12_bottom 1 = .ok (.getfield 7, 3) := by decide +kernel
theorem dX12_bottom_4 : decode cX12_bottom 4 = .ok (.lreturn, 1) := by decide +kernel
noncomputable def B_X12_bottom_0 : pb_C := (i_aload 0 (i_getL 64 2 i_lret))
noncomputable def T_X12_bottom : Nat → pb_C := pb_tt [(0, B_X12_bottom_0)]
noncomputable def M_X12_bottom : pb_F := pb_M T_X12_bottom 1
set_option maxRecDepth 100000 in
set_option maxHeartbeats 4000000 in
theorem S_X12_bottom (l : Launch) : pb_Sound l yX12_bottom cX12_bottom 1 (some .long) 1 M_X12_bottom := by
  refine pb_sound_of (by decide) m_7_226 ?_
  intro Γ hl0 hRm0 hm X E hr J
  have hnL : ∀ j, j < 1 → j < Γ.2.2.2.2.2.2.2.2.2.2.2.1 := fun j h => by rw [hm]; exact h
  have hR : ∀ (d' mL : Nat), d' + 1 ≤ 1 ∧ 8 + (mL + 11) + d' * 64 ≤ 1 * 64 → (pb_rm d').frames + 1 ≤ Γ.2.2.2.1.frames ∧ 8 + (mL + 11) + (pb_rm d').locals ≤ Γ.2.2.2.1.locals := by rw [hRm0]; exact fun _ _ h => h
  have hRm : 1 ≤ 1 ∧ 64 ≤ 1 * 64 → 1 ≤ Γ.2.2.2.1.frames ∧ 64 ≤ Γ.2.2.2.1.locals := by rw [hRm0]; exact fun h => h
  exact pb_tt_snd _ (List.forall_mem_cons.mpr ⟨(s_aload_n (pc := 0) X dX12_bottom_0 rfl (s_getL (pc := 1) X dX12_bottom_1 g_X12_7 (s_lret (pc := 4) X E hr dX12_bottom_4))), fun _ h => absurd h List.not_mem_nil⟩)
theorem dX12_isTray_0 : decode cX12_isTray 0 = .ok (.iload_n 0, 1) := by decide +kernel
theorem dX12_isTray_1 : decode cX12_isTray 1 = .ok (.ifCond .lt 12, 3) := by decide +kernel
theorem dX12_isTray_4 : decode cX12_isTray 4 = .ok (.iload_n 0, 1) := by decide +kernel
theorem dX12_isTray_5 : decode cX12_isTray 5 = .ok (.iconst 4, 1) := by decide +kernel
theorem dX12_isTray_6 : decode cX12_isTray 6 = .ok (.if_icmp .ge 7, 3) := by decide +kernel
theorem dX12_isTray_9 : decode cX12_isTray 9 = .ok (.iconst 1, 1) := by decide +kernel
theorem dX12_isTray_10 : decode cX12_isTray 10 = .ok (.goto 4, 3) := by decide +kernel
theorem dX12_isTray_13 : decode cX12_isTray 13 = .ok (.iconst 0, 1) := by decide +kernel
theorem dX12_isTray_14 : decode cX12_isTray 14 = .ok (.ireturn, 1) := by decide +kernel
noncomputable def B_X12_isTray_0 : pb_C := (i_iload 0 (i_if_lt (i_const (.int 0) i_zret) (i_iload 0 (i_const (.int 4) (i_ic_ge (i_const (.int 0) i_zret) (i_const (.int 1) i_zret))))))
noncomputable def T_X12_isTray : Nat → pb_C := pb_tt [(0, B_X12_isTray_0)]
noncomputable def M_X12_isTray : pb_F := pb_M T_X12_isTray 1
set_option maxRecDepth 100000 in
set_option maxHeartbeats 4000000 in
theorem S_X12_isTray (l : Launch) : pb_Sound l yX12_isTray cX12_isTray 1 (some .boolean) 1 M_X12_isTray := by
  refine pb_sound_of (by decide) m_7_233 ?_
  intro Γ hl0 hRm0 hm X E hr J
  have hnL : ∀ j, j < 1 → j < Γ.2.2.2.2.2.2.2.2.2.2.2.1 := fun j h => by rw [hm]; exact h
  have hR : ∀ (d' mL : Nat), d' + 1 ≤ 1 ∧ 8 + (mL + 11) + d' * 64 ≤ 1 * 64 → (pb_rm d').frames + 1 ≤ Γ.2.2.2.1.frames ∧ 8 + (mL + 11) + (pb_rm d').locals ≤ Γ.2.2.2.1.locals := by rw [hRm0]; exact fun _ _ h => h
  have hRm : 1 ≤ 1 ∧ 64 ≤ 1 * 64 → 1 ≤ Γ.2.2.2.1.frames ∧ 64 ≤ Γ.2.2.2.1.locals := by rw [hRm0]; exact fun h => h
  exact pb_tt_snd _ (List.forall_mem_cons.mpr ⟨(s_iload_n (pc := 0) X dX12_isTray_0 rfl (s_if_lt (pc := 1) X dX12_isTray_1 (by decide) (s_iconst (pc := 13) X dX12_isTray_13 rfl (s_zret (pc := 14) X E hr dX12_isTray_14)) (s_iload_n (pc := 4) X dX12_isTray_4 rfl (s_iconst (pc := 5) X dX12_isTray_5 rfl (s_ic_ge (pc := 6) X dX12_isTray_6 (by decide) (s_iconst (pc := 13) X dX12_isTray_13 rfl (s_zret (pc := 14) X E hr dX12_isTray_14)) (s_iconst (pc := 9) X dX12_isTray_9 rfl (s_goto (pc := 10) X dX12_isTray_10 (by decide) (s_zret (pc := 14) X E hr dX12_isTray_14)))))))), fun _ h => absurd h List.not_mem_nil⟩)
theorem dX12_is_0 : decode cX12_is 0 = .ok (.aload_n 0, 1) := by decide +kernel
theorem dX12_is_1 : decode cX12_is 1 = .ok (.iload_n 1, 1) := by decide +kernel
theorem dX12_is_2 : decode cX12_is 2 = .ok (.putfield 231, 3) := by decide +kernel
theorem dX12_is_5 : decode cX12_is 5 = .ok (.iload_n 1, 1) := by decide +kernel
theorem dX12_is_6 : decode cX12_is 6 = .ok (.ifCond .ne 7, 3) := by decide +kernel
theorem dX12_is_9 : decode cX12_is 9 = .ok (.iconst 1, 1) := by decide +kernel
theorem dX12_is_10 : decode cX12_is 10 = .ok (.goto 4, 3) := by decide +kernel
theorem dX12_is_13 : decode cX12_is 13 = .ok (.iconst 0, 1) := by decide +kernel
theorem dX12_is_14 : decode cX12_is 14 = .ok (.ireturn, 1) := by decide +kernel
noncomputable def B_X12_is_0 : pb_C := (i_aload 0 (i_iload 1 (i_putI 64 0 (i_iload 1 (i_if_ne (i_const (.int 0) i_zret) (i_const (.int 1) i_zret))))))
noncomputable def T_X12_is : Nat → pb_C := pb_tt [(0, B_X12_is_0)]
noncomputable def M_X12_is : pb_F := pb_M T_X12_is 2
set_option maxRecDepth 100000 in
set_option maxHeartbeats 4000000 in
theorem S_X12_is (l : Launch) : pb_Sound l yX12_is cX12_is 2 (some .boolean) 1 M_X12_is := by
  refine pb_sound_of (by decide) m_7_237 ?_
  intro Γ hl0 hRm0 hm X E hr J
  have hnL : ∀ j, j < 2 → j < Γ.2.2.2.2.2.2.2.2.2.2.2.1 := fun j h => by rw [hm]; exact h
  have hR : ∀ (d' mL : Nat), d' + 1 ≤ 1 ∧ 8 + (mL + 11) + d' * 64 ≤ 1 * 64 → (pb_rm d').frames + 1 ≤ Γ.2.2.2.1.frames ∧ 8 + (mL + 11) + (pb_rm d').locals ≤ Γ.2.2.2.1.locals := by rw [hRm0]; exact fun _ _ h => h
  have hRm : 1 ≤ 1 ∧ 64 ≤ 1 * 64 → 1 ≤ Γ.2.2.2.1.frames ∧ 64 ≤ Γ.2.2.2.1.locals := by rw [hRm0]; exact fun h => h
  exact pb_tt_snd _ (List.forall_mem_cons.mpr ⟨(s_aload_n (pc := 0) X dX12_is_0 rfl (s_iload_n (pc := 1) X dX12_is_1 rfl (s_putI (pc := 2) X dX12_is_2 p_X12_231 (s_iload_n (pc := 5) X dX12_is_5 rfl (s_if_ne (pc := 6) X dX12_is_6 (by decide) (s_iconst (pc := 13) X dX12_is_13 rfl (s_zret (pc := 14) X E hr dX12_is_14)) (s_iconst (pc := 9) X dX12_is_9 rfl (s_goto (pc := 10) X dX12_is_10 (by decide) (s_zret (pc := 14) X E hr dX12_is_14)))))))), fun _ h => absurd h List.not_mem_nil⟩)
theorem dX12_tray_0 : decode cX12_tray 0 = .ok (.iload_n 1, 1) := by decide +kernel
theorem dX12_tray_1 : decode cX12_tray 1 = .ok (.invokestatic 241, 3) := by decide +kernel
theorem dX12_tray_4 : decode cX12_tray 4 = .ok (.ifCond .eq 22, 3) := by decide +kernel
theorem dX12_tray_7 : decode cX12_tray 7 = .ok (.iload_n 2, 1) := by decide +kernel
theorem dX12_tray_8 : decode cX12_tray 8 = .ok (.ifCond .lt 18, 3) := by decide +kernel
theorem dX12_tray_11 : decode cX12_tray 11 = .ok (.iload_n 2, 1) := by decide +kernel
theorem dX12_tray_12 : decode cX12_tray 12 = .ok (.iconst 3, 1) := by decide +kernel
theorem dX12_tray_13 : decode cX12_tray 13 = .ok (.if_icmp .gt 13, 3) := by decide +kernel
theorem dX12_tray_16 : decode cX12_tray 16 = .ok (.iload_n 3, 1) := by decide +kernel
theorem dX12_tray_17 : decode cX12_tray 17 = .ok (.ifCond .lt 9, 3) := by decide +kernel
theorem dX12_tray_20 : decode cX12_tray 20 = .ok (.iload_n 3, 1) := by decide +kernel
theorem dX12_tray_21 : decode cX12_tray 21 = .ok (.bipush 60, 2) := by decide +kernel
theorem dX12_tray_23 : decode cX12_tray 23 = .ok (.if_icmp .le 9, 3) := by decide +kernel
theorem dX12_tray_26 : decode cX12_tray 26 = .ok (.aload_n 0, 1) := by decide +kernel
theorem dX12_tray_27 : decode cX12_tray 27 = .ok (.iconst 1, 1) := by decide +kernel
theorem dX12_tray_28 : decode cX12_tray 28 = .ok (.invokevirtual 245, 3) := by decide +kernel
theorem dX12_tray_31 : decode cX12_tray 31 = .ok (.ireturn, 1) := by decide +kernel
theorem dX12_tray_32 : decode cX12_tray 32 = .ok (.aload_n 0, 1) := by decide +kernel
theorem dX12_tray_33 : decode cX12_tray 33 = .ok (.getfield 13, 3) := by decide +kernel
theorem dX12_tray_36 : decode cX12_tray 36 = .ok (.iload_n 1, 1) := by decide +kernel
theorem dX12_tray_37 : decode cX12_tray 37 = .ok (.iload_n 2, 1) := by decide +kernel
theorem dX12_tray_38 : decode cX12_tray 38 = .ok (.iastore, 1) := by decide +kernel
theorem dX12_tray_39 : decode cX12_tray 39 = .ok (.aload_n 0, 1) := by decide +kernel
theorem dX12_tray_40 : decode cX12_tray 40 = .ok (.getfield 17, 3) := by decide +kernel
theorem dX12_tray_43 : decode cX12_tray 43 = .ok (.iload_n 1, 1) := by decide +kernel
theorem dX12_tray_44 : decode cX12_tray 44 = .ok (.iload_n 3, 1) := by decide +kernel
theorem dX12_tray_45 : decode cX12_tray 45 = .ok (.iastore, 1) := by decide +kernel
theorem dX12_tray_46 : decode cX12_tray 46 = .ok (.iconst 0, 1) := by decide +kernel
theorem dX12_tray_47 : decode cX12_tray 47 = .ok (.istore 4, 2) := by decide +kernel
theorem dX12_tray_49 : decode cX12_tray 49 = .ok (.iload 4, 2) := by decide +kernel
theorem dX12_tray_51 : decode cX12_tray 51 = .ok (.iload_n 3, 1) := by decide +kernel
theorem dX12_tray_52 : decode cX12_tray 52 = .ok (.if_icmp .ge 22, 3) := by decide +kernel
theorem dX12_tray_55 : decode cX12_tray 55 = .ok (.aload_n 0, 1) := by decide +kernel
theorem dX12_tray_56 : decode cX12_tray 56 = .ok (.getfield 20, 3) := by decide +kernel
theorem dX12_tray_59 : decode cX12_tray 59 = .ok (.bipush 60, 2) := by decide +kernel
theorem dX12_tray_61 : decode cX12_tray 61 = .ok (.iload_n 1, 1) := by decide +kernel
theorem dX12_tray_62 : decode cX12_tray 62 = .ok (.imul, 1) := by decide +kernel
theorem dX12_tray_63 : decode cX12_tray 63 = .ok (.iload 4, 2) := by decide +kernel
theorem dX12_tray_65 : decode cX12_tray 65 = .ok (.iadd, 1) := by decide +kernel
theorem dX12_tray_66 : decode cX12_tray 66 = .ok (.lconst 0, 1) := by decide +kernel
theorem dX12_tray_67 : decode cX12_tray 67 = .ok (.lastore, 1) := by decide +kernel
theorem dX12_tray_68 : decode cX12_tray 68 = .ok (.iinc 4 1, 3) := by decide +kernel
theorem dX12_tray_71 : decode cX12_tray 71 = .ok (.goto (-22), 3) := by decide +kernel
theorem dX12_tray_74 : decode cX12_tray 74 = .ok (.aload_n 0, 1) := by decide +kernel
theorem dX12_tray_75 : decode cX12_tray 75 = .ok (.iconst 0, 1) := by decide +kernel
theorem dX12_tray_76 : decode cX12_tray 76 = .ok (.invokevirtual 245, 3) := by decide +kernel
theorem dX12_tray_79 : decode cX12_tray 79 = .ok (.ireturn, 1) := by decide +kernel
noncomputable def B_X12_tray_0 : pb_C := (i_iload 1 (i_callS 1 1 M_X12_isTray (i_if_eq (i_aload 0 (i_const (.int 1) (i_callV 64 1 1 M_X12_is i_zret))) (i_iload 2 (i_if_lt (i_aload 0 (i_const (.int 1) (i_callV 64 1 1 M_X12_is i_zret))) (i_iload 2 (i_const (.int 3) (i_ic_gt (i_aload 0 (i_const (.int 1) (i_callV 64 1 1 M_X12_is i_zret))) (i_iload 3 (i_if_lt (i_aload 0 (i_const (.int 1) (i_callV 64 1 1 M_X12_is i_zret))) (i_iload 3 (i_const (.int 60) (i_ic_le (i_aload 0 (i_getR 64 65 (i_iload 1 (i_iload 2 (i_ast 65 4 (fun x => x) (i_aload 0 (i_getR 64 66 (i_iload 1 (i_iload 3 (i_ast 66 4 (fun x => x) (i_const (.int 0) (i_istore 4 (i_jmp 49 [true, true, false, true, true]))))))))))))) (i_aload 0 (i_const (.int 1) (i_callV 64 1 1 M_X12_is i_zret))))))))))))))))
noncomputable def B_X12_tray_49 : pb_C := (i_iload 4 (i_iload 3 (i_ic_ge (i_aload 0 (i_const (.int 0) (i_callV 64 1 1 M_X12_is i_zret))) (i_aload 0 (i_getR 64 67 (i_const (.int 60) (i_iload 1 (i_ibin (· * ·) (i_iload 4 (i_ibin (· + ·) (i_const (.long 0) (i_last 67 240 (i_iinc 4 1 (i_jmp 49 [true, true, false, true, true]))))))))))))))
noncomputable def T_X12_tray : Nat → pb_C := pb_tt [(0, B_X12_tray_0), (49, B_X12_tray_49)]
noncomputable def M_X12_tray : pb_F := pb_M T_X12_tray 5
set_option maxRecDepth 100000 in
set_option maxHeartbeats 4000000 in
theorem S_X12_tray (l : Launch) : pb_Sound l yX12_tray cX12_tray 5 (some .boolean) 2 M_X12_tray := by
  refine pb_sound_of (by decide) m_7_230 ?_
  intro Γ hl0 hRm0 hm X E hr J
  have hnL : ∀ j, j < 5 → j < Γ.2.2.2.2.2.2.2.2.2.2.2.1 := fun j h => by rw [hm]; exact h
  have hR : ∀ (d' mL : Nat), d' + 1 ≤ 2 ∧ 8 + (mL + 11) + d' * 64 ≤ 2 * 64 → (pb_rm d').frames + 1 ≤ Γ.2.2.2.1.frames ∧ 8 + (mL + 11) + (pb_rm d').locals ≤ Γ.2.2.2.1.locals := by rw [hRm0]; exact fun _ _ h => h
  have hRm : 1 ≤ 2 ∧ 64 ≤ 2 * 64 → 1 ≤ Γ.2.2.2.1.frames ∧ 64 ≤ Γ.2.2.2.1.locals := by rw [hRm0]; exact fun h => h
  exact pb_tt_snd _ (List.forall_mem_cons.mpr ⟨(s_iload_n (pc := 0) X dX12_tray_0 rfl (s_callS (pc := 1) X dX12_tray_1 (S_X12_isTray _) q_X12_241 (hR _ _ (by decide)) (s_if_eq (pc := 4) X dX12_tray_4 (by decide) (s_aload_n (pc := 26) X dX12_tray_26 rfl (s_iconst (pc := 27) X dX12_tray_27 rfl (s_callV (pc := 28) X dX12_tray_28 (S_X12_is _) q_X12_245 h_64 rfl (hR _ _ (by decide)) (s_zret (pc := 31) X E hr dX12_tray_31)))) (s_iload_n (pc := 7) X dX12_tray_7 rfl (s_if_lt (pc := 8) X dX12_tray_8 (by decide) (s_aload_n (pc := 26) X dX12_tray_26 rfl (s_iconst (pc := 27) X dX12_tray_27 rfl (s_callV (pc := 28) X dX12_tray_28 (S_X12_is _) q_X12_245 h_64 rfl (hR _ _ (by decide)) (s_zret (pc := 31) X E hr dX12_tray_31)))) (s_iload_n (pc := 11) X dX12_tray_11 rfl (s_iconst (pc := 12) X dX12_tray_12 rfl (s_ic_gt (pc := 13) X dX12_tray_13 (by decide) (s_aload_n (pc := 26) X dX12_tray_26 rfl (s_iconst (pc := 27) X dX12_tray_27 rfl (s_callV (pc := 28) X dX12_tray_28 (S_X12_is _) q_X12_245 h_64 rfl (hR _ _ (by decide)) (s_zret (pc := 31) X E hr dX12_tray_31)))) (s_iload_n (pc := 16) X dX12_tray_16 rfl (s_if_lt (pc := 17) X dX12_tray_17 (by decide) (s_aload_n (pc := 26) X dX12_tray_26 rfl (s_iconst (pc := 27) X dX12_tray_27 rfl (s_callV (pc := 28) X dX12_tray_28 (S_X12_is _) q_X12_245 h_64 rfl (hR _ _ (by decide)) (s_zret (pc := 31) X E hr dX12_tray_31)))) (s_iload_n (pc := 20) X dX12_tray_20 rfl (s_bipush (pc := 21) X dX12_tray_21 rfl (s_ic_le (pc := 23) X dX12_tray_23 (by decide) (s_aload_n (pc := 32) X dX12_tray_32 rfl (s_getR (pc := 33) X dX12_tray_33 g_X12_13 (s_iload_n (pc := 36) X dX12_tray_36 rfl (s_iload_n (pc := 37) X dX12_tray_37 rfl (s_iast (pc := 38) X dX12_tray_38 h_65 (s_aload_n (pc := 39) X dX12_tray_39 rfl (s_getR (pc := 40) X dX12_tray_40 g_X12_17 (s_iload_n (pc := 43) X dX12_tray_43 rfl (s_iload_n (pc := 44) X dX12_tray_44 rfl (s_iast (pc := 45) X dX12_tray_45 h_66 (s_iconst (pc := 46) X dX12_tray_46 rfl (s_istore (pc := 47) X dX12_tray_47 (hnL _ (by decide)) (s_jmp (pc := 49) J [true, true, false, true, true]))))))))))))) (s_aload_n (pc := 26) X dX12_tray_26 rfl (s_iconst (pc := 27) X dX12_tray_27 rfl (s_callV (pc := 28) X dX12_tray_28 (S_X12_is _) q_X12_245 h_64 rfl (hR _ _ (by decide)) (s_zret (pc := 31) X E hr dX12_tray_31))))))))))))))))), List.forall_mem_cons.mpr ⟨(s_iload (pc := 49) X dX12_tray_49 (s_iload_n (pc := 51) X dX12_tray_51 rfl (s_ic_ge (pc := 52) X dX12_tray_52 (by decide) (s_aload_n (pc := 74) X dX12_tray_74 rfl (s_iconst (pc := 75) X dX12_tray_75 rfl (s_callV (pc := 76) X dX12_tray_76 (S_X12_is _) q_X12_245 h_64 rfl (hR _ _ (by decide)) (s_zret (pc := 79) X E hr dX12_tray_79)))) (s_aload_n (pc := 55) X dX12_tray_55 rfl (s_getR (pc := 56) X dX12_tray_56 g_X12_20 (s_bipush (pc := 59) X dX12_tray_59 rfl (s_iload_n (pc := 61) X dX12_tray_61 rfl (s_imul (pc := 62) X dX12_tray_62 (s_iload (pc := 63) X dX12_tray_63 (s_iadd (pc := 65) X dX12_tray_65 (s_lconst (pc := 66) X dX12_tray_66 rfl (s_last (pc := 67) X dX12_tray_67 h_67 (s_iinc (pc := 68) X dX12_tray_68 rfl (s_goto (pc := 71) X dX12_tray_71 (by decide) (s_jmp (pc := 49) J [true, true, false, true, true]))))))))))))))), fun _ h => absurd h List.not_mem_nil⟩⟩)
theorem dX12_wrongPlace_0 : decode cX12_wrongPlace 0 = .ok (.iload_n 1, 1) := by decide +kernel
theorem dX12_wrongPlace_1 : decode cX12_wrongPlace 1 = .ok (.invokestatic 241, 3) := by decide +kernel
theorem dX12_wrongPlace_4 : decode cX12_wrongPlace 4 = .ok (.ifCond .ne 7, 3) := by decide +kernel
theorem dX12_wrongPlace_7 : decode cX12_wrongPlace 7 = .ok (.iconst 1, 1) := by decide +kernel
theorem dX12_wrongPlace_8 : decode cX12_wrongPlace 8 = .ok (.goto 36, 3) := by decide +kernel
theorem dX12_wrongPlace_11 : decode cX12_wrongPlace 11 = .ok (.aload_n 0, 1) := by decide +kernel
theorem dX12_wrongPlace_12 : decode cX12_wrongPlace 12 = .ok (.getfield 17, 3) := by decide +kernel
theorem dX12_wrongPlace_15 : decode cX12_wrongPlace 15 = .ok (.iload_n 1, 1) := by decide +kernel
theorem dX12_wrongPlace_16 : decode cX12_wrongPlace 16 = .ok (.iaload, 1) := by decide +kernel
theorem dX12_wrongPlace_17 : decode cX12_wrongPlace 17 = .ok (.iconst (-1), 1) := by decide +kernel
theorem dX12_wrongPlace_18 : decode cX12_wrongPlace 18 = .ok (.if_icmp .ne 7, 3) := by decide +kernel
theorem dX12_wrongPlace_21 : decode cX12_wrongPlace 21 = .ok (.iconst 2, 1) := by decide +kernel
theorem dX12_wrongPlace_22 : decode cX12_wrongPlace 22 = .ok (.goto 22, 3) := by decide +kernel
theorem dX12_wrongPlace_25 : decode cX12_wrongPlace 25 = .ok (.iload_n 2, 1) := by decide +kernel
theorem dX12_wrongPlace_26 : decode cX12_wrongPlace 26 = .ok (.ifCond .lt 13, 3) := by decide +kernel
theorem dX12_wrongPlace_29 : decode cX12_wrongPlace 29 = .ok (.iload_n 2, 1) := by decide +kernel
theorem dX12_wrongPlace_30 : decode cX12_wrongPlace 30 = .ok (.aload_n 0, 1) := by decide +kernel
theorem dX12_wrongPlace_31 : decode cX12_wrongPlace 31 = .ok (.getfield 17, 3) := by decide +kernel
theorem dX12_wrongPlace_34 : decode cX12_wrongPlace 34 = .ok (.iload_n 1, 1) := by decide +kernel
theorem dX12_wrongPlace_35 : decode cX12_wrongPlace 35 = .ok (.iaload, 1) := by decide +kernel
theorem dX12_wrongPlace_36 : decode cX12_wrongPlace 36 = .ok (.if_icmp .lt 7, 3) := by decide +kernel
theorem dX12_wrongPlace_39 : decode cX12_wrongPlace 39 = .ok (.iconst 3, 1) := by decide +kernel
theorem dX12_wrongPlace_40 : decode cX12_wrongPlace 40 = .ok (.goto 4, 3) := by decide +kernel
theorem dX12_wrongPlace_43 : decode cX12_wrongPlace 43 = .ok (.iconst 0, 1) := by decide +kernel
theorem dX12_wrongPlace_44 : decode cX12_wrongPlace 44 = .ok (.ireturn, 1) := by decide +kernel
noncomputable def B_X12_wrongPlace_0 : pb_C := (i_iload 1 (i_callS 1 1 M_X12_isTray (i_if_ne (i_aload 0 (i_getR 64 66 (i_iload 1 (i_ald 66 4 (i_const (.int (-1)) (i_ic_ne (i_iload 2 (i_if_lt (i_const (.int 3) i_iret) (i_iload 2 (i_aload 0 (i_getR 64 66 (i_iload 1 (i_ald 66 4 (i_ic_lt (i_const (.int 0) i_iret) (i_const (.int 3) i_iret))))))))) (i_const (.int 2) i_iret))))))) (i_const (.int 1) i_iret))))
noncomputable def T_X12_wrongPlace : Nat → pb_C := pb_tt [(0, B_X12_wrongPlace_0)]
noncomputable def M_X12_wrongPlace : pb_F := pb_M T_X12_wrongPlace 3
set_option maxRecDepth 100000 in
set_option maxHeartbeats 4000000 in
theorem S_X12_wrongPlace (l : Launch) : pb_Sound l yX12_wrongPlace cX12_wrongPlace 3 (some .int) 2 M_X12_wrongPlace := by
  refine pb_sound_of (by decide) m_8_5 ?_
  intro Γ hl0 hRm0 hm X E hr J
  have hnL : ∀ j, j < 3 → j < Γ.2.2.2.2.2.2.2.2.2.2.2.1 := fun j h => by rw [hm]; exact h
  have hR : ∀ (d' mL : Nat), d' + 1 ≤ 2 ∧ 8 + (mL + 11) + d' * 64 ≤ 2 * 64 → (pb_rm d').frames + 1 ≤ Γ.2.2.2.1.frames ∧ 8 + (mL + 11) + (pb_rm d').locals ≤ Γ.2.2.2.1.locals := by rw [hRm0]; exact fun _ _ h => h
  have hRm : 1 ≤ 2 ∧ 64 ≤ 2 * 64 → 1 ≤ Γ.2.2.2.1.frames ∧ 64 ≤ Γ.2.2.2.1.locals := by rw [hRm0]; exact fun h => h
  exact pb_tt_snd _ (List.forall_mem_cons.mpr ⟨(s_iload_n (pc := 0) X dX12_wrongPlace_0 rfl (s_callS (pc := 1) X dX12_wrongPlace_1 (S_X12_isTray _) q_X12_241 (hR _ _ (by decide)) (s_if_ne (pc := 4) X dX12_wrongPlace_4 (by decide) (s_aload_n (pc := 11) X dX12_wrongPlace_11 rfl (s_getR (pc := 12) X dX12_wrongPlace_12 g_X12_17 (s_iload_n (pc := 15) X dX12_wrongPlace_15 rfl (s_iald (pc := 16) X dX12_wrongPlace_16 h_66 (s_iconst (pc := 17) X dX12_wrongPlace_17 rfl (s_ic_ne (pc := 18) X dX12_wrongPlace_18 (by decide) (s_iload_n (pc := 25) X dX12_wrongPlace_25 rfl (s_if_lt (pc := 26) X dX12_wrongPlace_26 (by decide) (s_iconst (pc := 39) X dX12_wrongPlace_39 rfl (s_goto (pc := 40) X dX12_wrongPlace_40 (by decide) (s_iret (pc := 44) X E hr dX12_wrongPlace_44))) (s_iload_n (pc := 29) X dX12_wrongPlace_29 rfl (s_aload_n (pc := 30) X dX12_wrongPlace_30 rfl (s_getR (pc := 31) X dX12_wrongPlace_31 g_X12_17 (s_iload_n (pc := 34) X dX12_wrongPlace_34 rfl (s_iald (pc := 35) X dX12_wrongPlace_35 h_66 (s_ic_lt (pc := 36) X dX12_wrongPlace_36 (by decide) (s_iconst (pc := 43) X dX12_wrongPlace_43 rfl (s_iret (pc := 44) X E hr dX12_wrongPlace_44)) (s_iconst (pc := 39) X dX12_wrongPlace_39 rfl (s_goto (pc := 40) X dX12_wrongPlace_40 (by decide) (s_iret (pc := 44) X E hr dX12_wrongPlace_44))))))))))) (s_iconst (pc := 21) X dX12_wrongPlace_21 rfl (s_goto (pc := 22) X dX12_wrongPlace_22 (by decide) (s_iret (pc := 44) X E hr dX12_wrongPlace_44))))))))) (s_iconst (pc := 7) X dX12_wrongPlace_7 rfl (s_goto (pc := 8) X dX12_wrongPlace_8 (by decide) (s_iret (pc := 44) X E hr dX12_wrongPlace_44)))))), fun _ h => absurd h List.not_mem_nil⟩)
theorem dX12_cut_0 : decode cX12_cut 0 = .ok (.iload_n 2, 1) := by decide +kernel
theorem dX12_cut_1 : decode cX12_cut 1 = .ok (.ifCond .ne 10, 3) := by decide +kernel
theorem dX12_cut_4 : decode cX12_cut 4 = .ok (.lload_n 0, 1) := by decide +kernel
theorem dX12_cut_5 : decode cX12_cut 5 = .ok (.l2i, 1) := by decide +kernel
theorem dX12_cut_6 : decode cX12_cut 6 = .ok (.i2b, 1) := by decide +kernel
theorem dX12_cut_7 : decode cX12_cut 7 = .ok (.i2l, 1) := by decide +kernel
theorem dX12_cut_8 : decode cX12_cut 8 = .ok (.goto 27, 3) := by decide +kernel
theorem dX12_cut_11 : decode cX12_cut 11 = .ok (.iload_n 2, 1) := by decide +kernel
theorem dX12_cut_12 : decode cX12_cut 12 = .ok (.iconst 1, 1) := by decide +kernel
theorem dX12_cut_13 : decode cX12_cut 13 = .ok (.if_icmp .ne 10, 3) := by decide +kernel
theorem dX12_cut_16 : decode cX12_cut 16 = .ok (.lload_n 0, 1) := by decide +kernel
theorem dX12_cut_17 : decode cX12_cut 17 = .ok (.l2i, 1) := by decide +kernel
theorem dX12_cut_18 : decode cX12_cut 18 = .ok (.i2s, 1) := by decide +kernel
theorem dX12_cut_19 : decode cX12_cut 19 = .ok (.i2l, 1) := by decide +kernel
theorem dX12_cut_20 : decode cX12_cut 20 = .ok (.goto 15, 3) := by decide +kernel
theorem dX12_cut_23 : decode cX12_cut 23 = .ok (.iload_n 2, 1) := by decide +kernel
theorem dX12_cut_24 : decode cX12_cut 24 = .ok (.iconst 2, 1) := by decide +kernel
theorem dX12_cut_25 : decode cX12_cut 25 = .ok (.if_icmp .ne 9, 3) := by decide +kernel
theorem dX12_cut_28 : decode cX12_cut 28 = .ok (.lload_n 0, 1) := by decide +kernel
theorem dX12_cut_29 : decode cX12_cut 29 = .ok (.l2i, 1) := by decide +kernel
theorem dX12_cut_30 : decode cX12_cut 30 = .ok (.i2l, 1) := by decide +kernel
theorem dX12_cut_31 : decode cX12_cut 31 = .ok (.goto 4, 3) := by decide +kernel
theorem dX12_cut_34 : decode cX12_cut 34 = .ok (.lload_n 0, 1) := by decide +kernel
theorem dX12_cut_35 : decode cX12_cut 35 = .ok (.lreturn, 1) := by decide +kernel
noncomputable def B_X12_cut_0 : pb_C := (i_iload 2 (i_if_ne (i_iload 2 (i_const (.int 1) (i_ic_ne (i_iload 2 (i_const (.int 2) (i_ic_ne (i_lload 0 i_lret) (i_lload 0 (i_l2i (i_i2l i_lret)))))) (i_lload 0 (i_l2i (i_iun (fun x => x.toInt16.toInt32) (i_i2l i_lret))))))) (i_lload 0 (i_l2i (i_iun (fun x => x.toInt8.toInt32) (i_i2l i_lret))))))
noncomputable def T_X12_cut : Nat → pb_C := pb_tt [(0, B_X12_cut_0)]
noncomputable def M_X12_cut : pb_F := pb_M T_X12_cut 3
set_option maxRecDepth 100000 in
set_option maxHeartbeats 4000000 in
theorem S_X12_cut (l : Launch) : pb_Sound l yX12_cut cX12_cut 3 (some .long) 1 M_X12_cut := by
  refine pb_sound_of (by decide) m_8_8 ?_
  intro Γ hl0 hRm0 hm X E hr J
  have hnL : ∀ j, j < 3 → j < Γ.2.2.2.2.2.2.2.2.2.2.2.1 := fun j h => by rw [hm]; exact h
  have hR : ∀ (d' mL : Nat), d' + 1 ≤ 1 ∧ 8 + (mL + 11) + d' * 64 ≤ 1 * 64 → (pb_rm d').frames + 1 ≤ Γ.2.2.2.1.frames ∧ 8 + (mL + 11) + (pb_rm d').locals ≤ Γ.2.2.2.1.locals := by rw [hRm0]; exact fun _ _ h => h
  have hRm : 1 ≤ 1 ∧ 64 ≤ 1 * 64 → 1 ≤ Γ.2.2.2.1.frames ∧ 64 ≤ Γ.2.2.2.1.locals := by rw [hRm0]; exact fun h => h
  exact pb_tt_snd _ (List.forall_mem_cons.mpr ⟨(s_iload_n (pc := 0) X dX12_cut_0 rfl (s_if_ne (pc := 1) X dX12_cut_1 (by decide) (s_iload_n (pc := 11) X dX12_cut_11 rfl (s_iconst (pc := 12) X dX12_cut_12 rfl (s_ic_ne (pc := 13) X dX12_cut_13 (by decide) (s_iload_n (pc := 23) X dX12_cut_23 rfl (s_iconst (pc := 24) X dX12_cut_24 rfl (s_ic_ne (pc := 25) X dX12_cut_25 (by decide) (s_lload_n (pc := 34) X dX12_cut_34 rfl (s_lret (pc := 35) X E hr dX12_cut_35)) (s_lload_n (pc := 28) X dX12_cut_28 rfl (s_l2i (pc := 29) X dX12_cut_29 (s_i2l (pc := 30) X dX12_cut_30 (s_goto (pc := 31) X dX12_cut_31 (by decide) (s_lret (pc := 35) X E hr dX12_cut_35)))))))) (s_lload_n (pc := 16) X dX12_cut_16 rfl (s_l2i (pc := 17) X dX12_cut_17 (s_i2s (pc := 18) X dX12_cut_18 (s_i2l (pc := 19) X dX12_cut_19 (s_goto (pc := 20) X dX12_cut_20 (by decide) (s_lret (pc := 35) X E hr dX12_cut_35))))))))) (s_lload_n (pc := 4) X dX12_cut_4 rfl (s_l2i (pc := 5) X dX12_cut_5 (s_i2b (pc := 6) X dX12_cut_6 (s_i2l (pc := 7) X dX12_cut_7 (s_goto (pc := 8) X dX12_cut_8 (by decide) (s_lret (pc := 35) X E hr dX12_cut_35)))))))), fun _ h => absurd h List.not_mem_nil⟩)
theorem dX12_write_0 : decode cX12_write 0 = .ok (.aload_n 0, 1) := by decide +kernel
theorem dX12_write_1 : decode cX12_write 1 = .ok (.iload_n 1, 1) := by decide +kernel
theorem dX12_write_2 : decode cX12_write 2 = .ok (.iload_n 2, 1) := by decide +kernel
theorem dX12_write_3 : decode cX12_write 3 = .ok (.invokevirtual 248, 3) := by decide +kernel
theorem dX12_write_6 : decode cX12_write 6 = .ok (.istore 5, 2) := by decide +kernel
theorem dX12_write_8 : decode cX12_write 8 = .ok (.iload 5, 2) := by decide +kernel
theorem dX12_write_10 : decode cX12_write 10 = .ok (.ifCond .ne 24, 3) := by decide +kernel
theorem dX12_write_13 : decode cX12_write 13 = .ok (.aload_n 0, 1) := by decide +kernel
theorem dX12_write_14 : decode cX12_write 14 = .ok (.getfield 20, 3) := by decide +kernel
theorem dX12_write_17 : decode cX12_write 17 = .ok (.bipush 60, 2) := by decide +kernel
theorem dX12_write_19 : decode cX12_write 19 = .ok (.iload_n 1, 1) := by decide +kernel
theorem dX12_write_20 : decode cX12_write 20 = .ok (.imul, 1) := by decide +kernel
theorem dX12_write_21 : decode cX12_write 21 = .ok (.iload_n 2, 1) := by decide +kernel
theorem dX12_write_22 : decode cX12_write 22 = .ok (.iadd, 1) := by decide +kernel
theorem dX12_write_23 : decode cX12_write 23 = .ok (.lload_n 3, 1) := by decide +kernel
theorem dX12_write_24 : decode cX12_write 24 = .ok (.aload_n 0, 1) := by decide +kernel
theorem dX12_write_25 : decode cX12_write 25 = .ok (.getfield 13, 3) := by decide +kernel
theorem dX12_write_28 : decode cX12_write 28 = .ok (.iload_n 1, 1) := by decide +kernel
theorem dX12_write_29 : decode cX12_write 29 = .ok (.iaload, 1) := by decide +kernel
theorem dX12_write_30 : decode cX12_write 30 = .ok (.invokestatic 252, 3) := by decide +kernel
theorem dX12_write_33 : decode cX12_write 33 = .ok (.lastore, 1) := by decide +kernel
theorem dX12_write_34 : decode cX12_write 34 = .ok (.aload_n 0, 1) := by decide +kernel
theorem dX12_write_35 : decode cX12_write 35 = .ok (.iload 5, 2) := by decide +kernel
theorem dX12_write_37 : decode cX12_write 37 = .ok (.invokevirtual 245, 3) := by decide +kernel
theorem dX12_write_40 : decode cX12_write 40 = .ok (.ireturn, 1) := by decide +kernel
noncomputable def B_X12_write_0 : pb_C := (i_aload 0 (i_iload 1 (i_iload 2 (i_callV 64 2 1 M_X12_wrongPlace (i_istore 5 (i_iload 5 (i_if_ne (i_aload 0 (i_iload 5 (i_callV 64 1 1 M_X12_is i_zret))) (i_aload 0 (i_getR 64 67 (i_const (.int 60) (i_iload 1 (i_ibin (· * ·) (i_iload 2 (i_ibin (· + ·) (i_lload 3 (i_aload 0 (i_getR 64 65 (i_iload 1 (i_ald 65 4 (i_callS 2 2 M_X12_cut (i_last 67 240 (i_aload 0 (i_iload 5 (i_callV 64 1 1 M_X12_is i_zret))))))))))))))))))))))))
noncomputable def T_X12_write : Nat → pb_C := pb_tt [(0, B_X12_write_0)]
noncomputable def M_X12_write : pb_F := pb_M T_X12_write 6
set_option maxRecDepth 100000 in
set_option maxHeartbeats 4000000 in
theorem S_X12_write (l : Launch) : pb_Sound l yX12_write cX12_write 6 (some .boolean) 3 M_X12_write := by
  refine pb_sound_of (by decide) m_8_1 ?_
  intro Γ hl0 hRm0 hm X E hr J
  have hnL : ∀ j, j < 6 → j < Γ.2.2.2.2.2.2.2.2.2.2.2.1 := fun j h => by rw [hm]; exact h
  have hR : ∀ (d' mL : Nat), d' + 1 ≤ 3 ∧ 8 + (mL + 11) + d' * 64 ≤ 3 * 64 → (pb_rm d').frames + 1 ≤ Γ.2.2.2.1.frames ∧ 8 + (mL + 11) + (pb_rm d').locals ≤ Γ.2.2.2.1.locals := by rw [hRm0]; exact fun _ _ h => h
  have hRm : 1 ≤ 3 ∧ 64 ≤ 3 * 64 → 1 ≤ Γ.2.2.2.1.frames ∧ 64 ≤ Γ.2.2.2.1.locals := by rw [hRm0]; exact fun h => h
  exact pb_tt_snd _ (List.forall_mem_cons.mpr ⟨(s_aload_n (pc := 0) X dX12_write_0 rfl (s_iload_n (pc := 1) X dX12_write_1 rfl (s_iload_n (pc := 2) X dX12_write_2 rfl (s_callV (pc := 3) X dX12_write_3 (S_X12_wrongPlace _) q_X12_248 h_64 rfl (hR _ _ (by decide)) (s_istore (pc := 6) X dX12_write_6 (hnL _ (by decide)) (s_iload (pc := 8) X dX12_write_8 (s_if_ne (pc := 10) X dX12_write_10 (by decide) (s_aload_n (pc := 34) X dX12_write_34 rfl (s_iload (pc := 35) X dX12_write_35 (s_callV (pc := 37) X dX12_write_37 (S_X12_is _) q_X12_245 h_64 rfl (hR _ _ (by decide)) (s_zret (pc := 40) X E hr dX12_write_40)))) (s_aload_n (pc := 13) X dX12_write_13 rfl (s_getR (pc := 14) X dX12_write_14 g_X12_20 (s_bipush (pc := 17) X dX12_write_17 rfl (s_iload_n (pc := 19) X dX12_write_19 rfl (s_imul (pc := 20) X dX12_write_20 (s_iload_n (pc := 21) X dX12_write_21 rfl (s_iadd (pc := 22) X dX12_write_22 (s_lload_n (pc := 23) X dX12_write_23 rfl (s_aload_n (pc := 24) X dX12_write_24 rfl (s_getR (pc := 25) X dX12_write_25 g_X12_13 (s_iload_n (pc := 28) X dX12_write_28 rfl (s_iald (pc := 29) X dX12_write_29 h_65 (s_callS (pc := 30) X dX12_write_30 (S_X12_cut _) q_X12_252 (hR _ _ (by decide)) (s_last (pc := 33) X dX12_write_33 h_67 (s_aload_n (pc := 34) X dX12_write_34 rfl (s_iload (pc := 35) X dX12_write_35 (s_callV (pc := 37) X dX12_write_37 (S_X12_is _) q_X12_245 h_64 rfl (hR _ _ (by decide)) (s_zret (pc := 40) X E hr dX12_write_40))))))))))))))))))))))))), fun _ h => absurd h List.not_mem_nil⟩)
theorem dX12_read_0 : decode cX12_read 0 = .ok (.aload_n 0, 1) := by decide +kernel
theorem dX12_read_1 : decode cX12_read 1 = .ok (.aload_n 0, 1) := by decide +kernel
theorem dX12_read_2 : decode cX12_read 2 = .ok (.iload_n 1, 1) := by decide +kernel
theorem dX12_read_3 : decode cX12_read 3 = .ok (.iload_n 2, 1) := by decide +kernel
theorem dX12_read_4 : decode cX12_read 4 = .ok (.invokevirtual 248, 3) := by decide +kernel
theorem dX12_read_7 : decode cX12_read 7 = .ok (.putfield 231, 3) := by decide +kernel
theorem dX12_read_10 : decode cX12_read 10 = .ok (.aload_n 0, 1) := by decide +kernel
theorem dX12_read_11 : decode cX12_read 11 = .ok (.getfield 231, 3) := by decide +kernel
theorem dX12_read_14 : decode cX12_read 14 = .ok (.ifCond .le 9, 3) := by decide +kernel
theorem dX12_read_17 : decode cX12_read 17 = .ok (.ldc2_w 256, 3) := by decide +kernel
theorem dX12_read_20 : decode cX12_read 20 = .ok (.goto 14, 3) := by decide +kernel
theorem dX12_read_23 : decode cX12_read 23 = .ok (.aload_n 0, 1) := by decide +kernel
theorem dX12_read_24 : decode cX12_read 24 = .ok (.getfield 20, 3) := by decide +kernel
theorem dX12_read_27 : decode cX12_read 27 = .ok (.bipush 60, 2) := by decide +kernel
theorem dX12_read_29 : decode cX12_read 29 = .ok (.iload_n 1, 1) := by decide +kernel
theorem dX12_read_30 : decode cX12_read 30 = .ok (.imul, 1) := by decide +kernel
theorem dX12_read_31 : decode cX12_read 31 = .ok (.iload_n 2, 1) := by decide +kernel
theorem dX12_read_32 : decode cX12_read 32 = .ok (.iadd, 1) := by decide +kernel
theorem dX12_read_33 : decode cX12_read 33 = .ok (.laload, 1) := by decide +kernel
theorem dX12_read_34 : decode cX12_read 34 = .ok (.lreturn, 1) := by decide +kernel
noncomputable def B_X12_read_0 : pb_C := (i_aload 0 (i_aload 0 (i_iload 1 (i_iload 2 (i_callV 64 2 1 M_X12_wrongPlace (i_putI 64 0 (i_aload 0 (i_getI 64 0 (i_if_le (i_aload 0 (i_getR 64 67 (i_const (.int 60) (i_iload 1 (i_ibin (· * ·) (i_iload 2 (i_ibin (· + ·) (i_lald 67 240 i_lret)))))))) (i_const (.long (-1)) i_lret))))))))))
noncomputable def T_X12_read : Nat → pb_C := pb_tt [(0, B_X12_read_0)]
noncomputable def M_X12_read : pb_F := pb_M T_X12_read 3
set_option maxRecDepth 100000 in
set_option maxHeartbeats 4000000 in
theorem S_X12_read (l : Launch) : pb_Sound l yX12_read cX12_read 3 (some .long) 3 M_X12_read := by
  refine pb_sound_of (by decide) m_8_12 ?_
  intro Γ hl0 hRm0 hm X E hr J
  have hnL : ∀ j, j < 3 → j < Γ.2.2.2.2.2.2.2.2.2.2.2.1 := fun j h => by rw [hm]; exact h
  have hR : ∀ (d' mL : Nat), d' + 1 ≤ 3 ∧ 8 + (mL + 11) + d' * 64 ≤ 3 * 64 → (pb_rm d').frames + 1 ≤ Γ.2.2.2.1.frames ∧ 8 + (mL + 11) + (pb_rm d').locals ≤ Γ.2.2.2.1.locals := by rw [hRm0]; exact fun _ _ h => h
  have hRm : 1 ≤ 3 ∧ 64 ≤ 3 * 64 → 1 ≤ Γ.2.2.2.1.frames ∧ 64 ≤ Γ.2.2.2.1.locals := by rw [hRm0]; exact fun h => h
  exact pb_tt_snd _ (List.forall_mem_cons.mpr ⟨(s_aload_n (pc := 0) X dX12_read_0 rfl (s_aload_n (pc := 1) X dX12_read_1 rfl (s_iload_n (pc := 2) X dX12_read_2 rfl (s_iload_n (pc := 3) X dX12_read_3 rfl (s_callV (pc := 4) X dX12_read_4 (S_X12_wrongPlace _) q_X12_248 h_64 rfl (hR _ _ (by decide)) (s_putI (pc := 7) X dX12_read_7 p_X12_231 (s_aload_n (pc := 10) X dX12_read_10 rfl (s_getI (pc := 11) X dX12_read_11 g_X12_231 (s_if_le (pc := 14) X dX12_read_14 (by decide) (s_aload_n (pc := 23) X dX12_read_23 rfl (s_getR (pc := 24) X dX12_read_24 g_X12_20 (s_bipush (pc := 27) X dX12_read_27 rfl (s_iload_n (pc := 29) X dX12_read_29 rfl (s_imul (pc := 30) X dX12_read_30 (s_iload_n (pc := 31) X dX12_read_31 rfl (s_iadd (pc := 32) X dX12_read_32 (s_lald (pc := 33) X dX12_read_33 h_67 (s_lret (pc := 34) X E hr dX12_read_34))))))))) (s_ldc2 (pc := 17) X dX12_read_17 m_8_13 (s_goto (pc := 20) X dX12_read_20 (by decide) (s_lret (pc := 34) X E hr dX12_read_34)))))))))))), fun _ h => absurd h List.not_mem_nil⟩)
theorem dX12_pour_0 : decode cX12_pour 0 = .ok (.iload_n 1, 1) := by decide +kernel
theorem dX12_pour_1 : decode cX12_pour 1 = .ok (.invokestatic 241, 3) := by decide +kernel
theorem dX12_pour_4 : decode cX12_pour 4 = .ok (.ifCond .eq 24, 3) := by decide +kernel
theorem dX12_pour_7 : decode cX12_pour 7 = .ok (.iload_n 3, 1) := by decide +kernel
theorem dX12_pour_8 : decode cX12_pour 8 = .ok (.invokestatic 241, 3) := by decide +kernel
theorem dX12_pour_11 : decode cX12_pour 11 = .ok (.ifCond .eq 17, 3) := by decide +kernel
theorem dX12_pour_14 : decode cX12_pour 14 = .ok (.iload_n 2, 1) := by decide +kernel
theorem dX12_pour_15 : decode cX12_pour 15 = .ok (.ifCond .lt 13, 3) := by decide +kernel
theorem dX12_pour_18 : decode cX12_pour 18 = .ok (.iload 4, 2) := by decide +kernel
theorem dX12_pour_20 : decode cX12_pour 20 = .ok (.ifCond .lt 8, 3) := by decide +kernel
theorem dX12_pour_23 : decode cX12_pour 23 = .ok (.iload 5, 2) := by decide +kernel
theorem dX12_pour_25 : decode cX12_pour 25 = .ok (.ifCond .ge 9, 3) := by decide +kernel
theorem dX12_pour_28 : decode cX12_pour 28 = .ok (.aload_n 0, 1) := by decide +kernel
theorem dX12_pour_29 : decode cX12_pour 29 = .ok (.iconst 1, 1) := by decide +kernel
theorem dX12_pour_30 : decode cX12_pour 30 = .ok (.invokevirtual 245, 3) := by decide +kernel
theorem dX12_pour_33 : decode cX12_pour 33 = .ok (.ireturn, 1) := by decide +kernel
theorem dX12_pour_34 : decode cX12_pour 34 = .ok (.aload_n 0, 1) := by decide +kernel
theorem dX12_pour_35 : decode cX12_pour 35 = .ok (.getfield 17, 3) := by decide +kernel
theorem dX12_pour_38 : decode cX12_pour 38 = .ok (.iload_n 1, 1) := by decide +kernel
theorem dX12_pour_39 : decode cX12_pour 39 = .ok (.iaload, 1) := by decide +kernel
theorem dX12_pour_40 : decode cX12_pour 40 = .ok (.iconst (-1), 1) := by decide +kernel
theorem dX12_pour_41 : decode cX12_pour 41 = .ok (.if_icmp .eq 13, 3) := by decide +kernel
theorem dX12_pour_44 : decode cX12_pour 44 = .ok (.aload_n 0, 1) := by decide +kernel
theorem dX12_pour_45 : decode cX12_pour 45 = .ok (.getfield 17, 3) := by decide +kernel
theorem dX12_pour_48 : decode cX12_pour 48 = .ok (.iload_n 3, 1) := by decide +kernel
theorem dX12_pour_49 : decode cX12_pour 49 = .ok (.iaload, 1) := by decide +kernel
theorem dX12_pour_50 : decode cX12_pour 50 = .ok (.iconst (-1), 1) := by decide +kernel
theorem dX12_pour_51 : decode cX12_pour 51 = .ok (.if_icmp .ne 9, 3) := by decide +kernel
theorem dX12_pour_54 : decode cX12_pour 54 = .ok (.aload_n 0, 1) := by decide +kernel
theorem dX12_pour_55 : decode cX12_pour 55 = .ok (.iconst 2, 1) := by decide +kernel
theorem dX12_pour_56 : decode cX12_pour 56 = .ok (.invokevirtual 245, 3) := by decide +kernel
theorem dX12_pour_59 : decode cX12_pour 59 = .ok (.ireturn, 1) := by decide +kernel
theorem dX12_pour_60 : decode cX12_pour 60 = .ok (.aload_n 0, 1) := by decide +kernel
theorem dX12_pour_61 : decode cX12_pour 61 = .ok (.getfield 13, 3) := by decide +kernel
theorem dX12_pour_64 : decode cX12_pour 64 = .ok (.iload_n 1, 1) := by decide +kernel
theorem dX12_pour_65 : decode cX12_pour 65 = .ok (.iaload, 1) := by decide +kernel
theorem dX12_pour_66 : decode cX12_pour 66 = .ok (.aload_n 0, 1) := by decide +kernel
theorem dX12_pour_67 : decode cX12_pour 67 = .ok (.getfield 13, 3) := by decide +kernel
theorem dX12_pour_70 : decode cX12_pour 70 = .ok (.iload_n 3, 1) := by decide +kernel
theorem dX12_pour_71 : decode cX12_pour 71 = .ok (.iaload, 1) := by decide +kernel
theorem dX12_pour_72 : decode cX12_pour 72 = .ok (.if_icmp .eq 10, 3) := by decide +kernel
theorem dX12_pour_75 : decode cX12_pour 75 = .ok (.aload_n 0, 1) := by decide +kernel
theorem dX12_pour_76 : decode cX12_pour 76 = .ok (.bipush 8, 2) := by decide +kernel
theorem dX12_pour_78 : decode cX12_pour 78 = .ok (.invokevirtual 245, 3) := by decide +kernel
theorem dX12_pour_81 : decode cX12_pour 81 = .ok (.ireturn, 1) := by decide +kernel
theorem dX12_pour_82 : decode cX12_pour 82 = .ok (.iload 5, 2) := by decide +kernel
theorem dX12_pour_84 : decode cX12_pour 84 = .ok (.aload_n 0, 1) := by decide +kernel
theorem dX12_pour_85 : decode cX12_pour 85 = .ok (.getfield 17, 3) := by decide +kernel
theorem dX12_pour_88 : decode cX12_pour 88 = .ok (.iload_n 1, 1) := by decide +kernel
theorem dX12_pour_89 : decode cX12_pour 89 = .ok (.iaload, 1) := by decide +kernel
theorem dX12_pour_90 : decode cX12_pour 90 = .ok (.iload_n 2, 1) := by decide +kernel
theorem dX12_pour_91 : decode cX12_pour 91 = .ok (.isub, 1) := by decide +kernel
theorem dX12_pour_92 : decode cX12_pour 92 = .ok (.if_icmp .gt 17, 3) := by decide +kernel
theorem dX12_pour_95 : decode cX12_pour 95 = .ok (.iload 5, 2) := by decide +kernel
theorem dX12_pour_97 : decode cX12_pour 97 = .ok (.aload_n 0, 1) := by decide +kernel
theorem dX12_pour_98 : decode cX12_pour 98 = .ok (.getfield 17, 3) := by decide +kernel
theorem dX12_pour_101 : decode cX12_pour 101 = .ok (.iload_n 3, 1) := by decide +kernel
theorem dX12_pour_102 : decode cX12_pour 102 = .ok (.iaload, 1) := by decide +kernel
theorem dX12_pour_103 : decode cX12_pour 103 = .ok (.iload 4, 2) := by decide +kernel
theorem dX12_pour_105 : decode cX12_pour 105 = .ok (.isub, 1) := by decide +kernel
theorem dX12_pour_106 : decode cX12_pour 106 = .ok (.if_icmp .le 9, 3) := by decide +kernel
theorem dX12_pour_109 : decode cX12_pour 109 = .ok (.aload_n 0, 1) := by decide +kernel
theorem dX12_pour_110 : decode cX12_pour 110 = .ok (.iconst 3, 1) := by decide +kernel
theorem dX12_pour_111 : decode cX12_pour 111 = .ok (.invokevirtual 245, 3) := by decide +kernel
theorem dX12_pour_114 : decode cX12_pour 114 = .ok (.ireturn, 1) := by decide +kernel
theorem dX12_pour_115 : decode cX12_pour 115 = .ok (.iconst 0, 1) := by decide +kernel
theorem dX12_pour_116 : decode cX12_pour 116 = .ok (.istore 6, 2) := by decide +kernel
theorem dX12_pour_118 : decode cX12_pour 118 = .ok (.iload 6, 2) := by decide +kernel
theorem dX12_pour_120 : decode cX12_pour 120 = .ok (.iload 5, 2) := by decide +kernel
theorem dX12_pour_122 : decode cX12_pour 122 = .ok (.if_icmp .ge 58, 3) := by decide +kernel
theorem dX12_pour_125 : decode cX12_pour 125 = .ok (.iload_n 2, 1) := by decide +kernel
theorem dX12_pour_126 : decode cX12_pour 126 = .ok (.iload 4, 2) := by decide +kernel
theorem dX12_pour_128 : decode cX12_pour 128 = .ok (.if_icmp .ge 13, 3) := by decide +kernel
theorem dX12_pour_131 : decode cX12_pour 131 = .ok (.iload 5, 2) := by decide +kernel
theorem dX12_pour_133 : decode cX12_pour 133 = .ok (.iconst 1, 1) := by decide +kernel
theorem dX12_pour_134 : decode cX12_pour 134 = .ok (.isub, 1) := by decide +kernel
theorem dX12_pour_135 : decode cX12_pour 135 = .ok (.iload 6, 2) := by decide +kernel
theorem dX12_pour_137 : decode cX12_pour 137 = .ok (.isub, 1) := by decide +kernel
theorem dX12_pour_138 : decode cX12_pour 138 = .ok (.goto 5, 3) := by decide +kernel
theorem dX12_pour_141 : decode cX12_pour 141 = .ok (.iload 6, 2) := by decide +kernel
theorem dX12_pour_143 : decode cX12_pour 143 = .ok (.istore 7, 2) := by decide +kernel
theorem dX12_pour_145 : decode cX12_pour 145 = .ok (.aload_n 0, 1) := by decide +kernel
theorem dX12_pour_146 : decode cX12_pour 146 = .ok (.getfield 20, 3) := by decide +kernel
theorem dX12_pour_149 : decode cX12_pour 149 = .ok (.bipush 60, 2) := by decide +kernel
theorem dX12_pour_151 : decode cX12_pour 151 = .ok (.iload_n 3, 1) := by decide +kernel
theorem dX12_pour_152 : decode cX12_pour 152 = .ok (.imul, 1) := by decide +kernel
theorem dX12_pour_153 : decode cX12_pour 153 = .ok (.iload 4, 2) := by decide +kernel
theorem dX12_pour_155 : decode cX12_pour 155 = .ok (.iadd, 1) := by decide +kernel
theorem dX12_pour_156 : decode cX12_pour 156 = .ok (.iload 7, 2) := by decide +kernel
theorem dX12_pour_158 : decode cX12_pour 158 = .ok (.iadd, 1) := by decide +kernel
theorem dX12_pour_159 : decode cX12_pour 159 = .ok (.aload_n 0, 1) := by decide +kernel
theorem dX12_pour_160 : decode cX12_pour 160 = .ok (.getfield 20, 3) := by decide +kernel
theorem dX12_pour_163 : decode cX12_pour 163 = .ok (.bipush 60, 2) := by decide +kernel
theorem dX12_pour_165 : decode cX12_pour 165 = .ok (.iload_n 1, 1) := by decide +kernel
theorem dX12_pour_166 : decode cX12_pour 166 = .ok (.imul, 1) := by decide +kernel
theorem dX12_pour_167 : decode cX12_pour 167 = .ok (.iload_n 2, 1) := by decide +kernel
theorem dX12_pour_168 : decode cX12_pour 168 = .ok (.iadd, 1) := by decide +kernel
theorem dX12_pour_169 : decode cX12_pour 169 = .ok (.iload 7, 2) := by decide +kernel
theorem dX12_pour_171 : decode cX12_pour 171 = .ok (.iadd, 1) := by decide +kernel
theorem dX12_pour_172 : decode cX12_pour 172 = .ok (.laload, 1) := by decide +kernel
theorem dX12_pour_173 : decode cX12_pour 173 = .ok (.lastore, 1) := by decide +kernel
theorem dX12_pour_174 : decode cX12_pour 174 = .ok (.iinc 6 1, 3) := by decide +kernel
theorem dX12_pour_177 : decode cX12_pour 177 = .ok (.goto (-59), 3) := by decide +kernel
theorem dX12_pour_180 : decode cX12_pour 180 = .ok (.aload_n 0, 1) := by decide +kernel
theorem dX12_pour_181 : decode cX12_pour 181 = .ok (.iconst 0, 1) := by decide +kernel
theorem dX12_pour_182 : decode cX12_pour 182 = .ok (.invokevirtual 245, 3) := by decide +kernel
theorem dX12_pour_185 : decode cX12_pour 185 = .ok (.ireturn, 1) := by decide +kernel
noncomputable def B_X12_pour_0 : pb_C := (i_iload 1 (i_callS 1 1 M_X12_isTray (i_if_eq (i_aload 0 (i_const (.int 1) (i_callV 64 1 1 M_X12_is i_zret))) (i_iload 3 (i_callS 1 1 M_X12_isTray (i_if_eq (i_aload 0 (i_const (.int 1) (i_callV 64 1 1 M_X12_is i_zret))) (i_iload 2 (i_if_lt (i_aload 0 (i_const (.int 1) (i_callV 64 1 1 M_X12_is i_zret))) (i_iload 4 (i_if_lt (i_aload 0 (i_const (.int 1) (i_callV 64 1 1 M_X12_is i_zret))) (i_iload 5 (i_if_ge (i_aload 0 (i_getR 64 66 (i_iload 1 (i_ald 66 4 (i_const (.int (-1)) (i_ic_eq (i_aload 0 (i_const (.int 2) (i_callV 64 1 1 M_X12_is i_zret))) (i_aload 0 (i_getR 64 66 (i_iload 3 (i_ald 66 4 (i_const (.int (-1)) (i_ic_ne (i_aload 0 (i_getR 64 65 (i_iload 1 (i_ald 65 4 (i_aload 0 (i_getR 64 65 (i_iload 3 (i_ald 65 4 (i_ic_eq (i_iload 5 (i_aload 0 (i_getR 64 66 (i_iload 1 (i_ald 66 4 (i_iload 2 (i_ibin (· - ·) (i_ic_gt (i_aload 0 (i_const (.int 3) (i_callV 64 1 1 M_X12_is i_zret))) (i_iload 5 (i_aload 0 (i_getR 64 66 (i_iload 3 (i_ald 66 4 (i_iload 4 (i_ibin (· - ·) (i_ic_le (i_const (.int 0) (i_istore 6 (i_jmp 118 [true, true, true, true, true, true, true, false]))) (i_aload 0 (i_const (.int 3) (i_callV 64 1 1 M_X12_is i_zret))))))))))))))))))) (i_aload 0 (i_const (.int 8) (i_callV 64 1 1 M_X12_is i_zret)))))))))))) (i_aload 0 (i_const (.int 2) (i_callV 64 1 1 M_X12_is i_zret))))))))))))))) (i_aload 0 (i_const (.int 1) (i_callV 64 1 1 M_X12_is i_zret)))))))))))))))
noncomputable def B_X12_pour_118 : pb_C := (i_iload 6 (i_iload 5 (i_ic_ge (i_aload 0 (i_const (.int 0) (i_callV 64 1 1 M_X12_is i_zret))) (i_iload 2 (i_iload 4 (i_ic_ge (i_iload 6 (i_jmp 143 [true, true, true, true, true, true, true, false])) (i_iload 5 (i_const (.int 1) (i_ibin (· - ·) (i_iload 6 (i_ibin (· - ·) (i_jmp 143 [true, true, true, true, true, true, true, false]))))))))))))
noncomputable def B_X12_pour_143 : pb_C := (i_istore 7 (i_aload 0 (i_getR 64 67 (i_const (.int 60) (i_iload 3 (i_ibin (· * ·) (i_iload 4 (i_ibin (· + ·) (i_iload 7 (i_ibin (· + ·) (i_aload 0 (i_getR 64 67 (i_const (.int 60) (i_iload 1 (i_ibin (· * ·) (i_iload 2 (i_ibin (· + ·) (i_iload 7 (i_ibin (· + ·) (i_lald 67 240 (i_last 67 240 (i_iinc 6 1 (i_jmp 118 [true, true, true, true, true, true, true, false])))))))))))))))))))))))
noncomputable def T_X12_pour : Nat → pb_C := pb_tt [(0, B_X12_pour_0), (118, B_X12_pour_118), (143, B_X12_pour_143)]
noncomputable def M_X12_pour : pb_F := pb_M T_X12_pour 8
set_option maxRecDepth 100000 in
set_option maxHeartbeats 4000000 in
theorem S_X12_pour (l : Launch) : pb_Sound l yX12_pour cX12_pour 8 (some .boolean) 2 M_X12_pour := by
  refine pb_sound_of (by decide) m_8_17 ?_
  intro Γ hl0 hRm0 hm X E hr J
  have hnL : ∀ j, j < 8 → j < Γ.2.2.2.2.2.2.2.2.2.2.2.1 := fun j h => by rw [hm]; exact h
  have hR : ∀ (d' mL : Nat), d' + 1 ≤ 2 ∧ 8 + (mL + 11) + d' * 64 ≤ 2 * 64 → (pb_rm d').frames + 1 ≤ Γ.2.2.2.1.frames ∧ 8 + (mL + 11) + (pb_rm d').locals ≤ Γ.2.2.2.1.locals := by rw [hRm0]; exact fun _ _ h => h
  have hRm : 1 ≤ 2 ∧ 64 ≤ 2 * 64 → 1 ≤ Γ.2.2.2.1.frames ∧ 64 ≤ Γ.2.2.2.1.locals := by rw [hRm0]; exact fun h => h
  exact pb_tt_snd _ (List.forall_mem_cons.mpr ⟨(s_iload_n (pc := 0) X dX12_pour_0 rfl (s_callS (pc := 1) X dX12_pour_1 (S_X12_isTray _) q_X12_241 (hR _ _ (by decide)) (s_if_eq (pc := 4) X dX12_pour_4 (by decide) (s_aload_n (pc := 28) X dX12_pour_28 rfl (s_iconst (pc := 29) X dX12_pour_29 rfl (s_callV (pc := 30) X dX12_pour_30 (S_X12_is _) q_X12_245 h_64 rfl (hR _ _ (by decide)) (s_zret (pc := 33) X E hr dX12_pour_33)))) (s_iload_n (pc := 7) X dX12_pour_7 rfl (s_callS (pc := 8) X dX12_pour_8 (S_X12_isTray _) q_X12_241 (hR _ _ (by decide)) (s_if_eq (pc := 11) X dX12_pour_11 (by decide) (s_aload_n (pc := 28) X dX12_pour_28 rfl (s_iconst (pc := 29) X dX12_pour_29 rfl (s_callV (pc := 30) X dX12_pour_30 (S_X12_is _) q_X12_245 h_64 rfl (hR _ _ (by decide)) (s_zret (pc := 33) X E hr dX12_pour_33)))) (s_iload_n (pc := 14) X dX12_pour_14 rfl (s_if_lt (pc := 15) X dX12_pour_15 (by decide) (s_aload_n (pc := 28) X dX12_pour_28 rfl (s_iconst (pc := 29) X dX12_pour_29 rfl (s_callV (pc := 30) X dX12_pour_30 (S_X12_is _) q_X12_245 h_64 rfl (hR _ _ (by decide)) (s_zret (pc := 33) X E hr dX12_pour_33)))) (s_iload (pc := 18) X dX12_pour_18 (s_if_lt (pc := 20) X dX12_pour_20 (by decide) (s_aload_n (pc := 28) X dX12_pour_28 rfl (s_iconst (pc := 29) X dX12_pour_29 rfl (s_callV (pc := 30) X dX12_pour_30 (S_X12_is _) q_X12_245 h_64 rfl (hR _ _ (by decide)) (s_zret (pc := 33) X E hr dX12_pour_33)))) (s_iload (pc := 23) X dX12_pour_23 (s_if_ge (pc := 25) X dX12_pour_25 (by decide) (s_aload_n (pc := 34) X dX12_pour_34 rfl (s_getR (pc := 35) X dX12_pour_35 g_X12_17 (s_iload_n (pc := 38) X dX12_pour_38 rfl (s_iald (pc := 39) X dX12_pour_39 h_66 (s_iconst (pc := 40) X dX12_pour_40 rfl (s_ic_eq (pc := 41) X dX12_pour_41 (by decide) (s_aload_n (pc := 54) X dX12_pour_54 rfl (s_iconst (pc := 55) X dX12_pour_55 rfl (s_callV (pc := 56) X dX12_pour_56 (S_X12_is _) q_X12_245 h_64 rfl (hR _ _ (by decide)) (s_zret (pc := 59) X E hr dX12_pour_59)))) (s_aload_n (pc := 44) X dX12_pour_44 rfl (s_getR (pc := 45) X dX12_pour_45 g_X12_17 (s_iload_n (pc := 48) X dX12_pour_48 rfl (s_iald (pc := 49) X dX12_pour_49 h_66 (s_iconst (pc := 50) X dX12_pour_50 rfl (s_ic_ne (pc := 51) X dX12_pour_51 (by decide) (s_aload_n (pc := 60) X dX12_pour_60 rfl (s_getR (pc := 61) X dX12_pour_61 g_X12_13 (s_iload_n (pc := 64) X dX12_pour_64 rfl (s_iald (pc := 65) X dX12_pour_65 h_65 (s_aload_n (pc := 66) X dX12_pour_66 rfl (s_getR (pc := 67) X dX12_pour_67 g_X12_13 (s_iload_n (pc := 70) X dX12_pour_70 rfl (s_iald (pc := 71) X dX12_pour_71 h_65 (s_ic_eq (pc := 72) X dX12_pour_72 (by decide) (s_iload (pc := 82) X dX12_pour_82 (s_aload_n (pc := 84) X dX12_pour_84 rfl (s_getR (pc := 85) X dX12_pour_85 g_X12_17 (s_iload_n (pc := 88) X dX12_pour_88 rfl (s_iald (pc := 89) X dX12_pour_89 h_66 (s_iload_n (pc := 90) X dX12_pour_90 rfl (s_isub (pc := 91) X dX12_pour_91 (s_ic_gt (pc := 92) X dX12_pour_92 (by decide) (s_aload_n (pc := 109) X dX12_pour_109 rfl (s_iconst (pc := 110) X dX12_pour_110 rfl (s_callV (pc := 111) X dX12_pour_111 (S_X12_is _) q_X12_245 h_64 rfl (hR _ _ (by decide)) (s_zret (pc := 114) X E hr dX12_pour_114)))) (s_iload (pc := 95) X dX12_pour_95 (s_aload_n (pc := 97) X dX12_pour_97 rfl (s_getR (pc := 98) X dX12_pour_98 g_X12_17 (s_iload_n (pc := 101) X dX12_pour_101 rfl (s_iald (pc := 102) X dX12_pour_102 h_66 (s_iload (pc := 103) X dX12_pour_103 (s_isub (pc := 105) X dX12_pour_105 (s_ic_le (pc := 106) X dX12_pour_106 (by decide) (s_iconst (pc := 115) X dX12_pour_115 rfl (s_istore (pc := 116) X dX12_pour_116 (hnL _ (by decide)) (s_jmp (pc := 118) J [true, true, true, true, true, true, true, false]))) (s_aload_n (pc := 109) X dX12_pour_109 rfl (s_iconst (pc := 110) X dX12_pour_110 rfl (s_callV (pc := 111) X dX12_pour_111 (S_X12_is _) q_X12_245 h_64 rfl (hR _ _ (by decide)) (s_zret (pc := 114) X E hr dX12_pour_114)))))))))))))))))))) (s_aload_n (pc := 75) X dX12_pour_75 rfl (s_bipush (pc := 76) X dX12_pour_76 rfl (s_callV (pc := 78) X dX12_pour_78 (S_X12_is _) q_X12_245 h_64 rfl (hR _ _ (by decide)) (s_zret (pc := 81) X E hr dX12_pour_81))))))))))))) (s_aload_n (pc := 54) X dX12_pour_54 rfl (s_iconst (pc := 55) X dX12_pour_55 rfl (s_callV (pc := 56) X dX12_pour_56 (S_X12_is _) q_X12_245 h_64 rfl (hR _ _ (by decide)) (s_zret (pc := 59) X E hr dX12_pour_59)))))))))))))))) (s_aload_n (pc := 28) X dX12_pour_28 rfl (s_iconst (pc := 29) X dX12_pour_29 rfl (s_callV (pc := 30) X dX12_pour_30 (S_X12_is _) q_X12_245 h_64 rfl (hR _ _ (by decide)) (s_zret (pc := 33) X E hr dX12_pour_33)))))))))))))))), List.forall_mem_cons.mpr ⟨(s_iload (pc := 118) X dX12_pour_118 (s_iload (pc := 120) X dX12_pour_120 (s_ic_ge (pc := 122) X dX12_pour_122 (by decide) (s_aload_n (pc := 180) X dX12_pour_180 rfl (s_iconst (pc := 181) X dX12_pour_181 rfl (s_callV (pc := 182) X dX12_pour_182 (S_X12_is _) q_X12_245 h_64 rfl (hR _ _ (by decide)) (s_zret (pc := 185) X E hr dX12_pour_185)))) (s_iload_n (pc := 125) X dX12_pour_125 rfl (s_iload (pc := 126) X dX12_pour_126 (s_ic_ge (pc := 128) X dX12_pour_128 (by decide) (s_iload (pc := 141) X dX12_pour_141 (s_jmp (pc := 143) J [true, true, true, true, true, true, true, false])) (s_iload (pc := 131) X dX12_pour_131 (s_iconst (pc := 133) X dX12_pour_133 rfl (s_isub (pc := 134) X dX12_pour_134 (s_iload (pc := 135) X dX12_pour_135 (s_isub (pc := 137) X dX12_pour_137 (s_goto (pc := 138) X dX12_pour_138 (by decide) (s_jmp (pc := 143) J [true, true, true, true, true, true, true, false]))))))))))))), List.forall_mem_cons.mpr ⟨(s_istore (pc := 143) X dX12_pour_143 (hnL _ (by decide)) (s_aload_n (pc := 145) X dX12_pour_145 rfl (s_getR (pc := 146) X dX12_pour_146 g_X12_20 (s_bipush (pc := 149) X dX12_pour_149 rfl (s_iload_n (pc := 151) X dX12_pour_151 rfl (s_imul (pc := 152) X dX12_pour_152 (s_iload (pc := 153) X dX12_pour_153 (s_iadd (pc := 155) X dX12_pour_155 (s_iload (pc := 156) X dX12_pour_156 (s_iadd (pc := 158) X dX12_pour_158 (s_aload_n (pc := 159) X dX12_pour_159 rfl (s_getR (pc := 160) X dX12_pour_160 g_X12_20 (s_bipush (pc := 163) X dX12_pour_163 rfl (s_iload_n (pc := 165) X dX12_pour_165 rfl (s_imul (pc := 166) X dX12_pour_166 (s_iload_n (pc := 167) X dX12_pour_167 rfl (s_iadd (pc := 168) X dX12_pour_168 (s_iload (pc := 169) X dX12_pour_169 (s_iadd (pc := 171) X dX12_pour_171 (s_lald (pc := 172) X dX12_pour_172 h_67 (s_last (pc := 173) X dX12_pour_173 h_67 (s_iinc (pc := 174) X dX12_pour_174 rfl (s_goto (pc := 177) X dX12_pour_177 (by decide) (s_jmp (pc := 118) J [true, true, true, true, true, true, true, false])))))))))))))))))))))))), fun _ h => absurd h List.not_mem_nil⟩⟩⟩)
theorem dX12_isQuarter_0 : decode cX12_isQuarter 0 = .ok (.iload_n 0, 1) := by decide +kernel
theorem dX12_isQuarter_1 : decode cX12_isQuarter 1 = .ok (.ifCond .lt 12, 3) := by decide +kernel
theorem dX12_isQuarter_4 : decode cX12_isQuarter 4 = .ok (.iload_n 0, 1) := by decide +kernel
theorem dX12_isQuarter_5 : decode cX12_isQuarter 5 = .ok (.iconst 3, 1) := by decide +kernel
theorem dX12_isQuarter_6 : decode cX12_isQuarter 6 = .ok (.if_icmp .gt 7, 3) := by decide +kernel
theorem dX12_isQuarter_9 : decode cX12_isQuarter 9 = .ok (.iconst 1, 1) := by decide +kernel
theorem dX12_isQuarter_10 : decode cX12_isQuarter 10 = .ok (.goto 4, 3) := by decide +kernel
theorem dX12_isQuarter_13 : decode cX12_isQuarter 13 = .ok (.iconst 0, 1) := by decide +kernel
theorem dX12_isQuarter_14 : decode cX12_isQuarter 14 = .ok (.ireturn, 1) := by decide +kernel
noncomputable def B_X12_isQuarter_0 : pb_C := (i_iload 0 (i_if_lt (i_const (.int 0) i_zret) (i_iload 0 (i_const (.int 3) (i_ic_gt (i_const (.int 0) i_zret) (i_const (.int 1) i_zret))))))
noncomputable def T_X12_isQuarter : Nat → pb_C := pb_tt [(0, B_X12_isQuarter_0)]
noncomputable def M_X12_isQuarter : pb_F := pb_M T_X12_isQuarter 1
set_option maxRecDepth 100000 in
set_option maxHeartbeats 4000000 in
theorem S_X12_isQuarter (l : Launch) : pb_Sound l yX12_isQuarter cX12_isQuarter 1 (some .boolean) 1 M_X12_isQuarter := by
  refine pb_sound_of (by decide) m_8_24 ?_
  intro Γ hl0 hRm0 hm X E hr J
  have hnL : ∀ j, j < 1 → j < Γ.2.2.2.2.2.2.2.2.2.2.2.1 := fun j h => by rw [hm]; exact h
  have hR : ∀ (d' mL : Nat), d' + 1 ≤ 1 ∧ 8 + (mL + 11) + d' * 64 ≤ 1 * 64 → (pb_rm d').frames + 1 ≤ Γ.2.2.2.1.frames ∧ 8 + (mL + 11) + (pb_rm d').locals ≤ Γ.2.2.2.1.locals := by rw [hRm0]; exact fun _ _ h => h
  have hRm : 1 ≤ 1 ∧ 64 ≤ 1 * 64 → 1 ≤ Γ.2.2.2.1.frames ∧ 64 ≤ Γ.2.2.2.1.locals := by rw [hRm0]; exact fun h => h
  exact pb_tt_snd _ (List.forall_mem_cons.mpr ⟨(s_iload_n (pc := 0) X dX12_isQuarter_0 rfl (s_if_lt (pc := 1) X dX12_isQuarter_1 (by decide) (s_iconst (pc := 13) X dX12_isQuarter_13 rfl (s_zret (pc := 14) X E hr dX12_isQuarter_14)) (s_iload_n (pc := 4) X dX12_isQuarter_4 rfl (s_iconst (pc := 5) X dX12_isQuarter_5 rfl (s_ic_gt (pc := 6) X dX12_isQuarter_6 (by decide) (s_iconst (pc := 13) X dX12_isQuarter_13 rfl (s_zret (pc := 14) X E hr dX12_isQuarter_14)) (s_iconst (pc := 9) X dX12_isQuarter_9 rfl (s_goto (pc := 10) X dX12_isQuarter_10 (by decide) (s_zret (pc := 14) X E hr dX12_isQuarter_14)))))))), fun _ h => absurd h List.not_mem_nil⟩)
theorem dX12_refuse_0 : decode cX12_refuse 0 = .ok (.aload_n 0, 1) := by decide +kernel
theorem dX12_refuse_1 : decode cX12_refuse 1 = .ok (.iload_n 1, 1) := by decide +kernel
theorem dX12_refuse_2 : decode cX12_refuse 2 = .ok (.putfield 231, 3) := by decide +kernel
theorem dX12_refuse_5 : decode cX12_refuse 5 = .ok (.iconst (-1), 1) := by decide +kernel
theorem dX12_refuse_6 : decode cX12_refuse 6 = .ok (.ireturn, 1) := by decide +kernel
noncomputable def B_X12_refuse_0 : pb_C := (i_aload 0 (i_iload 1 (i_putI 64 0 (i_const (.int (-1)) i_iret))))
noncomputable def T_X12_refuse : Nat → pb_C := pb_tt [(0, B_X12_refuse_0)]
noncomputable def M_X12_refuse : pb_F := pb_M T_X12_refuse 2
set_option maxRecDepth 100000 in
set_option maxHeartbeats 4000000 in
theorem S_X12_refuse (l : Launch) : pb_Sound l yX12_refuse cX12_refuse 2 (some .int) 1 M_X12_refuse := by
  refine pb_sound_of (by decide) m_8_28 ?_
  intro Γ hl0 hRm0 hm X E hr J
  have hnL : ∀ j, j < 2 → j < Γ.2.2.2.2.2.2.2.2.2.2.2.1 := fun j h => by rw [hm]; exact h
  have hR : ∀ (d' mL : Nat), d' + 1 ≤ 1 ∧ 8 + (mL + 11) + d' * 64 ≤ 1 * 64 → (pb_rm d').frames + 1 ≤ Γ.2.2.2.1.frames ∧ 8 + (mL + 11) + (pb_rm d').locals ≤ Γ.2.2.2.1.locals := by rw [hRm0]; exact fun _ _ h => h
  have hRm : 1 ≤ 1 ∧ 64 ≤ 1 * 64 → 1 ≤ Γ.2.2.2.1.frames ∧ 64 ≤ Γ.2.2.2.1.locals := by rw [hRm0]; exact fun h => h
  exact pb_tt_snd _ (List.forall_mem_cons.mpr ⟨(s_aload_n (pc := 0) X dX12_refuse_0 rfl (s_iload_n (pc := 1) X dX12_refuse_1 rfl (s_putI (pc := 2) X dX12_refuse_2 p_X12_231 (s_iconst (pc := 5) X dX12_refuse_5 rfl (s_iret (pc := 6) X E hr dX12_refuse_6))))), fun _ h => absurd h List.not_mem_nil⟩)
theorem dX12_gives_0 : decode cX12_gives 0 = .ok (.aload_n 0, 1) := by decide +kernel
theorem dX12_gives_1 : decode cX12_gives 1 = .ok (.iconst 0, 1) := by decide +kernel
theorem dX12_gives_2 : decode cX12_gives 2 = .ok (.putfield 231, 3) := by decide +kernel
theorem dX12_gives_5 : decode cX12_gives 5 = .ok (.iload_n 1, 1) := by decide +kernel
theorem dX12_gives_6 : decode cX12_gives 6 = .ok (.ireturn, 1) := by decide +kernel
noncomputable def B_X12_gives_0 : pb_C := (i_aload 0 (i_const (.int 0) (i_putI 64 0 (i_iload 1 i_iret))))
noncomputable def T_X12_gives : Nat → pb_C := pb_tt [(0, B_X12_gives_0)]
noncomputable def M_X12_gives : pb_F := pb_M T_X12_gives 2
set_option maxRecDepth 100000 in
set_option maxHeartbeats 4000000 in
theorem S_X12_gives (l : Launch) : pb_Sound l yX12_gives cX12_gives 2 (some .int) 1 M_X12_gives := by
  refine pb_sound_of (by decide) m_8_32 ?_
  intro Γ hl0 hRm0 hm X E hr J
  have hnL : ∀ j, j < 2 → j < Γ.2.2.2.2.2.2.2.2.2.2.2.1 := fun j h => by rw [hm]; exact h
  have hR : ∀ (d' mL : Nat), d' + 1 ≤ 1 ∧ 8 + (mL + 11) + d' * 64 ≤ 1 * 64 → (pb_rm d').frames + 1 ≤ Γ.2.2.2.1.frames ∧ 8 + (mL + 11) + (pb_rm d').locals ≤ Γ.2.2.2.1.locals := by rw [hRm0]; exact fun _ _ h => h
  have hRm : 1 ≤ 1 ∧ 64 ≤ 1 * 64 → 1 ≤ Γ.2.2.2.1.frames ∧ 64 ≤ Γ.2.2.2.1.locals := by rw [hRm0]; exact fun h => h
  exact pb_tt_snd _ (List.forall_mem_cons.mpr ⟨(s_aload_n (pc := 0) X dX12_gives_0 rfl (s_iconst (pc := 1) X dX12_gives_1 rfl (s_putI (pc := 2) X dX12_gives_2 p_X12_231 (s_iload_n (pc := 5) X dX12_gives_5 rfl (s_iret (pc := 6) X E hr dX12_gives_6))))), fun _ h => absurd h List.not_mem_nil⟩)
theorem dX12_family_0 : decode cX12_family 0 = .ok (.iload_n 1, 1) := by decide +kernel
theorem dX12_family_1 : decode cX12_family 1 = .ok (.invokestatic 264, 3) := by decide +kernel
theorem dX12_family_4 : decode cX12_family 4 = .ok (.ifCond .eq 10, 3) := by decide +kernel
theorem dX12_family_7 : decode cX12_family 7 = .ok (.iload_n 2, 1) := by decide +kernel
theorem dX12_family_8 : decode cX12_family 8 = .ok (.invokestatic 264, 3) := by decide +kernel
theorem dX12_family_11 : decode cX12_family 11 = .ok (.ifCond .ne 9, 3) := by decide +kernel
theorem dX12_family_14 : decode cX12_family 14 = .ok (.aload_n 0, 1) := by decide +kernel
theorem dX12_family_15 : decode cX12_family 15 = .ok (.iconst 1, 1) := by decide +kernel
theorem dX12_family_16 : decode cX12_family 16 = .ok (.invokevirtual 267, 3) := by decide +kernel
theorem dX12_family_19 : decode cX12_family 19 = .ok (.ireturn, 1) := by decide +kernel
theorem dX12_family_20 : decode cX12_family 20 = .ok (.aload_n 0, 1) := by decide +kernel
theorem dX12_family_21 : decode cX12_family 21 = .ok (.getfield 258, 3) := by decide +kernel
theorem dX12_family_24 : decode cX12_family 24 = .ok (.bipush 12, 2) := by decide +kernel
theorem dX12_family_26 : decode cX12_family 26 = .ok (.if_icmp .ne 9, 3) := by decide +kernel
theorem dX12_family_29 : decode cX12_family 29 = .ok (.aload_n 0, 1) := by decide +kernel
theorem dX12_family_30 : decode cX12_family 30 = .ok (.iconst 4, 1) := by decide +kernel
theorem dX12_family_31 : decode cX12_family 31 = .ok (.invokevirtual 267, 3) := by decide +kernel
theorem dX12_family_34 : decode cX12_family 34 = .ok (.ireturn, 1) := by decide +kernel
theorem dX12_family_35 : decode cX12_family 35 = .ok (.aload_n 0, 1) := by decide +kernel
theorem dX12_family_36 : decode cX12_family 36 = .ok (.getfield 28, 3) := by decide +kernel
theorem dX12_family_39 : decode cX12_family 39 = .ok (.aload_n 0, 1) := by decide +kernel
theorem dX12_family_40 : decode cX12_family 40 = .ok (.getfield 258, 3) := by decide +kernel
theorem dX12_family_43 : decode cX12_family 43 = .ok (.iload_n 1, 1) := by decide +kernel
theorem dX12_family_44 : decode cX12_family 44 = .ok (.iastore, 1) := by decide +kernel
theorem dX12_family_45 : decode cX12_family 45 = .ok (.aload_n 0, 1) := by decide +kernel
theorem dX12_family_46 : decode cX12_family 46 = .ok (.getfield 31, 3) := by decide +kernel
theorem dX12_family_49 : decode cX12_family 49 = .ok (.aload_n 0, 1) := by decide +kernel
theorem dX12_family_50 : decode cX12_family 50 = .ok (.getfield 258, 3) := by decide +kernel
theorem dX12_family_53 : decode cX12_family 53 = .ok (.iload_n 2, 1) := by decide +kernel
theorem dX12_family_54 : decode cX12_family 54 = .ok (.iastore, 1) := by decide +kernel
theorem dX12_family_55 : decode cX12_family 55 = .ok (.aload_n 0, 1) := by decide +kernel
theorem dX12_family_56 : decode cX12_family 56 = .ok (.dup, 1) := by decide +kernel
theorem dX12_family_57 : decode cX12_family 57 = .ok (.getfield 258, 3) := by decide +kernel
theorem dX12_family_60 : decode cX12_family 60 = .ok (.iconst 1, 1) := by decide +kernel
theorem dX12_family_61 : decode cX12_family 61 = .ok (.iadd, 1) := by decide +kernel
theorem dX12_family_62 : decode cX12_family 62 = .ok (.putfield 258, 3) := by decide +kernel
theorem dX12_family_65 : decode cX12_family 65 = .ok (.aload_n 0, 1) := by decide +kernel
theorem dX12_family_66 : decode cX12_family 66 = .ok (.aload_n 0, 1) := by decide +kernel
theorem dX12_family_67 : decode cX12_family 67 = .ok (.getfield 258, 3) := by decide +kernel
theorem dX12_family_70 : decode cX12_family 70 = .ok (.iconst 1, 1) := by decide +kernel
theorem dX12_family_71 : decode cX12_family 71 = .ok (.isub, 1) := by decide +kernel
theorem dX12_family_72 : decode cX12_family 72 = .ok (.invokevirtual 237, 3) := by decide +kernel
theorem dX12_family_75 : decode cX12_family 75 = .ok (.ireturn, 1) := by decide +kernel
noncomputable def B_X12_family_0 : pb_C := (i_iload 1 (i_callS 1 1 M_X12_isQuarter (i_if_eq (i_aload 0 (i_const (.int 1) (i_callV 64 1 1 M_X12_refuse i_iret))) (i_iload 2 (i_callS 1 1 M_X12_isQuarter (i_if_ne (i_aload 0 (i_getI 64 6 (i_const (.int 12) (i_ic_ne (i_aload 0 (i_getR 64 68 (i_aload 0 (i_getI 64 6 (i_iload 1 (i_ast 68 12 (fun x => x) (i_aload 0 (i_getR 64 69 (i_aload 0 (i_getI 64 6 (i_iload 2 (i_ast 69 12 (fun x => x) (i_aload 0 (i_dupR (i_getI 64 6 (i_const (.int 1) (i_ibin (· + ·) (i_putI 64 6 (i_aload 0 (i_aload 0 (i_getI 64 6 (i_const (.int 1) (i_ibin (· - ·) (i_callV 64 1 1 M_X12_gives i_iret)))))))))))))))))))))))) (i_aload 0 (i_const (.int 4) (i_callV 64 1 1 M_X12_refuse i_iret))))))) (i_aload 0 (i_const (.int 1) (i_callV 64 1 1 M_X12_refuse i_iret)))))))))
noncomputable def T_X12_family : Nat → pb_C := pb_tt [(0, B_X12_family_0)]
noncomputable def M_X12_family : pb_F := pb_M T_X12_family 3
set_option maxRecDepth 100000 in
set_option maxHeartbeats 4000000 in
theorem S_X12_family (l : Launch) : pb_Sound l yX12_family cX12_family 3 (some .int) 2 M_X12_family := by
  refine pb_sound_of (by decide) m_8_21 ?_
  intro Γ hl0 hRm0 hm X E hr J
  have hnL : ∀ j, j < 3 → j < Γ.2.2.2.2.2.2.2.2.2.2.2.1 := fun j h => by rw [hm]; exact h
  have hR : ∀ (d' mL : Nat), d' + 1 ≤ 2 ∧ 8 + (mL + 11) + d' * 64 ≤ 2 * 64 → (pb_rm d').frames + 1 ≤ Γ.2.2.2.1.frames ∧ 8 + (mL + 11) + (pb_rm d').locals ≤ Γ.2.2.2.1.locals := by rw [hRm0]; exact fun _ _ h => h
  have hRm : 1 ≤ 2 ∧ 64 ≤ 2 * 64 → 1 ≤ Γ.2.2.2.1.frames ∧ 64 ≤ Γ.2.2.2.1.locals := by rw [hRm0]; exact fun h => h
  exact pb_tt_snd _ (List.forall_mem_cons.mpr ⟨(s_iload_n (pc := 0) X dX12_family_0 rfl (s_callS (pc := 1) X dX12_family_1 (S_X12_isQuarter _) q_X12_264 (hR _ _ (by decide)) (s_if_eq (pc := 4) X dX12_family_4 (by decide) (s_aload_n (pc := 14) X dX12_family_14 rfl (s_iconst (pc := 15) X dX12_family_15 rfl (s_callV (pc := 16) X dX12_family_16 (S_X12_refuse _) q_X12_267 h_64 rfl (hR _ _ (by decide)) (s_iret (pc := 19) X E hr dX12_family_19)))) (s_iload_n (pc := 7) X dX12_family_7 rfl (s_callS (pc := 8) X dX12_family_8 (S_X12_isQuarter _) q_X12_264 (hR _ _ (by decide)) (s_if_ne (pc := 11) X dX12_family_11 (by decide) (s_aload_n (pc := 20) X dX12_family_20 rfl (s_getI (pc := 21) X dX12_family_21 g_X12_258 (s_bipush (pc := 24) X dX12_family_24 rfl (s_ic_ne (pc := 26) X dX12_family_26 (by decide) (s_aload_n (pc := 35) X dX12_family_35 rfl (s_getR (pc := 36) X dX12_family_36 g_X12_28 (s_aload_n (pc := 39) X dX12_family_39 rfl (s_getI (pc := 40) X dX12_family_40 g_X12_258 (s_iload_n (pc := 43) X dX12_family_43 rfl (s_iast (pc := 44) X dX12_family_44 h_68 (s_aload_n (pc := 45) X dX12_family_45 rfl (s_getR (pc := 46) X dX12_family_46 g_X12_31 (s_aload_n (pc := 49) X dX12_family_49 rfl (s_getI (pc := 50) X dX12_family_50 g_X12_258 (s_iload_n (pc := 53) X dX12_family_53 rfl (s_iast (pc := 54) X dX12_family_54 h_69 (s_aload_n (pc := 55) X dX12_family_55 rfl (s_dupR (pc := 56) X dX12_family_56 (s_getI (pc := 57) X dX12_family_57 g_X12_258 (s_iconst (pc := 60) X dX12_family_60 rfl (s_iadd (pc := 61) X dX12_family_61 (s_putI (pc := 62) X dX12_family_62 p_X12_258 (s_aload_n (pc := 65) X dX12_family_65 rfl (s_aload_n (pc := 66) X dX12_family_66 rfl (s_getI (pc := 67) X dX12_family_67 g_X12_258 (s_iconst (pc := 70) X dX12_family_70 rfl (s_isub (pc := 71) X dX12_family_71 (s_callV (pc := 72) X dX12_family_72 (S_X12_gives _) q_X12_237 h_64 rfl (hR _ _ (by decide)) (s_iret (pc := 75) X E hr dX12_family_75))))))))))))))))))))))))) (s_aload_n (pc := 29) X dX12_family_29 rfl (s_iconst (pc := 30) X dX12_family_30 rfl (s_callV (pc := 31) X dX12_family_31 (S_X12_refuse _) q_X12_267 h_64 rfl (hR _ _ (by decide)) (s_iret (pc := 34) X E hr dX12_family_34)))))))) (s_aload_n (pc := 14) X dX12_family_14 rfl (s_iconst (pc := 15) X dX12_family_15 rfl (s_callV (pc := 16) X dX12_family_16 (S_X12_refuse _) q_X12_267 h_64 rfl (hR _ _ (by decide)) (s_iret (pc := 19) X E hr dX12_family_19)))))))))), fun _ h => absurd h List.not_mem_nil⟩)
theorem dX12_isWord_0 : decode cX12_isWord 0 = .ok (.lload_n 0, 1) := by decide +kernel
theorem dX12_isWord_1 : decode cX12_isWord 1 = .ok (.lconst 1, 1) := by decide +kernel
theorem dX12_isWord_2 : decode cX12_isWord 2 = .ok (.lcmp, 1) := by decide +kernel
theorem dX12_isWord_3 : decode cX12_isWord 3 = .ok (.ifCond .lt 11, 3) := by decide +kernel
theorem dX12_isWord_6 : decode cX12_isWord 6 = .ok (.lload_n 0, 1) := by decide +kernel
theorem dX12_isWord_7 : decode cX12_isWord 7 = .ok (.ldc2_w 270, 3) := by decide +kernel
theorem dX12_isWord_10 : decode cX12_isWord 10 = .ok (.lcmp, 1) := by decide +kernel
theorem dX12_isWord_11 : decode cX12_isWord 11 = .ok (.ifCond .lt 5, 3) := by decide +kernel
theorem dX12_isWord_14 : decode cX12_isWord 14 = .ok (.iconst 0, 1) := by decide +kernel
theorem dX12_isWord_15 : decode cX12_isWord 15 = .ok (.ireturn, 1) := by decide +kernel
theorem dX12_isWord_16 : decode cX12_isWord 16 = .ok (.iconst 1, 1) := by decide +kernel
theorem dX12_isWord_17 : decode cX12_isWord 17 = .ok (.istore_n 2, 1) := by decide +kernel
theorem dX12_isWord_18 : decode cX12_isWord 18 = .ok (.lload_n 0, 1) := by decide +kernel
theorem dX12_isWord_19 : decode cX12_isWord 19 = .ok (.lstore_n 3, 1) := by decide +kernel
theorem dX12_isWord_20 : decode cX12_isWord 20 = .ok (.lload_n 3, 1) := by decide +kernel
theorem dX12_isWord_21 : decode cX12_isWord 21 = .ok (.lconst 0, 1) := by decide +kernel
theorem dX12_isWord_22 : decode cX12_isWord 22 = .ok (.lcmp, 1) := by decide +kernel
theorem dX12_isWord_23 : decode cX12_isWord 23 = .ok (.ifCond .le 42, 3) := by decide +kernel
theorem dX12_isWord_26 : decode cX12_isWord 26 = .ok (.iload_n 2, 1) := by decide +kernel
theorem dX12_isWord_27 : decode cX12_isWord 27 = .ok (.ifCond .eq 29, 3) := by decide +kernel
theorem dX12_isWord_30 : decode cX12_isWord 30 = .ok (.lload_n 3, 1) := by decide +kernel
theorem dX12_isWord_31 : decode cX12_isWord 31 = .ok (.ldc2_w 272, 3) := by decide +kernel
theorem dX12_isWord_34 : decode cX12_isWord 34 = .ok (.land, 1) := by decide +kernel
theorem dX12_isWord_35 : decode cX12_isWord 35 = .ok (.lconst 1, 1) := by decide +kernel
theorem dX12_isWord_36 : decode cX12_isWord 36 = .ok (.lcmp, 1) := by decide +kernel
theorem dX12_isWord_37 : decode cX12_isWord 37 = .ok (.ifCond .lt 19, 3) := by decide +kernel
theorem dX12_isWord_40 : decode cX12_isWord 40 = .ok (.lload_n 3, 1) := by decide +kernel
theorem dX12_isWord_41 : decode cX12_isWord 41 = .ok (.ldc2_w 272, 3) := by decide +kernel
theorem dX12_isWord_44 : decode cX12_isWord 44 = .ok (.land, 1) := by decide +kernel
theorem dX12_isWord_45 : decode cX12_isWord 45 = .ok (.ldc2_w 274, 3) := by decide +kernel
theorem dX12_isWord_48 : decode cX12_isWord 48 = .ok (.lcmp, 1) := by decide +kernel
theorem dX12_isWord_49 : decode cX12_isWord 49 = .ok (.ifCond .gt 7, 3) := by decide +kernel
theorem dX12_isWord_52 : decode cX12_isWord 52 = .ok (.iconst 1, 1) := by decide +kernel
theorem dX12_isWord_53 : decode cX12_isWord 53 = .ok (.goto 4, 3) := by decide +kernel
theorem dX12_isWord_56 : decode cX12_isWord 56 = .ok (.iconst 0, 1) := by decide +kernel
theorem dX12_isWord_57 : decode cX12_isWord 57 = .ok (.istore_n 2, 1) := by decide +kernel
theorem dX12_isWord_58 : decode cX12_isWord 58 = .ok (.lload_n 3, 1) := by decide +kernel
theorem dX12_isWord_59 : decode cX12_isWord 59 = .ok (.iconst 5, 1) := by decide +kernel
theorem dX12_isWord_60 : decode cX12_isWord 60 = .ok (.lshr, 1) := by decide +kernel
theorem dX12_isWord_61 : decode cX12_isWord 61 = .ok (.lstore_n 3, 1) := by decide +kernel
theorem dX12_isWord_62 : decode cX12_isWord 62 = .ok (.goto (-42), 3) := by decide +kernel
theorem dX12_isWord_65 : decode cX12_isWord 65 = .ok (.iload_n 2, 1) := by decide +kernel
theorem dX12_isWord_66 : decode cX12_isWord 66 = .ok (.ireturn, 1) := by decide +kernel
noncomputable def B_X12_isWord_0 : pb_C := (i_lload 0 (i_const (.long 1) (i_lcmp (i_if_lt (i_const (.int 0) i_zret) (i_lload 0 (i_const (.long (1099511627776)) (i_lcmp (i_if_lt (i_const (.int 1) (i_istore 2 (i_lload 0 (i_lstore 3 (i_jmp 20 [false, false, true, true, false]))))) (i_const (.int 0) i_zret)))))))))
noncomputable def B_X12_isWord_20 : pb_C := (i_lload 3 (i_const (.long 0) (i_lcmp (i_if_le (i_iload 2 i_zret) (i_iload 2 (i_if_eq (i_const (.int 0) (i_istore 2 (i_lload 3 (i_const (.int 5) (i_lsh (fun x y => x >>> (y.toInt64 &&& 63)) (i_lstore 3 (i_jmp 20 [false, false, true, true, false]))))))) (i_lload 3 (i_const (.long (31)) (i_lbin (· &&& ·) (i_const (.long 1) (i_lcmp (i_if_lt (i_const (.int 0) (i_istore 2 (i_lload 3 (i_const (.int 5) (i_lsh (fun x y => x >>> (y.toInt64 &&& 63)) (i_lstore 3 (i_jmp 20 [false, false, true, true, false]))))))) (i_lload 3 (i_const (.long (31)) (i_lbin (· &&& ·) (i_const (.long (26)) (i_lcmp (i_if_gt (i_const (.int 0) (i_istore 2 (i_lload 3 (i_const (.int 5) (i_lsh (fun x y => x >>> (y.toInt64 &&& 63)) (i_lstore 3 (i_jmp 20 [false, false, true, true, false]))))))) (i_const (.int 1) (i_istore 2 (i_lload 3 (i_const (.int 5) (i_lsh (fun x y => x >>> (y.toInt64 &&& 63)) (i_lstore 3 (i_jmp 20 [false, false, true, true, false])))))))))))))))))))))))))
noncomputable def T_X12_isWord : Nat → pb_C := pb_tt [(0, B_X12_isWord_0), (20, B_X12_isWord_20)]
noncomputable def M_X12_isWord : pb_F := pb_M T_X12_isWord 5
set_option maxRecDepth 100000 in
set_option maxHeartbeats 4000000 in
theorem S_X12_isWord (l : Launch) : pb_Sound l yX12_isWord cX12_isWord 5 (some .boolean) 1 M_X12_isWord := by
  refine pb_sound_of (by decide) m_8_39 ?_
  intro Γ hl0 hRm0 hm X E hr J
  have hnL : ∀ j, j < 5 → j < Γ.2.2.2.2.2.2.2.2.2.2.2.1 := fun j h => by rw [hm]; exact h
  have hR : ∀ (d' mL : Nat), d' + 1 ≤ 1 ∧ 8 + (mL + 11) + d' * 64 ≤ 1 * 64 → (pb_rm d').frames + 1 ≤ Γ.2.2.2.1.frames ∧ 8 + (mL + 11) + (pb_rm d').locals ≤ Γ.2.2.2.1.locals := by rw [hRm0]; exact fun _ _ h => h
  have hRm : 1 ≤ 1 ∧ 64 ≤ 1 * 64 → 1 ≤ Γ.2.2.2.1.frames ∧ 64 ≤ Γ.2.2.2.1.locals := by rw [hRm0]; exact fun h => h
  exact pb_tt_snd _ (List.forall_mem_cons.mpr ⟨(s_lload_n (pc := 0) X dX12_isWord_0 rfl (s_lconst (pc := 1) X dX12_isWord_1 rfl (s_lcmp (pc := 2) X dX12_isWord_2 (s_if_lt (pc := 3) X dX12_isWord_3 (by decide) (s_iconst (pc := 14) X dX12_isWord_14 rfl (s_zret (pc := 15) X E hr dX12_isWord_15)) (s_lload_n (pc := 6) X dX12_isWord_6 rfl (s_ldc2 (pc := 7) X dX12_isWord_7 m_8_40 (s_lcmp (pc := 10) X dX12_isWord_10 (s_if_lt (pc := 11) X dX12_isWord_11 (by decide) (s_iconst (pc := 16) X dX12_isWord_16 rfl (s_istore_n (pc := 17) X dX12_isWord_17 rfl (hnL _ (by decide)) (s_lload_n (pc := 18) X dX12_isWord_18 rfl (s_lstore_n (pc := 19) X dX12_isWord_19 rfl (hnL _ (by decide)) (s_jmp (pc := 20) J [false, false, true, true, false]))))) (s_iconst (pc := 14) X dX12_isWord_14 rfl (s_zret (pc := 15) X E hr dX12_isWord_15)))))))))), List.forall_mem_cons.mpr ⟨(s_lload_n (pc := 20) X dX12_isWord_20 rfl (s_lconst (pc := 21) X dX12_isWord_21 rfl (s_lcmp (pc := 22) X dX12_isWord_22 (s_if_le (pc := 23) X dX12_isWord_23 (by decide) (s_iload_n (pc := 65) X dX12_isWord_65 rfl (s_zret (pc := 66) X E hr dX12_isWord_66)) (s_iload_n (pc := 26) X dX12_isWord_26 rfl (s_if_eq (pc := 27) X dX12_isWord_27 (by decide) (s_iconst (pc := 56) X dX12_isWord_56 rfl (s_istore_n (pc := 57) X dX12_isWord_57 rfl (hnL _ (by decide)) (s_lload_n (pc := 58) X dX12_isWord_58 rfl (s_iconst (pc := 59) X dX12_isWord_59 rfl (s_lshr (pc := 60) X dX12_isWord_60 (s_lstore_n (pc := 61) X dX12_isWord_61 rfl (hnL _ (by decide)) (s_goto (pc := 62) X dX12_isWord_62 (by decide) (s_jmp (pc := 20) J [false, false, true, true, false])))))))) (s_lload_n (pc := 30) X dX12_isWord_30 rfl (s_ldc2 (pc := 31) X dX12_isWord_31 m_8_41 (s_land (pc := 34) X dX12_isWord_34 (s_lconst (pc := 35) X dX12_isWord_35 rfl (s_lcmp (pc := 36) X dX12_isWord_36 (s_if_lt (pc := 37) X dX12_isWord_37 (by decide) (s_iconst (pc := 56) X dX12_isWord_56 rfl (s_istore_n (pc := 57) X dX12_isWord_57 rfl (hnL _ (by decide)) (s_lload_n (pc := 58) X dX12_isWord_58 rfl (s_iconst (pc := 59) X dX12_isWord_59 rfl (s_lshr (pc := 60) X dX12_isWord_60 (s_lstore_n (pc := 61) X dX12_isWord_61 rfl (hnL _ (by decide)) (s_goto (pc := 62) X dX12_isWord_62 (by decide) (s_jmp (pc := 20) J [false, false, true, true, false])))))))) (s_lload_n (pc := 40) X dX12_isWord_40 rfl (s_ldc2 (pc := 41) X dX12_isWord_41 m_8_41 (s_land (pc := 44) X dX12_isWord_44 (s_ldc2 (pc := 45) X dX12_isWord_45 m_8_42 (s_lcmp (pc := 48) X dX12_isWord_48 (s_if_gt (pc := 49) X dX12_isWord_49 (by decide) (s_iconst (pc := 56) X dX12_isWord_56 rfl (s_istore_n (pc := 57) X dX12_isWord_57 rfl (hnL _ (by decide)) (s_lload_n (pc := 58) X dX12_isWord_58 rfl (s_iconst (pc := 59) X dX12_isWord_59 rfl (s_lshr (pc := 60) X dX12_isWord_60 (s_lstore_n (pc := 61) X dX12_isWord_61 rfl (hnL _ (by decide)) (s_goto (pc := 62) X dX12_isWord_62 (by decide) (s_jmp (pc := 20) J [false, false, true, true, false])))))))) (s_iconst (pc := 52) X dX12_isWord_52 rfl (s_goto (pc := 53) X dX12_isWord_53 (by decide) (s_istore_n (pc := 57) X dX12_isWord_57 rfl (hnL _ (by decide)) (s_lload_n (pc := 58) X dX12_isWord_58 rfl (s_iconst (pc := 59) X dX12_isWord_59 rfl (s_lshr (pc := 60) X dX12_isWord_60 (s_lstore_n (pc := 61) X dX12_isWord_61 rfl (hnL _ (by decide)) (s_goto (pc := 62) X dX12_isWord_62 (by decide) (s_jmp (pc := 20) J [false, false, true, true, false]))))))))))))))))))))))))))), fun _ h => absurd h List.not_mem_nil⟩⟩)
theorem dX12_words_0 : decode cX12_words 0 = .ok (.lload_n 1, 1) := by decide +kernel
theorem dX12_words_1 : decode cX12_words 1 = .ok (.invokestatic 276, 3) := by decide +kernel
theorem dX12_words_4 : decode cX12_words 4 = .ok (.ifCond .eq 44, 3) := by decide +kernel
theorem dX12_words_7 : decode cX12_words 7 = .ok (.lload_n 3, 1) := by decide +kernel
theorem dX12_words_8 : decode cX12_words 8 = .ok (.lconst 0, 1) := by decide +kernel
theorem dX12_words_9 : decode cX12_words 9 = .ok (.lcmp, 1) := by decide +kernel
theorem dX12_words_10 : decode cX12_words 10 = .ok (.ifCond .eq 10, 3) := by decide +kernel
theorem dX12_words_13 : decode cX12_words 13 = .ok (.lload_n 3, 1) := by decide +kernel
theorem dX12_words_14 : decode cX12_words 14 = .ok (.invokestatic 276, 3) := by decide +kernel
theorem dX12_words_17 : decode cX12_words 17 = .ok (.ifCond .eq 31, 3) := by decide +kernel
theorem dX12_words_20 : decode cX12_words 20 = .ok (.lload 5, 2) := by decide +kernel
theorem dX12_words_22 : decode cX12_words 22 = .ok (.lconst 0, 1) := by decide +kernel
theorem dX12_words_23 : decode cX12_words 23 = .ok (.lcmp, 1) := by decide +kernel
theorem dX12_words_24 : decode cX12_words 24 = .ok (.ifCond .eq 11, 3) := by decide +kernel
theorem dX12_words_27 : decode cX12_words 27 = .ok (.lload 5, 2) := by decide +kernel
theorem dX12_words_29 : decode cX12_words 29 = .ok (.invokestatic 276, 3) := by decide +kernel
theorem dX12_words_32 : decode cX12_words 32 = .ok (.ifCond .eq 16, 3) := by decide +kernel
theorem dX12_words_35 : decode cX12_words 35 = .ok (.lload 5, 2) := by decide +kernel
theorem dX12_words_37 : decode cX12_words 37 = .ok (.lconst 0, 1) := by decide +kernel
theorem dX12_words_38 : decode cX12_words 38 = .ok (.lcmp, 1) := by decide +kernel
theorem dX12_words_39 : decode cX12_words 39 = .ok (.ifCond .eq 15, 3) := by decide +kernel
theorem dX12_words_42 : decode cX12_words 42 = .ok (.lload_n 3, 1) := by decide +kernel
theorem dX12_words_43 : decode cX12_words 43 = .ok (.lconst 0, 1) := by decide +kernel
theorem dX12_words_44 : decode cX12_words 44 = .ok (.lcmp, 1) := by decide +kernel
theorem dX12_words_45 : decode cX12_words 45 = .ok (.ifCond .ne 9, 3) := by decide +kernel
theorem dX12_words_48 : decode cX12_words 48 = .ok (.aload_n 0, 1) := by decide +kernel
theorem dX12_words_49 : decode cX12_words 49 = .ok (.iconst 1, 1) := by decide +kernel
theorem dX12_words_50 : decode cX12_words 50 = .ok (.invokevirtual 245, 3) := by decide +kernel
theorem dX12_words_53 : decode cX12_words 53 = .ok (.ireturn, 1) := by decide +kernel
theorem dX12_words_54 : decode cX12_words 54 = .ok (.aload_n 0, 1) := by decide +kernel
theorem dX12_words_55 : decode cX12_words 55 = .ok (.getfield 64, 3) := by decide +kernel
theorem dX12_words_58 : decode cX12_words 58 = .ok (.iconst 0, 1) := by decide +kernel
theorem dX12_words_59 : decode cX12_words 59 = .ok (.lload_n 1, 1) := by decide +kernel
theorem dX12_words_60 : decode cX12_words 60 = .ok (.lastore, 1) := by decide +kernel
theorem dX12_words_61 : decode cX12_words 61 = .ok (.aload_n 0, 1) := by decide +kernel
theorem dX12_words_62 : decode cX12_words 62 = .ok (.getfield 64, 3) := by decide +kernel
theorem dX12_words_65 : decode cX12_words 65 = .ok (.iconst 1, 1) := by decide +kernel
theorem dX12_words_66 : decode cX12_words 66 = .ok (.lload_n 3, 1) := by decide +kernel
theorem dX12_words_67 : decode cX12_words 67 = .ok (.lastore, 1) := by decide +kernel
theorem dX12_words_68 : decode cX12_words 68 = .ok (.aload_n 0, 1) := by decide +kernel
theorem dX12_words_69 : decode cX12_words 69 = .ok (.getfield 64, 3) := by decide +kernel
theorem dX12_words_72 : decode cX12_words 72 = .ok (.iconst 2, 1) := by decide +kernel
theorem dX12_words_73 : decode cX12_words 73 = .ok (.lload 5, 2) := by decide +kernel
theorem dX12_words_75 : decode cX12_words 75 = .ok (.lastore, 1) := by decide +kernel
theorem dX12_words_76 : decode cX12_words 76 = .ok (.aload_n 0, 1) := by decide +kernel
theorem dX12_words_77 : decode cX12_words 77 = .ok (.iconst 1, 1) := by decide +kernel
theorem dX12_words_78 : decode cX12_words 78 = .ok (.putfield 280, 3) := by decide +kernel
theorem dX12_words_81 : decode cX12_words 81 = .ok (.aload_n 0, 1) := by decide +kernel
theorem dX12_words_82 : decode cX12_words 82 = .ok (.iconst 0, 1) := by decide +kernel
theorem dX12_words_83 : decode cX12_words 83 = .ok (.invokevirtual 245, 3) := by decide +kernel
theorem dX12_words_86 : decode cX12_words 86 = .ok (.ireturn, 1) := by decide +kernel
noncomputable def B_X12_words_0 : pb_C := (i_lload 1 (i_callS 1 1 M_X12_isWord (i_if_eq (i_aload 0 (i_const (.int 1) (i_callV 64 1 1 M_X12_is i_zret))) (i_lload 3 (i_const (.long 0) (i_lcmp (i_if_eq (i_jmp 20 [true, true, false, true, false, true, false]) (i_lload 3 (i_callS 1 1 M_X12_isWord (i_if_eq (i_aload 0 (i_const (.int 1) (i_callV 64 1 1 M_X12_is i_zret))) (i_jmp 20 [true, true, false, true, false, true, false])))))))))))
noncomputable def B_X12_words_20 : pb_C := (i_lload 5 (i_const (.long 0) (i_lcmp (i_if_eq (i_jmp 35 [true, true, false, true, false, true, false]) (i_lload 5 (i_callS 1 1 M_X12_isWord (i_if_eq (i_aload 0 (i_const (.int 1) (i_callV 64 1 1 M_X12_is i_zret))) (i_jmp 35 [true, true, false, true, false, true, false]))))))))
noncomputable def B_X12_words_35 : pb_C := (i_lload 5 (i_const (.long 0) (i_lcmp (i_if_eq (i_jmp 54 [true, true, false, true, false, true, false]) (i_lload 3 (i_const (.long 0) (i_lcmp (i_if_ne (i_jmp 54 [true, true, false, true, false, true, false]) (i_aload 0 (i_const (.int 1) (i_callV 64 1 1 M_X12_is i_zret)))))))))))
noncomputable def B_X12_words_54 : pb_C := (i_aload 0 (i_getR 64 80 (i_const (.int 0) (i_lload 1 (i_last 80 3 (i_aload 0 (i_getR 64 80 (i_const (.int 1) (i_lload 3 (i_last 80 3 (i_aload 0 (i_getR 64 80 (i_const (.int 2) (i_lload 5 (i_last 80 3 (i_aload 0 (i_const (.int 1) (i_putZ 64 11 (i_aload 0 (i_const (.int 0) (i_callV 64 1 1 M_X12_is i_zret)))))))))))))))))))))
noncomputable def T_X12_words : Nat → pb_C := pb_tt [(0, B_X12_words_0), (20, B_X12_words_20), (35, B_X12_words_35), (54, B_X12_words_54)]
noncomputable def M_X12_words : pb_F := pb_M T_X12_words 7
set_option maxRecDepth 100000 in
set_option maxHeartbeats 4000000 in
theorem S_X12_words (l : Launch) : pb_Sound l yX12_words cX12_words 7 (some .boolean) 2 M_X12_words := by
  refine pb_sound_of (by decide) m_8_36 ?_
  intro Γ hl0 hRm0 hm X E hr J
  have hnL : ∀ j, j < 7 → j < Γ.2.2.2.2.2.2.2.2.2.2.2.1 := fun j h => by rw [hm]; exact h
  have hR : ∀ (d' mL : Nat), d' + 1 ≤ 2 ∧ 8 + (mL + 11) + d' * 64 ≤ 2 * 64 → (pb_rm d').frames + 1 ≤ Γ.2.2.2.1.frames ∧ 8 + (mL + 11) + (pb_rm d').locals ≤ Γ.2.2.2.1.locals := by rw [hRm0]; exact fun _ _ h => h
  have hRm : 1 ≤ 2 ∧ 64 ≤ 2 * 64 → 1 ≤ Γ.2.2.2.1.frames ∧ 64 ≤ Γ.2.2.2.1.locals := by rw [hRm0]; exact fun h => h
  exact pb_tt_snd _ (List.forall_mem_cons.mpr ⟨(s_lload_n (pc := 0) X dX12_words_0 rfl (s_callS (pc := 1) X dX12_words_1 (S_X12_isWord _) q_X12_276 (hR _ _ (by decide)) (s_if_eq (pc := 4) X dX12_words_4 (by decide) (s_aload_n (pc := 48) X dX12_words_48 rfl (s_iconst (pc := 49) X dX12_words_49 rfl (s_callV (pc := 50) X dX12_words_50 (S_X12_is _) q_X12_245 h_64 rfl (hR _ _ (by decide)) (s_zret (pc := 53) X E hr dX12_words_53)))) (s_lload_n (pc := 7) X dX12_words_7 rfl (s_lconst (pc := 8) X dX12_words_8 rfl (s_lcmp (pc := 9) X dX12_words_9 (s_if_eq (pc := 10) X dX12_words_10 (by decide) (s_jmp (pc := 20) J [true, true, false, true, false, true, false]) (s_lload_n (pc := 13) X dX12_words_13 rfl (s_callS (pc := 14) X dX12_words_14 (S_X12_isWord _) q_X12_276 (hR _ _ (by decide)) (s_if_eq (pc := 17) X dX12_words_17 (by decide) (s_aload_n (pc := 48) X dX12_words_48 rfl (s_iconst (pc := 49) X dX12_words_49 rfl (s_callV (pc := 50) X dX12_words_50 (S_X12_is _) q_X12_245 h_64 rfl (hR _ _ (by decide)) (s_zret (pc := 53) X E hr dX12_words_53)))) (s_jmp (pc := 20) J [true, true, false, true, false, true, false]))))))))))), List.forall_mem_cons.mpr ⟨(s_lload (pc := 20) X dX12_words_20 (s_lconst (pc := 22) X dX12_words_22 rfl (s_lcmp (pc := 23) X dX12_words_23 (s_if_eq (pc := 24) X dX12_words_24 (by decide) (s_jmp (pc := 35) J [true, true, false, true, false, true, false]) (s_lload (pc := 27) X dX12_words_27 (s_callS (pc := 29) X dX12_words_29 (S_X12_isWord _) q_X12_276 (hR _ _ (by decide)) (s_if_eq (pc := 32) X dX12_words_32 (by decide) (s_aload_n (pc := 48) X dX12_words_48 rfl (s_iconst (pc := 49) X dX12_words_49 rfl (s_callV (pc := 50) X dX12_words_50 (S_X12_is _) q_X12_245 h_64 rfl (hR _ _ (by decide)) (s_zret (pc := 53) X E hr dX12_words_53)))) (s_jmp (pc := 35) J [true, true, false, true, false, true, false])))))))), List.forall_mem_cons.mpr ⟨(s_lload (pc := 35) X dX12_words_35 (s_lconst (pc := 37) X dX12_words_37 rfl (s_lcmp (pc := 38) X dX12_words_38 (s_if_eq (pc := 39) X dX12_words_39 (by decide) (s_jmp (pc := 54) J [true, true, false, true, false, true, false]) (s_lload_n (pc := 42) X dX12_words_42 rfl (s_lconst (pc := 43) X dX12_words_43 rfl (s_lcmp (pc := 44) X dX12_words_44 (s_if_ne (pc := 45) X dX12_words_45 (by decide) (s_jmp (pc := 54) J [true, true, false, true, false, true, false]) (s_aload_n (pc := 48) X dX12_words_48 rfl (s_iconst (pc := 49) X dX12_words_49 rfl (s_callV (pc := 50) X dX12_words_50 (S_X12_is _) q_X12_245 h_64 rfl (hR _ _ (by decide)) (s_zret (pc := 53) X E hr dX12_words_53)))))))))))), List.forall_mem_cons.mpr ⟨(s_aload_n (pc := 54) X dX12_words_54 rfl (s_getR (pc := 55) X dX12_words_55 g_X12_64 (s_iconst (pc := 58) X dX12_words_58 rfl (s_lload_n (pc := 59) X dX12_words_59 rfl (s_last (pc := 60) X dX12_words_60 h_80 (s_aload_n (pc := 61) X dX12_words_61 rfl (s_getR (pc := 62) X dX12_words_62 g_X12_64 (s_iconst (pc := 65) X dX12_words_65 rfl (s_lload_n (pc := 66) X dX12_words_66 rfl (s_last (pc := 67) X dX12_words_67 h_80 (s_aload_n (pc := 68) X dX12_words_68 rfl (s_getR (pc := 69) X dX12_words_69 g_X12_64 (s_iconst (pc := 72) X dX12_words_72 rfl (s_lload (pc := 73) X dX12_words_73 (s_last (pc := 75) X dX12_words_75 h_80 (s_aload_n (pc := 76) X dX12_words_76 rfl (s_iconst (pc := 77) X dX12_words_77 rfl (s_putZ (pc := 78) X dX12_words_78 p_X12_280 (s_aload_n (pc := 81) X dX12_words_81 rfl (s_iconst (pc := 82) X dX12_words_82 rfl (s_callV (pc := 83) X dX12_words_83 (S_X12_is _) q_X12_245 h_64 rfl (hR _ _ (by decide)) (s_zret (pc := 86) X E hr dX12_words_86)))))))))))))))))))))), fun _ h => absurd h List.not_mem_nil⟩⟩⟩⟩)
theorem dX12_isFamily_0 : decode cX12_isFamily 0 = .ok (.iload_n 1, 1) := by decide +kernel
theorem dX12_isFamily_1 : decode cX12_isFamily 1 = .ok (.ifCond .lt 15, 3) := by decide +kernel
theorem dX12_isFamily_4 : decode cX12_isFamily 4 = .ok (.iload_n 1, 1) := by decide +kernel
theorem dX12_isFamily_5 : decode cX12_isFamily 5 = .ok (.aload_n 0, 1) := by decide +kernel
theorem dX12_isFamily_6 : decode cX12_isFamily 6 = .ok (.getfield 258, 3) := by decide +kernel
theorem dX12_isFamily_9 : decode cX12_isFamily 9 = .ok (.if_icmp .ge 7, 3) := by decide +kernel
theorem dX12_isFamily_12 : decode cX12_isFamily 12 = .ok (.iconst 1, 1) := by decide +kernel
theorem dX12_isFamily_13 : decode cX12_isFamily 13 = .ok (.goto 4, 3) := by decide +kernel
theorem dX12_isFamily_16 : decode cX12_isFamily 16 = .ok (.iconst 0, 1) := by decide +kernel
theorem dX12_isFamily_17 : decode cX12_isFamily 17 = .ok (.ireturn, 1) := by decide +kernel
noncomputable def B_X12_isFamily_0 : pb_C := (i_iload 1 (i_if_lt (i_const (.int 0) i_zret) (i_iload 1 (i_aload 0 (i_getI 64 6 (i_ic_ge (i_const (.int 0) i_zret) (i_const (.int 1) i_zret)))))))
noncomputable def T_X12_isFamily : Nat → pb_C := pb_tt [(0, B_X12_isFamily_0)]
noncomputable def M_X12_isFamily : pb_F := pb_M T_X12_isFamily 2
set_option maxRecDepth 100000 in
set_option maxHeartbeats 4000000 in
theorem S_X12_isFamily (l : Launch) : pb_Sound l yX12_isFamily cX12_isFamily 2 (some .boolean) 1 M_X12_isFamily := by
  refine pb_sound_of (by decide) m_8_50 ?_
  intro Γ hl0 hRm0 hm X E hr J
  have hnL : ∀ j, j < 2 → j < Γ.2.2.2.2.2.2.2.2.2.2.2.1 := fun j h => by rw [hm]; exact h
  have hR : ∀ (d' mL : Nat), d' + 1 ≤ 1 ∧ 8 + (mL + 11) + d' * 64 ≤ 1 * 64 → (pb_rm d').frames + 1 ≤ Γ.2.2.2.1.frames ∧ 8 + (mL + 11) + (pb_rm d').locals ≤ Γ.2.2.2.1.locals := by rw [hRm0]; exact fun _ _ h => h
  have hRm : 1 ≤ 1 ∧ 64 ≤ 1 * 64 → 1 ≤ Γ.2.2.2.1.frames ∧ 64 ≤ Γ.2.2.2.1.locals := by rw [hRm0]; exact fun h => h
  exact pb_tt_snd _ (List.forall_mem_cons.mpr ⟨(s_iload_n (pc := 0) X dX12_isFamily_0 rfl (s_if_lt (pc := 1) X dX12_isFamily_1 (by decide) (s_iconst (pc := 16) X dX12_isFamily_16 rfl (s_zret (pc := 17) X E hr dX12_isFamily_17)) (s_iload_n (pc := 4) X dX12_isFamily_4 rfl (s_aload_n (pc := 5) X dX12_isFamily_5 rfl (s_getI (pc := 6) X dX12_isFamily_6 g_X12_258 (s_ic_ge (pc := 9) X dX12_isFamily_9 (by decide) (s_iconst (pc := 16) X dX12_isFamily_16 rfl (s_zret (pc := 17) X E hr dX12_isFamily_17)) (s_iconst (pc := 12) X dX12_isFamily_12 rfl (s_goto (pc := 13) X dX12_isFamily_13 (by decide) (s_zret (pc := 17) X E hr dX12_isFamily_17))))))))), fun _ h => absurd h List.not_mem_nil⟩)
theorem dX12_isWeek_0 : decode cX12_isWeek 0 = .ok (.iload_n 0, 1) := by decide +kernel
theorem dX12_isWeek_1 : decode cX12_isWeek 1 = .ok (.ifCond .lt 14, 3) := by decide +kernel
theorem dX12_isWeek_4 : decode cX12_isWeek 4 = .ok (.iload_n 0, 1) := by decide +kernel
theorem dX12_isWeek_5 : decode cX12_isWeek 5 = .ok (.sipush 520, 3) := by decide +kernel
theorem dX12_isWeek_8 : decode cX12_isWeek 8 = .ok (.if_icmp .ge 7, 3) := by decide +kernel
theorem dX12_isWeek_11 : decode cX12_isWeek 11 = .ok (.iconst 1, 1) := by decide +kernel
theorem dX12_isWeek_12 : decode cX12_isWeek 12 = .ok (.goto 4, 3) := by decide +kernel
theorem dX12_isWeek_15 : decode cX12_isWeek 15 = .ok (.iconst 0, 1) := by decide +kernel
theorem dX12_isWeek_16 : decode cX12_isWeek 16 = .ok (.ireturn, 1) := by decide +kernel
noncomputable def B_X12_isWeek_0 : pb_C := (i_iload 0 (i_if_lt (i_const (.int 0) i_zret) (i_iload 0 (i_const (.int 520) (i_ic_ge (i_const (.int 0) i_zret) (i_const (.int 1) i_zret))))))
noncomputable def T_X12_isWeek : Nat → pb_C := pb_tt [(0, B_X12_isWeek_0)]
noncomputable def M_X12_isWeek : pb_F := pb_M T_X12_isWeek 1
set_option maxRecDepth 100000 in
set_option maxHeartbeats 4000000 in
theorem S_X12_isWeek (l : Launch) : pb_Sound l yX12_isWeek cX12_isWeek 1 (some .boolean) 1 M_X12_isWeek := by
  refine pb_sound_of (by decide) m_8_53 ?_
  intro Γ hl0 hRm0 hm X E hr J
  have hnL : ∀ j, j < 1 → j < Γ.2.2.2.2.2.2.2.2.2.2.2.1 := fun j h => by rw [hm]; exact h
  have hR : ∀ (d' mL : Nat), d' + 1 ≤ 1 ∧ 8 + (mL + 11) + d' * 64 ≤ 1 * 64 → (pb_rm d').frames + 1 ≤ Γ.2.2.2.1.frames ∧ 8 + (mL + 11) + (pb_rm d').locals ≤ Γ.2.2.2.1.locals := by rw [hRm0]; exact fun _ _ h => h
  have hRm : 1 ≤ 1 ∧ 64 ≤ 1 * 64 → 1 ≤ Γ.2.2.2.1.frames ∧ 64 ≤ Γ.2.2.2.1.locals := by rw [hRm0]; exact fun h => h
  exact pb_tt_snd _ (List.forall_mem_cons.mpr ⟨(s_iload_n (pc := 0) X dX12_isWeek_0 rfl (s_if_lt (pc := 1) X dX12_isWeek_1 (by decide) (s_iconst (pc := 15) X dX12_isWeek_15 rfl (s_zret (pc := 16) X E hr dX12_isWeek_16)) (s_iload_n (pc := 4) X dX12_isWeek_4 rfl (s_sipush (pc := 5) X dX12_isWeek_5 rfl (s_ic_ge (pc := 8) X dX12_isWeek_8 (by decide) (s_iconst (pc := 15) X dX12_isWeek_15 rfl (s_zret (pc := 16) X E hr dX12_isWeek_16)) (s_iconst (pc := 11) X dX12_isWeek_11 rfl (s_goto (pc := 12) X dX12_isWeek_12 (by decide) (s_zret (pc := 16) X E hr dX12_isWeek_16)))))))), fun _ h => absurd h List.not_mem_nil⟩)
theorem dX12_isSum_0 : decode cX12_isSum 0 = .ok (.iload_n 0, 1) := by decide +kernel
theorem dX12_isSum_1 : decode cX12_isSum 1 = .ok (.iconst 1, 1) := by decide +kernel
theorem dX12_isSum_2 : decode cX12_isSum 2 = .ok (.if_icmp .lt 14, 3) := by decide +kernel
theorem dX12_isSum_5 : decode cX12_isSum 5 = .ok (.iload_n 0, 1) := by decide +kernel
theorem dX12_isSum_6 : decode cX12_isSum 6 = .ok (.sipush 20000, 3) := by decide +kernel
theorem dX12_isSum_9 : decode cX12_isSum 9 = .ok (.if_icmp .gt 7, 3) := by decide +kernel
theorem dX12_isSum_12 : decode cX12_isSum 12 = .ok (.iconst 1, 1) := by decide +kernel
theorem dX12_isSum_13 : decode cX12_isSum 13 = .ok (.goto 4, 3) := by decide +kernel
theorem dX12_isSum_16 : decode cX12_isSum 16 = .ok (.iconst 0, 1) := by decide +kernel
theorem dX12_isSum_17 : decode cX12_isSum 17 = .ok (.ireturn, 1) := by decide +kernel
noncomputable def B_X12_isSum_0 : pb_C := (i_iload 0 (i_const (.int 1) (i_ic_lt (i_const (.int 0) i_zret) (i_iload 0 (i_const (.int 20000) (i_ic_gt (i_const (.int 0) i_zret) (i_const (.int 1) i_zret)))))))
noncomputable def T_X12_isSum : Nat → pb_C := pb_tt [(0, B_X12_isSum_0)]
noncomputable def M_X12_isSum : pb_F := pb_M T_X12_isSum 1
set_option maxRecDepth 100000 in
set_option maxHeartbeats 4000000 in
theorem S_X12_isSum (l : Launch) : pb_Sound l yX12_isSum cX12_isSum 1 (some .boolean) 1 M_X12_isSum := by
  refine pb_sound_of (by decide) m_8_56 ?_
  intro Γ hl0 hRm0 hm X E hr J
  have hnL : ∀ j, j < 1 → j < Γ.2.2.2.2.2.2.2.2.2.2.2.1 := fun j h => by rw [hm]; exact h
  have hR : ∀ (d' mL : Nat), d' + 1 ≤ 1 ∧ 8 + (mL + 11) + d' * 64 ≤ 1 * 64 → (pb_rm d').frames + 1 ≤ Γ.2.2.2.1.frames ∧ 8 + (mL + 11) + (pb_rm d').locals ≤ Γ.2.2.2.1.locals := by rw [hRm0]; exact fun _ _ h => h
  have hRm : 1 ≤ 1 ∧ 64 ≤ 1 * 64 → 1 ≤ Γ.2.2.2.1.frames ∧ 64 ≤ Γ.2.2.2.1.locals := by rw [hRm0]; exact fun h => h
  exact pb_tt_snd _ (List.forall_mem_cons.mpr ⟨(s_iload_n (pc := 0) X dX12_isSum_0 rfl (s_iconst (pc := 1) X dX12_isSum_1 rfl (s_ic_lt (pc := 2) X dX12_isSum_2 (by decide) (s_iconst (pc := 16) X dX12_isSum_16 rfl (s_zret (pc := 17) X E hr dX12_isSum_17)) (s_iload_n (pc := 5) X dX12_isSum_5 rfl (s_sipush (pc := 6) X dX12_isSum_6 rfl (s_ic_gt (pc := 9) X dX12_isSum_9 (by decide) (s_iconst (pc := 16) X dX12_isSum_16 rfl (s_zret (pc := 17) X E hr dX12_isSum_17)) (s_iconst (pc := 12) X dX12_isSum_12 rfl (s_goto (pc := 13) X dX12_isSum_13 (by decide) (s_zret (pc := 17) X E hr dX12_isSum_17))))))))), fun _ h => absurd h List.not_mem_nil⟩)
theorem dX12_isDay_0 : decode cX12_isDay 0 = .ok (.iload_n 0, 1) := by decide +kernel
theorem dX12_isDay_1 : decode cX12_isDay 1 = .ok (.ifCond .lt 14, 3) := by decide +kernel
theorem dX12_isDay_4 : decode cX12_isDay 4 = .ok (.iload_n 0, 1) := by decide +kernel
theorem dX12_isDay_5 : decode cX12_isDay 5 = .ok (.sipush 9999, 3) := by decide +kernel
theorem dX12_isDay_8 : decode cX12_isDay 8 = .ok (.if_icmp .gt 7, 3) := by decide +kernel
theorem dX12_isDay_11 : decode cX12_isDay 11 = .ok (.iconst 1, 1) := by decide +kernel
theorem dX12_isDay_12 : decode cX12_isDay 12 = .ok (.goto 4, 3) := by decide +kernel
theorem dX12_isDay_15 : decode cX12_isDay 15 = .ok (.iconst 0, 1) := by decide +kernel
theorem dX12_isDay_16 : decode cX12_isDay 16 = .ok (.ireturn, 1) := by decide +kernel
noncomputable def B_X12_isDay_0 : pb_C := (i_iload 0 (i_if_lt (i_const (.int 0) i_zret) (i_iload 0 (i_const (.int 9999) (i_ic_gt (i_const (.int 0) i_zret) (i_const (.int 1) i_zret))))))
noncomputable def T_X12_isDay : Nat → pb_C := pb_tt [(0, B_X12_isDay_0)]
noncomputable def M_X12_isDay : pb_F := pb_M T_X12_isDay 1
set_option maxRecDepth 100000 in
set_option maxHeartbeats 4000000 in
theorem S_X12_isDay (l : Launch) : pb_Sound l yX12_isDay cX12_isDay 1 (some .boolean) 1 M_X12_isDay := by
  refine pb_sound_of (by decide) m_8_59 ?_
  intro Γ hl0 hRm0 hm X E hr J
  have hnL : ∀ j, j < 1 → j < Γ.2.2.2.2.2.2.2.2.2.2.2.1 := fun j h => by rw [hm]; exact h
  have hR : ∀ (d' mL : Nat), d' + 1 ≤ 1 ∧ 8 + (mL + 11) + d' * 64 ≤ 1 * 64 → (pb_rm d').frames + 1 ≤ Γ.2.2.2.1.frames ∧ 8 + (mL + 11) + (pb_rm d').locals ≤ Γ.2.2.2.1.locals := by rw [hRm0]; exact fun _ _ h => h
  have hRm : 1 ≤ 1 ∧ 64 ≤ 1 * 64 → 1 ≤ Γ.2.2.2.1.frames ∧ 64 ≤ Γ.2.2.2.1.locals := by rw [hRm0]; exact fun h => h
  exact pb_tt_snd _ (List.forall_mem_cons.mpr ⟨(s_iload_n (pc := 0) X dX12_isDay_0 rfl (s_if_lt (pc := 1) X dX12_isDay_1 (by decide) (s_iconst (pc := 15) X dX12_isDay_15 rfl (s_zret (pc := 16) X E hr dX12_isDay_16)) (s_iload_n (pc := 4) X dX12_isDay_4 rfl (s_sipush (pc := 5) X dX12_isDay_5 rfl (s_ic_gt (pc := 8) X dX12_isDay_8 (by decide) (s_iconst (pc := 15) X dX12_isDay_15 rfl (s_zret (pc := 16) X E hr dX12_isDay_16)) (s_iconst (pc := 11) X dX12_isDay_11 rfl (s_goto (pc := 12) X dX12_isDay_12 (by decide) (s_zret (pc := 16) X E hr dX12_isDay_16)))))))), fun _ h => absurd h List.not_mem_nil⟩)
