theorem dX0_unitsOf_0 : decode cX0_unitsOf 0 = .ok (.iconst 1, 1) := by decide +kernel
theorem dX0_unitsOf_1 : decode cX0_unitsOf 1 = .ok (.aload_n 0, 1) := by decide +kernel
theorem dX0_unitsOf_2 : decode cX0_unitsOf 2 = .ok (.getfield 22, 3) := by decide +kernel
theorem dX0_unitsOf_5 : decode cX0_unitsOf 5 = .ok (.iload_n 2, 1) := by decide +kernel
theorem dX0_unitsOf_6 : decode cX0_unitsOf 6 = .ok (.sipush 200, 3) := by decide +kernel
theorem dX0_unitsOf_9 : decode cX0_unitsOf 9 = .ok (.imul, 1) := by decide +kernel
theorem dX0_unitsOf_10 : decode cX0_unitsOf 10 = .ok (.iload_n 1, 1) := by decide +kernel
theorem dX0_unitsOf_11 : decode cX0_unitsOf 11 = .ok (.iadd, 1) := by decide +kernel
theorem dX0_unitsOf_12 : decode cX0_unitsOf 12 = .ok (.iaload, 1) := by decide +kernel
theorem dX0_unitsOf_13 : decode cX0_unitsOf 13 = .ok (.iconst 4, 1) := by decide +kernel
theorem dX0_unitsOf_14 : decode cX0_unitsOf 14 = .ok (.ishr, 1) := by decide +kernel
theorem dX0_unitsOf_15 : decode cX0_unitsOf 15 = .ok (.sipush 1023, 3) := by decide +kernel
theorem dX0_unitsOf_18 : decode cX0_unitsOf 18 = .ok (.iand, 1) := by decide +kernel
theorem dX0_unitsOf_19 : decode cX0_unitsOf 19 = .ok (.invokestatic 58, 3) := by decide +kernel
theorem dX0_unitsOf_22 : decode cX0_unitsOf 22 = .ok (.ireturn, 1) := by decide +kernel
noncomputable def B_X0_unitsOf_0 : pb_C := (i_const (.int 1) (i_aload 0 (i_getR 25 29 (i_iload 2 (i_const (.int 200) (i_ibin (· * ·) (i_iload 1 (i_ibin (· + ·) (i_ald 29 1000 (i_const (.int 4) (i_ibin (fun x y => x >>> (y &&& 31)) (i_const (.int 1023) (i_ibin (· &&& ·) (i_mI2 pb_max i_iret))))))))))))))
noncomputable def T_X0_unitsOf : Nat → pb_C := pb_tt [(0, B_X0_unitsOf_0)]
noncomputable def M_X0_unitsOf : pb_F := pb_M T_X0_unitsOf 3
set_option maxRecDepth 100000 in
set_option maxHeartbeats 4000000 in
theorem S_X0_unitsOf (l : Launch) : pb_Sound l yX0_unitsOf cX0_unitsOf 3 (some .int) 1 M_X0_unitsOf := by
  refine pb_sound_of (by decide) m_5_2 ?_
  intro Γ hl0 hRm0 hm X E hr J
  have hnL : ∀ j, j < 3 → j < Γ.2.2.2.2.2.2.2.2.2.2.2.1 := fun j h => by rw [hm]; exact h
  have hR : ∀ (d' mL : Nat), d' + 1 ≤ 1 ∧ 8 + (mL + 11) + d' * 64 ≤ 1 * 64 → (pb_rm d').frames + 1 ≤ Γ.2.2.2.1.frames ∧ 8 + (mL + 11) + (pb_rm d').locals ≤ Γ.2.2.2.1.locals := by rw [hRm0]; exact fun _ _ h => h
  have hRm : 1 ≤ 1 ∧ 64 ≤ 1 * 64 → 1 ≤ Γ.2.2.2.1.frames ∧ 64 ≤ Γ.2.2.2.1.locals := by rw [hRm0]; exact fun h => h
  exact pb_tt_snd _ (List.forall_mem_cons.mpr ⟨(s_iconst (pc := 0) X dX0_unitsOf_0 rfl (s_aload_n (pc := 1) X dX0_unitsOf_1 rfl (s_getR (pc := 2) X dX0_unitsOf_2 g_X0_22 (s_iload_n (pc := 5) X dX0_unitsOf_5 rfl (s_sipush (pc := 6) X dX0_unitsOf_6 rfl (s_imul (pc := 9) X dX0_unitsOf_9 (s_iload_n (pc := 10) X dX0_unitsOf_10 rfl (s_iadd (pc := 11) X dX0_unitsOf_11 (s_iald (pc := 12) X dX0_unitsOf_12 h_29 (s_iconst (pc := 13) X dX0_unitsOf_13 rfl (s_ishr (pc := 14) X dX0_unitsOf_14 (s_sipush (pc := 15) X dX0_unitsOf_15 rfl (s_iand (pc := 18) X dX0_unitsOf_18 (s_mmax (pc := 19) X dX0_unitsOf_19 m_4_203 mm_mmax (hRm (by decide)) (s_iret (pc := 22) X E hr dX0_unitsOf_22))))))))))))))), fun _ h => absurd h List.not_mem_nil⟩)
theorem dX11_kind_0 : decode cX11_kind 0 = .ok (.aload_n 0, 1) := by decide +kernel
theorem dX11_kind_1 : decode cX11_kind 1 = .ok (.getfield 30, 3) := by decide +kernel
theorem dX11_kind_4 : decode cX11_kind 4 = .ok (.iload_n 1, 1) := by decide +kernel
theorem dX11_kind_5 : decode cX11_kind 5 = .ok (.invokevirtual 166, 3) := by decide +kernel
theorem dX11_kind_8 : decode cX11_kind 8 = .ok (.ifCond .eq 23, 3) := by decide +kernel
theorem dX11_kind_11 : decode cX11_kind 11 = .ok (.aload_n 0, 1) := by decide +kernel
theorem dX11_kind_12 : decode cX11_kind 12 = .ok (.getfield 46, 3) := by decide +kernel
theorem dX11_kind_15 : decode cX11_kind 15 = .ok (.iload_n 2, 1) := by decide +kernel
theorem dX11_kind_16 : decode cX11_kind 16 = .ok (.invokevirtual 214, 3) := by decide +kernel
theorem dX11_kind_19 : decode cX11_kind 19 = .ok (.ifCond .eq 12, 3) := by decide +kernel
theorem dX11_kind_22 : decode cX11_kind 22 = .ok (.iload_n 3, 1) := by decide +kernel
theorem dX11_kind_23 : decode cX11_kind 23 = .ok (.iconst 0, 1) := by decide +kernel
theorem dX11_kind_24 : decode cX11_kind 24 = .ok (.iconst 2, 1) := by decide +kernel
theorem dX11_kind_25 : decode cX11_kind 25 = .ok (.invokestatic 101, 3) := by decide +kernel
theorem dX11_kind_28 : decode cX11_kind 28 = .ok (.ifCond .eq 11, 3) := by decide +kernel
theorem dX11_kind_31 : decode cX11_kind 31 = .ok (.aload_n 0, 1) := by decide +kernel
theorem dX11_kind_32 : decode cX11_kind 32 = .ok (.iconst 1, 1) := by decide +kernel
theorem dX11_kind_33 : decode cX11_kind 33 = .ok (.putfield 9, 3) := by decide +kernel
theorem dX11_kind_36 : decode cX11_kind 36 = .ok (.goto 46, 3) := by decide +kernel
theorem dX11_kind_39 : decode cX11_kind 39 = .ok (.aload_n 0, 1) := by decide +kernel
theorem dX11_kind_40 : decode cX11_kind 40 = .ok (.getfield 30, 3) := by decide +kernel
theorem dX11_kind_43 : decode cX11_kind 43 = .ok (.iload_n 1, 1) := by decide +kernel
theorem dX11_kind_44 : decode cX11_kind 44 = .ok (.invokevirtual 217, 3) := by decide +kernel
theorem dX11_kind_47 : decode cX11_kind 47 = .ok (.ifCond .eq 21, 3) := by decide +kernel
theorem dX11_kind_50 : decode cX11_kind 50 = .ok (.iload_n 3, 1) := by decide +kernel
theorem dX11_kind_51 : decode cX11_kind 51 = .ok (.iconst 2, 1) := by decide +kernel
theorem dX11_kind_52 : decode cX11_kind 52 = .ok (.if_icmp .ne 25, 3) := by decide +kernel
theorem dX11_kind_55 : decode cX11_kind 55 = .ok (.aload_n 0, 1) := by decide +kernel
theorem dX11_kind_56 : decode cX11_kind 56 = .ok (.getfield 46, 3) := by decide +kernel
theorem dX11_kind_59 : decode cX11_kind 59 = .ok (.iload_n 1, 1) := by decide +kernel
theorem dX11_kind_60 : decode cX11_kind 60 = .ok (.iload_n 2, 1) := by decide +kernel
theorem dX11_kind_61 : decode cX11_kind 61 = .ok (.invokevirtual 220, 3) := by decide +kernel
theorem dX11_kind_64 : decode cX11_kind 64 = .ok (.iconst (-1), 1) := by decide +kernel
theorem dX11_kind_65 : decode cX11_kind 65 = .ok (.if_icmp .ne 12, 3) := by decide +kernel
theorem dX11_kind_68 : decode cX11_kind 68 = .ok (.aload_n 0, 1) := by decide +kernel
theorem dX11_kind_69 : decode cX11_kind 69 = .ok (.bipush 6, 2) := by decide +kernel
theorem dX11_kind_71 : decode cX11_kind 71 = .ok (.putfield 9, 3) := by decide +kernel
theorem dX11_kind_74 : decode cX11_kind 74 = .ok (.goto 8, 3) := by decide +kernel
theorem dX11_kind_77 : decode cX11_kind 77 = .ok (.aload_n 0, 1) := by decide +kernel
theorem dX11_kind_78 : decode cX11_kind 78 = .ok (.iconst 0, 1) := by decide +kernel
theorem dX11_kind_79 : decode cX11_kind 79 = .ok (.putfield 9, 3) := by decide +kernel
theorem dX11_kind_82 : decode cX11_kind 82 = .ok (.aload_n 0, 1) := by decide +kernel
theorem dX11_kind_83 : decode cX11_kind 83 = .ok (.getfield 9, 3) := by decide +kernel
theorem dX11_kind_86 : decode cX11_kind 86 = .ok (.ifCond .eq 5, 3) := by decide +kernel
theorem dX11_kind_89 : decode cX11_kind 89 = .ok (.iconst (-1), 1) := by decide +kernel
theorem dX11_kind_90 : decode cX11_kind 90 = .ok (.ireturn, 1) := by decide +kernel
theorem dX11_kind_91 : decode cX11_kind 91 = .ok (.iload_n 3, 1) := by decide +kernel
theorem dX11_kind_92 : decode cX11_kind 92 = .ok (.iconst 2, 1) := by decide +kernel
theorem dX11_kind_93 : decode cX11_kind 93 = .ok (.if_icmp .ne 13, 3) := by decide +kernel
theorem dX11_kind_96 : decode cX11_kind 96 = .ok (.aload_n 0, 1) := by decide +kernel
theorem dX11_kind_97 : decode cX11_kind 97 = .ok (.getfield 46, 3) := by decide +kernel
theorem dX11_kind_100 : decode cX11_kind 100 = .ok (.iload_n 1, 1) := by decide +kernel
theorem dX11_kind_101 : decode cX11_kind 101 = .ok (.iload_n 2, 1) := by decide +kernel
theorem dX11_kind_102 : decode cX11_kind 102 = .ok (.invokevirtual 220, 3) := by decide +kernel
theorem dX11_kind_105 : decode cX11_kind 105 = .ok (.ireturn, 1) := by decide +kernel
theorem dX11_kind_106 : decode cX11_kind 106 = .ok (.iload_n 3, 1) := by decide +kernel
theorem dX11_kind_107 : decode cX11_kind 107 = .ok (.ifCond .ne 15, 3) := by decide +kernel
theorem dX11_kind_110 : decode cX11_kind 110 = .ok (.aload_n 0, 1) := by decide +kernel
theorem dX11_kind_111 : decode cX11_kind 111 = .ok (.getfield 46, 3) := by decide +kernel
theorem dX11_kind_114 : decode cX11_kind 114 = .ok (.iload_n 1, 1) := by decide +kernel
theorem dX11_kind_115 : decode cX11_kind 115 = .ok (.iload_n 2, 1) := by decide +kernel
theorem dX11_kind_116 : decode cX11_kind 116 = .ok (.invokevirtual 223, 3) := by decide +kernel
theorem dX11_kind_119 : decode cX11_kind 119 = .ok (.goto 12, 3) := by decide +kernel
theorem dX11_kind_122 : decode cX11_kind 122 = .ok (.aload_n 0, 1) := by decide +kernel
theorem dX11_kind_123 : decode cX11_kind 123 = .ok (.getfield 46, 3) := by decide +kernel
theorem dX11_kind_126 : decode cX11_kind 126 = .ok (.iload_n 1, 1) := by decide +kernel
theorem dX11_kind_127 : decode cX11_kind 127 = .ok (.iload_n 2, 1) := by decide +kernel
theorem dX11_kind_128 : decode cX11_kind 128 = .ok (.invokevirtual 226, 3) := by decide +kernel
theorem dX11_kind_131 : decode cX11_kind 131 = .ok (.ireturn, 1) := by decide +kernel
noncomputable def B_X11_kind_0 : pb_C := (i_aload 0 (i_getR 0 5 (i_iload 1 (i_callV 5 1 1 M_X1_hasLine (i_if_eq (i_aload 0 (i_const (.int 1) (i_putI 0 0 (i_jmp 82 [true, true, true, true])))) (i_aload 0 (i_getR 0 25 (i_iload 2 (i_callV 25 1 1 M_X0_judgeBy (i_if_eq (i_aload 0 (i_const (.int 1) (i_putI 0 0 (i_jmp 82 [true, true, true, true])))) (i_iload 3 (i_const (.int 0) (i_const (.int 2) (i_callS 3 1 M_X11_outside (i_if_eq (i_aload 0 (i_getR 0 5 (i_iload 1 (i_callV 5 1 1 M_X1_isKnown (i_if_eq (i_aload 0 (i_const (.int 6) (i_putI 0 0 (i_jmp 82 [true, true, true, true])))) (i_iload 3 (i_const (.int 2) (i_ic_ne (i_aload 0 (i_const (.int 0) (i_putI 0 0 (i_jmp 82 [true, true, true, true])))) (i_aload 0 (i_getR 0 25 (i_iload 1 (i_iload 2 (i_callV 25 2 1 M_X0_ruleOf (i_const (.int (-1)) (i_ic_ne (i_aload 0 (i_const (.int 0) (i_putI 0 0 (i_jmp 82 [true, true, true, true])))) (i_aload 0 (i_const (.int 6) (i_putI 0 0 (i_jmp 82 [true, true, true, true]))))))))))))))))))) (i_aload 0 (i_const (.int 1) (i_putI 0 0 (i_jmp 82 [true, true, true, true])))))))))))))))))))
noncomputable def B_X11_kind_82 : pb_C := (i_aload 0 (i_getI 0 0 (i_if_eq (i_iload 3 (i_const (.int 2) (i_ic_ne (i_iload 3 (i_if_ne (i_aload 0 (i_getR 0 25 (i_iload 1 (i_iload 2 (i_callV 25 2 1 M_X0_unitsOf i_iret))))) (i_aload 0 (i_getR 0 25 (i_iload 1 (i_iload 2 (i_callV 25 2 1 M_X0_kindOf i_iret))))))) (i_aload 0 (i_getR 0 25 (i_iload 1 (i_iload 2 (i_callV 25 2 1 M_X0_ruleOf i_iret)))))))) (i_const (.int (-1)) i_iret))))
noncomputable def T_X11_kind : Nat → pb_C := pb_tt [(0, B_X11_kind_0), (82, B_X11_kind_82)]
noncomputable def M_X11_kind : pb_F := pb_M T_X11_kind 4
set_option maxRecDepth 100000 in
set_option maxHeartbeats 4000000 in
theorem S_X11_kind (l : Launch) : pb_Sound l yX11_kind cX11_kind 4 (some .int) 5 M_X11_kind := by
  refine pb_sound_of (by decide) m_4_188 ?_
  intro Γ hl0 hRm0 hm X E hr J
  have hnL : ∀ j, j < 4 → j < Γ.2.2.2.2.2.2.2.2.2.2.2.1 := fun j h => by rw [hm]; exact h
  have hR : ∀ (d' mL : Nat), d' + 1 ≤ 5 ∧ 8 + (mL + 11) + d' * 64 ≤ 5 * 64 → (pb_rm d').frames + 1 ≤ Γ.2.2.2.1.frames ∧ 8 + (mL + 11) + (pb_rm d').locals ≤ Γ.2.2.2.1.locals := by rw [hRm0]; exact fun _ _ h => h
  have hRm : 1 ≤ 5 ∧ 64 ≤ 5 * 64 → 1 ≤ Γ.2.2.2.1.frames ∧ 64 ≤ Γ.2.2.2.1.locals := by rw [hRm0]; exact fun h => h
  exact pb_tt_snd _ (List.forall_mem_cons.mpr ⟨(s_aload_n (pc := 0) X dX11_kind_0 rfl (s_getR (pc := 1) X dX11_kind_1 g_X11_30 (s_iload_n (pc := 4) X dX11_kind_4 rfl (s_callV (pc := 5) X dX11_kind_5 (S_X1_hasLine _) q_X11_166 h_5 rfl (hR _ _ (by decide)) (s_if_eq (pc := 8) X dX11_kind_8 (by decide) (s_aload_n (pc := 31) X dX11_kind_31 rfl (s_iconst (pc := 32) X dX11_kind_32 rfl (s_putI (pc := 33) X dX11_kind_33 p_X11_9 (s_goto (pc := 36) X dX11_kind_36 (by decide) (s_jmp (pc := 82) J [true, true, true, true]))))) (s_aload_n (pc := 11) X dX11_kind_11 rfl (s_getR (pc := 12) X dX11_kind_12 g_X11_46 (s_iload_n (pc := 15) X dX11_kind_15 rfl (s_callV (pc := 16) X dX11_kind_16 (S_X0_judgeBy _) q_X11_214 h_25 rfl (hR _ _ (by decide)) (s_if_eq (pc := 19) X dX11_kind_19 (by decide) (s_aload_n (pc := 31) X dX11_kind_31 rfl (s_iconst (pc := 32) X dX11_kind_32 rfl (s_putI (pc := 33) X dX11_kind_33 p_X11_9 (s_goto (pc := 36) X dX11_kind_36 (by decide) (s_jmp (pc := 82) J [true, true, true, true]))))) (s_iload_n (pc := 22) X dX11_kind_22 rfl (s_iconst (pc := 23) X dX11_kind_23 rfl (s_iconst (pc := 24) X dX11_kind_24 rfl (s_callS (pc := 25) X dX11_kind_25 (S_X11_outside _) q_X11_101 (hR _ _ (by decide)) (s_if_eq (pc := 28) X dX11_kind_28 (by decide) (s_aload_n (pc := 39) X dX11_kind_39 rfl (s_getR (pc := 40) X dX11_kind_40 g_X11_30 (s_iload_n (pc := 43) X dX11_kind_43 rfl (s_callV (pc := 44) X dX11_kind_44 (S_X1_isKnown _) q_X11_217 h_5 rfl (hR _ _ (by decide)) (s_if_eq (pc := 47) X dX11_kind_47 (by decide) (s_aload_n (pc := 68) X dX11_kind_68 rfl (s_bipush (pc := 69) X dX11_kind_69 rfl (s_putI (pc := 71) X dX11_kind_71 p_X11_9 (s_goto (pc := 74) X dX11_kind_74 (by decide) (s_jmp (pc := 82) J [true, true, true, true]))))) (s_iload_n (pc := 50) X dX11_kind_50 rfl (s_iconst (pc := 51) X dX11_kind_51 rfl (s_ic_ne (pc := 52) X dX11_kind_52 (by decide) (s_aload_n (pc := 77) X dX11_kind_77 rfl (s_iconst (pc := 78) X dX11_kind_78 rfl (s_putI (pc := 79) X dX11_kind_79 p_X11_9 (s_jmp (pc := 82) J [true, true, true, true])))) (s_aload_n (pc := 55) X dX11_kind_55 rfl (s_getR (pc := 56) X dX11_kind_56 g_X11_46 (s_iload_n (pc := 59) X dX11_kind_59 rfl (s_iload_n (pc := 60) X dX11_kind_60 rfl (s_callV (pc := 61) X dX11_kind_61 (S_X0_ruleOf _) q_X11_220 h_25 rfl (hR _ _ (by decide)) (s_iconst (pc := 64) X dX11_kind_64 rfl (s_ic_ne (pc := 65) X dX11_kind_65 (by decide) (s_aload_n (pc := 77) X dX11_kind_77 rfl (s_iconst (pc := 78) X dX11_kind_78 rfl (s_putI (pc := 79) X dX11_kind_79 p_X11_9 (s_jmp (pc := 82) J [true, true, true, true])))) (s_aload_n (pc := 68) X dX11_kind_68 rfl (s_bipush (pc := 69) X dX11_kind_69 rfl (s_putI (pc := 71) X dX11_kind_71 p_X11_9 (s_goto (pc := 74) X dX11_kind_74 (by decide) (s_jmp (pc := 82) J [true, true, true, true])))))))))))))))))))) (s_aload_n (pc := 31) X dX11_kind_31 rfl (s_iconst (pc := 32) X dX11_kind_32 rfl (s_putI (pc := 33) X dX11_kind_33 p_X11_9 (s_goto (pc := 36) X dX11_kind_36 (by decide) (s_jmp (pc := 82) J [true, true, true, true])))))))))))))))))))), List.forall_mem_cons.mpr ⟨(s_aload_n (pc := 82) X dX11_kind_82 rfl (s_getI (pc := 83) X dX11_kind_83 g_X11_9 (s_if_eq (pc := 86) X dX11_kind_86 (by decide) (s_iload_n (pc := 91) X dX11_kind_91 rfl (s_iconst (pc := 92) X dX11_kind_92 rfl (s_ic_ne (pc := 93) X dX11_kind_93 (by decide) (s_iload_n (pc := 106) X dX11_kind_106 rfl (s_if_ne (pc := 107) X dX11_kind_107 (by decide) (s_aload_n (pc := 122) X dX11_kind_122 rfl (s_getR (pc := 123) X dX11_kind_123 g_X11_46 (s_iload_n (pc := 126) X dX11_kind_126 rfl (s_iload_n (pc := 127) X dX11_kind_127 rfl (s_callV (pc := 128) X dX11_kind_128 (S_X0_unitsOf _) q_X11_226 h_25 rfl (hR _ _ (by decide)) (s_iret (pc := 131) X E hr dX11_kind_131)))))) (s_aload_n (pc := 110) X dX11_kind_110 rfl (s_getR (pc := 111) X dX11_kind_111 g_X11_46 (s_iload_n (pc := 114) X dX11_kind_114 rfl (s_iload_n (pc := 115) X dX11_kind_115 rfl (s_callV (pc := 116) X dX11_kind_116 (S_X0_kindOf _) q_X11_223 h_25 rfl (hR _ _ (by decide)) (s_goto (pc := 119) X dX11_kind_119 (by decide) (s_iret (pc := 131) X E hr dX11_kind_131))))))))) (s_aload_n (pc := 96) X dX11_kind_96 rfl (s_getR (pc := 97) X dX11_kind_97 g_X11_46 (s_iload_n (pc := 100) X dX11_kind_100 rfl (s_iload_n (pc := 101) X dX11_kind_101 rfl (s_callV (pc := 102) X dX11_kind_102 (S_X0_ruleOf _) q_X11_220 h_25 rfl (hR _ _ (by decide)) (s_iret (pc := 105) X E hr dX11_kind_105))))))))) (s_iconst (pc := 89) X dX11_kind_89 rfl (s_iret (pc := 90) X E hr dX11_kind_90))))), fun _ h => absurd h List.not_mem_nil⟩⟩)
theorem dX0_unlikeKinds_0 : decode cX0_unlikeKinds 0 = .ok (.iconst 0, 1) := by decide +kernel
theorem dX0_unlikeKinds_1 : decode cX0_unlikeKinds 1 = .ok (.istore_n 3, 1) := by decide +kernel
theorem dX0_unlikeKinds_2 : decode cX0_unlikeKinds 2 = .ok (.iconst 0, 1) := by decide +kernel
theorem dX0_unlikeKinds_3 : decode cX0_unlikeKinds 3 = .ok (.istore 4, 2) := by decide +kernel
theorem dX0_unlikeKinds_5 : decode cX0_unlikeKinds 5 = .ok (.iload 4, 2) := by decide +kernel
theorem dX0_unlikeKinds_7 : decode cX0_unlikeKinds 7 = .ok (.aload_n 0, 1) := by decide +kernel
theorem dX0_unlikeKinds_8 : decode cX0_unlikeKinds 8 = .ok (.getfield 28, 3) := by decide +kernel
theorem dX0_unlikeKinds_11 : decode cX0_unlikeKinds 11 = .ok (.getfield 46, 3) := by decide +kernel
theorem dX0_unlikeKinds_14 : decode cX0_unlikeKinds 14 = .ok (.if_icmp .ge 41, 3) := by decide +kernel
theorem dX0_unlikeKinds_17 : decode cX0_unlikeKinds 17 = .ok (.aload_n 0, 1) := by decide +kernel
theorem dX0_unlikeKinds_18 : decode cX0_unlikeKinds 18 = .ok (.getfield 28, 3) := by decide +kernel
theorem dX0_unlikeKinds_21 : decode cX0_unlikeKinds 21 = .ok (.iload 4, 2) := by decide +kernel
theorem dX0_unlikeKinds_23 : decode cX0_unlikeKinds 23 = .ok (.invokevirtual 63, 3) := by decide +kernel
theorem dX0_unlikeKinds_26 : decode cX0_unlikeKinds 26 = .ok (.ifCond .eq 23, 3) := by decide +kernel
theorem dX0_unlikeKinds_29 : decode cX0_unlikeKinds 29 = .ok (.aload_n 0, 1) := by decide +kernel
theorem dX0_unlikeKinds_30 : decode cX0_unlikeKinds 30 = .ok (.iload 4, 2) := by decide +kernel
theorem dX0_unlikeKinds_32 : decode cX0_unlikeKinds 32 = .ok (.iload_n 1, 1) := by decide +kernel
theorem dX0_unlikeKinds_33 : decode cX0_unlikeKinds 33 = .ok (.invokevirtual 67, 3) := by decide +kernel
theorem dX0_unlikeKinds_36 : decode cX0_unlikeKinds 36 = .ok (.aload_n 0, 1) := by decide +kernel
theorem dX0_unlikeKinds_37 : decode cX0_unlikeKinds 37 = .ok (.iload 4, 2) := by decide +kernel
theorem dX0_unlikeKinds_39 : decode cX0_unlikeKinds 39 = .ok (.iload_n 2, 1) := by decide +kernel
theorem dX0_unlikeKinds_40 : decode cX0_unlikeKinds 40 = .ok (.invokevirtual 67, 3) := by decide +kernel
theorem dX0_unlikeKinds_43 : decode cX0_unlikeKinds 43 = .ok (.if_icmp .eq 6, 3) := by decide +kernel
theorem dX0_unlikeKinds_46 : decode cX0_unlikeKinds 46 = .ok (.iinc 3 1, 3) := by decide +kernel
theorem dX0_unlikeKinds_49 : decode cX0_unlikeKinds 49 = .ok (.iinc 4 1, 3) := by decide +kernel
theorem dX0_unlikeKinds_52 : decode cX0_unlikeKinds 52 = .ok (.goto (-47), 3) := by decide +kernel
theorem dX0_unlikeKinds_55 : decode cX0_unlikeKinds 55 = .ok (.iload_n 3, 1) := by decide +kernel
theorem dX0_unlikeKinds_56 : decode cX0_unlikeKinds 56 = .ok (.ireturn, 1) := by decide +kernel
noncomputable def B_X0_unlikeKinds_0 : pb_C := (i_const (.int 0) (i_istore 3 (i_const (.int 0) (i_istore 4 (i_jmp 5 [true, true, true, true, true])))))
noncomputable def B_X0_unlikeKinds_5 : pb_C := (i_iload 4 (i_aload 0 (i_getR 25 5 (i_getI 5 3 (i_ic_ge (i_iload 3 i_iret) (i_aload 0 (i_getR 25 5 (i_iload 4 (i_callV 5 1 1 M_X1_isKnown (i_if_eq (i_iinc 4 1 (i_jmp 5 [true, true, true, true, true])) (i_aload 0 (i_iload 4 (i_iload 1 (i_callV 25 2 1 M_X0_kindOf (i_aload 0 (i_iload 4 (i_iload 2 (i_callV 25 2 1 M_X0_kindOf (i_ic_eq (i_iinc 4 1 (i_jmp 5 [true, true, true, true, true])) (i_iinc 3 1 (i_iinc 4 1 (i_jmp 5 [true, true, true, true, true]))))))))))))))))))))))
noncomputable def T_X0_unlikeKinds : Nat → pb_C := pb_tt [(0, B_X0_unlikeKinds_0), (5, B_X0_unlikeKinds_5)]
noncomputable def M_X0_unlikeKinds : pb_F := pb_M T_X0_unlikeKinds 5
set_option maxRecDepth 100000 in
set_option maxHeartbeats 4000000 in
theorem S_X0_unlikeKinds (l : Launch) : pb_Sound l yX0_unlikeKinds cX0_unlikeKinds 5 (some .int) 2 M_X0_unlikeKinds := by
  refine pb_sound_of (by decide) m_5_10 ?_
  intro Γ hl0 hRm0 hm X E hr J
  have hnL : ∀ j, j < 5 → j < Γ.2.2.2.2.2.2.2.2.2.2.2.1 := fun j h => by rw [hm]; exact h
  have hR : ∀ (d' mL : Nat), d' + 1 ≤ 2 ∧ 8 + (mL + 11) + d' * 64 ≤ 2 * 64 → (pb_rm d').frames + 1 ≤ Γ.2.2.2.1.frames ∧ 8 + (mL + 11) + (pb_rm d').locals ≤ Γ.2.2.2.1.locals := by rw [hRm0]; exact fun _ _ h => h
  have hRm : 1 ≤ 2 ∧ 64 ≤ 2 * 64 → 1 ≤ Γ.2.2.2.1.frames ∧ 64 ≤ Γ.2.2.2.1.locals := by rw [hRm0]; exact fun h => h
  exact pb_tt_snd _ (List.forall_mem_cons.mpr ⟨(s_iconst (pc := 0) X dX0_unlikeKinds_0 rfl (s_istore_n (pc := 1) X dX0_unlikeKinds_1 rfl (hnL _ (by decide)) (s_iconst (pc := 2) X dX0_unlikeKinds_2 rfl (s_istore (pc := 3) X dX0_unlikeKinds_3 (hnL _ (by decide)) (s_jmp (pc := 5) J [true, true, true, true, true]))))), List.forall_mem_cons.mpr ⟨(s_iload (pc := 5) X dX0_unlikeKinds_5 (s_aload_n (pc := 7) X dX0_unlikeKinds_7 rfl (s_getR (pc := 8) X dX0_unlikeKinds_8 g_X0_28 (s_getI (pc := 11) X dX0_unlikeKinds_11 g_X0_46 (s_ic_ge (pc := 14) X dX0_unlikeKinds_14 (by decide) (s_iload_n (pc := 55) X dX0_unlikeKinds_55 rfl (s_iret (pc := 56) X E hr dX0_unlikeKinds_56)) (s_aload_n (pc := 17) X dX0_unlikeKinds_17 rfl (s_getR (pc := 18) X dX0_unlikeKinds_18 g_X0_28 (s_iload (pc := 21) X dX0_unlikeKinds_21 (s_callV (pc := 23) X dX0_unlikeKinds_23 (S_X1_isKnown _) q_X0_63 h_5 rfl (hR _ _ (by decide)) (s_if_eq (pc := 26) X dX0_unlikeKinds_26 (by decide) (s_iinc (pc := 49) X dX0_unlikeKinds_49 rfl (s_goto (pc := 52) X dX0_unlikeKinds_52 (by decide) (s_jmp (pc := 5) J [true, true, true, true, true]))) (s_aload_n (pc := 29) X dX0_unlikeKinds_29 rfl (s_iload (pc := 30) X dX0_unlikeKinds_30 (s_iload_n (pc := 32) X dX0_unlikeKinds_32 rfl (s_callV (pc := 33) X dX0_unlikeKinds_33 (S_X0_kindOf _) q_X0_67 h_25 rfl (hR _ _ (by decide)) (s_aload_n (pc := 36) X dX0_unlikeKinds_36 rfl (s_iload (pc := 37) X dX0_unlikeKinds_37 (s_iload_n (pc := 39) X dX0_unlikeKinds_39 rfl (s_callV (pc := 40) X dX0_unlikeKinds_40 (S_X0_kindOf _) q_X0_67 h_25 rfl (hR _ _ (by decide)) (s_ic_eq (pc := 43) X dX0_unlikeKinds_43 (by decide) (s_iinc (pc := 49) X dX0_unlikeKinds_49 rfl (s_goto (pc := 52) X dX0_unlikeKinds_52 (by decide) (s_jmp (pc := 5) J [true, true, true, true, true]))) (s_iinc (pc := 46) X dX0_unlikeKinds_46 rfl (s_iinc (pc := 49) X dX0_unlikeKinds_49 rfl (s_goto (pc := 52) X dX0_unlikeKinds_52 (by decide) (s_jmp (pc := 5) J [true, true, true, true, true]))))))))))))))))))))))), fun _ h => absurd h List.not_mem_nil⟩⟩)
theorem dX11_moved_0 : decode cX11_moved 0 = .ok (.aload_n 0, 1) := by decide +kernel
theorem dX11_moved_1 : decode cX11_moved 1 = .ok (.aload_n 0, 1) := by decide +kernel
theorem dX11_moved_2 : decode cX11_moved 2 = .ok (.getfield 46, 3) := by decide +kernel
theorem dX11_moved_5 : decode cX11_moved 5 = .ok (.iload_n 1, 1) := by decide +kernel
theorem dX11_moved_6 : decode cX11_moved 6 = .ok (.invokevirtual 214, 3) := by decide +kernel
theorem dX11_moved_9 : decode cX11_moved 9 = .ok (.ifCond .eq 18, 3) := by decide +kernel
theorem dX11_moved_12 : decode cX11_moved 12 = .ok (.aload_n 0, 1) := by decide +kernel
theorem dX11_moved_13 : decode cX11_moved 13 = .ok (.getfield 46, 3) := by decide +kernel
theorem dX11_moved_16 : decode cX11_moved 16 = .ok (.iload_n 2, 1) := by decide +kernel
theorem dX11_moved_17 : decode cX11_moved 17 = .ok (.invokevirtual 214, 3) := by decide +kernel
theorem dX11_moved_20 : decode cX11_moved 20 = .ok (.ifCond .eq 7, 3) := by decide +kernel
theorem dX11_moved_23 : decode cX11_moved 23 = .ok (.iconst 0, 1) := by decide +kernel
theorem dX11_moved_24 : decode cX11_moved 24 = .ok (.goto 4, 3) := by decide +kernel
theorem dX11_moved_27 : decode cX11_moved 27 = .ok (.iconst 1, 1) := by decide +kernel
theorem dX11_moved_28 : decode cX11_moved 28 = .ok (.putfield 9, 3) := by decide +kernel
theorem dX11_moved_31 : decode cX11_moved 31 = .ok (.aload_n 0, 1) := by decide +kernel
theorem dX11_moved_32 : decode cX11_moved 32 = .ok (.getfield 9, 3) := by decide +kernel
theorem dX11_moved_35 : decode cX11_moved 35 = .ok (.ifCond .ne 15, 3) := by decide +kernel
theorem dX11_moved_38 : decode cX11_moved 38 = .ok (.aload_n 0, 1) := by decide +kernel
theorem dX11_moved_39 : decode cX11_moved 39 = .ok (.getfield 46, 3) := by decide +kernel
theorem dX11_moved_42 : decode cX11_moved 42 = .ok (.iload_n 1, 1) := by decide +kernel
theorem dX11_moved_43 : decode cX11_moved 43 = .ok (.iload_n 2, 1) := by decide +kernel
theorem dX11_moved_44 : decode cX11_moved 44 = .ok (.invokevirtual 229, 3) := by decide +kernel
theorem dX11_moved_47 : decode cX11_moved 47 = .ok (.goto 4, 3) := by decide +kernel
theorem dX11_moved_50 : decode cX11_moved 50 = .ok (.iconst (-1), 1) := by decide +kernel
theorem dX11_moved_51 : decode cX11_moved 51 = .ok (.ireturn, 1) := by decide +kernel
noncomputable def B_X11_moved_0 : pb_C := (i_aload 0 (i_aload 0 (i_getR 0 25 (i_iload 1 (i_callV 25 1 1 M_X0_judgeBy (i_if_eq (i_const (.int 1) (i_jmp 28 [true, true, true])) (i_aload 0 (i_getR 0 25 (i_iload 2 (i_callV 25 1 1 M_X0_judgeBy (i_if_eq (i_const (.int 1) (i_jmp 28 [true, true, true])) (i_const (.int 0) (i_jmp 28 [true, true, true])))))))))))))
noncomputable def B_X11_moved_28 : pb_C := (i_putI 0 0 (i_aload 0 (i_getI 0 0 (i_if_ne (i_const (.int (-1)) i_iret) (i_aload 0 (i_getR 0 25 (i_iload 1 (i_iload 2 (i_callV 25 2 1 M_X0_unlikeKinds i_iret)))))))))
noncomputable def T_X11_moved : Nat → pb_C := pb_tt [(0, B_X11_moved_0), (28, B_X11_moved_28)]
noncomputable def M_X11_moved : pb_F := pb_M T_X11_moved 3
set_option maxRecDepth 100000 in
set_option maxHeartbeats 4000000 in
theorem S_X11_moved (l : Launch) : pb_Sound l yX11_moved cX11_moved 3 (some .int) 5 M_X11_moved := by
  refine pb_sound_of (by decide) m_5_6 ?_
  intro Γ hl0 hRm0 hm X E hr J
  have hnL : ∀ j, j < 3 → j < Γ.2.2.2.2.2.2.2.2.2.2.2.1 := fun j h => by rw [hm]; exact h
  have hR : ∀ (d' mL : Nat), d' + 1 ≤ 5 ∧ 8 + (mL + 11) + d' * 64 ≤ 5 * 64 → (pb_rm d').frames + 1 ≤ Γ.2.2.2.1.frames ∧ 8 + (mL + 11) + (pb_rm d').locals ≤ Γ.2.2.2.1.locals := by rw [hRm0]; exact fun _ _ h => h
  have hRm : 1 ≤ 5 ∧ 64 ≤ 5 * 64 → 1 ≤ Γ.2.2.2.1.frames ∧ 64 ≤ Γ.2.2.2.1.locals := by rw [hRm0]; exact fun h => h
  exact pb_tt_snd _ (List.forall_mem_cons.mpr ⟨(s_aload_n (pc := 0) X dX11_moved_0 rfl (s_aload_n (pc := 1) X dX11_moved_1 rfl (s_getR (pc := 2) X dX11_moved_2 g_X11_46 (s_iload_n (pc := 5) X dX11_moved_5 rfl (s_callV (pc := 6) X dX11_moved_6 (S_X0_judgeBy _) q_X11_214 h_25 rfl (hR _ _ (by decide)) (s_if_eq (pc := 9) X dX11_moved_9 (by decide) (s_iconst (pc := 27) X dX11_moved_27 rfl (s_jmp (pc := 28) J [true, true, true])) (s_aload_n (pc := 12) X dX11_moved_12 rfl (s_getR (pc := 13) X dX11_moved_13 g_X11_46 (s_iload_n (pc := 16) X dX11_moved_16 rfl (s_callV (pc := 17) X dX11_moved_17 (S_X0_judgeBy _) q_X11_214 h_25 rfl (hR _ _ (by decide)) (s_if_eq (pc := 20) X dX11_moved_20 (by decide) (s_iconst (pc := 27) X dX11_moved_27 rfl (s_jmp (pc := 28) J [true, true, true])) (s_iconst (pc := 23) X dX11_moved_23 rfl (s_goto (pc := 24) X dX11_moved_24 (by decide) (s_jmp (pc := 28) J [true, true, true])))))))))))))), List.forall_mem_cons.mpr ⟨(s_putI (pc := 28) X dX11_moved_28 p_X11_9 (s_aload_n (pc := 31) X dX11_moved_31 rfl (s_getI (pc := 32) X dX11_moved_32 g_X11_9 (s_if_ne (pc := 35) X dX11_moved_35 (by decide) (s_iconst (pc := 50) X dX11_moved_50 rfl (s_iret (pc := 51) X E hr dX11_moved_51)) (s_aload_n (pc := 38) X dX11_moved_38 rfl (s_getR (pc := 39) X dX11_moved_39 g_X11_46 (s_iload_n (pc := 42) X dX11_moved_42 rfl (s_iload_n (pc := 43) X dX11_moved_43 rfl (s_callV (pc := 44) X dX11_moved_44 (S_X0_unlikeKinds _) q_X11_229 h_25 rfl (hR _ _ (by decide)) (s_goto (pc := 47) X dX11_moved_47 (by decide) (s_iret (pc := 51) X E hr dX11_moved_51))))))))))), fun _ h => absurd h List.not_mem_nil⟩⟩)
theorem dX11_noSpending_0 : decode cX11_noSpending 0 = .ok (.aload_n 0, 1) := by decide +kernel
theorem dX11_noSpending_1 : decode cX11_noSpending 1 = .ok (.iload_n 1, 1) := by decide +kernel
theorem dX11_noSpending_2 : decode cX11_noSpending 2 = .ok (.iload_n 2, 1) := by decide +kernel
theorem dX11_noSpending_3 : decode cX11_noSpending 3 = .ok (.invokevirtual 145, 3) := by decide +kernel
theorem dX11_noSpending_6 : decode cX11_noSpending 6 = .ok (.ifCond .ne 25, 3) := by decide +kernel
theorem dX11_noSpending_9 : decode cX11_noSpending 9 = .ok (.iload_n 3, 1) := by decide +kernel
theorem dX11_noSpending_10 : decode cX11_noSpending 10 = .ok (.iconst (-1), 1) := by decide +kernel
theorem dX11_noSpending_11 : decode cX11_noSpending 11 = .ok (.bipush 15, 2) := by decide +kernel
theorem dX11_noSpending_13 : decode cX11_noSpending 13 = .ok (.invokestatic 101, 3) := by decide +kernel
theorem dX11_noSpending_16 : decode cX11_noSpending 16 = .ok (.ifCond .ne 15, 3) := by decide +kernel
theorem dX11_noSpending_19 : decode cX11_noSpending 19 = .ok (.aload_n 0, 1) := by decide +kernel
theorem dX11_noSpending_20 : decode cX11_noSpending 20 = .ok (.getfield 46, 3) := by decide +kernel
theorem dX11_noSpending_23 : decode cX11_noSpending 23 = .ok (.iload 4, 2) := by decide +kernel
theorem dX11_noSpending_25 : decode cX11_noSpending 25 = .ok (.invokevirtual 214, 3) := by decide +kernel
theorem dX11_noSpending_28 : decode cX11_noSpending 28 = .ok (.ifCond .ne 7, 3) := by decide +kernel
theorem dX11_noSpending_31 : decode cX11_noSpending 31 = .ok (.iconst 1, 1) := by decide +kernel
theorem dX11_noSpending_32 : decode cX11_noSpending 32 = .ok (.goto 4, 3) := by decide +kernel
theorem dX11_noSpending_35 : decode cX11_noSpending 35 = .ok (.iconst 0, 1) := by decide +kernel
theorem dX11_noSpending_36 : decode cX11_noSpending 36 = .ok (.ireturn, 1) := by decide +kernel
noncomputable def B_X11_noSpending_0 : pb_C := (i_aload 0 (i_iload 1 (i_iload 2 (i_callV 0 2 1 M_X11_noFamilyWeek (i_if_ne (i_const (.int 1) i_zret) (i_iload 3 (i_const (.int (-1)) (i_const (.int 15) (i_callS 3 1 M_X11_outside (i_if_ne (i_const (.int 1) i_zret) (i_aload 0 (i_getR 0 25 (i_iload 4 (i_callV 25 1 1 M_X0_judgeBy (i_if_ne (i_const (.int 0) i_zret) (i_const (.int 1) i_zret))))))))))))))))
noncomputable def T_X11_noSpending : Nat → pb_C := pb_tt [(0, B_X11_noSpending_0)]
noncomputable def M_X11_noSpending : pb_F := pb_M T_X11_noSpending 5
set_option maxRecDepth 100000 in
set_option maxHeartbeats 4000000 in
theorem S_X11_noSpending (l : Launch) : pb_Sound l yX11_noSpending cX11_noSpending 5 (some .boolean) 5 M_X11_noSpending := by
  refine pb_sound_of (by decide) m_5_20 ?_
  intro Γ hl0 hRm0 hm X E hr J
  have hnL : ∀ j, j < 5 → j < Γ.2.2.2.2.2.2.2.2.2.2.2.1 := fun j h => by rw [hm]; exact h
  have hR : ∀ (d' mL : Nat), d' + 1 ≤ 5 ∧ 8 + (mL + 11) + d' * 64 ≤ 5 * 64 → (pb_rm d').frames + 1 ≤ Γ.2.2.2.1.frames ∧ 8 + (mL + 11) + (pb_rm d').locals ≤ Γ.2.2.2.1.locals := by rw [hRm0]; exact fun _ _ h => h
  have hRm : 1 ≤ 5 ∧ 64 ≤ 5 * 64 → 1 ≤ Γ.2.2.2.1.frames ∧ 64 ≤ Γ.2.2.2.1.locals := by rw [hRm0]; exact fun h => h
  exact pb_tt_snd _ (List.forall_mem_cons.mpr ⟨(s_aload_n (pc := 0) X dX11_noSpending_0 rfl (s_iload_n (pc := 1) X dX11_noSpending_1 rfl (s_iload_n (pc := 2) X dX11_noSpending_2 rfl (s_callV (pc := 3) X dX11_noSpending_3 (S_X11_noFamilyWeek _) q_X11_145 h_0 rfl (hR _ _ (by decide)) (s_if_ne (pc := 6) X dX11_noSpending_6 (by decide) (s_iconst (pc := 31) X dX11_noSpending_31 rfl (s_goto (pc := 32) X dX11_noSpending_32 (by decide) (s_zret (pc := 36) X E hr dX11_noSpending_36))) (s_iload_n (pc := 9) X dX11_noSpending_9 rfl (s_iconst (pc := 10) X dX11_noSpending_10 rfl (s_bipush (pc := 11) X dX11_noSpending_11 rfl (s_callS (pc := 13) X dX11_noSpending_13 (S_X11_outside _) q_X11_101 (hR _ _ (by decide)) (s_if_ne (pc := 16) X dX11_noSpending_16 (by decide) (s_iconst (pc := 31) X dX11_noSpending_31 rfl (s_goto (pc := 32) X dX11_noSpending_32 (by decide) (s_zret (pc := 36) X E hr dX11_noSpending_36))) (s_aload_n (pc := 19) X dX11_noSpending_19 rfl (s_getR (pc := 20) X dX11_noSpending_20 g_X11_46 (s_iload (pc := 23) X dX11_noSpending_23 (s_callV (pc := 25) X dX11_noSpending_25 (S_X0_judgeBy _) q_X11_214 h_25 rfl (hR _ _ (by decide)) (s_if_ne (pc := 28) X dX11_noSpending_28 (by decide) (s_iconst (pc := 35) X dX11_noSpending_35 rfl (s_zret (pc := 36) X E hr dX11_noSpending_36)) (s_iconst (pc := 31) X dX11_noSpending_31 rfl (s_goto (pc := 32) X dX11_noSpending_32 (by decide) (s_zret (pc := 36) X E hr dX11_noSpending_36)))))))))))))))))), fun _ h => absurd h List.not_mem_nil⟩)
theorem dX1_went_0 : decode cX1_went 0 = .ok (.aload_n 0, 1) := by decide +kernel
theorem dX1_went_1 : decode cX1_went 1 = .ok (.getfield 34, 3) := by decide +kernel
theorem dX1_went_4 : decode cX1_went 4 = .ok (.iload_n 1, 1) := by decide +kernel
theorem dX1_went_5 : decode cX1_went 5 = .ok (.iaload, 1) := by decide +kernel
theorem dX1_went_6 : decode cX1_went 6 = .ok (.aload_n 0, 1) := by decide +kernel
theorem dX1_went_7 : decode cX1_went 7 = .ok (.getfield 59, 3) := by decide +kernel
theorem dX1_went_10 : decode cX1_went 10 = .ok (.if_icmp .gt 16, 3) := by decide +kernel
theorem dX1_went_13 : decode cX1_went 13 = .ok (.aload_n 0, 1) := by decide +kernel
theorem dX1_went_14 : decode cX1_went 14 = .ok (.getfield 30, 3) := by decide +kernel
theorem dX1_went_17 : decode cX1_went 17 = .ok (.iload_n 1, 1) := by decide +kernel
theorem dX1_went_18 : decode cX1_went 18 = .ok (.baload, 1) := by decide +kernel
theorem dX1_went_19 : decode cX1_went 19 = .ok (.ifCond .ne 7, 3) := by decide +kernel
theorem dX1_went_22 : decode cX1_went 22 = .ok (.iconst 1, 1) := by decide +kernel
theorem dX1_went_23 : decode cX1_went 23 = .ok (.goto 4, 3) := by decide +kernel
theorem dX1_went_26 : decode cX1_went 26 = .ok (.iconst 0, 1) := by decide +kernel
theorem dX1_went_27 : decode cX1_went 27 = .ok (.ireturn, 1) := by decide +kernel
noncomputable def B_X1_went_0 : pb_C := (i_aload 0 (i_getR 5 13 (i_iload 1 (i_ald 13 200 (i_aload 0 (i_getI 5 19 (i_ic_gt (i_const (.int 0) i_zret) (i_aload 0 (i_getR 5 12 (i_iload 1 (i_ald 12 200 (i_if_ne (i_const (.int 0) i_zret) (i_const (.int 1) i_zret)))))))))))))
noncomputable def T_X1_went : Nat → pb_C := pb_tt [(0, B_X1_went_0)]
noncomputable def M_X1_went : pb_F := pb_M T_X1_went 2
set_option maxRecDepth 100000 in
set_option maxHeartbeats 4000000 in
theorem S_X1_went (l : Launch) : pb_Sound l yX1_went cX1_went 2 (some .boolean) 1 M_X1_went := by
  refine pb_sound_of (by decide) m_5_32 ?_
  intro Γ hl0 hRm0 hm X E hr J
  have hnL : ∀ j, j < 2 → j < Γ.2.2.2.2.2.2.2.2.2.2.2.1 := fun j h => by rw [hm]; exact h
  have hR : ∀ (d' mL : Nat), d' + 1 ≤ 1 ∧ 8 + (mL + 11) + d' * 64 ≤ 1 * 64 → (pb_rm d').frames + 1 ≤ Γ.2.2.2.1.frames ∧ 8 + (mL + 11) + (pb_rm d').locals ≤ Γ.2.2.2.1.locals := by rw [hRm0]; exact fun _ _ h => h
  have hRm : 1 ≤ 1 ∧ 64 ≤ 1 * 64 → 1 ≤ Γ.2.2.2.1.frames ∧ 64 ≤ Γ.2.2.2.1.locals := by rw [hRm0]; exact fun h => h
  exact pb_tt_snd _ (List.forall_mem_cons.mpr ⟨(s_aload_n (pc := 0) X dX1_went_0 rfl (s_getR (pc := 1) X dX1_went_1 g_X1_34 (s_iload_n (pc := 4) X dX1_went_4 rfl (s_iald (pc := 5) X dX1_went_5 h_13 (s_aload_n (pc := 6) X dX1_went_6 rfl (s_getI (pc := 7) X dX1_went_7 g_X1_59 (s_ic_gt (pc := 10) X dX1_went_10 (by decide) (s_iconst (pc := 26) X dX1_went_26 rfl (s_zret (pc := 27) X E hr dX1_went_27)) (s_aload_n (pc := 13) X dX1_went_13 rfl (s_getR (pc := 14) X dX1_went_14 g_X1_30 (s_iload_n (pc := 17) X dX1_went_17 rfl (s_zald (pc := 18) X dX1_went_18 h_12 (s_if_ne (pc := 19) X dX1_went_19 (by decide) (s_iconst (pc := 26) X dX1_went_26 rfl (s_zret (pc := 27) X E hr dX1_went_27)) (s_iconst (pc := 22) X dX1_went_22 rfl (s_goto (pc := 23) X dX1_went_23 (by decide) (s_zret (pc := 27) X E hr dX1_went_27))))))))))))))), fun _ h => absurd h List.not_mem_nil⟩)
theorem dX1_wentFrom__0 : decode cX1_wentFrom_ 0 = .ok (.aload_n 0, 1) := by decide +kernel
theorem dX1_wentFrom__1 : decode cX1_wentFrom_ 1 = .ok (.getfield 21, 3) := by decide +kernel
theorem dX1_wentFrom__4 : decode cX1_wentFrom_ 4 = .ok (.iload_n 1, 1) := by decide +kernel
theorem dX1_wentFrom__5 : decode cX1_wentFrom_ 5 = .ok (.iaload, 1) := by decide +kernel
theorem dX1_wentFrom__6 : decode cX1_wentFrom_ 6 = .ok (.iload_n 3, 1) := by decide +kernel
theorem dX1_wentFrom__7 : decode cX1_wentFrom_ 7 = .ok (.if_icmp .ne 25, 3) := by decide +kernel
theorem dX1_wentFrom__10 : decode cX1_wentFrom_ 10 = .ok (.aload_n 0, 1) := by decide +kernel
theorem dX1_wentFrom__11 : decode cX1_wentFrom_ 11 = .ok (.getfield 18, 3) := by decide +kernel
theorem dX1_wentFrom__14 : decode cX1_wentFrom_ 14 = .ok (.iload_n 1, 1) := by decide +kernel
theorem dX1_wentFrom__15 : decode cX1_wentFrom_ 15 = .ok (.iaload, 1) := by decide +kernel
theorem dX1_wentFrom__16 : decode cX1_wentFrom_ 16 = .ok (.iload_n 2, 1) := by decide +kernel
theorem dX1_wentFrom__17 : decode cX1_wentFrom_ 17 = .ok (.if_icmp .ne 15, 3) := by decide +kernel
theorem dX1_wentFrom__20 : decode cX1_wentFrom_ 20 = .ok (.aload_n 0, 1) := by decide +kernel
theorem dX1_wentFrom__21 : decode cX1_wentFrom_ 21 = .ok (.iload_n 1, 1) := by decide +kernel
theorem dX1_wentFrom__22 : decode cX1_wentFrom_ 22 = .ok (.invokevirtual 69, 3) := by decide +kernel
theorem dX1_wentFrom__25 : decode cX1_wentFrom_ 25 = .ok (.ifCond .eq 7, 3) := by decide +kernel
theorem dX1_wentFrom__28 : decode cX1_wentFrom_ 28 = .ok (.iconst 1, 1) := by decide +kernel
theorem dX1_wentFrom__29 : decode cX1_wentFrom_ 29 = .ok (.goto 4, 3) := by decide +kernel
theorem dX1_wentFrom__32 : decode cX1_wentFrom_ 32 = .ok (.iconst 0, 1) := by decide +kernel
theorem dX1_wentFrom__33 : decode cX1_wentFrom_ 33 = .ok (.ireturn, 1) := by decide +kernel
noncomputable def B_X1_wentFrom__0 : pb_C := (i_aload 0 (i_getR 5 9 (i_iload 1 (i_ald 9 200 (i_iload 3 (i_ic_ne (i_const (.int 0) i_zret) (i_aload 0 (i_getR 5 8 (i_iload 1 (i_ald 8 200 (i_iload 2 (i_ic_ne (i_const (.int 0) i_zret) (i_aload 0 (i_iload 1 (i_callV 5 1 1 M_X1_went (i_if_eq (i_const (.int 0) i_zret) (i_const (.int 1) i_zret)))))))))))))))))
noncomputable def T_X1_wentFrom_ : Nat → pb_C := pb_tt [(0, B_X1_wentFrom__0)]
noncomputable def M_X1_wentFrom_ : pb_F := pb_M T_X1_wentFrom_ 4
set_option maxRecDepth 100000 in
set_option maxHeartbeats 4000000 in
theorem S_X1_wentFrom_ (l : Launch) : pb_Sound l yX1_wentFrom_ cX1_wentFrom_ 4 (some .boolean) 2 M_X1_wentFrom_ := by
  refine pb_sound_of (by decide) m_5_28 ?_
  intro Γ hl0 hRm0 hm X E hr J
  have hnL : ∀ j, j < 4 → j < Γ.2.2.2.2.2.2.2.2.2.2.2.1 := fun j h => by rw [hm]; exact h
  have hR : ∀ (d' mL : Nat), d' + 1 ≤ 2 ∧ 8 + (mL + 11) + d' * 64 ≤ 2 * 64 → (pb_rm d').frames + 1 ≤ Γ.2.2.2.1.frames ∧ 8 + (mL + 11) + (pb_rm d').locals ≤ Γ.2.2.2.1.locals := by rw [hRm0]; exact fun _ _ h => h
  have hRm : 1 ≤ 2 ∧ 64 ≤ 2 * 64 → 1 ≤ Γ.2.2.2.1.frames ∧ 64 ≤ Γ.2.2.2.1.locals := by rw [hRm0]; exact fun h => h
  exact pb_tt_snd _ (List.forall_mem_cons.mpr ⟨(s_aload_n (pc := 0) X dX1_wentFrom__0 rfl (s_getR (pc := 1) X dX1_wentFrom__1 g_X1_21 (s_iload_n (pc := 4) X dX1_wentFrom__4 rfl (s_iald (pc := 5) X dX1_wentFrom__5 h_9 (s_iload_n (pc := 6) X dX1_wentFrom__6 rfl (s_ic_ne (pc := 7) X dX1_wentFrom__7 (by decide) (s_iconst (pc := 32) X dX1_wentFrom__32 rfl (s_zret (pc := 33) X E hr dX1_wentFrom__33)) (s_aload_n (pc := 10) X dX1_wentFrom__10 rfl (s_getR (pc := 11) X dX1_wentFrom__11 g_X1_18 (s_iload_n (pc := 14) X dX1_wentFrom__14 rfl (s_iald (pc := 15) X dX1_wentFrom__15 h_8 (s_iload_n (pc := 16) X dX1_wentFrom__16 rfl (s_ic_ne (pc := 17) X dX1_wentFrom__17 (by decide) (s_iconst (pc := 32) X dX1_wentFrom__32 rfl (s_zret (pc := 33) X E hr dX1_wentFrom__33)) (s_aload_n (pc := 20) X dX1_wentFrom__20 rfl (s_iload_n (pc := 21) X dX1_wentFrom__21 rfl (s_callV (pc := 22) X dX1_wentFrom__22 (S_X1_went _) q_X1_69 h_5 rfl (hR _ _ (by decide)) (s_if_eq (pc := 25) X dX1_wentFrom__25 (by decide) (s_iconst (pc := 32) X dX1_wentFrom__32 rfl (s_zret (pc := 33) X E hr dX1_wentFrom__33)) (s_iconst (pc := 28) X dX1_wentFrom__28 rfl (s_goto (pc := 29) X dX1_wentFrom__29 (by decide) (s_zret (pc := 33) X E hr dX1_wentFrom__33))))))))))))))))))), fun _ h => absurd h List.not_mem_nil⟩)
theorem dX0_isOn_0 : decode cX0_isOn 0 = .ok (.iload_n 2, 1) := by decide +kernel
theorem dX0_isOn_1 : decode cX0_isOn 1 = .ok (.iconst (-1), 1) := by decide +kernel
theorem dX0_isOn_2 : decode cX0_isOn 2 = .ok (.if_icmp .eq 13, 3) := by decide +kernel
theorem dX0_isOn_5 : decode cX0_isOn 5 = .ok (.aload_n 0, 1) := by decide +kernel
theorem dX0_isOn_6 : decode cX0_isOn 6 = .ok (.iload_n 1, 1) := by decide +kernel
theorem dX0_isOn_7 : decode cX0_isOn 7 = .ok (.iload_n 3, 1) := by decide +kernel
theorem dX0_isOn_8 : decode cX0_isOn 8 = .ok (.invokevirtual 67, 3) := by decide +kernel
theorem dX0_isOn_11 : decode cX0_isOn 11 = .ok (.iload_n 2, 1) := by decide +kernel
theorem dX0_isOn_12 : decode cX0_isOn 12 = .ok (.if_icmp .ne 7, 3) := by decide +kernel
theorem dX0_isOn_15 : decode cX0_isOn 15 = .ok (.iconst 1, 1) := by decide +kernel
theorem dX0_isOn_16 : decode cX0_isOn 16 = .ok (.goto 4, 3) := by decide +kernel
theorem dX0_isOn_19 : decode cX0_isOn 19 = .ok (.iconst 0, 1) := by decide +kernel
theorem dX0_isOn_20 : decode cX0_isOn 20 = .ok (.ireturn, 1) := by decide +kernel
noncomputable def B_X0_isOn_0 : pb_C := (i_iload 2 (i_const (.int (-1)) (i_ic_eq (i_const (.int 1) i_zret) (i_aload 0 (i_iload 1 (i_iload 3 (i_callV 25 2 1 M_X0_kindOf (i_iload 2 (i_ic_ne (i_const (.int 0) i_zret) (i_const (.int 1) i_zret))))))))))
noncomputable def T_X0_isOn : Nat → pb_C := pb_tt [(0, B_X0_isOn_0)]
noncomputable def M_X0_isOn : pb_F := pb_M T_X0_isOn 4
set_option maxRecDepth 100000 in
set_option maxHeartbeats 4000000 in
theorem S_X0_isOn (l : Launch) : pb_Sound l yX0_isOn cX0_isOn 4 (some .boolean) 2 M_X0_isOn := by
  refine pb_sound_of (by decide) m_5_36 ?_
  intro Γ hl0 hRm0 hm X E hr J
  have hnL : ∀ j, j < 4 → j < Γ.2.2.2.2.2.2.2.2.2.2.2.1 := fun j h => by rw [hm]; exact h
  have hR : ∀ (d' mL : Nat), d' + 1 ≤ 2 ∧ 8 + (mL + 11) + d' * 64 ≤ 2 * 64 → (pb_rm d').frames + 1 ≤ Γ.2.2.2.1.frames ∧ 8 + (mL + 11) + (pb_rm d').locals ≤ Γ.2.2.2.1.locals := by rw [hRm0]; exact fun _ _ h => h
  have hRm : 1 ≤ 2 ∧ 64 ≤ 2 * 64 → 1 ≤ Γ.2.2.2.1.frames ∧ 64 ≤ Γ.2.2.2.1.locals := by rw [hRm0]; exact fun h => h
  exact pb_tt_snd _ (List.forall_mem_cons.mpr ⟨(s_iload_n (pc := 0) X dX0_isOn_0 rfl (s_iconst (pc := 1) X dX0_isOn_1 rfl (s_ic_eq (pc := 2) X dX0_isOn_2 (by decide) (s_iconst (pc := 15) X dX0_isOn_15 rfl (s_goto (pc := 16) X dX0_isOn_16 (by decide) (s_zret (pc := 20) X E hr dX0_isOn_20))) (s_aload_n (pc := 5) X dX0_isOn_5 rfl (s_iload_n (pc := 6) X dX0_isOn_6 rfl (s_iload_n (pc := 7) X dX0_isOn_7 rfl (s_callV (pc := 8) X dX0_isOn_8 (S_X0_kindOf _) q_X0_67 h_25 rfl (hR _ _ (by decide)) (s_iload_n (pc := 11) X dX0_isOn_11 rfl (s_ic_ne (pc := 12) X dX0_isOn_12 (by decide) (s_iconst (pc := 19) X dX0_isOn_19 rfl (s_zret (pc := 20) X E hr dX0_isOn_20)) (s_iconst (pc := 15) X dX0_isOn_15 rfl (s_goto (pc := 16) X dX0_isOn_16 (by decide) (s_zret (pc := 20) X E hr dX0_isOn_20)))))))))))), fun _ h => absurd h List.not_mem_nil⟩)
theorem dX0_spentOn_0 : decode cX0_spentOn 0 = .ok (.iconst 0, 1) := by decide +kernel
theorem dX0_spentOn_1 : decode cX0_spentOn 1 = .ok (.istore 5, 2) := by decide +kernel
theorem dX0_spentOn_3 : decode cX0_spentOn 3 = .ok (.iconst 0, 1) := by decide +kernel
theorem dX0_spentOn_4 : decode cX0_spentOn 4 = .ok (.istore 6, 2) := by decide +kernel
theorem dX0_spentOn_6 : decode cX0_spentOn 6 = .ok (.iload 6, 2) := by decide +kernel
theorem dX0_spentOn_8 : decode cX0_spentOn 8 = .ok (.aload_n 0, 1) := by decide +kernel
theorem dX0_spentOn_9 : decode cX0_spentOn 9 = .ok (.getfield 28, 3) := by decide +kernel
theorem dX0_spentOn_12 : decode cX0_spentOn 12 = .ok (.getfield 46, 3) := by decide +kernel
theorem dX0_spentOn_15 : decode cX0_spentOn 15 = .ok (.if_icmp .ge 50, 3) := by decide +kernel
theorem dX0_spentOn_18 : decode cX0_spentOn 18 = .ok (.aload_n 0, 1) := by decide +kernel
theorem dX0_spentOn_19 : decode cX0_spentOn 19 = .ok (.getfield 28, 3) := by decide +kernel
theorem dX0_spentOn_22 : decode cX0_spentOn 22 = .ok (.iload 6, 2) := by decide +kernel
theorem dX0_spentOn_24 : decode cX0_spentOn 24 = .ok (.iload_n 1, 1) := by decide +kernel
theorem dX0_spentOn_25 : decode cX0_spentOn 25 = .ok (.iload_n 2, 1) := by decide +kernel
theorem dX0_spentOn_26 : decode cX0_spentOn 26 = .ok (.invokevirtual 70, 3) := by decide +kernel
theorem dX0_spentOn_29 : decode cX0_spentOn 29 = .ok (.ifCond .eq 30, 3) := by decide +kernel
theorem dX0_spentOn_32 : decode cX0_spentOn 32 = .ok (.aload_n 0, 1) := by decide +kernel
theorem dX0_spentOn_33 : decode cX0_spentOn 33 = .ok (.iload 6, 2) := by decide +kernel
theorem dX0_spentOn_35 : decode cX0_spentOn 35 = .ok (.iload_n 3, 1) := by decide +kernel
theorem dX0_spentOn_36 : decode cX0_spentOn 36 = .ok (.iload 4, 2) := by decide +kernel
theorem dX0_spentOn_38 : decode cX0_spentOn 38 = .ok (.invokevirtual 73, 3) := by decide +kernel
theorem dX0_spentOn_41 : decode cX0_spentOn 41 = .ok (.ifCond .eq 18, 3) := by decide +kernel
theorem dX0_spentOn_44 : decode cX0_spentOn 44 = .ok (.iload 5, 2) := by decide +kernel
theorem dX0_spentOn_46 : decode cX0_spentOn 46 = .ok (.aload_n 0, 1) := by decide +kernel
theorem dX0_spentOn_47 : decode cX0_spentOn 47 = .ok (.getfield 28, 3) := by decide +kernel
theorem dX0_spentOn_50 : decode cX0_spentOn 50 = .ok (.getfield 51, 3) := by decide +kernel
theorem dX0_spentOn_53 : decode cX0_spentOn 53 = .ok (.iload 6, 2) := by decide +kernel
theorem dX0_spentOn_55 : decode cX0_spentOn 55 = .ok (.iaload, 1) := by decide +kernel
theorem dX0_spentOn_56 : decode cX0_spentOn 56 = .ok (.iadd, 1) := by decide +kernel
theorem dX0_spentOn_57 : decode cX0_spentOn 57 = .ok (.istore 5, 2) := by decide +kernel
theorem dX0_spentOn_59 : decode cX0_spentOn 59 = .ok (.iinc 6 1, 3) := by decide +kernel
theorem dX0_spentOn_62 : decode cX0_spentOn 62 = .ok (.goto (-56), 3) := by decide +kernel
theorem dX0_spentOn_65 : decode cX0_spentOn 65 = .ok (.iload 5, 2) := by decide +kernel
theorem dX0_spentOn_67 : decode cX0_spentOn 67 = .ok (.ireturn, 1) := by decide +kernel
noncomputable def B_X0_spentOn_0 : pb_C := (i_const (.int 0) (i_istore 5 (i_const (.int 0) (i_istore 6 (i_jmp 6 [true, true, true, true, true, true, true])))))
noncomputable def B_X0_spentOn_6 : pb_C := (i_iload 6 (i_aload 0 (i_getR 25 5 (i_getI 5 3 (i_ic_ge (i_iload 5 i_iret) (i_aload 0 (i_getR 25 5 (i_iload 6 (i_iload 1 (i_iload 2 (i_callV 5 3 1 M_X1_wentFrom_ (i_if_eq (i_iinc 6 1 (i_jmp 6 [true, true, true, true, true, true, true])) (i_aload 0 (i_iload 6 (i_iload 3 (i_iload 4 (i_callV 25 3 1 M_X0_isOn (i_if_eq (i_iinc 6 1 (i_jmp 6 [true, true, true, true, true, true, true])) (i_iload 5 (i_aload 0 (i_getR 25 5 (i_getR 5 16 (i_iload 6 (i_ald 16 200 (i_ibin (· + ·) (i_istore 5 (i_iinc 6 1 (i_jmp 6 [true, true, true, true, true, true, true]))))))))))))))))))))))))))))
noncomputable def T_X0_spentOn : Nat → pb_C := pb_tt [(0, B_X0_spentOn_0), (6, B_X0_spentOn_6)]
noncomputable def M_X0_spentOn : pb_F := pb_M T_X0_spentOn 7
set_option maxRecDepth 100000 in
set_option maxHeartbeats 4000000 in
theorem S_X0_spentOn (l : Launch) : pb_Sound l yX0_spentOn cX0_spentOn 7 (some .int) 3 M_X0_spentOn := by
  refine pb_sound_of (by decide) m_5_24 ?_
  intro Γ hl0 hRm0 hm X E hr J
  have hnL : ∀ j, j < 7 → j < Γ.2.2.2.2.2.2.2.2.2.2.2.1 := fun j h => by rw [hm]; exact h
  have hR : ∀ (d' mL : Nat), d' + 1 ≤ 3 ∧ 8 + (mL + 11) + d' * 64 ≤ 3 * 64 → (pb_rm d').frames + 1 ≤ Γ.2.2.2.1.frames ∧ 8 + (mL + 11) + (pb_rm d').locals ≤ Γ.2.2.2.1.locals := by rw [hRm0]; exact fun _ _ h => h
  have hRm : 1 ≤ 3 ∧ 64 ≤ 3 * 64 → 1 ≤ Γ.2.2.2.1.frames ∧ 64 ≤ Γ.2.2.2.1.locals := by rw [hRm0]; exact fun h => h
  exact pb_tt_snd _ (List.forall_mem_cons.mpr ⟨(s_iconst (pc := 0) X dX0_spentOn_0 rfl (s_istore (pc := 1) X dX0_spentOn_1 (hnL _ (by decide)) (s_iconst (pc := 3) X dX0_spentOn_3 rfl (s_istore (pc := 4) X dX0_spentOn_4 (hnL _ (by decide)) (s_jmp (pc := 6) J [true, true, true, true, true, true, true]))))), List.forall_mem_cons.mpr ⟨(s_iload (pc := 6) X dX0_spentOn_6 (s_aload_n (pc := 8) X dX0_spentOn_8 rfl (s_getR (pc := 9) X dX0_spentOn_9 g_X0_28 (s_getI (pc := 12) X dX0_spentOn_12 g_X0_46 (s_ic_ge (pc := 15) X dX0_spentOn_15 (by decide) (s_iload (pc := 65) X dX0_spentOn_65 (s_iret (pc := 67) X E hr dX0_spentOn_67)) (s_aload_n (pc := 18) X dX0_spentOn_18 rfl (s_getR (pc := 19) X dX0_spentOn_19 g_X0_28 (s_iload (pc := 22) X dX0_spentOn_22 (s_iload_n (pc := 24) X dX0_spentOn_24 rfl (s_iload_n (pc := 25) X dX0_spentOn_25 rfl (s_callV (pc := 26) X dX0_spentOn_26 (S_X1_wentFrom_ _) q_X0_70 h_5 rfl (hR _ _ (by decide)) (s_if_eq (pc := 29) X dX0_spentOn_29 (by decide) (s_iinc (pc := 59) X dX0_spentOn_59 rfl (s_goto (pc := 62) X dX0_spentOn_62 (by decide) (s_jmp (pc := 6) J [true, true, true, true, true, true, true]))) (s_aload_n (pc := 32) X dX0_spentOn_32 rfl (s_iload (pc := 33) X dX0_spentOn_33 (s_iload_n (pc := 35) X dX0_spentOn_35 rfl (s_iload (pc := 36) X dX0_spentOn_36 (s_callV (pc := 38) X dX0_spentOn_38 (S_X0_isOn _) q_X0_73 h_25 rfl (hR _ _ (by decide)) (s_if_eq (pc := 41) X dX0_spentOn_41 (by decide) (s_iinc (pc := 59) X dX0_spentOn_59 rfl (s_goto (pc := 62) X dX0_spentOn_62 (by decide) (s_jmp (pc := 6) J [true, true, true, true, true, true, true]))) (s_iload (pc := 44) X dX0_spentOn_44 (s_aload_n (pc := 46) X dX0_spentOn_46 rfl (s_getR (pc := 47) X dX0_spentOn_47 g_X0_28 (s_getR (pc := 50) X dX0_spentOn_50 g_X0_51 (s_iload (pc := 53) X dX0_spentOn_53 (s_iald (pc := 55) X dX0_spentOn_55 h_16 (s_iadd (pc := 56) X dX0_spentOn_56 (s_istore (pc := 57) X dX0_spentOn_57 (hnL _ (by decide)) (s_iinc (pc := 59) X dX0_spentOn_59 rfl (s_goto (pc := 62) X dX0_spentOn_62 (by decide) (s_jmp (pc := 6) J [true, true, true, true, true, true, true]))))))))))))))))))))))))))))), fun _ h => absurd h List.not_mem_nil⟩⟩)
theorem dX11_spent_0 : decode cX11_spent 0 = .ok (.aload_n 0, 1) := by decide +kernel
theorem dX11_spent_1 : decode cX11_spent 1 = .ok (.aload_n 0, 1) := by decide +kernel
theorem dX11_spent_2 : decode cX11_spent 2 = .ok (.iload_n 1, 1) := by decide +kernel
theorem dX11_spent_3 : decode cX11_spent 3 = .ok (.iload_n 2, 1) := by decide +kernel
theorem dX11_spent_4 : decode cX11_spent 4 = .ok (.iload_n 3, 1) := by decide +kernel
theorem dX11_spent_5 : decode cX11_spent 5 = .ok (.iload 4, 2) := by decide +kernel
theorem dX11_spent_7 : decode cX11_spent 7 = .ok (.invokevirtual 232, 3) := by decide +kernel
theorem dX11_spent_10 : decode cX11_spent 10 = .ok (.ifCond .eq 7, 3) := by decide +kernel
theorem dX11_spent_13 : decode cX11_spent 13 = .ok (.iconst 1, 1) := by decide +kernel
theorem dX11_spent_14 : decode cX11_spent 14 = .ok (.goto 4, 3) := by decide +kernel
theorem dX11_spent_17 : decode cX11_spent 17 = .ok (.iconst 0, 1) := by decide +kernel
theorem dX11_spent_18 : decode cX11_spent 18 = .ok (.putfield 9, 3) := by decide +kernel
theorem dX11_spent_21 : decode cX11_spent 21 = .ok (.aload_n 0, 1) := by decide +kernel
theorem dX11_spent_22 : decode cX11_spent 22 = .ok (.getfield 9, 3) := by decide +kernel
theorem dX11_spent_25 : decode cX11_spent 25 = .ok (.ifCond .ne 18, 3) := by decide +kernel
theorem dX11_spent_28 : decode cX11_spent 28 = .ok (.aload_n 0, 1) := by decide +kernel
theorem dX11_spent_29 : decode cX11_spent 29 = .ok (.getfield 46, 3) := by decide +kernel
theorem dX11_spent_32 : decode cX11_spent 32 = .ok (.iload_n 1, 1) := by decide +kernel
theorem dX11_spent_33 : decode cX11_spent 33 = .ok (.iload_n 2, 1) := by decide +kernel
theorem dX11_spent_34 : decode cX11_spent 34 = .ok (.iload_n 3, 1) := by decide +kernel
theorem dX11_spent_35 : decode cX11_spent 35 = .ok (.iload 4, 2) := by decide +kernel
theorem dX11_spent_37 : decode cX11_spent 37 = .ok (.invokevirtual 236, 3) := by decide +kernel
theorem dX11_spent_40 : decode cX11_spent 40 = .ok (.goto 4, 3) := by decide +kernel
theorem dX11_spent_43 : decode cX11_spent 43 = .ok (.iconst (-1), 1) := by decide +kernel
theorem dX11_spent_44 : decode cX11_spent 44 = .ok (.ireturn, 1) := by decide +kernel
noncomputable def B_X11_spent_0 : pb_C := (i_aload 0 (i_aload 0 (i_iload 1 (i_iload 2 (i_iload 3 (i_iload 4 (i_callV 0 4 1 M_X11_noSpending (i_if_eq (i_const (.int 0) (i_jmp 18 [true, true, true, true, true])) (i_const (.int 1) (i_jmp 18 [true, true, true, true, true]))))))))))
noncomputable def B_X11_spent_18 : pb_C := (i_putI 0 0 (i_aload 0 (i_getI 0 0 (i_if_ne (i_const (.int (-1)) i_iret) (i_aload 0 (i_getR 0 25 (i_iload 1 (i_iload 2 (i_iload 3 (i_iload 4 (i_callV 25 4 1 M_X0_spentOn i_iret)))))))))))
noncomputable def T_X11_spent : Nat → pb_C := pb_tt [(0, B_X11_spent_0), (18, B_X11_spent_18)]
noncomputable def M_X11_spent : pb_F := pb_M T_X11_spent 5
set_option maxRecDepth 100000 in
set_option maxHeartbeats 4000000 in
theorem S_X11_spent (l : Launch) : pb_Sound l yX11_spent cX11_spent 5 (some .int) 6 M_X11_spent := by
  refine pb_sound_of (by decide) m_5_16 ?_
  intro Γ hl0 hRm0 hm X E hr J
  have hnL : ∀ j, j < 5 → j < Γ.2.2.2.2.2.2.2.2.2.2.2.1 := fun j h => by rw [hm]; exact h
  have hR : ∀ (d' mL : Nat), d' + 1 ≤ 6 ∧ 8 + (mL + 11) + d' * 64 ≤ 6 * 64 → (pb_rm d').frames + 1 ≤ Γ.2.2.2.1.frames ∧ 8 + (mL + 11) + (pb_rm d').locals ≤ Γ.2.2.2.1.locals := by rw [hRm0]; exact fun _ _ h => h
  have hRm : 1 ≤ 6 ∧ 64 ≤ 6 * 64 → 1 ≤ Γ.2.2.2.1.frames ∧ 64 ≤ Γ.2.2.2.1.locals := by rw [hRm0]; exact fun h => h
  exact pb_tt_snd _ (List.forall_mem_cons.mpr ⟨(s_aload_n (pc := 0) X dX11_spent_0 rfl (s_aload_n (pc := 1) X dX11_spent_1 rfl (s_iload_n (pc := 2) X dX11_spent_2 rfl (s_iload_n (pc := 3) X dX11_spent_3 rfl (s_iload_n (pc := 4) X dX11_spent_4 rfl (s_iload (pc := 5) X dX11_spent_5 (s_callV (pc := 7) X dX11_spent_7 (S_X11_noSpending _) q_X11_232 h_0 rfl (hR _ _ (by decide)) (s_if_eq (pc := 10) X dX11_spent_10 (by decide) (s_iconst (pc := 17) X dX11_spent_17 rfl (s_jmp (pc := 18) J [true, true, true, true, true])) (s_iconst (pc := 13) X dX11_spent_13 rfl (s_goto (pc := 14) X dX11_spent_14 (by decide) (s_jmp (pc := 18) J [true, true, true, true, true]))))))))))), List.forall_mem_cons.mpr ⟨(s_putI (pc := 18) X dX11_spent_18 p_X11_9 (s_aload_n (pc := 21) X dX11_spent_21 rfl (s_getI (pc := 22) X dX11_spent_22 g_X11_9 (s_if_ne (pc := 25) X dX11_spent_25 (by decide) (s_iconst (pc := 43) X dX11_spent_43 rfl (s_iret (pc := 44) X E hr dX11_spent_44)) (s_aload_n (pc := 28) X dX11_spent_28 rfl (s_getR (pc := 29) X dX11_spent_29 g_X11_46 (s_iload_n (pc := 32) X dX11_spent_32 rfl (s_iload_n (pc := 33) X dX11_spent_33 rfl (s_iload_n (pc := 34) X dX11_spent_34 rfl (s_iload (pc := 35) X dX11_spent_35 (s_callV (pc := 37) X dX11_spent_37 (S_X0_spentOn _) q_X11_236 h_25 rfl (hR _ _ (by decide)) (s_goto (pc := 40) X dX11_spent_40 (by decide) (s_iret (pc := 44) X E hr dX11_spent_44))))))))))))), fun _ h => absurd h List.not_mem_nil⟩⟩)
theorem dX6_find_0 : decode cX6_find 0 = .ok (.iconst 0, 1) := by decide +kernel
theorem dX6_find_1 : decode cX6_find 1 = .ok (.istore_n 3, 1) := by decide +kernel
theorem dX6_find_2 : decode cX6_find 2 = .ok (.iload_n 3, 1) := by decide +kernel
theorem dX6_find_3 : decode cX6_find 3 = .ok (.aload_n 0, 1) := by decide +kernel
theorem dX6_find_4 : decode cX6_find 4 = .ok (.getfield 37, 3) := by decide +kernel
theorem dX6_find_7 : decode cX6_find 7 = .ok (.if_icmp .ge 31, 3) := by decide +kernel
theorem dX6_find_10 : decode cX6_find 10 = .ok (.aload_n 0, 1) := by decide +kernel
theorem dX6_find_11 : decode cX6_find 11 = .ok (.getfield 11, 3) := by decide +kernel
theorem dX6_find_14 : decode cX6_find 14 = .ok (.iload_n 3, 1) := by decide +kernel
theorem dX6_find_15 : decode cX6_find 15 = .ok (.iaload, 1) := by decide +kernel
theorem dX6_find_16 : decode cX6_find 16 = .ok (.iload_n 1, 1) := by decide +kernel
theorem dX6_find_17 : decode cX6_find 17 = .ok (.if_icmp .ne 15, 3) := by decide +kernel
theorem dX6_find_20 : decode cX6_find 20 = .ok (.aload_n 0, 1) := by decide +kernel
theorem dX6_find_21 : decode cX6_find 21 = .ok (.getfield 15, 3) := by decide +kernel
theorem dX6_find_24 : decode cX6_find 24 = .ok (.iload_n 3, 1) := by decide +kernel
theorem dX6_find_25 : decode cX6_find 25 = .ok (.iaload, 1) := by decide +kernel
theorem dX6_find_26 : decode cX6_find 26 = .ok (.iload_n 2, 1) := by decide +kernel
theorem dX6_find_27 : decode cX6_find 27 = .ok (.if_icmp .ne 5, 3) := by decide +kernel
theorem dX6_find_30 : decode cX6_find 30 = .ok (.iload_n 3, 1) := by decide +kernel
theorem dX6_find_31 : decode cX6_find 31 = .ok (.ireturn, 1) := by decide +kernel
theorem dX6_find_32 : decode cX6_find 32 = .ok (.iinc 3 1, 3) := by decide +kernel
theorem dX6_find_35 : decode cX6_find 35 = .ok (.goto (-33), 3) := by decide +kernel
theorem dX6_find_38 : decode cX6_find 38 = .ok (.iconst (-1), 1) := by decide +kernel
theorem dX6_find_39 : decode cX6_find 39 = .ok (.ireturn, 1) := by decide +kernel
noncomputable def B_X6_find_0 : pb_C := (i_const (.int 0) (i_istore 3 (i_jmp 2 [true, true, true, true])))
noncomputable def B_X6_find_2 : pb_C := (i_iload 3 (i_aload 0 (i_getI 31 1 (i_ic_ge (i_const (.int (-1)) i_iret) (i_aload 0 (i_getR 31 32 (i_iload 3 (i_ald 32 40 (i_iload 1 (i_ic_ne (i_iinc 3 1 (i_jmp 2 [true, true, true, true])) (i_aload 0 (i_getR 31 33 (i_iload 3 (i_ald 33 40 (i_iload 2 (i_ic_ne (i_iinc 3 1 (i_jmp 2 [true, true, true, true])) (i_iload 3 i_iret)))))))))))))))))
noncomputable def T_X6_find : Nat → pb_C := pb_tt [(0, B_X6_find_0), (2, B_X6_find_2)]
noncomputable def M_X6_find : pb_F := pb_M T_X6_find 4
set_option maxRecDepth 100000 in
set_option maxHeartbeats 4000000 in
theorem S_X6_find (l : Launch) : pb_Sound l yX6_find cX6_find 4 (some .int) 1 M_X6_find := by
  refine pb_sound_of (by decide) m_5_53 ?_
  intro Γ hl0 hRm0 hm X E hr J
  have hnL : ∀ j, j < 4 → j < Γ.2.2.2.2.2.2.2.2.2.2.2.1 := fun j h => by rw [hm]; exact h
  have hR : ∀ (d' mL : Nat), d' + 1 ≤ 1 ∧ 8 + (mL + 11) + d' * 64 ≤ 1 * 64 → (pb_rm d').frames + 1 ≤ Γ.2.2.2.1.frames ∧ 8 + (mL + 11) + (pb_rm d').locals ≤ Γ.2.2.2.1.locals := by rw [hRm0]; exact fun _ _ h => h
  have hRm : 1 ≤ 1 ∧ 64 ≤ 1 * 64 → 1 ≤ Γ.2.2.2.1.frames ∧ 64 ≤ Γ.2.2.2.1.locals := by rw [hRm0]; exact fun h => h
  exact pb_tt_snd _ (List.forall_mem_cons.mpr ⟨(s_iconst (pc := 0) X dX6_find_0 rfl (s_istore_n (pc := 1) X dX6_find_1 rfl (hnL _ (by decide)) (s_jmp (pc := 2) J [true, true, true, true]))), List.forall_mem_cons.mpr ⟨(s_iload_n (pc := 2) X dX6_find_2 rfl (s_aload_n (pc := 3) X dX6_find_3 rfl (s_getI (pc := 4) X dX6_find_4 g_X6_37 (s_ic_ge (pc := 7) X dX6_find_7 (by decide) (s_iconst (pc := 38) X dX6_find_38 rfl (s_iret (pc := 39) X E hr dX6_find_39)) (s_aload_n (pc := 10) X dX6_find_10 rfl (s_getR (pc := 11) X dX6_find_11 g_X6_11 (s_iload_n (pc := 14) X dX6_find_14 rfl (s_iald (pc := 15) X dX6_find_15 h_32 (s_iload_n (pc := 16) X dX6_find_16 rfl (s_ic_ne (pc := 17) X dX6_find_17 (by decide) (s_iinc (pc := 32) X dX6_find_32 rfl (s_goto (pc := 35) X dX6_find_35 (by decide) (s_jmp (pc := 2) J [true, true, true, true]))) (s_aload_n (pc := 20) X dX6_find_20 rfl (s_getR (pc := 21) X dX6_find_21 g_X6_15 (s_iload_n (pc := 24) X dX6_find_24 rfl (s_iald (pc := 25) X dX6_find_25 h_33 (s_iload_n (pc := 26) X dX6_find_26 rfl (s_ic_ne (pc := 27) X dX6_find_27 (by decide) (s_iinc (pc := 32) X dX6_find_32 rfl (s_goto (pc := 35) X dX6_find_35 (by decide) (s_jmp (pc := 2) J [true, true, true, true]))) (s_iload_n (pc := 30) X dX6_find_30 rfl (s_iret (pc := 31) X E hr dX6_find_31)))))))))))))))))), fun _ h => absurd h List.not_mem_nil⟩⟩)
theorem dX6_isTold_0 : decode cX6_isTold 0 = .ok (.aload_n 0, 1) := by decide +kernel
theorem dX6_isTold_1 : decode cX6_isTold 1 = .ok (.iload_n 1, 1) := by decide +kernel
theorem dX6_isTold_2 : decode cX6_isTold 2 = .ok (.iload_n 2, 1) := by decide +kernel
theorem dX6_isTold_3 : decode cX6_isTold 3 = .ok (.invokevirtual 41, 3) := by decide +kernel
theorem dX6_isTold_6 : decode cX6_isTold 6 = .ok (.iconst (-1), 1) := by decide +kernel
theorem dX6_isTold_7 : decode cX6_isTold 7 = .ok (.if_icmp .eq 7, 3) := by decide +kernel
theorem dX6_isTold_10 : decode cX6_isTold 10 = .ok (.iconst 1, 1) := by decide +kernel
theorem dX6_isTold_11 : decode cX6_isTold 11 = .ok (.goto 4, 3) := by decide +kernel
theorem dX6_isTold_14 : decode cX6_isTold 14 = .ok (.iconst 0, 1) := by decide +kernel
theorem dX6_isTold_15 : decode cX6_isTold 15 = .ok (.ireturn, 1) := by decide +kernel
noncomputable def B_X6_isTold_0 : pb_C := (i_aload 0 (i_iload 1 (i_iload 2 (i_callV 31 2 1 M_X6_find (i_const (.int (-1)) (i_ic_eq (i_const (.int 0) i_zret) (i_const (.int 1) i_zret)))))))
noncomputable def T_X6_isTold : Nat → pb_C := pb_tt [(0, B_X6_isTold_0)]
noncomputable def M_X6_isTold : pb_F := pb_M T_X6_isTold 3
set_option maxRecDepth 100000 in
set_option maxHeartbeats 4000000 in
theorem S_X6_isTold (l : Launch) : pb_Sound l yX6_isTold cX6_isTold 3 (some .boolean) 2 M_X6_isTold := by
  refine pb_sound_of (by decide) m_5_49 ?_
  intro Γ hl0 hRm0 hm X E hr J
  have hnL : ∀ j, j < 3 → j < Γ.2.2.2.2.2.2.2.2.2.2.2.1 := fun j h => by rw [hm]; exact h
  have hR : ∀ (d' mL : Nat), d' + 1 ≤ 2 ∧ 8 + (mL + 11) + d' * 64 ≤ 2 * 64 → (pb_rm d').frames + 1 ≤ Γ.2.2.2.1.frames ∧ 8 + (mL + 11) + (pb_rm d').locals ≤ Γ.2.2.2.1.locals := by rw [hRm0]; exact fun _ _ h => h
  have hRm : 1 ≤ 2 ∧ 64 ≤ 2 * 64 → 1 ≤ Γ.2.2.2.1.frames ∧ 64 ≤ Γ.2.2.2.1.locals := by rw [hRm0]; exact fun h => h
  exact pb_tt_snd _ (List.forall_mem_cons.mpr ⟨(s_aload_n (pc := 0) X dX6_isTold_0 rfl (s_iload_n (pc := 1) X dX6_isTold_1 rfl (s_iload_n (pc := 2) X dX6_isTold_2 rfl (s_callV (pc := 3) X dX6_isTold_3 (S_X6_find _) q_X6_41 h_31 rfl (hR _ _ (by decide)) (s_iconst (pc := 6) X dX6_isTold_6 rfl (s_ic_eq (pc := 7) X dX6_isTold_7 (by decide) (s_iconst (pc := 14) X dX6_isTold_14 rfl (s_zret (pc := 15) X E hr dX6_isTold_15)) (s_iconst (pc := 10) X dX6_isTold_10 rfl (s_goto (pc := 11) X dX6_isTold_11 (by decide) (s_zret (pc := 15) X E hr dX6_isTold_15))))))))), fun _ h => absurd h List.not_mem_nil⟩)
theorem dX6_hasRoom_0 : decode cX6_hasRoom 0 = .ok (.aload_n 0, 1) := by decide +kernel
theorem dX6_hasRoom_1 : decode cX6_hasRoom 1 = .ok (.getfield 37, 3) := by decide +kernel
theorem dX6_hasRoom_4 : decode cX6_hasRoom 4 = .ok (.bipush 40, 2) := by decide +kernel
theorem dX6_hasRoom_6 : decode cX6_hasRoom 6 = .ok (.if_icmp .lt 12, 3) := by decide +kernel
theorem dX6_hasRoom_9 : decode cX6_hasRoom 9 = .ok (.aload_n 0, 1) := by decide +kernel
theorem dX6_hasRoom_10 : decode cX6_hasRoom 10 = .ok (.iload_n 1, 1) := by decide +kernel
theorem dX6_hasRoom_11 : decode cX6_hasRoom 11 = .ok (.iload_n 2, 1) := by decide +kernel
theorem dX6_hasRoom_12 : decode cX6_hasRoom 12 = .ok (.invokevirtual 45, 3) := by decide +kernel
theorem dX6_hasRoom_15 : decode cX6_hasRoom 15 = .ok (.ifCond .eq 7, 3) := by decide +kernel
theorem dX6_hasRoom_18 : decode cX6_hasRoom 18 = .ok (.iconst 1, 1) := by decide +kernel
theorem dX6_hasRoom_19 : decode cX6_hasRoom 19 = .ok (.goto 4, 3) := by decide +kernel
theorem dX6_hasRoom_22 : decode cX6_hasRoom 22 = .ok (.iconst 0, 1) := by decide +kernel
theorem dX6_hasRoom_23 : decode cX6_hasRoom 23 = .ok (.ireturn, 1) := by decide +kernel
noncomputable def B_X6_hasRoom_0 : pb_C := (i_aload 0 (i_getI 31 1 (i_const (.int 40) (i_ic_lt (i_const (.int 1) i_zret) (i_aload 0 (i_iload 1 (i_iload 2 (i_callV 31 2 1 M_X6_isTold (i_if_eq (i_const (.int 0) i_zret) (i_const (.int 1) i_zret))))))))))
noncomputable def T_X6_hasRoom : Nat → pb_C := pb_tt [(0, B_X6_hasRoom_0)]
noncomputable def M_X6_hasRoom : pb_F := pb_M T_X6_hasRoom 3
set_option maxRecDepth 100000 in
set_option maxHeartbeats 4000000 in
theorem S_X6_hasRoom (l : Launch) : pb_Sound l yX6_hasRoom cX6_hasRoom 3 (some .boolean) 3 M_X6_hasRoom := by
  refine pb_sound_of (by decide) m_5_45 ?_
  intro Γ hl0 hRm0 hm X E hr J
  have hnL : ∀ j, j < 3 → j < Γ.2.2.2.2.2.2.2.2.2.2.2.1 := fun j h => by rw [hm]; exact h
  have hR : ∀ (d' mL : Nat), d' + 1 ≤ 3 ∧ 8 + (mL + 11) + d' * 64 ≤ 3 * 64 → (pb_rm d').frames + 1 ≤ Γ.2.2.2.1.frames ∧ 8 + (mL + 11) + (pb_rm d').locals ≤ Γ.2.2.2.1.locals := by rw [hRm0]; exact fun _ _ h => h
  have hRm : 1 ≤ 3 ∧ 64 ≤ 3 * 64 → 1 ≤ Γ.2.2.2.1.frames ∧ 64 ≤ Γ.2.2.2.1.locals := by rw [hRm0]; exact fun h => h
  exact pb_tt_snd _ (List.forall_mem_cons.mpr ⟨(s_aload_n (pc := 0) X dX6_hasRoom_0 rfl (s_getI (pc := 1) X dX6_hasRoom_1 g_X6_37 (s_bipush (pc := 4) X dX6_hasRoom_4 rfl (s_ic_lt (pc := 6) X dX6_hasRoom_6 (by decide) (s_iconst (pc := 18) X dX6_hasRoom_18 rfl (s_goto (pc := 19) X dX6_hasRoom_19 (by decide) (s_zret (pc := 23) X E hr dX6_hasRoom_23))) (s_aload_n (pc := 9) X dX6_hasRoom_9 rfl (s_iload_n (pc := 10) X dX6_hasRoom_10 rfl (s_iload_n (pc := 11) X dX6_hasRoom_11 rfl (s_callV (pc := 12) X dX6_hasRoom_12 (S_X6_isTold _) q_X6_45 h_31 rfl (hR _ _ (by decide)) (s_if_eq (pc := 15) X dX6_hasRoom_15 (by decide) (s_iconst (pc := 22) X dX6_hasRoom_22 rfl (s_zret (pc := 23) X E hr dX6_hasRoom_23)) (s_iconst (pc := 18) X dX6_hasRoom_18 rfl (s_goto (pc := 19) X dX6_hasRoom_19 (by decide) (s_zret (pc := 23) X E hr dX6_hasRoom_23)))))))))))), fun _ h => absurd h List.not_mem_nil⟩)
theorem dX6_tell_0 : decode cX6_tell 0 = .ok (.aload_n 0, 1) := by decide +kernel
theorem dX6_tell_1 : decode cX6_tell 1 = .ok (.iload_n 1, 1) := by decide +kernel
theorem dX6_tell_2 : decode cX6_tell 2 = .ok (.iload_n 2, 1) := by decide +kernel
theorem dX6_tell_3 : decode cX6_tell 3 = .ok (.invokevirtual 41, 3) := by decide +kernel
theorem dX6_tell_6 : decode cX6_tell 6 = .ok (.istore 4, 2) := by decide +kernel
theorem dX6_tell_8 : decode cX6_tell 8 = .ok (.iload 4, 2) := by decide +kernel
theorem dX6_tell_10 : decode cX6_tell 10 = .ok (.iconst (-1), 1) := by decide +kernel
theorem dX6_tell_11 : decode cX6_tell 11 = .ok (.if_icmp .ne 19, 3) := by decide +kernel
theorem dX6_tell_14 : decode cX6_tell 14 = .ok (.aload_n 0, 1) := by decide +kernel
theorem dX6_tell_15 : decode cX6_tell 15 = .ok (.getfield 37, 3) := by decide +kernel
theorem dX6_tell_18 : decode cX6_tell 18 = .ok (.istore 4, 2) := by decide +kernel
theorem dX6_tell_20 : decode cX6_tell 20 = .ok (.aload_n 0, 1) := by decide +kernel
theorem dX6_tell_21 : decode cX6_tell 21 = .ok (.dup, 1) := by decide +kernel
theorem dX6_tell_22 : decode cX6_tell 22 = .ok (.getfield 37, 3) := by decide +kernel
theorem dX6_tell_25 : decode cX6_tell 25 = .ok (.iconst 1, 1) := by decide +kernel
theorem dX6_tell_26 : decode cX6_tell 26 = .ok (.iadd, 1) := by decide +kernel
theorem dX6_tell_27 : decode cX6_tell 27 = .ok (.putfield 37, 3) := by decide +kernel
theorem dX6_tell_30 : decode cX6_tell 30 = .ok (.aload_n 0, 1) := by decide +kernel
theorem dX6_tell_31 : decode cX6_tell 31 = .ok (.getfield 11, 3) := by decide +kernel
theorem dX6_tell_34 : decode cX6_tell 34 = .ok (.iload 4, 2) := by decide +kernel
theorem dX6_tell_36 : decode cX6_tell 36 = .ok (.iload_n 1, 1) := by decide +kernel
theorem dX6_tell_37 : decode cX6_tell 37 = .ok (.iastore, 1) := by decide +kernel
theorem dX6_tell_38 : decode cX6_tell 38 = .ok (.aload_n 0, 1) := by decide +kernel
theorem dX6_tell_39 : decode cX6_tell 39 = .ok (.getfield 15, 3) := by decide +kernel
theorem dX6_tell_42 : decode cX6_tell 42 = .ok (.iload 4, 2) := by decide +kernel
theorem dX6_tell_44 : decode cX6_tell 44 = .ok (.iload_n 2, 1) := by decide +kernel
theorem dX6_tell_45 : decode cX6_tell 45 = .ok (.iastore, 1) := by decide +kernel
theorem dX6_tell_46 : decode cX6_tell 46 = .ok (.aload_n 0, 1) := by decide +kernel
theorem dX6_tell_47 : decode cX6_tell 47 = .ok (.getfield 18, 3) := by decide +kernel
theorem dX6_tell_50 : decode cX6_tell 50 = .ok (.iload 4, 2) := by decide +kernel
theorem dX6_tell_52 : decode cX6_tell 52 = .ok (.iload_n 3, 1) := by decide +kernel
theorem dX6_tell_53 : decode cX6_tell 53 = .ok (.iastore, 1) := by decide +kernel
theorem dX6_tell_54 : decode cX6_tell 54 = .ok (.return_, 1) := by decide +kernel
noncomputable def B_X6_tell_0 : pb_C := (i_aload 0 (i_iload 1 (i_iload 2 (i_callV 31 2 1 M_X6_find (i_istore 4 (i_iload 4 (i_const (.int (-1)) (i_ic_ne (i_jmp 30 [true, true, true, true, true]) (i_aload 0 (i_getI 31 1 (i_istore 4 (i_aload 0 (i_dupR (i_getI 31 1 (i_const (.int 1) (i_ibin (· + ·) (i_putI 31 1 (i_jmp 30 [true, true, true, true, true]))))))))))))))))))
noncomputable def B_X6_tell_30 : pb_C := (i_aload 0 (i_getR 31 32 (i_iload 4 (i_iload 1 (i_ast 32 40 (fun x => x) (i_aload 0 (i_getR 31 33 (i_iload 4 (i_iload 2 (i_ast 33 40 (fun x => x) (i_aload 0 (i_getR 31 34 (i_iload 4 (i_iload 3 (i_ast 34 40 (fun x => x) i_vret)))))))))))))))
noncomputable def T_X6_tell : Nat → pb_C := pb_tt [(0, B_X6_tell_0), (30, B_X6_tell_30)]
noncomputable def M_X6_tell : pb_F := pb_M T_X6_tell 5
set_option maxRecDepth 100000 in
set_option maxHeartbeats 4000000 in
theorem S_X6_tell (l : Launch) : pb_Sound l yX6_tell cX6_tell 5 none 2 M_X6_tell := by
  refine pb_sound_of (by decide) m_5_57 ?_
  intro Γ hl0 hRm0 hm X E hr J
  have hnL : ∀ j, j < 5 → j < Γ.2.2.2.2.2.2.2.2.2.2.2.1 := fun j h => by rw [hm]; exact h
  have hR : ∀ (d' mL : Nat), d' + 1 ≤ 2 ∧ 8 + (mL + 11) + d' * 64 ≤ 2 * 64 → (pb_rm d').frames + 1 ≤ Γ.2.2.2.1.frames ∧ 8 + (mL + 11) + (pb_rm d').locals ≤ Γ.2.2.2.1.locals := by rw [hRm0]; exact fun _ _ h => h
  have hRm : 1 ≤ 2 ∧ 64 ≤ 2 * 64 → 1 ≤ Γ.2.2.2.1.frames ∧ 64 ≤ Γ.2.2.2.1.locals := by rw [hRm0]; exact fun h => h
  exact pb_tt_snd _ (List.forall_mem_cons.mpr ⟨(s_aload_n (pc := 0) X dX6_tell_0 rfl (s_iload_n (pc := 1) X dX6_tell_1 rfl (s_iload_n (pc := 2) X dX6_tell_2 rfl (s_callV (pc := 3) X dX6_tell_3 (S_X6_find _) q_X6_41 h_31 rfl (hR _ _ (by decide)) (s_istore (pc := 6) X dX6_tell_6 (hnL _ (by decide)) (s_iload (pc := 8) X dX6_tell_8 (s_iconst (pc := 10) X dX6_tell_10 rfl (s_ic_ne (pc := 11) X dX6_tell_11 (by decide) (s_jmp (pc := 30) J [true, true, true, true, true]) (s_aload_n (pc := 14) X dX6_tell_14 rfl (s_getI (pc := 15) X dX6_tell_15 g_X6_37 (s_istore (pc := 18) X dX6_tell_18 (hnL _ (by decide)) (s_aload_n (pc := 20) X dX6_tell_20 rfl (s_dupR (pc := 21) X dX6_tell_21 (s_getI (pc := 22) X dX6_tell_22 g_X6_37 (s_iconst (pc := 25) X dX6_tell_25 rfl (s_iadd (pc := 26) X dX6_tell_26 (s_putI (pc := 27) X dX6_tell_27 p_X6_37 (s_jmp (pc := 30) J [true, true, true, true, true])))))))))))))))))), List.forall_mem_cons.mpr ⟨(s_aload_n (pc := 30) X dX6_tell_30 rfl (s_getR (pc := 31) X dX6_tell_31 g_X6_11 (s_iload (pc := 34) X dX6_tell_34 (s_iload_n (pc := 36) X dX6_tell_36 rfl (s_iast (pc := 37) X dX6_tell_37 h_32 (s_aload_n (pc := 38) X dX6_tell_38 rfl (s_getR (pc := 39) X dX6_tell_39 g_X6_15 (s_iload (pc := 42) X dX6_tell_42 (s_iload_n (pc := 44) X dX6_tell_44 rfl (s_iast (pc := 45) X dX6_tell_45 h_33 (s_aload_n (pc := 46) X dX6_tell_46 rfl (s_getR (pc := 47) X dX6_tell_47 g_X6_18 (s_iload (pc := 50) X dX6_tell_50 (s_iload_n (pc := 52) X dX6_tell_52 rfl (s_iast (pc := 53) X dX6_tell_53 h_34 (s_vret (pc := 54) X E hr dX6_tell_54)))))))))))))))), fun _ h => absurd h List.not_mem_nil⟩⟩)
theorem dX11_told_0 : decode cX11_told 0 = .ok (.aload_n 0, 1) := by decide +kernel
theorem dX11_told_1 : decode cX11_told 1 = .ok (.iload_n 1, 1) := by decide +kernel
theorem dX11_told_2 : decode cX11_told 2 = .ok (.iload_n 2, 1) := by decide +kernel
theorem dX11_told_3 : decode cX11_told 3 = .ok (.invokevirtual 145, 3) := by decide +kernel
theorem dX11_told_6 : decode cX11_told 6 = .ok (.ifCond .ne 13, 3) := by decide +kernel
theorem dX11_told_9 : decode cX11_told 9 = .ok (.iload_n 3, 1) := by decide +kernel
theorem dX11_told_10 : decode cX11_told 10 = .ok (.iconst 0, 1) := by decide +kernel
theorem dX11_told_11 : decode cX11_told 11 = .ok (.ldc 240, 2) := by decide +kernel
theorem dX11_told_13 : decode cX11_told 13 = .ok (.invokestatic 101, 3) := by decide +kernel
theorem dX11_told_16 : decode cX11_told 16 = .ok (.ifCond .eq 11, 3) := by decide +kernel
theorem dX11_told_19 : decode cX11_told 19 = .ok (.aload_n 0, 1) := by decide +kernel
theorem dX11_told_20 : decode cX11_told 20 = .ok (.iconst 1, 1) := by decide +kernel
theorem dX11_told_21 : decode cX11_told 21 = .ok (.putfield 9, 3) := by decide +kernel
theorem dX11_told_24 : decode cX11_told 24 = .ok (.goto 24, 3) := by decide +kernel
theorem dX11_told_27 : decode cX11_told 27 = .ok (.aload_n 0, 1) := by decide +kernel
theorem dX11_told_28 : decode cX11_told 28 = .ok (.aload_n 0, 1) := by decide +kernel
theorem dX11_told_29 : decode cX11_told 29 = .ok (.getfield 53, 3) := by decide +kernel
theorem dX11_told_32 : decode cX11_told 32 = .ok (.iload_n 1, 1) := by decide +kernel
theorem dX11_told_33 : decode cX11_told 33 = .ok (.iload_n 2, 1) := by decide +kernel
theorem dX11_told_34 : decode cX11_told 34 = .ok (.invokevirtual 241, 3) := by decide +kernel
theorem dX11_told_37 : decode cX11_told 37 = .ok (.ifCond .eq 7, 3) := by decide +kernel
theorem dX11_told_40 : decode cX11_told 40 = .ok (.iconst 0, 1) := by decide +kernel
theorem dX11_told_41 : decode cX11_told 41 = .ok (.goto 4, 3) := by decide +kernel
theorem dX11_told_44 : decode cX11_told 44 = .ok (.iconst 4, 1) := by decide +kernel
theorem dX11_told_45 : decode cX11_told 45 = .ok (.putfield 9, 3) := by decide +kernel
theorem dX11_told_48 : decode cX11_told 48 = .ok (.aload_n 0, 1) := by decide +kernel
theorem dX11_told_49 : decode cX11_told 49 = .ok (.getfield 9, 3) := by decide +kernel
theorem dX11_told_52 : decode cX11_told 52 = .ok (.ifCond .ne 13, 3) := by decide +kernel
theorem dX11_told_55 : decode cX11_told 55 = .ok (.aload_n 0, 1) := by decide +kernel
theorem dX11_told_56 : decode cX11_told 56 = .ok (.getfield 53, 3) := by decide +kernel
theorem dX11_told_59 : decode cX11_told 59 = .ok (.iload_n 1, 1) := by decide +kernel
theorem dX11_told_60 : decode cX11_told 60 = .ok (.iload_n 2, 1) := by decide +kernel
theorem dX11_told_61 : decode cX11_told 61 = .ok (.iload_n 3, 1) := by decide +kernel
theorem dX11_told_62 : decode cX11_told 62 = .ok (.invokevirtual 244, 3) := by decide +kernel
theorem dX11_told_65 : decode cX11_told 65 = .ok (.aload_n 0, 1) := by decide +kernel
theorem dX11_told_66 : decode cX11_told 66 = .ok (.getfield 9, 3) := by decide +kernel
theorem dX11_told_69 : decode cX11_told 69 = .ok (.ifCond .ne 7, 3) := by decide +kernel
theorem dX11_told_72 : decode cX11_told 72 = .ok (.iconst 1, 1) := by decide +kernel
theorem dX11_told_73 : decode cX11_told 73 = .ok (.goto 4, 3) := by decide +kernel
theorem dX11_told_76 : decode cX11_told 76 = .ok (.iconst 0, 1) := by decide +kernel
theorem dX11_told_77 : decode cX11_told 77 = .ok (.ireturn, 1) := by decide +kernel
noncomputable def B_X11_told_0 : pb_C := (i_aload 0 (i_iload 1 (i_iload 2 (i_callV 0 2 1 M_X11_noFamilyWeek (i_if_ne (i_aload 0 (i_const (.int 1) (i_putI 0 0 (i_jmp 48 [true, true, true, true])))) (i_iload 3 (i_const (.int 0) (i_const (.int (1000000)) (i_callS 3 1 M_X11_outside (i_if_eq (i_aload 0 (i_aload 0 (i_getR 0 31 (i_iload 1 (i_iload 2 (i_callV 31 2 1 M_X6_hasRoom (i_if_eq (i_const (.int 4) (i_putI 0 0 (i_jmp 48 [true, true, true, true]))) (i_const (.int 0) (i_putI 0 0 (i_jmp 48 [true, true, true, true])))))))))) (i_aload 0 (i_const (.int 1) (i_putI 0 0 (i_jmp 48 [true, true, true, true]))))))))))))))
noncomputable def B_X11_told_48 : pb_C := (i_aload 0 (i_getI 0 0 (i_if_ne (i_aload 0 (i_getI 0 0 (i_if_ne (i_const (.int 0) i_zret) (i_const (.int 1) i_zret)))) (i_aload 0 (i_getR 0 31 (i_iload 1 (i_iload 2 (i_iload 3 (i_callV 31 3 0 M_X6_tell (i_aload 0 (i_getI 0 0 (i_if_ne (i_const (.int 0) i_zret) (i_const (.int 1) i_zret)))))))))))))
noncomputable def T_X11_told : Nat → pb_C := pb_tt [(0, B_X11_told_0), (48, B_X11_told_48)]
noncomputable def M_X11_told : pb_F := pb_M T_X11_told 4
set_option maxRecDepth 100000 in
set_option maxHeartbeats 4000000 in
theorem S_X11_told (l : Launch) : pb_Sound l yX11_told cX11_told 4 (some .boolean) 4 M_X11_told := by
  refine pb_sound_of (by decide) m_5_40 ?_
  intro Γ hl0 hRm0 hm X E hr J
  have hnL : ∀ j, j < 4 → j < Γ.2.2.2.2.2.2.2.2.2.2.2.1 := fun j h => by rw [hm]; exact h
  have hR : ∀ (d' mL : Nat), d' + 1 ≤ 4 ∧ 8 + (mL + 11) + d' * 64 ≤ 4 * 64 → (pb_rm d').frames + 1 ≤ Γ.2.2.2.1.frames ∧ 8 + (mL + 11) + (pb_rm d').locals ≤ Γ.2.2.2.1.locals := by rw [hRm0]; exact fun _ _ h => h
  have hRm : 1 ≤ 4 ∧ 64 ≤ 4 * 64 → 1 ≤ Γ.2.2.2.1.frames ∧ 64 ≤ Γ.2.2.2.1.locals := by rw [hRm0]; exact fun h => h
  exact pb_tt_snd _ (List.forall_mem_cons.mpr ⟨(s_aload_n (pc := 0) X dX11_told_0 rfl (s_iload_n (pc := 1) X dX11_told_1 rfl (s_iload_n (pc := 2) X dX11_told_2 rfl (s_callV (pc := 3) X dX11_told_3 (S_X11_noFamilyWeek _) q_X11_145 h_0 rfl (hR _ _ (by decide)) (s_if_ne (pc := 6) X dX11_told_6 (by decide) (s_aload_n (pc := 19) X dX11_told_19 rfl (s_iconst (pc := 20) X dX11_told_20 rfl (s_putI (pc := 21) X dX11_told_21 p_X11_9 (s_goto (pc := 24) X dX11_told_24 (by decide) (s_jmp (pc := 48) J [true, true, true, true]))))) (s_iload_n (pc := 9) X dX11_told_9 rfl (s_iconst (pc := 10) X dX11_told_10 rfl (s_ldc (pc := 11) X dX11_told_11 m_5_41 (s_callS (pc := 13) X dX11_told_13 (S_X11_outside _) q_X11_101 (hR _ _ (by decide)) (s_if_eq (pc := 16) X dX11_told_16 (by decide) (s_aload_n (pc := 27) X dX11_told_27 rfl (s_aload_n (pc := 28) X dX11_told_28 rfl (s_getR (pc := 29) X dX11_told_29 g_X11_53 (s_iload_n (pc := 32) X dX11_told_32 rfl (s_iload_n (pc := 33) X dX11_told_33 rfl (s_callV (pc := 34) X dX11_told_34 (S_X6_hasRoom _) q_X11_241 h_31 rfl (hR _ _ (by decide)) (s_if_eq (pc := 37) X dX11_told_37 (by decide) (s_iconst (pc := 44) X dX11_told_44 rfl (s_putI (pc := 45) X dX11_told_45 p_X11_9 (s_jmp (pc := 48) J [true, true, true, true]))) (s_iconst (pc := 40) X dX11_told_40 rfl (s_goto (pc := 41) X dX11_told_41 (by decide) (s_putI (pc := 45) X dX11_told_45 p_X11_9 (s_jmp (pc := 48) J [true, true, true, true]))))))))))) (s_aload_n (pc := 19) X dX11_told_19 rfl (s_iconst (pc := 20) X dX11_told_20 rfl (s_putI (pc := 21) X dX11_told_21 p_X11_9 (s_goto (pc := 24) X dX11_told_24 (by decide) (s_jmp (pc := 48) J [true, true, true, true]))))))))))))))), List.forall_mem_cons.mpr ⟨(s_aload_n (pc := 48) X dX11_told_48 rfl (s_getI (pc := 49) X dX11_told_49 g_X11_9 (s_if_ne (pc := 52) X dX11_told_52 (by decide) (s_aload_n (pc := 65) X dX11_told_65 rfl (s_getI (pc := 66) X dX11_told_66 g_X11_9 (s_if_ne (pc := 69) X dX11_told_69 (by decide) (s_iconst (pc := 76) X dX11_told_76 rfl (s_zret (pc := 77) X E hr dX11_told_77)) (s_iconst (pc := 72) X dX11_told_72 rfl (s_goto (pc := 73) X dX11_told_73 (by decide) (s_zret (pc := 77) X E hr dX11_told_77)))))) (s_aload_n (pc := 55) X dX11_told_55 rfl (s_getR (pc := 56) X dX11_told_56 g_X11_53 (s_iload_n (pc := 59) X dX11_told_59 rfl (s_iload_n (pc := 60) X dX11_told_60 rfl (s_iload_n (pc := 61) X dX11_told_61 rfl (s_callV (pc := 62) X dX11_told_62 (S_X6_tell _) q_X11_244 h_31 rfl (hR _ _ (by decide)) (s_aload_n (pc := 65) X dX11_told_65 rfl (s_getI (pc := 66) X dX11_told_66 g_X11_9 (s_if_ne (pc := 69) X dX11_told_69 (by decide) (s_iconst (pc := 76) X dX11_told_76 rfl (s_zret (pc := 77) X E hr dX11_told_77)) (s_iconst (pc := 72) X dX11_told_72 rfl (s_goto (pc := 73) X dX11_told_73 (by decide) (s_zret (pc := 77) X E hr dX11_told_77))))))))))))))), fun _ h => absurd h List.not_mem_nil⟩⟩)
theorem dX1_spentOnAll_0 : decode cX1_spentOnAll 0 = .ok (.iconst 0, 1) := by decide +kernel
theorem dX1_spentOnAll_1 : decode cX1_spentOnAll 1 = .ok (.istore_n 3, 1) := by decide +kernel
theorem dX1_spentOnAll_2 : decode cX1_spentOnAll 2 = .ok (.iconst 0, 1) := by decide +kernel
theorem dX1_spentOnAll_3 : decode cX1_spentOnAll 3 = .ok (.istore 4, 2) := by decide +kernel
theorem dX1_spentOnAll_5 : decode cX1_spentOnAll 5 = .ok (.iload 4, 2) := by decide +kernel
theorem dX1_spentOnAll_7 : decode cX1_spentOnAll 7 = .ok (.aload_n 0, 1) := by decide +kernel
theorem dX1_spentOnAll_8 : decode cX1_spentOnAll 8 = .ok (.getfield 66, 3) := by decide +kernel
theorem dX1_spentOnAll_11 : decode cX1_spentOnAll 11 = .ok (.if_icmp .ge 30, 3) := by decide +kernel
theorem dX1_spentOnAll_14 : decode cX1_spentOnAll 14 = .ok (.aload_n 0, 1) := by decide +kernel
theorem dX1_spentOnAll_15 : decode cX1_spentOnAll 15 = .ok (.iload 4, 2) := by decide +kernel
theorem dX1_spentOnAll_17 : decode cX1_spentOnAll 17 = .ok (.iload_n 1, 1) := by decide +kernel
theorem dX1_spentOnAll_18 : decode cX1_spentOnAll 18 = .ok (.iload_n 2, 1) := by decide +kernel
theorem dX1_spentOnAll_19 : decode cX1_spentOnAll 19 = .ok (.invokevirtual 105, 3) := by decide +kernel
theorem dX1_spentOnAll_22 : decode cX1_spentOnAll 22 = .ok (.ifCond .eq 13, 3) := by decide +kernel
theorem dX1_spentOnAll_25 : decode cX1_spentOnAll 25 = .ok (.iload_n 3, 1) := by decide +kernel
theorem dX1_spentOnAll_26 : decode cX1_spentOnAll 26 = .ok (.aload_n 0, 1) := by decide +kernel
theorem dX1_spentOnAll_27 : decode cX1_spentOnAll 27 = .ok (.getfield 44, 3) := by decide +kernel
theorem dX1_spentOnAll_30 : decode cX1_spentOnAll 30 = .ok (.iload 4, 2) := by decide +kernel
theorem dX1_spentOnAll_32 : decode cX1_spentOnAll 32 = .ok (.iaload, 1) := by decide +kernel
theorem dX1_spentOnAll_33 : decode cX1_spentOnAll 33 = .ok (.iadd, 1) := by decide +kernel
theorem dX1_spentOnAll_34 : decode cX1_spentOnAll 34 = .ok (.istore_n 3, 1) := by decide +kernel
theorem dX1_spentOnAll_35 : decode cX1_spentOnAll 35 = .ok (.iinc 4 1, 3) := by decide +kernel
theorem dX1_spentOnAll_38 : decode cX1_spentOnAll 38 = .ok (.goto (-33), 3) := by decide +kernel
theorem dX1_spentOnAll_41 : decode cX1_spentOnAll 41 = .ok (.iload_n 3, 1) := by decide +kernel
theorem dX1_spentOnAll_42 : decode cX1_spentOnAll 42 = .ok (.ireturn, 1) := by decide +kernel
noncomputable def B_X1_spentOnAll_0 : pb_C := (i_const (.int 0) (i_istore 3 (i_const (.int 0) (i_istore 4 (i_jmp 5 [true, true, true, true, true])))))
noncomputable def B_X1_spentOnAll_5 : pb_C := (i_iload 4 (i_aload 0 (i_getI 5 3 (i_ic_ge (i_iload 3 i_iret) (i_aload 0 (i_iload 4 (i_iload 1 (i_iload 2 (i_callV 5 3 1 M_X1_wentFrom_ (i_if_eq (i_iinc 4 1 (i_jmp 5 [true, true, true, true, true])) (i_iload 3 (i_aload 0 (i_getR 5 16 (i_iload 4 (i_ald 16 200 (i_ibin (· + ·) (i_istore 3 (i_iinc 4 1 (i_jmp 5 [true, true, true, true, true])))))))))))))))))))
noncomputable def T_X1_spentOnAll : Nat → pb_C := pb_tt [(0, B_X1_spentOnAll_0), (5, B_X1_spentOnAll_5)]
noncomputable def M_X1_spentOnAll : pb_F := pb_M T_X1_spentOnAll 5
set_option maxRecDepth 100000 in
set_option maxHeartbeats 4000000 in
theorem S_X1_spentOnAll (l : Launch) : pb_Sound l yX1_spentOnAll cX1_spentOnAll 5 (some .int) 3 M_X1_spentOnAll := by
  refine pb_sound_of (by decide) m_5_70 ?_
  intro Γ hl0 hRm0 hm X E hr J
  have hnL : ∀ j, j < 5 → j < Γ.2.2.2.2.2.2.2.2.2.2.2.1 := fun j h => by rw [hm]; exact h
  have hR : ∀ (d' mL : Nat), d' + 1 ≤ 3 ∧ 8 + (mL + 11) + d' * 64 ≤ 3 * 64 → (pb_rm d').frames + 1 ≤ Γ.2.2.2.1.frames ∧ 8 + (mL + 11) + (pb_rm d').locals ≤ Γ.2.2.2.1.locals := by rw [hRm0]; exact fun _ _ h => h
  have hRm : 1 ≤ 3 ∧ 64 ≤ 3 * 64 → 1 ≤ Γ.2.2.2.1.frames ∧ 64 ≤ Γ.2.2.2.1.locals := by rw [hRm0]; exact fun h => h
  exact pb_tt_snd _ (List.forall_mem_cons.mpr ⟨(s_iconst (pc := 0) X dX1_spentOnAll_0 rfl (s_istore_n (pc := 1) X dX1_spentOnAll_1 rfl (hnL _ (by decide)) (s_iconst (pc := 2) X dX1_spentOnAll_2 rfl (s_istore (pc := 3) X dX1_spentOnAll_3 (hnL _ (by decide)) (s_jmp (pc := 5) J [true, true, true, true, true]))))), List.forall_mem_cons.mpr ⟨(s_iload (pc := 5) X dX1_spentOnAll_5 (s_aload_n (pc := 7) X dX1_spentOnAll_7 rfl (s_getI (pc := 8) X dX1_spentOnAll_8 g_X1_66 (s_ic_ge (pc := 11) X dX1_spentOnAll_11 (by decide) (s_iload_n (pc := 41) X dX1_spentOnAll_41 rfl (s_iret (pc := 42) X E hr dX1_spentOnAll_42)) (s_aload_n (pc := 14) X dX1_spentOnAll_14 rfl (s_iload (pc := 15) X dX1_spentOnAll_15 (s_iload_n (pc := 17) X dX1_spentOnAll_17 rfl (s_iload_n (pc := 18) X dX1_spentOnAll_18 rfl (s_callV (pc := 19) X dX1_spentOnAll_19 (S_X1_wentFrom_ _) q_X1_105 h_5 rfl (hR _ _ (by decide)) (s_if_eq (pc := 22) X dX1_spentOnAll_22 (by decide) (s_iinc (pc := 35) X dX1_spentOnAll_35 rfl (s_goto (pc := 38) X dX1_spentOnAll_38 (by decide) (s_jmp (pc := 5) J [true, true, true, true, true]))) (s_iload_n (pc := 25) X dX1_spentOnAll_25 rfl (s_aload_n (pc := 26) X dX1_spentOnAll_26 rfl (s_getR (pc := 27) X dX1_spentOnAll_27 g_X1_44 (s_iload (pc := 30) X dX1_spentOnAll_30 (s_iald (pc := 32) X dX1_spentOnAll_32 h_16 (s_iadd (pc := 33) X dX1_spentOnAll_33 (s_istore_n (pc := 34) X dX1_spentOnAll_34 rfl (hnL _ (by decide)) (s_iinc (pc := 35) X dX1_spentOnAll_35 rfl (s_goto (pc := 38) X dX1_spentOnAll_38 (by decide) (s_jmp (pc := 5) J [true, true, true, true, true])))))))))))))))))))), fun _ h => absurd h List.not_mem_nil⟩⟩)
theorem dX6_outBy_0 : decode cX6_outBy 0 = .ok (.aload_n 0, 1) := by decide +kernel
theorem dX6_outBy_1 : decode cX6_outBy 1 = .ok (.iload_n 1, 1) := by decide +kernel
theorem dX6_outBy_2 : decode cX6_outBy 2 = .ok (.iload_n 2, 1) := by decide +kernel
theorem dX6_outBy_3 : decode cX6_outBy 3 = .ok (.invokevirtual 41, 3) := by decide +kernel
theorem dX6_outBy_6 : decode cX6_outBy 6 = .ok (.istore_n 3, 1) := by decide +kernel
theorem dX6_outBy_7 : decode cX6_outBy 7 = .ok (.iload_n 3, 1) := by decide +kernel
theorem dX6_outBy_8 : decode cX6_outBy 8 = .ok (.iconst (-1), 1) := by decide +kernel
theorem dX6_outBy_9 : decode cX6_outBy 9 = .ok (.if_icmp .ne 7, 3) := by decide +kernel
theorem dX6_outBy_12 : decode cX6_outBy 12 = .ok (.iconst 0, 1) := by decide +kernel
theorem dX6_outBy_13 : decode cX6_outBy 13 = .ok (.goto 19, 3) := by decide +kernel
theorem dX6_outBy_16 : decode cX6_outBy 16 = .ok (.aload_n 0, 1) := by decide +kernel
theorem dX6_outBy_17 : decode cX6_outBy 17 = .ok (.getfield 18, 3) := by decide +kernel
theorem dX6_outBy_20 : decode cX6_outBy 20 = .ok (.iload_n 3, 1) := by decide +kernel
theorem dX6_outBy_21 : decode cX6_outBy 21 = .ok (.iaload, 1) := by decide +kernel
theorem dX6_outBy_22 : decode cX6_outBy 22 = .ok (.aload_n 0, 1) := by decide +kernel
theorem dX6_outBy_23 : decode cX6_outBy 23 = .ok (.getfield 33, 3) := by decide +kernel
theorem dX6_outBy_26 : decode cX6_outBy 26 = .ok (.iload_n 1, 1) := by decide +kernel
theorem dX6_outBy_27 : decode cX6_outBy 27 = .ok (.iload_n 2, 1) := by decide +kernel
theorem dX6_outBy_28 : decode cX6_outBy 28 = .ok (.invokevirtual 49, 3) := by decide +kernel
theorem dX6_outBy_31 : decode cX6_outBy 31 = .ok (.isub, 1) := by decide +kernel
theorem dX6_outBy_32 : decode cX6_outBy 32 = .ok (.ireturn, 1) := by decide +kernel
noncomputable def B_X6_outBy_0 : pb_C := (i_aload 0 (i_iload 1 (i_iload 2 (i_callV 31 2 1 M_X6_find (i_istore 3 (i_iload 3 (i_const (.int (-1)) (i_ic_ne (i_aload 0 (i_getR 31 34 (i_iload 3 (i_ald 34 40 (i_aload 0 (i_getR 31 5 (i_iload 1 (i_iload 2 (i_callV 5 2 1 M_X1_spentOnAll (i_ibin (· - ·) i_iret)))))))))) (i_const (.int 0) i_iret)))))))))
noncomputable def T_X6_outBy : Nat → pb_C := pb_tt [(0, B_X6_outBy_0)]
noncomputable def M_X6_outBy : pb_F := pb_M T_X6_outBy 4
set_option maxRecDepth 100000 in
set_option maxHeartbeats 4000000 in
theorem S_X6_outBy (l : Launch) : pb_Sound l yX6_outBy cX6_outBy 4 (some .int) 4 M_X6_outBy := by
  refine pb_sound_of (by decide) m_5_66 ?_
  intro Γ hl0 hRm0 hm X E hr J
  have hnL : ∀ j, j < 4 → j < Γ.2.2.2.2.2.2.2.2.2.2.2.1 := fun j h => by rw [hm]; exact h
  have hR : ∀ (d' mL : Nat), d' + 1 ≤ 4 ∧ 8 + (mL + 11) + d' * 64 ≤ 4 * 64 → (pb_rm d').frames + 1 ≤ Γ.2.2.2.1.frames ∧ 8 + (mL + 11) + (pb_rm d').locals ≤ Γ.2.2.2.1.locals := by rw [hRm0]; exact fun _ _ h => h
  have hRm : 1 ≤ 4 ∧ 64 ≤ 4 * 64 → 1 ≤ Γ.2.2.2.1.frames ∧ 64 ≤ Γ.2.2.2.1.locals := by rw [hRm0]; exact fun h => h
  exact pb_tt_snd _ (List.forall_mem_cons.mpr ⟨(s_aload_n (pc := 0) X dX6_outBy_0 rfl (s_iload_n (pc := 1) X dX6_outBy_1 rfl (s_iload_n (pc := 2) X dX6_outBy_2 rfl (s_callV (pc := 3) X dX6_outBy_3 (S_X6_find _) q_X6_41 h_31 rfl (hR _ _ (by decide)) (s_istore_n (pc := 6) X dX6_outBy_6 rfl (hnL _ (by decide)) (s_iload_n (pc := 7) X dX6_outBy_7 rfl (s_iconst (pc := 8) X dX6_outBy_8 rfl (s_ic_ne (pc := 9) X dX6_outBy_9 (by decide) (s_aload_n (pc := 16) X dX6_outBy_16 rfl (s_getR (pc := 17) X dX6_outBy_17 g_X6_18 (s_iload_n (pc := 20) X dX6_outBy_20 rfl (s_iald (pc := 21) X dX6_outBy_21 h_34 (s_aload_n (pc := 22) X dX6_outBy_22 rfl (s_getR (pc := 23) X dX6_outBy_23 g_X6_33 (s_iload_n (pc := 26) X dX6_outBy_26 rfl (s_iload_n (pc := 27) X dX6_outBy_27 rfl (s_callV (pc := 28) X dX6_outBy_28 (S_X1_spentOnAll _) q_X6_49 h_5 rfl (hR _ _ (by decide)) (s_isub (pc := 31) X dX6_outBy_31 (s_iret (pc := 32) X E hr dX6_outBy_32))))))))))) (s_iconst (pc := 12) X dX6_outBy_12 rfl (s_goto (pc := 13) X dX6_outBy_13 (by decide) (s_iret (pc := 32) X E hr dX6_outBy_32))))))))))), fun _ h => absurd h List.not_mem_nil⟩)
theorem dX11_out_0 : decode cX11_out 0 = .ok (.aload_n 0, 1) := by decide +kernel
theorem dX11_out_1 : decode cX11_out 1 = .ok (.iload_n 1, 1) := by decide +kernel
theorem dX11_out_2 : decode cX11_out 2 = .ok (.iload_n 2, 1) := by decide +kernel
theorem dX11_out_3 : decode cX11_out 3 = .ok (.invokevirtual 145, 3) := by decide +kernel
theorem dX11_out_6 : decode cX11_out 6 = .ok (.ifCond .eq 11, 3) := by decide +kernel
theorem dX11_out_9 : decode cX11_out 9 = .ok (.aload_n 0, 1) := by decide +kernel
theorem dX11_out_10 : decode cX11_out 10 = .ok (.iconst 1, 1) := by decide +kernel
theorem dX11_out_11 : decode cX11_out 11 = .ok (.putfield 9, 3) := by decide +kernel
theorem dX11_out_14 : decode cX11_out 14 = .ok (.goto 25, 3) := by decide +kernel
theorem dX11_out_17 : decode cX11_out 17 = .ok (.aload_n 0, 1) := by decide +kernel
theorem dX11_out_18 : decode cX11_out 18 = .ok (.aload_n 0, 1) := by decide +kernel
theorem dX11_out_19 : decode cX11_out 19 = .ok (.getfield 53, 3) := by decide +kernel
theorem dX11_out_22 : decode cX11_out 22 = .ok (.iload_n 1, 1) := by decide +kernel
theorem dX11_out_23 : decode cX11_out 23 = .ok (.iload_n 2, 1) := by decide +kernel
theorem dX11_out_24 : decode cX11_out 24 = .ok (.invokevirtual 247, 3) := by decide +kernel
theorem dX11_out_27 : decode cX11_out 27 = .ok (.ifCond .eq 7, 3) := by decide +kernel
theorem dX11_out_30 : decode cX11_out 30 = .ok (.iconst 0, 1) := by decide +kernel
theorem dX11_out_31 : decode cX11_out 31 = .ok (.goto 5, 3) := by decide +kernel
theorem dX11_out_34 : decode cX11_out 34 = .ok (.bipush 6, 2) := by decide +kernel
theorem dX11_out_36 : decode cX11_out 36 = .ok (.putfield 9, 3) := by decide +kernel
theorem dX11_out_39 : decode cX11_out 39 = .ok (.aload_n 0, 1) := by decide +kernel
theorem dX11_out_40 : decode cX11_out 40 = .ok (.getfield 9, 3) := by decide +kernel
theorem dX11_out_43 : decode cX11_out 43 = .ok (.ifCond .ne 15, 3) := by decide +kernel
theorem dX11_out_46 : decode cX11_out 46 = .ok (.aload_n 0, 1) := by decide +kernel
theorem dX11_out_47 : decode cX11_out 47 = .ok (.getfield 53, 3) := by decide +kernel
theorem dX11_out_50 : decode cX11_out 50 = .ok (.iload_n 1, 1) := by decide +kernel
theorem dX11_out_51 : decode cX11_out 51 = .ok (.iload_n 2, 1) := by decide +kernel
theorem dX11_out_52 : decode cX11_out 52 = .ok (.invokevirtual 250, 3) := by decide +kernel
theorem dX11_out_55 : decode cX11_out 55 = .ok (.goto 4, 3) := by decide +kernel
theorem dX11_out_58 : decode cX11_out 58 = .ok (.iconst (-1), 1) := by decide +kernel
theorem dX11_out_59 : decode cX11_out 59 = .ok (.ireturn, 1) := by decide +kernel
noncomputable def B_X11_out_0 : pb_C := (i_aload 0 (i_iload 1 (i_iload 2 (i_callV 0 2 1 M_X11_noFamilyWeek (i_if_eq (i_aload 0 (i_aload 0 (i_getR 0 31 (i_iload 1 (i_iload 2 (i_callV 31 2 1 M_X6_isTold (i_if_eq (i_const (.int 6) (i_jmp 36 [true, true, true])) (i_const (.int 0) (i_jmp 36 [true, true, true]))))))))) (i_aload 0 (i_const (.int 1) (i_putI 0 0 (i_aload 0 (i_getI 0 0 (i_if_ne (i_const (.int (-1)) i_iret) (i_aload 0 (i_getR 0 31 (i_iload 1 (i_iload 2 (i_callV 31 2 1 M_X6_outBy i_iret))))))))))))))))
noncomputable def B_X11_out_36 : pb_C := (i_putI 0 0 (i_aload 0 (i_getI 0 0 (i_if_ne (i_const (.int (-1)) i_iret) (i_aload 0 (i_getR 0 31 (i_iload 1 (i_iload 2 (i_callV 31 2 1 M_X6_outBy i_iret)))))))))
noncomputable def T_X11_out : Nat → pb_C := pb_tt [(0, B_X11_out_0), (36, B_X11_out_36)]
noncomputable def M_X11_out : pb_F := pb_M T_X11_out 3
set_option maxRecDepth 100000 in
set_option maxHeartbeats 4000000 in
theorem S_X11_out (l : Launch) : pb_Sound l yX11_out cX11_out 3 (some .int) 5 M_X11_out := by
  refine pb_sound_of (by decide) m_5_61 ?_
  intro Γ hl0 hRm0 hm X E hr J
  have hnL : ∀ j, j < 3 → j < Γ.2.2.2.2.2.2.2.2.2.2.2.1 := fun j h => by rw [hm]; exact h
  have hR : ∀ (d' mL : Nat), d' + 1 ≤ 5 ∧ 8 + (mL + 11) + d' * 64 ≤ 5 * 64 → (pb_rm d').frames + 1 ≤ Γ.2.2.2.1.frames ∧ 8 + (mL + 11) + (pb_rm d').locals ≤ Γ.2.2.2.1.locals := by rw [hRm0]; exact fun _ _ h => h
  have hRm : 1 ≤ 5 ∧ 64 ≤ 5 * 64 → 1 ≤ Γ.2.2.2.1.frames ∧ 64 ≤ Γ.2.2.2.1.locals := by rw [hRm0]; exact fun h => h
  exact pb_tt_snd _ (List.forall_mem_cons.mpr ⟨(s_aload_n (pc := 0) X dX11_out_0 rfl (s_iload_n (pc := 1) X dX11_out_1 rfl (s_iload_n (pc := 2) X dX11_out_2 rfl (s_callV (pc := 3) X dX11_out_3 (S_X11_noFamilyWeek _) q_X11_145 h_0 rfl (hR _ _ (by decide)) (s_if_eq (pc := 6) X dX11_out_6 (by decide) (s_aload_n (pc := 17) X dX11_out_17 rfl (s_aload_n (pc := 18) X dX11_out_18 rfl (s_getR (pc := 19) X dX11_out_19 g_X11_53 (s_iload_n (pc := 22) X dX11_out_22 rfl (s_iload_n (pc := 23) X dX11_out_23 rfl (s_callV (pc := 24) X dX11_out_24 (S_X6_isTold _) q_X11_247 h_31 rfl (hR _ _ (by decide)) (s_if_eq (pc := 27) X dX11_out_27 (by decide) (s_bipush (pc := 34) X dX11_out_34 rfl (s_jmp (pc := 36) J [true, true, true])) (s_iconst (pc := 30) X dX11_out_30 rfl (s_goto (pc := 31) X dX11_out_31 (by decide) (s_jmp (pc := 36) J [true, true, true])))))))))) (s_aload_n (pc := 9) X dX11_out_9 rfl (s_iconst (pc := 10) X dX11_out_10 rfl (s_putI (pc := 11) X dX11_out_11 p_X11_9 (s_goto (pc := 14) X dX11_out_14 (by decide) (s_aload_n (pc := 39) X dX11_out_39 rfl (s_getI (pc := 40) X dX11_out_40 g_X11_9 (s_if_ne (pc := 43) X dX11_out_43 (by decide) (s_iconst (pc := 58) X dX11_out_58 rfl (s_iret (pc := 59) X E hr dX11_out_59)) (s_aload_n (pc := 46) X dX11_out_46 rfl (s_getR (pc := 47) X dX11_out_47 g_X11_53 (s_iload_n (pc := 50) X dX11_out_50 rfl (s_iload_n (pc := 51) X dX11_out_51 rfl (s_callV (pc := 52) X dX11_out_52 (S_X6_outBy _) q_X11_250 h_31 rfl (hR _ _ (by decide)) (s_goto (pc := 55) X dX11_out_55 (by decide) (s_iret (pc := 59) X E hr dX11_out_59))))))))))))))))))), List.forall_mem_cons.mpr ⟨(s_putI (pc := 36) X dX11_out_36 p_X11_9 (s_aload_n (pc := 39) X dX11_out_39 rfl (s_getI (pc := 40) X dX11_out_40 g_X11_9 (s_if_ne (pc := 43) X dX11_out_43 (by decide) (s_iconst (pc := 58) X dX11_out_58 rfl (s_iret (pc := 59) X E hr dX11_out_59)) (s_aload_n (pc := 46) X dX11_out_46 rfl (s_getR (pc := 47) X dX11_out_47 g_X11_53 (s_iload_n (pc := 50) X dX11_out_50 rfl (s_iload_n (pc := 51) X dX11_out_51 rfl (s_callV (pc := 52) X dX11_out_52 (S_X6_outBy _) q_X11_250 h_31 rfl (hR _ _ (by decide)) (s_goto (pc := 55) X dX11_out_55 (by decide) (s_iret (pc := 59) X E hr dX11_out_59))))))))))), fun _ h => absurd h List.not_mem_nil⟩⟩)
theorem dX6_listSlips_0 : decode cX6_listSlips 0 = .ok (.aload_n 0, 1) := by decide +kernel
theorem dX6_listSlips_1 : decode cX6_listSlips 1 = .ok (.getfield 24, 3) := by decide +kernel
theorem dX6_listSlips_4 : decode cX6_listSlips 4 = .ok (.iload_n 1, 1) := by decide +kernel
theorem dX6_listSlips_5 : decode cX6_listSlips 5 = .ok (.iconst 0, 1) := by decide +kernel
theorem dX6_listSlips_6 : decode cX6_listSlips 6 = .ok (.iastore, 1) := by decide +kernel
theorem dX6_listSlips_7 : decode cX6_listSlips 7 = .ok (.aload_n 0, 1) := by decide +kernel
theorem dX6_listSlips_8 : decode cX6_listSlips 8 = .ok (.getfield 24, 3) := by decide +kernel
theorem dX6_listSlips_11 : decode cX6_listSlips 11 = .ok (.iload_n 1, 1) := by decide +kernel
theorem dX6_listSlips_12 : decode cX6_listSlips 12 = .ok (.iconst 1, 1) := by decide +kernel
theorem dX6_listSlips_13 : decode cX6_listSlips 13 = .ok (.iadd, 1) := by decide +kernel
theorem dX6_listSlips_14 : decode cX6_listSlips 14 = .ok (.iload_n 2, 1) := by decide +kernel
theorem dX6_listSlips_15 : decode cX6_listSlips 15 = .ok (.ineg, 1) := by decide +kernel
theorem dX6_listSlips_16 : decode cX6_listSlips 16 = .ok (.iastore, 1) := by decide +kernel
theorem dX6_listSlips_17 : decode cX6_listSlips 17 = .ok (.aload_n 0, 1) := by decide +kernel
theorem dX6_listSlips_18 : decode cX6_listSlips 18 = .ok (.getfield 24, 3) := by decide +kernel
theorem dX6_listSlips_21 : decode cX6_listSlips 21 = .ok (.iload_n 1, 1) := by decide +kernel
theorem dX6_listSlips_22 : decode cX6_listSlips 22 = .ok (.iconst 2, 1) := by decide +kernel
theorem dX6_listSlips_23 : decode cX6_listSlips 23 = .ok (.iadd, 1) := by decide +kernel
theorem dX6_listSlips_24 : decode cX6_listSlips 24 = .ok (.iload_n 2, 1) := by decide +kernel
theorem dX6_listSlips_25 : decode cX6_listSlips 25 = .ok (.iastore, 1) := by decide +kernel
theorem dX6_listSlips_26 : decode cX6_listSlips 26 = .ok (.iconst 1, 1) := by decide +kernel
theorem dX6_listSlips_27 : decode cX6_listSlips 27 = .ok (.istore_n 3, 1) := by decide +kernel
theorem dX6_listSlips_28 : decode cX6_listSlips 28 = .ok (.iconst 3, 1) := by decide +kernel
theorem dX6_listSlips_29 : decode cX6_listSlips 29 = .ok (.istore 4, 2) := by decide +kernel
theorem dX6_listSlips_31 : decode cX6_listSlips 31 = .ok (.iload 4, 2) := by decide +kernel
theorem dX6_listSlips_33 : decode cX6_listSlips 33 = .ok (.bipush 7, 2) := by decide +kernel
theorem dX6_listSlips_35 : decode cX6_listSlips 35 = .ok (.if_icmp .ge 64, 3) := by decide +kernel
theorem dX6_listSlips_38 : decode cX6_listSlips 38 = .ok (.iload_n 2, 1) := by decide +kernel
theorem dX6_listSlips_39 : decode cX6_listSlips 39 = .ok (.iload_n 3, 1) := by decide +kernel
theorem dX6_listSlips_40 : decode cX6_listSlips 40 = .ok (.bipush 10, 2) := by decide +kernel
theorem dX6_listSlips_42 : decode cX6_listSlips 42 = .ok (.imul, 1) := by decide +kernel
theorem dX6_listSlips_43 : decode cX6_listSlips 43 = .ok (.idiv, 1) := by decide +kernel
theorem dX6_listSlips_44 : decode cX6_listSlips 44 = .ok (.bipush 10, 2) := by decide +kernel
theorem dX6_listSlips_46 : decode cX6_listSlips 46 = .ok (.irem, 1) := by decide +kernel
theorem dX6_listSlips_47 : decode cX6_listSlips 47 = .ok (.istore 5, 2) := by decide +kernel
theorem dX6_listSlips_49 : decode cX6_listSlips 49 = .ok (.iload_n 2, 1) := by decide +kernel
theorem dX6_listSlips_50 : decode cX6_listSlips 50 = .ok (.iload_n 3, 1) := by decide +kernel
theorem dX6_listSlips_51 : decode cX6_listSlips 51 = .ok (.idiv, 1) := by decide +kernel
theorem dX6_listSlips_52 : decode cX6_listSlips 52 = .ok (.bipush 10, 2) := by decide +kernel
theorem dX6_listSlips_54 : decode cX6_listSlips 54 = .ok (.irem, 1) := by decide +kernel
theorem dX6_listSlips_55 : decode cX6_listSlips 55 = .ok (.istore 6, 2) := by decide +kernel
theorem dX6_listSlips_57 : decode cX6_listSlips 57 = .ok (.aload_n 0, 1) := by decide +kernel
theorem dX6_listSlips_58 : decode cX6_listSlips 58 = .ok (.getfield 24, 3) := by decide +kernel
theorem dX6_listSlips_61 : decode cX6_listSlips 61 = .ok (.iload_n 1, 1) := by decide +kernel
theorem dX6_listSlips_62 : decode cX6_listSlips 62 = .ok (.iload 4, 2) := by decide +kernel
theorem dX6_listSlips_64 : decode cX6_listSlips 64 = .ok (.iadd, 1) := by decide +kernel
theorem dX6_listSlips_65 : decode cX6_listSlips 65 = .ok (.iload_n 2, 1) := by decide +kernel
theorem dX6_listSlips_66 : decode cX6_listSlips 66 = .ok (.iload_n 3, 1) := by decide +kernel
theorem dX6_listSlips_67 : decode cX6_listSlips 67 = .ok (.bipush 10, 2) := by decide +kernel
theorem dX6_listSlips_69 : decode cX6_listSlips 69 = .ok (.imul, 1) := by decide +kernel
theorem dX6_listSlips_70 : decode cX6_listSlips 70 = .ok (.if_icmp .lt 16, 3) := by decide +kernel
theorem dX6_listSlips_73 : decode cX6_listSlips 73 = .ok (.iload 6, 2) := by decide +kernel
theorem dX6_listSlips_75 : decode cX6_listSlips 75 = .ok (.iload 5, 2) := by decide +kernel
theorem dX6_listSlips_77 : decode cX6_listSlips 77 = .ok (.isub, 1) := by decide +kernel
theorem dX6_listSlips_78 : decode cX6_listSlips 78 = .ok (.bipush 9, 2) := by decide +kernel
theorem dX6_listSlips_80 : decode cX6_listSlips 80 = .ok (.imul, 1) := by decide +kernel
theorem dX6_listSlips_81 : decode cX6_listSlips 81 = .ok (.iload_n 3, 1) := by decide +kernel
theorem dX6_listSlips_82 : decode cX6_listSlips 82 = .ok (.imul, 1) := by decide +kernel
theorem dX6_listSlips_83 : decode cX6_listSlips 83 = .ok (.goto 4, 3) := by decide +kernel
theorem dX6_listSlips_86 : decode cX6_listSlips 86 = .ok (.iconst 0, 1) := by decide +kernel
theorem dX6_listSlips_87 : decode cX6_listSlips 87 = .ok (.iastore, 1) := by decide +kernel
theorem dX6_listSlips_88 : decode cX6_listSlips 88 = .ok (.iload_n 3, 1) := by decide +kernel
theorem dX6_listSlips_89 : decode cX6_listSlips 89 = .ok (.bipush 10, 2) := by decide +kernel
theorem dX6_listSlips_91 : decode cX6_listSlips 91 = .ok (.imul, 1) := by decide +kernel
theorem dX6_listSlips_92 : decode cX6_listSlips 92 = .ok (.istore_n 3, 1) := by decide +kernel
theorem dX6_listSlips_93 : decode cX6_listSlips 93 = .ok (.iinc 4 1, 3) := by decide +kernel
theorem dX6_listSlips_96 : decode cX6_listSlips 96 = .ok (.goto (-65), 3) := by decide +kernel
theorem dX6_listSlips_99 : decode cX6_listSlips 99 = .ok (.return_, 1) := by decide +kernel
noncomputable def B_X6_listSlips_0 : pb_C := (i_aload 0 (i_getR 31 36 (i_iload 1 (i_const (.int 0) (i_ast 36 63 (fun x => x) (i_aload 0 (i_getR 31 36 (i_iload 1 (i_const (.int 1) (i_ibin (· + ·) (i_iload 2 (i_iun (fun x => -x) (i_ast 36 63 (fun x => x) (i_aload 0 (i_getR 31 36 (i_iload 1 (i_const (.int 2) (i_ibin (· + ·) (i_iload 2 (i_ast 36 63 (fun x => x) (i_const (.int 1) (i_istore 3 (i_const (.int 3) (i_istore 4 (i_jmp 31 [true, true, true, true, true, false, false])))))))))))))))))))))))))
noncomputable def B_X6_listSlips_31 : pb_C := (i_iload 4 (i_const (.int 7) (i_ic_ge i_vret (i_iload 2 (i_iload 3 (i_const (.int 10) (i_ibin (· * ·) (i_idivr (· / ·) (i_const (.int 10) (i_idivr (fun x y => x - x / y * y) (i_istore 5 (i_iload 2 (i_iload 3 (i_idivr (· / ·) (i_const (.int 10) (i_idivr (fun x y => x - x / y * y) (i_istore 6 (i_aload 0 (i_getR 31 36 (i_iload 1 (i_iload 4 (i_ibin (· + ·) (i_iload 2 (i_iload 3 (i_const (.int 10) (i_ibin (· * ·) (i_ic_lt (i_const (.int 0) (i_ast 36 63 (fun x => x) (i_iload 3 (i_const (.int 10) (i_ibin (· * ·) (i_istore 3 (i_iinc 4 1 (i_jmp 31 [true, true, true, true, true, false, false])))))))) (i_iload 6 (i_iload 5 (i_ibin (· - ·) (i_const (.int 9) (i_ibin (· * ·) (i_iload 3 (i_ibin (· * ·) (i_ast 36 63 (fun x => x) (i_iload 3 (i_const (.int 10) (i_ibin (· * ·) (i_istore 3 (i_iinc 4 1 (i_jmp 31 [true, true, true, true, true, false, false])))))))))))))))))))))))))))))))))))))))))
noncomputable def T_X6_listSlips : Nat → pb_C := pb_tt [(0, B_X6_listSlips_0), (31, B_X6_listSlips_31)]
noncomputable def M_X6_listSlips : pb_F := pb_M T_X6_listSlips 7
set_option maxRecDepth 100000 in
set_option maxHeartbeats 4000000 in
theorem S_X6_listSlips (l : Launch) : pb_Sound l yX6_listSlips cX6_listSlips 7 none 1 M_X6_listSlips := by
  refine pb_sound_of (by decide) m_5_88 ?_
  intro Γ hl0 hRm0 hm X E hr J
  have hnL : ∀ j, j < 7 → j < Γ.2.2.2.2.2.2.2.2.2.2.2.1 := fun j h => by rw [hm]; exact h
  have hR : ∀ (d' mL : Nat), d' + 1 ≤ 1 ∧ 8 + (mL + 11) + d' * 64 ≤ 1 * 64 → (pb_rm d').frames + 1 ≤ Γ.2.2.2.1.frames ∧ 8 + (mL + 11) + (pb_rm d').locals ≤ Γ.2.2.2.1.locals := by rw [hRm0]; exact fun _ _ h => h
  have hRm : 1 ≤ 1 ∧ 64 ≤ 1 * 64 → 1 ≤ Γ.2.2.2.1.frames ∧ 64 ≤ Γ.2.2.2.1.locals := by rw [hRm0]; exact fun h => h
  exact pb_tt_snd _ (List.forall_mem_cons.mpr ⟨(s_aload_n (pc := 0) X dX6_listSlips_0 rfl (s_getR (pc := 1) X dX6_listSlips_1 g_X6_24 (s_iload_n (pc := 4) X dX6_listSlips_4 rfl (s_iconst (pc := 5) X dX6_listSlips_5 rfl (s_iast (pc := 6) X dX6_listSlips_6 h_36 (s_aload_n (pc := 7) X dX6_listSlips_7 rfl (s_getR (pc := 8) X dX6_listSlips_8 g_X6_24 (s_iload_n (pc := 11) X dX6_listSlips_11 rfl (s_iconst (pc := 12) X dX6_listSlips_12 rfl (s_iadd (pc := 13) X dX6_listSlips_13 (s_iload_n (pc := 14) X dX6_listSlips_14 rfl (s_ineg (pc := 15) X dX6_listSlips_15 (s_iast (pc := 16) X dX6_listSlips_16 h_36 (s_aload_n (pc := 17) X dX6_listSlips_17 rfl (s_getR (pc := 18) X dX6_listSlips_18 g_X6_24 (s_iload_n (pc := 21) X dX6_listSlips_21 rfl (s_iconst (pc := 22) X dX6_listSlips_22 rfl (s_iadd (pc := 23) X dX6_listSlips_23 (s_iload_n (pc := 24) X dX6_listSlips_24 rfl (s_iast (pc := 25) X dX6_listSlips_25 h_36 (s_iconst (pc := 26) X dX6_listSlips_26 rfl (s_istore_n (pc := 27) X dX6_listSlips_27 rfl (hnL _ (by decide)) (s_iconst (pc := 28) X dX6_listSlips_28 rfl (s_istore (pc := 29) X dX6_listSlips_29 (hnL _ (by decide)) (s_jmp (pc := 31) J [true, true, true, true, true, false, false]))))))))))))))))))))))))), List.forall_mem_cons.mpr ⟨(s_iload (pc := 31) X dX6_listSlips_31 (s_bipush (pc := 33) X dX6_listSlips_33 rfl (s_ic_ge (pc := 35) X dX6_listSlips_35 (by decide) (s_vret (pc := 99) X E hr dX6_listSlips_99) (s_iload_n (pc := 38) X dX6_listSlips_38 rfl (s_iload_n (pc := 39) X dX6_listSlips_39 rfl (s_bipush (pc := 40) X dX6_listSlips_40 rfl (s_imul (pc := 42) X dX6_listSlips_42 (s_idiv (pc := 43) X dX6_listSlips_43 (s_bipush (pc := 44) X dX6_listSlips_44 rfl (s_irem (pc := 46) X dX6_listSlips_46 (s_istore (pc := 47) X dX6_listSlips_47 (hnL _ (by decide)) (s_iload_n (pc := 49) X dX6_listSlips_49 rfl (s_iload_n (pc := 50) X dX6_listSlips_50 rfl (s_idiv (pc := 51) X dX6_listSlips_51 (s_bipush (pc := 52) X dX6_listSlips_52 rfl (s_irem (pc := 54) X dX6_listSlips_54 (s_istore (pc := 55) X dX6_listSlips_55 (hnL _ (by decide)) (s_aload_n (pc := 57) X dX6_listSlips_57 rfl (s_getR (pc := 58) X dX6_listSlips_58 g_X6_24 (s_iload_n (pc := 61) X dX6_listSlips_61 rfl (s_iload (pc := 62) X dX6_listSlips_62 (s_iadd (pc := 64) X dX6_listSlips_64 (s_iload_n (pc := 65) X dX6_listSlips_65 rfl (s_iload_n (pc := 66) X dX6_listSlips_66 rfl (s_bipush (pc := 67) X dX6_listSlips_67 rfl (s_imul (pc := 69) X dX6_listSlips_69 (s_ic_lt (pc := 70) X dX6_listSlips_70 (by decide) (s_iconst (pc := 86) X dX6_listSlips_86 rfl (s_iast (pc := 87) X dX6_listSlips_87 h_36 (s_iload_n (pc := 88) X dX6_listSlips_88 rfl (s_bipush (pc := 89) X dX6_listSlips_89 rfl (s_imul (pc := 91) X dX6_listSlips_91 (s_istore_n (pc := 92) X dX6_listSlips_92 rfl (hnL _ (by decide)) (s_iinc (pc := 93) X dX6_listSlips_93 rfl (s_goto (pc := 96) X dX6_listSlips_96 (by decide) (s_jmp (pc := 31) J [true, true, true, true, true, false, false]))))))))) (s_iload (pc := 73) X dX6_listSlips_73 (s_iload (pc := 75) X dX6_listSlips_75 (s_isub (pc := 77) X dX6_listSlips_77 (s_bipush (pc := 78) X dX6_listSlips_78 rfl (s_imul (pc := 80) X dX6_listSlips_80 (s_iload_n (pc := 81) X dX6_listSlips_81 rfl (s_imul (pc := 82) X dX6_listSlips_82 (s_goto (pc := 83) X dX6_listSlips_83 (by decide) (s_iast (pc := 87) X dX6_listSlips_87 h_36 (s_iload_n (pc := 88) X dX6_listSlips_88 rfl (s_bipush (pc := 89) X dX6_listSlips_89 rfl (s_imul (pc := 91) X dX6_listSlips_91 (s_istore_n (pc := 92) X dX6_listSlips_92 rfl (hnL _ (by decide)) (s_iinc (pc := 93) X dX6_listSlips_93 rfl (s_goto (pc := 96) X dX6_listSlips_96 (by decide) (s_jmp (pc := 31) J [true, true, true, true, true, false, false]))))))))))))))))))))))))))))))))))))))))))), fun _ h => absurd h List.not_mem_nil⟩⟩)
theorem dX6_gather_0 : decode cX6_gather 0 = .ok (.aload_n 0, 1) := by decide +kernel
theorem dX6_gather_1 : decode cX6_gather 1 = .ok (.iconst 0, 1) := by decide +kernel
theorem dX6_gather_2 : decode cX6_gather 2 = .ok (.putfield 67, 3) := by decide +kernel
theorem dX6_gather_5 : decode cX6_gather 5 = .ok (.iconst 0, 1) := by decide +kernel
theorem dX6_gather_6 : decode cX6_gather 6 = .ok (.istore_n 3, 1) := by decide +kernel
theorem dX6_gather_7 : decode cX6_gather 7 = .ok (.iload_n 3, 1) := by decide +kernel
theorem dX6_gather_8 : decode cX6_gather 8 = .ok (.aload_n 0, 1) := by decide +kernel
theorem dX6_gather_9 : decode cX6_gather 9 = .ok (.getfield 33, 3) := by decide +kernel
theorem dX6_gather_12 : decode cX6_gather 12 = .ok (.getfield 85, 3) := by decide +kernel
theorem dX6_gather_15 : decode cX6_gather 15 = .ok (.if_icmp .ge 73, 3) := by decide +kernel
theorem dX6_gather_18 : decode cX6_gather 18 = .ok (.aload_n 0, 1) := by decide +kernel
theorem dX6_gather_19 : decode cX6_gather 19 = .ok (.getfield 33, 3) := by decide +kernel
theorem dX6_gather_22 : decode cX6_gather 22 = .ok (.iload_n 3, 1) := by decide +kernel
theorem dX6_gather_23 : decode cX6_gather 23 = .ok (.iload_n 1, 1) := by decide +kernel
theorem dX6_gather_24 : decode cX6_gather 24 = .ok (.iload_n 2, 1) := by decide +kernel
theorem dX6_gather_25 : decode cX6_gather 25 = .ok (.invokevirtual 88, 3) := by decide +kernel
theorem dX6_gather_28 : decode cX6_gather 28 = .ok (.ifCond .eq 54, 3) := by decide +kernel
theorem dX6_gather_31 : decode cX6_gather 31 = .ok (.aload_n 0, 1) := by decide +kernel
theorem dX6_gather_32 : decode cX6_gather 32 = .ok (.getfield 67, 3) := by decide +kernel
theorem dX6_gather_35 : decode cX6_gather 35 = .ok (.bipush 9, 2) := by decide +kernel
theorem dX6_gather_37 : decode cX6_gather 37 = .ok (.if_icmp .lt 5, 3) := by decide +kernel
theorem dX6_gather_40 : decode cX6_gather 40 = .ok (.iconst 0, 1) := by decide +kernel
theorem dX6_gather_41 : decode cX6_gather 41 = .ok (.ireturn, 1) := by decide +kernel
theorem dX6_gather_42 : decode cX6_gather 42 = .ok (.aload_n 0, 1) := by decide +kernel
theorem dX6_gather_43 : decode cX6_gather 43 = .ok (.getfield 21, 3) := by decide +kernel
theorem dX6_gather_46 : decode cX6_gather 46 = .ok (.aload_n 0, 1) := by decide +kernel
theorem dX6_gather_47 : decode cX6_gather 47 = .ok (.getfield 67, 3) := by decide +kernel
theorem dX6_gather_50 : decode cX6_gather 50 = .ok (.iload_n 3, 1) := by decide +kernel
theorem dX6_gather_51 : decode cX6_gather 51 = .ok (.iastore, 1) := by decide +kernel
theorem dX6_gather_52 : decode cX6_gather 52 = .ok (.aload_n 0, 1) := by decide +kernel
theorem dX6_gather_53 : decode cX6_gather 53 = .ok (.aload_n 0, 1) := by decide +kernel
theorem dX6_gather_54 : decode cX6_gather 54 = .ok (.getfield 67, 3) := by decide +kernel
theorem dX6_gather_57 : decode cX6_gather 57 = .ok (.bipush 7, 2) := by decide +kernel
theorem dX6_gather_59 : decode cX6_gather 59 = .ok (.imul, 1) := by decide +kernel
theorem dX6_gather_60 : decode cX6_gather 60 = .ok (.aload_n 0, 1) := by decide +kernel
theorem dX6_gather_61 : decode cX6_gather 61 = .ok (.getfield 33, 3) := by decide +kernel
theorem dX6_gather_64 : decode cX6_gather 64 = .ok (.getfield 92, 3) := by decide +kernel
theorem dX6_gather_67 : decode cX6_gather 67 = .ok (.iload_n 3, 1) := by decide +kernel
theorem dX6_gather_68 : decode cX6_gather 68 = .ok (.iaload, 1) := by decide +kernel
theorem dX6_gather_69 : decode cX6_gather 69 = .ok (.invokevirtual 95, 3) := by decide +kernel
theorem dX6_gather_72 : decode cX6_gather 72 = .ok (.aload_n 0, 1) := by decide +kernel
theorem dX6_gather_73 : decode cX6_gather 73 = .ok (.dup, 1) := by decide +kernel
theorem dX6_gather_74 : decode cX6_gather 74 = .ok (.getfield 67, 3) := by decide +kernel
theorem dX6_gather_77 : decode cX6_gather 77 = .ok (.iconst 1, 1) := by decide +kernel
theorem dX6_gather_78 : decode cX6_gather 78 = .ok (.iadd, 1) := by decide +kernel
theorem dX6_gather_79 : decode cX6_gather 79 = .ok (.putfield 67, 3) := by decide +kernel
theorem dX6_gather_82 : decode cX6_gather 82 = .ok (.iinc 3 1, 3) := by decide +kernel
theorem dX6_gather_85 : decode cX6_gather 85 = .ok (.goto (-78), 3) := by decide +kernel
theorem dX6_gather_88 : decode cX6_gather 88 = .ok (.iconst 1, 1) := by decide +kernel
theorem dX6_gather_89 : decode cX6_gather 89 = .ok (.ireturn, 1) := by decide +kernel
noncomputable def B_X6_gather_0 : pb_C := (i_aload 0 (i_const (.int 0) (i_putI 31 5 (i_const (.int 0) (i_istore 3 (i_jmp 7 [true, true, true, true]))))))
noncomputable def B_X6_gather_7 : pb_C := (i_iload 3 (i_aload 0 (i_getR 31 5 (i_getI 5 3 (i_ic_ge (i_const (.int 1) i_zret) (i_aload 0 (i_getR 31 5 (i_iload 3 (i_iload 1 (i_iload 2 (i_callV 5 3 1 M_X1_wentFrom_ (i_if_eq (i_iinc 3 1 (i_jmp 7 [true, true, true, true])) (i_aload 0 (i_getI 31 5 (i_const (.int 9) (i_ic_lt (i_aload 0 (i_getR 31 35 (i_aload 0 (i_getI 31 5 (i_iload 3 (i_ast 35 9 (fun x => x) (i_aload 0 (i_aload 0 (i_getI 31 5 (i_const (.int 7) (i_ibin (· * ·) (i_aload 0 (i_getR 31 5 (i_getR 5 16 (i_iload 3 (i_ald 16 200 (i_callV 31 2 0 M_X6_listSlips (i_aload 0 (i_dupR (i_getI 31 5 (i_const (.int 1) (i_ibin (· + ·) (i_putI 31 5 (i_iinc 3 1 (i_jmp 7 [true, true, true, true]))))))))))))))))))))))))) (i_const (.int 0) i_zret)))))))))))))))))
noncomputable def T_X6_gather : Nat → pb_C := pb_tt [(0, B_X6_gather_0), (7, B_X6_gather_7)]
noncomputable def M_X6_gather : pb_F := pb_M T_X6_gather 4
set_option maxRecDepth 100000 in
set_option maxHeartbeats 4000000 in
theorem S_X6_gather (l : Launch) : pb_Sound l yX6_gather cX6_gather 4 (some .boolean) 3 M_X6_gather := by
  refine pb_sound_of (by decide) m_5_83 ?_
  intro Γ hl0 hRm0 hm X E hr J
  have hnL : ∀ j, j < 4 → j < Γ.2.2.2.2.2.2.2.2.2.2.2.1 := fun j h => by rw [hm]; exact h
  have hR : ∀ (d' mL : Nat), d' + 1 ≤ 3 ∧ 8 + (mL + 11) + d' * 64 ≤ 3 * 64 → (pb_rm d').frames + 1 ≤ Γ.2.2.2.1.frames ∧ 8 + (mL + 11) + (pb_rm d').locals ≤ Γ.2.2.2.1.locals := by rw [hRm0]; exact fun _ _ h => h
  have hRm : 1 ≤ 3 ∧ 64 ≤ 3 * 64 → 1 ≤ Γ.2.2.2.1.frames ∧ 64 ≤ Γ.2.2.2.1.locals := by rw [hRm0]; exact fun h => h
  exact pb_tt_snd _ (List.forall_mem_cons.mpr ⟨(s_aload_n (pc := 0) X dX6_gather_0 rfl (s_iconst (pc := 1) X dX6_gather_1 rfl (s_putI (pc := 2) X dX6_gather_2 p_X6_67 (s_iconst (pc := 5) X dX6_gather_5 rfl (s_istore_n (pc := 6) X dX6_gather_6 rfl (hnL _ (by decide)) (s_jmp (pc := 7) J [true, true, true, true])))))), List.forall_mem_cons.mpr ⟨(s_iload_n (pc := 7) X dX6_gather_7 rfl (s_aload_n (pc := 8) X dX6_gather_8 rfl (s_getR (pc := 9) X dX6_gather_9 g_X6_33 (s_getI (pc := 12) X dX6_gather_12 g_X6_85 (s_ic_ge (pc := 15) X dX6_gather_15 (by decide) (s_iconst (pc := 88) X dX6_gather_88 rfl (s_zret (pc := 89) X E hr dX6_gather_89)) (s_aload_n (pc := 18) X dX6_gather_18 rfl (s_getR (pc := 19) X dX6_gather_19 g_X6_33 (s_iload_n (pc := 22) X dX6_gather_22 rfl (s_iload_n (pc := 23) X dX6_gather_23 rfl (s_iload_n (pc := 24) X dX6_gather_24 rfl (s_callV (pc := 25) X dX6_gather_25 (S_X1_wentFrom_ _) q_X6_88 h_5 rfl (hR _ _ (by decide)) (s_if_eq (pc := 28) X dX6_gather_28 (by decide) (s_iinc (pc := 82) X dX6_gather_82 rfl (s_goto (pc := 85) X dX6_gather_85 (by decide) (s_jmp (pc := 7) J [true, true, true, true]))) (s_aload_n (pc := 31) X dX6_gather_31 rfl (s_getI (pc := 32) X dX6_gather_32 g_X6_67 (s_bipush (pc := 35) X dX6_gather_35 rfl (s_ic_lt (pc := 37) X dX6_gather_37 (by decide) (s_aload_n (pc := 42) X dX6_gather_42 rfl (s_getR (pc := 43) X dX6_gather_43 g_X6_21 (s_aload_n (pc := 46) X dX6_gather_46 rfl (s_getI (pc := 47) X dX6_gather_47 g_X6_67 (s_iload_n (pc := 50) X dX6_gather_50 rfl (s_iast (pc := 51) X dX6_gather_51 h_35 (s_aload_n (pc := 52) X dX6_gather_52 rfl (s_aload_n (pc := 53) X dX6_gather_53 rfl (s_getI (pc := 54) X dX6_gather_54 g_X6_67 (s_bipush (pc := 57) X dX6_gather_57 rfl (s_imul (pc := 59) X dX6_gather_59 (s_aload_n (pc := 60) X dX6_gather_60 rfl (s_getR (pc := 61) X dX6_gather_61 g_X6_33 (s_getR (pc := 64) X dX6_gather_64 g_X6_92 (s_iload_n (pc := 67) X dX6_gather_67 rfl (s_iald (pc := 68) X dX6_gather_68 h_16 (s_callV (pc := 69) X dX6_gather_69 (S_X6_listSlips _) q_X6_95 h_31 rfl (hR _ _ (by decide)) (s_aload_n (pc := 72) X dX6_gather_72 rfl (s_dupR (pc := 73) X dX6_gather_73 (s_getI (pc := 74) X dX6_gather_74 g_X6_67 (s_iconst (pc := 77) X dX6_gather_77 rfl (s_iadd (pc := 78) X dX6_gather_78 (s_putI (pc := 79) X dX6_gather_79 p_X6_67 (s_iinc (pc := 82) X dX6_gather_82 rfl (s_goto (pc := 85) X dX6_gather_85 (by decide) (s_jmp (pc := 7) J [true, true, true, true])))))))))))))))))))))))))) (s_iconst (pc := 40) X dX6_gather_40 rfl (s_zret (pc := 41) X E hr dX6_gather_41)))))))))))))))))), fun _ h => absurd h List.not_mem_nil⟩⟩)
theorem dX6_found_0 : decode cX6_found 0 = .ok (.aload_n 0, 1) := by decide +kernel
theorem dX6_found_1 : decode cX6_found 1 = .ok (.getfield 75, 3) := by decide +kernel
theorem dX6_found_4 : decode cX6_found 4 = .ok (.ifCond .ne 25, 3) := by decide +kernel
theorem dX6_found_7 : decode cX6_found 7 = .ok (.aload_n 0, 1) := by decide +kernel
theorem dX6_found_8 : decode cX6_found 8 = .ok (.iload_n 1, 1) := by decide +kernel
theorem dX6_found_9 : decode cX6_found 9 = .ok (.putfield 106, 3) := by decide +kernel
theorem dX6_found_12 : decode cX6_found 12 = .ok (.aload_n 0, 1) := by decide +kernel
theorem dX6_found_13 : decode cX6_found 13 = .ok (.getfield 27, 3) := by decide +kernel
theorem dX6_found_16 : decode cX6_found 16 = .ok (.iconst 0, 1) := by decide +kernel
theorem dX6_found_17 : decode cX6_found 17 = .ok (.aload_n 0, 1) := by decide +kernel
theorem dX6_found_18 : decode cX6_found 18 = .ok (.getfield 30, 3) := by decide +kernel
theorem dX6_found_21 : decode cX6_found 21 = .ok (.iconst 0, 1) := by decide +kernel
theorem dX6_found_22 : decode cX6_found 22 = .ok (.aload_n 0, 1) := by decide +kernel
theorem dX6_found_23 : decode cX6_found 23 = .ok (.getfield 67, 3) := by decide +kernel
theorem dX6_found_26 : decode cX6_found 26 = .ok (.invokestatic 109, 3) := by decide +kernel
theorem dX6_found_29 : decode cX6_found 29 = .ok (.aload_n 0, 1) := by decide +kernel
theorem dX6_found_30 : decode cX6_found 30 = .ok (.dup, 1) := by decide +kernel
theorem dX6_found_31 : decode cX6_found 31 = .ok (.getfield 75, 3) := by decide +kernel
theorem dX6_found_34 : decode cX6_found 34 = .ok (.iconst 1, 1) := by decide +kernel
theorem dX6_found_35 : decode cX6_found 35 = .ok (.iadd, 1) := by decide +kernel
theorem dX6_found_36 : decode cX6_found 36 = .ok (.putfield 75, 3) := by decide +kernel
theorem dX6_found_39 : decode cX6_found 39 = .ok (.return_, 1) := by decide +kernel
noncomputable def B_X6_found_0 : pb_C := (i_aload 0 (i_getI 31 11 (i_if_ne (i_aload 0 (i_dupR (i_getI 31 11 (i_const (.int 1) (i_ibin (· + ·) (i_putI 31 11 i_vret)))))) (i_aload 0 (i_iload 1 (i_putI 31 12 (i_aload 0 (i_getR 31 37 (i_const (.int 0) (i_aload 0 (i_getR 31 38 (i_const (.int 0) (i_aload 0 (i_getI 31 5 (i_copy 37 9 38 9 (i_aload 0 (i_dupR (i_getI 31 11 (i_const (.int 1) (i_ibin (· + ·) (i_putI 31 11 i_vret)))))))))))))))))))))
noncomputable def T_X6_found : Nat → pb_C := pb_tt [(0, B_X6_found_0)]
noncomputable def M_X6_found : pb_F := pb_M T_X6_found 2
set_option maxRecDepth 100000 in
set_option maxHeartbeats 4000000 in
theorem S_X6_found (l : Launch) : pb_Sound l yX6_found cX6_found 2 none 1 M_X6_found := by
  refine pb_sound_of (by decide) m_5_101 ?_
  intro Γ hl0 hRm0 hm X E hr J
  have hnL : ∀ j, j < 2 → j < Γ.2.2.2.2.2.2.2.2.2.2.2.1 := fun j h => by rw [hm]; exact h
  have hR : ∀ (d' mL : Nat), d' + 1 ≤ 1 ∧ 8 + (mL + 11) + d' * 64 ≤ 1 * 64 → (pb_rm d').frames + 1 ≤ Γ.2.2.2.1.frames ∧ 8 + (mL + 11) + (pb_rm d').locals ≤ Γ.2.2.2.1.locals := by rw [hRm0]; exact fun _ _ h => h
  have hRm : 1 ≤ 1 ∧ 64 ≤ 1 * 64 → 1 ≤ Γ.2.2.2.1.frames ∧ 64 ≤ Γ.2.2.2.1.locals := by rw [hRm0]; exact fun h => h
  exact pb_tt_snd _ (List.forall_mem_cons.mpr ⟨(s_aload_n (pc := 0) X dX6_found_0 rfl (s_getI (pc := 1) X dX6_found_1 g_X6_75 (s_if_ne (pc := 4) X dX6_found_4 (by decide) (s_aload_n (pc := 29) X dX6_found_29 rfl (s_dupR (pc := 30) X dX6_found_30 (s_getI (pc := 31) X dX6_found_31 g_X6_75 (s_iconst (pc := 34) X dX6_found_34 rfl (s_iadd (pc := 35) X dX6_found_35 (s_putI (pc := 36) X dX6_found_36 p_X6_75 (s_vret (pc := 39) X E hr dX6_found_39))))))) (s_aload_n (pc := 7) X dX6_found_7 rfl (s_iload_n (pc := 8) X dX6_found_8 rfl (s_putI (pc := 9) X dX6_found_9 p_X6_106 (s_aload_n (pc := 12) X dX6_found_12 rfl (s_getR (pc := 13) X dX6_found_13 g_X6_27 (s_iconst (pc := 16) X dX6_found_16 rfl (s_aload_n (pc := 17) X dX6_found_17 rfl (s_getR (pc := 18) X dX6_found_18 g_X6_30 (s_iconst (pc := 21) X dX6_found_21 rfl (s_aload_n (pc := 22) X dX6_found_22 rfl (s_getI (pc := 23) X dX6_found_23 g_X6_67 (s_copy (pc := 26) X dX6_found_26 m_5_102 m_nat h_37 h_38 (hRm (by decide)) (s_aload_n (pc := 29) X dX6_found_29 rfl (s_dupR (pc := 30) X dX6_found_30 (s_getI (pc := 31) X dX6_found_31 g_X6_75 (s_iconst (pc := 34) X dX6_found_34 rfl (s_iadd (pc := 35) X dX6_found_35 (s_putI (pc := 36) X dX6_found_36 p_X6_75 (s_vret (pc := 39) X E hr dX6_found_39)))))))))))))))))))))), fun _ h => absurd h List.not_mem_nil⟩)
theorem dX6_tryCarry_0 : decode cX6_tryCarry 0 = .ok (.iload_n 2, 1) := by decide +kernel
theorem dX6_tryCarry_1 : decode cX6_tryCarry 1 = .ok (.bipush (-12), 2) := by decide +kernel
theorem dX6_tryCarry_3 : decode cX6_tryCarry 3 = .ok (.iload_n 1, 1) := by decide +kernel
theorem dX6_tryCarry_4 : decode cX6_tryCarry 4 = .ok (.imul, 1) := by decide +kernel
theorem dX6_tryCarry_5 : decode cX6_tryCarry 5 = .ok (.if_icmp .ne 12, 3) := by decide +kernel
theorem dX6_tryCarry_8 : decode cX6_tryCarry 8 = .ok (.aload_n 0, 1) := by decide +kernel
theorem dX6_tryCarry_9 : decode cX6_tryCarry 9 = .ok (.iload_n 1, 1) := by decide +kernel
theorem dX6_tryCarry_10 : decode cX6_tryCarry 10 = .ok (.ineg, 1) := by decide +kernel
theorem dX6_tryCarry_11 : decode cX6_tryCarry 11 = .ok (.invokevirtual 102, 3) := by decide +kernel
theorem dX6_tryCarry_14 : decode cX6_tryCarry 14 = .ok (.goto 16, 3) := by decide +kernel
theorem dX6_tryCarry_17 : decode cX6_tryCarry 17 = .ok (.iload_n 2, 1) := by decide +kernel
theorem dX6_tryCarry_18 : decode cX6_tryCarry 18 = .ok (.bipush 12, 2) := by decide +kernel
theorem dX6_tryCarry_20 : decode cX6_tryCarry 20 = .ok (.iload_n 1, 1) := by decide +kernel
theorem dX6_tryCarry_21 : decode cX6_tryCarry 21 = .ok (.imul, 1) := by decide +kernel
theorem dX6_tryCarry_22 : decode cX6_tryCarry 22 = .ok (.if_icmp .ne 8, 3) := by decide +kernel
theorem dX6_tryCarry_25 : decode cX6_tryCarry 25 = .ok (.aload_n 0, 1) := by decide +kernel
theorem dX6_tryCarry_26 : decode cX6_tryCarry 26 = .ok (.iload_n 1, 1) := by decide +kernel
theorem dX6_tryCarry_27 : decode cX6_tryCarry 27 = .ok (.invokevirtual 102, 3) := by decide +kernel
theorem dX6_tryCarry_30 : decode cX6_tryCarry 30 = .ok (.return_, 1) := by decide +kernel
noncomputable def B_X6_tryCarry_0 : pb_C := (i_iload 2 (i_const (.int (-12)) (i_iload 1 (i_ibin (· * ·) (i_ic_ne (i_iload 2 (i_const (.int 12) (i_iload 1 (i_ibin (· * ·) (i_ic_ne i_vret (i_aload 0 (i_iload 1 (i_callV 31 1 0 M_X6_found i_vret)))))))) (i_aload 0 (i_iload 1 (i_iun (fun x => -x) (i_callV 31 1 0 M_X6_found i_vret)))))))))
noncomputable def T_X6_tryCarry : Nat → pb_C := pb_tt [(0, B_X6_tryCarry_0)]
noncomputable def M_X6_tryCarry : pb_F := pb_M T_X6_tryCarry 3
set_option maxRecDepth 100000 in
set_option maxHeartbeats 4000000 in
theorem S_X6_tryCarry (l : Launch) : pb_Sound l yX6_tryCarry cX6_tryCarry 3 none 2 M_X6_tryCarry := by
  refine pb_sound_of (by decide) m_5_97 ?_
  intro Γ hl0 hRm0 hm X E hr J
  have hnL : ∀ j, j < 3 → j < Γ.2.2.2.2.2.2.2.2.2.2.2.1 := fun j h => by rw [hm]; exact h
  have hR : ∀ (d' mL : Nat), d' + 1 ≤ 2 ∧ 8 + (mL + 11) + d' * 64 ≤ 2 * 64 → (pb_rm d').frames + 1 ≤ Γ.2.2.2.1.frames ∧ 8 + (mL + 11) + (pb_rm d').locals ≤ Γ.2.2.2.1.locals := by rw [hRm0]; exact fun _ _ h => h
  have hRm : 1 ≤ 2 ∧ 64 ≤ 2 * 64 → 1 ≤ Γ.2.2.2.1.frames ∧ 64 ≤ Γ.2.2.2.1.locals := by rw [hRm0]; exact fun h => h
  exact pb_tt_snd _ (List.forall_mem_cons.mpr ⟨(s_iload_n (pc := 0) X dX6_tryCarry_0 rfl (s_bipush (pc := 1) X dX6_tryCarry_1 rfl (s_iload_n (pc := 3) X dX6_tryCarry_3 rfl (s_imul (pc := 4) X dX6_tryCarry_4 (s_ic_ne (pc := 5) X dX6_tryCarry_5 (by decide) (s_iload_n (pc := 17) X dX6_tryCarry_17 rfl (s_bipush (pc := 18) X dX6_tryCarry_18 rfl (s_iload_n (pc := 20) X dX6_tryCarry_20 rfl (s_imul (pc := 21) X dX6_tryCarry_21 (s_ic_ne (pc := 22) X dX6_tryCarry_22 (by decide) (s_vret (pc := 30) X E hr dX6_tryCarry_30) (s_aload_n (pc := 25) X dX6_tryCarry_25 rfl (s_iload_n (pc := 26) X dX6_tryCarry_26 rfl (s_callV (pc := 27) X dX6_tryCarry_27 (S_X6_found _) q_X6_102 h_31 rfl (hR _ _ (by decide)) (s_vret (pc := 30) X E hr dX6_tryCarry_30))))))))) (s_aload_n (pc := 8) X dX6_tryCarry_8 rfl (s_iload_n (pc := 9) X dX6_tryCarry_9 rfl (s_ineg (pc := 10) X dX6_tryCarry_10 (s_callV (pc := 11) X dX6_tryCarry_11 (S_X6_found _) q_X6_102 h_31 rfl (hR _ _ (by decide)) (s_goto (pc := 14) X dX6_tryCarry_14 (by decide) (s_vret (pc := 30) X E hr dX6_tryCarry_30))))))))))), fun _ h => absurd h List.not_mem_nil⟩)
theorem dX6_tryFrom_0 : decode cX6_tryFrom 0 = .ok (.iload_n 1, 1) := by decide +kernel
theorem dX6_tryFrom_1 : decode cX6_tryFrom 1 = .ok (.aload_n 0, 1) := by decide +kernel
theorem dX6_tryFrom_2 : decode cX6_tryFrom 2 = .ok (.getfield 67, 3) := by decide +kernel
theorem dX6_tryFrom_5 : decode cX6_tryFrom 5 = .ok (.if_icmp .lt 10, 3) := by decide +kernel
theorem dX6_tryFrom_8 : decode cX6_tryFrom 8 = .ok (.aload_n 0, 1) := by decide +kernel
theorem dX6_tryFrom_9 : decode cX6_tryFrom 9 = .ok (.iload_n 2, 1) := by decide +kernel
theorem dX6_tryFrom_10 : decode cX6_tryFrom 10 = .ok (.iload_n 3, 1) := by decide +kernel
theorem dX6_tryFrom_11 : decode cX6_tryFrom 11 = .ok (.invokevirtual 99, 3) := by decide +kernel
theorem dX6_tryFrom_14 : decode cX6_tryFrom 14 = .ok (.return_, 1) := by decide +kernel
theorem dX6_tryFrom_15 : decode cX6_tryFrom 15 = .ok (.aload_n 0, 1) := by decide +kernel
theorem dX6_tryFrom_16 : decode cX6_tryFrom 16 = .ok (.getfield 27, 3) := by decide +kernel
theorem dX6_tryFrom_19 : decode cX6_tryFrom 19 = .ok (.iload_n 1, 1) := by decide +kernel
theorem dX6_tryFrom_20 : decode cX6_tryFrom 20 = .ok (.iconst 0, 1) := by decide +kernel
theorem dX6_tryFrom_21 : decode cX6_tryFrom 21 = .ok (.iastore, 1) := by decide +kernel
theorem dX6_tryFrom_22 : decode cX6_tryFrom 22 = .ok (.iload_n 2, 1) := by decide +kernel
theorem dX6_tryFrom_23 : decode cX6_tryFrom 23 = .ok (.ifCond .ne 8, 3) := by decide +kernel
theorem dX6_tryFrom_26 : decode cX6_tryFrom 26 = .ok (.iload_n 3, 1) := by decide +kernel
theorem dX6_tryFrom_27 : decode cX6_tryFrom 27 = .ok (.ifCond .eq 4, 3) := by decide +kernel
theorem dX6_tryFrom_30 : decode cX6_tryFrom 30 = .ok (.return_, 1) := by decide +kernel
theorem dX6_tryFrom_31 : decode cX6_tryFrom 31 = .ok (.aload_n 0, 1) := by decide +kernel
theorem dX6_tryFrom_32 : decode cX6_tryFrom 32 = .ok (.iload_n 1, 1) := by decide +kernel
theorem dX6_tryFrom_33 : decode cX6_tryFrom 33 = .ok (.iconst 1, 1) := by decide +kernel
theorem dX6_tryFrom_34 : decode cX6_tryFrom 34 = .ok (.iadd, 1) := by decide +kernel
theorem dX6_tryFrom_35 : decode cX6_tryFrom 35 = .ok (.iload_n 2, 1) := by decide +kernel
theorem dX6_tryFrom_36 : decode cX6_tryFrom 36 = .ok (.iload_n 3, 1) := by decide +kernel
theorem dX6_tryFrom_37 : decode cX6_tryFrom 37 = .ok (.invokevirtual 81, 3) := by decide +kernel
theorem dX6_tryFrom_40 : decode cX6_tryFrom 40 = .ok (.iconst 1, 1) := by decide +kernel
theorem dX6_tryFrom_41 : decode cX6_tryFrom 41 = .ok (.istore 4, 2) := by decide +kernel
theorem dX6_tryFrom_43 : decode cX6_tryFrom 43 = .ok (.iload 4, 2) := by decide +kernel
theorem dX6_tryFrom_45 : decode cX6_tryFrom 45 = .ok (.bipush 7, 2) := by decide +kernel
theorem dX6_tryFrom_47 : decode cX6_tryFrom 47 = .ok (.if_icmp .ge 54, 3) := by decide +kernel
theorem dX6_tryFrom_50 : decode cX6_tryFrom 50 = .ok (.iload_n 2, 1) := by decide +kernel
theorem dX6_tryFrom_51 : decode cX6_tryFrom 51 = .ok (.ifCond .le 50, 3) := by decide +kernel
theorem dX6_tryFrom_54 : decode cX6_tryFrom 54 = .ok (.aload_n 0, 1) := by decide +kernel
theorem dX6_tryFrom_55 : decode cX6_tryFrom 55 = .ok (.getfield 24, 3) := by decide +kernel
theorem dX6_tryFrom_58 : decode cX6_tryFrom 58 = .ok (.iload_n 1, 1) := by decide +kernel
theorem dX6_tryFrom_59 : decode cX6_tryFrom 59 = .ok (.bipush 7, 2) := by decide +kernel
theorem dX6_tryFrom_61 : decode cX6_tryFrom 61 = .ok (.imul, 1) := by decide +kernel
theorem dX6_tryFrom_62 : decode cX6_tryFrom 62 = .ok (.iload 4, 2) := by decide +kernel
theorem dX6_tryFrom_64 : decode cX6_tryFrom 64 = .ok (.iadd, 1) := by decide +kernel
theorem dX6_tryFrom_65 : decode cX6_tryFrom 65 = .ok (.iaload, 1) := by decide +kernel
theorem dX6_tryFrom_66 : decode cX6_tryFrom 66 = .ok (.istore 5, 2) := by decide +kernel
theorem dX6_tryFrom_68 : decode cX6_tryFrom 68 = .ok (.iload 5, 2) := by decide +kernel
theorem dX6_tryFrom_70 : decode cX6_tryFrom 70 = .ok (.ifCond .eq 25, 3) := by decide +kernel
theorem dX6_tryFrom_73 : decode cX6_tryFrom 73 = .ok (.aload_n 0, 1) := by decide +kernel
theorem dX6_tryFrom_74 : decode cX6_tryFrom 74 = .ok (.getfield 27, 3) := by decide +kernel
theorem dX6_tryFrom_77 : decode cX6_tryFrom 77 = .ok (.iload_n 1, 1) := by decide +kernel
theorem dX6_tryFrom_78 : decode cX6_tryFrom 78 = .ok (.iload 4, 2) := by decide +kernel
theorem dX6_tryFrom_80 : decode cX6_tryFrom 80 = .ok (.iastore, 1) := by decide +kernel
theorem dX6_tryFrom_81 : decode cX6_tryFrom 81 = .ok (.aload_n 0, 1) := by decide +kernel
theorem dX6_tryFrom_82 : decode cX6_tryFrom 82 = .ok (.iload_n 1, 1) := by decide +kernel
theorem dX6_tryFrom_83 : decode cX6_tryFrom 83 = .ok (.iconst 1, 1) := by decide +kernel
theorem dX6_tryFrom_84 : decode cX6_tryFrom 84 = .ok (.iadd, 1) := by decide +kernel
theorem dX6_tryFrom_85 : decode cX6_tryFrom 85 = .ok (.iload_n 2, 1) := by decide +kernel
theorem dX6_tryFrom_86 : decode cX6_tryFrom 86 = .ok (.iconst 1, 1) := by decide +kernel
theorem dX6_tryFrom_87 : decode cX6_tryFrom 87 = .ok (.isub, 1) := by decide +kernel
theorem dX6_tryFrom_88 : decode cX6_tryFrom 88 = .ok (.iload_n 3, 1) := by decide +kernel
theorem dX6_tryFrom_89 : decode cX6_tryFrom 89 = .ok (.iload 5, 2) := by decide +kernel
theorem dX6_tryFrom_91 : decode cX6_tryFrom 91 = .ok (.isub, 1) := by decide +kernel
theorem dX6_tryFrom_92 : decode cX6_tryFrom 92 = .ok (.invokevirtual 81, 3) := by decide +kernel
theorem dX6_tryFrom_95 : decode cX6_tryFrom 95 = .ok (.iinc 4 1, 3) := by decide +kernel
theorem dX6_tryFrom_98 : decode cX6_tryFrom 98 = .ok (.goto (-55), 3) := by decide +kernel
theorem dX6_tryFrom_101 : decode cX6_tryFrom 101 = .ok (.return_, 1) := by decide +kernel
noncomputable def B_X6_tryFrom_0 (F : pb_F) : pb_C := (i_iload 1 (i_aload 0 (i_getI 31 5 (i_ic_lt (i_aload 0 (i_getR 31 37 (i_iload 1 (i_const (.int 0) (i_ast 37 9 (fun x => x) (i_iload 2 (i_if_ne (i_aload 0 (i_iload 1 (i_const (.int 1) (i_ibin (· + ·) (i_iload 2 (i_iload 3 (i_callV 31 3 0 F (i_const (.int 1) (i_istore 4 (i_jmp 43 [true, true, true, true, true, false])))))))))) (i_iload 3 (i_if_eq (i_aload 0 (i_iload 1 (i_const (.int 1) (i_ibin (· + ·) (i_iload 2 (i_iload 3 (i_callV 31 3 0 F (i_const (.int 1) (i_istore 4 (i_jmp 43 [true, true, true, true, true, false])))))))))) i_vret))))))))) (i_aload 0 (i_iload 2 (i_iload 3 (i_callV 31 2 0 M_X6_tryCarry i_vret))))))))
noncomputable def B_X6_tryFrom_43 (F : pb_F) : pb_C := (i_iload 4 (i_const (.int 7) (i_ic_ge i_vret (i_iload 2 (i_if_le i_vret (i_aload 0 (i_getR 31 36 (i_iload 1 (i_const (.int 7) (i_ibin (· * ·) (i_iload 4 (i_ibin (· + ·) (i_ald 36 63 (i_istore 5 (i_iload 5 (i_if_eq (i_iinc 4 1 (i_jmp 43 [true, true, true, true, true, false])) (i_aload 0 (i_getR 31 37 (i_iload 1 (i_iload 4 (i_ast 37 9 (fun x => x) (i_aload 0 (i_iload 1 (i_const (.int 1) (i_ibin (· + ·) (i_iload 2 (i_const (.int 1) (i_ibin (· - ·) (i_iload 3 (i_iload 5 (i_ibin (· - ·) (i_callV 31 3 0 F (i_iinc 4 1 (i_jmp 43 [true, true, true, true, true, false]))))))))))))))))))))))))))))))))))
noncomputable def T_X6_tryFrom (F : pb_F) : Nat → pb_C := pb_tt [(0, B_X6_tryFrom_0 F), (43, B_X6_tryFrom_43 F)]
noncomputable def M_X6_tryFrom_ : Nat → pb_F
  | 0 => fun _ _ => none
  | n + 1 => pb_M (T_X6_tryFrom (M_X6_tryFrom_ n)) 6
set_option maxRecDepth 100000 in
set_option maxHeartbeats 4000000 in
theorem S_X6_tryFrom_ (n : Nat) : ∀ (l : Launch), pb_Sound l yX6_tryFrom cX6_tryFrom 6 none (3 + n) (M_X6_tryFrom_ n) := by
  induction n with
  | zero => exact fun l => ⟨m_5_93, fun _ _ _ _ _ _ _ h => by cases h⟩
  | succ n ih =>
    intro l
    show pb_Sound l _ _ _ _ _ (pb_M (T_X6_tryFrom (M_X6_tryFrom_ n)) 6)
    refine pb_sound_of (by decide) m_5_93 ?_
    intro Γ hl0 hRm0 hm X E hr J
    have hnL : ∀ j, j < 6 → j < Γ.2.2.2.2.2.2.2.2.2.2.2.1 := fun j h => by rw [hm]; exact h
    have hR : ∀ (d' mL : Nat), d' + 1 ≤ (3 + (n + 1)) ∧ 8 + (mL + 11) + d' * 64 ≤ (3 + (n + 1)) * 64 → (pb_rm d').frames + 1 ≤ Γ.2.2.2.1.frames ∧ 8 + (mL + 11) + (pb_rm d').locals ≤ Γ.2.2.2.1.locals := by rw [hRm0]; exact fun _ _ h => h
    have hRm : 1 ≤ (3 + (n + 1)) ∧ 64 ≤ (3 + (n + 1)) * 64 → 1 ≤ Γ.2.2.2.1.frames ∧ 64 ≤ Γ.2.2.2.1.locals := by rw [hRm0]; exact fun h => h
    exact pb_tt_snd _ (List.forall_mem_cons.mpr ⟨(s_iload_n (pc := 0) X dX6_tryFrom_0 rfl (s_aload_n (pc := 1) X dX6_tryFrom_1 rfl (s_getI (pc := 2) X dX6_tryFrom_2 g_X6_67 (s_ic_lt (pc := 5) X dX6_tryFrom_5 (by decide) (s_aload_n (pc := 15) X dX6_tryFrom_15 rfl (s_getR (pc := 16) X dX6_tryFrom_16 g_X6_27 (s_iload_n (pc := 19) X dX6_tryFrom_19 rfl (s_iconst (pc := 20) X dX6_tryFrom_20 rfl (s_iast (pc := 21) X dX6_tryFrom_21 h_37 (s_iload_n (pc := 22) X dX6_tryFrom_22 rfl (s_if_ne (pc := 23) X dX6_tryFrom_23 (by decide) (s_aload_n (pc := 31) X dX6_tryFrom_31 rfl (s_iload_n (pc := 32) X dX6_tryFrom_32 rfl (s_iconst (pc := 33) X dX6_tryFrom_33 rfl (s_iadd (pc := 34) X dX6_tryFrom_34 (s_iload_n (pc := 35) X dX6_tryFrom_35 rfl (s_iload_n (pc := 36) X dX6_tryFrom_36 rfl (s_callV (pc := 37) X dX6_tryFrom_37 (ih _) q_X6_81 h_31 rfl (hR _ _ (by omega)) (s_iconst (pc := 40) X dX6_tryFrom_40 rfl (s_istore (pc := 41) X dX6_tryFrom_41 (hnL _ (by decide)) (s_jmp (pc := 43) J [true, true, true, true, true, false])))))))))) (s_iload_n (pc := 26) X dX6_tryFrom_26 rfl (s_if_eq (pc := 27) X dX6_tryFrom_27 (by decide) (s_aload_n (pc := 31) X dX6_tryFrom_31 rfl (s_iload_n (pc := 32) X dX6_tryFrom_32 rfl (s_iconst (pc := 33) X dX6_tryFrom_33 rfl (s_iadd (pc := 34) X dX6_tryFrom_34 (s_iload_n (pc := 35) X dX6_tryFrom_35 rfl (s_iload_n (pc := 36) X dX6_tryFrom_36 rfl (s_callV (pc := 37) X dX6_tryFrom_37 (ih _) q_X6_81 h_31 rfl (hR _ _ (by omega)) (s_iconst (pc := 40) X dX6_tryFrom_40 rfl (s_istore (pc := 41) X dX6_tryFrom_41 (hnL _ (by decide)) (s_jmp (pc := 43) J [true, true, true, true, true, false])))))))))) (s_vret (pc := 30) X E hr dX6_tryFrom_30)))))))))) (s_aload_n (pc := 8) X dX6_tryFrom_8 rfl (s_iload_n (pc := 9) X dX6_tryFrom_9 rfl (s_iload_n (pc := 10) X dX6_tryFrom_10 rfl (s_callV (pc := 11) X dX6_tryFrom_11 (S_X6_tryCarry _) q_X6_99 h_31 rfl (hR _ _ (by omega)) (s_vret (pc := 14) X E hr dX6_tryFrom_14))))))))), List.forall_mem_cons.mpr ⟨(s_iload (pc := 43) X dX6_tryFrom_43 (s_bipush (pc := 45) X dX6_tryFrom_45 rfl (s_ic_ge (pc := 47) X dX6_tryFrom_47 (by decide) (s_vret (pc := 101) X E hr dX6_tryFrom_101) (s_iload_n (pc := 50) X dX6_tryFrom_50 rfl (s_if_le (pc := 51) X dX6_tryFrom_51 (by decide) (s_vret (pc := 101) X E hr dX6_tryFrom_101) (s_aload_n (pc := 54) X dX6_tryFrom_54 rfl (s_getR (pc := 55) X dX6_tryFrom_55 g_X6_24 (s_iload_n (pc := 58) X dX6_tryFrom_58 rfl (s_bipush (pc := 59) X dX6_tryFrom_59 rfl (s_imul (pc := 61) X dX6_tryFrom_61 (s_iload (pc := 62) X dX6_tryFrom_62 (s_iadd (pc := 64) X dX6_tryFrom_64 (s_iald (pc := 65) X dX6_tryFrom_65 h_36 (s_istore (pc := 66) X dX6_tryFrom_66 (hnL _ (by decide)) (s_iload (pc := 68) X dX6_tryFrom_68 (s_if_eq (pc := 70) X dX6_tryFrom_70 (by decide) (s_iinc (pc := 95) X dX6_tryFrom_95 rfl (s_goto (pc := 98) X dX6_tryFrom_98 (by decide) (s_jmp (pc := 43) J [true, true, true, true, true, false]))) (s_aload_n (pc := 73) X dX6_tryFrom_73 rfl (s_getR (pc := 74) X dX6_tryFrom_74 g_X6_27 (s_iload_n (pc := 77) X dX6_tryFrom_77 rfl (s_iload (pc := 78) X dX6_tryFrom_78 (s_iast (pc := 80) X dX6_tryFrom_80 h_37 (s_aload_n (pc := 81) X dX6_tryFrom_81 rfl (s_iload_n (pc := 82) X dX6_tryFrom_82 rfl (s_iconst (pc := 83) X dX6_tryFrom_83 rfl (s_iadd (pc := 84) X dX6_tryFrom_84 (s_iload_n (pc := 85) X dX6_tryFrom_85 rfl (s_iconst (pc := 86) X dX6_tryFrom_86 rfl (s_isub (pc := 87) X dX6_tryFrom_87 (s_iload_n (pc := 88) X dX6_tryFrom_88 rfl (s_iload (pc := 89) X dX6_tryFrom_89 (s_isub (pc := 91) X dX6_tryFrom_91 (s_callV (pc := 92) X dX6_tryFrom_92 (ih _) q_X6_81 h_31 rfl (hR _ _ (by omega)) (s_iinc (pc := 95) X dX6_tryFrom_95 rfl (s_goto (pc := 98) X dX6_tryFrom_98 (by decide) (s_jmp (pc := 43) J [true, true, true, true, true, false]))))))))))))))))))))))))))))))))))), fun _ h => absurd h List.not_mem_nil⟩⟩)
noncomputable def M_X6_tryFrom : pb_F := M_X6_tryFrom_ 12
theorem S_X6_tryFrom (l : Launch) : pb_Sound l yX6_tryFrom cX6_tryFrom 6 none 15 M_X6_tryFrom := S_X6_tryFrom_ 12 l
theorem dX6_explain_0 : decode cX6_explain 0 = .ok (.aload_n 0, 1) := by decide +kernel
theorem dX6_explain_1 : decode cX6_explain 1 = .ok (.iload_n 1, 1) := by decide +kernel
theorem dX6_explain_2 : decode cX6_explain 2 = .ok (.iload_n 2, 1) := by decide +kernel
theorem dX6_explain_3 : decode cX6_explain 3 = .ok (.invokevirtual 45, 3) := by decide +kernel
theorem dX6_explain_6 : decode cX6_explain 6 = .ok (.ifCond .eq 12, 3) := by decide +kernel
theorem dX6_explain_9 : decode cX6_explain 9 = .ok (.aload_n 0, 1) := by decide +kernel
theorem dX6_explain_10 : decode cX6_explain 10 = .ok (.iload_n 1, 1) := by decide +kernel
theorem dX6_explain_11 : decode cX6_explain 11 = .ok (.iload_n 2, 1) := by decide +kernel
theorem dX6_explain_12 : decode cX6_explain 12 = .ok (.invokevirtual 69, 3) := by decide +kernel
theorem dX6_explain_15 : decode cX6_explain 15 = .ok (.ifCond .ne 5, 3) := by decide +kernel
theorem dX6_explain_18 : decode cX6_explain 18 = .ok (.iconst 0, 1) := by decide +kernel
theorem dX6_explain_19 : decode cX6_explain 19 = .ok (.ireturn, 1) := by decide +kernel
theorem dX6_explain_20 : decode cX6_explain 20 = .ok (.aload_n 0, 1) := by decide +kernel
theorem dX6_explain_21 : decode cX6_explain 21 = .ok (.iload_n 1, 1) := by decide +kernel
theorem dX6_explain_22 : decode cX6_explain 22 = .ok (.iload_n 2, 1) := by decide +kernel
theorem dX6_explain_23 : decode cX6_explain 23 = .ok (.invokevirtual 72, 3) := by decide +kernel
theorem dX6_explain_26 : decode cX6_explain 26 = .ok (.istore_n 3, 1) := by decide +kernel
theorem dX6_explain_27 : decode cX6_explain 27 = .ok (.aload_n 0, 1) := by decide +kernel
theorem dX6_explain_28 : decode cX6_explain 28 = .ok (.iconst 0, 1) := by decide +kernel
theorem dX6_explain_29 : decode cX6_explain 29 = .ok (.putfield 75, 3) := by decide +kernel
theorem dX6_explain_32 : decode cX6_explain 32 = .ok (.iconst 0, 1) := by decide +kernel
theorem dX6_explain_33 : decode cX6_explain 33 = .ok (.istore 4, 2) := by decide +kernel
theorem dX6_explain_35 : decode cX6_explain 35 = .ok (.iload 4, 2) := by decide +kernel
theorem dX6_explain_37 : decode cX6_explain 37 = .ok (.iconst 3, 1) := by decide +kernel
theorem dX6_explain_38 : decode cX6_explain 38 = .ok (.if_icmp .gt 30, 3) := by decide +kernel
theorem dX6_explain_41 : decode cX6_explain 41 = .ok (.aload_n 0, 1) := by decide +kernel
theorem dX6_explain_42 : decode cX6_explain 42 = .ok (.getfield 75, 3) := by decide +kernel
theorem dX6_explain_45 : decode cX6_explain 45 = .ok (.ifCond .ne 23, 3) := by decide +kernel
theorem dX6_explain_48 : decode cX6_explain 48 = .ok (.aload_n 0, 1) := by decide +kernel
theorem dX6_explain_49 : decode cX6_explain 49 = .ok (.iload 4, 2) := by decide +kernel
theorem dX6_explain_51 : decode cX6_explain 51 = .ok (.putfield 78, 3) := by decide +kernel
theorem dX6_explain_54 : decode cX6_explain 54 = .ok (.aload_n 0, 1) := by decide +kernel
theorem dX6_explain_55 : decode cX6_explain 55 = .ok (.iconst 0, 1) := by decide +kernel
theorem dX6_explain_56 : decode cX6_explain 56 = .ok (.iload 4, 2) := by decide +kernel
theorem dX6_explain_58 : decode cX6_explain 58 = .ok (.iload_n 3, 1) := by decide +kernel
theorem dX6_explain_59 : decode cX6_explain 59 = .ok (.invokevirtual 81, 3) := by decide +kernel
theorem dX6_explain_62 : decode cX6_explain 62 = .ok (.iinc 4 1, 3) := by decide +kernel
theorem dX6_explain_65 : decode cX6_explain 65 = .ok (.goto (-30), 3) := by decide +kernel
theorem dX6_explain_68 : decode cX6_explain 68 = .ok (.aload_n 0, 1) := by decide +kernel
theorem dX6_explain_69 : decode cX6_explain 69 = .ok (.getfield 75, 3) := by decide +kernel
theorem dX6_explain_72 : decode cX6_explain 72 = .ok (.ifCond .le 7, 3) := by decide +kernel
theorem dX6_explain_75 : decode cX6_explain 75 = .ok (.iconst 1, 1) := by decide +kernel
theorem dX6_explain_76 : decode cX6_explain 76 = .ok (.goto 4, 3) := by decide +kernel
theorem dX6_explain_79 : decode cX6_explain 79 = .ok (.iconst 0, 1) := by decide +kernel
theorem dX6_explain_80 : decode cX6_explain 80 = .ok (.ireturn, 1) := by decide +kernel
noncomputable def B_X6_explain_0 : pb_C := (i_aload 0 (i_iload 1 (i_iload 2 (i_callV 31 2 1 M_X6_isTold (i_if_eq (i_const (.int 0) i_zret) (i_aload 0 (i_iload 1 (i_iload 2 (i_callV 31 2 1 M_X6_gather (i_if_ne (i_aload 0 (i_iload 1 (i_iload 2 (i_callV 31 2 1 M_X6_outBy (i_istore 3 (i_aload 0 (i_const (.int 0) (i_putI 31 11 (i_const (.int 0) (i_istore 4 (i_jmp 35 [true, false, false, true, true]))))))))))) (i_const (.int 0) i_zret)))))))))))
noncomputable def B_X6_explain_35 : pb_C := (i_iload 4 (i_const (.int 3) (i_ic_gt (i_aload 0 (i_getI 31 11 (i_if_le (i_const (.int 0) i_zret) (i_const (.int 1) i_zret)))) (i_aload 0 (i_getI 31 11 (i_if_ne (i_aload 0 (i_getI 31 11 (i_if_le (i_const (.int 0) i_zret) (i_const (.int 1) i_zret)))) (i_aload 0 (i_iload 4 (i_putI 31 10 (i_aload 0 (i_const (.int 0) (i_iload 4 (i_iload 3 (i_callV 31 3 0 M_X6_tryFrom (i_iinc 4 1 (i_jmp 35 [true, false, false, true, true]))))))))))))))))
noncomputable def T_X6_explain : Nat → pb_C := pb_tt [(0, B_X6_explain_0), (35, B_X6_explain_35)]
noncomputable def M_X6_explain : pb_F := pb_M T_X6_explain 5
set_option maxRecDepth 100000 in
set_option maxHeartbeats 4000000 in
theorem S_X6_explain (l : Launch) : pb_Sound l yX6_explain cX6_explain 5 (some .boolean) 17 M_X6_explain := by
  refine pb_sound_of (by decide) m_5_79 ?_
  intro Γ hl0 hRm0 hm X E hr J
  have hnL : ∀ j, j < 5 → j < Γ.2.2.2.2.2.2.2.2.2.2.2.1 := fun j h => by rw [hm]; exact h
  have hR : ∀ (d' mL : Nat), d' + 1 ≤ 17 ∧ 8 + (mL + 11) + d' * 64 ≤ 17 * 64 → (pb_rm d').frames + 1 ≤ Γ.2.2.2.1.frames ∧ 8 + (mL + 11) + (pb_rm d').locals ≤ Γ.2.2.2.1.locals := by rw [hRm0]; exact fun _ _ h => h
  have hRm : 1 ≤ 17 ∧ 64 ≤ 17 * 64 → 1 ≤ Γ.2.2.2.1.frames ∧ 64 ≤ Γ.2.2.2.1.locals := by rw [hRm0]; exact fun h => h
  exact pb_tt_snd _ (List.forall_mem_cons.mpr ⟨(s_aload_n (pc := 0) X dX6_explain_0 rfl (s_iload_n (pc := 1) X dX6_explain_1 rfl (s_iload_n (pc := 2) X dX6_explain_2 rfl (s_callV (pc := 3) X dX6_explain_3 (S_X6_isTold _) q_X6_45 h_31 rfl (hR _ _ (by decide)) (s_if_eq (pc := 6) X dX6_explain_6 (by decide) (s_iconst (pc := 18) X dX6_explain_18 rfl (s_zret (pc := 19) X E hr dX6_explain_19)) (s_aload_n (pc := 9) X dX6_explain_9 rfl (s_iload_n (pc := 10) X dX6_explain_10 rfl (s_iload_n (pc := 11) X dX6_explain_11 rfl (s_callV (pc := 12) X dX6_explain_12 (S_X6_gather _) q_X6_69 h_31 rfl (hR _ _ (by decide)) (s_if_ne (pc := 15) X dX6_explain_15 (by decide) (s_aload_n (pc := 20) X dX6_explain_20 rfl (s_iload_n (pc := 21) X dX6_explain_21 rfl (s_iload_n (pc := 22) X dX6_explain_22 rfl (s_callV (pc := 23) X dX6_explain_23 (S_X6_outBy _) q_X6_72 h_31 rfl (hR _ _ (by decide)) (s_istore_n (pc := 26) X dX6_explain_26 rfl (hnL _ (by decide)) (s_aload_n (pc := 27) X dX6_explain_27 rfl (s_iconst (pc := 28) X dX6_explain_28 rfl (s_putI (pc := 29) X dX6_explain_29 p_X6_75 (s_iconst (pc := 32) X dX6_explain_32 rfl (s_istore (pc := 33) X dX6_explain_33 (hnL _ (by decide)) (s_jmp (pc := 35) J [true, false, false, true, true]))))))))))) (s_iconst (pc := 18) X dX6_explain_18 rfl (s_zret (pc := 19) X E hr dX6_explain_19)))))))))))), List.forall_mem_cons.mpr ⟨(s_iload (pc := 35) X dX6_explain_35 (s_iconst (pc := 37) X dX6_explain_37 rfl (s_ic_gt (pc := 38) X dX6_explain_38 (by decide) (s_aload_n (pc := 68) X dX6_explain_68 rfl (s_getI (pc := 69) X dX6_explain_69 g_X6_75 (s_if_le (pc := 72) X dX6_explain_72 (by decide) (s_iconst (pc := 79) X dX6_explain_79 rfl (s_zret (pc := 80) X E hr dX6_explain_80)) (s_iconst (pc := 75) X dX6_explain_75 rfl (s_goto (pc := 76) X dX6_explain_76 (by decide) (s_zret (pc := 80) X E hr dX6_explain_80)))))) (s_aload_n (pc := 41) X dX6_explain_41 rfl (s_getI (pc := 42) X dX6_explain_42 g_X6_75 (s_if_ne (pc := 45) X dX6_explain_45 (by decide) (s_aload_n (pc := 68) X dX6_explain_68 rfl (s_getI (pc := 69) X dX6_explain_69 g_X6_75 (s_if_le (pc := 72) X dX6_explain_72 (by decide) (s_iconst (pc := 79) X dX6_explain_79 rfl (s_zret (pc := 80) X E hr dX6_explain_80)) (s_iconst (pc := 75) X dX6_explain_75 rfl (s_goto (pc := 76) X dX6_explain_76 (by decide) (s_zret (pc := 80) X E hr dX6_explain_80)))))) (s_aload_n (pc := 48) X dX6_explain_48 rfl (s_iload (pc := 49) X dX6_explain_49 (s_putI (pc := 51) X dX6_explain_51 p_X6_78 (s_aload_n (pc := 54) X dX6_explain_54 rfl (s_iconst (pc := 55) X dX6_explain_55 rfl (s_iload (pc := 56) X dX6_explain_56 (s_iload_n (pc := 58) X dX6_explain_58 rfl (s_callV (pc := 59) X dX6_explain_59 (S_X6_tryFrom _) q_X6_81 h_31 rfl (hR _ _ (by decide)) (s_iinc (pc := 62) X dX6_explain_62 rfl (s_goto (pc := 65) X dX6_explain_65 (by decide) (s_jmp (pc := 35) J [true, false, false, true, true]))))))))))))))))), fun _ h => absurd h List.not_mem_nil⟩⟩)
theorem dX11_slips_0 : decode cX11_slips 0 = .ok (.aload_n 0, 1) := by decide +kernel
theorem dX11_slips_1 : decode cX11_slips 1 = .ok (.iload_n 1, 1) := by decide +kernel
theorem dX11_slips_2 : decode cX11_slips 2 = .ok (.iload_n 2, 1) := by decide +kernel
theorem dX11_slips_3 : decode cX11_slips 3 = .ok (.invokevirtual 145, 3) := by decide +kernel
theorem dX11_slips_6 : decode cX11_slips 6 = .ok (.ifCond .ne 12, 3) := by decide +kernel
theorem dX11_slips_9 : decode cX11_slips 9 = .ok (.iload_n 3, 1) := by decide +kernel
theorem dX11_slips_10 : decode cX11_slips 10 = .ok (.iconst 0, 1) := by decide +kernel
theorem dX11_slips_11 : decode cX11_slips 11 = .ok (.iconst 2, 1) := by decide +kernel
theorem dX11_slips_12 : decode cX11_slips 12 = .ok (.invokestatic 101, 3) := by decide +kernel
theorem dX11_slips_15 : decode cX11_slips 15 = .ok (.ifCond .eq 11, 3) := by decide +kernel
theorem dX11_slips_18 : decode cX11_slips 18 = .ok (.aload_n 0, 1) := by decide +kernel
theorem dX11_slips_19 : decode cX11_slips 19 = .ok (.iconst 1, 1) := by decide +kernel
theorem dX11_slips_20 : decode cX11_slips 20 = .ok (.putfield 9, 3) := by decide +kernel
theorem dX11_slips_23 : decode cX11_slips 23 = .ok (.goto 25, 3) := by decide +kernel
theorem dX11_slips_26 : decode cX11_slips 26 = .ok (.aload_n 0, 1) := by decide +kernel
theorem dX11_slips_27 : decode cX11_slips 27 = .ok (.aload_n 0, 1) := by decide +kernel
theorem dX11_slips_28 : decode cX11_slips 28 = .ok (.getfield 53, 3) := by decide +kernel
theorem dX11_slips_31 : decode cX11_slips 31 = .ok (.iload_n 1, 1) := by decide +kernel
theorem dX11_slips_32 : decode cX11_slips 32 = .ok (.iload_n 2, 1) := by decide +kernel
theorem dX11_slips_33 : decode cX11_slips 33 = .ok (.invokevirtual 253, 3) := by decide +kernel
theorem dX11_slips_36 : decode cX11_slips 36 = .ok (.ifCond .eq 7, 3) := by decide +kernel
theorem dX11_slips_39 : decode cX11_slips 39 = .ok (.iconst 0, 1) := by decide +kernel
theorem dX11_slips_40 : decode cX11_slips 40 = .ok (.goto 5, 3) := by decide +kernel
theorem dX11_slips_43 : decode cX11_slips 43 = .ok (.bipush 6, 2) := by decide +kernel
theorem dX11_slips_45 : decode cX11_slips 45 = .ok (.putfield 9, 3) := by decide +kernel
theorem dX11_slips_48 : decode cX11_slips 48 = .ok (.aload_n 0, 1) := by decide +kernel
theorem dX11_slips_49 : decode cX11_slips 49 = .ok (.getfield 9, 3) := by decide +kernel
theorem dX11_slips_52 : decode cX11_slips 52 = .ok (.ifCond .eq 5, 3) := by decide +kernel
theorem dX11_slips_55 : decode cX11_slips 55 = .ok (.iconst (-1), 1) := by decide +kernel
theorem dX11_slips_56 : decode cX11_slips 56 = .ok (.ireturn, 1) := by decide +kernel
theorem dX11_slips_57 : decode cX11_slips 57 = .ok (.iload_n 3, 1) := by decide +kernel
theorem dX11_slips_58 : decode cX11_slips 58 = .ok (.iconst 2, 1) := by decide +kernel
theorem dX11_slips_59 : decode cX11_slips 59 = .ok (.if_icmp .ne 11, 3) := by decide +kernel
theorem dX11_slips_62 : decode cX11_slips 62 = .ok (.aload_n 0, 1) := by decide +kernel
theorem dX11_slips_63 : decode cX11_slips 63 = .ok (.getfield 53, 3) := by decide +kernel
theorem dX11_slips_66 : decode cX11_slips 66 = .ok (.getfield 256, 3) := by decide +kernel
theorem dX11_slips_69 : decode cX11_slips 69 = .ok (.ireturn, 1) := by decide +kernel
theorem dX11_slips_70 : decode cX11_slips 70 = .ok (.iload_n 3, 1) := by decide +kernel
theorem dX11_slips_71 : decode cX11_slips 71 = .ok (.ifCond .ne 13, 3) := by decide +kernel
theorem dX11_slips_74 : decode cX11_slips 74 = .ok (.aload_n 0, 1) := by decide +kernel
theorem dX11_slips_75 : decode cX11_slips 75 = .ok (.getfield 53, 3) := by decide +kernel
theorem dX11_slips_78 : decode cX11_slips 78 = .ok (.getfield 259, 3) := by decide +kernel
theorem dX11_slips_81 : decode cX11_slips 81 = .ok (.goto 10, 3) := by decide +kernel
theorem dX11_slips_84 : decode cX11_slips 84 = .ok (.aload_n 0, 1) := by decide +kernel
theorem dX11_slips_85 : decode cX11_slips 85 = .ok (.getfield 53, 3) := by decide +kernel
theorem dX11_slips_88 : decode cX11_slips 88 = .ok (.getfield 262, 3) := by decide +kernel
theorem dX11_slips_91 : decode cX11_slips 91 = .ok (.ireturn, 1) := by decide +kernel
noncomputable def B_X11_slips_0 : pb_C := (i_aload 0 (i_iload 1 (i_iload 2 (i_callV 0 2 1 M_X11_noFamilyWeek (i_if_ne (i_aload 0 (i_const (.int 1) (i_putI 0 0 (i_jmp 48 [true, false, false, true])))) (i_iload 3 (i_const (.int 0) (i_const (.int 2) (i_callS 3 1 M_X11_outside (i_if_eq (i_aload 0 (i_aload 0 (i_getR 0 31 (i_iload 1 (i_iload 2 (i_callV 31 2 1 M_X6_explain (i_if_eq (i_const (.int 6) (i_putI 0 0 (i_jmp 48 [true, false, false, true]))) (i_const (.int 0) (i_putI 0 0 (i_jmp 48 [true, false, false, true])))))))))) (i_aload 0 (i_const (.int 1) (i_putI 0 0 (i_jmp 48 [true, false, false, true]))))))))))))))
noncomputable def B_X11_slips_48 : pb_C := (i_aload 0 (i_getI 0 0 (i_if_eq (i_iload 3 (i_const (.int 2) (i_ic_ne (i_iload 3 (i_if_ne (i_aload 0 (i_getR 0 31 (i_getI 31 11 i_iret))) (i_aload 0 (i_getR 0 31 (i_getI 31 10 i_iret))))) (i_aload 0 (i_getR 0 31 (i_getI 31 12 i_iret)))))) (i_const (.int (-1)) i_iret))))
noncomputable def T_X11_slips : Nat → pb_C := pb_tt [(0, B_X11_slips_0), (48, B_X11_slips_48)]
noncomputable def M_X11_slips : pb_F := pb_M T_X11_slips 4
set_option maxRecDepth 100000 in
set_option maxHeartbeats 4000000 in
theorem S_X11_slips (l : Launch) : pb_Sound l yX11_slips cX11_slips 4 (some .int) 18 M_X11_slips := by
  refine pb_sound_of (by decide) m_5_75 ?_
  intro Γ hl0 hRm0 hm X E hr J
  have hnL : ∀ j, j < 4 → j < Γ.2.2.2.2.2.2.2.2.2.2.2.1 := fun j h => by rw [hm]; exact h
  have hR : ∀ (d' mL : Nat), d' + 1 ≤ 18 ∧ 8 + (mL + 11) + d' * 64 ≤ 18 * 64 → (pb_rm d').frames + 1 ≤ Γ.2.2.2.1.frames ∧ 8 + (mL + 11) + (pb_rm d').locals ≤ Γ.2.2.2.1.locals := by rw [hRm0]; exact fun _ _ h => h
  have hRm : 1 ≤ 18 ∧ 64 ≤ 18 * 64 → 1 ≤ Γ.2.2.2.1.frames ∧ 64 ≤ Γ.2.2.2.1.locals := by rw [hRm0]; exact fun h => h
  exact pb_tt_snd _ (List.forall_mem_cons.mpr ⟨(s_aload_n (pc := 0) X dX11_slips_0 rfl (s_iload_n (pc := 1) X dX11_slips_1 rfl (s_iload_n (pc := 2) X dX11_slips_2 rfl (s_callV (pc := 3) X dX11_slips_3 (S_X11_noFamilyWeek _) q_X11_145 h_0 rfl (hR _ _ (by decide)) (s_if_ne (pc := 6) X dX11_slips_6 (by decide) (s_aload_n (pc := 18) X dX11_slips_18 rfl (s_iconst (pc := 19) X dX11_slips_19 rfl (s_putI (pc := 20) X dX11_slips_20 p_X11_9 (s_goto (pc := 23) X dX11_slips_23 (by decide) (s_jmp (pc := 48) J [true, false, false, true]))))) (s_iload_n (pc := 9) X dX11_slips_9 rfl (s_iconst (pc := 10) X dX11_slips_10 rfl (s_iconst (pc := 11) X dX11_slips_11 rfl (s_callS (pc := 12) X dX11_slips_12 (S_X11_outside _) q_X11_101 (hR _ _ (by decide)) (s_if_eq (pc := 15) X dX11_slips_15 (by decide) (s_aload_n (pc := 26) X dX11_slips_26 rfl (s_aload_n (pc := 27) X dX11_slips_27 rfl (s_getR (pc := 28) X dX11_slips_28 g_X11_53 (s_iload_n (pc := 31) X dX11_slips_31 rfl (s_iload_n (pc := 32) X dX11_slips_32 rfl (s_callV (pc := 33) X dX11_slips_33 (S_X6_explain _) q_X11_253 h_31 rfl (hR _ _ (by decide)) (s_if_eq (pc := 36) X dX11_slips_36 (by decide) (s_bipush (pc := 43) X dX11_slips_43 rfl (s_putI (pc := 45) X dX11_slips_45 p_X11_9 (s_jmp (pc := 48) J [true, false, false, true]))) (s_iconst (pc := 39) X dX11_slips_39 rfl (s_goto (pc := 40) X dX11_slips_40 (by decide) (s_putI (pc := 45) X dX11_slips_45 p_X11_9 (s_jmp (pc := 48) J [true, false, false, true]))))))))))) (s_aload_n (pc := 18) X dX11_slips_18 rfl (s_iconst (pc := 19) X dX11_slips_19 rfl (s_putI (pc := 20) X dX11_slips_20 p_X11_9 (s_goto (pc := 23) X dX11_slips_23 (by decide) (s_jmp (pc := 48) J [true, false, false, true]))))))))))))))), List.forall_mem_cons.mpr ⟨(s_aload_n (pc := 48) X dX11_slips_48 rfl (s_getI (pc := 49) X dX11_slips_49 g_X11_9 (s_if_eq (pc := 52) X dX11_slips_52 (by decide) (s_iload_n (pc := 57) X dX11_slips_57 rfl (s_iconst (pc := 58) X dX11_slips_58 rfl (s_ic_ne (pc := 59) X dX11_slips_59 (by decide) (s_iload_n (pc := 70) X dX11_slips_70 rfl (s_if_ne (pc := 71) X dX11_slips_71 (by decide) (s_aload_n (pc := 84) X dX11_slips_84 rfl (s_getR (pc := 85) X dX11_slips_85 g_X11_53 (s_getI (pc := 88) X dX11_slips_88 g_X11_262 (s_iret (pc := 91) X E hr dX11_slips_91)))) (s_aload_n (pc := 74) X dX11_slips_74 rfl (s_getR (pc := 75) X dX11_slips_75 g_X11_53 (s_getI (pc := 78) X dX11_slips_78 g_X11_259 (s_goto (pc := 81) X dX11_slips_81 (by decide) (s_iret (pc := 91) X E hr dX11_slips_91))))))) (s_aload_n (pc := 62) X dX11_slips_62 rfl (s_getR (pc := 63) X dX11_slips_63 g_X11_53 (s_getI (pc := 66) X dX11_slips_66 g_X11_256 (s_iret (pc := 69) X E hr dX11_slips_69))))))) (s_iconst (pc := 55) X dX11_slips_55 rfl (s_iret (pc := 56) X E hr dX11_slips_56))))), fun _ h => absurd h List.not_mem_nil⟩⟩)
theorem dX6_explainLine_0 : decode cX6_explainLine 0 = .ok (.aload_n 0, 1) := by decide +kernel
theorem dX6_explainLine_1 : decode cX6_explainLine 1 = .ok (.getfield 33, 3) := by decide +kernel
theorem dX6_explainLine_4 : decode cX6_explainLine 4 = .ok (.iload_n 1, 1) := by decide +kernel
theorem dX6_explainLine_5 : decode cX6_explainLine 5 = .ok (.invokevirtual 54, 3) := by decide +kernel
theorem dX6_explainLine_8 : decode cX6_explainLine 8 = .ok (.ifCond .eq 32, 3) := by decide +kernel
theorem dX6_explainLine_11 : decode cX6_explainLine 11 = .ok (.aload_n 0, 1) := by decide +kernel
theorem dX6_explainLine_12 : decode cX6_explainLine 12 = .ok (.aload_n 0, 1) := by decide +kernel
theorem dX6_explainLine_13 : decode cX6_explainLine 13 = .ok (.getfield 33, 3) := by decide +kernel
theorem dX6_explainLine_16 : decode cX6_explainLine 16 = .ok (.getfield 58, 3) := by decide +kernel
theorem dX6_explainLine_19 : decode cX6_explainLine 19 = .ok (.iload_n 1, 1) := by decide +kernel
theorem dX6_explainLine_20 : decode cX6_explainLine 20 = .ok (.iaload, 1) := by decide +kernel
theorem dX6_explainLine_21 : decode cX6_explainLine 21 = .ok (.aload_n 0, 1) := by decide +kernel
theorem dX6_explainLine_22 : decode cX6_explainLine 22 = .ok (.getfield 33, 3) := by decide +kernel
theorem dX6_explainLine_25 : decode cX6_explainLine 25 = .ok (.getfield 61, 3) := by decide +kernel
theorem dX6_explainLine_28 : decode cX6_explainLine 28 = .ok (.iload_n 1, 1) := by decide +kernel
theorem dX6_explainLine_29 : decode cX6_explainLine 29 = .ok (.iaload, 1) := by decide +kernel
theorem dX6_explainLine_30 : decode cX6_explainLine 30 = .ok (.invokevirtual 64, 3) := by decide +kernel
theorem dX6_explainLine_33 : decode cX6_explainLine 33 = .ok (.ifCond .eq 7, 3) := by decide +kernel
theorem dX6_explainLine_36 : decode cX6_explainLine 36 = .ok (.iconst 1, 1) := by decide +kernel
theorem dX6_explainLine_37 : decode cX6_explainLine 37 = .ok (.goto 4, 3) := by decide +kernel
theorem dX6_explainLine_40 : decode cX6_explainLine 40 = .ok (.iconst 0, 1) := by decide +kernel
theorem dX6_explainLine_41 : decode cX6_explainLine 41 = .ok (.ireturn, 1) := by decide +kernel
noncomputable def B_X6_explainLine_0 : pb_C := (i_aload 0 (i_getR 31 5 (i_iload 1 (i_callV 5 1 1 M_X1_went (i_if_eq (i_const (.int 0) i_zret) (i_aload 0 (i_aload 0 (i_getR 31 5 (i_getR 5 8 (i_iload 1 (i_ald 8 200 (i_aload 0 (i_getR 31 5 (i_getR 5 9 (i_iload 1 (i_ald 9 200 (i_callV 31 2 1 M_X6_explain (i_if_eq (i_const (.int 0) i_zret) (i_const (.int 1) i_zret)))))))))))))))))))
noncomputable def T_X6_explainLine : Nat → pb_C := pb_tt [(0, B_X6_explainLine_0)]
noncomputable def M_X6_explainLine : pb_F := pb_M T_X6_explainLine 2
set_option maxRecDepth 100000 in
set_option maxHeartbeats 4000000 in
theorem S_X6_explainLine (l : Launch) : pb_Sound l yX6_explainLine cX6_explainLine 2 (some .boolean) 18 M_X6_explainLine := by
  refine pb_sound_of (by decide) m_5_110 ?_
  intro Γ hl0 hRm0 hm X E hr J
  have hnL : ∀ j, j < 2 → j < Γ.2.2.2.2.2.2.2.2.2.2.2.1 := fun j h => by rw [hm]; exact h
  have hR : ∀ (d' mL : Nat), d' + 1 ≤ 18 ∧ 8 + (mL + 11) + d' * 64 ≤ 18 * 64 → (pb_rm d').frames + 1 ≤ Γ.2.2.2.1.frames ∧ 8 + (mL + 11) + (pb_rm d').locals ≤ Γ.2.2.2.1.locals := by rw [hRm0]; exact fun _ _ h => h
  have hRm : 1 ≤ 18 ∧ 64 ≤ 18 * 64 → 1 ≤ Γ.2.2.2.1.frames ∧ 64 ≤ Γ.2.2.2.1.locals := by rw [hRm0]; exact fun h => h
  exact pb_tt_snd _ (List.forall_mem_cons.mpr ⟨(s_aload_n (pc := 0) X dX6_explainLine_0 rfl (s_getR (pc := 1) X dX6_explainLine_1 g_X6_33 (s_iload_n (pc := 4) X dX6_explainLine_4 rfl (s_callV (pc := 5) X dX6_explainLine_5 (S_X1_went _) q_X6_54 h_5 rfl (hR _ _ (by decide)) (s_if_eq (pc := 8) X dX6_explainLine_8 (by decide) (s_iconst (pc := 40) X dX6_explainLine_40 rfl (s_zret (pc := 41) X E hr dX6_explainLine_41)) (s_aload_n (pc := 11) X dX6_explainLine_11 rfl (s_aload_n (pc := 12) X dX6_explainLine_12 rfl (s_getR (pc := 13) X dX6_explainLine_13 g_X6_33 (s_getR (pc := 16) X dX6_explainLine_16 g_X6_58 (s_iload_n (pc := 19) X dX6_explainLine_19 rfl (s_iald (pc := 20) X dX6_explainLine_20 h_8 (s_aload_n (pc := 21) X dX6_explainLine_21 rfl (s_getR (pc := 22) X dX6_explainLine_22 g_X6_33 (s_getR (pc := 25) X dX6_explainLine_25 g_X6_61 (s_iload_n (pc := 28) X dX6_explainLine_28 rfl (s_iald (pc := 29) X dX6_explainLine_29 h_9 (s_callV (pc := 30) X dX6_explainLine_30 (S_X6_explain _) q_X6_64 h_31 rfl (hR _ _ (by decide)) (s_if_eq (pc := 33) X dX6_explainLine_33 (by decide) (s_iconst (pc := 40) X dX6_explainLine_40 rfl (s_zret (pc := 41) X E hr dX6_explainLine_41)) (s_iconst (pc := 36) X dX6_explainLine_36 rfl (s_goto (pc := 37) X dX6_explainLine_37 (by decide) (s_zret (pc := 41) X E hr dX6_explainLine_41))))))))))))))))))))), fun _ h => absurd h List.not_mem_nil⟩)
theorem dX6_slipOf_0 : decode cX6_slipOf 0 = .ok (.iconst 0, 1) := by decide +kernel
theorem dX6_slipOf_1 : decode cX6_slipOf 1 = .ok (.istore_n 2, 1) := by decide +kernel
theorem dX6_slipOf_2 : decode cX6_slipOf 2 = .ok (.iload_n 2, 1) := by decide +kernel
theorem dX6_slipOf_3 : decode cX6_slipOf 3 = .ok (.aload_n 0, 1) := by decide +kernel
theorem dX6_slipOf_4 : decode cX6_slipOf 4 = .ok (.getfield 67, 3) := by decide +kernel
theorem dX6_slipOf_7 : decode cX6_slipOf 7 = .ok (.if_icmp .ge 26, 3) := by decide +kernel
theorem dX6_slipOf_10 : decode cX6_slipOf 10 = .ok (.aload_n 0, 1) := by decide +kernel
theorem dX6_slipOf_11 : decode cX6_slipOf 11 = .ok (.getfield 21, 3) := by decide +kernel
theorem dX6_slipOf_14 : decode cX6_slipOf 14 = .ok (.iload_n 2, 1) := by decide +kernel
theorem dX6_slipOf_15 : decode cX6_slipOf 15 = .ok (.iaload, 1) := by decide +kernel
theorem dX6_slipOf_16 : decode cX6_slipOf 16 = .ok (.iload_n 1, 1) := by decide +kernel
theorem dX6_slipOf_17 : decode cX6_slipOf 17 = .ok (.if_icmp .ne 10, 3) := by decide +kernel
theorem dX6_slipOf_20 : decode cX6_slipOf 20 = .ok (.aload_n 0, 1) := by decide +kernel
theorem dX6_slipOf_21 : decode cX6_slipOf 21 = .ok (.getfield 30, 3) := by decide +kernel
theorem dX6_slipOf_24 : decode cX6_slipOf 24 = .ok (.iload_n 2, 1) := by decide +kernel
theorem dX6_slipOf_25 : decode cX6_slipOf 25 = .ok (.iaload, 1) := by decide +kernel
theorem dX6_slipOf_26 : decode cX6_slipOf 26 = .ok (.ireturn, 1) := by decide +kernel
theorem dX6_slipOf_27 : decode cX6_slipOf 27 = .ok (.iinc 2 1, 3) := by decide +kernel
theorem dX6_slipOf_30 : decode cX6_slipOf 30 = .ok (.goto (-28), 3) := by decide +kernel
theorem dX6_slipOf_33 : decode cX6_slipOf 33 = .ok (.iconst (-1), 1) := by decide +kernel
theorem dX6_slipOf_34 : decode cX6_slipOf 34 = .ok (.ireturn, 1) := by decide +kernel
noncomputable def B_X6_slipOf_0 : pb_C := (i_const (.int 0) (i_istore 2 (i_jmp 2 [true, true, true])))
noncomputable def B_X6_slipOf_2 : pb_C := (i_iload 2 (i_aload 0 (i_getI 31 5 (i_ic_ge (i_const (.int (-1)) i_iret) (i_aload 0 (i_getR 31 35 (i_iload 2 (i_ald 35 9 (i_iload 1 (i_ic_ne (i_iinc 2 1 (i_jmp 2 [true, true, true])) (i_aload 0 (i_getR 31 38 (i_iload 2 (i_ald 38 9 i_iret))))))))))))))
noncomputable def T_X6_slipOf : Nat → pb_C := pb_tt [(0, B_X6_slipOf_0), (2, B_X6_slipOf_2)]
noncomputable def M_X6_slipOf : pb_F := pb_M T_X6_slipOf 3
set_option maxRecDepth 100000 in
set_option maxHeartbeats 4000000 in
theorem S_X6_slipOf (l : Launch) : pb_Sound l yX6_slipOf cX6_slipOf 3 (some .int) 1 M_X6_slipOf := by
  refine pb_sound_of (by decide) m_5_116 ?_
  intro Γ hl0 hRm0 hm X E hr J
  have hnL : ∀ j, j < 3 → j < Γ.2.2.2.2.2.2.2.2.2.2.2.1 := fun j h => by rw [hm]; exact h
  have hR : ∀ (d' mL : Nat), d' + 1 ≤ 1 ∧ 8 + (mL + 11) + d' * 64 ≤ 1 * 64 → (pb_rm d').frames + 1 ≤ Γ.2.2.2.1.frames ∧ 8 + (mL + 11) + (pb_rm d').locals ≤ Γ.2.2.2.1.locals := by rw [hRm0]; exact fun _ _ h => h
  have hRm : 1 ≤ 1 ∧ 64 ≤ 1 * 64 → 1 ≤ Γ.2.2.2.1.frames ∧ 64 ≤ Γ.2.2.2.1.locals := by rw [hRm0]; exact fun h => h
  exact pb_tt_snd _ (List.forall_mem_cons.mpr ⟨(s_iconst (pc := 0) X dX6_slipOf_0 rfl (s_istore_n (pc := 1) X dX6_slipOf_1 rfl (hnL _ (by decide)) (s_jmp (pc := 2) J [true, true, true]))), List.forall_mem_cons.mpr ⟨(s_iload_n (pc := 2) X dX6_slipOf_2 rfl (s_aload_n (pc := 3) X dX6_slipOf_3 rfl (s_getI (pc := 4) X dX6_slipOf_4 g_X6_67 (s_ic_ge (pc := 7) X dX6_slipOf_7 (by decide) (s_iconst (pc := 33) X dX6_slipOf_33 rfl (s_iret (pc := 34) X E hr dX6_slipOf_34)) (s_aload_n (pc := 10) X dX6_slipOf_10 rfl (s_getR (pc := 11) X dX6_slipOf_11 g_X6_21 (s_iload_n (pc := 14) X dX6_slipOf_14 rfl (s_iald (pc := 15) X dX6_slipOf_15 h_35 (s_iload_n (pc := 16) X dX6_slipOf_16 rfl (s_ic_ne (pc := 17) X dX6_slipOf_17 (by decide) (s_iinc (pc := 27) X dX6_slipOf_27 rfl (s_goto (pc := 30) X dX6_slipOf_30 (by decide) (s_jmp (pc := 2) J [true, true, true]))) (s_aload_n (pc := 20) X dX6_slipOf_20 rfl (s_getR (pc := 21) X dX6_slipOf_21 g_X6_30 (s_iload_n (pc := 24) X dX6_slipOf_24 rfl (s_iald (pc := 25) X dX6_slipOf_25 h_38 (s_iret (pc := 26) X E hr dX6_slipOf_26))))))))))))))), fun _ h => absurd h List.not_mem_nil⟩⟩)
theorem dX11_slip_0 : decode cX11_slip 0 = .ok (.aload_n 0, 1) := by decide +kernel
theorem dX11_slip_1 : decode cX11_slip 1 = .ok (.aload_n 0, 1) := by decide +kernel
theorem dX11_slip_2 : decode cX11_slip 2 = .ok (.getfield 30, 3) := by decide +kernel
theorem dX11_slip_5 : decode cX11_slip 5 = .ok (.iload_n 1, 1) := by decide +kernel
theorem dX11_slip_6 : decode cX11_slip 6 = .ok (.invokevirtual 180, 3) := by decide +kernel
theorem dX11_slip_9 : decode cX11_slip 9 = .ok (.putfield 9, 3) := by decide +kernel
theorem dX11_slip_12 : decode cX11_slip 12 = .ok (.aload_n 0, 1) := by decide +kernel
theorem dX11_slip_13 : decode cX11_slip 13 = .ok (.getfield 9, 3) := by decide +kernel
theorem dX11_slip_16 : decode cX11_slip 16 = .ok (.ifCond .ne 20, 3) := by decide +kernel
theorem dX11_slip_19 : decode cX11_slip 19 = .ok (.aload_n 0, 1) := by decide +kernel
theorem dX11_slip_20 : decode cX11_slip 20 = .ok (.getfield 53, 3) := by decide +kernel
theorem dX11_slip_23 : decode cX11_slip 23 = .ok (.iload_n 1, 1) := by decide +kernel
theorem dX11_slip_24 : decode cX11_slip 24 = .ok (.invokevirtual 265, 3) := by decide +kernel
theorem dX11_slip_27 : decode cX11_slip 27 = .ok (.ifCond .ne 9, 3) := by decide +kernel
theorem dX11_slip_30 : decode cX11_slip 30 = .ok (.aload_n 0, 1) := by decide +kernel
theorem dX11_slip_31 : decode cX11_slip 31 = .ok (.bipush 6, 2) := by decide +kernel
theorem dX11_slip_33 : decode cX11_slip 33 = .ok (.putfield 9, 3) := by decide +kernel
theorem dX11_slip_36 : decode cX11_slip 36 = .ok (.aload_n 0, 1) := by decide +kernel
theorem dX11_slip_37 : decode cX11_slip 37 = .ok (.getfield 9, 3) := by decide +kernel
theorem dX11_slip_40 : decode cX11_slip 40 = .ok (.ifCond .ne 14, 3) := by decide +kernel
theorem dX11_slip_43 : decode cX11_slip 43 = .ok (.aload_n 0, 1) := by decide +kernel
theorem dX11_slip_44 : decode cX11_slip 44 = .ok (.getfield 53, 3) := by decide +kernel
theorem dX11_slip_47 : decode cX11_slip 47 = .ok (.iload_n 1, 1) := by decide +kernel
theorem dX11_slip_48 : decode cX11_slip 48 = .ok (.invokevirtual 268, 3) := by decide +kernel
theorem dX11_slip_51 : decode cX11_slip 51 = .ok (.goto 4, 3) := by decide +kernel
theorem dX11_slip_54 : decode cX11_slip 54 = .ok (.iconst (-1), 1) := by decide +kernel
theorem dX11_slip_55 : decode cX11_slip 55 = .ok (.ireturn, 1) := by decide +kernel
noncomputable def B_X11_slip_0 : pb_C := (i_aload 0 (i_aload 0 (i_getR 0 5 (i_iload 1 (i_callV 5 1 1 M_X1_lineStatus (i_putI 0 0 (i_aload 0 (i_getI 0 0 (i_if_ne (i_aload 0 (i_getI 0 0 (i_if_ne (i_const (.int (-1)) i_iret) (i_aload 0 (i_getR 0 31 (i_iload 1 (i_callV 31 1 1 M_X6_slipOf i_iret))))))) (i_aload 0 (i_getR 0 31 (i_iload 1 (i_callV 31 1 1 M_X6_explainLine (i_if_ne (i_aload 0 (i_getI 0 0 (i_if_ne (i_const (.int (-1)) i_iret) (i_aload 0 (i_getR 0 31 (i_iload 1 (i_callV 31 1 1 M_X6_slipOf i_iret))))))) (i_aload 0 (i_const (.int 6) (i_putI 0 0 (i_aload 0 (i_getI 0 0 (i_if_ne (i_const (.int (-1)) i_iret) (i_aload 0 (i_getR 0 31 (i_iload 1 (i_callV 31 1 1 M_X6_slipOf i_iret))))))))))))))))))))))))
noncomputable def T_X11_slip : Nat → pb_C := pb_tt [(0, B_X11_slip_0)]
noncomputable def M_X11_slip : pb_F := pb_M T_X11_slip 2
set_option maxRecDepth 100000 in
set_option maxHeartbeats 4000000 in
theorem S_X11_slip (l : Launch) : pb_Sound l yX11_slip cX11_slip 2 (some .int) 19 M_X11_slip := by
  refine pb_sound_of (by decide) m_5_106 ?_
  intro Γ hl0 hRm0 hm X E hr J
  have hnL : ∀ j, j < 2 → j < Γ.2.2.2.2.2.2.2.2.2.2.2.1 := fun j h => by rw [hm]; exact h
  have hR : ∀ (d' mL : Nat), d' + 1 ≤ 19 ∧ 8 + (mL + 11) + d' * 64 ≤ 19 * 64 → (pb_rm d').frames + 1 ≤ Γ.2.2.2.1.frames ∧ 8 + (mL + 11) + (pb_rm d').locals ≤ Γ.2.2.2.1.locals := by rw [hRm0]; exact fun _ _ h => h
  have hRm : 1 ≤ 19 ∧ 64 ≤ 19 * 64 → 1 ≤ Γ.2.2.2.1.frames ∧ 64 ≤ Γ.2.2.2.1.locals := by rw [hRm0]; exact fun h => h
  exact pb_tt_snd _ (List.forall_mem_cons.mpr ⟨(s_aload_n (pc := 0) X dX11_slip_0 rfl (s_aload_n (pc := 1) X dX11_slip_1 rfl (s_getR (pc := 2) X dX11_slip_2 g_X11_30 (s_iload_n (pc := 5) X dX11_slip_5 rfl (s_callV (pc := 6) X dX11_slip_6 (S_X1_lineStatus _) q_X11_180 h_5 rfl (hR _ _ (by decide)) (s_putI (pc := 9) X dX11_slip_9 p_X11_9 (s_aload_n (pc := 12) X dX11_slip_12 rfl (s_getI (pc := 13) X dX11_slip_13 g_X11_9 (s_if_ne (pc := 16) X dX11_slip_16 (by decide) (s_aload_n (pc := 36) X dX11_slip_36 rfl (s_getI (pc := 37) X dX11_slip_37 g_X11_9 (s_if_ne (pc := 40) X dX11_slip_40 (by decide) (s_iconst (pc := 54) X dX11_slip_54 rfl (s_iret (pc := 55) X E hr dX11_slip_55)) (s_aload_n (pc := 43) X dX11_slip_43 rfl (s_getR (pc := 44) X dX11_slip_44 g_X11_53 (s_iload_n (pc := 47) X dX11_slip_47 rfl (s_callV (pc := 48) X dX11_slip_48 (S_X6_slipOf _) q_X11_268 h_31 rfl (hR _ _ (by decide)) (s_goto (pc := 51) X dX11_slip_51 (by decide) (s_iret (pc := 55) X E hr dX11_slip_55))))))))) (s_aload_n (pc := 19) X dX11_slip_19 rfl (s_getR (pc := 20) X dX11_slip_20 g_X11_53 (s_iload_n (pc := 23) X dX11_slip_23 rfl (s_callV (pc := 24) X dX11_slip_24 (S_X6_explainLine _) q_X11_265 h_31 rfl (hR _ _ (by decide)) (s_if_ne (pc := 27) X dX11_slip_27 (by decide) (s_aload_n (pc := 36) X dX11_slip_36 rfl (s_getI (pc := 37) X dX11_slip_37 g_X11_9 (s_if_ne (pc := 40) X dX11_slip_40 (by decide) (s_iconst (pc := 54) X dX11_slip_54 rfl (s_iret (pc := 55) X E hr dX11_slip_55)) (s_aload_n (pc := 43) X dX11_slip_43 rfl (s_getR (pc := 44) X dX11_slip_44 g_X11_53 (s_iload_n (pc := 47) X dX11_slip_47 rfl (s_callV (pc := 48) X dX11_slip_48 (S_X6_slipOf _) q_X11_268 h_31 rfl (hR _ _ (by decide)) (s_goto (pc := 51) X dX11_slip_51 (by decide) (s_iret (pc := 55) X E hr dX11_slip_55))))))))) (s_aload_n (pc := 30) X dX11_slip_30 rfl (s_bipush (pc := 31) X dX11_slip_31 rfl (s_putI (pc := 33) X dX11_slip_33 p_X11_9 (s_aload_n (pc := 36) X dX11_slip_36 rfl (s_getI (pc := 37) X dX11_slip_37 g_X11_9 (s_if_ne (pc := 40) X dX11_slip_40 (by decide) (s_iconst (pc := 54) X dX11_slip_54 rfl (s_iret (pc := 55) X E hr dX11_slip_55)) (s_aload_n (pc := 43) X dX11_slip_43 rfl (s_getR (pc := 44) X dX11_slip_44 g_X11_53 (s_iload_n (pc := 47) X dX11_slip_47 rfl (s_callV (pc := 48) X dX11_slip_48 (S_X6_slipOf _) q_X11_268 h_31 rfl (hR _ _ (by decide)) (s_goto (pc := 51) X dX11_slip_51 (by decide) (s_iret (pc := 55) X E hr dX11_slip_55)))))))))))))))))))))))))), fun _ h => absurd h List.not_mem_nil⟩)
theorem dX11_rules_0 : decode cX11_rules 0 = .ok (.iload_n 1, 1) := by decide +kernel
theorem dX11_rules_1 : decode cX11_rules 1 = .ok (.iconst 1, 1) := by decide +kernel
theorem dX11_rules_2 : decode cX11_rules 2 = .ok (.bipush 60, 2) := by decide +kernel
theorem dX11_rules_4 : decode cX11_rules 4 = .ok (.invokestatic 101, 3) := by decide +kernel
theorem dX11_rules_7 : decode cX11_rules 7 = .ok (.ifCond .ne 13, 3) := by decide +kernel
theorem dX11_rules_10 : decode cX11_rules 10 = .ok (.iload_n 2, 1) := by decide +kernel
theorem dX11_rules_11 : decode cX11_rules 11 = .ok (.iconst 1, 1) := by decide +kernel
theorem dX11_rules_12 : decode cX11_rules 12 = .ok (.bipush 12, 2) := by decide +kernel
theorem dX11_rules_14 : decode cX11_rules 14 = .ok (.invokestatic 101, 3) := by decide +kernel
theorem dX11_rules_17 : decode cX11_rules 17 = .ok (.ifCond .eq 7, 3) := by decide +kernel
theorem dX11_rules_20 : decode cX11_rules 20 = .ok (.iconst 1, 1) := by decide +kernel
theorem dX11_rules_21 : decode cX11_rules 21 = .ok (.goto 4, 3) := by decide +kernel
theorem dX11_rules_24 : decode cX11_rules 24 = .ok (.iconst 0, 1) := by decide +kernel
theorem dX11_rules_25 : decode cX11_rules 25 = .ok (.istore_n 3, 1) := by decide +kernel
theorem dX11_rules_26 : decode cX11_rules 26 = .ok (.aload_n 0, 1) := by decide +kernel
theorem dX11_rules_27 : decode cX11_rules 27 = .ok (.iload_n 3, 1) := by decide +kernel
theorem dX11_rules_28 : decode cX11_rules 28 = .ok (.ifCond .eq 7, 3) := by decide +kernel
theorem dX11_rules_31 : decode cX11_rules 31 = .ok (.iconst 1, 1) := by decide +kernel
theorem dX11_rules_32 : decode cX11_rules 32 = .ok (.goto 4, 3) := by decide +kernel
theorem dX11_rules_35 : decode cX11_rules 35 = .ok (.iconst 0, 1) := by decide +kernel
theorem dX11_rules_36 : decode cX11_rules 36 = .ok (.putfield 9, 3) := by decide +kernel
theorem dX11_rules_39 : decode cX11_rules 39 = .ok (.aload_n 0, 1) := by decide +kernel
theorem dX11_rules_40 : decode cX11_rules 40 = .ok (.getfield 9, 3) := by decide +kernel
theorem dX11_rules_43 : decode cX11_rules 43 = .ok (.ifCond .ne 19, 3) := by decide +kernel
theorem dX11_rules_46 : decode cX11_rules 46 = .ok (.aload_n 0, 1) := by decide +kernel
theorem dX11_rules_47 : decode cX11_rules 47 = .ok (.getfield 62, 3) := by decide +kernel
theorem dX11_rules_50 : decode cX11_rules 50 = .ok (.iload_n 1, 1) := by decide +kernel
theorem dX11_rules_51 : decode cX11_rules 51 = .ok (.putfield 271, 3) := by decide +kernel
theorem dX11_rules_54 : decode cX11_rules 54 = .ok (.aload_n 0, 1) := by decide +kernel
theorem dX11_rules_55 : decode cX11_rules 55 = .ok (.getfield 76, 3) := by decide +kernel
theorem dX11_rules_58 : decode cX11_rules 58 = .ok (.iload_n 2, 1) := by decide +kernel
theorem dX11_rules_59 : decode cX11_rules 59 = .ok (.putfield 274, 3) := by decide +kernel
theorem dX11_rules_62 : decode cX11_rules 62 = .ok (.aload_n 0, 1) := by decide +kernel
theorem dX11_rules_63 : decode cX11_rules 63 = .ok (.getfield 9, 3) := by decide +kernel
theorem dX11_rules_66 : decode cX11_rules 66 = .ok (.ifCond .ne 7, 3) := by decide +kernel
theorem dX11_rules_69 : decode cX11_rules 69 = .ok (.iconst 1, 1) := by decide +kernel
theorem dX11_rules_70 : decode cX11_rules 70 = .ok (.goto 4, 3) := by decide +kernel
theorem dX11_rules_73 : decode cX11_rules 73 = .ok (.iconst 0, 1) := by decide +kernel
theorem dX11_rules_74 : decode cX11_rules 74 = .ok (.ireturn, 1) := by decide +kernel
noncomputable def B_X11_rules_0 : pb_C := (i_iload 1 (i_const (.int 1) (i_const (.int 60) (i_callS 3 1 M_X11_outside (i_if_ne (i_const (.int 1) (i_istore 3 (i_aload 0 (i_iload 3 (i_if_eq (i_const (.int 0) (i_jmp 36 [true, true, true, false])) (i_const (.int 1) (i_jmp 36 [true, true, true, false]))))))) (i_iload 2 (i_const (.int 1) (i_const (.int 12) (i_callS 3 1 M_X11_outside (i_if_eq (i_const (.int 0) (i_istore 3 (i_aload 0 (i_iload 3 (i_if_eq (i_const (.int 0) (i_jmp 36 [true, true, true, false])) (i_const (.int 1) (i_jmp 36 [true, true, true, false]))))))) (i_const (.int 1) (i_istore 3 (i_aload 0 (i_iload 3 (i_if_eq (i_const (.int 0) (i_jmp 36 [true, true, true, false])) (i_const (.int 1) (i_jmp 36 [true, true, true, false])))))))))))))))))
noncomputable def B_X11_rules_36 : pb_C := (i_putI 0 0 (i_aload 0 (i_getI 0 0 (i_if_ne (i_aload 0 (i_getI 0 0 (i_if_ne (i_const (.int 0) i_zret) (i_const (.int 1) i_zret)))) (i_aload 0 (i_getR 0 39 (i_iload 1 (i_putI 39 2 (i_aload 0 (i_getR 0 51 (i_iload 2 (i_putI 51 2 (i_aload 0 (i_getI 0 0 (i_if_ne (i_const (.int 0) i_zret) (i_const (.int 1) i_zret))))))))))))))))
noncomputable def T_X11_rules : Nat → pb_C := pb_tt [(0, B_X11_rules_0), (36, B_X11_rules_36)]
noncomputable def M_X11_rules : pb_F := pb_M T_X11_rules 4
set_option maxRecDepth 100000 in
set_option maxHeartbeats 4000000 in
theorem S_X11_rules (l : Launch) : pb_Sound l yX11_rules cX11_rules 4 (some .boolean) 2 M_X11_rules := by
  refine pb_sound_of (by decide) m_5_120 ?_
  intro Γ hl0 hRm0 hm X E hr J
  have hnL : ∀ j, j < 4 → j < Γ.2.2.2.2.2.2.2.2.2.2.2.1 := fun j h => by rw [hm]; exact h
  have hR : ∀ (d' mL : Nat), d' + 1 ≤ 2 ∧ 8 + (mL + 11) + d' * 64 ≤ 2 * 64 → (pb_rm d').frames + 1 ≤ Γ.2.2.2.1.frames ∧ 8 + (mL + 11) + (pb_rm d').locals ≤ Γ.2.2.2.1.locals := by rw [hRm0]; exact fun _ _ h => h
  have hRm : 1 ≤ 2 ∧ 64 ≤ 2 * 64 → 1 ≤ Γ.2.2.2.1.frames ∧ 64 ≤ Γ.2.2.2.1.locals := by rw [hRm0]; exact fun h => h
  exact pb_tt_snd _ (List.forall_mem_cons.mpr ⟨(s_iload_n (pc := 0) X dX11_rules_0 rfl (s_iconst (pc := 1) X dX11_rules_1 rfl (s_bipush (pc := 2) X dX11_rules_2 rfl (s_callS (pc := 4) X dX11_rules_4 (S_X11_outside _) q_X11_101 (hR _ _ (by decide)) (s_if_ne (pc := 7) X dX11_rules_7 (by decide) (s_iconst (pc := 20) X dX11_rules_20 rfl (s_goto (pc := 21) X dX11_rules_21 (by decide) (s_istore_n (pc := 25) X dX11_rules_25 rfl (hnL _ (by decide)) (s_aload_n (pc := 26) X dX11_rules_26 rfl (s_iload_n (pc := 27) X dX11_rules_27 rfl (s_if_eq (pc := 28) X dX11_rules_28 (by decide) (s_iconst (pc := 35) X dX11_rules_35 rfl (s_jmp (pc := 36) J [true, true, true, false])) (s_iconst (pc := 31) X dX11_rules_31 rfl (s_goto (pc := 32) X dX11_rules_32 (by decide) (s_jmp (pc := 36) J [true, true, true, false]))))))))) (s_iload_n (pc := 10) X dX11_rules_10 rfl (s_iconst (pc := 11) X dX11_rules_11 rfl (s_bipush (pc := 12) X dX11_rules_12 rfl (s_callS (pc := 14) X dX11_rules_14 (S_X11_outside _) q_X11_101 (hR _ _ (by decide)) (s_if_eq (pc := 17) X dX11_rules_17 (by decide) (s_iconst (pc := 24) X dX11_rules_24 rfl (s_istore_n (pc := 25) X dX11_rules_25 rfl (hnL _ (by decide)) (s_aload_n (pc := 26) X dX11_rules_26 rfl (s_iload_n (pc := 27) X dX11_rules_27 rfl (s_if_eq (pc := 28) X dX11_rules_28 (by decide) (s_iconst (pc := 35) X dX11_rules_35 rfl (s_jmp (pc := 36) J [true, true, true, false])) (s_iconst (pc := 31) X dX11_rules_31 rfl (s_goto (pc := 32) X dX11_rules_32 (by decide) (s_jmp (pc := 36) J [true, true, true, false])))))))) (s_iconst (pc := 20) X dX11_rules_20 rfl (s_goto (pc := 21) X dX11_rules_21 (by decide) (s_istore_n (pc := 25) X dX11_rules_25 rfl (hnL _ (by decide)) (s_aload_n (pc := 26) X dX11_rules_26 rfl (s_iload_n (pc := 27) X dX11_rules_27 rfl (s_if_eq (pc := 28) X dX11_rules_28 (by decide) (s_iconst (pc := 35) X dX11_rules_35 rfl (s_jmp (pc := 36) J [true, true, true, false])) (s_iconst (pc := 31) X dX11_rules_31 rfl (s_goto (pc := 32) X dX11_rules_32 (by decide) (s_jmp (pc := 36) J [true, true, true, false]))))))))))))))))))), List.forall_mem_cons.mpr ⟨(s_putI (pc := 36) X dX11_rules_36 p_X11_9 (s_aload_n (pc := 39) X dX11_rules_39 rfl (s_getI (pc := 40) X dX11_rules_40 g_X11_9 (s_if_ne (pc := 43) X dX11_rules_43 (by decide) (s_aload_n (pc := 62) X dX11_rules_62 rfl (s_getI (pc := 63) X dX11_rules_63 g_X11_9 (s_if_ne (pc := 66) X dX11_rules_66 (by decide) (s_iconst (pc := 73) X dX11_rules_73 rfl (s_zret (pc := 74) X E hr dX11_rules_74)) (s_iconst (pc := 69) X dX11_rules_69 rfl (s_goto (pc := 70) X dX11_rules_70 (by decide) (s_zret (pc := 74) X E hr dX11_rules_74)))))) (s_aload_n (pc := 46) X dX11_rules_46 rfl (s_getR (pc := 47) X dX11_rules_47 g_X11_62 (s_iload_n (pc := 50) X dX11_rules_50 rfl (s_putI (pc := 51) X dX11_rules_51 p_X11_271 (s_aload_n (pc := 54) X dX11_rules_54 rfl (s_getR (pc := 55) X dX11_rules_55 g_X11_76 (s_iload_n (pc := 58) X dX11_rules_58 rfl (s_putI (pc := 59) X dX11_rules_59 p_X11_274 (s_aload_n (pc := 62) X dX11_rules_62 rfl (s_getI (pc := 63) X dX11_rules_63 g_X11_9 (s_if_ne (pc := 66) X dX11_rules_66 (by decide) (s_iconst (pc := 73) X dX11_rules_73 rfl (s_zret (pc := 74) X E hr dX11_rules_74)) (s_iconst (pc := 69) X dX11_rules_69 rfl (s_goto (pc := 70) X dX11_rules_70 (by decide) (s_zret (pc := 74) X E hr dX11_rules_74)))))))))))))))))), fun _ h => absurd h List.not_mem_nil⟩⟩)
theorem dX7_isSundries_0 : decode cX7_isSundries 0 = .ok (.aload_n 0, 1) := by decide +kernel
theorem dX7_isSundries_1 : decode cX7_isSundries 1 = .ok (.getfield 32, 3) := by decide +kernel
theorem dX7_isSundries_4 : decode cX7_isSundries 4 = .ok (.iload_n 1, 1) := by decide +kernel
theorem dX7_isSundries_5 : decode cX7_isSundries 5 = .ok (.invokevirtual 40, 3) := by decide +kernel
theorem dX7_isSundries_8 : decode cX7_isSundries 8 = .ok (.ifCond .eq 34, 3) := by decide +kernel
theorem dX7_isSundries_11 : decode cX7_isSundries 11 = .ok (.aload_n 0, 1) := by decide +kernel
theorem dX7_isSundries_12 : decode cX7_isSundries 12 = .ok (.getfield 32, 3) := by decide +kernel
theorem dX7_isSundries_15 : decode cX7_isSundries 15 = .ok (.getfield 46, 3) := by decide +kernel
theorem dX7_isSundries_18 : decode cX7_isSundries 18 = .ok (.iload_n 1, 1) := by decide +kernel
theorem dX7_isSundries_19 : decode cX7_isSundries 19 = .ok (.iaload, 1) := by decide +kernel
theorem dX7_isSundries_20 : decode cX7_isSundries 20 = .ok (.sipush 2000, 3) := by decide +kernel
theorem dX7_isSundries_23 : decode cX7_isSundries 23 = .ok (.if_icmp .gt 19, 3) := by decide +kernel
theorem dX7_isSundries_26 : decode cX7_isSundries 26 = .ok (.aload_n 0, 1) := by decide +kernel
theorem dX7_isSundries_27 : decode cX7_isSundries 27 = .ok (.getfield 36, 3) := by decide +kernel
theorem dX7_isSundries_30 : decode cX7_isSundries 30 = .ok (.iload_n 1, 1) := by decide +kernel
theorem dX7_isSundries_31 : decode cX7_isSundries 31 = .ok (.iload_n 2, 1) := by decide +kernel
theorem dX7_isSundries_32 : decode cX7_isSundries 32 = .ok (.invokevirtual 49, 3) := by decide +kernel
theorem dX7_isSundries_35 : decode cX7_isSundries 35 = .ok (.ifCond .ne 7, 3) := by decide +kernel
theorem dX7_isSundries_38 : decode cX7_isSundries 38 = .ok (.iconst 1, 1) := by decide +kernel
theorem dX7_isSundries_39 : decode cX7_isSundries 39 = .ok (.goto 4, 3) := by decide +kernel
theorem dX7_isSundries_42 : decode cX7_isSundries 42 = .ok (.iconst 0, 1) := by decide +kernel
theorem dX7_isSundries_43 : decode cX7_isSundries 43 = .ok (.ireturn, 1) := by decide +kernel
noncomputable def B_X7_isSundries_0 : pb_C := (i_aload 0 (i_getR 39 5 (i_iload 1 (i_callV 5 1 1 M_X1_went (i_if_eq (i_const (.int 0) i_zret) (i_aload 0 (i_getR 39 5 (i_getR 5 16 (i_iload 1 (i_ald 16 200 (i_const (.int 2000) (i_ic_gt (i_const (.int 0) i_zret) (i_aload 0 (i_getR 39 25 (i_iload 1 (i_iload 2 (i_callV 25 2 1 M_X0_kindOf (i_if_ne (i_const (.int 0) i_zret) (i_const (.int 1) i_zret)))))))))))))))))))
noncomputable def T_X7_isSundries : Nat → pb_C := pb_tt [(0, B_X7_isSundries_0)]
noncomputable def M_X7_isSundries : pb_F := pb_M T_X7_isSundries 3
set_option maxRecDepth 100000 in
set_option maxHeartbeats 4000000 in
theorem S_X7_isSundries (l : Launch) : pb_Sound l yX7_isSundries cX7_isSundries 3 (some .boolean) 2 M_X7_isSundries := by
  refine pb_sound_of (by decide) m_5_132 ?_
  intro Γ hl0 hRm0 hm X E hr J
  have hnL : ∀ j, j < 3 → j < Γ.2.2.2.2.2.2.2.2.2.2.2.1 := fun j h => by rw [hm]; exact h
  have hR : ∀ (d' mL : Nat), d' + 1 ≤ 2 ∧ 8 + (mL + 11) + d' * 64 ≤ 2 * 64 → (pb_rm d').frames + 1 ≤ Γ.2.2.2.1.frames ∧ 8 + (mL + 11) + (pb_rm d').locals ≤ Γ.2.2.2.1.locals := by rw [hRm0]; exact fun _ _ h => h
  have hRm : 1 ≤ 2 ∧ 64 ≤ 2 * 64 → 1 ≤ Γ.2.2.2.1.frames ∧ 64 ≤ Γ.2.2.2.1.locals := by rw [hRm0]; exact fun h => h
  exact pb_tt_snd _ (List.forall_mem_cons.mpr ⟨(s_aload_n (pc := 0) X dX7_isSundries_0 rfl (s_getR (pc := 1) X dX7_isSundries_1 g_X7_32 (s_iload_n (pc := 4) X dX7_isSundries_4 rfl (s_callV (pc := 5) X dX7_isSundries_5 (S_X1_went _) q_X7_40 h_5 rfl (hR _ _ (by decide)) (s_if_eq (pc := 8) X dX7_isSundries_8 (by decide) (s_iconst (pc := 42) X dX7_isSundries_42 rfl (s_zret (pc := 43) X E hr dX7_isSundries_43)) (s_aload_n (pc := 11) X dX7_isSundries_11 rfl (s_getR (pc := 12) X dX7_isSundries_12 g_X7_32 (s_getR (pc := 15) X dX7_isSundries_15 g_X7_46 (s_iload_n (pc := 18) X dX7_isSundries_18 rfl (s_iald (pc := 19) X dX7_isSundries_19 h_16 (s_sipush (pc := 20) X dX7_isSundries_20 rfl (s_ic_gt (pc := 23) X dX7_isSundries_23 (by decide) (s_iconst (pc := 42) X dX7_isSundries_42 rfl (s_zret (pc := 43) X E hr dX7_isSundries_43)) (s_aload_n (pc := 26) X dX7_isSundries_26 rfl (s_getR (pc := 27) X dX7_isSundries_27 g_X7_36 (s_iload_n (pc := 30) X dX7_isSundries_30 rfl (s_iload_n (pc := 31) X dX7_isSundries_31 rfl (s_callV (pc := 32) X dX7_isSundries_32 (S_X0_kindOf _) q_X7_49 h_25 rfl (hR _ _ (by decide)) (s_if_ne (pc := 35) X dX7_isSundries_35 (by decide) (s_iconst (pc := 42) X dX7_isSundries_42 rfl (s_zret (pc := 43) X E hr dX7_isSundries_43)) (s_iconst (pc := 38) X dX7_isSundries_38 rfl (s_goto (pc := 39) X dX7_isSundries_39 (by decide) (s_zret (pc := 43) X E hr dX7_isSundries_43))))))))))))))))))))), fun _ h => absurd h List.not_mem_nil⟩)
theorem dX11_sundriesStatus_0 : decode cX11_sundriesStatus 0 = .ok (.aload_n 0, 1) := by decide +kernel
theorem dX11_sundriesStatus_1 : decode cX11_sundriesStatus 1 = .ok (.getfield 30, 3) := by decide +kernel
theorem dX11_sundriesStatus_4 : decode cX11_sundriesStatus 4 = .ok (.iload_n 1, 1) := by decide +kernel
theorem dX11_sundriesStatus_5 : decode cX11_sundriesStatus 5 = .ok (.invokevirtual 166, 3) := by decide +kernel
theorem dX11_sundriesStatus_8 : decode cX11_sundriesStatus 8 = .ok (.ifCond .eq 14, 3) := by decide +kernel
theorem dX11_sundriesStatus_11 : decode cX11_sundriesStatus 11 = .ok (.aload_n 0, 1) := by decide +kernel
theorem dX11_sundriesStatus_12 : decode cX11_sundriesStatus 12 = .ok (.getfield 46, 3) := by decide +kernel
theorem dX11_sundriesStatus_15 : decode cX11_sundriesStatus 15 = .ok (.iload_n 2, 1) := by decide +kernel
theorem dX11_sundriesStatus_16 : decode cX11_sundriesStatus 16 = .ok (.invokevirtual 214, 3) := by decide +kernel
theorem dX11_sundriesStatus_19 : decode cX11_sundriesStatus 19 = .ok (.ifCond .ne 5, 3) := by decide +kernel
theorem dX11_sundriesStatus_22 : decode cX11_sundriesStatus 22 = .ok (.iconst 1, 1) := by decide +kernel
theorem dX11_sundriesStatus_23 : decode cX11_sundriesStatus 23 = .ok (.ireturn, 1) := by decide +kernel
theorem dX11_sundriesStatus_24 : decode cX11_sundriesStatus 24 = .ok (.aload_n 0, 1) := by decide +kernel
theorem dX11_sundriesStatus_25 : decode cX11_sundriesStatus 25 = .ok (.getfield 62, 3) := by decide +kernel
theorem dX11_sundriesStatus_28 : decode cX11_sundriesStatus 28 = .ok (.iload_n 1, 1) := by decide +kernel
theorem dX11_sundriesStatus_29 : decode cX11_sundriesStatus 29 = .ok (.iload_n 2, 1) := by decide +kernel
theorem dX11_sundriesStatus_30 : decode cX11_sundriesStatus 30 = .ok (.invokevirtual 290, 3) := by decide +kernel
theorem dX11_sundriesStatus_33 : decode cX11_sundriesStatus 33 = .ok (.ifCond .eq 7, 3) := by decide +kernel
theorem dX11_sundriesStatus_36 : decode cX11_sundriesStatus 36 = .ok (.iconst 0, 1) := by decide +kernel
theorem dX11_sundriesStatus_37 : decode cX11_sundriesStatus 37 = .ok (.goto 5, 3) := by decide +kernel
theorem dX11_sundriesStatus_40 : decode cX11_sundriesStatus 40 = .ok (.bipush 6, 2) := by decide +kernel
theorem dX11_sundriesStatus_42 : decode cX11_sundriesStatus 42 = .ok (.ireturn, 1) := by decide +kernel
noncomputable def B_X11_sundriesStatus_0 : pb_C := (i_aload 0 (i_getR 0 5 (i_iload 1 (i_callV 5 1 1 M_X1_hasLine (i_if_eq (i_const (.int 1) i_iret) (i_aload 0 (i_getR 0 25 (i_iload 2 (i_callV 25 1 1 M_X0_judgeBy (i_if_ne (i_aload 0 (i_getR 0 39 (i_iload 1 (i_iload 2 (i_callV 39 2 1 M_X7_isSundries (i_if_eq (i_const (.int 6) i_iret) (i_const (.int 0) i_iret))))))) (i_const (.int 1) i_iret)))))))))))
noncomputable def T_X11_sundriesStatus : Nat → pb_C := pb_tt [(0, B_X11_sundriesStatus_0)]
noncomputable def M_X11_sundriesStatus : pb_F := pb_M T_X11_sundriesStatus 3
set_option maxRecDepth 100000 in
set_option maxHeartbeats 4000000 in
theorem S_X11_sundriesStatus (l : Launch) : pb_Sound l yX11_sundriesStatus cX11_sundriesStatus 3 (some .int) 5 M_X11_sundriesStatus := by
  refine pb_sound_of (by decide) m_5_128 ?_
  intro Γ hl0 hRm0 hm X E hr J
  have hnL : ∀ j, j < 3 → j < Γ.2.2.2.2.2.2.2.2.2.2.2.1 := fun j h => by rw [hm]; exact h
  have hR : ∀ (d' mL : Nat), d' + 1 ≤ 5 ∧ 8 + (mL + 11) + d' * 64 ≤ 5 * 64 → (pb_rm d').frames + 1 ≤ Γ.2.2.2.1.frames ∧ 8 + (mL + 11) + (pb_rm d').locals ≤ Γ.2.2.2.1.locals := by rw [hRm0]; exact fun _ _ h => h
  have hRm : 1 ≤ 5 ∧ 64 ≤ 5 * 64 → 1 ≤ Γ.2.2.2.1.frames ∧ 64 ≤ Γ.2.2.2.1.locals := by rw [hRm0]; exact fun h => h
  exact pb_tt_snd _ (List.forall_mem_cons.mpr ⟨(s_aload_n (pc := 0) X dX11_sundriesStatus_0 rfl (s_getR (pc := 1) X dX11_sundriesStatus_1 g_X11_30 (s_iload_n (pc := 4) X dX11_sundriesStatus_4 rfl (s_callV (pc := 5) X dX11_sundriesStatus_5 (S_X1_hasLine _) q_X11_166 h_5 rfl (hR _ _ (by decide)) (s_if_eq (pc := 8) X dX11_sundriesStatus_8 (by decide) (s_iconst (pc := 22) X dX11_sundriesStatus_22 rfl (s_iret (pc := 23) X E hr dX11_sundriesStatus_23)) (s_aload_n (pc := 11) X dX11_sundriesStatus_11 rfl (s_getR (pc := 12) X dX11_sundriesStatus_12 g_X11_46 (s_iload_n (pc := 15) X dX11_sundriesStatus_15 rfl (s_callV (pc := 16) X dX11_sundriesStatus_16 (S_X0_judgeBy _) q_X11_214 h_25 rfl (hR _ _ (by decide)) (s_if_ne (pc := 19) X dX11_sundriesStatus_19 (by decide) (s_aload_n (pc := 24) X dX11_sundriesStatus_24 rfl (s_getR (pc := 25) X dX11_sundriesStatus_25 g_X11_62 (s_iload_n (pc := 28) X dX11_sundriesStatus_28 rfl (s_iload_n (pc := 29) X dX11_sundriesStatus_29 rfl (s_callV (pc := 30) X dX11_sundriesStatus_30 (S_X7_isSundries _) q_X11_290 h_39 rfl (hR _ _ (by decide)) (s_if_eq (pc := 33) X dX11_sundriesStatus_33 (by decide) (s_bipush (pc := 40) X dX11_sundriesStatus_40 rfl (s_iret (pc := 42) X E hr dX11_sundriesStatus_42)) (s_iconst (pc := 36) X dX11_sundriesStatus_36 rfl (s_goto (pc := 37) X dX11_sundriesStatus_37 (by decide) (s_iret (pc := 42) X E hr dX11_sundriesStatus_42))))))))) (s_iconst (pc := 22) X dX11_sundriesStatus_22 rfl (s_iret (pc := 23) X E hr dX11_sundriesStatus_23)))))))))))), fun _ h => absurd h List.not_mem_nil⟩)
theorem dJ7_fill_53178_0 : decode cJ7_fill_53178 0 = .ok (.iconst 0, 1) := by decide +kernel
theorem dJ7_fill_53178_1 : decode cJ7_fill_53178 1 = .ok (.istore_n 2, 1) := by decide +kernel
theorem dJ7_fill_53178_2 : decode cJ7_fill_53178 2 = .ok (.aload_n 0, 1) := by decide +kernel
theorem dJ7_fill_53178_3 : decode cJ7_fill_53178 3 = .ok (.arraylength, 1) := by decide +kernel
theorem dJ7_fill_53178_4 : decode cJ7_fill_53178 4 = .ok (.istore_n 3, 1) := by decide +kernel
theorem dJ7_fill_53178_5 : decode cJ7_fill_53178 5 = .ok (.iload_n 2, 1) := by decide +kernel
theorem dJ7_fill_53178_6 : decode cJ7_fill_53178 6 = .ok (.iload_n 3, 1) := by decide +kernel
theorem dJ7_fill_53178_7 : decode cJ7_fill_53178 7 = .ok (.if_icmp .ge 13, 3) := by decide +kernel
theorem dJ7_fill_53178_10 : decode cJ7_fill_53178 10 = .ok (.aload_n 0, 1) := by decide +kernel
theorem dJ7_fill_53178_11 : decode cJ7_fill_53178 11 = .ok (.iload_n 2, 1) := by decide +kernel
theorem dJ7_fill_53178_12 : decode cJ7_fill_53178 12 = .ok (.iload_n 1, 1) := by decide +kernel
theorem dJ7_fill_53178_13 : decode cJ7_fill_53178 13 = .ok (.iastore, 1) := by decide +kernel
theorem dJ7_fill_53178_14 : decode cJ7_fill_53178 14 = .ok (.iinc 2 1, 3) := by decide +kernel
theorem dJ7_fill_53178_17 : decode cJ7_fill_53178 17 = .ok (.goto (-12), 3) := by decide +kernel
theorem dJ7_fill_53178_20 : decode cJ7_fill_53178 20 = .ok (.return_, 1) := by decide +kernel
noncomputable def B_J7_fill_53178_40_0 : pb_C := (i_const (.int 0) (i_istore 2 (i_aload 0 (i_alen 40 16 (i_istore 3 (i_jmp 5 [true, true, true, true]))))))
noncomputable def B_J7_fill_53178_40_5 : pb_C := (i_iload 2 (i_iload 3 (i_ic_ge i_vret (i_aload 0 (i_iload 2 (i_iload 1 (i_ast 40 16 (fun x => x) (i_iinc 2 1 (i_jmp 5 [true, true, true, true])))))))))
noncomputable def T_J7_fill_53178_40 : Nat → pb_C := pb_tt [(0, B_J7_fill_53178_40_0), (5, B_J7_fill_53178_40_5)]
noncomputable def M_J7_fill_53178_40 : pb_F := pb_M T_J7_fill_53178_40 4
set_option maxRecDepth 100000 in
set_option maxHeartbeats 4000000 in
theorem S_J7_fill_53178_40 (l : Launch) : pb_Sound l yJ7_fill_53178 cJ7_fill_53178 4 none 1 M_J7_fill_53178_40 := by
  refine pb_sound_of (by decide) m_5_145 ?_
  intro Γ hl0 hRm0 hm X E hr J
  have hnL : ∀ j, j < 4 → j < Γ.2.2.2.2.2.2.2.2.2.2.2.1 := fun j h => by rw [hm]; exact h
  have hR : ∀ (d' mL : Nat), d' + 1 ≤ 1 ∧ 8 + (mL + 11) + d' * 64 ≤ 1 * 64 → (pb_rm d').frames + 1 ≤ Γ.2.2.2.1.frames ∧ 8 + (mL + 11) + (pb_rm d').locals ≤ Γ.2.2.2.1.locals := by rw [hRm0]; exact fun _ _ h => h
  have hRm : 1 ≤ 1 ∧ 64 ≤ 1 * 64 → 1 ≤ Γ.2.2.2.1.frames ∧ 64 ≤ Γ.2.2.2.1.locals := by rw [hRm0]; exact fun h => h
  exact pb_tt_snd _ (List.forall_mem_cons.mpr ⟨(s_iconst (pc := 0) X dJ7_fill_53178_0 rfl (s_istore_n (pc := 1) X dJ7_fill_53178_1 rfl (hnL _ (by decide)) (s_aload_n (pc := 2) X dJ7_fill_53178_2 rfl (s_alen (pc := 3) X dJ7_fill_53178_3 h_40 (fun cs => rfl) (s_istore_n (pc := 4) X dJ7_fill_53178_4 rfl (hnL _ (by decide)) (s_jmp (pc := 5) J [true, true, true, true])))))), List.forall_mem_cons.mpr ⟨(s_iload_n (pc := 5) X dJ7_fill_53178_5 rfl (s_iload_n (pc := 6) X dJ7_fill_53178_6 rfl (s_ic_ge (pc := 7) X dJ7_fill_53178_7 (by decide) (s_vret (pc := 20) X E hr dJ7_fill_53178_20) (s_aload_n (pc := 10) X dJ7_fill_53178_10 rfl (s_iload_n (pc := 11) X dJ7_fill_53178_11 rfl (s_iload_n (pc := 12) X dJ7_fill_53178_12 rfl (s_iast (pc := 13) X dJ7_fill_53178_13 h_40 (s_iinc (pc := 14) X dJ7_fill_53178_14 rfl (s_goto (pc := 17) X dJ7_fill_53178_17 (by decide) (s_jmp (pc := 5) J [true, true, true, true])))))))))), fun _ h => absurd h List.not_mem_nil⟩⟩)
noncomputable def B_J7_fill_53178_42_0 : pb_C := (i_const (.int 0) (i_istore 2 (i_aload 0 (i_alen 42 16 (i_istore 3 (i_jmp 5 [true, true, true, true]))))))
noncomputable def B_J7_fill_53178_42_5 : pb_C := (i_iload 2 (i_iload 3 (i_ic_ge i_vret (i_aload 0 (i_iload 2 (i_iload 1 (i_ast 42 16 (fun x => x) (i_iinc 2 1 (i_jmp 5 [true, true, true, true])))))))))
noncomputable def T_J7_fill_53178_42 : Nat → pb_C := pb_tt [(0, B_J7_fill_53178_42_0), (5, B_J7_fill_53178_42_5)]
noncomputable def M_J7_fill_53178_42 : pb_F := pb_M T_J7_fill_53178_42 4
set_option maxRecDepth 100000 in
set_option maxHeartbeats 4000000 in
theorem S_J7_fill_53178_42 (l : Launch) : pb_Sound l yJ7_fill_53178 cJ7_fill_53178 4 none 1 M_J7_fill_53178_42 := by
  refine pb_sound_of (by decide) m_5_145 ?_
  intro Γ hl0 hRm0 hm X E hr J
  have hnL : ∀ j, j < 4 → j < Γ.2.2.2.2.2.2.2.2.2.2.2.1 := fun j h => by rw [hm]; exact h
  have hR : ∀ (d' mL : Nat), d' + 1 ≤ 1 ∧ 8 + (mL + 11) + d' * 64 ≤ 1 * 64 → (pb_rm d').frames + 1 ≤ Γ.2.2.2.1.frames ∧ 8 + (mL + 11) + (pb_rm d').locals ≤ Γ.2.2.2.1.locals := by rw [hRm0]; exact fun _ _ h => h
  have hRm : 1 ≤ 1 ∧ 64 ≤ 1 * 64 → 1 ≤ Γ.2.2.2.1.frames ∧ 64 ≤ Γ.2.2.2.1.locals := by rw [hRm0]; exact fun h => h
  exact pb_tt_snd _ (List.forall_mem_cons.mpr ⟨(s_iconst (pc := 0) X dJ7_fill_53178_0 rfl (s_istore_n (pc := 1) X dJ7_fill_53178_1 rfl (hnL _ (by decide)) (s_aload_n (pc := 2) X dJ7_fill_53178_2 rfl (s_alen (pc := 3) X dJ7_fill_53178_3 h_42 (fun cs => rfl) (s_istore_n (pc := 4) X dJ7_fill_53178_4 rfl (hnL _ (by decide)) (s_jmp (pc := 5) J [true, true, true, true])))))), List.forall_mem_cons.mpr ⟨(s_iload_n (pc := 5) X dJ7_fill_53178_5 rfl (s_iload_n (pc := 6) X dJ7_fill_53178_6 rfl (s_ic_ge (pc := 7) X dJ7_fill_53178_7 (by decide) (s_vret (pc := 20) X E hr dJ7_fill_53178_20) (s_aload_n (pc := 10) X dJ7_fill_53178_10 rfl (s_iload_n (pc := 11) X dJ7_fill_53178_11 rfl (s_iload_n (pc := 12) X dJ7_fill_53178_12 rfl (s_iast (pc := 13) X dJ7_fill_53178_13 h_42 (s_iinc (pc := 14) X dJ7_fill_53178_14 rfl (s_goto (pc := 17) X dJ7_fill_53178_17 (by decide) (s_jmp (pc := 5) J [true, true, true, true])))))))))), fun _ h => absurd h List.not_mem_nil⟩⟩)
noncomputable def B_J7_fill_53178_43_0 : pb_C := (i_const (.int 0) (i_istore 2 (i_aload 0 (i_alen 43 1936 (i_istore 3 (i_jmp 5 [true, true, true, true]))))))
noncomputable def B_J7_fill_53178_43_5 : pb_C := (i_iload 2 (i_iload 3 (i_ic_ge i_vret (i_aload 0 (i_iload 2 (i_iload 1 (i_ast 43 1936 (fun x => x) (i_iinc 2 1 (i_jmp 5 [true, true, true, true])))))))))
noncomputable def T_J7_fill_53178_43 : Nat → pb_C := pb_tt [(0, B_J7_fill_53178_43_0), (5, B_J7_fill_53178_43_5)]
noncomputable def M_J7_fill_53178_43 : pb_F := pb_M T_J7_fill_53178_43 4
set_option maxRecDepth 100000 in
set_option maxHeartbeats 4000000 in
theorem S_J7_fill_53178_43 (l : Launch) : pb_Sound l yJ7_fill_53178 cJ7_fill_53178 4 none 1 M_J7_fill_53178_43 := by
  refine pb_sound_of (by decide) m_5_145 ?_
  intro Γ hl0 hRm0 hm X E hr J
  have hnL : ∀ j, j < 4 → j < Γ.2.2.2.2.2.2.2.2.2.2.2.1 := fun j h => by rw [hm]; exact h
  have hR : ∀ (d' mL : Nat), d' + 1 ≤ 1 ∧ 8 + (mL + 11) + d' * 64 ≤ 1 * 64 → (pb_rm d').frames + 1 ≤ Γ.2.2.2.1.frames ∧ 8 + (mL + 11) + (pb_rm d').locals ≤ Γ.2.2.2.1.locals := by rw [hRm0]; exact fun _ _ h => h
  have hRm : 1 ≤ 1 ∧ 64 ≤ 1 * 64 → 1 ≤ Γ.2.2.2.1.frames ∧ 64 ≤ Γ.2.2.2.1.locals := by rw [hRm0]; exact fun h => h
  exact pb_tt_snd _ (List.forall_mem_cons.mpr ⟨(s_iconst (pc := 0) X dJ7_fill_53178_0 rfl (s_istore_n (pc := 1) X dJ7_fill_53178_1 rfl (hnL _ (by decide)) (s_aload_n (pc := 2) X dJ7_fill_53178_2 rfl (s_alen (pc := 3) X dJ7_fill_53178_3 h_43 (fun cs => rfl) (s_istore_n (pc := 4) X dJ7_fill_53178_4 rfl (hnL _ (by decide)) (s_jmp (pc := 5) J [true, true, true, true])))))), List.forall_mem_cons.mpr ⟨(s_iload_n (pc := 5) X dJ7_fill_53178_5 rfl (s_iload_n (pc := 6) X dJ7_fill_53178_6 rfl (s_ic_ge (pc := 7) X dJ7_fill_53178_7 (by decide) (s_vret (pc := 20) X E hr dJ7_fill_53178_20) (s_aload_n (pc := 10) X dJ7_fill_53178_10 rfl (s_iload_n (pc := 11) X dJ7_fill_53178_11 rfl (s_iload_n (pc := 12) X dJ7_fill_53178_12 rfl (s_iast (pc := 13) X dJ7_fill_53178_13 h_43 (s_iinc (pc := 14) X dJ7_fill_53178_14 rfl (s_goto (pc := 17) X dJ7_fill_53178_17 (by decide) (s_jmp (pc := 5) J [true, true, true, true])))))))))), fun _ h => absurd h List.not_mem_nil⟩⟩)
theorem dX1_wentFrom_0 : decode cX1_wentFrom 0 = .ok (.aload_n 0, 1) := by decide +kernel
theorem dX1_wentFrom_1 : decode cX1_wentFrom 1 = .ok (.getfield 18, 3) := by decide +kernel
theorem dX1_wentFrom_4 : decode cX1_wentFrom 4 = .ok (.iload_n 1, 1) := by decide +kernel
theorem dX1_wentFrom_5 : decode cX1_wentFrom 5 = .ok (.iaload, 1) := by decide +kernel
theorem dX1_wentFrom_6 : decode cX1_wentFrom 6 = .ok (.iload_n 2, 1) := by decide +kernel
theorem dX1_wentFrom_7 : decode cX1_wentFrom 7 = .ok (.if_icmp .ne 15, 3) := by decide +kernel
theorem dX1_wentFrom_10 : decode cX1_wentFrom 10 = .ok (.aload_n 0, 1) := by decide +kernel
theorem dX1_wentFrom_11 : decode cX1_wentFrom 11 = .ok (.iload_n 1, 1) := by decide +kernel
theorem dX1_wentFrom_12 : decode cX1_wentFrom 12 = .ok (.invokevirtual 69, 3) := by decide +kernel
theorem dX1_wentFrom_15 : decode cX1_wentFrom 15 = .ok (.ifCond .eq 7, 3) := by decide +kernel
theorem dX1_wentFrom_18 : decode cX1_wentFrom 18 = .ok (.iconst 1, 1) := by decide +kernel
theorem dX1_wentFrom_19 : decode cX1_wentFrom 19 = .ok (.goto 4, 3) := by decide +kernel
theorem dX1_wentFrom_22 : decode cX1_wentFrom 22 = .ok (.iconst 0, 1) := by decide +kernel
theorem dX1_wentFrom_23 : decode cX1_wentFrom 23 = .ok (.ireturn, 1) := by decide +kernel
noncomputable def B_X1_wentFrom_0 : pb_C := (i_aload 0 (i_getR 5 8 (i_iload 1 (i_ald 8 200 (i_iload 2 (i_ic_ne (i_const (.int 0) i_zret) (i_aload 0 (i_iload 1 (i_callV 5 1 1 M_X1_went (i_if_eq (i_const (.int 0) i_zret) (i_const (.int 1) i_zret)))))))))))
noncomputable def T_X1_wentFrom : Nat → pb_C := pb_tt [(0, B_X1_wentFrom_0)]
noncomputable def M_X1_wentFrom : pb_F := pb_M T_X1_wentFrom 3
set_option maxRecDepth 100000 in
set_option maxHeartbeats 4000000 in
theorem S_X1_wentFrom (l : Launch) : pb_Sound l yX1_wentFrom cX1_wentFrom 3 (some .boolean) 2 M_X1_wentFrom := by
  refine pb_sound_of (by decide) m_5_152 ?_
  intro Γ hl0 hRm0 hm X E hr J
  have hnL : ∀ j, j < 3 → j < Γ.2.2.2.2.2.2.2.2.2.2.2.1 := fun j h => by rw [hm]; exact h
  have hR : ∀ (d' mL : Nat), d' + 1 ≤ 2 ∧ 8 + (mL + 11) + d' * 64 ≤ 2 * 64 → (pb_rm d').frames + 1 ≤ Γ.2.2.2.1.frames ∧ 8 + (mL + 11) + (pb_rm d').locals ≤ Γ.2.2.2.1.locals := by rw [hRm0]; exact fun _ _ h => h
  have hRm : 1 ≤ 2 ∧ 64 ≤ 2 * 64 → 1 ≤ Γ.2.2.2.1.frames ∧ 64 ≤ Γ.2.2.2.1.locals := by rw [hRm0]; exact fun h => h
  exact pb_tt_snd _ (List.forall_mem_cons.mpr ⟨(s_aload_n (pc := 0) X dX1_wentFrom_0 rfl (s_getR (pc := 1) X dX1_wentFrom_1 g_X1_18 (s_iload_n (pc := 4) X dX1_wentFrom_4 rfl (s_iald (pc := 5) X dX1_wentFrom_5 h_8 (s_iload_n (pc := 6) X dX1_wentFrom_6 rfl (s_ic_ne (pc := 7) X dX1_wentFrom_7 (by decide) (s_iconst (pc := 22) X dX1_wentFrom_22 rfl (s_zret (pc := 23) X E hr dX1_wentFrom_23)) (s_aload_n (pc := 10) X dX1_wentFrom_10 rfl (s_iload_n (pc := 11) X dX1_wentFrom_11 rfl (s_callV (pc := 12) X dX1_wentFrom_12 (S_X1_went _) q_X1_69 h_5 rfl (hR _ _ (by decide)) (s_if_eq (pc := 15) X dX1_wentFrom_15 (by decide) (s_iconst (pc := 22) X dX1_wentFrom_22 rfl (s_zret (pc := 23) X E hr dX1_wentFrom_23)) (s_iconst (pc := 18) X dX1_wentFrom_18 rfl (s_goto (pc := 19) X dX1_wentFrom_19 (by decide) (s_zret (pc := 23) X E hr dX1_wentFrom_23))))))))))))), fun _ h => absurd h List.not_mem_nil⟩)
theorem dX7_isNearer_0 : decode cX7_isNearer 0 = .ok (.aload_n 0, 1) := by decide +kernel
theorem dX7_isNearer_1 : decode cX7_isNearer 1 = .ok (.getfield 32, 3) := by decide +kernel
theorem dX7_isNearer_4 : decode cX7_isNearer 4 = .ok (.getfield 77, 3) := by decide +kernel
theorem dX7_isNearer_7 : decode cX7_isNearer 7 = .ok (.iload_n 3, 1) := by decide +kernel
theorem dX7_isNearer_8 : decode cX7_isNearer 8 = .ok (.iaload, 1) := by decide +kernel
theorem dX7_isNearer_9 : decode cX7_isNearer 9 = .ok (.istore 4, 2) := by decide +kernel
theorem dX7_isNearer_11 : decode cX7_isNearer 11 = .ok (.aload_n 0, 1) := by decide +kernel
theorem dX7_isNearer_12 : decode cX7_isNearer 12 = .ok (.getfield 32, 3) := by decide +kernel
theorem dX7_isNearer_15 : decode cX7_isNearer 15 = .ok (.getfield 77, 3) := by decide +kernel
theorem dX7_isNearer_18 : decode cX7_isNearer 18 = .ok (.iload_n 1, 1) := by decide +kernel
theorem dX7_isNearer_19 : decode cX7_isNearer 19 = .ok (.iaload, 1) := by decide +kernel
theorem dX7_isNearer_20 : decode cX7_isNearer 20 = .ok (.iload 4, 2) := by decide +kernel
theorem dX7_isNearer_22 : decode cX7_isNearer 22 = .ok (.isub, 1) := by decide +kernel
theorem dX7_isNearer_23 : decode cX7_isNearer 23 = .ok (.invokestatic 80, 3) := by decide +kernel
theorem dX7_isNearer_26 : decode cX7_isNearer 26 = .ok (.istore 5, 2) := by decide +kernel
theorem dX7_isNearer_28 : decode cX7_isNearer 28 = .ok (.aload_n 0, 1) := by decide +kernel
theorem dX7_isNearer_29 : decode cX7_isNearer 29 = .ok (.getfield 32, 3) := by decide +kernel
theorem dX7_isNearer_32 : decode cX7_isNearer 32 = .ok (.getfield 77, 3) := by decide +kernel
theorem dX7_isNearer_35 : decode cX7_isNearer 35 = .ok (.iload_n 2, 1) := by decide +kernel
theorem dX7_isNearer_36 : decode cX7_isNearer 36 = .ok (.iaload, 1) := by decide +kernel
theorem dX7_isNearer_37 : decode cX7_isNearer 37 = .ok (.iload 4, 2) := by decide +kernel
theorem dX7_isNearer_39 : decode cX7_isNearer 39 = .ok (.isub, 1) := by decide +kernel
theorem dX7_isNearer_40 : decode cX7_isNearer 40 = .ok (.invokestatic 80, 3) := by decide +kernel
theorem dX7_isNearer_43 : decode cX7_isNearer 43 = .ok (.istore 6, 2) := by decide +kernel
theorem dX7_isNearer_45 : decode cX7_isNearer 45 = .ok (.iload 5, 2) := by decide +kernel
theorem dX7_isNearer_47 : decode cX7_isNearer 47 = .ok (.iload 6, 2) := by decide +kernel
theorem dX7_isNearer_49 : decode cX7_isNearer 49 = .ok (.if_icmp .lt 31, 3) := by decide +kernel
theorem dX7_isNearer_52 : decode cX7_isNearer 52 = .ok (.iload 5, 2) := by decide +kernel
theorem dX7_isNearer_54 : decode cX7_isNearer 54 = .ok (.iload 6, 2) := by decide +kernel
theorem dX7_isNearer_56 : decode cX7_isNearer 56 = .ok (.if_icmp .ne 28, 3) := by decide +kernel
theorem dX7_isNearer_59 : decode cX7_isNearer 59 = .ok (.aload_n 0, 1) := by decide +kernel
theorem dX7_isNearer_60 : decode cX7_isNearer 60 = .ok (.getfield 32, 3) := by decide +kernel
theorem dX7_isNearer_63 : decode cX7_isNearer 63 = .ok (.getfield 77, 3) := by decide +kernel
theorem dX7_isNearer_66 : decode cX7_isNearer 66 = .ok (.iload_n 1, 1) := by decide +kernel
theorem dX7_isNearer_67 : decode cX7_isNearer 67 = .ok (.iaload, 1) := by decide +kernel
theorem dX7_isNearer_68 : decode cX7_isNearer 68 = .ok (.aload_n 0, 1) := by decide +kernel
theorem dX7_isNearer_69 : decode cX7_isNearer 69 = .ok (.getfield 32, 3) := by decide +kernel
theorem dX7_isNearer_72 : decode cX7_isNearer 72 = .ok (.getfield 77, 3) := by decide +kernel
theorem dX7_isNearer_75 : decode cX7_isNearer 75 = .ok (.iload_n 2, 1) := by decide +kernel
theorem dX7_isNearer_76 : decode cX7_isNearer 76 = .ok (.iaload, 1) := by decide +kernel
theorem dX7_isNearer_77 : decode cX7_isNearer 77 = .ok (.if_icmp .ge 7, 3) := by decide +kernel
theorem dX7_isNearer_80 : decode cX7_isNearer 80 = .ok (.iconst 1, 1) := by decide +kernel
theorem dX7_isNearer_81 : decode cX7_isNearer 81 = .ok (.goto 4, 3) := by decide +kernel
theorem dX7_isNearer_84 : decode cX7_isNearer 84 = .ok (.iconst 0, 1) := by decide +kernel
theorem dX7_isNearer_85 : decode cX7_isNearer 85 = .ok (.ireturn, 1) := by decide +kernel
noncomputable def B_X7_isNearer_0 : pb_C := (i_aload 0 (i_getR 39 5 (i_getR 5 9 (i_iload 3 (i_ald 9 200 (i_istore 4 (i_aload 0 (i_getR 39 5 (i_getR 5 9 (i_iload 1 (i_ald 9 200 (i_iload 4 (i_ibin (· - ·) (i_mI1 pb_abs (i_istore 5 (i_aload 0 (i_getR 39 5 (i_getR 5 9 (i_iload 2 (i_ald 9 200 (i_iload 4 (i_ibin (· - ·) (i_mI1 pb_abs (i_istore 6 (i_iload 5 (i_iload 6 (i_ic_lt (i_const (.int 1) i_zret) (i_iload 5 (i_iload 6 (i_ic_ne (i_const (.int 0) i_zret) (i_aload 0 (i_getR 39 5 (i_getR 5 9 (i_iload 1 (i_ald 9 200 (i_aload 0 (i_getR 39 5 (i_getR 5 9 (i_iload 2 (i_ald 9 200 (i_ic_ge (i_const (.int 0) i_zret) (i_const (.int 1) i_zret))))))))))))))))))))))))))))))))))))))))))
noncomputable def T_X7_isNearer : Nat → pb_C := pb_tt [(0, B_X7_isNearer_0)]
noncomputable def M_X7_isNearer : pb_F := pb_M T_X7_isNearer 7
set_option maxRecDepth 100000 in
set_option maxHeartbeats 4000000 in
theorem S_X7_isNearer (l : Launch) : pb_Sound l yX7_isNearer cX7_isNearer 7 (some .boolean) 1 M_X7_isNearer := by
  refine pb_sound_of (by decide) m_5_163 ?_
  intro Γ hl0 hRm0 hm X E hr J
  have hnL : ∀ j, j < 7 → j < Γ.2.2.2.2.2.2.2.2.2.2.2.1 := fun j h => by rw [hm]; exact h
  have hR : ∀ (d' mL : Nat), d' + 1 ≤ 1 ∧ 8 + (mL + 11) + d' * 64 ≤ 1 * 64 → (pb_rm d').frames + 1 ≤ Γ.2.2.2.1.frames ∧ 8 + (mL + 11) + (pb_rm d').locals ≤ Γ.2.2.2.1.locals := by rw [hRm0]; exact fun _ _ h => h
  have hRm : 1 ≤ 1 ∧ 64 ≤ 1 * 64 → 1 ≤ Γ.2.2.2.1.frames ∧ 64 ≤ Γ.2.2.2.1.locals := by rw [hRm0]; exact fun h => h
  exact pb_tt_snd _ (List.forall_mem_cons.mpr ⟨(s_aload_n (pc := 0) X dX7_isNearer_0 rfl (s_getR (pc := 1) X dX7_isNearer_1 g_X7_32 (s_getR (pc := 4) X dX7_isNearer_4 g_X7_77 (s_iload_n (pc := 7) X dX7_isNearer_7 rfl (s_iald (pc := 8) X dX7_isNearer_8 h_9 (s_istore (pc := 9) X dX7_isNearer_9 (hnL _ (by decide)) (s_aload_n (pc := 11) X dX7_isNearer_11 rfl (s_getR (pc := 12) X dX7_isNearer_12 g_X7_32 (s_getR (pc := 15) X dX7_isNearer_15 g_X7_77 (s_iload_n (pc := 18) X dX7_isNearer_18 rfl (s_iald (pc := 19) X dX7_isNearer_19 h_9 (s_iload (pc := 20) X dX7_isNearer_20 (s_isub (pc := 22) X dX7_isNearer_22 (s_mabs (pc := 23) X dX7_isNearer_23 m_5_146 mm_mabs (hRm (by decide)) (s_istore (pc := 26) X dX7_isNearer_26 (hnL _ (by decide)) (s_aload_n (pc := 28) X dX7_isNearer_28 rfl (s_getR (pc := 29) X dX7_isNearer_29 g_X7_32 (s_getR (pc := 32) X dX7_isNearer_32 g_X7_77 (s_iload_n (pc := 35) X dX7_isNearer_35 rfl (s_iald (pc := 36) X dX7_isNearer_36 h_9 (s_iload (pc := 37) X dX7_isNearer_37 (s_isub (pc := 39) X dX7_isNearer_39 (s_mabs (pc := 40) X dX7_isNearer_40 m_5_146 mm_mabs (hRm (by decide)) (s_istore (pc := 43) X dX7_isNearer_43 (hnL _ (by decide)) (s_iload (pc := 45) X dX7_isNearer_45 (s_iload (pc := 47) X dX7_isNearer_47 (s_ic_lt (pc := 49) X dX7_isNearer_49 (by decide) (s_iconst (pc := 80) X dX7_isNearer_80 rfl (s_goto (pc := 81) X dX7_isNearer_81 (by decide) (s_zret (pc := 85) X E hr dX7_isNearer_85))) (s_iload (pc := 52) X dX7_isNearer_52 (s_iload (pc := 54) X dX7_isNearer_54 (s_ic_ne (pc := 56) X dX7_isNearer_56 (by decide) (s_iconst (pc := 84) X dX7_isNearer_84 rfl (s_zret (pc := 85) X E hr dX7_isNearer_85)) (s_aload_n (pc := 59) X dX7_isNearer_59 rfl (s_getR (pc := 60) X dX7_isNearer_60 g_X7_32 (s_getR (pc := 63) X dX7_isNearer_63 g_X7_77 (s_iload_n (pc := 66) X dX7_isNearer_66 rfl (s_iald (pc := 67) X dX7_isNearer_67 h_9 (s_aload_n (pc := 68) X dX7_isNearer_68 rfl (s_getR (pc := 69) X dX7_isNearer_69 g_X7_32 (s_getR (pc := 72) X dX7_isNearer_72 g_X7_77 (s_iload_n (pc := 75) X dX7_isNearer_75 rfl (s_iald (pc := 76) X dX7_isNearer_76 h_9 (s_ic_ge (pc := 77) X dX7_isNearer_77 (by decide) (s_iconst (pc := 84) X dX7_isNearer_84 rfl (s_zret (pc := 85) X E hr dX7_isNearer_85)) (s_iconst (pc := 80) X dX7_isNearer_80 rfl (s_goto (pc := 81) X dX7_isNearer_81 (by decide) (s_zret (pc := 85) X E hr dX7_isNearer_85)))))))))))))))))))))))))))))))))))))))))))), fun _ h => absurd h List.not_mem_nil⟩)
theorem dX7_addThing_0 : decode cX7_addThing 0 = .ok (.aload_n 0, 1) := by decide +kernel
theorem dX7_addThing_1 : decode cX7_addThing 1 = .ok (.getfield 36, 3) := by decide +kernel
theorem dX7_addThing_4 : decode cX7_addThing 4 = .ok (.iload_n 2, 1) := by decide +kernel
theorem dX7_addThing_5 : decode cX7_addThing 5 = .ok (.iload_n 3, 1) := by decide +kernel
theorem dX7_addThing_6 : decode cX7_addThing 6 = .ok (.invokevirtual 49, 3) := by decide +kernel
theorem dX7_addThing_9 : decode cX7_addThing 9 = .ok (.istore 4, 2) := by decide +kernel
theorem dX7_addThing_11 : decode cX7_addThing 11 = .ok (.aload_n 0, 1) := by decide +kernel
theorem dX7_addThing_12 : decode cX7_addThing 12 = .ok (.getfield 36, 3) := by decide +kernel
theorem dX7_addThing_15 : decode cX7_addThing 15 = .ok (.iload_n 2, 1) := by decide +kernel
theorem dX7_addThing_16 : decode cX7_addThing 16 = .ok (.iload_n 3, 1) := by decide +kernel
theorem dX7_addThing_17 : decode cX7_addThing 17 = .ok (.invokevirtual 97, 3) := by decide +kernel
theorem dX7_addThing_20 : decode cX7_addThing 20 = .ok (.istore 5, 2) := by decide +kernel
theorem dX7_addThing_22 : decode cX7_addThing 22 = .ok (.iload 4, 2) := by decide +kernel
theorem dX7_addThing_24 : decode cX7_addThing 24 = .ok (.bipush 121, 2) := by decide +kernel
theorem dX7_addThing_26 : decode cX7_addThing 26 = .ok (.imul, 1) := by decide +kernel
theorem dX7_addThing_27 : decode cX7_addThing 27 = .ok (.aload_n 0, 1) := by decide +kernel
theorem dX7_addThing_28 : decode cX7_addThing 28 = .ok (.getfield 32, 3) := by decide +kernel
theorem dX7_addThing_31 : decode cX7_addThing 31 = .ok (.getfield 77, 3) := by decide +kernel
theorem dX7_addThing_34 : decode cX7_addThing 34 = .ok (.iload_n 2, 1) := by decide +kernel
theorem dX7_addThing_35 : decode cX7_addThing 35 = .ok (.iaload, 1) := by decide +kernel
theorem dX7_addThing_36 : decode cX7_addThing 36 = .ok (.iadd, 1) := by decide +kernel
theorem dX7_addThing_37 : decode cX7_addThing 37 = .ok (.aload_n 0, 1) := by decide +kernel
theorem dX7_addThing_38 : decode cX7_addThing 38 = .ok (.getfield 32, 3) := by decide +kernel
theorem dX7_addThing_41 : decode cX7_addThing 41 = .ok (.getfield 77, 3) := by decide +kernel
theorem dX7_addThing_44 : decode cX7_addThing 44 = .ok (.iload_n 1, 1) := by decide +kernel
theorem dX7_addThing_45 : decode cX7_addThing 45 = .ok (.iaload, 1) := by decide +kernel
theorem dX7_addThing_46 : decode cX7_addThing 46 = .ok (.isub, 1) := by decide +kernel
theorem dX7_addThing_47 : decode cX7_addThing 47 = .ok (.bipush 60, 2) := by decide +kernel
theorem dX7_addThing_49 : decode cX7_addThing 49 = .ok (.iadd, 1) := by decide +kernel
theorem dX7_addThing_50 : decode cX7_addThing 50 = .ok (.istore 6, 2) := by decide +kernel
theorem dX7_addThing_52 : decode cX7_addThing 52 = .ok (.aload_n 0, 1) := by decide +kernel
theorem dX7_addThing_53 : decode cX7_addThing 53 = .ok (.getfield 25, 3) := by decide +kernel
theorem dX7_addThing_56 : decode cX7_addThing 56 = .ok (.iload 6, 2) := by decide +kernel
theorem dX7_addThing_58 : decode cX7_addThing 58 = .ok (.dup2, 1) := by decide +kernel
theorem dX7_addThing_59 : decode cX7_addThing 59 = .ok (.iaload, 1) := by decide +kernel
theorem dX7_addThing_60 : decode cX7_addThing 60 = .ok (.iload 5, 2) := by decide +kernel
theorem dX7_addThing_62 : decode cX7_addThing 62 = .ok (.iadd, 1) := by decide +kernel
theorem dX7_addThing_63 : decode cX7_addThing 63 = .ok (.iastore, 1) := by decide +kernel
theorem dX7_addThing_64 : decode cX7_addThing 64 = .ok (.aload_n 0, 1) := by decide +kernel
theorem dX7_addThing_65 : decode cX7_addThing 65 = .ok (.getfield 22, 3) := by decide +kernel
theorem dX7_addThing_68 : decode cX7_addThing 68 = .ok (.iload 4, 2) := by decide +kernel
theorem dX7_addThing_70 : decode cX7_addThing 70 = .ok (.bipush 20, 2) := by decide +kernel
theorem dX7_addThing_72 : decode cX7_addThing 72 = .ok (.aload_n 0, 1) := by decide +kernel
theorem dX7_addThing_73 : decode cX7_addThing 73 = .ok (.getfield 22, 3) := by decide +kernel
theorem dX7_addThing_76 : decode cX7_addThing 76 = .ok (.iload 4, 2) := by decide +kernel
theorem dX7_addThing_78 : decode cX7_addThing 78 = .ok (.iaload, 1) := by decide +kernel
theorem dX7_addThing_79 : decode cX7_addThing 79 = .ok (.aload_n 0, 1) := by decide +kernel
theorem dX7_addThing_80 : decode cX7_addThing 80 = .ok (.getfield 25, 3) := by decide +kernel
theorem dX7_addThing_83 : decode cX7_addThing 83 = .ok (.iload 6, 2) := by decide +kernel
theorem dX7_addThing_85 : decode cX7_addThing 85 = .ok (.iaload, 1) := by decide +kernel
theorem dX7_addThing_86 : decode cX7_addThing 86 = .ok (.invokestatic 100, 3) := by decide +kernel
theorem dX7_addThing_89 : decode cX7_addThing 89 = .ok (.invokestatic 103, 3) := by decide +kernel
theorem dX7_addThing_92 : decode cX7_addThing 92 = .ok (.iastore, 1) := by decide +kernel
theorem dX7_addThing_93 : decode cX7_addThing 93 = .ok (.aload_n 0, 1) := by decide +kernel
theorem dX7_addThing_94 : decode cX7_addThing 94 = .ok (.getfield 15, 3) := by decide +kernel
theorem dX7_addThing_97 : decode cX7_addThing 97 = .ok (.iload 4, 2) := by decide +kernel
theorem dX7_addThing_99 : decode cX7_addThing 99 = .ok (.iaload, 1) := by decide +kernel
theorem dX7_addThing_100 : decode cX7_addThing 100 = .ok (.iconst (-1), 1) := by decide +kernel
theorem dX7_addThing_101 : decode cX7_addThing 101 = .ok (.if_icmp .eq 19, 3) := by decide +kernel
theorem dX7_addThing_104 : decode cX7_addThing 104 = .ok (.aload_n 0, 1) := by decide +kernel
theorem dX7_addThing_105 : decode cX7_addThing 105 = .ok (.iload_n 2, 1) := by decide +kernel
theorem dX7_addThing_106 : decode cX7_addThing 106 = .ok (.aload_n 0, 1) := by decide +kernel
theorem dX7_addThing_107 : decode cX7_addThing 107 = .ok (.getfield 15, 3) := by decide +kernel
theorem dX7_addThing_110 : decode cX7_addThing 110 = .ok (.iload 4, 2) := by decide +kernel
theorem dX7_addThing_112 : decode cX7_addThing 112 = .ok (.iaload, 1) := by decide +kernel
theorem dX7_addThing_113 : decode cX7_addThing 113 = .ok (.iload_n 1, 1) := by decide +kernel
theorem dX7_addThing_114 : decode cX7_addThing 114 = .ok (.invokevirtual 106, 3) := by decide +kernel
theorem dX7_addThing_117 : decode cX7_addThing 117 = .ok (.ifCond .eq 38, 3) := by decide +kernel
theorem dX7_addThing_120 : decode cX7_addThing 120 = .ok (.aload_n 0, 1) := by decide +kernel
theorem dX7_addThing_121 : decode cX7_addThing 121 = .ok (.getfield 15, 3) := by decide +kernel
theorem dX7_addThing_124 : decode cX7_addThing 124 = .ok (.iload 4, 2) := by decide +kernel
theorem dX7_addThing_126 : decode cX7_addThing 126 = .ok (.iload_n 2, 1) := by decide +kernel
theorem dX7_addThing_127 : decode cX7_addThing 127 = .ok (.iastore, 1) := by decide +kernel
theorem dX7_addThing_128 : decode cX7_addThing 128 = .ok (.aload_n 0, 1) := by decide +kernel
theorem dX7_addThing_129 : decode cX7_addThing 129 = .ok (.getfield 19, 3) := by decide +kernel
theorem dX7_addThing_132 : decode cX7_addThing 132 = .ok (.iload 4, 2) := by decide +kernel
theorem dX7_addThing_134 : decode cX7_addThing 134 = .ok (.iconst 1, 1) := by decide +kernel
theorem dX7_addThing_135 : decode cX7_addThing 135 = .ok (.aload_n 0, 1) := by decide +kernel
theorem dX7_addThing_136 : decode cX7_addThing 136 = .ok (.getfield 32, 3) := by decide +kernel
theorem dX7_addThing_139 : decode cX7_addThing 139 = .ok (.getfield 46, 3) := by decide +kernel
theorem dX7_addThing_142 : decode cX7_addThing 142 = .ok (.iload_n 2, 1) := by decide +kernel
theorem dX7_addThing_143 : decode cX7_addThing 143 = .ok (.iaload, 1) := by decide +kernel
theorem dX7_addThing_144 : decode cX7_addThing 144 = .ok (.iconst 1, 1) := by decide +kernel
theorem dX7_addThing_145 : decode cX7_addThing 145 = .ok (.iload 5, 2) := by decide +kernel
theorem dX7_addThing_147 : decode cX7_addThing 147 = .ok (.invokestatic 100, 3) := by decide +kernel
theorem dX7_addThing_150 : decode cX7_addThing 150 = .ok (.idiv, 1) := by decide +kernel
theorem dX7_addThing_151 : decode cX7_addThing 151 = .ok (.invokestatic 100, 3) := by decide +kernel
theorem dX7_addThing_154 : decode cX7_addThing 154 = .ok (.iastore, 1) := by decide +kernel
theorem dX7_addThing_155 : decode cX7_addThing 155 = .ok (.return_, 1) := by decide +kernel
noncomputable def B_X7_addThing_0 : pb_C := (i_aload 0 (i_getR 39 25 (i_iload 2 (i_iload 3 (i_callV 25 2 1 M_X0_kindOf (i_istore 4 (i_aload 0 (i_getR 39 25 (i_iload 2 (i_iload 3 (i_callV 25 2 1 M_X0_unitsOf (i_istore 5 (i_iload 4 (i_const (.int 121) (i_ibin (· * ·) (i_aload 0 (i_getR 39 5 (i_getR 5 9 (i_iload 2 (i_ald 9 200 (i_ibin (· + ·) (i_aload 0 (i_getR 39 5 (i_getR 5 9 (i_iload 1 (i_ald 9 200 (i_ibin (· - ·) (i_const (.int 60) (i_ibin (· + ·) (i_istore 6 (i_aload 0 (i_getR 39 43 (i_iload 6 (i_dup2 (i_ald 43 1936 (i_iload 5 (i_ibin (· + ·) (i_ast 43 1936 (fun x => x) (i_aload 0 (i_getR 39 42 (i_iload 4 (i_const (.int 20) (i_aload 0 (i_getR 39 42 (i_iload 4 (i_ald 42 16 (i_aload 0 (i_getR 39 43 (i_iload 6 (i_ald 43 1936 (i_mI2 pb_max (i_mI2 pb_min (i_ast 42 16 (fun x => x) (i_aload 0 (i_getR 39 40 (i_iload 4 (i_ald 40 16 (i_const (.int (-1)) (i_ic_eq (i_jmp 120 [true, false, true, false, true, true, false]) (i_aload 0 (i_iload 2 (i_aload 0 (i_getR 39 40 (i_iload 4 (i_ald 40 16 (i_iload 1 (i_callV 39 3 1 M_X7_isNearer (i_if_eq i_vret (i_jmp 120 [true, false, true, false, true, true, false])))))))))))))))))))))))))))))))))))))))))))))))))))))))))))))))))))))
noncomputable def B_X7_addThing_120 : pb_C := (i_aload 0 (i_getR 39 40 (i_iload 4 (i_iload 2 (i_ast 40 16 (fun x => x) (i_aload 0 (i_getR 39 41 (i_iload 4 (i_const (.int 1) (i_aload 0 (i_getR 39 5 (i_getR 5 16 (i_iload 2 (i_ald 16 200 (i_const (.int 1) (i_iload 5 (i_mI2 pb_max (i_idivr (· / ·) (i_mI2 pb_max (i_ast 41 16 (fun x => x) i_vret))))))))))))))))))))
noncomputable def T_X7_addThing : Nat → pb_C := pb_tt [(0, B_X7_addThing_0), (120, B_X7_addThing_120)]
noncomputable def M_X7_addThing : pb_F := pb_M T_X7_addThing 7
set_option maxRecDepth 100000 in
set_option maxHeartbeats 4000000 in
theorem S_X7_addThing (l : Launch) : pb_Sound l yX7_addThing cX7_addThing 7 none 2 M_X7_addThing := by
  refine pb_sound_of (by decide) m_5_156 ?_
  intro Γ hl0 hRm0 hm X E hr J
  have hnL : ∀ j, j < 7 → j < Γ.2.2.2.2.2.2.2.2.2.2.2.1 := fun j h => by rw [hm]; exact h
  have hR : ∀ (d' mL : Nat), d' + 1 ≤ 2 ∧ 8 + (mL + 11) + d' * 64 ≤ 2 * 64 → (pb_rm d').frames + 1 ≤ Γ.2.2.2.1.frames ∧ 8 + (mL + 11) + (pb_rm d').locals ≤ Γ.2.2.2.1.locals := by rw [hRm0]; exact fun _ _ h => h
  have hRm : 1 ≤ 2 ∧ 64 ≤ 2 * 64 → 1 ≤ Γ.2.2.2.1.frames ∧ 64 ≤ Γ.2.2.2.1.locals := by rw [hRm0]; exact fun h => h
  exact pb_tt_snd _ (List.forall_mem_cons.mpr ⟨(s_aload_n (pc := 0) X dX7_addThing_0 rfl (s_getR (pc := 1) X dX7_addThing_1 g_X7_36 (s_iload_n (pc := 4) X dX7_addThing_4 rfl (s_iload_n (pc := 5) X dX7_addThing_5 rfl (s_callV (pc := 6) X dX7_addThing_6 (S_X0_kindOf _) q_X7_49 h_25 rfl (hR _ _ (by decide)) (s_istore (pc := 9) X dX7_addThing_9 (hnL _ (by decide)) (s_aload_n (pc := 11) X dX7_addThing_11 rfl (s_getR (pc := 12) X dX7_addThing_12 g_X7_36 (s_iload_n (pc := 15) X dX7_addThing_15 rfl (s_iload_n (pc := 16) X dX7_addThing_16 rfl (s_callV (pc := 17) X dX7_addThing_17 (S_X0_unitsOf _) q_X7_97 h_25 rfl (hR _ _ (by decide)) (s_istore (pc := 20) X dX7_addThing_20 (hnL _ (by decide)) (s_iload (pc := 22) X dX7_addThing_22 (s_bipush (pc := 24) X dX7_addThing_24 rfl (s_imul (pc := 26) X dX7_addThing_26 (s_aload_n (pc := 27) X dX7_addThing_27 rfl (s_getR (pc := 28) X dX7_addThing_28 g_X7_32 (s_getR (pc := 31) X dX7_addThing_31 g_X7_77 (s_iload_n (pc := 34) X dX7_addThing_34 rfl (s_iald (pc := 35) X dX7_addThing_35 h_9 (s_iadd (pc := 36) X dX7_addThing_36 (s_aload_n (pc := 37) X dX7_addThing_37 rfl (s_getR (pc := 38) X dX7_addThing_38 g_X7_32 (s_getR (pc := 41) X dX7_addThing_41 g_X7_77 (s_iload_n (pc := 44) X dX7_addThing_44 rfl (s_iald (pc := 45) X dX7_addThing_45 h_9 (s_isub (pc := 46) X dX7_addThing_46 (s_bipush (pc := 47) X dX7_addThing_47 rfl (s_iadd (pc := 49) X dX7_addThing_49 (s_istore (pc := 50) X dX7_addThing_50 (hnL _ (by decide)) (s_aload_n (pc := 52) X dX7_addThing_52 rfl (s_getR (pc := 53) X dX7_addThing_53 g_X7_25 (s_iload (pc := 56) X dX7_addThing_56 (s_dup2 (pc := 58) X dX7_addThing_58 (s_iald (pc := 59) X dX7_addThing_59 h_43 (s_iload (pc := 60) X dX7_addThing_60 (s_iadd (pc := 62) X dX7_addThing_62 (s_iast (pc := 63) X dX7_addThing_63 h_43 (s_aload_n (pc := 64) X dX7_addThing_64 rfl (s_getR (pc := 65) X dX7_addThing_65 g_X7_22 (s_iload (pc := 68) X dX7_addThing_68 (s_bipush (pc := 70) X dX7_addThing_70 rfl (s_aload_n (pc := 72) X dX7_addThing_72 rfl (s_getR (pc := 73) X dX7_addThing_73 g_X7_22 (s_iload (pc := 76) X dX7_addThing_76 (s_iald (pc := 78) X dX7_addThing_78 h_42 (s_aload_n (pc := 79) X dX7_addThing_79 rfl (s_getR (pc := 80) X dX7_addThing_80 g_X7_25 (s_iload (pc := 83) X dX7_addThing_83 (s_iald (pc := 85) X dX7_addThing_85 h_43 (s_mmax (pc := 86) X dX7_addThing_86 m_5_158 mm_mmax (hRm (by decide)) (s_mmin (pc := 89) X dX7_addThing_89 m_5_159 mm_mmin (hRm (by decide)) (s_iast (pc := 92) X dX7_addThing_92 h_42 (s_aload_n (pc := 93) X dX7_addThing_93 rfl (s_getR (pc := 94) X dX7_addThing_94 g_X7_15 (s_iload (pc := 97) X dX7_addThing_97 (s_iald (pc := 99) X dX7_addThing_99 h_40 (s_iconst (pc := 100) X dX7_addThing_100 rfl (s_ic_eq (pc := 101) X dX7_addThing_101 (by decide) (s_jmp (pc := 120) J [true, false, true, false, true, true, false]) (s_aload_n (pc := 104) X dX7_addThing_104 rfl (s_iload_n (pc := 105) X dX7_addThing_105 rfl (s_aload_n (pc := 106) X dX7_addThing_106 rfl (s_getR (pc := 107) X dX7_addThing_107 g_X7_15 (s_iload (pc := 110) X dX7_addThing_110 (s_iald (pc := 112) X dX7_addThing_112 h_40 (s_iload_n (pc := 113) X dX7_addThing_113 rfl (s_callV (pc := 114) X dX7_addThing_114 (S_X7_isNearer _) q_X7_106 h_39 rfl (hR _ _ (by decide)) (s_if_eq (pc := 117) X dX7_addThing_117 (by decide) (s_vret (pc := 155) X E hr dX7_addThing_155) (s_jmp (pc := 120) J [true, false, true, false, true, true, false]))))))))))))))))))))))))))))))))))))))))))))))))))))))))))))))))))))), List.forall_mem_cons.mpr ⟨(s_aload_n (pc := 120) X dX7_addThing_120 rfl (s_getR (pc := 121) X dX7_addThing_121 g_X7_15 (s_iload (pc := 124) X dX7_addThing_124 (s_iload_n (pc := 126) X dX7_addThing_126 rfl (s_iast (pc := 127) X dX7_addThing_127 h_40 (s_aload_n (pc := 128) X dX7_addThing_128 rfl (s_getR (pc := 129) X dX7_addThing_129 g_X7_19 (s_iload (pc := 132) X dX7_addThing_132 (s_iconst (pc := 134) X dX7_addThing_134 rfl (s_aload_n (pc := 135) X dX7_addThing_135 rfl (s_getR (pc := 136) X dX7_addThing_136 g_X7_32 (s_getR (pc := 139) X dX7_addThing_139 g_X7_46 (s_iload_n (pc := 142) X dX7_addThing_142 rfl (s_iald (pc := 143) X dX7_addThing_143 h_16 (s_iconst (pc := 144) X dX7_addThing_144 rfl (s_iload (pc := 145) X dX7_addThing_145 (s_mmax (pc := 147) X dX7_addThing_147 m_5_158 mm_mmax (hRm (by decide)) (s_idiv (pc := 150) X dX7_addThing_150 (s_mmax (pc := 151) X dX7_addThing_151 m_5_158 mm_mmax (hRm (by decide)) (s_iast (pc := 154) X dX7_addThing_154 h_41 (s_vret (pc := 155) X E hr dX7_addThing_155))))))))))))))))))))), fun _ h => absurd h List.not_mem_nil⟩⟩)
theorem dX7_gatherThings_0 : decode cX7_gatherThings 0 = .ok (.aload_n 0, 1) := by decide +kernel
theorem dX7_gatherThings_1 : decode cX7_gatherThings 1 = .ok (.getfield 15, 3) := by decide +kernel
theorem dX7_gatherThings_4 : decode cX7_gatherThings 4 = .ok (.iconst (-1), 1) := by decide +kernel
theorem dX7_gatherThings_5 : decode cX7_gatherThings 5 = .ok (.invokestatic 68, 3) := by decide +kernel
theorem dX7_gatherThings_8 : decode cX7_gatherThings 8 = .ok (.aload_n 0, 1) := by decide +kernel
theorem dX7_gatherThings_9 : decode cX7_gatherThings 9 = .ok (.getfield 22, 3) := by decide +kernel
theorem dX7_gatherThings_12 : decode cX7_gatherThings 12 = .ok (.iconst 0, 1) := by decide +kernel
theorem dX7_gatherThings_13 : decode cX7_gatherThings 13 = .ok (.invokestatic 68, 3) := by decide +kernel
theorem dX7_gatherThings_16 : decode cX7_gatherThings 16 = .ok (.aload_n 0, 1) := by decide +kernel
theorem dX7_gatherThings_17 : decode cX7_gatherThings 17 = .ok (.getfield 25, 3) := by decide +kernel
theorem dX7_gatherThings_20 : decode cX7_gatherThings 20 = .ok (.iconst 0, 1) := by decide +kernel
theorem dX7_gatherThings_21 : decode cX7_gatherThings 21 = .ok (.invokestatic 68, 3) := by decide +kernel
theorem dX7_gatherThings_24 : decode cX7_gatherThings 24 = .ok (.iconst 0, 1) := by decide +kernel
theorem dX7_gatherThings_25 : decode cX7_gatherThings 25 = .ok (.istore_n 3, 1) := by decide +kernel
theorem dX7_gatherThings_26 : decode cX7_gatherThings 26 = .ok (.iload_n 3, 1) := by decide +kernel
theorem dX7_gatherThings_27 : decode cX7_gatherThings 27 = .ok (.aload_n 0, 1) := by decide +kernel
theorem dX7_gatherThings_28 : decode cX7_gatherThings 28 = .ok (.getfield 32, 3) := by decide +kernel
theorem dX7_gatherThings_31 : decode cX7_gatherThings 31 = .ok (.getfield 74, 3) := by decide +kernel
theorem dX7_gatherThings_34 : decode cX7_gatherThings 34 = .ok (.if_icmp .ge 98, 3) := by decide +kernel
theorem dX7_gatherThings_37 : decode cX7_gatherThings 37 = .ok (.aload_n 0, 1) := by decide +kernel
theorem dX7_gatherThings_38 : decode cX7_gatherThings 38 = .ok (.getfield 32, 3) := by decide +kernel
theorem dX7_gatherThings_41 : decode cX7_gatherThings 41 = .ok (.getfield 77, 3) := by decide +kernel
theorem dX7_gatherThings_44 : decode cX7_gatherThings 44 = .ok (.iload_n 3, 1) := by decide +kernel
theorem dX7_gatherThings_45 : decode cX7_gatherThings 45 = .ok (.iaload, 1) := by decide +kernel
theorem dX7_gatherThings_46 : decode cX7_gatherThings 46 = .ok (.aload_n 0, 1) := by decide +kernel
theorem dX7_gatherThings_47 : decode cX7_gatherThings 47 = .ok (.getfield 32, 3) := by decide +kernel
theorem dX7_gatherThings_50 : decode cX7_gatherThings 50 = .ok (.getfield 77, 3) := by decide +kernel
theorem dX7_gatherThings_53 : decode cX7_gatherThings 53 = .ok (.iload_n 1, 1) := by decide +kernel
theorem dX7_gatherThings_54 : decode cX7_gatherThings 54 = .ok (.iaload, 1) := by decide +kernel
theorem dX7_gatherThings_55 : decode cX7_gatherThings 55 = .ok (.isub, 1) := by decide +kernel
theorem dX7_gatherThings_56 : decode cX7_gatherThings 56 = .ok (.invokestatic 80, 3) := by decide +kernel
theorem dX7_gatherThings_59 : decode cX7_gatherThings 59 = .ok (.istore 4, 2) := by decide +kernel
theorem dX7_gatherThings_61 : decode cX7_gatherThings 61 = .ok (.iload 4, 2) := by decide +kernel
theorem dX7_gatherThings_63 : decode cX7_gatherThings 63 = .ok (.ifCond .le 16, 3) := by decide +kernel
theorem dX7_gatherThings_66 : decode cX7_gatherThings 66 = .ok (.iload 4, 2) := by decide +kernel
theorem dX7_gatherThings_68 : decode cX7_gatherThings 68 = .ok (.aload_n 0, 1) := by decide +kernel
theorem dX7_gatherThings_69 : decode cX7_gatherThings 69 = .ok (.getfield 11, 3) := by decide +kernel
theorem dX7_gatherThings_72 : decode cX7_gatherThings 72 = .ok (.if_icmp .gt 7, 3) := by decide +kernel
theorem dX7_gatherThings_75 : decode cX7_gatherThings 75 = .ok (.iconst 1, 1) := by decide +kernel
theorem dX7_gatherThings_76 : decode cX7_gatherThings 76 = .ok (.goto 4, 3) := by decide +kernel
theorem dX7_gatherThings_79 : decode cX7_gatherThings 79 = .ok (.iconst 0, 1) := by decide +kernel
theorem dX7_gatherThings_80 : decode cX7_gatherThings 80 = .ok (.istore 5, 2) := by decide +kernel
theorem dX7_gatherThings_82 : decode cX7_gatherThings 82 = .ok (.iload 5, 2) := by decide +kernel
theorem dX7_gatherThings_84 : decode cX7_gatherThings 84 = .ok (.ifCond .eq 42, 3) := by decide +kernel
theorem dX7_gatherThings_87 : decode cX7_gatherThings 87 = .ok (.aload_n 0, 1) := by decide +kernel
theorem dX7_gatherThings_88 : decode cX7_gatherThings 88 = .ok (.getfield 32, 3) := by decide +kernel
theorem dX7_gatherThings_91 : decode cX7_gatherThings 91 = .ok (.iload_n 3, 1) := by decide +kernel
theorem dX7_gatherThings_92 : decode cX7_gatherThings 92 = .ok (.aload_n 0, 1) := by decide +kernel
theorem dX7_gatherThings_93 : decode cX7_gatherThings 93 = .ok (.getfield 32, 3) := by decide +kernel
theorem dX7_gatherThings_96 : decode cX7_gatherThings 96 = .ok (.getfield 86, 3) := by decide +kernel
theorem dX7_gatherThings_99 : decode cX7_gatherThings 99 = .ok (.iload_n 1, 1) := by decide +kernel
theorem dX7_gatherThings_100 : decode cX7_gatherThings 100 = .ok (.iaload, 1) := by decide +kernel
theorem dX7_gatherThings_101 : decode cX7_gatherThings 101 = .ok (.invokevirtual 89, 3) := by decide +kernel
theorem dX7_gatherThings_104 : decode cX7_gatherThings 104 = .ok (.ifCond .eq 22, 3) := by decide +kernel
theorem dX7_gatherThings_107 : decode cX7_gatherThings 107 = .ok (.aload_n 0, 1) := by decide +kernel
theorem dX7_gatherThings_108 : decode cX7_gatherThings 108 = .ok (.getfield 36, 3) := by decide +kernel
theorem dX7_gatherThings_111 : decode cX7_gatherThings 111 = .ok (.iload_n 3, 1) := by decide +kernel
theorem dX7_gatherThings_112 : decode cX7_gatherThings 112 = .ok (.iload_n 2, 1) := by decide +kernel
theorem dX7_gatherThings_113 : decode cX7_gatherThings 113 = .ok (.invokevirtual 49, 3) := by decide +kernel
theorem dX7_gatherThings_116 : decode cX7_gatherThings 116 = .ok (.ifCond .le 10, 3) := by decide +kernel
theorem dX7_gatherThings_119 : decode cX7_gatherThings 119 = .ok (.aload_n 0, 1) := by decide +kernel
theorem dX7_gatherThings_120 : decode cX7_gatherThings 120 = .ok (.iload_n 1, 1) := by decide +kernel
theorem dX7_gatherThings_121 : decode cX7_gatherThings 121 = .ok (.iload_n 3, 1) := by decide +kernel
theorem dX7_gatherThings_122 : decode cX7_gatherThings 122 = .ok (.iload_n 2, 1) := by decide +kernel
theorem dX7_gatherThings_123 : decode cX7_gatherThings 123 = .ok (.invokevirtual 93, 3) := by decide +kernel
theorem dX7_gatherThings_126 : decode cX7_gatherThings 126 = .ok (.iinc 3 1, 3) := by decide +kernel
theorem dX7_gatherThings_129 : decode cX7_gatherThings 129 = .ok (.goto (-103), 3) := by decide +kernel
theorem dX7_gatherThings_132 : decode cX7_gatherThings 132 = .ok (.return_, 1) := by decide +kernel
noncomputable def B_X7_gatherThings_0 : pb_C := (i_aload 0 (i_getR 39 40 (i_const (.int (-1)) (i_callS 2 0 M_J7_fill_53178_40 (i_aload 0 (i_getR 39 42 (i_const (.int 0) (i_callS 2 0 M_J7_fill_53178_42 (i_aload 0 (i_getR 39 43 (i_const (.int 0) (i_callS 2 0 M_J7_fill_53178_43 (i_const (.int 0) (i_istore 3 (i_jmp 26 [true, true, true, true, false, false])))))))))))))))
noncomputable def B_X7_gatherThings_26 : pb_C := (i_iload 3 (i_aload 0 (i_getR 39 5 (i_getI 5 3 (i_ic_ge i_vret (i_aload 0 (i_getR 39 5 (i_getR 5 9 (i_iload 3 (i_ald 9 200 (i_aload 0 (i_getR 39 5 (i_getR 5 9 (i_iload 1 (i_ald 9 200 (i_ibin (· - ·) (i_mI1 pb_abs (i_istore 4 (i_iload 4 (i_if_le (i_const (.int 0) (i_jmp 80 [true, true, true, true, false, false])) (i_iload 4 (i_aload 0 (i_getI 39 2 (i_ic_gt (i_const (.int 0) (i_jmp 80 [true, true, true, true, false, false])) (i_const (.int 1) (i_jmp 80 [true, true, true, true, false, false]))))))))))))))))))))))))))
noncomputable def B_X7_gatherThings_80 : pb_C := (i_istore 5 (i_iload 5 (i_if_eq (i_iinc 3 1 (i_jmp 26 [true, true, true, true, false, false])) (i_aload 0 (i_getR 39 5 (i_iload 3 (i_aload 0 (i_getR 39 5 (i_getR 5 8 (i_iload 1 (i_ald 8 200 (i_callV 5 2 1 M_X1_wentFrom (i_if_eq (i_iinc 3 1 (i_jmp 26 [true, true, true, true, false, false])) (i_aload 0 (i_getR 39 25 (i_iload 3 (i_iload 2 (i_callV 25 2 1 M_X0_kindOf (i_if_le (i_iinc 3 1 (i_jmp 26 [true, true, true, true, false, false])) (i_aload 0 (i_iload 1 (i_iload 3 (i_iload 2 (i_callV 39 3 0 M_X7_addThing (i_iinc 3 1 (i_jmp 26 [true, true, true, true, false, false]))))))))))))))))))))))))))
noncomputable def T_X7_gatherThings : Nat → pb_C := pb_tt [(0, B_X7_gatherThings_0), (26, B_X7_gatherThings_26), (80, B_X7_gatherThings_80)]
noncomputable def M_X7_gatherThings : pb_F := pb_M T_X7_gatherThings 6
set_option maxRecDepth 100000 in
set_option maxHeartbeats 4000000 in
theorem S_X7_gatherThings (l : Launch) : pb_Sound l yX7_gatherThings cX7_gatherThings 6 none 3 M_X7_gatherThings := by
  refine pb_sound_of (by decide) m_5_142 ?_
  intro Γ hl0 hRm0 hm X E hr J
  have hnL : ∀ j, j < 6 → j < Γ.2.2.2.2.2.2.2.2.2.2.2.1 := fun j h => by rw [hm]; exact h
  have hR : ∀ (d' mL : Nat), d' + 1 ≤ 3 ∧ 8 + (mL + 11) + d' * 64 ≤ 3 * 64 → (pb_rm d').frames + 1 ≤ Γ.2.2.2.1.frames ∧ 8 + (mL + 11) + (pb_rm d').locals ≤ Γ.2.2.2.1.locals := by rw [hRm0]; exact fun _ _ h => h
  have hRm : 1 ≤ 3 ∧ 64 ≤ 3 * 64 → 1 ≤ Γ.2.2.2.1.frames ∧ 64 ≤ Γ.2.2.2.1.locals := by rw [hRm0]; exact fun h => h
  exact pb_tt_snd _ (List.forall_mem_cons.mpr ⟨(s_aload_n (pc := 0) X dX7_gatherThings_0 rfl (s_getR (pc := 1) X dX7_gatherThings_1 g_X7_15 (s_iconst (pc := 4) X dX7_gatherThings_4 rfl (s_callS (pc := 5) X dX7_gatherThings_5 (S_J7_fill_53178_40 _) q_X7_68 (hR _ _ (by decide)) (s_aload_n (pc := 8) X dX7_gatherThings_8 rfl (s_getR (pc := 9) X dX7_gatherThings_9 g_X7_22 (s_iconst (pc := 12) X dX7_gatherThings_12 rfl (s_callS (pc := 13) X dX7_gatherThings_13 (S_J7_fill_53178_42 _) q_X7_68 (hR _ _ (by decide)) (s_aload_n (pc := 16) X dX7_gatherThings_16 rfl (s_getR (pc := 17) X dX7_gatherThings_17 g_X7_25 (s_iconst (pc := 20) X dX7_gatherThings_20 rfl (s_callS (pc := 21) X dX7_gatherThings_21 (S_J7_fill_53178_43 _) q_X7_68 (hR _ _ (by decide)) (s_iconst (pc := 24) X dX7_gatherThings_24 rfl (s_istore_n (pc := 25) X dX7_gatherThings_25 rfl (hnL _ (by decide)) (s_jmp (pc := 26) J [true, true, true, true, false, false]))))))))))))))), List.forall_mem_cons.mpr ⟨(s_iload_n (pc := 26) X dX7_gatherThings_26 rfl (s_aload_n (pc := 27) X dX7_gatherThings_27 rfl (s_getR (pc := 28) X dX7_gatherThings_28 g_X7_32 (s_getI (pc := 31) X dX7_gatherThings_31 g_X7_74 (s_ic_ge (pc := 34) X dX7_gatherThings_34 (by decide) (s_vret (pc := 132) X E hr dX7_gatherThings_132) (s_aload_n (pc := 37) X dX7_gatherThings_37 rfl (s_getR (pc := 38) X dX7_gatherThings_38 g_X7_32 (s_getR (pc := 41) X dX7_gatherThings_41 g_X7_77 (s_iload_n (pc := 44) X dX7_gatherThings_44 rfl (s_iald (pc := 45) X dX7_gatherThings_45 h_9 (s_aload_n (pc := 46) X dX7_gatherThings_46 rfl (s_getR (pc := 47) X dX7_gatherThings_47 g_X7_32 (s_getR (pc := 50) X dX7_gatherThings_50 g_X7_77 (s_iload_n (pc := 53) X dX7_gatherThings_53 rfl (s_iald (pc := 54) X dX7_gatherThings_54 h_9 (s_isub (pc := 55) X dX7_gatherThings_55 (s_mabs (pc := 56) X dX7_gatherThings_56 m_5_146 mm_mabs (hRm (by decide)) (s_istore (pc := 59) X dX7_gatherThings_59 (hnL _ (by decide)) (s_iload (pc := 61) X dX7_gatherThings_61 (s_if_le (pc := 63) X dX7_gatherThings_63 (by decide) (s_iconst (pc := 79) X dX7_gatherThings_79 rfl (s_jmp (pc := 80) J [true, true, true, true, false, false])) (s_iload (pc := 66) X dX7_gatherThings_66 (s_aload_n (pc := 68) X dX7_gatherThings_68 rfl (s_getI (pc := 69) X dX7_gatherThings_69 g_X7_11 (s_ic_gt (pc := 72) X dX7_gatherThings_72 (by decide) (s_iconst (pc := 79) X dX7_gatherThings_79 rfl (s_jmp (pc := 80) J [true, true, true, true, false, false])) (s_iconst (pc := 75) X dX7_gatherThings_75 rfl (s_goto (pc := 76) X dX7_gatherThings_76 (by decide) (s_jmp (pc := 80) J [true, true, true, true, false, false]))))))))))))))))))))))))))), List.forall_mem_cons.mpr ⟨(s_istore (pc := 80) X dX7_gatherThings_80 (hnL _ (by decide)) (s_iload (pc := 82) X dX7_gatherThings_82 (s_if_eq (pc := 84) X dX7_gatherThings_84 (by decide) (s_iinc (pc := 126) X dX7_gatherThings_126 rfl (s_goto (pc := 129) X dX7_gatherThings_129 (by decide) (s_jmp (pc := 26) J [true, true, true, true, false, false]))) (s_aload_n (pc := 87) X dX7_gatherThings_87 rfl (s_getR (pc := 88) X dX7_gatherThings_88 g_X7_32 (s_iload_n (pc := 91) X dX7_gatherThings_91 rfl (s_aload_n (pc := 92) X dX7_gatherThings_92 rfl (s_getR (pc := 93) X dX7_gatherThings_93 g_X7_32 (s_getR (pc := 96) X dX7_gatherThings_96 g_X7_86 (s_iload_n (pc := 99) X dX7_gatherThings_99 rfl (s_iald (pc := 100) X dX7_gatherThings_100 h_8 (s_callV (pc := 101) X dX7_gatherThings_101 (S_X1_wentFrom _) q_X7_89 h_5 rfl (hR _ _ (by decide)) (s_if_eq (pc := 104) X dX7_gatherThings_104 (by decide) (s_iinc (pc := 126) X dX7_gatherThings_126 rfl (s_goto (pc := 129) X dX7_gatherThings_129 (by decide) (s_jmp (pc := 26) J [true, true, true, true, false, false]))) (s_aload_n (pc := 107) X dX7_gatherThings_107 rfl (s_getR (pc := 108) X dX7_gatherThings_108 g_X7_36 (s_iload_n (pc := 111) X dX7_gatherThings_111 rfl (s_iload_n (pc := 112) X dX7_gatherThings_112 rfl (s_callV (pc := 113) X dX7_gatherThings_113 (S_X0_kindOf _) q_X7_49 h_25 rfl (hR _ _ (by decide)) (s_if_le (pc := 116) X dX7_gatherThings_116 (by decide) (s_iinc (pc := 126) X dX7_gatherThings_126 rfl (s_goto (pc := 129) X dX7_gatherThings_129 (by decide) (s_jmp (pc := 26) J [true, true, true, true, false, false]))) (s_aload_n (pc := 119) X dX7_gatherThings_119 rfl (s_iload_n (pc := 120) X dX7_gatherThings_120 rfl (s_iload_n (pc := 121) X dX7_gatherThings_121 rfl (s_iload_n (pc := 122) X dX7_gatherThings_122 rfl (s_callV (pc := 123) X dX7_gatherThings_123 (S_X7_addThing _) q_X7_93 h_39 rfl (hR _ _ (by decide)) (s_iinc (pc := 126) X dX7_gatherThings_126 rfl (s_goto (pc := 129) X dX7_gatherThings_129 (by decide) (s_jmp (pc := 26) J [true, true, true, true, false, false]))))))))))))))))))))))))))), fun _ h => absurd h List.not_mem_nil⟩⟩⟩)
theorem dJ7_fill_d0a16_0 : decode cJ7_fill_d0a16 0 = .ok (.iconst 0, 1) := by decide +kernel
theorem dJ7_fill_d0a16_1 : decode cJ7_fill_d0a16 1 = .ok (.istore_n 3, 1) := by decide +kernel
theorem dJ7_fill_d0a16_2 : decode cJ7_fill_d0a16 2 = .ok (.aload_n 0, 1) := by decide +kernel
theorem dJ7_fill_d0a16_3 : decode cJ7_fill_d0a16 3 = .ok (.arraylength, 1) := by decide +kernel
theorem dJ7_fill_d0a16_4 : decode cJ7_fill_d0a16 4 = .ok (.istore 4, 2) := by decide +kernel
theorem dJ7_fill_d0a16_6 : decode cJ7_fill_d0a16 6 = .ok (.iload_n 3, 1) := by decide +kernel
theorem dJ7_fill_d0a16_7 : decode cJ7_fill_d0a16 7 = .ok (.iload 4, 2) := by decide +kernel
theorem dJ7_fill_d0a16_9 : decode cJ7_fill_d0a16 9 = .ok (.if_icmp .ge 13, 3) := by decide +kernel
theorem dJ7_fill_d0a16_12 : decode cJ7_fill_d0a16 12 = .ok (.aload_n 0, 1) := by decide +kernel
theorem dJ7_fill_d0a16_13 : decode cJ7_fill_d0a16 13 = .ok (.iload_n 3, 1) := by decide +kernel
theorem dJ7_fill_d0a16_14 : decode cJ7_fill_d0a16 14 = .ok (.lload_n 1, 1) := by decide +kernel
theorem dJ7_fill_d0a16_15 : decode cJ7_fill_d0a16 15 = .ok (.lastore, 1) := by decide +kernel
theorem dJ7_fill_d0a16_16 : decode cJ7_fill_d0a16 16 = .ok (.iinc 3 1, 3) := by decide +kernel
theorem dJ7_fill_d0a16_19 : decode cJ7_fill_d0a16 19 = .ok (.goto (-13), 3) := by decide +kernel
theorem dJ7_fill_d0a16_22 : decode cJ7_fill_d0a16 22 = .ok (.return_, 1) := by decide +kernel
noncomputable def B_J7_fill_d0a16_44_0 : pb_C := (i_const (.int 0) (i_istore 3 (i_aload 0 (i_alen 44 2001 (i_istore 4 (i_jmp 6 [true, true, false, true, true]))))))
noncomputable def B_J7_fill_d0a16_44_6 : pb_C := (i_iload 3 (i_iload 4 (i_ic_ge i_vret (i_aload 0 (i_iload 3 (i_lload 1 (i_last 44 2001 (i_iinc 3 1 (i_jmp 6 [true, true, false, true, true])))))))))
noncomputable def T_J7_fill_d0a16_44 : Nat → pb_C := pb_tt [(0, B_J7_fill_d0a16_44_0), (6, B_J7_fill_d0a16_44_6)]
noncomputable def M_J7_fill_d0a16_44 : pb_F := pb_M T_J7_fill_d0a16_44 5
set_option maxRecDepth 100000 in
set_option maxHeartbeats 4000000 in
theorem S_J7_fill_d0a16_44 (l : Launch) : pb_Sound l yJ7_fill_d0a16 cJ7_fill_d0a16 5 none 1 M_J7_fill_d0a16_44 := by
  refine pb_sound_of (by decide) m_5_170 ?_
  intro Γ hl0 hRm0 hm X E hr J
  have hnL : ∀ j, j < 5 → j < Γ.2.2.2.2.2.2.2.2.2.2.2.1 := fun j h => by rw [hm]; exact h
  have hR : ∀ (d' mL : Nat), d' + 1 ≤ 1 ∧ 8 + (mL + 11) + d' * 64 ≤ 1 * 64 → (pb_rm d').frames + 1 ≤ Γ.2.2.2.1.frames ∧ 8 + (mL + 11) + (pb_rm d').locals ≤ Γ.2.2.2.1.locals := by rw [hRm0]; exact fun _ _ h => h
  have hRm : 1 ≤ 1 ∧ 64 ≤ 1 * 64 → 1 ≤ Γ.2.2.2.1.frames ∧ 64 ≤ Γ.2.2.2.1.locals := by rw [hRm0]; exact fun h => h
  exact pb_tt_snd _ (List.forall_mem_cons.mpr ⟨(s_iconst (pc := 0) X dJ7_fill_d0a16_0 rfl (s_istore_n (pc := 1) X dJ7_fill_d0a16_1 rfl (hnL _ (by decide)) (s_aload_n (pc := 2) X dJ7_fill_d0a16_2 rfl (s_alen (pc := 3) X dJ7_fill_d0a16_3 h_44 (fun cs => rfl) (s_istore (pc := 4) X dJ7_fill_d0a16_4 (hnL _ (by decide)) (s_jmp (pc := 6) J [true, true, false, true, true])))))), List.forall_mem_cons.mpr ⟨(s_iload_n (pc := 6) X dJ7_fill_d0a16_6 rfl (s_iload (pc := 7) X dJ7_fill_d0a16_7 (s_ic_ge (pc := 9) X dJ7_fill_d0a16_9 (by decide) (s_vret (pc := 22) X E hr dJ7_fill_d0a16_22) (s_aload_n (pc := 12) X dJ7_fill_d0a16_12 rfl (s_iload_n (pc := 13) X dJ7_fill_d0a16_13 rfl (s_lload_n (pc := 14) X dJ7_fill_d0a16_14 rfl (s_last (pc := 15) X dJ7_fill_d0a16_15 h_44 (s_iinc (pc := 16) X dJ7_fill_d0a16_16 rfl (s_goto (pc := 19) X dJ7_fill_d0a16_19 (by decide) (s_jmp (pc := 6) J [true, true, false, true, true])))))))))), fun _ h => absurd h List.not_mem_nil⟩⟩)
theorem dX7_addAnyNumber_0 : decode cX7_addAnyNumber 0 = .ok (.iload_n 2, 1) := by decide +kernel
theorem dX7_addAnyNumber_1 : decode cX7_addAnyNumber 1 = .ok (.istore_n 3, 1) := by decide +kernel
theorem dX7_addAnyNumber_2 : decode cX7_addAnyNumber 2 = .ok (.iload_n 3, 1) := by decide +kernel
theorem dX7_addAnyNumber_3 : decode cX7_addAnyNumber 3 = .ok (.iload_n 1, 1) := by decide +kernel
theorem dX7_addAnyNumber_4 : decode cX7_addAnyNumber 4 = .ok (.if_icmp .gt 26, 3) := by decide +kernel
theorem dX7_addAnyNumber_7 : decode cX7_addAnyNumber 7 = .ok (.aload_n 0, 1) := by decide +kernel
theorem dX7_addAnyNumber_8 : decode cX7_addAnyNumber 8 = .ok (.getfield 28, 3) := by decide +kernel
theorem dX7_addAnyNumber_11 : decode cX7_addAnyNumber 11 = .ok (.iload_n 3, 1) := by decide +kernel
theorem dX7_addAnyNumber_12 : decode cX7_addAnyNumber 12 = .ok (.dup2, 1) := by decide +kernel
theorem dX7_addAnyNumber_13 : decode cX7_addAnyNumber 13 = .ok (.laload, 1) := by decide +kernel
theorem dX7_addAnyNumber_14 : decode cX7_addAnyNumber 14 = .ok (.aload_n 0, 1) := by decide +kernel
theorem dX7_addAnyNumber_15 : decode cX7_addAnyNumber 15 = .ok (.getfield 28, 3) := by decide +kernel
theorem dX7_addAnyNumber_18 : decode cX7_addAnyNumber 18 = .ok (.iload_n 3, 1) := by decide +kernel
theorem dX7_addAnyNumber_19 : decode cX7_addAnyNumber 19 = .ok (.iload_n 2, 1) := by decide +kernel
theorem dX7_addAnyNumber_20 : decode cX7_addAnyNumber 20 = .ok (.isub, 1) := by decide +kernel
theorem dX7_addAnyNumber_21 : decode cX7_addAnyNumber 21 = .ok (.laload, 1) := by decide +kernel
theorem dX7_addAnyNumber_22 : decode cX7_addAnyNumber 22 = .ok (.ladd, 1) := by decide +kernel
theorem dX7_addAnyNumber_23 : decode cX7_addAnyNumber 23 = .ok (.lastore, 1) := by decide +kernel
theorem dX7_addAnyNumber_24 : decode cX7_addAnyNumber 24 = .ok (.iinc 3 1, 3) := by decide +kernel
theorem dX7_addAnyNumber_27 : decode cX7_addAnyNumber 27 = .ok (.goto (-25), 3) := by decide +kernel
theorem dX7_addAnyNumber_30 : decode cX7_addAnyNumber 30 = .ok (.return_, 1) := by decide +kernel
noncomputable def B_X7_addAnyNumber_0 : pb_C := (i_iload 2 (i_istore 3 (i_jmp 2 [true, true, true, true])))
noncomputable def B_X7_addAnyNumber_2 : pb_C := (i_iload 3 (i_iload 1 (i_ic_gt i_vret (i_aload 0 (i_getR 39 44 (i_iload 3 (i_dup2 (i_lald 44 2001 (i_aload 0 (i_getR 39 44 (i_iload 3 (i_iload 2 (i_ibin (· - ·) (i_lald 44 2001 (i_lbin (· + ·) (i_last 44 2001 (i_iinc 3 1 (i_jmp 2 [true, true, true, true]))))))))))))))))))
noncomputable def T_X7_addAnyNumber : Nat → pb_C := pb_tt [(0, B_X7_addAnyNumber_0), (2, B_X7_addAnyNumber_2)]
noncomputable def M_X7_addAnyNumber : pb_F := pb_M T_X7_addAnyNumber 4
set_option maxRecDepth 100000 in
set_option maxHeartbeats 4000000 in
theorem S_X7_addAnyNumber (l : Launch) : pb_Sound l yX7_addAnyNumber cX7_addAnyNumber 4 none 1 M_X7_addAnyNumber := by
  refine pb_sound_of (by decide) m_5_174 ?_
  intro Γ hl0 hRm0 hm X E hr J
  have hnL : ∀ j, j < 4 → j < Γ.2.2.2.2.2.2.2.2.2.2.2.1 := fun j h => by rw [hm]; exact h
  have hR : ∀ (d' mL : Nat), d' + 1 ≤ 1 ∧ 8 + (mL + 11) + d' * 64 ≤ 1 * 64 → (pb_rm d').frames + 1 ≤ Γ.2.2.2.1.frames ∧ 8 + (mL + 11) + (pb_rm d').locals ≤ Γ.2.2.2.1.locals := by rw [hRm0]; exact fun _ _ h => h
  have hRm : 1 ≤ 1 ∧ 64 ≤ 1 * 64 → 1 ≤ Γ.2.2.2.1.frames ∧ 64 ≤ Γ.2.2.2.1.locals := by rw [hRm0]; exact fun h => h
  exact pb_tt_snd _ (List.forall_mem_cons.mpr ⟨(s_iload_n (pc := 0) X dX7_addAnyNumber_0 rfl (s_istore_n (pc := 1) X dX7_addAnyNumber_1 rfl (hnL _ (by decide)) (s_jmp (pc := 2) J [true, true, true, true]))), List.forall_mem_cons.mpr ⟨(s_iload_n (pc := 2) X dX7_addAnyNumber_2 rfl (s_iload_n (pc := 3) X dX7_addAnyNumber_3 rfl (s_ic_gt (pc := 4) X dX7_addAnyNumber_4 (by decide) (s_vret (pc := 30) X E hr dX7_addAnyNumber_30) (s_aload_n (pc := 7) X dX7_addAnyNumber_7 rfl (s_getR (pc := 8) X dX7_addAnyNumber_8 g_X7_28 (s_iload_n (pc := 11) X dX7_addAnyNumber_11 rfl (s_dup2 (pc := 12) X dX7_addAnyNumber_12 (s_lald (pc := 13) X dX7_addAnyNumber_13 h_44 (s_aload_n (pc := 14) X dX7_addAnyNumber_14 rfl (s_getR (pc := 15) X dX7_addAnyNumber_15 g_X7_28 (s_iload_n (pc := 18) X dX7_addAnyNumber_18 rfl (s_iload_n (pc := 19) X dX7_addAnyNumber_19 rfl (s_isub (pc := 20) X dX7_addAnyNumber_20 (s_lald (pc := 21) X dX7_addAnyNumber_21 h_44 (s_ladd (pc := 22) X dX7_addAnyNumber_22 (s_last (pc := 23) X dX7_addAnyNumber_23 h_44 (s_iinc (pc := 24) X dX7_addAnyNumber_24 rfl (s_goto (pc := 27) X dX7_addAnyNumber_27 (by decide) (s_jmp (pc := 2) J [true, true, true, true]))))))))))))))))))), fun _ h => absurd h List.not_mem_nil⟩⟩)
theorem dX7_takeThoseAbove_0 : decode cX7_takeThoseAbove 0 = .ok (.iload_n 1, 1) := by decide +kernel
theorem dX7_takeThoseAbove_1 : decode cX7_takeThoseAbove 1 = .ok (.istore_n 3, 1) := by decide +kernel
theorem dX7_takeThoseAbove_2 : decode cX7_takeThoseAbove 2 = .ok (.iload_n 3, 1) := by decide +kernel
theorem dX7_takeThoseAbove_3 : decode cX7_takeThoseAbove 3 = .ok (.iload_n 2, 1) := by decide +kernel
theorem dX7_takeThoseAbove_4 : decode cX7_takeThoseAbove 4 = .ok (.if_icmp .lt 26, 3) := by decide +kernel
theorem dX7_takeThoseAbove_7 : decode cX7_takeThoseAbove 7 = .ok (.aload_n 0, 1) := by decide +kernel
theorem dX7_takeThoseAbove_8 : decode cX7_takeThoseAbove 8 = .ok (.getfield 28, 3) := by decide +kernel
theorem dX7_takeThoseAbove_11 : decode cX7_takeThoseAbove 11 = .ok (.iload_n 3, 1) := by decide +kernel
theorem dX7_takeThoseAbove_12 : decode cX7_takeThoseAbove 12 = .ok (.dup2, 1) := by decide +kernel
theorem dX7_takeThoseAbove_13 : decode cX7_takeThoseAbove 13 = .ok (.laload, 1) := by decide +kernel
theorem dX7_takeThoseAbove_14 : decode cX7_takeThoseAbove 14 = .ok (.aload_n 0, 1) := by decide +kernel
theorem dX7_takeThoseAbove_15 : decode cX7_takeThoseAbove 15 = .ok (.getfield 28, 3) := by decide +kernel
theorem dX7_takeThoseAbove_18 : decode cX7_takeThoseAbove 18 = .ok (.iload_n 3, 1) := by decide +kernel
theorem dX7_takeThoseAbove_19 : decode cX7_takeThoseAbove 19 = .ok (.iload_n 2, 1) := by decide +kernel
theorem dX7_takeThoseAbove_20 : decode cX7_takeThoseAbove 20 = .ok (.isub, 1) := by decide +kernel
theorem dX7_takeThoseAbove_21 : decode cX7_takeThoseAbove 21 = .ok (.laload, 1) := by decide +kernel
theorem dX7_takeThoseAbove_22 : decode cX7_takeThoseAbove 22 = .ok (.lsub, 1) := by decide +kernel
theorem dX7_takeThoseAbove_23 : decode cX7_takeThoseAbove 23 = .ok (.lastore, 1) := by decide +kernel
theorem dX7_takeThoseAbove_24 : decode cX7_takeThoseAbove 24 = .ok (.iinc 3 (-1), 3) := by decide +kernel
theorem dX7_takeThoseAbove_27 : decode cX7_takeThoseAbove 27 = .ok (.goto (-25), 3) := by decide +kernel
theorem dX7_takeThoseAbove_30 : decode cX7_takeThoseAbove 30 = .ok (.return_, 1) := by decide +kernel
noncomputable def B_X7_takeThoseAbove_0 : pb_C := (i_iload 1 (i_istore 3 (i_jmp 2 [true, false, true, true])))
noncomputable def B_X7_takeThoseAbove_2 : pb_C := (i_iload 3 (i_iload 2 (i_ic_lt i_vret (i_aload 0 (i_getR 39 44 (i_iload 3 (i_dup2 (i_lald 44 2001 (i_aload 0 (i_getR 39 44 (i_iload 3 (i_iload 2 (i_ibin (· - ·) (i_lald 44 2001 (i_lbin (· - ·) (i_last 44 2001 (i_iinc 3 (-1) (i_jmp 2 [true, false, true, true]))))))))))))))))))
noncomputable def T_X7_takeThoseAbove : Nat → pb_C := pb_tt [(0, B_X7_takeThoseAbove_0), (2, B_X7_takeThoseAbove_2)]
noncomputable def M_X7_takeThoseAbove : pb_F := pb_M T_X7_takeThoseAbove 4
set_option maxRecDepth 100000 in
set_option maxHeartbeats 4000000 in
theorem S_X7_takeThoseAbove (l : Launch) : pb_Sound l yX7_takeThoseAbove cX7_takeThoseAbove 4 none 1 M_X7_takeThoseAbove := by
  refine pb_sound_of (by decide) m_5_178 ?_
  intro Γ hl0 hRm0 hm X E hr J
  have hnL : ∀ j, j < 4 → j < Γ.2.2.2.2.2.2.2.2.2.2.2.1 := fun j h => by rw [hm]; exact h
  have hR : ∀ (d' mL : Nat), d' + 1 ≤ 1 ∧ 8 + (mL + 11) + d' * 64 ≤ 1 * 64 → (pb_rm d').frames + 1 ≤ Γ.2.2.2.1.frames ∧ 8 + (mL + 11) + (pb_rm d').locals ≤ Γ.2.2.2.1.locals := by rw [hRm0]; exact fun _ _ h => h
  have hRm : 1 ≤ 1 ∧ 64 ≤ 1 * 64 → 1 ≤ Γ.2.2.2.1.frames ∧ 64 ≤ Γ.2.2.2.1.locals := by rw [hRm0]; exact fun h => h
  exact pb_tt_snd _ (List.forall_mem_cons.mpr ⟨(s_iload_n (pc := 0) X dX7_takeThoseAbove_0 rfl (s_istore_n (pc := 1) X dX7_takeThoseAbove_1 rfl (hnL _ (by decide)) (s_jmp (pc := 2) J [true, false, true, true]))), List.forall_mem_cons.mpr ⟨(s_iload_n (pc := 2) X dX7_takeThoseAbove_2 rfl (s_iload_n (pc := 3) X dX7_takeThoseAbove_3 rfl (s_ic_lt (pc := 4) X dX7_takeThoseAbove_4 (by decide) (s_vret (pc := 30) X E hr dX7_takeThoseAbove_30) (s_aload_n (pc := 7) X dX7_takeThoseAbove_7 rfl (s_getR (pc := 8) X dX7_takeThoseAbove_8 g_X7_28 (s_iload_n (pc := 11) X dX7_takeThoseAbove_11 rfl (s_dup2 (pc := 12) X dX7_takeThoseAbove_12 (s_lald (pc := 13) X dX7_takeThoseAbove_13 h_44 (s_aload_n (pc := 14) X dX7_takeThoseAbove_14 rfl (s_getR (pc := 15) X dX7_takeThoseAbove_15 g_X7_28 (s_iload_n (pc := 18) X dX7_takeThoseAbove_18 rfl (s_iload_n (pc := 19) X dX7_takeThoseAbove_19 rfl (s_isub (pc := 20) X dX7_takeThoseAbove_20 (s_lald (pc := 21) X dX7_takeThoseAbove_21 h_44 (s_lsub (pc := 22) X dX7_takeThoseAbove_22 (s_last (pc := 23) X dX7_takeThoseAbove_23 h_44 (s_iinc (pc := 24) X dX7_takeThoseAbove_24 rfl (s_goto (pc := 27) X dX7_takeThoseAbove_27 (by decide) (s_jmp (pc := 2) J [true, false, true, true]))))))))))))))))))), fun _ h => absurd h List.not_mem_nil⟩⟩)
theorem dX7_countWays_0 : decode cX7_countWays 0 = .ok (.aload_n 0, 1) := by decide +kernel
theorem dX7_countWays_1 : decode cX7_countWays 1 = .ok (.getfield 28, 3) := by decide +kernel
theorem dX7_countWays_4 : decode cX7_countWays 4 = .ok (.lconst 0, 1) := by decide +kernel
theorem dX7_countWays_5 : decode cX7_countWays 5 = .ok (.invokestatic 110, 3) := by decide +kernel
theorem dX7_countWays_8 : decode cX7_countWays 8 = .ok (.aload_n 0, 1) := by decide +kernel
theorem dX7_countWays_9 : decode cX7_countWays 9 = .ok (.getfield 28, 3) := by decide +kernel
theorem dX7_countWays_12 : decode cX7_countWays 12 = .ok (.iconst 0, 1) := by decide +kernel
theorem dX7_countWays_13 : decode cX7_countWays 13 = .ok (.lconst 1, 1) := by decide +kernel
theorem dX7_countWays_14 : decode cX7_countWays 14 = .ok (.lastore, 1) := by decide +kernel
theorem dX7_countWays_15 : decode cX7_countWays 15 = .ok (.iconst 1, 1) := by decide +kernel
theorem dX7_countWays_16 : decode cX7_countWays 16 = .ok (.istore_n 3, 1) := by decide +kernel
theorem dX7_countWays_17 : decode cX7_countWays 17 = .ok (.iload_n 3, 1) := by decide +kernel
theorem dX7_countWays_18 : decode cX7_countWays 18 = .ok (.bipush 15, 2) := by decide +kernel
theorem dX7_countWays_20 : decode cX7_countWays 20 = .ok (.if_icmp .gt 55, 3) := by decide +kernel
theorem dX7_countWays_23 : decode cX7_countWays 23 = .ok (.iload_n 3, 1) := by decide +kernel
theorem dX7_countWays_24 : decode cX7_countWays 24 = .ok (.iload_n 2, 1) := by decide +kernel
theorem dX7_countWays_25 : decode cX7_countWays 25 = .ok (.if_icmp .eq 44, 3) := by decide +kernel
theorem dX7_countWays_28 : decode cX7_countWays 28 = .ok (.aload_n 0, 1) := by decide +kernel
theorem dX7_countWays_29 : decode cX7_countWays 29 = .ok (.getfield 15, 3) := by decide +kernel
theorem dX7_countWays_32 : decode cX7_countWays 32 = .ok (.iload_n 3, 1) := by decide +kernel
theorem dX7_countWays_33 : decode cX7_countWays 33 = .ok (.iaload, 1) := by decide +kernel
theorem dX7_countWays_34 : decode cX7_countWays 34 = .ok (.iconst (-1), 1) := by decide +kernel
theorem dX7_countWays_35 : decode cX7_countWays 35 = .ok (.if_icmp .eq 34, 3) := by decide +kernel
theorem dX7_countWays_38 : decode cX7_countWays 38 = .ok (.aload_n 0, 1) := by decide +kernel
theorem dX7_countWays_39 : decode cX7_countWays 39 = .ok (.iload_n 1, 1) := by decide +kernel
theorem dX7_countWays_40 : decode cX7_countWays 40 = .ok (.aload_n 0, 1) := by decide +kernel
theorem dX7_countWays_41 : decode cX7_countWays 41 = .ok (.getfield 19, 3) := by decide +kernel
theorem dX7_countWays_44 : decode cX7_countWays 44 = .ok (.iload_n 3, 1) := by decide +kernel
theorem dX7_countWays_45 : decode cX7_countWays 45 = .ok (.iaload, 1) := by decide +kernel
theorem dX7_countWays_46 : decode cX7_countWays 46 = .ok (.invokevirtual 113, 3) := by decide +kernel
theorem dX7_countWays_49 : decode cX7_countWays 49 = .ok (.aload_n 0, 1) := by decide +kernel
theorem dX7_countWays_50 : decode cX7_countWays 50 = .ok (.iload_n 1, 1) := by decide +kernel
theorem dX7_countWays_51 : decode cX7_countWays 51 = .ok (.aload_n 0, 1) := by decide +kernel
theorem dX7_countWays_52 : decode cX7_countWays 52 = .ok (.getfield 19, 3) := by decide +kernel
theorem dX7_countWays_55 : decode cX7_countWays 55 = .ok (.iload_n 3, 1) := by decide +kernel
theorem dX7_countWays_56 : decode cX7_countWays 56 = .ok (.iaload, 1) := by decide +kernel
theorem dX7_countWays_57 : decode cX7_countWays 57 = .ok (.aload_n 0, 1) := by decide +kernel
theorem dX7_countWays_58 : decode cX7_countWays 58 = .ok (.getfield 22, 3) := by decide +kernel
theorem dX7_countWays_61 : decode cX7_countWays 61 = .ok (.iload_n 3, 1) := by decide +kernel
theorem dX7_countWays_62 : decode cX7_countWays 62 = .ok (.iaload, 1) := by decide +kernel
theorem dX7_countWays_63 : decode cX7_countWays 63 = .ok (.iconst 1, 1) := by decide +kernel
theorem dX7_countWays_64 : decode cX7_countWays 64 = .ok (.iadd, 1) := by decide +kernel
theorem dX7_countWays_65 : decode cX7_countWays 65 = .ok (.imul, 1) := by decide +kernel
theorem dX7_countWays_66 : decode cX7_countWays 66 = .ok (.invokevirtual 116, 3) := by decide +kernel
theorem dX7_countWays_69 : decode cX7_countWays 69 = .ok (.iinc 3 1, 3) := by decide +kernel
theorem dX7_countWays_72 : decode cX7_countWays 72 = .ok (.goto (-55), 3) := by decide +kernel
theorem dX7_countWays_75 : decode cX7_countWays 75 = .ok (.return_, 1) := by decide +kernel
noncomputable def B_X7_countWays_0 : pb_C := (i_aload 0 (i_getR 39 44 (i_const (.long 0) (i_callS 2 0 M_J7_fill_d0a16_44 (i_aload 0 (i_getR 39 44 (i_const (.int 0) (i_const (.long 1) (i_last 44 2001 (i_const (.int 1) (i_istore 3 (i_jmp 17 [true, true, true, true]))))))))))))
noncomputable def B_X7_countWays_17 : pb_C := (i_iload 3 (i_const (.int 15) (i_ic_gt i_vret (i_iload 3 (i_iload 2 (i_ic_eq (i_iinc 3 1 (i_jmp 17 [true, true, true, true])) (i_aload 0 (i_getR 39 40 (i_iload 3 (i_ald 40 16 (i_const (.int (-1)) (i_ic_eq (i_iinc 3 1 (i_jmp 17 [true, true, true, true])) (i_aload 0 (i_iload 1 (i_aload 0 (i_getR 39 41 (i_iload 3 (i_ald 41 16 (i_callV 39 2 0 M_X7_addAnyNumber (i_aload 0 (i_iload 1 (i_aload 0 (i_getR 39 41 (i_iload 3 (i_ald 41 16 (i_aload 0 (i_getR 39 42 (i_iload 3 (i_ald 42 16 (i_const (.int 1) (i_ibin (· + ·) (i_ibin (· * ·) (i_callV 39 2 0 M_X7_takeThoseAbove (i_iinc 3 1 (i_jmp 17 [true, true, true, true])))))))))))))))))))))))))))))))))))
noncomputable def T_X7_countWays : Nat → pb_C := pb_tt [(0, B_X7_countWays_0), (17, B_X7_countWays_17)]
noncomputable def M_X7_countWays : pb_F := pb_M T_X7_countWays 4
set_option maxRecDepth 100000 in
set_option maxHeartbeats 4000000 in
theorem S_X7_countWays (l : Launch) : pb_Sound l yX7_countWays cX7_countWays 4 none 2 M_X7_countWays := by
  refine pb_sound_of (by decide) m_5_167 ?_
  intro Γ hl0 hRm0 hm X E hr J
  have hnL : ∀ j, j < 4 → j < Γ.2.2.2.2.2.2.2.2.2.2.2.1 := fun j h => by rw [hm]; exact h
  have hR : ∀ (d' mL : Nat), d' + 1 ≤ 2 ∧ 8 + (mL + 11) + d' * 64 ≤ 2 * 64 → (pb_rm d').frames + 1 ≤ Γ.2.2.2.1.frames ∧ 8 + (mL + 11) + (pb_rm d').locals ≤ Γ.2.2.2.1.locals := by rw [hRm0]; exact fun _ _ h => h
  have hRm : 1 ≤ 2 ∧ 64 ≤ 2 * 64 → 1 ≤ Γ.2.2.2.1.frames ∧ 64 ≤ Γ.2.2.2.1.locals := by rw [hRm0]; exact fun h => h
  exact pb_tt_snd _ (List.forall_mem_cons.mpr ⟨(s_aload_n (pc := 0) X dX7_countWays_0 rfl (s_getR (pc := 1) X dX7_countWays_1 g_X7_28 (s_lconst (pc := 4) X dX7_countWays_4 rfl (s_callS (pc := 5) X dX7_countWays_5 (S_J7_fill_d0a16_44 _) q_X7_110 (hR _ _ (by decide)) (s_aload_n (pc := 8) X dX7_countWays_8 rfl (s_getR (pc := 9) X dX7_countWays_9 g_X7_28 (s_iconst (pc := 12) X dX7_countWays_12 rfl (s_lconst (pc := 13) X dX7_countWays_13 rfl (s_last (pc := 14) X dX7_countWays_14 h_44 (s_iconst (pc := 15) X dX7_countWays_15 rfl (s_istore_n (pc := 16) X dX7_countWays_16 rfl (hnL _ (by decide)) (s_jmp (pc := 17) J [true, true, true, true])))))))))))), List.forall_mem_cons.mpr ⟨(s_iload_n (pc := 17) X dX7_countWays_17 rfl (s_bipush (pc := 18) X dX7_countWays_18 rfl (s_ic_gt (pc := 20) X dX7_countWays_20 (by decide) (s_vret (pc := 75) X E hr dX7_countWays_75) (s_iload_n (pc := 23) X dX7_countWays_23 rfl (s_iload_n (pc := 24) X dX7_countWays_24 rfl (s_ic_eq (pc := 25) X dX7_countWays_25 (by decide) (s_iinc (pc := 69) X dX7_countWays_69 rfl (s_goto (pc := 72) X dX7_countWays_72 (by decide) (s_jmp (pc := 17) J [true, true, true, true]))) (s_aload_n (pc := 28) X dX7_countWays_28 rfl (s_getR (pc := 29) X dX7_countWays_29 g_X7_15 (s_iload_n (pc := 32) X dX7_countWays_32 rfl (s_iald (pc := 33) X dX7_countWays_33 h_40 (s_iconst (pc := 34) X dX7_countWays_34 rfl (s_ic_eq (pc := 35) X dX7_countWays_35 (by decide) (s_iinc (pc := 69) X dX7_countWays_69 rfl (s_goto (pc := 72) X dX7_countWays_72 (by decide) (s_jmp (pc := 17) J [true, true, true, true]))) (s_aload_n (pc := 38) X dX7_countWays_38 rfl (s_iload_n (pc := 39) X dX7_countWays_39 rfl (s_aload_n (pc := 40) X dX7_countWays_40 rfl (s_getR (pc := 41) X dX7_countWays_41 g_X7_19 (s_iload_n (pc := 44) X dX7_countWays_44 rfl (s_iald (pc := 45) X dX7_countWays_45 h_41 (s_callV (pc := 46) X dX7_countWays_46 (S_X7_addAnyNumber _) q_X7_113 h_39 rfl (hR _ _ (by decide)) (s_aload_n (pc := 49) X dX7_countWays_49 rfl (s_iload_n (pc := 50) X dX7_countWays_50 rfl (s_aload_n (pc := 51) X dX7_countWays_51 rfl (s_getR (pc := 52) X dX7_countWays_52 g_X7_19 (s_iload_n (pc := 55) X dX7_countWays_55 rfl (s_iald (pc := 56) X dX7_countWays_56 h_41 (s_aload_n (pc := 57) X dX7_countWays_57 rfl (s_getR (pc := 58) X dX7_countWays_58 g_X7_22 (s_iload_n (pc := 61) X dX7_countWays_61 rfl (s_iald (pc := 62) X dX7_countWays_62 h_42 (s_iconst (pc := 63) X dX7_countWays_63 rfl (s_iadd (pc := 64) X dX7_countWays_64 (s_imul (pc := 65) X dX7_countWays_65 (s_callV (pc := 66) X dX7_countWays_66 (S_X7_takeThoseAbove _) q_X7_116 h_39 rfl (hR _ _ (by decide)) (s_iinc (pc := 69) X dX7_countWays_69 rfl (s_goto (pc := 72) X dX7_countWays_72 (by decide) (s_jmp (pc := 17) J [true, true, true, true])))))))))))))))))))))))))))))))))))), fun _ h => absurd h List.not_mem_nil⟩⟩)
