theorem dX12_wrongSundry_0 : decode cX12_wrongSundry 0 = .ok (.aload_n 0, 1) := by decide +kernel
theorem dX12_wrongSundry_1 : decode cX12_wrongSundry 1 = .ok (.iload_n 1, 1) := by decide +kernel
theorem dX12_wrongSundry_2 : decode cX12_wrongSundry 2 = .ok (.invokevirtual 299, 3) := by decide +kernel
theorem dX12_wrongSundry_5 : decode cX12_wrongSundry 5 = .ok (.ifCond .eq 11, 3) := by decide +kernel
theorem dX12_wrongSundry_8 : decode cX12_wrongSundry 8 = .ok (.aload_n 0, 1) := by decide +kernel
theorem dX12_wrongSundry_9 : decode cX12_wrongSundry 9 = .ok (.iload_n 2, 1) := by decide +kernel
theorem dX12_wrongSundry_10 : decode cX12_wrongSundry 10 = .ok (.invokevirtual 451, 3) := by decide +kernel
theorem dX12_wrongSundry_13 : decode cX12_wrongSundry 13 = .ok (.ifCond .ne 5, 3) := by decide +kernel
theorem dX12_wrongSundry_16 : decode cX12_wrongSundry 16 = .ok (.iconst 1, 1) := by decide +kernel
theorem dX12_wrongSundry_17 : decode cX12_wrongSundry 17 = .ok (.ireturn, 1) := by decide +kernel
theorem dX12_wrongSundry_18 : decode cX12_wrongSundry 18 = .ok (.aload_n 0, 1) := by decide +kernel
theorem dX12_wrongSundry_19 : decode cX12_wrongSundry 19 = .ok (.iload_n 1, 1) := by decide +kernel
theorem dX12_wrongSundry_20 : decode cX12_wrongSundry 20 = .ok (.invokevirtual 305, 3) := by decide +kernel
theorem dX12_wrongSundry_23 : decode cX12_wrongSundry 23 = .ok (.ifCond .eq 32, 3) := by decide +kernel
theorem dX12_wrongSundry_26 : decode cX12_wrongSundry 26 = .ok (.aload_n 0, 1) := by decide +kernel
theorem dX12_wrongSundry_27 : decode cX12_wrongSundry 27 = .ok (.getfield 67, 3) := by decide +kernel
theorem dX12_wrongSundry_30 : decode cX12_wrongSundry 30 = .ok (.iload_n 1, 1) := by decide +kernel
theorem dX12_wrongSundry_31 : decode cX12_wrongSundry 31 = .ok (.baload, 1) := by decide +kernel
theorem dX12_wrongSundry_32 : decode cX12_wrongSundry 32 = .ok (.ifCond .ne 23, 3) := by decide +kernel
theorem dX12_wrongSundry_35 : decode cX12_wrongSundry 35 = .ok (.aload_n 0, 1) := by decide +kernel
theorem dX12_wrongSundry_36 : decode cX12_wrongSundry 36 = .ok (.iload_n 1, 1) := by decide +kernel
theorem dX12_wrongSundry_37 : decode cX12_wrongSundry 37 = .ok (.iload_n 2, 1) := by decide +kernel
theorem dX12_wrongSundry_38 : decode cX12_wrongSundry 38 = .ok (.invokevirtual 454, 3) := by decide +kernel
theorem dX12_wrongSundry_41 : decode cX12_wrongSundry 41 = .ok (.ifCond .ne 14, 3) := by decide +kernel
theorem dX12_wrongSundry_44 : decode cX12_wrongSundry 44 = .ok (.aload_n 0, 1) := by decide +kernel
theorem dX12_wrongSundry_45 : decode cX12_wrongSundry 45 = .ok (.iload_n 1, 1) := by decide +kernel
theorem dX12_wrongSundry_46 : decode cX12_wrongSundry 46 = .ok (.invokevirtual 308, 3) := by decide +kernel
theorem dX12_wrongSundry_49 : decode cX12_wrongSundry 49 = .ok (.sipush 2000, 3) := by decide +kernel
theorem dX12_wrongSundry_52 : decode cX12_wrongSundry 52 = .ok (.if_icmp .le 8, 3) := by decide +kernel
theorem dX12_wrongSundry_55 : decode cX12_wrongSundry 55 = .ok (.bipush 6, 2) := by decide +kernel
theorem dX12_wrongSundry_57 : decode cX12_wrongSundry 57 = .ok (.goto 4, 3) := by decide +kernel
theorem dX12_wrongSundry_60 : decode cX12_wrongSundry 60 = .ok (.iconst 0, 1) := by decide +kernel
theorem dX12_wrongSundry_61 : decode cX12_wrongSundry 61 = .ok (.ireturn, 1) := by decide +kernel
noncomputable def B_X12_wrongSundry_0 : pb_C := (i_aload 0 (i_iload 1 (i_callV 64 1 1 M_X12_isLine (i_if_eq (i_const (.int 1) i_iret) (i_aload 0 (i_iload 2 (i_callV 64 1 1 M_X12_isEdition (i_if_ne (i_aload 0 (i_iload 1 (i_callV 64 1 1 M_X12_isKnown (i_if_eq (i_const (.int 6) i_iret) (i_aload 0 (i_getR 64 81 (i_iload 1 (i_ald 81 200 (i_if_ne (i_const (.int 6) i_iret) (i_aload 0 (i_iload 1 (i_iload 2 (i_callV 64 2 1 M_X12_kindOf (i_if_ne (i_const (.int 6) i_iret) (i_aload 0 (i_iload 1 (i_callV 64 1 1 M_X12_penceOf (i_const (.int 2000) (i_ic_le (i_const (.int 0) i_iret) (i_const (.int 6) i_iret)))))))))))))))))))) (i_const (.int 1) i_iret)))))))))
noncomputable def T_X12_wrongSundry : Nat → pb_C := pb_tt [(0, B_X12_wrongSundry_0)]
noncomputable def M_X12_wrongSundry : pb_F := pb_M T_X12_wrongSundry 3
set_option maxRecDepth 100000 in
set_option maxHeartbeats 4000000 in
theorem S_X12_wrongSundry (l : Launch) : pb_Sound l yX12_wrongSundry cX12_wrongSundry 3 (some .int) 6 M_X12_wrongSundry := by
  refine pb_sound_of (by decide) m_9_54 ?_
  intro Γ hl0 hRm0 hm X E hr J
  have hnL : ∀ j, j < 3 → j < Γ.2.2.2.2.2.2.2.2.2.2.2.1 := fun j h => by rw [hm]; exact h
  have hR : ∀ (d' mL : Nat), d' + 1 ≤ 6 ∧ 8 + (mL + 11) + d' * 64 ≤ 6 * 64 → (pb_rm d').frames + 1 ≤ Γ.2.2.2.1.frames ∧ 8 + (mL + 11) + (pb_rm d').locals ≤ Γ.2.2.2.1.locals := by rw [hRm0]; exact fun _ _ h => h
  have hRm : 1 ≤ 6 ∧ 64 ≤ 6 * 64 → 1 ≤ Γ.2.2.2.1.frames ∧ 64 ≤ Γ.2.2.2.1.locals := by rw [hRm0]; exact fun h => h
  exact pb_tt_snd _ (List.forall_mem_cons.mpr ⟨(s_aload_n (pc := 0) X dX12_wrongSundry_0 rfl (s_iload_n (pc := 1) X dX12_wrongSundry_1 rfl (s_callV (pc := 2) X dX12_wrongSundry_2 (S_X12_isLine _) q_X12_299 h_64 rfl (hR _ _ (by decide)) (s_if_eq (pc := 5) X dX12_wrongSundry_5 (by decide) (s_iconst (pc := 16) X dX12_wrongSundry_16 rfl (s_iret (pc := 17) X E hr dX12_wrongSundry_17)) (s_aload_n (pc := 8) X dX12_wrongSundry_8 rfl (s_iload_n (pc := 9) X dX12_wrongSundry_9 rfl (s_callV (pc := 10) X dX12_wrongSundry_10 (S_X12_isEdition _) q_X12_451 h_64 rfl (hR _ _ (by decide)) (s_if_ne (pc := 13) X dX12_wrongSundry_13 (by decide) (s_aload_n (pc := 18) X dX12_wrongSundry_18 rfl (s_iload_n (pc := 19) X dX12_wrongSundry_19 rfl (s_callV (pc := 20) X dX12_wrongSundry_20 (S_X12_isKnown _) q_X12_305 h_64 rfl (hR _ _ (by decide)) (s_if_eq (pc := 23) X dX12_wrongSundry_23 (by decide) (s_bipush (pc := 55) X dX12_wrongSundry_55 rfl (s_goto (pc := 57) X dX12_wrongSundry_57 (by decide) (s_iret (pc := 61) X E hr dX12_wrongSundry_61))) (s_aload_n (pc := 26) X dX12_wrongSundry_26 rfl (s_getR (pc := 27) X dX12_wrongSundry_27 g_X12_67 (s_iload_n (pc := 30) X dX12_wrongSundry_30 rfl (s_zald (pc := 31) X dX12_wrongSundry_31 h_81 (s_if_ne (pc := 32) X dX12_wrongSundry_32 (by decide) (s_bipush (pc := 55) X dX12_wrongSundry_55 rfl (s_goto (pc := 57) X dX12_wrongSundry_57 (by decide) (s_iret (pc := 61) X E hr dX12_wrongSundry_61))) (s_aload_n (pc := 35) X dX12_wrongSundry_35 rfl (s_iload_n (pc := 36) X dX12_wrongSundry_36 rfl (s_iload_n (pc := 37) X dX12_wrongSundry_37 rfl (s_callV (pc := 38) X dX12_wrongSundry_38 (S_X12_kindOf _) q_X12_454 h_64 rfl (hR _ _ (by decide)) (s_if_ne (pc := 41) X dX12_wrongSundry_41 (by decide) (s_bipush (pc := 55) X dX12_wrongSundry_55 rfl (s_goto (pc := 57) X dX12_wrongSundry_57 (by decide) (s_iret (pc := 61) X E hr dX12_wrongSundry_61))) (s_aload_n (pc := 44) X dX12_wrongSundry_44 rfl (s_iload_n (pc := 45) X dX12_wrongSundry_45 rfl (s_callV (pc := 46) X dX12_wrongSundry_46 (S_X12_penceOf _) q_X12_308 h_64 rfl (hR _ _ (by decide)) (s_sipush (pc := 49) X dX12_wrongSundry_49 rfl (s_ic_le (pc := 52) X dX12_wrongSundry_52 (by decide) (s_iconst (pc := 60) X dX12_wrongSundry_60 rfl (s_iret (pc := 61) X E hr dX12_wrongSundry_61)) (s_bipush (pc := 55) X dX12_wrongSundry_55 rfl (s_goto (pc := 57) X dX12_wrongSundry_57 (by decide) (s_iret (pc := 61) X E hr dX12_wrongSundry_61)))))))))))))))))))))) (s_iconst (pc := 16) X dX12_wrongSundry_16 rfl (s_iret (pc := 17) X E hr dX12_wrongSundry_17)))))))))), fun _ h => absurd h List.not_mem_nil⟩)
theorem dX12_things_0 : decode cX12_things 0 = .ok (.aload_n 0, 1) := by decide +kernel
theorem dX12_things_1 : decode cX12_things 1 = .ok (.getfield 37, 3) := by decide +kernel
theorem dX12_things_4 : decode cX12_things 4 = .ok (.iload_n 1, 1) := by decide +kernel
theorem dX12_things_5 : decode cX12_things 5 = .ok (.iaload, 1) := by decide +kernel
theorem dX12_things_6 : decode cX12_things 6 = .ok (.istore_n 3, 1) := by decide +kernel
theorem dX12_things_7 : decode cX12_things 7 = .ok (.iconst 0, 1) := by decide +kernel
theorem dX12_things_8 : decode cX12_things 8 = .ok (.istore 4, 2) := by decide +kernel
theorem dX12_things_10 : decode cX12_things 10 = .ok (.iload 4, 2) := by decide +kernel
theorem dX12_things_12 : decode cX12_things 12 = .ok (.bipush 16, 2) := by decide +kernel
theorem dX12_things_14 : decode cX12_things 14 = .ok (.if_icmp .ge 25, 3) := by decide +kernel
theorem dX12_things_17 : decode cX12_things 17 = .ok (.aload_n 0, 1) := by decide +kernel
theorem dX12_things_18 : decode cX12_things 18 = .ok (.getfield 171, 3) := by decide +kernel
theorem dX12_things_21 : decode cX12_things 21 = .ok (.iload 4, 2) := by decide +kernel
theorem dX12_things_23 : decode cX12_things 23 = .ok (.iconst (-1), 1) := by decide +kernel
theorem dX12_things_24 : decode cX12_things 24 = .ok (.iastore, 1) := by decide +kernel
theorem dX12_things_25 : decode cX12_things 25 = .ok (.aload_n 0, 1) := by decide +kernel
theorem dX12_things_26 : decode cX12_things 26 = .ok (.getfield 174, 3) := by decide +kernel
theorem dX12_things_29 : decode cX12_things 29 = .ok (.iload 4, 2) := by decide +kernel
theorem dX12_things_31 : decode cX12_things 31 = .ok (.iconst 0, 1) := by decide +kernel
theorem dX12_things_32 : decode cX12_things 32 = .ok (.iastore, 1) := by decide +kernel
theorem dX12_things_33 : decode cX12_things 33 = .ok (.iinc 4 1, 3) := by decide +kernel
theorem dX12_things_36 : decode cX12_things 36 = .ok (.goto (-26), 3) := by decide +kernel
theorem dX12_things_39 : decode cX12_things 39 = .ok (.iconst 0, 1) := by decide +kernel
theorem dX12_things_40 : decode cX12_things 40 = .ok (.istore 4, 2) := by decide +kernel
theorem dX12_things_42 : decode cX12_things 42 = .ok (.iload 4, 2) := by decide +kernel
theorem dX12_things_44 : decode cX12_things 44 = .ok (.sipush 8320, 3) := by decide +kernel
theorem dX12_things_47 : decode cX12_things 47 = .ok (.if_icmp .ge 17, 3) := by decide +kernel
theorem dX12_things_50 : decode cX12_things 50 = .ok (.aload_n 0, 1) := by decide +kernel
theorem dX12_things_51 : decode cX12_things 51 = .ok (.getfield 177, 3) := by decide +kernel
theorem dX12_things_54 : decode cX12_things 54 = .ok (.iload 4, 2) := by decide +kernel
theorem dX12_things_56 : decode cX12_things 56 = .ok (.iconst 0, 1) := by decide +kernel
theorem dX12_things_57 : decode cX12_things 57 = .ok (.iastore, 1) := by decide +kernel
theorem dX12_things_58 : decode cX12_things 58 = .ok (.iinc 4 1, 3) := by decide +kernel
theorem dX12_things_61 : decode cX12_things 61 = .ok (.goto (-19), 3) := by decide +kernel
theorem dX12_things_64 : decode cX12_things 64 = .ok (.aload_n 0, 1) := by decide +kernel
theorem dX12_things_65 : decode cX12_things 65 = .ok (.getfield 186, 3) := by decide +kernel
theorem dX12_things_68 : decode cX12_things 68 = .ok (.astore 4, 2) := by decide +kernel
theorem dX12_things_70 : decode cX12_things 70 = .ok (.aload_n 0, 1) := by decide +kernel
theorem dX12_things_71 : decode cX12_things 71 = .ok (.getfield 189, 3) := by decide +kernel
theorem dX12_things_74 : decode cX12_things 74 = .ok (.astore 5, 2) := by decide +kernel
theorem dX12_things_76 : decode cX12_things 76 = .ok (.iconst 0, 1) := by decide +kernel
theorem dX12_things_77 : decode cX12_things 77 = .ok (.istore 6, 2) := by decide +kernel
theorem dX12_things_79 : decode cX12_things 79 = .ok (.iload 6, 2) := by decide +kernel
theorem dX12_things_81 : decode cX12_things 81 = .ok (.aload_n 0, 1) := by decide +kernel
theorem dX12_things_82 : decode cX12_things 82 = .ok (.getfield 261, 3) := by decide +kernel
theorem dX12_things_85 : decode cX12_things 85 = .ok (.if_icmp .ge 242, 3) := by decide +kernel
theorem dX12_things_88 : decode cX12_things 88 = .ok (.aload_n 0, 1) := by decide +kernel
theorem dX12_things_89 : decode cX12_things 89 = .ok (.getfield 37, 3) := by decide +kernel
theorem dX12_things_92 : decode cX12_things 92 = .ok (.iload 6, 2) := by decide +kernel
theorem dX12_things_94 : decode cX12_things 94 = .ok (.iaload, 1) := by decide +kernel
theorem dX12_things_95 : decode cX12_things 95 = .ok (.iload_n 3, 1) := by decide +kernel
theorem dX12_things_96 : decode cX12_things 96 = .ok (.isub, 1) := by decide +kernel
theorem dX12_things_97 : decode cX12_things 97 = .ok (.invokestatic 476, 3) := by decide +kernel
theorem dX12_things_100 : decode cX12_things 100 = .ok (.istore 7, 2) := by decide +kernel
theorem dX12_things_102 : decode cX12_things 102 = .ok (.aload_n 0, 1) := by decide +kernel
theorem dX12_things_103 : decode cX12_things 103 = .ok (.iload 6, 2) := by decide +kernel
theorem dX12_things_105 : decode cX12_things 105 = .ok (.aload_n 0, 1) := by decide +kernel
theorem dX12_things_106 : decode cX12_things 106 = .ok (.getfield 34, 3) := by decide +kernel
theorem dX12_things_109 : decode cX12_things 109 = .ok (.iload_n 1, 1) := by decide +kernel
theorem dX12_things_110 : decode cX12_things 110 = .ok (.iaload, 1) := by decide +kernel
theorem dX12_things_111 : decode cX12_things 111 = .ok (.invokevirtual 457, 3) := by decide +kernel
theorem dX12_things_114 : decode cX12_things 114 = .ok (.ifCond .eq 207, 3) := by decide +kernel
theorem dX12_things_117 : decode cX12_things 117 = .ok (.iload 7, 2) := by decide +kernel
theorem dX12_things_119 : decode cX12_things 119 = .ok (.ifCond .eq 202, 3) := by decide +kernel
theorem dX12_things_122 : decode cX12_things 122 = .ok (.iload 7, 2) := by decide +kernel
theorem dX12_things_124 : decode cX12_things 124 = .ok (.aload_n 0, 1) := by decide +kernel
theorem dX12_things_125 : decode cX12_things 125 = .ok (.getfield 165, 3) := by decide +kernel
theorem dX12_things_128 : decode cX12_things 128 = .ok (.if_icmp .le 6, 3) := by decide +kernel
theorem dX12_things_131 : decode cX12_things 131 = .ok (.goto 190, 3) := by decide +kernel
theorem dX12_things_134 : decode cX12_things 134 = .ok (.aload_n 0, 1) := by decide +kernel
theorem dX12_things_135 : decode cX12_things 135 = .ok (.iload 6, 2) := by decide +kernel
theorem dX12_things_137 : decode cX12_things 137 = .ok (.iload_n 2, 1) := by decide +kernel
theorem dX12_things_138 : decode cX12_things 138 = .ok (.invokevirtual 448, 3) := by decide +kernel
theorem dX12_things_141 : decode cX12_things 141 = .ok (.aload_n 0, 1) := by decide +kernel
theorem dX12_things_142 : decode cX12_things 142 = .ok (.getfield 428, 3) := by decide +kernel
theorem dX12_things_145 : decode cX12_things 145 = .ok (.istore 8, 2) := by decide +kernel
theorem dX12_things_147 : decode cX12_things 147 = .ok (.iload 8, 2) := by decide +kernel
theorem dX12_things_149 : decode cX12_things 149 = .ok (.ifCond .ne 6, 3) := by decide +kernel
theorem dX12_things_152 : decode cX12_things 152 = .ok (.goto 169, 3) := by decide +kernel
theorem dX12_things_155 : decode cX12_things 155 = .ok (.aload_n 0, 1) := by decide +kernel
theorem dX12_things_156 : decode cX12_things 156 = .ok (.getfield 171, 3) := by decide +kernel
theorem dX12_things_159 : decode cX12_things 159 = .ok (.iload 8, 2) := by decide +kernel
theorem dX12_things_161 : decode cX12_things 161 = .ok (.iaload, 1) := by decide +kernel
theorem dX12_things_162 : decode cX12_things 162 = .ok (.iconst (-1), 1) := by decide +kernel
theorem dX12_things_163 : decode cX12_things 163 = .ok (.if_icmp .eq 38, 3) := by decide +kernel
theorem dX12_things_166 : decode cX12_things 166 = .ok (.iload 7, 2) := by decide +kernel
theorem dX12_things_168 : decode cX12_things 168 = .ok (.aload 4, 2) := by decide +kernel
theorem dX12_things_170 : decode cX12_things 170 = .ok (.iload 8, 2) := by decide +kernel
theorem dX12_things_172 : decode cX12_things 172 = .ok (.iaload, 1) := by decide +kernel
theorem dX12_things_173 : decode cX12_things 173 = .ok (.if_icmp .lt 28, 3) := by decide +kernel
theorem dX12_things_176 : decode cX12_things 176 = .ok (.iload 7, 2) := by decide +kernel
theorem dX12_things_178 : decode cX12_things 178 = .ok (.aload 4, 2) := by decide +kernel
theorem dX12_things_180 : decode cX12_things 180 = .ok (.iload 8, 2) := by decide +kernel
theorem dX12_things_182 : decode cX12_things 182 = .ok (.iaload, 1) := by decide +kernel
theorem dX12_things_183 : decode cX12_things 183 = .ok (.if_icmp .ne 22, 3) := by decide +kernel
theorem dX12_things_186 : decode cX12_things 186 = .ok (.aload_n 0, 1) := by decide +kernel
theorem dX12_things_187 : decode cX12_things 187 = .ok (.getfield 37, 3) := by decide +kernel
theorem dX12_things_190 : decode cX12_things 190 = .ok (.iload 6, 2) := by decide +kernel
theorem dX12_things_192 : decode cX12_things 192 = .ok (.iaload, 1) := by decide +kernel
theorem dX12_things_193 : decode cX12_things 193 = .ok (.aload 5, 2) := by decide +kernel
theorem dX12_things_195 : decode cX12_things 195 = .ok (.iload 8, 2) := by decide +kernel
theorem dX12_things_197 : decode cX12_things 197 = .ok (.iaload, 1) := by decide +kernel
theorem dX12_things_198 : decode cX12_things 198 = .ok (.if_icmp .ge 7, 3) := by decide +kernel
theorem dX12_things_201 : decode cX12_things 201 = .ok (.iconst 1, 1) := by decide +kernel
theorem dX12_things_202 : decode cX12_things 202 = .ok (.goto 4, 3) := by decide +kernel
theorem dX12_things_205 : decode cX12_things 205 = .ok (.iconst 0, 1) := by decide +kernel
theorem dX12_things_206 : decode cX12_things 206 = .ok (.istore 9, 2) := by decide +kernel
theorem dX12_things_208 : decode cX12_things 208 = .ok (.iload 9, 2) := by decide +kernel
theorem dX12_things_210 : decode cX12_things 210 = .ok (.ifCond .eq 44, 3) := by decide +kernel
theorem dX12_things_213 : decode cX12_things 213 = .ok (.aload_n 0, 1) := by decide +kernel
theorem dX12_things_214 : decode cX12_things 214 = .ok (.getfield 171, 3) := by decide +kernel
theorem dX12_things_217 : decode cX12_things 217 = .ok (.iload 8, 2) := by decide +kernel
theorem dX12_things_219 : decode cX12_things 219 = .ok (.iconst 1, 1) := by decide +kernel
theorem dX12_things_220 : decode cX12_things 220 = .ok (.aload_n 0, 1) := by decide +kernel
theorem dX12_things_221 : decode cX12_things 221 = .ok (.iload 6, 2) := by decide +kernel
theorem dX12_things_223 : decode cX12_things 223 = .ok (.invokevirtual 308, 3) := by decide +kernel
theorem dX12_things_226 : decode cX12_things 226 = .ok (.aload_n 0, 1) := by decide +kernel
theorem dX12_things_227 : decode cX12_things 227 = .ok (.getfield 431, 3) := by decide +kernel
theorem dX12_things_230 : decode cX12_things 230 = .ok (.idiv, 1) := by decide +kernel
theorem dX12_things_231 : decode cX12_things 231 = .ok (.invokestatic 509, 3) := by decide +kernel
theorem dX12_things_234 : decode cX12_things 234 = .ok (.iastore, 1) := by decide +kernel
theorem dX12_things_235 : decode cX12_things 235 = .ok (.aload 4, 2) := by decide +kernel
theorem dX12_things_237 : decode cX12_things 237 = .ok (.iload 8, 2) := by decide +kernel
theorem dX12_things_239 : decode cX12_things 239 = .ok (.iload 7, 2) := by decide +kernel
theorem dX12_things_241 : decode cX12_things 241 = .ok (.iastore, 1) := by decide +kernel
theorem dX12_things_242 : decode cX12_things 242 = .ok (.aload 5, 2) := by decide +kernel
theorem dX12_things_244 : decode cX12_things 244 = .ok (.iload 8, 2) := by decide +kernel
theorem dX12_things_246 : decode cX12_things 246 = .ok (.aload_n 0, 1) := by decide +kernel
theorem dX12_things_247 : decode cX12_things 247 = .ok (.getfield 37, 3) := by decide +kernel
theorem dX12_things_250 : decode cX12_things 250 = .ok (.iload 6, 2) := by decide +kernel
theorem dX12_things_252 : decode cX12_things 252 = .ok (.iaload, 1) := by decide +kernel
theorem dX12_things_253 : decode cX12_things 253 = .ok (.iastore, 1) := by decide +kernel
theorem dX12_things_254 : decode cX12_things 254 = .ok (.aload_n 0, 1) := by decide +kernel
theorem dX12_things_255 : decode cX12_things 255 = .ok (.getfield 177, 3) := by decide +kernel
theorem dX12_things_258 : decode cX12_things 258 = .ok (.sipush 520, 3) := by decide +kernel
theorem dX12_things_261 : decode cX12_things 261 = .ok (.iload 8, 2) := by decide +kernel
theorem dX12_things_263 : decode cX12_things 263 = .ok (.imul, 1) := by decide +kernel
theorem dX12_things_264 : decode cX12_things 264 = .ok (.aload_n 0, 1) := by decide +kernel
theorem dX12_things_265 : decode cX12_things 265 = .ok (.getfield 37, 3) := by decide +kernel
theorem dX12_things_268 : decode cX12_things 268 = .ok (.iload 6, 2) := by decide +kernel
theorem dX12_things_270 : decode cX12_things 270 = .ok (.iaload, 1) := by decide +kernel
theorem dX12_things_271 : decode cX12_things 271 = .ok (.iadd, 1) := by decide +kernel
theorem dX12_things_272 : decode cX12_things 272 = .ok (.dup2, 1) := by decide +kernel
theorem dX12_things_273 : decode cX12_things 273 = .ok (.iaload, 1) := by decide +kernel
theorem dX12_things_274 : decode cX12_things 274 = .ok (.aload_n 0, 1) := by decide +kernel
theorem dX12_things_275 : decode cX12_things 275 = .ok (.getfield 431, 3) := by decide +kernel
theorem dX12_things_278 : decode cX12_things 278 = .ok (.iadd, 1) := by decide +kernel
theorem dX12_things_279 : decode cX12_things 279 = .ok (.iastore, 1) := by decide +kernel
theorem dX12_things_280 : decode cX12_things 280 = .ok (.aload_n 0, 1) := by decide +kernel
theorem dX12_things_281 : decode cX12_things 281 = .ok (.getfield 174, 3) := by decide +kernel
theorem dX12_things_284 : decode cX12_things 284 = .ok (.iload 8, 2) := by decide +kernel
theorem dX12_things_286 : decode cX12_things 286 = .ok (.bipush 20, 2) := by decide +kernel
theorem dX12_things_288 : decode cX12_things 288 = .ok (.aload_n 0, 1) := by decide +kernel
theorem dX12_things_289 : decode cX12_things 289 = .ok (.getfield 174, 3) := by decide +kernel
theorem dX12_things_292 : decode cX12_things 292 = .ok (.iload 8, 2) := by decide +kernel
theorem dX12_things_294 : decode cX12_things 294 = .ok (.iaload, 1) := by decide +kernel
theorem dX12_things_295 : decode cX12_things 295 = .ok (.aload_n 0, 1) := by decide +kernel
theorem dX12_things_296 : decode cX12_things 296 = .ok (.getfield 177, 3) := by decide +kernel
theorem dX12_things_299 : decode cX12_things 299 = .ok (.sipush 520, 3) := by decide +kernel
theorem dX12_things_302 : decode cX12_things 302 = .ok (.iload 8, 2) := by decide +kernel
theorem dX12_things_304 : decode cX12_things 304 = .ok (.imul, 1) := by decide +kernel
theorem dX12_things_305 : decode cX12_things 305 = .ok (.aload_n 0, 1) := by decide +kernel
theorem dX12_things_306 : decode cX12_things 306 = .ok (.getfield 37, 3) := by decide +kernel
theorem dX12_things_309 : decode cX12_things 309 = .ok (.iload 6, 2) := by decide +kernel
theorem dX12_things_311 : decode cX12_things 311 = .ok (.iaload, 1) := by decide +kernel
theorem dX12_things_312 : decode cX12_things 312 = .ok (.iadd, 1) := by decide +kernel
theorem dX12_things_313 : decode cX12_things 313 = .ok (.iaload, 1) := by decide +kernel
theorem dX12_things_314 : decode cX12_things 314 = .ok (.invokestatic 509, 3) := by decide +kernel
theorem dX12_things_317 : decode cX12_things 317 = .ok (.invokestatic 343, 3) := by decide +kernel
theorem dX12_things_320 : decode cX12_things 320 = .ok (.iastore, 1) := by decide +kernel
theorem dX12_things_321 : decode cX12_things 321 = .ok (.iinc 6 1, 3) := by decide +kernel
theorem dX12_things_324 : decode cX12_things 324 = .ok (.goto (-245), 3) := by decide +kernel
theorem dX12_things_327 : decode cX12_things 327 = .ok (.return_, 1) := by decide +kernel
noncomputable def B_X12_things_0 : pb_C := (i_aload 0 (i_getR 64 71 (i_iload 1 (i_ald 71 200 (i_istore 3 (i_const (.int 0) (i_istore 4 (i_jmp 10 [true, true, true, true, true, false, false, false, false, false]))))))))
noncomputable def B_X12_things_10 : pb_C := (i_iload 4 (i_const (.int 16) (i_ic_ge (i_const (.int 0) (i_istore 4 (i_jmp 42 [true, true, true, true, true, false, false, false, false, false]))) (i_aload 0 (i_getR 64 110 (i_iload 4 (i_const (.int (-1)) (i_ast 110 16 (fun x => x) (i_aload 0 (i_getR 64 111 (i_iload 4 (i_const (.int 0) (i_ast 111 16 (fun x => x) (i_iinc 4 1 (i_jmp 10 [true, true, true, true, true, false, false, false, false, false])))))))))))))))
noncomputable def B_X12_things_42 : pb_C := (i_iload 4 (i_const (.int 8320) (i_ic_ge (i_aload 0 (i_getR 64 115 (i_astore 4 (i_aload 0 (i_getR 64 116 (i_astore 5 (i_const (.int 0) (i_istore 6 (i_jmp 79 [true, true, true, true, true, true, true, false, false, false]))))))))) (i_aload 0 (i_getR 64 112 (i_iload 4 (i_const (.int 0) (i_ast 112 8320 (fun x => x) (i_iinc 4 1 (i_jmp 42 [true, true, true, true, true, false, false, false, false, false]))))))))))
noncomputable def B_X12_things_79 : pb_C := (i_iload 6 (i_aload 0 (i_getI 64 7 (i_ic_ge i_vret (i_aload 0 (i_getR 64 71 (i_iload 6 (i_ald 71 200 (i_iload 3 (i_ibin (· - ·) (i_mI1 pb_abs (i_istore 7 (i_aload 0 (i_iload 6 (i_aload 0 (i_getR 64 70 (i_iload 1 (i_ald 70 200 (i_callV 64 2 1 M_X12_went (i_if_eq (i_iinc 6 1 (i_jmp 79 [true, true, true, true, true, true, true, false, false, false])) (i_iload 7 (i_if_eq (i_iinc 6 1 (i_jmp 79 [true, true, true, true, true, true, true, false, false, false])) (i_iload 7 (i_aload 0 (i_getI 64 76 (i_ic_le (i_aload 0 (i_iload 6 (i_iload 2 (i_callV 64 2 0 M_X12_sortOut (i_aload 0 (i_getI 64 62 (i_istore 8 (i_iload 8 (i_if_ne (i_aload 0 (i_getR 64 110 (i_iload 8 (i_ald 110 16 (i_const (.int (-1)) (i_ic_eq (i_const (.int 1) (i_jmp 206 [true, true, true, true, true, true, true, true, true, false])) (i_iload 7 (i_aload 4 (i_iload 8 (i_ald 115 16 (i_ic_lt (i_const (.int 1) (i_jmp 206 [true, true, true, true, true, true, true, true, true, false])) (i_iload 7 (i_aload 4 (i_iload 8 (i_ald 115 16 (i_ic_ne (i_const (.int 0) (i_jmp 206 [true, true, true, true, true, true, true, true, true, false])) (i_aload 0 (i_getR 64 71 (i_iload 6 (i_ald 71 200 (i_aload 5 (i_iload 8 (i_ald 116 16 (i_ic_ge (i_const (.int 0) (i_jmp 206 [true, true, true, true, true, true, true, true, true, false])) (i_const (.int 1) (i_jmp 206 [true, true, true, true, true, true, true, true, true, false])))))))))))))))))))))))))) (i_iinc 6 1 (i_jmp 79 [true, true, true, true, true, true, true, false, false, false]))))))))))) (i_iinc 6 1 (i_jmp 79 [true, true, true, true, true, true, true, false, false, false]))))))))))))))))))))))))))))
noncomputable def B_X12_things_206 : pb_C := (i_istore 9 (i_iload 9 (i_if_eq (i_jmp 254 [true, true, true, true, true, true, true, false, true, false]) (i_aload 0 (i_getR 64 110 (i_iload 8 (i_const (.int 1) (i_aload 0 (i_iload 6 (i_callV 64 1 1 M_X12_penceOf (i_aload 0 (i_getI 64 63 (i_idivr (· / ·) (i_mI2 pb_max (i_ast 110 16 (fun x => x) (i_aload 4 (i_iload 8 (i_iload 7 (i_ast 115 16 (fun x => x) (i_aload 5 (i_iload 8 (i_aload 0 (i_getR 64 71 (i_iload 6 (i_ald 71 200 (i_ast 116 16 (fun x => x) (i_jmp 254 [true, true, true, true, true, true, true, false, true, false])))))))))))))))))))))))))))
noncomputable def B_X12_things_254 : pb_C := (i_aload 0 (i_getR 64 112 (i_const (.int 520) (i_iload 8 (i_ibin (· * ·) (i_aload 0 (i_getR 64 71 (i_iload 6 (i_ald 71 200 (i_ibin (· + ·) (i_dup2 (i_ald 112 8320 (i_aload 0 (i_getI 64 63 (i_ibin (· + ·) (i_ast 112 8320 (fun x => x) (i_aload 0 (i_getR 64 111 (i_iload 8 (i_const (.int 20) (i_aload 0 (i_getR 64 111 (i_iload 8 (i_ald 111 16 (i_aload 0 (i_getR 64 112 (i_const (.int 520) (i_iload 8 (i_ibin (· * ·) (i_aload 0 (i_getR 64 71 (i_iload 6 (i_ald 71 200 (i_ibin (· + ·) (i_ald 112 8320 (i_mI2 pb_max (i_mI2 pb_min (i_ast 111 16 (fun x => x) (i_iinc 6 1 (i_jmp 79 [true, true, true, true, true, true, true, false, false, false]))))))))))))))))))))))))))))))))))))))))
noncomputable def T_X12_things : Nat → pb_C := pb_tt [(0, B_X12_things_0), (10, B_X12_things_10), (42, B_X12_things_42), (79, B_X12_things_79), (206, B_X12_things_206), (254, B_X12_things_254)]
noncomputable def M_X12_things : pb_F := pb_M T_X12_things 10
set_option maxRecDepth 100000 in
set_option maxHeartbeats 4000000 in
theorem S_X12_things (l : Launch) : pb_Sound l yX12_things cX12_things 10 none 5 M_X12_things := by
  refine pb_sound_of (by decide) m_9_58 ?_
  intro Γ hl0 hRm0 hm X E hr J
  have hnL : ∀ j, j < 10 → j < Γ.2.2.2.2.2.2.2.2.2.2.2.1 := fun j h => by rw [hm]; exact h
  have hR : ∀ (d' mL : Nat), d' + 1 ≤ 5 ∧ 8 + (mL + 11) + d' * 64 ≤ 5 * 64 → (pb_rm d').frames + 1 ≤ Γ.2.2.2.1.frames ∧ 8 + (mL + 11) + (pb_rm d').locals ≤ Γ.2.2.2.1.locals := by rw [hRm0]; exact fun _ _ h => h
  have hRm : 1 ≤ 5 ∧ 64 ≤ 5 * 64 → 1 ≤ Γ.2.2.2.1.frames ∧ 64 ≤ Γ.2.2.2.1.locals := by rw [hRm0]; exact fun h => h
  exact pb_tt_snd _ (List.forall_mem_cons.mpr ⟨(s_aload_n (pc := 0) X dX12_things_0 rfl (s_getR (pc := 1) X dX12_things_1 g_X12_37 (s_iload_n (pc := 4) X dX12_things_4 rfl (s_iald (pc := 5) X dX12_things_5 h_71 (s_istore_n (pc := 6) X dX12_things_6 rfl (hnL _ (by decide)) (s_iconst (pc := 7) X dX12_things_7 rfl (s_istore (pc := 8) X dX12_things_8 (hnL _ (by decide)) (s_jmp (pc := 10) J [true, true, true, true, true, false, false, false, false, false])))))))), List.forall_mem_cons.mpr ⟨(s_iload (pc := 10) X dX12_things_10 (s_bipush (pc := 12) X dX12_things_12 rfl (s_ic_ge (pc := 14) X dX12_things_14 (by decide) (s_iconst (pc := 39) X dX12_things_39 rfl (s_istore (pc := 40) X dX12_things_40 (hnL _ (by decide)) (s_jmp (pc := 42) J [true, true, true, true, true, false, false, false, false, false]))) (s_aload_n (pc := 17) X dX12_things_17 rfl (s_getR (pc := 18) X dX12_things_18 g_X12_171 (s_iload (pc := 21) X dX12_things_21 (s_iconst (pc := 23) X dX12_things_23 rfl (s_iast (pc := 24) X dX12_things_24 h_110 (s_aload_n (pc := 25) X dX12_things_25 rfl (s_getR (pc := 26) X dX12_things_26 g_X12_174 (s_iload (pc := 29) X dX12_things_29 (s_iconst (pc := 31) X dX12_things_31 rfl (s_iast (pc := 32) X dX12_things_32 h_111 (s_iinc (pc := 33) X dX12_things_33 rfl (s_goto (pc := 36) X dX12_things_36 (by decide) (s_jmp (pc := 10) J [true, true, true, true, true, false, false, false, false, false])))))))))))))))), List.forall_mem_cons.mpr ⟨(s_iload (pc := 42) X dX12_things_42 (s_sipush (pc := 44) X dX12_things_44 rfl (s_ic_ge (pc := 47) X dX12_things_47 (by decide) (s_aload_n (pc := 64) X dX12_things_64 rfl (s_getR (pc := 65) X dX12_things_65 g_X12_186 (s_astore (pc := 68) X dX12_things_68 (hnL _ (by decide)) (s_aload_n (pc := 70) X dX12_things_70 rfl (s_getR (pc := 71) X dX12_things_71 g_X12_189 (s_astore (pc := 74) X dX12_things_74 (hnL _ (by decide)) (s_iconst (pc := 76) X dX12_things_76 rfl (s_istore (pc := 77) X dX12_things_77 (hnL _ (by decide)) (s_jmp (pc := 79) J [true, true, true, true, true, true, true, false, false, false]))))))))) (s_aload_n (pc := 50) X dX12_things_50 rfl (s_getR (pc := 51) X dX12_things_51 g_X12_177 (s_iload (pc := 54) X dX12_things_54 (s_iconst (pc := 56) X dX12_things_56 rfl (s_iast (pc := 57) X dX12_things_57 h_112 (s_iinc (pc := 58) X dX12_things_58 rfl (s_goto (pc := 61) X dX12_things_61 (by decide) (s_jmp (pc := 42) J [true, true, true, true, true, false, false, false, false, false]))))))))))), List.forall_mem_cons.mpr ⟨(s_iload (pc := 79) X dX12_things_79 (s_aload_n (pc := 81) X dX12_things_81 rfl (s_getI (pc := 82) X dX12_things_82 g_X12_261 (s_ic_ge (pc := 85) X dX12_things_85 (by decide) (s_vret (pc := 327) X E hr dX12_things_327) (s_aload_n (pc := 88) X dX12_things_88 rfl (s_getR (pc := 89) X dX12_things_89 g_X12_37 (s_iload (pc := 92) X dX12_things_92 (s_iald (pc := 94) X dX12_things_94 h_71 (s_iload_n (pc := 95) X dX12_things_95 rfl (s_isub (pc := 96) X dX12_things_96 (s_mabs (pc := 97) X dX12_things_97 m_9_26 mm_mabs (hRm (by decide)) (s_istore (pc := 100) X dX12_things_100 (hnL _ (by decide)) (s_aload_n (pc := 102) X dX12_things_102 rfl (s_iload (pc := 103) X dX12_things_103 (s_aload_n (pc := 105) X dX12_things_105 rfl (s_getR (pc := 106) X dX12_things_106 g_X12_34 (s_iload_n (pc := 109) X dX12_things_109 rfl (s_iald (pc := 110) X dX12_things_110 h_70 (s_callV (pc := 111) X dX12_things_111 (S_X12_went _) q_X12_457 h_64 rfl (hR _ _ (by decide)) (s_if_eq (pc := 114) X dX12_things_114 (by decide) (s_iinc (pc := 321) X dX12_things_321 rfl (s_goto (pc := 324) X dX12_things_324 (by decide) (s_jmp (pc := 79) J [true, true, true, true, true, true, true, false, false, false]))) (s_iload (pc := 117) X dX12_things_117 (s_if_eq (pc := 119) X dX12_things_119 (by decide) (s_iinc (pc := 321) X dX12_things_321 rfl (s_goto (pc := 324) X dX12_things_324 (by decide) (s_jmp (pc := 79) J [true, true, true, true, true, true, true, false, false, false]))) (s_iload (pc := 122) X dX12_things_122 (s_aload_n (pc := 124) X dX12_things_124 rfl (s_getI (pc := 125) X dX12_things_125 g_X12_165 (s_ic_le (pc := 128) X dX12_things_128 (by decide) (s_aload_n (pc := 134) X dX12_things_134 rfl (s_iload (pc := 135) X dX12_things_135 (s_iload_n (pc := 137) X dX12_things_137 rfl (s_callV (pc := 138) X dX12_things_138 (S_X12_sortOut _) q_X12_448 h_64 rfl (hR _ _ (by decide)) (s_aload_n (pc := 141) X dX12_things_141 rfl (s_getI (pc := 142) X dX12_things_142 g_X12_428 (s_istore (pc := 145) X dX12_things_145 (hnL _ (by decide)) (s_iload (pc := 147) X dX12_things_147 (s_if_ne (pc := 149) X dX12_things_149 (by decide) (s_aload_n (pc := 155) X dX12_things_155 rfl (s_getR (pc := 156) X dX12_things_156 g_X12_171 (s_iload (pc := 159) X dX12_things_159 (s_iald (pc := 161) X dX12_things_161 h_110 (s_iconst (pc := 162) X dX12_things_162 rfl (s_ic_eq (pc := 163) X dX12_things_163 (by decide) (s_iconst (pc := 201) X dX12_things_201 rfl (s_goto (pc := 202) X dX12_things_202 (by decide) (s_jmp (pc := 206) J [true, true, true, true, true, true, true, true, true, false]))) (s_iload (pc := 166) X dX12_things_166 (s_aload (pc := 168) X dX12_things_168 (s_iload (pc := 170) X dX12_things_170 (s_iald (pc := 172) X dX12_things_172 h_115 (s_ic_lt (pc := 173) X dX12_things_173 (by decide) (s_iconst (pc := 201) X dX12_things_201 rfl (s_goto (pc := 202) X dX12_things_202 (by decide) (s_jmp (pc := 206) J [true, true, true, true, true, true, true, true, true, false]))) (s_iload (pc := 176) X dX12_things_176 (s_aload (pc := 178) X dX12_things_178 (s_iload (pc := 180) X dX12_things_180 (s_iald (pc := 182) X dX12_things_182 h_115 (s_ic_ne (pc := 183) X dX12_things_183 (by decide) (s_iconst (pc := 205) X dX12_things_205 rfl (s_jmp (pc := 206) J [true, true, true, true, true, true, true, true, true, false])) (s_aload_n (pc := 186) X dX12_things_186 rfl (s_getR (pc := 187) X dX12_things_187 g_X12_37 (s_iload (pc := 190) X dX12_things_190 (s_iald (pc := 192) X dX12_things_192 h_71 (s_aload (pc := 193) X dX12_things_193 (s_iload (pc := 195) X dX12_things_195 (s_iald (pc := 197) X dX12_things_197 h_116 (s_ic_ge (pc := 198) X dX12_things_198 (by decide) (s_iconst (pc := 205) X dX12_things_205 rfl (s_jmp (pc := 206) J [true, true, true, true, true, true, true, true, true, false])) (s_iconst (pc := 201) X dX12_things_201 rfl (s_goto (pc := 202) X dX12_things_202 (by decide) (s_jmp (pc := 206) J [true, true, true, true, true, true, true, true, true, false]))))))))))))))))))))))))))) (s_goto (pc := 152) X dX12_things_152 (by decide) (s_iinc (pc := 321) X dX12_things_321 rfl (s_goto (pc := 324) X dX12_things_324 (by decide) (s_jmp (pc := 79) J [true, true, true, true, true, true, true, false, false, false]))))))))))))) (s_goto (pc := 131) X dX12_things_131 (by decide) (s_iinc (pc := 321) X dX12_things_321 rfl (s_goto (pc := 324) X dX12_things_324 (by decide) (s_jmp (pc := 79) J [true, true, true, true, true, true, true, false, false, false])))))))))))))))))))))))))))))), List.forall_mem_cons.mpr ⟨(s_istore (pc := 206) X dX12_things_206 (hnL _ (by decide)) (s_iload (pc := 208) X dX12_things_208 (s_if_eq (pc := 210) X dX12_things_210 (by decide) (s_jmp (pc := 254) J [true, true, true, true, true, true, true, false, true, false]) (s_aload_n (pc := 213) X dX12_things_213 rfl (s_getR (pc := 214) X dX12_things_214 g_X12_171 (s_iload (pc := 217) X dX12_things_217 (s_iconst (pc := 219) X dX12_things_219 rfl (s_aload_n (pc := 220) X dX12_things_220 rfl (s_iload (pc := 221) X dX12_things_221 (s_callV (pc := 223) X dX12_things_223 (S_X12_penceOf _) q_X12_308 h_64 rfl (hR _ _ (by decide)) (s_aload_n (pc := 226) X dX12_things_226 rfl (s_getI (pc := 227) X dX12_things_227 g_X12_431 (s_idiv (pc := 230) X dX12_things_230 (s_mmax (pc := 231) X dX12_things_231 m_9_59 mm_mmax (hRm (by decide)) (s_iast (pc := 234) X dX12_things_234 h_110 (s_aload (pc := 235) X dX12_things_235 (s_iload (pc := 237) X dX12_things_237 (s_iload (pc := 239) X dX12_things_239 (s_iast (pc := 241) X dX12_things_241 h_115 (s_aload (pc := 242) X dX12_things_242 (s_iload (pc := 244) X dX12_things_244 (s_aload_n (pc := 246) X dX12_things_246 rfl (s_getR (pc := 247) X dX12_things_247 g_X12_37 (s_iload (pc := 250) X dX12_things_250 (s_iald (pc := 252) X dX12_things_252 h_71 (s_iast (pc := 253) X dX12_things_253 h_116 (s_jmp (pc := 254) J [true, true, true, true, true, true, true, false, true, false]))))))))))))))))))))))))))), List.forall_mem_cons.mpr ⟨(s_aload_n (pc := 254) X dX12_things_254 rfl (s_getR (pc := 255) X dX12_things_255 g_X12_177 (s_sipush (pc := 258) X dX12_things_258 rfl (s_iload (pc := 261) X dX12_things_261 (s_imul (pc := 263) X dX12_things_263 (s_aload_n (pc := 264) X dX12_things_264 rfl (s_getR (pc := 265) X dX12_things_265 g_X12_37 (s_iload (pc := 268) X dX12_things_268 (s_iald (pc := 270) X dX12_things_270 h_71 (s_iadd (pc := 271) X dX12_things_271 (s_dup2 (pc := 272) X dX12_things_272 (s_iald (pc := 273) X dX12_things_273 h_112 (s_aload_n (pc := 274) X dX12_things_274 rfl (s_getI (pc := 275) X dX12_things_275 g_X12_431 (s_iadd (pc := 278) X dX12_things_278 (s_iast (pc := 279) X dX12_things_279 h_112 (s_aload_n (pc := 280) X dX12_things_280 rfl (s_getR (pc := 281) X dX12_things_281 g_X12_174 (s_iload (pc := 284) X dX12_things_284 (s_bipush (pc := 286) X dX12_things_286 rfl (s_aload_n (pc := 288) X dX12_things_288 rfl (s_getR (pc := 289) X dX12_things_289 g_X12_174 (s_iload (pc := 292) X dX12_things_292 (s_iald (pc := 294) X dX12_things_294 h_111 (s_aload_n (pc := 295) X dX12_things_295 rfl (s_getR (pc := 296) X dX12_things_296 g_X12_177 (s_sipush (pc := 299) X dX12_things_299 rfl (s_iload (pc := 302) X dX12_things_302 (s_imul (pc := 304) X dX12_things_304 (s_aload_n (pc := 305) X dX12_things_305 rfl (s_getR (pc := 306) X dX12_things_306 g_X12_37 (s_iload (pc := 309) X dX12_things_309 (s_iald (pc := 311) X dX12_things_311 h_71 (s_iadd (pc := 312) X dX12_things_312 (s_iald (pc := 313) X dX12_things_313 h_112 (s_mmax (pc := 314) X dX12_things_314 m_9_59 mm_mmax (hRm (by decide)) (s_mmin (pc := 317) X dX12_things_317 m_8_111 mm_mmin (hRm (by decide)) (s_iast (pc := 320) X dX12_things_320 h_111 (s_iinc (pc := 321) X dX12_things_321 rfl (s_goto (pc := 324) X dX12_things_324 (by decide) (s_jmp (pc := 79) J [true, true, true, true, true, true, true, false, false, false]))))))))))))))))))))))))))))))))))))))))), fun _ h => absurd h List.not_mem_nil⟩⟩⟩⟩⟩⟩)
theorem dX12_count_0 : decode cX12_count 0 = .ok (.iconst 0, 1) := by decide +kernel
theorem dX12_count_1 : decode cX12_count 1 = .ok (.istore_n 2, 1) := by decide +kernel
theorem dX12_count_2 : decode cX12_count 2 = .ok (.iload_n 2, 1) := by decide +kernel
theorem dX12_count_3 : decode cX12_count 3 = .ok (.sipush 2000, 3) := by decide +kernel
theorem dX12_count_6 : decode cX12_count 6 = .ok (.if_icmp .gt 24, 3) := by decide +kernel
theorem dX12_count_9 : decode cX12_count 9 = .ok (.aload_n 0, 1) := by decide +kernel
theorem dX12_count_10 : decode cX12_count 10 = .ok (.getfield 180, 3) := by decide +kernel
theorem dX12_count_13 : decode cX12_count 13 = .ok (.iload_n 2, 1) := by decide +kernel
theorem dX12_count_14 : decode cX12_count 14 = .ok (.iload_n 2, 1) := by decide +kernel
theorem dX12_count_15 : decode cX12_count 15 = .ok (.ifCond .ne 7, 3) := by decide +kernel
theorem dX12_count_18 : decode cX12_count 18 = .ok (.lconst 1, 1) := by decide +kernel
theorem dX12_count_19 : decode cX12_count 19 = .ok (.goto 4, 3) := by decide +kernel
theorem dX12_count_22 : decode cX12_count 22 = .ok (.lconst 0, 1) := by decide +kernel
theorem dX12_count_23 : decode cX12_count 23 = .ok (.lastore, 1) := by decide +kernel
theorem dX12_count_24 : decode cX12_count 24 = .ok (.iinc 2 1, 3) := by decide +kernel
theorem dX12_count_27 : decode cX12_count 27 = .ok (.goto (-25), 3) := by decide +kernel
theorem dX12_count_30 : decode cX12_count 30 = .ok (.iconst 1, 1) := by decide +kernel
theorem dX12_count_31 : decode cX12_count 31 = .ok (.istore_n 2, 1) := by decide +kernel
theorem dX12_count_32 : decode cX12_count 32 = .ok (.iload_n 2, 1) := by decide +kernel
theorem dX12_count_33 : decode cX12_count 33 = .ok (.bipush 16, 2) := by decide +kernel
theorem dX12_count_35 : decode cX12_count 35 = .ok (.if_icmp .ge 134, 3) := by decide +kernel
theorem dX12_count_38 : decode cX12_count 38 = .ok (.aload_n 0, 1) := by decide +kernel
theorem dX12_count_39 : decode cX12_count 39 = .ok (.getfield 171, 3) := by decide +kernel
theorem dX12_count_42 : decode cX12_count 42 = .ok (.iload_n 2, 1) := by decide +kernel
theorem dX12_count_43 : decode cX12_count 43 = .ok (.iaload, 1) := by decide +kernel
theorem dX12_count_44 : decode cX12_count 44 = .ok (.iconst (-1), 1) := by decide +kernel
theorem dX12_count_45 : decode cX12_count 45 = .ok (.if_icmp .eq 118, 3) := by decide +kernel
theorem dX12_count_48 : decode cX12_count 48 = .ok (.iload_n 2, 1) := by decide +kernel
theorem dX12_count_49 : decode cX12_count 49 = .ok (.iload_n 1, 1) := by decide +kernel
theorem dX12_count_50 : decode cX12_count 50 = .ok (.if_icmp .ne 6, 3) := by decide +kernel
theorem dX12_count_53 : decode cX12_count 53 = .ok (.goto 110, 3) := by decide +kernel
theorem dX12_count_56 : decode cX12_count 56 = .ok (.iconst 0, 1) := by decide +kernel
theorem dX12_count_57 : decode cX12_count 57 = .ok (.istore_n 3, 1) := by decide +kernel
theorem dX12_count_58 : decode cX12_count 58 = .ok (.iload_n 3, 1) := by decide +kernel
theorem dX12_count_59 : decode cX12_count 59 = .ok (.sipush 2000, 3) := by decide +kernel
theorem dX12_count_62 : decode cX12_count 62 = .ok (.if_icmp .gt 74, 3) := by decide +kernel
theorem dX12_count_65 : decode cX12_count 65 = .ok (.aload_n 0, 1) := by decide +kernel
theorem dX12_count_66 : decode cX12_count 66 = .ok (.getfield 183, 3) := by decide +kernel
theorem dX12_count_69 : decode cX12_count 69 = .ok (.iload_n 3, 1) := by decide +kernel
theorem dX12_count_70 : decode cX12_count 70 = .ok (.lconst 0, 1) := by decide +kernel
theorem dX12_count_71 : decode cX12_count 71 = .ok (.lastore, 1) := by decide +kernel
theorem dX12_count_72 : decode cX12_count 72 = .ok (.iconst 0, 1) := by decide +kernel
theorem dX12_count_73 : decode cX12_count 73 = .ok (.istore 4, 2) := by decide +kernel
theorem dX12_count_75 : decode cX12_count 75 = .ok (.iload 4, 2) := by decide +kernel
theorem dX12_count_77 : decode cX12_count 77 = .ok (.aload_n 0, 1) := by decide +kernel
theorem dX12_count_78 : decode cX12_count 78 = .ok (.getfield 174, 3) := by decide +kernel
theorem dX12_count_81 : decode cX12_count 81 = .ok (.iload_n 2, 1) := by decide +kernel
theorem dX12_count_82 : decode cX12_count 82 = .ok (.iaload, 1) := by decide +kernel
theorem dX12_count_83 : decode cX12_count 83 = .ok (.if_icmp .gt 47, 3) := by decide +kernel
theorem dX12_count_86 : decode cX12_count 86 = .ok (.iload 4, 2) := by decide +kernel
theorem dX12_count_88 : decode cX12_count 88 = .ok (.aload_n 0, 1) := by decide +kernel
theorem dX12_count_89 : decode cX12_count 89 = .ok (.getfield 171, 3) := by decide +kernel
theorem dX12_count_92 : decode cX12_count 92 = .ok (.iload_n 2, 1) := by decide +kernel
theorem dX12_count_93 : decode cX12_count 93 = .ok (.iaload, 1) := by decide +kernel
theorem dX12_count_94 : decode cX12_count 94 = .ok (.imul, 1) := by decide +kernel
theorem dX12_count_95 : decode cX12_count 95 = .ok (.iload_n 3, 1) := by decide +kernel
theorem dX12_count_96 : decode cX12_count 96 = .ok (.if_icmp .gt 34, 3) := by decide +kernel
theorem dX12_count_99 : decode cX12_count 99 = .ok (.aload_n 0, 1) := by decide +kernel
theorem dX12_count_100 : decode cX12_count 100 = .ok (.getfield 183, 3) := by decide +kernel
theorem dX12_count_103 : decode cX12_count 103 = .ok (.iload_n 3, 1) := by decide +kernel
theorem dX12_count_104 : decode cX12_count 104 = .ok (.dup2, 1) := by decide +kernel
theorem dX12_count_105 : decode cX12_count 105 = .ok (.laload, 1) := by decide +kernel
theorem dX12_count_106 : decode cX12_count 106 = .ok (.aload_n 0, 1) := by decide +kernel
theorem dX12_count_107 : decode cX12_count 107 = .ok (.getfield 180, 3) := by decide +kernel
theorem dX12_count_110 : decode cX12_count 110 = .ok (.iload_n 3, 1) := by decide +kernel
theorem dX12_count_111 : decode cX12_count 111 = .ok (.iload 4, 2) := by decide +kernel
theorem dX12_count_113 : decode cX12_count 113 = .ok (.aload_n 0, 1) := by decide +kernel
theorem dX12_count_114 : decode cX12_count 114 = .ok (.getfield 171, 3) := by decide +kernel
theorem dX12_count_117 : decode cX12_count 117 = .ok (.iload_n 2, 1) := by decide +kernel
theorem dX12_count_118 : decode cX12_count 118 = .ok (.iaload, 1) := by decide +kernel
theorem dX12_count_119 : decode cX12_count 119 = .ok (.imul, 1) := by decide +kernel
theorem dX12_count_120 : decode cX12_count 120 = .ok (.isub, 1) := by decide +kernel
theorem dX12_count_121 : decode cX12_count 121 = .ok (.laload, 1) := by decide +kernel
theorem dX12_count_122 : decode cX12_count 122 = .ok (.ladd, 1) := by decide +kernel
theorem dX12_count_123 : decode cX12_count 123 = .ok (.lastore, 1) := by decide +kernel
theorem dX12_count_124 : decode cX12_count 124 = .ok (.iinc 4 1, 3) := by decide +kernel
theorem dX12_count_127 : decode cX12_count 127 = .ok (.goto (-52), 3) := by decide +kernel
theorem dX12_count_130 : decode cX12_count 130 = .ok (.iinc 3 1, 3) := by decide +kernel
theorem dX12_count_133 : decode cX12_count 133 = .ok (.goto (-75), 3) := by decide +kernel
theorem dX12_count_136 : decode cX12_count 136 = .ok (.iconst 0, 1) := by decide +kernel
theorem dX12_count_137 : decode cX12_count 137 = .ok (.istore_n 3, 1) := by decide +kernel
theorem dX12_count_138 : decode cX12_count 138 = .ok (.iload_n 3, 1) := by decide +kernel
theorem dX12_count_139 : decode cX12_count 139 = .ok (.sipush 2000, 3) := by decide +kernel
theorem dX12_count_142 : decode cX12_count 142 = .ok (.if_icmp .gt 21, 3) := by decide +kernel
theorem dX12_count_145 : decode cX12_count 145 = .ok (.aload_n 0, 1) := by decide +kernel
theorem dX12_count_146 : decode cX12_count 146 = .ok (.getfield 180, 3) := by decide +kernel
theorem dX12_count_149 : decode cX12_count 149 = .ok (.iload_n 3, 1) := by decide +kernel
theorem dX12_count_150 : decode cX12_count 150 = .ok (.aload_n 0, 1) := by decide +kernel
theorem dX12_count_151 : decode cX12_count 151 = .ok (.getfield 183, 3) := by decide +kernel
theorem dX12_count_154 : decode cX12_count 154 = .ok (.iload_n 3, 1) := by decide +kernel
theorem dX12_count_155 : decode cX12_count 155 = .ok (.laload, 1) := by decide +kernel
theorem dX12_count_156 : decode cX12_count 156 = .ok (.lastore, 1) := by decide +kernel
theorem dX12_count_157 : decode cX12_count 157 = .ok (.iinc 3 1, 3) := by decide +kernel
theorem dX12_count_160 : decode cX12_count 160 = .ok (.goto (-22), 3) := by decide +kernel
theorem dX12_count_163 : decode cX12_count 163 = .ok (.iinc 2 1, 3) := by decide +kernel
theorem dX12_count_166 : decode cX12_count 166 = .ok (.goto (-134), 3) := by decide +kernel
theorem dX12_count_169 : decode cX12_count 169 = .ok (.return_, 1) := by decide +kernel
noncomputable def B_X12_count_0 : pb_C := (i_const (.int 0) (i_istore 2 (i_jmp 2 [true, true, true, false, false])))
noncomputable def B_X12_count_2 : pb_C := (i_iload 2 (i_const (.int 2000) (i_ic_gt (i_const (.int 1) (i_istore 2 (i_jmp 32 [true, true, true, false, false]))) (i_aload 0 (i_getR 64 113 (i_iload 2 (i_iload 2 (i_if_ne (i_const (.long 0) (i_last 113 2001 (i_iinc 2 1 (i_jmp 2 [true, true, true, false, false])))) (i_const (.long 1) (i_last 113 2001 (i_iinc 2 1 (i_jmp 2 [true, true, true, false, false]))))))))))))
noncomputable def B_X12_count_32 : pb_C := (i_iload 2 (i_const (.int 16) (i_ic_ge i_vret (i_aload 0 (i_getR 64 110 (i_iload 2 (i_ald 110 16 (i_const (.int (-1)) (i_ic_eq (i_iinc 2 1 (i_jmp 32 [true, true, true, false, false])) (i_iload 2 (i_iload 1 (i_ic_ne (i_const (.int 0) (i_istore 3 (i_jmp 58 [true, true, true, true, false]))) (i_iinc 2 1 (i_jmp 32 [true, true, true, false, false]))))))))))))))
noncomputable def B_X12_count_58 : pb_C := (i_iload 3 (i_const (.int 2000) (i_ic_gt (i_const (.int 0) (i_istore 3 (i_jmp 138 [true, true, true, true, false]))) (i_aload 0 (i_getR 64 114 (i_iload 3 (i_const (.long 0) (i_last 114 2001 (i_const (.int 0) (i_istore 4 (i_jmp 75 [true, true, true, true, true])))))))))))
noncomputable def B_X12_count_75 : pb_C := (i_iload 4 (i_aload 0 (i_getR 64 111 (i_iload 2 (i_ald 111 16 (i_ic_gt (i_iinc 3 1 (i_jmp 58 [true, true, true, true, false])) (i_iload 4 (i_aload 0 (i_getR 64 110 (i_iload 2 (i_ald 110 16 (i_ibin (· * ·) (i_iload 3 (i_ic_gt (i_iinc 3 1 (i_jmp 58 [true, true, true, true, false])) (i_aload 0 (i_getR 64 114 (i_iload 3 (i_dup2 (i_lald 114 2001 (i_aload 0 (i_getR 64 113 (i_iload 3 (i_iload 4 (i_aload 0 (i_getR 64 110 (i_iload 2 (i_ald 110 16 (i_ibin (· * ·) (i_ibin (· - ·) (i_lald 113 2001 (i_lbin (· + ·) (i_last 114 2001 (i_iinc 4 1 (i_jmp 75 [true, true, true, true, true]))))))))))))))))))))))))))))))))))
noncomputable def B_X12_count_138 : pb_C := (i_iload 3 (i_const (.int 2000) (i_ic_gt (i_iinc 2 1 (i_jmp 32 [true, true, true, false, false])) (i_aload 0 (i_getR 64 113 (i_iload 3 (i_aload 0 (i_getR 64 114 (i_iload 3 (i_lald 114 2001 (i_last 113 2001 (i_iinc 3 1 (i_jmp 138 [true, true, true, true, false])))))))))))))
noncomputable def T_X12_count : Nat → pb_C := pb_tt [(0, B_X12_count_0), (2, B_X12_count_2), (32, B_X12_count_32), (58, B_X12_count_58), (75, B_X12_count_75), (138, B_X12_count_138)]
noncomputable def M_X12_count : pb_F := pb_M T_X12_count 5
set_option maxRecDepth 100000 in
set_option maxHeartbeats 4000000 in
theorem S_X12_count (l : Launch) : pb_Sound l yX12_count cX12_count 5 none 1 M_X12_count := by
  refine pb_sound_of (by decide) m_9_63 ?_
  intro Γ hl0 hRm0 hm X E hr J
  have hnL : ∀ j, j < 5 → j < Γ.2.2.2.2.2.2.2.2.2.2.2.1 := fun j h => by rw [hm]; exact h
  have hR : ∀ (d' mL : Nat), d' + 1 ≤ 1 ∧ 8 + (mL + 11) + d' * 64 ≤ 1 * 64 → (pb_rm d').frames + 1 ≤ Γ.2.2.2.1.frames ∧ 8 + (mL + 11) + (pb_rm d').locals ≤ Γ.2.2.2.1.locals := by rw [hRm0]; exact fun _ _ h => h
  have hRm : 1 ≤ 1 ∧ 64 ≤ 1 * 64 → 1 ≤ Γ.2.2.2.1.frames ∧ 64 ≤ Γ.2.2.2.1.locals := by rw [hRm0]; exact fun h => h
  exact pb_tt_snd _ (List.forall_mem_cons.mpr ⟨(s_iconst (pc := 0) X dX12_count_0 rfl (s_istore_n (pc := 1) X dX12_count_1 rfl (hnL _ (by decide)) (s_jmp (pc := 2) J [true, true, true, false, false]))), List.forall_mem_cons.mpr ⟨(s_iload_n (pc := 2) X dX12_count_2 rfl (s_sipush (pc := 3) X dX12_count_3 rfl (s_ic_gt (pc := 6) X dX12_count_6 (by decide) (s_iconst (pc := 30) X dX12_count_30 rfl (s_istore_n (pc := 31) X dX12_count_31 rfl (hnL _ (by decide)) (s_jmp (pc := 32) J [true, true, true, false, false]))) (s_aload_n (pc := 9) X dX12_count_9 rfl (s_getR (pc := 10) X dX12_count_10 g_X12_180 (s_iload_n (pc := 13) X dX12_count_13 rfl (s_iload_n (pc := 14) X dX12_count_14 rfl (s_if_ne (pc := 15) X dX12_count_15 (by decide) (s_lconst (pc := 22) X dX12_count_22 rfl (s_last (pc := 23) X dX12_count_23 h_113 (s_iinc (pc := 24) X dX12_count_24 rfl (s_goto (pc := 27) X dX12_count_27 (by decide) (s_jmp (pc := 2) J [true, true, true, false, false]))))) (s_lconst (pc := 18) X dX12_count_18 rfl (s_goto (pc := 19) X dX12_count_19 (by decide) (s_last (pc := 23) X dX12_count_23 h_113 (s_iinc (pc := 24) X dX12_count_24 rfl (s_goto (pc := 27) X dX12_count_27 (by decide) (s_jmp (pc := 2) J [true, true, true, false, false])))))))))))))), List.forall_mem_cons.mpr ⟨(s_iload_n (pc := 32) X dX12_count_32 rfl (s_bipush (pc := 33) X dX12_count_33 rfl (s_ic_ge (pc := 35) X dX12_count_35 (by decide) (s_vret (pc := 169) X E hr dX12_count_169) (s_aload_n (pc := 38) X dX12_count_38 rfl (s_getR (pc := 39) X dX12_count_39 g_X12_171 (s_iload_n (pc := 42) X dX12_count_42 rfl (s_iald (pc := 43) X dX12_count_43 h_110 (s_iconst (pc := 44) X dX12_count_44 rfl (s_ic_eq (pc := 45) X dX12_count_45 (by decide) (s_iinc (pc := 163) X dX12_count_163 rfl (s_goto (pc := 166) X dX12_count_166 (by decide) (s_jmp (pc := 32) J [true, true, true, false, false]))) (s_iload_n (pc := 48) X dX12_count_48 rfl (s_iload_n (pc := 49) X dX12_count_49 rfl (s_ic_ne (pc := 50) X dX12_count_50 (by decide) (s_iconst (pc := 56) X dX12_count_56 rfl (s_istore_n (pc := 57) X dX12_count_57 rfl (hnL _ (by decide)) (s_jmp (pc := 58) J [true, true, true, true, false]))) (s_goto (pc := 53) X dX12_count_53 (by decide) (s_iinc (pc := 163) X dX12_count_163 rfl (s_goto (pc := 166) X dX12_count_166 (by decide) (s_jmp (pc := 32) J [true, true, true, false, false])))))))))))))))), List.forall_mem_cons.mpr ⟨(s_iload_n (pc := 58) X dX12_count_58 rfl (s_sipush (pc := 59) X dX12_count_59 rfl (s_ic_gt (pc := 62) X dX12_count_62 (by decide) (s_iconst (pc := 136) X dX12_count_136 rfl (s_istore_n (pc := 137) X dX12_count_137 rfl (hnL _ (by decide)) (s_jmp (pc := 138) J [true, true, true, true, false]))) (s_aload_n (pc := 65) X dX12_count_65 rfl (s_getR (pc := 66) X dX12_count_66 g_X12_183 (s_iload_n (pc := 69) X dX12_count_69 rfl (s_lconst (pc := 70) X dX12_count_70 rfl (s_last (pc := 71) X dX12_count_71 h_114 (s_iconst (pc := 72) X dX12_count_72 rfl (s_istore (pc := 73) X dX12_count_73 (hnL _ (by decide)) (s_jmp (pc := 75) J [true, true, true, true, true]))))))))))), List.forall_mem_cons.mpr ⟨(s_iload (pc := 75) X dX12_count_75 (s_aload_n (pc := 77) X dX12_count_77 rfl (s_getR (pc := 78) X dX12_count_78 g_X12_174 (s_iload_n (pc := 81) X dX12_count_81 rfl (s_iald (pc := 82) X dX12_count_82 h_111 (s_ic_gt (pc := 83) X dX12_count_83 (by decide) (s_iinc (pc := 130) X dX12_count_130 rfl (s_goto (pc := 133) X dX12_count_133 (by decide) (s_jmp (pc := 58) J [true, true, true, true, false]))) (s_iload (pc := 86) X dX12_count_86 (s_aload_n (pc := 88) X dX12_count_88 rfl (s_getR (pc := 89) X dX12_count_89 g_X12_171 (s_iload_n (pc := 92) X dX12_count_92 rfl (s_iald (pc := 93) X dX12_count_93 h_110 (s_imul (pc := 94) X dX12_count_94 (s_iload_n (pc := 95) X dX12_count_95 rfl (s_ic_gt (pc := 96) X dX12_count_96 (by decide) (s_iinc (pc := 130) X dX12_count_130 rfl (s_goto (pc := 133) X dX12_count_133 (by decide) (s_jmp (pc := 58) J [true, true, true, true, false]))) (s_aload_n (pc := 99) X dX12_count_99 rfl (s_getR (pc := 100) X dX12_count_100 g_X12_183 (s_iload_n (pc := 103) X dX12_count_103 rfl (s_dup2 (pc := 104) X dX12_count_104 (s_lald (pc := 105) X dX12_count_105 h_114 (s_aload_n (pc := 106) X dX12_count_106 rfl (s_getR (pc := 107) X dX12_count_107 g_X12_180 (s_iload_n (pc := 110) X dX12_count_110 rfl (s_iload (pc := 111) X dX12_count_111 (s_aload_n (pc := 113) X dX12_count_113 rfl (s_getR (pc := 114) X dX12_count_114 g_X12_171 (s_iload_n (pc := 117) X dX12_count_117 rfl (s_iald (pc := 118) X dX12_count_118 h_110 (s_imul (pc := 119) X dX12_count_119 (s_isub (pc := 120) X dX12_count_120 (s_lald (pc := 121) X dX12_count_121 h_113 (s_ladd (pc := 122) X dX12_count_122 (s_last (pc := 123) X dX12_count_123 h_114 (s_iinc (pc := 124) X dX12_count_124 rfl (s_goto (pc := 127) X dX12_count_127 (by decide) (s_jmp (pc := 75) J [true, true, true, true, true]))))))))))))))))))))))))))))))))))), List.forall_mem_cons.mpr ⟨(s_iload_n (pc := 138) X dX12_count_138 rfl (s_sipush (pc := 139) X dX12_count_139 rfl (s_ic_gt (pc := 142) X dX12_count_142 (by decide) (s_iinc (pc := 163) X dX12_count_163 rfl (s_goto (pc := 166) X dX12_count_166 (by decide) (s_jmp (pc := 32) J [true, true, true, false, false]))) (s_aload_n (pc := 145) X dX12_count_145 rfl (s_getR (pc := 146) X dX12_count_146 g_X12_180 (s_iload_n (pc := 149) X dX12_count_149 rfl (s_aload_n (pc := 150) X dX12_count_150 rfl (s_getR (pc := 151) X dX12_count_151 g_X12_183 (s_iload_n (pc := 154) X dX12_count_154 rfl (s_lald (pc := 155) X dX12_count_155 h_114 (s_last (pc := 156) X dX12_count_156 h_113 (s_iinc (pc := 157) X dX12_count_157 rfl (s_goto (pc := 160) X dX12_count_160 (by decide) (s_jmp (pc := 138) J [true, true, true, true, false])))))))))))))), fun _ h => absurd h List.not_mem_nil⟩⟩⟩⟩⟩⟩)
theorem dX12_ways_0 : decode cX12_ways 0 = .ok (.aload_n 0, 1) := by decide +kernel
theorem dX12_ways_1 : decode cX12_ways 1 = .ok (.iload_n 1, 1) := by decide +kernel
theorem dX12_ways_2 : decode cX12_ways 2 = .ok (.iload_n 2, 1) := by decide +kernel
theorem dX12_ways_3 : decode cX12_ways 3 = .ok (.invokevirtual 511, 3) := by decide +kernel
theorem dX12_ways_6 : decode cX12_ways 6 = .ok (.istore_n 3, 1) := by decide +kernel
theorem dX12_ways_7 : decode cX12_ways 7 = .ok (.iload_n 3, 1) := by decide +kernel
theorem dX12_ways_8 : decode cX12_ways 8 = .ok (.ifCond .le 10, 3) := by decide +kernel
theorem dX12_ways_11 : decode cX12_ways 11 = .ok (.aload_n 0, 1) := by decide +kernel
theorem dX12_ways_12 : decode cX12_ways 12 = .ok (.iload_n 3, 1) := by decide +kernel
theorem dX12_ways_13 : decode cX12_ways 13 = .ok (.invokevirtual 267, 3) := by decide +kernel
theorem dX12_ways_16 : decode cX12_ways 16 = .ok (.i2l, 1) := by decide +kernel
theorem dX12_ways_17 : decode cX12_ways 17 = .ok (.lreturn, 1) := by decide +kernel
theorem dX12_ways_18 : decode cX12_ways 18 = .ok (.aload_n 0, 1) := by decide +kernel
theorem dX12_ways_19 : decode cX12_ways 19 = .ok (.iload_n 1, 1) := by decide +kernel
theorem dX12_ways_20 : decode cX12_ways 20 = .ok (.iload_n 2, 1) := by decide +kernel
theorem dX12_ways_21 : decode cX12_ways 21 = .ok (.invokevirtual 514, 3) := by decide +kernel
theorem dX12_ways_24 : decode cX12_ways 24 = .ok (.aload_n 0, 1) := by decide +kernel
theorem dX12_ways_25 : decode cX12_ways 25 = .ok (.iconst (-1), 1) := by decide +kernel
theorem dX12_ways_26 : decode cX12_ways 26 = .ok (.invokevirtual 517, 3) := by decide +kernel
theorem dX12_ways_29 : decode cX12_ways 29 = .ok (.aload_n 0, 1) := by decide +kernel
theorem dX12_ways_30 : decode cX12_ways 30 = .ok (.iconst 0, 1) := by decide +kernel
theorem dX12_ways_31 : decode cX12_ways 31 = .ok (.putfield 231, 3) := by decide +kernel
theorem dX12_ways_34 : decode cX12_ways 34 = .ok (.aload_n 0, 1) := by decide +kernel
theorem dX12_ways_35 : decode cX12_ways 35 = .ok (.getfield 180, 3) := by decide +kernel
theorem dX12_ways_38 : decode cX12_ways 38 = .ok (.aload_n 0, 1) := by decide +kernel
theorem dX12_ways_39 : decode cX12_ways 39 = .ok (.iload_n 1, 1) := by decide +kernel
theorem dX12_ways_40 : decode cX12_ways 40 = .ok (.invokevirtual 308, 3) := by decide +kernel
theorem dX12_ways_43 : decode cX12_ways 43 = .ok (.laload, 1) := by decide +kernel
theorem dX12_ways_44 : decode cX12_ways 44 = .ok (.lreturn, 1) := by decide +kernel
noncomputable def B_X12_ways_0 : pb_C := (i_aload 0 (i_iload 1 (i_iload 2 (i_callV 64 2 1 M_X12_wrongSundry (i_istore 3 (i_iload 3 (i_if_le (i_aload 0 (i_iload 1 (i_iload 2 (i_callV 64 2 0 M_X12_things (i_aload 0 (i_const (.int (-1)) (i_callV 64 1 0 M_X12_count (i_aload 0 (i_const (.int 0) (i_putI 64 0 (i_aload 0 (i_getR 64 113 (i_aload 0 (i_iload 1 (i_callV 64 1 1 M_X12_penceOf (i_lald 113 2001 i_lret)))))))))))))))) (i_aload 0 (i_iload 3 (i_callV 64 1 1 M_X12_refuse (i_i2l i_lret)))))))))))
noncomputable def T_X12_ways : Nat → pb_C := pb_tt [(0, B_X12_ways_0)]
noncomputable def M_X12_ways : pb_F := pb_M T_X12_ways 4
set_option maxRecDepth 100000 in
set_option maxHeartbeats 4000000 in
theorem S_X12_ways (l : Launch) : pb_Sound l yX12_ways cX12_ways 4 (some .long) 7 M_X12_ways := by
  refine pb_sound_of (by decide) m_9_50 ?_
  intro Γ hl0 hRm0 hm X E hr J
  have hnL : ∀ j, j < 4 → j < Γ.2.2.2.2.2.2.2.2.2.2.2.1 := fun j h => by rw [hm]; exact h
  have hR : ∀ (d' mL : Nat), d' + 1 ≤ 7 ∧ 8 + (mL + 11) + d' * 64 ≤ 7 * 64 → (pb_rm d').frames + 1 ≤ Γ.2.2.2.1.frames ∧ 8 + (mL + 11) + (pb_rm d').locals ≤ Γ.2.2.2.1.locals := by rw [hRm0]; exact fun _ _ h => h
  have hRm : 1 ≤ 7 ∧ 64 ≤ 7 * 64 → 1 ≤ Γ.2.2.2.1.frames ∧ 64 ≤ Γ.2.2.2.1.locals := by rw [hRm0]; exact fun h => h
  exact pb_tt_snd _ (List.forall_mem_cons.mpr ⟨(s_aload_n (pc := 0) X dX12_ways_0 rfl (s_iload_n (pc := 1) X dX12_ways_1 rfl (s_iload_n (pc := 2) X dX12_ways_2 rfl (s_callV (pc := 3) X dX12_ways_3 (S_X12_wrongSundry _) q_X12_511 h_64 rfl (hR _ _ (by decide)) (s_istore_n (pc := 6) X dX12_ways_6 rfl (hnL _ (by decide)) (s_iload_n (pc := 7) X dX12_ways_7 rfl (s_if_le (pc := 8) X dX12_ways_8 (by decide) (s_aload_n (pc := 18) X dX12_ways_18 rfl (s_iload_n (pc := 19) X dX12_ways_19 rfl (s_iload_n (pc := 20) X dX12_ways_20 rfl (s_callV (pc := 21) X dX12_ways_21 (S_X12_things _) q_X12_514 h_64 rfl (hR _ _ (by decide)) (s_aload_n (pc := 24) X dX12_ways_24 rfl (s_iconst (pc := 25) X dX12_ways_25 rfl (s_callV (pc := 26) X dX12_ways_26 (S_X12_count _) q_X12_517 h_64 rfl (hR _ _ (by decide)) (s_aload_n (pc := 29) X dX12_ways_29 rfl (s_iconst (pc := 30) X dX12_ways_30 rfl (s_putI (pc := 31) X dX12_ways_31 p_X12_231 (s_aload_n (pc := 34) X dX12_ways_34 rfl (s_getR (pc := 35) X dX12_ways_35 g_X12_180 (s_aload_n (pc := 38) X dX12_ways_38 rfl (s_iload_n (pc := 39) X dX12_ways_39 rfl (s_callV (pc := 40) X dX12_ways_40 (S_X12_penceOf _) q_X12_308 h_64 rfl (hR _ _ (by decide)) (s_lald (pc := 43) X dX12_ways_43 h_113 (s_lret (pc := 44) X E hr dX12_ways_44))))))))))))))))) (s_aload_n (pc := 11) X dX12_ways_11 rfl (s_iload_n (pc := 12) X dX12_ways_12 rfl (s_callV (pc := 13) X dX12_ways_13 (S_X12_refuse _) q_X12_267 h_64 rfl (hR _ _ (by decide)) (s_i2l (pc := 16) X dX12_ways_16 (s_lret (pc := 17) X E hr dX12_ways_17)))))))))))), fun _ h => absurd h List.not_mem_nil⟩)
theorem dX12_span_0 : decode cX12_span 0 = .ok (.iload_n 3, 1) := by decide +kernel
theorem dX12_span_1 : decode cX12_span 1 = .ok (.iconst 1, 1) := by decide +kernel
theorem dX12_span_2 : decode cX12_span 2 = .ok (.if_icmp .lt 20, 3) := by decide +kernel
theorem dX12_span_5 : decode cX12_span 5 = .ok (.iload_n 3, 1) := by decide +kernel
theorem dX12_span_6 : decode cX12_span 6 = .ok (.bipush 16, 2) := by decide +kernel
theorem dX12_span_8 : decode cX12_span 8 = .ok (.if_icmp .ge 14, 3) := by decide +kernel
theorem dX12_span_11 : decode cX12_span 11 = .ok (.iload 4, 2) := by decide +kernel
theorem dX12_span_13 : decode cX12_span 13 = .ok (.ifCond .lt 9, 3) := by decide +kernel
theorem dX12_span_16 : decode cX12_span 16 = .ok (.iload 4, 2) := by decide +kernel
theorem dX12_span_18 : decode cX12_span 18 = .ok (.iconst 1, 1) := by decide +kernel
theorem dX12_span_19 : decode cX12_span 19 = .ok (.if_icmp .le 9, 3) := by decide +kernel
theorem dX12_span_22 : decode cX12_span 22 = .ok (.aload_n 0, 1) := by decide +kernel
theorem dX12_span_23 : decode cX12_span 23 = .ok (.iconst 1, 1) := by decide +kernel
theorem dX12_span_24 : decode cX12_span 24 = .ok (.invokevirtual 267, 3) := by decide +kernel
theorem dX12_span_27 : decode cX12_span 27 = .ok (.ireturn, 1) := by decide +kernel
theorem dX12_span_28 : decode cX12_span 28 = .ok (.aload_n 0, 1) := by decide +kernel
theorem dX12_span_29 : decode cX12_span 29 = .ok (.iload_n 1, 1) := by decide +kernel
theorem dX12_span_30 : decode cX12_span 30 = .ok (.iload_n 2, 1) := by decide +kernel
theorem dX12_span_31 : decode cX12_span 31 = .ok (.invokevirtual 511, 3) := by decide +kernel
theorem dX12_span_34 : decode cX12_span 34 = .ok (.istore 5, 2) := by decide +kernel
theorem dX12_span_36 : decode cX12_span 36 = .ok (.iload 5, 2) := by decide +kernel
theorem dX12_span_38 : decode cX12_span 38 = .ok (.ifCond .le 10, 3) := by decide +kernel
theorem dX12_span_41 : decode cX12_span 41 = .ok (.aload_n 0, 1) := by decide +kernel
theorem dX12_span_42 : decode cX12_span 42 = .ok (.iload 5, 2) := by decide +kernel
theorem dX12_span_44 : decode cX12_span 44 = .ok (.invokevirtual 267, 3) := by decide +kernel
theorem dX12_span_47 : decode cX12_span 47 = .ok (.ireturn, 1) := by decide +kernel
theorem dX12_span_48 : decode cX12_span 48 = .ok (.aload_n 0, 1) := by decide +kernel
theorem dX12_span_49 : decode cX12_span 49 = .ok (.iload_n 1, 1) := by decide +kernel
theorem dX12_span_50 : decode cX12_span 50 = .ok (.iload_n 2, 1) := by decide +kernel
theorem dX12_span_51 : decode cX12_span 51 = .ok (.invokevirtual 514, 3) := by decide +kernel
theorem dX12_span_54 : decode cX12_span 54 = .ok (.aload_n 0, 1) := by decide +kernel
theorem dX12_span_55 : decode cX12_span 55 = .ok (.getfield 171, 3) := by decide +kernel
theorem dX12_span_58 : decode cX12_span 58 = .ok (.iload_n 3, 1) := by decide +kernel
theorem dX12_span_59 : decode cX12_span 59 = .ok (.iaload, 1) := by decide +kernel
theorem dX12_span_60 : decode cX12_span 60 = .ok (.iconst (-1), 1) := by decide +kernel
theorem dX12_span_61 : decode cX12_span 61 = .ok (.if_icmp .ne 10, 3) := by decide +kernel
theorem dX12_span_64 : decode cX12_span 64 = .ok (.aload_n 0, 1) := by decide +kernel
theorem dX12_span_65 : decode cX12_span 65 = .ok (.bipush 6, 2) := by decide +kernel
theorem dX12_span_67 : decode cX12_span 67 = .ok (.invokevirtual 267, 3) := by decide +kernel
theorem dX12_span_70 : decode cX12_span 70 = .ok (.ireturn, 1) := by decide +kernel
theorem dX12_span_71 : decode cX12_span 71 = .ok (.aload_n 0, 1) := by decide +kernel
theorem dX12_span_72 : decode cX12_span 72 = .ok (.iload_n 3, 1) := by decide +kernel
theorem dX12_span_73 : decode cX12_span 73 = .ok (.invokevirtual 517, 3) := by decide +kernel
theorem dX12_span_76 : decode cX12_span 76 = .ok (.aload_n 0, 1) := by decide +kernel
theorem dX12_span_77 : decode cX12_span 77 = .ok (.iload_n 1, 1) := by decide +kernel
theorem dX12_span_78 : decode cX12_span 78 = .ok (.invokevirtual 308, 3) := by decide +kernel
theorem dX12_span_81 : decode cX12_span 81 = .ok (.istore 6, 2) := by decide +kernel
theorem dX12_span_83 : decode cX12_span 83 = .ok (.iconst (-1), 1) := by decide +kernel
theorem dX12_span_84 : decode cX12_span 84 = .ok (.istore 7, 2) := by decide +kernel
theorem dX12_span_86 : decode cX12_span 86 = .ok (.iconst 0, 1) := by decide +kernel
theorem dX12_span_87 : decode cX12_span 87 = .ok (.istore 8, 2) := by decide +kernel
theorem dX12_span_89 : decode cX12_span 89 = .ok (.iload 8, 2) := by decide +kernel
theorem dX12_span_91 : decode cX12_span 91 = .ok (.aload_n 0, 1) := by decide +kernel
theorem dX12_span_92 : decode cX12_span 92 = .ok (.getfield 174, 3) := by decide +kernel
theorem dX12_span_95 : decode cX12_span 95 = .ok (.iload_n 3, 1) := by decide +kernel
theorem dX12_span_96 : decode cX12_span 96 = .ok (.iaload, 1) := by decide +kernel
theorem dX12_span_97 : decode cX12_span 97 = .ok (.if_icmp .gt 61, 3) := by decide +kernel
theorem dX12_span_100 : decode cX12_span 100 = .ok (.iload 8, 2) := by decide +kernel
theorem dX12_span_102 : decode cX12_span 102 = .ok (.aload_n 0, 1) := by decide +kernel
theorem dX12_span_103 : decode cX12_span 103 = .ok (.getfield 171, 3) := by decide +kernel
theorem dX12_span_106 : decode cX12_span 106 = .ok (.iload_n 3, 1) := by decide +kernel
theorem dX12_span_107 : decode cX12_span 107 = .ok (.iaload, 1) := by decide +kernel
theorem dX12_span_108 : decode cX12_span 108 = .ok (.imul, 1) := by decide +kernel
theorem dX12_span_109 : decode cX12_span 109 = .ok (.iload 6, 2) := by decide +kernel
theorem dX12_span_111 : decode cX12_span 111 = .ok (.if_icmp .gt 47, 3) := by decide +kernel
theorem dX12_span_114 : decode cX12_span 114 = .ok (.aload_n 0, 1) := by decide +kernel
theorem dX12_span_115 : decode cX12_span 115 = .ok (.getfield 180, 3) := by decide +kernel
theorem dX12_span_118 : decode cX12_span 118 = .ok (.iload 6, 2) := by decide +kernel
theorem dX12_span_120 : decode cX12_span 120 = .ok (.iload 8, 2) := by decide +kernel
theorem dX12_span_122 : decode cX12_span 122 = .ok (.aload_n 0, 1) := by decide +kernel
theorem dX12_span_123 : decode cX12_span 123 = .ok (.getfield 171, 3) := by decide +kernel
theorem dX12_span_126 : decode cX12_span 126 = .ok (.iload_n 3, 1) := by decide +kernel
theorem dX12_span_127 : decode cX12_span 127 = .ok (.iaload, 1) := by decide +kernel
theorem dX12_span_128 : decode cX12_span 128 = .ok (.imul, 1) := by decide +kernel
theorem dX12_span_129 : decode cX12_span 129 = .ok (.isub, 1) := by decide +kernel
theorem dX12_span_130 : decode cX12_span 130 = .ok (.laload, 1) := by decide +kernel
theorem dX12_span_131 : decode cX12_span 131 = .ok (.lconst 0, 1) := by decide +kernel
theorem dX12_span_132 : decode cX12_span 132 = .ok (.lcmp, 1) := by decide +kernel
theorem dX12_span_133 : decode cX12_span 133 = .ok (.ifCond .le 19, 3) := by decide +kernel
theorem dX12_span_136 : decode cX12_span 136 = .ok (.iload 7, 2) := by decide +kernel
theorem dX12_span_138 : decode cX12_span 138 = .ok (.iconst (-1), 1) := by decide +kernel
theorem dX12_span_139 : decode cX12_span 139 = .ok (.if_icmp .eq 9, 3) := by decide +kernel
theorem dX12_span_142 : decode cX12_span 142 = .ok (.iload 4, 2) := by decide +kernel
theorem dX12_span_144 : decode cX12_span 144 = .ok (.iconst 1, 1) := by decide +kernel
theorem dX12_span_145 : decode cX12_span 145 = .ok (.if_icmp .ne 7, 3) := by decide +kernel
theorem dX12_span_148 : decode cX12_span 148 = .ok (.iload 8, 2) := by decide +kernel
theorem dX12_span_150 : decode cX12_span 150 = .ok (.istore 7, 2) := by decide +kernel
theorem dX12_span_152 : decode cX12_span 152 = .ok (.iinc 8 1, 3) := by decide +kernel
theorem dX12_span_155 : decode cX12_span 155 = .ok (.goto (-66), 3) := by decide +kernel
theorem dX12_span_158 : decode cX12_span 158 = .ok (.iload 7, 2) := by decide +kernel
theorem dX12_span_160 : decode cX12_span 160 = .ok (.iconst (-1), 1) := by decide +kernel
theorem dX12_span_161 : decode cX12_span 161 = .ok (.if_icmp .ne 12, 3) := by decide +kernel
theorem dX12_span_164 : decode cX12_span 164 = .ok (.aload_n 0, 1) := by decide +kernel
theorem dX12_span_165 : decode cX12_span 165 = .ok (.bipush 6, 2) := by decide +kernel
theorem dX12_span_167 : decode cX12_span 167 = .ok (.invokevirtual 267, 3) := by decide +kernel
theorem dX12_span_170 : decode cX12_span 170 = .ok (.goto 9, 3) := by decide +kernel
theorem dX12_span_173 : decode cX12_span 173 = .ok (.aload_n 0, 1) := by decide +kernel
theorem dX12_span_174 : decode cX12_span 174 = .ok (.iload 7, 2) := by decide +kernel
theorem dX12_span_176 : decode cX12_span 176 = .ok (.invokevirtual 237, 3) := by decide +kernel
theorem dX12_span_179 : decode cX12_span 179 = .ok (.ireturn, 1) := by decide +kernel
noncomputable def B_X12_span_0 : pb_C := (i_iload 3 (i_const (.int 1) (i_ic_lt (i_aload 0 (i_const (.int 1) (i_callV 64 1 1 M_X12_refuse i_iret))) (i_iload 3 (i_const (.int 16) (i_ic_ge (i_aload 0 (i_const (.int 1) (i_callV 64 1 1 M_X12_refuse i_iret))) (i_iload 4 (i_if_lt (i_aload 0 (i_const (.int 1) (i_callV 64 1 1 M_X12_refuse i_iret))) (i_iload 4 (i_const (.int 1) (i_ic_le (i_aload 0 (i_iload 1 (i_iload 2 (i_callV 64 2 1 M_X12_wrongSundry (i_istore 5 (i_iload 5 (i_if_le (i_aload 0 (i_iload 1 (i_iload 2 (i_callV 64 2 0 M_X12_things (i_aload 0 (i_getR 64 110 (i_iload 3 (i_ald 110 16 (i_const (.int (-1)) (i_ic_ne (i_aload 0 (i_iload 3 (i_callV 64 1 0 M_X12_count (i_aload 0 (i_iload 1 (i_callV 64 1 1 M_X12_penceOf (i_istore 6 (i_const (.int (-1)) (i_istore 7 (i_const (.int 0) (i_istore 8 (i_jmp 89 [true, false, false, true, true, false, true, true, true])))))))))))) (i_aload 0 (i_const (.int 6) (i_callV 64 1 1 M_X12_refuse i_iret))))))))))))) (i_aload 0 (i_iload 5 (i_callV 64 1 1 M_X12_refuse i_iret)))))))))) (i_aload 0 (i_const (.int 1) (i_callV 64 1 1 M_X12_refuse i_iret))))))))))))))
noncomputable def B_X12_span_89 : pb_C := (i_iload 8 (i_aload 0 (i_getR 64 111 (i_iload 3 (i_ald 111 16 (i_ic_gt (i_iload 7 (i_const (.int (-1)) (i_ic_ne (i_aload 0 (i_iload 7 (i_callV 64 1 1 M_X12_gives i_iret))) (i_aload 0 (i_const (.int 6) (i_callV 64 1 1 M_X12_refuse i_iret)))))) (i_iload 8 (i_aload 0 (i_getR 64 110 (i_iload 3 (i_ald 110 16 (i_ibin (· * ·) (i_iload 6 (i_ic_gt (i_iload 7 (i_const (.int (-1)) (i_ic_ne (i_aload 0 (i_iload 7 (i_callV 64 1 1 M_X12_gives i_iret))) (i_aload 0 (i_const (.int 6) (i_callV 64 1 1 M_X12_refuse i_iret)))))) (i_aload 0 (i_getR 64 113 (i_iload 6 (i_iload 8 (i_aload 0 (i_getR 64 110 (i_iload 3 (i_ald 110 16 (i_ibin (· * ·) (i_ibin (· - ·) (i_lald 113 2001 (i_const (.long 0) (i_lcmp (i_if_le (i_iinc 8 1 (i_jmp 89 [true, false, false, true, true, false, true, true, true])) (i_iload 7 (i_const (.int (-1)) (i_ic_eq (i_iload 8 (i_istore 7 (i_iinc 8 1 (i_jmp 89 [true, false, false, true, true, false, true, true, true])))) (i_iload 4 (i_const (.int 1) (i_ic_ne (i_iinc 8 1 (i_jmp 89 [true, false, false, true, true, false, true, true, true])) (i_iload 8 (i_istore 7 (i_iinc 8 1 (i_jmp 89 [true, false, false, true, true, false, true, true, true]))))))))))))))))))))))))))))))))))))))
noncomputable def T_X12_span : Nat → pb_C := pb_tt [(0, B_X12_span_0), (89, B_X12_span_89)]
noncomputable def M_X12_span : pb_F := pb_M T_X12_span 9
set_option maxRecDepth 100000 in
set_option maxHeartbeats 4000000 in
theorem S_X12_span (l : Launch) : pb_Sound l yX12_span cX12_span 9 (some .int) 7 M_X12_span := by
  refine pb_sound_of (by decide) m_9_67 ?_
  intro Γ hl0 hRm0 hm X E hr J
  have hnL : ∀ j, j < 9 → j < Γ.2.2.2.2.2.2.2.2.2.2.2.1 := fun j h => by rw [hm]; exact h
  have hR : ∀ (d' mL : Nat), d' + 1 ≤ 7 ∧ 8 + (mL + 11) + d' * 64 ≤ 7 * 64 → (pb_rm d').frames + 1 ≤ Γ.2.2.2.1.frames ∧ 8 + (mL + 11) + (pb_rm d').locals ≤ Γ.2.2.2.1.locals := by rw [hRm0]; exact fun _ _ h => h
  have hRm : 1 ≤ 7 ∧ 64 ≤ 7 * 64 → 1 ≤ Γ.2.2.2.1.frames ∧ 64 ≤ Γ.2.2.2.1.locals := by rw [hRm0]; exact fun h => h
  exact pb_tt_snd _ (List.forall_mem_cons.mpr ⟨(s_iload_n (pc := 0) X dX12_span_0 rfl (s_iconst (pc := 1) X dX12_span_1 rfl (s_ic_lt (pc := 2) X dX12_span_2 (by decide) (s_aload_n (pc := 22) X dX12_span_22 rfl (s_iconst (pc := 23) X dX12_span_23 rfl (s_callV (pc := 24) X dX12_span_24 (S_X12_refuse _) q_X12_267 h_64 rfl (hR _ _ (by decide)) (s_iret (pc := 27) X E hr dX12_span_27)))) (s_iload_n (pc := 5) X dX12_span_5 rfl (s_bipush (pc := 6) X dX12_span_6 rfl (s_ic_ge (pc := 8) X dX12_span_8 (by decide) (s_aload_n (pc := 22) X dX12_span_22 rfl (s_iconst (pc := 23) X dX12_span_23 rfl (s_callV (pc := 24) X dX12_span_24 (S_X12_refuse _) q_X12_267 h_64 rfl (hR _ _ (by decide)) (s_iret (pc := 27) X E hr dX12_span_27)))) (s_iload (pc := 11) X dX12_span_11 (s_if_lt (pc := 13) X dX12_span_13 (by decide) (s_aload_n (pc := 22) X dX12_span_22 rfl (s_iconst (pc := 23) X dX12_span_23 rfl (s_callV (pc := 24) X dX12_span_24 (S_X12_refuse _) q_X12_267 h_64 rfl (hR _ _ (by decide)) (s_iret (pc := 27) X E hr dX12_span_27)))) (s_iload (pc := 16) X dX12_span_16 (s_iconst (pc := 18) X dX12_span_18 rfl (s_ic_le (pc := 19) X dX12_span_19 (by decide) (s_aload_n (pc := 28) X dX12_span_28 rfl (s_iload_n (pc := 29) X dX12_span_29 rfl (s_iload_n (pc := 30) X dX12_span_30 rfl (s_callV (pc := 31) X dX12_span_31 (S_X12_wrongSundry _) q_X12_511 h_64 rfl (hR _ _ (by decide)) (s_istore (pc := 34) X dX12_span_34 (hnL _ (by decide)) (s_iload (pc := 36) X dX12_span_36 (s_if_le (pc := 38) X dX12_span_38 (by decide) (s_aload_n (pc := 48) X dX12_span_48 rfl (s_iload_n (pc := 49) X dX12_span_49 rfl (s_iload_n (pc := 50) X dX12_span_50 rfl (s_callV (pc := 51) X dX12_span_51 (S_X12_things _) q_X12_514 h_64 rfl (hR _ _ (by decide)) (s_aload_n (pc := 54) X dX12_span_54 rfl (s_getR (pc := 55) X dX12_span_55 g_X12_171 (s_iload_n (pc := 58) X dX12_span_58 rfl (s_iald (pc := 59) X dX12_span_59 h_110 (s_iconst (pc := 60) X dX12_span_60 rfl (s_ic_ne (pc := 61) X dX12_span_61 (by decide) (s_aload_n (pc := 71) X dX12_span_71 rfl (s_iload_n (pc := 72) X dX12_span_72 rfl (s_callV (pc := 73) X dX12_span_73 (S_X12_count _) q_X12_517 h_64 rfl (hR _ _ (by decide)) (s_aload_n (pc := 76) X dX12_span_76 rfl (s_iload_n (pc := 77) X dX12_span_77 rfl (s_callV (pc := 78) X dX12_span_78 (S_X12_penceOf _) q_X12_308 h_64 rfl (hR _ _ (by decide)) (s_istore (pc := 81) X dX12_span_81 (hnL _ (by decide)) (s_iconst (pc := 83) X dX12_span_83 rfl (s_istore (pc := 84) X dX12_span_84 (hnL _ (by decide)) (s_iconst (pc := 86) X dX12_span_86 rfl (s_istore (pc := 87) X dX12_span_87 (hnL _ (by decide)) (s_jmp (pc := 89) J [true, false, false, true, true, false, true, true, true])))))))))))) (s_aload_n (pc := 64) X dX12_span_64 rfl (s_bipush (pc := 65) X dX12_span_65 rfl (s_callV (pc := 67) X dX12_span_67 (S_X12_refuse _) q_X12_267 h_64 rfl (hR _ _ (by decide)) (s_iret (pc := 70) X E hr dX12_span_70)))))))))))))) (s_aload_n (pc := 41) X dX12_span_41 rfl (s_iload (pc := 42) X dX12_span_42 (s_callV (pc := 44) X dX12_span_44 (S_X12_refuse _) q_X12_267 h_64 rfl (hR _ _ (by decide)) (s_iret (pc := 47) X E hr dX12_span_47))))))))))) (s_aload_n (pc := 22) X dX12_span_22 rfl (s_iconst (pc := 23) X dX12_span_23 rfl (s_callV (pc := 24) X dX12_span_24 (S_X12_refuse _) q_X12_267 h_64 rfl (hR _ _ (by decide)) (s_iret (pc := 27) X E hr dX12_span_27))))))))))))))), List.forall_mem_cons.mpr ⟨(s_iload (pc := 89) X dX12_span_89 (s_aload_n (pc := 91) X dX12_span_91 rfl (s_getR (pc := 92) X dX12_span_92 g_X12_174 (s_iload_n (pc := 95) X dX12_span_95 rfl (s_iald (pc := 96) X dX12_span_96 h_111 (s_ic_gt (pc := 97) X dX12_span_97 (by decide) (s_iload (pc := 158) X dX12_span_158 (s_iconst (pc := 160) X dX12_span_160 rfl (s_ic_ne (pc := 161) X dX12_span_161 (by decide) (s_aload_n (pc := 173) X dX12_span_173 rfl (s_iload (pc := 174) X dX12_span_174 (s_callV (pc := 176) X dX12_span_176 (S_X12_gives _) q_X12_237 h_64 rfl (hR _ _ (by decide)) (s_iret (pc := 179) X E hr dX12_span_179)))) (s_aload_n (pc := 164) X dX12_span_164 rfl (s_bipush (pc := 165) X dX12_span_165 rfl (s_callV (pc := 167) X dX12_span_167 (S_X12_refuse _) q_X12_267 h_64 rfl (hR _ _ (by decide)) (s_goto (pc := 170) X dX12_span_170 (by decide) (s_iret (pc := 179) X E hr dX12_span_179)))))))) (s_iload (pc := 100) X dX12_span_100 (s_aload_n (pc := 102) X dX12_span_102 rfl (s_getR (pc := 103) X dX12_span_103 g_X12_171 (s_iload_n (pc := 106) X dX12_span_106 rfl (s_iald (pc := 107) X dX12_span_107 h_110 (s_imul (pc := 108) X dX12_span_108 (s_iload (pc := 109) X dX12_span_109 (s_ic_gt (pc := 111) X dX12_span_111 (by decide) (s_iload (pc := 158) X dX12_span_158 (s_iconst (pc := 160) X dX12_span_160 rfl (s_ic_ne (pc := 161) X dX12_span_161 (by decide) (s_aload_n (pc := 173) X dX12_span_173 rfl (s_iload (pc := 174) X dX12_span_174 (s_callV (pc := 176) X dX12_span_176 (S_X12_gives _) q_X12_237 h_64 rfl (hR _ _ (by decide)) (s_iret (pc := 179) X E hr dX12_span_179)))) (s_aload_n (pc := 164) X dX12_span_164 rfl (s_bipush (pc := 165) X dX12_span_165 rfl (s_callV (pc := 167) X dX12_span_167 (S_X12_refuse _) q_X12_267 h_64 rfl (hR _ _ (by decide)) (s_goto (pc := 170) X dX12_span_170 (by decide) (s_iret (pc := 179) X E hr dX12_span_179)))))))) (s_aload_n (pc := 114) X dX12_span_114 rfl (s_getR (pc := 115) X dX12_span_115 g_X12_180 (s_iload (pc := 118) X dX12_span_118 (s_iload (pc := 120) X dX12_span_120 (s_aload_n (pc := 122) X dX12_span_122 rfl (s_getR (pc := 123) X dX12_span_123 g_X12_171 (s_iload_n (pc := 126) X dX12_span_126 rfl (s_iald (pc := 127) X dX12_span_127 h_110 (s_imul (pc := 128) X dX12_span_128 (s_isub (pc := 129) X dX12_span_129 (s_lald (pc := 130) X dX12_span_130 h_113 (s_lconst (pc := 131) X dX12_span_131 rfl (s_lcmp (pc := 132) X dX12_span_132 (s_if_le (pc := 133) X dX12_span_133 (by decide) (s_iinc (pc := 152) X dX12_span_152 rfl (s_goto (pc := 155) X dX12_span_155 (by decide) (s_jmp (pc := 89) J [true, false, false, true, true, false, true, true, true]))) (s_iload (pc := 136) X dX12_span_136 (s_iconst (pc := 138) X dX12_span_138 rfl (s_ic_eq (pc := 139) X dX12_span_139 (by decide) (s_iload (pc := 148) X dX12_span_148 (s_istore (pc := 150) X dX12_span_150 (hnL _ (by decide)) (s_iinc (pc := 152) X dX12_span_152 rfl (s_goto (pc := 155) X dX12_span_155 (by decide) (s_jmp (pc := 89) J [true, false, false, true, true, false, true, true, true]))))) (s_iload (pc := 142) X dX12_span_142 (s_iconst (pc := 144) X dX12_span_144 rfl (s_ic_ne (pc := 145) X dX12_span_145 (by decide) (s_iinc (pc := 152) X dX12_span_152 rfl (s_goto (pc := 155) X dX12_span_155 (by decide) (s_jmp (pc := 89) J [true, false, false, true, true, false, true, true, true]))) (s_iload (pc := 148) X dX12_span_148 (s_istore (pc := 150) X dX12_span_150 (hnL _ (by decide)) (s_iinc (pc := 152) X dX12_span_152 rfl (s_goto (pc := 155) X dX12_span_155 (by decide) (s_jmp (pc := 89) J [true, false, false, true, true, false, true, true, true]))))))))))))))))))))))))))))))))))))))), fun _ h => absurd h List.not_mem_nil⟩⟩)
theorem dX12_member_0 : decode cX12_member 0 = .ok (.aload_n 0, 1) := by decide +kernel
theorem dX12_member_1 : decode cX12_member 1 = .ok (.iload_n 1, 1) := by decide +kernel
theorem dX12_member_2 : decode cX12_member 2 = .ok (.invokevirtual 284, 3) := by decide +kernel
theorem dX12_member_5 : decode cX12_member 5 = .ok (.ifCond .eq 43, 3) := by decide +kernel
theorem dX12_member_8 : decode cX12_member 8 = .ok (.iload_n 2, 1) := by decide +kernel
theorem dX12_member_9 : decode cX12_member 9 = .ok (.sipush (-5200), 3) := by decide +kernel
theorem dX12_member_12 : decode cX12_member 12 = .ok (.if_icmp .lt 36, 3) := by decide +kernel
theorem dX12_member_15 : decode cX12_member 15 = .ok (.iload_n 2, 1) := by decide +kernel
theorem dX12_member_16 : decode cX12_member 16 = .ok (.sipush 520, 3) := by decide +kernel
theorem dX12_member_19 : decode cX12_member 19 = .ok (.if_icmp .ge 29, 3) := by decide +kernel
theorem dX12_member_22 : decode cX12_member 22 = .ok (.iload_n 3, 1) := by decide +kernel
theorem dX12_member_23 : decode cX12_member 23 = .ok (.invokestatic 287, 3) := by decide +kernel
theorem dX12_member_26 : decode cX12_member 26 = .ok (.ifCond .eq 22, 3) := by decide +kernel
theorem dX12_member_29 : decode cX12_member 29 = .ok (.iload 4, 2) := by decide +kernel
theorem dX12_member_31 : decode cX12_member 31 = .ok (.invokestatic 287, 3) := by decide +kernel
theorem dX12_member_34 : decode cX12_member 34 = .ok (.ifCond .eq 14, 3) := by decide +kernel
theorem dX12_member_37 : decode cX12_member 37 = .ok (.iload_n 3, 1) := by decide +kernel
theorem dX12_member_38 : decode cX12_member 38 = .ok (.iload_n 2, 1) := by decide +kernel
theorem dX12_member_39 : decode cX12_member 39 = .ok (.if_icmp .lt 9, 3) := by decide +kernel
theorem dX12_member_42 : decode cX12_member 42 = .ok (.iload 4, 2) := by decide +kernel
theorem dX12_member_44 : decode cX12_member 44 = .ok (.iload_n 3, 1) := by decide +kernel
theorem dX12_member_45 : decode cX12_member 45 = .ok (.if_icmp .ge 9, 3) := by decide +kernel
theorem dX12_member_48 : decode cX12_member 48 = .ok (.aload_n 0, 1) := by decide +kernel
theorem dX12_member_49 : decode cX12_member 49 = .ok (.iconst 1, 1) := by decide +kernel
theorem dX12_member_50 : decode cX12_member 50 = .ok (.invokevirtual 245, 3) := by decide +kernel
theorem dX12_member_53 : decode cX12_member 53 = .ok (.ireturn, 1) := by decide +kernel
theorem dX12_member_54 : decode cX12_member 54 = .ok (.aload_n 0, 1) := by decide +kernel
theorem dX12_member_55 : decode cX12_member 55 = .ok (.getfield 520, 3) := by decide +kernel
theorem dX12_member_58 : decode cX12_member 58 = .ok (.bipush 40, 2) := by decide +kernel
theorem dX12_member_60 : decode cX12_member 60 = .ok (.if_icmp .ne 9, 3) := by decide +kernel
theorem dX12_member_63 : decode cX12_member 63 = .ok (.aload_n 0, 1) := by decide +kernel
theorem dX12_member_64 : decode cX12_member 64 = .ok (.iconst 4, 1) := by decide +kernel
theorem dX12_member_65 : decode cX12_member 65 = .ok (.invokevirtual 245, 3) := by decide +kernel
theorem dX12_member_68 : decode cX12_member 68 = .ok (.ireturn, 1) := by decide +kernel
theorem dX12_member_69 : decode cX12_member 69 = .ok (.aload_n 0, 1) := by decide +kernel
theorem dX12_member_70 : decode cX12_member 70 = .ok (.getfield 192, 3) := by decide +kernel
theorem dX12_member_73 : decode cX12_member 73 = .ok (.aload_n 0, 1) := by decide +kernel
theorem dX12_member_74 : decode cX12_member 74 = .ok (.getfield 520, 3) := by decide +kernel
theorem dX12_member_77 : decode cX12_member 77 = .ok (.iload_n 1, 1) := by decide +kernel
theorem dX12_member_78 : decode cX12_member 78 = .ok (.iastore, 1) := by decide +kernel
theorem dX12_member_79 : decode cX12_member 79 = .ok (.aload_n 0, 1) := by decide +kernel
theorem dX12_member_80 : decode cX12_member 80 = .ok (.getfield 195, 3) := by decide +kernel
theorem dX12_member_83 : decode cX12_member 83 = .ok (.aload_n 0, 1) := by decide +kernel
theorem dX12_member_84 : decode cX12_member 84 = .ok (.getfield 520, 3) := by decide +kernel
theorem dX12_member_87 : decode cX12_member 87 = .ok (.iload_n 2, 1) := by decide +kernel
theorem dX12_member_88 : decode cX12_member 88 = .ok (.iastore, 1) := by decide +kernel
theorem dX12_member_89 : decode cX12_member 89 = .ok (.aload_n 0, 1) := by decide +kernel
theorem dX12_member_90 : decode cX12_member 90 = .ok (.getfield 198, 3) := by decide +kernel
theorem dX12_member_93 : decode cX12_member 93 = .ok (.aload_n 0, 1) := by decide +kernel
theorem dX12_member_94 : decode cX12_member 94 = .ok (.getfield 520, 3) := by decide +kernel
theorem dX12_member_97 : decode cX12_member 97 = .ok (.iload_n 3, 1) := by decide +kernel
theorem dX12_member_98 : decode cX12_member 98 = .ok (.iastore, 1) := by decide +kernel
theorem dX12_member_99 : decode cX12_member 99 = .ok (.aload_n 0, 1) := by decide +kernel
theorem dX12_member_100 : decode cX12_member 100 = .ok (.getfield 201, 3) := by decide +kernel
theorem dX12_member_103 : decode cX12_member 103 = .ok (.aload_n 0, 1) := by decide +kernel
theorem dX12_member_104 : decode cX12_member 104 = .ok (.getfield 520, 3) := by decide +kernel
theorem dX12_member_107 : decode cX12_member 107 = .ok (.iload 4, 2) := by decide +kernel
theorem dX12_member_109 : decode cX12_member 109 = .ok (.iastore, 1) := by decide +kernel
theorem dX12_member_110 : decode cX12_member 110 = .ok (.aload_n 0, 1) := by decide +kernel
theorem dX12_member_111 : decode cX12_member 111 = .ok (.dup, 1) := by decide +kernel
theorem dX12_member_112 : decode cX12_member 112 = .ok (.getfield 520, 3) := by decide +kernel
theorem dX12_member_115 : decode cX12_member 115 = .ok (.iconst 1, 1) := by decide +kernel
theorem dX12_member_116 : decode cX12_member 116 = .ok (.iadd, 1) := by decide +kernel
theorem dX12_member_117 : decode cX12_member 117 = .ok (.putfield 520, 3) := by decide +kernel
theorem dX12_member_120 : decode cX12_member 120 = .ok (.aload_n 0, 1) := by decide +kernel
theorem dX12_member_121 : decode cX12_member 121 = .ok (.iconst 0, 1) := by decide +kernel
theorem dX12_member_122 : decode cX12_member 122 = .ok (.invokevirtual 245, 3) := by decide +kernel
theorem dX12_member_125 : decode cX12_member 125 = .ok (.ireturn, 1) := by decide +kernel
noncomputable def B_X12_member_0 : pb_C := (i_aload 0 (i_iload 1 (i_callV 64 1 1 M_X12_isFamily (i_if_eq (i_aload 0 (i_const (.int 1) (i_callV 64 1 1 M_X12_is i_zret))) (i_iload 2 (i_const (.int (-5200)) (i_ic_lt (i_aload 0 (i_const (.int 1) (i_callV 64 1 1 M_X12_is i_zret))) (i_iload 2 (i_const (.int 520) (i_ic_ge (i_aload 0 (i_const (.int 1) (i_callV 64 1 1 M_X12_is i_zret))) (i_iload 3 (i_callS 1 1 M_X12_isWeek (i_if_eq (i_aload 0 (i_const (.int 1) (i_callV 64 1 1 M_X12_is i_zret))) (i_iload 4 (i_callS 1 1 M_X12_isWeek (i_if_eq (i_aload 0 (i_const (.int 1) (i_callV 64 1 1 M_X12_is i_zret))) (i_iload 3 (i_iload 2 (i_ic_lt (i_aload 0 (i_const (.int 1) (i_callV 64 1 1 M_X12_is i_zret))) (i_iload 4 (i_iload 3 (i_ic_ge (i_aload 0 (i_getI 64 85 (i_const (.int 40) (i_ic_ne (i_aload 0 (i_getR 64 117 (i_aload 0 (i_getI 64 85 (i_iload 1 (i_ast 117 40 (fun x => x) (i_aload 0 (i_getR 64 118 (i_aload 0 (i_getI 64 85 (i_iload 2 (i_ast 118 40 (fun x => x) (i_aload 0 (i_getR 64 119 (i_aload 0 (i_getI 64 85 (i_iload 3 (i_ast 119 40 (fun x => x) (i_aload 0 (i_getR 64 120 (i_aload 0 (i_getI 64 85 (i_iload 4 (i_ast 120 40 (fun x => x) (i_aload 0 (i_dupR (i_getI 64 85 (i_const (.int 1) (i_ibin (· + ·) (i_putI 64 85 (i_aload 0 (i_const (.int 0) (i_callV 64 1 1 M_X12_is i_zret))))))))))))))))))))))))))))))))) (i_aload 0 (i_const (.int 4) (i_callV 64 1 1 M_X12_is i_zret))))))) (i_aload 0 (i_const (.int 1) (i_callV 64 1 1 M_X12_is i_zret)))))))))))))))))))))))))
noncomputable def T_X12_member : Nat → pb_C := pb_tt [(0, B_X12_member_0)]
noncomputable def M_X12_member : pb_F := pb_M T_X12_member 5
set_option maxRecDepth 100000 in
set_option maxHeartbeats 4000000 in
theorem S_X12_member (l : Launch) : pb_Sound l yX12_member cX12_member 5 (some .boolean) 2 M_X12_member := by
  refine pb_sound_of (by decide) m_9_71 ?_
  intro Γ hl0 hRm0 hm X E hr J
  have hnL : ∀ j, j < 5 → j < Γ.2.2.2.2.2.2.2.2.2.2.2.1 := fun j h => by rw [hm]; exact h
  have hR : ∀ (d' mL : Nat), d' + 1 ≤ 2 ∧ 8 + (mL + 11) + d' * 64 ≤ 2 * 64 → (pb_rm d').frames + 1 ≤ Γ.2.2.2.1.frames ∧ 8 + (mL + 11) + (pb_rm d').locals ≤ Γ.2.2.2.1.locals := by rw [hRm0]; exact fun _ _ h => h
  have hRm : 1 ≤ 2 ∧ 64 ≤ 2 * 64 → 1 ≤ Γ.2.2.2.1.frames ∧ 64 ≤ Γ.2.2.2.1.locals := by rw [hRm0]; exact fun h => h
  exact pb_tt_snd _ (List.forall_mem_cons.mpr ⟨(s_aload_n (pc := 0) X dX12_member_0 rfl (s_iload_n (pc := 1) X dX12_member_1 rfl (s_callV (pc := 2) X dX12_member_2 (S_X12_isFamily _) q_X12_284 h_64 rfl (hR _ _ (by decide)) (s_if_eq (pc := 5) X dX12_member_5 (by decide) (s_aload_n (pc := 48) X dX12_member_48 rfl (s_iconst (pc := 49) X dX12_member_49 rfl (s_callV (pc := 50) X dX12_member_50 (S_X12_is _) q_X12_245 h_64 rfl (hR _ _ (by decide)) (s_zret (pc := 53) X E hr dX12_member_53)))) (s_iload_n (pc := 8) X dX12_member_8 rfl (s_sipush (pc := 9) X dX12_member_9 rfl (s_ic_lt (pc := 12) X dX12_member_12 (by decide) (s_aload_n (pc := 48) X dX12_member_48 rfl (s_iconst (pc := 49) X dX12_member_49 rfl (s_callV (pc := 50) X dX12_member_50 (S_X12_is _) q_X12_245 h_64 rfl (hR _ _ (by decide)) (s_zret (pc := 53) X E hr dX12_member_53)))) (s_iload_n (pc := 15) X dX12_member_15 rfl (s_sipush (pc := 16) X dX12_member_16 rfl (s_ic_ge (pc := 19) X dX12_member_19 (by decide) (s_aload_n (pc := 48) X dX12_member_48 rfl (s_iconst (pc := 49) X dX12_member_49 rfl (s_callV (pc := 50) X dX12_member_50 (S_X12_is _) q_X12_245 h_64 rfl (hR _ _ (by decide)) (s_zret (pc := 53) X E hr dX12_member_53)))) (s_iload_n (pc := 22) X dX12_member_22 rfl (s_callS (pc := 23) X dX12_member_23 (S_X12_isWeek _) q_X12_287 (hR _ _ (by decide)) (s_if_eq (pc := 26) X dX12_member_26 (by decide) (s_aload_n (pc := 48) X dX12_member_48 rfl (s_iconst (pc := 49) X dX12_member_49 rfl (s_callV (pc := 50) X dX12_member_50 (S_X12_is _) q_X12_245 h_64 rfl (hR _ _ (by decide)) (s_zret (pc := 53) X E hr dX12_member_53)))) (s_iload (pc := 29) X dX12_member_29 (s_callS (pc := 31) X dX12_member_31 (S_X12_isWeek _) q_X12_287 (hR _ _ (by decide)) (s_if_eq (pc := 34) X dX12_member_34 (by decide) (s_aload_n (pc := 48) X dX12_member_48 rfl (s_iconst (pc := 49) X dX12_member_49 rfl (s_callV (pc := 50) X dX12_member_50 (S_X12_is _) q_X12_245 h_64 rfl (hR _ _ (by decide)) (s_zret (pc := 53) X E hr dX12_member_53)))) (s_iload_n (pc := 37) X dX12_member_37 rfl (s_iload_n (pc := 38) X dX12_member_38 rfl (s_ic_lt (pc := 39) X dX12_member_39 (by decide) (s_aload_n (pc := 48) X dX12_member_48 rfl (s_iconst (pc := 49) X dX12_member_49 rfl (s_callV (pc := 50) X dX12_member_50 (S_X12_is _) q_X12_245 h_64 rfl (hR _ _ (by decide)) (s_zret (pc := 53) X E hr dX12_member_53)))) (s_iload (pc := 42) X dX12_member_42 (s_iload_n (pc := 44) X dX12_member_44 rfl (s_ic_ge (pc := 45) X dX12_member_45 (by decide) (s_aload_n (pc := 54) X dX12_member_54 rfl (s_getI (pc := 55) X dX12_member_55 g_X12_520 (s_bipush (pc := 58) X dX12_member_58 rfl (s_ic_ne (pc := 60) X dX12_member_60 (by decide) (s_aload_n (pc := 69) X dX12_member_69 rfl (s_getR (pc := 70) X dX12_member_70 g_X12_192 (s_aload_n (pc := 73) X dX12_member_73 rfl (s_getI (pc := 74) X dX12_member_74 g_X12_520 (s_iload_n (pc := 77) X dX12_member_77 rfl (s_iast (pc := 78) X dX12_member_78 h_117 (s_aload_n (pc := 79) X dX12_member_79 rfl (s_getR (pc := 80) X dX12_member_80 g_X12_195 (s_aload_n (pc := 83) X dX12_member_83 rfl (s_getI (pc := 84) X dX12_member_84 g_X12_520 (s_iload_n (pc := 87) X dX12_member_87 rfl (s_iast (pc := 88) X dX12_member_88 h_118 (s_aload_n (pc := 89) X dX12_member_89 rfl (s_getR (pc := 90) X dX12_member_90 g_X12_198 (s_aload_n (pc := 93) X dX12_member_93 rfl (s_getI (pc := 94) X dX12_member_94 g_X12_520 (s_iload_n (pc := 97) X dX12_member_97 rfl (s_iast (pc := 98) X dX12_member_98 h_119 (s_aload_n (pc := 99) X dX12_member_99 rfl (s_getR (pc := 100) X dX12_member_100 g_X12_201 (s_aload_n (pc := 103) X dX12_member_103 rfl (s_getI (pc := 104) X dX12_member_104 g_X12_520 (s_iload (pc := 107) X dX12_member_107 (s_iast (pc := 109) X dX12_member_109 h_120 (s_aload_n (pc := 110) X dX12_member_110 rfl (s_dupR (pc := 111) X dX12_member_111 (s_getI (pc := 112) X dX12_member_112 g_X12_520 (s_iconst (pc := 115) X dX12_member_115 rfl (s_iadd (pc := 116) X dX12_member_116 (s_putI (pc := 117) X dX12_member_117 p_X12_520 (s_aload_n (pc := 120) X dX12_member_120 rfl (s_iconst (pc := 121) X dX12_member_121 rfl (s_callV (pc := 122) X dX12_member_122 (S_X12_is _) q_X12_245 h_64 rfl (hR _ _ (by decide)) (s_zret (pc := 125) X E hr dX12_member_125)))))))))))))))))))))))))))))))))) (s_aload_n (pc := 63) X dX12_member_63 rfl (s_iconst (pc := 64) X dX12_member_64 rfl (s_callV (pc := 65) X dX12_member_65 (S_X12_is _) q_X12_245 h_64 rfl (hR _ _ (by decide)) (s_zret (pc := 68) X E hr dX12_member_68)))))))) (s_aload_n (pc := 48) X dX12_member_48 rfl (s_iconst (pc := 49) X dX12_member_49 rfl (s_callV (pc := 50) X dX12_member_50 (S_X12_is _) q_X12_245 h_64 rfl (hR _ _ (by decide)) (s_zret (pc := 53) X E hr dX12_member_53)))))))))))))))))))))))))), fun _ h => absurd h List.not_mem_nil⟩)
theorem dX12_isPart_0 : decode cX12_isPart 0 = .ok (.iload_n 0, 1) := by decide +kernel
theorem dX12_isPart_1 : decode cX12_isPart 1 = .ok (.ifCond .lt 13, 3) := by decide +kernel
theorem dX12_isPart_4 : decode cX12_isPart 4 = .ok (.iload_n 0, 1) := by decide +kernel
theorem dX12_isPart_5 : decode cX12_isPart 5 = .ok (.bipush 100, 2) := by decide +kernel
theorem dX12_isPart_7 : decode cX12_isPart 7 = .ok (.if_icmp .gt 7, 3) := by decide +kernel
theorem dX12_isPart_10 : decode cX12_isPart 10 = .ok (.iconst 1, 1) := by decide +kernel
theorem dX12_isPart_11 : decode cX12_isPart 11 = .ok (.goto 4, 3) := by decide +kernel
theorem dX12_isPart_14 : decode cX12_isPart 14 = .ok (.iconst 0, 1) := by decide +kernel
theorem dX12_isPart_15 : decode cX12_isPart 15 = .ok (.ireturn, 1) := by decide +kernel
noncomputable def B_X12_isPart_0 : pb_C := (i_iload 0 (i_if_lt (i_const (.int 0) i_zret) (i_iload 0 (i_const (.int 100) (i_ic_gt (i_const (.int 0) i_zret) (i_const (.int 1) i_zret))))))
noncomputable def T_X12_isPart : Nat → pb_C := pb_tt [(0, B_X12_isPart_0)]
noncomputable def M_X12_isPart : pb_F := pb_M T_X12_isPart 1
set_option maxRecDepth 100000 in
set_option maxHeartbeats 4000000 in
theorem S_X12_isPart (l : Launch) : pb_Sound l yX12_isPart cX12_isPart 1 (some .boolean) 1 M_X12_isPart := by
  refine pb_sound_of (by decide) m_9_78 ?_
  intro Γ hl0 hRm0 hm X E hr J
  have hnL : ∀ j, j < 1 → j < Γ.2.2.2.2.2.2.2.2.2.2.2.1 := fun j h => by rw [hm]; exact h
  have hR : ∀ (d' mL : Nat), d' + 1 ≤ 1 ∧ 8 + (mL + 11) + d' * 64 ≤ 1 * 64 → (pb_rm d').frames + 1 ≤ Γ.2.2.2.1.frames ∧ 8 + (mL + 11) + (pb_rm d').locals ≤ Γ.2.2.2.1.locals := by rw [hRm0]; exact fun _ _ h => h
  have hRm : 1 ≤ 1 ∧ 64 ≤ 1 * 64 → 1 ≤ Γ.2.2.2.1.frames ∧ 64 ≤ Γ.2.2.2.1.locals := by rw [hRm0]; exact fun h => h
  exact pb_tt_snd _ (List.forall_mem_cons.mpr ⟨(s_iload_n (pc := 0) X dX12_isPart_0 rfl (s_if_lt (pc := 1) X dX12_isPart_1 (by decide) (s_iconst (pc := 14) X dX12_isPart_14 rfl (s_zret (pc := 15) X E hr dX12_isPart_15)) (s_iload_n (pc := 4) X dX12_isPart_4 rfl (s_bipush (pc := 5) X dX12_isPart_5 rfl (s_ic_gt (pc := 7) X dX12_isPart_7 (by decide) (s_iconst (pc := 14) X dX12_isPart_14 rfl (s_zret (pc := 15) X E hr dX12_isPart_15)) (s_iconst (pc := 10) X dX12_isPart_10 rfl (s_goto (pc := 11) X dX12_isPart_11 (by decide) (s_zret (pc := 15) X E hr dX12_isPart_15)))))))), fun _ h => absurd h List.not_mem_nil⟩)
theorem dX12_scale_0 : decode cX12_scale 0 = .ok (.iload_n 1, 1) := by decide +kernel
theorem dX12_scale_1 : decode cX12_scale 1 = .ok (.invokestatic 523, 3) := by decide +kernel
theorem dX12_scale_4 : decode cX12_scale 4 = .ok (.ifCond .eq 25, 3) := by decide +kernel
theorem dX12_scale_7 : decode cX12_scale 7 = .ok (.iload_n 2, 1) := by decide +kernel
theorem dX12_scale_8 : decode cX12_scale 8 = .ok (.invokestatic 523, 3) := by decide +kernel
theorem dX12_scale_11 : decode cX12_scale 11 = .ok (.ifCond .eq 18, 3) := by decide +kernel
theorem dX12_scale_14 : decode cX12_scale 14 = .ok (.iload_n 3, 1) := by decide +kernel
theorem dX12_scale_15 : decode cX12_scale 15 = .ok (.invokestatic 523, 3) := by decide +kernel
theorem dX12_scale_18 : decode cX12_scale 18 = .ok (.ifCond .eq 11, 3) := by decide +kernel
theorem dX12_scale_21 : decode cX12_scale 21 = .ok (.iload 4, 2) := by decide +kernel
theorem dX12_scale_23 : decode cX12_scale 23 = .ok (.invokestatic 523, 3) := by decide +kernel
theorem dX12_scale_26 : decode cX12_scale 26 = .ok (.ifCond .ne 9, 3) := by decide +kernel
theorem dX12_scale_29 : decode cX12_scale 29 = .ok (.aload_n 0, 1) := by decide +kernel
theorem dX12_scale_30 : decode cX12_scale 30 = .ok (.iconst 1, 1) := by decide +kernel
theorem dX12_scale_31 : decode cX12_scale 31 = .ok (.invokevirtual 245, 3) := by decide +kernel
theorem dX12_scale_34 : decode cX12_scale 34 = .ok (.ireturn, 1) := by decide +kernel
theorem dX12_scale_35 : decode cX12_scale 35 = .ok (.aload_n 0, 1) := by decide +kernel
theorem dX12_scale_36 : decode cX12_scale 36 = .ok (.getfield 204, 3) := by decide +kernel
theorem dX12_scale_39 : decode cX12_scale 39 = .ok (.iconst 0, 1) := by decide +kernel
theorem dX12_scale_40 : decode cX12_scale 40 = .ok (.iload_n 1, 1) := by decide +kernel
theorem dX12_scale_41 : decode cX12_scale 41 = .ok (.iastore, 1) := by decide +kernel
theorem dX12_scale_42 : decode cX12_scale 42 = .ok (.aload_n 0, 1) := by decide +kernel
theorem dX12_scale_43 : decode cX12_scale 43 = .ok (.getfield 204, 3) := by decide +kernel
theorem dX12_scale_46 : decode cX12_scale 46 = .ok (.iconst 1, 1) := by decide +kernel
theorem dX12_scale_47 : decode cX12_scale 47 = .ok (.iload_n 2, 1) := by decide +kernel
theorem dX12_scale_48 : decode cX12_scale 48 = .ok (.iastore, 1) := by decide +kernel
theorem dX12_scale_49 : decode cX12_scale 49 = .ok (.aload_n 0, 1) := by decide +kernel
theorem dX12_scale_50 : decode cX12_scale 50 = .ok (.getfield 204, 3) := by decide +kernel
theorem dX12_scale_53 : decode cX12_scale 53 = .ok (.iconst 2, 1) := by decide +kernel
theorem dX12_scale_54 : decode cX12_scale 54 = .ok (.iload_n 3, 1) := by decide +kernel
theorem dX12_scale_55 : decode cX12_scale 55 = .ok (.iastore, 1) := by decide +kernel
theorem dX12_scale_56 : decode cX12_scale 56 = .ok (.aload_n 0, 1) := by decide +kernel
theorem dX12_scale_57 : decode cX12_scale 57 = .ok (.getfield 204, 3) := by decide +kernel
theorem dX12_scale_60 : decode cX12_scale 60 = .ok (.iconst 3, 1) := by decide +kernel
theorem dX12_scale_61 : decode cX12_scale 61 = .ok (.iload 4, 2) := by decide +kernel
theorem dX12_scale_63 : decode cX12_scale 63 = .ok (.iastore, 1) := by decide +kernel
theorem dX12_scale_64 : decode cX12_scale 64 = .ok (.aload_n 0, 1) := by decide +kernel
theorem dX12_scale_65 : decode cX12_scale 65 = .ok (.iconst 0, 1) := by decide +kernel
theorem dX12_scale_66 : decode cX12_scale 66 = .ok (.invokevirtual 245, 3) := by decide +kernel
theorem dX12_scale_69 : decode cX12_scale 69 = .ok (.ireturn, 1) := by decide +kernel
noncomputable def B_X12_scale_0 : pb_C := (i_iload 1 (i_callS 1 1 M_X12_isPart (i_if_eq (i_aload 0 (i_const (.int 1) (i_callV 64 1 1 M_X12_is i_zret))) (i_iload 2 (i_callS 1 1 M_X12_isPart (i_if_eq (i_aload 0 (i_const (.int 1) (i_callV 64 1 1 M_X12_is i_zret))) (i_iload 3 (i_callS 1 1 M_X12_isPart (i_if_eq (i_aload 0 (i_const (.int 1) (i_callV 64 1 1 M_X12_is i_zret))) (i_iload 4 (i_callS 1 1 M_X12_isPart (i_if_ne (i_aload 0 (i_getR 64 121 (i_const (.int 0) (i_iload 1 (i_ast 121 4 (fun x => x) (i_aload 0 (i_getR 64 121 (i_const (.int 1) (i_iload 2 (i_ast 121 4 (fun x => x) (i_aload 0 (i_getR 64 121 (i_const (.int 2) (i_iload 3 (i_ast 121 4 (fun x => x) (i_aload 0 (i_getR 64 121 (i_const (.int 3) (i_iload 4 (i_ast 121 4 (fun x => x) (i_aload 0 (i_const (.int 0) (i_callV 64 1 1 M_X12_is i_zret))))))))))))))))))))))) (i_aload 0 (i_const (.int 1) (i_callV 64 1 1 M_X12_is i_zret)))))))))))))))
noncomputable def T_X12_scale : Nat → pb_C := pb_tt [(0, B_X12_scale_0)]
noncomputable def M_X12_scale : pb_F := pb_M T_X12_scale 5
set_option maxRecDepth 100000 in
set_option maxHeartbeats 4000000 in
theorem S_X12_scale (l : Launch) : pb_Sound l yX12_scale cX12_scale 5 (some .boolean) 2 M_X12_scale := by
  refine pb_sound_of (by decide) m_9_75 ?_
  intro Γ hl0 hRm0 hm X E hr J
  have hnL : ∀ j, j < 5 → j < Γ.2.2.2.2.2.2.2.2.2.2.2.1 := fun j h => by rw [hm]; exact h
  have hR : ∀ (d' mL : Nat), d' + 1 ≤ 2 ∧ 8 + (mL + 11) + d' * 64 ≤ 2 * 64 → (pb_rm d').frames + 1 ≤ Γ.2.2.2.1.frames ∧ 8 + (mL + 11) + (pb_rm d').locals ≤ Γ.2.2.2.1.locals := by rw [hRm0]; exact fun _ _ h => h
  have hRm : 1 ≤ 2 ∧ 64 ≤ 2 * 64 → 1 ≤ Γ.2.2.2.1.frames ∧ 64 ≤ Γ.2.2.2.1.locals := by rw [hRm0]; exact fun h => h
  exact pb_tt_snd _ (List.forall_mem_cons.mpr ⟨(s_iload_n (pc := 0) X dX12_scale_0 rfl (s_callS (pc := 1) X dX12_scale_1 (S_X12_isPart _) q_X12_523 (hR _ _ (by decide)) (s_if_eq (pc := 4) X dX12_scale_4 (by decide) (s_aload_n (pc := 29) X dX12_scale_29 rfl (s_iconst (pc := 30) X dX12_scale_30 rfl (s_callV (pc := 31) X dX12_scale_31 (S_X12_is _) q_X12_245 h_64 rfl (hR _ _ (by decide)) (s_zret (pc := 34) X E hr dX12_scale_34)))) (s_iload_n (pc := 7) X dX12_scale_7 rfl (s_callS (pc := 8) X dX12_scale_8 (S_X12_isPart _) q_X12_523 (hR _ _ (by decide)) (s_if_eq (pc := 11) X dX12_scale_11 (by decide) (s_aload_n (pc := 29) X dX12_scale_29 rfl (s_iconst (pc := 30) X dX12_scale_30 rfl (s_callV (pc := 31) X dX12_scale_31 (S_X12_is _) q_X12_245 h_64 rfl (hR _ _ (by decide)) (s_zret (pc := 34) X E hr dX12_scale_34)))) (s_iload_n (pc := 14) X dX12_scale_14 rfl (s_callS (pc := 15) X dX12_scale_15 (S_X12_isPart _) q_X12_523 (hR _ _ (by decide)) (s_if_eq (pc := 18) X dX12_scale_18 (by decide) (s_aload_n (pc := 29) X dX12_scale_29 rfl (s_iconst (pc := 30) X dX12_scale_30 rfl (s_callV (pc := 31) X dX12_scale_31 (S_X12_is _) q_X12_245 h_64 rfl (hR _ _ (by decide)) (s_zret (pc := 34) X E hr dX12_scale_34)))) (s_iload (pc := 21) X dX12_scale_21 (s_callS (pc := 23) X dX12_scale_23 (S_X12_isPart _) q_X12_523 (hR _ _ (by decide)) (s_if_ne (pc := 26) X dX12_scale_26 (by decide) (s_aload_n (pc := 35) X dX12_scale_35 rfl (s_getR (pc := 36) X dX12_scale_36 g_X12_204 (s_iconst (pc := 39) X dX12_scale_39 rfl (s_iload_n (pc := 40) X dX12_scale_40 rfl (s_iast (pc := 41) X dX12_scale_41 h_121 (s_aload_n (pc := 42) X dX12_scale_42 rfl (s_getR (pc := 43) X dX12_scale_43 g_X12_204 (s_iconst (pc := 46) X dX12_scale_46 rfl (s_iload_n (pc := 47) X dX12_scale_47 rfl (s_iast (pc := 48) X dX12_scale_48 h_121 (s_aload_n (pc := 49) X dX12_scale_49 rfl (s_getR (pc := 50) X dX12_scale_50 g_X12_204 (s_iconst (pc := 53) X dX12_scale_53 rfl (s_iload_n (pc := 54) X dX12_scale_54 rfl (s_iast (pc := 55) X dX12_scale_55 h_121 (s_aload_n (pc := 56) X dX12_scale_56 rfl (s_getR (pc := 57) X dX12_scale_57 g_X12_204 (s_iconst (pc := 60) X dX12_scale_60 rfl (s_iload (pc := 61) X dX12_scale_61 (s_iast (pc := 63) X dX12_scale_63 h_121 (s_aload_n (pc := 64) X dX12_scale_64 rfl (s_iconst (pc := 65) X dX12_scale_65 rfl (s_callV (pc := 66) X dX12_scale_66 (S_X12_is _) q_X12_245 h_64 rfl (hR _ _ (by decide)) (s_zret (pc := 69) X E hr dX12_scale_69)))))))))))))))))))))))) (s_aload_n (pc := 29) X dX12_scale_29 rfl (s_iconst (pc := 30) X dX12_scale_30 rfl (s_callV (pc := 31) X dX12_scale_31 (S_X12_is _) q_X12_245 h_64 rfl (hR _ _ (by decide)) (s_zret (pc := 34) X E hr dX12_scale_34)))))))))))))))), fun _ h => absurd h List.not_mem_nil⟩)
theorem dX12_mouthsOf_0 : decode cX12_mouthsOf 0 = .ok (.iconst 0, 1) := by decide +kernel
theorem dX12_mouthsOf_1 : decode cX12_mouthsOf 1 = .ok (.istore_n 3, 1) := by decide +kernel
theorem dX12_mouthsOf_2 : decode cX12_mouthsOf 2 = .ok (.iconst 0, 1) := by decide +kernel
theorem dX12_mouthsOf_3 : decode cX12_mouthsOf 3 = .ok (.istore 4, 2) := by decide +kernel
theorem dX12_mouthsOf_5 : decode cX12_mouthsOf 5 = .ok (.iload 4, 2) := by decide +kernel
theorem dX12_mouthsOf_7 : decode cX12_mouthsOf 7 = .ok (.aload_n 0, 1) := by decide +kernel
theorem dX12_mouthsOf_8 : decode cX12_mouthsOf 8 = .ok (.getfield 520, 3) := by decide +kernel
theorem dX12_mouthsOf_11 : decode cX12_mouthsOf 11 = .ok (.if_icmp .ge 71, 3) := by decide +kernel
theorem dX12_mouthsOf_14 : decode cX12_mouthsOf 14 = .ok (.aload_n 0, 1) := by decide +kernel
theorem dX12_mouthsOf_15 : decode cX12_mouthsOf 15 = .ok (.getfield 192, 3) := by decide +kernel
theorem dX12_mouthsOf_18 : decode cX12_mouthsOf 18 = .ok (.iload 4, 2) := by decide +kernel
theorem dX12_mouthsOf_20 : decode cX12_mouthsOf 20 = .ok (.iaload, 1) := by decide +kernel
theorem dX12_mouthsOf_21 : decode cX12_mouthsOf 21 = .ok (.iload_n 1, 1) := by decide +kernel
theorem dX12_mouthsOf_22 : decode cX12_mouthsOf 22 = .ok (.if_icmp .ne 54, 3) := by decide +kernel
theorem dX12_mouthsOf_25 : decode cX12_mouthsOf 25 = .ok (.iload_n 2, 1) := by decide +kernel
theorem dX12_mouthsOf_26 : decode cX12_mouthsOf 26 = .ok (.aload_n 0, 1) := by decide +kernel
theorem dX12_mouthsOf_27 : decode cX12_mouthsOf 27 = .ok (.getfield 198, 3) := by decide +kernel
theorem dX12_mouthsOf_30 : decode cX12_mouthsOf 30 = .ok (.iload 4, 2) := by decide +kernel
theorem dX12_mouthsOf_32 : decode cX12_mouthsOf 32 = .ok (.iaload, 1) := by decide +kernel
theorem dX12_mouthsOf_33 : decode cX12_mouthsOf 33 = .ok (.if_icmp .lt 43, 3) := by decide +kernel
theorem dX12_mouthsOf_36 : decode cX12_mouthsOf 36 = .ok (.iload_n 2, 1) := by decide +kernel
theorem dX12_mouthsOf_37 : decode cX12_mouthsOf 37 = .ok (.aload_n 0, 1) := by decide +kernel
theorem dX12_mouthsOf_38 : decode cX12_mouthsOf 38 = .ok (.getfield 201, 3) := by decide +kernel
theorem dX12_mouthsOf_41 : decode cX12_mouthsOf 41 = .ok (.iload 4, 2) := by decide +kernel
theorem dX12_mouthsOf_43 : decode cX12_mouthsOf 43 = .ok (.iaload, 1) := by decide +kernel
theorem dX12_mouthsOf_44 : decode cX12_mouthsOf 44 = .ok (.if_icmp .le 6, 3) := by decide +kernel
theorem dX12_mouthsOf_47 : decode cX12_mouthsOf 47 = .ok (.goto 29, 3) := by decide +kernel
theorem dX12_mouthsOf_50 : decode cX12_mouthsOf 50 = .ok (.iload_n 3, 1) := by decide +kernel
theorem dX12_mouthsOf_51 : decode cX12_mouthsOf 51 = .ok (.aload_n 0, 1) := by decide +kernel
theorem dX12_mouthsOf_52 : decode cX12_mouthsOf 52 = .ok (.getfield 204, 3) := by decide +kernel
theorem dX12_mouthsOf_55 : decode cX12_mouthsOf 55 = .ok (.iconst 3, 1) := by decide +kernel
theorem dX12_mouthsOf_56 : decode cX12_mouthsOf 56 = .ok (.iload_n 2, 1) := by decide +kernel
theorem dX12_mouthsOf_57 : decode cX12_mouthsOf 57 = .ok (.aload_n 0, 1) := by decide +kernel
theorem dX12_mouthsOf_58 : decode cX12_mouthsOf 58 = .ok (.getfield 195, 3) := by decide +kernel
theorem dX12_mouthsOf_61 : decode cX12_mouthsOf 61 = .ok (.iload 4, 2) := by decide +kernel
theorem dX12_mouthsOf_63 : decode cX12_mouthsOf 63 = .ok (.iaload, 1) := by decide +kernel
theorem dX12_mouthsOf_64 : decode cX12_mouthsOf 64 = .ok (.isub, 1) := by decide +kernel
theorem dX12_mouthsOf_65 : decode cX12_mouthsOf 65 = .ok (.bipush 52, 2) := by decide +kernel
theorem dX12_mouthsOf_67 : decode cX12_mouthsOf 67 = .ok (.idiv, 1) := by decide +kernel
theorem dX12_mouthsOf_68 : decode cX12_mouthsOf 68 = .ok (.iconst 5, 1) := by decide +kernel
theorem dX12_mouthsOf_69 : decode cX12_mouthsOf 69 = .ok (.idiv, 1) := by decide +kernel
theorem dX12_mouthsOf_70 : decode cX12_mouthsOf 70 = .ok (.invokestatic 343, 3) := by decide +kernel
theorem dX12_mouthsOf_73 : decode cX12_mouthsOf 73 = .ok (.iaload, 1) := by decide +kernel
theorem dX12_mouthsOf_74 : decode cX12_mouthsOf 74 = .ok (.iadd, 1) := by decide +kernel
theorem dX12_mouthsOf_75 : decode cX12_mouthsOf 75 = .ok (.istore_n 3, 1) := by decide +kernel
theorem dX12_mouthsOf_76 : decode cX12_mouthsOf 76 = .ok (.iinc 4 1, 3) := by decide +kernel
theorem dX12_mouthsOf_79 : decode cX12_mouthsOf 79 = .ok (.goto (-74), 3) := by decide +kernel
theorem dX12_mouthsOf_82 : decode cX12_mouthsOf 82 = .ok (.iload_n 3, 1) := by decide +kernel
theorem dX12_mouthsOf_83 : decode cX12_mouthsOf 83 = .ok (.ireturn, 1) := by decide +kernel
noncomputable def B_X12_mouthsOf_0 : pb_C := (i_const (.int 0) (i_istore 3 (i_const (.int 0) (i_istore 4 (i_jmp 5 [true, true, true, true, true])))))
noncomputable def B_X12_mouthsOf_5 : pb_C := (i_iload 4 (i_aload 0 (i_getI 64 85 (i_ic_ge (i_iload 3 i_iret) (i_aload 0 (i_getR 64 117 (i_iload 4 (i_ald 117 40 (i_iload 1 (i_ic_ne (i_iinc 4 1 (i_jmp 5 [true, true, true, true, true])) (i_iload 2 (i_aload 0 (i_getR 64 119 (i_iload 4 (i_ald 119 40 (i_ic_lt (i_iinc 4 1 (i_jmp 5 [true, true, true, true, true])) (i_iload 2 (i_aload 0 (i_getR 64 120 (i_iload 4 (i_ald 120 40 (i_ic_le (i_iload 3 (i_aload 0 (i_getR 64 121 (i_const (.int 3) (i_iload 2 (i_aload 0 (i_getR 64 118 (i_iload 4 (i_ald 118 40 (i_ibin (· - ·) (i_const (.int 52) (i_idivr (· / ·) (i_const (.int 5) (i_idivr (· / ·) (i_mI2 pb_min (i_ald 121 4 (i_ibin (· + ·) (i_istore 3 (i_iinc 4 1 (i_jmp 5 [true, true, true, true, true])))))))))))))))))))) (i_iinc 4 1 (i_jmp 5 [true, true, true, true, true]))))))))))))))))))))))))
noncomputable def T_X12_mouthsOf : Nat → pb_C := pb_tt [(0, B_X12_mouthsOf_0), (5, B_X12_mouthsOf_5)]
noncomputable def M_X12_mouthsOf : pb_F := pb_M T_X12_mouthsOf 5
set_option maxRecDepth 100000 in
set_option maxHeartbeats 4000000 in
theorem S_X12_mouthsOf (l : Launch) : pb_Sound l yX12_mouthsOf cX12_mouthsOf 5 (some .int) 1 M_X12_mouthsOf := by
  refine pb_sound_of (by decide) m_9_86 ?_
  intro Γ hl0 hRm0 hm X E hr J
  have hnL : ∀ j, j < 5 → j < Γ.2.2.2.2.2.2.2.2.2.2.2.1 := fun j h => by rw [hm]; exact h
  have hR : ∀ (d' mL : Nat), d' + 1 ≤ 1 ∧ 8 + (mL + 11) + d' * 64 ≤ 1 * 64 → (pb_rm d').frames + 1 ≤ Γ.2.2.2.1.frames ∧ 8 + (mL + 11) + (pb_rm d').locals ≤ Γ.2.2.2.1.locals := by rw [hRm0]; exact fun _ _ h => h
  have hRm : 1 ≤ 1 ∧ 64 ≤ 1 * 64 → 1 ≤ Γ.2.2.2.1.frames ∧ 64 ≤ Γ.2.2.2.1.locals := by rw [hRm0]; exact fun h => h
  exact pb_tt_snd _ (List.forall_mem_cons.mpr ⟨(s_iconst (pc := 0) X dX12_mouthsOf_0 rfl (s_istore_n (pc := 1) X dX12_mouthsOf_1 rfl (hnL _ (by decide)) (s_iconst (pc := 2) X dX12_mouthsOf_2 rfl (s_istore (pc := 3) X dX12_mouthsOf_3 (hnL _ (by decide)) (s_jmp (pc := 5) J [true, true, true, true, true]))))), List.forall_mem_cons.mpr ⟨(s_iload (pc := 5) X dX12_mouthsOf_5 (s_aload_n (pc := 7) X dX12_mouthsOf_7 rfl (s_getI (pc := 8) X dX12_mouthsOf_8 g_X12_520 (s_ic_ge (pc := 11) X dX12_mouthsOf_11 (by decide) (s_iload_n (pc := 82) X dX12_mouthsOf_82 rfl (s_iret (pc := 83) X E hr dX12_mouthsOf_83)) (s_aload_n (pc := 14) X dX12_mouthsOf_14 rfl (s_getR (pc := 15) X dX12_mouthsOf_15 g_X12_192 (s_iload (pc := 18) X dX12_mouthsOf_18 (s_iald (pc := 20) X dX12_mouthsOf_20 h_117 (s_iload_n (pc := 21) X dX12_mouthsOf_21 rfl (s_ic_ne (pc := 22) X dX12_mouthsOf_22 (by decide) (s_iinc (pc := 76) X dX12_mouthsOf_76 rfl (s_goto (pc := 79) X dX12_mouthsOf_79 (by decide) (s_jmp (pc := 5) J [true, true, true, true, true]))) (s_iload_n (pc := 25) X dX12_mouthsOf_25 rfl (s_aload_n (pc := 26) X dX12_mouthsOf_26 rfl (s_getR (pc := 27) X dX12_mouthsOf_27 g_X12_198 (s_iload (pc := 30) X dX12_mouthsOf_30 (s_iald (pc := 32) X dX12_mouthsOf_32 h_119 (s_ic_lt (pc := 33) X dX12_mouthsOf_33 (by decide) (s_iinc (pc := 76) X dX12_mouthsOf_76 rfl (s_goto (pc := 79) X dX12_mouthsOf_79 (by decide) (s_jmp (pc := 5) J [true, true, true, true, true]))) (s_iload_n (pc := 36) X dX12_mouthsOf_36 rfl (s_aload_n (pc := 37) X dX12_mouthsOf_37 rfl (s_getR (pc := 38) X dX12_mouthsOf_38 g_X12_201 (s_iload (pc := 41) X dX12_mouthsOf_41 (s_iald (pc := 43) X dX12_mouthsOf_43 h_120 (s_ic_le (pc := 44) X dX12_mouthsOf_44 (by decide) (s_iload_n (pc := 50) X dX12_mouthsOf_50 rfl (s_aload_n (pc := 51) X dX12_mouthsOf_51 rfl (s_getR (pc := 52) X dX12_mouthsOf_52 g_X12_204 (s_iconst (pc := 55) X dX12_mouthsOf_55 rfl (s_iload_n (pc := 56) X dX12_mouthsOf_56 rfl (s_aload_n (pc := 57) X dX12_mouthsOf_57 rfl (s_getR (pc := 58) X dX12_mouthsOf_58 g_X12_195 (s_iload (pc := 61) X dX12_mouthsOf_61 (s_iald (pc := 63) X dX12_mouthsOf_63 h_118 (s_isub (pc := 64) X dX12_mouthsOf_64 (s_bipush (pc := 65) X dX12_mouthsOf_65 rfl (s_idiv (pc := 67) X dX12_mouthsOf_67 (s_iconst (pc := 68) X dX12_mouthsOf_68 rfl (s_idiv (pc := 69) X dX12_mouthsOf_69 (s_mmin (pc := 70) X dX12_mouthsOf_70 m_8_111 mm_mmin (hRm (by decide)) (s_iald (pc := 73) X dX12_mouthsOf_73 h_121 (s_iadd (pc := 74) X dX12_mouthsOf_74 (s_istore_n (pc := 75) X dX12_mouthsOf_75 rfl (hnL _ (by decide)) (s_iinc (pc := 76) X dX12_mouthsOf_76 rfl (s_goto (pc := 79) X dX12_mouthsOf_79 (by decide) (s_jmp (pc := 5) J [true, true, true, true, true]))))))))))))))))))))) (s_goto (pc := 47) X dX12_mouthsOf_47 (by decide) (s_iinc (pc := 76) X dX12_mouthsOf_76 rfl (s_goto (pc := 79) X dX12_mouthsOf_79 (by decide) (s_jmp (pc := 5) J [true, true, true, true, true])))))))))))))))))))))))))), fun _ h => absurd h List.not_mem_nil⟩⟩)
theorem dX12_mouths_0 : decode cX12_mouths 0 = .ok (.aload_n 0, 1) := by decide +kernel
theorem dX12_mouths_1 : decode cX12_mouths 1 = .ok (.iload_n 1, 1) := by decide +kernel
theorem dX12_mouths_2 : decode cX12_mouths 2 = .ok (.invokevirtual 284, 3) := by decide +kernel
theorem dX12_mouths_5 : decode cX12_mouths 5 = .ok (.ifCond .eq 23, 3) := by decide +kernel
theorem dX12_mouths_8 : decode cX12_mouths 8 = .ok (.iload_n 2, 1) := by decide +kernel
theorem dX12_mouths_9 : decode cX12_mouths 9 = .ok (.invokestatic 287, 3) := by decide +kernel
theorem dX12_mouths_12 : decode cX12_mouths 12 = .ok (.ifCond .eq 16, 3) := by decide +kernel
theorem dX12_mouths_15 : decode cX12_mouths 15 = .ok (.aload_n 0, 1) := by decide +kernel
theorem dX12_mouths_16 : decode cX12_mouths 16 = .ok (.aload_n 0, 1) := by decide +kernel
theorem dX12_mouths_17 : decode cX12_mouths 17 = .ok (.iload_n 1, 1) := by decide +kernel
theorem dX12_mouths_18 : decode cX12_mouths 18 = .ok (.iload_n 2, 1) := by decide +kernel
theorem dX12_mouths_19 : decode cX12_mouths 19 = .ok (.invokevirtual 526, 3) := by decide +kernel
theorem dX12_mouths_22 : decode cX12_mouths 22 = .ok (.invokevirtual 237, 3) := by decide +kernel
theorem dX12_mouths_25 : decode cX12_mouths 25 = .ok (.goto 8, 3) := by decide +kernel
theorem dX12_mouths_28 : decode cX12_mouths 28 = .ok (.aload_n 0, 1) := by decide +kernel
theorem dX12_mouths_29 : decode cX12_mouths 29 = .ok (.iconst 1, 1) := by decide +kernel
theorem dX12_mouths_30 : decode cX12_mouths 30 = .ok (.invokevirtual 267, 3) := by decide +kernel
theorem dX12_mouths_33 : decode cX12_mouths 33 = .ok (.ireturn, 1) := by decide +kernel
noncomputable def B_X12_mouths_0 : pb_C := (i_aload 0 (i_iload 1 (i_callV 64 1 1 M_X12_isFamily (i_if_eq (i_aload 0 (i_const (.int 1) (i_callV 64 1 1 M_X12_refuse i_iret))) (i_iload 2 (i_callS 1 1 M_X12_isWeek (i_if_eq (i_aload 0 (i_const (.int 1) (i_callV 64 1 1 M_X12_refuse i_iret))) (i_aload 0 (i_aload 0 (i_iload 1 (i_iload 2 (i_callV 64 2 1 M_X12_mouthsOf (i_callV 64 1 1 M_X12_gives i_iret)))))))))))))
noncomputable def T_X12_mouths : Nat → pb_C := pb_tt [(0, B_X12_mouths_0)]
noncomputable def M_X12_mouths : pb_F := pb_M T_X12_mouths 3
set_option maxRecDepth 100000 in
set_option maxHeartbeats 4000000 in
theorem S_X12_mouths (l : Launch) : pb_Sound l yX12_mouths cX12_mouths 3 (some .int) 2 M_X12_mouths := by
  refine pb_sound_of (by decide) m_9_82 ?_
  intro Γ hl0 hRm0 hm X E hr J
  have hnL : ∀ j, j < 3 → j < Γ.2.2.2.2.2.2.2.2.2.2.2.1 := fun j h => by rw [hm]; exact h
  have hR : ∀ (d' mL : Nat), d' + 1 ≤ 2 ∧ 8 + (mL + 11) + d' * 64 ≤ 2 * 64 → (pb_rm d').frames + 1 ≤ Γ.2.2.2.1.frames ∧ 8 + (mL + 11) + (pb_rm d').locals ≤ Γ.2.2.2.1.locals := by rw [hRm0]; exact fun _ _ h => h
  have hRm : 1 ≤ 2 ∧ 64 ≤ 2 * 64 → 1 ≤ Γ.2.2.2.1.frames ∧ 64 ≤ Γ.2.2.2.1.locals := by rw [hRm0]; exact fun h => h
  exact pb_tt_snd _ (List.forall_mem_cons.mpr ⟨(s_aload_n (pc := 0) X dX12_mouths_0 rfl (s_iload_n (pc := 1) X dX12_mouths_1 rfl (s_callV (pc := 2) X dX12_mouths_2 (S_X12_isFamily _) q_X12_284 h_64 rfl (hR _ _ (by decide)) (s_if_eq (pc := 5) X dX12_mouths_5 (by decide) (s_aload_n (pc := 28) X dX12_mouths_28 rfl (s_iconst (pc := 29) X dX12_mouths_29 rfl (s_callV (pc := 30) X dX12_mouths_30 (S_X12_refuse _) q_X12_267 h_64 rfl (hR _ _ (by decide)) (s_iret (pc := 33) X E hr dX12_mouths_33)))) (s_iload_n (pc := 8) X dX12_mouths_8 rfl (s_callS (pc := 9) X dX12_mouths_9 (S_X12_isWeek _) q_X12_287 (hR _ _ (by decide)) (s_if_eq (pc := 12) X dX12_mouths_12 (by decide) (s_aload_n (pc := 28) X dX12_mouths_28 rfl (s_iconst (pc := 29) X dX12_mouths_29 rfl (s_callV (pc := 30) X dX12_mouths_30 (S_X12_refuse _) q_X12_267 h_64 rfl (hR _ _ (by decide)) (s_iret (pc := 33) X E hr dX12_mouths_33)))) (s_aload_n (pc := 15) X dX12_mouths_15 rfl (s_aload_n (pc := 16) X dX12_mouths_16 rfl (s_iload_n (pc := 17) X dX12_mouths_17 rfl (s_iload_n (pc := 18) X dX12_mouths_18 rfl (s_callV (pc := 19) X dX12_mouths_19 (S_X12_mouthsOf _) q_X12_526 h_64 rfl (hR _ _ (by decide)) (s_callV (pc := 22) X dX12_mouths_22 (S_X12_gives _) q_X12_237 h_64 rfl (hR _ _ (by decide)) (s_goto (pc := 25) X dX12_mouths_25 (by decide) (s_iret (pc := 33) X E hr dX12_mouths_33))))))))))))))), fun _ h => absurd h List.not_mem_nil⟩)
theorem dX12_fraction_0 : decode cX12_fraction 0 = .ok (.lload_n 1, 1) := by decide +kernel
theorem dX12_fraction_1 : decode cX12_fraction 1 = .ok (.lconst 0, 1) := by decide +kernel
theorem dX12_fraction_2 : decode cX12_fraction 2 = .ok (.lcmp, 1) := by decide +kernel
theorem dX12_fraction_3 : decode cX12_fraction 3 = .ok (.ifCond .ge 8, 3) := by decide +kernel
theorem dX12_fraction_6 : decode cX12_fraction 6 = .ok (.lload_n 1, 1) := by decide +kernel
theorem dX12_fraction_7 : decode cX12_fraction 7 = .ok (.lneg, 1) := by decide +kernel
theorem dX12_fraction_8 : decode cX12_fraction 8 = .ok (.goto 4, 3) := by decide +kernel
theorem dX12_fraction_11 : decode cX12_fraction 11 = .ok (.lload_n 1, 1) := by decide +kernel
theorem dX12_fraction_12 : decode cX12_fraction 12 = .ok (.lstore 5, 2) := by decide +kernel
theorem dX12_fraction_14 : decode cX12_fraction 14 = .ok (.lload_n 3, 1) := by decide +kernel
theorem dX12_fraction_15 : decode cX12_fraction 15 = .ok (.lstore 7, 2) := by decide +kernel
theorem dX12_fraction_17 : decode cX12_fraction 17 = .ok (.lload 7, 2) := by decide +kernel
theorem dX12_fraction_19 : decode cX12_fraction 19 = .ok (.lconst 0, 1) := by decide +kernel
theorem dX12_fraction_20 : decode cX12_fraction 20 = .ok (.lcmp, 1) := by decide +kernel
theorem dX12_fraction_21 : decode cX12_fraction 21 = .ok (.ifCond .eq 21, 3) := by decide +kernel
theorem dX12_fraction_24 : decode cX12_fraction 24 = .ok (.lload 5, 2) := by decide +kernel
theorem dX12_fraction_26 : decode cX12_fraction 26 = .ok (.lload 7, 2) := by decide +kernel
theorem dX12_fraction_28 : decode cX12_fraction 28 = .ok (.lrem, 1) := by decide +kernel
theorem dX12_fraction_29 : decode cX12_fraction 29 = .ok (.lstore 9, 2) := by decide +kernel
theorem dX12_fraction_31 : decode cX12_fraction 31 = .ok (.lload 7, 2) := by decide +kernel
theorem dX12_fraction_33 : decode cX12_fraction 33 = .ok (.lstore 5, 2) := by decide +kernel
theorem dX12_fraction_35 : decode cX12_fraction 35 = .ok (.lload 9, 2) := by decide +kernel
theorem dX12_fraction_37 : decode cX12_fraction 37 = .ok (.lstore 7, 2) := by decide +kernel
theorem dX12_fraction_39 : decode cX12_fraction 39 = .ok (.goto (-22), 3) := by decide +kernel
theorem dX12_fraction_42 : decode cX12_fraction 42 = .ok (.aload_n 0, 1) := by decide +kernel
theorem dX12_fraction_43 : decode cX12_fraction 43 = .ok (.lload_n 1, 1) := by decide +kernel
theorem dX12_fraction_44 : decode cX12_fraction 44 = .ok (.lload 5, 2) := by decide +kernel
theorem dX12_fraction_46 : decode cX12_fraction 46 = .ok (.ldiv, 1) := by decide +kernel
theorem dX12_fraction_47 : decode cX12_fraction 47 = .ok (.putfield 234, 3) := by decide +kernel
theorem dX12_fraction_50 : decode cX12_fraction 50 = .ok (.aload_n 0, 1) := by decide +kernel
theorem dX12_fraction_51 : decode cX12_fraction 51 = .ok (.lload_n 3, 1) := by decide +kernel
theorem dX12_fraction_52 : decode cX12_fraction 52 = .ok (.lload 5, 2) := by decide +kernel
theorem dX12_fraction_54 : decode cX12_fraction 54 = .ok (.ldiv, 1) := by decide +kernel
theorem dX12_fraction_55 : decode cX12_fraction 55 = .ok (.putfield 7, 3) := by decide +kernel
theorem dX12_fraction_58 : decode cX12_fraction 58 = .ok (.aload_n 0, 1) := by decide +kernel
theorem dX12_fraction_59 : decode cX12_fraction 59 = .ok (.lload_n 1, 1) := by decide +kernel
theorem dX12_fraction_60 : decode cX12_fraction 60 = .ok (.lconst 0, 1) := by decide +kernel
theorem dX12_fraction_61 : decode cX12_fraction 61 = .ok (.lcmp, 1) := by decide +kernel
theorem dX12_fraction_62 : decode cX12_fraction 62 = .ok (.ifCond .le 7, 3) := by decide +kernel
theorem dX12_fraction_65 : decode cX12_fraction 65 = .ok (.iconst 1, 1) := by decide +kernel
theorem dX12_fraction_66 : decode cX12_fraction 66 = .ok (.goto 14, 3) := by decide +kernel
theorem dX12_fraction_69 : decode cX12_fraction 69 = .ok (.lload_n 1, 1) := by decide +kernel
theorem dX12_fraction_70 : decode cX12_fraction 70 = .ok (.lconst 0, 1) := by decide +kernel
theorem dX12_fraction_71 : decode cX12_fraction 71 = .ok (.lcmp, 1) := by decide +kernel
theorem dX12_fraction_72 : decode cX12_fraction 72 = .ok (.ifCond .ge 7, 3) := by decide +kernel
theorem dX12_fraction_75 : decode cX12_fraction 75 = .ok (.iconst (-1), 1) := by decide +kernel
theorem dX12_fraction_76 : decode cX12_fraction 76 = .ok (.goto 4, 3) := by decide +kernel
theorem dX12_fraction_79 : decode cX12_fraction 79 = .ok (.iconst 0, 1) := by decide +kernel
theorem dX12_fraction_80 : decode cX12_fraction 80 = .ok (.invokevirtual 237, 3) := by decide +kernel
theorem dX12_fraction_83 : decode cX12_fraction 83 = .ok (.ireturn, 1) := by decide +kernel
noncomputable def B_X12_fraction_0 : pb_C := (i_lload 1 (i_const (.long 0) (i_lcmp (i_if_ge (i_lload 1 (i_lstore 5 (i_lload 3 (i_lstore 7 (i_jmp 17 [true, true, false, true, false, true, false, true, false, false, false]))))) (i_lload 1 (i_lun (fun x => -x) (i_lstore 5 (i_lload 3 (i_lstore 7 (i_jmp 17 [true, true, false, true, false, true, false, true, false, false, false]))))))))))
noncomputable def B_X12_fraction_17 : pb_C := (i_lload 7 (i_const (.long 0) (i_lcmp (i_if_eq (i_aload 0 (i_lload 1 (i_lload 5 (i_ldivr (· / ·) (i_putL 64 1 (i_aload 0 (i_lload 3 (i_lload 5 (i_ldivr (· / ·) (i_putL 64 2 (i_aload 0 (i_lload 1 (i_const (.long 0) (i_lcmp (i_if_le (i_lload 1 (i_const (.long 0) (i_lcmp (i_if_ge (i_const (.int 0) (i_callV 64 1 1 M_X12_gives i_iret)) (i_const (.int (-1)) (i_callV 64 1 1 M_X12_gives i_iret)))))) (i_const (.int 1) (i_callV 64 1 1 M_X12_gives i_iret))))))))))))))))) (i_lload 5 (i_lload 7 (i_ldivr (fun x y => x - x / y * y) (i_lstore 9 (i_lload 7 (i_lstore 5 (i_lload 9 (i_lstore 7 (i_jmp 17 [true, true, false, true, false, true, false, true, false, false, false])))))))))))))
noncomputable def T_X12_fraction : Nat → pb_C := pb_tt [(0, B_X12_fraction_0), (17, B_X12_fraction_17)]
noncomputable def M_X12_fraction : pb_F := pb_M T_X12_fraction 11
set_option maxRecDepth 100000 in
set_option maxHeartbeats 4000000 in
theorem S_X12_fraction (l : Launch) : pb_Sound l yX12_fraction cX12_fraction 11 (some .int) 2 M_X12_fraction := by
  refine pb_sound_of (by decide) m_9_95 ?_
  intro Γ hl0 hRm0 hm X E hr J
  have hnL : ∀ j, j < 11 → j < Γ.2.2.2.2.2.2.2.2.2.2.2.1 := fun j h => by rw [hm]; exact h
  have hR : ∀ (d' mL : Nat), d' + 1 ≤ 2 ∧ 8 + (mL + 11) + d' * 64 ≤ 2 * 64 → (pb_rm d').frames + 1 ≤ Γ.2.2.2.1.frames ∧ 8 + (mL + 11) + (pb_rm d').locals ≤ Γ.2.2.2.1.locals := by rw [hRm0]; exact fun _ _ h => h
  have hRm : 1 ≤ 2 ∧ 64 ≤ 2 * 64 → 1 ≤ Γ.2.2.2.1.frames ∧ 64 ≤ Γ.2.2.2.1.locals := by rw [hRm0]; exact fun h => h
  exact pb_tt_snd _ (List.forall_mem_cons.mpr ⟨(s_lload_n (pc := 0) X dX12_fraction_0 rfl (s_lconst (pc := 1) X dX12_fraction_1 rfl (s_lcmp (pc := 2) X dX12_fraction_2 (s_if_ge (pc := 3) X dX12_fraction_3 (by decide) (s_lload_n (pc := 11) X dX12_fraction_11 rfl (s_lstore (pc := 12) X dX12_fraction_12 (hnL _ (by decide)) (s_lload_n (pc := 14) X dX12_fraction_14 rfl (s_lstore (pc := 15) X dX12_fraction_15 (hnL _ (by decide)) (s_jmp (pc := 17) J [true, true, false, true, false, true, false, true, false, false, false]))))) (s_lload_n (pc := 6) X dX12_fraction_6 rfl (s_lneg (pc := 7) X dX12_fraction_7 (s_goto (pc := 8) X dX12_fraction_8 (by decide) (s_lstore (pc := 12) X dX12_fraction_12 (hnL _ (by decide)) (s_lload_n (pc := 14) X dX12_fraction_14 rfl (s_lstore (pc := 15) X dX12_fraction_15 (hnL _ (by decide)) (s_jmp (pc := 17) J [true, true, false, true, false, true, false, true, false, false, false]))))))))))), List.forall_mem_cons.mpr ⟨(s_lload (pc := 17) X dX12_fraction_17 (s_lconst (pc := 19) X dX12_fraction_19 rfl (s_lcmp (pc := 20) X dX12_fraction_20 (s_if_eq (pc := 21) X dX12_fraction_21 (by decide) (s_aload_n (pc := 42) X dX12_fraction_42 rfl (s_lload_n (pc := 43) X dX12_fraction_43 rfl (s_lload (pc := 44) X dX12_fraction_44 (s_ldiv (pc := 46) X dX12_fraction_46 (s_putL (pc := 47) X dX12_fraction_47 p_X12_234 (s_aload_n (pc := 50) X dX12_fraction_50 rfl (s_lload_n (pc := 51) X dX12_fraction_51 rfl (s_lload (pc := 52) X dX12_fraction_52 (s_ldiv (pc := 54) X dX12_fraction_54 (s_putL (pc := 55) X dX12_fraction_55 p_X12_7 (s_aload_n (pc := 58) X dX12_fraction_58 rfl (s_lload_n (pc := 59) X dX12_fraction_59 rfl (s_lconst (pc := 60) X dX12_fraction_60 rfl (s_lcmp (pc := 61) X dX12_fraction_61 (s_if_le (pc := 62) X dX12_fraction_62 (by decide) (s_lload_n (pc := 69) X dX12_fraction_69 rfl (s_lconst (pc := 70) X dX12_fraction_70 rfl (s_lcmp (pc := 71) X dX12_fraction_71 (s_if_ge (pc := 72) X dX12_fraction_72 (by decide) (s_iconst (pc := 79) X dX12_fraction_79 rfl (s_callV (pc := 80) X dX12_fraction_80 (S_X12_gives _) q_X12_237 h_64 rfl (hR _ _ (by decide)) (s_iret (pc := 83) X E hr dX12_fraction_83))) (s_iconst (pc := 75) X dX12_fraction_75 rfl (s_goto (pc := 76) X dX12_fraction_76 (by decide) (s_callV (pc := 80) X dX12_fraction_80 (S_X12_gives _) q_X12_237 h_64 rfl (hR _ _ (by decide)) (s_iret (pc := 83) X E hr dX12_fraction_83)))))))) (s_iconst (pc := 65) X dX12_fraction_65 rfl (s_goto (pc := 66) X dX12_fraction_66 (by decide) (s_callV (pc := 80) X dX12_fraction_80 (S_X12_gives _) q_X12_237 h_64 rfl (hR _ _ (by decide)) (s_iret (pc := 83) X E hr dX12_fraction_83))))))))))))))))))) (s_lload (pc := 24) X dX12_fraction_24 (s_lload (pc := 26) X dX12_fraction_26 (s_lrem (pc := 28) X dX12_fraction_28 (s_lstore (pc := 29) X dX12_fraction_29 (hnL _ (by decide)) (s_lload (pc := 31) X dX12_fraction_31 (s_lstore (pc := 33) X dX12_fraction_33 (hnL _ (by decide)) (s_lload (pc := 35) X dX12_fraction_35 (s_lstore (pc := 37) X dX12_fraction_37 (hnL _ (by decide)) (s_goto (pc := 39) X dX12_fraction_39 (by decide) (s_jmp (pc := 17) J [true, true, false, true, false, true, false, true, false, false, false])))))))))))))), fun _ h => absurd h List.not_mem_nil⟩⟩)
theorem dX12_share_0 : decode cX12_share 0 = .ok (.aload_n 0, 1) := by decide +kernel
theorem dX12_share_1 : decode cX12_share 1 = .ok (.iload_n 1, 1) := by decide +kernel
theorem dX12_share_2 : decode cX12_share 2 = .ok (.invokevirtual 284, 3) := by decide +kernel
theorem dX12_share_5 : decode cX12_share 5 = .ok (.ifCond .eq 26, 3) := by decide +kernel
theorem dX12_share_8 : decode cX12_share 8 = .ok (.iload_n 2, 1) := by decide +kernel
theorem dX12_share_9 : decode cX12_share 9 = .ok (.invokestatic 287, 3) := by decide +kernel
theorem dX12_share_12 : decode cX12_share 12 = .ok (.ifCond .eq 19, 3) := by decide +kernel
theorem dX12_share_15 : decode cX12_share 15 = .ok (.iload_n 3, 1) := by decide +kernel
theorem dX12_share_16 : decode cX12_share 16 = .ok (.invokestatic 460, 3) := by decide +kernel
theorem dX12_share_19 : decode cX12_share 19 = .ok (.ifCond .eq 12, 3) := by decide +kernel
theorem dX12_share_22 : decode cX12_share 22 = .ok (.aload_n 0, 1) := by decide +kernel
theorem dX12_share_23 : decode cX12_share 23 = .ok (.iload 4, 2) := by decide +kernel
theorem dX12_share_25 : decode cX12_share 25 = .ok (.invokevirtual 451, 3) := by decide +kernel
theorem dX12_share_28 : decode cX12_share 28 = .ok (.ifCond .ne 9, 3) := by decide +kernel
theorem dX12_share_31 : decode cX12_share 31 = .ok (.aload_n 0, 1) := by decide +kernel
theorem dX12_share_32 : decode cX12_share 32 = .ok (.iconst 1, 1) := by decide +kernel
theorem dX12_share_33 : decode cX12_share 33 = .ok (.invokevirtual 267, 3) := by decide +kernel
theorem dX12_share_36 : decode cX12_share 36 = .ok (.ireturn, 1) := by decide +kernel
theorem dX12_share_37 : decode cX12_share 37 = .ok (.aload_n 0, 1) := by decide +kernel
theorem dX12_share_38 : decode cX12_share 38 = .ok (.iload_n 1, 1) := by decide +kernel
theorem dX12_share_39 : decode cX12_share 39 = .ok (.iload_n 2, 1) := by decide +kernel
theorem dX12_share_40 : decode cX12_share 40 = .ok (.invokevirtual 526, 3) := by decide +kernel
theorem dX12_share_43 : decode cX12_share 43 = .ok (.istore 5, 2) := by decide +kernel
theorem dX12_share_45 : decode cX12_share 45 = .ok (.iload 5, 2) := by decide +kernel
theorem dX12_share_47 : decode cX12_share 47 = .ok (.ifCond .ne 12, 3) := by decide +kernel
theorem dX12_share_50 : decode cX12_share 50 = .ok (.aload_n 0, 1) := by decide +kernel
theorem dX12_share_51 : decode cX12_share 51 = .ok (.bipush 6, 2) := by decide +kernel
theorem dX12_share_53 : decode cX12_share 53 = .ok (.invokevirtual 267, 3) := by decide +kernel
theorem dX12_share_56 : decode cX12_share 56 = .ok (.goto 24, 3) := by decide +kernel
theorem dX12_share_59 : decode cX12_share 59 = .ok (.aload_n 0, 1) := by decide +kernel
theorem dX12_share_60 : decode cX12_share 60 = .ok (.ldc2_w 529, 3) := by decide +kernel
theorem dX12_share_63 : decode cX12_share 63 = .ok (.aload_n 0, 1) := by decide +kernel
theorem dX12_share_64 : decode cX12_share 64 = .ok (.iload_n 1, 1) := by decide +kernel
theorem dX12_share_65 : decode cX12_share 65 = .ok (.iload_n 2, 1) := by decide +kernel
theorem dX12_share_66 : decode cX12_share 66 = .ok (.iload_n 3, 1) := by decide +kernel
theorem dX12_share_67 : decode cX12_share 67 = .ok (.iload 4, 2) := by decide +kernel
theorem dX12_share_69 : decode cX12_share 69 = .ok (.invokevirtual 463, 3) := by decide +kernel
theorem dX12_share_72 : decode cX12_share 72 = .ok (.i2l, 1) := by decide +kernel
theorem dX12_share_73 : decode cX12_share 73 = .ok (.lmul, 1) := by decide +kernel
theorem dX12_share_74 : decode cX12_share 74 = .ok (.iload 5, 2) := by decide +kernel
theorem dX12_share_76 : decode cX12_share 76 = .ok (.i2l, 1) := by decide +kernel
theorem dX12_share_77 : decode cX12_share 77 = .ok (.invokevirtual 531, 3) := by decide +kernel
theorem dX12_share_80 : decode cX12_share 80 = .ok (.ireturn, 1) := by decide +kernel
noncomputable def B_X12_share_0 : pb_C := (i_aload 0 (i_iload 1 (i_callV 64 1 1 M_X12_isFamily (i_if_eq (i_aload 0 (i_const (.int 1) (i_callV 64 1 1 M_X12_refuse i_iret))) (i_iload 2 (i_callS 1 1 M_X12_isWeek (i_if_eq (i_aload 0 (i_const (.int 1) (i_callV 64 1 1 M_X12_refuse i_iret))) (i_iload 3 (i_callS 1 1 M_X12_isKind (i_if_eq (i_aload 0 (i_const (.int 1) (i_callV 64 1 1 M_X12_refuse i_iret))) (i_aload 0 (i_iload 4 (i_callV 64 1 1 M_X12_isEdition (i_if_ne (i_aload 0 (i_iload 1 (i_iload 2 (i_callV 64 2 1 M_X12_mouthsOf (i_istore 5 (i_iload 5 (i_if_ne (i_aload 0 (i_const (.long (100)) (i_aload 0 (i_iload 1 (i_iload 2 (i_iload 3 (i_iload 4 (i_callV 64 4 1 M_X12_spentOf (i_i2l (i_lbin (· * ·) (i_iload 5 (i_i2l (i_callV 64 2 1 M_X12_fraction i_iret))))))))))))) (i_aload 0 (i_const (.int 6) (i_callV 64 1 1 M_X12_refuse i_iret)))))))))) (i_aload 0 (i_const (.int 1) (i_callV 64 1 1 M_X12_refuse i_iret)))))))))))))))))
noncomputable def T_X12_share : Nat → pb_C := pb_tt [(0, B_X12_share_0)]
noncomputable def M_X12_share : pb_F := pb_M T_X12_share 6
set_option maxRecDepth 100000 in
set_option maxHeartbeats 4000000 in
theorem S_X12_share (l : Launch) : pb_Sound l yX12_share cX12_share 6 (some .int) 7 M_X12_share := by
  refine pb_sound_of (by decide) m_9_90 ?_
  intro Γ hl0 hRm0 hm X E hr J
  have hnL : ∀ j, j < 6 → j < Γ.2.2.2.2.2.2.2.2.2.2.2.1 := fun j h => by rw [hm]; exact h
  have hR : ∀ (d' mL : Nat), d' + 1 ≤ 7 ∧ 8 + (mL + 11) + d' * 64 ≤ 7 * 64 → (pb_rm d').frames + 1 ≤ Γ.2.2.2.1.frames ∧ 8 + (mL + 11) + (pb_rm d').locals ≤ Γ.2.2.2.1.locals := by rw [hRm0]; exact fun _ _ h => h
  have hRm : 1 ≤ 7 ∧ 64 ≤ 7 * 64 → 1 ≤ Γ.2.2.2.1.frames ∧ 64 ≤ Γ.2.2.2.1.locals := by rw [hRm0]; exact fun h => h
  exact pb_tt_snd _ (List.forall_mem_cons.mpr ⟨(s_aload_n (pc := 0) X dX12_share_0 rfl (s_iload_n (pc := 1) X dX12_share_1 rfl (s_callV (pc := 2) X dX12_share_2 (S_X12_isFamily _) q_X12_284 h_64 rfl (hR _ _ (by decide)) (s_if_eq (pc := 5) X dX12_share_5 (by decide) (s_aload_n (pc := 31) X dX12_share_31 rfl (s_iconst (pc := 32) X dX12_share_32 rfl (s_callV (pc := 33) X dX12_share_33 (S_X12_refuse _) q_X12_267 h_64 rfl (hR _ _ (by decide)) (s_iret (pc := 36) X E hr dX12_share_36)))) (s_iload_n (pc := 8) X dX12_share_8 rfl (s_callS (pc := 9) X dX12_share_9 (S_X12_isWeek _) q_X12_287 (hR _ _ (by decide)) (s_if_eq (pc := 12) X dX12_share_12 (by decide) (s_aload_n (pc := 31) X dX12_share_31 rfl (s_iconst (pc := 32) X dX12_share_32 rfl (s_callV (pc := 33) X dX12_share_33 (S_X12_refuse _) q_X12_267 h_64 rfl (hR _ _ (by decide)) (s_iret (pc := 36) X E hr dX12_share_36)))) (s_iload_n (pc := 15) X dX12_share_15 rfl (s_callS (pc := 16) X dX12_share_16 (S_X12_isKind _) q_X12_460 (hR _ _ (by decide)) (s_if_eq (pc := 19) X dX12_share_19 (by decide) (s_aload_n (pc := 31) X dX12_share_31 rfl (s_iconst (pc := 32) X dX12_share_32 rfl (s_callV (pc := 33) X dX12_share_33 (S_X12_refuse _) q_X12_267 h_64 rfl (hR _ _ (by decide)) (s_iret (pc := 36) X E hr dX12_share_36)))) (s_aload_n (pc := 22) X dX12_share_22 rfl (s_iload (pc := 23) X dX12_share_23 (s_callV (pc := 25) X dX12_share_25 (S_X12_isEdition _) q_X12_451 h_64 rfl (hR _ _ (by decide)) (s_if_ne (pc := 28) X dX12_share_28 (by decide) (s_aload_n (pc := 37) X dX12_share_37 rfl (s_iload_n (pc := 38) X dX12_share_38 rfl (s_iload_n (pc := 39) X dX12_share_39 rfl (s_callV (pc := 40) X dX12_share_40 (S_X12_mouthsOf _) q_X12_526 h_64 rfl (hR _ _ (by decide)) (s_istore (pc := 43) X dX12_share_43 (hnL _ (by decide)) (s_iload (pc := 45) X dX12_share_45 (s_if_ne (pc := 47) X dX12_share_47 (by decide) (s_aload_n (pc := 59) X dX12_share_59 rfl (s_ldc2 (pc := 60) X dX12_share_60 m_9_91 (s_aload_n (pc := 63) X dX12_share_63 rfl (s_iload_n (pc := 64) X dX12_share_64 rfl (s_iload_n (pc := 65) X dX12_share_65 rfl (s_iload_n (pc := 66) X dX12_share_66 rfl (s_iload (pc := 67) X dX12_share_67 (s_callV (pc := 69) X dX12_share_69 (S_X12_spentOf _) q_X12_463 h_64 rfl (hR _ _ (by decide)) (s_i2l (pc := 72) X dX12_share_72 (s_lmul (pc := 73) X dX12_share_73 (s_iload (pc := 74) X dX12_share_74 (s_i2l (pc := 76) X dX12_share_76 (s_callV (pc := 77) X dX12_share_77 (S_X12_fraction _) q_X12_531 h_64 rfl (hR _ _ (by decide)) (s_iret (pc := 80) X E hr dX12_share_80)))))))))))))) (s_aload_n (pc := 50) X dX12_share_50 rfl (s_bipush (pc := 51) X dX12_share_51 rfl (s_callV (pc := 53) X dX12_share_53 (S_X12_refuse _) q_X12_267 h_64 rfl (hR _ _ (by decide)) (s_goto (pc := 56) X dX12_share_56 (by decide) (s_iret (pc := 80) X E hr dX12_share_80)))))))))))) (s_aload_n (pc := 31) X dX12_share_31 rfl (s_iconst (pc := 32) X dX12_share_32 rfl (s_callV (pc := 33) X dX12_share_33 (S_X12_refuse _) q_X12_267 h_64 rfl (hR _ _ (by decide)) (s_iret (pc := 36) X E hr dX12_share_36)))))))))))))))))), fun _ h => absurd h List.not_mem_nil⟩)
theorem dX12_price_0 : decode cX12_price 0 = .ok (.iload_n 1, 1) := by decide +kernel
theorem dX12_price_1 : decode cX12_price 1 = .ok (.ifCond .lt 38, 3) := by decide +kernel
theorem dX12_price_4 : decode cX12_price 4 = .ok (.iload_n 1, 1) := by decide +kernel
theorem dX12_price_5 : decode cX12_price 5 = .ok (.bipush 16, 2) := by decide +kernel
theorem dX12_price_7 : decode cX12_price 7 = .ok (.if_icmp .ge 32, 3) := by decide +kernel
theorem dX12_price_10 : decode cX12_price 10 = .ok (.iload_n 2, 1) := by decide +kernel
theorem dX12_price_11 : decode cX12_price 11 = .ok (.ifCond .lt 28, 3) := by decide +kernel
theorem dX12_price_14 : decode cX12_price 14 = .ok (.iload_n 2, 1) := by decide +kernel
theorem dX12_price_15 : decode cX12_price 15 = .ok (.bipush 9, 2) := by decide +kernel
theorem dX12_price_17 : decode cX12_price 17 = .ok (.if_icmp .gt 22, 3) := by decide +kernel
theorem dX12_price_20 : decode cX12_price 20 = .ok (.aload_n 0, 1) := by decide +kernel
theorem dX12_price_21 : decode cX12_price 21 = .ok (.iload_n 3, 1) := by decide +kernel
theorem dX12_price_22 : decode cX12_price 22 = .ok (.invokevirtual 451, 3) := by decide +kernel
theorem dX12_price_25 : decode cX12_price 25 = .ok (.ifCond .eq 14, 3) := by decide +kernel
theorem dX12_price_28 : decode cX12_price 28 = .ok (.iload 4, 2) := by decide +kernel
theorem dX12_price_30 : decode cX12_price 30 = .ok (.ifCond .lt 9, 3) := by decide +kernel
theorem dX12_price_33 : decode cX12_price 33 = .ok (.iload 4, 2) := by decide +kernel
theorem dX12_price_35 : decode cX12_price 35 = .ok (.iconst 2, 1) := by decide +kernel
theorem dX12_price_36 : decode cX12_price 36 = .ok (.if_icmp .le 9, 3) := by decide +kernel
theorem dX12_price_39 : decode cX12_price 39 = .ok (.aload_n 0, 1) := by decide +kernel
theorem dX12_price_40 : decode cX12_price 40 = .ok (.iconst 1, 1) := by decide +kernel
theorem dX12_price_41 : decode cX12_price 41 = .ok (.invokevirtual 267, 3) := by decide +kernel
theorem dX12_price_44 : decode cX12_price 44 = .ok (.ireturn, 1) := by decide +kernel
theorem dX12_price_45 : decode cX12_price 45 = .ok (.iconst 0, 1) := by decide +kernel
theorem dX12_price_46 : decode cX12_price 46 = .ok (.istore 5, 2) := by decide +kernel
theorem dX12_price_48 : decode cX12_price 48 = .ok (.iconst 0, 1) := by decide +kernel
theorem dX12_price_49 : decode cX12_price 49 = .ok (.istore 6, 2) := by decide +kernel
theorem dX12_price_51 : decode cX12_price 51 = .ok (.iconst 0, 1) := by decide +kernel
theorem dX12_price_52 : decode cX12_price 52 = .ok (.istore 7, 2) := by decide +kernel
theorem dX12_price_54 : decode cX12_price 54 = .ok (.iload 7, 2) := by decide +kernel
theorem dX12_price_56 : decode cX12_price 56 = .ok (.aload_n 0, 1) := by decide +kernel
theorem dX12_price_57 : decode cX12_price 57 = .ok (.getfield 261, 3) := by decide +kernel
theorem dX12_price_60 : decode cX12_price 60 = .ok (.if_icmp .ge 181, 3) := by decide +kernel
theorem dX12_price_63 : decode cX12_price 63 = .ok (.aload_n 0, 1) := by decide +kernel
theorem dX12_price_64 : decode cX12_price 64 = .ok (.getfield 37, 3) := by decide +kernel
theorem dX12_price_67 : decode cX12_price 67 = .ok (.iload 7, 2) := by decide +kernel
theorem dX12_price_69 : decode cX12_price 69 = .ok (.iaload, 1) := by decide +kernel
theorem dX12_price_70 : decode cX12_price 70 = .ok (.bipush 52, 2) := by decide +kernel
theorem dX12_price_72 : decode cX12_price 72 = .ok (.idiv, 1) := by decide +kernel
theorem dX12_price_73 : decode cX12_price 73 = .ok (.iload_n 2, 1) := by decide +kernel
theorem dX12_price_74 : decode cX12_price 74 = .ok (.if_icmp .ne 161, 3) := by decide +kernel
theorem dX12_price_77 : decode cX12_price 77 = .ok (.aload_n 0, 1) := by decide +kernel
theorem dX12_price_78 : decode cX12_price 78 = .ok (.iload 7, 2) := by decide +kernel
theorem dX12_price_80 : decode cX12_price 80 = .ok (.aload_n 0, 1) := by decide +kernel
theorem dX12_price_81 : decode cX12_price 81 = .ok (.getfield 34, 3) := by decide +kernel
theorem dX12_price_84 : decode cX12_price 84 = .ok (.iload 7, 2) := by decide +kernel
theorem dX12_price_86 : decode cX12_price 86 = .ok (.iaload, 1) := by decide +kernel
theorem dX12_price_87 : decode cX12_price 87 = .ok (.invokevirtual 457, 3) := by decide +kernel
theorem dX12_price_90 : decode cX12_price 90 = .ok (.ifCond .eq 145, 3) := by decide +kernel
theorem dX12_price_93 : decode cX12_price 93 = .ok (.aload_n 0, 1) := by decide +kernel
theorem dX12_price_94 : decode cX12_price 94 = .ok (.iload 7, 2) := by decide +kernel
theorem dX12_price_96 : decode cX12_price 96 = .ok (.iload_n 3, 1) := by decide +kernel
theorem dX12_price_97 : decode cX12_price 97 = .ok (.invokevirtual 454, 3) := by decide +kernel
theorem dX12_price_100 : decode cX12_price 100 = .ok (.iload_n 1, 1) := by decide +kernel
theorem dX12_price_101 : decode cX12_price 101 = .ok (.if_icmp .eq 6, 3) := by decide +kernel
theorem dX12_price_104 : decode cX12_price 104 = .ok (.goto 131, 3) := by decide +kernel
theorem dX12_price_107 : decode cX12_price 107 = .ok (.aload_n 0, 1) := by decide +kernel
theorem dX12_price_108 : decode cX12_price 108 = .ok (.iload 7, 2) := by decide +kernel
theorem dX12_price_110 : decode cX12_price 110 = .ok (.invokevirtual 308, 3) := by decide +kernel
theorem dX12_price_113 : decode cX12_price 113 = .ok (.istore 8, 2) := by decide +kernel
theorem dX12_price_115 : decode cX12_price 115 = .ok (.aload_n 0, 1) := by decide +kernel
theorem dX12_price_116 : decode cX12_price 116 = .ok (.getfield 431, 3) := by decide +kernel
theorem dX12_price_119 : decode cX12_price 119 = .ok (.istore 9, 2) := by decide +kernel
theorem dX12_price_121 : decode cX12_price 121 = .ok (.iload 5, 2) := by decide +kernel
theorem dX12_price_123 : decode cX12_price 123 = .ok (.istore 10, 2) := by decide +kernel
theorem dX12_price_125 : decode cX12_price 125 = .ok (.iload 10, 2) := by decide +kernel
theorem dX12_price_127 : decode cX12_price 127 = .ok (.ifCond .le 73, 3) := by decide +kernel
theorem dX12_price_130 : decode cX12_price 130 = .ok (.aload_n 0, 1) := by decide +kernel
theorem dX12_price_131 : decode cX12_price 131 = .ok (.getfield 207, 3) := by decide +kernel
theorem dX12_price_134 : decode cX12_price 134 = .ok (.iload 10, 2) := by decide +kernel
theorem dX12_price_136 : decode cX12_price 136 = .ok (.iconst 1, 1) := by decide +kernel
theorem dX12_price_137 : decode cX12_price 137 = .ok (.isub, 1) := by decide +kernel
theorem dX12_price_138 : decode cX12_price 138 = .ok (.iaload, 1) := by decide +kernel
theorem dX12_price_139 : decode cX12_price 139 = .ok (.i2l, 1) := by decide +kernel
theorem dX12_price_140 : decode cX12_price 140 = .ok (.iload 9, 2) := by decide +kernel
theorem dX12_price_142 : decode cX12_price 142 = .ok (.i2l, 1) := by decide +kernel
theorem dX12_price_143 : decode cX12_price 143 = .ok (.lmul, 1) := by decide +kernel
theorem dX12_price_144 : decode cX12_price 144 = .ok (.iload 8, 2) := by decide +kernel
theorem dX12_price_146 : decode cX12_price 146 = .ok (.i2l, 1) := by decide +kernel
theorem dX12_price_147 : decode cX12_price 147 = .ok (.aload_n 0, 1) := by decide +kernel
theorem dX12_price_148 : decode cX12_price 148 = .ok (.getfield 210, 3) := by decide +kernel
theorem dX12_price_151 : decode cX12_price 151 = .ok (.iload 10, 2) := by decide +kernel
theorem dX12_price_153 : decode cX12_price 153 = .ok (.iconst 1, 1) := by decide +kernel
theorem dX12_price_154 : decode cX12_price 154 = .ok (.isub, 1) := by decide +kernel
theorem dX12_price_155 : decode cX12_price 155 = .ok (.iaload, 1) := by decide +kernel
theorem dX12_price_156 : decode cX12_price 156 = .ok (.i2l, 1) := by decide +kernel
theorem dX12_price_157 : decode cX12_price 157 = .ok (.lmul, 1) := by decide +kernel
theorem dX12_price_158 : decode cX12_price 158 = .ok (.lcmp, 1) := by decide +kernel
theorem dX12_price_159 : decode cX12_price 159 = .ok (.ifCond .le 41, 3) := by decide +kernel
theorem dX12_price_162 : decode cX12_price 162 = .ok (.aload_n 0, 1) := by decide +kernel
theorem dX12_price_163 : decode cX12_price 163 = .ok (.getfield 207, 3) := by decide +kernel
theorem dX12_price_166 : decode cX12_price 166 = .ok (.iload 10, 2) := by decide +kernel
theorem dX12_price_168 : decode cX12_price 168 = .ok (.aload_n 0, 1) := by decide +kernel
theorem dX12_price_169 : decode cX12_price 169 = .ok (.getfield 207, 3) := by decide +kernel
theorem dX12_price_172 : decode cX12_price 172 = .ok (.iload 10, 2) := by decide +kernel
theorem dX12_price_174 : decode cX12_price 174 = .ok (.iconst 1, 1) := by decide +kernel
theorem dX12_price_175 : decode cX12_price 175 = .ok (.isub, 1) := by decide +kernel
theorem dX12_price_176 : decode cX12_price 176 = .ok (.iaload, 1) := by decide +kernel
theorem dX12_price_177 : decode cX12_price 177 = .ok (.iastore, 1) := by decide +kernel
theorem dX12_price_178 : decode cX12_price 178 = .ok (.aload_n 0, 1) := by decide +kernel
theorem dX12_price_179 : decode cX12_price 179 = .ok (.getfield 210, 3) := by decide +kernel
theorem dX12_price_182 : decode cX12_price 182 = .ok (.iload 10, 2) := by decide +kernel
theorem dX12_price_184 : decode cX12_price 184 = .ok (.aload_n 0, 1) := by decide +kernel
theorem dX12_price_185 : decode cX12_price 185 = .ok (.getfield 210, 3) := by decide +kernel
theorem dX12_price_188 : decode cX12_price 188 = .ok (.iload 10, 2) := by decide +kernel
theorem dX12_price_190 : decode cX12_price 190 = .ok (.iconst 1, 1) := by decide +kernel
theorem dX12_price_191 : decode cX12_price 191 = .ok (.isub, 1) := by decide +kernel
theorem dX12_price_192 : decode cX12_price 192 = .ok (.iaload, 1) := by decide +kernel
theorem dX12_price_193 : decode cX12_price 193 = .ok (.iastore, 1) := by decide +kernel
theorem dX12_price_194 : decode cX12_price 194 = .ok (.iinc 10 (-1), 3) := by decide +kernel
theorem dX12_price_197 : decode cX12_price 197 = .ok (.goto (-72), 3) := by decide +kernel
theorem dX12_price_200 : decode cX12_price 200 = .ok (.aload_n 0, 1) := by decide +kernel
theorem dX12_price_201 : decode cX12_price 201 = .ok (.getfield 207, 3) := by decide +kernel
theorem dX12_price_204 : decode cX12_price 204 = .ok (.iload 10, 2) := by decide +kernel
theorem dX12_price_206 : decode cX12_price 206 = .ok (.iload 8, 2) := by decide +kernel
theorem dX12_price_208 : decode cX12_price 208 = .ok (.iastore, 1) := by decide +kernel
theorem dX12_price_209 : decode cX12_price 209 = .ok (.aload_n 0, 1) := by decide +kernel
theorem dX12_price_210 : decode cX12_price 210 = .ok (.getfield 210, 3) := by decide +kernel
theorem dX12_price_213 : decode cX12_price 213 = .ok (.iload 10, 2) := by decide +kernel
theorem dX12_price_215 : decode cX12_price 215 = .ok (.iload 9, 2) := by decide +kernel
theorem dX12_price_217 : decode cX12_price 217 = .ok (.iastore, 1) := by decide +kernel
theorem dX12_price_218 : decode cX12_price 218 = .ok (.iload 6, 2) := by decide +kernel
theorem dX12_price_220 : decode cX12_price 220 = .ok (.iconst 1, 1) := by decide +kernel
theorem dX12_price_221 : decode cX12_price 221 = .ok (.aload_n 0, 1) := by decide +kernel
theorem dX12_price_222 : decode cX12_price 222 = .ok (.getfield 34, 3) := by decide +kernel
theorem dX12_price_225 : decode cX12_price 225 = .ok (.iload 7, 2) := by decide +kernel
theorem dX12_price_227 : decode cX12_price 227 = .ok (.iaload, 1) := by decide +kernel
theorem dX12_price_228 : decode cX12_price 228 = .ok (.ishl, 1) := by decide +kernel
theorem dX12_price_229 : decode cX12_price 229 = .ok (.ior, 1) := by decide +kernel
theorem dX12_price_230 : decode cX12_price 230 = .ok (.istore 6, 2) := by decide +kernel
theorem dX12_price_232 : decode cX12_price 232 = .ok (.iinc 5 1, 3) := by decide +kernel
theorem dX12_price_235 : decode cX12_price 235 = .ok (.iinc 7 1, 3) := by decide +kernel
theorem dX12_price_238 : decode cX12_price 238 = .ok (.goto (-184), 3) := by decide +kernel
theorem dX12_price_241 : decode cX12_price 241 = .ok (.iload 5, 2) := by decide +kernel
theorem dX12_price_243 : decode cX12_price 243 = .ok (.ifCond .ne 10, 3) := by decide +kernel
theorem dX12_price_246 : decode cX12_price 246 = .ok (.aload_n 0, 1) := by decide +kernel
theorem dX12_price_247 : decode cX12_price 247 = .ok (.bipush 6, 2) := by decide +kernel
theorem dX12_price_249 : decode cX12_price 249 = .ok (.invokevirtual 267, 3) := by decide +kernel
theorem dX12_price_252 : decode cX12_price 252 = .ok (.ireturn, 1) := by decide +kernel
theorem dX12_price_253 : decode cX12_price 253 = .ok (.iconst 0, 1) := by decide +kernel
theorem dX12_price_254 : decode cX12_price 254 = .ok (.istore 7, 2) := by decide +kernel
theorem dX12_price_256 : decode cX12_price 256 = .ok (.iconst 0, 1) := by decide +kernel
theorem dX12_price_257 : decode cX12_price 257 = .ok (.istore 8, 2) := by decide +kernel
theorem dX12_price_259 : decode cX12_price 259 = .ok (.iload 8, 2) := by decide +kernel
theorem dX12_price_261 : decode cX12_price 261 = .ok (.aload_n 0, 1) := by decide +kernel
theorem dX12_price_262 : decode cX12_price 262 = .ok (.getfield 258, 3) := by decide +kernel
theorem dX12_price_265 : decode cX12_price 265 = .ok (.if_icmp .ge 21, 3) := by decide +kernel
theorem dX12_price_268 : decode cX12_price 268 = .ok (.iload 7, 2) := by decide +kernel
theorem dX12_price_270 : decode cX12_price 270 = .ok (.iload 6, 2) := by decide +kernel
theorem dX12_price_272 : decode cX12_price 272 = .ok (.iload 8, 2) := by decide +kernel
theorem dX12_price_274 : decode cX12_price 274 = .ok (.ishr, 1) := by decide +kernel
theorem dX12_price_275 : decode cX12_price 275 = .ok (.iconst 1, 1) := by decide +kernel
theorem dX12_price_276 : decode cX12_price 276 = .ok (.iand, 1) := by decide +kernel
theorem dX12_price_277 : decode cX12_price 277 = .ok (.iadd, 1) := by decide +kernel
theorem dX12_price_278 : decode cX12_price 278 = .ok (.istore 7, 2) := by decide +kernel
theorem dX12_price_280 : decode cX12_price 280 = .ok (.iinc 8 1, 3) := by decide +kernel
theorem dX12_price_283 : decode cX12_price 283 = .ok (.goto (-24), 3) := by decide +kernel
theorem dX12_price_286 : decode cX12_price 286 = .ok (.iload 7, 2) := by decide +kernel
theorem dX12_price_288 : decode cX12_price 288 = .ok (.aload_n 0, 1) := by decide +kernel
theorem dX12_price_289 : decode cX12_price 289 = .ok (.getfield 168, 3) := by decide +kernel
theorem dX12_price_292 : decode cX12_price 292 = .ok (.if_icmp .ge 10, 3) := by decide +kernel
theorem dX12_price_295 : decode cX12_price 295 = .ok (.aload_n 0, 1) := by decide +kernel
theorem dX12_price_296 : decode cX12_price 296 = .ok (.bipush 7, 2) := by decide +kernel
theorem dX12_price_298 : decode cX12_price 298 = .ok (.invokevirtual 267, 3) := by decide +kernel
theorem dX12_price_301 : decode cX12_price 301 = .ok (.ireturn, 1) := by decide +kernel
theorem dX12_price_302 : decode cX12_price 302 = .ok (.iload 4, 2) := by decide +kernel
theorem dX12_price_304 : decode cX12_price 304 = .ok (.ifCond .ne 7, 3) := by decide +kernel
theorem dX12_price_307 : decode cX12_price 307 = .ok (.iconst 0, 1) := by decide +kernel
theorem dX12_price_308 : decode cX12_price 308 = .ok (.goto 22, 3) := by decide +kernel
theorem dX12_price_311 : decode cX12_price 311 = .ok (.iload 4, 2) := by decide +kernel
theorem dX12_price_313 : decode cX12_price 313 = .ok (.iconst 1, 1) := by decide +kernel
theorem dX12_price_314 : decode cX12_price 314 = .ok (.if_icmp .ne 12, 3) := by decide +kernel
theorem dX12_price_317 : decode cX12_price 317 = .ok (.iload 5, 2) := by decide +kernel
theorem dX12_price_319 : decode cX12_price 319 = .ok (.iconst 1, 1) := by decide +kernel
theorem dX12_price_320 : decode cX12_price 320 = .ok (.isub, 1) := by decide +kernel
theorem dX12_price_321 : decode cX12_price 321 = .ok (.iconst 2, 1) := by decide +kernel
theorem dX12_price_322 : decode cX12_price 322 = .ok (.idiv, 1) := by decide +kernel
theorem dX12_price_323 : decode cX12_price 323 = .ok (.goto 7, 3) := by decide +kernel
theorem dX12_price_326 : decode cX12_price 326 = .ok (.iload 5, 2) := by decide +kernel
theorem dX12_price_328 : decode cX12_price 328 = .ok (.iconst 1, 1) := by decide +kernel
theorem dX12_price_329 : decode cX12_price 329 = .ok (.isub, 1) := by decide +kernel
theorem dX12_price_330 : decode cX12_price 330 = .ok (.istore 8, 2) := by decide +kernel
theorem dX12_price_332 : decode cX12_price 332 = .ok (.aload_n 0, 1) := by decide +kernel
theorem dX12_price_333 : decode cX12_price 333 = .ok (.aload_n 0, 1) := by decide +kernel
theorem dX12_price_334 : decode cX12_price 334 = .ok (.getfield 207, 3) := by decide +kernel
theorem dX12_price_337 : decode cX12_price 337 = .ok (.iload 8, 2) := by decide +kernel
theorem dX12_price_339 : decode cX12_price 339 = .ok (.iaload, 1) := by decide +kernel
theorem dX12_price_340 : decode cX12_price 340 = .ok (.i2l, 1) := by decide +kernel
theorem dX12_price_341 : decode cX12_price 341 = .ok (.aload_n 0, 1) := by decide +kernel
theorem dX12_price_342 : decode cX12_price 342 = .ok (.getfield 210, 3) := by decide +kernel
theorem dX12_price_345 : decode cX12_price 345 = .ok (.iload 8, 2) := by decide +kernel
theorem dX12_price_347 : decode cX12_price 347 = .ok (.iaload, 1) := by decide +kernel
theorem dX12_price_348 : decode cX12_price 348 = .ok (.i2l, 1) := by decide +kernel
theorem dX12_price_349 : decode cX12_price 349 = .ok (.invokevirtual 531, 3) := by decide +kernel
theorem dX12_price_352 : decode cX12_price 352 = .ok (.ireturn, 1) := by decide +kernel
noncomputable def B_X12_price_0 : pb_C := (i_iload 1 (i_if_lt (i_aload 0 (i_const (.int 1) (i_callV 64 1 1 M_X12_refuse i_iret))) (i_iload 1 (i_const (.int 16) (i_ic_ge (i_aload 0 (i_const (.int 1) (i_callV 64 1 1 M_X12_refuse i_iret))) (i_iload 2 (i_if_lt (i_aload 0 (i_const (.int 1) (i_callV 64 1 1 M_X12_refuse i_iret))) (i_iload 2 (i_const (.int 9) (i_ic_gt (i_aload 0 (i_const (.int 1) (i_callV 64 1 1 M_X12_refuse i_iret))) (i_aload 0 (i_iload 3 (i_callV 64 1 1 M_X12_isEdition (i_if_eq (i_aload 0 (i_const (.int 1) (i_callV 64 1 1 M_X12_refuse i_iret))) (i_iload 4 (i_if_lt (i_aload 0 (i_const (.int 1) (i_callV 64 1 1 M_X12_refuse i_iret))) (i_iload 4 (i_const (.int 2) (i_ic_le (i_const (.int 0) (i_istore 5 (i_const (.int 0) (i_istore 6 (i_const (.int 0) (i_istore 7 (i_jmp 54 [true, true, true, true, true, true, true, true, false, false, false]))))))) (i_aload 0 (i_const (.int 1) (i_callV 64 1 1 M_X12_refuse i_iret))))))))))))))))))))))
noncomputable def B_X12_price_54 : pb_C := (i_iload 7 (i_aload 0 (i_getI 64 7 (i_ic_ge (i_iload 5 (i_if_ne (i_const (.int 0) (i_istore 7 (i_const (.int 0) (i_istore 8 (i_jmp 259 [true, false, false, false, true, true, true, true, true, false, false]))))) (i_aload 0 (i_const (.int 6) (i_callV 64 1 1 M_X12_refuse i_iret))))) (i_aload 0 (i_getR 64 71 (i_iload 7 (i_ald 71 200 (i_const (.int 52) (i_idivr (· / ·) (i_iload 2 (i_ic_ne (i_iinc 7 1 (i_jmp 54 [true, true, true, true, true, true, true, true, false, false, false])) (i_aload 0 (i_iload 7 (i_aload 0 (i_getR 64 70 (i_iload 7 (i_ald 70 200 (i_callV 64 2 1 M_X12_went (i_if_eq (i_iinc 7 1 (i_jmp 54 [true, true, true, true, true, true, true, true, false, false, false])) (i_aload 0 (i_iload 7 (i_iload 3 (i_callV 64 2 1 M_X12_kindOf (i_iload 1 (i_ic_eq (i_aload 0 (i_iload 7 (i_callV 64 1 1 M_X12_penceOf (i_istore 8 (i_aload 0 (i_getI 64 63 (i_istore 9 (i_iload 5 (i_istore 10 (i_jmp 125 [true, true, true, true, true, true, true, true, true, true, true])))))))))) (i_iinc 7 1 (i_jmp 54 [true, true, true, true, true, true, true, true, false, false, false]))))))))))))))))))))))))))))
noncomputable def B_X12_price_125 : pb_C := (i_iload 10 (i_if_le (i_jmp 200 [true, true, true, true, true, true, true, true, true, true, true]) (i_aload 0 (i_getR 64 122 (i_iload 10 (i_const (.int 1) (i_ibin (· - ·) (i_ald 122 200 (i_i2l (i_iload 9 (i_i2l (i_lbin (· * ·) (i_iload 8 (i_i2l (i_aload 0 (i_getR 64 123 (i_iload 10 (i_const (.int 1) (i_ibin (· - ·) (i_ald 123 200 (i_i2l (i_lbin (· * ·) (i_lcmp (i_if_le (i_jmp 200 [true, true, true, true, true, true, true, true, true, true, true]) (i_aload 0 (i_getR 64 122 (i_iload 10 (i_aload 0 (i_getR 64 122 (i_iload 10 (i_const (.int 1) (i_ibin (· - ·) (i_ald 122 200 (i_ast 122 200 (fun x => x) (i_aload 0 (i_getR 64 123 (i_iload 10 (i_aload 0 (i_getR 64 123 (i_iload 10 (i_const (.int 1) (i_ibin (· - ·) (i_ald 123 200 (i_ast 123 200 (fun x => x) (i_iinc 10 (-1) (i_jmp 125 [true, true, true, true, true, true, true, true, true, true, true]))))))))))))))))))))))))))))))))))))))))))))))
noncomputable def B_X12_price_200 : pb_C := (i_aload 0 (i_getR 64 122 (i_iload 10 (i_iload 8 (i_ast 122 200 (fun x => x) (i_aload 0 (i_getR 64 123 (i_iload 10 (i_iload 9 (i_ast 123 200 (fun x => x) (i_iload 6 (i_const (.int 1) (i_aload 0 (i_getR 64 70 (i_iload 7 (i_ald 70 200 (i_ibin (fun x y => x <<< (y &&& 31)) (i_ibin (· ||| ·) (i_istore 6 (i_iinc 5 1 (i_iinc 7 1 (i_jmp 54 [true, true, true, true, true, true, true, true, false, false, false]))))))))))))))))))))))
noncomputable def B_X12_price_259 : pb_C := (i_iload 8 (i_aload 0 (i_getI 64 6 (i_ic_ge (i_iload 7 (i_aload 0 (i_getI 64 77 (i_ic_ge (i_iload 4 (i_if_ne (i_iload 4 (i_const (.int 1) (i_ic_ne (i_iload 5 (i_const (.int 1) (i_ibin (· - ·) (i_jmp 330 [true, false, false, false, false, false, false, false, false, false, false])))) (i_iload 5 (i_const (.int 1) (i_ibin (· - ·) (i_const (.int 2) (i_idivr (· / ·) (i_jmp 330 [true, false, false, false, false, false, false, false, false, false, false]))))))))) (i_const (.int 0) (i_jmp 330 [true, false, false, false, false, false, false, false, false, false, false])))) (i_aload 0 (i_const (.int 7) (i_callV 64 1 1 M_X12_refuse i_iret))))))) (i_iload 7 (i_iload 6 (i_iload 8 (i_ibin (fun x y => x >>> (y &&& 31)) (i_const (.int 1) (i_ibin (· &&& ·) (i_ibin (· + ·) (i_istore 7 (i_iinc 8 1 (i_jmp 259 [true, false, false, false, true, true, true, true, true, false, false]))))))))))))))
noncomputable def B_X12_price_330 : pb_C := (i_istore 8 (i_aload 0 (i_aload 0 (i_getR 64 122 (i_iload 8 (i_ald 122 200 (i_i2l (i_aload 0 (i_getR 64 123 (i_iload 8 (i_ald 123 200 (i_i2l (i_callV 64 2 1 M_X12_fraction i_iret)))))))))))))
noncomputable def T_X12_price : Nat → pb_C := pb_tt [(0, B_X12_price_0), (54, B_X12_price_54), (125, B_X12_price_125), (200, B_X12_price_200), (259, B_X12_price_259), (330, B_X12_price_330)]
noncomputable def M_X12_price : pb_F := pb_M T_X12_price 11
set_option maxRecDepth 100000 in
set_option maxHeartbeats 4000000 in
theorem S_X12_price (l : Launch) : pb_Sound l yX12_price cX12_price 11 (some .int) 6 M_X12_price := by
  refine pb_sound_of (by decide) m_9_99 ?_
  intro Γ hl0 hRm0 hm X E hr J
  have hnL : ∀ j, j < 11 → j < Γ.2.2.2.2.2.2.2.2.2.2.2.1 := fun j h => by rw [hm]; exact h
  have hR : ∀ (d' mL : Nat), d' + 1 ≤ 6 ∧ 8 + (mL + 11) + d' * 64 ≤ 6 * 64 → (pb_rm d').frames + 1 ≤ Γ.2.2.2.1.frames ∧ 8 + (mL + 11) + (pb_rm d').locals ≤ Γ.2.2.2.1.locals := by rw [hRm0]; exact fun _ _ h => h
  have hRm : 1 ≤ 6 ∧ 64 ≤ 6 * 64 → 1 ≤ Γ.2.2.2.1.frames ∧ 64 ≤ Γ.2.2.2.1.locals := by rw [hRm0]; exact fun h => h
  exact pb_tt_snd _ (List.forall_mem_cons.mpr ⟨(s_iload_n (pc := 0) X dX12_price_0 rfl (s_if_lt (pc := 1) X dX12_price_1 (by decide) (s_aload_n (pc := 39) X dX12_price_39 rfl (s_iconst (pc := 40) X dX12_price_40 rfl (s_callV (pc := 41) X dX12_price_41 (S_X12_refuse _) q_X12_267 h_64 rfl (hR _ _ (by decide)) (s_iret (pc := 44) X E hr dX12_price_44)))) (s_iload_n (pc := 4) X dX12_price_4 rfl (s_bipush (pc := 5) X dX12_price_5 rfl (s_ic_ge (pc := 7) X dX12_price_7 (by decide) (s_aload_n (pc := 39) X dX12_price_39 rfl (s_iconst (pc := 40) X dX12_price_40 rfl (s_callV (pc := 41) X dX12_price_41 (S_X12_refuse _) q_X12_267 h_64 rfl (hR _ _ (by decide)) (s_iret (pc := 44) X E hr dX12_price_44)))) (s_iload_n (pc := 10) X dX12_price_10 rfl (s_if_lt (pc := 11) X dX12_price_11 (by decide) (s_aload_n (pc := 39) X dX12_price_39 rfl (s_iconst (pc := 40) X dX12_price_40 rfl (s_callV (pc := 41) X dX12_price_41 (S_X12_refuse _) q_X12_267 h_64 rfl (hR _ _ (by decide)) (s_iret (pc := 44) X E hr dX12_price_44)))) (s_iload_n (pc := 14) X dX12_price_14 rfl (s_bipush (pc := 15) X dX12_price_15 rfl (s_ic_gt (pc := 17) X dX12_price_17 (by decide) (s_aload_n (pc := 39) X dX12_price_39 rfl (s_iconst (pc := 40) X dX12_price_40 rfl (s_callV (pc := 41) X dX12_price_41 (S_X12_refuse _) q_X12_267 h_64 rfl (hR _ _ (by decide)) (s_iret (pc := 44) X E hr dX12_price_44)))) (s_aload_n (pc := 20) X dX12_price_20 rfl (s_iload_n (pc := 21) X dX12_price_21 rfl (s_callV (pc := 22) X dX12_price_22 (S_X12_isEdition _) q_X12_451 h_64 rfl (hR _ _ (by decide)) (s_if_eq (pc := 25) X dX12_price_25 (by decide) (s_aload_n (pc := 39) X dX12_price_39 rfl (s_iconst (pc := 40) X dX12_price_40 rfl (s_callV (pc := 41) X dX12_price_41 (S_X12_refuse _) q_X12_267 h_64 rfl (hR _ _ (by decide)) (s_iret (pc := 44) X E hr dX12_price_44)))) (s_iload (pc := 28) X dX12_price_28 (s_if_lt (pc := 30) X dX12_price_30 (by decide) (s_aload_n (pc := 39) X dX12_price_39 rfl (s_iconst (pc := 40) X dX12_price_40 rfl (s_callV (pc := 41) X dX12_price_41 (S_X12_refuse _) q_X12_267 h_64 rfl (hR _ _ (by decide)) (s_iret (pc := 44) X E hr dX12_price_44)))) (s_iload (pc := 33) X dX12_price_33 (s_iconst (pc := 35) X dX12_price_35 rfl (s_ic_le (pc := 36) X dX12_price_36 (by decide) (s_iconst (pc := 45) X dX12_price_45 rfl (s_istore (pc := 46) X dX12_price_46 (hnL _ (by decide)) (s_iconst (pc := 48) X dX12_price_48 rfl (s_istore (pc := 49) X dX12_price_49 (hnL _ (by decide)) (s_iconst (pc := 51) X dX12_price_51 rfl (s_istore (pc := 52) X dX12_price_52 (hnL _ (by decide)) (s_jmp (pc := 54) J [true, true, true, true, true, true, true, true, false, false, false]))))))) (s_aload_n (pc := 39) X dX12_price_39 rfl (s_iconst (pc := 40) X dX12_price_40 rfl (s_callV (pc := 41) X dX12_price_41 (S_X12_refuse _) q_X12_267 h_64 rfl (hR _ _ (by decide)) (s_iret (pc := 44) X E hr dX12_price_44))))))))))))))))))))))), List.forall_mem_cons.mpr ⟨(s_iload (pc := 54) X dX12_price_54 (s_aload_n (pc := 56) X dX12_price_56 rfl (s_getI (pc := 57) X dX12_price_57 g_X12_261 (s_ic_ge (pc := 60) X dX12_price_60 (by decide) (s_iload (pc := 241) X dX12_price_241 (s_if_ne (pc := 243) X dX12_price_243 (by decide) (s_iconst (pc := 253) X dX12_price_253 rfl (s_istore (pc := 254) X dX12_price_254 (hnL _ (by decide)) (s_iconst (pc := 256) X dX12_price_256 rfl (s_istore (pc := 257) X dX12_price_257 (hnL _ (by decide)) (s_jmp (pc := 259) J [true, false, false, false, true, true, true, true, true, false, false]))))) (s_aload_n (pc := 246) X dX12_price_246 rfl (s_bipush (pc := 247) X dX12_price_247 rfl (s_callV (pc := 249) X dX12_price_249 (S_X12_refuse _) q_X12_267 h_64 rfl (hR _ _ (by decide)) (s_iret (pc := 252) X E hr dX12_price_252)))))) (s_aload_n (pc := 63) X dX12_price_63 rfl (s_getR (pc := 64) X dX12_price_64 g_X12_37 (s_iload (pc := 67) X dX12_price_67 (s_iald (pc := 69) X dX12_price_69 h_71 (s_bipush (pc := 70) X dX12_price_70 rfl (s_idiv (pc := 72) X dX12_price_72 (s_iload_n (pc := 73) X dX12_price_73 rfl (s_ic_ne (pc := 74) X dX12_price_74 (by decide) (s_iinc (pc := 235) X dX12_price_235 rfl (s_goto (pc := 238) X dX12_price_238 (by decide) (s_jmp (pc := 54) J [true, true, true, true, true, true, true, true, false, false, false]))) (s_aload_n (pc := 77) X dX12_price_77 rfl (s_iload (pc := 78) X dX12_price_78 (s_aload_n (pc := 80) X dX12_price_80 rfl (s_getR (pc := 81) X dX12_price_81 g_X12_34 (s_iload (pc := 84) X dX12_price_84 (s_iald (pc := 86) X dX12_price_86 h_70 (s_callV (pc := 87) X dX12_price_87 (S_X12_went _) q_X12_457 h_64 rfl (hR _ _ (by decide)) (s_if_eq (pc := 90) X dX12_price_90 (by decide) (s_iinc (pc := 235) X dX12_price_235 rfl (s_goto (pc := 238) X dX12_price_238 (by decide) (s_jmp (pc := 54) J [true, true, true, true, true, true, true, true, false, false, false]))) (s_aload_n (pc := 93) X dX12_price_93 rfl (s_iload (pc := 94) X dX12_price_94 (s_iload_n (pc := 96) X dX12_price_96 rfl (s_callV (pc := 97) X dX12_price_97 (S_X12_kindOf _) q_X12_454 h_64 rfl (hR _ _ (by decide)) (s_iload_n (pc := 100) X dX12_price_100 rfl (s_ic_eq (pc := 101) X dX12_price_101 (by decide) (s_aload_n (pc := 107) X dX12_price_107 rfl (s_iload (pc := 108) X dX12_price_108 (s_callV (pc := 110) X dX12_price_110 (S_X12_penceOf _) q_X12_308 h_64 rfl (hR _ _ (by decide)) (s_istore (pc := 113) X dX12_price_113 (hnL _ (by decide)) (s_aload_n (pc := 115) X dX12_price_115 rfl (s_getI (pc := 116) X dX12_price_116 g_X12_431 (s_istore (pc := 119) X dX12_price_119 (hnL _ (by decide)) (s_iload (pc := 121) X dX12_price_121 (s_istore (pc := 123) X dX12_price_123 (hnL _ (by decide)) (s_jmp (pc := 125) J [true, true, true, true, true, true, true, true, true, true, true])))))))))) (s_goto (pc := 104) X dX12_price_104 (by decide) (s_iinc (pc := 235) X dX12_price_235 rfl (s_goto (pc := 238) X dX12_price_238 (by decide) (s_jmp (pc := 54) J [true, true, true, true, true, true, true, true, false, false, false])))))))))))))))))))))))))))))), List.forall_mem_cons.mpr ⟨(s_iload (pc := 125) X dX12_price_125 (s_if_le (pc := 127) X dX12_price_127 (by decide) (s_jmp (pc := 200) J [true, true, true, true, true, true, true, true, true, true, true]) (s_aload_n (pc := 130) X dX12_price_130 rfl (s_getR (pc := 131) X dX12_price_131 g_X12_207 (s_iload (pc := 134) X dX12_price_134 (s_iconst (pc := 136) X dX12_price_136 rfl (s_isub (pc := 137) X dX12_price_137 (s_iald (pc := 138) X dX12_price_138 h_122 (s_i2l (pc := 139) X dX12_price_139 (s_iload (pc := 140) X dX12_price_140 (s_i2l (pc := 142) X dX12_price_142 (s_lmul (pc := 143) X dX12_price_143 (s_iload (pc := 144) X dX12_price_144 (s_i2l (pc := 146) X dX12_price_146 (s_aload_n (pc := 147) X dX12_price_147 rfl (s_getR (pc := 148) X dX12_price_148 g_X12_210 (s_iload (pc := 151) X dX12_price_151 (s_iconst (pc := 153) X dX12_price_153 rfl (s_isub (pc := 154) X dX12_price_154 (s_iald (pc := 155) X dX12_price_155 h_123 (s_i2l (pc := 156) X dX12_price_156 (s_lmul (pc := 157) X dX12_price_157 (s_lcmp (pc := 158) X dX12_price_158 (s_if_le (pc := 159) X dX12_price_159 (by decide) (s_jmp (pc := 200) J [true, true, true, true, true, true, true, true, true, true, true]) (s_aload_n (pc := 162) X dX12_price_162 rfl (s_getR (pc := 163) X dX12_price_163 g_X12_207 (s_iload (pc := 166) X dX12_price_166 (s_aload_n (pc := 168) X dX12_price_168 rfl (s_getR (pc := 169) X dX12_price_169 g_X12_207 (s_iload (pc := 172) X dX12_price_172 (s_iconst (pc := 174) X dX12_price_174 rfl (s_isub (pc := 175) X dX12_price_175 (s_iald (pc := 176) X dX12_price_176 h_122 (s_iast (pc := 177) X dX12_price_177 h_122 (s_aload_n (pc := 178) X dX12_price_178 rfl (s_getR (pc := 179) X dX12_price_179 g_X12_210 (s_iload (pc := 182) X dX12_price_182 (s_aload_n (pc := 184) X dX12_price_184 rfl (s_getR (pc := 185) X dX12_price_185 g_X12_210 (s_iload (pc := 188) X dX12_price_188 (s_iconst (pc := 190) X dX12_price_190 rfl (s_isub (pc := 191) X dX12_price_191 (s_iald (pc := 192) X dX12_price_192 h_123 (s_iast (pc := 193) X dX12_price_193 h_123 (s_iinc (pc := 194) X dX12_price_194 rfl (s_goto (pc := 197) X dX12_price_197 (by decide) (s_jmp (pc := 125) J [true, true, true, true, true, true, true, true, true, true, true]))))))))))))))))))))))))))))))))))))))))))))))), List.forall_mem_cons.mpr ⟨(s_aload_n (pc := 200) X dX12_price_200 rfl (s_getR (pc := 201) X dX12_price_201 g_X12_207 (s_iload (pc := 204) X dX12_price_204 (s_iload (pc := 206) X dX12_price_206 (s_iast (pc := 208) X dX12_price_208 h_122 (s_aload_n (pc := 209) X dX12_price_209 rfl (s_getR (pc := 210) X dX12_price_210 g_X12_210 (s_iload (pc := 213) X dX12_price_213 (s_iload (pc := 215) X dX12_price_215 (s_iast (pc := 217) X dX12_price_217 h_123 (s_iload (pc := 218) X dX12_price_218 (s_iconst (pc := 220) X dX12_price_220 rfl (s_aload_n (pc := 221) X dX12_price_221 rfl (s_getR (pc := 222) X dX12_price_222 g_X12_34 (s_iload (pc := 225) X dX12_price_225 (s_iald (pc := 227) X dX12_price_227 h_70 (s_ishl (pc := 228) X dX12_price_228 (s_ior (pc := 229) X dX12_price_229 (s_istore (pc := 230) X dX12_price_230 (hnL _ (by decide)) (s_iinc (pc := 232) X dX12_price_232 rfl (s_iinc (pc := 235) X dX12_price_235 rfl (s_goto (pc := 238) X dX12_price_238 (by decide) (s_jmp (pc := 54) J [true, true, true, true, true, true, true, true, false, false, false]))))))))))))))))))))))), List.forall_mem_cons.mpr ⟨(s_iload (pc := 259) X dX12_price_259 (s_aload_n (pc := 261) X dX12_price_261 rfl (s_getI (pc := 262) X dX12_price_262 g_X12_258 (s_ic_ge (pc := 265) X dX12_price_265 (by decide) (s_iload (pc := 286) X dX12_price_286 (s_aload_n (pc := 288) X dX12_price_288 rfl (s_getI (pc := 289) X dX12_price_289 g_X12_168 (s_ic_ge (pc := 292) X dX12_price_292 (by decide) (s_iload (pc := 302) X dX12_price_302 (s_if_ne (pc := 304) X dX12_price_304 (by decide) (s_iload (pc := 311) X dX12_price_311 (s_iconst (pc := 313) X dX12_price_313 rfl (s_ic_ne (pc := 314) X dX12_price_314 (by decide) (s_iload (pc := 326) X dX12_price_326 (s_iconst (pc := 328) X dX12_price_328 rfl (s_isub (pc := 329) X dX12_price_329 (s_jmp (pc := 330) J [true, false, false, false, false, false, false, false, false, false, false])))) (s_iload (pc := 317) X dX12_price_317 (s_iconst (pc := 319) X dX12_price_319 rfl (s_isub (pc := 320) X dX12_price_320 (s_iconst (pc := 321) X dX12_price_321 rfl (s_idiv (pc := 322) X dX12_price_322 (s_goto (pc := 323) X dX12_price_323 (by decide) (s_jmp (pc := 330) J [true, false, false, false, false, false, false, false, false, false, false])))))))))) (s_iconst (pc := 307) X dX12_price_307 rfl (s_goto (pc := 308) X dX12_price_308 (by decide) (s_jmp (pc := 330) J [true, false, false, false, false, false, false, false, false, false, false]))))) (s_aload_n (pc := 295) X dX12_price_295 rfl (s_bipush (pc := 296) X dX12_price_296 rfl (s_callV (pc := 298) X dX12_price_298 (S_X12_refuse _) q_X12_267 h_64 rfl (hR _ _ (by decide)) (s_iret (pc := 301) X E hr dX12_price_301)))))))) (s_iload (pc := 268) X dX12_price_268 (s_iload (pc := 270) X dX12_price_270 (s_iload (pc := 272) X dX12_price_272 (s_ishr (pc := 274) X dX12_price_274 (s_iconst (pc := 275) X dX12_price_275 rfl (s_iand (pc := 276) X dX12_price_276 (s_iadd (pc := 277) X dX12_price_277 (s_istore (pc := 278) X dX12_price_278 (hnL _ (by decide)) (s_iinc (pc := 280) X dX12_price_280 rfl (s_goto (pc := 283) X dX12_price_283 (by decide) (s_jmp (pc := 259) J [true, false, false, false, true, true, true, true, true, false, false]))))))))))))))), List.forall_mem_cons.mpr ⟨(s_istore (pc := 330) X dX12_price_330 (hnL _ (by decide)) (s_aload_n (pc := 332) X dX12_price_332 rfl (s_aload_n (pc := 333) X dX12_price_333 rfl (s_getR (pc := 334) X dX12_price_334 g_X12_207 (s_iload (pc := 337) X dX12_price_337 (s_iald (pc := 339) X dX12_price_339 h_122 (s_i2l (pc := 340) X dX12_price_340 (s_aload_n (pc := 341) X dX12_price_341 rfl (s_getR (pc := 342) X dX12_price_342 g_X12_210 (s_iload (pc := 345) X dX12_price_345 (s_iald (pc := 347) X dX12_price_347 h_123 (s_i2l (pc := 348) X dX12_price_348 (s_callV (pc := 349) X dX12_price_349 (S_X12_fraction _) q_X12_531 h_64 rfl (hR _ _ (by decide)) (s_iret (pc := 352) X E hr dX12_price_352)))))))))))))), fun _ h => absurd h List.not_mem_nil⟩⟩⟩⟩⟩⟩)
theorem dX12_unlike_0 : decode cX12_unlike 0 = .ok (.iconst 0, 1) := by decide +kernel
theorem dX12_unlike_1 : decode cX12_unlike 1 = .ok (.istore 4, 2) := by decide +kernel
theorem dX12_unlike_3 : decode cX12_unlike 3 = .ok (.iload 4, 2) := by decide +kernel
theorem dX12_unlike_5 : decode cX12_unlike 5 = .ok (.bipush 8, 2) := by decide +kernel
theorem dX12_unlike_7 : decode cX12_unlike 7 = .ok (.if_icmp .ge 17, 3) := by decide +kernel
theorem dX12_unlike_10 : decode cX12_unlike 10 = .ok (.aload_n 0, 1) := by decide +kernel
theorem dX12_unlike_11 : decode cX12_unlike 11 = .ok (.getfield 213, 3) := by decide +kernel
theorem dX12_unlike_14 : decode cX12_unlike 14 = .ok (.iload 4, 2) := by decide +kernel
theorem dX12_unlike_16 : decode cX12_unlike 16 = .ok (.iconst 0, 1) := by decide +kernel
theorem dX12_unlike_17 : decode cX12_unlike 17 = .ok (.iastore, 1) := by decide +kernel
theorem dX12_unlike_18 : decode cX12_unlike 18 = .ok (.iinc 4 1, 3) := by decide +kernel
theorem dX12_unlike_21 : decode cX12_unlike 21 = .ok (.goto (-18), 3) := by decide +kernel
theorem dX12_unlike_24 : decode cX12_unlike 24 = .ok (.iconst 0, 1) := by decide +kernel
theorem dX12_unlike_25 : decode cX12_unlike 25 = .ok (.istore 4, 2) := by decide +kernel
theorem dX12_unlike_27 : decode cX12_unlike 27 = .ok (.iconst 0, 1) := by decide +kernel
theorem dX12_unlike_28 : decode cX12_unlike 28 = .ok (.istore 5, 2) := by decide +kernel
theorem dX12_unlike_30 : decode cX12_unlike 30 = .ok (.iload 5, 2) := by decide +kernel
theorem dX12_unlike_32 : decode cX12_unlike 32 = .ok (.aload_n 0, 1) := by decide +kernel
theorem dX12_unlike_33 : decode cX12_unlike 33 = .ok (.getfield 261, 3) := by decide +kernel
theorem dX12_unlike_36 : decode cX12_unlike 36 = .ok (.if_icmp .ge 73, 3) := by decide +kernel
theorem dX12_unlike_39 : decode cX12_unlike 39 = .ok (.aload_n 0, 1) := by decide +kernel
theorem dX12_unlike_40 : decode cX12_unlike 40 = .ok (.getfield 34, 3) := by decide +kernel
theorem dX12_unlike_43 : decode cX12_unlike 43 = .ok (.iload 5, 2) := by decide +kernel
theorem dX12_unlike_45 : decode cX12_unlike 45 = .ok (.iaload, 1) := by decide +kernel
theorem dX12_unlike_46 : decode cX12_unlike 46 = .ok (.iload_n 1, 1) := by decide +kernel
theorem dX12_unlike_47 : decode cX12_unlike 47 = .ok (.if_icmp .ne 56, 3) := by decide +kernel
theorem dX12_unlike_50 : decode cX12_unlike 50 = .ok (.aload_n 0, 1) := by decide +kernel
theorem dX12_unlike_51 : decode cX12_unlike 51 = .ok (.iload 5, 2) := by decide +kernel
theorem dX12_unlike_53 : decode cX12_unlike 53 = .ok (.invokevirtual 305, 3) := by decide +kernel
theorem dX12_unlike_56 : decode cX12_unlike 56 = .ok (.ifCond .eq 47, 3) := by decide +kernel
theorem dX12_unlike_59 : decode cX12_unlike 59 = .ok (.aload_n 0, 1) := by decide +kernel
theorem dX12_unlike_60 : decode cX12_unlike 60 = .ok (.getfield 37, 3) := by decide +kernel
theorem dX12_unlike_63 : decode cX12_unlike 63 = .ok (.iload 5, 2) := by decide +kernel
theorem dX12_unlike_65 : decode cX12_unlike 65 = .ok (.iaload, 1) := by decide +kernel
theorem dX12_unlike_66 : decode cX12_unlike 66 = .ok (.iload_n 2, 1) := by decide +kernel
theorem dX12_unlike_67 : decode cX12_unlike 67 = .ok (.if_icmp .lt 36, 3) := by decide +kernel
theorem dX12_unlike_70 : decode cX12_unlike 70 = .ok (.aload_n 0, 1) := by decide +kernel
theorem dX12_unlike_71 : decode cX12_unlike 71 = .ok (.getfield 37, 3) := by decide +kernel
theorem dX12_unlike_74 : decode cX12_unlike 74 = .ok (.iload 5, 2) := by decide +kernel
theorem dX12_unlike_76 : decode cX12_unlike 76 = .ok (.iaload, 1) := by decide +kernel
theorem dX12_unlike_77 : decode cX12_unlike 77 = .ok (.iload_n 3, 1) := by decide +kernel
theorem dX12_unlike_78 : decode cX12_unlike 78 = .ok (.if_icmp .lt 6, 3) := by decide +kernel
theorem dX12_unlike_81 : decode cX12_unlike 81 = .ok (.goto 22, 3) := by decide +kernel
theorem dX12_unlike_84 : decode cX12_unlike 84 = .ok (.aload_n 0, 1) := by decide +kernel
theorem dX12_unlike_85 : decode cX12_unlike 85 = .ok (.getfield 213, 3) := by decide +kernel
theorem dX12_unlike_88 : decode cX12_unlike 88 = .ok (.aload_n 0, 1) := by decide +kernel
theorem dX12_unlike_89 : decode cX12_unlike 89 = .ok (.getfield 46, 3) := by decide +kernel
theorem dX12_unlike_92 : decode cX12_unlike 92 = .ok (.iload 5, 2) := by decide +kernel
theorem dX12_unlike_94 : decode cX12_unlike 94 = .ok (.iaload, 1) := by decide +kernel
theorem dX12_unlike_95 : decode cX12_unlike 95 = .ok (.dup2, 1) := by decide +kernel
theorem dX12_unlike_96 : decode cX12_unlike 96 = .ok (.iaload, 1) := by decide +kernel
theorem dX12_unlike_97 : decode cX12_unlike 97 = .ok (.iconst 1, 1) := by decide +kernel
theorem dX12_unlike_98 : decode cX12_unlike 98 = .ok (.iadd, 1) := by decide +kernel
theorem dX12_unlike_99 : decode cX12_unlike 99 = .ok (.iastore, 1) := by decide +kernel
theorem dX12_unlike_100 : decode cX12_unlike 100 = .ok (.iinc 4 1, 3) := by decide +kernel
theorem dX12_unlike_103 : decode cX12_unlike 103 = .ok (.iinc 5 1, 3) := by decide +kernel
theorem dX12_unlike_106 : decode cX12_unlike 106 = .ok (.goto (-76), 3) := by decide +kernel
theorem dX12_unlike_109 : decode cX12_unlike 109 = .ok (.iconst 0, 1) := by decide +kernel
theorem dX12_unlike_110 : decode cX12_unlike 110 = .ok (.istore 5, 2) := by decide +kernel
theorem dX12_unlike_112 : decode cX12_unlike 112 = .ok (.iconst 1, 1) := by decide +kernel
theorem dX12_unlike_113 : decode cX12_unlike 113 = .ok (.istore 6, 2) := by decide +kernel
theorem dX12_unlike_115 : decode cX12_unlike 115 = .ok (.iload 6, 2) := by decide +kernel
theorem dX12_unlike_117 : decode cX12_unlike 117 = .ok (.bipush 8, 2) := by decide +kernel
theorem dX12_unlike_119 : decode cX12_unlike 119 = .ok (.if_icmp .ge 30, 3) := by decide +kernel
theorem dX12_unlike_122 : decode cX12_unlike 122 = .ok (.aload_n 0, 1) := by decide +kernel
theorem dX12_unlike_123 : decode cX12_unlike 123 = .ok (.getfield 213, 3) := by decide +kernel
theorem dX12_unlike_126 : decode cX12_unlike 126 = .ok (.iload 6, 2) := by decide +kernel
theorem dX12_unlike_128 : decode cX12_unlike 128 = .ok (.iaload, 1) := by decide +kernel
theorem dX12_unlike_129 : decode cX12_unlike 129 = .ok (.aload_n 0, 1) := by decide +kernel
theorem dX12_unlike_130 : decode cX12_unlike 130 = .ok (.getfield 213, 3) := by decide +kernel
theorem dX12_unlike_133 : decode cX12_unlike 133 = .ok (.iload 5, 2) := by decide +kernel
theorem dX12_unlike_135 : decode cX12_unlike 135 = .ok (.iaload, 1) := by decide +kernel
theorem dX12_unlike_136 : decode cX12_unlike 136 = .ok (.if_icmp .le 7, 3) := by decide +kernel
theorem dX12_unlike_139 : decode cX12_unlike 139 = .ok (.iload 6, 2) := by decide +kernel
theorem dX12_unlike_141 : decode cX12_unlike 141 = .ok (.istore 5, 2) := by decide +kernel
theorem dX12_unlike_143 : decode cX12_unlike 143 = .ok (.iinc 6 1, 3) := by decide +kernel
theorem dX12_unlike_146 : decode cX12_unlike 146 = .ok (.goto (-31), 3) := by decide +kernel
theorem dX12_unlike_149 : decode cX12_unlike 149 = .ok (.iload 4, 2) := by decide +kernel
theorem dX12_unlike_151 : decode cX12_unlike 151 = .ok (.ifCond .ne 7, 3) := by decide +kernel
theorem dX12_unlike_154 : decode cX12_unlike 154 = .ok (.iconst (-1), 1) := by decide +kernel
theorem dX12_unlike_155 : decode cX12_unlike 155 = .ok (.goto 13, 3) := by decide +kernel
theorem dX12_unlike_158 : decode cX12_unlike 158 = .ok (.iload 4, 2) := by decide +kernel
theorem dX12_unlike_160 : decode cX12_unlike 160 = .ok (.aload_n 0, 1) := by decide +kernel
theorem dX12_unlike_161 : decode cX12_unlike 161 = .ok (.getfield 213, 3) := by decide +kernel
theorem dX12_unlike_164 : decode cX12_unlike 164 = .ok (.iload 5, 2) := by decide +kernel
theorem dX12_unlike_166 : decode cX12_unlike 166 = .ok (.iaload, 1) := by decide +kernel
theorem dX12_unlike_167 : decode cX12_unlike 167 = .ok (.isub, 1) := by decide +kernel
theorem dX12_unlike_168 : decode cX12_unlike 168 = .ok (.ireturn, 1) := by decide +kernel
noncomputable def B_X12_unlike_0 : pb_C := (i_const (.int 0) (i_istore 4 (i_jmp 3 [true, true, true, true, true, false, false])))
noncomputable def B_X12_unlike_3 : pb_C := (i_iload 4 (i_const (.int 8) (i_ic_ge (i_const (.int 0) (i_istore 4 (i_const (.int 0) (i_istore 5 (i_jmp 30 [true, true, true, true, true, true, false]))))) (i_aload 0 (i_getR 64 124 (i_iload 4 (i_const (.int 0) (i_ast 124 8 (fun x => x) (i_iinc 4 1 (i_jmp 3 [true, true, true, true, true, false, false]))))))))))
noncomputable def B_X12_unlike_30 : pb_C := (i_iload 5 (i_aload 0 (i_getI 64 7 (i_ic_ge (i_const (.int 0) (i_istore 5 (i_const (.int 1) (i_istore 6 (i_jmp 115 [true, false, false, false, true, true, true]))))) (i_aload 0 (i_getR 64 70 (i_iload 5 (i_ald 70 200 (i_iload 1 (i_ic_ne (i_iinc 5 1 (i_jmp 30 [true, true, true, true, true, true, false])) (i_aload 0 (i_iload 5 (i_callV 64 1 1 M_X12_isKnown (i_if_eq (i_iinc 5 1 (i_jmp 30 [true, true, true, true, true, true, false])) (i_aload 0 (i_getR 64 71 (i_iload 5 (i_ald 71 200 (i_iload 2 (i_ic_lt (i_iinc 5 1 (i_jmp 30 [true, true, true, true, true, true, false])) (i_aload 0 (i_getR 64 71 (i_iload 5 (i_ald 71 200 (i_iload 3 (i_ic_lt (i_aload 0 (i_getR 64 124 (i_aload 0 (i_getR 64 74 (i_iload 5 (i_ald 74 200 (i_dup2 (i_ald 124 8 (i_const (.int 1) (i_ibin (· + ·) (i_ast 124 8 (fun x => x) (i_iinc 4 1 (i_iinc 5 1 (i_jmp 30 [true, true, true, true, true, true, false])))))))))))))) (i_iinc 5 1 (i_jmp 30 [true, true, true, true, true, true, false]))))))))))))))))))))))))))))
noncomputable def B_X12_unlike_115 : pb_C := (i_iload 6 (i_const (.int 8) (i_ic_ge (i_iload 4 (i_if_ne (i_iload 4 (i_aload 0 (i_getR 64 124 (i_iload 5 (i_ald 124 8 (i_ibin (· - ·) i_iret)))))) (i_const (.int (-1)) i_iret))) (i_aload 0 (i_getR 64 124 (i_iload 6 (i_ald 124 8 (i_aload 0 (i_getR 64 124 (i_iload 5 (i_ald 124 8 (i_ic_le (i_iinc 6 1 (i_jmp 115 [true, false, false, false, true, true, true])) (i_iload 6 (i_istore 5 (i_iinc 6 1 (i_jmp 115 [true, false, false, false, true, true, true]))))))))))))))))
noncomputable def T_X12_unlike : Nat → pb_C := pb_tt [(0, B_X12_unlike_0), (3, B_X12_unlike_3), (30, B_X12_unlike_30), (115, B_X12_unlike_115)]
noncomputable def M_X12_unlike : pb_F := pb_M T_X12_unlike 7
set_option maxRecDepth 100000 in
set_option maxHeartbeats 4000000 in
theorem S_X12_unlike (l : Launch) : pb_Sound l yX12_unlike cX12_unlike 7 (some .int) 2 M_X12_unlike := by
  refine pb_sound_of (by decide) m_9_107 ?_
  intro Γ hl0 hRm0 hm X E hr J
  have hnL : ∀ j, j < 7 → j < Γ.2.2.2.2.2.2.2.2.2.2.2.1 := fun j h => by rw [hm]; exact h
  have hR : ∀ (d' mL : Nat), d' + 1 ≤ 2 ∧ 8 + (mL + 11) + d' * 64 ≤ 2 * 64 → (pb_rm d').frames + 1 ≤ Γ.2.2.2.1.frames ∧ 8 + (mL + 11) + (pb_rm d').locals ≤ Γ.2.2.2.1.locals := by rw [hRm0]; exact fun _ _ h => h
  have hRm : 1 ≤ 2 ∧ 64 ≤ 2 * 64 → 1 ≤ Γ.2.2.2.1.frames ∧ 64 ≤ Γ.2.2.2.1.locals := by rw [hRm0]; exact fun h => h
  exact pb_tt_snd _ (List.forall_mem_cons.mpr ⟨(s_iconst (pc := 0) X dX12_unlike_0 rfl (s_istore (pc := 1) X dX12_unlike_1 (hnL _ (by decide)) (s_jmp (pc := 3) J [true, true, true, true, true, false, false]))), List.forall_mem_cons.mpr ⟨(s_iload (pc := 3) X dX12_unlike_3 (s_bipush (pc := 5) X dX12_unlike_5 rfl (s_ic_ge (pc := 7) X dX12_unlike_7 (by decide) (s_iconst (pc := 24) X dX12_unlike_24 rfl (s_istore (pc := 25) X dX12_unlike_25 (hnL _ (by decide)) (s_iconst (pc := 27) X dX12_unlike_27 rfl (s_istore (pc := 28) X dX12_unlike_28 (hnL _ (by decide)) (s_jmp (pc := 30) J [true, true, true, true, true, true, false]))))) (s_aload_n (pc := 10) X dX12_unlike_10 rfl (s_getR (pc := 11) X dX12_unlike_11 g_X12_213 (s_iload (pc := 14) X dX12_unlike_14 (s_iconst (pc := 16) X dX12_unlike_16 rfl (s_iast (pc := 17) X dX12_unlike_17 h_124 (s_iinc (pc := 18) X dX12_unlike_18 rfl (s_goto (pc := 21) X dX12_unlike_21 (by decide) (s_jmp (pc := 3) J [true, true, true, true, true, false, false]))))))))))), List.forall_mem_cons.mpr ⟨(s_iload (pc := 30) X dX12_unlike_30 (s_aload_n (pc := 32) X dX12_unlike_32 rfl (s_getI (pc := 33) X dX12_unlike_33 g_X12_261 (s_ic_ge (pc := 36) X dX12_unlike_36 (by decide) (s_iconst (pc := 109) X dX12_unlike_109 rfl (s_istore (pc := 110) X dX12_unlike_110 (hnL _ (by decide)) (s_iconst (pc := 112) X dX12_unlike_112 rfl (s_istore (pc := 113) X dX12_unlike_113 (hnL _ (by decide)) (s_jmp (pc := 115) J [true, false, false, false, true, true, true]))))) (s_aload_n (pc := 39) X dX12_unlike_39 rfl (s_getR (pc := 40) X dX12_unlike_40 g_X12_34 (s_iload (pc := 43) X dX12_unlike_43 (s_iald (pc := 45) X dX12_unlike_45 h_70 (s_iload_n (pc := 46) X dX12_unlike_46 rfl (s_ic_ne (pc := 47) X dX12_unlike_47 (by decide) (s_iinc (pc := 103) X dX12_unlike_103 rfl (s_goto (pc := 106) X dX12_unlike_106 (by decide) (s_jmp (pc := 30) J [true, true, true, true, true, true, false]))) (s_aload_n (pc := 50) X dX12_unlike_50 rfl (s_iload (pc := 51) X dX12_unlike_51 (s_callV (pc := 53) X dX12_unlike_53 (S_X12_isKnown _) q_X12_305 h_64 rfl (hR _ _ (by decide)) (s_if_eq (pc := 56) X dX12_unlike_56 (by decide) (s_iinc (pc := 103) X dX12_unlike_103 rfl (s_goto (pc := 106) X dX12_unlike_106 (by decide) (s_jmp (pc := 30) J [true, true, true, true, true, true, false]))) (s_aload_n (pc := 59) X dX12_unlike_59 rfl (s_getR (pc := 60) X dX12_unlike_60 g_X12_37 (s_iload (pc := 63) X dX12_unlike_63 (s_iald (pc := 65) X dX12_unlike_65 h_71 (s_iload_n (pc := 66) X dX12_unlike_66 rfl (s_ic_lt (pc := 67) X dX12_unlike_67 (by decide) (s_iinc (pc := 103) X dX12_unlike_103 rfl (s_goto (pc := 106) X dX12_unlike_106 (by decide) (s_jmp (pc := 30) J [true, true, true, true, true, true, false]))) (s_aload_n (pc := 70) X dX12_unlike_70 rfl (s_getR (pc := 71) X dX12_unlike_71 g_X12_37 (s_iload (pc := 74) X dX12_unlike_74 (s_iald (pc := 76) X dX12_unlike_76 h_71 (s_iload_n (pc := 77) X dX12_unlike_77 rfl (s_ic_lt (pc := 78) X dX12_unlike_78 (by decide) (s_aload_n (pc := 84) X dX12_unlike_84 rfl (s_getR (pc := 85) X dX12_unlike_85 g_X12_213 (s_aload_n (pc := 88) X dX12_unlike_88 rfl (s_getR (pc := 89) X dX12_unlike_89 g_X12_46 (s_iload (pc := 92) X dX12_unlike_92 (s_iald (pc := 94) X dX12_unlike_94 h_74 (s_dup2 (pc := 95) X dX12_unlike_95 (s_iald (pc := 96) X dX12_unlike_96 h_124 (s_iconst (pc := 97) X dX12_unlike_97 rfl (s_iadd (pc := 98) X dX12_unlike_98 (s_iast (pc := 99) X dX12_unlike_99 h_124 (s_iinc (pc := 100) X dX12_unlike_100 rfl (s_iinc (pc := 103) X dX12_unlike_103 rfl (s_goto (pc := 106) X dX12_unlike_106 (by decide) (s_jmp (pc := 30) J [true, true, true, true, true, true, false]))))))))))))))) (s_goto (pc := 81) X dX12_unlike_81 (by decide) (s_iinc (pc := 103) X dX12_unlike_103 rfl (s_goto (pc := 106) X dX12_unlike_106 (by decide) (s_jmp (pc := 30) J [true, true, true, true, true, true, false])))))))))))))))))))))))))))))), List.forall_mem_cons.mpr ⟨(s_iload (pc := 115) X dX12_unlike_115 (s_bipush (pc := 117) X dX12_unlike_117 rfl (s_ic_ge (pc := 119) X dX12_unlike_119 (by decide) (s_iload (pc := 149) X dX12_unlike_149 (s_if_ne (pc := 151) X dX12_unlike_151 (by decide) (s_iload (pc := 158) X dX12_unlike_158 (s_aload_n (pc := 160) X dX12_unlike_160 rfl (s_getR (pc := 161) X dX12_unlike_161 g_X12_213 (s_iload (pc := 164) X dX12_unlike_164 (s_iald (pc := 166) X dX12_unlike_166 h_124 (s_isub (pc := 167) X dX12_unlike_167 (s_iret (pc := 168) X E hr dX12_unlike_168))))))) (s_iconst (pc := 154) X dX12_unlike_154 rfl (s_goto (pc := 155) X dX12_unlike_155 (by decide) (s_iret (pc := 168) X E hr dX12_unlike_168))))) (s_aload_n (pc := 122) X dX12_unlike_122 rfl (s_getR (pc := 123) X dX12_unlike_123 g_X12_213 (s_iload (pc := 126) X dX12_unlike_126 (s_iald (pc := 128) X dX12_unlike_128 h_124 (s_aload_n (pc := 129) X dX12_unlike_129 rfl (s_getR (pc := 130) X dX12_unlike_130 g_X12_213 (s_iload (pc := 133) X dX12_unlike_133 (s_iald (pc := 135) X dX12_unlike_135 h_124 (s_ic_le (pc := 136) X dX12_unlike_136 (by decide) (s_iinc (pc := 143) X dX12_unlike_143 rfl (s_goto (pc := 146) X dX12_unlike_146 (by decide) (s_jmp (pc := 115) J [true, false, false, false, true, true, true]))) (s_iload (pc := 139) X dX12_unlike_139 (s_istore (pc := 141) X dX12_unlike_141 (hnL _ (by decide)) (s_iinc (pc := 143) X dX12_unlike_143 rfl (s_goto (pc := 146) X dX12_unlike_146 (by decide) (s_jmp (pc := 115) J [true, false, false, false, true, true, true]))))))))))))))))), fun _ h => absurd h List.not_mem_nil⟩⟩⟩⟩)
theorem dX12_change_0 : decode cX12_change 0 = .ok (.aload_n 0, 1) := by decide +kernel
theorem dX12_change_1 : decode cX12_change 1 = .ok (.iload_n 1, 1) := by decide +kernel
theorem dX12_change_2 : decode cX12_change 2 = .ok (.invokevirtual 284, 3) := by decide +kernel
theorem dX12_change_5 : decode cX12_change 5 = .ok (.ifCond .eq 12, 3) := by decide +kernel
theorem dX12_change_8 : decode cX12_change 8 = .ok (.iload_n 2, 1) := by decide +kernel
theorem dX12_change_9 : decode cX12_change 9 = .ok (.ifCond .lt 8, 3) := by decide +kernel
theorem dX12_change_12 : decode cX12_change 12 = .ok (.iload_n 2, 1) := by decide +kernel
theorem dX12_change_13 : decode cX12_change 13 = .ok (.iconst 2, 1) := by decide +kernel
theorem dX12_change_14 : decode cX12_change 14 = .ok (.if_icmp .le 9, 3) := by decide +kernel
theorem dX12_change_17 : decode cX12_change 17 = .ok (.aload_n 0, 1) := by decide +kernel
theorem dX12_change_18 : decode cX12_change 18 = .ok (.iconst 1, 1) := by decide +kernel
theorem dX12_change_19 : decode cX12_change 19 = .ok (.invokevirtual 267, 3) := by decide +kernel
theorem dX12_change_22 : decode cX12_change 22 = .ok (.ireturn, 1) := by decide +kernel
theorem dX12_change_23 : decode cX12_change 23 = .ok (.iload_n 2, 1) := by decide +kernel
theorem dX12_change_24 : decode cX12_change 24 = .ok (.iconst 2, 1) := by decide +kernel
theorem dX12_change_25 : decode cX12_change 25 = .ok (.if_icmp .ne 33, 3) := by decide +kernel
theorem dX12_change_28 : decode cX12_change 28 = .ok (.aload_n 0, 1) := by decide +kernel
theorem dX12_change_29 : decode cX12_change 29 = .ok (.iload_n 1, 1) := by decide +kernel
theorem dX12_change_30 : decode cX12_change 30 = .ok (.iconst 0, 1) := by decide +kernel
theorem dX12_change_31 : decode cX12_change 31 = .ok (.sipush 520, 3) := by decide +kernel
theorem dX12_change_34 : decode cX12_change 34 = .ok (.invokevirtual 535, 3) := by decide +kernel
theorem dX12_change_37 : decode cX12_change 37 = .ok (.istore_n 3, 1) := by decide +kernel
theorem dX12_change_38 : decode cX12_change 38 = .ok (.iload_n 3, 1) := by decide +kernel
theorem dX12_change_39 : decode cX12_change 39 = .ok (.iconst (-1), 1) := by decide +kernel
theorem dX12_change_40 : decode cX12_change 40 = .ok (.if_icmp .ne 12, 3) := by decide +kernel
theorem dX12_change_43 : decode cX12_change 43 = .ok (.aload_n 0, 1) := by decide +kernel
theorem dX12_change_44 : decode cX12_change 44 = .ok (.bipush 6, 2) := by decide +kernel
theorem dX12_change_46 : decode cX12_change 46 = .ok (.invokevirtual 267, 3) := by decide +kernel
theorem dX12_change_49 : decode cX12_change 49 = .ok (.goto 8, 3) := by decide +kernel
theorem dX12_change_52 : decode cX12_change 52 = .ok (.aload_n 0, 1) := by decide +kernel
theorem dX12_change_53 : decode cX12_change 53 = .ok (.iload_n 3, 1) := by decide +kernel
theorem dX12_change_54 : decode cX12_change 54 = .ok (.invokevirtual 237, 3) := by decide +kernel
theorem dX12_change_57 : decode cX12_change 57 = .ok (.ireturn, 1) := by decide +kernel
theorem dX12_change_58 : decode cX12_change 58 = .ok (.iconst (-1), 1) := by decide +kernel
theorem dX12_change_59 : decode cX12_change 59 = .ok (.istore_n 3, 1) := by decide +kernel
theorem dX12_change_60 : decode cX12_change 60 = .ok (.ldc_w 539, 3) := by decide +kernel
theorem dX12_change_63 : decode cX12_change 63 = .ok (.istore 4, 2) := by decide +kernel
theorem dX12_change_65 : decode cX12_change 65 = .ok (.iconst 1, 1) := by decide +kernel
theorem dX12_change_66 : decode cX12_change 66 = .ok (.istore 5, 2) := by decide +kernel
theorem dX12_change_68 : decode cX12_change 68 = .ok (.iload 5, 2) := by decide +kernel
theorem dX12_change_70 : decode cX12_change 70 = .ok (.sipush 520, 3) := by decide +kernel
theorem dX12_change_73 : decode cX12_change 73 = .ok (.if_icmp .ge 66, 3) := by decide +kernel
theorem dX12_change_76 : decode cX12_change 76 = .ok (.aload_n 0, 1) := by decide +kernel
theorem dX12_change_77 : decode cX12_change 77 = .ok (.iload_n 1, 1) := by decide +kernel
theorem dX12_change_78 : decode cX12_change 78 = .ok (.iconst 0, 1) := by decide +kernel
theorem dX12_change_79 : decode cX12_change 79 = .ok (.iload 5, 2) := by decide +kernel
theorem dX12_change_81 : decode cX12_change 81 = .ok (.invokevirtual 535, 3) := by decide +kernel
theorem dX12_change_84 : decode cX12_change 84 = .ok (.istore 6, 2) := by decide +kernel
theorem dX12_change_86 : decode cX12_change 86 = .ok (.aload_n 0, 1) := by decide +kernel
theorem dX12_change_87 : decode cX12_change 87 = .ok (.iload_n 1, 1) := by decide +kernel
theorem dX12_change_88 : decode cX12_change 88 = .ok (.iload 5, 2) := by decide +kernel
theorem dX12_change_90 : decode cX12_change 90 = .ok (.sipush 520, 3) := by decide +kernel
theorem dX12_change_93 : decode cX12_change 93 = .ok (.invokevirtual 535, 3) := by decide +kernel
theorem dX12_change_96 : decode cX12_change 96 = .ok (.istore 7, 2) := by decide +kernel
theorem dX12_change_98 : decode cX12_change 98 = .ok (.iload 6, 2) := by decide +kernel
theorem dX12_change_100 : decode cX12_change 100 = .ok (.iconst (-1), 1) := by decide +kernel
theorem dX12_change_101 : decode cX12_change 101 = .ok (.if_icmp .eq 32, 3) := by decide +kernel
theorem dX12_change_104 : decode cX12_change 104 = .ok (.iload 7, 2) := by decide +kernel
theorem dX12_change_106 : decode cX12_change 106 = .ok (.iconst (-1), 1) := by decide +kernel
theorem dX12_change_107 : decode cX12_change 107 = .ok (.if_icmp .eq 26, 3) := by decide +kernel
theorem dX12_change_110 : decode cX12_change 110 = .ok (.iload 6, 2) := by decide +kernel
theorem dX12_change_112 : decode cX12_change 112 = .ok (.iload 7, 2) := by decide +kernel
theorem dX12_change_114 : decode cX12_change 114 = .ok (.iadd, 1) := by decide +kernel
theorem dX12_change_115 : decode cX12_change 115 = .ok (.iload 4, 2) := by decide +kernel
theorem dX12_change_117 : decode cX12_change 117 = .ok (.if_icmp .lt 6, 3) := by decide +kernel
theorem dX12_change_120 : decode cX12_change 120 = .ok (.goto 13, 3) := by decide +kernel
theorem dX12_change_123 : decode cX12_change 123 = .ok (.iload 6, 2) := by decide +kernel
theorem dX12_change_125 : decode cX12_change 125 = .ok (.iload 7, 2) := by decide +kernel
theorem dX12_change_127 : decode cX12_change 127 = .ok (.iadd, 1) := by decide +kernel
theorem dX12_change_128 : decode cX12_change 128 = .ok (.istore 4, 2) := by decide +kernel
theorem dX12_change_130 : decode cX12_change 130 = .ok (.iload 5, 2) := by decide +kernel
theorem dX12_change_132 : decode cX12_change 132 = .ok (.istore_n 3, 1) := by decide +kernel
theorem dX12_change_133 : decode cX12_change 133 = .ok (.iinc 5 1, 3) := by decide +kernel
theorem dX12_change_136 : decode cX12_change 136 = .ok (.goto (-68), 3) := by decide +kernel
theorem dX12_change_139 : decode cX12_change 139 = .ok (.iload_n 3, 1) := by decide +kernel
theorem dX12_change_140 : decode cX12_change 140 = .ok (.iconst (-1), 1) := by decide +kernel
theorem dX12_change_141 : decode cX12_change 141 = .ok (.if_icmp .ne 12, 3) := by decide +kernel
theorem dX12_change_144 : decode cX12_change 144 = .ok (.aload_n 0, 1) := by decide +kernel
theorem dX12_change_145 : decode cX12_change 145 = .ok (.bipush 6, 2) := by decide +kernel
theorem dX12_change_147 : decode cX12_change 147 = .ok (.invokevirtual 267, 3) := by decide +kernel
theorem dX12_change_150 : decode cX12_change 150 = .ok (.goto 17, 3) := by decide +kernel
theorem dX12_change_153 : decode cX12_change 153 = .ok (.aload_n 0, 1) := by decide +kernel
theorem dX12_change_154 : decode cX12_change 154 = .ok (.iload_n 2, 1) := by decide +kernel
theorem dX12_change_155 : decode cX12_change 155 = .ok (.ifCond .ne 7, 3) := by decide +kernel
theorem dX12_change_158 : decode cX12_change 158 = .ok (.iload_n 3, 1) := by decide +kernel
theorem dX12_change_159 : decode cX12_change 159 = .ok (.goto 5, 3) := by decide +kernel
theorem dX12_change_162 : decode cX12_change 162 = .ok (.iload 4, 2) := by decide +kernel
theorem dX12_change_164 : decode cX12_change 164 = .ok (.invokevirtual 237, 3) := by decide +kernel
theorem dX12_change_167 : decode cX12_change 167 = .ok (.ireturn, 1) := by decide +kernel
noncomputable def B_X12_change_0 : pb_C := (i_aload 0 (i_iload 1 (i_callV 64 1 1 M_X12_isFamily (i_if_eq (i_aload 0 (i_const (.int 1) (i_callV 64 1 1 M_X12_refuse i_iret))) (i_iload 2 (i_if_lt (i_aload 0 (i_const (.int 1) (i_callV 64 1 1 M_X12_refuse i_iret))) (i_iload 2 (i_const (.int 2) (i_ic_le (i_iload 2 (i_const (.int 2) (i_ic_ne (i_const (.int (-1)) (i_istore 3 (i_const (.int (1000000000)) (i_istore 4 (i_const (.int 1) (i_istore 5 (i_jmp 68 [true, true, true, true, true, true, false, false]))))))) (i_aload 0 (i_iload 1 (i_const (.int 0) (i_const (.int 520) (i_callV 64 3 1 M_X12_unlike (i_istore 3 (i_iload 3 (i_const (.int (-1)) (i_ic_ne (i_aload 0 (i_iload 3 (i_callV 64 1 1 M_X12_gives i_iret))) (i_aload 0 (i_const (.int 6) (i_callV 64 1 1 M_X12_refuse i_iret))))))))))))))) (i_aload 0 (i_const (.int 1) (i_callV 64 1 1 M_X12_refuse i_iret))))))))))))
noncomputable def B_X12_change_68 : pb_C := (i_iload 5 (i_const (.int 520) (i_ic_ge (i_iload 3 (i_const (.int (-1)) (i_ic_ne (i_aload 0 (i_iload 2 (i_if_ne (i_iload 4 (i_callV 64 1 1 M_X12_gives i_iret)) (i_iload 3 (i_callV 64 1 1 M_X12_gives i_iret))))) (i_aload 0 (i_const (.int 6) (i_callV 64 1 1 M_X12_refuse i_iret)))))) (i_aload 0 (i_iload 1 (i_const (.int 0) (i_iload 5 (i_callV 64 3 1 M_X12_unlike (i_istore 6 (i_aload 0 (i_iload 1 (i_iload 5 (i_const (.int 520) (i_callV 64 3 1 M_X12_unlike (i_istore 7 (i_iload 6 (i_const (.int (-1)) (i_ic_eq (i_iinc 5 1 (i_jmp 68 [true, true, true, true, true, true, false, false])) (i_iload 7 (i_const (.int (-1)) (i_ic_eq (i_iinc 5 1 (i_jmp 68 [true, true, true, true, true, true, false, false])) (i_iload 6 (i_iload 7 (i_ibin (· + ·) (i_iload 4 (i_ic_lt (i_iload 6 (i_iload 7 (i_ibin (· + ·) (i_istore 4 (i_iload 5 (i_istore 3 (i_iinc 5 1 (i_jmp 68 [true, true, true, true, true, true, false, false])))))))) (i_iinc 5 1 (i_jmp 68 [true, true, true, true, true, true, false, false]))))))))))))))))))))))))))))
noncomputable def T_X12_change : Nat → pb_C := pb_tt [(0, B_X12_change_0), (68, B_X12_change_68)]
noncomputable def M_X12_change : pb_F := pb_M T_X12_change 8
set_option maxRecDepth 100000 in
set_option maxHeartbeats 4000000 in
theorem S_X12_change (l : Launch) : pb_Sound l yX12_change cX12_change 8 (some .int) 3 M_X12_change := by
  refine pb_sound_of (by decide) m_9_103 ?_
  intro Γ hl0 hRm0 hm X E hr J
  have hnL : ∀ j, j < 8 → j < Γ.2.2.2.2.2.2.2.2.2.2.2.1 := fun j h => by rw [hm]; exact h
  have hR : ∀ (d' mL : Nat), d' + 1 ≤ 3 ∧ 8 + (mL + 11) + d' * 64 ≤ 3 * 64 → (pb_rm d').frames + 1 ≤ Γ.2.2.2.1.frames ∧ 8 + (mL + 11) + (pb_rm d').locals ≤ Γ.2.2.2.1.locals := by rw [hRm0]; exact fun _ _ h => h
  have hRm : 1 ≤ 3 ∧ 64 ≤ 3 * 64 → 1 ≤ Γ.2.2.2.1.frames ∧ 64 ≤ Γ.2.2.2.1.locals := by rw [hRm0]; exact fun h => h
  exact pb_tt_snd _ (List.forall_mem_cons.mpr ⟨(s_aload_n (pc := 0) X dX12_change_0 rfl (s_iload_n (pc := 1) X dX12_change_1 rfl (s_callV (pc := 2) X dX12_change_2 (S_X12_isFamily _) q_X12_284 h_64 rfl (hR _ _ (by decide)) (s_if_eq (pc := 5) X dX12_change_5 (by decide) (s_aload_n (pc := 17) X dX12_change_17 rfl (s_iconst (pc := 18) X dX12_change_18 rfl (s_callV (pc := 19) X dX12_change_19 (S_X12_refuse _) q_X12_267 h_64 rfl (hR _ _ (by decide)) (s_iret (pc := 22) X E hr dX12_change_22)))) (s_iload_n (pc := 8) X dX12_change_8 rfl (s_if_lt (pc := 9) X dX12_change_9 (by decide) (s_aload_n (pc := 17) X dX12_change_17 rfl (s_iconst (pc := 18) X dX12_change_18 rfl (s_callV (pc := 19) X dX12_change_19 (S_X12_refuse _) q_X12_267 h_64 rfl (hR _ _ (by decide)) (s_iret (pc := 22) X E hr dX12_change_22)))) (s_iload_n (pc := 12) X dX12_change_12 rfl (s_iconst (pc := 13) X dX12_change_13 rfl (s_ic_le (pc := 14) X dX12_change_14 (by decide) (s_iload_n (pc := 23) X dX12_change_23 rfl (s_iconst (pc := 24) X dX12_change_24 rfl (s_ic_ne (pc := 25) X dX12_change_25 (by decide) (s_iconst (pc := 58) X dX12_change_58 rfl (s_istore_n (pc := 59) X dX12_change_59 rfl (hnL _ (by decide)) (s_ldc_w (pc := 60) X dX12_change_60 m_9_108 (s_istore (pc := 63) X dX12_change_63 (hnL _ (by decide)) (s_iconst (pc := 65) X dX12_change_65 rfl (s_istore (pc := 66) X dX12_change_66 (hnL _ (by decide)) (s_jmp (pc := 68) J [true, true, true, true, true, true, false, false]))))))) (s_aload_n (pc := 28) X dX12_change_28 rfl (s_iload_n (pc := 29) X dX12_change_29 rfl (s_iconst (pc := 30) X dX12_change_30 rfl (s_sipush (pc := 31) X dX12_change_31 rfl (s_callV (pc := 34) X dX12_change_34 (S_X12_unlike _) q_X12_535 h_64 rfl (hR _ _ (by decide)) (s_istore_n (pc := 37) X dX12_change_37 rfl (hnL _ (by decide)) (s_iload_n (pc := 38) X dX12_change_38 rfl (s_iconst (pc := 39) X dX12_change_39 rfl (s_ic_ne (pc := 40) X dX12_change_40 (by decide) (s_aload_n (pc := 52) X dX12_change_52 rfl (s_iload_n (pc := 53) X dX12_change_53 rfl (s_callV (pc := 54) X dX12_change_54 (S_X12_gives _) q_X12_237 h_64 rfl (hR _ _ (by decide)) (s_iret (pc := 57) X E hr dX12_change_57)))) (s_aload_n (pc := 43) X dX12_change_43 rfl (s_bipush (pc := 44) X dX12_change_44 rfl (s_callV (pc := 46) X dX12_change_46 (S_X12_refuse _) q_X12_267 h_64 rfl (hR _ _ (by decide)) (s_goto (pc := 49) X dX12_change_49 (by decide) (s_iret (pc := 57) X E hr dX12_change_57))))))))))))))))) (s_aload_n (pc := 17) X dX12_change_17 rfl (s_iconst (pc := 18) X dX12_change_18 rfl (s_callV (pc := 19) X dX12_change_19 (S_X12_refuse _) q_X12_267 h_64 rfl (hR _ _ (by decide)) (s_iret (pc := 22) X E hr dX12_change_22))))))))))))), List.forall_mem_cons.mpr ⟨(s_iload (pc := 68) X dX12_change_68 (s_sipush (pc := 70) X dX12_change_70 rfl (s_ic_ge (pc := 73) X dX12_change_73 (by decide) (s_iload_n (pc := 139) X dX12_change_139 rfl (s_iconst (pc := 140) X dX12_change_140 rfl (s_ic_ne (pc := 141) X dX12_change_141 (by decide) (s_aload_n (pc := 153) X dX12_change_153 rfl (s_iload_n (pc := 154) X dX12_change_154 rfl (s_if_ne (pc := 155) X dX12_change_155 (by decide) (s_iload (pc := 162) X dX12_change_162 (s_callV (pc := 164) X dX12_change_164 (S_X12_gives _) q_X12_237 h_64 rfl (hR _ _ (by decide)) (s_iret (pc := 167) X E hr dX12_change_167))) (s_iload_n (pc := 158) X dX12_change_158 rfl (s_goto (pc := 159) X dX12_change_159 (by decide) (s_callV (pc := 164) X dX12_change_164 (S_X12_gives _) q_X12_237 h_64 rfl (hR _ _ (by decide)) (s_iret (pc := 167) X E hr dX12_change_167))))))) (s_aload_n (pc := 144) X dX12_change_144 rfl (s_bipush (pc := 145) X dX12_change_145 rfl (s_callV (pc := 147) X dX12_change_147 (S_X12_refuse _) q_X12_267 h_64 rfl (hR _ _ (by decide)) (s_goto (pc := 150) X dX12_change_150 (by decide) (s_iret (pc := 167) X E hr dX12_change_167)))))))) (s_aload_n (pc := 76) X dX12_change_76 rfl (s_iload_n (pc := 77) X dX12_change_77 rfl (s_iconst (pc := 78) X dX12_change_78 rfl (s_iload (pc := 79) X dX12_change_79 (s_callV (pc := 81) X dX12_change_81 (S_X12_unlike _) q_X12_535 h_64 rfl (hR _ _ (by decide)) (s_istore (pc := 84) X dX12_change_84 (hnL _ (by decide)) (s_aload_n (pc := 86) X dX12_change_86 rfl (s_iload_n (pc := 87) X dX12_change_87 rfl (s_iload (pc := 88) X dX12_change_88 (s_sipush (pc := 90) X dX12_change_90 rfl (s_callV (pc := 93) X dX12_change_93 (S_X12_unlike _) q_X12_535 h_64 rfl (hR _ _ (by decide)) (s_istore (pc := 96) X dX12_change_96 (hnL _ (by decide)) (s_iload (pc := 98) X dX12_change_98 (s_iconst (pc := 100) X dX12_change_100 rfl (s_ic_eq (pc := 101) X dX12_change_101 (by decide) (s_iinc (pc := 133) X dX12_change_133 rfl (s_goto (pc := 136) X dX12_change_136 (by decide) (s_jmp (pc := 68) J [true, true, true, true, true, true, false, false]))) (s_iload (pc := 104) X dX12_change_104 (s_iconst (pc := 106) X dX12_change_106 rfl (s_ic_eq (pc := 107) X dX12_change_107 (by decide) (s_iinc (pc := 133) X dX12_change_133 rfl (s_goto (pc := 136) X dX12_change_136 (by decide) (s_jmp (pc := 68) J [true, true, true, true, true, true, false, false]))) (s_iload (pc := 110) X dX12_change_110 (s_iload (pc := 112) X dX12_change_112 (s_iadd (pc := 114) X dX12_change_114 (s_iload (pc := 115) X dX12_change_115 (s_ic_lt (pc := 117) X dX12_change_117 (by decide) (s_iload (pc := 123) X dX12_change_123 (s_iload (pc := 125) X dX12_change_125 (s_iadd (pc := 127) X dX12_change_127 (s_istore (pc := 128) X dX12_change_128 (hnL _ (by decide)) (s_iload (pc := 130) X dX12_change_130 (s_istore_n (pc := 132) X dX12_change_132 rfl (hnL _ (by decide)) (s_iinc (pc := 133) X dX12_change_133 rfl (s_goto (pc := 136) X dX12_change_136 (by decide) (s_jmp (pc := 68) J [true, true, true, true, true, true, false, false]))))))))) (s_goto (pc := 120) X dX12_change_120 (by decide) (s_iinc (pc := 133) X dX12_change_133 rfl (s_goto (pc := 136) X dX12_change_136 (by decide) (s_jmp (pc := 68) J [true, true, true, true, true, true, false, false])))))))))))))))))))))))))))))), fun _ h => absurd h List.not_mem_nil⟩⟩)
theorem dX12_weights_0 : decode cX12_weights 0 = .ok (.iload_n 1, 1) := by decide +kernel
theorem dX12_weights_1 : decode cX12_weights 1 = .ok (.iconst 1, 1) := by decide +kernel
theorem dX12_weights_2 : decode cX12_weights 2 = .ok (.if_icmp .lt 34, 3) := by decide +kernel
theorem dX12_weights_5 : decode cX12_weights 5 = .ok (.iload_n 1, 1) := by decide +kernel
theorem dX12_weights_6 : decode cX12_weights 6 = .ok (.bipush 8, 2) := by decide +kernel
theorem dX12_weights_8 : decode cX12_weights 8 = .ok (.if_icmp .gt 28, 3) := by decide +kernel
theorem dX12_weights_11 : decode cX12_weights 11 = .ok (.iload_n 1, 1) := by decide +kernel
theorem dX12_weights_12 : decode cX12_weights 12 = .ok (.aload_n 0, 1) := by decide +kernel
theorem dX12_weights_13 : decode cX12_weights 13 = .ok (.getfield 258, 3) := by decide +kernel
theorem dX12_weights_16 : decode cX12_weights 16 = .ok (.if_icmp .gt 20, 3) := by decide +kernel
theorem dX12_weights_19 : decode cX12_weights 19 = .ok (.iload_n 2, 1) := by decide +kernel
theorem dX12_weights_20 : decode cX12_weights 20 = .ok (.iconst 1, 1) := by decide +kernel
theorem dX12_weights_21 : decode cX12_weights 21 = .ok (.if_icmp .lt 15, 3) := by decide +kernel
theorem dX12_weights_24 : decode cX12_weights 24 = .ok (.iload_n 2, 1) := by decide +kernel
theorem dX12_weights_25 : decode cX12_weights 25 = .ok (.iconst 4, 1) := by decide +kernel
theorem dX12_weights_26 : decode cX12_weights 26 = .ok (.if_icmp .gt 10, 3) := by decide +kernel
theorem dX12_weights_29 : decode cX12_weights 29 = .ok (.iload_n 3, 1) := by decide +kernel
theorem dX12_weights_30 : decode cX12_weights 30 = .ok (.invokestatic 241, 3) := by decide +kernel
theorem dX12_weights_33 : decode cX12_weights 33 = .ok (.ifCond .ne 9, 3) := by decide +kernel
theorem dX12_weights_36 : decode cX12_weights 36 = .ok (.aload_n 0, 1) := by decide +kernel
theorem dX12_weights_37 : decode cX12_weights 37 = .ok (.iconst 1, 1) := by decide +kernel
theorem dX12_weights_38 : decode cX12_weights 38 = .ok (.invokevirtual 267, 3) := by decide +kernel
theorem dX12_weights_41 : decode cX12_weights 41 = .ok (.ireturn, 1) := by decide +kernel
theorem dX12_weights_42 : decode cX12_weights 42 = .ok (.aload_n 0, 1) := by decide +kernel
theorem dX12_weights_43 : decode cX12_weights 43 = .ok (.getfield 17, 3) := by decide +kernel
theorem dX12_weights_46 : decode cX12_weights 46 = .ok (.iload_n 3, 1) := by decide +kernel
theorem dX12_weights_47 : decode cX12_weights 47 = .ok (.iaload, 1) := by decide +kernel
theorem dX12_weights_48 : decode cX12_weights 48 = .ok (.iconst (-1), 1) := by decide +kernel
theorem dX12_weights_49 : decode cX12_weights 49 = .ok (.if_icmp .ne 9, 3) := by decide +kernel
theorem dX12_weights_52 : decode cX12_weights 52 = .ok (.aload_n 0, 1) := by decide +kernel
theorem dX12_weights_53 : decode cX12_weights 53 = .ok (.iconst 2, 1) := by decide +kernel
theorem dX12_weights_54 : decode cX12_weights 54 = .ok (.invokevirtual 267, 3) := by decide +kernel
theorem dX12_weights_57 : decode cX12_weights 57 = .ok (.ireturn, 1) := by decide +kernel
theorem dX12_weights_58 : decode cX12_weights 58 = .ok (.aload_n 0, 1) := by decide +kernel
theorem dX12_weights_59 : decode cX12_weights 59 = .ok (.getfield 17, 3) := by decide +kernel
theorem dX12_weights_62 : decode cX12_weights 62 = .ok (.iload_n 3, 1) := by decide +kernel
theorem dX12_weights_63 : decode cX12_weights 63 = .ok (.iaload, 1) := by decide +kernel
theorem dX12_weights_64 : decode cX12_weights 64 = .ok (.bipush 8, 2) := by decide +kernel
theorem dX12_weights_66 : decode cX12_weights 66 = .ok (.if_icmp .ge 9, 3) := by decide +kernel
theorem dX12_weights_69 : decode cX12_weights 69 = .ok (.aload_n 0, 1) := by decide +kernel
theorem dX12_weights_70 : decode cX12_weights 70 = .ok (.iconst 3, 1) := by decide +kernel
theorem dX12_weights_71 : decode cX12_weights 71 = .ok (.invokevirtual 267, 3) := by decide +kernel
theorem dX12_weights_74 : decode cX12_weights 74 = .ok (.ireturn, 1) := by decide +kernel
theorem dX12_weights_75 : decode cX12_weights 75 = .ok (.iconst 0, 1) := by decide +kernel
theorem dX12_weights_76 : decode cX12_weights 76 = .ok (.istore 4, 2) := by decide +kernel
theorem dX12_weights_78 : decode cX12_weights 78 = .ok (.iload 4, 2) := by decide +kernel
theorem dX12_weights_80 : decode cX12_weights 80 = .ok (.bipush 8, 2) := by decide +kernel
theorem dX12_weights_82 : decode cX12_weights 82 = .ok (.if_icmp .ge 51, 3) := by decide +kernel
theorem dX12_weights_85 : decode cX12_weights 85 = .ok (.aload_n 0, 1) := by decide +kernel
theorem dX12_weights_86 : decode cX12_weights 86 = .ok (.getfield 20, 3) := by decide +kernel
theorem dX12_weights_89 : decode cX12_weights 89 = .ok (.bipush 60, 2) := by decide +kernel
theorem dX12_weights_91 : decode cX12_weights 91 = .ok (.iload_n 3, 1) := by decide +kernel
theorem dX12_weights_92 : decode cX12_weights 92 = .ok (.imul, 1) := by decide +kernel
theorem dX12_weights_93 : decode cX12_weights 93 = .ok (.iload 4, 2) := by decide +kernel
theorem dX12_weights_95 : decode cX12_weights 95 = .ok (.iadd, 1) := by decide +kernel
theorem dX12_weights_96 : decode cX12_weights 96 = .ok (.laload, 1) := by decide +kernel
theorem dX12_weights_97 : decode cX12_weights 97 = .ok (.lconst 0, 1) := by decide +kernel
theorem dX12_weights_98 : decode cX12_weights 98 = .ok (.lcmp, 1) := by decide +kernel
theorem dX12_weights_99 : decode cX12_weights 99 = .ok (.ifCond .lt 22, 3) := by decide +kernel
theorem dX12_weights_102 : decode cX12_weights 102 = .ok (.aload_n 0, 1) := by decide +kernel
theorem dX12_weights_103 : decode cX12_weights 103 = .ok (.getfield 20, 3) := by decide +kernel
theorem dX12_weights_106 : decode cX12_weights 106 = .ok (.bipush 60, 2) := by decide +kernel
theorem dX12_weights_108 : decode cX12_weights 108 = .ok (.iload_n 3, 1) := by decide +kernel
theorem dX12_weights_109 : decode cX12_weights 109 = .ok (.imul, 1) := by decide +kernel
theorem dX12_weights_110 : decode cX12_weights 110 = .ok (.iload 4, 2) := by decide +kernel
theorem dX12_weights_112 : decode cX12_weights 112 = .ok (.iadd, 1) := by decide +kernel
theorem dX12_weights_113 : decode cX12_weights 113 = .ok (.laload, 1) := by decide +kernel
theorem dX12_weights_114 : decode cX12_weights 114 = .ok (.ldc2_w 529, 3) := by decide +kernel
theorem dX12_weights_117 : decode cX12_weights 117 = .ok (.lcmp, 1) := by decide +kernel
theorem dX12_weights_118 : decode cX12_weights 118 = .ok (.ifCond .le 9, 3) := by decide +kernel
theorem dX12_weights_121 : decode cX12_weights 121 = .ok (.aload_n 0, 1) := by decide +kernel
theorem dX12_weights_122 : decode cX12_weights 122 = .ok (.iconst 1, 1) := by decide +kernel
theorem dX12_weights_123 : decode cX12_weights 123 = .ok (.invokevirtual 267, 3) := by decide +kernel
theorem dX12_weights_126 : decode cX12_weights 126 = .ok (.ireturn, 1) := by decide +kernel
theorem dX12_weights_127 : decode cX12_weights 127 = .ok (.iinc 4 1, 3) := by decide +kernel
theorem dX12_weights_130 : decode cX12_weights 130 = .ok (.goto (-52), 3) := by decide +kernel
theorem dX12_weights_133 : decode cX12_weights 133 = .ok (.iconst 1, 1) := by decide +kernel
theorem dX12_weights_134 : decode cX12_weights 134 = .ok (.istore 4, 2) := by decide +kernel
theorem dX12_weights_136 : decode cX12_weights 136 = .ok (.iconst 0, 1) := by decide +kernel
theorem dX12_weights_137 : decode cX12_weights 137 = .ok (.istore 5, 2) := by decide +kernel
theorem dX12_weights_139 : decode cX12_weights 139 = .ok (.iload 5, 2) := by decide +kernel
theorem dX12_weights_141 : decode cX12_weights 141 = .ok (.iload_n 1, 1) := by decide +kernel
theorem dX12_weights_142 : decode cX12_weights 142 = .ok (.if_icmp .ge 17, 3) := by decide +kernel
theorem dX12_weights_145 : decode cX12_weights 145 = .ok (.iload 4, 2) := by decide +kernel
theorem dX12_weights_147 : decode cX12_weights 147 = .ok (.iload_n 2, 1) := by decide +kernel
theorem dX12_weights_148 : decode cX12_weights 148 = .ok (.iconst 1, 1) := by decide +kernel
theorem dX12_weights_149 : decode cX12_weights 149 = .ok (.iadd, 1) := by decide +kernel
theorem dX12_weights_150 : decode cX12_weights 150 = .ok (.imul, 1) := by decide +kernel
theorem dX12_weights_151 : decode cX12_weights 151 = .ok (.istore 4, 2) := by decide +kernel
theorem dX12_weights_153 : decode cX12_weights 153 = .ok (.iinc 5 1, 3) := by decide +kernel
theorem dX12_weights_156 : decode cX12_weights 156 = .ok (.goto (-17), 3) := by decide +kernel
theorem dX12_weights_159 : decode cX12_weights 159 = .ok (.iconst (-1), 1) := by decide +kernel
theorem dX12_weights_160 : decode cX12_weights 160 = .ok (.istore 5, 2) := by decide +kernel
theorem dX12_weights_162 : decode cX12_weights 162 = .ok (.iconst 0, 1) := by decide +kernel
theorem dX12_weights_163 : decode cX12_weights 163 = .ok (.istore 6, 2) := by decide +kernel
theorem dX12_weights_165 : decode cX12_weights 165 = .ok (.iload 6, 2) := by decide +kernel
theorem dX12_weights_167 : decode cX12_weights 167 = .ok (.iload 4, 2) := by decide +kernel
theorem dX12_weights_169 : decode cX12_weights 169 = .ok (.if_icmp .ge 232, 3) := by decide +kernel
theorem dX12_weights_172 : decode cX12_weights 172 = .ok (.iload 6, 2) := by decide +kernel
theorem dX12_weights_174 : decode cX12_weights 174 = .ok (.istore 7, 2) := by decide +kernel
theorem dX12_weights_176 : decode cX12_weights 176 = .ok (.iload_n 1, 1) := by decide +kernel
theorem dX12_weights_177 : decode cX12_weights 177 = .ok (.iconst 1, 1) := by decide +kernel
theorem dX12_weights_178 : decode cX12_weights 178 = .ok (.isub, 1) := by decide +kernel
theorem dX12_weights_179 : decode cX12_weights 179 = .ok (.istore 8, 2) := by decide +kernel
theorem dX12_weights_181 : decode cX12_weights 181 = .ok (.iload 8, 2) := by decide +kernel
theorem dX12_weights_183 : decode cX12_weights 183 = .ok (.ifCond .lt 30, 3) := by decide +kernel
theorem dX12_weights_186 : decode cX12_weights 186 = .ok (.aload_n 0, 1) := by decide +kernel
theorem dX12_weights_187 : decode cX12_weights 187 = .ok (.getfield 216, 3) := by decide +kernel
theorem dX12_weights_190 : decode cX12_weights 190 = .ok (.iload 8, 2) := by decide +kernel
theorem dX12_weights_192 : decode cX12_weights 192 = .ok (.iload 7, 2) := by decide +kernel
theorem dX12_weights_194 : decode cX12_weights 194 = .ok (.iload_n 2, 1) := by decide +kernel
theorem dX12_weights_195 : decode cX12_weights 195 = .ok (.iconst 1, 1) := by decide +kernel
theorem dX12_weights_196 : decode cX12_weights 196 = .ok (.iadd, 1) := by decide +kernel
theorem dX12_weights_197 : decode cX12_weights 197 = .ok (.irem, 1) := by decide +kernel
theorem dX12_weights_198 : decode cX12_weights 198 = .ok (.iastore, 1) := by decide +kernel
theorem dX12_weights_199 : decode cX12_weights 199 = .ok (.iload 7, 2) := by decide +kernel
theorem dX12_weights_201 : decode cX12_weights 201 = .ok (.iload_n 2, 1) := by decide +kernel
theorem dX12_weights_202 : decode cX12_weights 202 = .ok (.iconst 1, 1) := by decide +kernel
theorem dX12_weights_203 : decode cX12_weights 203 = .ok (.iadd, 1) := by decide +kernel
theorem dX12_weights_204 : decode cX12_weights 204 = .ok (.idiv, 1) := by decide +kernel
theorem dX12_weights_205 : decode cX12_weights 205 = .ok (.istore 7, 2) := by decide +kernel
theorem dX12_weights_207 : decode cX12_weights 207 = .ok (.iinc 8 (-1), 3) := by decide +kernel
theorem dX12_weights_210 : decode cX12_weights 210 = .ok (.goto (-29), 3) := by decide +kernel
theorem dX12_weights_213 : decode cX12_weights 213 = .ok (.iconst 0, 1) := by decide +kernel
theorem dX12_weights_214 : decode cX12_weights 214 = .ok (.istore 8, 2) := by decide +kernel
theorem dX12_weights_216 : decode cX12_weights 216 = .ok (.iload 8, 2) := by decide +kernel
theorem dX12_weights_218 : decode cX12_weights 218 = .ok (.bipush 8, 2) := by decide +kernel
theorem dX12_weights_220 : decode cX12_weights 220 = .ok (.if_icmp .ge 17, 3) := by decide +kernel
theorem dX12_weights_223 : decode cX12_weights 223 = .ok (.aload_n 0, 1) := by decide +kernel
theorem dX12_weights_224 : decode cX12_weights 224 = .ok (.getfield 222, 3) := by decide +kernel
theorem dX12_weights_227 : decode cX12_weights 227 = .ok (.iload 8, 2) := by decide +kernel
theorem dX12_weights_229 : decode cX12_weights 229 = .ok (.iconst 0, 1) := by decide +kernel
theorem dX12_weights_230 : decode cX12_weights 230 = .ok (.iastore, 1) := by decide +kernel
theorem dX12_weights_231 : decode cX12_weights 231 = .ok (.iinc 8 1, 3) := by decide +kernel
theorem dX12_weights_234 : decode cX12_weights 234 = .ok (.goto (-18), 3) := by decide +kernel
theorem dX12_weights_237 : decode cX12_weights 237 = .ok (.iconst 0, 1) := by decide +kernel
theorem dX12_weights_238 : decode cX12_weights 238 = .ok (.istore 8, 2) := by decide +kernel
theorem dX12_weights_240 : decode cX12_weights 240 = .ok (.iload 8, 2) := by decide +kernel
theorem dX12_weights_242 : decode cX12_weights 242 = .ok (.iload_n 1, 1) := by decide +kernel
theorem dX12_weights_243 : decode cX12_weights 243 = .ok (.if_icmp .ge 55, 3) := by decide +kernel
theorem dX12_weights_246 : decode cX12_weights 246 = .ok (.aload_n 0, 1) := by decide +kernel
theorem dX12_weights_247 : decode cX12_weights 247 = .ok (.getfield 222, 3) := by decide +kernel
theorem dX12_weights_250 : decode cX12_weights 250 = .ok (.aload_n 0, 1) := by decide +kernel
theorem dX12_weights_251 : decode cX12_weights 251 = .ok (.getfield 28, 3) := by decide +kernel
theorem dX12_weights_254 : decode cX12_weights 254 = .ok (.iload 8, 2) := by decide +kernel
theorem dX12_weights_256 : decode cX12_weights 256 = .ok (.iaload, 1) := by decide +kernel
theorem dX12_weights_257 : decode cX12_weights 257 = .ok (.dup2, 1) := by decide +kernel
theorem dX12_weights_258 : decode cX12_weights 258 = .ok (.iaload, 1) := by decide +kernel
theorem dX12_weights_259 : decode cX12_weights 259 = .ok (.aload_n 0, 1) := by decide +kernel
theorem dX12_weights_260 : decode cX12_weights 260 = .ok (.getfield 216, 3) := by decide +kernel
theorem dX12_weights_263 : decode cX12_weights 263 = .ok (.iload 8, 2) := by decide +kernel
theorem dX12_weights_265 : decode cX12_weights 265 = .ok (.iaload, 1) := by decide +kernel
theorem dX12_weights_266 : decode cX12_weights 266 = .ok (.iadd, 1) := by decide +kernel
theorem dX12_weights_267 : decode cX12_weights 267 = .ok (.iastore, 1) := by decide +kernel
theorem dX12_weights_268 : decode cX12_weights 268 = .ok (.aload_n 0, 1) := by decide +kernel
theorem dX12_weights_269 : decode cX12_weights 269 = .ok (.getfield 222, 3) := by decide +kernel
theorem dX12_weights_272 : decode cX12_weights 272 = .ok (.iconst 4, 1) := by decide +kernel
theorem dX12_weights_273 : decode cX12_weights 273 = .ok (.aload_n 0, 1) := by decide +kernel
theorem dX12_weights_274 : decode cX12_weights 274 = .ok (.getfield 31, 3) := by decide +kernel
theorem dX12_weights_277 : decode cX12_weights 277 = .ok (.iload 8, 2) := by decide +kernel
theorem dX12_weights_279 : decode cX12_weights 279 = .ok (.iaload, 1) := by decide +kernel
theorem dX12_weights_280 : decode cX12_weights 280 = .ok (.iadd, 1) := by decide +kernel
theorem dX12_weights_281 : decode cX12_weights 281 = .ok (.dup2, 1) := by decide +kernel
theorem dX12_weights_282 : decode cX12_weights 282 = .ok (.iaload, 1) := by decide +kernel
theorem dX12_weights_283 : decode cX12_weights 283 = .ok (.aload_n 0, 1) := by decide +kernel
theorem dX12_weights_284 : decode cX12_weights 284 = .ok (.getfield 216, 3) := by decide +kernel
theorem dX12_weights_287 : decode cX12_weights 287 = .ok (.iload 8, 2) := by decide +kernel
theorem dX12_weights_289 : decode cX12_weights 289 = .ok (.iaload, 1) := by decide +kernel
theorem dX12_weights_290 : decode cX12_weights 290 = .ok (.iadd, 1) := by decide +kernel
theorem dX12_weights_291 : decode cX12_weights 291 = .ok (.iastore, 1) := by decide +kernel
theorem dX12_weights_292 : decode cX12_weights 292 = .ok (.iinc 8 1, 3) := by decide +kernel
theorem dX12_weights_295 : decode cX12_weights 295 = .ok (.goto (-55), 3) := by decide +kernel
theorem dX12_weights_298 : decode cX12_weights 298 = .ok (.iconst 0, 1) := by decide +kernel
theorem dX12_weights_299 : decode cX12_weights 299 = .ok (.istore 8, 2) := by decide +kernel
theorem dX12_weights_301 : decode cX12_weights 301 = .ok (.iconst 0, 1) := by decide +kernel
theorem dX12_weights_302 : decode cX12_weights 302 = .ok (.istore 9, 2) := by decide +kernel
theorem dX12_weights_304 : decode cX12_weights 304 = .ok (.iload 9, 2) := by decide +kernel
theorem dX12_weights_306 : decode cX12_weights 306 = .ok (.bipush 8, 2) := by decide +kernel
theorem dX12_weights_308 : decode cX12_weights 308 = .ok (.if_icmp .ge 38, 3) := by decide +kernel
theorem dX12_weights_311 : decode cX12_weights 311 = .ok (.iload 8, 2) := by decide +kernel
theorem dX12_weights_313 : decode cX12_weights 313 = .ok (.aload_n 0, 1) := by decide +kernel
theorem dX12_weights_314 : decode cX12_weights 314 = .ok (.getfield 222, 3) := by decide +kernel
theorem dX12_weights_317 : decode cX12_weights 317 = .ok (.iload 9, 2) := by decide +kernel
theorem dX12_weights_319 : decode cX12_weights 319 = .ok (.iaload, 1) := by decide +kernel
theorem dX12_weights_320 : decode cX12_weights 320 = .ok (.aload_n 0, 1) := by decide +kernel
theorem dX12_weights_321 : decode cX12_weights 321 = .ok (.getfield 20, 3) := by decide +kernel
theorem dX12_weights_324 : decode cX12_weights 324 = .ok (.bipush 60, 2) := by decide +kernel
theorem dX12_weights_326 : decode cX12_weights 326 = .ok (.iload_n 3, 1) := by decide +kernel
theorem dX12_weights_327 : decode cX12_weights 327 = .ok (.imul, 1) := by decide +kernel
theorem dX12_weights_328 : decode cX12_weights 328 = .ok (.iload 9, 2) := by decide +kernel
theorem dX12_weights_330 : decode cX12_weights 330 = .ok (.iadd, 1) := by decide +kernel
theorem dX12_weights_331 : decode cX12_weights 331 = .ok (.laload, 1) := by decide +kernel
theorem dX12_weights_332 : decode cX12_weights 332 = .ok (.l2i, 1) := by decide +kernel
theorem dX12_weights_333 : decode cX12_weights 333 = .ok (.isub, 1) := by decide +kernel
theorem dX12_weights_334 : decode cX12_weights 334 = .ok (.invokestatic 476, 3) := by decide +kernel
theorem dX12_weights_337 : decode cX12_weights 337 = .ok (.iadd, 1) := by decide +kernel
theorem dX12_weights_338 : decode cX12_weights 338 = .ok (.istore 8, 2) := by decide +kernel
theorem dX12_weights_340 : decode cX12_weights 340 = .ok (.iinc 9 1, 3) := by decide +kernel
theorem dX12_weights_343 : decode cX12_weights 343 = .ok (.goto (-39), 3) := by decide +kernel
theorem dX12_weights_346 : decode cX12_weights 346 = .ok (.iload 5, 2) := by decide +kernel
theorem dX12_weights_348 : decode cX12_weights 348 = .ok (.iconst (-1), 1) := by decide +kernel
theorem dX12_weights_349 : decode cX12_weights 349 = .ok (.if_icmp .eq 13, 3) := by decide +kernel
theorem dX12_weights_352 : decode cX12_weights 352 = .ok (.iload 8, 2) := by decide +kernel
theorem dX12_weights_354 : decode cX12_weights 354 = .ok (.iload 5, 2) := by decide +kernel
theorem dX12_weights_356 : decode cX12_weights 356 = .ok (.if_icmp .lt 6, 3) := by decide +kernel
theorem dX12_weights_359 : decode cX12_weights 359 = .ok (.goto 36, 3) := by decide +kernel
theorem dX12_weights_362 : decode cX12_weights 362 = .ok (.iload 8, 2) := by decide +kernel
theorem dX12_weights_364 : decode cX12_weights 364 = .ok (.istore 5, 2) := by decide +kernel
theorem dX12_weights_366 : decode cX12_weights 366 = .ok (.iconst 0, 1) := by decide +kernel
theorem dX12_weights_367 : decode cX12_weights 367 = .ok (.istore 9, 2) := by decide +kernel
theorem dX12_weights_369 : decode cX12_weights 369 = .ok (.iload 9, 2) := by decide +kernel
theorem dX12_weights_371 : decode cX12_weights 371 = .ok (.iload_n 1, 1) := by decide +kernel
theorem dX12_weights_372 : decode cX12_weights 372 = .ok (.if_icmp .ge 23, 3) := by decide +kernel
theorem dX12_weights_375 : decode cX12_weights 375 = .ok (.aload_n 0, 1) := by decide +kernel
theorem dX12_weights_376 : decode cX12_weights 376 = .ok (.getfield 219, 3) := by decide +kernel
theorem dX12_weights_379 : decode cX12_weights 379 = .ok (.iload 9, 2) := by decide +kernel
theorem dX12_weights_381 : decode cX12_weights 381 = .ok (.aload_n 0, 1) := by decide +kernel
theorem dX12_weights_382 : decode cX12_weights 382 = .ok (.getfield 216, 3) := by decide +kernel
theorem dX12_weights_385 : decode cX12_weights 385 = .ok (.iload 9, 2) := by decide +kernel
theorem dX12_weights_387 : decode cX12_weights 387 = .ok (.iaload, 1) := by decide +kernel
theorem dX12_weights_388 : decode cX12_weights 388 = .ok (.iastore, 1) := by decide +kernel
theorem dX12_weights_389 : decode cX12_weights 389 = .ok (.iinc 9 1, 3) := by decide +kernel
theorem dX12_weights_392 : decode cX12_weights 392 = .ok (.goto (-23), 3) := by decide +kernel
theorem dX12_weights_395 : decode cX12_weights 395 = .ok (.iinc 6 1, 3) := by decide +kernel
theorem dX12_weights_398 : decode cX12_weights 398 = .ok (.goto (-233), 3) := by decide +kernel
theorem dX12_weights_401 : decode cX12_weights 401 = .ok (.aload_n 0, 1) := by decide +kernel
theorem dX12_weights_402 : decode cX12_weights 402 = .ok (.iload_n 1, 1) := by decide +kernel
theorem dX12_weights_403 : decode cX12_weights 403 = .ok (.putfield 540, 3) := by decide +kernel
theorem dX12_weights_406 : decode cX12_weights 406 = .ok (.aload_n 0, 1) := by decide +kernel
theorem dX12_weights_407 : decode cX12_weights 407 = .ok (.iload 5, 2) := by decide +kernel
theorem dX12_weights_409 : decode cX12_weights 409 = .ok (.invokevirtual 237, 3) := by decide +kernel
theorem dX12_weights_412 : decode cX12_weights 412 = .ok (.ireturn, 1) := by decide +kernel
noncomputable def B_X12_weights_0 : pb_C := (i_iload 1 (i_const (.int 1) (i_ic_lt (i_aload 0 (i_const (.int 1) (i_callV 64 1 1 M_X12_refuse i_iret))) (i_iload 1 (i_const (.int 8) (i_ic_gt (i_aload 0 (i_const (.int 1) (i_callV 64 1 1 M_X12_refuse i_iret))) (i_iload 1 (i_aload 0 (i_getI 64 6 (i_ic_gt (i_aload 0 (i_const (.int 1) (i_callV 64 1 1 M_X12_refuse i_iret))) (i_iload 2 (i_const (.int 1) (i_ic_lt (i_aload 0 (i_const (.int 1) (i_callV 64 1 1 M_X12_refuse i_iret))) (i_iload 2 (i_const (.int 4) (i_ic_gt (i_aload 0 (i_const (.int 1) (i_callV 64 1 1 M_X12_refuse i_iret))) (i_iload 3 (i_callS 1 1 M_X12_isTray (i_if_ne (i_aload 0 (i_getR 64 66 (i_iload 3 (i_ald 66 4 (i_const (.int (-1)) (i_ic_ne (i_aload 0 (i_getR 64 66 (i_iload 3 (i_ald 66 4 (i_const (.int 8) (i_ic_ge (i_const (.int 0) (i_istore 4 (i_jmp 78 [true, true, true, true, true, false, false, false, false, false]))) (i_aload 0 (i_const (.int 3) (i_callV 64 1 1 M_X12_refuse i_iret))))))))) (i_aload 0 (i_const (.int 2) (i_callV 64 1 1 M_X12_refuse i_iret))))))))) (i_aload 0 (i_const (.int 1) (i_callV 64 1 1 M_X12_refuse i_iret))))))))))))))))))))))
noncomputable def B_X12_weights_78 : pb_C := (i_iload 4 (i_const (.int 8) (i_ic_ge (i_const (.int 1) (i_istore 4 (i_const (.int 0) (i_istore 5 (i_jmp 139 [true, true, true, true, true, true, false, false, false, false]))))) (i_aload 0 (i_getR 64 67 (i_const (.int 60) (i_iload 3 (i_ibin (· * ·) (i_iload 4 (i_ibin (· + ·) (i_lald 67 240 (i_const (.long 0) (i_lcmp (i_if_lt (i_aload 0 (i_const (.int 1) (i_callV 64 1 1 M_X12_refuse i_iret))) (i_aload 0 (i_getR 64 67 (i_const (.int 60) (i_iload 3 (i_ibin (· * ·) (i_iload 4 (i_ibin (· + ·) (i_lald 67 240 (i_const (.long (100)) (i_lcmp (i_if_le (i_iinc 4 1 (i_jmp 78 [true, true, true, true, true, false, false, false, false, false])) (i_aload 0 (i_const (.int 1) (i_callV 64 1 1 M_X12_refuse i_iret))))))))))))))))))))))))))))
noncomputable def B_X12_weights_139 : pb_C := (i_iload 5 (i_iload 1 (i_ic_ge (i_const (.int (-1)) (i_istore 5 (i_const (.int 0) (i_istore 6 (i_jmp 165 [true, true, true, true, true, true, true, false, false, false]))))) (i_iload 4 (i_iload 2 (i_const (.int 1) (i_ibin (· + ·) (i_ibin (· * ·) (i_istore 4 (i_iinc 5 1 (i_jmp 139 [true, true, true, true, true, true, false, false, false, false])))))))))))
noncomputable def B_X12_weights_165 : pb_C := (i_iload 6 (i_iload 4 (i_ic_ge (i_aload 0 (i_iload 1 (i_putI 64 97 (i_aload 0 (i_iload 5 (i_callV 64 1 1 M_X12_gives i_iret)))))) (i_iload 6 (i_istore 7 (i_iload 1 (i_const (.int 1) (i_ibin (· - ·) (i_istore 8 (i_jmp 181 [true, true, true, true, true, true, true, true, true, false]))))))))))
noncomputable def B_X12_weights_181 : pb_C := (i_iload 8 (i_if_lt (i_const (.int 0) (i_istore 8 (i_jmp 216 [true, true, true, true, true, true, true, false, true, false]))) (i_aload 0 (i_getR 64 125 (i_iload 8 (i_iload 7 (i_iload 2 (i_const (.int 1) (i_ibin (· + ·) (i_idivr (fun x y => x - x / y * y) (i_ast 125 8 (fun x => x) (i_iload 7 (i_iload 2 (i_const (.int 1) (i_ibin (· + ·) (i_idivr (· / ·) (i_istore 7 (i_iinc 8 (-1) (i_jmp 181 [true, true, true, true, true, true, true, true, true, false])))))))))))))))))))
noncomputable def B_X12_weights_216 : pb_C := (i_iload 8 (i_const (.int 8) (i_ic_ge (i_const (.int 0) (i_istore 8 (i_jmp 240 [true, true, true, true, true, true, true, false, true, false]))) (i_aload 0 (i_getR 64 127 (i_iload 8 (i_const (.int 0) (i_ast 127 8 (fun x => x) (i_iinc 8 1 (i_jmp 216 [true, true, true, true, true, true, true, false, true, false]))))))))))
noncomputable def B_X12_weights_240 : pb_C := (i_iload 8 (i_iload 1 (i_ic_ge (i_const (.int 0) (i_istore 8 (i_const (.int 0) (i_istore 9 (i_jmp 304 [true, true, true, true, true, true, true, false, true, true]))))) (i_aload 0 (i_getR 64 127 (i_aload 0 (i_getR 64 68 (i_iload 8 (i_ald 68 12 (i_dup2 (i_ald 127 8 (i_aload 0 (i_getR 64 125 (i_iload 8 (i_ald 125 8 (i_ibin (· + ·) (i_ast 127 8 (fun x => x) (i_aload 0 (i_getR 64 127 (i_const (.int 4) (i_aload 0 (i_getR 64 69 (i_iload 8 (i_ald 69 12 (i_ibin (· + ·) (i_dup2 (i_ald 127 8 (i_aload 0 (i_getR 64 125 (i_iload 8 (i_ald 125 8 (i_ibin (· + ·) (i_ast 127 8 (fun x => x) (i_iinc 8 1 (i_jmp 240 [true, true, true, true, true, true, true, false, true, false])))))))))))))))))))))))))))))))))))
noncomputable def B_X12_weights_304 : pb_C := (i_iload 9 (i_const (.int 8) (i_ic_ge (i_iload 5 (i_const (.int (-1)) (i_ic_eq (i_iload 8 (i_istore 5 (i_const (.int 0) (i_istore 9 (i_jmp 369 [true, true, true, true, true, true, true, false, false, true]))))) (i_iload 8 (i_iload 5 (i_ic_lt (i_iload 8 (i_istore 5 (i_const (.int 0) (i_istore 9 (i_jmp 369 [true, true, true, true, true, true, true, false, false, true]))))) (i_iinc 6 1 (i_jmp 165 [true, true, true, true, true, true, true, false, false, false])))))))) (i_iload 8 (i_aload 0 (i_getR 64 127 (i_iload 9 (i_ald 127 8 (i_aload 0 (i_getR 64 67 (i_const (.int 60) (i_iload 3 (i_ibin (· * ·) (i_iload 9 (i_ibin (· + ·) (i_lald 67 240 (i_l2i (i_ibin (· - ·) (i_mI1 pb_abs (i_ibin (· + ·) (i_istore 8 (i_iinc 9 1 (i_jmp 304 [true, true, true, true, true, true, true, false, true, true])))))))))))))))))))))))
noncomputable def B_X12_weights_369 : pb_C := (i_iload 9 (i_iload 1 (i_ic_ge (i_iinc 6 1 (i_jmp 165 [true, true, true, true, true, true, true, false, false, false])) (i_aload 0 (i_getR 64 126 (i_iload 9 (i_aload 0 (i_getR 64 125 (i_iload 9 (i_ald 125 8 (i_ast 126 8 (fun x => x) (i_iinc 9 1 (i_jmp 369 [true, true, true, true, true, true, true, false, false, true])))))))))))))
noncomputable def T_X12_weights : Nat → pb_C := pb_tt [(0, B_X12_weights_0), (78, B_X12_weights_78), (139, B_X12_weights_139), (165, B_X12_weights_165), (181, B_X12_weights_181), (216, B_X12_weights_216), (240, B_X12_weights_240), (304, B_X12_weights_304), (369, B_X12_weights_369)]
noncomputable def M_X12_weights : pb_F := pb_M T_X12_weights 10
set_option maxRecDepth 100000 in
set_option maxHeartbeats 4000000 in
theorem S_X12_weights (l : Launch) : pb_Sound l yX12_weights cX12_weights 10 (some .int) 2 M_X12_weights := by
  refine pb_sound_of (by decide) m_9_112 ?_
  intro Γ hl0 hRm0 hm X E hr J
  have hnL : ∀ j, j < 10 → j < Γ.2.2.2.2.2.2.2.2.2.2.2.1 := fun j h => by rw [hm]; exact h
  have hR : ∀ (d' mL : Nat), d' + 1 ≤ 2 ∧ 8 + (mL + 11) + d' * 64 ≤ 2 * 64 → (pb_rm d').frames + 1 ≤ Γ.2.2.2.1.frames ∧ 8 + (mL + 11) + (pb_rm d').locals ≤ Γ.2.2.2.1.locals := by rw [hRm0]; exact fun _ _ h => h
  have hRm : 1 ≤ 2 ∧ 64 ≤ 2 * 64 → 1 ≤ Γ.2.2.2.1.frames ∧ 64 ≤ Γ.2.2.2.1.locals := by rw [hRm0]; exact fun h => h
  exact pb_tt_snd _ (List.forall_mem_cons.mpr ⟨(s_iload_n (pc := 0) X dX12_weights_0 rfl (s_iconst (pc := 1) X dX12_weights_1 rfl (s_ic_lt (pc := 2) X dX12_weights_2 (by decide) (s_aload_n (pc := 36) X dX12_weights_36 rfl (s_iconst (pc := 37) X dX12_weights_37 rfl (s_callV (pc := 38) X dX12_weights_38 (S_X12_refuse _) q_X12_267 h_64 rfl (hR _ _ (by decide)) (s_iret (pc := 41) X E hr dX12_weights_41)))) (s_iload_n (pc := 5) X dX12_weights_5 rfl (s_bipush (pc := 6) X dX12_weights_6 rfl (s_ic_gt (pc := 8) X dX12_weights_8 (by decide) (s_aload_n (pc := 36) X dX12_weights_36 rfl (s_iconst (pc := 37) X dX12_weights_37 rfl (s_callV (pc := 38) X dX12_weights_38 (S_X12_refuse _) q_X12_267 h_64 rfl (hR _ _ (by decide)) (s_iret (pc := 41) X E hr dX12_weights_41)))) (s_iload_n (pc := 11) X dX12_weights_11 rfl (s_aload_n (pc := 12) X dX12_weights_12 rfl (s_getI (pc := 13) X dX12_weights_13 g_X12_258 (s_ic_gt (pc := 16) X dX12_weights_16 (by decide) (s_aload_n (pc := 36) X dX12_weights_36 rfl (s_iconst (pc := 37) X dX12_weights_37 rfl (s_callV (pc := 38) X dX12_weights_38 (S_X12_refuse _) q_X12_267 h_64 rfl (hR _ _ (by decide)) (s_iret (pc := 41) X E hr dX12_weights_41)))) (s_iload_n (pc := 19) X dX12_weights_19 rfl (s_iconst (pc := 20) X dX12_weights_20 rfl (s_ic_lt (pc := 21) X dX12_weights_21 (by decide) (s_aload_n (pc := 36) X dX12_weights_36 rfl (s_iconst (pc := 37) X dX12_weights_37 rfl (s_callV (pc := 38) X dX12_weights_38 (S_X12_refuse _) q_X12_267 h_64 rfl (hR _ _ (by decide)) (s_iret (pc := 41) X E hr dX12_weights_41)))) (s_iload_n (pc := 24) X dX12_weights_24 rfl (s_iconst (pc := 25) X dX12_weights_25 rfl (s_ic_gt (pc := 26) X dX12_weights_26 (by decide) (s_aload_n (pc := 36) X dX12_weights_36 rfl (s_iconst (pc := 37) X dX12_weights_37 rfl (s_callV (pc := 38) X dX12_weights_38 (S_X12_refuse _) q_X12_267 h_64 rfl (hR _ _ (by decide)) (s_iret (pc := 41) X E hr dX12_weights_41)))) (s_iload_n (pc := 29) X dX12_weights_29 rfl (s_callS (pc := 30) X dX12_weights_30 (S_X12_isTray _) q_X12_241 (hR _ _ (by decide)) (s_if_ne (pc := 33) X dX12_weights_33 (by decide) (s_aload_n (pc := 42) X dX12_weights_42 rfl (s_getR (pc := 43) X dX12_weights_43 g_X12_17 (s_iload_n (pc := 46) X dX12_weights_46 rfl (s_iald (pc := 47) X dX12_weights_47 h_66 (s_iconst (pc := 48) X dX12_weights_48 rfl (s_ic_ne (pc := 49) X dX12_weights_49 (by decide) (s_aload_n (pc := 58) X dX12_weights_58 rfl (s_getR (pc := 59) X dX12_weights_59 g_X12_17 (s_iload_n (pc := 62) X dX12_weights_62 rfl (s_iald (pc := 63) X dX12_weights_63 h_66 (s_bipush (pc := 64) X dX12_weights_64 rfl (s_ic_ge (pc := 66) X dX12_weights_66 (by decide) (s_iconst (pc := 75) X dX12_weights_75 rfl (s_istore (pc := 76) X dX12_weights_76 (hnL _ (by decide)) (s_jmp (pc := 78) J [true, true, true, true, true, false, false, false, false, false]))) (s_aload_n (pc := 69) X dX12_weights_69 rfl (s_iconst (pc := 70) X dX12_weights_70 rfl (s_callV (pc := 71) X dX12_weights_71 (S_X12_refuse _) q_X12_267 h_64 rfl (hR _ _ (by decide)) (s_iret (pc := 74) X E hr dX12_weights_74)))))))))) (s_aload_n (pc := 52) X dX12_weights_52 rfl (s_iconst (pc := 53) X dX12_weights_53 rfl (s_callV (pc := 54) X dX12_weights_54 (S_X12_refuse _) q_X12_267 h_64 rfl (hR _ _ (by decide)) (s_iret (pc := 57) X E hr dX12_weights_57)))))))))) (s_aload_n (pc := 36) X dX12_weights_36 rfl (s_iconst (pc := 37) X dX12_weights_37 rfl (s_callV (pc := 38) X dX12_weights_38 (S_X12_refuse _) q_X12_267 h_64 rfl (hR _ _ (by decide)) (s_iret (pc := 41) X E hr dX12_weights_41))))))))))))))))))))))), List.forall_mem_cons.mpr ⟨(s_iload (pc := 78) X dX12_weights_78 (s_bipush (pc := 80) X dX12_weights_80 rfl (s_ic_ge (pc := 82) X dX12_weights_82 (by decide) (s_iconst (pc := 133) X dX12_weights_133 rfl (s_istore (pc := 134) X dX12_weights_134 (hnL _ (by decide)) (s_iconst (pc := 136) X dX12_weights_136 rfl (s_istore (pc := 137) X dX12_weights_137 (hnL _ (by decide)) (s_jmp (pc := 139) J [true, true, true, true, true, true, false, false, false, false]))))) (s_aload_n (pc := 85) X dX12_weights_85 rfl (s_getR (pc := 86) X dX12_weights_86 g_X12_20 (s_bipush (pc := 89) X dX12_weights_89 rfl (s_iload_n (pc := 91) X dX12_weights_91 rfl (s_imul (pc := 92) X dX12_weights_92 (s_iload (pc := 93) X dX12_weights_93 (s_iadd (pc := 95) X dX12_weights_95 (s_lald (pc := 96) X dX12_weights_96 h_67 (s_lconst (pc := 97) X dX12_weights_97 rfl (s_lcmp (pc := 98) X dX12_weights_98 (s_if_lt (pc := 99) X dX12_weights_99 (by decide) (s_aload_n (pc := 121) X dX12_weights_121 rfl (s_iconst (pc := 122) X dX12_weights_122 rfl (s_callV (pc := 123) X dX12_weights_123 (S_X12_refuse _) q_X12_267 h_64 rfl (hR _ _ (by decide)) (s_iret (pc := 126) X E hr dX12_weights_126)))) (s_aload_n (pc := 102) X dX12_weights_102 rfl (s_getR (pc := 103) X dX12_weights_103 g_X12_20 (s_bipush (pc := 106) X dX12_weights_106 rfl (s_iload_n (pc := 108) X dX12_weights_108 rfl (s_imul (pc := 109) X dX12_weights_109 (s_iload (pc := 110) X dX12_weights_110 (s_iadd (pc := 112) X dX12_weights_112 (s_lald (pc := 113) X dX12_weights_113 h_67 (s_ldc2 (pc := 114) X dX12_weights_114 m_9_91 (s_lcmp (pc := 117) X dX12_weights_117 (s_if_le (pc := 118) X dX12_weights_118 (by decide) (s_iinc (pc := 127) X dX12_weights_127 rfl (s_goto (pc := 130) X dX12_weights_130 (by decide) (s_jmp (pc := 78) J [true, true, true, true, true, false, false, false, false, false]))) (s_aload_n (pc := 121) X dX12_weights_121 rfl (s_iconst (pc := 122) X dX12_weights_122 rfl (s_callV (pc := 123) X dX12_weights_123 (S_X12_refuse _) q_X12_267 h_64 rfl (hR _ _ (by decide)) (s_iret (pc := 126) X E hr dX12_weights_126))))))))))))))))))))))))))))), List.forall_mem_cons.mpr ⟨(s_iload (pc := 139) X dX12_weights_139 (s_iload_n (pc := 141) X dX12_weights_141 rfl (s_ic_ge (pc := 142) X dX12_weights_142 (by decide) (s_iconst (pc := 159) X dX12_weights_159 rfl (s_istore (pc := 160) X dX12_weights_160 (hnL _ (by decide)) (s_iconst (pc := 162) X dX12_weights_162 rfl (s_istore (pc := 163) X dX12_weights_163 (hnL _ (by decide)) (s_jmp (pc := 165) J [true, true, true, true, true, true, true, false, false, false]))))) (s_iload (pc := 145) X dX12_weights_145 (s_iload_n (pc := 147) X dX12_weights_147 rfl (s_iconst (pc := 148) X dX12_weights_148 rfl (s_iadd (pc := 149) X dX12_weights_149 (s_imul (pc := 150) X dX12_weights_150 (s_istore (pc := 151) X dX12_weights_151 (hnL _ (by decide)) (s_iinc (pc := 153) X dX12_weights_153 rfl (s_goto (pc := 156) X dX12_weights_156 (by decide) (s_jmp (pc := 139) J [true, true, true, true, true, true, false, false, false, false])))))))))))), List.forall_mem_cons.mpr ⟨(s_iload (pc := 165) X dX12_weights_165 (s_iload (pc := 167) X dX12_weights_167 (s_ic_ge (pc := 169) X dX12_weights_169 (by decide) (s_aload_n (pc := 401) X dX12_weights_401 rfl (s_iload_n (pc := 402) X dX12_weights_402 rfl (s_putI (pc := 403) X dX12_weights_403 p_X12_540 (s_aload_n (pc := 406) X dX12_weights_406 rfl (s_iload (pc := 407) X dX12_weights_407 (s_callV (pc := 409) X dX12_weights_409 (S_X12_gives _) q_X12_237 h_64 rfl (hR _ _ (by decide)) (s_iret (pc := 412) X E hr dX12_weights_412))))))) (s_iload (pc := 172) X dX12_weights_172 (s_istore (pc := 174) X dX12_weights_174 (hnL _ (by decide)) (s_iload_n (pc := 176) X dX12_weights_176 rfl (s_iconst (pc := 177) X dX12_weights_177 rfl (s_isub (pc := 178) X dX12_weights_178 (s_istore (pc := 179) X dX12_weights_179 (hnL _ (by decide)) (s_jmp (pc := 181) J [true, true, true, true, true, true, true, true, true, false])))))))))), List.forall_mem_cons.mpr ⟨(s_iload (pc := 181) X dX12_weights_181 (s_if_lt (pc := 183) X dX12_weights_183 (by decide) (s_iconst (pc := 213) X dX12_weights_213 rfl (s_istore (pc := 214) X dX12_weights_214 (hnL _ (by decide)) (s_jmp (pc := 216) J [true, true, true, true, true, true, true, false, true, false]))) (s_aload_n (pc := 186) X dX12_weights_186 rfl (s_getR (pc := 187) X dX12_weights_187 g_X12_216 (s_iload (pc := 190) X dX12_weights_190 (s_iload (pc := 192) X dX12_weights_192 (s_iload_n (pc := 194) X dX12_weights_194 rfl (s_iconst (pc := 195) X dX12_weights_195 rfl (s_iadd (pc := 196) X dX12_weights_196 (s_irem (pc := 197) X dX12_weights_197 (s_iast (pc := 198) X dX12_weights_198 h_125 (s_iload (pc := 199) X dX12_weights_199 (s_iload_n (pc := 201) X dX12_weights_201 rfl (s_iconst (pc := 202) X dX12_weights_202 rfl (s_iadd (pc := 203) X dX12_weights_203 (s_idiv (pc := 204) X dX12_weights_204 (s_istore (pc := 205) X dX12_weights_205 (hnL _ (by decide)) (s_iinc (pc := 207) X dX12_weights_207 rfl (s_goto (pc := 210) X dX12_weights_210 (by decide) (s_jmp (pc := 181) J [true, true, true, true, true, true, true, true, true, false])))))))))))))))))))), List.forall_mem_cons.mpr ⟨(s_iload (pc := 216) X dX12_weights_216 (s_bipush (pc := 218) X dX12_weights_218 rfl (s_ic_ge (pc := 220) X dX12_weights_220 (by decide) (s_iconst (pc := 237) X dX12_weights_237 rfl (s_istore (pc := 238) X dX12_weights_238 (hnL _ (by decide)) (s_jmp (pc := 240) J [true, true, true, true, true, true, true, false, true, false]))) (s_aload_n (pc := 223) X dX12_weights_223 rfl (s_getR (pc := 224) X dX12_weights_224 g_X12_222 (s_iload (pc := 227) X dX12_weights_227 (s_iconst (pc := 229) X dX12_weights_229 rfl (s_iast (pc := 230) X dX12_weights_230 h_127 (s_iinc (pc := 231) X dX12_weights_231 rfl (s_goto (pc := 234) X dX12_weights_234 (by decide) (s_jmp (pc := 216) J [true, true, true, true, true, true, true, false, true, false]))))))))))), List.forall_mem_cons.mpr ⟨(s_iload (pc := 240) X dX12_weights_240 (s_iload_n (pc := 242) X dX12_weights_242 rfl (s_ic_ge (pc := 243) X dX12_weights_243 (by decide) (s_iconst (pc := 298) X dX12_weights_298 rfl (s_istore (pc := 299) X dX12_weights_299 (hnL _ (by decide)) (s_iconst (pc := 301) X dX12_weights_301 rfl (s_istore (pc := 302) X dX12_weights_302 (hnL _ (by decide)) (s_jmp (pc := 304) J [true, true, true, true, true, true, true, false, true, true]))))) (s_aload_n (pc := 246) X dX12_weights_246 rfl (s_getR (pc := 247) X dX12_weights_247 g_X12_222 (s_aload_n (pc := 250) X dX12_weights_250 rfl (s_getR (pc := 251) X dX12_weights_251 g_X12_28 (s_iload (pc := 254) X dX12_weights_254 (s_iald (pc := 256) X dX12_weights_256 h_68 (s_dup2 (pc := 257) X dX12_weights_257 (s_iald (pc := 258) X dX12_weights_258 h_127 (s_aload_n (pc := 259) X dX12_weights_259 rfl (s_getR (pc := 260) X dX12_weights_260 g_X12_216 (s_iload (pc := 263) X dX12_weights_263 (s_iald (pc := 265) X dX12_weights_265 h_125 (s_iadd (pc := 266) X dX12_weights_266 (s_iast (pc := 267) X dX12_weights_267 h_127 (s_aload_n (pc := 268) X dX12_weights_268 rfl (s_getR (pc := 269) X dX12_weights_269 g_X12_222 (s_iconst (pc := 272) X dX12_weights_272 rfl (s_aload_n (pc := 273) X dX12_weights_273 rfl (s_getR (pc := 274) X dX12_weights_274 g_X12_31 (s_iload (pc := 277) X dX12_weights_277 (s_iald (pc := 279) X dX12_weights_279 h_69 (s_iadd (pc := 280) X dX12_weights_280 (s_dup2 (pc := 281) X dX12_weights_281 (s_iald (pc := 282) X dX12_weights_282 h_127 (s_aload_n (pc := 283) X dX12_weights_283 rfl (s_getR (pc := 284) X dX12_weights_284 g_X12_216 (s_iload (pc := 287) X dX12_weights_287 (s_iald (pc := 289) X dX12_weights_289 h_125 (s_iadd (pc := 290) X dX12_weights_290 (s_iast (pc := 291) X dX12_weights_291 h_127 (s_iinc (pc := 292) X dX12_weights_292 rfl (s_goto (pc := 295) X dX12_weights_295 (by decide) (s_jmp (pc := 240) J [true, true, true, true, true, true, true, false, true, false])))))))))))))))))))))))))))))))))))), List.forall_mem_cons.mpr ⟨(s_iload (pc := 304) X dX12_weights_304 (s_bipush (pc := 306) X dX12_weights_306 rfl (s_ic_ge (pc := 308) X dX12_weights_308 (by decide) (s_iload (pc := 346) X dX12_weights_346 (s_iconst (pc := 348) X dX12_weights_348 rfl (s_ic_eq (pc := 349) X dX12_weights_349 (by decide) (s_iload (pc := 362) X dX12_weights_362 (s_istore (pc := 364) X dX12_weights_364 (hnL _ (by decide)) (s_iconst (pc := 366) X dX12_weights_366 rfl (s_istore (pc := 367) X dX12_weights_367 (hnL _ (by decide)) (s_jmp (pc := 369) J [true, true, true, true, true, true, true, false, false, true]))))) (s_iload (pc := 352) X dX12_weights_352 (s_iload (pc := 354) X dX12_weights_354 (s_ic_lt (pc := 356) X dX12_weights_356 (by decide) (s_iload (pc := 362) X dX12_weights_362 (s_istore (pc := 364) X dX12_weights_364 (hnL _ (by decide)) (s_iconst (pc := 366) X dX12_weights_366 rfl (s_istore (pc := 367) X dX12_weights_367 (hnL _ (by decide)) (s_jmp (pc := 369) J [true, true, true, true, true, true, true, false, false, true]))))) (s_goto (pc := 359) X dX12_weights_359 (by decide) (s_iinc (pc := 395) X dX12_weights_395 rfl (s_goto (pc := 398) X dX12_weights_398 (by decide) (s_jmp (pc := 165) J [true, true, true, true, true, true, true, false, false, false])))))))))) (s_iload (pc := 311) X dX12_weights_311 (s_aload_n (pc := 313) X dX12_weights_313 rfl (s_getR (pc := 314) X dX12_weights_314 g_X12_222 (s_iload (pc := 317) X dX12_weights_317 (s_iald (pc := 319) X dX12_weights_319 h_127 (s_aload_n (pc := 320) X dX12_weights_320 rfl (s_getR (pc := 321) X dX12_weights_321 g_X12_20 (s_bipush (pc := 324) X dX12_weights_324 rfl (s_iload_n (pc := 326) X dX12_weights_326 rfl (s_imul (pc := 327) X dX12_weights_327 (s_iload (pc := 328) X dX12_weights_328 (s_iadd (pc := 330) X dX12_weights_330 (s_lald (pc := 331) X dX12_weights_331 h_67 (s_l2i (pc := 332) X dX12_weights_332 (s_isub (pc := 333) X dX12_weights_333 (s_mabs (pc := 334) X dX12_weights_334 m_9_26 mm_mabs (hRm (by decide)) (s_iadd (pc := 337) X dX12_weights_337 (s_istore (pc := 338) X dX12_weights_338 (hnL _ (by decide)) (s_iinc (pc := 340) X dX12_weights_340 rfl (s_goto (pc := 343) X dX12_weights_343 (by decide) (s_jmp (pc := 304) J [true, true, true, true, true, true, true, false, true, true])))))))))))))))))))))))), List.forall_mem_cons.mpr ⟨(s_iload (pc := 369) X dX12_weights_369 (s_iload_n (pc := 371) X dX12_weights_371 rfl (s_ic_ge (pc := 372) X dX12_weights_372 (by decide) (s_iinc (pc := 395) X dX12_weights_395 rfl (s_goto (pc := 398) X dX12_weights_398 (by decide) (s_jmp (pc := 165) J [true, true, true, true, true, true, true, false, false, false]))) (s_aload_n (pc := 375) X dX12_weights_375 rfl (s_getR (pc := 376) X dX12_weights_376 g_X12_219 (s_iload (pc := 379) X dX12_weights_379 (s_aload_n (pc := 381) X dX12_weights_381 rfl (s_getR (pc := 382) X dX12_weights_382 g_X12_216 (s_iload (pc := 385) X dX12_weights_385 (s_iald (pc := 387) X dX12_weights_387 h_125 (s_iast (pc := 388) X dX12_weights_388 h_126 (s_iinc (pc := 389) X dX12_weights_389 rfl (s_goto (pc := 392) X dX12_weights_392 (by decide) (s_jmp (pc := 369) J [true, true, true, true, true, true, true, false, false, true])))))))))))))), fun _ h => absurd h List.not_mem_nil⟩⟩⟩⟩⟩⟩⟩⟩⟩)
theorem dX12_weight_0 : decode cX12_weight 0 = .ok (.iload_n 1, 1) := by decide +kernel
theorem dX12_weight_1 : decode cX12_weight 1 = .ok (.ifCond .ge 11, 3) := by decide +kernel
theorem dX12_weight_4 : decode cX12_weight 4 = .ok (.aload_n 0, 1) := by decide +kernel
theorem dX12_weight_5 : decode cX12_weight 5 = .ok (.iconst 1, 1) := by decide +kernel
theorem dX12_weight_6 : decode cX12_weight 6 = .ok (.invokevirtual 267, 3) := by decide +kernel
theorem dX12_weight_9 : decode cX12_weight 9 = .ok (.goto 30, 3) := by decide +kernel
theorem dX12_weight_12 : decode cX12_weight 12 = .ok (.iload_n 1, 1) := by decide +kernel
theorem dX12_weight_13 : decode cX12_weight 13 = .ok (.aload_n 0, 1) := by decide +kernel
theorem dX12_weight_14 : decode cX12_weight 14 = .ok (.getfield 540, 3) := by decide +kernel
theorem dX12_weight_17 : decode cX12_weight 17 = .ok (.if_icmp .lt 12, 3) := by decide +kernel
theorem dX12_weight_20 : decode cX12_weight 20 = .ok (.aload_n 0, 1) := by decide +kernel
theorem dX12_weight_21 : decode cX12_weight 21 = .ok (.bipush 6, 2) := by decide +kernel
theorem dX12_weight_23 : decode cX12_weight 23 = .ok (.invokevirtual 267, 3) := by decide +kernel
theorem dX12_weight_26 : decode cX12_weight 26 = .ok (.goto 13, 3) := by decide +kernel
theorem dX12_weight_29 : decode cX12_weight 29 = .ok (.aload_n 0, 1) := by decide +kernel
theorem dX12_weight_30 : decode cX12_weight 30 = .ok (.aload_n 0, 1) := by decide +kernel
theorem dX12_weight_31 : decode cX12_weight 31 = .ok (.getfield 219, 3) := by decide +kernel
theorem dX12_weight_34 : decode cX12_weight 34 = .ok (.iload_n 1, 1) := by decide +kernel
theorem dX12_weight_35 : decode cX12_weight 35 = .ok (.iaload, 1) := by decide +kernel
theorem dX12_weight_36 : decode cX12_weight 36 = .ok (.invokevirtual 237, 3) := by decide +kernel
theorem dX12_weight_39 : decode cX12_weight 39 = .ok (.ireturn, 1) := by decide +kernel
noncomputable def B_X12_weight_0 : pb_C := (i_iload 1 (i_if_ge (i_iload 1 (i_aload 0 (i_getI 64 97 (i_ic_lt (i_aload 0 (i_aload 0 (i_getR 64 126 (i_iload 1 (i_ald 126 8 (i_callV 64 1 1 M_X12_gives i_iret)))))) (i_aload 0 (i_const (.int 6) (i_callV 64 1 1 M_X12_refuse i_iret))))))) (i_aload 0 (i_const (.int 1) (i_callV 64 1 1 M_X12_refuse i_iret)))))
noncomputable def T_X12_weight : Nat → pb_C := pb_tt [(0, B_X12_weight_0)]
noncomputable def M_X12_weight : pb_F := pb_M T_X12_weight 2
set_option maxRecDepth 100000 in
set_option maxHeartbeats 4000000 in
theorem S_X12_weight (l : Launch) : pb_Sound l yX12_weight cX12_weight 2 (some .int) 2 M_X12_weight := by
  refine pb_sound_of (by decide) m_9_116 ?_
  intro Γ hl0 hRm0 hm X E hr J
  have hnL : ∀ j, j < 2 → j < Γ.2.2.2.2.2.2.2.2.2.2.2.1 := fun j h => by rw [hm]; exact h
  have hR : ∀ (d' mL : Nat), d' + 1 ≤ 2 ∧ 8 + (mL + 11) + d' * 64 ≤ 2 * 64 → (pb_rm d').frames + 1 ≤ Γ.2.2.2.1.frames ∧ 8 + (mL + 11) + (pb_rm d').locals ≤ Γ.2.2.2.1.locals := by rw [hRm0]; exact fun _ _ h => h
  have hRm : 1 ≤ 2 ∧ 64 ≤ 2 * 64 → 1 ≤ Γ.2.2.2.1.frames ∧ 64 ≤ Γ.2.2.2.1.locals := by rw [hRm0]; exact fun h => h
  exact pb_tt_snd _ (List.forall_mem_cons.mpr ⟨(s_iload_n (pc := 0) X dX12_weight_0 rfl (s_if_ge (pc := 1) X dX12_weight_1 (by decide) (s_iload_n (pc := 12) X dX12_weight_12 rfl (s_aload_n (pc := 13) X dX12_weight_13 rfl (s_getI (pc := 14) X dX12_weight_14 g_X12_540 (s_ic_lt (pc := 17) X dX12_weight_17 (by decide) (s_aload_n (pc := 29) X dX12_weight_29 rfl (s_aload_n (pc := 30) X dX12_weight_30 rfl (s_getR (pc := 31) X dX12_weight_31 g_X12_219 (s_iload_n (pc := 34) X dX12_weight_34 rfl (s_iald (pc := 35) X dX12_weight_35 h_126 (s_callV (pc := 36) X dX12_weight_36 (S_X12_gives _) q_X12_237 h_64 rfl (hR _ _ (by decide)) (s_iret (pc := 39) X E hr dX12_weight_39))))))) (s_aload_n (pc := 20) X dX12_weight_20 rfl (s_bipush (pc := 21) X dX12_weight_21 rfl (s_callV (pc := 23) X dX12_weight_23 (S_X12_refuse _) q_X12_267 h_64 rfl (hR _ _ (by decide)) (s_goto (pc := 26) X dX12_weight_26 (by decide) (s_iret (pc := 39) X E hr dX12_weight_39))))))))) (s_aload_n (pc := 4) X dX12_weight_4 rfl (s_iconst (pc := 5) X dX12_weight_5 rfl (s_callV (pc := 6) X dX12_weight_6 (S_X12_refuse _) q_X12_267 h_64 rfl (hR _ _ (by decide)) (s_goto (pc := 9) X dX12_weight_9 (by decide) (s_iret (pc := 39) X E hr dX12_weight_39))))))), fun _ h => absurd h List.not_mem_nil⟩)
theorem dX12_hasLine_0 : decode cX12_hasLine 0 = .ok (.iconst 0, 1) := by decide +kernel
theorem dX12_hasLine_1 : decode cX12_hasLine 1 = .ok (.istore_n 3, 1) := by decide +kernel
theorem dX12_hasLine_2 : decode cX12_hasLine 2 = .ok (.iload_n 3, 1) := by decide +kernel
theorem dX12_hasLine_3 : decode cX12_hasLine 3 = .ok (.aload_n 0, 1) := by decide +kernel
theorem dX12_hasLine_4 : decode cX12_hasLine 4 = .ok (.getfield 261, 3) := by decide +kernel
theorem dX12_hasLine_7 : decode cX12_hasLine 7 = .ok (.if_icmp .ge 30, 3) := by decide +kernel
theorem dX12_hasLine_10 : decode cX12_hasLine 10 = .ok (.aload_n 0, 1) := by decide +kernel
theorem dX12_hasLine_11 : decode cX12_hasLine 11 = .ok (.getfield 37, 3) := by decide +kernel
theorem dX12_hasLine_14 : decode cX12_hasLine 14 = .ok (.iload_n 3, 1) := by decide +kernel
theorem dX12_hasLine_15 : decode cX12_hasLine 15 = .ok (.iaload, 1) := by decide +kernel
theorem dX12_hasLine_16 : decode cX12_hasLine 16 = .ok (.iload_n 2, 1) := by decide +kernel
theorem dX12_hasLine_17 : decode cX12_hasLine 17 = .ok (.if_icmp .ne 14, 3) := by decide +kernel
theorem dX12_hasLine_20 : decode cX12_hasLine 20 = .ok (.aload_n 0, 1) := by decide +kernel
theorem dX12_hasLine_21 : decode cX12_hasLine 21 = .ok (.iload_n 3, 1) := by decide +kernel
theorem dX12_hasLine_22 : decode cX12_hasLine 22 = .ok (.iload_n 1, 1) := by decide +kernel
theorem dX12_hasLine_23 : decode cX12_hasLine 23 = .ok (.invokevirtual 457, 3) := by decide +kernel
theorem dX12_hasLine_26 : decode cX12_hasLine 26 = .ok (.ifCond .eq 5, 3) := by decide +kernel
theorem dX12_hasLine_29 : decode cX12_hasLine 29 = .ok (.iconst 1, 1) := by decide +kernel
theorem dX12_hasLine_30 : decode cX12_hasLine 30 = .ok (.ireturn, 1) := by decide +kernel
theorem dX12_hasLine_31 : decode cX12_hasLine 31 = .ok (.iinc 3 1, 3) := by decide +kernel
theorem dX12_hasLine_34 : decode cX12_hasLine 34 = .ok (.goto (-32), 3) := by decide +kernel
theorem dX12_hasLine_37 : decode cX12_hasLine 37 = .ok (.iconst 0, 1) := by decide +kernel
theorem dX12_hasLine_38 : decode cX12_hasLine 38 = .ok (.ireturn, 1) := by decide +kernel
noncomputable def B_X12_hasLine_0 : pb_C := (i_const (.int 0) (i_istore 3 (i_jmp 2 [true, true, true, true])))
noncomputable def B_X12_hasLine_2 : pb_C := (i_iload 3 (i_aload 0 (i_getI 64 7 (i_ic_ge (i_const (.int 0) i_zret) (i_aload 0 (i_getR 64 71 (i_iload 3 (i_ald 71 200 (i_iload 2 (i_ic_ne (i_iinc 3 1 (i_jmp 2 [true, true, true, true])) (i_aload 0 (i_iload 3 (i_iload 1 (i_callV 64 2 1 M_X12_went (i_if_eq (i_iinc 3 1 (i_jmp 2 [true, true, true, true])) (i_const (.int 1) i_zret))))))))))))))))
noncomputable def T_X12_hasLine : Nat → pb_C := pb_tt [(0, B_X12_hasLine_0), (2, B_X12_hasLine_2)]
noncomputable def M_X12_hasLine : pb_F := pb_M T_X12_hasLine 4
set_option maxRecDepth 100000 in
set_option maxHeartbeats 4000000 in
theorem S_X12_hasLine (l : Launch) : pb_Sound l yX12_hasLine cX12_hasLine 4 (some .boolean) 3 M_X12_hasLine := by
  refine pb_sound_of (by decide) m_9_128 ?_
  intro Γ hl0 hRm0 hm X E hr J
  have hnL : ∀ j, j < 4 → j < Γ.2.2.2.2.2.2.2.2.2.2.2.1 := fun j h => by rw [hm]; exact h
  have hR : ∀ (d' mL : Nat), d' + 1 ≤ 3 ∧ 8 + (mL + 11) + d' * 64 ≤ 3 * 64 → (pb_rm d').frames + 1 ≤ Γ.2.2.2.1.frames ∧ 8 + (mL + 11) + (pb_rm d').locals ≤ Γ.2.2.2.1.locals := by rw [hRm0]; exact fun _ _ h => h
  have hRm : 1 ≤ 3 ∧ 64 ≤ 3 * 64 → 1 ≤ Γ.2.2.2.1.frames ∧ 64 ≤ Γ.2.2.2.1.locals := by rw [hRm0]; exact fun h => h
  exact pb_tt_snd _ (List.forall_mem_cons.mpr ⟨(s_iconst (pc := 0) X dX12_hasLine_0 rfl (s_istore_n (pc := 1) X dX12_hasLine_1 rfl (hnL _ (by decide)) (s_jmp (pc := 2) J [true, true, true, true]))), List.forall_mem_cons.mpr ⟨(s_iload_n (pc := 2) X dX12_hasLine_2 rfl (s_aload_n (pc := 3) X dX12_hasLine_3 rfl (s_getI (pc := 4) X dX12_hasLine_4 g_X12_261 (s_ic_ge (pc := 7) X dX12_hasLine_7 (by decide) (s_iconst (pc := 37) X dX12_hasLine_37 rfl (s_zret (pc := 38) X E hr dX12_hasLine_38)) (s_aload_n (pc := 10) X dX12_hasLine_10 rfl (s_getR (pc := 11) X dX12_hasLine_11 g_X12_37 (s_iload_n (pc := 14) X dX12_hasLine_14 rfl (s_iald (pc := 15) X dX12_hasLine_15 h_71 (s_iload_n (pc := 16) X dX12_hasLine_16 rfl (s_ic_ne (pc := 17) X dX12_hasLine_17 (by decide) (s_iinc (pc := 31) X dX12_hasLine_31 rfl (s_goto (pc := 34) X dX12_hasLine_34 (by decide) (s_jmp (pc := 2) J [true, true, true, true]))) (s_aload_n (pc := 20) X dX12_hasLine_20 rfl (s_iload_n (pc := 21) X dX12_hasLine_21 rfl (s_iload_n (pc := 22) X dX12_hasLine_22 rfl (s_callV (pc := 23) X dX12_hasLine_23 (S_X12_went _) q_X12_457 h_64 rfl (hR _ _ (by decide)) (s_if_eq (pc := 26) X dX12_hasLine_26 (by decide) (s_iinc (pc := 31) X dX12_hasLine_31 rfl (s_goto (pc := 34) X dX12_hasLine_34 (by decide) (s_jmp (pc := 2) J [true, true, true, true]))) (s_iconst (pc := 29) X dX12_hasLine_29 rfl (s_zret (pc := 30) X E hr dX12_hasLine_30))))))))))))))))), fun _ h => absurd h List.not_mem_nil⟩⟩)
