theorem dX12_line_0 : decode cX12_line 0 = .ok (.aload_n 0, 1) := by decide +kernel
theorem dX12_line_1 : decode cX12_line 1 = .ok (.iload_n 1, 1) := by decide +kernel
theorem dX12_line_2 : decode cX12_line 2 = .ok (.invokevirtual 284, 3) := by decide +kernel
theorem dX12_line_5 : decode cX12_line 5 = .ok (.ifCond .eq 48, 3) := by decide +kernel
theorem dX12_line_8 : decode cX12_line 8 = .ok (.iload_n 2, 1) := by decide +kernel
theorem dX12_line_9 : decode cX12_line 9 = .ok (.invokestatic 287, 3) := by decide +kernel
theorem dX12_line_12 : decode cX12_line 12 = .ok (.ifCond .eq 41, 3) := by decide +kernel
theorem dX12_line_15 : decode cX12_line 15 = .ok (.iload_n 3, 1) := by decide +kernel
theorem dX12_line_16 : decode cX12_line 16 = .ok (.ifCond .lt 37, 3) := by decide +kernel
theorem dX12_line_19 : decode cX12_line 19 = .ok (.iload_n 3, 1) := by decide +kernel
theorem dX12_line_20 : decode cX12_line 20 = .ok (.bipush 9, 2) := by decide +kernel
theorem dX12_line_22 : decode cX12_line 22 = .ok (.if_icmp .gt 31, 3) := by decide +kernel
theorem dX12_line_25 : decode cX12_line 25 = .ok (.iload 4, 2) := by decide +kernel
theorem dX12_line_27 : decode cX12_line 27 = .ok (.invokestatic 290, 3) := by decide +kernel
theorem dX12_line_30 : decode cX12_line 30 = .ok (.ifCond .eq 23, 3) := by decide +kernel
theorem dX12_line_33 : decode cX12_line 33 = .ok (.iload 6, 2) := by decide +kernel
theorem dX12_line_35 : decode cX12_line 35 = .ok (.ifCond .lt 18, 3) := by decide +kernel
theorem dX12_line_38 : decode cX12_line 38 = .ok (.iload 6, 2) := by decide +kernel
theorem dX12_line_40 : decode cX12_line 40 = .ok (.bipush 7, 2) := by decide +kernel
theorem dX12_line_42 : decode cX12_line 42 = .ok (.if_icmp .gt 11, 3) := by decide +kernel
theorem dX12_line_45 : decode cX12_line 45 = .ok (.iload 7, 2) := by decide +kernel
theorem dX12_line_47 : decode cX12_line 47 = .ok (.invokestatic 293, 3) := by decide +kernel
theorem dX12_line_50 : decode cX12_line 50 = .ok (.ifCond .ne 9, 3) := by decide +kernel
theorem dX12_line_53 : decode cX12_line 53 = .ok (.aload_n 0, 1) := by decide +kernel
theorem dX12_line_54 : decode cX12_line 54 = .ok (.iconst 1, 1) := by decide +kernel
theorem dX12_line_55 : decode cX12_line 55 = .ok (.invokevirtual 267, 3) := by decide +kernel
theorem dX12_line_58 : decode cX12_line 58 = .ok (.ireturn, 1) := by decide +kernel
theorem dX12_line_59 : decode cX12_line 59 = .ok (.aload_n 0, 1) := by decide +kernel
theorem dX12_line_60 : decode cX12_line 60 = .ok (.getfield 261, 3) := by decide +kernel
theorem dX12_line_63 : decode cX12_line 63 = .ok (.sipush 200, 3) := by decide +kernel
theorem dX12_line_66 : decode cX12_line 66 = .ok (.if_icmp .ne 9, 3) := by decide +kernel
theorem dX12_line_69 : decode cX12_line 69 = .ok (.aload_n 0, 1) := by decide +kernel
theorem dX12_line_70 : decode cX12_line 70 = .ok (.iconst 4, 1) := by decide +kernel
theorem dX12_line_71 : decode cX12_line 71 = .ok (.invokevirtual 267, 3) := by decide +kernel
theorem dX12_line_74 : decode cX12_line 74 = .ok (.ireturn, 1) := by decide +kernel
theorem dX12_line_75 : decode cX12_line 75 = .ok (.iload 7, 2) := by decide +kernel
theorem dX12_line_77 : decode cX12_line 77 = .ok (.aload_n 0, 1) := by decide +kernel
theorem dX12_line_78 : decode cX12_line 78 = .ok (.getfield 296, 3) := by decide +kernel
theorem dX12_line_81 : decode cX12_line 81 = .ok (.if_icmp .ge 9, 3) := by decide +kernel
theorem dX12_line_84 : decode cX12_line 84 = .ok (.aload_n 0, 1) := by decide +kernel
theorem dX12_line_85 : decode cX12_line 85 = .ok (.iconst 5, 1) := by decide +kernel
theorem dX12_line_86 : decode cX12_line 86 = .ok (.invokevirtual 267, 3) := by decide +kernel
theorem dX12_line_89 : decode cX12_line 89 = .ok (.ireturn, 1) := by decide +kernel
theorem dX12_line_90 : decode cX12_line 90 = .ok (.aload_n 0, 1) := by decide +kernel
theorem dX12_line_91 : decode cX12_line 91 = .ok (.getfield 280, 3) := by decide +kernel
theorem dX12_line_94 : decode cX12_line 94 = .ok (.ifCond .ne 10, 3) := by decide +kernel
theorem dX12_line_97 : decode cX12_line 97 = .ok (.aload_n 0, 1) := by decide +kernel
theorem dX12_line_98 : decode cX12_line 98 = .ok (.bipush 6, 2) := by decide +kernel
theorem dX12_line_100 : decode cX12_line 100 = .ok (.invokevirtual 267, 3) := by decide +kernel
theorem dX12_line_103 : decode cX12_line 103 = .ok (.ireturn, 1) := by decide +kernel
theorem dX12_line_104 : decode cX12_line 104 = .ok (.aload_n 0, 1) := by decide +kernel
theorem dX12_line_105 : decode cX12_line 105 = .ok (.iload 7, 2) := by decide +kernel
theorem dX12_line_107 : decode cX12_line 107 = .ok (.putfield 296, 3) := by decide +kernel
theorem dX12_line_110 : decode cX12_line 110 = .ok (.aload_n 0, 1) := by decide +kernel
theorem dX12_line_111 : decode cX12_line 111 = .ok (.getfield 34, 3) := by decide +kernel
theorem dX12_line_114 : decode cX12_line 114 = .ok (.aload_n 0, 1) := by decide +kernel
theorem dX12_line_115 : decode cX12_line 115 = .ok (.getfield 261, 3) := by decide +kernel
theorem dX12_line_118 : decode cX12_line 118 = .ok (.iload_n 1, 1) := by decide +kernel
theorem dX12_line_119 : decode cX12_line 119 = .ok (.iastore, 1) := by decide +kernel
theorem dX12_line_120 : decode cX12_line 120 = .ok (.aload_n 0, 1) := by decide +kernel
theorem dX12_line_121 : decode cX12_line 121 = .ok (.getfield 37, 3) := by decide +kernel
theorem dX12_line_124 : decode cX12_line 124 = .ok (.aload_n 0, 1) := by decide +kernel
theorem dX12_line_125 : decode cX12_line 125 = .ok (.getfield 261, 3) := by decide +kernel
theorem dX12_line_128 : decode cX12_line 128 = .ok (.iload_n 2, 1) := by decide +kernel
theorem dX12_line_129 : decode cX12_line 129 = .ok (.iastore, 1) := by decide +kernel
theorem dX12_line_130 : decode cX12_line 130 = .ok (.aload_n 0, 1) := by decide +kernel
theorem dX12_line_131 : decode cX12_line 131 = .ok (.getfield 40, 3) := by decide +kernel
theorem dX12_line_134 : decode cX12_line 134 = .ok (.aload_n 0, 1) := by decide +kernel
theorem dX12_line_135 : decode cX12_line 135 = .ok (.getfield 261, 3) := by decide +kernel
theorem dX12_line_138 : decode cX12_line 138 = .ok (.iload_n 3, 1) := by decide +kernel
theorem dX12_line_139 : decode cX12_line 139 = .ok (.iastore, 1) := by decide +kernel
theorem dX12_line_140 : decode cX12_line 140 = .ok (.aload_n 0, 1) := by decide +kernel
theorem dX12_line_141 : decode cX12_line 141 = .ok (.getfield 43, 3) := by decide +kernel
theorem dX12_line_144 : decode cX12_line 144 = .ok (.aload_n 0, 1) := by decide +kernel
theorem dX12_line_145 : decode cX12_line 145 = .ok (.getfield 261, 3) := by decide +kernel
theorem dX12_line_148 : decode cX12_line 148 = .ok (.iload 4, 2) := by decide +kernel
theorem dX12_line_150 : decode cX12_line 150 = .ok (.iastore, 1) := by decide +kernel
theorem dX12_line_151 : decode cX12_line 151 = .ok (.aload_n 0, 1) := by decide +kernel
theorem dX12_line_152 : decode cX12_line 152 = .ok (.getfield 67, 3) := by decide +kernel
theorem dX12_line_155 : decode cX12_line 155 = .ok (.aload_n 0, 1) := by decide +kernel
theorem dX12_line_156 : decode cX12_line 156 = .ok (.getfield 261, 3) := by decide +kernel
theorem dX12_line_159 : decode cX12_line 159 = .ok (.iload 5, 2) := by decide +kernel
theorem dX12_line_161 : decode cX12_line 161 = .ok (.bastore, 1) := by decide +kernel
theorem dX12_line_162 : decode cX12_line 162 = .ok (.aload_n 0, 1) := by decide +kernel
theorem dX12_line_163 : decode cX12_line 163 = .ok (.getfield 46, 3) := by decide +kernel
theorem dX12_line_166 : decode cX12_line 166 = .ok (.aload_n 0, 1) := by decide +kernel
theorem dX12_line_167 : decode cX12_line 167 = .ok (.getfield 261, 3) := by decide +kernel
theorem dX12_line_170 : decode cX12_line 170 = .ok (.iload 6, 2) := by decide +kernel
theorem dX12_line_172 : decode cX12_line 172 = .ok (.iastore, 1) := by decide +kernel
theorem dX12_line_173 : decode cX12_line 173 = .ok (.aload_n 0, 1) := by decide +kernel
theorem dX12_line_174 : decode cX12_line 174 = .ok (.getfield 49, 3) := by decide +kernel
theorem dX12_line_177 : decode cX12_line 177 = .ok (.aload_n 0, 1) := by decide +kernel
theorem dX12_line_178 : decode cX12_line 178 = .ok (.getfield 261, 3) := by decide +kernel
theorem dX12_line_181 : decode cX12_line 181 = .ok (.iload 7, 2) := by decide +kernel
theorem dX12_line_183 : decode cX12_line 183 = .ok (.iastore, 1) := by decide +kernel
theorem dX12_line_184 : decode cX12_line 184 = .ok (.iconst 0, 1) := by decide +kernel
theorem dX12_line_185 : decode cX12_line 185 = .ok (.istore 8, 2) := by decide +kernel
theorem dX12_line_187 : decode cX12_line 187 = .ok (.iload 8, 2) := by decide +kernel
theorem dX12_line_189 : decode cX12_line 189 = .ok (.iconst 3, 1) := by decide +kernel
theorem dX12_line_190 : decode cX12_line 190 = .ok (.if_icmp .ge 30, 3) := by decide +kernel
theorem dX12_line_193 : decode cX12_line 193 = .ok (.aload_n 0, 1) := by decide +kernel
theorem dX12_line_194 : decode cX12_line 194 = .ok (.getfield 61, 3) := by decide +kernel
theorem dX12_line_197 : decode cX12_line 197 = .ok (.iconst 3, 1) := by decide +kernel
theorem dX12_line_198 : decode cX12_line 198 = .ok (.aload_n 0, 1) := by decide +kernel
theorem dX12_line_199 : decode cX12_line 199 = .ok (.getfield 261, 3) := by decide +kernel
theorem dX12_line_202 : decode cX12_line 202 = .ok (.imul, 1) := by decide +kernel
theorem dX12_line_203 : decode cX12_line 203 = .ok (.iload 8, 2) := by decide +kernel
theorem dX12_line_205 : decode cX12_line 205 = .ok (.iadd, 1) := by decide +kernel
theorem dX12_line_206 : decode cX12_line 206 = .ok (.aload_n 0, 1) := by decide +kernel
theorem dX12_line_207 : decode cX12_line 207 = .ok (.getfield 64, 3) := by decide +kernel
theorem dX12_line_210 : decode cX12_line 210 = .ok (.iload 8, 2) := by decide +kernel
theorem dX12_line_212 : decode cX12_line 212 = .ok (.laload, 1) := by decide +kernel
theorem dX12_line_213 : decode cX12_line 213 = .ok (.lastore, 1) := by decide +kernel
theorem dX12_line_214 : decode cX12_line 214 = .ok (.iinc 8 1, 3) := by decide +kernel
theorem dX12_line_217 : decode cX12_line 217 = .ok (.goto (-30), 3) := by decide +kernel
theorem dX12_line_220 : decode cX12_line 220 = .ok (.aload_n 0, 1) := by decide +kernel
theorem dX12_line_221 : decode cX12_line 221 = .ok (.iconst 0, 1) := by decide +kernel
theorem dX12_line_222 : decode cX12_line 222 = .ok (.putfield 280, 3) := by decide +kernel
theorem dX12_line_225 : decode cX12_line 225 = .ok (.aload_n 0, 1) := by decide +kernel
theorem dX12_line_226 : decode cX12_line 226 = .ok (.dup, 1) := by decide +kernel
theorem dX12_line_227 : decode cX12_line 227 = .ok (.getfield 261, 3) := by decide +kernel
theorem dX12_line_230 : decode cX12_line 230 = .ok (.iconst 1, 1) := by decide +kernel
theorem dX12_line_231 : decode cX12_line 231 = .ok (.iadd, 1) := by decide +kernel
theorem dX12_line_232 : decode cX12_line 232 = .ok (.putfield 261, 3) := by decide +kernel
theorem dX12_line_235 : decode cX12_line 235 = .ok (.aload_n 0, 1) := by decide +kernel
theorem dX12_line_236 : decode cX12_line 236 = .ok (.aload_n 0, 1) := by decide +kernel
theorem dX12_line_237 : decode cX12_line 237 = .ok (.getfield 261, 3) := by decide +kernel
theorem dX12_line_240 : decode cX12_line 240 = .ok (.iconst 1, 1) := by decide +kernel
theorem dX12_line_241 : decode cX12_line 241 = .ok (.isub, 1) := by decide +kernel
theorem dX12_line_242 : decode cX12_line 242 = .ok (.invokevirtual 237, 3) := by decide +kernel
theorem dX12_line_245 : decode cX12_line 245 = .ok (.ireturn, 1) := by decide +kernel
noncomputable def B_X12_line_0 : pb_C := (i_aload 0 (i_iload 1 (i_callV 64 1 1 M_X12_isFamily (i_if_eq (i_aload 0 (i_const (.int 1) (i_callV 64 1 1 M_X12_refuse i_iret))) (i_iload 2 (i_callS 1 1 M_X12_isWeek (i_if_eq (i_aload 0 (i_const (.int 1) (i_callV 64 1 1 M_X12_refuse i_iret))) (i_iload 3 (i_if_lt (i_aload 0 (i_const (.int 1) (i_callV 64 1 1 M_X12_refuse i_iret))) (i_iload 3 (i_const (.int 9) (i_ic_gt (i_aload 0 (i_const (.int 1) (i_callV 64 1 1 M_X12_refuse i_iret))) (i_iload 4 (i_callS 1 1 M_X12_isSum (i_if_eq (i_aload 0 (i_const (.int 1) (i_callV 64 1 1 M_X12_refuse i_iret))) (i_iload 6 (i_if_lt (i_aload 0 (i_const (.int 1) (i_callV 64 1 1 M_X12_refuse i_iret))) (i_iload 6 (i_const (.int 7) (i_ic_gt (i_aload 0 (i_const (.int 1) (i_callV 64 1 1 M_X12_refuse i_iret))) (i_iload 7 (i_callS 1 1 M_X12_isDay (i_if_ne (i_aload 0 (i_getI 64 7 (i_const (.int 200) (i_ic_ne (i_iload 7 (i_aload 0 (i_getI 64 9 (i_ic_ge (i_aload 0 (i_getI 64 11 (i_if_ne (i_aload 0 (i_iload 7 (i_putI 64 9 (i_aload 0 (i_getR 64 70 (i_aload 0 (i_getI 64 7 (i_iload 1 (i_ast 70 200 (fun x => x) (i_aload 0 (i_getR 64 71 (i_aload 0 (i_getI 64 7 (i_iload 2 (i_ast 71 200 (fun x => x) (i_aload 0 (i_getR 64 72 (i_aload 0 (i_getI 64 7 (i_iload 3 (i_ast 72 200 (fun x => x) (i_aload 0 (i_getR 64 73 (i_aload 0 (i_getI 64 7 (i_iload 4 (i_ast 73 200 (fun x => x) (i_aload 0 (i_getR 64 81 (i_aload 0 (i_getI 64 7 (i_iload 5 (i_ast 81 200 (vp_nar .boolean) (i_aload 0 (i_getR 64 74 (i_aload 0 (i_getI 64 7 (i_iload 6 (i_ast 74 200 (fun x => x) (i_aload 0 (i_getR 64 75 (i_aload 0 (i_getI 64 7 (i_iload 7 (i_ast 75 200 (fun x => x) (i_const (.int 0) (i_istore 8 (i_jmp 187 [true, false, false, false, false, false, false, false, true])))))))))))))))))))))))))))))))))))))))))))))))) (i_aload 0 (i_const (.int 6) (i_callV 64 1 1 M_X12_refuse i_iret)))))) (i_aload 0 (i_const (.int 5) (i_callV 64 1 1 M_X12_refuse i_iret))))))) (i_aload 0 (i_const (.int 4) (i_callV 64 1 1 M_X12_refuse i_iret))))))) (i_aload 0 (i_const (.int 1) (i_callV 64 1 1 M_X12_refuse i_iret))))))))))))))))))))))))))
noncomputable def B_X12_line_187 : pb_C := (i_iload 8 (i_const (.int 3) (i_ic_ge (i_aload 0 (i_const (.int 0) (i_putZ 64 11 (i_aload 0 (i_dupR (i_getI 64 7 (i_const (.int 1) (i_ibin (· + ·) (i_putI 64 7 (i_aload 0 (i_aload 0 (i_getI 64 7 (i_const (.int 1) (i_ibin (· - ·) (i_callV 64 1 1 M_X12_gives i_iret))))))))))))))) (i_aload 0 (i_getR 64 79 (i_const (.int 3) (i_aload 0 (i_getI 64 7 (i_ibin (· * ·) (i_iload 8 (i_ibin (· + ·) (i_aload 0 (i_getR 64 80 (i_iload 8 (i_lald 80 3 (i_last 79 600 (i_iinc 8 1 (i_jmp 187 [true, false, false, false, false, false, false, false, true]))))))))))))))))))
noncomputable def T_X12_line : Nat → pb_C := pb_tt [(0, B_X12_line_0), (187, B_X12_line_187)]
noncomputable def M_X12_line : pb_F := pb_M T_X12_line 9
set_option maxRecDepth 100000 in
set_option maxHeartbeats 4000000 in
theorem S_X12_line (l : Launch) : pb_Sound l yX12_line cX12_line 9 (some .int) 2 M_X12_line := by
  refine pb_sound_of (by decide) m_8_46 ?_
  intro Γ hl0 hRm0 hm X E hr J
  have hnL : ∀ j, j < 9 → j < Γ.2.2.2.2.2.2.2.2.2.2.2.1 := fun j h => by rw [hm]; exact h
  have hR : ∀ (d' mL : Nat), d' + 1 ≤ 2 ∧ 8 + (mL + 11) + d' * 64 ≤ 2 * 64 → (pb_rm d').frames + 1 ≤ Γ.2.2.2.1.frames ∧ 8 + (mL + 11) + (pb_rm d').locals ≤ Γ.2.2.2.1.locals := by rw [hRm0]; exact fun _ _ h => h
  have hRm : 1 ≤ 2 ∧ 64 ≤ 2 * 64 → 1 ≤ Γ.2.2.2.1.frames ∧ 64 ≤ Γ.2.2.2.1.locals := by rw [hRm0]; exact fun h => h
  exact pb_tt_snd _ (List.forall_mem_cons.mpr ⟨(s_aload_n (pc := 0) X dX12_line_0 rfl (s_iload_n (pc := 1) X dX12_line_1 rfl (s_callV (pc := 2) X dX12_line_2 (S_X12_isFamily _) q_X12_284 h_64 rfl (hR _ _ (by decide)) (s_if_eq (pc := 5) X dX12_line_5 (by decide) (s_aload_n (pc := 53) X dX12_line_53 rfl (s_iconst (pc := 54) X dX12_line_54 rfl (s_callV (pc := 55) X dX12_line_55 (S_X12_refuse _) q_X12_267 h_64 rfl (hR _ _ (by decide)) (s_iret (pc := 58) X E hr dX12_line_58)))) (s_iload_n (pc := 8) X dX12_line_8 rfl (s_callS (pc := 9) X dX12_line_9 (S_X12_isWeek _) q_X12_287 (hR _ _ (by decide)) (s_if_eq (pc := 12) X dX12_line_12 (by decide) (s_aload_n (pc := 53) X dX12_line_53 rfl (s_iconst (pc := 54) X dX12_line_54 rfl (s_callV (pc := 55) X dX12_line_55 (S_X12_refuse _) q_X12_267 h_64 rfl (hR _ _ (by decide)) (s_iret (pc := 58) X E hr dX12_line_58)))) (s_iload_n (pc := 15) X dX12_line_15 rfl (s_if_lt (pc := 16) X dX12_line_16 (by decide) (s_aload_n (pc := 53) X dX12_line_53 rfl (s_iconst (pc := 54) X dX12_line_54 rfl (s_callV (pc := 55) X dX12_line_55 (S_X12_refuse _) q_X12_267 h_64 rfl (hR _ _ (by decide)) (s_iret (pc := 58) X E hr dX12_line_58)))) (s_iload_n (pc := 19) X dX12_line_19 rfl (s_bipush (pc := 20) X dX12_line_20 rfl (s_ic_gt (pc := 22) X dX12_line_22 (by decide) (s_aload_n (pc := 53) X dX12_line_53 rfl (s_iconst (pc := 54) X dX12_line_54 rfl (s_callV (pc := 55) X dX12_line_55 (S_X12_refuse _) q_X12_267 h_64 rfl (hR _ _ (by decide)) (s_iret (pc := 58) X E hr dX12_line_58)))) (s_iload (pc := 25) X dX12_line_25 (s_callS (pc := 27) X dX12_line_27 (S_X12_isSum _) q_X12_290 (hR _ _ (by decide)) (s_if_eq (pc := 30) X dX12_line_30 (by decide) (s_aload_n (pc := 53) X dX12_line_53 rfl (s_iconst (pc := 54) X dX12_line_54 rfl (s_callV (pc := 55) X dX12_line_55 (S_X12_refuse _) q_X12_267 h_64 rfl (hR _ _ (by decide)) (s_iret (pc := 58) X E hr dX12_line_58)))) (s_iload (pc := 33) X dX12_line_33 (s_if_lt (pc := 35) X dX12_line_35 (by decide) (s_aload_n (pc := 53) X dX12_line_53 rfl (s_iconst (pc := 54) X dX12_line_54 rfl (s_callV (pc := 55) X dX12_line_55 (S_X12_refuse _) q_X12_267 h_64 rfl (hR _ _ (by decide)) (s_iret (pc := 58) X E hr dX12_line_58)))) (s_iload (pc := 38) X dX12_line_38 (s_bipush (pc := 40) X dX12_line_40 rfl (s_ic_gt (pc := 42) X dX12_line_42 (by decide) (s_aload_n (pc := 53) X dX12_line_53 rfl (s_iconst (pc := 54) X dX12_line_54 rfl (s_callV (pc := 55) X dX12_line_55 (S_X12_refuse _) q_X12_267 h_64 rfl (hR _ _ (by decide)) (s_iret (pc := 58) X E hr dX12_line_58)))) (s_iload (pc := 45) X dX12_line_45 (s_callS (pc := 47) X dX12_line_47 (S_X12_isDay _) q_X12_293 (hR _ _ (by decide)) (s_if_ne (pc := 50) X dX12_line_50 (by decide) (s_aload_n (pc := 59) X dX12_line_59 rfl (s_getI (pc := 60) X dX12_line_60 g_X12_261 (s_sipush (pc := 63) X dX12_line_63 rfl (s_ic_ne (pc := 66) X dX12_line_66 (by decide) (s_iload (pc := 75) X dX12_line_75 (s_aload_n (pc := 77) X dX12_line_77 rfl (s_getI (pc := 78) X dX12_line_78 g_X12_296 (s_ic_ge (pc := 81) X dX12_line_81 (by decide) (s_aload_n (pc := 90) X dX12_line_90 rfl (s_getI (pc := 91) X dX12_line_91 g_X12_280 (s_if_ne (pc := 94) X dX12_line_94 (by decide) (s_aload_n (pc := 104) X dX12_line_104 rfl (s_iload (pc := 105) X dX12_line_105 (s_putI (pc := 107) X dX12_line_107 p_X12_296 (s_aload_n (pc := 110) X dX12_line_110 rfl (s_getR (pc := 111) X dX12_line_111 g_X12_34 (s_aload_n (pc := 114) X dX12_line_114 rfl (s_getI (pc := 115) X dX12_line_115 g_X12_261 (s_iload_n (pc := 118) X dX12_line_118 rfl (s_iast (pc := 119) X dX12_line_119 h_70 (s_aload_n (pc := 120) X dX12_line_120 rfl (s_getR (pc := 121) X dX12_line_121 g_X12_37 (s_aload_n (pc := 124) X dX12_line_124 rfl (s_getI (pc := 125) X dX12_line_125 g_X12_261 (s_iload_n (pc := 128) X dX12_line_128 rfl (s_iast (pc := 129) X dX12_line_129 h_71 (s_aload_n (pc := 130) X dX12_line_130 rfl (s_getR (pc := 131) X dX12_line_131 g_X12_40 (s_aload_n (pc := 134) X dX12_line_134 rfl (s_getI (pc := 135) X dX12_line_135 g_X12_261 (s_iload_n (pc := 138) X dX12_line_138 rfl (s_iast (pc := 139) X dX12_line_139 h_72 (s_aload_n (pc := 140) X dX12_line_140 rfl (s_getR (pc := 141) X dX12_line_141 g_X12_43 (s_aload_n (pc := 144) X dX12_line_144 rfl (s_getI (pc := 145) X dX12_line_145 g_X12_261 (s_iload (pc := 148) X dX12_line_148 (s_iast (pc := 150) X dX12_line_150 h_73 (s_aload_n (pc := 151) X dX12_line_151 rfl (s_getR (pc := 152) X dX12_line_152 g_X12_67 (s_aload_n (pc := 155) X dX12_line_155 rfl (s_getI (pc := 156) X dX12_line_156 g_X12_261 (s_iload (pc := 159) X dX12_line_159 (s_zast (pc := 161) X dX12_line_161 h_81 (s_aload_n (pc := 162) X dX12_line_162 rfl (s_getR (pc := 163) X dX12_line_163 g_X12_46 (s_aload_n (pc := 166) X dX12_line_166 rfl (s_getI (pc := 167) X dX12_line_167 g_X12_261 (s_iload (pc := 170) X dX12_line_170 (s_iast (pc := 172) X dX12_line_172 h_74 (s_aload_n (pc := 173) X dX12_line_173 rfl (s_getR (pc := 174) X dX12_line_174 g_X12_49 (s_aload_n (pc := 177) X dX12_line_177 rfl (s_getI (pc := 178) X dX12_line_178 g_X12_261 (s_iload (pc := 181) X dX12_line_181 (s_iast (pc := 183) X dX12_line_183 h_75 (s_iconst (pc := 184) X dX12_line_184 rfl (s_istore (pc := 185) X dX12_line_185 (hnL _ (by decide)) (s_jmp (pc := 187) J [true, false, false, false, false, false, false, false, true])))))))))))))))))))))))))))))))))))))))))))))))) (s_aload_n (pc := 97) X dX12_line_97 rfl (s_bipush (pc := 98) X dX12_line_98 rfl (s_callV (pc := 100) X dX12_line_100 (S_X12_refuse _) q_X12_267 h_64 rfl (hR _ _ (by decide)) (s_iret (pc := 103) X E hr dX12_line_103))))))) (s_aload_n (pc := 84) X dX12_line_84 rfl (s_iconst (pc := 85) X dX12_line_85 rfl (s_callV (pc := 86) X dX12_line_86 (S_X12_refuse _) q_X12_267 h_64 rfl (hR _ _ (by decide)) (s_iret (pc := 89) X E hr dX12_line_89)))))))) (s_aload_n (pc := 69) X dX12_line_69 rfl (s_iconst (pc := 70) X dX12_line_70 rfl (s_callV (pc := 71) X dX12_line_71 (S_X12_refuse _) q_X12_267 h_64 rfl (hR _ _ (by decide)) (s_iret (pc := 74) X E hr dX12_line_74)))))))) (s_aload_n (pc := 53) X dX12_line_53 rfl (s_iconst (pc := 54) X dX12_line_54 rfl (s_callV (pc := 55) X dX12_line_55 (S_X12_refuse _) q_X12_267 h_64 rfl (hR _ _ (by decide)) (s_iret (pc := 58) X E hr dX12_line_58))))))))))))))))))))))))))), List.forall_mem_cons.mpr ⟨(s_iload (pc := 187) X dX12_line_187 (s_iconst (pc := 189) X dX12_line_189 rfl (s_ic_ge (pc := 190) X dX12_line_190 (by decide) (s_aload_n (pc := 220) X dX12_line_220 rfl (s_iconst (pc := 221) X dX12_line_221 rfl (s_putZ (pc := 222) X dX12_line_222 p_X12_280 (s_aload_n (pc := 225) X dX12_line_225 rfl (s_dupR (pc := 226) X dX12_line_226 (s_getI (pc := 227) X dX12_line_227 g_X12_261 (s_iconst (pc := 230) X dX12_line_230 rfl (s_iadd (pc := 231) X dX12_line_231 (s_putI (pc := 232) X dX12_line_232 p_X12_261 (s_aload_n (pc := 235) X dX12_line_235 rfl (s_aload_n (pc := 236) X dX12_line_236 rfl (s_getI (pc := 237) X dX12_line_237 g_X12_261 (s_iconst (pc := 240) X dX12_line_240 rfl (s_isub (pc := 241) X dX12_line_241 (s_callV (pc := 242) X dX12_line_242 (S_X12_gives _) q_X12_237 h_64 rfl (hR _ _ (by decide)) (s_iret (pc := 245) X E hr dX12_line_245)))))))))))))))) (s_aload_n (pc := 193) X dX12_line_193 rfl (s_getR (pc := 194) X dX12_line_194 g_X12_61 (s_iconst (pc := 197) X dX12_line_197 rfl (s_aload_n (pc := 198) X dX12_line_198 rfl (s_getI (pc := 199) X dX12_line_199 g_X12_261 (s_imul (pc := 202) X dX12_line_202 (s_iload (pc := 203) X dX12_line_203 (s_iadd (pc := 205) X dX12_line_205 (s_aload_n (pc := 206) X dX12_line_206 rfl (s_getR (pc := 207) X dX12_line_207 g_X12_64 (s_iload (pc := 210) X dX12_line_210 (s_lald (pc := 212) X dX12_line_212 h_80 (s_last (pc := 213) X dX12_line_213 h_79 (s_iinc (pc := 214) X dX12_line_214 rfl (s_goto (pc := 217) X dX12_line_217 (by decide) (s_jmp (pc := 187) J [true, false, false, false, false, false, false, false, true]))))))))))))))))))), fun _ h => absurd h List.not_mem_nil⟩⟩)
theorem dX12_isLine_0 : decode cX12_isLine 0 = .ok (.iload_n 1, 1) := by decide +kernel
theorem dX12_isLine_1 : decode cX12_isLine 1 = .ok (.ifCond .lt 15, 3) := by decide +kernel
theorem dX12_isLine_4 : decode cX12_isLine 4 = .ok (.iload_n 1, 1) := by decide +kernel
theorem dX12_isLine_5 : decode cX12_isLine 5 = .ok (.aload_n 0, 1) := by decide +kernel
theorem dX12_isLine_6 : decode cX12_isLine 6 = .ok (.getfield 261, 3) := by decide +kernel
theorem dX12_isLine_9 : decode cX12_isLine 9 = .ok (.if_icmp .ge 7, 3) := by decide +kernel
theorem dX12_isLine_12 : decode cX12_isLine 12 = .ok (.iconst 1, 1) := by decide +kernel
theorem dX12_isLine_13 : decode cX12_isLine 13 = .ok (.goto 4, 3) := by decide +kernel
theorem dX12_isLine_16 : decode cX12_isLine 16 = .ok (.iconst 0, 1) := by decide +kernel
theorem dX12_isLine_17 : decode cX12_isLine 17 = .ok (.ireturn, 1) := by decide +kernel
noncomputable def B_X12_isLine_0 : pb_C := (i_iload 1 (i_if_lt (i_const (.int 0) i_zret) (i_iload 1 (i_aload 0 (i_getI 64 7 (i_ic_ge (i_const (.int 0) i_zret) (i_const (.int 1) i_zret)))))))
noncomputable def T_X12_isLine : Nat → pb_C := pb_tt [(0, B_X12_isLine_0)]
noncomputable def M_X12_isLine : pb_F := pb_M T_X12_isLine 2
set_option maxRecDepth 100000 in
set_option maxHeartbeats 4000000 in
theorem S_X12_isLine (l : Launch) : pb_Sound l yX12_isLine cX12_isLine 2 (some .boolean) 1 M_X12_isLine := by
  refine pb_sound_of (by decide) m_8_67 ?_
  intro Γ hl0 hRm0 hm X E hr J
  have hnL : ∀ j, j < 2 → j < Γ.2.2.2.2.2.2.2.2.2.2.2.1 := fun j h => by rw [hm]; exact h
  have hR : ∀ (d' mL : Nat), d' + 1 ≤ 1 ∧ 8 + (mL + 11) + d' * 64 ≤ 1 * 64 → (pb_rm d').frames + 1 ≤ Γ.2.2.2.1.frames ∧ 8 + (mL + 11) + (pb_rm d').locals ≤ Γ.2.2.2.1.locals := by rw [hRm0]; exact fun _ _ h => h
  have hRm : 1 ≤ 1 ∧ 64 ≤ 1 * 64 → 1 ≤ Γ.2.2.2.1.frames ∧ 64 ≤ Γ.2.2.2.1.locals := by rw [hRm0]; exact fun h => h
  exact pb_tt_snd _ (List.forall_mem_cons.mpr ⟨(s_iload_n (pc := 0) X dX12_isLine_0 rfl (s_if_lt (pc := 1) X dX12_isLine_1 (by decide) (s_iconst (pc := 16) X dX12_isLine_16 rfl (s_zret (pc := 17) X E hr dX12_isLine_17)) (s_iload_n (pc := 4) X dX12_isLine_4 rfl (s_aload_n (pc := 5) X dX12_isLine_5 rfl (s_getI (pc := 6) X dX12_isLine_6 g_X12_261 (s_ic_ge (pc := 9) X dX12_isLine_9 (by decide) (s_iconst (pc := 16) X dX12_isLine_16 rfl (s_zret (pc := 17) X E hr dX12_isLine_17)) (s_iconst (pc := 12) X dX12_isLine_12 rfl (s_goto (pc := 13) X dX12_isLine_13 (by decide) (s_zret (pc := 17) X E hr dX12_isLine_17))))))))), fun _ h => absurd h List.not_mem_nil⟩)
theorem dX12_reading_0 : decode cX12_reading 0 = .ok (.aload_n 0, 1) := by decide +kernel
theorem dX12_reading_1 : decode cX12_reading 1 = .ok (.iload_n 1, 1) := by decide +kernel
theorem dX12_reading_2 : decode cX12_reading 2 = .ok (.invokevirtual 299, 3) := by decide +kernel
theorem dX12_reading_5 : decode cX12_reading 5 = .ok (.ifCond .eq 17, 3) := by decide +kernel
theorem dX12_reading_8 : decode cX12_reading 8 = .ok (.iload_n 2, 1) := by decide +kernel
theorem dX12_reading_9 : decode cX12_reading 9 = .ok (.invokestatic 290, 3) := by decide +kernel
theorem dX12_reading_12 : decode cX12_reading 12 = .ok (.ifCond .eq 10, 3) := by decide +kernel
theorem dX12_reading_15 : decode cX12_reading 15 = .ok (.iload_n 3, 1) := by decide +kernel
theorem dX12_reading_16 : decode cX12_reading 16 = .ok (.invokestatic 293, 3) := by decide +kernel
theorem dX12_reading_19 : decode cX12_reading 19 = .ok (.ifCond .ne 9, 3) := by decide +kernel
theorem dX12_reading_22 : decode cX12_reading 22 = .ok (.aload_n 0, 1) := by decide +kernel
theorem dX12_reading_23 : decode cX12_reading 23 = .ok (.iconst 1, 1) := by decide +kernel
theorem dX12_reading_24 : decode cX12_reading 24 = .ok (.invokevirtual 245, 3) := by decide +kernel
theorem dX12_reading_27 : decode cX12_reading 27 = .ok (.ireturn, 1) := by decide +kernel
theorem dX12_reading_28 : decode cX12_reading 28 = .ok (.aload_n 0, 1) := by decide +kernel
theorem dX12_reading_29 : decode cX12_reading 29 = .ok (.getfield 302, 3) := by decide +kernel
theorem dX12_reading_32 : decode cX12_reading 32 = .ok (.bipush 60, 2) := by decide +kernel
theorem dX12_reading_34 : decode cX12_reading 34 = .ok (.if_icmp .ne 9, 3) := by decide +kernel
theorem dX12_reading_37 : decode cX12_reading 37 = .ok (.aload_n 0, 1) := by decide +kernel
theorem dX12_reading_38 : decode cX12_reading 38 = .ok (.iconst 4, 1) := by decide +kernel
theorem dX12_reading_39 : decode cX12_reading 39 = .ok (.invokevirtual 245, 3) := by decide +kernel
theorem dX12_reading_42 : decode cX12_reading 42 = .ok (.ireturn, 1) := by decide +kernel
theorem dX12_reading_43 : decode cX12_reading 43 = .ok (.iload_n 3, 1) := by decide +kernel
theorem dX12_reading_44 : decode cX12_reading 44 = .ok (.aload_n 0, 1) := by decide +kernel
theorem dX12_reading_45 : decode cX12_reading 45 = .ok (.getfield 296, 3) := by decide +kernel
theorem dX12_reading_48 : decode cX12_reading 48 = .ok (.if_icmp .ge 9, 3) := by decide +kernel
theorem dX12_reading_51 : decode cX12_reading 51 = .ok (.aload_n 0, 1) := by decide +kernel
theorem dX12_reading_52 : decode cX12_reading 52 = .ok (.iconst 5, 1) := by decide +kernel
theorem dX12_reading_53 : decode cX12_reading 53 = .ok (.invokevirtual 245, 3) := by decide +kernel
theorem dX12_reading_56 : decode cX12_reading 56 = .ok (.ireturn, 1) := by decide +kernel
theorem dX12_reading_57 : decode cX12_reading 57 = .ok (.aload_n 0, 1) := by decide +kernel
theorem dX12_reading_58 : decode cX12_reading 58 = .ok (.iload_n 3, 1) := by decide +kernel
theorem dX12_reading_59 : decode cX12_reading 59 = .ok (.putfield 296, 3) := by decide +kernel
theorem dX12_reading_62 : decode cX12_reading 62 = .ok (.aload_n 0, 1) := by decide +kernel
theorem dX12_reading_63 : decode cX12_reading 63 = .ok (.getfield 52, 3) := by decide +kernel
theorem dX12_reading_66 : decode cX12_reading 66 = .ok (.aload_n 0, 1) := by decide +kernel
theorem dX12_reading_67 : decode cX12_reading 67 = .ok (.getfield 302, 3) := by decide +kernel
theorem dX12_reading_70 : decode cX12_reading 70 = .ok (.iload_n 1, 1) := by decide +kernel
theorem dX12_reading_71 : decode cX12_reading 71 = .ok (.iastore, 1) := by decide +kernel
theorem dX12_reading_72 : decode cX12_reading 72 = .ok (.aload_n 0, 1) := by decide +kernel
theorem dX12_reading_73 : decode cX12_reading 73 = .ok (.getfield 55, 3) := by decide +kernel
theorem dX12_reading_76 : decode cX12_reading 76 = .ok (.aload_n 0, 1) := by decide +kernel
theorem dX12_reading_77 : decode cX12_reading 77 = .ok (.getfield 302, 3) := by decide +kernel
theorem dX12_reading_80 : decode cX12_reading 80 = .ok (.iload_n 2, 1) := by decide +kernel
theorem dX12_reading_81 : decode cX12_reading 81 = .ok (.iastore, 1) := by decide +kernel
theorem dX12_reading_82 : decode cX12_reading 82 = .ok (.aload_n 0, 1) := by decide +kernel
theorem dX12_reading_83 : decode cX12_reading 83 = .ok (.getfield 58, 3) := by decide +kernel
theorem dX12_reading_86 : decode cX12_reading 86 = .ok (.aload_n 0, 1) := by decide +kernel
theorem dX12_reading_87 : decode cX12_reading 87 = .ok (.getfield 302, 3) := by decide +kernel
theorem dX12_reading_90 : decode cX12_reading 90 = .ok (.iload_n 3, 1) := by decide +kernel
theorem dX12_reading_91 : decode cX12_reading 91 = .ok (.iastore, 1) := by decide +kernel
theorem dX12_reading_92 : decode cX12_reading 92 = .ok (.aload_n 0, 1) := by decide +kernel
theorem dX12_reading_93 : decode cX12_reading 93 = .ok (.dup, 1) := by decide +kernel
theorem dX12_reading_94 : decode cX12_reading 94 = .ok (.getfield 302, 3) := by decide +kernel
theorem dX12_reading_97 : decode cX12_reading 97 = .ok (.iconst 1, 1) := by decide +kernel
theorem dX12_reading_98 : decode cX12_reading 98 = .ok (.iadd, 1) := by decide +kernel
theorem dX12_reading_99 : decode cX12_reading 99 = .ok (.putfield 302, 3) := by decide +kernel
theorem dX12_reading_102 : decode cX12_reading 102 = .ok (.aload_n 0, 1) := by decide +kernel
theorem dX12_reading_103 : decode cX12_reading 103 = .ok (.iconst 0, 1) := by decide +kernel
theorem dX12_reading_104 : decode cX12_reading 104 = .ok (.invokevirtual 245, 3) := by decide +kernel
theorem dX12_reading_107 : decode cX12_reading 107 = .ok (.ireturn, 1) := by decide +kernel
noncomputable def B_X12_reading_0 : pb_C := (i_aload 0 (i_iload 1 (i_callV 64 1 1 M_X12_isLine (i_if_eq (i_aload 0 (i_const (.int 1) (i_callV 64 1 1 M_X12_is i_zret))) (i_iload 2 (i_callS 1 1 M_X12_isSum (i_if_eq (i_aload 0 (i_const (.int 1) (i_callV 64 1 1 M_X12_is i_zret))) (i_iload 3 (i_callS 1 1 M_X12_isDay (i_if_ne (i_aload 0 (i_getI 64 8 (i_const (.int 60) (i_ic_ne (i_iload 3 (i_aload 0 (i_getI 64 9 (i_ic_ge (i_aload 0 (i_iload 3 (i_putI 64 9 (i_aload 0 (i_getR 64 76 (i_aload 0 (i_getI 64 8 (i_iload 1 (i_ast 76 60 (fun x => x) (i_aload 0 (i_getR 64 77 (i_aload 0 (i_getI 64 8 (i_iload 2 (i_ast 77 60 (fun x => x) (i_aload 0 (i_getR 64 78 (i_aload 0 (i_getI 64 8 (i_iload 3 (i_ast 78 60 (fun x => x) (i_aload 0 (i_dupR (i_getI 64 8 (i_const (.int 1) (i_ibin (· + ·) (i_putI 64 8 (i_aload 0 (i_const (.int 0) (i_callV 64 1 1 M_X12_is i_zret)))))))))))))))))))))))))))))) (i_aload 0 (i_const (.int 5) (i_callV 64 1 1 M_X12_is i_zret))))))) (i_aload 0 (i_const (.int 4) (i_callV 64 1 1 M_X12_is i_zret))))))) (i_aload 0 (i_const (.int 1) (i_callV 64 1 1 M_X12_is i_zret)))))))))))))
noncomputable def T_X12_reading : Nat → pb_C := pb_tt [(0, B_X12_reading_0)]
noncomputable def M_X12_reading : pb_F := pb_M T_X12_reading 4
set_option maxRecDepth 100000 in
set_option maxHeartbeats 4000000 in
theorem S_X12_reading (l : Launch) : pb_Sound l yX12_reading cX12_reading 4 (some .boolean) 2 M_X12_reading := by
  refine pb_sound_of (by decide) m_8_63 ?_
  intro Γ hl0 hRm0 hm X E hr J
  have hnL : ∀ j, j < 4 → j < Γ.2.2.2.2.2.2.2.2.2.2.2.1 := fun j h => by rw [hm]; exact h
  have hR : ∀ (d' mL : Nat), d' + 1 ≤ 2 ∧ 8 + (mL + 11) + d' * 64 ≤ 2 * 64 → (pb_rm d').frames + 1 ≤ Γ.2.2.2.1.frames ∧ 8 + (mL + 11) + (pb_rm d').locals ≤ Γ.2.2.2.1.locals := by rw [hRm0]; exact fun _ _ h => h
  have hRm : 1 ≤ 2 ∧ 64 ≤ 2 * 64 → 1 ≤ Γ.2.2.2.1.frames ∧ 64 ≤ Γ.2.2.2.1.locals := by rw [hRm0]; exact fun h => h
  exact pb_tt_snd _ (List.forall_mem_cons.mpr ⟨(s_aload_n (pc := 0) X dX12_reading_0 rfl (s_iload_n (pc := 1) X dX12_reading_1 rfl (s_callV (pc := 2) X dX12_reading_2 (S_X12_isLine _) q_X12_299 h_64 rfl (hR _ _ (by decide)) (s_if_eq (pc := 5) X dX12_reading_5 (by decide) (s_aload_n (pc := 22) X dX12_reading_22 rfl (s_iconst (pc := 23) X dX12_reading_23 rfl (s_callV (pc := 24) X dX12_reading_24 (S_X12_is _) q_X12_245 h_64 rfl (hR _ _ (by decide)) (s_zret (pc := 27) X E hr dX12_reading_27)))) (s_iload_n (pc := 8) X dX12_reading_8 rfl (s_callS (pc := 9) X dX12_reading_9 (S_X12_isSum _) q_X12_290 (hR _ _ (by decide)) (s_if_eq (pc := 12) X dX12_reading_12 (by decide) (s_aload_n (pc := 22) X dX12_reading_22 rfl (s_iconst (pc := 23) X dX12_reading_23 rfl (s_callV (pc := 24) X dX12_reading_24 (S_X12_is _) q_X12_245 h_64 rfl (hR _ _ (by decide)) (s_zret (pc := 27) X E hr dX12_reading_27)))) (s_iload_n (pc := 15) X dX12_reading_15 rfl (s_callS (pc := 16) X dX12_reading_16 (S_X12_isDay _) q_X12_293 (hR _ _ (by decide)) (s_if_ne (pc := 19) X dX12_reading_19 (by decide) (s_aload_n (pc := 28) X dX12_reading_28 rfl (s_getI (pc := 29) X dX12_reading_29 g_X12_302 (s_bipush (pc := 32) X dX12_reading_32 rfl (s_ic_ne (pc := 34) X dX12_reading_34 (by decide) (s_iload_n (pc := 43) X dX12_reading_43 rfl (s_aload_n (pc := 44) X dX12_reading_44 rfl (s_getI (pc := 45) X dX12_reading_45 g_X12_296 (s_ic_ge (pc := 48) X dX12_reading_48 (by decide) (s_aload_n (pc := 57) X dX12_reading_57 rfl (s_iload_n (pc := 58) X dX12_reading_58 rfl (s_putI (pc := 59) X dX12_reading_59 p_X12_296 (s_aload_n (pc := 62) X dX12_reading_62 rfl (s_getR (pc := 63) X dX12_reading_63 g_X12_52 (s_aload_n (pc := 66) X dX12_reading_66 rfl (s_getI (pc := 67) X dX12_reading_67 g_X12_302 (s_iload_n (pc := 70) X dX12_reading_70 rfl (s_iast (pc := 71) X dX12_reading_71 h_76 (s_aload_n (pc := 72) X dX12_reading_72 rfl (s_getR (pc := 73) X dX12_reading_73 g_X12_55 (s_aload_n (pc := 76) X dX12_reading_76 rfl (s_getI (pc := 77) X dX12_reading_77 g_X12_302 (s_iload_n (pc := 80) X dX12_reading_80 rfl (s_iast (pc := 81) X dX12_reading_81 h_77 (s_aload_n (pc := 82) X dX12_reading_82 rfl (s_getR (pc := 83) X dX12_reading_83 g_X12_58 (s_aload_n (pc := 86) X dX12_reading_86 rfl (s_getI (pc := 87) X dX12_reading_87 g_X12_302 (s_iload_n (pc := 90) X dX12_reading_90 rfl (s_iast (pc := 91) X dX12_reading_91 h_78 (s_aload_n (pc := 92) X dX12_reading_92 rfl (s_dupR (pc := 93) X dX12_reading_93 (s_getI (pc := 94) X dX12_reading_94 g_X12_302 (s_iconst (pc := 97) X dX12_reading_97 rfl (s_iadd (pc := 98) X dX12_reading_98 (s_putI (pc := 99) X dX12_reading_99 p_X12_302 (s_aload_n (pc := 102) X dX12_reading_102 rfl (s_iconst (pc := 103) X dX12_reading_103 rfl (s_callV (pc := 104) X dX12_reading_104 (S_X12_is _) q_X12_245 h_64 rfl (hR _ _ (by decide)) (s_zret (pc := 107) X E hr dX12_reading_107))))))))))))))))))))))))))))))) (s_aload_n (pc := 51) X dX12_reading_51 rfl (s_iconst (pc := 52) X dX12_reading_52 rfl (s_callV (pc := 53) X dX12_reading_53 (S_X12_is _) q_X12_245 h_64 rfl (hR _ _ (by decide)) (s_zret (pc := 56) X E hr dX12_reading_56)))))))) (s_aload_n (pc := 37) X dX12_reading_37 rfl (s_iconst (pc := 38) X dX12_reading_38 rfl (s_callV (pc := 39) X dX12_reading_39 (S_X12_is _) q_X12_245 h_64 rfl (hR _ _ (by decide)) (s_zret (pc := 42) X E hr dX12_reading_42)))))))) (s_aload_n (pc := 22) X dX12_reading_22 rfl (s_iconst (pc := 23) X dX12_reading_23 rfl (s_callV (pc := 24) X dX12_reading_24 (S_X12_is _) q_X12_245 h_64 rfl (hR _ _ (by decide)) (s_zret (pc := 27) X E hr dX12_reading_27)))))))))))))), fun _ h => absurd h List.not_mem_nil⟩)
theorem dX12_asof_0 : decode cX12_asof 0 = .ok (.iload_n 1, 1) := by decide +kernel
theorem dX12_asof_1 : decode cX12_asof 1 = .ok (.invokestatic 293, 3) := by decide +kernel
theorem dX12_asof_4 : decode cX12_asof 4 = .ok (.ifCond .ne 9, 3) := by decide +kernel
theorem dX12_asof_7 : decode cX12_asof 7 = .ok (.aload_n 0, 1) := by decide +kernel
theorem dX12_asof_8 : decode cX12_asof 8 = .ok (.iconst 1, 1) := by decide +kernel
theorem dX12_asof_9 : decode cX12_asof 9 = .ok (.invokevirtual 245, 3) := by decide +kernel
theorem dX12_asof_12 : decode cX12_asof 12 = .ok (.ireturn, 1) := by decide +kernel
theorem dX12_asof_13 : decode cX12_asof 13 = .ok (.aload_n 0, 1) := by decide +kernel
theorem dX12_asof_14 : decode cX12_asof 14 = .ok (.iload_n 1, 1) := by decide +kernel
theorem dX12_asof_15 : decode cX12_asof 15 = .ok (.putfield 24, 3) := by decide +kernel
theorem dX12_asof_18 : decode cX12_asof 18 = .ok (.aload_n 0, 1) := by decide +kernel
theorem dX12_asof_19 : decode cX12_asof 19 = .ok (.iconst 0, 1) := by decide +kernel
theorem dX12_asof_20 : decode cX12_asof 20 = .ok (.invokevirtual 245, 3) := by decide +kernel
theorem dX12_asof_23 : decode cX12_asof 23 = .ok (.ireturn, 1) := by decide +kernel
noncomputable def B_X12_asof_0 : pb_C := (i_iload 1 (i_callS 1 1 M_X12_isDay (i_if_ne (i_aload 0 (i_iload 1 (i_putI 64 10 (i_aload 0 (i_const (.int 0) (i_callV 64 1 1 M_X12_is i_zret)))))) (i_aload 0 (i_const (.int 1) (i_callV 64 1 1 M_X12_is i_zret))))))
noncomputable def T_X12_asof : Nat → pb_C := pb_tt [(0, B_X12_asof_0)]
noncomputable def M_X12_asof : pb_F := pb_M T_X12_asof 2
set_option maxRecDepth 100000 in
set_option maxHeartbeats 4000000 in
theorem S_X12_asof (l : Launch) : pb_Sound l yX12_asof cX12_asof 2 (some .boolean) 2 M_X12_asof := by
  refine pb_sound_of (by decide) m_8_71 ?_
  intro Γ hl0 hRm0 hm X E hr J
  have hnL : ∀ j, j < 2 → j < Γ.2.2.2.2.2.2.2.2.2.2.2.1 := fun j h => by rw [hm]; exact h
  have hR : ∀ (d' mL : Nat), d' + 1 ≤ 2 ∧ 8 + (mL + 11) + d' * 64 ≤ 2 * 64 → (pb_rm d').frames + 1 ≤ Γ.2.2.2.1.frames ∧ 8 + (mL + 11) + (pb_rm d').locals ≤ Γ.2.2.2.1.locals := by rw [hRm0]; exact fun _ _ h => h
  have hRm : 1 ≤ 2 ∧ 64 ≤ 2 * 64 → 1 ≤ Γ.2.2.2.1.frames ∧ 64 ≤ Γ.2.2.2.1.locals := by rw [hRm0]; exact fun h => h
  exact pb_tt_snd _ (List.forall_mem_cons.mpr ⟨(s_iload_n (pc := 0) X dX12_asof_0 rfl (s_callS (pc := 1) X dX12_asof_1 (S_X12_isDay _) q_X12_293 (hR _ _ (by decide)) (s_if_ne (pc := 4) X dX12_asof_4 (by decide) (s_aload_n (pc := 13) X dX12_asof_13 rfl (s_iload_n (pc := 14) X dX12_asof_14 rfl (s_putI (pc := 15) X dX12_asof_15 p_X12_24 (s_aload_n (pc := 18) X dX12_asof_18 rfl (s_iconst (pc := 19) X dX12_asof_19 rfl (s_callV (pc := 20) X dX12_asof_20 (S_X12_is _) q_X12_245 h_64 rfl (hR _ _ (by decide)) (s_zret (pc := 23) X E hr dX12_asof_23))))))) (s_aload_n (pc := 7) X dX12_asof_7 rfl (s_iconst (pc := 8) X dX12_asof_8 rfl (s_callV (pc := 9) X dX12_asof_9 (S_X12_is _) q_X12_245 h_64 rfl (hR _ _ (by decide)) (s_zret (pc := 12) X E hr dX12_asof_12))))))), fun _ h => absurd h List.not_mem_nil⟩)
theorem dX12_isKnown_0 : decode cX12_isKnown 0 = .ok (.aload_n 0, 1) := by decide +kernel
theorem dX12_isKnown_1 : decode cX12_isKnown 1 = .ok (.getfield 49, 3) := by decide +kernel
theorem dX12_isKnown_4 : decode cX12_isKnown 4 = .ok (.iload_n 1, 1) := by decide +kernel
theorem dX12_isKnown_5 : decode cX12_isKnown 5 = .ok (.iaload, 1) := by decide +kernel
theorem dX12_isKnown_6 : decode cX12_isKnown 6 = .ok (.aload_n 0, 1) := by decide +kernel
theorem dX12_isKnown_7 : decode cX12_isKnown 7 = .ok (.getfield 24, 3) := by decide +kernel
theorem dX12_isKnown_10 : decode cX12_isKnown 10 = .ok (.if_icmp .gt 7, 3) := by decide +kernel
theorem dX12_isKnown_13 : decode cX12_isKnown 13 = .ok (.iconst 1, 1) := by decide +kernel
theorem dX12_isKnown_14 : decode cX12_isKnown 14 = .ok (.goto 4, 3) := by decide +kernel
theorem dX12_isKnown_17 : decode cX12_isKnown 17 = .ok (.iconst 0, 1) := by decide +kernel
theorem dX12_isKnown_18 : decode cX12_isKnown 18 = .ok (.ireturn, 1) := by decide +kernel
noncomputable def B_X12_isKnown_0 : pb_C := (i_aload 0 (i_getR 64 75 (i_iload 1 (i_ald 75 200 (i_aload 0 (i_getI 64 10 (i_ic_gt (i_const (.int 0) i_zret) (i_const (.int 1) i_zret))))))))
noncomputable def T_X12_isKnown : Nat → pb_C := pb_tt [(0, B_X12_isKnown_0)]
noncomputable def M_X12_isKnown : pb_F := pb_M T_X12_isKnown 2
set_option maxRecDepth 100000 in
set_option maxHeartbeats 4000000 in
theorem S_X12_isKnown (l : Launch) : pb_Sound l yX12_isKnown cX12_isKnown 2 (some .boolean) 1 M_X12_isKnown := by
  refine pb_sound_of (by decide) m_8_79 ?_
  intro Γ hl0 hRm0 hm X E hr J
  have hnL : ∀ j, j < 2 → j < Γ.2.2.2.2.2.2.2.2.2.2.2.1 := fun j h => by rw [hm]; exact h
  have hR : ∀ (d' mL : Nat), d' + 1 ≤ 1 ∧ 8 + (mL + 11) + d' * 64 ≤ 1 * 64 → (pb_rm d').frames + 1 ≤ Γ.2.2.2.1.frames ∧ 8 + (mL + 11) + (pb_rm d').locals ≤ Γ.2.2.2.1.locals := by rw [hRm0]; exact fun _ _ h => h
  have hRm : 1 ≤ 1 ∧ 64 ≤ 1 * 64 → 1 ≤ Γ.2.2.2.1.frames ∧ 64 ≤ Γ.2.2.2.1.locals := by rw [hRm0]; exact fun h => h
  exact pb_tt_snd _ (List.forall_mem_cons.mpr ⟨(s_aload_n (pc := 0) X dX12_isKnown_0 rfl (s_getR (pc := 1) X dX12_isKnown_1 g_X12_49 (s_iload_n (pc := 4) X dX12_isKnown_4 rfl (s_iald (pc := 5) X dX12_isKnown_5 h_75 (s_aload_n (pc := 6) X dX12_isKnown_6 rfl (s_getI (pc := 7) X dX12_isKnown_7 g_X12_24 (s_ic_gt (pc := 10) X dX12_isKnown_10 (by decide) (s_iconst (pc := 17) X dX12_isKnown_17 rfl (s_zret (pc := 18) X E hr dX12_isKnown_18)) (s_iconst (pc := 13) X dX12_isKnown_13 rfl (s_goto (pc := 14) X dX12_isKnown_14 (by decide) (s_zret (pc := 18) X E hr dX12_isKnown_18)))))))))), fun _ h => absurd h List.not_mem_nil⟩)
theorem dX12_penceOf_0 : decode cX12_penceOf 0 = .ok (.aload_n 0, 1) := by decide +kernel
theorem dX12_penceOf_1 : decode cX12_penceOf 1 = .ok (.getfield 43, 3) := by decide +kernel
theorem dX12_penceOf_4 : decode cX12_penceOf 4 = .ok (.iload_n 1, 1) := by decide +kernel
theorem dX12_penceOf_5 : decode cX12_penceOf 5 = .ok (.iaload, 1) := by decide +kernel
theorem dX12_penceOf_6 : decode cX12_penceOf 6 = .ok (.istore_n 2, 1) := by decide +kernel
theorem dX12_penceOf_7 : decode cX12_penceOf 7 = .ok (.iconst 0, 1) := by decide +kernel
theorem dX12_penceOf_8 : decode cX12_penceOf 8 = .ok (.istore_n 3, 1) := by decide +kernel
theorem dX12_penceOf_9 : decode cX12_penceOf 9 = .ok (.iload_n 3, 1) := by decide +kernel
theorem dX12_penceOf_10 : decode cX12_penceOf 10 = .ok (.aload_n 0, 1) := by decide +kernel
theorem dX12_penceOf_11 : decode cX12_penceOf 11 = .ok (.getfield 302, 3) := by decide +kernel
theorem dX12_penceOf_14 : decode cX12_penceOf 14 = .ok (.if_icmp .ge 39, 3) := by decide +kernel
theorem dX12_penceOf_17 : decode cX12_penceOf 17 = .ok (.aload_n 0, 1) := by decide +kernel
theorem dX12_penceOf_18 : decode cX12_penceOf 18 = .ok (.getfield 52, 3) := by decide +kernel
theorem dX12_penceOf_21 : decode cX12_penceOf 21 = .ok (.iload_n 3, 1) := by decide +kernel
theorem dX12_penceOf_22 : decode cX12_penceOf 22 = .ok (.iaload, 1) := by decide +kernel
theorem dX12_penceOf_23 : decode cX12_penceOf 23 = .ok (.iload_n 1, 1) := by decide +kernel
theorem dX12_penceOf_24 : decode cX12_penceOf 24 = .ok (.if_icmp .ne 23, 3) := by decide +kernel
theorem dX12_penceOf_27 : decode cX12_penceOf 27 = .ok (.aload_n 0, 1) := by decide +kernel
theorem dX12_penceOf_28 : decode cX12_penceOf 28 = .ok (.getfield 58, 3) := by decide +kernel
theorem dX12_penceOf_31 : decode cX12_penceOf 31 = .ok (.iload_n 3, 1) := by decide +kernel
theorem dX12_penceOf_32 : decode cX12_penceOf 32 = .ok (.iaload, 1) := by decide +kernel
theorem dX12_penceOf_33 : decode cX12_penceOf 33 = .ok (.aload_n 0, 1) := by decide +kernel
theorem dX12_penceOf_34 : decode cX12_penceOf 34 = .ok (.getfield 24, 3) := by decide +kernel
theorem dX12_penceOf_37 : decode cX12_penceOf 37 = .ok (.if_icmp .gt 10, 3) := by decide +kernel
theorem dX12_penceOf_40 : decode cX12_penceOf 40 = .ok (.aload_n 0, 1) := by decide +kernel
theorem dX12_penceOf_41 : decode cX12_penceOf 41 = .ok (.getfield 55, 3) := by decide +kernel
theorem dX12_penceOf_44 : decode cX12_penceOf 44 = .ok (.iload_n 3, 1) := by decide +kernel
theorem dX12_penceOf_45 : decode cX12_penceOf 45 = .ok (.iaload, 1) := by decide +kernel
theorem dX12_penceOf_46 : decode cX12_penceOf 46 = .ok (.istore_n 2, 1) := by decide +kernel
theorem dX12_penceOf_47 : decode cX12_penceOf 47 = .ok (.iinc 3 1, 3) := by decide +kernel
theorem dX12_penceOf_50 : decode cX12_penceOf 50 = .ok (.goto (-41), 3) := by decide +kernel
theorem dX12_penceOf_53 : decode cX12_penceOf 53 = .ok (.iload_n 2, 1) := by decide +kernel
theorem dX12_penceOf_54 : decode cX12_penceOf 54 = .ok (.ireturn, 1) := by decide +kernel
noncomputable def B_X12_penceOf_0 : pb_C := (i_aload 0 (i_getR 64 73 (i_iload 1 (i_ald 73 200 (i_istore 2 (i_const (.int 0) (i_istore 3 (i_jmp 9 [true, true, true, true]))))))))
noncomputable def B_X12_penceOf_9 : pb_C := (i_iload 3 (i_aload 0 (i_getI 64 8 (i_ic_ge (i_iload 2 i_iret) (i_aload 0 (i_getR 64 76 (i_iload 3 (i_ald 76 60 (i_iload 1 (i_ic_ne (i_iinc 3 1 (i_jmp 9 [true, true, true, true])) (i_aload 0 (i_getR 64 78 (i_iload 3 (i_ald 78 60 (i_aload 0 (i_getI 64 10 (i_ic_gt (i_iinc 3 1 (i_jmp 9 [true, true, true, true])) (i_aload 0 (i_getR 64 77 (i_iload 3 (i_ald 77 60 (i_istore 2 (i_iinc 3 1 (i_jmp 9 [true, true, true, true]))))))))))))))))))))))))
noncomputable def T_X12_penceOf : Nat → pb_C := pb_tt [(0, B_X12_penceOf_0), (9, B_X12_penceOf_9)]
noncomputable def M_X12_penceOf : pb_F := pb_M T_X12_penceOf 4
set_option maxRecDepth 100000 in
set_option maxHeartbeats 4000000 in
theorem S_X12_penceOf (l : Launch) : pb_Sound l yX12_penceOf cX12_penceOf 4 (some .int) 1 M_X12_penceOf := by
  refine pb_sound_of (by decide) m_8_83 ?_
  intro Γ hl0 hRm0 hm X E hr J
  have hnL : ∀ j, j < 4 → j < Γ.2.2.2.2.2.2.2.2.2.2.2.1 := fun j h => by rw [hm]; exact h
  have hR : ∀ (d' mL : Nat), d' + 1 ≤ 1 ∧ 8 + (mL + 11) + d' * 64 ≤ 1 * 64 → (pb_rm d').frames + 1 ≤ Γ.2.2.2.1.frames ∧ 8 + (mL + 11) + (pb_rm d').locals ≤ Γ.2.2.2.1.locals := by rw [hRm0]; exact fun _ _ h => h
  have hRm : 1 ≤ 1 ∧ 64 ≤ 1 * 64 → 1 ≤ Γ.2.2.2.1.frames ∧ 64 ≤ Γ.2.2.2.1.locals := by rw [hRm0]; exact fun h => h
  exact pb_tt_snd _ (List.forall_mem_cons.mpr ⟨(s_aload_n (pc := 0) X dX12_penceOf_0 rfl (s_getR (pc := 1) X dX12_penceOf_1 g_X12_43 (s_iload_n (pc := 4) X dX12_penceOf_4 rfl (s_iald (pc := 5) X dX12_penceOf_5 h_73 (s_istore_n (pc := 6) X dX12_penceOf_6 rfl (hnL _ (by decide)) (s_iconst (pc := 7) X dX12_penceOf_7 rfl (s_istore_n (pc := 8) X dX12_penceOf_8 rfl (hnL _ (by decide)) (s_jmp (pc := 9) J [true, true, true, true])))))))), List.forall_mem_cons.mpr ⟨(s_iload_n (pc := 9) X dX12_penceOf_9 rfl (s_aload_n (pc := 10) X dX12_penceOf_10 rfl (s_getI (pc := 11) X dX12_penceOf_11 g_X12_302 (s_ic_ge (pc := 14) X dX12_penceOf_14 (by decide) (s_iload_n (pc := 53) X dX12_penceOf_53 rfl (s_iret (pc := 54) X E hr dX12_penceOf_54)) (s_aload_n (pc := 17) X dX12_penceOf_17 rfl (s_getR (pc := 18) X dX12_penceOf_18 g_X12_52 (s_iload_n (pc := 21) X dX12_penceOf_21 rfl (s_iald (pc := 22) X dX12_penceOf_22 h_76 (s_iload_n (pc := 23) X dX12_penceOf_23 rfl (s_ic_ne (pc := 24) X dX12_penceOf_24 (by decide) (s_iinc (pc := 47) X dX12_penceOf_47 rfl (s_goto (pc := 50) X dX12_penceOf_50 (by decide) (s_jmp (pc := 9) J [true, true, true, true]))) (s_aload_n (pc := 27) X dX12_penceOf_27 rfl (s_getR (pc := 28) X dX12_penceOf_28 g_X12_58 (s_iload_n (pc := 31) X dX12_penceOf_31 rfl (s_iald (pc := 32) X dX12_penceOf_32 h_78 (s_aload_n (pc := 33) X dX12_penceOf_33 rfl (s_getI (pc := 34) X dX12_penceOf_34 g_X12_24 (s_ic_gt (pc := 37) X dX12_penceOf_37 (by decide) (s_iinc (pc := 47) X dX12_penceOf_47 rfl (s_goto (pc := 50) X dX12_penceOf_50 (by decide) (s_jmp (pc := 9) J [true, true, true, true]))) (s_aload_n (pc := 40) X dX12_penceOf_40 rfl (s_getR (pc := 41) X dX12_penceOf_41 g_X12_55 (s_iload_n (pc := 44) X dX12_penceOf_44 rfl (s_iald (pc := 45) X dX12_penceOf_45 h_77 (s_istore_n (pc := 46) X dX12_penceOf_46 rfl (hnL _ (by decide)) (s_iinc (pc := 47) X dX12_penceOf_47 rfl (s_goto (pc := 50) X dX12_penceOf_50 (by decide) (s_jmp (pc := 9) J [true, true, true, true]))))))))))))))))))))))))), fun _ h => absurd h List.not_mem_nil⟩⟩)
theorem dX12_pence_0 : decode cX12_pence 0 = .ok (.aload_n 0, 1) := by decide +kernel
theorem dX12_pence_1 : decode cX12_pence 1 = .ok (.iload_n 1, 1) := by decide +kernel
theorem dX12_pence_2 : decode cX12_pence 2 = .ok (.invokevirtual 299, 3) := by decide +kernel
theorem dX12_pence_5 : decode cX12_pence 5 = .ok (.ifCond .ne 11, 3) := by decide +kernel
theorem dX12_pence_8 : decode cX12_pence 8 = .ok (.aload_n 0, 1) := by decide +kernel
theorem dX12_pence_9 : decode cX12_pence 9 = .ok (.iconst 1, 1) := by decide +kernel
theorem dX12_pence_10 : decode cX12_pence 10 = .ok (.invokevirtual 267, 3) := by decide +kernel
theorem dX12_pence_13 : decode cX12_pence 13 = .ok (.goto 29, 3) := by decide +kernel
theorem dX12_pence_16 : decode cX12_pence 16 = .ok (.aload_n 0, 1) := by decide +kernel
theorem dX12_pence_17 : decode cX12_pence 17 = .ok (.iload_n 1, 1) := by decide +kernel
theorem dX12_pence_18 : decode cX12_pence 18 = .ok (.invokevirtual 305, 3) := by decide +kernel
theorem dX12_pence_21 : decode cX12_pence 21 = .ok (.ifCond .ne 12, 3) := by decide +kernel
theorem dX12_pence_24 : decode cX12_pence 24 = .ok (.aload_n 0, 1) := by decide +kernel
theorem dX12_pence_25 : decode cX12_pence 25 = .ok (.bipush 6, 2) := by decide +kernel
theorem dX12_pence_27 : decode cX12_pence 27 = .ok (.invokevirtual 267, 3) := by decide +kernel
theorem dX12_pence_30 : decode cX12_pence 30 = .ok (.goto 12, 3) := by decide +kernel
theorem dX12_pence_33 : decode cX12_pence 33 = .ok (.aload_n 0, 1) := by decide +kernel
theorem dX12_pence_34 : decode cX12_pence 34 = .ok (.aload_n 0, 1) := by decide +kernel
theorem dX12_pence_35 : decode cX12_pence 35 = .ok (.iload_n 1, 1) := by decide +kernel
theorem dX12_pence_36 : decode cX12_pence 36 = .ok (.invokevirtual 308, 3) := by decide +kernel
theorem dX12_pence_39 : decode cX12_pence 39 = .ok (.invokevirtual 237, 3) := by decide +kernel
theorem dX12_pence_42 : decode cX12_pence 42 = .ok (.ireturn, 1) := by decide +kernel
noncomputable def B_X12_pence_0 : pb_C := (i_aload 0 (i_iload 1 (i_callV 64 1 1 M_X12_isLine (i_if_ne (i_aload 0 (i_iload 1 (i_callV 64 1 1 M_X12_isKnown (i_if_ne (i_aload 0 (i_aload 0 (i_iload 1 (i_callV 64 1 1 M_X12_penceOf (i_callV 64 1 1 M_X12_gives i_iret))))) (i_aload 0 (i_const (.int 6) (i_callV 64 1 1 M_X12_refuse i_iret))))))) (i_aload 0 (i_const (.int 1) (i_callV 64 1 1 M_X12_refuse i_iret)))))))
noncomputable def T_X12_pence : Nat → pb_C := pb_tt [(0, B_X12_pence_0)]
noncomputable def M_X12_pence : pb_F := pb_M T_X12_pence 2
set_option maxRecDepth 100000 in
set_option maxHeartbeats 4000000 in
theorem S_X12_pence (l : Launch) : pb_Sound l yX12_pence cX12_pence 2 (some .int) 2 M_X12_pence := by
  refine pb_sound_of (by decide) m_8_75 ?_
  intro Γ hl0 hRm0 hm X E hr J
  have hnL : ∀ j, j < 2 → j < Γ.2.2.2.2.2.2.2.2.2.2.2.1 := fun j h => by rw [hm]; exact h
  have hR : ∀ (d' mL : Nat), d' + 1 ≤ 2 ∧ 8 + (mL + 11) + d' * 64 ≤ 2 * 64 → (pb_rm d').frames + 1 ≤ Γ.2.2.2.1.frames ∧ 8 + (mL + 11) + (pb_rm d').locals ≤ Γ.2.2.2.1.locals := by rw [hRm0]; exact fun _ _ h => h
  have hRm : 1 ≤ 2 ∧ 64 ≤ 2 * 64 → 1 ≤ Γ.2.2.2.1.frames ∧ 64 ≤ Γ.2.2.2.1.locals := by rw [hRm0]; exact fun h => h
  exact pb_tt_snd _ (List.forall_mem_cons.mpr ⟨(s_aload_n (pc := 0) X dX12_pence_0 rfl (s_iload_n (pc := 1) X dX12_pence_1 rfl (s_callV (pc := 2) X dX12_pence_2 (S_X12_isLine _) q_X12_299 h_64 rfl (hR _ _ (by decide)) (s_if_ne (pc := 5) X dX12_pence_5 (by decide) (s_aload_n (pc := 16) X dX12_pence_16 rfl (s_iload_n (pc := 17) X dX12_pence_17 rfl (s_callV (pc := 18) X dX12_pence_18 (S_X12_isKnown _) q_X12_305 h_64 rfl (hR _ _ (by decide)) (s_if_ne (pc := 21) X dX12_pence_21 (by decide) (s_aload_n (pc := 33) X dX12_pence_33 rfl (s_aload_n (pc := 34) X dX12_pence_34 rfl (s_iload_n (pc := 35) X dX12_pence_35 rfl (s_callV (pc := 36) X dX12_pence_36 (S_X12_penceOf _) q_X12_308 h_64 rfl (hR _ _ (by decide)) (s_callV (pc := 39) X dX12_pence_39 (S_X12_gives _) q_X12_237 h_64 rfl (hR _ _ (by decide)) (s_iret (pc := 42) X E hr dX12_pence_42)))))) (s_aload_n (pc := 24) X dX12_pence_24 rfl (s_bipush (pc := 25) X dX12_pence_25 rfl (s_callV (pc := 27) X dX12_pence_27 (S_X12_refuse _) q_X12_267 h_64 rfl (hR _ _ (by decide)) (s_goto (pc := 30) X dX12_pence_30 (by decide) (s_iret (pc := 42) X E hr dX12_pence_42))))))))) (s_aload_n (pc := 8) X dX12_pence_8 rfl (s_iconst (pc := 9) X dX12_pence_9 rfl (s_callV (pc := 10) X dX12_pence_10 (S_X12_refuse _) q_X12_267 h_64 rfl (hR _ _ (by decide)) (s_goto (pc := 13) X dX12_pence_13 (by decide) (s_iret (pc := 42) X E hr dX12_pence_42))))))))), fun _ h => absurd h List.not_mem_nil⟩)
theorem dX12_four_0 : decode cX12_four 0 = .ok (.bipush 24, 2) := by decide +kernel
theorem dX12_four_2 : decode cX12_four 2 = .ok (.istore_n 2, 1) := by decide +kernel
theorem dX12_four_3 : decode cX12_four 3 = .ok (.iload_n 2, 1) := by decide +kernel
theorem dX12_four_4 : decode cX12_four 4 = .ok (.ifCond .lt 32, 3) := by decide +kernel
theorem dX12_four_7 : decode cX12_four 7 = .ok (.aload_n 0, 1) := by decide +kernel
theorem dX12_four_8 : decode cX12_four 8 = .ok (.getfield 71, 3) := by decide +kernel
theorem dX12_four_11 : decode cX12_four 11 = .ok (.aload_n 0, 1) := by decide +kernel
theorem dX12_four_12 : decode cX12_four 12 = .ok (.getfield 311, 3) := by decide +kernel
theorem dX12_four_15 : decode cX12_four 15 = .ok (.iload_n 1, 1) := by decide +kernel
theorem dX12_four_16 : decode cX12_four 16 = .ok (.iload_n 2, 1) := by decide +kernel
theorem dX12_four_17 : decode cX12_four 17 = .ok (.ishr, 1) := by decide +kernel
theorem dX12_four_18 : decode cX12_four 18 = .ok (.i2b, 1) := by decide +kernel
theorem dX12_four_19 : decode cX12_four 19 = .ok (.bastore, 1) := by decide +kernel
theorem dX12_four_20 : decode cX12_four 20 = .ok (.aload_n 0, 1) := by decide +kernel
theorem dX12_four_21 : decode cX12_four 21 = .ok (.dup, 1) := by decide +kernel
theorem dX12_four_22 : decode cX12_four 22 = .ok (.getfield 311, 3) := by decide +kernel
theorem dX12_four_25 : decode cX12_four 25 = .ok (.iconst 1, 1) := by decide +kernel
theorem dX12_four_26 : decode cX12_four 26 = .ok (.iadd, 1) := by decide +kernel
theorem dX12_four_27 : decode cX12_four 27 = .ok (.putfield 311, 3) := by decide +kernel
theorem dX12_four_30 : decode cX12_four 30 = .ok (.iinc 2 (-8), 3) := by decide +kernel
theorem dX12_four_33 : decode cX12_four 33 = .ok (.goto (-30), 3) := by decide +kernel
theorem dX12_four_36 : decode cX12_four 36 = .ok (.return_, 1) := by decide +kernel
noncomputable def B_X12_four_0 : pb_C := (i_const (.int 24) (i_istore 2 (i_jmp 3 [true, true, true])))
noncomputable def B_X12_four_3 : pb_C := (i_iload 2 (i_if_lt i_vret (i_aload 0 (i_getR 64 82 (i_aload 0 (i_getI 64 28 (i_iload 1 (i_iload 2 (i_ibin (fun x y => x >>> (y &&& 31)) (i_iun (fun x => x.toInt8.toInt32) (i_ast 82 600 (vp_nar .byte) (i_aload 0 (i_dupR (i_getI 64 28 (i_const (.int 1) (i_ibin (· + ·) (i_putI 64 28 (i_iinc 2 (-8) (i_jmp 3 [true, true, true])))))))))))))))))))
noncomputable def T_X12_four : Nat → pb_C := pb_tt [(0, B_X12_four_0), (3, B_X12_four_3)]
noncomputable def M_X12_four : pb_F := pb_M T_X12_four 3
set_option maxRecDepth 100000 in
set_option maxHeartbeats 4000000 in
theorem S_X12_four (l : Launch) : pb_Sound l yX12_four cX12_four 3 none 1 M_X12_four := by
  refine pb_sound_of (by decide) m_8_91 ?_
  intro Γ hl0 hRm0 hm X E hr J
  have hnL : ∀ j, j < 3 → j < Γ.2.2.2.2.2.2.2.2.2.2.2.1 := fun j h => by rw [hm]; exact h
  have hR : ∀ (d' mL : Nat), d' + 1 ≤ 1 ∧ 8 + (mL + 11) + d' * 64 ≤ 1 * 64 → (pb_rm d').frames + 1 ≤ Γ.2.2.2.1.frames ∧ 8 + (mL + 11) + (pb_rm d').locals ≤ Γ.2.2.2.1.locals := by rw [hRm0]; exact fun _ _ h => h
  have hRm : 1 ≤ 1 ∧ 64 ≤ 1 * 64 → 1 ≤ Γ.2.2.2.1.frames ∧ 64 ≤ Γ.2.2.2.1.locals := by rw [hRm0]; exact fun h => h
  exact pb_tt_snd _ (List.forall_mem_cons.mpr ⟨(s_bipush (pc := 0) X dX12_four_0 rfl (s_istore_n (pc := 2) X dX12_four_2 rfl (hnL _ (by decide)) (s_jmp (pc := 3) J [true, true, true]))), List.forall_mem_cons.mpr ⟨(s_iload_n (pc := 3) X dX12_four_3 rfl (s_if_lt (pc := 4) X dX12_four_4 (by decide) (s_vret (pc := 36) X E hr dX12_four_36) (s_aload_n (pc := 7) X dX12_four_7 rfl (s_getR (pc := 8) X dX12_four_8 g_X12_71 (s_aload_n (pc := 11) X dX12_four_11 rfl (s_getI (pc := 12) X dX12_four_12 g_X12_311 (s_iload_n (pc := 15) X dX12_four_15 rfl (s_iload_n (pc := 16) X dX12_four_16 rfl (s_ishr (pc := 17) X dX12_four_17 (s_i2b (pc := 18) X dX12_four_18 (s_bast (pc := 19) X dX12_four_19 h_82 (s_aload_n (pc := 20) X dX12_four_20 rfl (s_dupR (pc := 21) X dX12_four_21 (s_getI (pc := 22) X dX12_four_22 g_X12_311 (s_iconst (pc := 25) X dX12_four_25 rfl (s_iadd (pc := 26) X dX12_four_26 (s_putI (pc := 27) X dX12_four_27 p_X12_311 (s_iinc (pc := 30) X dX12_four_30 rfl (s_goto (pc := 33) X dX12_four_33 (by decide) (s_jmp (pc := 3) J [true, true, true])))))))))))))))))))), fun _ h => absurd h List.not_mem_nil⟩⟩)
theorem dX12_feed_0 : decode cX12_feed 0 = .ok (.aload_n 0, 1) := by decide +kernel
theorem dX12_feed_1 : decode cX12_feed 1 = .ok (.getfield 311, 3) := by decide +kernel
theorem dX12_feed_4 : decode cX12_feed 4 = .ok (.bipush 20, 2) := by decide +kernel
theorem dX12_feed_6 : decode cX12_feed 6 = .ok (.iadd, 1) := by decide +kernel
theorem dX12_feed_7 : decode cX12_feed 7 = .ok (.sipush 600, 3) := by decide +kernel
theorem dX12_feed_10 : decode cX12_feed 10 = .ok (.if_icmp .le 5, 3) := by decide +kernel
theorem dX12_feed_13 : decode cX12_feed 13 = .ok (.iconst (-1), 1) := by decide +kernel
theorem dX12_feed_14 : decode cX12_feed 14 = .ok (.ireturn, 1) := by decide +kernel
theorem dX12_feed_15 : decode cX12_feed 15 = .ok (.aload_n 0, 1) := by decide +kernel
theorem dX12_feed_16 : decode cX12_feed 16 = .ok (.iload_n 1, 1) := by decide +kernel
theorem dX12_feed_17 : decode cX12_feed 17 = .ok (.invokevirtual 314, 3) := by decide +kernel
theorem dX12_feed_20 : decode cX12_feed 20 = .ok (.aload_n 0, 1) := by decide +kernel
theorem dX12_feed_21 : decode cX12_feed 21 = .ok (.iload_n 2, 1) := by decide +kernel
theorem dX12_feed_22 : decode cX12_feed 22 = .ok (.invokevirtual 314, 3) := by decide +kernel
theorem dX12_feed_25 : decode cX12_feed 25 = .ok (.aload_n 0, 1) := by decide +kernel
theorem dX12_feed_26 : decode cX12_feed 26 = .ok (.iload_n 3, 1) := by decide +kernel
theorem dX12_feed_27 : decode cX12_feed 27 = .ok (.invokevirtual 314, 3) := by decide +kernel
theorem dX12_feed_30 : decode cX12_feed 30 = .ok (.aload_n 0, 1) := by decide +kernel
theorem dX12_feed_31 : decode cX12_feed 31 = .ok (.iload 4, 2) := by decide +kernel
theorem dX12_feed_33 : decode cX12_feed 33 = .ok (.invokevirtual 314, 3) := by decide +kernel
theorem dX12_feed_36 : decode cX12_feed 36 = .ok (.aload_n 0, 1) := by decide +kernel
theorem dX12_feed_37 : decode cX12_feed 37 = .ok (.iload 5, 2) := by decide +kernel
theorem dX12_feed_39 : decode cX12_feed 39 = .ok (.invokevirtual 314, 3) := by decide +kernel
theorem dX12_feed_42 : decode cX12_feed 42 = .ok (.aload_n 0, 1) := by decide +kernel
theorem dX12_feed_43 : decode cX12_feed 43 = .ok (.getfield 311, 3) := by decide +kernel
theorem dX12_feed_46 : decode cX12_feed 46 = .ok (.ireturn, 1) := by decide +kernel
noncomputable def B_X12_feed_0 : pb_C := (i_aload 0 (i_getI 64 28 (i_const (.int 20) (i_ibin (· + ·) (i_const (.int 600) (i_ic_le (i_aload 0 (i_iload 1 (i_callV 64 1 0 M_X12_four (i_aload 0 (i_iload 2 (i_callV 64 1 0 M_X12_four (i_aload 0 (i_iload 3 (i_callV 64 1 0 M_X12_four (i_aload 0 (i_iload 4 (i_callV 64 1 0 M_X12_four (i_aload 0 (i_iload 5 (i_callV 64 1 0 M_X12_four (i_aload 0 (i_getI 64 28 i_iret))))))))))))))))) (i_const (.int (-1)) i_iret)))))))
noncomputable def T_X12_feed : Nat → pb_C := pb_tt [(0, B_X12_feed_0)]
noncomputable def M_X12_feed : pb_F := pb_M T_X12_feed 6
set_option maxRecDepth 100000 in
set_option maxHeartbeats 4000000 in
theorem S_X12_feed (l : Launch) : pb_Sound l yX12_feed cX12_feed 6 (some .int) 2 M_X12_feed := by
  refine pb_sound_of (by decide) m_8_87 ?_
  intro Γ hl0 hRm0 hm X E hr J
  have hnL : ∀ j, j < 6 → j < Γ.2.2.2.2.2.2.2.2.2.2.2.1 := fun j h => by rw [hm]; exact h
  have hR : ∀ (d' mL : Nat), d' + 1 ≤ 2 ∧ 8 + (mL + 11) + d' * 64 ≤ 2 * 64 → (pb_rm d').frames + 1 ≤ Γ.2.2.2.1.frames ∧ 8 + (mL + 11) + (pb_rm d').locals ≤ Γ.2.2.2.1.locals := by rw [hRm0]; exact fun _ _ h => h
  have hRm : 1 ≤ 2 ∧ 64 ≤ 2 * 64 → 1 ≤ Γ.2.2.2.1.frames ∧ 64 ≤ Γ.2.2.2.1.locals := by rw [hRm0]; exact fun h => h
  exact pb_tt_snd _ (List.forall_mem_cons.mpr ⟨(s_aload_n (pc := 0) X dX12_feed_0 rfl (s_getI (pc := 1) X dX12_feed_1 g_X12_311 (s_bipush (pc := 4) X dX12_feed_4 rfl (s_iadd (pc := 6) X dX12_feed_6 (s_sipush (pc := 7) X dX12_feed_7 rfl (s_ic_le (pc := 10) X dX12_feed_10 (by decide) (s_aload_n (pc := 15) X dX12_feed_15 rfl (s_iload_n (pc := 16) X dX12_feed_16 rfl (s_callV (pc := 17) X dX12_feed_17 (S_X12_four _) q_X12_314 h_64 rfl (hR _ _ (by decide)) (s_aload_n (pc := 20) X dX12_feed_20 rfl (s_iload_n (pc := 21) X dX12_feed_21 rfl (s_callV (pc := 22) X dX12_feed_22 (S_X12_four _) q_X12_314 h_64 rfl (hR _ _ (by decide)) (s_aload_n (pc := 25) X dX12_feed_25 rfl (s_iload_n (pc := 26) X dX12_feed_26 rfl (s_callV (pc := 27) X dX12_feed_27 (S_X12_four _) q_X12_314 h_64 rfl (hR _ _ (by decide)) (s_aload_n (pc := 30) X dX12_feed_30 rfl (s_iload (pc := 31) X dX12_feed_31 (s_callV (pc := 33) X dX12_feed_33 (S_X12_four _) q_X12_314 h_64 rfl (hR _ _ (by decide)) (s_aload_n (pc := 36) X dX12_feed_36 rfl (s_iload (pc := 37) X dX12_feed_37 (s_callV (pc := 39) X dX12_feed_39 (S_X12_four _) q_X12_314 h_64 rfl (hR _ _ (by decide)) (s_aload_n (pc := 42) X dX12_feed_42 rfl (s_getI (pc := 43) X dX12_feed_43 g_X12_311 (s_iret (pc := 46) X E hr dX12_feed_46)))))))))))))))))) (s_iconst (pc := 13) X dX12_feed_13 rfl (s_iret (pc := 14) X E hr dX12_feed_14)))))))), fun _ h => absurd h List.not_mem_nil⟩)
theorem dX12_at_0 : decode cX12_at 0 = .ok (.iload_n 1, 1) := by decide +kernel
theorem dX12_at_1 : decode cX12_at 1 = .ok (.aload_n 0, 1) := by decide +kernel
theorem dX12_at_2 : decode cX12_at 2 = .ok (.getfield 318, 3) := by decide +kernel
theorem dX12_at_5 : decode cX12_at 5 = .ok (.if_icmp .ge 16, 3) := by decide +kernel
theorem dX12_at_8 : decode cX12_at 8 = .ok (.aload_n 0, 1) := by decide +kernel
theorem dX12_at_9 : decode cX12_at 9 = .ok (.getfield 75, 3) := by decide +kernel
theorem dX12_at_12 : decode cX12_at 12 = .ok (.iload_n 1, 1) := by decide +kernel
theorem dX12_at_13 : decode cX12_at 13 = .ok (.baload, 1) := by decide +kernel
theorem dX12_at_14 : decode cX12_at 14 = .ok (.sipush 255, 3) := by decide +kernel
theorem dX12_at_17 : decode cX12_at 17 = .ok (.iand, 1) := by decide +kernel
theorem dX12_at_18 : decode cX12_at 18 = .ok (.goto 4, 3) := by decide +kernel
theorem dX12_at_21 : decode cX12_at 21 = .ok (.iconst (-1), 1) := by decide +kernel
theorem dX12_at_22 : decode cX12_at 22 = .ok (.ireturn, 1) := by decide +kernel
noncomputable def B_X12_at_0 : pb_C := (i_iload 1 (i_aload 0 (i_getI 64 29 (i_ic_ge (i_const (.int (-1)) i_iret) (i_aload 0 (i_getR 64 83 (i_iload 1 (i_ald 83 600 (i_const (.int 255) (i_ibin (· &&& ·) i_iret))))))))))
noncomputable def T_X12_at : Nat → pb_C := pb_tt [(0, B_X12_at_0)]
noncomputable def M_X12_at : pb_F := pb_M T_X12_at 2
set_option maxRecDepth 100000 in
set_option maxHeartbeats 4000000 in
theorem S_X12_at (l : Launch) : pb_Sound l yX12_at cX12_at 2 (some .int) 1 M_X12_at := by
  refine pb_sound_of (by decide) m_8_103 ?_
  intro Γ hl0 hRm0 hm X E hr J
  have hnL : ∀ j, j < 2 → j < Γ.2.2.2.2.2.2.2.2.2.2.2.1 := fun j h => by rw [hm]; exact h
  have hR : ∀ (d' mL : Nat), d' + 1 ≤ 1 ∧ 8 + (mL + 11) + d' * 64 ≤ 1 * 64 → (pb_rm d').frames + 1 ≤ Γ.2.2.2.1.frames ∧ 8 + (mL + 11) + (pb_rm d').locals ≤ Γ.2.2.2.1.locals := by rw [hRm0]; exact fun _ _ h => h
  have hRm : 1 ≤ 1 ∧ 64 ≤ 1 * 64 → 1 ≤ Γ.2.2.2.1.frames ∧ 64 ≤ Γ.2.2.2.1.locals := by rw [hRm0]; exact fun h => h
  exact pb_tt_snd _ (List.forall_mem_cons.mpr ⟨(s_iload_n (pc := 0) X dX12_at_0 rfl (s_aload_n (pc := 1) X dX12_at_1 rfl (s_getI (pc := 2) X dX12_at_2 g_X12_318 (s_ic_ge (pc := 5) X dX12_at_5 (by decide) (s_iconst (pc := 21) X dX12_at_21 rfl (s_iret (pc := 22) X E hr dX12_at_22)) (s_aload_n (pc := 8) X dX12_at_8 rfl (s_getR (pc := 9) X dX12_at_9 g_X12_75 (s_iload_n (pc := 12) X dX12_at_12 rfl (s_bald (pc := 13) X dX12_at_13 h_83 (s_sipush (pc := 14) X dX12_at_14 rfl (s_iand (pc := 17) X dX12_at_17 (s_goto (pc := 18) X dX12_at_18 (by decide) (s_iret (pc := 22) X E hr dX12_at_22)))))))))))), fun _ h => absurd h List.not_mem_nil⟩)
theorem dX12_isSmall_0 : decode cX12_isSmall 0 = .ok (.iload_n 0, 1) := by decide +kernel
theorem dX12_isSmall_1 : decode cX12_isSmall 1 = .ok (.bipush 97, 2) := by decide +kernel
theorem dX12_isSmall_3 : decode cX12_isSmall 3 = .ok (.if_icmp .lt 13, 3) := by decide +kernel
theorem dX12_isSmall_6 : decode cX12_isSmall 6 = .ok (.iload_n 0, 1) := by decide +kernel
theorem dX12_isSmall_7 : decode cX12_isSmall 7 = .ok (.bipush 122, 2) := by decide +kernel
theorem dX12_isSmall_9 : decode cX12_isSmall 9 = .ok (.if_icmp .gt 7, 3) := by decide +kernel
theorem dX12_isSmall_12 : decode cX12_isSmall 12 = .ok (.iconst 1, 1) := by decide +kernel
theorem dX12_isSmall_13 : decode cX12_isSmall 13 = .ok (.goto 4, 3) := by decide +kernel
theorem dX12_isSmall_16 : decode cX12_isSmall 16 = .ok (.iconst 0, 1) := by decide +kernel
theorem dX12_isSmall_17 : decode cX12_isSmall 17 = .ok (.ireturn, 1) := by decide +kernel
noncomputable def B_X12_isSmall_0 : pb_C := (i_iload 0 (i_const (.int 97) (i_ic_lt (i_const (.int 0) i_zret) (i_iload 0 (i_const (.int 122) (i_ic_gt (i_const (.int 0) i_zret) (i_const (.int 1) i_zret)))))))
noncomputable def T_X12_isSmall : Nat → pb_C := pb_tt [(0, B_X12_isSmall_0)]
noncomputable def M_X12_isSmall : pb_F := pb_M T_X12_isSmall 1
set_option maxRecDepth 100000 in
set_option maxHeartbeats 4000000 in
theorem S_X12_isSmall (l : Launch) : pb_Sound l yX12_isSmall cX12_isSmall 1 (some .boolean) 1 M_X12_isSmall := by
  refine pb_sound_of (by decide) m_8_106 ?_
  intro Γ hl0 hRm0 hm X E hr J
  have hnL : ∀ j, j < 1 → j < Γ.2.2.2.2.2.2.2.2.2.2.2.1 := fun j h => by rw [hm]; exact h
  have hR : ∀ (d' mL : Nat), d' + 1 ≤ 1 ∧ 8 + (mL + 11) + d' * 64 ≤ 1 * 64 → (pb_rm d').frames + 1 ≤ Γ.2.2.2.1.frames ∧ 8 + (mL + 11) + (pb_rm d').locals ≤ Γ.2.2.2.1.locals := by rw [hRm0]; exact fun _ _ h => h
  have hRm : 1 ≤ 1 ∧ 64 ≤ 1 * 64 → 1 ≤ Γ.2.2.2.1.frames ∧ 64 ≤ Γ.2.2.2.1.locals := by rw [hRm0]; exact fun h => h
  exact pb_tt_snd _ (List.forall_mem_cons.mpr ⟨(s_iload_n (pc := 0) X dX12_isSmall_0 rfl (s_bipush (pc := 1) X dX12_isSmall_1 rfl (s_ic_lt (pc := 3) X dX12_isSmall_3 (by decide) (s_iconst (pc := 16) X dX12_isSmall_16 rfl (s_zret (pc := 17) X E hr dX12_isSmall_17)) (s_iload_n (pc := 6) X dX12_isSmall_6 rfl (s_bipush (pc := 7) X dX12_isSmall_7 rfl (s_ic_gt (pc := 9) X dX12_isSmall_9 (by decide) (s_iconst (pc := 16) X dX12_isSmall_16 rfl (s_zret (pc := 17) X E hr dX12_isSmall_17)) (s_iconst (pc := 12) X dX12_isSmall_12 rfl (s_goto (pc := 13) X dX12_isSmall_13 (by decide) (s_zret (pc := 17) X E hr dX12_isSmall_17))))))))), fun _ h => absurd h List.not_mem_nil⟩)
theorem dX12_isDigit_0 : decode cX12_isDigit 0 = .ok (.iload_n 0, 1) := by decide +kernel
theorem dX12_isDigit_1 : decode cX12_isDigit 1 = .ok (.bipush 48, 2) := by decide +kernel
theorem dX12_isDigit_3 : decode cX12_isDigit 3 = .ok (.if_icmp .lt 13, 3) := by decide +kernel
theorem dX12_isDigit_6 : decode cX12_isDigit 6 = .ok (.iload_n 0, 1) := by decide +kernel
theorem dX12_isDigit_7 : decode cX12_isDigit 7 = .ok (.bipush 57, 2) := by decide +kernel
theorem dX12_isDigit_9 : decode cX12_isDigit 9 = .ok (.if_icmp .gt 7, 3) := by decide +kernel
theorem dX12_isDigit_12 : decode cX12_isDigit 12 = .ok (.iconst 1, 1) := by decide +kernel
theorem dX12_isDigit_13 : decode cX12_isDigit 13 = .ok (.goto 4, 3) := by decide +kernel
theorem dX12_isDigit_16 : decode cX12_isDigit 16 = .ok (.iconst 0, 1) := by decide +kernel
theorem dX12_isDigit_17 : decode cX12_isDigit 17 = .ok (.ireturn, 1) := by decide +kernel
noncomputable def B_X12_isDigit_0 : pb_C := (i_iload 0 (i_const (.int 48) (i_ic_lt (i_const (.int 0) i_zret) (i_iload 0 (i_const (.int 57) (i_ic_gt (i_const (.int 0) i_zret) (i_const (.int 1) i_zret)))))))
noncomputable def T_X12_isDigit : Nat → pb_C := pb_tt [(0, B_X12_isDigit_0)]
noncomputable def M_X12_isDigit : pb_F := pb_M T_X12_isDigit 1
set_option maxRecDepth 100000 in
set_option maxHeartbeats 4000000 in
theorem S_X12_isDigit (l : Launch) : pb_Sound l yX12_isDigit cX12_isDigit 1 (some .boolean) 1 M_X12_isDigit := by
  refine pb_sound_of (by decide) m_8_109 ?_
  intro Γ hl0 hRm0 hm X E hr J
  have hnL : ∀ j, j < 1 → j < Γ.2.2.2.2.2.2.2.2.2.2.2.1 := fun j h => by rw [hm]; exact h
  have hR : ∀ (d' mL : Nat), d' + 1 ≤ 1 ∧ 8 + (mL + 11) + d' * 64 ≤ 1 * 64 → (pb_rm d').frames + 1 ≤ Γ.2.2.2.1.frames ∧ 8 + (mL + 11) + (pb_rm d').locals ≤ Γ.2.2.2.1.locals := by rw [hRm0]; exact fun _ _ h => h
  have hRm : 1 ≤ 1 ∧ 64 ≤ 1 * 64 → 1 ≤ Γ.2.2.2.1.frames ∧ 64 ≤ Γ.2.2.2.1.locals := by rw [hRm0]; exact fun h => h
  exact pb_tt_snd _ (List.forall_mem_cons.mpr ⟨(s_iload_n (pc := 0) X dX12_isDigit_0 rfl (s_bipush (pc := 1) X dX12_isDigit_1 rfl (s_ic_lt (pc := 3) X dX12_isDigit_3 (by decide) (s_iconst (pc := 16) X dX12_isDigit_16 rfl (s_zret (pc := 17) X E hr dX12_isDigit_17)) (s_iload_n (pc := 6) X dX12_isDigit_6 rfl (s_bipush (pc := 7) X dX12_isDigit_7 rfl (s_ic_gt (pc := 9) X dX12_isDigit_9 (by decide) (s_iconst (pc := 16) X dX12_isDigit_16 rfl (s_zret (pc := 17) X E hr dX12_isDigit_17)) (s_iconst (pc := 12) X dX12_isDigit_12 rfl (s_goto (pc := 13) X dX12_isDigit_13 (by decide) (s_zret (pc := 17) X E hr dX12_isDigit_17))))))))), fun _ h => absurd h List.not_mem_nil⟩)
theorem dX12_next_0 : decode cX12_next 0 = .ok (.aload_n 0, 1) := by decide +kernel
theorem dX12_next_1 : decode cX12_next 1 = .ok (.aload_n 0, 1) := by decide +kernel
theorem dX12_next_2 : decode cX12_next 2 = .ok (.getfield 321, 3) := by decide +kernel
theorem dX12_next_5 : decode cX12_next 5 = .ok (.invokevirtual 324, 3) := by decide +kernel
theorem dX12_next_8 : decode cX12_next 8 = .ok (.bipush 32, 2) := by decide +kernel
theorem dX12_next_10 : decode cX12_next 10 = .ok (.if_icmp .eq 16, 3) := by decide +kernel
theorem dX12_next_13 : decode cX12_next 13 = .ok (.aload_n 0, 1) := by decide +kernel
theorem dX12_next_14 : decode cX12_next 14 = .ok (.aload_n 0, 1) := by decide +kernel
theorem dX12_next_15 : decode cX12_next 15 = .ok (.getfield 321, 3) := by decide +kernel
theorem dX12_next_18 : decode cX12_next 18 = .ok (.invokevirtual 324, 3) := by decide +kernel
theorem dX12_next_21 : decode cX12_next 21 = .ok (.bipush 10, 2) := by decide +kernel
theorem dX12_next_23 : decode cX12_next 23 = .ok (.if_icmp .ne 16, 3) := by decide +kernel
theorem dX12_next_26 : decode cX12_next 26 = .ok (.aload_n 0, 1) := by decide +kernel
theorem dX12_next_27 : decode cX12_next 27 = .ok (.dup, 1) := by decide +kernel
theorem dX12_next_28 : decode cX12_next 28 = .ok (.getfield 321, 3) := by decide +kernel
theorem dX12_next_31 : decode cX12_next 31 = .ok (.iconst 1, 1) := by decide +kernel
theorem dX12_next_32 : decode cX12_next 32 = .ok (.iadd, 1) := by decide +kernel
theorem dX12_next_33 : decode cX12_next 33 = .ok (.putfield 321, 3) := by decide +kernel
theorem dX12_next_36 : decode cX12_next 36 = .ok (.goto (-36), 3) := by decide +kernel
theorem dX12_next_39 : decode cX12_next 39 = .ok (.aload_n 0, 1) := by decide +kernel
theorem dX12_next_40 : decode cX12_next 40 = .ok (.aload_n 0, 1) := by decide +kernel
theorem dX12_next_41 : decode cX12_next 41 = .ok (.getfield 321, 3) := by decide +kernel
theorem dX12_next_44 : decode cX12_next 44 = .ok (.putfield 327, 3) := by decide +kernel
theorem dX12_next_47 : decode cX12_next 47 = .ok (.aload_n 0, 1) := by decide +kernel
theorem dX12_next_48 : decode cX12_next 48 = .ok (.aload_n 0, 1) := by decide +kernel
theorem dX12_next_49 : decode cX12_next 49 = .ok (.getfield 321, 3) := by decide +kernel
theorem dX12_next_52 : decode cX12_next 52 = .ok (.invokevirtual 324, 3) := by decide +kernel
theorem dX12_next_55 : decode cX12_next 55 = .ok (.istore_n 1, 1) := by decide +kernel
theorem dX12_next_56 : decode cX12_next 56 = .ok (.aload_n 0, 1) := by decide +kernel
theorem dX12_next_57 : decode cX12_next 57 = .ok (.iload_n 1, 1) := by decide +kernel
theorem dX12_next_58 : decode cX12_next 58 = .ok (.putfield 330, 3) := by decide +kernel
theorem dX12_next_61 : decode cX12_next 61 = .ok (.iload_n 1, 1) := by decide +kernel
theorem dX12_next_62 : decode cX12_next 62 = .ok (.iconst (-1), 1) := by decide +kernel
theorem dX12_next_63 : decode cX12_next 63 = .ok (.if_icmp .ne 11, 3) := by decide +kernel
theorem dX12_next_66 : decode cX12_next 66 = .ok (.aload_n 0, 1) := by decide +kernel
theorem dX12_next_67 : decode cX12_next 67 = .ok (.iconst 0, 1) := by decide +kernel
theorem dX12_next_68 : decode cX12_next 68 = .ok (.putfield 333, 3) := by decide +kernel
theorem dX12_next_71 : decode cX12_next 71 = .ok (.goto 227, 3) := by decide +kernel
theorem dX12_next_74 : decode cX12_next 74 = .ok (.iload_n 1, 1) := by decide +kernel
theorem dX12_next_75 : decode cX12_next 75 = .ok (.invokestatic 336, 3) := by decide +kernel
theorem dX12_next_78 : decode cX12_next 78 = .ok (.ifCond .eq 38, 3) := by decide +kernel
theorem dX12_next_81 : decode cX12_next 81 = .ok (.aload_n 0, 1) := by decide +kernel
theorem dX12_next_82 : decode cX12_next 82 = .ok (.aload_n 0, 1) := by decide +kernel
theorem dX12_next_83 : decode cX12_next 83 = .ok (.getfield 321, 3) := by decide +kernel
theorem dX12_next_86 : decode cX12_next 86 = .ok (.invokevirtual 324, 3) := by decide +kernel
theorem dX12_next_89 : decode cX12_next 89 = .ok (.invokestatic 336, 3) := by decide +kernel
theorem dX12_next_92 : decode cX12_next 92 = .ok (.ifCond .eq 16, 3) := by decide +kernel
theorem dX12_next_95 : decode cX12_next 95 = .ok (.aload_n 0, 1) := by decide +kernel
theorem dX12_next_96 : decode cX12_next 96 = .ok (.dup, 1) := by decide +kernel
theorem dX12_next_97 : decode cX12_next 97 = .ok (.getfield 321, 3) := by decide +kernel
theorem dX12_next_100 : decode cX12_next 100 = .ok (.iconst 1, 1) := by decide +kernel
theorem dX12_next_101 : decode cX12_next 101 = .ok (.iadd, 1) := by decide +kernel
theorem dX12_next_102 : decode cX12_next 102 = .ok (.putfield 321, 3) := by decide +kernel
theorem dX12_next_105 : decode cX12_next 105 = .ok (.goto (-24), 3) := by decide +kernel
theorem dX12_next_108 : decode cX12_next 108 = .ok (.aload_n 0, 1) := by decide +kernel
theorem dX12_next_109 : decode cX12_next 109 = .ok (.iconst 2, 1) := by decide +kernel
theorem dX12_next_110 : decode cX12_next 110 = .ok (.putfield 333, 3) := by decide +kernel
theorem dX12_next_113 : decode cX12_next 113 = .ok (.goto 185, 3) := by decide +kernel
theorem dX12_next_116 : decode cX12_next 116 = .ok (.iload_n 1, 1) := by decide +kernel
theorem dX12_next_117 : decode cX12_next 117 = .ok (.invokestatic 339, 3) := by decide +kernel
theorem dX12_next_120 : decode cX12_next 120 = .ok (.ifCond .eq 89, 3) := by decide +kernel
theorem dX12_next_123 : decode cX12_next 123 = .ok (.aload_n 0, 1) := by decide +kernel
theorem dX12_next_124 : decode cX12_next 124 = .ok (.iconst 0, 1) := by decide +kernel
theorem dX12_next_125 : decode cX12_next 125 = .ok (.putfield 330, 3) := by decide +kernel
theorem dX12_next_128 : decode cX12_next 128 = .ok (.aload_n 0, 1) := by decide +kernel
theorem dX12_next_129 : decode cX12_next 129 = .ok (.aload_n 0, 1) := by decide +kernel
theorem dX12_next_130 : decode cX12_next 130 = .ok (.getfield 321, 3) := by decide +kernel
theorem dX12_next_133 : decode cX12_next 133 = .ok (.invokevirtual 324, 3) := by decide +kernel
theorem dX12_next_136 : decode cX12_next 136 = .ok (.invokestatic 339, 3) := by decide +kernel
theorem dX12_next_139 : decode cX12_next 139 = .ok (.ifCond .eq 45, 3) := by decide +kernel
theorem dX12_next_142 : decode cX12_next 142 = .ok (.aload_n 0, 1) := by decide +kernel
theorem dX12_next_143 : decode cX12_next 143 = .ok (.ldc_w 342, 3) := by decide +kernel
theorem dX12_next_146 : decode cX12_next 146 = .ok (.bipush 10, 2) := by decide +kernel
theorem dX12_next_148 : decode cX12_next 148 = .ok (.aload_n 0, 1) := by decide +kernel
theorem dX12_next_149 : decode cX12_next 149 = .ok (.getfield 330, 3) := by decide +kernel
theorem dX12_next_152 : decode cX12_next 152 = .ok (.imul, 1) := by decide +kernel
theorem dX12_next_153 : decode cX12_next 153 = .ok (.aload_n 0, 1) := by decide +kernel
theorem dX12_next_154 : decode cX12_next 154 = .ok (.aload_n 0, 1) := by decide +kernel
theorem dX12_next_155 : decode cX12_next 155 = .ok (.getfield 321, 3) := by decide +kernel
theorem dX12_next_158 : decode cX12_next 158 = .ok (.invokevirtual 324, 3) := by decide +kernel
theorem dX12_next_161 : decode cX12_next 161 = .ok (.iadd, 1) := by decide +kernel
theorem dX12_next_162 : decode cX12_next 162 = .ok (.bipush 48, 2) := by decide +kernel
theorem dX12_next_164 : decode cX12_next 164 = .ok (.isub, 1) := by decide +kernel
theorem dX12_next_165 : decode cX12_next 165 = .ok (.invokestatic 343, 3) := by decide +kernel
theorem dX12_next_168 : decode cX12_next 168 = .ok (.putfield 330, 3) := by decide +kernel
theorem dX12_next_171 : decode cX12_next 171 = .ok (.aload_n 0, 1) := by decide +kernel
theorem dX12_next_172 : decode cX12_next 172 = .ok (.dup, 1) := by decide +kernel
theorem dX12_next_173 : decode cX12_next 173 = .ok (.getfield 321, 3) := by decide +kernel
theorem dX12_next_176 : decode cX12_next 176 = .ok (.iconst 1, 1) := by decide +kernel
theorem dX12_next_177 : decode cX12_next 177 = .ok (.iadd, 1) := by decide +kernel
theorem dX12_next_178 : decode cX12_next 178 = .ok (.putfield 321, 3) := by decide +kernel
theorem dX12_next_181 : decode cX12_next 181 = .ok (.goto (-53), 3) := by decide +kernel
theorem dX12_next_184 : decode cX12_next 184 = .ok (.aload_n 0, 1) := by decide +kernel
theorem dX12_next_185 : decode cX12_next 185 = .ok (.aload_n 0, 1) := by decide +kernel
theorem dX12_next_186 : decode cX12_next 186 = .ok (.getfield 321, 3) := by decide +kernel
theorem dX12_next_189 : decode cX12_next 189 = .ok (.aload_n 0, 1) := by decide +kernel
theorem dX12_next_190 : decode cX12_next 190 = .ok (.getfield 327, 3) := by decide +kernel
theorem dX12_next_193 : decode cX12_next 193 = .ok (.isub, 1) := by decide +kernel
theorem dX12_next_194 : decode cX12_next 194 = .ok (.iconst 5, 1) := by decide +kernel
theorem dX12_next_195 : decode cX12_next 195 = .ok (.if_icmp .le 7, 3) := by decide +kernel
theorem dX12_next_198 : decode cX12_next 198 = .ok (.iconst 1, 1) := by decide +kernel
theorem dX12_next_199 : decode cX12_next 199 = .ok (.goto 4, 3) := by decide +kernel
theorem dX12_next_202 : decode cX12_next 202 = .ok (.iconst 3, 1) := by decide +kernel
theorem dX12_next_203 : decode cX12_next 203 = .ok (.putfield 333, 3) := by decide +kernel
theorem dX12_next_206 : decode cX12_next 206 = .ok (.goto 92, 3) := by decide +kernel
theorem dX12_next_209 : decode cX12_next 209 = .ok (.aload_n 0, 1) := by decide +kernel
theorem dX12_next_210 : decode cX12_next 210 = .ok (.dup, 1) := by decide +kernel
theorem dX12_next_211 : decode cX12_next 211 = .ok (.getfield 321, 3) := by decide +kernel
theorem dX12_next_214 : decode cX12_next 214 = .ok (.iconst 1, 1) := by decide +kernel
theorem dX12_next_215 : decode cX12_next 215 = .ok (.iadd, 1) := by decide +kernel
theorem dX12_next_216 : decode cX12_next 216 = .ok (.putfield 321, 3) := by decide +kernel
theorem dX12_next_219 : decode cX12_next 219 = .ok (.iload_n 1, 1) := by decide +kernel
theorem dX12_next_220 : decode cX12_next 220 = .ok (.bipush 59, 2) := by decide +kernel
theorem dX12_next_222 : decode cX12_next 222 = .ok (.if_icmp .eq 57, 3) := by decide +kernel
theorem dX12_next_225 : decode cX12_next 225 = .ok (.iload_n 1, 1) := by decide +kernel
theorem dX12_next_226 : decode cX12_next 226 = .ok (.bipush 60, 2) := by decide +kernel
theorem dX12_next_228 : decode cX12_next 228 = .ok (.if_icmp .eq 51, 3) := by decide +kernel
theorem dX12_next_231 : decode cX12_next 231 = .ok (.iload_n 1, 1) := by decide +kernel
theorem dX12_next_232 : decode cX12_next 232 = .ok (.bipush 62, 2) := by decide +kernel
theorem dX12_next_234 : decode cX12_next 234 = .ok (.if_icmp .eq 45, 3) := by decide +kernel
theorem dX12_next_237 : decode cX12_next 237 = .ok (.iload_n 1, 1) := by decide +kernel
theorem dX12_next_238 : decode cX12_next 238 = .ok (.bipush 61, 2) := by decide +kernel
theorem dX12_next_240 : decode cX12_next 240 = .ok (.if_icmp .eq 39, 3) := by decide +kernel
theorem dX12_next_243 : decode cX12_next 243 = .ok (.iload_n 1, 1) := by decide +kernel
theorem dX12_next_244 : decode cX12_next 244 = .ok (.bipush 43, 2) := by decide +kernel
theorem dX12_next_246 : decode cX12_next 246 = .ok (.if_icmp .eq 33, 3) := by decide +kernel
theorem dX12_next_249 : decode cX12_next 249 = .ok (.iload_n 1, 1) := by decide +kernel
theorem dX12_next_250 : decode cX12_next 250 = .ok (.bipush 45, 2) := by decide +kernel
theorem dX12_next_252 : decode cX12_next 252 = .ok (.if_icmp .eq 27, 3) := by decide +kernel
theorem dX12_next_255 : decode cX12_next 255 = .ok (.iload_n 1, 1) := by decide +kernel
theorem dX12_next_256 : decode cX12_next 256 = .ok (.bipush 42, 2) := by decide +kernel
theorem dX12_next_258 : decode cX12_next 258 = .ok (.if_icmp .eq 21, 3) := by decide +kernel
theorem dX12_next_261 : decode cX12_next 261 = .ok (.iload_n 1, 1) := by decide +kernel
theorem dX12_next_262 : decode cX12_next 262 = .ok (.bipush 47, 2) := by decide +kernel
theorem dX12_next_264 : decode cX12_next 264 = .ok (.if_icmp .eq 15, 3) := by decide +kernel
theorem dX12_next_267 : decode cX12_next 267 = .ok (.iload_n 1, 1) := by decide +kernel
theorem dX12_next_268 : decode cX12_next 268 = .ok (.bipush 40, 2) := by decide +kernel
theorem dX12_next_270 : decode cX12_next 270 = .ok (.if_icmp .eq 9, 3) := by decide +kernel
theorem dX12_next_273 : decode cX12_next 273 = .ok (.iload_n 1, 1) := by decide +kernel
theorem dX12_next_274 : decode cX12_next 274 = .ok (.bipush 41, 2) := by decide +kernel
theorem dX12_next_276 : decode cX12_next 276 = .ok (.if_icmp .ne 7, 3) := by decide +kernel
theorem dX12_next_279 : decode cX12_next 279 = .ok (.iconst 1, 1) := by decide +kernel
theorem dX12_next_280 : decode cX12_next 280 = .ok (.goto 4, 3) := by decide +kernel
theorem dX12_next_283 : decode cX12_next 283 = .ok (.iconst 0, 1) := by decide +kernel
theorem dX12_next_284 : decode cX12_next 284 = .ok (.istore_n 2, 1) := by decide +kernel
theorem dX12_next_285 : decode cX12_next 285 = .ok (.aload_n 0, 1) := by decide +kernel
theorem dX12_next_286 : decode cX12_next 286 = .ok (.iload_n 2, 1) := by decide +kernel
theorem dX12_next_287 : decode cX12_next 287 = .ok (.ifCond .eq 7, 3) := by decide +kernel
theorem dX12_next_290 : decode cX12_next 290 = .ok (.iconst 4, 1) := by decide +kernel
theorem dX12_next_291 : decode cX12_next 291 = .ok (.goto 4, 3) := by decide +kernel
theorem dX12_next_294 : decode cX12_next 294 = .ok (.iconst 1, 1) := by decide +kernel
theorem dX12_next_295 : decode cX12_next 295 = .ok (.putfield 333, 3) := by decide +kernel
theorem dX12_next_298 : decode cX12_next 298 = .ok (.return_, 1) := by decide +kernel
noncomputable def B_X12_next_0 : pb_C := (i_aload 0 (i_aload 0 (i_getI 64 32 (i_callV 64 1 1 M_X12_at (i_const (.int 32) (i_ic_eq (i_aload 0 (i_dupR (i_getI 64 32 (i_const (.int 1) (i_ibin (· + ·) (i_putI 64 32 (i_jmp 0 [true, false, false]))))))) (i_aload 0 (i_aload 0 (i_getI 64 32 (i_callV 64 1 1 M_X12_at (i_const (.int 10) (i_ic_ne (i_aload 0 (i_aload 0 (i_getI 64 32 (i_putI 64 31 (i_aload 0 (i_aload 0 (i_getI 64 32 (i_callV 64 1 1 M_X12_at (i_istore 1 (i_aload 0 (i_iload 1 (i_putI 64 33 (i_iload 1 (i_const (.int (-1)) (i_ic_ne (i_iload 1 (i_callS 1 1 M_X12_isSmall (i_if_eq (i_iload 1 (i_callS 1 1 M_X12_isDigit (i_if_eq (i_aload 0 (i_dupR (i_getI 64 32 (i_const (.int 1) (i_ibin (· + ·) (i_putI 64 32 (i_iload 1 (i_const (.int 59) (i_ic_eq (i_jmp 279 [true, false, false]) (i_iload 1 (i_const (.int 60) (i_ic_eq (i_jmp 279 [true, false, false]) (i_iload 1 (i_const (.int 62) (i_ic_eq (i_jmp 279 [true, false, false]) (i_iload 1 (i_const (.int 61) (i_ic_eq (i_jmp 279 [true, false, false]) (i_iload 1 (i_const (.int 43) (i_ic_eq (i_jmp 279 [true, false, false]) (i_iload 1 (i_const (.int 45) (i_ic_eq (i_jmp 279 [true, false, false]) (i_iload 1 (i_const (.int 42) (i_ic_eq (i_jmp 279 [true, false, false]) (i_iload 1 (i_const (.int 47) (i_ic_eq (i_jmp 279 [true, false, false]) (i_iload 1 (i_const (.int 40) (i_ic_eq (i_jmp 279 [true, false, false]) (i_iload 1 (i_const (.int 41) (i_ic_ne (i_const (.int 0) (i_istore 2 (i_aload 0 (i_iload 2 (i_if_eq (i_const (.int 1) (i_putI 64 30 i_vret)) (i_const (.int 4) (i_putI 64 30 i_vret))))))) (i_jmp 279 [true, false, false]))))))))))))))))))))))))))))))))))))) (i_aload 0 (i_const (.int 0) (i_putI 64 33 (i_jmp 128 [true, false, false]))))))) (i_jmp 81 [true, false, false])))) (i_aload 0 (i_const (.int 0) (i_putI 64 30 i_vret)))))))))))))))))) (i_aload 0 (i_dupR (i_getI 64 32 (i_const (.int 1) (i_ibin (· + ·) (i_putI 64 32 (i_jmp 0 [true, false, false])))))))))))))))))))
noncomputable def B_X12_next_81 : pb_C := (i_aload 0 (i_aload 0 (i_getI 64 32 (i_callV 64 1 1 M_X12_at (i_callS 1 1 M_X12_isSmall (i_if_eq (i_aload 0 (i_const (.int 2) (i_putI 64 30 i_vret))) (i_aload 0 (i_dupR (i_getI 64 32 (i_const (.int 1) (i_ibin (· + ·) (i_putI 64 32 (i_jmp 81 [true, false, false])))))))))))))
noncomputable def B_X12_next_128 : pb_C := (i_aload 0 (i_aload 0 (i_getI 64 32 (i_callV 64 1 1 M_X12_at (i_callS 1 1 M_X12_isDigit (i_if_eq (i_aload 0 (i_aload 0 (i_getI 64 32 (i_aload 0 (i_getI 64 31 (i_ibin (· - ·) (i_const (.int 5) (i_ic_le (i_const (.int 3) (i_putI 64 30 i_vret)) (i_const (.int 1) (i_putI 64 30 i_vret)))))))))) (i_aload 0 (i_const (.int (1000000)) (i_const (.int 10) (i_aload 0 (i_getI 64 33 (i_ibin (· * ·) (i_aload 0 (i_aload 0 (i_getI 64 32 (i_callV 64 1 1 M_X12_at (i_ibin (· + ·) (i_const (.int 48) (i_ibin (· - ·) (i_mI2 pb_min (i_putI 64 33 (i_aload 0 (i_dupR (i_getI 64 32 (i_const (.int 1) (i_ibin (· + ·) (i_putI 64 32 (i_jmp 128 [true, false, false]))))))))))))))))))))))))))))
noncomputable def B_X12_next_279 : pb_C := (i_const (.int 1) (i_istore 2 (i_aload 0 (i_iload 2 (i_if_eq (i_const (.int 1) (i_putI 64 30 i_vret)) (i_const (.int 4) (i_putI 64 30 i_vret)))))))
noncomputable def T_X12_next : Nat → pb_C := pb_tt [(0, B_X12_next_0), (81, B_X12_next_81), (128, B_X12_next_128), (279, B_X12_next_279)]
noncomputable def M_X12_next : pb_F := pb_M T_X12_next 3
set_option maxRecDepth 100000 in
set_option maxHeartbeats 4000000 in
theorem S_X12_next (l : Launch) : pb_Sound l yX12_next cX12_next 3 none 2 M_X12_next := by
  refine pb_sound_of (by decide) m_8_99 ?_
  intro Γ hl0 hRm0 hm X E hr J
  have hnL : ∀ j, j < 3 → j < Γ.2.2.2.2.2.2.2.2.2.2.2.1 := fun j h => by rw [hm]; exact h
  have hR : ∀ (d' mL : Nat), d' + 1 ≤ 2 ∧ 8 + (mL + 11) + d' * 64 ≤ 2 * 64 → (pb_rm d').frames + 1 ≤ Γ.2.2.2.1.frames ∧ 8 + (mL + 11) + (pb_rm d').locals ≤ Γ.2.2.2.1.locals := by rw [hRm0]; exact fun _ _ h => h
  have hRm : 1 ≤ 2 ∧ 64 ≤ 2 * 64 → 1 ≤ Γ.2.2.2.1.frames ∧ 64 ≤ Γ.2.2.2.1.locals := by rw [hRm0]; exact fun h => h
  exact pb_tt_snd _ (List.forall_mem_cons.mpr ⟨(s_aload_n (pc := 0) X dX12_next_0 rfl (s_aload_n (pc := 1) X dX12_next_1 rfl (s_getI (pc := 2) X dX12_next_2 g_X12_321 (s_callV (pc := 5) X dX12_next_5 (S_X12_at _) q_X12_324 h_64 rfl (hR _ _ (by decide)) (s_bipush (pc := 8) X dX12_next_8 rfl (s_ic_eq (pc := 10) X dX12_next_10 (by decide) (s_aload_n (pc := 26) X dX12_next_26 rfl (s_dupR (pc := 27) X dX12_next_27 (s_getI (pc := 28) X dX12_next_28 g_X12_321 (s_iconst (pc := 31) X dX12_next_31 rfl (s_iadd (pc := 32) X dX12_next_32 (s_putI (pc := 33) X dX12_next_33 p_X12_321 (s_goto (pc := 36) X dX12_next_36 (by decide) (s_jmp (pc := 0) J [true, false, false])))))))) (s_aload_n (pc := 13) X dX12_next_13 rfl (s_aload_n (pc := 14) X dX12_next_14 rfl (s_getI (pc := 15) X dX12_next_15 g_X12_321 (s_callV (pc := 18) X dX12_next_18 (S_X12_at _) q_X12_324 h_64 rfl (hR _ _ (by decide)) (s_bipush (pc := 21) X dX12_next_21 rfl (s_ic_ne (pc := 23) X dX12_next_23 (by decide) (s_aload_n (pc := 39) X dX12_next_39 rfl (s_aload_n (pc := 40) X dX12_next_40 rfl (s_getI (pc := 41) X dX12_next_41 g_X12_321 (s_putI (pc := 44) X dX12_next_44 p_X12_327 (s_aload_n (pc := 47) X dX12_next_47 rfl (s_aload_n (pc := 48) X dX12_next_48 rfl (s_getI (pc := 49) X dX12_next_49 g_X12_321 (s_callV (pc := 52) X dX12_next_52 (S_X12_at _) q_X12_324 h_64 rfl (hR _ _ (by decide)) (s_istore_n (pc := 55) X dX12_next_55 rfl (hnL _ (by decide)) (s_aload_n (pc := 56) X dX12_next_56 rfl (s_iload_n (pc := 57) X dX12_next_57 rfl (s_putI (pc := 58) X dX12_next_58 p_X12_330 (s_iload_n (pc := 61) X dX12_next_61 rfl (s_iconst (pc := 62) X dX12_next_62 rfl (s_ic_ne (pc := 63) X dX12_next_63 (by decide) (s_iload_n (pc := 74) X dX12_next_74 rfl (s_callS (pc := 75) X dX12_next_75 (S_X12_isSmall _) q_X12_336 (hR _ _ (by decide)) (s_if_eq (pc := 78) X dX12_next_78 (by decide) (s_iload_n (pc := 116) X dX12_next_116 rfl (s_callS (pc := 117) X dX12_next_117 (S_X12_isDigit _) q_X12_339 (hR _ _ (by decide)) (s_if_eq (pc := 120) X dX12_next_120 (by decide) (s_aload_n (pc := 209) X dX12_next_209 rfl (s_dupR (pc := 210) X dX12_next_210 (s_getI (pc := 211) X dX12_next_211 g_X12_321 (s_iconst (pc := 214) X dX12_next_214 rfl (s_iadd (pc := 215) X dX12_next_215 (s_putI (pc := 216) X dX12_next_216 p_X12_321 (s_iload_n (pc := 219) X dX12_next_219 rfl (s_bipush (pc := 220) X dX12_next_220 rfl (s_ic_eq (pc := 222) X dX12_next_222 (by decide) (s_jmp (pc := 279) J [true, false, false]) (s_iload_n (pc := 225) X dX12_next_225 rfl (s_bipush (pc := 226) X dX12_next_226 rfl (s_ic_eq (pc := 228) X dX12_next_228 (by decide) (s_jmp (pc := 279) J [true, false, false]) (s_iload_n (pc := 231) X dX12_next_231 rfl (s_bipush (pc := 232) X dX12_next_232 rfl (s_ic_eq (pc := 234) X dX12_next_234 (by decide) (s_jmp (pc := 279) J [true, false, false]) (s_iload_n (pc := 237) X dX12_next_237 rfl (s_bipush (pc := 238) X dX12_next_238 rfl (s_ic_eq (pc := 240) X dX12_next_240 (by decide) (s_jmp (pc := 279) J [true, false, false]) (s_iload_n (pc := 243) X dX12_next_243 rfl (s_bipush (pc := 244) X dX12_next_244 rfl (s_ic_eq (pc := 246) X dX12_next_246 (by decide) (s_jmp (pc := 279) J [true, false, false]) (s_iload_n (pc := 249) X dX12_next_249 rfl (s_bipush (pc := 250) X dX12_next_250 rfl (s_ic_eq (pc := 252) X dX12_next_252 (by decide) (s_jmp (pc := 279) J [true, false, false]) (s_iload_n (pc := 255) X dX12_next_255 rfl (s_bipush (pc := 256) X dX12_next_256 rfl (s_ic_eq (pc := 258) X dX12_next_258 (by decide) (s_jmp (pc := 279) J [true, false, false]) (s_iload_n (pc := 261) X dX12_next_261 rfl (s_bipush (pc := 262) X dX12_next_262 rfl (s_ic_eq (pc := 264) X dX12_next_264 (by decide) (s_jmp (pc := 279) J [true, false, false]) (s_iload_n (pc := 267) X dX12_next_267 rfl (s_bipush (pc := 268) X dX12_next_268 rfl (s_ic_eq (pc := 270) X dX12_next_270 (by decide) (s_jmp (pc := 279) J [true, false, false]) (s_iload_n (pc := 273) X dX12_next_273 rfl (s_bipush (pc := 274) X dX12_next_274 rfl (s_ic_ne (pc := 276) X dX12_next_276 (by decide) (s_iconst (pc := 283) X dX12_next_283 rfl (s_istore_n (pc := 284) X dX12_next_284 rfl (hnL _ (by decide)) (s_aload_n (pc := 285) X dX12_next_285 rfl (s_iload_n (pc := 286) X dX12_next_286 rfl (s_if_eq (pc := 287) X dX12_next_287 (by decide) (s_iconst (pc := 294) X dX12_next_294 rfl (s_putI (pc := 295) X dX12_next_295 p_X12_333 (s_vret (pc := 298) X E hr dX12_next_298))) (s_iconst (pc := 290) X dX12_next_290 rfl (s_goto (pc := 291) X dX12_next_291 (by decide) (s_putI (pc := 295) X dX12_next_295 p_X12_333 (s_vret (pc := 298) X E hr dX12_next_298))))))))) (s_jmp (pc := 279) J [true, false, false]))))))))))))))))))))))))))))))))))))) (s_aload_n (pc := 123) X dX12_next_123 rfl (s_iconst (pc := 124) X dX12_next_124 rfl (s_putI (pc := 125) X dX12_next_125 p_X12_330 (s_jmp (pc := 128) J [true, false, false]))))))) (s_jmp (pc := 81) J [true, false, false])))) (s_aload_n (pc := 66) X dX12_next_66 rfl (s_iconst (pc := 67) X dX12_next_67 rfl (s_putI (pc := 68) X dX12_next_68 p_X12_333 (s_goto (pc := 71) X dX12_next_71 (by decide) (s_vret (pc := 298) X E hr dX12_next_298)))))))))))))))))))) (s_aload_n (pc := 26) X dX12_next_26 rfl (s_dupR (pc := 27) X dX12_next_27 (s_getI (pc := 28) X dX12_next_28 g_X12_321 (s_iconst (pc := 31) X dX12_next_31 rfl (s_iadd (pc := 32) X dX12_next_32 (s_putI (pc := 33) X dX12_next_33 p_X12_321 (s_goto (pc := 36) X dX12_next_36 (by decide) (s_jmp (pc := 0) J [true, false, false])))))))))))))))))))), List.forall_mem_cons.mpr ⟨(s_aload_n (pc := 81) X dX12_next_81 rfl (s_aload_n (pc := 82) X dX12_next_82 rfl (s_getI (pc := 83) X dX12_next_83 g_X12_321 (s_callV (pc := 86) X dX12_next_86 (S_X12_at _) q_X12_324 h_64 rfl (hR _ _ (by decide)) (s_callS (pc := 89) X dX12_next_89 (S_X12_isSmall _) q_X12_336 (hR _ _ (by decide)) (s_if_eq (pc := 92) X dX12_next_92 (by decide) (s_aload_n (pc := 108) X dX12_next_108 rfl (s_iconst (pc := 109) X dX12_next_109 rfl (s_putI (pc := 110) X dX12_next_110 p_X12_333 (s_goto (pc := 113) X dX12_next_113 (by decide) (s_vret (pc := 298) X E hr dX12_next_298))))) (s_aload_n (pc := 95) X dX12_next_95 rfl (s_dupR (pc := 96) X dX12_next_96 (s_getI (pc := 97) X dX12_next_97 g_X12_321 (s_iconst (pc := 100) X dX12_next_100 rfl (s_iadd (pc := 101) X dX12_next_101 (s_putI (pc := 102) X dX12_next_102 p_X12_321 (s_goto (pc := 105) X dX12_next_105 (by decide) (s_jmp (pc := 81) J [true, false, false])))))))))))))), List.forall_mem_cons.mpr ⟨(s_aload_n (pc := 128) X dX12_next_128 rfl (s_aload_n (pc := 129) X dX12_next_129 rfl (s_getI (pc := 130) X dX12_next_130 g_X12_321 (s_callV (pc := 133) X dX12_next_133 (S_X12_at _) q_X12_324 h_64 rfl (hR _ _ (by decide)) (s_callS (pc := 136) X dX12_next_136 (S_X12_isDigit _) q_X12_339 (hR _ _ (by decide)) (s_if_eq (pc := 139) X dX12_next_139 (by decide) (s_aload_n (pc := 184) X dX12_next_184 rfl (s_aload_n (pc := 185) X dX12_next_185 rfl (s_getI (pc := 186) X dX12_next_186 g_X12_321 (s_aload_n (pc := 189) X dX12_next_189 rfl (s_getI (pc := 190) X dX12_next_190 g_X12_327 (s_isub (pc := 193) X dX12_next_193 (s_iconst (pc := 194) X dX12_next_194 rfl (s_ic_le (pc := 195) X dX12_next_195 (by decide) (s_iconst (pc := 202) X dX12_next_202 rfl (s_putI (pc := 203) X dX12_next_203 p_X12_333 (s_goto (pc := 206) X dX12_next_206 (by decide) (s_vret (pc := 298) X E hr dX12_next_298)))) (s_iconst (pc := 198) X dX12_next_198 rfl (s_goto (pc := 199) X dX12_next_199 (by decide) (s_putI (pc := 203) X dX12_next_203 p_X12_333 (s_goto (pc := 206) X dX12_next_206 (by decide) (s_vret (pc := 298) X E hr dX12_next_298))))))))))))) (s_aload_n (pc := 142) X dX12_next_142 rfl (s_ldc_w (pc := 143) X dX12_next_143 m_8_110 (s_bipush (pc := 146) X dX12_next_146 rfl (s_aload_n (pc := 148) X dX12_next_148 rfl (s_getI (pc := 149) X dX12_next_149 g_X12_330 (s_imul (pc := 152) X dX12_next_152 (s_aload_n (pc := 153) X dX12_next_153 rfl (s_aload_n (pc := 154) X dX12_next_154 rfl (s_getI (pc := 155) X dX12_next_155 g_X12_321 (s_callV (pc := 158) X dX12_next_158 (S_X12_at _) q_X12_324 h_64 rfl (hR _ _ (by decide)) (s_iadd (pc := 161) X dX12_next_161 (s_bipush (pc := 162) X dX12_next_162 rfl (s_isub (pc := 164) X dX12_next_164 (s_mmin (pc := 165) X dX12_next_165 m_8_111 mm_mmin (hRm (by decide)) (s_putI (pc := 168) X dX12_next_168 p_X12_330 (s_aload_n (pc := 171) X dX12_next_171 rfl (s_dupR (pc := 172) X dX12_next_172 (s_getI (pc := 173) X dX12_next_173 g_X12_321 (s_iconst (pc := 176) X dX12_next_176 rfl (s_iadd (pc := 177) X dX12_next_177 (s_putI (pc := 178) X dX12_next_178 p_X12_321 (s_goto (pc := 181) X dX12_next_181 (by decide) (s_jmp (pc := 128) J [true, false, false]))))))))))))))))))))))))))))), List.forall_mem_cons.mpr ⟨(s_iconst (pc := 279) X dX12_next_279 rfl (s_goto (pc := 280) X dX12_next_280 (by decide) (s_istore_n (pc := 284) X dX12_next_284 rfl (hnL _ (by decide)) (s_aload_n (pc := 285) X dX12_next_285 rfl (s_iload_n (pc := 286) X dX12_next_286 rfl (s_if_eq (pc := 287) X dX12_next_287 (by decide) (s_iconst (pc := 294) X dX12_next_294 rfl (s_putI (pc := 295) X dX12_next_295 p_X12_333 (s_vret (pc := 298) X E hr dX12_next_298))) (s_iconst (pc := 290) X dX12_next_290 rfl (s_goto (pc := 291) X dX12_next_291 (by decide) (s_putI (pc := 295) X dX12_next_295 p_X12_333 (s_vret (pc := 298) X E hr dX12_next_298)))))))))), fun _ h => absurd h List.not_mem_nil⟩⟩⟩⟩)
noncomputable def B_J0_coder_7d493_301_0 : pb_C := (i_const (.int 1) (i_if_eq (i_const (.int 1) (i_nret (fun x => x.toInt8.toInt32))) (i_aload 0 (i_getC 301 (.int 0) (i_nret (fun x => x.toInt8.toInt32))))))
noncomputable def T_J0_coder_7d493_301 : Nat → pb_C := pb_tt [(0, B_J0_coder_7d493_301_0)]
noncomputable def M_J0_coder_7d493_301 : pb_F := pb_M T_J0_coder_7d493_301 1
set_option maxRecDepth 100000 in
set_option maxHeartbeats 4000000 in
theorem S_J0_coder_7d493_301 (l : Launch) : pb_Sound l yJ0_coder_7d493 cJ0_coder_7d493 1 (some .byte) 1 M_J0_coder_7d493_301 := by
  refine pb_sound_of (by decide) m_4_23 ?_
  intro Γ hl0 hRm0 hm X E hr J
  have hnL : ∀ j, j < 1 → j < Γ.2.2.2.2.2.2.2.2.2.2.2.1 := fun j h => by rw [hm]; exact h
  have hR : ∀ (d' mL : Nat), d' + 1 ≤ 1 ∧ 8 + (mL + 11) + d' * 64 ≤ 1 * 64 → (pb_rm d').frames + 1 ≤ Γ.2.2.2.1.frames ∧ 8 + (mL + 11) + (pb_rm d').locals ≤ Γ.2.2.2.1.locals := by rw [hRm0]; exact fun _ _ h => h
  have hRm : 1 ≤ 1 ∧ 64 ≤ 1 * 64 → 1 ≤ Γ.2.2.2.1.frames ∧ 64 ≤ Γ.2.2.2.1.locals := by rw [hRm0]; exact fun h => h
  exact pb_tt_snd _ (List.forall_mem_cons.mpr ⟨(s_gets (pc := 0) X dJ0_coder_7d493_0 (v := (.int 1)) m_4_14 (fun ad A U H h => h.2.2.2.2.1) (s_if_eq (pc := 3) X dJ0_coder_7d493_3 (by decide) (s_iconst (pc := 13) X dJ0_coder_7d493_13 rfl (s_bret (pc := 14) X E hr dJ0_coder_7d493_14)) (s_aload_n (pc := 6) X dJ0_coder_7d493_6 rfl (s_getC (pc := 7) X dJ0_coder_7d493_7 (o := 301) (v := .int 0) m_9_166 (fun ad A U H h => (h.1.1 1 (by decide)).2.1) (s_goto (pc := 10) X dJ0_coder_7d493_10 (by decide) (s_bret (pc := 14) X E hr dJ0_coder_7d493_14)))))), fun _ h => absurd h List.not_mem_nil⟩)
noncomputable def B_J0_length_8abf5_301_0 : pb_C := (i_aload 0 (i_getC 301 (.ref 311) (i_alen 311 41 (i_aload 0 (i_callV (300 + 1) 0 1 M_J0_coder_7d493_301 (i_ibin (fun x y => x >>> (y &&& 31)) i_iret))))))
noncomputable def T_J0_length_8abf5_301 : Nat → pb_C := pb_tt [(0, B_J0_length_8abf5_301_0)]
noncomputable def M_J0_length_8abf5_301 : pb_F := pb_M T_J0_length_8abf5_301 1
set_option maxRecDepth 100000 in
set_option maxHeartbeats 4000000 in
theorem S_J0_length_8abf5_301 (l : Launch) : pb_Sound l yJ0_length_8abf5 cJ0_length_8abf5 1 (some .int) 2 M_J0_length_8abf5_301 := by
  refine pb_sound_of (by decide) m_4_19 ?_
  intro Γ hl0 hRm0 hm X E hr J
  have hnL : ∀ j, j < 1 → j < Γ.2.2.2.2.2.2.2.2.2.2.2.1 := fun j h => by rw [hm]; exact h
  have hR : ∀ (d' mL : Nat), d' + 1 ≤ 2 ∧ 8 + (mL + 11) + d' * 64 ≤ 2 * 64 → (pb_rm d').frames + 1 ≤ Γ.2.2.2.1.frames ∧ 8 + (mL + 11) + (pb_rm d').locals ≤ Γ.2.2.2.1.locals := by rw [hRm0]; exact fun _ _ h => h
  have hRm : 1 ≤ 2 ∧ 64 ≤ 2 * 64 → 1 ≤ Γ.2.2.2.1.frames ∧ 64 ≤ Γ.2.2.2.1.locals := by rw [hRm0]; exact fun h => h
  exact pb_tt_snd _ (List.forall_mem_cons.mpr ⟨(s_aload_n (pc := 0) X dJ0_length_8abf5_0 rfl (s_getC (pc := 1) X dJ0_length_8abf5_1 (o := 301) (v := .ref 311) m_9_167 (fun ad A U H h => (h.1.1 1 (by decide)).2.2.1) (s_calen (pc := 4) X dJ0_length_8abf5_4 (o := 311) (n := 41) (fun ad A U H h => (h.1.1 1 (by decide)).2.2.2) (s_aload_n (pc := 5) X dJ0_length_8abf5_5 rfl (s_callT (pc := 6) X dJ0_length_8abf5_6 (i := 1) (S_J0_coder_7d493_301 _) q_J0_335 (by decide) rfl (hR _ _ (by decide)) (s_ishr (pc := 9) X dJ0_length_8abf5_9 (s_iret (pc := 10) X E hr dJ0_length_8abf5_10))))))), fun _ h => absurd h List.not_mem_nil⟩)
noncomputable def B_J0_isLatin1_aae02_301_0 : pb_C := (i_const (.int 1) (i_if_eq (i_const (.int 0) i_zret) (i_aload 0 (i_getC 301 (.int 0) (i_if_ne (i_const (.int 0) i_zret) (i_const (.int 1) i_zret))))))
noncomputable def T_J0_isLatin1_aae02_301 : Nat → pb_C := pb_tt [(0, B_J0_isLatin1_aae02_301_0)]
noncomputable def M_J0_isLatin1_aae02_301 : pb_F := pb_M T_J0_isLatin1_aae02_301 1
set_option maxRecDepth 100000 in
set_option maxHeartbeats 4000000 in
theorem S_J0_isLatin1_aae02_301 (l : Launch) : pb_Sound l yJ0_isLatin1_aae02 cJ0_isLatin1_aae02 1 (some .boolean) 1 M_J0_isLatin1_aae02_301 := by
  refine pb_sound_of (by decide) m_4_13 ?_
  intro Γ hl0 hRm0 hm X E hr J
  have hnL : ∀ j, j < 1 → j < Γ.2.2.2.2.2.2.2.2.2.2.2.1 := fun j h => by rw [hm]; exact h
  have hR : ∀ (d' mL : Nat), d' + 1 ≤ 1 ∧ 8 + (mL + 11) + d' * 64 ≤ 1 * 64 → (pb_rm d').frames + 1 ≤ Γ.2.2.2.1.frames ∧ 8 + (mL + 11) + (pb_rm d').locals ≤ Γ.2.2.2.1.locals := by rw [hRm0]; exact fun _ _ h => h
  have hRm : 1 ≤ 1 ∧ 64 ≤ 1 * 64 → 1 ≤ Γ.2.2.2.1.frames ∧ 64 ≤ Γ.2.2.2.1.locals := by rw [hRm0]; exact fun h => h
  exact pb_tt_snd _ (List.forall_mem_cons.mpr ⟨(s_gets (pc := 0) X dJ0_isLatin1_aae02_0 (v := (.int 1)) m_4_14 (fun ad A U H h => h.2.2.2.2.1) (s_if_eq (pc := 3) X dJ0_isLatin1_aae02_3 (by decide) (s_iconst (pc := 17) X dJ0_isLatin1_aae02_17 rfl (s_zret (pc := 18) X E hr dJ0_isLatin1_aae02_18)) (s_aload_n (pc := 6) X dJ0_isLatin1_aae02_6 rfl (s_getC (pc := 7) X dJ0_isLatin1_aae02_7 (o := 301) (v := .int 0) m_9_166 (fun ad A U H h => (h.1.1 1 (by decide)).2.1) (s_if_ne (pc := 10) X dJ0_isLatin1_aae02_10 (by decide) (s_iconst (pc := 17) X dJ0_isLatin1_aae02_17 rfl (s_zret (pc := 18) X E hr dJ0_isLatin1_aae02_18)) (s_iconst (pc := 13) X dJ0_isLatin1_aae02_13 rfl (s_goto (pc := 14) X dJ0_isLatin1_aae02_14 (by decide) (s_zret (pc := 18) X E hr dJ0_isLatin1_aae02_18)))))))), fun _ h => absurd h List.not_mem_nil⟩)
theorem dJ0_checkIndex_df160_0 : decode cJ0_checkIndex_df160 0 = .ok (.iload_n 0, 1) := by decide +kernel
theorem dJ0_checkIndex_df160_1 : decode cJ0_checkIndex_df160 1 = .ok (.iload_n 1, 1) := by decide +kernel
theorem dJ0_checkIndex_df160_2 : decode cJ0_checkIndex_df160 2 = .ok (.getstatic 1053, 3) := by decide +kernel
theorem dJ0_checkIndex_df160_5 : decode cJ0_checkIndex_df160 5 = .ok (.invokestatic 1059, 3) := by decide +kernel
theorem dJ0_checkIndex_df160_8 : decode cJ0_checkIndex_df160 8 = .ok (.pop, 1) := by decide +kernel
theorem dJ0_checkIndex_df160_9 : decode cJ0_checkIndex_df160 9 = .ok (.return_, 1) := by decide +kernel
theorem dJ3_checkIndex_8e157_0 : decode cJ3_checkIndex_8e157 0 = .ok (.iload_n 0, 1) := by decide +kernel
theorem dJ3_checkIndex_8e157_1 : decode cJ3_checkIndex_8e157 1 = .ok (.ifCond .lt 8, 3) := by decide +kernel
theorem dJ3_checkIndex_8e157_4 : decode cJ3_checkIndex_8e157 4 = .ok (.iload_n 0, 1) := by decide +kernel
theorem dJ3_checkIndex_8e157_5 : decode cJ3_checkIndex_8e157 5 = .ok (.iload_n 1, 1) := by decide +kernel
theorem dJ3_checkIndex_8e157_6 : decode cJ3_checkIndex_8e157 6 = .ok (.if_icmp .lt 10, 3) := by decide +kernel
theorem dJ3_checkIndex_8e157_9 : decode cJ3_checkIndex_8e157 9 = .ok (.aload_n 2, 1) := by decide +kernel
theorem dJ3_checkIndex_8e157_10 : decode cJ3_checkIndex_8e157 10 = .ok (.iload_n 0, 1) := by decide +kernel
theorem dJ3_checkIndex_8e157_11 : decode cJ3_checkIndex_8e157 11 = .ok (.iload_n 1, 1) := by decide +kernel
theorem dJ3_checkIndex_8e157_12 : decode cJ3_checkIndex_8e157 12 = .ok (.invokestatic 95, 3) := by decide +kernel
theorem dJ3_checkIndex_8e157_15 : decode cJ3_checkIndex_8e157 15 = .ok (.athrow, 1) := by decide +kernel
theorem dJ3_checkIndex_8e157_16 : decode cJ3_checkIndex_8e157 16 = .ok (.iload_n 0, 1) := by decide +kernel
theorem dJ3_checkIndex_8e157_17 : decode cJ3_checkIndex_8e157 17 = .ok (.ireturn, 1) := by decide +kernel
theorem c_chk (l : Launch) (D : va_G) (ad : Nat → Nat) (cs : Nat → ClassId) (A : Nat → Prop) (w : pb_W) (i n : Int32) (v : Value) (hv : v.category = 1) (h0 : ¬ i < 0) (hn : i < n) : Met l yJ3_checkIndex_8e157 (.code yJ3_checkIndex_8e157 cJ3_checkIndex_8e157 3 (some .int) :: pb_tbl) (pb_rm 1) (fun a U => a = #[.int i, .int n, v] ∧ pb_WOK D ad cs A w U) (pb_Qc D ad cs A (some (.int i), w)) 0 0 A := by
  refine Met.ofW (cc := cJ3_checkIndex_8e157) (maxL := 3) (ret := some .int) (by decide) rfl ?_
  intro p e s m args below meth c s₁ B hml hv'
  obtain ⟨rfl, hK, hN, hA, hZ, hP, hD⟩ := hv'
  have hx := B.exec
  have hb := B.bytes
  have hr := B.returns
  have hlk := B.notSynchronized
  have hl := lv_entry [.int i, .int n, v] (n := 3) (by cases v <;> first | exact Nat.le_refl 3 | exact absurd hv (by simp [Value.category]))
  rw [show (#[Value.int i, .int n, v] : Array Value) = ([.int i, .int n, v] : List Value).toArray from rfl, lg_entry_eq]
  generalize (lg_sl [.int i, .int n, v] ++ List.replicate (3 - (lg_sl [.int i, .int n, v]).length) Slot.unset).toArray = ls at hl ⊢
  have l0 : ls[0]? = some (.val (.int i)) := hl.2.2 (0, .int i) (by simp [lv_args])
  have l1 : ls[1]? = some (.val (.int n)) := hl.2.2 (1, .int n) (by simp [lv_args, Value.category])
  refine lv_iload_n hx hb dJ3_checkIndex_8e157_0 rfl l0 ?_
  refine lv_if_lt (tgt := 9) hx hb dJ3_checkIndex_8e157_1 (by decide) (fun q => absurd q h0) (fun _ => ?_)
  refine lv_iload_n hx hb dJ3_checkIndex_8e157_4 rfl l0 ?_
  refine lv_iload_n hx hb dJ3_checkIndex_8e157_5 rfl l1 ?_
  refine lv_icmp_lt (tgt := 16) hx hb dJ3_checkIndex_8e157_6 (by decide) (fun _ => ?_) (fun q => absurd hn q)
  refine lv_iload_n hx hb dJ3_checkIndex_8e157_16 rfl l0 ?_
  have hS : va_S A s.heap s.heap [] := va_S.rf
  exact W.iret hx hb hr (fun t ht hW => ⟨rfl, ⟨va_K.moved hW.alike hK, fun x hx => pb_nest_keep hx hW (hN x hx), by rw [ht]; exact hA, by rw [ht]; exact pb_stat_moved hW hZ, by rw [ht]; exact hP, hD⟩, hS.F ht⟩) hS.2.2 dJ3_checkIndex_8e157_17 hlk
def M_J0_checkIndex_df160 : pb_F := fun av w => match av with
  | [.int i, .int n] => if 0 ≤ i.toInt ∧ i.toInt < n.toInt then some (none, w) else none
  | _ => none
theorem S_J0_checkIndex_df160 (l : Launch) : pb_Sound l yJ0_checkIndex_df160 cJ0_checkIndex_df160 2 none 3 M_J0_checkIndex_df160 := by
  refine ⟨m_8_135, fun D ad cs A av w r hr => ?_⟩
  unfold M_J0_checkIndex_df160 at hr
  split at hr
  · rename_i i n
    split at hr
    · rename_i hin
      cases hr
      have h0 : ¬ i < 0 := pb_nn hin.1
      have hn : i < n := Int32.lt_iff_toInt_lt.mpr hin.2
      refine Met.ofW (cc := cJ0_checkIndex_df160) (maxL := 2) (ret := none) (by decide) rfl ?_
      intro p e s m args below meth c s₁ B hml hv'
      obtain ⟨rfl, hK, hN, hA, hZ, hP, hD⟩ := hv'
      have hx := B.exec
      have hb := B.bytes
      have hr := B.returns
      have hlk := B.notSynchronized
      have hts0 := atoms_spec (ws := .code yJ0_checkIndex_df160 cJ0_checkIndex_df160 2 none :: pb_tbl) B.pre
      have hts : ∀ w ∈ pb_tbl, w.before ([Value.int i, .int n].map (pb_cv ad)).toArray s = true := fun w hw => hts0 w (List.mem_cons_of_mem _ hw)
      have hown : s.vm.findClass RJ0 = some m.cls := findClass_of_methodNamed B.named
      have hl := lv_entry ([Value.int i, .int n].map (pb_cv ad)) (n := 2) (by simp [lg_sl, Value.category, pb_cv])
      rw [lg_entry_eq]
      generalize (lg_sl ([Value.int i, .int n].map (pb_cv ad)) ++ List.replicate (2 - (lg_sl ([Value.int i, .int n].map (pb_cv ad))).length) Slot.unset).toArray = ls at hl ⊢
      have l0 : ls[0]? = some (.val (.int i)) := hl.2.2 (0, .int i) (by simp [lv_args, pb_cv])
      have l1 : ls[1]? = some (.val (.int n)) := hl.2.2 (1, .int n) (by simp [lv_args, Value.category, pb_cv])
      have hS : va_S A s.heap s.heap [] := va_S.rf
      refine lv_iload_n hx hb dJ0_checkIndex_df160_0 rfl l0 ?_
      refine lv_iload_n hx hb dJ0_checkIndex_df160_1 rfl l1 ?_
      have key : ∀ v : Value, v.category = 1 → W p l e (headSpec (Cond.code yJ0_checkIndex_df160 cJ0_checkIndex_df160 2 none :: pb_tbl) (pb_rm 3)).room s m ([Value.int i, .int n].map (pb_cv ad)).toArray below meth c s.heap [] 0 0 (MQ below (pb_Qc D ad cs A (none, w)) ([Value.int i, .int n].map (pb_cv ad)).toArray s 0 0 A) (F0 m 5 ls [v, .int n, .int i]) := by
        intro v hv
        intro T hT X
        have hM := c_chk l D ad cs A w i n v hv h0 hn
        have hpre : PreS s s.heap (fun a U => a = #[.int i, .int n, v] ∧ pb_WOK D ad cs A w U) [.int i, .int n, v] := ⟨fun a U g mk h => ⟨h.1, pb_WOK_same (u := U) (U := U.calling g mk a) rfl rfl h.2⟩, fun U hU hW => ⟨rfl, va_K.moved hW.alike hK, fun x hx => pb_nest_keep hx hW (hN x hx), by rw [hU]; exact hA, by rw [hU]; exact pb_stat_moved hW hZ, by rw [hU]; exact hP, hD⟩⟩
        have run := va_runS (n := 3) (R := pb_rm 3) (locs := []) (cells := 0) (slots := 0) (below := below) (meth := meth) (e := e) (p := p) (l := l) (rest := []) (g := F0 m 5 ls [v, .int n, .int i]) ⟨hx, hb, hml, hown, hts⟩ hM ⟨callB_of 3 hts (pb_good m_8_138) rfl rfl rfl (hts _ m_1_20) (hts _ m_8_136) (by refine ⟨by decide +kernel, by decide +kernel, by decide +kernel⟩) ⟨by decide, by decide⟩, hts _ m_8_137⟩ hpre rfl rfl hl.1 rfl (lv_room (by decide)) dJ0_checkIndex_df160_5 ⟨Nat.zero_le _, Nat.zero_le _⟩
        obtain ⟨r0, st₀, t, T', L, g0, X', hL, e1, e2, ⟨hv, ⟨hK1, hN1, hA1, hZ1, hP1, hD1⟩, hF⟩, st⟩ := run T hT X
        cases hv
        have hz := hF.1
        have hk := hF.2
        rw [g0] at hz hk
        have hS1 : va_S A s.heap T'.heap ([] ++ L) := ⟨by rw [e1]; exact hz, fun q g1 g2 => by rw [e1]; exact hk q g1 g2, fun q hq => hL q (by simpa using hq)⟩
        have W1 : W p l e (pb_rm 3) s m ([Value.int i, .int n].map (pb_cv ad)).toArray below meth c T'.heap ([] ++ L) 0 0 (MQ below (pb_Qc D ad cs A (none, w)) ([Value.int i, .int n].map (pb_cv ad)).toArray s 0 0 A) (F0 m 8 ls [.int i]) := by
          refine lv_pop hx hb dJ0_checkIndex_df160_8 rfl ?_
          exact W.vret hx hb hr (fun t ht hW => ⟨rfl, ⟨va_K.moved hW.alike hK, fun x hx => pb_nest_keep hx hW (hN x hx), by rw [ht]; exact fun q hq => hA q (Nat.le_trans hS1.1 hq), by rw [ht]; exact pb_stat_moved hW (pb_stat_kept hS1.2.1 hZ), by rw [ht, e1]; exact hP1, hD1⟩, hS1.F ht⟩) hS1.2.2 dJ0_checkIndex_df160_9 hlk
        obtain ⟨t2, a1, b1⟩ := W1 T' rfl X'
        exact ⟨t2, st t2 a1, b1⟩
      rcases hZ.2.2.2.2.2 with hz | ⟨t, hz⟩
      · exact va_gets hx hb hz hS hown (hts _ m_4_55) (fun _ q => q) dJ0_checkIndex_df160_2 (key .null rfl)
      · exact va_gets hx hb hz hS hown (hts _ m_4_55) (fun _ q => q) dJ0_checkIndex_df160_2 (key (.ref t) rfl)
    · cases hr
  · cases hr
theorem dJ1_charAt_3b067_0 : decode cJ1_charAt_3b067 0 = .ok (.iload_n 1, 1) := by decide +kernel
theorem dJ1_charAt_3b067_1 : decode cJ1_charAt_3b067 1 = .ok (.aload_n 0, 1) := by decide +kernel
theorem dJ1_charAt_3b067_2 : decode cJ1_charAt_3b067 2 = .ok (.arraylength, 1) := by decide +kernel
theorem dJ1_charAt_3b067_3 : decode cJ1_charAt_3b067 3 = .ok (.invokestatic 9, 3) := by decide +kernel
theorem dJ1_charAt_3b067_6 : decode cJ1_charAt_3b067 6 = .ok (.aload_n 0, 1) := by decide +kernel
theorem dJ1_charAt_3b067_7 : decode cJ1_charAt_3b067 7 = .ok (.iload_n 1, 1) := by decide +kernel
theorem dJ1_charAt_3b067_8 : decode cJ1_charAt_3b067 8 = .ok (.baload, 1) := by decide +kernel
theorem dJ1_charAt_3b067_9 : decode cJ1_charAt_3b067 9 = .ok (.sipush 255, 3) := by decide +kernel
theorem dJ1_charAt_3b067_12 : decode cJ1_charAt_3b067 12 = .ok (.iand, 1) := by decide +kernel
theorem dJ1_charAt_3b067_13 : decode cJ1_charAt_3b067 13 = .ok (.i2c, 1) := by decide +kernel
theorem dJ1_charAt_3b067_14 : decode cJ1_charAt_3b067 14 = .ok (.ireturn, 1) := by decide +kernel
noncomputable def B_J1_charAt_3b067_311_0 : pb_C := (i_iload 1 (i_aload 0 (i_alen 311 41 (i_callS 2 0 M_J0_checkIndex_df160 (i_aload 0 (i_iload 1 (i_cald 311 41 (fun j => (pb_strs.getD 1 []).getD j 0) (i_const (.int 255) (i_ibin (· &&& ·) (i_iun (fun x => (x.toUInt32 % 65536).toInt32) (i_nret (fun x => (x.toUInt32 % 65536).toInt32))))))))))))
noncomputable def T_J1_charAt_3b067_311 : Nat → pb_C := pb_tt [(0, B_J1_charAt_3b067_311_0)]
noncomputable def M_J1_charAt_3b067_311 : pb_F := pb_M T_J1_charAt_3b067_311 2
set_option maxRecDepth 100000 in
set_option maxHeartbeats 4000000 in
theorem S_J1_charAt_3b067_311 (l : Launch) : pb_Sound l yJ1_charAt_3b067 cJ1_charAt_3b067 2 (some .char) 4 M_J1_charAt_3b067_311 := by
  refine pb_sound_of (by decide) m_8_132 ?_
  intro Γ hl0 hRm0 hm X E hr J
  have hnL : ∀ j, j < 2 → j < Γ.2.2.2.2.2.2.2.2.2.2.2.1 := fun j h => by rw [hm]; exact h
  have hR : ∀ (d' mL : Nat), d' + 1 ≤ 4 ∧ 8 + (mL + 11) + d' * 64 ≤ 4 * 64 → (pb_rm d').frames + 1 ≤ Γ.2.2.2.1.frames ∧ 8 + (mL + 11) + (pb_rm d').locals ≤ Γ.2.2.2.1.locals := by rw [hRm0]; exact fun _ _ h => h
  have hRm : 1 ≤ 4 ∧ 64 ≤ 4 * 64 → 1 ≤ Γ.2.2.2.1.frames ∧ 64 ≤ Γ.2.2.2.1.locals := by rw [hRm0]; exact fun h => h
  exact pb_tt_snd _ (List.forall_mem_cons.mpr ⟨(s_iload_n (pc := 0) X dJ1_charAt_3b067_0 rfl (s_aload_n (pc := 1) X dJ1_charAt_3b067_1 rfl (s_calen (pc := 2) X dJ1_charAt_3b067_2 (o := 311) (n := 41) (fun ad A U H h => (h.1.1 1 (by decide)).2.2.2) (s_callS (pc := 3) X dJ1_charAt_3b067_3 (S_J0_checkIndex_df160 _) q_J1_9 (hR _ _ (by decide)) (s_aload_n (pc := 6) X dJ1_charAt_3b067_6 rfl (s_iload_n (pc := 7) X dJ1_charAt_3b067_7 rfl (s_cald (pc := 8) X dJ1_charAt_3b067_8 (o := 311) (n := 41) (f := fun j => (pb_strs.getD 1 []).getD j 0) (fun ad A U H h => (h.1.1 1 (by decide)).2.2.2) (s_sipush (pc := 9) X dJ1_charAt_3b067_9 rfl (s_iand (pc := 12) X dJ1_charAt_3b067_12 (s_i2c (pc := 13) X dJ1_charAt_3b067_13 (s_cret (pc := 14) X E hr dJ1_charAt_3b067_14))))))))))), fun _ h => absurd h List.not_mem_nil⟩)
theorem dJ0_charAt_5068e_0 : decode cJ0_charAt_5068e 0 = .ok (.aload_n 0, 1) := by decide +kernel
theorem dJ0_charAt_5068e_1 : decode cJ0_charAt_5068e 1 = .ok (.invokevirtual 492, 3) := by decide +kernel
theorem dJ0_charAt_5068e_4 : decode cJ0_charAt_5068e 4 = .ok (.ifCond .eq 12, 3) := by decide +kernel
theorem dJ0_charAt_5068e_7 : decode cJ0_charAt_5068e 7 = .ok (.aload_n 0, 1) := by decide +kernel
theorem dJ0_charAt_5068e_8 : decode cJ0_charAt_5068e 8 = .ok (.getfield 9, 3) := by decide +kernel
theorem dJ0_charAt_5068e_11 : decode cJ0_charAt_5068e 11 = .ok (.iload_n 1, 1) := by decide +kernel
theorem dJ0_charAt_5068e_12 : decode cJ0_charAt_5068e 12 = .ok (.invokestatic 495, 3) := by decide +kernel
theorem dJ0_charAt_5068e_15 : decode cJ0_charAt_5068e 15 = .ok (.ireturn, 1) := by decide +kernel
theorem dJ0_charAt_5068e_16 : decode cJ0_charAt_5068e 16 = .ok (.aload_n 0, 1) := by decide +kernel
theorem dJ0_charAt_5068e_17 : decode cJ0_charAt_5068e 17 = .ok (.getfield 9, 3) := by decide +kernel
theorem dJ0_charAt_5068e_20 : decode cJ0_charAt_5068e 20 = .ok (.iload_n 1, 1) := by decide +kernel
theorem dJ0_charAt_5068e_21 : decode cJ0_charAt_5068e 21 = .ok (.invokestatic 498, 3) := by decide +kernel
theorem dJ0_charAt_5068e_24 : decode cJ0_charAt_5068e 24 = .ok (.ireturn, 1) := by decide +kernel
noncomputable def B_J0_charAt_5068e_301_0 : pb_C := (i_aload 0 (i_callV (300 + 1) 0 1 M_J0_isLatin1_aae02_301 (i_if_eq (i_aload 0 (i_getC 301 (.ref 311) (i_iload 1 i_fail))) (i_aload 0 (i_getC 301 (.ref 311) (i_iload 1 (i_callS 2 1 M_J1_charAt_3b067_311 (i_nret (fun x => (x.toUInt32 % 65536).toInt32)))))))))
noncomputable def T_J0_charAt_5068e_301 : Nat → pb_C := pb_tt [(0, B_J0_charAt_5068e_301_0)]
noncomputable def M_J0_charAt_5068e_301 : pb_F := pb_M T_J0_charAt_5068e_301 2
set_option maxRecDepth 100000 in
set_option maxHeartbeats 4000000 in
theorem S_J0_charAt_5068e_301 (l : Launch) : pb_Sound l yJ0_charAt_5068e cJ0_charAt_5068e 2 (some .char) 5 M_J0_charAt_5068e_301 := by
  refine pb_sound_of (by decide) m_8_129 ?_
  intro Γ hl0 hRm0 hm X E hr J
  have hnL : ∀ j, j < 2 → j < Γ.2.2.2.2.2.2.2.2.2.2.2.1 := fun j h => by rw [hm]; exact h
  have hR : ∀ (d' mL : Nat), d' + 1 ≤ 5 ∧ 8 + (mL + 11) + d' * 64 ≤ 5 * 64 → (pb_rm d').frames + 1 ≤ Γ.2.2.2.1.frames ∧ 8 + (mL + 11) + (pb_rm d').locals ≤ Γ.2.2.2.1.locals := by rw [hRm0]; exact fun _ _ h => h
  have hRm : 1 ≤ 5 ∧ 64 ≤ 5 * 64 → 1 ≤ Γ.2.2.2.1.frames ∧ 64 ≤ Γ.2.2.2.1.locals := by rw [hRm0]; exact fun h => h
  exact pb_tt_snd _ (List.forall_mem_cons.mpr ⟨(s_aload_n (pc := 0) X dJ0_charAt_5068e_0 rfl (s_callT (pc := 1) X dJ0_charAt_5068e_1 (i := 1) (S_J0_isLatin1_aae02_301 _) q_J0_492 (by decide) rfl (hR _ _ (by decide)) (s_if_eq (pc := 4) X dJ0_charAt_5068e_4 (by decide) (s_aload_n (pc := 16) X dJ0_charAt_5068e_16 rfl (s_getC (pc := 17) X dJ0_charAt_5068e_17 (o := 301) (v := .ref 311) m_9_167 (fun ad A U H h => (h.1.1 1 (by decide)).2.2.1) (s_iload_n (pc := 20) X dJ0_charAt_5068e_20 rfl s_fail))) (s_aload_n (pc := 7) X dJ0_charAt_5068e_7 rfl (s_getC (pc := 8) X dJ0_charAt_5068e_8 (o := 301) (v := .ref 311) m_9_167 (fun ad A U H h => (h.1.1 1 (by decide)).2.2.1) (s_iload_n (pc := 11) X dJ0_charAt_5068e_11 rfl (s_callS (pc := 12) X dJ0_charAt_5068e_12 (S_J1_charAt_3b067_311 _) q_J0_495 (hR _ _ (by decide)) (s_cret (pc := 15) X E hr dJ0_charAt_5068e_15)))))))), fun _ h => absurd h List.not_mem_nil⟩)
theorem dX12_inWords_0 : decode cX12_inWords 0 = .ok (.aload_n 0, 1) := by decide +kernel
theorem dX12_inWords_1 : decode cX12_inWords 1 = .ok (.getfield 333, 3) := by decide +kernel
theorem dX12_inWords_4 : decode cX12_inWords 4 = .ok (.iconst 2, 1) := by decide +kernel
theorem dX12_inWords_5 : decode cX12_inWords 5 = .ok (.if_icmp .eq 5, 3) := by decide +kernel
theorem dX12_inWords_8 : decode cX12_inWords 8 = .ok (.iconst (-1), 1) := by decide +kernel
theorem dX12_inWords_9 : decode cX12_inWords 9 = .ok (.ireturn, 1) := by decide +kernel
theorem dX12_inWords_10 : decode cX12_inWords 10 = .ok (.iconst 0, 1) := by decide +kernel
theorem dX12_inWords_11 : decode cX12_inWords 11 = .ok (.istore_n 2, 1) := by decide +kernel
theorem dX12_inWords_12 : decode cX12_inWords 12 = .ok (.iconst 1, 1) := by decide +kernel
theorem dX12_inWords_13 : decode cX12_inWords 13 = .ok (.istore_n 3, 1) := by decide +kernel
theorem dX12_inWords_14 : decode cX12_inWords 14 = .ok (.iload_n 3, 1) := by decide +kernel
theorem dX12_inWords_15 : decode cX12_inWords 15 = .ok (.aload_n 1, 1) := by decide +kernel
theorem dX12_inWords_16 : decode cX12_inWords 16 = .ok (.invokevirtual 348, 3) := by decide +kernel
theorem dX12_inWords_19 : decode cX12_inWords 19 = .ok (.if_icmp .ge 114, 3) := by decide +kernel
theorem dX12_inWords_22 : decode cX12_inWords 22 = .ok (.iload_n 3, 1) := by decide +kernel
theorem dX12_inWords_23 : decode cX12_inWords 23 = .ok (.istore 4, 2) := by decide +kernel
theorem dX12_inWords_25 : decode cX12_inWords 25 = .ok (.aload_n 1, 1) := by decide +kernel
theorem dX12_inWords_26 : decode cX12_inWords 26 = .ok (.iload 4, 2) := by decide +kernel
theorem dX12_inWords_28 : decode cX12_inWords 28 = .ok (.invokevirtual 354, 3) := by decide +kernel
theorem dX12_inWords_31 : decode cX12_inWords 31 = .ok (.bipush 32, 2) := by decide +kernel
theorem dX12_inWords_33 : decode cX12_inWords 33 = .ok (.if_icmp .eq 9, 3) := by decide +kernel
theorem dX12_inWords_36 : decode cX12_inWords 36 = .ok (.iinc 4 1, 3) := by decide +kernel
theorem dX12_inWords_39 : decode cX12_inWords 39 = .ok (.goto (-14), 3) := by decide +kernel
theorem dX12_inWords_42 : decode cX12_inWords 42 = .ok (.iload 4, 2) := by decide +kernel
theorem dX12_inWords_44 : decode cX12_inWords 44 = .ok (.iload_n 3, 1) := by decide +kernel
theorem dX12_inWords_45 : decode cX12_inWords 45 = .ok (.isub, 1) := by decide +kernel
theorem dX12_inWords_46 : decode cX12_inWords 46 = .ok (.aload_n 0, 1) := by decide +kernel
theorem dX12_inWords_47 : decode cX12_inWords 47 = .ok (.getfield 321, 3) := by decide +kernel
theorem dX12_inWords_50 : decode cX12_inWords 50 = .ok (.aload_n 0, 1) := by decide +kernel
theorem dX12_inWords_51 : decode cX12_inWords 51 = .ok (.getfield 327, 3) := by decide +kernel
theorem dX12_inWords_54 : decode cX12_inWords 54 = .ok (.isub, 1) := by decide +kernel
theorem dX12_inWords_55 : decode cX12_inWords 55 = .ok (.if_icmp .ne 7, 3) := by decide +kernel
theorem dX12_inWords_58 : decode cX12_inWords 58 = .ok (.iconst 1, 1) := by decide +kernel
theorem dX12_inWords_59 : decode cX12_inWords 59 = .ok (.goto 4, 3) := by decide +kernel
theorem dX12_inWords_62 : decode cX12_inWords 62 = .ok (.iconst 0, 1) := by decide +kernel
theorem dX12_inWords_63 : decode cX12_inWords 63 = .ok (.istore 5, 2) := by decide +kernel
theorem dX12_inWords_65 : decode cX12_inWords 65 = .ok (.iload_n 3, 1) := by decide +kernel
theorem dX12_inWords_66 : decode cX12_inWords 66 = .ok (.istore 6, 2) := by decide +kernel
theorem dX12_inWords_68 : decode cX12_inWords 68 = .ok (.iload 6, 2) := by decide +kernel
theorem dX12_inWords_70 : decode cX12_inWords 70 = .ok (.iload 4, 2) := by decide +kernel
theorem dX12_inWords_72 : decode cX12_inWords 72 = .ok (.if_icmp .ge 43, 3) := by decide +kernel
theorem dX12_inWords_75 : decode cX12_inWords 75 = .ok (.iload 5, 2) := by decide +kernel
theorem dX12_inWords_77 : decode cX12_inWords 77 = .ok (.ifCond .eq 38, 3) := by decide +kernel
theorem dX12_inWords_80 : decode cX12_inWords 80 = .ok (.aload_n 1, 1) := by decide +kernel
theorem dX12_inWords_81 : decode cX12_inWords 81 = .ok (.iload 6, 2) := by decide +kernel
theorem dX12_inWords_83 : decode cX12_inWords 83 = .ok (.invokevirtual 354, 3) := by decide +kernel
theorem dX12_inWords_86 : decode cX12_inWords 86 = .ok (.aload_n 0, 1) := by decide +kernel
theorem dX12_inWords_87 : decode cX12_inWords 87 = .ok (.aload_n 0, 1) := by decide +kernel
theorem dX12_inWords_88 : decode cX12_inWords 88 = .ok (.getfield 327, 3) := by decide +kernel
theorem dX12_inWords_91 : decode cX12_inWords 91 = .ok (.iload 6, 2) := by decide +kernel
theorem dX12_inWords_93 : decode cX12_inWords 93 = .ok (.iadd, 1) := by decide +kernel
theorem dX12_inWords_94 : decode cX12_inWords 94 = .ok (.iload_n 3, 1) := by decide +kernel
theorem dX12_inWords_95 : decode cX12_inWords 95 = .ok (.isub, 1) := by decide +kernel
theorem dX12_inWords_96 : decode cX12_inWords 96 = .ok (.invokevirtual 324, 3) := by decide +kernel
theorem dX12_inWords_99 : decode cX12_inWords 99 = .ok (.if_icmp .ne 7, 3) := by decide +kernel
theorem dX12_inWords_102 : decode cX12_inWords 102 = .ok (.iconst 1, 1) := by decide +kernel
theorem dX12_inWords_103 : decode cX12_inWords 103 = .ok (.goto 4, 3) := by decide +kernel
theorem dX12_inWords_106 : decode cX12_inWords 106 = .ok (.iconst 0, 1) := by decide +kernel
theorem dX12_inWords_107 : decode cX12_inWords 107 = .ok (.istore 5, 2) := by decide +kernel
theorem dX12_inWords_109 : decode cX12_inWords 109 = .ok (.iinc 6 1, 3) := by decide +kernel
theorem dX12_inWords_112 : decode cX12_inWords 112 = .ok (.goto (-44), 3) := by decide +kernel
theorem dX12_inWords_115 : decode cX12_inWords 115 = .ok (.iload 5, 2) := by decide +kernel
theorem dX12_inWords_117 : decode cX12_inWords 117 = .ok (.ifCond .eq 5, 3) := by decide +kernel
theorem dX12_inWords_120 : decode cX12_inWords 120 = .ok (.iload_n 2, 1) := by decide +kernel
theorem dX12_inWords_121 : decode cX12_inWords 121 = .ok (.ireturn, 1) := by decide +kernel
theorem dX12_inWords_122 : decode cX12_inWords 122 = .ok (.iinc 2 1, 3) := by decide +kernel
theorem dX12_inWords_125 : decode cX12_inWords 125 = .ok (.iload 4, 2) := by decide +kernel
theorem dX12_inWords_127 : decode cX12_inWords 127 = .ok (.iconst 1, 1) := by decide +kernel
theorem dX12_inWords_128 : decode cX12_inWords 128 = .ok (.iadd, 1) := by decide +kernel
theorem dX12_inWords_129 : decode cX12_inWords 129 = .ok (.istore_n 3, 1) := by decide +kernel
theorem dX12_inWords_130 : decode cX12_inWords 130 = .ok (.goto (-116), 3) := by decide +kernel
theorem dX12_inWords_133 : decode cX12_inWords 133 = .ok (.iconst (-1), 1) := by decide +kernel
theorem dX12_inWords_134 : decode cX12_inWords 134 = .ok (.ireturn, 1) := by decide +kernel
noncomputable def B_X12_inWords_301_0 : pb_C := (i_aload 0 (i_getI 64 30 (i_const (.int 2) (i_ic_eq (i_const (.int 0) (i_istore 2 (i_const (.int 1) (i_istore 3 (i_jmp 14 [true, true, true, true, false, false, false]))))) (i_const (.int (-1)) i_iret)))))
noncomputable def B_X12_inWords_301_14 : pb_C := (i_iload 3 (i_aload 1 (i_callV (300 + 1) 0 1 M_J0_length_8abf5_301 (i_ic_ge (i_const (.int (-1)) i_iret) (i_iload 3 (i_istore 4 (i_jmp 25 [true, true, true, true, true, false, false])))))))
noncomputable def B_X12_inWords_301_25 : pb_C := (i_aload 1 (i_iload 4 (i_callV (300 + 1) 1 1 M_J0_charAt_5068e_301 (i_const (.int 32) (i_ic_eq (i_iload 4 (i_iload 3 (i_ibin (· - ·) (i_aload 0 (i_getI 64 32 (i_aload 0 (i_getI 64 31 (i_ibin (· - ·) (i_ic_ne (i_const (.int 0) (i_istore 5 (i_iload 3 (i_istore 6 (i_jmp 68 [true, true, true, true, true, true, true]))))) (i_const (.int 1) (i_istore 5 (i_iload 3 (i_istore 6 (i_jmp 68 [true, true, true, true, true, true, true])))))))))))))) (i_iinc 4 1 (i_jmp 25 [true, true, true, true, true, false, false])))))))
noncomputable def B_X12_inWords_301_68 : pb_C := (i_iload 6 (i_iload 4 (i_ic_ge (i_iload 5 (i_if_eq (i_iinc 2 1 (i_iload 4 (i_const (.int 1) (i_ibin (· + ·) (i_istore 3 (i_jmp 14 [true, true, true, true, false, false, false])))))) (i_iload 2 i_iret))) (i_iload 5 (i_if_eq (i_iload 5 (i_if_eq (i_iinc 2 1 (i_iload 4 (i_const (.int 1) (i_ibin (· + ·) (i_istore 3 (i_jmp 14 [true, true, true, true, false, false, false])))))) (i_iload 2 i_iret))) (i_aload 1 (i_iload 6 (i_callV (300 + 1) 1 1 M_J0_charAt_5068e_301 (i_aload 0 (i_aload 0 (i_getI 64 31 (i_iload 6 (i_ibin (· + ·) (i_iload 3 (i_ibin (· - ·) (i_callV 64 1 1 M_X12_at (i_ic_ne (i_const (.int 0) (i_istore 5 (i_iinc 6 1 (i_jmp 68 [true, true, true, true, true, true, true])))) (i_const (.int 1) (i_istore 5 (i_iinc 6 1 (i_jmp 68 [true, true, true, true, true, true, true])))))))))))))))))))))
noncomputable def T_X12_inWords_301 : Nat → pb_C := pb_tt [(0, B_X12_inWords_301_0), (14, B_X12_inWords_301_14), (25, B_X12_inWords_301_25), (68, B_X12_inWords_301_68)]
noncomputable def M_X12_inWords_301 : pb_F := pb_M T_X12_inWords_301 7
set_option maxRecDepth 100000 in
set_option maxHeartbeats 4000000 in
theorem S_X12_inWords_301 (l : Launch) : pb_Sound l yX12_inWords cX12_inWords 7 (some .int) 6 M_X12_inWords_301 := by
  refine pb_sound_of (by decide) m_8_124 ?_
  intro Γ hl0 hRm0 hm X E hr J
  have hnL : ∀ j, j < 7 → j < Γ.2.2.2.2.2.2.2.2.2.2.2.1 := fun j h => by rw [hm]; exact h
  have hR : ∀ (d' mL : Nat), d' + 1 ≤ 6 ∧ 8 + (mL + 11) + d' * 64 ≤ 6 * 64 → (pb_rm d').frames + 1 ≤ Γ.2.2.2.1.frames ∧ 8 + (mL + 11) + (pb_rm d').locals ≤ Γ.2.2.2.1.locals := by rw [hRm0]; exact fun _ _ h => h
  have hRm : 1 ≤ 6 ∧ 64 ≤ 6 * 64 → 1 ≤ Γ.2.2.2.1.frames ∧ 64 ≤ Γ.2.2.2.1.locals := by rw [hRm0]; exact fun h => h
  exact pb_tt_snd _ (List.forall_mem_cons.mpr ⟨(s_aload_n (pc := 0) X dX12_inWords_0 rfl (s_getI (pc := 1) X dX12_inWords_1 g_X12_333 (s_iconst (pc := 4) X dX12_inWords_4 rfl (s_ic_eq (pc := 5) X dX12_inWords_5 (by decide) (s_iconst (pc := 10) X dX12_inWords_10 rfl (s_istore_n (pc := 11) X dX12_inWords_11 rfl (hnL _ (by decide)) (s_iconst (pc := 12) X dX12_inWords_12 rfl (s_istore_n (pc := 13) X dX12_inWords_13 rfl (hnL _ (by decide)) (s_jmp (pc := 14) J [true, true, true, true, false, false, false]))))) (s_iconst (pc := 8) X dX12_inWords_8 rfl (s_iret (pc := 9) X E hr dX12_inWords_9)))))), List.forall_mem_cons.mpr ⟨(s_iload_n (pc := 14) X dX12_inWords_14 rfl (s_aload_n (pc := 15) X dX12_inWords_15 rfl (s_callT (pc := 16) X dX12_inWords_16 (i := 1) (S_J0_length_8abf5_301 _) q_X12_348 (by decide) rfl (hR _ _ (by decide)) (s_ic_ge (pc := 19) X dX12_inWords_19 (by decide) (s_iconst (pc := 133) X dX12_inWords_133 rfl (s_iret (pc := 134) X E hr dX12_inWords_134)) (s_iload_n (pc := 22) X dX12_inWords_22 rfl (s_istore (pc := 23) X dX12_inWords_23 (hnL _ (by decide)) (s_jmp (pc := 25) J [true, true, true, true, true, false, false]))))))), List.forall_mem_cons.mpr ⟨(s_aload_n (pc := 25) X dX12_inWords_25 rfl (s_iload (pc := 26) X dX12_inWords_26 (s_callT (pc := 28) X dX12_inWords_28 (i := 1) (S_J0_charAt_5068e_301 _) q_X12_354 (by decide) rfl (hR _ _ (by decide)) (s_bipush (pc := 31) X dX12_inWords_31 rfl (s_ic_eq (pc := 33) X dX12_inWords_33 (by decide) (s_iload (pc := 42) X dX12_inWords_42 (s_iload_n (pc := 44) X dX12_inWords_44 rfl (s_isub (pc := 45) X dX12_inWords_45 (s_aload_n (pc := 46) X dX12_inWords_46 rfl (s_getI (pc := 47) X dX12_inWords_47 g_X12_321 (s_aload_n (pc := 50) X dX12_inWords_50 rfl (s_getI (pc := 51) X dX12_inWords_51 g_X12_327 (s_isub (pc := 54) X dX12_inWords_54 (s_ic_ne (pc := 55) X dX12_inWords_55 (by decide) (s_iconst (pc := 62) X dX12_inWords_62 rfl (s_istore (pc := 63) X dX12_inWords_63 (hnL _ (by decide)) (s_iload_n (pc := 65) X dX12_inWords_65 rfl (s_istore (pc := 66) X dX12_inWords_66 (hnL _ (by decide)) (s_jmp (pc := 68) J [true, true, true, true, true, true, true]))))) (s_iconst (pc := 58) X dX12_inWords_58 rfl (s_goto (pc := 59) X dX12_inWords_59 (by decide) (s_istore (pc := 63) X dX12_inWords_63 (hnL _ (by decide)) (s_iload_n (pc := 65) X dX12_inWords_65 rfl (s_istore (pc := 66) X dX12_inWords_66 (hnL _ (by decide)) (s_jmp (pc := 68) J [true, true, true, true, true, true, true]))))))))))))))) (s_iinc (pc := 36) X dX12_inWords_36 rfl (s_goto (pc := 39) X dX12_inWords_39 (by decide) (s_jmp (pc := 25) J [true, true, true, true, true, false, false])))))))), List.forall_mem_cons.mpr ⟨(s_iload (pc := 68) X dX12_inWords_68 (s_iload (pc := 70) X dX12_inWords_70 (s_ic_ge (pc := 72) X dX12_inWords_72 (by decide) (s_iload (pc := 115) X dX12_inWords_115 (s_if_eq (pc := 117) X dX12_inWords_117 (by decide) (s_iinc (pc := 122) X dX12_inWords_122 rfl (s_iload (pc := 125) X dX12_inWords_125 (s_iconst (pc := 127) X dX12_inWords_127 rfl (s_iadd (pc := 128) X dX12_inWords_128 (s_istore_n (pc := 129) X dX12_inWords_129 rfl (hnL _ (by decide)) (s_goto (pc := 130) X dX12_inWords_130 (by decide) (s_jmp (pc := 14) J [true, true, true, true, false, false, false]))))))) (s_iload_n (pc := 120) X dX12_inWords_120 rfl (s_iret (pc := 121) X E hr dX12_inWords_121)))) (s_iload (pc := 75) X dX12_inWords_75 (s_if_eq (pc := 77) X dX12_inWords_77 (by decide) (s_iload (pc := 115) X dX12_inWords_115 (s_if_eq (pc := 117) X dX12_inWords_117 (by decide) (s_iinc (pc := 122) X dX12_inWords_122 rfl (s_iload (pc := 125) X dX12_inWords_125 (s_iconst (pc := 127) X dX12_inWords_127 rfl (s_iadd (pc := 128) X dX12_inWords_128 (s_istore_n (pc := 129) X dX12_inWords_129 rfl (hnL _ (by decide)) (s_goto (pc := 130) X dX12_inWords_130 (by decide) (s_jmp (pc := 14) J [true, true, true, true, false, false, false]))))))) (s_iload_n (pc := 120) X dX12_inWords_120 rfl (s_iret (pc := 121) X E hr dX12_inWords_121)))) (s_aload_n (pc := 80) X dX12_inWords_80 rfl (s_iload (pc := 81) X dX12_inWords_81 (s_callT (pc := 83) X dX12_inWords_83 (i := 1) (S_J0_charAt_5068e_301 _) q_X12_354 (by decide) rfl (hR _ _ (by decide)) (s_aload_n (pc := 86) X dX12_inWords_86 rfl (s_aload_n (pc := 87) X dX12_inWords_87 rfl (s_getI (pc := 88) X dX12_inWords_88 g_X12_327 (s_iload (pc := 91) X dX12_inWords_91 (s_iadd (pc := 93) X dX12_inWords_93 (s_iload_n (pc := 94) X dX12_inWords_94 rfl (s_isub (pc := 95) X dX12_inWords_95 (s_callV (pc := 96) X dX12_inWords_96 (S_X12_at _) q_X12_324 h_64 rfl (hR _ _ (by decide)) (s_ic_ne (pc := 99) X dX12_inWords_99 (by decide) (s_iconst (pc := 106) X dX12_inWords_106 rfl (s_istore (pc := 107) X dX12_inWords_107 (hnL _ (by decide)) (s_iinc (pc := 109) X dX12_inWords_109 rfl (s_goto (pc := 112) X dX12_inWords_112 (by decide) (s_jmp (pc := 68) J [true, true, true, true, true, true, true]))))) (s_iconst (pc := 102) X dX12_inWords_102 rfl (s_goto (pc := 103) X dX12_inWords_103 (by decide) (s_istore (pc := 107) X dX12_inWords_107 (hnL _ (by decide)) (s_iinc (pc := 109) X dX12_inWords_109 rfl (s_goto (pc := 112) X dX12_inWords_112 (by decide) (s_jmp (pc := 68) J [true, true, true, true, true, true, true]))))))))))))))))))))))), fun _ h => absurd h List.not_mem_nil⟩⟩⟩⟩)
theorem dX12_isKey_0 : decode cX12_isKey 0 = .ok (.aload_n 0, 1) := by decide +kernel
theorem dX12_isKey_1 : decode cX12_isKey 1 = .ok (.ldc_w 358, 3) := by decide +kernel
theorem dX12_isKey_4 : decode cX12_isKey 4 = .ok (.invokevirtual 360, 3) := by decide +kernel
theorem dX12_isKey_7 : decode cX12_isKey 7 = .ok (.iload_n 1, 1) := by decide +kernel
theorem dX12_isKey_8 : decode cX12_isKey 8 = .ok (.if_icmp .ne 7, 3) := by decide +kernel
theorem dX12_isKey_11 : decode cX12_isKey 11 = .ok (.iconst 1, 1) := by decide +kernel
theorem dX12_isKey_12 : decode cX12_isKey 12 = .ok (.goto 4, 3) := by decide +kernel
theorem dX12_isKey_15 : decode cX12_isKey 15 = .ok (.iconst 0, 1) := by decide +kernel
theorem dX12_isKey_16 : decode cX12_isKey 16 = .ok (.ireturn, 1) := by decide +kernel
noncomputable def B_X12_isKey_0 : pb_C := (i_aload 0 (i_const (.ref (300 + 1)) (i_callV 64 1 1 M_X12_inWords_301 (i_iload 1 (i_ic_ne (i_const (.int 0) i_zret) (i_const (.int 1) i_zret))))))
noncomputable def T_X12_isKey : Nat → pb_C := pb_tt [(0, B_X12_isKey_0)]
noncomputable def M_X12_isKey : pb_F := pb_M T_X12_isKey 2
set_option maxRecDepth 100000 in
set_option maxHeartbeats 4000000 in
theorem S_X12_isKey (l : Launch) : pb_Sound l yX12_isKey cX12_isKey 2 (some .boolean) 7 M_X12_isKey := by
  refine pb_sound_of (by decide) m_8_119 ?_
  intro Γ hl0 hRm0 hm X E hr J
  have hnL : ∀ j, j < 2 → j < Γ.2.2.2.2.2.2.2.2.2.2.2.1 := fun j h => by rw [hm]; exact h
  have hR : ∀ (d' mL : Nat), d' + 1 ≤ 7 ∧ 8 + (mL + 11) + d' * 64 ≤ 7 * 64 → (pb_rm d').frames + 1 ≤ Γ.2.2.2.1.frames ∧ 8 + (mL + 11) + (pb_rm d').locals ≤ Γ.2.2.2.1.locals := by rw [hRm0]; exact fun _ _ h => h
  have hRm : 1 ≤ 7 ∧ 64 ≤ 7 * 64 → 1 ≤ Γ.2.2.2.1.frames ∧ 64 ≤ Γ.2.2.2.1.locals := by rw [hRm0]; exact fun h => h
  exact pb_tt_snd _ (List.forall_mem_cons.mpr ⟨(s_aload_n (pc := 0) X dX12_isKey_0 rfl (s_ldcSw (pc := 1) X dX12_isKey_1 (tx := " if then kind units or and not word came ") (i := 1) (List.mem_of_getElem? (i := 1) rfl) (s_callV (pc := 4) X dX12_isKey_4 (S_X12_inWords_301 _) q_X12_360 h_64 rfl (hR _ _ (by decide)) (s_iload_n (pc := 7) X dX12_isKey_7 rfl (s_ic_ne (pc := 8) X dX12_isKey_8 (by decide) (s_iconst (pc := 15) X dX12_isKey_15 rfl (s_zret (pc := 16) X E hr dX12_isKey_16)) (s_iconst (pc := 11) X dX12_isKey_11 rfl (s_goto (pc := 12) X dX12_isKey_12 (by decide) (s_zret (pc := 16) X E hr dX12_isKey_16)))))))), fun _ h => absurd h List.not_mem_nil⟩)
theorem dX12_fails_0 : decode cX12_fails 0 = .ok (.aload_n 0, 1) := by decide +kernel
theorem dX12_fails_1 : decode cX12_fails 1 = .ok (.getfield 364, 3) := by decide +kernel
theorem dX12_fails_4 : decode cX12_fails 4 = .ok (.ifCond .ne 28, 3) := by decide +kernel
theorem dX12_fails_7 : decode cX12_fails 7 = .ok (.aload_n 0, 1) := by decide +kernel
theorem dX12_fails_8 : decode cX12_fails 8 = .ok (.aload_n 0, 1) := by decide +kernel
theorem dX12_fails_9 : decode cX12_fails 9 = .ok (.getfield 333, 3) := by decide +kernel
theorem dX12_fails_12 : decode cX12_fails 12 = .ok (.iconst 1, 1) := by decide +kernel
theorem dX12_fails_13 : decode cX12_fails 13 = .ok (.if_icmp .ne 7, 3) := by decide +kernel
theorem dX12_fails_16 : decode cX12_fails 16 = .ok (.iconst 1, 1) := by decide +kernel
theorem dX12_fails_17 : decode cX12_fails 17 = .ok (.goto 4, 3) := by decide +kernel
theorem dX12_fails_20 : decode cX12_fails 20 = .ok (.iload_n 1, 1) := by decide +kernel
theorem dX12_fails_21 : decode cX12_fails 21 = .ok (.putfield 364, 3) := by decide +kernel
theorem dX12_fails_24 : decode cX12_fails 24 = .ok (.aload_n 0, 1) := by decide +kernel
theorem dX12_fails_25 : decode cX12_fails 25 = .ok (.aload_n 0, 1) := by decide +kernel
theorem dX12_fails_26 : decode cX12_fails 26 = .ok (.getfield 327, 3) := by decide +kernel
theorem dX12_fails_29 : decode cX12_fails 29 = .ok (.putfield 81, 3) := by decide +kernel
theorem dX12_fails_32 : decode cX12_fails 32 = .ok (.iconst 0, 1) := by decide +kernel
theorem dX12_fails_33 : decode cX12_fails 33 = .ok (.ireturn, 1) := by decide +kernel
noncomputable def B_X12_fails_0 : pb_C := (i_aload 0 (i_getI 64 36 (i_if_ne (i_const (.int 0) i_zret) (i_aload 0 (i_aload 0 (i_getI 64 30 (i_const (.int 1) (i_ic_ne (i_iload 1 (i_putI 64 36 (i_aload 0 (i_aload 0 (i_getI 64 31 (i_putI 64 35 (i_const (.int 0) i_zret))))))) (i_const (.int 1) (i_putI 64 36 (i_aload 0 (i_aload 0 (i_getI 64 31 (i_putI 64 35 (i_const (.int 0) i_zret)))))))))))))))
noncomputable def T_X12_fails : Nat → pb_C := pb_tt [(0, B_X12_fails_0)]
noncomputable def M_X12_fails : pb_F := pb_M T_X12_fails 2
set_option maxRecDepth 100000 in
set_option maxHeartbeats 4000000 in
theorem S_X12_fails (l : Launch) : pb_Sound l yX12_fails cX12_fails 2 (some .boolean) 1 M_X12_fails := by
  refine pb_sound_of (by decide) m_8_149 ?_
  intro Γ hl0 hRm0 hm X E hr J
  have hnL : ∀ j, j < 2 → j < Γ.2.2.2.2.2.2.2.2.2.2.2.1 := fun j h => by rw [hm]; exact h
  have hR : ∀ (d' mL : Nat), d' + 1 ≤ 1 ∧ 8 + (mL + 11) + d' * 64 ≤ 1 * 64 → (pb_rm d').frames + 1 ≤ Γ.2.2.2.1.frames ∧ 8 + (mL + 11) + (pb_rm d').locals ≤ Γ.2.2.2.1.locals := by rw [hRm0]; exact fun _ _ h => h
  have hRm : 1 ≤ 1 ∧ 64 ≤ 1 * 64 → 1 ≤ Γ.2.2.2.1.frames ∧ 64 ≤ Γ.2.2.2.1.locals := by rw [hRm0]; exact fun h => h
  exact pb_tt_snd _ (List.forall_mem_cons.mpr ⟨(s_aload_n (pc := 0) X dX12_fails_0 rfl (s_getI (pc := 1) X dX12_fails_1 g_X12_364 (s_if_ne (pc := 4) X dX12_fails_4 (by decide) (s_iconst (pc := 32) X dX12_fails_32 rfl (s_zret (pc := 33) X E hr dX12_fails_33)) (s_aload_n (pc := 7) X dX12_fails_7 rfl (s_aload_n (pc := 8) X dX12_fails_8 rfl (s_getI (pc := 9) X dX12_fails_9 g_X12_333 (s_iconst (pc := 12) X dX12_fails_12 rfl (s_ic_ne (pc := 13) X dX12_fails_13 (by decide) (s_iload_n (pc := 20) X dX12_fails_20 rfl (s_putI (pc := 21) X dX12_fails_21 p_X12_364 (s_aload_n (pc := 24) X dX12_fails_24 rfl (s_aload_n (pc := 25) X dX12_fails_25 rfl (s_getI (pc := 26) X dX12_fails_26 g_X12_327 (s_putI (pc := 29) X dX12_fails_29 p_X12_81 (s_iconst (pc := 32) X dX12_fails_32 rfl (s_zret (pc := 33) X E hr dX12_fails_33)))))))) (s_iconst (pc := 16) X dX12_fails_16 rfl (s_goto (pc := 17) X dX12_fails_17 (by decide) (s_putI (pc := 21) X dX12_fails_21 p_X12_364 (s_aload_n (pc := 24) X dX12_fails_24 rfl (s_aload_n (pc := 25) X dX12_fails_25 rfl (s_getI (pc := 26) X dX12_fails_26 g_X12_327 (s_putI (pc := 29) X dX12_fails_29 p_X12_81 (s_iconst (pc := 32) X dX12_fails_32 rfl (s_zret (pc := 33) X E hr dX12_fails_33))))))))))))))))), fun _ h => absurd h List.not_mem_nil⟩)
theorem dX12_name_0 : decode cX12_name 0 = .ok (.aload_n 0, 1) := by decide +kernel
theorem dX12_name_1 : decode cX12_name 1 = .ok (.invokevirtual 373, 3) := by decide +kernel
theorem dX12_name_4 : decode cX12_name 4 = .ok (.aload_n 0, 1) := by decide +kernel
theorem dX12_name_5 : decode cX12_name 5 = .ok (.getfield 333, 3) := by decide +kernel
theorem dX12_name_8 : decode cX12_name 8 = .ok (.iconst 2, 1) := by decide +kernel
theorem dX12_name_9 : decode cX12_name 9 = .ok (.if_icmp .eq 9, 3) := by decide +kernel
theorem dX12_name_12 : decode cX12_name 12 = .ok (.aload_n 0, 1) := by decide +kernel
theorem dX12_name_13 : decode cX12_name 13 = .ok (.iconst 2, 1) := by decide +kernel
theorem dX12_name_14 : decode cX12_name 14 = .ok (.invokevirtual 370, 3) := by decide +kernel
theorem dX12_name_17 : decode cX12_name 17 = .ok (.ireturn, 1) := by decide +kernel
theorem dX12_name_18 : decode cX12_name 18 = .ok (.aload_n 0, 1) := by decide +kernel
theorem dX12_name_19 : decode cX12_name 19 = .ok (.getfield 321, 3) := by decide +kernel
theorem dX12_name_22 : decode cX12_name 22 = .ok (.aload_n 0, 1) := by decide +kernel
theorem dX12_name_23 : decode cX12_name 23 = .ok (.getfield 327, 3) := by decide +kernel
theorem dX12_name_26 : decode cX12_name 26 = .ok (.isub, 1) := by decide +kernel
theorem dX12_name_27 : decode cX12_name 27 = .ok (.bipush 8, 2) := by decide +kernel
theorem dX12_name_29 : decode cX12_name 29 = .ok (.if_icmp .le 9, 3) := by decide +kernel
theorem dX12_name_32 : decode cX12_name 32 = .ok (.aload_n 0, 1) := by decide +kernel
theorem dX12_name_33 : decode cX12_name 33 = .ok (.iconst 3, 1) := by decide +kernel
theorem dX12_name_34 : decode cX12_name 34 = .ok (.invokevirtual 370, 3) := by decide +kernel
theorem dX12_name_37 : decode cX12_name 37 = .ok (.ireturn, 1) := by decide +kernel
theorem dX12_name_38 : decode cX12_name 38 = .ok (.lconst 0, 1) := by decide +kernel
theorem dX12_name_39 : decode cX12_name 39 = .ok (.lstore_n 2, 1) := by decide +kernel
theorem dX12_name_40 : decode cX12_name 40 = .ok (.aload_n 0, 1) := by decide +kernel
theorem dX12_name_41 : decode cX12_name 41 = .ok (.getfield 327, 3) := by decide +kernel
theorem dX12_name_44 : decode cX12_name 44 = .ok (.istore 4, 2) := by decide +kernel
theorem dX12_name_46 : decode cX12_name 46 = .ok (.iload 4, 2) := by decide +kernel
theorem dX12_name_48 : decode cX12_name 48 = .ok (.aload_n 0, 1) := by decide +kernel
theorem dX12_name_49 : decode cX12_name 49 = .ok (.getfield 321, 3) := by decide +kernel
theorem dX12_name_52 : decode cX12_name 52 = .ok (.if_icmp .ge 26, 3) := by decide +kernel
theorem dX12_name_55 : decode cX12_name 55 = .ok (.lload_n 2, 1) := by decide +kernel
theorem dX12_name_56 : decode cX12_name 56 = .ok (.iconst 5, 1) := by decide +kernel
theorem dX12_name_57 : decode cX12_name 57 = .ok (.lshl, 1) := by decide +kernel
theorem dX12_name_58 : decode cX12_name 58 = .ok (.aload_n 0, 1) := by decide +kernel
theorem dX12_name_59 : decode cX12_name 59 = .ok (.iload 4, 2) := by decide +kernel
theorem dX12_name_61 : decode cX12_name 61 = .ok (.invokevirtual 324, 3) := by decide +kernel
theorem dX12_name_64 : decode cX12_name 64 = .ok (.bipush 97, 2) := by decide +kernel
theorem dX12_name_66 : decode cX12_name 66 = .ok (.isub, 1) := by decide +kernel
theorem dX12_name_67 : decode cX12_name 67 = .ok (.i2l, 1) := by decide +kernel
theorem dX12_name_68 : decode cX12_name 68 = .ok (.lconst 1, 1) := by decide +kernel
theorem dX12_name_69 : decode cX12_name 69 = .ok (.ladd, 1) := by decide +kernel
theorem dX12_name_70 : decode cX12_name 70 = .ok (.lor, 1) := by decide +kernel
theorem dX12_name_71 : decode cX12_name 71 = .ok (.lstore_n 2, 1) := by decide +kernel
theorem dX12_name_72 : decode cX12_name 72 = .ok (.iinc 4 1, 3) := by decide +kernel
theorem dX12_name_75 : decode cX12_name 75 = .ok (.goto (-29), 3) := by decide +kernel
theorem dX12_name_78 : decode cX12_name 78 = .ok (.aload_n 0, 1) := by decide +kernel
theorem dX12_name_79 : decode cX12_name 79 = .ok (.getfield 117, 3) := by decide +kernel
theorem dX12_name_82 : decode cX12_name 82 = .ok (.iload_n 1, 1) := by decide +kernel
theorem dX12_name_83 : decode cX12_name 83 = .ok (.lload_n 2, 1) := by decide +kernel
theorem dX12_name_84 : decode cX12_name 84 = .ok (.lastore, 1) := by decide +kernel
theorem dX12_name_85 : decode cX12_name 85 = .ok (.aload_n 0, 1) := by decide +kernel
theorem dX12_name_86 : decode cX12_name 86 = .ok (.invokevirtual 373, 3) := by decide +kernel
theorem dX12_name_89 : decode cX12_name 89 = .ok (.iconst 1, 1) := by decide +kernel
theorem dX12_name_90 : decode cX12_name 90 = .ok (.ireturn, 1) := by decide +kernel
noncomputable def B_X12_name_0 : pb_C := (i_aload 0 (i_callV 64 0 0 M_X12_next (i_aload 0 (i_getI 64 30 (i_const (.int 2) (i_ic_eq (i_aload 0 (i_getI 64 32 (i_aload 0 (i_getI 64 31 (i_ibin (· - ·) (i_const (.int 8) (i_ic_le (i_const (.long 0) (i_lstore 2 (i_aload 0 (i_getI 64 31 (i_istore 4 (i_jmp 46 [true, true, true, false, true])))))) (i_aload 0 (i_const (.int 3) (i_callV 64 1 1 M_X12_fails i_zret)))))))))) (i_aload 0 (i_const (.int 2) (i_callV 64 1 1 M_X12_fails i_zret)))))))))
noncomputable def B_X12_name_46 : pb_C := (i_iload 4 (i_aload 0 (i_getI 64 32 (i_ic_ge (i_aload 0 (i_getR 64 95 (i_iload 1 (i_lload 2 (i_last 95 1500 (i_aload 0 (i_callV 64 0 0 M_X12_next (i_const (.int 1) i_zret)))))))) (i_lload 2 (i_const (.int 5) (i_lsh (fun x y => x <<< (y.toInt64 &&& 63)) (i_aload 0 (i_iload 4 (i_callV 64 1 1 M_X12_at (i_const (.int 97) (i_ibin (· - ·) (i_i2l (i_const (.long 1) (i_lbin (· + ·) (i_lbin (· ||| ·) (i_lstore 2 (i_iinc 4 1 (i_jmp 46 [true, true, true, false, true])))))))))))))))))))
noncomputable def T_X12_name : Nat → pb_C := pb_tt [(0, B_X12_name_0), (46, B_X12_name_46)]
noncomputable def M_X12_name : pb_F := pb_M T_X12_name 5
set_option maxRecDepth 100000 in
set_option maxHeartbeats 4000000 in
theorem S_X12_name (l : Launch) : pb_Sound l yX12_name cX12_name 5 (some .boolean) 3 M_X12_name := by
  refine pb_sound_of (by decide) m_8_161 ?_
  intro Γ hl0 hRm0 hm X E hr J
  have hnL : ∀ j, j < 5 → j < Γ.2.2.2.2.2.2.2.2.2.2.2.1 := fun j h => by rw [hm]; exact h
  have hR : ∀ (d' mL : Nat), d' + 1 ≤ 3 ∧ 8 + (mL + 11) + d' * 64 ≤ 3 * 64 → (pb_rm d').frames + 1 ≤ Γ.2.2.2.1.frames ∧ 8 + (mL + 11) + (pb_rm d').locals ≤ Γ.2.2.2.1.locals := by rw [hRm0]; exact fun _ _ h => h
  have hRm : 1 ≤ 3 ∧ 64 ≤ 3 * 64 → 1 ≤ Γ.2.2.2.1.frames ∧ 64 ≤ Γ.2.2.2.1.locals := by rw [hRm0]; exact fun h => h
  exact pb_tt_snd _ (List.forall_mem_cons.mpr ⟨(s_aload_n (pc := 0) X dX12_name_0 rfl (s_callV (pc := 1) X dX12_name_1 (S_X12_next _) q_X12_373 h_64 rfl (hR _ _ (by decide)) (s_aload_n (pc := 4) X dX12_name_4 rfl (s_getI (pc := 5) X dX12_name_5 g_X12_333 (s_iconst (pc := 8) X dX12_name_8 rfl (s_ic_eq (pc := 9) X dX12_name_9 (by decide) (s_aload_n (pc := 18) X dX12_name_18 rfl (s_getI (pc := 19) X dX12_name_19 g_X12_321 (s_aload_n (pc := 22) X dX12_name_22 rfl (s_getI (pc := 23) X dX12_name_23 g_X12_327 (s_isub (pc := 26) X dX12_name_26 (s_bipush (pc := 27) X dX12_name_27 rfl (s_ic_le (pc := 29) X dX12_name_29 (by decide) (s_lconst (pc := 38) X dX12_name_38 rfl (s_lstore_n (pc := 39) X dX12_name_39 rfl (hnL _ (by decide)) (s_aload_n (pc := 40) X dX12_name_40 rfl (s_getI (pc := 41) X dX12_name_41 g_X12_327 (s_istore (pc := 44) X dX12_name_44 (hnL _ (by decide)) (s_jmp (pc := 46) J [true, true, true, false, true])))))) (s_aload_n (pc := 32) X dX12_name_32 rfl (s_iconst (pc := 33) X dX12_name_33 rfl (s_callV (pc := 34) X dX12_name_34 (S_X12_fails _) q_X12_370 h_64 rfl (hR _ _ (by decide)) (s_zret (pc := 37) X E hr dX12_name_37))))))))))) (s_aload_n (pc := 12) X dX12_name_12 rfl (s_iconst (pc := 13) X dX12_name_13 rfl (s_callV (pc := 14) X dX12_name_14 (S_X12_fails _) q_X12_370 h_64 rfl (hR _ _ (by decide)) (s_zret (pc := 17) X E hr dX12_name_17)))))))))), List.forall_mem_cons.mpr ⟨(s_iload (pc := 46) X dX12_name_46 (s_aload_n (pc := 48) X dX12_name_48 rfl (s_getI (pc := 49) X dX12_name_49 g_X12_321 (s_ic_ge (pc := 52) X dX12_name_52 (by decide) (s_aload_n (pc := 78) X dX12_name_78 rfl (s_getR (pc := 79) X dX12_name_79 g_X12_117 (s_iload_n (pc := 82) X dX12_name_82 rfl (s_lload_n (pc := 83) X dX12_name_83 rfl (s_last (pc := 84) X dX12_name_84 h_95 (s_aload_n (pc := 85) X dX12_name_85 rfl (s_callV (pc := 86) X dX12_name_86 (S_X12_next _) q_X12_373 h_64 rfl (hR _ _ (by decide)) (s_iconst (pc := 89) X dX12_name_89 rfl (s_zret (pc := 90) X E hr dX12_name_90))))))))) (s_lload_n (pc := 55) X dX12_name_55 rfl (s_iconst (pc := 56) X dX12_name_56 rfl (s_lshl (pc := 57) X dX12_name_57 (s_aload_n (pc := 58) X dX12_name_58 rfl (s_iload (pc := 59) X dX12_name_59 (s_callV (pc := 61) X dX12_name_61 (S_X12_at _) q_X12_324 h_64 rfl (hR _ _ (by decide)) (s_bipush (pc := 64) X dX12_name_64 rfl (s_isub (pc := 66) X dX12_name_66 (s_i2l (pc := 67) X dX12_name_67 (s_lconst (pc := 68) X dX12_name_68 rfl (s_ladd (pc := 69) X dX12_name_69 (s_lor (pc := 70) X dX12_name_70 (s_lstore_n (pc := 71) X dX12_name_71 rfl (hnL _ (by decide)) (s_iinc (pc := 72) X dX12_name_72 rfl (s_goto (pc := 75) X dX12_name_75 (by decide) (s_jmp (pc := 46) J [true, true, true, false, true])))))))))))))))))))), fun _ h => absurd h List.not_mem_nil⟩⟩)
theorem dX12_wantKey_0 : decode cX12_wantKey 0 = .ok (.aload_n 0, 1) := by decide +kernel
theorem dX12_wantKey_1 : decode cX12_wantKey 1 = .ok (.iload_n 1, 1) := by decide +kernel
theorem dX12_wantKey_2 : decode cX12_wantKey 2 = .ok (.invokevirtual 367, 3) := by decide +kernel
theorem dX12_wantKey_5 : decode cX12_wantKey 5 = .ok (.ifCond .ne 9, 3) := by decide +kernel
theorem dX12_wantKey_8 : decode cX12_wantKey 8 = .ok (.aload_n 0, 1) := by decide +kernel
theorem dX12_wantKey_9 : decode cX12_wantKey 9 = .ok (.iconst 2, 1) := by decide +kernel
theorem dX12_wantKey_10 : decode cX12_wantKey 10 = .ok (.invokevirtual 370, 3) := by decide +kernel
theorem dX12_wantKey_13 : decode cX12_wantKey 13 = .ok (.ireturn, 1) := by decide +kernel
theorem dX12_wantKey_14 : decode cX12_wantKey 14 = .ok (.aload_n 0, 1) := by decide +kernel
theorem dX12_wantKey_15 : decode cX12_wantKey 15 = .ok (.invokevirtual 373, 3) := by decide +kernel
theorem dX12_wantKey_18 : decode cX12_wantKey 18 = .ok (.iconst 1, 1) := by decide +kernel
theorem dX12_wantKey_19 : decode cX12_wantKey 19 = .ok (.ireturn, 1) := by decide +kernel
noncomputable def B_X12_wantKey_0 : pb_C := (i_aload 0 (i_iload 1 (i_callV 64 1 1 M_X12_isKey (i_if_ne (i_aload 0 (i_callV 64 0 0 M_X12_next (i_const (.int 1) i_zret))) (i_aload 0 (i_const (.int 2) (i_callV 64 1 1 M_X12_fails i_zret)))))))
noncomputable def T_X12_wantKey : Nat → pb_C := pb_tt [(0, B_X12_wantKey_0)]
noncomputable def M_X12_wantKey : pb_F := pb_M T_X12_wantKey 2
set_option maxRecDepth 100000 in
set_option maxHeartbeats 4000000 in
theorem S_X12_wantKey (l : Launch) : pb_Sound l yX12_wantKey cX12_wantKey 2 (some .boolean) 8 M_X12_wantKey := by
  refine pb_sound_of (by decide) m_8_165 ?_
  intro Γ hl0 hRm0 hm X E hr J
  have hnL : ∀ j, j < 2 → j < Γ.2.2.2.2.2.2.2.2.2.2.2.1 := fun j h => by rw [hm]; exact h
  have hR : ∀ (d' mL : Nat), d' + 1 ≤ 8 ∧ 8 + (mL + 11) + d' * 64 ≤ 8 * 64 → (pb_rm d').frames + 1 ≤ Γ.2.2.2.1.frames ∧ 8 + (mL + 11) + (pb_rm d').locals ≤ Γ.2.2.2.1.locals := by rw [hRm0]; exact fun _ _ h => h
  have hRm : 1 ≤ 8 ∧ 64 ≤ 8 * 64 → 1 ≤ Γ.2.2.2.1.frames ∧ 64 ≤ Γ.2.2.2.1.locals := by rw [hRm0]; exact fun h => h
  exact pb_tt_snd _ (List.forall_mem_cons.mpr ⟨(s_aload_n (pc := 0) X dX12_wantKey_0 rfl (s_iload_n (pc := 1) X dX12_wantKey_1 rfl (s_callV (pc := 2) X dX12_wantKey_2 (S_X12_isKey _) q_X12_367 h_64 rfl (hR _ _ (by decide)) (s_if_ne (pc := 5) X dX12_wantKey_5 (by decide) (s_aload_n (pc := 14) X dX12_wantKey_14 rfl (s_callV (pc := 15) X dX12_wantKey_15 (S_X12_next _) q_X12_373 h_64 rfl (hR _ _ (by decide)) (s_iconst (pc := 18) X dX12_wantKey_18 rfl (s_zret (pc := 19) X E hr dX12_wantKey_19)))) (s_aload_n (pc := 8) X dX12_wantKey_8 rfl (s_iconst (pc := 9) X dX12_wantKey_9 rfl (s_callV (pc := 10) X dX12_wantKey_10 (S_X12_fails _) q_X12_370 h_64 rfl (hR _ _ (by decide)) (s_zret (pc := 13) X E hr dX12_wantKey_13)))))))), fun _ h => absurd h List.not_mem_nil⟩)
noncomputable def B_J0_coder_7d493_302_0 : pb_C := (i_const (.int 1) (i_if_eq (i_const (.int 1) (i_nret (fun x => x.toInt8.toInt32))) (i_aload 0 (i_getC 302 (.int 0) (i_nret (fun x => x.toInt8.toInt32))))))
noncomputable def T_J0_coder_7d493_302 : Nat → pb_C := pb_tt [(0, B_J0_coder_7d493_302_0)]
noncomputable def M_J0_coder_7d493_302 : pb_F := pb_M T_J0_coder_7d493_302 1
set_option maxRecDepth 100000 in
set_option maxHeartbeats 4000000 in
theorem S_J0_coder_7d493_302 (l : Launch) : pb_Sound l yJ0_coder_7d493 cJ0_coder_7d493 1 (some .byte) 1 M_J0_coder_7d493_302 := by
  refine pb_sound_of (by decide) m_4_23 ?_
  intro Γ hl0 hRm0 hm X E hr J
  have hnL : ∀ j, j < 1 → j < Γ.2.2.2.2.2.2.2.2.2.2.2.1 := fun j h => by rw [hm]; exact h
  have hR : ∀ (d' mL : Nat), d' + 1 ≤ 1 ∧ 8 + (mL + 11) + d' * 64 ≤ 1 * 64 → (pb_rm d').frames + 1 ≤ Γ.2.2.2.1.frames ∧ 8 + (mL + 11) + (pb_rm d').locals ≤ Γ.2.2.2.1.locals := by rw [hRm0]; exact fun _ _ h => h
  have hRm : 1 ≤ 1 ∧ 64 ≤ 1 * 64 → 1 ≤ Γ.2.2.2.1.frames ∧ 64 ≤ Γ.2.2.2.1.locals := by rw [hRm0]; exact fun h => h
  exact pb_tt_snd _ (List.forall_mem_cons.mpr ⟨(s_gets (pc := 0) X dJ0_coder_7d493_0 (v := (.int 1)) m_4_14 (fun ad A U H h => h.2.2.2.2.1) (s_if_eq (pc := 3) X dJ0_coder_7d493_3 (by decide) (s_iconst (pc := 13) X dJ0_coder_7d493_13 rfl (s_bret (pc := 14) X E hr dJ0_coder_7d493_14)) (s_aload_n (pc := 6) X dJ0_coder_7d493_6 rfl (s_getC (pc := 7) X dJ0_coder_7d493_7 (o := 302) (v := .int 0) m_9_166 (fun ad A U H h => (h.1.1 2 (by decide)).2.1) (s_goto (pc := 10) X dJ0_coder_7d493_10 (by decide) (s_bret (pc := 14) X E hr dJ0_coder_7d493_14)))))), fun _ h => absurd h List.not_mem_nil⟩)
noncomputable def B_J0_length_8abf5_302_0 : pb_C := (i_aload 0 (i_getC 302 (.ref 312) (i_alen 312 22 (i_aload 0 (i_callV (300 + 2) 0 1 M_J0_coder_7d493_302 (i_ibin (fun x y => x >>> (y &&& 31)) i_iret))))))
noncomputable def T_J0_length_8abf5_302 : Nat → pb_C := pb_tt [(0, B_J0_length_8abf5_302_0)]
noncomputable def M_J0_length_8abf5_302 : pb_F := pb_M T_J0_length_8abf5_302 1
set_option maxRecDepth 100000 in
set_option maxHeartbeats 4000000 in
theorem S_J0_length_8abf5_302 (l : Launch) : pb_Sound l yJ0_length_8abf5 cJ0_length_8abf5 1 (some .int) 2 M_J0_length_8abf5_302 := by
  refine pb_sound_of (by decide) m_4_19 ?_
  intro Γ hl0 hRm0 hm X E hr J
  have hnL : ∀ j, j < 1 → j < Γ.2.2.2.2.2.2.2.2.2.2.2.1 := fun j h => by rw [hm]; exact h
  have hR : ∀ (d' mL : Nat), d' + 1 ≤ 2 ∧ 8 + (mL + 11) + d' * 64 ≤ 2 * 64 → (pb_rm d').frames + 1 ≤ Γ.2.2.2.1.frames ∧ 8 + (mL + 11) + (pb_rm d').locals ≤ Γ.2.2.2.1.locals := by rw [hRm0]; exact fun _ _ h => h
  have hRm : 1 ≤ 2 ∧ 64 ≤ 2 * 64 → 1 ≤ Γ.2.2.2.1.frames ∧ 64 ≤ Γ.2.2.2.1.locals := by rw [hRm0]; exact fun h => h
  exact pb_tt_snd _ (List.forall_mem_cons.mpr ⟨(s_aload_n (pc := 0) X dJ0_length_8abf5_0 rfl (s_getC (pc := 1) X dJ0_length_8abf5_1 (o := 302) (v := .ref 312) m_9_167 (fun ad A U H h => (h.1.1 2 (by decide)).2.2.1) (s_calen (pc := 4) X dJ0_length_8abf5_4 (o := 312) (n := 22) (fun ad A U H h => (h.1.1 2 (by decide)).2.2.2) (s_aload_n (pc := 5) X dJ0_length_8abf5_5 rfl (s_callT (pc := 6) X dJ0_length_8abf5_6 (i := 2) (S_J0_coder_7d493_302 _) q_J0_335 (by decide) rfl (hR _ _ (by decide)) (s_ishr (pc := 9) X dJ0_length_8abf5_9 (s_iret (pc := 10) X E hr dJ0_length_8abf5_10))))))), fun _ h => absurd h List.not_mem_nil⟩)
noncomputable def B_J0_isLatin1_aae02_302_0 : pb_C := (i_const (.int 1) (i_if_eq (i_const (.int 0) i_zret) (i_aload 0 (i_getC 302 (.int 0) (i_if_ne (i_const (.int 0) i_zret) (i_const (.int 1) i_zret))))))
noncomputable def T_J0_isLatin1_aae02_302 : Nat → pb_C := pb_tt [(0, B_J0_isLatin1_aae02_302_0)]
noncomputable def M_J0_isLatin1_aae02_302 : pb_F := pb_M T_J0_isLatin1_aae02_302 1
set_option maxRecDepth 100000 in
set_option maxHeartbeats 4000000 in
theorem S_J0_isLatin1_aae02_302 (l : Launch) : pb_Sound l yJ0_isLatin1_aae02 cJ0_isLatin1_aae02 1 (some .boolean) 1 M_J0_isLatin1_aae02_302 := by
  refine pb_sound_of (by decide) m_4_13 ?_
  intro Γ hl0 hRm0 hm X E hr J
  have hnL : ∀ j, j < 1 → j < Γ.2.2.2.2.2.2.2.2.2.2.2.1 := fun j h => by rw [hm]; exact h
  have hR : ∀ (d' mL : Nat), d' + 1 ≤ 1 ∧ 8 + (mL + 11) + d' * 64 ≤ 1 * 64 → (pb_rm d').frames + 1 ≤ Γ.2.2.2.1.frames ∧ 8 + (mL + 11) + (pb_rm d').locals ≤ Γ.2.2.2.1.locals := by rw [hRm0]; exact fun _ _ h => h
  have hRm : 1 ≤ 1 ∧ 64 ≤ 1 * 64 → 1 ≤ Γ.2.2.2.1.frames ∧ 64 ≤ Γ.2.2.2.1.locals := by rw [hRm0]; exact fun h => h
  exact pb_tt_snd _ (List.forall_mem_cons.mpr ⟨(s_gets (pc := 0) X dJ0_isLatin1_aae02_0 (v := (.int 1)) m_4_14 (fun ad A U H h => h.2.2.2.2.1) (s_if_eq (pc := 3) X dJ0_isLatin1_aae02_3 (by decide) (s_iconst (pc := 17) X dJ0_isLatin1_aae02_17 rfl (s_zret (pc := 18) X E hr dJ0_isLatin1_aae02_18)) (s_aload_n (pc := 6) X dJ0_isLatin1_aae02_6 rfl (s_getC (pc := 7) X dJ0_isLatin1_aae02_7 (o := 302) (v := .int 0) m_9_166 (fun ad A U H h => (h.1.1 2 (by decide)).2.1) (s_if_ne (pc := 10) X dJ0_isLatin1_aae02_10 (by decide) (s_iconst (pc := 17) X dJ0_isLatin1_aae02_17 rfl (s_zret (pc := 18) X E hr dJ0_isLatin1_aae02_18)) (s_iconst (pc := 13) X dJ0_isLatin1_aae02_13 rfl (s_goto (pc := 14) X dJ0_isLatin1_aae02_14 (by decide) (s_zret (pc := 18) X E hr dJ0_isLatin1_aae02_18)))))))), fun _ h => absurd h List.not_mem_nil⟩)
noncomputable def B_J1_charAt_3b067_312_0 : pb_C := (i_iload 1 (i_aload 0 (i_alen 312 22 (i_callS 2 0 M_J0_checkIndex_df160 (i_aload 0 (i_iload 1 (i_cald 312 22 (fun j => (pb_strs.getD 2 []).getD j 0) (i_const (.int 255) (i_ibin (· &&& ·) (i_iun (fun x => (x.toUInt32 % 65536).toInt32) (i_nret (fun x => (x.toUInt32 % 65536).toInt32))))))))))))
noncomputable def T_J1_charAt_3b067_312 : Nat → pb_C := pb_tt [(0, B_J1_charAt_3b067_312_0)]
noncomputable def M_J1_charAt_3b067_312 : pb_F := pb_M T_J1_charAt_3b067_312 2
set_option maxRecDepth 100000 in
set_option maxHeartbeats 4000000 in
theorem S_J1_charAt_3b067_312 (l : Launch) : pb_Sound l yJ1_charAt_3b067 cJ1_charAt_3b067 2 (some .char) 4 M_J1_charAt_3b067_312 := by
  refine pb_sound_of (by decide) m_8_132 ?_
  intro Γ hl0 hRm0 hm X E hr J
  have hnL : ∀ j, j < 2 → j < Γ.2.2.2.2.2.2.2.2.2.2.2.1 := fun j h => by rw [hm]; exact h
  have hR : ∀ (d' mL : Nat), d' + 1 ≤ 4 ∧ 8 + (mL + 11) + d' * 64 ≤ 4 * 64 → (pb_rm d').frames + 1 ≤ Γ.2.2.2.1.frames ∧ 8 + (mL + 11) + (pb_rm d').locals ≤ Γ.2.2.2.1.locals := by rw [hRm0]; exact fun _ _ h => h
  have hRm : 1 ≤ 4 ∧ 64 ≤ 4 * 64 → 1 ≤ Γ.2.2.2.1.frames ∧ 64 ≤ Γ.2.2.2.1.locals := by rw [hRm0]; exact fun h => h
  exact pb_tt_snd _ (List.forall_mem_cons.mpr ⟨(s_iload_n (pc := 0) X dJ1_charAt_3b067_0 rfl (s_aload_n (pc := 1) X dJ1_charAt_3b067_1 rfl (s_calen (pc := 2) X dJ1_charAt_3b067_2 (o := 312) (n := 22) (fun ad A U H h => (h.1.1 2 (by decide)).2.2.2) (s_callS (pc := 3) X dJ1_charAt_3b067_3 (S_J0_checkIndex_df160 _) q_J1_9 (hR _ _ (by decide)) (s_aload_n (pc := 6) X dJ1_charAt_3b067_6 rfl (s_iload_n (pc := 7) X dJ1_charAt_3b067_7 rfl (s_cald (pc := 8) X dJ1_charAt_3b067_8 (o := 312) (n := 22) (f := fun j => (pb_strs.getD 2 []).getD j 0) (fun ad A U H h => (h.1.1 2 (by decide)).2.2.2) (s_sipush (pc := 9) X dJ1_charAt_3b067_9 rfl (s_iand (pc := 12) X dJ1_charAt_3b067_12 (s_i2c (pc := 13) X dJ1_charAt_3b067_13 (s_cret (pc := 14) X E hr dJ1_charAt_3b067_14))))))))))), fun _ h => absurd h List.not_mem_nil⟩)
noncomputable def B_J0_charAt_5068e_302_0 : pb_C := (i_aload 0 (i_callV (300 + 2) 0 1 M_J0_isLatin1_aae02_302 (i_if_eq (i_aload 0 (i_getC 302 (.ref 312) (i_iload 1 i_fail))) (i_aload 0 (i_getC 302 (.ref 312) (i_iload 1 (i_callS 2 1 M_J1_charAt_3b067_312 (i_nret (fun x => (x.toUInt32 % 65536).toInt32)))))))))
noncomputable def T_J0_charAt_5068e_302 : Nat → pb_C := pb_tt [(0, B_J0_charAt_5068e_302_0)]
noncomputable def M_J0_charAt_5068e_302 : pb_F := pb_M T_J0_charAt_5068e_302 2
set_option maxRecDepth 100000 in
set_option maxHeartbeats 4000000 in
theorem S_J0_charAt_5068e_302 (l : Launch) : pb_Sound l yJ0_charAt_5068e cJ0_charAt_5068e 2 (some .char) 5 M_J0_charAt_5068e_302 := by
  refine pb_sound_of (by decide) m_8_129 ?_
  intro Γ hl0 hRm0 hm X E hr J
  have hnL : ∀ j, j < 2 → j < Γ.2.2.2.2.2.2.2.2.2.2.2.1 := fun j h => by rw [hm]; exact h
  have hR : ∀ (d' mL : Nat), d' + 1 ≤ 5 ∧ 8 + (mL + 11) + d' * 64 ≤ 5 * 64 → (pb_rm d').frames + 1 ≤ Γ.2.2.2.1.frames ∧ 8 + (mL + 11) + (pb_rm d').locals ≤ Γ.2.2.2.1.locals := by rw [hRm0]; exact fun _ _ h => h
  have hRm : 1 ≤ 5 ∧ 64 ≤ 5 * 64 → 1 ≤ Γ.2.2.2.1.frames ∧ 64 ≤ Γ.2.2.2.1.locals := by rw [hRm0]; exact fun h => h
  exact pb_tt_snd _ (List.forall_mem_cons.mpr ⟨(s_aload_n (pc := 0) X dJ0_charAt_5068e_0 rfl (s_callT (pc := 1) X dJ0_charAt_5068e_1 (i := 2) (S_J0_isLatin1_aae02_302 _) q_J0_492 (by decide) rfl (hR _ _ (by decide)) (s_if_eq (pc := 4) X dJ0_charAt_5068e_4 (by decide) (s_aload_n (pc := 16) X dJ0_charAt_5068e_16 rfl (s_getC (pc := 17) X dJ0_charAt_5068e_17 (o := 302) (v := .ref 312) m_9_167 (fun ad A U H h => (h.1.1 2 (by decide)).2.2.1) (s_iload_n (pc := 20) X dJ0_charAt_5068e_20 rfl s_fail))) (s_aload_n (pc := 7) X dJ0_charAt_5068e_7 rfl (s_getC (pc := 8) X dJ0_charAt_5068e_8 (o := 302) (v := .ref 312) m_9_167 (fun ad A U H h => (h.1.1 2 (by decide)).2.2.1) (s_iload_n (pc := 11) X dJ0_charAt_5068e_11 rfl (s_callS (pc := 12) X dJ0_charAt_5068e_12 (S_J1_charAt_3b067_312 _) q_J0_495 (hR _ _ (by decide)) (s_cret (pc := 15) X E hr dJ0_charAt_5068e_15)))))))), fun _ h => absurd h List.not_mem_nil⟩)
noncomputable def B_X12_inWords_302_0 : pb_C := (i_aload 0 (i_getI 64 30 (i_const (.int 2) (i_ic_eq (i_const (.int 0) (i_istore 2 (i_const (.int 1) (i_istore 3 (i_jmp 14 [true, true, true, true, false, false, false]))))) (i_const (.int (-1)) i_iret)))))
noncomputable def B_X12_inWords_302_14 : pb_C := (i_iload 3 (i_aload 1 (i_callV (300 + 2) 0 1 M_J0_length_8abf5_302 (i_ic_ge (i_const (.int (-1)) i_iret) (i_iload 3 (i_istore 4 (i_jmp 25 [true, true, true, true, true, false, false])))))))
noncomputable def B_X12_inWords_302_25 : pb_C := (i_aload 1 (i_iload 4 (i_callV (300 + 2) 1 1 M_J0_charAt_5068e_302 (i_const (.int 32) (i_ic_eq (i_iload 4 (i_iload 3 (i_ibin (· - ·) (i_aload 0 (i_getI 64 32 (i_aload 0 (i_getI 64 31 (i_ibin (· - ·) (i_ic_ne (i_const (.int 0) (i_istore 5 (i_iload 3 (i_istore 6 (i_jmp 68 [true, true, true, true, true, true, true]))))) (i_const (.int 1) (i_istore 5 (i_iload 3 (i_istore 6 (i_jmp 68 [true, true, true, true, true, true, true])))))))))))))) (i_iinc 4 1 (i_jmp 25 [true, true, true, true, true, false, false])))))))
noncomputable def B_X12_inWords_302_68 : pb_C := (i_iload 6 (i_iload 4 (i_ic_ge (i_iload 5 (i_if_eq (i_iinc 2 1 (i_iload 4 (i_const (.int 1) (i_ibin (· + ·) (i_istore 3 (i_jmp 14 [true, true, true, true, false, false, false])))))) (i_iload 2 i_iret))) (i_iload 5 (i_if_eq (i_iload 5 (i_if_eq (i_iinc 2 1 (i_iload 4 (i_const (.int 1) (i_ibin (· + ·) (i_istore 3 (i_jmp 14 [true, true, true, true, false, false, false])))))) (i_iload 2 i_iret))) (i_aload 1 (i_iload 6 (i_callV (300 + 2) 1 1 M_J0_charAt_5068e_302 (i_aload 0 (i_aload 0 (i_getI 64 31 (i_iload 6 (i_ibin (· + ·) (i_iload 3 (i_ibin (· - ·) (i_callV 64 1 1 M_X12_at (i_ic_ne (i_const (.int 0) (i_istore 5 (i_iinc 6 1 (i_jmp 68 [true, true, true, true, true, true, true])))) (i_const (.int 1) (i_istore 5 (i_iinc 6 1 (i_jmp 68 [true, true, true, true, true, true, true])))))))))))))))))))))
noncomputable def T_X12_inWords_302 : Nat → pb_C := pb_tt [(0, B_X12_inWords_302_0), (14, B_X12_inWords_302_14), (25, B_X12_inWords_302_25), (68, B_X12_inWords_302_68)]
noncomputable def M_X12_inWords_302 : pb_F := pb_M T_X12_inWords_302 7
set_option maxRecDepth 100000 in
set_option maxHeartbeats 4000000 in
theorem S_X12_inWords_302 (l : Launch) : pb_Sound l yX12_inWords cX12_inWords 7 (some .int) 6 M_X12_inWords_302 := by
  refine pb_sound_of (by decide) m_8_124 ?_
  intro Γ hl0 hRm0 hm X E hr J
  have hnL : ∀ j, j < 7 → j < Γ.2.2.2.2.2.2.2.2.2.2.2.1 := fun j h => by rw [hm]; exact h
  have hR : ∀ (d' mL : Nat), d' + 1 ≤ 6 ∧ 8 + (mL + 11) + d' * 64 ≤ 6 * 64 → (pb_rm d').frames + 1 ≤ Γ.2.2.2.1.frames ∧ 8 + (mL + 11) + (pb_rm d').locals ≤ Γ.2.2.2.1.locals := by rw [hRm0]; exact fun _ _ h => h
  have hRm : 1 ≤ 6 ∧ 64 ≤ 6 * 64 → 1 ≤ Γ.2.2.2.1.frames ∧ 64 ≤ Γ.2.2.2.1.locals := by rw [hRm0]; exact fun h => h
  exact pb_tt_snd _ (List.forall_mem_cons.mpr ⟨(s_aload_n (pc := 0) X dX12_inWords_0 rfl (s_getI (pc := 1) X dX12_inWords_1 g_X12_333 (s_iconst (pc := 4) X dX12_inWords_4 rfl (s_ic_eq (pc := 5) X dX12_inWords_5 (by decide) (s_iconst (pc := 10) X dX12_inWords_10 rfl (s_istore_n (pc := 11) X dX12_inWords_11 rfl (hnL _ (by decide)) (s_iconst (pc := 12) X dX12_inWords_12 rfl (s_istore_n (pc := 13) X dX12_inWords_13 rfl (hnL _ (by decide)) (s_jmp (pc := 14) J [true, true, true, true, false, false, false]))))) (s_iconst (pc := 8) X dX12_inWords_8 rfl (s_iret (pc := 9) X E hr dX12_inWords_9)))))), List.forall_mem_cons.mpr ⟨(s_iload_n (pc := 14) X dX12_inWords_14 rfl (s_aload_n (pc := 15) X dX12_inWords_15 rfl (s_callT (pc := 16) X dX12_inWords_16 (i := 2) (S_J0_length_8abf5_302 _) q_X12_348 (by decide) rfl (hR _ _ (by decide)) (s_ic_ge (pc := 19) X dX12_inWords_19 (by decide) (s_iconst (pc := 133) X dX12_inWords_133 rfl (s_iret (pc := 134) X E hr dX12_inWords_134)) (s_iload_n (pc := 22) X dX12_inWords_22 rfl (s_istore (pc := 23) X dX12_inWords_23 (hnL _ (by decide)) (s_jmp (pc := 25) J [true, true, true, true, true, false, false]))))))), List.forall_mem_cons.mpr ⟨(s_aload_n (pc := 25) X dX12_inWords_25 rfl (s_iload (pc := 26) X dX12_inWords_26 (s_callT (pc := 28) X dX12_inWords_28 (i := 2) (S_J0_charAt_5068e_302 _) q_X12_354 (by decide) rfl (hR _ _ (by decide)) (s_bipush (pc := 31) X dX12_inWords_31 rfl (s_ic_eq (pc := 33) X dX12_inWords_33 (by decide) (s_iload (pc := 42) X dX12_inWords_42 (s_iload_n (pc := 44) X dX12_inWords_44 rfl (s_isub (pc := 45) X dX12_inWords_45 (s_aload_n (pc := 46) X dX12_inWords_46 rfl (s_getI (pc := 47) X dX12_inWords_47 g_X12_321 (s_aload_n (pc := 50) X dX12_inWords_50 rfl (s_getI (pc := 51) X dX12_inWords_51 g_X12_327 (s_isub (pc := 54) X dX12_inWords_54 (s_ic_ne (pc := 55) X dX12_inWords_55 (by decide) (s_iconst (pc := 62) X dX12_inWords_62 rfl (s_istore (pc := 63) X dX12_inWords_63 (hnL _ (by decide)) (s_iload_n (pc := 65) X dX12_inWords_65 rfl (s_istore (pc := 66) X dX12_inWords_66 (hnL _ (by decide)) (s_jmp (pc := 68) J [true, true, true, true, true, true, true]))))) (s_iconst (pc := 58) X dX12_inWords_58 rfl (s_goto (pc := 59) X dX12_inWords_59 (by decide) (s_istore (pc := 63) X dX12_inWords_63 (hnL _ (by decide)) (s_iload_n (pc := 65) X dX12_inWords_65 rfl (s_istore (pc := 66) X dX12_inWords_66 (hnL _ (by decide)) (s_jmp (pc := 68) J [true, true, true, true, true, true, true]))))))))))))))) (s_iinc (pc := 36) X dX12_inWords_36 rfl (s_goto (pc := 39) X dX12_inWords_39 (by decide) (s_jmp (pc := 25) J [true, true, true, true, true, false, false])))))))), List.forall_mem_cons.mpr ⟨(s_iload (pc := 68) X dX12_inWords_68 (s_iload (pc := 70) X dX12_inWords_70 (s_ic_ge (pc := 72) X dX12_inWords_72 (by decide) (s_iload (pc := 115) X dX12_inWords_115 (s_if_eq (pc := 117) X dX12_inWords_117 (by decide) (s_iinc (pc := 122) X dX12_inWords_122 rfl (s_iload (pc := 125) X dX12_inWords_125 (s_iconst (pc := 127) X dX12_inWords_127 rfl (s_iadd (pc := 128) X dX12_inWords_128 (s_istore_n (pc := 129) X dX12_inWords_129 rfl (hnL _ (by decide)) (s_goto (pc := 130) X dX12_inWords_130 (by decide) (s_jmp (pc := 14) J [true, true, true, true, false, false, false]))))))) (s_iload_n (pc := 120) X dX12_inWords_120 rfl (s_iret (pc := 121) X E hr dX12_inWords_121)))) (s_iload (pc := 75) X dX12_inWords_75 (s_if_eq (pc := 77) X dX12_inWords_77 (by decide) (s_iload (pc := 115) X dX12_inWords_115 (s_if_eq (pc := 117) X dX12_inWords_117 (by decide) (s_iinc (pc := 122) X dX12_inWords_122 rfl (s_iload (pc := 125) X dX12_inWords_125 (s_iconst (pc := 127) X dX12_inWords_127 rfl (s_iadd (pc := 128) X dX12_inWords_128 (s_istore_n (pc := 129) X dX12_inWords_129 rfl (hnL _ (by decide)) (s_goto (pc := 130) X dX12_inWords_130 (by decide) (s_jmp (pc := 14) J [true, true, true, true, false, false, false]))))))) (s_iload_n (pc := 120) X dX12_inWords_120 rfl (s_iret (pc := 121) X E hr dX12_inWords_121)))) (s_aload_n (pc := 80) X dX12_inWords_80 rfl (s_iload (pc := 81) X dX12_inWords_81 (s_callT (pc := 83) X dX12_inWords_83 (i := 2) (S_J0_charAt_5068e_302 _) q_X12_354 (by decide) rfl (hR _ _ (by decide)) (s_aload_n (pc := 86) X dX12_inWords_86 rfl (s_aload_n (pc := 87) X dX12_inWords_87 rfl (s_getI (pc := 88) X dX12_inWords_88 g_X12_327 (s_iload (pc := 91) X dX12_inWords_91 (s_iadd (pc := 93) X dX12_inWords_93 (s_iload_n (pc := 94) X dX12_inWords_94 rfl (s_isub (pc := 95) X dX12_inWords_95 (s_callV (pc := 96) X dX12_inWords_96 (S_X12_at _) q_X12_324 h_64 rfl (hR _ _ (by decide)) (s_ic_ne (pc := 99) X dX12_inWords_99 (by decide) (s_iconst (pc := 106) X dX12_inWords_106 rfl (s_istore (pc := 107) X dX12_inWords_107 (hnL _ (by decide)) (s_iinc (pc := 109) X dX12_inWords_109 rfl (s_goto (pc := 112) X dX12_inWords_112 (by decide) (s_jmp (pc := 68) J [true, true, true, true, true, true, true]))))) (s_iconst (pc := 102) X dX12_inWords_102 rfl (s_goto (pc := 103) X dX12_inWords_103 (by decide) (s_istore (pc := 107) X dX12_inWords_107 (hnL _ (by decide)) (s_iinc (pc := 109) X dX12_inWords_109 rfl (s_goto (pc := 112) X dX12_inWords_112 (by decide) (s_jmp (pc := 68) J [true, true, true, true, true, true, true]))))))))))))))))))))))), fun _ h => absurd h List.not_mem_nil⟩⟩⟩⟩)
theorem dX12_isSign_0 : decode cX12_isSign 0 = .ok (.aload_n 0, 1) := by decide +kernel
theorem dX12_isSign_1 : decode cX12_isSign 1 = .ok (.getfield 333, 3) := by decide +kernel
theorem dX12_isSign_4 : decode cX12_isSign 4 = .ok (.iconst 4, 1) := by decide +kernel
theorem dX12_isSign_5 : decode cX12_isSign 5 = .ok (.if_icmp .ne 15, 3) := by decide +kernel
theorem dX12_isSign_8 : decode cX12_isSign 8 = .ok (.aload_n 0, 1) := by decide +kernel
theorem dX12_isSign_9 : decode cX12_isSign 9 = .ok (.getfield 330, 3) := by decide +kernel
theorem dX12_isSign_12 : decode cX12_isSign 12 = .ok (.iload_n 1, 1) := by decide +kernel
theorem dX12_isSign_13 : decode cX12_isSign 13 = .ok (.if_icmp .ne 7, 3) := by decide +kernel
theorem dX12_isSign_16 : decode cX12_isSign 16 = .ok (.iconst 1, 1) := by decide +kernel
theorem dX12_isSign_17 : decode cX12_isSign 17 = .ok (.goto 4, 3) := by decide +kernel
theorem dX12_isSign_20 : decode cX12_isSign 20 = .ok (.iconst 0, 1) := by decide +kernel
theorem dX12_isSign_21 : decode cX12_isSign 21 = .ok (.ireturn, 1) := by decide +kernel
noncomputable def B_X12_isSign_0 : pb_C := (i_aload 0 (i_getI 64 30 (i_const (.int 4) (i_ic_ne (i_const (.int 0) i_zret) (i_aload 0 (i_getI 64 33 (i_iload 1 (i_ic_ne (i_const (.int 0) i_zret) (i_const (.int 1) i_zret)))))))))
noncomputable def T_X12_isSign : Nat → pb_C := pb_tt [(0, B_X12_isSign_0)]
noncomputable def M_X12_isSign : pb_F := pb_M T_X12_isSign 2
set_option maxRecDepth 100000 in
set_option maxHeartbeats 4000000 in
theorem S_X12_isSign (l : Launch) : pb_Sound l yX12_isSign cX12_isSign 2 (some .boolean) 1 M_X12_isSign := by
  refine pb_sound_of (by decide) m_8_182 ?_
  intro Γ hl0 hRm0 hm X E hr J
  have hnL : ∀ j, j < 2 → j < Γ.2.2.2.2.2.2.2.2.2.2.2.1 := fun j h => by rw [hm]; exact h
  have hR : ∀ (d' mL : Nat), d' + 1 ≤ 1 ∧ 8 + (mL + 11) + d' * 64 ≤ 1 * 64 → (pb_rm d').frames + 1 ≤ Γ.2.2.2.1.frames ∧ 8 + (mL + 11) + (pb_rm d').locals ≤ Γ.2.2.2.1.locals := by rw [hRm0]; exact fun _ _ h => h
  have hRm : 1 ≤ 1 ∧ 64 ≤ 1 * 64 → 1 ≤ Γ.2.2.2.1.frames ∧ 64 ≤ Γ.2.2.2.1.locals := by rw [hRm0]; exact fun h => h
  exact pb_tt_snd _ (List.forall_mem_cons.mpr ⟨(s_aload_n (pc := 0) X dX12_isSign_0 rfl (s_getI (pc := 1) X dX12_isSign_1 g_X12_333 (s_iconst (pc := 4) X dX12_isSign_4 rfl (s_ic_ne (pc := 5) X dX12_isSign_5 (by decide) (s_iconst (pc := 20) X dX12_isSign_20 rfl (s_zret (pc := 21) X E hr dX12_isSign_21)) (s_aload_n (pc := 8) X dX12_isSign_8 rfl (s_getI (pc := 9) X dX12_isSign_9 g_X12_330 (s_iload_n (pc := 12) X dX12_isSign_12 rfl (s_ic_ne (pc := 13) X dX12_isSign_13 (by decide) (s_iconst (pc := 20) X dX12_isSign_20 rfl (s_zret (pc := 21) X E hr dX12_isSign_21)) (s_iconst (pc := 16) X dX12_isSign_16 rfl (s_goto (pc := 17) X dX12_isSign_17 (by decide) (s_zret (pc := 21) X E hr dX12_isSign_21))))))))))), fun _ h => absurd h List.not_mem_nil⟩)
theorem dX12_puts_0 : decode cX12_puts 0 = .ok (.aload_n 0, 1) := by decide +kernel
theorem dX12_puts_1 : decode cX12_puts 1 = .ok (.getfield 126, 3) := by decide +kernel
theorem dX12_puts_4 : decode cX12_puts 4 = .ok (.aload_n 0, 1) := by decide +kernel
theorem dX12_puts_5 : decode cX12_puts 5 = .ok (.getfield 376, 3) := by decide +kernel
theorem dX12_puts_8 : decode cX12_puts 8 = .ok (.iload_n 1, 1) := by decide +kernel
theorem dX12_puts_9 : decode cX12_puts 9 = .ok (.iastore, 1) := by decide +kernel
theorem dX12_puts_10 : decode cX12_puts 10 = .ok (.aload_n 0, 1) := by decide +kernel
theorem dX12_puts_11 : decode cX12_puts 11 = .ok (.getfield 129, 3) := by decide +kernel
theorem dX12_puts_14 : decode cX12_puts 14 = .ok (.aload_n 0, 1) := by decide +kernel
theorem dX12_puts_15 : decode cX12_puts 15 = .ok (.getfield 376, 3) := by decide +kernel
theorem dX12_puts_18 : decode cX12_puts 18 = .ok (.iload_n 2, 1) := by decide +kernel
theorem dX12_puts_19 : decode cX12_puts 19 = .ok (.iastore, 1) := by decide +kernel
theorem dX12_puts_20 : decode cX12_puts 20 = .ok (.aload_n 0, 1) := by decide +kernel
theorem dX12_puts_21 : decode cX12_puts 21 = .ok (.dup, 1) := by decide +kernel
theorem dX12_puts_22 : decode cX12_puts 22 = .ok (.getfield 376, 3) := by decide +kernel
theorem dX12_puts_25 : decode cX12_puts 25 = .ok (.iconst 1, 1) := by decide +kernel
theorem dX12_puts_26 : decode cX12_puts 26 = .ok (.iadd, 1) := by decide +kernel
theorem dX12_puts_27 : decode cX12_puts 27 = .ok (.putfield 376, 3) := by decide +kernel
theorem dX12_puts_30 : decode cX12_puts 30 = .ok (.return_, 1) := by decide +kernel
noncomputable def B_X12_puts_0 : pb_C := (i_aload 0 (i_getR 64 98 (i_aload 0 (i_getI 64 38 (i_iload 1 (i_ast 98 4000 (fun x => x) (i_aload 0 (i_getR 64 99 (i_aload 0 (i_getI 64 38 (i_iload 2 (i_ast 99 4000 (fun x => x) (i_aload 0 (i_dupR (i_getI 64 38 (i_const (.int 1) (i_ibin (· + ·) (i_putI 64 38 i_vret))))))))))))))))))
noncomputable def T_X12_puts : Nat → pb_C := pb_tt [(0, B_X12_puts_0)]
noncomputable def M_X12_puts : pb_F := pb_M T_X12_puts 3
set_option maxRecDepth 100000 in
set_option maxHeartbeats 4000000 in
theorem S_X12_puts (l : Launch) : pb_Sound l yX12_puts cX12_puts 3 none 1 M_X12_puts := by
  refine pb_sound_of (by decide) m_8_178 ?_
  intro Γ hl0 hRm0 hm X E hr J
  have hnL : ∀ j, j < 3 → j < Γ.2.2.2.2.2.2.2.2.2.2.2.1 := fun j h => by rw [hm]; exact h
  have hR : ∀ (d' mL : Nat), d' + 1 ≤ 1 ∧ 8 + (mL + 11) + d' * 64 ≤ 1 * 64 → (pb_rm d').frames + 1 ≤ Γ.2.2.2.1.frames ∧ 8 + (mL + 11) + (pb_rm d').locals ≤ Γ.2.2.2.1.locals := by rw [hRm0]; exact fun _ _ h => h
  have hRm : 1 ≤ 1 ∧ 64 ≤ 1 * 64 → 1 ≤ Γ.2.2.2.1.frames ∧ 64 ≤ Γ.2.2.2.1.locals := by rw [hRm0]; exact fun h => h
  exact pb_tt_snd _ (List.forall_mem_cons.mpr ⟨(s_aload_n (pc := 0) X dX12_puts_0 rfl (s_getR (pc := 1) X dX12_puts_1 g_X12_126 (s_aload_n (pc := 4) X dX12_puts_4 rfl (s_getI (pc := 5) X dX12_puts_5 g_X12_376 (s_iload_n (pc := 8) X dX12_puts_8 rfl (s_iast (pc := 9) X dX12_puts_9 h_98 (s_aload_n (pc := 10) X dX12_puts_10 rfl (s_getR (pc := 11) X dX12_puts_11 g_X12_129 (s_aload_n (pc := 14) X dX12_puts_14 rfl (s_getI (pc := 15) X dX12_puts_15 g_X12_376 (s_iload_n (pc := 18) X dX12_puts_18 rfl (s_iast (pc := 19) X dX12_puts_19 h_99 (s_aload_n (pc := 20) X dX12_puts_20 rfl (s_dupR (pc := 21) X dX12_puts_21 (s_getI (pc := 22) X dX12_puts_22 g_X12_376 (s_iconst (pc := 25) X dX12_puts_25 rfl (s_iadd (pc := 26) X dX12_puts_26 (s_putI (pc := 27) X dX12_puts_27 p_X12_376 (s_vret (pc := 30) X E hr dX12_puts_30))))))))))))))))))), fun _ h => absurd h List.not_mem_nil⟩)
theorem dX12_sum_0 : decode cX12_sum 0 = .ok (.iconst 0, 1) := by decide +kernel
theorem dX12_sum_1 : decode cX12_sum 1 = .ok (.istore_n 1, 1) := by decide +kernel
theorem dX12_sum_2 : decode cX12_sum 2 = .ok (.aload_n 0, 1) := by decide +kernel
theorem dX12_sum_3 : decode cX12_sum 3 = .ok (.getfield 132, 3) := by decide +kernel
theorem dX12_sum_6 : decode cX12_sum 6 = .ok (.iconst 0, 1) := by decide +kernel
theorem dX12_sum_7 : decode cX12_sum 7 = .ok (.iconst 0, 1) := by decide +kernel
theorem dX12_sum_8 : decode cX12_sum 8 = .ok (.iastore, 1) := by decide +kernel
theorem dX12_sum_9 : decode cX12_sum 9 = .ok (.aload_n 0, 1) := by decide +kernel
theorem dX12_sum_10 : decode cX12_sum 10 = .ok (.getfield 135, 3) := by decide +kernel
theorem dX12_sum_13 : decode cX12_sum 13 = .ok (.iconst 0, 1) := by decide +kernel
theorem dX12_sum_14 : decode cX12_sum 14 = .ok (.iconst 0, 1) := by decide +kernel
theorem dX12_sum_15 : decode cX12_sum 15 = .ok (.iastore, 1) := by decide +kernel
theorem dX12_sum_16 : decode cX12_sum 16 = .ok (.iconst 1, 1) := by decide +kernel
theorem dX12_sum_17 : decode cX12_sum 17 = .ok (.istore_n 2, 1) := by decide +kernel
theorem dX12_sum_18 : decode cX12_sum 18 = .ok (.aload_n 0, 1) := by decide +kernel
theorem dX12_sum_19 : decode cX12_sum 19 = .ok (.getfield 364, 3) := by decide +kernel
theorem dX12_sum_22 : decode cX12_sum 22 = .ok (.ifCond .ne 274, 3) := by decide +kernel
theorem dX12_sum_25 : decode cX12_sum 25 = .ok (.iload_n 2, 1) := by decide +kernel
theorem dX12_sum_26 : decode cX12_sum 26 = .ok (.ifCond .eq 111, 3) := by decide +kernel
theorem dX12_sum_29 : decode cX12_sum 29 = .ok (.aload_n 0, 1) := by decide +kernel
theorem dX12_sum_30 : decode cX12_sum 30 = .ok (.ldc_w 379, 3) := by decide +kernel
theorem dX12_sum_33 : decode cX12_sum 33 = .ok (.invokevirtual 360, 3) := by decide +kernel
theorem dX12_sum_36 : decode cX12_sum 36 = .ok (.istore_n 3, 1) := by decide +kernel
theorem dX12_sum_37 : decode cX12_sum 37 = .ok (.aload_n 0, 1) := by decide +kernel
theorem dX12_sum_38 : decode cX12_sum 38 = .ok (.getfield 333, 3) := by decide +kernel
theorem dX12_sum_41 : decode cX12_sum 41 = .ok (.iconst 3, 1) := by decide +kernel
theorem dX12_sum_42 : decode cX12_sum 42 = .ok (.if_icmp .eq 8, 3) := by decide +kernel
theorem dX12_sum_45 : decode cX12_sum 45 = .ok (.iload_n 3, 1) := by decide +kernel
theorem dX12_sum_46 : decode cX12_sum 46 = .ok (.iconst (-1), 1) := by decide +kernel
theorem dX12_sum_47 : decode cX12_sum 47 = .ok (.if_icmp .eq 39, 3) := by decide +kernel
theorem dX12_sum_50 : decode cX12_sum 50 = .ok (.aload_n 0, 1) := by decide +kernel
theorem dX12_sum_51 : decode cX12_sum 51 = .ok (.iload_n 3, 1) := by decide +kernel
theorem dX12_sum_52 : decode cX12_sum 52 = .ok (.iconst (-1), 1) := by decide +kernel
theorem dX12_sum_53 : decode cX12_sum 53 = .ok (.if_icmp .ne 7, 3) := by decide +kernel
theorem dX12_sum_56 : decode cX12_sum 56 = .ok (.iconst 0, 1) := by decide +kernel
theorem dX12_sum_57 : decode cX12_sum 57 = .ok (.goto 4, 3) := by decide +kernel
theorem dX12_sum_60 : decode cX12_sum 60 = .ok (.iconst 1, 1) := by decide +kernel
theorem dX12_sum_61 : decode cX12_sum 61 = .ok (.iload_n 3, 1) := by decide +kernel
theorem dX12_sum_62 : decode cX12_sum 62 = .ok (.iconst (-1), 1) := by decide +kernel
theorem dX12_sum_63 : decode cX12_sum 63 = .ok (.if_icmp .ne 10, 3) := by decide +kernel
theorem dX12_sum_66 : decode cX12_sum 66 = .ok (.aload_n 0, 1) := by decide +kernel
theorem dX12_sum_67 : decode cX12_sum 67 = .ok (.getfield 330, 3) := by decide +kernel
theorem dX12_sum_70 : decode cX12_sum 70 = .ok (.goto 4, 3) := by decide +kernel
theorem dX12_sum_73 : decode cX12_sum 73 = .ok (.iload_n 3, 1) := by decide +kernel
theorem dX12_sum_74 : decode cX12_sum 74 = .ok (.invokevirtual 381, 3) := by decide +kernel
theorem dX12_sum_77 : decode cX12_sum 77 = .ok (.aload_n 0, 1) := by decide +kernel
theorem dX12_sum_78 : decode cX12_sum 78 = .ok (.invokevirtual 373, 3) := by decide +kernel
theorem dX12_sum_81 : decode cX12_sum 81 = .ok (.iconst 0, 1) := by decide +kernel
theorem dX12_sum_82 : decode cX12_sum 82 = .ok (.istore_n 2, 1) := by decide +kernel
theorem dX12_sum_83 : decode cX12_sum 83 = .ok (.goto (-65), 3) := by decide +kernel
theorem dX12_sum_86 : decode cX12_sum 86 = .ok (.aload_n 0, 1) := by decide +kernel
theorem dX12_sum_87 : decode cX12_sum 87 = .ok (.bipush 40, 2) := by decide +kernel
theorem dX12_sum_89 : decode cX12_sum 89 = .ok (.invokevirtual 385, 3) := by decide +kernel
theorem dX12_sum_92 : decode cX12_sum 92 = .ok (.ifCond .ne 9, 3) := by decide +kernel
theorem dX12_sum_95 : decode cX12_sum 95 = .ok (.aload_n 0, 1) := by decide +kernel
theorem dX12_sum_96 : decode cX12_sum 96 = .ok (.iconst 2, 1) := by decide +kernel
theorem dX12_sum_97 : decode cX12_sum 97 = .ok (.invokevirtual 370, 3) := by decide +kernel
theorem dX12_sum_100 : decode cX12_sum 100 = .ok (.ireturn, 1) := by decide +kernel
theorem dX12_sum_101 : decode cX12_sum 101 = .ok (.iload_n 1, 1) := by decide +kernel
theorem dX12_sum_102 : decode cX12_sum 102 = .ok (.bipush 6, 2) := by decide +kernel
theorem dX12_sum_104 : decode cX12_sum 104 = .ok (.if_icmp .ne 9, 3) := by decide +kernel
theorem dX12_sum_107 : decode cX12_sum 107 = .ok (.aload_n 0, 1) := by decide +kernel
theorem dX12_sum_108 : decode cX12_sum 108 = .ok (.iconst 5, 1) := by decide +kernel
theorem dX12_sum_109 : decode cX12_sum 109 = .ok (.invokevirtual 370, 3) := by decide +kernel
theorem dX12_sum_112 : decode cX12_sum 112 = .ok (.ireturn, 1) := by decide +kernel
theorem dX12_sum_113 : decode cX12_sum 113 = .ok (.aload_n 0, 1) := by decide +kernel
theorem dX12_sum_114 : decode cX12_sum 114 = .ok (.invokevirtual 373, 3) := by decide +kernel
theorem dX12_sum_117 : decode cX12_sum 117 = .ok (.iinc 1 1, 3) := by decide +kernel
theorem dX12_sum_120 : decode cX12_sum 120 = .ok (.aload_n 0, 1) := by decide +kernel
theorem dX12_sum_121 : decode cX12_sum 121 = .ok (.getfield 132, 3) := by decide +kernel
theorem dX12_sum_124 : decode cX12_sum 124 = .ok (.iload_n 1, 1) := by decide +kernel
theorem dX12_sum_125 : decode cX12_sum 125 = .ok (.iconst 0, 1) := by decide +kernel
theorem dX12_sum_126 : decode cX12_sum 126 = .ok (.iastore, 1) := by decide +kernel
theorem dX12_sum_127 : decode cX12_sum 127 = .ok (.aload_n 0, 1) := by decide +kernel
theorem dX12_sum_128 : decode cX12_sum 128 = .ok (.getfield 135, 3) := by decide +kernel
theorem dX12_sum_131 : decode cX12_sum 131 = .ok (.iload_n 1, 1) := by decide +kernel
theorem dX12_sum_132 : decode cX12_sum 132 = .ok (.iconst 0, 1) := by decide +kernel
theorem dX12_sum_133 : decode cX12_sum 133 = .ok (.iastore, 1) := by decide +kernel
theorem dX12_sum_134 : decode cX12_sum 134 = .ok (.goto (-116), 3) := by decide +kernel
theorem dX12_sum_137 : decode cX12_sum 137 = .ok (.aload_n 0, 1) := by decide +kernel
theorem dX12_sum_138 : decode cX12_sum 138 = .ok (.getfield 135, 3) := by decide +kernel
theorem dX12_sum_141 : decode cX12_sum 141 = .ok (.iload_n 1, 1) := by decide +kernel
theorem dX12_sum_142 : decode cX12_sum 142 = .ok (.iaload, 1) := by decide +kernel
theorem dX12_sum_143 : decode cX12_sum 143 = .ok (.ifCond .eq 14, 3) := by decide +kernel
theorem dX12_sum_146 : decode cX12_sum 146 = .ok (.aload_n 0, 1) := by decide +kernel
theorem dX12_sum_147 : decode cX12_sum 147 = .ok (.aload_n 0, 1) := by decide +kernel
theorem dX12_sum_148 : decode cX12_sum 148 = .ok (.getfield 135, 3) := by decide +kernel
theorem dX12_sum_151 : decode cX12_sum 151 = .ok (.iload_n 1, 1) := by decide +kernel
theorem dX12_sum_152 : decode cX12_sum 152 = .ok (.iaload, 1) := by decide +kernel
theorem dX12_sum_153 : decode cX12_sum 153 = .ok (.iconst 0, 1) := by decide +kernel
theorem dX12_sum_154 : decode cX12_sum 154 = .ok (.invokevirtual 381, 3) := by decide +kernel
theorem dX12_sum_157 : decode cX12_sum 157 = .ok (.aload_n 0, 1) := by decide +kernel
theorem dX12_sum_158 : decode cX12_sum 158 = .ok (.getfield 135, 3) := by decide +kernel
theorem dX12_sum_161 : decode cX12_sum 161 = .ok (.iload_n 1, 1) := by decide +kernel
theorem dX12_sum_162 : decode cX12_sum 162 = .ok (.iconst 0, 1) := by decide +kernel
theorem dX12_sum_163 : decode cX12_sum 163 = .ok (.iastore, 1) := by decide +kernel
theorem dX12_sum_164 : decode cX12_sum 164 = .ok (.aload_n 0, 1) := by decide +kernel
theorem dX12_sum_165 : decode cX12_sum 165 = .ok (.bipush 42, 2) := by decide +kernel
theorem dX12_sum_167 : decode cX12_sum 167 = .ok (.invokevirtual 385, 3) := by decide +kernel
theorem dX12_sum_170 : decode cX12_sum 170 = .ok (.ifCond .ne 12, 3) := by decide +kernel
theorem dX12_sum_173 : decode cX12_sum 173 = .ok (.aload_n 0, 1) := by decide +kernel
theorem dX12_sum_174 : decode cX12_sum 174 = .ok (.bipush 47, 2) := by decide +kernel
theorem dX12_sum_176 : decode cX12_sum 176 = .ok (.invokevirtual 385, 3) := by decide +kernel
theorem dX12_sum_179 : decode cX12_sum 179 = .ok (.ifCond .eq 22, 3) := by decide +kernel
theorem dX12_sum_182 : decode cX12_sum 182 = .ok (.aload_n 0, 1) := by decide +kernel
theorem dX12_sum_183 : decode cX12_sum 183 = .ok (.getfield 135, 3) := by decide +kernel
theorem dX12_sum_186 : decode cX12_sum 186 = .ok (.iload_n 1, 1) := by decide +kernel
theorem dX12_sum_187 : decode cX12_sum 187 = .ok (.aload_n 0, 1) := by decide +kernel
theorem dX12_sum_188 : decode cX12_sum 188 = .ok (.getfield 330, 3) := by decide +kernel
theorem dX12_sum_191 : decode cX12_sum 191 = .ok (.iastore, 1) := by decide +kernel
theorem dX12_sum_192 : decode cX12_sum 192 = .ok (.aload_n 0, 1) := by decide +kernel
theorem dX12_sum_193 : decode cX12_sum 193 = .ok (.invokevirtual 373, 3) := by decide +kernel
theorem dX12_sum_196 : decode cX12_sum 196 = .ok (.iconst 1, 1) := by decide +kernel
theorem dX12_sum_197 : decode cX12_sum 197 = .ok (.istore_n 2, 1) := by decide +kernel
theorem dX12_sum_198 : decode cX12_sum 198 = .ok (.goto (-180), 3) := by decide +kernel
theorem dX12_sum_201 : decode cX12_sum 201 = .ok (.aload_n 0, 1) := by decide +kernel
theorem dX12_sum_202 : decode cX12_sum 202 = .ok (.getfield 132, 3) := by decide +kernel
theorem dX12_sum_205 : decode cX12_sum 205 = .ok (.iload_n 1, 1) := by decide +kernel
theorem dX12_sum_206 : decode cX12_sum 206 = .ok (.iaload, 1) := by decide +kernel
theorem dX12_sum_207 : decode cX12_sum 207 = .ok (.ifCond .eq 14, 3) := by decide +kernel
theorem dX12_sum_210 : decode cX12_sum 210 = .ok (.aload_n 0, 1) := by decide +kernel
theorem dX12_sum_211 : decode cX12_sum 211 = .ok (.aload_n 0, 1) := by decide +kernel
theorem dX12_sum_212 : decode cX12_sum 212 = .ok (.getfield 132, 3) := by decide +kernel
theorem dX12_sum_215 : decode cX12_sum 215 = .ok (.iload_n 1, 1) := by decide +kernel
theorem dX12_sum_216 : decode cX12_sum 216 = .ok (.iaload, 1) := by decide +kernel
theorem dX12_sum_217 : decode cX12_sum 217 = .ok (.iconst 0, 1) := by decide +kernel
theorem dX12_sum_218 : decode cX12_sum 218 = .ok (.invokevirtual 381, 3) := by decide +kernel
theorem dX12_sum_221 : decode cX12_sum 221 = .ok (.aload_n 0, 1) := by decide +kernel
theorem dX12_sum_222 : decode cX12_sum 222 = .ok (.getfield 132, 3) := by decide +kernel
theorem dX12_sum_225 : decode cX12_sum 225 = .ok (.iload_n 1, 1) := by decide +kernel
theorem dX12_sum_226 : decode cX12_sum 226 = .ok (.iconst 0, 1) := by decide +kernel
theorem dX12_sum_227 : decode cX12_sum 227 = .ok (.iastore, 1) := by decide +kernel
theorem dX12_sum_228 : decode cX12_sum 228 = .ok (.aload_n 0, 1) := by decide +kernel
theorem dX12_sum_229 : decode cX12_sum 229 = .ok (.bipush 43, 2) := by decide +kernel
theorem dX12_sum_231 : decode cX12_sum 231 = .ok (.invokevirtual 385, 3) := by decide +kernel
theorem dX12_sum_234 : decode cX12_sum 234 = .ok (.ifCond .ne 12, 3) := by decide +kernel
theorem dX12_sum_237 : decode cX12_sum 237 = .ok (.aload_n 0, 1) := by decide +kernel
theorem dX12_sum_238 : decode cX12_sum 238 = .ok (.bipush 45, 2) := by decide +kernel
theorem dX12_sum_240 : decode cX12_sum 240 = .ok (.invokevirtual 385, 3) := by decide +kernel
theorem dX12_sum_243 : decode cX12_sum 243 = .ok (.ifCond .eq 22, 3) := by decide +kernel
theorem dX12_sum_246 : decode cX12_sum 246 = .ok (.aload_n 0, 1) := by decide +kernel
theorem dX12_sum_247 : decode cX12_sum 247 = .ok (.getfield 132, 3) := by decide +kernel
theorem dX12_sum_250 : decode cX12_sum 250 = .ok (.iload_n 1, 1) := by decide +kernel
theorem dX12_sum_251 : decode cX12_sum 251 = .ok (.aload_n 0, 1) := by decide +kernel
theorem dX12_sum_252 : decode cX12_sum 252 = .ok (.getfield 330, 3) := by decide +kernel
theorem dX12_sum_255 : decode cX12_sum 255 = .ok (.iastore, 1) := by decide +kernel
theorem dX12_sum_256 : decode cX12_sum 256 = .ok (.aload_n 0, 1) := by decide +kernel
theorem dX12_sum_257 : decode cX12_sum 257 = .ok (.invokevirtual 373, 3) := by decide +kernel
theorem dX12_sum_260 : decode cX12_sum 260 = .ok (.iconst 1, 1) := by decide +kernel
theorem dX12_sum_261 : decode cX12_sum 261 = .ok (.istore_n 2, 1) := by decide +kernel
theorem dX12_sum_262 : decode cX12_sum 262 = .ok (.goto (-244), 3) := by decide +kernel
theorem dX12_sum_265 : decode cX12_sum 265 = .ok (.iload_n 1, 1) := by decide +kernel
theorem dX12_sum_266 : decode cX12_sum 266 = .ok (.ifCond .ne 5, 3) := by decide +kernel
theorem dX12_sum_269 : decode cX12_sum 269 = .ok (.iconst 1, 1) := by decide +kernel
theorem dX12_sum_270 : decode cX12_sum 270 = .ok (.ireturn, 1) := by decide +kernel
theorem dX12_sum_271 : decode cX12_sum 271 = .ok (.aload_n 0, 1) := by decide +kernel
theorem dX12_sum_272 : decode cX12_sum 272 = .ok (.bipush 41, 2) := by decide +kernel
theorem dX12_sum_274 : decode cX12_sum 274 = .ok (.invokevirtual 385, 3) := by decide +kernel
theorem dX12_sum_277 : decode cX12_sum 277 = .ok (.ifCond .ne 9, 3) := by decide +kernel
theorem dX12_sum_280 : decode cX12_sum 280 = .ok (.aload_n 0, 1) := by decide +kernel
theorem dX12_sum_281 : decode cX12_sum 281 = .ok (.iconst 2, 1) := by decide +kernel
theorem dX12_sum_282 : decode cX12_sum 282 = .ok (.invokevirtual 370, 3) := by decide +kernel
theorem dX12_sum_285 : decode cX12_sum 285 = .ok (.ireturn, 1) := by decide +kernel
theorem dX12_sum_286 : decode cX12_sum 286 = .ok (.aload_n 0, 1) := by decide +kernel
theorem dX12_sum_287 : decode cX12_sum 287 = .ok (.invokevirtual 373, 3) := by decide +kernel
theorem dX12_sum_290 : decode cX12_sum 290 = .ok (.iinc 1 (-1), 3) := by decide +kernel
theorem dX12_sum_293 : decode cX12_sum 293 = .ok (.goto (-275), 3) := by decide +kernel
theorem dX12_sum_296 : decode cX12_sum 296 = .ok (.iconst 0, 1) := by decide +kernel
theorem dX12_sum_297 : decode cX12_sum 297 = .ok (.ireturn, 1) := by decide +kernel
noncomputable def B_X12_sum_0 : pb_C := (i_const (.int 0) (i_istore 1 (i_aload 0 (i_getR 64 100 (i_const (.int 0) (i_const (.int 0) (i_ast 100 8 (fun x => x) (i_aload 0 (i_getR 64 101 (i_const (.int 0) (i_const (.int 0) (i_ast 101 8 (fun x => x) (i_const (.int 1) (i_istore 2 (i_jmp 18 [true, true, true, false])))))))))))))))
noncomputable def B_X12_sum_18 : pb_C := (i_aload 0 (i_getI 64 36 (i_if_ne (i_const (.int 0) i_zret) (i_iload 2 (i_if_eq (i_aload 0 (i_getR 64 101 (i_iload 1 (i_ald 101 8 (i_if_eq (i_jmp 157 [true, true, true, false]) (i_aload 0 (i_aload 0 (i_getR 64 101 (i_iload 1 (i_ald 101 8 (i_const (.int 0) (i_callV 64 2 0 M_X12_puts (i_jmp 157 [true, true, true, false]))))))))))))) (i_aload 0 (i_const (.ref (300 + 2)) (i_callV 64 1 1 M_X12_inWords_302 (i_istore 3 (i_aload 0 (i_getI 64 30 (i_const (.int 3) (i_ic_eq (i_aload 0 (i_iload 3 (i_const (.int (-1)) (i_ic_ne (i_const (.int 1) (i_jmp 61 [true, true, false, true])) (i_const (.int 0) (i_jmp 61 [true, true, false, true])))))) (i_iload 3 (i_const (.int (-1)) (i_ic_eq (i_aload 0 (i_const (.int 40) (i_callV 64 1 1 M_X12_isSign (i_if_ne (i_iload 1 (i_const (.int 6) (i_ic_ne (i_aload 0 (i_callV 64 0 0 M_X12_next (i_iinc 1 1 (i_aload 0 (i_getR 64 100 (i_iload 1 (i_const (.int 0) (i_ast 100 8 (fun x => x) (i_aload 0 (i_getR 64 101 (i_iload 1 (i_const (.int 0) (i_ast 101 8 (fun x => x) (i_jmp 18 [true, true, true, false])))))))))))))) (i_aload 0 (i_const (.int 5) (i_callV 64 1 1 M_X12_fails i_zret)))))) (i_aload 0 (i_const (.int 2) (i_callV 64 1 1 M_X12_fails i_zret))))))) (i_aload 0 (i_iload 3 (i_const (.int (-1)) (i_ic_ne (i_const (.int 1) (i_jmp 61 [true, true, false, true])) (i_const (.int 0) (i_jmp 61 [true, true, false, true]))))))))))))))))))))))
noncomputable def B_X12_sum_61 : pb_C := (i_iload 3 (i_const (.int (-1)) (i_ic_ne (i_iload 3 (i_callV 64 2 0 M_X12_puts (i_aload 0 (i_callV 64 0 0 M_X12_next (i_const (.int 0) (i_istore 2 (i_jmp 18 [true, true, true, false]))))))) (i_aload 0 (i_getI 64 33 (i_callV 64 2 0 M_X12_puts (i_aload 0 (i_callV 64 0 0 M_X12_next (i_const (.int 0) (i_istore 2 (i_jmp 18 [true, true, true, false])))))))))))
noncomputable def B_X12_sum_157 : pb_C := (i_aload 0 (i_getR 64 101 (i_iload 1 (i_const (.int 0) (i_ast 101 8 (fun x => x) (i_aload 0 (i_const (.int 42) (i_callV 64 1 1 M_X12_isSign (i_if_ne (i_aload 0 (i_getR 64 101 (i_iload 1 (i_aload 0 (i_getI 64 33 (i_ast 101 8 (fun x => x) (i_aload 0 (i_callV 64 0 0 M_X12_next (i_const (.int 1) (i_istore 2 (i_jmp 18 [true, true, true, false]))))))))))) (i_aload 0 (i_const (.int 47) (i_callV 64 1 1 M_X12_isSign (i_if_eq (i_aload 0 (i_getR 64 100 (i_iload 1 (i_ald 100 8 (i_if_eq (i_jmp 221 [true, true, true, false]) (i_aload 0 (i_aload 0 (i_getR 64 100 (i_iload 1 (i_ald 100 8 (i_const (.int 0) (i_callV 64 2 0 M_X12_puts (i_jmp 221 [true, true, true, false]))))))))))))) (i_aload 0 (i_getR 64 101 (i_iload 1 (i_aload 0 (i_getI 64 33 (i_ast 101 8 (fun x => x) (i_aload 0 (i_callV 64 0 0 M_X12_next (i_const (.int 1) (i_istore 2 (i_jmp 18 [true, true, true, false]))))))))))))))))))))))))
noncomputable def B_X12_sum_221 : pb_C := (i_aload 0 (i_getR 64 100 (i_iload 1 (i_const (.int 0) (i_ast 100 8 (fun x => x) (i_aload 0 (i_const (.int 43) (i_callV 64 1 1 M_X12_isSign (i_if_ne (i_aload 0 (i_getR 64 100 (i_iload 1 (i_aload 0 (i_getI 64 33 (i_ast 100 8 (fun x => x) (i_aload 0 (i_callV 64 0 0 M_X12_next (i_const (.int 1) (i_istore 2 (i_jmp 18 [true, true, true, false]))))))))))) (i_aload 0 (i_const (.int 45) (i_callV 64 1 1 M_X12_isSign (i_if_eq (i_iload 1 (i_if_ne (i_aload 0 (i_const (.int 41) (i_callV 64 1 1 M_X12_isSign (i_if_ne (i_aload 0 (i_callV 64 0 0 M_X12_next (i_iinc 1 (-1) (i_jmp 18 [true, true, true, false])))) (i_aload 0 (i_const (.int 2) (i_callV 64 1 1 M_X12_fails i_zret))))))) (i_const (.int 1) i_zret))) (i_aload 0 (i_getR 64 100 (i_iload 1 (i_aload 0 (i_getI 64 33 (i_ast 100 8 (fun x => x) (i_aload 0 (i_callV 64 0 0 M_X12_next (i_const (.int 1) (i_istore 2 (i_jmp 18 [true, true, true, false]))))))))))))))))))))))))
noncomputable def T_X12_sum : Nat → pb_C := pb_tt [(0, B_X12_sum_0), (18, B_X12_sum_18), (61, B_X12_sum_61), (157, B_X12_sum_157), (221, B_X12_sum_221)]
noncomputable def M_X12_sum : pb_F := pb_M T_X12_sum 4
set_option maxRecDepth 100000 in
set_option maxHeartbeats 4000000 in
theorem S_X12_sum (l : Launch) : pb_Sound l yX12_sum cX12_sum 4 (some .boolean) 7 M_X12_sum := by
  refine pb_sound_of (by decide) m_8_173 ?_
  intro Γ hl0 hRm0 hm X E hr J
  have hnL : ∀ j, j < 4 → j < Γ.2.2.2.2.2.2.2.2.2.2.2.1 := fun j h => by rw [hm]; exact h
  have hR : ∀ (d' mL : Nat), d' + 1 ≤ 7 ∧ 8 + (mL + 11) + d' * 64 ≤ 7 * 64 → (pb_rm d').frames + 1 ≤ Γ.2.2.2.1.frames ∧ 8 + (mL + 11) + (pb_rm d').locals ≤ Γ.2.2.2.1.locals := by rw [hRm0]; exact fun _ _ h => h
  have hRm : 1 ≤ 7 ∧ 64 ≤ 7 * 64 → 1 ≤ Γ.2.2.2.1.frames ∧ 64 ≤ Γ.2.2.2.1.locals := by rw [hRm0]; exact fun h => h
  exact pb_tt_snd _ (List.forall_mem_cons.mpr ⟨(s_iconst (pc := 0) X dX12_sum_0 rfl (s_istore_n (pc := 1) X dX12_sum_1 rfl (hnL _ (by decide)) (s_aload_n (pc := 2) X dX12_sum_2 rfl (s_getR (pc := 3) X dX12_sum_3 g_X12_132 (s_iconst (pc := 6) X dX12_sum_6 rfl (s_iconst (pc := 7) X dX12_sum_7 rfl (s_iast (pc := 8) X dX12_sum_8 h_100 (s_aload_n (pc := 9) X dX12_sum_9 rfl (s_getR (pc := 10) X dX12_sum_10 g_X12_135 (s_iconst (pc := 13) X dX12_sum_13 rfl (s_iconst (pc := 14) X dX12_sum_14 rfl (s_iast (pc := 15) X dX12_sum_15 h_101 (s_iconst (pc := 16) X dX12_sum_16 rfl (s_istore_n (pc := 17) X dX12_sum_17 rfl (hnL _ (by decide)) (s_jmp (pc := 18) J [true, true, true, false]))))))))))))))), List.forall_mem_cons.mpr ⟨(s_aload_n (pc := 18) X dX12_sum_18 rfl (s_getI (pc := 19) X dX12_sum_19 g_X12_364 (s_if_ne (pc := 22) X dX12_sum_22 (by decide) (s_iconst (pc := 296) X dX12_sum_296 rfl (s_zret (pc := 297) X E hr dX12_sum_297)) (s_iload_n (pc := 25) X dX12_sum_25 rfl (s_if_eq (pc := 26) X dX12_sum_26 (by decide) (s_aload_n (pc := 137) X dX12_sum_137 rfl (s_getR (pc := 138) X dX12_sum_138 g_X12_135 (s_iload_n (pc := 141) X dX12_sum_141 rfl (s_iald (pc := 142) X dX12_sum_142 h_101 (s_if_eq (pc := 143) X dX12_sum_143 (by decide) (s_jmp (pc := 157) J [true, true, true, false]) (s_aload_n (pc := 146) X dX12_sum_146 rfl (s_aload_n (pc := 147) X dX12_sum_147 rfl (s_getR (pc := 148) X dX12_sum_148 g_X12_135 (s_iload_n (pc := 151) X dX12_sum_151 rfl (s_iald (pc := 152) X dX12_sum_152 h_101 (s_iconst (pc := 153) X dX12_sum_153 rfl (s_callV (pc := 154) X dX12_sum_154 (S_X12_puts _) q_X12_381 h_64 rfl (hR _ _ (by decide)) (s_jmp (pc := 157) J [true, true, true, false]))))))))))))) (s_aload_n (pc := 29) X dX12_sum_29 rfl (s_ldcSw (pc := 30) X dX12_sum_30 (tx := " pence week year shop ") (i := 2) (List.mem_of_getElem? (i := 2) rfl) (s_callV (pc := 33) X dX12_sum_33 (S_X12_inWords_302 _) q_X12_360 h_64 rfl (hR _ _ (by decide)) (s_istore_n (pc := 36) X dX12_sum_36 rfl (hnL _ (by decide)) (s_aload_n (pc := 37) X dX12_sum_37 rfl (s_getI (pc := 38) X dX12_sum_38 g_X12_333 (s_iconst (pc := 41) X dX12_sum_41 rfl (s_ic_eq (pc := 42) X dX12_sum_42 (by decide) (s_aload_n (pc := 50) X dX12_sum_50 rfl (s_iload_n (pc := 51) X dX12_sum_51 rfl (s_iconst (pc := 52) X dX12_sum_52 rfl (s_ic_ne (pc := 53) X dX12_sum_53 (by decide) (s_iconst (pc := 60) X dX12_sum_60 rfl (s_jmp (pc := 61) J [true, true, false, true])) (s_iconst (pc := 56) X dX12_sum_56 rfl (s_goto (pc := 57) X dX12_sum_57 (by decide) (s_jmp (pc := 61) J [true, true, false, true]))))))) (s_iload_n (pc := 45) X dX12_sum_45 rfl (s_iconst (pc := 46) X dX12_sum_46 rfl (s_ic_eq (pc := 47) X dX12_sum_47 (by decide) (s_aload_n (pc := 86) X dX12_sum_86 rfl (s_bipush (pc := 87) X dX12_sum_87 rfl (s_callV (pc := 89) X dX12_sum_89 (S_X12_isSign _) q_X12_385 h_64 rfl (hR _ _ (by decide)) (s_if_ne (pc := 92) X dX12_sum_92 (by decide) (s_iload_n (pc := 101) X dX12_sum_101 rfl (s_bipush (pc := 102) X dX12_sum_102 rfl (s_ic_ne (pc := 104) X dX12_sum_104 (by decide) (s_aload_n (pc := 113) X dX12_sum_113 rfl (s_callV (pc := 114) X dX12_sum_114 (S_X12_next _) q_X12_373 h_64 rfl (hR _ _ (by decide)) (s_iinc (pc := 117) X dX12_sum_117 rfl (s_aload_n (pc := 120) X dX12_sum_120 rfl (s_getR (pc := 121) X dX12_sum_121 g_X12_132 (s_iload_n (pc := 124) X dX12_sum_124 rfl (s_iconst (pc := 125) X dX12_sum_125 rfl (s_iast (pc := 126) X dX12_sum_126 h_100 (s_aload_n (pc := 127) X dX12_sum_127 rfl (s_getR (pc := 128) X dX12_sum_128 g_X12_135 (s_iload_n (pc := 131) X dX12_sum_131 rfl (s_iconst (pc := 132) X dX12_sum_132 rfl (s_iast (pc := 133) X dX12_sum_133 h_101 (s_goto (pc := 134) X dX12_sum_134 (by decide) (s_jmp (pc := 18) J [true, true, true, false]))))))))))))))) (s_aload_n (pc := 107) X dX12_sum_107 rfl (s_iconst (pc := 108) X dX12_sum_108 rfl (s_callV (pc := 109) X dX12_sum_109 (S_X12_fails _) q_X12_370 h_64 rfl (hR _ _ (by decide)) (s_zret (pc := 112) X E hr dX12_sum_112))))))) (s_aload_n (pc := 95) X dX12_sum_95 rfl (s_iconst (pc := 96) X dX12_sum_96 rfl (s_callV (pc := 97) X dX12_sum_97 (S_X12_fails _) q_X12_370 h_64 rfl (hR _ _ (by decide)) (s_zret (pc := 100) X E hr dX12_sum_100)))))))) (s_aload_n (pc := 50) X dX12_sum_50 rfl (s_iload_n (pc := 51) X dX12_sum_51 rfl (s_iconst (pc := 52) X dX12_sum_52 rfl (s_ic_ne (pc := 53) X dX12_sum_53 (by decide) (s_iconst (pc := 60) X dX12_sum_60 rfl (s_jmp (pc := 61) J [true, true, false, true])) (s_iconst (pc := 56) X dX12_sum_56 rfl (s_goto (pc := 57) X dX12_sum_57 (by decide) (s_jmp (pc := 61) J [true, true, false, true]))))))))))))))))))))))), List.forall_mem_cons.mpr ⟨(s_iload_n (pc := 61) X dX12_sum_61 rfl (s_iconst (pc := 62) X dX12_sum_62 rfl (s_ic_ne (pc := 63) X dX12_sum_63 (by decide) (s_iload_n (pc := 73) X dX12_sum_73 rfl (s_callV (pc := 74) X dX12_sum_74 (S_X12_puts _) q_X12_381 h_64 rfl (hR _ _ (by decide)) (s_aload_n (pc := 77) X dX12_sum_77 rfl (s_callV (pc := 78) X dX12_sum_78 (S_X12_next _) q_X12_373 h_64 rfl (hR _ _ (by decide)) (s_iconst (pc := 81) X dX12_sum_81 rfl (s_istore_n (pc := 82) X dX12_sum_82 rfl (hnL _ (by decide)) (s_goto (pc := 83) X dX12_sum_83 (by decide) (s_jmp (pc := 18) J [true, true, true, false])))))))) (s_aload_n (pc := 66) X dX12_sum_66 rfl (s_getI (pc := 67) X dX12_sum_67 g_X12_330 (s_goto (pc := 70) X dX12_sum_70 (by decide) (s_callV (pc := 74) X dX12_sum_74 (S_X12_puts _) q_X12_381 h_64 rfl (hR _ _ (by decide)) (s_aload_n (pc := 77) X dX12_sum_77 rfl (s_callV (pc := 78) X dX12_sum_78 (S_X12_next _) q_X12_373 h_64 rfl (hR _ _ (by decide)) (s_iconst (pc := 81) X dX12_sum_81 rfl (s_istore_n (pc := 82) X dX12_sum_82 rfl (hnL _ (by decide)) (s_goto (pc := 83) X dX12_sum_83 (by decide) (s_jmp (pc := 18) J [true, true, true, false]))))))))))))), List.forall_mem_cons.mpr ⟨(s_aload_n (pc := 157) X dX12_sum_157 rfl (s_getR (pc := 158) X dX12_sum_158 g_X12_135 (s_iload_n (pc := 161) X dX12_sum_161 rfl (s_iconst (pc := 162) X dX12_sum_162 rfl (s_iast (pc := 163) X dX12_sum_163 h_101 (s_aload_n (pc := 164) X dX12_sum_164 rfl (s_bipush (pc := 165) X dX12_sum_165 rfl (s_callV (pc := 167) X dX12_sum_167 (S_X12_isSign _) q_X12_385 h_64 rfl (hR _ _ (by decide)) (s_if_ne (pc := 170) X dX12_sum_170 (by decide) (s_aload_n (pc := 182) X dX12_sum_182 rfl (s_getR (pc := 183) X dX12_sum_183 g_X12_135 (s_iload_n (pc := 186) X dX12_sum_186 rfl (s_aload_n (pc := 187) X dX12_sum_187 rfl (s_getI (pc := 188) X dX12_sum_188 g_X12_330 (s_iast (pc := 191) X dX12_sum_191 h_101 (s_aload_n (pc := 192) X dX12_sum_192 rfl (s_callV (pc := 193) X dX12_sum_193 (S_X12_next _) q_X12_373 h_64 rfl (hR _ _ (by decide)) (s_iconst (pc := 196) X dX12_sum_196 rfl (s_istore_n (pc := 197) X dX12_sum_197 rfl (hnL _ (by decide)) (s_goto (pc := 198) X dX12_sum_198 (by decide) (s_jmp (pc := 18) J [true, true, true, false])))))))))))) (s_aload_n (pc := 173) X dX12_sum_173 rfl (s_bipush (pc := 174) X dX12_sum_174 rfl (s_callV (pc := 176) X dX12_sum_176 (S_X12_isSign _) q_X12_385 h_64 rfl (hR _ _ (by decide)) (s_if_eq (pc := 179) X dX12_sum_179 (by decide) (s_aload_n (pc := 201) X dX12_sum_201 rfl (s_getR (pc := 202) X dX12_sum_202 g_X12_132 (s_iload_n (pc := 205) X dX12_sum_205 rfl (s_iald (pc := 206) X dX12_sum_206 h_100 (s_if_eq (pc := 207) X dX12_sum_207 (by decide) (s_jmp (pc := 221) J [true, true, true, false]) (s_aload_n (pc := 210) X dX12_sum_210 rfl (s_aload_n (pc := 211) X dX12_sum_211 rfl (s_getR (pc := 212) X dX12_sum_212 g_X12_132 (s_iload_n (pc := 215) X dX12_sum_215 rfl (s_iald (pc := 216) X dX12_sum_216 h_100 (s_iconst (pc := 217) X dX12_sum_217 rfl (s_callV (pc := 218) X dX12_sum_218 (S_X12_puts _) q_X12_381 h_64 rfl (hR _ _ (by decide)) (s_jmp (pc := 221) J [true, true, true, false]))))))))))))) (s_aload_n (pc := 182) X dX12_sum_182 rfl (s_getR (pc := 183) X dX12_sum_183 g_X12_135 (s_iload_n (pc := 186) X dX12_sum_186 rfl (s_aload_n (pc := 187) X dX12_sum_187 rfl (s_getI (pc := 188) X dX12_sum_188 g_X12_330 (s_iast (pc := 191) X dX12_sum_191 h_101 (s_aload_n (pc := 192) X dX12_sum_192 rfl (s_callV (pc := 193) X dX12_sum_193 (S_X12_next _) q_X12_373 h_64 rfl (hR _ _ (by decide)) (s_iconst (pc := 196) X dX12_sum_196 rfl (s_istore_n (pc := 197) X dX12_sum_197 rfl (hnL _ (by decide)) (s_goto (pc := 198) X dX12_sum_198 (by decide) (s_jmp (pc := 18) J [true, true, true, false]))))))))))))))))))))))))), List.forall_mem_cons.mpr ⟨(s_aload_n (pc := 221) X dX12_sum_221 rfl (s_getR (pc := 222) X dX12_sum_222 g_X12_132 (s_iload_n (pc := 225) X dX12_sum_225 rfl (s_iconst (pc := 226) X dX12_sum_226 rfl (s_iast (pc := 227) X dX12_sum_227 h_100 (s_aload_n (pc := 228) X dX12_sum_228 rfl (s_bipush (pc := 229) X dX12_sum_229 rfl (s_callV (pc := 231) X dX12_sum_231 (S_X12_isSign _) q_X12_385 h_64 rfl (hR _ _ (by decide)) (s_if_ne (pc := 234) X dX12_sum_234 (by decide) (s_aload_n (pc := 246) X dX12_sum_246 rfl (s_getR (pc := 247) X dX12_sum_247 g_X12_132 (s_iload_n (pc := 250) X dX12_sum_250 rfl (s_aload_n (pc := 251) X dX12_sum_251 rfl (s_getI (pc := 252) X dX12_sum_252 g_X12_330 (s_iast (pc := 255) X dX12_sum_255 h_100 (s_aload_n (pc := 256) X dX12_sum_256 rfl (s_callV (pc := 257) X dX12_sum_257 (S_X12_next _) q_X12_373 h_64 rfl (hR _ _ (by decide)) (s_iconst (pc := 260) X dX12_sum_260 rfl (s_istore_n (pc := 261) X dX12_sum_261 rfl (hnL _ (by decide)) (s_goto (pc := 262) X dX12_sum_262 (by decide) (s_jmp (pc := 18) J [true, true, true, false])))))))))))) (s_aload_n (pc := 237) X dX12_sum_237 rfl (s_bipush (pc := 238) X dX12_sum_238 rfl (s_callV (pc := 240) X dX12_sum_240 (S_X12_isSign _) q_X12_385 h_64 rfl (hR _ _ (by decide)) (s_if_eq (pc := 243) X dX12_sum_243 (by decide) (s_iload_n (pc := 265) X dX12_sum_265 rfl (s_if_ne (pc := 266) X dX12_sum_266 (by decide) (s_aload_n (pc := 271) X dX12_sum_271 rfl (s_bipush (pc := 272) X dX12_sum_272 rfl (s_callV (pc := 274) X dX12_sum_274 (S_X12_isSign _) q_X12_385 h_64 rfl (hR _ _ (by decide)) (s_if_ne (pc := 277) X dX12_sum_277 (by decide) (s_aload_n (pc := 286) X dX12_sum_286 rfl (s_callV (pc := 287) X dX12_sum_287 (S_X12_next _) q_X12_373 h_64 rfl (hR _ _ (by decide)) (s_iinc (pc := 290) X dX12_sum_290 rfl (s_goto (pc := 293) X dX12_sum_293 (by decide) (s_jmp (pc := 18) J [true, true, true, false]))))) (s_aload_n (pc := 280) X dX12_sum_280 rfl (s_iconst (pc := 281) X dX12_sum_281 rfl (s_callV (pc := 282) X dX12_sum_282 (S_X12_fails _) q_X12_370 h_64 rfl (hR _ _ (by decide)) (s_zret (pc := 285) X E hr dX12_sum_285)))))))) (s_iconst (pc := 269) X dX12_sum_269 rfl (s_zret (pc := 270) X E hr dX12_sum_270)))) (s_aload_n (pc := 246) X dX12_sum_246 rfl (s_getR (pc := 247) X dX12_sum_247 g_X12_132 (s_iload_n (pc := 250) X dX12_sum_250 rfl (s_aload_n (pc := 251) X dX12_sum_251 rfl (s_getI (pc := 252) X dX12_sum_252 g_X12_330 (s_iast (pc := 255) X dX12_sum_255 h_100 (s_aload_n (pc := 256) X dX12_sum_256 rfl (s_callV (pc := 257) X dX12_sum_257 (S_X12_next _) q_X12_373 h_64 rfl (hR _ _ (by decide)) (s_iconst (pc := 260) X dX12_sum_260 rfl (s_istore_n (pc := 261) X dX12_sum_261 rfl (hnL _ (by decide)) (s_goto (pc := 262) X dX12_sum_262 (by decide) (s_jmp (pc := 18) J [true, true, true, false]))))))))))))))))))))))))), fun _ h => absurd h List.not_mem_nil⟩⟩⟩⟩⟩)
theorem dX12_comparing_0 : decode cX12_comparing 0 = .ok (.aload_n 0, 1) := by decide +kernel
theorem dX12_comparing_1 : decode cX12_comparing 1 = .ok (.invokevirtual 400, 3) := by decide +kernel
theorem dX12_comparing_4 : decode cX12_comparing 4 = .ok (.ifCond .ne 5, 3) := by decide +kernel
theorem dX12_comparing_7 : decode cX12_comparing 7 = .ok (.iconst 0, 1) := by decide +kernel
theorem dX12_comparing_8 : decode cX12_comparing 8 = .ok (.ireturn, 1) := by decide +kernel
theorem dX12_comparing_9 : decode cX12_comparing 9 = .ok (.aload_n 0, 1) := by decide +kernel
theorem dX12_comparing_10 : decode cX12_comparing 10 = .ok (.getfield 108, 3) := by decide +kernel
theorem dX12_comparing_13 : decode cX12_comparing 13 = .ok (.iload_n 1, 1) := by decide +kernel
theorem dX12_comparing_14 : decode cX12_comparing 14 = .ok (.aload_n 0, 1) := by decide +kernel
theorem dX12_comparing_15 : decode cX12_comparing 15 = .ok (.getfield 376, 3) := by decide +kernel
theorem dX12_comparing_18 : decode cX12_comparing 18 = .ok (.iastore, 1) := by decide +kernel
theorem dX12_comparing_19 : decode cX12_comparing 19 = .ok (.aload_n 0, 1) := by decide +kernel
theorem dX12_comparing_20 : decode cX12_comparing 20 = .ok (.bipush 60, 2) := by decide +kernel
theorem dX12_comparing_22 : decode cX12_comparing 22 = .ok (.invokevirtual 385, 3) := by decide +kernel
theorem dX12_comparing_25 : decode cX12_comparing 25 = .ok (.ifCond .ne 27, 3) := by decide +kernel
theorem dX12_comparing_28 : decode cX12_comparing 28 = .ok (.aload_n 0, 1) := by decide +kernel
theorem dX12_comparing_29 : decode cX12_comparing 29 = .ok (.bipush 62, 2) := by decide +kernel
theorem dX12_comparing_31 : decode cX12_comparing 31 = .ok (.invokevirtual 385, 3) := by decide +kernel
theorem dX12_comparing_34 : decode cX12_comparing 34 = .ok (.ifCond .ne 18, 3) := by decide +kernel
theorem dX12_comparing_37 : decode cX12_comparing 37 = .ok (.aload_n 0, 1) := by decide +kernel
theorem dX12_comparing_38 : decode cX12_comparing 38 = .ok (.bipush 61, 2) := by decide +kernel
theorem dX12_comparing_40 : decode cX12_comparing 40 = .ok (.invokevirtual 385, 3) := by decide +kernel
theorem dX12_comparing_43 : decode cX12_comparing 43 = .ok (.ifCond .ne 9, 3) := by decide +kernel
theorem dX12_comparing_46 : decode cX12_comparing 46 = .ok (.aload_n 0, 1) := by decide +kernel
theorem dX12_comparing_47 : decode cX12_comparing 47 = .ok (.iconst 2, 1) := by decide +kernel
theorem dX12_comparing_48 : decode cX12_comparing 48 = .ok (.invokevirtual 370, 3) := by decide +kernel
theorem dX12_comparing_51 : decode cX12_comparing 51 = .ok (.ireturn, 1) := by decide +kernel
theorem dX12_comparing_52 : decode cX12_comparing 52 = .ok (.aload_n 0, 1) := by decide +kernel
theorem dX12_comparing_53 : decode cX12_comparing 53 = .ok (.getfield 114, 3) := by decide +kernel
theorem dX12_comparing_56 : decode cX12_comparing 56 = .ok (.iload_n 1, 1) := by decide +kernel
theorem dX12_comparing_57 : decode cX12_comparing 57 = .ok (.aload_n 0, 1) := by decide +kernel
theorem dX12_comparing_58 : decode cX12_comparing 58 = .ok (.getfield 330, 3) := by decide +kernel
theorem dX12_comparing_61 : decode cX12_comparing 61 = .ok (.iastore, 1) := by decide +kernel
theorem dX12_comparing_62 : decode cX12_comparing 62 = .ok (.aload_n 0, 1) := by decide +kernel
theorem dX12_comparing_63 : decode cX12_comparing 63 = .ok (.invokevirtual 373, 3) := by decide +kernel
theorem dX12_comparing_66 : decode cX12_comparing 66 = .ok (.aload_n 0, 1) := by decide +kernel
theorem dX12_comparing_67 : decode cX12_comparing 67 = .ok (.invokevirtual 400, 3) := by decide +kernel
theorem dX12_comparing_70 : decode cX12_comparing 70 = .ok (.ifCond .ne 5, 3) := by decide +kernel
theorem dX12_comparing_73 : decode cX12_comparing 73 = .ok (.iconst 0, 1) := by decide +kernel
theorem dX12_comparing_74 : decode cX12_comparing 74 = .ok (.ireturn, 1) := by decide +kernel
theorem dX12_comparing_75 : decode cX12_comparing 75 = .ok (.aload_n 0, 1) := by decide +kernel
theorem dX12_comparing_76 : decode cX12_comparing 76 = .ok (.getfield 111, 3) := by decide +kernel
theorem dX12_comparing_79 : decode cX12_comparing 79 = .ok (.iload_n 1, 1) := by decide +kernel
theorem dX12_comparing_80 : decode cX12_comparing 80 = .ok (.aload_n 0, 1) := by decide +kernel
theorem dX12_comparing_81 : decode cX12_comparing 81 = .ok (.getfield 376, 3) := by decide +kernel
theorem dX12_comparing_84 : decode cX12_comparing 84 = .ok (.iastore, 1) := by decide +kernel
theorem dX12_comparing_85 : decode cX12_comparing 85 = .ok (.iconst 1, 1) := by decide +kernel
theorem dX12_comparing_86 : decode cX12_comparing 86 = .ok (.ireturn, 1) := by decide +kernel
noncomputable def B_X12_comparing_0 : pb_C := (i_aload 0 (i_callV 64 0 1 M_X12_sum (i_if_ne (i_aload 0 (i_getR 64 92 (i_iload 1 (i_aload 0 (i_getI 64 38 (i_ast 92 1500 (fun x => x) (i_aload 0 (i_const (.int 60) (i_callV 64 1 1 M_X12_isSign (i_if_ne (i_jmp 52 [true, true]) (i_aload 0 (i_const (.int 62) (i_callV 64 1 1 M_X12_isSign (i_if_ne (i_jmp 52 [true, true]) (i_aload 0 (i_const (.int 61) (i_callV 64 1 1 M_X12_isSign (i_if_ne (i_jmp 52 [true, true]) (i_aload 0 (i_const (.int 2) (i_callV 64 1 1 M_X12_fails i_zret))))))))))))))))))))) (i_const (.int 0) i_zret))))
noncomputable def B_X12_comparing_52 : pb_C := (i_aload 0 (i_getR 64 94 (i_iload 1 (i_aload 0 (i_getI 64 33 (i_ast 94 1500 (fun x => x) (i_aload 0 (i_callV 64 0 0 M_X12_next (i_aload 0 (i_callV 64 0 1 M_X12_sum (i_if_ne (i_aload 0 (i_getR 64 93 (i_iload 1 (i_aload 0 (i_getI 64 38 (i_ast 93 1500 (fun x => x) (i_const (.int 1) i_zret))))))) (i_const (.int 0) i_zret))))))))))))
noncomputable def T_X12_comparing : Nat → pb_C := pb_tt [(0, B_X12_comparing_0), (52, B_X12_comparing_52)]
noncomputable def M_X12_comparing : pb_F := pb_M T_X12_comparing 2
set_option maxRecDepth 100000 in
set_option maxHeartbeats 4000000 in
theorem S_X12_comparing (l : Launch) : pb_Sound l yX12_comparing cX12_comparing 2 (some .boolean) 8 M_X12_comparing := by
  refine pb_sound_of (by decide) m_8_169 ?_
  intro Γ hl0 hRm0 hm X E hr J
  have hnL : ∀ j, j < 2 → j < Γ.2.2.2.2.2.2.2.2.2.2.2.1 := fun j h => by rw [hm]; exact h
  have hR : ∀ (d' mL : Nat), d' + 1 ≤ 8 ∧ 8 + (mL + 11) + d' * 64 ≤ 8 * 64 → (pb_rm d').frames + 1 ≤ Γ.2.2.2.1.frames ∧ 8 + (mL + 11) + (pb_rm d').locals ≤ Γ.2.2.2.1.locals := by rw [hRm0]; exact fun _ _ h => h
  have hRm : 1 ≤ 8 ∧ 64 ≤ 8 * 64 → 1 ≤ Γ.2.2.2.1.frames ∧ 64 ≤ Γ.2.2.2.1.locals := by rw [hRm0]; exact fun h => h
  exact pb_tt_snd _ (List.forall_mem_cons.mpr ⟨(s_aload_n (pc := 0) X dX12_comparing_0 rfl (s_callV (pc := 1) X dX12_comparing_1 (S_X12_sum _) q_X12_400 h_64 rfl (hR _ _ (by decide)) (s_if_ne (pc := 4) X dX12_comparing_4 (by decide) (s_aload_n (pc := 9) X dX12_comparing_9 rfl (s_getR (pc := 10) X dX12_comparing_10 g_X12_108 (s_iload_n (pc := 13) X dX12_comparing_13 rfl (s_aload_n (pc := 14) X dX12_comparing_14 rfl (s_getI (pc := 15) X dX12_comparing_15 g_X12_376 (s_iast (pc := 18) X dX12_comparing_18 h_92 (s_aload_n (pc := 19) X dX12_comparing_19 rfl (s_bipush (pc := 20) X dX12_comparing_20 rfl (s_callV (pc := 22) X dX12_comparing_22 (S_X12_isSign _) q_X12_385 h_64 rfl (hR _ _ (by decide)) (s_if_ne (pc := 25) X dX12_comparing_25 (by decide) (s_jmp (pc := 52) J [true, true]) (s_aload_n (pc := 28) X dX12_comparing_28 rfl (s_bipush (pc := 29) X dX12_comparing_29 rfl (s_callV (pc := 31) X dX12_comparing_31 (S_X12_isSign _) q_X12_385 h_64 rfl (hR _ _ (by decide)) (s_if_ne (pc := 34) X dX12_comparing_34 (by decide) (s_jmp (pc := 52) J [true, true]) (s_aload_n (pc := 37) X dX12_comparing_37 rfl (s_bipush (pc := 38) X dX12_comparing_38 rfl (s_callV (pc := 40) X dX12_comparing_40 (S_X12_isSign _) q_X12_385 h_64 rfl (hR _ _ (by decide)) (s_if_ne (pc := 43) X dX12_comparing_43 (by decide) (s_jmp (pc := 52) J [true, true]) (s_aload_n (pc := 46) X dX12_comparing_46 rfl (s_iconst (pc := 47) X dX12_comparing_47 rfl (s_callV (pc := 48) X dX12_comparing_48 (S_X12_fails _) q_X12_370 h_64 rfl (hR _ _ (by decide)) (s_zret (pc := 51) X E hr dX12_comparing_51)))))))))))))))))))))) (s_iconst (pc := 7) X dX12_comparing_7 rfl (s_zret (pc := 8) X E hr dX12_comparing_8))))), List.forall_mem_cons.mpr ⟨(s_aload_n (pc := 52) X dX12_comparing_52 rfl (s_getR (pc := 53) X dX12_comparing_53 g_X12_114 (s_iload_n (pc := 56) X dX12_comparing_56 rfl (s_aload_n (pc := 57) X dX12_comparing_57 rfl (s_getI (pc := 58) X dX12_comparing_58 g_X12_330 (s_iast (pc := 61) X dX12_comparing_61 h_94 (s_aload_n (pc := 62) X dX12_comparing_62 rfl (s_callV (pc := 63) X dX12_comparing_63 (S_X12_next _) q_X12_373 h_64 rfl (hR _ _ (by decide)) (s_aload_n (pc := 66) X dX12_comparing_66 rfl (s_callV (pc := 67) X dX12_comparing_67 (S_X12_sum _) q_X12_400 h_64 rfl (hR _ _ (by decide)) (s_if_ne (pc := 70) X dX12_comparing_70 (by decide) (s_aload_n (pc := 75) X dX12_comparing_75 rfl (s_getR (pc := 76) X dX12_comparing_76 g_X12_111 (s_iload_n (pc := 79) X dX12_comparing_79 rfl (s_aload_n (pc := 80) X dX12_comparing_80 rfl (s_getI (pc := 81) X dX12_comparing_81 g_X12_376 (s_iast (pc := 84) X dX12_comparing_84 h_93 (s_iconst (pc := 85) X dX12_comparing_85 rfl (s_zret (pc := 86) X E hr dX12_comparing_86)))))))) (s_iconst (pc := 73) X dX12_comparing_73 rfl (s_zret (pc := 74) X E hr dX12_comparing_74))))))))))))), fun _ h => absurd h List.not_mem_nil⟩⟩)
theorem dX12_one_0 : decode cX12_one 0 = .ok (.aload_n 0, 1) := by decide +kernel
theorem dX12_one_1 : decode cX12_one 1 = .ok (.getfield 388, 3) := by decide +kernel
theorem dX12_one_4 : decode cX12_one 4 = .ok (.istore_n 2, 1) := by decide +kernel
theorem dX12_one_5 : decode cX12_one 5 = .ok (.aload_n 0, 1) := by decide +kernel
theorem dX12_one_6 : decode cX12_one 6 = .ok (.getfield 123, 3) := by decide +kernel
theorem dX12_one_9 : decode cX12_one 9 = .ok (.iload_n 2, 1) := by decide +kernel
theorem dX12_one_10 : decode cX12_one 10 = .ok (.iload_n 1, 1) := by decide +kernel
theorem dX12_one_11 : decode cX12_one 11 = .ok (.bastore, 1) := by decide +kernel
theorem dX12_one_12 : decode cX12_one 12 = .ok (.aload_n 0, 1) := by decide +kernel
theorem dX12_one_13 : decode cX12_one 13 = .ok (.getfield 120, 3) := by decide +kernel
theorem dX12_one_16 : decode cX12_one 16 = .ok (.iload_n 2, 1) := by decide +kernel
theorem dX12_one_17 : decode cX12_one 17 = .ok (.aload_n 0, 1) := by decide +kernel
theorem dX12_one_18 : decode cX12_one 18 = .ok (.bipush 6, 2) := by decide +kernel
theorem dX12_one_20 : decode cX12_one 20 = .ok (.invokevirtual 367, 3) := by decide +kernel
theorem dX12_one_23 : decode cX12_one 23 = .ok (.bastore, 1) := by decide +kernel
theorem dX12_one_24 : decode cX12_one 24 = .ok (.aload_n 0, 1) := by decide +kernel
theorem dX12_one_25 : decode cX12_one 25 = .ok (.getfield 120, 3) := by decide +kernel
theorem dX12_one_28 : decode cX12_one 28 = .ok (.iload_n 2, 1) := by decide +kernel
theorem dX12_one_29 : decode cX12_one 29 = .ok (.baload, 1) := by decide +kernel
theorem dX12_one_30 : decode cX12_one 30 = .ok (.ifCond .eq 7, 3) := by decide +kernel
theorem dX12_one_33 : decode cX12_one 33 = .ok (.aload_n 0, 1) := by decide +kernel
theorem dX12_one_34 : decode cX12_one 34 = .ok (.invokevirtual 373, 3) := by decide +kernel
theorem dX12_one_37 : decode cX12_one 37 = .ok (.aload_n 0, 1) := by decide +kernel
theorem dX12_one_38 : decode cX12_one 38 = .ok (.getfield 102, 3) := by decide +kernel
theorem dX12_one_41 : decode cX12_one 41 = .ok (.iload_n 2, 1) := by decide +kernel
theorem dX12_one_42 : decode cX12_one 42 = .ok (.aload_n 0, 1) := by decide +kernel
theorem dX12_one_43 : decode cX12_one 43 = .ok (.bipush 7, 2) := by decide +kernel
theorem dX12_one_45 : decode cX12_one 45 = .ok (.invokevirtual 367, 3) := by decide +kernel
theorem dX12_one_48 : decode cX12_one 48 = .ok (.ifCond .eq 7, 3) := by decide +kernel
theorem dX12_one_51 : decode cX12_one 51 = .ok (.iconst 1, 1) := by decide +kernel
theorem dX12_one_52 : decode cX12_one 52 = .ok (.goto 17, 3) := by decide +kernel
theorem dX12_one_55 : decode cX12_one 55 = .ok (.aload_n 0, 1) := by decide +kernel
theorem dX12_one_56 : decode cX12_one 56 = .ok (.bipush 8, 2) := by decide +kernel
theorem dX12_one_58 : decode cX12_one 58 = .ok (.invokevirtual 367, 3) := by decide +kernel
theorem dX12_one_61 : decode cX12_one 61 = .ok (.ifCond .eq 7, 3) := by decide +kernel
theorem dX12_one_64 : decode cX12_one 64 = .ok (.iconst 2, 1) := by decide +kernel
theorem dX12_one_65 : decode cX12_one 65 = .ok (.goto 4, 3) := by decide +kernel
theorem dX12_one_68 : decode cX12_one 68 = .ok (.iconst 0, 1) := by decide +kernel
theorem dX12_one_69 : decode cX12_one 69 = .ok (.iastore, 1) := by decide +kernel
theorem dX12_one_70 : decode cX12_one 70 = .ok (.aload_n 0, 1) := by decide +kernel
theorem dX12_one_71 : decode cX12_one 71 = .ok (.getfield 105, 3) := by decide +kernel
theorem dX12_one_74 : decode cX12_one 74 = .ok (.iload_n 2, 1) := by decide +kernel
theorem dX12_one_75 : decode cX12_one 75 = .ok (.aload_n 0, 1) := by decide +kernel
theorem dX12_one_76 : decode cX12_one 76 = .ok (.getfield 376, 3) := by decide +kernel
theorem dX12_one_79 : decode cX12_one 79 = .ok (.iastore, 1) := by decide +kernel
theorem dX12_one_80 : decode cX12_one 80 = .ok (.aload_n 0, 1) := by decide +kernel
theorem dX12_one_81 : decode cX12_one 81 = .ok (.getfield 102, 3) := by decide +kernel
theorem dX12_one_84 : decode cX12_one 84 = .ok (.iload_n 2, 1) := by decide +kernel
theorem dX12_one_85 : decode cX12_one 85 = .ok (.iaload, 1) := by decide +kernel
theorem dX12_one_86 : decode cX12_one 86 = .ok (.iconst 1, 1) := by decide +kernel
theorem dX12_one_87 : decode cX12_one 87 = .ok (.if_icmp .ne 11, 3) := by decide +kernel
theorem dX12_one_90 : decode cX12_one 90 = .ok (.aload_n 0, 1) := by decide +kernel
theorem dX12_one_91 : decode cX12_one 91 = .ok (.iload_n 2, 1) := by decide +kernel
theorem dX12_one_92 : decode cX12_one 92 = .ok (.invokevirtual 391, 3) := by decide +kernel
theorem dX12_one_95 : decode cX12_one 95 = .ok (.goto 27, 3) := by decide +kernel
theorem dX12_one_98 : decode cX12_one 98 = .ok (.aload_n 0, 1) := by decide +kernel
theorem dX12_one_99 : decode cX12_one 99 = .ok (.getfield 102, 3) := by decide +kernel
theorem dX12_one_102 : decode cX12_one 102 = .ok (.iload_n 2, 1) := by decide +kernel
theorem dX12_one_103 : decode cX12_one 103 = .ok (.iaload, 1) := by decide +kernel
theorem dX12_one_104 : decode cX12_one 104 = .ok (.iconst 2, 1) := by decide +kernel
theorem dX12_one_105 : decode cX12_one 105 = .ok (.if_icmp .ne 12, 3) := by decide +kernel
theorem dX12_one_108 : decode cX12_one 108 = .ok (.aload_n 0, 1) := by decide +kernel
theorem dX12_one_109 : decode cX12_one 109 = .ok (.bipush 8, 2) := by decide +kernel
theorem dX12_one_111 : decode cX12_one 111 = .ok (.invokevirtual 394, 3) := by decide +kernel
theorem dX12_one_114 : decode cX12_one 114 = .ok (.goto 8, 3) := by decide +kernel
theorem dX12_one_117 : decode cX12_one 117 = .ok (.aload_n 0, 1) := by decide +kernel
theorem dX12_one_118 : decode cX12_one 118 = .ok (.iload_n 2, 1) := by decide +kernel
theorem dX12_one_119 : decode cX12_one 119 = .ok (.invokevirtual 397, 3) := by decide +kernel
theorem dX12_one_122 : decode cX12_one 122 = .ok (.istore_n 3, 1) := by decide +kernel
theorem dX12_one_123 : decode cX12_one 123 = .ok (.iload_n 3, 1) := by decide +kernel
theorem dX12_one_124 : decode cX12_one 124 = .ok (.ifCond .eq 13, 3) := by decide +kernel
theorem dX12_one_127 : decode cX12_one 127 = .ok (.aload_n 0, 1) := by decide +kernel
theorem dX12_one_128 : decode cX12_one 128 = .ok (.dup, 1) := by decide +kernel
theorem dX12_one_129 : decode cX12_one 129 = .ok (.getfield 388, 3) := by decide +kernel
theorem dX12_one_132 : decode cX12_one 132 = .ok (.iconst 1, 1) := by decide +kernel
theorem dX12_one_133 : decode cX12_one 133 = .ok (.iadd, 1) := by decide +kernel
theorem dX12_one_134 : decode cX12_one 134 = .ok (.putfield 388, 3) := by decide +kernel
theorem dX12_one_137 : decode cX12_one 137 = .ok (.iload_n 3, 1) := by decide +kernel
theorem dX12_one_138 : decode cX12_one 138 = .ok (.ireturn, 1) := by decide +kernel
noncomputable def B_X12_one_0 : pb_C := (i_aload 0 (i_getI 64 39 (i_istore 2 (i_aload 0 (i_getR 64 97 (i_iload 2 (i_iload 1 (i_ast 97 1500 (vp_nar .boolean) (i_aload 0 (i_getR 64 96 (i_iload 2 (i_aload 0 (i_const (.int 6) (i_callV 64 1 1 M_X12_isKey (i_ast 96 1500 (vp_nar .boolean) (i_aload 0 (i_getR 64 96 (i_iload 2 (i_ald 96 1500 (i_if_eq (i_jmp 37 [true, false, true, false]) (i_aload 0 (i_callV 64 0 0 M_X12_next (i_jmp 37 [true, false, true, false])))))))))))))))))))))))
noncomputable def B_X12_one_37 : pb_C := (i_aload 0 (i_getR 64 90 (i_iload 2 (i_aload 0 (i_const (.int 7) (i_callV 64 1 1 M_X12_isKey (i_if_eq (i_aload 0 (i_const (.int 8) (i_callV 64 1 1 M_X12_isKey (i_if_eq (i_const (.int 0) (i_jmp 69 [true, false, true, false])) (i_const (.int 2) (i_jmp 69 [true, false, true, false])))))) (i_const (.int 1) (i_jmp 69 [true, false, true, false])))))))))
noncomputable def B_X12_one_69 : pb_C := (i_ast 90 1500 (fun x => x) (i_aload 0 (i_getR 64 91 (i_iload 2 (i_aload 0 (i_getI 64 38 (i_ast 91 1500 (fun x => x) (i_aload 0 (i_getR 64 90 (i_iload 2 (i_ald 90 1500 (i_const (.int 1) (i_ic_ne (i_aload 0 (i_getR 64 90 (i_iload 2 (i_ald 90 1500 (i_const (.int 2) (i_ic_ne (i_aload 0 (i_iload 2 (i_callV 64 1 1 M_X12_comparing (i_jmp 122 [true, false, false, false])))) (i_aload 0 (i_const (.int 8) (i_callV 64 1 1 M_X12_wantKey (i_jmp 122 [true, false, false, false])))))))))) (i_aload 0 (i_iload 2 (i_callV 64 1 1 M_X12_name (i_jmp 122 [true, false, false, false])))))))))))))))))
noncomputable def B_X12_one_122 : pb_C := (i_istore 3 (i_iload 3 (i_if_eq (i_iload 3 i_zret) (i_aload 0 (i_dupR (i_getI 64 39 (i_const (.int 1) (i_ibin (· + ·) (i_putI 64 39 (i_iload 3 i_zret))))))))))
noncomputable def T_X12_one : Nat → pb_C := pb_tt [(0, B_X12_one_0), (37, B_X12_one_37), (69, B_X12_one_69), (122, B_X12_one_122)]
noncomputable def M_X12_one : pb_F := pb_M T_X12_one 4
set_option maxRecDepth 100000 in
set_option maxHeartbeats 4000000 in
theorem S_X12_one (l : Launch) : pb_Sound l yX12_one cX12_one 4 (some .boolean) 9 M_X12_one := by
  refine pb_sound_of (by decide) m_8_157 ?_
  intro Γ hl0 hRm0 hm X E hr J
  have hnL : ∀ j, j < 4 → j < Γ.2.2.2.2.2.2.2.2.2.2.2.1 := fun j h => by rw [hm]; exact h
  have hR : ∀ (d' mL : Nat), d' + 1 ≤ 9 ∧ 8 + (mL + 11) + d' * 64 ≤ 9 * 64 → (pb_rm d').frames + 1 ≤ Γ.2.2.2.1.frames ∧ 8 + (mL + 11) + (pb_rm d').locals ≤ Γ.2.2.2.1.locals := by rw [hRm0]; exact fun _ _ h => h
  have hRm : 1 ≤ 9 ∧ 64 ≤ 9 * 64 → 1 ≤ Γ.2.2.2.1.frames ∧ 64 ≤ Γ.2.2.2.1.locals := by rw [hRm0]; exact fun h => h
  exact pb_tt_snd _ (List.forall_mem_cons.mpr ⟨(s_aload_n (pc := 0) X dX12_one_0 rfl (s_getI (pc := 1) X dX12_one_1 g_X12_388 (s_istore_n (pc := 4) X dX12_one_4 rfl (hnL _ (by decide)) (s_aload_n (pc := 5) X dX12_one_5 rfl (s_getR (pc := 6) X dX12_one_6 g_X12_123 (s_iload_n (pc := 9) X dX12_one_9 rfl (s_iload_n (pc := 10) X dX12_one_10 rfl (s_zast (pc := 11) X dX12_one_11 h_97 (s_aload_n (pc := 12) X dX12_one_12 rfl (s_getR (pc := 13) X dX12_one_13 g_X12_120 (s_iload_n (pc := 16) X dX12_one_16 rfl (s_aload_n (pc := 17) X dX12_one_17 rfl (s_bipush (pc := 18) X dX12_one_18 rfl (s_callV (pc := 20) X dX12_one_20 (S_X12_isKey _) q_X12_367 h_64 rfl (hR _ _ (by decide)) (s_zast (pc := 23) X dX12_one_23 h_96 (s_aload_n (pc := 24) X dX12_one_24 rfl (s_getR (pc := 25) X dX12_one_25 g_X12_120 (s_iload_n (pc := 28) X dX12_one_28 rfl (s_zald (pc := 29) X dX12_one_29 h_96 (s_if_eq (pc := 30) X dX12_one_30 (by decide) (s_jmp (pc := 37) J [true, false, true, false]) (s_aload_n (pc := 33) X dX12_one_33 rfl (s_callV (pc := 34) X dX12_one_34 (S_X12_next _) q_X12_373 h_64 rfl (hR _ _ (by decide)) (s_jmp (pc := 37) J [true, false, true, false]))))))))))))))))))))))), List.forall_mem_cons.mpr ⟨(s_aload_n (pc := 37) X dX12_one_37 rfl (s_getR (pc := 38) X dX12_one_38 g_X12_102 (s_iload_n (pc := 41) X dX12_one_41 rfl (s_aload_n (pc := 42) X dX12_one_42 rfl (s_bipush (pc := 43) X dX12_one_43 rfl (s_callV (pc := 45) X dX12_one_45 (S_X12_isKey _) q_X12_367 h_64 rfl (hR _ _ (by decide)) (s_if_eq (pc := 48) X dX12_one_48 (by decide) (s_aload_n (pc := 55) X dX12_one_55 rfl (s_bipush (pc := 56) X dX12_one_56 rfl (s_callV (pc := 58) X dX12_one_58 (S_X12_isKey _) q_X12_367 h_64 rfl (hR _ _ (by decide)) (s_if_eq (pc := 61) X dX12_one_61 (by decide) (s_iconst (pc := 68) X dX12_one_68 rfl (s_jmp (pc := 69) J [true, false, true, false])) (s_iconst (pc := 64) X dX12_one_64 rfl (s_goto (pc := 65) X dX12_one_65 (by decide) (s_jmp (pc := 69) J [true, false, true, false]))))))) (s_iconst (pc := 51) X dX12_one_51 rfl (s_goto (pc := 52) X dX12_one_52 (by decide) (s_jmp (pc := 69) J [true, false, true, false])))))))))), List.forall_mem_cons.mpr ⟨(s_iast (pc := 69) X dX12_one_69 h_90 (s_aload_n (pc := 70) X dX12_one_70 rfl (s_getR (pc := 71) X dX12_one_71 g_X12_105 (s_iload_n (pc := 74) X dX12_one_74 rfl (s_aload_n (pc := 75) X dX12_one_75 rfl (s_getI (pc := 76) X dX12_one_76 g_X12_376 (s_iast (pc := 79) X dX12_one_79 h_91 (s_aload_n (pc := 80) X dX12_one_80 rfl (s_getR (pc := 81) X dX12_one_81 g_X12_102 (s_iload_n (pc := 84) X dX12_one_84 rfl (s_iald (pc := 85) X dX12_one_85 h_90 (s_iconst (pc := 86) X dX12_one_86 rfl (s_ic_ne (pc := 87) X dX12_one_87 (by decide) (s_aload_n (pc := 98) X dX12_one_98 rfl (s_getR (pc := 99) X dX12_one_99 g_X12_102 (s_iload_n (pc := 102) X dX12_one_102 rfl (s_iald (pc := 103) X dX12_one_103 h_90 (s_iconst (pc := 104) X dX12_one_104 rfl (s_ic_ne (pc := 105) X dX12_one_105 (by decide) (s_aload_n (pc := 117) X dX12_one_117 rfl (s_iload_n (pc := 118) X dX12_one_118 rfl (s_callV (pc := 119) X dX12_one_119 (S_X12_comparing _) q_X12_397 h_64 rfl (hR _ _ (by decide)) (s_jmp (pc := 122) J [true, false, false, false])))) (s_aload_n (pc := 108) X dX12_one_108 rfl (s_bipush (pc := 109) X dX12_one_109 rfl (s_callV (pc := 111) X dX12_one_111 (S_X12_wantKey _) q_X12_394 h_64 rfl (hR _ _ (by decide)) (s_goto (pc := 114) X dX12_one_114 (by decide) (s_jmp (pc := 122) J [true, false, false, false]))))))))))) (s_aload_n (pc := 90) X dX12_one_90 rfl (s_iload_n (pc := 91) X dX12_one_91 rfl (s_callV (pc := 92) X dX12_one_92 (S_X12_name _) q_X12_391 h_64 rfl (hR _ _ (by decide)) (s_goto (pc := 95) X dX12_one_95 (by decide) (s_jmp (pc := 122) J [true, false, false, false])))))))))))))))))), List.forall_mem_cons.mpr ⟨(s_istore_n (pc := 122) X dX12_one_122 rfl (hnL _ (by decide)) (s_iload_n (pc := 123) X dX12_one_123 rfl (s_if_eq (pc := 124) X dX12_one_124 (by decide) (s_iload_n (pc := 137) X dX12_one_137 rfl (s_zret (pc := 138) X E hr dX12_one_138)) (s_aload_n (pc := 127) X dX12_one_127 rfl (s_dupR (pc := 128) X dX12_one_128 (s_getI (pc := 129) X dX12_one_129 g_X12_388 (s_iconst (pc := 132) X dX12_one_132 rfl (s_iadd (pc := 133) X dX12_one_133 (s_putI (pc := 134) X dX12_one_134 p_X12_388 (s_iload_n (pc := 137) X dX12_one_137 rfl (s_zret (pc := 138) X E hr dX12_one_138))))))))))), fun _ h => absurd h List.not_mem_nil⟩⟩⟩⟩)
theorem dX12_test_0 : decode cX12_test 0 = .ok (.aload_n 0, 1) := by decide +kernel
theorem dX12_test_1 : decode cX12_test 1 = .ok (.iconst 1, 1) := by decide +kernel
theorem dX12_test_2 : decode cX12_test 2 = .ok (.invokevirtual 404, 3) := by decide +kernel
theorem dX12_test_5 : decode cX12_test 5 = .ok (.istore_n 1, 1) := by decide +kernel
theorem dX12_test_6 : decode cX12_test 6 = .ok (.iload_n 1, 1) := by decide +kernel
theorem dX12_test_7 : decode cX12_test 7 = .ok (.ifCond .eq 38, 3) := by decide +kernel
theorem dX12_test_10 : decode cX12_test 10 = .ok (.aload_n 0, 1) := by decide +kernel
theorem dX12_test_11 : decode cX12_test 11 = .ok (.iconst 4, 1) := by decide +kernel
theorem dX12_test_12 : decode cX12_test 12 = .ok (.invokevirtual 367, 3) := by decide +kernel
theorem dX12_test_15 : decode cX12_test 15 = .ok (.ifCond .ne 11, 3) := by decide +kernel
theorem dX12_test_18 : decode cX12_test 18 = .ok (.aload_n 0, 1) := by decide +kernel
theorem dX12_test_19 : decode cX12_test 19 = .ok (.iconst 5, 1) := by decide +kernel
theorem dX12_test_20 : decode cX12_test 20 = .ok (.invokevirtual 367, 3) := by decide +kernel
theorem dX12_test_23 : decode cX12_test 23 = .ok (.ifCond .eq 22, 3) := by decide +kernel
theorem dX12_test_26 : decode cX12_test 26 = .ok (.aload_n 0, 1) := by decide +kernel
theorem dX12_test_27 : decode cX12_test 27 = .ok (.iconst 4, 1) := by decide +kernel
theorem dX12_test_28 : decode cX12_test 28 = .ok (.invokevirtual 367, 3) := by decide +kernel
theorem dX12_test_31 : decode cX12_test 31 = .ok (.istore_n 2, 1) := by decide +kernel
theorem dX12_test_32 : decode cX12_test 32 = .ok (.aload_n 0, 1) := by decide +kernel
theorem dX12_test_33 : decode cX12_test 33 = .ok (.invokevirtual 373, 3) := by decide +kernel
theorem dX12_test_36 : decode cX12_test 36 = .ok (.aload_n 0, 1) := by decide +kernel
theorem dX12_test_37 : decode cX12_test 37 = .ok (.iload_n 2, 1) := by decide +kernel
theorem dX12_test_38 : decode cX12_test 38 = .ok (.invokevirtual 404, 3) := by decide +kernel
theorem dX12_test_41 : decode cX12_test 41 = .ok (.istore_n 1, 1) := by decide +kernel
theorem dX12_test_42 : decode cX12_test 42 = .ok (.goto (-36), 3) := by decide +kernel
theorem dX12_test_45 : decode cX12_test 45 = .ok (.iload_n 1, 1) := by decide +kernel
theorem dX12_test_46 : decode cX12_test 46 = .ok (.ireturn, 1) := by decide +kernel
noncomputable def B_X12_test_0 : pb_C := (i_aload 0 (i_const (.int 1) (i_callV 64 1 1 M_X12_one (i_istore 1 (i_jmp 6 [true, true, false])))))
noncomputable def B_X12_test_6 : pb_C := (i_iload 1 (i_if_eq (i_iload 1 i_zret) (i_aload 0 (i_const (.int 4) (i_callV 64 1 1 M_X12_isKey (i_if_ne (i_aload 0 (i_const (.int 4) (i_callV 64 1 1 M_X12_isKey (i_istore 2 (i_aload 0 (i_callV 64 0 0 M_X12_next (i_aload 0 (i_iload 2 (i_callV 64 1 1 M_X12_one (i_istore 1 (i_jmp 6 [true, true, false]))))))))))) (i_aload 0 (i_const (.int 5) (i_callV 64 1 1 M_X12_isKey (i_if_eq (i_iload 1 i_zret) (i_aload 0 (i_const (.int 4) (i_callV 64 1 1 M_X12_isKey (i_istore 2 (i_aload 0 (i_callV 64 0 0 M_X12_next (i_aload 0 (i_iload 2 (i_callV 64 1 1 M_X12_one (i_istore 1 (i_jmp 6 [true, true, false])))))))))))))))))))))
noncomputable def T_X12_test : Nat → pb_C := pb_tt [(0, B_X12_test_0), (6, B_X12_test_6)]
noncomputable def M_X12_test : pb_F := pb_M T_X12_test 3
set_option maxRecDepth 100000 in
set_option maxHeartbeats 4000000 in
theorem S_X12_test (l : Launch) : pb_Sound l yX12_test cX12_test 3 (some .boolean) 10 M_X12_test := by
  refine pb_sound_of (by decide) m_8_153 ?_
  intro Γ hl0 hRm0 hm X E hr J
  have hnL : ∀ j, j < 3 → j < Γ.2.2.2.2.2.2.2.2.2.2.2.1 := fun j h => by rw [hm]; exact h
  have hR : ∀ (d' mL : Nat), d' + 1 ≤ 10 ∧ 8 + (mL + 11) + d' * 64 ≤ 10 * 64 → (pb_rm d').frames + 1 ≤ Γ.2.2.2.1.frames ∧ 8 + (mL + 11) + (pb_rm d').locals ≤ Γ.2.2.2.1.locals := by rw [hRm0]; exact fun _ _ h => h
  have hRm : 1 ≤ 10 ∧ 64 ≤ 10 * 64 → 1 ≤ Γ.2.2.2.1.frames ∧ 64 ≤ Γ.2.2.2.1.locals := by rw [hRm0]; exact fun h => h
  exact pb_tt_snd _ (List.forall_mem_cons.mpr ⟨(s_aload_n (pc := 0) X dX12_test_0 rfl (s_iconst (pc := 1) X dX12_test_1 rfl (s_callV (pc := 2) X dX12_test_2 (S_X12_one _) q_X12_404 h_64 rfl (hR _ _ (by decide)) (s_istore_n (pc := 5) X dX12_test_5 rfl (hnL _ (by decide)) (s_jmp (pc := 6) J [true, true, false]))))), List.forall_mem_cons.mpr ⟨(s_iload_n (pc := 6) X dX12_test_6 rfl (s_if_eq (pc := 7) X dX12_test_7 (by decide) (s_iload_n (pc := 45) X dX12_test_45 rfl (s_zret (pc := 46) X E hr dX12_test_46)) (s_aload_n (pc := 10) X dX12_test_10 rfl (s_iconst (pc := 11) X dX12_test_11 rfl (s_callV (pc := 12) X dX12_test_12 (S_X12_isKey _) q_X12_367 h_64 rfl (hR _ _ (by decide)) (s_if_ne (pc := 15) X dX12_test_15 (by decide) (s_aload_n (pc := 26) X dX12_test_26 rfl (s_iconst (pc := 27) X dX12_test_27 rfl (s_callV (pc := 28) X dX12_test_28 (S_X12_isKey _) q_X12_367 h_64 rfl (hR _ _ (by decide)) (s_istore_n (pc := 31) X dX12_test_31 rfl (hnL _ (by decide)) (s_aload_n (pc := 32) X dX12_test_32 rfl (s_callV (pc := 33) X dX12_test_33 (S_X12_next _) q_X12_373 h_64 rfl (hR _ _ (by decide)) (s_aload_n (pc := 36) X dX12_test_36 rfl (s_iload_n (pc := 37) X dX12_test_37 rfl (s_callV (pc := 38) X dX12_test_38 (S_X12_one _) q_X12_404 h_64 rfl (hR _ _ (by decide)) (s_istore_n (pc := 41) X dX12_test_41 rfl (hnL _ (by decide)) (s_goto (pc := 42) X dX12_test_42 (by decide) (s_jmp (pc := 6) J [true, true, false])))))))))))) (s_aload_n (pc := 18) X dX12_test_18 rfl (s_iconst (pc := 19) X dX12_test_19 rfl (s_callV (pc := 20) X dX12_test_20 (S_X12_isKey _) q_X12_367 h_64 rfl (hR _ _ (by decide)) (s_if_eq (pc := 23) X dX12_test_23 (by decide) (s_iload_n (pc := 45) X dX12_test_45 rfl (s_zret (pc := 46) X E hr dX12_test_46)) (s_aload_n (pc := 26) X dX12_test_26 rfl (s_iconst (pc := 27) X dX12_test_27 rfl (s_callV (pc := 28) X dX12_test_28 (S_X12_isKey _) q_X12_367 h_64 rfl (hR _ _ (by decide)) (s_istore_n (pc := 31) X dX12_test_31 rfl (hnL _ (by decide)) (s_aload_n (pc := 32) X dX12_test_32 rfl (s_callV (pc := 33) X dX12_test_33 (S_X12_next _) q_X12_373 h_64 rfl (hR _ _ (by decide)) (s_aload_n (pc := 36) X dX12_test_36 rfl (s_iload_n (pc := 37) X dX12_test_37 rfl (s_callV (pc := 38) X dX12_test_38 (S_X12_one _) q_X12_404 h_64 rfl (hR _ _ (by decide)) (s_istore_n (pc := 41) X dX12_test_41 rfl (hnL _ (by decide)) (s_goto (pc := 42) X dX12_test_42 (by decide) (s_jmp (pc := 6) J [true, true, false])))))))))))))))))))))), fun _ h => absurd h List.not_mem_nil⟩⟩)
theorem dX12_rule_0 : decode cX12_rule 0 = .ok (.aload_n 0, 1) := by decide +kernel
theorem dX12_rule_1 : decode cX12_rule 1 = .ok (.iconst 0, 1) := by decide +kernel
theorem dX12_rule_2 : decode cX12_rule 2 = .ok (.invokevirtual 367, 3) := by decide +kernel
theorem dX12_rule_5 : decode cX12_rule 5 = .ok (.ifCond .ne 9, 3) := by decide +kernel
theorem dX12_rule_8 : decode cX12_rule 8 = .ok (.aload_n 0, 1) := by decide +kernel
theorem dX12_rule_9 : decode cX12_rule 9 = .ok (.iconst 2, 1) := by decide +kernel
theorem dX12_rule_10 : decode cX12_rule 10 = .ok (.invokevirtual 370, 3) := by decide +kernel
theorem dX12_rule_13 : decode cX12_rule 13 = .ok (.ireturn, 1) := by decide +kernel
theorem dX12_rule_14 : decode cX12_rule 14 = .ok (.aload_n 0, 1) := by decide +kernel
theorem dX12_rule_15 : decode cX12_rule 15 = .ok (.getfield 84, 3) := by decide +kernel
theorem dX12_rule_18 : decode cX12_rule 18 = .ok (.aload_n 0, 1) := by decide +kernel
theorem dX12_rule_19 : decode cX12_rule 19 = .ok (.getfield 408, 3) := by decide +kernel
theorem dX12_rule_22 : decode cX12_rule 22 = .ok (.iaload, 1) := by decide +kernel
theorem dX12_rule_23 : decode cX12_rule 23 = .ok (.bipush 30, 2) := by decide +kernel
theorem dX12_rule_25 : decode cX12_rule 25 = .ok (.if_icmp .ne 9, 3) := by decide +kernel
theorem dX12_rule_28 : decode cX12_rule 28 = .ok (.aload_n 0, 1) := by decide +kernel
theorem dX12_rule_29 : decode cX12_rule 29 = .ok (.iconst 4, 1) := by decide +kernel
theorem dX12_rule_30 : decode cX12_rule 30 = .ok (.invokevirtual 370, 3) := by decide +kernel
theorem dX12_rule_33 : decode cX12_rule 33 = .ok (.ireturn, 1) := by decide +kernel
theorem dX12_rule_34 : decode cX12_rule 34 = .ok (.bipush 30, 2) := by decide +kernel
theorem dX12_rule_36 : decode cX12_rule 36 = .ok (.aload_n 0, 1) := by decide +kernel
theorem dX12_rule_37 : decode cX12_rule 37 = .ok (.getfield 408, 3) := by decide +kernel
theorem dX12_rule_40 : decode cX12_rule 40 = .ok (.imul, 1) := by decide +kernel
theorem dX12_rule_41 : decode cX12_rule 41 = .ok (.aload_n 0, 1) := by decide +kernel
theorem dX12_rule_42 : decode cX12_rule 42 = .ok (.getfield 84, 3) := by decide +kernel
theorem dX12_rule_45 : decode cX12_rule 45 = .ok (.aload_n 0, 1) := by decide +kernel
theorem dX12_rule_46 : decode cX12_rule 46 = .ok (.getfield 408, 3) := by decide +kernel
theorem dX12_rule_49 : decode cX12_rule 49 = .ok (.iaload, 1) := by decide +kernel
theorem dX12_rule_50 : decode cX12_rule 50 = .ok (.iadd, 1) := by decide +kernel
theorem dX12_rule_51 : decode cX12_rule 51 = .ok (.istore_n 1, 1) := by decide +kernel
theorem dX12_rule_52 : decode cX12_rule 52 = .ok (.aload_n 0, 1) := by decide +kernel
theorem dX12_rule_53 : decode cX12_rule 53 = .ok (.invokevirtual 373, 3) := by decide +kernel
theorem dX12_rule_56 : decode cX12_rule 56 = .ok (.aload_n 0, 1) := by decide +kernel
theorem dX12_rule_57 : decode cX12_rule 57 = .ok (.getfield 87, 3) := by decide +kernel
theorem dX12_rule_60 : decode cX12_rule 60 = .ok (.iload_n 1, 1) := by decide +kernel
theorem dX12_rule_61 : decode cX12_rule 61 = .ok (.aload_n 0, 1) := by decide +kernel
theorem dX12_rule_62 : decode cX12_rule 62 = .ok (.getfield 388, 3) := by decide +kernel
theorem dX12_rule_65 : decode cX12_rule 65 = .ok (.iastore, 1) := by decide +kernel
theorem dX12_rule_66 : decode cX12_rule 66 = .ok (.aload_n 0, 1) := by decide +kernel
theorem dX12_rule_67 : decode cX12_rule 67 = .ok (.invokevirtual 411, 3) := by decide +kernel
theorem dX12_rule_70 : decode cX12_rule 70 = .ok (.ifCond .ne 5, 3) := by decide +kernel
theorem dX12_rule_73 : decode cX12_rule 73 = .ok (.iconst 0, 1) := by decide +kernel
theorem dX12_rule_74 : decode cX12_rule 74 = .ok (.ireturn, 1) := by decide +kernel
theorem dX12_rule_75 : decode cX12_rule 75 = .ok (.aload_n 0, 1) := by decide +kernel
theorem dX12_rule_76 : decode cX12_rule 76 = .ok (.getfield 90, 3) := by decide +kernel
theorem dX12_rule_79 : decode cX12_rule 79 = .ok (.iload_n 1, 1) := by decide +kernel
theorem dX12_rule_80 : decode cX12_rule 80 = .ok (.aload_n 0, 1) := by decide +kernel
theorem dX12_rule_81 : decode cX12_rule 81 = .ok (.getfield 388, 3) := by decide +kernel
theorem dX12_rule_84 : decode cX12_rule 84 = .ok (.iastore, 1) := by decide +kernel
theorem dX12_rule_85 : decode cX12_rule 85 = .ok (.aload_n 0, 1) := by decide +kernel
theorem dX12_rule_86 : decode cX12_rule 86 = .ok (.iconst 1, 1) := by decide +kernel
theorem dX12_rule_87 : decode cX12_rule 87 = .ok (.invokevirtual 394, 3) := by decide +kernel
theorem dX12_rule_90 : decode cX12_rule 90 = .ok (.ifCond .eq 11, 3) := by decide +kernel
theorem dX12_rule_93 : decode cX12_rule 93 = .ok (.aload_n 0, 1) := by decide +kernel
theorem dX12_rule_94 : decode cX12_rule 94 = .ok (.iconst 2, 1) := by decide +kernel
theorem dX12_rule_95 : decode cX12_rule 95 = .ok (.invokevirtual 394, 3) := by decide +kernel
theorem dX12_rule_98 : decode cX12_rule 98 = .ok (.ifCond .ne 5, 3) := by decide +kernel
theorem dX12_rule_101 : decode cX12_rule 101 = .ok (.iconst 0, 1) := by decide +kernel
theorem dX12_rule_102 : decode cX12_rule 102 = .ok (.ireturn, 1) := by decide +kernel
theorem dX12_rule_103 : decode cX12_rule 103 = .ok (.aload_n 0, 1) := by decide +kernel
theorem dX12_rule_104 : decode cX12_rule 104 = .ok (.getfield 93, 3) := by decide +kernel
theorem dX12_rule_107 : decode cX12_rule 107 = .ok (.iload_n 1, 1) := by decide +kernel
theorem dX12_rule_108 : decode cX12_rule 108 = .ok (.aload_n 0, 1) := by decide +kernel
theorem dX12_rule_109 : decode cX12_rule 109 = .ok (.getfield 376, 3) := by decide +kernel
theorem dX12_rule_112 : decode cX12_rule 112 = .ok (.iastore, 1) := by decide +kernel
theorem dX12_rule_113 : decode cX12_rule 113 = .ok (.aload_n 0, 1) := by decide +kernel
theorem dX12_rule_114 : decode cX12_rule 114 = .ok (.invokevirtual 400, 3) := by decide +kernel
theorem dX12_rule_117 : decode cX12_rule 117 = .ok (.ifCond .ne 5, 3) := by decide +kernel
theorem dX12_rule_120 : decode cX12_rule 120 = .ok (.iconst 0, 1) := by decide +kernel
theorem dX12_rule_121 : decode cX12_rule 121 = .ok (.ireturn, 1) := by decide +kernel
theorem dX12_rule_122 : decode cX12_rule 122 = .ok (.aload_n 0, 1) := by decide +kernel
theorem dX12_rule_123 : decode cX12_rule 123 = .ok (.getfield 96, 3) := by decide +kernel
theorem dX12_rule_126 : decode cX12_rule 126 = .ok (.iload_n 1, 1) := by decide +kernel
theorem dX12_rule_127 : decode cX12_rule 127 = .ok (.aload_n 0, 1) := by decide +kernel
theorem dX12_rule_128 : decode cX12_rule 128 = .ok (.getfield 376, 3) := by decide +kernel
theorem dX12_rule_131 : decode cX12_rule 131 = .ok (.iastore, 1) := by decide +kernel
theorem dX12_rule_132 : decode cX12_rule 132 = .ok (.aload_n 0, 1) := by decide +kernel
theorem dX12_rule_133 : decode cX12_rule 133 = .ok (.iconst 3, 1) := by decide +kernel
theorem dX12_rule_134 : decode cX12_rule 134 = .ok (.invokevirtual 367, 3) := by decide +kernel
theorem dX12_rule_137 : decode cX12_rule 137 = .ok (.ifCond .eq 16, 3) := by decide +kernel
theorem dX12_rule_140 : decode cX12_rule 140 = .ok (.aload_n 0, 1) := by decide +kernel
theorem dX12_rule_141 : decode cX12_rule 141 = .ok (.invokevirtual 373, 3) := by decide +kernel
theorem dX12_rule_144 : decode cX12_rule 144 = .ok (.aload_n 0, 1) := by decide +kernel
theorem dX12_rule_145 : decode cX12_rule 145 = .ok (.invokevirtual 400, 3) := by decide +kernel
theorem dX12_rule_148 : decode cX12_rule 148 = .ok (.ifCond .ne 5, 3) := by decide +kernel
theorem dX12_rule_151 : decode cX12_rule 151 = .ok (.iconst 0, 1) := by decide +kernel
theorem dX12_rule_152 : decode cX12_rule 152 = .ok (.ireturn, 1) := by decide +kernel
theorem dX12_rule_153 : decode cX12_rule 153 = .ok (.aload_n 0, 1) := by decide +kernel
theorem dX12_rule_154 : decode cX12_rule 154 = .ok (.getfield 99, 3) := by decide +kernel
theorem dX12_rule_157 : decode cX12_rule 157 = .ok (.iload_n 1, 1) := by decide +kernel
theorem dX12_rule_158 : decode cX12_rule 158 = .ok (.aload_n 0, 1) := by decide +kernel
theorem dX12_rule_159 : decode cX12_rule 159 = .ok (.getfield 376, 3) := by decide +kernel
theorem dX12_rule_162 : decode cX12_rule 162 = .ok (.iastore, 1) := by decide +kernel
theorem dX12_rule_163 : decode cX12_rule 163 = .ok (.aload_n 0, 1) := by decide +kernel
theorem dX12_rule_164 : decode cX12_rule 164 = .ok (.bipush 59, 2) := by decide +kernel
theorem dX12_rule_166 : decode cX12_rule 166 = .ok (.invokevirtual 385, 3) := by decide +kernel
theorem dX12_rule_169 : decode cX12_rule 169 = .ok (.ifCond .ne 9, 3) := by decide +kernel
theorem dX12_rule_172 : decode cX12_rule 172 = .ok (.aload_n 0, 1) := by decide +kernel
theorem dX12_rule_173 : decode cX12_rule 173 = .ok (.iconst 2, 1) := by decide +kernel
theorem dX12_rule_174 : decode cX12_rule 174 = .ok (.invokevirtual 370, 3) := by decide +kernel
theorem dX12_rule_177 : decode cX12_rule 177 = .ok (.ireturn, 1) := by decide +kernel
theorem dX12_rule_178 : decode cX12_rule 178 = .ok (.aload_n 0, 1) := by decide +kernel
theorem dX12_rule_179 : decode cX12_rule 179 = .ok (.invokevirtual 373, 3) := by decide +kernel
theorem dX12_rule_182 : decode cX12_rule 182 = .ok (.aload_n 0, 1) := by decide +kernel
theorem dX12_rule_183 : decode cX12_rule 183 = .ok (.getfield 84, 3) := by decide +kernel
theorem dX12_rule_186 : decode cX12_rule 186 = .ok (.aload_n 0, 1) := by decide +kernel
theorem dX12_rule_187 : decode cX12_rule 187 = .ok (.getfield 408, 3) := by decide +kernel
theorem dX12_rule_190 : decode cX12_rule 190 = .ok (.dup2, 1) := by decide +kernel
theorem dX12_rule_191 : decode cX12_rule 191 = .ok (.iaload, 1) := by decide +kernel
theorem dX12_rule_192 : decode cX12_rule 192 = .ok (.iconst 1, 1) := by decide +kernel
theorem dX12_rule_193 : decode cX12_rule 193 = .ok (.iadd, 1) := by decide +kernel
theorem dX12_rule_194 : decode cX12_rule 194 = .ok (.iastore, 1) := by decide +kernel
theorem dX12_rule_195 : decode cX12_rule 195 = .ok (.iconst 1, 1) := by decide +kernel
theorem dX12_rule_196 : decode cX12_rule 196 = .ok (.ireturn, 1) := by decide +kernel
noncomputable def B_X12_rule_0 : pb_C := (i_aload 0 (i_const (.int 0) (i_callV 64 1 1 M_X12_isKey (i_if_ne (i_aload 0 (i_getR 64 84 (i_aload 0 (i_getI 64 37 (i_ald 84 6 (i_const (.int 30) (i_ic_ne (i_const (.int 30) (i_aload 0 (i_getI 64 37 (i_ibin (· * ·) (i_aload 0 (i_getR 64 84 (i_aload 0 (i_getI 64 37 (i_ald 84 6 (i_ibin (· + ·) (i_istore 1 (i_aload 0 (i_callV 64 0 0 M_X12_next (i_aload 0 (i_getR 64 85 (i_iload 1 (i_aload 0 (i_getI 64 39 (i_ast 85 186 (fun x => x) (i_aload 0 (i_callV 64 0 1 M_X12_test (i_if_ne (i_aload 0 (i_getR 64 86 (i_iload 1 (i_aload 0 (i_getI 64 39 (i_ast 86 186 (fun x => x) (i_aload 0 (i_const (.int 1) (i_callV 64 1 1 M_X12_wantKey (i_if_eq (i_const (.int 0) i_zret) (i_aload 0 (i_const (.int 2) (i_callV 64 1 1 M_X12_wantKey (i_if_ne (i_aload 0 (i_getR 64 87 (i_iload 1 (i_aload 0 (i_getI 64 38 (i_ast 87 186 (fun x => x) (i_aload 0 (i_callV 64 0 1 M_X12_sum (i_if_ne (i_aload 0 (i_getR 64 88 (i_iload 1 (i_aload 0 (i_getI 64 38 (i_ast 88 186 (fun x => x) (i_aload 0 (i_const (.int 3) (i_callV 64 1 1 M_X12_isKey (i_if_eq (i_jmp 153 [true, true]) (i_aload 0 (i_callV 64 0 0 M_X12_next (i_aload 0 (i_callV 64 0 1 M_X12_sum (i_if_ne (i_jmp 153 [true, true]) (i_const (.int 0) i_zret)))))))))))))))) (i_const (.int 0) i_zret)))))))))) (i_const (.int 0) i_zret))))))))))))))) (i_const (.int 0) i_zret))))))))))))))))))))))) (i_aload 0 (i_const (.int 4) (i_callV 64 1 1 M_X12_fails i_zret)))))))))) (i_aload 0 (i_const (.int 2) (i_callV 64 1 1 M_X12_fails i_zret)))))))
noncomputable def B_X12_rule_153 : pb_C := (i_aload 0 (i_getR 64 89 (i_iload 1 (i_aload 0 (i_getI 64 38 (i_ast 89 186 (fun x => x) (i_aload 0 (i_const (.int 59) (i_callV 64 1 1 M_X12_isSign (i_if_ne (i_aload 0 (i_callV 64 0 0 M_X12_next (i_aload 0 (i_getR 64 84 (i_aload 0 (i_getI 64 37 (i_dup2 (i_ald 84 6 (i_const (.int 1) (i_ibin (· + ·) (i_ast 84 6 (fun x => x) (i_const (.int 1) i_zret)))))))))))) (i_aload 0 (i_const (.int 2) (i_callV 64 1 1 M_X12_fails i_zret)))))))))))))
noncomputable def T_X12_rule : Nat → pb_C := pb_tt [(0, B_X12_rule_0), (153, B_X12_rule_153)]
noncomputable def M_X12_rule : pb_F := pb_M T_X12_rule 2
set_option maxRecDepth 100000 in
set_option maxHeartbeats 4000000 in
theorem S_X12_rule (l : Launch) : pb_Sound l yX12_rule cX12_rule 2 (some .boolean) 11 M_X12_rule := by
  refine pb_sound_of (by decide) m_8_115 ?_
  intro Γ hl0 hRm0 hm X E hr J
  have hnL : ∀ j, j < 2 → j < Γ.2.2.2.2.2.2.2.2.2.2.2.1 := fun j h => by rw [hm]; exact h
  have hR : ∀ (d' mL : Nat), d' + 1 ≤ 11 ∧ 8 + (mL + 11) + d' * 64 ≤ 11 * 64 → (pb_rm d').frames + 1 ≤ Γ.2.2.2.1.frames ∧ 8 + (mL + 11) + (pb_rm d').locals ≤ Γ.2.2.2.1.locals := by rw [hRm0]; exact fun _ _ h => h
  have hRm : 1 ≤ 11 ∧ 64 ≤ 11 * 64 → 1 ≤ Γ.2.2.2.1.frames ∧ 64 ≤ Γ.2.2.2.1.locals := by rw [hRm0]; exact fun h => h
  exact pb_tt_snd _ (List.forall_mem_cons.mpr ⟨(s_aload_n (pc := 0) X dX12_rule_0 rfl (s_iconst (pc := 1) X dX12_rule_1 rfl (s_callV (pc := 2) X dX12_rule_2 (S_X12_isKey _) q_X12_367 h_64 rfl (hR _ _ (by decide)) (s_if_ne (pc := 5) X dX12_rule_5 (by decide) (s_aload_n (pc := 14) X dX12_rule_14 rfl (s_getR (pc := 15) X dX12_rule_15 g_X12_84 (s_aload_n (pc := 18) X dX12_rule_18 rfl (s_getI (pc := 19) X dX12_rule_19 g_X12_408 (s_iald (pc := 22) X dX12_rule_22 h_84 (s_bipush (pc := 23) X dX12_rule_23 rfl (s_ic_ne (pc := 25) X dX12_rule_25 (by decide) (s_bipush (pc := 34) X dX12_rule_34 rfl (s_aload_n (pc := 36) X dX12_rule_36 rfl (s_getI (pc := 37) X dX12_rule_37 g_X12_408 (s_imul (pc := 40) X dX12_rule_40 (s_aload_n (pc := 41) X dX12_rule_41 rfl (s_getR (pc := 42) X dX12_rule_42 g_X12_84 (s_aload_n (pc := 45) X dX12_rule_45 rfl (s_getI (pc := 46) X dX12_rule_46 g_X12_408 (s_iald (pc := 49) X dX12_rule_49 h_84 (s_iadd (pc := 50) X dX12_rule_50 (s_istore_n (pc := 51) X dX12_rule_51 rfl (hnL _ (by decide)) (s_aload_n (pc := 52) X dX12_rule_52 rfl (s_callV (pc := 53) X dX12_rule_53 (S_X12_next _) q_X12_373 h_64 rfl (hR _ _ (by decide)) (s_aload_n (pc := 56) X dX12_rule_56 rfl (s_getR (pc := 57) X dX12_rule_57 g_X12_87 (s_iload_n (pc := 60) X dX12_rule_60 rfl (s_aload_n (pc := 61) X dX12_rule_61 rfl (s_getI (pc := 62) X dX12_rule_62 g_X12_388 (s_iast (pc := 65) X dX12_rule_65 h_85 (s_aload_n (pc := 66) X dX12_rule_66 rfl (s_callV (pc := 67) X dX12_rule_67 (S_X12_test _) q_X12_411 h_64 rfl (hR _ _ (by decide)) (s_if_ne (pc := 70) X dX12_rule_70 (by decide) (s_aload_n (pc := 75) X dX12_rule_75 rfl (s_getR (pc := 76) X dX12_rule_76 g_X12_90 (s_iload_n (pc := 79) X dX12_rule_79 rfl (s_aload_n (pc := 80) X dX12_rule_80 rfl (s_getI (pc := 81) X dX12_rule_81 g_X12_388 (s_iast (pc := 84) X dX12_rule_84 h_86 (s_aload_n (pc := 85) X dX12_rule_85 rfl (s_iconst (pc := 86) X dX12_rule_86 rfl (s_callV (pc := 87) X dX12_rule_87 (S_X12_wantKey _) q_X12_394 h_64 rfl (hR _ _ (by decide)) (s_if_eq (pc := 90) X dX12_rule_90 (by decide) (s_iconst (pc := 101) X dX12_rule_101 rfl (s_zret (pc := 102) X E hr dX12_rule_102)) (s_aload_n (pc := 93) X dX12_rule_93 rfl (s_iconst (pc := 94) X dX12_rule_94 rfl (s_callV (pc := 95) X dX12_rule_95 (S_X12_wantKey _) q_X12_394 h_64 rfl (hR _ _ (by decide)) (s_if_ne (pc := 98) X dX12_rule_98 (by decide) (s_aload_n (pc := 103) X dX12_rule_103 rfl (s_getR (pc := 104) X dX12_rule_104 g_X12_93 (s_iload_n (pc := 107) X dX12_rule_107 rfl (s_aload_n (pc := 108) X dX12_rule_108 rfl (s_getI (pc := 109) X dX12_rule_109 g_X12_376 (s_iast (pc := 112) X dX12_rule_112 h_87 (s_aload_n (pc := 113) X dX12_rule_113 rfl (s_callV (pc := 114) X dX12_rule_114 (S_X12_sum _) q_X12_400 h_64 rfl (hR _ _ (by decide)) (s_if_ne (pc := 117) X dX12_rule_117 (by decide) (s_aload_n (pc := 122) X dX12_rule_122 rfl (s_getR (pc := 123) X dX12_rule_123 g_X12_96 (s_iload_n (pc := 126) X dX12_rule_126 rfl (s_aload_n (pc := 127) X dX12_rule_127 rfl (s_getI (pc := 128) X dX12_rule_128 g_X12_376 (s_iast (pc := 131) X dX12_rule_131 h_88 (s_aload_n (pc := 132) X dX12_rule_132 rfl (s_iconst (pc := 133) X dX12_rule_133 rfl (s_callV (pc := 134) X dX12_rule_134 (S_X12_isKey _) q_X12_367 h_64 rfl (hR _ _ (by decide)) (s_if_eq (pc := 137) X dX12_rule_137 (by decide) (s_jmp (pc := 153) J [true, true]) (s_aload_n (pc := 140) X dX12_rule_140 rfl (s_callV (pc := 141) X dX12_rule_141 (S_X12_next _) q_X12_373 h_64 rfl (hR _ _ (by decide)) (s_aload_n (pc := 144) X dX12_rule_144 rfl (s_callV (pc := 145) X dX12_rule_145 (S_X12_sum _) q_X12_400 h_64 rfl (hR _ _ (by decide)) (s_if_ne (pc := 148) X dX12_rule_148 (by decide) (s_jmp (pc := 153) J [true, true]) (s_iconst (pc := 151) X dX12_rule_151 rfl (s_zret (pc := 152) X E hr dX12_rule_152))))))))))))))))) (s_iconst (pc := 120) X dX12_rule_120 rfl (s_zret (pc := 121) X E hr dX12_rule_121))))))))))) (s_iconst (pc := 101) X dX12_rule_101 rfl (s_zret (pc := 102) X E hr dX12_rule_102)))))))))))))))) (s_iconst (pc := 73) X dX12_rule_73 rfl (s_zret (pc := 74) X E hr dX12_rule_74)))))))))))))))))))))))) (s_aload_n (pc := 28) X dX12_rule_28 rfl (s_iconst (pc := 29) X dX12_rule_29 rfl (s_callV (pc := 30) X dX12_rule_30 (S_X12_fails _) q_X12_370 h_64 rfl (hR _ _ (by decide)) (s_zret (pc := 33) X E hr dX12_rule_33))))))))))) (s_aload_n (pc := 8) X dX12_rule_8 rfl (s_iconst (pc := 9) X dX12_rule_9 rfl (s_callV (pc := 10) X dX12_rule_10 (S_X12_fails _) q_X12_370 h_64 rfl (hR _ _ (by decide)) (s_zret (pc := 13) X E hr dX12_rule_13)))))))), List.forall_mem_cons.mpr ⟨(s_aload_n (pc := 153) X dX12_rule_153 rfl (s_getR (pc := 154) X dX12_rule_154 g_X12_99 (s_iload_n (pc := 157) X dX12_rule_157 rfl (s_aload_n (pc := 158) X dX12_rule_158 rfl (s_getI (pc := 159) X dX12_rule_159 g_X12_376 (s_iast (pc := 162) X dX12_rule_162 h_89 (s_aload_n (pc := 163) X dX12_rule_163 rfl (s_bipush (pc := 164) X dX12_rule_164 rfl (s_callV (pc := 166) X dX12_rule_166 (S_X12_isSign _) q_X12_385 h_64 rfl (hR _ _ (by decide)) (s_if_ne (pc := 169) X dX12_rule_169 (by decide) (s_aload_n (pc := 178) X dX12_rule_178 rfl (s_callV (pc := 179) X dX12_rule_179 (S_X12_next _) q_X12_373 h_64 rfl (hR _ _ (by decide)) (s_aload_n (pc := 182) X dX12_rule_182 rfl (s_getR (pc := 183) X dX12_rule_183 g_X12_84 (s_aload_n (pc := 186) X dX12_rule_186 rfl (s_getI (pc := 187) X dX12_rule_187 g_X12_408 (s_dup2 (pc := 190) X dX12_rule_190 (s_iald (pc := 191) X dX12_rule_191 h_84 (s_iconst (pc := 192) X dX12_rule_192 rfl (s_iadd (pc := 193) X dX12_rule_193 (s_iast (pc := 194) X dX12_rule_194 h_84 (s_iconst (pc := 195) X dX12_rule_195 rfl (s_zret (pc := 196) X E hr dX12_rule_196))))))))))))) (s_aload_n (pc := 172) X dX12_rule_172 rfl (s_iconst (pc := 173) X dX12_rule_173 rfl (s_callV (pc := 174) X dX12_rule_174 (S_X12_fails _) q_X12_370 h_64 rfl (hR _ _ (by decide)) (s_zret (pc := 177) X E hr dX12_rule_177)))))))))))))), fun _ h => absurd h List.not_mem_nil⟩⟩)
