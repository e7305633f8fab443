theorem dX12_edition_0 : decode cX12_edition 0 = .ok (.iload_n 1, 1) := by decide +kernel
theorem dX12_edition_1 : decode cX12_edition 1 = .ok (.ifCond .lt 11, 3) := by decide +kernel
theorem dX12_edition_4 : decode cX12_edition 4 = .ok (.iload_n 1, 1) := by decide +kernel
theorem dX12_edition_5 : decode cX12_edition 5 = .ok (.aload_n 0, 1) := by decide +kernel
theorem dX12_edition_6 : decode cX12_edition 6 = .ok (.getfield 311, 3) := by decide +kernel
theorem dX12_edition_9 : decode cX12_edition 9 = .ok (.if_icmp .le 9, 3) := by decide +kernel
theorem dX12_edition_12 : decode cX12_edition 12 = .ok (.aload_n 0, 1) := by decide +kernel
theorem dX12_edition_13 : decode cX12_edition 13 = .ok (.iconst 1, 1) := by decide +kernel
theorem dX12_edition_14 : decode cX12_edition 14 = .ok (.invokevirtual 267, 3) := by decide +kernel
theorem dX12_edition_17 : decode cX12_edition 17 = .ok (.ireturn, 1) := by decide +kernel
theorem dX12_edition_18 : decode cX12_edition 18 = .ok (.aload_n 0, 1) := by decide +kernel
theorem dX12_edition_19 : decode cX12_edition 19 = .ok (.getfield 408, 3) := by decide +kernel
theorem dX12_edition_22 : decode cX12_edition 22 = .ok (.iconst 5, 1) := by decide +kernel
theorem dX12_edition_23 : decode cX12_edition 23 = .ok (.if_icmp .ne 9, 3) := by decide +kernel
theorem dX12_edition_26 : decode cX12_edition 26 = .ok (.aload_n 0, 1) := by decide +kernel
theorem dX12_edition_27 : decode cX12_edition 27 = .ok (.iconst 4, 1) := by decide +kernel
theorem dX12_edition_28 : decode cX12_edition 28 = .ok (.invokevirtual 267, 3) := by decide +kernel
theorem dX12_edition_31 : decode cX12_edition 31 = .ok (.ireturn, 1) := by decide +kernel
theorem dX12_edition_32 : decode cX12_edition 32 = .ok (.aload_n 0, 1) := by decide +kernel
theorem dX12_edition_33 : decode cX12_edition 33 = .ok (.iload_n 1, 1) := by decide +kernel
theorem dX12_edition_34 : decode cX12_edition 34 = .ok (.putfield 318, 3) := by decide +kernel
theorem dX12_edition_37 : decode cX12_edition 37 = .ok (.iconst 0, 1) := by decide +kernel
theorem dX12_edition_38 : decode cX12_edition 38 = .ok (.istore_n 2, 1) := by decide +kernel
theorem dX12_edition_39 : decode cX12_edition 39 = .ok (.iload_n 2, 1) := by decide +kernel
theorem dX12_edition_40 : decode cX12_edition 40 = .ok (.iload_n 1, 1) := by decide +kernel
theorem dX12_edition_41 : decode cX12_edition 41 = .ok (.if_icmp .ge 21, 3) := by decide +kernel
theorem dX12_edition_44 : decode cX12_edition 44 = .ok (.aload_n 0, 1) := by decide +kernel
theorem dX12_edition_45 : decode cX12_edition 45 = .ok (.getfield 75, 3) := by decide +kernel
theorem dX12_edition_48 : decode cX12_edition 48 = .ok (.iload_n 2, 1) := by decide +kernel
theorem dX12_edition_49 : decode cX12_edition 49 = .ok (.aload_n 0, 1) := by decide +kernel
theorem dX12_edition_50 : decode cX12_edition 50 = .ok (.getfield 71, 3) := by decide +kernel
theorem dX12_edition_53 : decode cX12_edition 53 = .ok (.iload_n 2, 1) := by decide +kernel
theorem dX12_edition_54 : decode cX12_edition 54 = .ok (.baload, 1) := by decide +kernel
theorem dX12_edition_55 : decode cX12_edition 55 = .ok (.bastore, 1) := by decide +kernel
theorem dX12_edition_56 : decode cX12_edition 56 = .ok (.iinc 2 1, 3) := by decide +kernel
theorem dX12_edition_59 : decode cX12_edition 59 = .ok (.goto (-20), 3) := by decide +kernel
theorem dX12_edition_62 : decode cX12_edition 62 = .ok (.aload_n 0, 1) := by decide +kernel
theorem dX12_edition_63 : decode cX12_edition 63 = .ok (.iconst 0, 1) := by decide +kernel
theorem dX12_edition_64 : decode cX12_edition 64 = .ok (.putfield 311, 3) := by decide +kernel
theorem dX12_edition_67 : decode cX12_edition 67 = .ok (.aload_n 0, 1) := by decide +kernel
theorem dX12_edition_68 : decode cX12_edition 68 = .ok (.iconst 0, 1) := by decide +kernel
theorem dX12_edition_69 : decode cX12_edition 69 = .ok (.putfield 364, 3) := by decide +kernel
theorem dX12_edition_72 : decode cX12_edition 72 = .ok (.aload_n 0, 1) := by decide +kernel
theorem dX12_edition_73 : decode cX12_edition 73 = .ok (.iconst (-1), 1) := by decide +kernel
theorem dX12_edition_74 : decode cX12_edition 74 = .ok (.putfield 81, 3) := by decide +kernel
theorem dX12_edition_77 : decode cX12_edition 77 = .ok (.aload_n 0, 1) := by decide +kernel
theorem dX12_edition_78 : decode cX12_edition 78 = .ok (.iconst 0, 1) := by decide +kernel
theorem dX12_edition_79 : decode cX12_edition 79 = .ok (.putfield 321, 3) := by decide +kernel
theorem dX12_edition_82 : decode cX12_edition 82 = .ok (.aload_n 0, 1) := by decide +kernel
theorem dX12_edition_83 : decode cX12_edition 83 = .ok (.getfield 84, 3) := by decide +kernel
theorem dX12_edition_86 : decode cX12_edition 86 = .ok (.aload_n 0, 1) := by decide +kernel
theorem dX12_edition_87 : decode cX12_edition 87 = .ok (.getfield 408, 3) := by decide +kernel
theorem dX12_edition_90 : decode cX12_edition 90 = .ok (.iconst 0, 1) := by decide +kernel
theorem dX12_edition_91 : decode cX12_edition 91 = .ok (.iastore, 1) := by decide +kernel
theorem dX12_edition_92 : decode cX12_edition 92 = .ok (.aload_n 0, 1) := by decide +kernel
theorem dX12_edition_93 : decode cX12_edition 93 = .ok (.getfield 376, 3) := by decide +kernel
theorem dX12_edition_96 : decode cX12_edition 96 = .ok (.istore_n 2, 1) := by decide +kernel
theorem dX12_edition_97 : decode cX12_edition 97 = .ok (.aload_n 0, 1) := by decide +kernel
theorem dX12_edition_98 : decode cX12_edition 98 = .ok (.getfield 388, 3) := by decide +kernel
theorem dX12_edition_101 : decode cX12_edition 101 = .ok (.istore_n 3, 1) := by decide +kernel
theorem dX12_edition_102 : decode cX12_edition 102 = .ok (.aload_n 0, 1) := by decide +kernel
theorem dX12_edition_103 : decode cX12_edition 103 = .ok (.invokevirtual 373, 3) := by decide +kernel
theorem dX12_edition_106 : decode cX12_edition 106 = .ok (.aload_n 0, 1) := by decide +kernel
theorem dX12_edition_107 : decode cX12_edition 107 = .ok (.getfield 333, 3) := by decide +kernel
theorem dX12_edition_110 : decode cX12_edition 110 = .ok (.ifCond .eq 7, 3) := by decide +kernel
theorem dX12_edition_113 : decode cX12_edition 113 = .ok (.iconst 1, 1) := by decide +kernel
theorem dX12_edition_114 : decode cX12_edition 114 = .ok (.goto 4, 3) := by decide +kernel
theorem dX12_edition_117 : decode cX12_edition 117 = .ok (.iconst 0, 1) := by decide +kernel
theorem dX12_edition_118 : decode cX12_edition 118 = .ok (.istore 4, 2) := by decide +kernel
theorem dX12_edition_120 : decode cX12_edition 120 = .ok (.iload 4, 2) := by decide +kernel
theorem dX12_edition_122 : decode cX12_edition 122 = .ok (.ifCond .eq 27, 3) := by decide +kernel
theorem dX12_edition_125 : decode cX12_edition 125 = .ok (.aload_n 0, 1) := by decide +kernel
theorem dX12_edition_126 : decode cX12_edition 126 = .ok (.invokevirtual 414, 3) := by decide +kernel
theorem dX12_edition_129 : decode cX12_edition 129 = .ok (.ifCond .eq 14, 3) := by decide +kernel
theorem dX12_edition_132 : decode cX12_edition 132 = .ok (.aload_n 0, 1) := by decide +kernel
theorem dX12_edition_133 : decode cX12_edition 133 = .ok (.getfield 333, 3) := by decide +kernel
theorem dX12_edition_136 : decode cX12_edition 136 = .ok (.ifCond .eq 7, 3) := by decide +kernel
theorem dX12_edition_139 : decode cX12_edition 139 = .ok (.iconst 1, 1) := by decide +kernel
theorem dX12_edition_140 : decode cX12_edition 140 = .ok (.goto 4, 3) := by decide +kernel
theorem dX12_edition_143 : decode cX12_edition 143 = .ok (.iconst 0, 1) := by decide +kernel
theorem dX12_edition_144 : decode cX12_edition 144 = .ok (.istore 4, 2) := by decide +kernel
theorem dX12_edition_146 : decode cX12_edition 146 = .ok (.goto (-26), 3) := by decide +kernel
theorem dX12_edition_149 : decode cX12_edition 149 = .ok (.aload_n 0, 1) := by decide +kernel
theorem dX12_edition_150 : decode cX12_edition 150 = .ok (.aload_n 0, 1) := by decide +kernel
theorem dX12_edition_151 : decode cX12_edition 151 = .ok (.getfield 364, 3) := by decide +kernel
theorem dX12_edition_154 : decode cX12_edition 154 = .ok (.putfield 78, 3) := by decide +kernel
theorem dX12_edition_157 : decode cX12_edition 157 = .ok (.aload_n 0, 1) := by decide +kernel
theorem dX12_edition_158 : decode cX12_edition 158 = .ok (.aload_n 0, 1) := by decide +kernel
theorem dX12_edition_159 : decode cX12_edition 159 = .ok (.getfield 364, 3) := by decide +kernel
theorem dX12_edition_162 : decode cX12_edition 162 = .ok (.ifCond .le 7, 3) := by decide +kernel
theorem dX12_edition_165 : decode cX12_edition 165 = .ok (.iconst 0, 1) := by decide +kernel
theorem dX12_edition_166 : decode cX12_edition 166 = .ok (.goto 12, 3) := by decide +kernel
theorem dX12_edition_169 : decode cX12_edition 169 = .ok (.aload_n 0, 1) := by decide +kernel
theorem dX12_edition_170 : decode cX12_edition 170 = .ok (.getfield 84, 3) := by decide +kernel
theorem dX12_edition_173 : decode cX12_edition 173 = .ok (.aload_n 0, 1) := by decide +kernel
theorem dX12_edition_174 : decode cX12_edition 174 = .ok (.getfield 408, 3) := by decide +kernel
theorem dX12_edition_177 : decode cX12_edition 177 = .ok (.iaload, 1) := by decide +kernel
theorem dX12_edition_178 : decode cX12_edition 178 = .ok (.putfield 138, 3) := by decide +kernel
theorem dX12_edition_181 : decode cX12_edition 181 = .ok (.aload_n 0, 1) := by decide +kernel
theorem dX12_edition_182 : decode cX12_edition 182 = .ok (.getfield 364, 3) := by decide +kernel
theorem dX12_edition_185 : decode cX12_edition 185 = .ok (.ifCond .le 20, 3) := by decide +kernel
theorem dX12_edition_188 : decode cX12_edition 188 = .ok (.aload_n 0, 1) := by decide +kernel
theorem dX12_edition_189 : decode cX12_edition 189 = .ok (.iload_n 2, 1) := by decide +kernel
theorem dX12_edition_190 : decode cX12_edition 190 = .ok (.putfield 376, 3) := by decide +kernel
theorem dX12_edition_193 : decode cX12_edition 193 = .ok (.aload_n 0, 1) := by decide +kernel
theorem dX12_edition_194 : decode cX12_edition 194 = .ok (.iload_n 3, 1) := by decide +kernel
theorem dX12_edition_195 : decode cX12_edition 195 = .ok (.putfield 388, 3) := by decide +kernel
theorem dX12_edition_198 : decode cX12_edition 198 = .ok (.aload_n 0, 1) := by decide +kernel
theorem dX12_edition_199 : decode cX12_edition 199 = .ok (.bipush 9, 2) := by decide +kernel
theorem dX12_edition_201 : decode cX12_edition 201 = .ok (.invokevirtual 267, 3) := by decide +kernel
theorem dX12_edition_204 : decode cX12_edition 204 = .ok (.ireturn, 1) := by decide +kernel
theorem dX12_edition_205 : decode cX12_edition 205 = .ok (.aload_n 0, 1) := by decide +kernel
theorem dX12_edition_206 : decode cX12_edition 206 = .ok (.dup, 1) := by decide +kernel
theorem dX12_edition_207 : decode cX12_edition 207 = .ok (.getfield 408, 3) := by decide +kernel
theorem dX12_edition_210 : decode cX12_edition 210 = .ok (.iconst 1, 1) := by decide +kernel
theorem dX12_edition_211 : decode cX12_edition 211 = .ok (.iadd, 1) := by decide +kernel
theorem dX12_edition_212 : decode cX12_edition 212 = .ok (.putfield 408, 3) := by decide +kernel
theorem dX12_edition_215 : decode cX12_edition 215 = .ok (.aload_n 0, 1) := by decide +kernel
theorem dX12_edition_216 : decode cX12_edition 216 = .ok (.aload_n 0, 1) := by decide +kernel
theorem dX12_edition_217 : decode cX12_edition 217 = .ok (.getfield 408, 3) := by decide +kernel
theorem dX12_edition_220 : decode cX12_edition 220 = .ok (.iconst 1, 1) := by decide +kernel
theorem dX12_edition_221 : decode cX12_edition 221 = .ok (.isub, 1) := by decide +kernel
theorem dX12_edition_222 : decode cX12_edition 222 = .ok (.invokevirtual 237, 3) := by decide +kernel
theorem dX12_edition_225 : decode cX12_edition 225 = .ok (.ireturn, 1) := by decide +kernel
noncomputable def B_X12_edition_0 : pb_C := (i_iload 1 (i_if_lt (i_aload 0 (i_const (.int 1) (i_callV 64 1 1 M_X12_refuse i_iret))) (i_iload 1 (i_aload 0 (i_getI 64 28 (i_ic_le (i_aload 0 (i_getI 64 37 (i_const (.int 5) (i_ic_ne (i_aload 0 (i_iload 1 (i_putI 64 29 (i_const (.int 0) (i_istore 2 (i_jmp 39 [true, true, true, false, false])))))) (i_aload 0 (i_const (.int 4) (i_callV 64 1 1 M_X12_refuse i_iret))))))) (i_aload 0 (i_const (.int 1) (i_callV 64 1 1 M_X12_refuse i_iret)))))))))
noncomputable def B_X12_edition_39 : pb_C := (i_iload 2 (i_iload 1 (i_ic_ge (i_aload 0 (i_const (.int 0) (i_putI 64 28 (i_aload 0 (i_const (.int 0) (i_putI 64 36 (i_aload 0 (i_const (.int (-1)) (i_putI 64 35 (i_aload 0 (i_const (.int 0) (i_putI 64 32 (i_aload 0 (i_getR 64 84 (i_aload 0 (i_getI 64 37 (i_const (.int 0) (i_ast 84 6 (fun x => x) (i_aload 0 (i_getI 64 38 (i_istore 2 (i_aload 0 (i_getI 64 39 (i_istore 3 (i_aload 0 (i_callV 64 0 0 M_X12_next (i_aload 0 (i_getI 64 30 (i_if_eq (i_const (.int 0) (i_istore 4 (i_jmp 120 [true, false, true, true, true]))) (i_const (.int 1) (i_istore 4 (i_jmp 120 [true, false, true, true, true])))))))))))))))))))))))))))))))) (i_aload 0 (i_getR 64 83 (i_iload 2 (i_aload 0 (i_getR 64 82 (i_iload 2 (i_ald 82 600 (i_ast 83 600 (vp_nar .byte) (i_iinc 2 1 (i_jmp 39 [true, true, true, false, false])))))))))))))
noncomputable def B_X12_edition_120 : pb_C := (i_iload 4 (i_if_eq (i_aload 0 (i_aload 0 (i_getI 64 36 (i_putI 64 34 (i_aload 0 (i_aload 0 (i_getI 64 36 (i_if_le (i_aload 0 (i_getR 64 84 (i_aload 0 (i_getI 64 37 (i_ald 84 6 (i_jmp 178 [true, false, true, true, false])))))) (i_const (.int 0) (i_jmp 178 [true, false, true, true, false])))))))))) (i_aload 0 (i_callV 64 0 1 M_X12_rule (i_if_eq (i_const (.int 0) (i_istore 4 (i_jmp 120 [true, false, true, true, true]))) (i_aload 0 (i_getI 64 30 (i_if_eq (i_const (.int 0) (i_istore 4 (i_jmp 120 [true, false, true, true, true]))) (i_const (.int 1) (i_istore 4 (i_jmp 120 [true, false, true, true, true])))))))))))
noncomputable def B_X12_edition_178 : pb_C := (i_putI 64 58 (i_aload 0 (i_getI 64 36 (i_if_le (i_aload 0 (i_dupR (i_getI 64 37 (i_const (.int 1) (i_ibin (· + ·) (i_putI 64 37 (i_aload 0 (i_aload 0 (i_getI 64 37 (i_const (.int 1) (i_ibin (· - ·) (i_callV 64 1 1 M_X12_gives i_iret)))))))))))) (i_aload 0 (i_iload 2 (i_putI 64 38 (i_aload 0 (i_iload 3 (i_putI 64 39 (i_aload 0 (i_const (.int 9) (i_callV 64 1 1 M_X12_refuse i_iret)))))))))))))
noncomputable def T_X12_edition : Nat → pb_C := pb_tt [(0, B_X12_edition_0), (39, B_X12_edition_39), (120, B_X12_edition_120), (178, B_X12_edition_178)]
noncomputable def M_X12_edition : pb_F := pb_M T_X12_edition 5
set_option maxRecDepth 100000 in
set_option maxHeartbeats 4000000 in
theorem S_X12_edition (l : Launch) : pb_Sound l yX12_edition cX12_edition 5 (some .int) 12 M_X12_edition := by
  refine pb_sound_of (by decide) m_8_95 ?_
  intro Γ hl0 hRm0 hm X E hr J
  have hnL : ∀ j, j < 5 → j < Γ.2.2.2.2.2.2.2.2.2.2.2.1 := fun j h => by rw [hm]; exact h
  have hR : ∀ (d' mL : Nat), d' + 1 ≤ 12 ∧ 8 + (mL + 11) + d' * 64 ≤ 12 * 64 → (pb_rm d').frames + 1 ≤ Γ.2.2.2.1.frames ∧ 8 + (mL + 11) + (pb_rm d').locals ≤ Γ.2.2.2.1.locals := by rw [hRm0]; exact fun _ _ h => h
  have hRm : 1 ≤ 12 ∧ 64 ≤ 12 * 64 → 1 ≤ Γ.2.2.2.1.frames ∧ 64 ≤ Γ.2.2.2.1.locals := by rw [hRm0]; exact fun h => h
  exact pb_tt_snd _ (List.forall_mem_cons.mpr ⟨(s_iload_n (pc := 0) X dX12_edition_0 rfl (s_if_lt (pc := 1) X dX12_edition_1 (by decide) (s_aload_n (pc := 12) X dX12_edition_12 rfl (s_iconst (pc := 13) X dX12_edition_13 rfl (s_callV (pc := 14) X dX12_edition_14 (S_X12_refuse _) q_X12_267 h_64 rfl (hR _ _ (by decide)) (s_iret (pc := 17) X E hr dX12_edition_17)))) (s_iload_n (pc := 4) X dX12_edition_4 rfl (s_aload_n (pc := 5) X dX12_edition_5 rfl (s_getI (pc := 6) X dX12_edition_6 g_X12_311 (s_ic_le (pc := 9) X dX12_edition_9 (by decide) (s_aload_n (pc := 18) X dX12_edition_18 rfl (s_getI (pc := 19) X dX12_edition_19 g_X12_408 (s_iconst (pc := 22) X dX12_edition_22 rfl (s_ic_ne (pc := 23) X dX12_edition_23 (by decide) (s_aload_n (pc := 32) X dX12_edition_32 rfl (s_iload_n (pc := 33) X dX12_edition_33 rfl (s_putI (pc := 34) X dX12_edition_34 p_X12_318 (s_iconst (pc := 37) X dX12_edition_37 rfl (s_istore_n (pc := 38) X dX12_edition_38 rfl (hnL _ (by decide)) (s_jmp (pc := 39) J [true, true, true, false, false])))))) (s_aload_n (pc := 26) X dX12_edition_26 rfl (s_iconst (pc := 27) X dX12_edition_27 rfl (s_callV (pc := 28) X dX12_edition_28 (S_X12_refuse _) q_X12_267 h_64 rfl (hR _ _ (by decide)) (s_iret (pc := 31) X E hr dX12_edition_31)))))))) (s_aload_n (pc := 12) X dX12_edition_12 rfl (s_iconst (pc := 13) X dX12_edition_13 rfl (s_callV (pc := 14) X dX12_edition_14 (S_X12_refuse _) q_X12_267 h_64 rfl (hR _ _ (by decide)) (s_iret (pc := 17) X E hr dX12_edition_17)))))))))), List.forall_mem_cons.mpr ⟨(s_iload_n (pc := 39) X dX12_edition_39 rfl (s_iload_n (pc := 40) X dX12_edition_40 rfl (s_ic_ge (pc := 41) X dX12_edition_41 (by decide) (s_aload_n (pc := 62) X dX12_edition_62 rfl (s_iconst (pc := 63) X dX12_edition_63 rfl (s_putI (pc := 64) X dX12_edition_64 p_X12_311 (s_aload_n (pc := 67) X dX12_edition_67 rfl (s_iconst (pc := 68) X dX12_edition_68 rfl (s_putI (pc := 69) X dX12_edition_69 p_X12_364 (s_aload_n (pc := 72) X dX12_edition_72 rfl (s_iconst (pc := 73) X dX12_edition_73 rfl (s_putI (pc := 74) X dX12_edition_74 p_X12_81 (s_aload_n (pc := 77) X dX12_edition_77 rfl (s_iconst (pc := 78) X dX12_edition_78 rfl (s_putI (pc := 79) X dX12_edition_79 p_X12_321 (s_aload_n (pc := 82) X dX12_edition_82 rfl (s_getR (pc := 83) X dX12_edition_83 g_X12_84 (s_aload_n (pc := 86) X dX12_edition_86 rfl (s_getI (pc := 87) X dX12_edition_87 g_X12_408 (s_iconst (pc := 90) X dX12_edition_90 rfl (s_iast (pc := 91) X dX12_edition_91 h_84 (s_aload_n (pc := 92) X dX12_edition_92 rfl (s_getI (pc := 93) X dX12_edition_93 g_X12_376 (s_istore_n (pc := 96) X dX12_edition_96 rfl (hnL _ (by decide)) (s_aload_n (pc := 97) X dX12_edition_97 rfl (s_getI (pc := 98) X dX12_edition_98 g_X12_388 (s_istore_n (pc := 101) X dX12_edition_101 rfl (hnL _ (by decide)) (s_aload_n (pc := 102) X dX12_edition_102 rfl (s_callV (pc := 103) X dX12_edition_103 (S_X12_next _) q_X12_373 h_64 rfl (hR _ _ (by decide)) (s_aload_n (pc := 106) X dX12_edition_106 rfl (s_getI (pc := 107) X dX12_edition_107 g_X12_333 (s_if_eq (pc := 110) X dX12_edition_110 (by decide) (s_iconst (pc := 117) X dX12_edition_117 rfl (s_istore (pc := 118) X dX12_edition_118 (hnL _ (by decide)) (s_jmp (pc := 120) J [true, false, true, true, true]))) (s_iconst (pc := 113) X dX12_edition_113 rfl (s_goto (pc := 114) X dX12_edition_114 (by decide) (s_istore (pc := 118) X dX12_edition_118 (hnL _ (by decide)) (s_jmp (pc := 120) J [true, false, true, true, true]))))))))))))))))))))))))))))))))) (s_aload_n (pc := 44) X dX12_edition_44 rfl (s_getR (pc := 45) X dX12_edition_45 g_X12_75 (s_iload_n (pc := 48) X dX12_edition_48 rfl (s_aload_n (pc := 49) X dX12_edition_49 rfl (s_getR (pc := 50) X dX12_edition_50 g_X12_71 (s_iload_n (pc := 53) X dX12_edition_53 rfl (s_bald (pc := 54) X dX12_edition_54 h_82 (s_bast (pc := 55) X dX12_edition_55 h_83 (s_iinc (pc := 56) X dX12_edition_56 rfl (s_goto (pc := 59) X dX12_edition_59 (by decide) (s_jmp (pc := 39) J [true, true, true, false, false])))))))))))))), List.forall_mem_cons.mpr ⟨(s_iload (pc := 120) X dX12_edition_120 (s_if_eq (pc := 122) X dX12_edition_122 (by decide) (s_aload_n (pc := 149) X dX12_edition_149 rfl (s_aload_n (pc := 150) X dX12_edition_150 rfl (s_getI (pc := 151) X dX12_edition_151 g_X12_364 (s_putI (pc := 154) X dX12_edition_154 p_X12_78 (s_aload_n (pc := 157) X dX12_edition_157 rfl (s_aload_n (pc := 158) X dX12_edition_158 rfl (s_getI (pc := 159) X dX12_edition_159 g_X12_364 (s_if_le (pc := 162) X dX12_edition_162 (by decide) (s_aload_n (pc := 169) X dX12_edition_169 rfl (s_getR (pc := 170) X dX12_edition_170 g_X12_84 (s_aload_n (pc := 173) X dX12_edition_173 rfl (s_getI (pc := 174) X dX12_edition_174 g_X12_408 (s_iald (pc := 177) X dX12_edition_177 h_84 (s_jmp (pc := 178) J [true, false, true, true, false])))))) (s_iconst (pc := 165) X dX12_edition_165 rfl (s_goto (pc := 166) X dX12_edition_166 (by decide) (s_jmp (pc := 178) J [true, false, true, true, false]))))))))))) (s_aload_n (pc := 125) X dX12_edition_125 rfl (s_callV (pc := 126) X dX12_edition_126 (S_X12_rule _) q_X12_414 h_64 rfl (hR _ _ (by decide)) (s_if_eq (pc := 129) X dX12_edition_129 (by decide) (s_iconst (pc := 143) X dX12_edition_143 rfl (s_istore (pc := 144) X dX12_edition_144 (hnL _ (by decide)) (s_goto (pc := 146) X dX12_edition_146 (by decide) (s_jmp (pc := 120) J [true, false, true, true, true])))) (s_aload_n (pc := 132) X dX12_edition_132 rfl (s_getI (pc := 133) X dX12_edition_133 g_X12_333 (s_if_eq (pc := 136) X dX12_edition_136 (by decide) (s_iconst (pc := 143) X dX12_edition_143 rfl (s_istore (pc := 144) X dX12_edition_144 (hnL _ (by decide)) (s_goto (pc := 146) X dX12_edition_146 (by decide) (s_jmp (pc := 120) J [true, false, true, true, true])))) (s_iconst (pc := 139) X dX12_edition_139 rfl (s_goto (pc := 140) X dX12_edition_140 (by decide) (s_istore (pc := 144) X dX12_edition_144 (hnL _ (by decide)) (s_goto (pc := 146) X dX12_edition_146 (by decide) (s_jmp (pc := 120) J [true, false, true, true, true]))))))))))))), List.forall_mem_cons.mpr ⟨(s_putI (pc := 178) X dX12_edition_178 p_X12_138 (s_aload_n (pc := 181) X dX12_edition_181 rfl (s_getI (pc := 182) X dX12_edition_182 g_X12_364 (s_if_le (pc := 185) X dX12_edition_185 (by decide) (s_aload_n (pc := 205) X dX12_edition_205 rfl (s_dupR (pc := 206) X dX12_edition_206 (s_getI (pc := 207) X dX12_edition_207 g_X12_408 (s_iconst (pc := 210) X dX12_edition_210 rfl (s_iadd (pc := 211) X dX12_edition_211 (s_putI (pc := 212) X dX12_edition_212 p_X12_408 (s_aload_n (pc := 215) X dX12_edition_215 rfl (s_aload_n (pc := 216) X dX12_edition_216 rfl (s_getI (pc := 217) X dX12_edition_217 g_X12_408 (s_iconst (pc := 220) X dX12_edition_220 rfl (s_isub (pc := 221) X dX12_edition_221 (s_callV (pc := 222) X dX12_edition_222 (S_X12_gives _) q_X12_237 h_64 rfl (hR _ _ (by decide)) (s_iret (pc := 225) X E hr dX12_edition_225))))))))))))) (s_aload_n (pc := 188) X dX12_edition_188 rfl (s_iload_n (pc := 189) X dX12_edition_189 rfl (s_putI (pc := 190) X dX12_edition_190 p_X12_376 (s_aload_n (pc := 193) X dX12_edition_193 rfl (s_iload_n (pc := 194) X dX12_edition_194 rfl (s_putI (pc := 195) X dX12_edition_195 p_X12_388 (s_aload_n (pc := 198) X dX12_edition_198 rfl (s_bipush (pc := 199) X dX12_edition_199 rfl (s_callV (pc := 201) X dX12_edition_201 (S_X12_refuse _) q_X12_267 h_64 rfl (hR _ _ (by decide)) (s_iret (pc := 204) X E hr dX12_edition_204)))))))))))))), fun _ h => absurd h List.not_mem_nil⟩⟩⟩⟩)
theorem dX12_fault_0 : decode cX12_fault 0 = .ok (.iload_n 1, 1) := by decide +kernel
theorem dX12_fault_1 : decode cX12_fault 1 = .ok (.ifCond .ne 10, 3) := by decide +kernel
theorem dX12_fault_4 : decode cX12_fault 4 = .ok (.aload_n 0, 1) := by decide +kernel
theorem dX12_fault_5 : decode cX12_fault 5 = .ok (.getfield 78, 3) := by decide +kernel
theorem dX12_fault_8 : decode cX12_fault 8 = .ok (.goto 28, 3) := by decide +kernel
theorem dX12_fault_11 : decode cX12_fault 11 = .ok (.iload_n 1, 1) := by decide +kernel
theorem dX12_fault_12 : decode cX12_fault 12 = .ok (.iconst 1, 1) := by decide +kernel
theorem dX12_fault_13 : decode cX12_fault 13 = .ok (.if_icmp .ne 10, 3) := by decide +kernel
theorem dX12_fault_16 : decode cX12_fault 16 = .ok (.aload_n 0, 1) := by decide +kernel
theorem dX12_fault_17 : decode cX12_fault 17 = .ok (.getfield 81, 3) := by decide +kernel
theorem dX12_fault_20 : decode cX12_fault 20 = .ok (.goto 16, 3) := by decide +kernel
theorem dX12_fault_23 : decode cX12_fault 23 = .ok (.iload_n 1, 1) := by decide +kernel
theorem dX12_fault_24 : decode cX12_fault 24 = .ok (.iconst 2, 1) := by decide +kernel
theorem dX12_fault_25 : decode cX12_fault 25 = .ok (.if_icmp .ne 10, 3) := by decide +kernel
theorem dX12_fault_28 : decode cX12_fault 28 = .ok (.aload_n 0, 1) := by decide +kernel
theorem dX12_fault_29 : decode cX12_fault 29 = .ok (.getfield 138, 3) := by decide +kernel
theorem dX12_fault_32 : decode cX12_fault 32 = .ok (.goto 4, 3) := by decide +kernel
theorem dX12_fault_35 : decode cX12_fault 35 = .ok (.iconst (-1), 1) := by decide +kernel
theorem dX12_fault_36 : decode cX12_fault 36 = .ok (.ireturn, 1) := by decide +kernel
noncomputable def B_X12_fault_0 : pb_C := (i_iload 1 (i_if_ne (i_iload 1 (i_const (.int 1) (i_ic_ne (i_iload 1 (i_const (.int 2) (i_ic_ne (i_const (.int (-1)) i_iret) (i_aload 0 (i_getI 64 58 i_iret))))) (i_aload 0 (i_getI 64 35 i_iret))))) (i_aload 0 (i_getI 64 34 i_iret))))
noncomputable def T_X12_fault : Nat → pb_C := pb_tt [(0, B_X12_fault_0)]
noncomputable def M_X12_fault : pb_F := pb_M T_X12_fault 2
set_option maxRecDepth 100000 in
set_option maxHeartbeats 4000000 in
theorem S_X12_fault (l : Launch) : pb_Sound l yX12_fault cX12_fault 2 (some .int) 1 M_X12_fault := by
  refine pb_sound_of (by decide) m_8_186 ?_
  intro Γ hl0 hRm0 hm X E hr J
  have hnL : ∀ j, j < 2 → j < Γ.2.2.2.2.2.2.2.2.2.2.2.1 := fun j h => by rw [hm]; exact h
  have hR : ∀ (d' mL : Nat), d' + 1 ≤ 1 ∧ 8 + (mL + 11) + d' * 64 ≤ 1 * 64 → (pb_rm d').frames + 1 ≤ Γ.2.2.2.1.frames ∧ 8 + (mL + 11) + (pb_rm d').locals ≤ Γ.2.2.2.1.locals := by rw [hRm0]; exact fun _ _ h => h
  have hRm : 1 ≤ 1 ∧ 64 ≤ 1 * 64 → 1 ≤ Γ.2.2.2.1.frames ∧ 64 ≤ Γ.2.2.2.1.locals := by rw [hRm0]; exact fun h => h
  exact pb_tt_snd _ (List.forall_mem_cons.mpr ⟨(s_iload_n (pc := 0) X dX12_fault_0 rfl (s_if_ne (pc := 1) X dX12_fault_1 (by decide) (s_iload_n (pc := 11) X dX12_fault_11 rfl (s_iconst (pc := 12) X dX12_fault_12 rfl (s_ic_ne (pc := 13) X dX12_fault_13 (by decide) (s_iload_n (pc := 23) X dX12_fault_23 rfl (s_iconst (pc := 24) X dX12_fault_24 rfl (s_ic_ne (pc := 25) X dX12_fault_25 (by decide) (s_iconst (pc := 35) X dX12_fault_35 rfl (s_iret (pc := 36) X E hr dX12_fault_36)) (s_aload_n (pc := 28) X dX12_fault_28 rfl (s_getI (pc := 29) X dX12_fault_29 g_X12_138 (s_goto (pc := 32) X dX12_fault_32 (by decide) (s_iret (pc := 36) X E hr dX12_fault_36))))))) (s_aload_n (pc := 16) X dX12_fault_16 rfl (s_getI (pc := 17) X dX12_fault_17 g_X12_81 (s_goto (pc := 20) X dX12_fault_20 (by decide) (s_iret (pc := 36) X E hr dX12_fault_36))))))) (s_aload_n (pc := 4) X dX12_fault_4 rfl (s_getI (pc := 5) X dX12_fault_5 g_X12_78 (s_goto (pc := 8) X dX12_fault_8 (by decide) (s_iret (pc := 36) X E hr dX12_fault_36)))))), fun _ h => absurd h List.not_mem_nil⟩)
theorem dX12_isEdition_0 : decode cX12_isEdition 0 = .ok (.iload_n 1, 1) := by decide +kernel
theorem dX12_isEdition_1 : decode cX12_isEdition 1 = .ok (.ifCond .lt 15, 3) := by decide +kernel
theorem dX12_isEdition_4 : decode cX12_isEdition 4 = .ok (.iload_n 1, 1) := by decide +kernel
theorem dX12_isEdition_5 : decode cX12_isEdition 5 = .ok (.aload_n 0, 1) := by decide +kernel
theorem dX12_isEdition_6 : decode cX12_isEdition 6 = .ok (.getfield 408, 3) := by decide +kernel
theorem dX12_isEdition_9 : decode cX12_isEdition 9 = .ok (.if_icmp .ge 7, 3) := by decide +kernel
theorem dX12_isEdition_12 : decode cX12_isEdition 12 = .ok (.iconst 1, 1) := by decide +kernel
theorem dX12_isEdition_13 : decode cX12_isEdition 13 = .ok (.goto 4, 3) := by decide +kernel
theorem dX12_isEdition_16 : decode cX12_isEdition 16 = .ok (.iconst 0, 1) := by decide +kernel
theorem dX12_isEdition_17 : decode cX12_isEdition 17 = .ok (.ireturn, 1) := by decide +kernel
noncomputable def B_X12_isEdition_0 : pb_C := (i_iload 1 (i_if_lt (i_const (.int 0) i_zret) (i_iload 1 (i_aload 0 (i_getI 64 37 (i_ic_ge (i_const (.int 0) i_zret) (i_const (.int 1) i_zret)))))))
noncomputable def T_X12_isEdition : Nat → pb_C := pb_tt [(0, B_X12_isEdition_0)]
noncomputable def M_X12_isEdition : pb_F := pb_M T_X12_isEdition 2
set_option maxRecDepth 100000 in
set_option maxHeartbeats 4000000 in
theorem S_X12_isEdition (l : Launch) : pb_Sound l yX12_isEdition cX12_isEdition 2 (some .boolean) 1 M_X12_isEdition := by
  refine pb_sound_of (by decide) m_8_194 ?_
  intro Γ hl0 hRm0 hm X E hr J
  have hnL : ∀ j, j < 2 → j < Γ.2.2.2.2.2.2.2.2.2.2.2.1 := fun j h => by rw [hm]; exact h
  have hR : ∀ (d' mL : Nat), d' + 1 ≤ 1 ∧ 8 + (mL + 11) + d' * 64 ≤ 1 * 64 → (pb_rm d').frames + 1 ≤ Γ.2.2.2.1.frames ∧ 8 + (mL + 11) + (pb_rm d').locals ≤ Γ.2.2.2.1.locals := by rw [hRm0]; exact fun _ _ h => h
  have hRm : 1 ≤ 1 ∧ 64 ≤ 1 * 64 → 1 ≤ Γ.2.2.2.1.frames ∧ 64 ≤ Γ.2.2.2.1.locals := by rw [hRm0]; exact fun h => h
  exact pb_tt_snd _ (List.forall_mem_cons.mpr ⟨(s_iload_n (pc := 0) X dX12_isEdition_0 rfl (s_if_lt (pc := 1) X dX12_isEdition_1 (by decide) (s_iconst (pc := 16) X dX12_isEdition_16 rfl (s_zret (pc := 17) X E hr dX12_isEdition_17)) (s_iload_n (pc := 4) X dX12_isEdition_4 rfl (s_aload_n (pc := 5) X dX12_isEdition_5 rfl (s_getI (pc := 6) X dX12_isEdition_6 g_X12_408 (s_ic_ge (pc := 9) X dX12_isEdition_9 (by decide) (s_iconst (pc := 16) X dX12_isEdition_16 rfl (s_zret (pc := 17) X E hr dX12_isEdition_17)) (s_iconst (pc := 12) X dX12_isEdition_12 rfl (s_goto (pc := 13) X dX12_isEdition_13 (by decide) (s_zret (pc := 17) X E hr dX12_isEdition_17))))))))), fun _ h => absurd h List.not_mem_nil⟩)
theorem dX12_work_0 : decode cX12_work 0 = .ok (.iconst 0, 1) := by decide +kernel
theorem dX12_work_1 : decode cX12_work 1 = .ok (.istore_n 3, 1) := by decide +kernel
theorem dX12_work_2 : decode cX12_work 2 = .ok (.iload_n 1, 1) := by decide +kernel
theorem dX12_work_3 : decode cX12_work 3 = .ok (.istore 4, 2) := by decide +kernel
theorem dX12_work_5 : decode cX12_work 5 = .ok (.iload 4, 2) := by decide +kernel
theorem dX12_work_7 : decode cX12_work 7 = .ok (.iload_n 2, 1) := by decide +kernel
theorem dX12_work_8 : decode cX12_work 8 = .ok (.if_icmp .ge 156, 3) := by decide +kernel
theorem dX12_work_11 : decode cX12_work 11 = .ok (.aload_n 0, 1) := by decide +kernel
theorem dX12_work_12 : decode cX12_work 12 = .ok (.getfield 126, 3) := by decide +kernel
theorem dX12_work_15 : decode cX12_work 15 = .ok (.iload 4, 2) := by decide +kernel
theorem dX12_work_17 : decode cX12_work 17 = .ok (.iaload, 1) := by decide +kernel
theorem dX12_work_18 : decode cX12_work 18 = .ok (.istore 5, 2) := by decide +kernel
theorem dX12_work_20 : decode cX12_work 20 = .ok (.iload 5, 2) := by decide +kernel
theorem dX12_work_22 : decode cX12_work 22 = .ok (.iconst 2, 1) := by decide +kernel
theorem dX12_work_23 : decode cX12_work 23 = .ok (.if_icmp .ge 43, 3) := by decide +kernel
theorem dX12_work_26 : decode cX12_work 26 = .ok (.aload_n 0, 1) := by decide +kernel
theorem dX12_work_27 : decode cX12_work 27 = .ok (.getfield 144, 3) := by decide +kernel
theorem dX12_work_30 : decode cX12_work 30 = .ok (.iload_n 3, 1) := by decide +kernel
theorem dX12_work_31 : decode cX12_work 31 = .ok (.iload 5, 2) := by decide +kernel
theorem dX12_work_33 : decode cX12_work 33 = .ok (.ifCond .ne 14, 3) := by decide +kernel
theorem dX12_work_36 : decode cX12_work 36 = .ok (.aload_n 0, 1) := by decide +kernel
theorem dX12_work_37 : decode cX12_work 37 = .ok (.getfield 129, 3) := by decide +kernel
theorem dX12_work_40 : decode cX12_work 40 = .ok (.iload 4, 2) := by decide +kernel
theorem dX12_work_42 : decode cX12_work 42 = .ok (.iaload, 1) := by decide +kernel
theorem dX12_work_43 : decode cX12_work 43 = .ok (.i2l, 1) := by decide +kernel
theorem dX12_work_44 : decode cX12_work 44 = .ok (.goto 15, 3) := by decide +kernel
theorem dX12_work_47 : decode cX12_work 47 = .ok (.aload_n 0, 1) := by decide +kernel
theorem dX12_work_48 : decode cX12_work 48 = .ok (.getfield 141, 3) := by decide +kernel
theorem dX12_work_51 : decode cX12_work 51 = .ok (.aload_n 0, 1) := by decide +kernel
theorem dX12_work_52 : decode cX12_work 52 = .ok (.getfield 129, 3) := by decide +kernel
theorem dX12_work_55 : decode cX12_work 55 = .ok (.iload 4, 2) := by decide +kernel
theorem dX12_work_57 : decode cX12_work 57 = .ok (.iaload, 1) := by decide +kernel
theorem dX12_work_58 : decode cX12_work 58 = .ok (.laload, 1) := by decide +kernel
theorem dX12_work_59 : decode cX12_work 59 = .ok (.lastore, 1) := by decide +kernel
theorem dX12_work_60 : decode cX12_work 60 = .ok (.iinc 3 1, 3) := by decide +kernel
theorem dX12_work_63 : decode cX12_work 63 = .ok (.goto 95, 3) := by decide +kernel
theorem dX12_work_66 : decode cX12_work 66 = .ok (.aload_n 0, 1) := by decide +kernel
theorem dX12_work_67 : decode cX12_work 67 = .ok (.getfield 144, 3) := by decide +kernel
theorem dX12_work_70 : decode cX12_work 70 = .ok (.iload_n 3, 1) := by decide +kernel
theorem dX12_work_71 : decode cX12_work 71 = .ok (.iconst 2, 1) := by decide +kernel
theorem dX12_work_72 : decode cX12_work 72 = .ok (.isub, 1) := by decide +kernel
theorem dX12_work_73 : decode cX12_work 73 = .ok (.laload, 1) := by decide +kernel
theorem dX12_work_74 : decode cX12_work 74 = .ok (.lstore 6, 2) := by decide +kernel
theorem dX12_work_76 : decode cX12_work 76 = .ok (.aload_n 0, 1) := by decide +kernel
theorem dX12_work_77 : decode cX12_work 77 = .ok (.getfield 144, 3) := by decide +kernel
theorem dX12_work_80 : decode cX12_work 80 = .ok (.iload_n 3, 1) := by decide +kernel
theorem dX12_work_81 : decode cX12_work 81 = .ok (.iconst 1, 1) := by decide +kernel
theorem dX12_work_82 : decode cX12_work 82 = .ok (.isub, 1) := by decide +kernel
theorem dX12_work_83 : decode cX12_work 83 = .ok (.laload, 1) := by decide +kernel
theorem dX12_work_84 : decode cX12_work 84 = .ok (.lstore 8, 2) := by decide +kernel
theorem dX12_work_86 : decode cX12_work 86 = .ok (.iinc 3 (-1), 3) := by decide +kernel
theorem dX12_work_89 : decode cX12_work 89 = .ok (.aload_n 0, 1) := by decide +kernel
theorem dX12_work_90 : decode cX12_work 90 = .ok (.getfield 144, 3) := by decide +kernel
theorem dX12_work_93 : decode cX12_work 93 = .ok (.iload_n 3, 1) := by decide +kernel
theorem dX12_work_94 : decode cX12_work 94 = .ok (.iconst 1, 1) := by decide +kernel
theorem dX12_work_95 : decode cX12_work 95 = .ok (.isub, 1) := by decide +kernel
theorem dX12_work_96 : decode cX12_work 96 = .ok (.iload 5, 2) := by decide +kernel
theorem dX12_work_98 : decode cX12_work 98 = .ok (.bipush 43, 2) := by decide +kernel
theorem dX12_work_100 : decode cX12_work 100 = .ok (.if_icmp .ne 11, 3) := by decide +kernel
theorem dX12_work_103 : decode cX12_work 103 = .ok (.lload 6, 2) := by decide +kernel
theorem dX12_work_105 : decode cX12_work 105 = .ok (.lload 8, 2) := by decide +kernel
theorem dX12_work_107 : decode cX12_work 107 = .ok (.ladd, 1) := by decide +kernel
theorem dX12_work_108 : decode cX12_work 108 = .ok (.goto 49, 3) := by decide +kernel
theorem dX12_work_111 : decode cX12_work 111 = .ok (.iload 5, 2) := by decide +kernel
theorem dX12_work_113 : decode cX12_work 113 = .ok (.bipush 45, 2) := by decide +kernel
theorem dX12_work_115 : decode cX12_work 115 = .ok (.if_icmp .ne 11, 3) := by decide +kernel
theorem dX12_work_118 : decode cX12_work 118 = .ok (.lload 6, 2) := by decide +kernel
theorem dX12_work_120 : decode cX12_work 120 = .ok (.lload 8, 2) := by decide +kernel
theorem dX12_work_122 : decode cX12_work 122 = .ok (.lsub, 1) := by decide +kernel
theorem dX12_work_123 : decode cX12_work 123 = .ok (.goto 34, 3) := by decide +kernel
theorem dX12_work_126 : decode cX12_work 126 = .ok (.iload 5, 2) := by decide +kernel
theorem dX12_work_128 : decode cX12_work 128 = .ok (.bipush 42, 2) := by decide +kernel
theorem dX12_work_130 : decode cX12_work 130 = .ok (.if_icmp .ne 11, 3) := by decide +kernel
theorem dX12_work_133 : decode cX12_work 133 = .ok (.lload 6, 2) := by decide +kernel
theorem dX12_work_135 : decode cX12_work 135 = .ok (.lload 8, 2) := by decide +kernel
theorem dX12_work_137 : decode cX12_work 137 = .ok (.lmul, 1) := by decide +kernel
theorem dX12_work_138 : decode cX12_work 138 = .ok (.goto 19, 3) := by decide +kernel
theorem dX12_work_141 : decode cX12_work 141 = .ok (.lload 8, 2) := by decide +kernel
theorem dX12_work_143 : decode cX12_work 143 = .ok (.lconst 0, 1) := by decide +kernel
theorem dX12_work_144 : decode cX12_work 144 = .ok (.lcmp, 1) := by decide +kernel
theorem dX12_work_145 : decode cX12_work 145 = .ok (.ifCond .ne 7, 3) := by decide +kernel
theorem dX12_work_148 : decode cX12_work 148 = .ok (.lconst 0, 1) := by decide +kernel
theorem dX12_work_149 : decode cX12_work 149 = .ok (.goto 8, 3) := by decide +kernel
theorem dX12_work_152 : decode cX12_work 152 = .ok (.lload 6, 2) := by decide +kernel
theorem dX12_work_154 : decode cX12_work 154 = .ok (.lload 8, 2) := by decide +kernel
theorem dX12_work_156 : decode cX12_work 156 = .ok (.ldiv, 1) := by decide +kernel
theorem dX12_work_157 : decode cX12_work 157 = .ok (.lastore, 1) := by decide +kernel
theorem dX12_work_158 : decode cX12_work 158 = .ok (.iinc 4 1, 3) := by decide +kernel
theorem dX12_work_161 : decode cX12_work 161 = .ok (.goto (-156), 3) := by decide +kernel
theorem dX12_work_164 : decode cX12_work 164 = .ok (.aload_n 0, 1) := by decide +kernel
theorem dX12_work_165 : decode cX12_work 165 = .ok (.getfield 144, 3) := by decide +kernel
theorem dX12_work_168 : decode cX12_work 168 = .ok (.iconst 0, 1) := by decide +kernel
theorem dX12_work_169 : decode cX12_work 169 = .ok (.laload, 1) := by decide +kernel
theorem dX12_work_170 : decode cX12_work 170 = .ok (.lreturn, 1) := by decide +kernel
noncomputable def B_X12_work_0 : pb_C := (i_const (.int 0) (i_istore 3 (i_iload 1 (i_istore 4 (i_jmp 5 [true, false, true, true, true, false, false, false, false, false])))))
noncomputable def B_X12_work_5 : pb_C := (i_iload 4 (i_iload 2 (i_ic_ge (i_aload 0 (i_getR 64 103 (i_const (.int 0) (i_lald 103 700 i_lret)))) (i_aload 0 (i_getR 64 98 (i_iload 4 (i_ald 98 4000 (i_istore 5 (i_iload 5 (i_const (.int 2) (i_ic_ge (i_jmp 66 [true, false, true, true, true, true, false, false, false, false]) (i_jmp 26 [true, false, true, true, true, true, false, false, false, false]))))))))))))
noncomputable def B_X12_work_26 : pb_C := (i_aload 0 (i_getR 64 103 (i_iload 3 (i_iload 5 (i_if_ne (i_aload 0 (i_getR 64 102 (i_aload 0 (i_getR 64 99 (i_iload 4 (i_ald 99 4000 (i_lald 102 4 (i_jmp 59 [true, false, true, true, true, false, false, false, false, false])))))))) (i_aload 0 (i_getR 64 99 (i_iload 4 (i_ald 99 4000 (i_i2l (i_jmp 59 [true, false, true, true, true, false, false, false, false, false])))))))))))
noncomputable def B_X12_work_59 : pb_C := (i_last 103 700 (i_iinc 3 1 (i_jmp 158 [true, false, true, true, true, false, false, false, false, false])))
noncomputable def B_X12_work_66 : pb_C := (i_aload 0 (i_getR 64 103 (i_iload 3 (i_const (.int 2) (i_ibin (· - ·) (i_lald 103 700 (i_lstore 6 (i_aload 0 (i_getR 64 103 (i_iload 3 (i_const (.int 1) (i_ibin (· - ·) (i_lald 103 700 (i_lstore 8 (i_iinc 3 (-1) (i_jmp 89 [true, false, true, true, true, true, true, false, true, false]))))))))))))))))
noncomputable def B_X12_work_89 : pb_C := (i_aload 0 (i_getR 64 103 (i_iload 3 (i_const (.int 1) (i_ibin (· - ·) (i_iload 5 (i_const (.int 43) (i_ic_ne (i_iload 5 (i_const (.int 45) (i_ic_ne (i_iload 5 (i_const (.int 42) (i_ic_ne (i_lload 8 (i_const (.long 0) (i_lcmp (i_if_ne (i_lload 6 (i_lload 8 (i_ldivr (· / ·) (i_last 103 700 (i_jmp 158 [true, false, true, true, true, false, false, false, false, false]))))) (i_const (.long 0) (i_last 103 700 (i_jmp 158 [true, false, true, true, true, false, false, false, false, false]))))))) (i_lload 6 (i_lload 8 (i_lbin (· * ·) (i_last 103 700 (i_jmp 158 [true, false, true, true, true, false, false, false, false, false])))))))) (i_lload 6 (i_lload 8 (i_lbin (· - ·) (i_last 103 700 (i_jmp 158 [true, false, true, true, true, false, false, false, false, false])))))))) (i_lload 6 (i_lload 8 (i_lbin (· + ·) (i_last 103 700 (i_jmp 158 [true, false, true, true, true, false, false, false, false, false])))))))))))))
noncomputable def B_X12_work_158 : pb_C := (i_iinc 4 1 (i_jmp 5 [true, false, true, true, true, false, false, false, false, false]))
noncomputable def T_X12_work : Nat → pb_C := pb_tt [(0, B_X12_work_0), (5, B_X12_work_5), (26, B_X12_work_26), (59, B_X12_work_59), (66, B_X12_work_66), (89, B_X12_work_89), (158, B_X12_work_158)]
noncomputable def M_X12_work : pb_F := pb_M T_X12_work 10
set_option maxRecDepth 100000 in
set_option maxHeartbeats 4000000 in
theorem S_X12_work (l : Launch) : pb_Sound l yX12_work cX12_work 10 (some .long) 1 M_X12_work := by
  refine pb_sound_of (by decide) m_8_210 ?_
  intro Γ hl0 hRm0 hm X E hr J
  have hnL : ∀ j, j < 10 → j < Γ.2.2.2.2.2.2.2.2.2.2.2.1 := fun j h => by rw [hm]; exact h
  have hR : ∀ (d' mL : Nat), d' + 1 ≤ 1 ∧ 8 + (mL + 11) + d' * 64 ≤ 1 * 64 → (pb_rm d').frames + 1 ≤ Γ.2.2.2.1.frames ∧ 8 + (mL + 11) + (pb_rm d').locals ≤ Γ.2.2.2.1.locals := by rw [hRm0]; exact fun _ _ h => h
  have hRm : 1 ≤ 1 ∧ 64 ≤ 1 * 64 → 1 ≤ Γ.2.2.2.1.frames ∧ 64 ≤ Γ.2.2.2.1.locals := by rw [hRm0]; exact fun h => h
  exact pb_tt_snd _ (List.forall_mem_cons.mpr ⟨(s_iconst (pc := 0) X dX12_work_0 rfl (s_istore_n (pc := 1) X dX12_work_1 rfl (hnL _ (by decide)) (s_iload_n (pc := 2) X dX12_work_2 rfl (s_istore (pc := 3) X dX12_work_3 (hnL _ (by decide)) (s_jmp (pc := 5) J [true, false, true, true, true, false, false, false, false, false]))))), List.forall_mem_cons.mpr ⟨(s_iload (pc := 5) X dX12_work_5 (s_iload_n (pc := 7) X dX12_work_7 rfl (s_ic_ge (pc := 8) X dX12_work_8 (by decide) (s_aload_n (pc := 164) X dX12_work_164 rfl (s_getR (pc := 165) X dX12_work_165 g_X12_144 (s_iconst (pc := 168) X dX12_work_168 rfl (s_lald (pc := 169) X dX12_work_169 h_103 (s_lret (pc := 170) X E hr dX12_work_170))))) (s_aload_n (pc := 11) X dX12_work_11 rfl (s_getR (pc := 12) X dX12_work_12 g_X12_126 (s_iload (pc := 15) X dX12_work_15 (s_iald (pc := 17) X dX12_work_17 h_98 (s_istore (pc := 18) X dX12_work_18 (hnL _ (by decide)) (s_iload (pc := 20) X dX12_work_20 (s_iconst (pc := 22) X dX12_work_22 rfl (s_ic_ge (pc := 23) X dX12_work_23 (by decide) (s_jmp (pc := 66) J [true, false, true, true, true, true, false, false, false, false]) (s_jmp (pc := 26) J [true, false, true, true, true, true, false, false, false, false])))))))))))), List.forall_mem_cons.mpr ⟨(s_aload_n (pc := 26) X dX12_work_26 rfl (s_getR (pc := 27) X dX12_work_27 g_X12_144 (s_iload_n (pc := 30) X dX12_work_30 rfl (s_iload (pc := 31) X dX12_work_31 (s_if_ne (pc := 33) X dX12_work_33 (by decide) (s_aload_n (pc := 47) X dX12_work_47 rfl (s_getR (pc := 48) X dX12_work_48 g_X12_141 (s_aload_n (pc := 51) X dX12_work_51 rfl (s_getR (pc := 52) X dX12_work_52 g_X12_129 (s_iload (pc := 55) X dX12_work_55 (s_iald (pc := 57) X dX12_work_57 h_99 (s_lald (pc := 58) X dX12_work_58 h_102 (s_jmp (pc := 59) J [true, false, true, true, true, false, false, false, false, false])))))))) (s_aload_n (pc := 36) X dX12_work_36 rfl (s_getR (pc := 37) X dX12_work_37 g_X12_129 (s_iload (pc := 40) X dX12_work_40 (s_iald (pc := 42) X dX12_work_42 h_99 (s_i2l (pc := 43) X dX12_work_43 (s_goto (pc := 44) X dX12_work_44 (by decide) (s_jmp (pc := 59) J [true, false, true, true, true, false, false, false, false, false])))))))))))), List.forall_mem_cons.mpr ⟨(s_last (pc := 59) X dX12_work_59 h_103 (s_iinc (pc := 60) X dX12_work_60 rfl (s_goto (pc := 63) X dX12_work_63 (by decide) (s_jmp (pc := 158) J [true, false, true, true, true, false, false, false, false, false])))), List.forall_mem_cons.mpr ⟨(s_aload_n (pc := 66) X dX12_work_66 rfl (s_getR (pc := 67) X dX12_work_67 g_X12_144 (s_iload_n (pc := 70) X dX12_work_70 rfl (s_iconst (pc := 71) X dX12_work_71 rfl (s_isub (pc := 72) X dX12_work_72 (s_lald (pc := 73) X dX12_work_73 h_103 (s_lstore (pc := 74) X dX12_work_74 (hnL _ (by decide)) (s_aload_n (pc := 76) X dX12_work_76 rfl (s_getR (pc := 77) X dX12_work_77 g_X12_144 (s_iload_n (pc := 80) X dX12_work_80 rfl (s_iconst (pc := 81) X dX12_work_81 rfl (s_isub (pc := 82) X dX12_work_82 (s_lald (pc := 83) X dX12_work_83 h_103 (s_lstore (pc := 84) X dX12_work_84 (hnL _ (by decide)) (s_iinc (pc := 86) X dX12_work_86 rfl (s_jmp (pc := 89) J [true, false, true, true, true, true, true, false, true, false])))))))))))))))), List.forall_mem_cons.mpr ⟨(s_aload_n (pc := 89) X dX12_work_89 rfl (s_getR (pc := 90) X dX12_work_90 g_X12_144 (s_iload_n (pc := 93) X dX12_work_93 rfl (s_iconst (pc := 94) X dX12_work_94 rfl (s_isub (pc := 95) X dX12_work_95 (s_iload (pc := 96) X dX12_work_96 (s_bipush (pc := 98) X dX12_work_98 rfl (s_ic_ne (pc := 100) X dX12_work_100 (by decide) (s_iload (pc := 111) X dX12_work_111 (s_bipush (pc := 113) X dX12_work_113 rfl (s_ic_ne (pc := 115) X dX12_work_115 (by decide) (s_iload (pc := 126) X dX12_work_126 (s_bipush (pc := 128) X dX12_work_128 rfl (s_ic_ne (pc := 130) X dX12_work_130 (by decide) (s_lload (pc := 141) X dX12_work_141 (s_lconst (pc := 143) X dX12_work_143 rfl (s_lcmp (pc := 144) X dX12_work_144 (s_if_ne (pc := 145) X dX12_work_145 (by decide) (s_lload (pc := 152) X dX12_work_152 (s_lload (pc := 154) X dX12_work_154 (s_ldiv (pc := 156) X dX12_work_156 (s_last (pc := 157) X dX12_work_157 h_103 (s_jmp (pc := 158) J [true, false, true, true, true, false, false, false, false, false]))))) (s_lconst (pc := 148) X dX12_work_148 rfl (s_goto (pc := 149) X dX12_work_149 (by decide) (s_last (pc := 157) X dX12_work_157 h_103 (s_jmp (pc := 158) J [true, false, true, true, true, false, false, false, false, false])))))))) (s_lload (pc := 133) X dX12_work_133 (s_lload (pc := 135) X dX12_work_135 (s_lmul (pc := 137) X dX12_work_137 (s_goto (pc := 138) X dX12_work_138 (by decide) (s_last (pc := 157) X dX12_work_157 h_103 (s_jmp (pc := 158) J [true, false, true, true, true, false, false, false, false, false]))))))))) (s_lload (pc := 118) X dX12_work_118 (s_lload (pc := 120) X dX12_work_120 (s_lsub (pc := 122) X dX12_work_122 (s_goto (pc := 123) X dX12_work_123 (by decide) (s_last (pc := 157) X dX12_work_157 h_103 (s_jmp (pc := 158) J [true, false, true, true, true, false, false, false, false, false]))))))))) (s_lload (pc := 103) X dX12_work_103 (s_lload (pc := 105) X dX12_work_105 (s_ladd (pc := 107) X dX12_work_107 (s_goto (pc := 108) X dX12_work_108 (by decide) (s_last (pc := 157) X dX12_work_157 h_103 (s_jmp (pc := 158) J [true, false, true, true, true, false, false, false, false, false])))))))))))))), List.forall_mem_cons.mpr ⟨(s_iinc (pc := 158) X dX12_work_158 rfl (s_goto (pc := 161) X dX12_work_161 (by decide) (s_jmp (pc := 5) J [true, false, true, true, true, false, false, false, false, false]))), fun _ h => absurd h List.not_mem_nil⟩⟩⟩⟩⟩⟩⟩)
theorem dX12_isOne_0 : decode cX12_isOne 0 = .ok (.aload_n 0, 1) := by decide +kernel
theorem dX12_isOne_1 : decode cX12_isOne 1 = .ok (.getfield 102, 3) := by decide +kernel
theorem dX12_isOne_4 : decode cX12_isOne 4 = .ok (.iload_n 1, 1) := by decide +kernel
theorem dX12_isOne_5 : decode cX12_isOne 5 = .ok (.iaload, 1) := by decide +kernel
theorem dX12_isOne_6 : decode cX12_isOne 6 = .ok (.iconst 2, 1) := by decide +kernel
theorem dX12_isOne_7 : decode cX12_isOne 7 = .ok (.if_icmp .ne 10, 3) := by decide +kernel
theorem dX12_isOne_10 : decode cX12_isOne 10 = .ok (.aload_n 0, 1) := by decide +kernel
theorem dX12_isOne_11 : decode cX12_isOne 11 = .ok (.getfield 67, 3) := by decide +kernel
theorem dX12_isOne_14 : decode cX12_isOne 14 = .ok (.iload_n 2, 1) := by decide +kernel
theorem dX12_isOne_15 : decode cX12_isOne 15 = .ok (.baload, 1) := by decide +kernel
theorem dX12_isOne_16 : decode cX12_isOne 16 = .ok (.ireturn, 1) := by decide +kernel
theorem dX12_isOne_17 : decode cX12_isOne 17 = .ok (.aload_n 0, 1) := by decide +kernel
theorem dX12_isOne_18 : decode cX12_isOne 18 = .ok (.getfield 102, 3) := by decide +kernel
theorem dX12_isOne_21 : decode cX12_isOne 21 = .ok (.iload_n 1, 1) := by decide +kernel
theorem dX12_isOne_22 : decode cX12_isOne 22 = .ok (.iaload, 1) := by decide +kernel
theorem dX12_isOne_23 : decode cX12_isOne 23 = .ok (.iconst 1, 1) := by decide +kernel
theorem dX12_isOne_24 : decode cX12_isOne 24 = .ok (.if_icmp .ne 67, 3) := by decide +kernel
theorem dX12_isOne_27 : decode cX12_isOne 27 = .ok (.aload_n 0, 1) := by decide +kernel
theorem dX12_isOne_28 : decode cX12_isOne 28 = .ok (.getfield 61, 3) := by decide +kernel
theorem dX12_isOne_31 : decode cX12_isOne 31 = .ok (.iconst 3, 1) := by decide +kernel
theorem dX12_isOne_32 : decode cX12_isOne 32 = .ok (.iload_n 2, 1) := by decide +kernel
theorem dX12_isOne_33 : decode cX12_isOne 33 = .ok (.imul, 1) := by decide +kernel
theorem dX12_isOne_34 : decode cX12_isOne 34 = .ok (.laload, 1) := by decide +kernel
theorem dX12_isOne_35 : decode cX12_isOne 35 = .ok (.aload_n 0, 1) := by decide +kernel
theorem dX12_isOne_36 : decode cX12_isOne 36 = .ok (.getfield 117, 3) := by decide +kernel
theorem dX12_isOne_39 : decode cX12_isOne 39 = .ok (.iload_n 1, 1) := by decide +kernel
theorem dX12_isOne_40 : decode cX12_isOne 40 = .ok (.laload, 1) := by decide +kernel
theorem dX12_isOne_41 : decode cX12_isOne 41 = .ok (.lcmp, 1) := by decide +kernel
theorem dX12_isOne_42 : decode cX12_isOne 42 = .ok (.ifCond .eq 43, 3) := by decide +kernel
theorem dX12_isOne_45 : decode cX12_isOne 45 = .ok (.aload_n 0, 1) := by decide +kernel
theorem dX12_isOne_46 : decode cX12_isOne 46 = .ok (.getfield 61, 3) := by decide +kernel
theorem dX12_isOne_49 : decode cX12_isOne 49 = .ok (.iconst 3, 1) := by decide +kernel
theorem dX12_isOne_50 : decode cX12_isOne 50 = .ok (.iload_n 2, 1) := by decide +kernel
theorem dX12_isOne_51 : decode cX12_isOne 51 = .ok (.imul, 1) := by decide +kernel
theorem dX12_isOne_52 : decode cX12_isOne 52 = .ok (.iconst 1, 1) := by decide +kernel
theorem dX12_isOne_53 : decode cX12_isOne 53 = .ok (.iadd, 1) := by decide +kernel
theorem dX12_isOne_54 : decode cX12_isOne 54 = .ok (.laload, 1) := by decide +kernel
theorem dX12_isOne_55 : decode cX12_isOne 55 = .ok (.aload_n 0, 1) := by decide +kernel
theorem dX12_isOne_56 : decode cX12_isOne 56 = .ok (.getfield 117, 3) := by decide +kernel
theorem dX12_isOne_59 : decode cX12_isOne 59 = .ok (.iload_n 1, 1) := by decide +kernel
theorem dX12_isOne_60 : decode cX12_isOne 60 = .ok (.laload, 1) := by decide +kernel
theorem dX12_isOne_61 : decode cX12_isOne 61 = .ok (.lcmp, 1) := by decide +kernel
theorem dX12_isOne_62 : decode cX12_isOne 62 = .ok (.ifCond .eq 23, 3) := by decide +kernel
theorem dX12_isOne_65 : decode cX12_isOne 65 = .ok (.aload_n 0, 1) := by decide +kernel
theorem dX12_isOne_66 : decode cX12_isOne 66 = .ok (.getfield 61, 3) := by decide +kernel
theorem dX12_isOne_69 : decode cX12_isOne 69 = .ok (.iconst 3, 1) := by decide +kernel
theorem dX12_isOne_70 : decode cX12_isOne 70 = .ok (.iload_n 2, 1) := by decide +kernel
theorem dX12_isOne_71 : decode cX12_isOne 71 = .ok (.imul, 1) := by decide +kernel
theorem dX12_isOne_72 : decode cX12_isOne 72 = .ok (.iconst 2, 1) := by decide +kernel
theorem dX12_isOne_73 : decode cX12_isOne 73 = .ok (.iadd, 1) := by decide +kernel
theorem dX12_isOne_74 : decode cX12_isOne 74 = .ok (.laload, 1) := by decide +kernel
theorem dX12_isOne_75 : decode cX12_isOne 75 = .ok (.aload_n 0, 1) := by decide +kernel
theorem dX12_isOne_76 : decode cX12_isOne 76 = .ok (.getfield 117, 3) := by decide +kernel
theorem dX12_isOne_79 : decode cX12_isOne 79 = .ok (.iload_n 1, 1) := by decide +kernel
theorem dX12_isOne_80 : decode cX12_isOne 80 = .ok (.laload, 1) := by decide +kernel
theorem dX12_isOne_81 : decode cX12_isOne 81 = .ok (.lcmp, 1) := by decide +kernel
theorem dX12_isOne_82 : decode cX12_isOne 82 = .ok (.ifCond .ne 7, 3) := by decide +kernel
theorem dX12_isOne_85 : decode cX12_isOne 85 = .ok (.iconst 1, 1) := by decide +kernel
theorem dX12_isOne_86 : decode cX12_isOne 86 = .ok (.goto 4, 3) := by decide +kernel
theorem dX12_isOne_89 : decode cX12_isOne 89 = .ok (.iconst 0, 1) := by decide +kernel
theorem dX12_isOne_90 : decode cX12_isOne 90 = .ok (.ireturn, 1) := by decide +kernel
theorem dX12_isOne_91 : decode cX12_isOne 91 = .ok (.aload_n 0, 1) := by decide +kernel
theorem dX12_isOne_92 : decode cX12_isOne 92 = .ok (.aload_n 0, 1) := by decide +kernel
theorem dX12_isOne_93 : decode cX12_isOne 93 = .ok (.getfield 105, 3) := by decide +kernel
theorem dX12_isOne_96 : decode cX12_isOne 96 = .ok (.iload_n 1, 1) := by decide +kernel
theorem dX12_isOne_97 : decode cX12_isOne 97 = .ok (.iaload, 1) := by decide +kernel
theorem dX12_isOne_98 : decode cX12_isOne 98 = .ok (.aload_n 0, 1) := by decide +kernel
theorem dX12_isOne_99 : decode cX12_isOne 99 = .ok (.getfield 108, 3) := by decide +kernel
theorem dX12_isOne_102 : decode cX12_isOne 102 = .ok (.iload_n 1, 1) := by decide +kernel
theorem dX12_isOne_103 : decode cX12_isOne 103 = .ok (.iaload, 1) := by decide +kernel
theorem dX12_isOne_104 : decode cX12_isOne 104 = .ok (.invokevirtual 417, 3) := by decide +kernel
theorem dX12_isOne_107 : decode cX12_isOne 107 = .ok (.lstore_n 3, 1) := by decide +kernel
theorem dX12_isOne_108 : decode cX12_isOne 108 = .ok (.aload_n 0, 1) := by decide +kernel
theorem dX12_isOne_109 : decode cX12_isOne 109 = .ok (.aload_n 0, 1) := by decide +kernel
theorem dX12_isOne_110 : decode cX12_isOne 110 = .ok (.getfield 108, 3) := by decide +kernel
theorem dX12_isOne_113 : decode cX12_isOne 113 = .ok (.iload_n 1, 1) := by decide +kernel
theorem dX12_isOne_114 : decode cX12_isOne 114 = .ok (.iaload, 1) := by decide +kernel
theorem dX12_isOne_115 : decode cX12_isOne 115 = .ok (.aload_n 0, 1) := by decide +kernel
theorem dX12_isOne_116 : decode cX12_isOne 116 = .ok (.getfield 111, 3) := by decide +kernel
theorem dX12_isOne_119 : decode cX12_isOne 119 = .ok (.iload_n 1, 1) := by decide +kernel
theorem dX12_isOne_120 : decode cX12_isOne 120 = .ok (.iaload, 1) := by decide +kernel
theorem dX12_isOne_121 : decode cX12_isOne 121 = .ok (.invokevirtual 417, 3) := by decide +kernel
theorem dX12_isOne_124 : decode cX12_isOne 124 = .ok (.lstore 5, 2) := by decide +kernel
theorem dX12_isOne_126 : decode cX12_isOne 126 = .ok (.aload_n 0, 1) := by decide +kernel
theorem dX12_isOne_127 : decode cX12_isOne 127 = .ok (.getfield 114, 3) := by decide +kernel
theorem dX12_isOne_130 : decode cX12_isOne 130 = .ok (.iload_n 1, 1) := by decide +kernel
theorem dX12_isOne_131 : decode cX12_isOne 131 = .ok (.iaload, 1) := by decide +kernel
theorem dX12_isOne_132 : decode cX12_isOne 132 = .ok (.bipush 60, 2) := by decide +kernel
theorem dX12_isOne_134 : decode cX12_isOne 134 = .ok (.if_icmp .ne 18, 3) := by decide +kernel
theorem dX12_isOne_137 : decode cX12_isOne 137 = .ok (.lload_n 3, 1) := by decide +kernel
theorem dX12_isOne_138 : decode cX12_isOne 138 = .ok (.lload 5, 2) := by decide +kernel
theorem dX12_isOne_140 : decode cX12_isOne 140 = .ok (.lcmp, 1) := by decide +kernel
theorem dX12_isOne_141 : decode cX12_isOne 141 = .ok (.ifCond .ge 7, 3) := by decide +kernel
theorem dX12_isOne_144 : decode cX12_isOne 144 = .ok (.iconst 1, 1) := by decide +kernel
theorem dX12_isOne_145 : decode cX12_isOne 145 = .ok (.goto 45, 3) := by decide +kernel
theorem dX12_isOne_148 : decode cX12_isOne 148 = .ok (.iconst 0, 1) := by decide +kernel
theorem dX12_isOne_149 : decode cX12_isOne 149 = .ok (.goto 41, 3) := by decide +kernel
theorem dX12_isOne_152 : decode cX12_isOne 152 = .ok (.aload_n 0, 1) := by decide +kernel
theorem dX12_isOne_153 : decode cX12_isOne 153 = .ok (.getfield 114, 3) := by decide +kernel
theorem dX12_isOne_156 : decode cX12_isOne 156 = .ok (.iload_n 1, 1) := by decide +kernel
theorem dX12_isOne_157 : decode cX12_isOne 157 = .ok (.iaload, 1) := by decide +kernel
theorem dX12_isOne_158 : decode cX12_isOne 158 = .ok (.bipush 62, 2) := by decide +kernel
theorem dX12_isOne_160 : decode cX12_isOne 160 = .ok (.if_icmp .ne 18, 3) := by decide +kernel
theorem dX12_isOne_163 : decode cX12_isOne 163 = .ok (.lload_n 3, 1) := by decide +kernel
theorem dX12_isOne_164 : decode cX12_isOne 164 = .ok (.lload 5, 2) := by decide +kernel
theorem dX12_isOne_166 : decode cX12_isOne 166 = .ok (.lcmp, 1) := by decide +kernel
theorem dX12_isOne_167 : decode cX12_isOne 167 = .ok (.ifCond .le 7, 3) := by decide +kernel
theorem dX12_isOne_170 : decode cX12_isOne 170 = .ok (.iconst 1, 1) := by decide +kernel
theorem dX12_isOne_171 : decode cX12_isOne 171 = .ok (.goto 19, 3) := by decide +kernel
theorem dX12_isOne_174 : decode cX12_isOne 174 = .ok (.iconst 0, 1) := by decide +kernel
theorem dX12_isOne_175 : decode cX12_isOne 175 = .ok (.goto 15, 3) := by decide +kernel
theorem dX12_isOne_178 : decode cX12_isOne 178 = .ok (.lload_n 3, 1) := by decide +kernel
theorem dX12_isOne_179 : decode cX12_isOne 179 = .ok (.lload 5, 2) := by decide +kernel
theorem dX12_isOne_181 : decode cX12_isOne 181 = .ok (.lcmp, 1) := by decide +kernel
theorem dX12_isOne_182 : decode cX12_isOne 182 = .ok (.ifCond .ne 7, 3) := by decide +kernel
theorem dX12_isOne_185 : decode cX12_isOne 185 = .ok (.iconst 1, 1) := by decide +kernel
theorem dX12_isOne_186 : decode cX12_isOne 186 = .ok (.goto 4, 3) := by decide +kernel
theorem dX12_isOne_189 : decode cX12_isOne 189 = .ok (.iconst 0, 1) := by decide +kernel
theorem dX12_isOne_190 : decode cX12_isOne 190 = .ok (.ireturn, 1) := by decide +kernel
noncomputable def B_X12_isOne_0 : pb_C := (i_aload 0 (i_getR 64 90 (i_iload 1 (i_ald 90 1500 (i_const (.int 2) (i_ic_ne (i_aload 0 (i_getR 64 90 (i_iload 1 (i_ald 90 1500 (i_const (.int 1) (i_ic_ne (i_aload 0 (i_aload 0 (i_getR 64 91 (i_iload 1 (i_ald 91 1500 (i_aload 0 (i_getR 64 92 (i_iload 1 (i_ald 92 1500 (i_callV 64 2 2 M_X12_work (i_lstore 3 (i_aload 0 (i_aload 0 (i_getR 64 92 (i_iload 1 (i_ald 92 1500 (i_aload 0 (i_getR 64 93 (i_iload 1 (i_ald 93 1500 (i_callV 64 2 2 M_X12_work (i_lstore 5 (i_aload 0 (i_getR 64 94 (i_iload 1 (i_ald 94 1500 (i_const (.int 60) (i_ic_ne (i_aload 0 (i_getR 64 94 (i_iload 1 (i_ald 94 1500 (i_const (.int 62) (i_ic_ne (i_lload 3 (i_lload 5 (i_lcmp (i_if_ne (i_const (.int 0) i_zret) (i_const (.int 1) i_zret))))) (i_lload 3 (i_lload 5 (i_lcmp (i_if_le (i_const (.int 0) i_zret) (i_const (.int 1) i_zret))))))))))) (i_lload 3 (i_lload 5 (i_lcmp (i_if_ge (i_const (.int 0) i_zret) (i_const (.int 1) i_zret))))))))))))))))))))))))))))))))) (i_aload 0 (i_getR 64 79 (i_const (.int 3) (i_iload 2 (i_ibin (· * ·) (i_lald 79 600 (i_aload 0 (i_getR 64 95 (i_iload 1 (i_lald 95 1500 (i_lcmp (i_if_eq (i_const (.int 1) i_zret) (i_aload 0 (i_getR 64 79 (i_const (.int 3) (i_iload 2 (i_ibin (· * ·) (i_const (.int 1) (i_ibin (· + ·) (i_lald 79 600 (i_aload 0 (i_getR 64 95 (i_iload 1 (i_lald 95 1500 (i_lcmp (i_if_eq (i_const (.int 1) i_zret) (i_aload 0 (i_getR 64 79 (i_const (.int 3) (i_iload 2 (i_ibin (· * ·) (i_const (.int 2) (i_ibin (· + ·) (i_lald 79 600 (i_aload 0 (i_getR 64 95 (i_iload 1 (i_lald 95 1500 (i_lcmp (i_if_ne (i_const (.int 0) i_zret) (i_const (.int 1) i_zret))))))))))))))))))))))))))))))))))))))))))))))) (i_aload 0 (i_getR 64 81 (i_iload 2 (i_ald 81 200 i_zret))))))))))
noncomputable def T_X12_isOne : Nat → pb_C := pb_tt [(0, B_X12_isOne_0)]
noncomputable def M_X12_isOne : pb_F := pb_M T_X12_isOne 7
set_option maxRecDepth 100000 in
set_option maxHeartbeats 4000000 in
theorem S_X12_isOne (l : Launch) : pb_Sound l yX12_isOne cX12_isOne 7 (some .boolean) 2 M_X12_isOne := by
  refine pb_sound_of (by decide) m_8_206 ?_
  intro Γ hl0 hRm0 hm X E hr J
  have hnL : ∀ j, j < 7 → j < Γ.2.2.2.2.2.2.2.2.2.2.2.1 := fun j h => by rw [hm]; exact h
  have hR : ∀ (d' mL : Nat), d' + 1 ≤ 2 ∧ 8 + (mL + 11) + d' * 64 ≤ 2 * 64 → (pb_rm d').frames + 1 ≤ Γ.2.2.2.1.frames ∧ 8 + (mL + 11) + (pb_rm d').locals ≤ Γ.2.2.2.1.locals := by rw [hRm0]; exact fun _ _ h => h
  have hRm : 1 ≤ 2 ∧ 64 ≤ 2 * 64 → 1 ≤ Γ.2.2.2.1.frames ∧ 64 ≤ Γ.2.2.2.1.locals := by rw [hRm0]; exact fun h => h
  exact pb_tt_snd _ (List.forall_mem_cons.mpr ⟨(s_aload_n (pc := 0) X dX12_isOne_0 rfl (s_getR (pc := 1) X dX12_isOne_1 g_X12_102 (s_iload_n (pc := 4) X dX12_isOne_4 rfl (s_iald (pc := 5) X dX12_isOne_5 h_90 (s_iconst (pc := 6) X dX12_isOne_6 rfl (s_ic_ne (pc := 7) X dX12_isOne_7 (by decide) (s_aload_n (pc := 17) X dX12_isOne_17 rfl (s_getR (pc := 18) X dX12_isOne_18 g_X12_102 (s_iload_n (pc := 21) X dX12_isOne_21 rfl (s_iald (pc := 22) X dX12_isOne_22 h_90 (s_iconst (pc := 23) X dX12_isOne_23 rfl (s_ic_ne (pc := 24) X dX12_isOne_24 (by decide) (s_aload_n (pc := 91) X dX12_isOne_91 rfl (s_aload_n (pc := 92) X dX12_isOne_92 rfl (s_getR (pc := 93) X dX12_isOne_93 g_X12_105 (s_iload_n (pc := 96) X dX12_isOne_96 rfl (s_iald (pc := 97) X dX12_isOne_97 h_91 (s_aload_n (pc := 98) X dX12_isOne_98 rfl (s_getR (pc := 99) X dX12_isOne_99 g_X12_108 (s_iload_n (pc := 102) X dX12_isOne_102 rfl (s_iald (pc := 103) X dX12_isOne_103 h_92 (s_callV (pc := 104) X dX12_isOne_104 (S_X12_work _) q_X12_417 h_64 rfl (hR _ _ (by decide)) (s_lstore_n (pc := 107) X dX12_isOne_107 rfl (hnL _ (by decide)) (s_aload_n (pc := 108) X dX12_isOne_108 rfl (s_aload_n (pc := 109) X dX12_isOne_109 rfl (s_getR (pc := 110) X dX12_isOne_110 g_X12_108 (s_iload_n (pc := 113) X dX12_isOne_113 rfl (s_iald (pc := 114) X dX12_isOne_114 h_92 (s_aload_n (pc := 115) X dX12_isOne_115 rfl (s_getR (pc := 116) X dX12_isOne_116 g_X12_111 (s_iload_n (pc := 119) X dX12_isOne_119 rfl (s_iald (pc := 120) X dX12_isOne_120 h_93 (s_callV (pc := 121) X dX12_isOne_121 (S_X12_work _) q_X12_417 h_64 rfl (hR _ _ (by decide)) (s_lstore (pc := 124) X dX12_isOne_124 (hnL _ (by decide)) (s_aload_n (pc := 126) X dX12_isOne_126 rfl (s_getR (pc := 127) X dX12_isOne_127 g_X12_114 (s_iload_n (pc := 130) X dX12_isOne_130 rfl (s_iald (pc := 131) X dX12_isOne_131 h_94 (s_bipush (pc := 132) X dX12_isOne_132 rfl (s_ic_ne (pc := 134) X dX12_isOne_134 (by decide) (s_aload_n (pc := 152) X dX12_isOne_152 rfl (s_getR (pc := 153) X dX12_isOne_153 g_X12_114 (s_iload_n (pc := 156) X dX12_isOne_156 rfl (s_iald (pc := 157) X dX12_isOne_157 h_94 (s_bipush (pc := 158) X dX12_isOne_158 rfl (s_ic_ne (pc := 160) X dX12_isOne_160 (by decide) (s_lload_n (pc := 178) X dX12_isOne_178 rfl (s_lload (pc := 179) X dX12_isOne_179 (s_lcmp (pc := 181) X dX12_isOne_181 (s_if_ne (pc := 182) X dX12_isOne_182 (by decide) (s_iconst (pc := 189) X dX12_isOne_189 rfl (s_zret (pc := 190) X E hr dX12_isOne_190)) (s_iconst (pc := 185) X dX12_isOne_185 rfl (s_goto (pc := 186) X dX12_isOne_186 (by decide) (s_zret (pc := 190) X E hr dX12_isOne_190))))))) (s_lload_n (pc := 163) X dX12_isOne_163 rfl (s_lload (pc := 164) X dX12_isOne_164 (s_lcmp (pc := 166) X dX12_isOne_166 (s_if_le (pc := 167) X dX12_isOne_167 (by decide) (s_iconst (pc := 174) X dX12_isOne_174 rfl (s_goto (pc := 175) X dX12_isOne_175 (by decide) (s_zret (pc := 190) X E hr dX12_isOne_190))) (s_iconst (pc := 170) X dX12_isOne_170 rfl (s_goto (pc := 171) X dX12_isOne_171 (by decide) (s_zret (pc := 190) X E hr dX12_isOne_190))))))))))))) (s_lload_n (pc := 137) X dX12_isOne_137 rfl (s_lload (pc := 138) X dX12_isOne_138 (s_lcmp (pc := 140) X dX12_isOne_140 (s_if_ge (pc := 141) X dX12_isOne_141 (by decide) (s_iconst (pc := 148) X dX12_isOne_148 rfl (s_goto (pc := 149) X dX12_isOne_149 (by decide) (s_zret (pc := 190) X E hr dX12_isOne_190))) (s_iconst (pc := 144) X dX12_isOne_144 rfl (s_goto (pc := 145) X dX12_isOne_145 (by decide) (s_zret (pc := 190) X E hr dX12_isOne_190))))))))))))))))))))))))))))))))))) (s_aload_n (pc := 27) X dX12_isOne_27 rfl (s_getR (pc := 28) X dX12_isOne_28 g_X12_61 (s_iconst (pc := 31) X dX12_isOne_31 rfl (s_iload_n (pc := 32) X dX12_isOne_32 rfl (s_imul (pc := 33) X dX12_isOne_33 (s_lald (pc := 34) X dX12_isOne_34 h_79 (s_aload_n (pc := 35) X dX12_isOne_35 rfl (s_getR (pc := 36) X dX12_isOne_36 g_X12_117 (s_iload_n (pc := 39) X dX12_isOne_39 rfl (s_lald (pc := 40) X dX12_isOne_40 h_95 (s_lcmp (pc := 41) X dX12_isOne_41 (s_if_eq (pc := 42) X dX12_isOne_42 (by decide) (s_iconst (pc := 85) X dX12_isOne_85 rfl (s_goto (pc := 86) X dX12_isOne_86 (by decide) (s_zret (pc := 90) X E hr dX12_isOne_90))) (s_aload_n (pc := 45) X dX12_isOne_45 rfl (s_getR (pc := 46) X dX12_isOne_46 g_X12_61 (s_iconst (pc := 49) X dX12_isOne_49 rfl (s_iload_n (pc := 50) X dX12_isOne_50 rfl (s_imul (pc := 51) X dX12_isOne_51 (s_iconst (pc := 52) X dX12_isOne_52 rfl (s_iadd (pc := 53) X dX12_isOne_53 (s_lald (pc := 54) X dX12_isOne_54 h_79 (s_aload_n (pc := 55) X dX12_isOne_55 rfl (s_getR (pc := 56) X dX12_isOne_56 g_X12_117 (s_iload_n (pc := 59) X dX12_isOne_59 rfl (s_lald (pc := 60) X dX12_isOne_60 h_95 (s_lcmp (pc := 61) X dX12_isOne_61 (s_if_eq (pc := 62) X dX12_isOne_62 (by decide) (s_iconst (pc := 85) X dX12_isOne_85 rfl (s_goto (pc := 86) X dX12_isOne_86 (by decide) (s_zret (pc := 90) X E hr dX12_isOne_90))) (s_aload_n (pc := 65) X dX12_isOne_65 rfl (s_getR (pc := 66) X dX12_isOne_66 g_X12_61 (s_iconst (pc := 69) X dX12_isOne_69 rfl (s_iload_n (pc := 70) X dX12_isOne_70 rfl (s_imul (pc := 71) X dX12_isOne_71 (s_iconst (pc := 72) X dX12_isOne_72 rfl (s_iadd (pc := 73) X dX12_isOne_73 (s_lald (pc := 74) X dX12_isOne_74 h_79 (s_aload_n (pc := 75) X dX12_isOne_75 rfl (s_getR (pc := 76) X dX12_isOne_76 g_X12_117 (s_iload_n (pc := 79) X dX12_isOne_79 rfl (s_lald (pc := 80) X dX12_isOne_80 h_95 (s_lcmp (pc := 81) X dX12_isOne_81 (s_if_ne (pc := 82) X dX12_isOne_82 (by decide) (s_iconst (pc := 89) X dX12_isOne_89 rfl (s_zret (pc := 90) X E hr dX12_isOne_90)) (s_iconst (pc := 85) X dX12_isOne_85 rfl (s_goto (pc := 86) X dX12_isOne_86 (by decide) (s_zret (pc := 90) X E hr dX12_isOne_90))))))))))))))))))))))))))))))))))))))))))))))))) (s_aload_n (pc := 10) X dX12_isOne_10 rfl (s_getR (pc := 11) X dX12_isOne_11 g_X12_67 (s_iload_n (pc := 14) X dX12_isOne_14 rfl (s_zald (pc := 15) X dX12_isOne_15 h_81 (s_zret (pc := 16) X E hr dX12_isOne_16))))))))))), fun _ h => absurd h List.not_mem_nil⟩)
theorem dX12_holds_0 : decode cX12_holds 0 = .ok (.iconst 1, 1) := by decide +kernel
theorem dX12_holds_1 : decode cX12_holds 1 = .ok (.istore 4, 2) := by decide +kernel
theorem dX12_holds_3 : decode cX12_holds 3 = .ok (.iload_n 1, 1) := by decide +kernel
theorem dX12_holds_4 : decode cX12_holds 4 = .ok (.istore 5, 2) := by decide +kernel
theorem dX12_holds_6 : decode cX12_holds 6 = .ok (.iload 5, 2) := by decide +kernel
theorem dX12_holds_8 : decode cX12_holds 8 = .ok (.iload_n 2, 1) := by decide +kernel
theorem dX12_holds_9 : decode cX12_holds 9 = .ok (.if_icmp .ge 64, 3) := by decide +kernel
theorem dX12_holds_12 : decode cX12_holds 12 = .ok (.aload_n 0, 1) := by decide +kernel
theorem dX12_holds_13 : decode cX12_holds 13 = .ok (.getfield 123, 3) := by decide +kernel
theorem dX12_holds_16 : decode cX12_holds 16 = .ok (.iload 5, 2) := by decide +kernel
theorem dX12_holds_18 : decode cX12_holds 18 = .ok (.baload, 1) := by decide +kernel
theorem dX12_holds_19 : decode cX12_holds 19 = .ok (.ifCond .eq 19, 3) := by decide +kernel
theorem dX12_holds_22 : decode cX12_holds 22 = .ok (.iload 5, 2) := by decide +kernel
theorem dX12_holds_24 : decode cX12_holds 24 = .ok (.iload_n 1, 1) := by decide +kernel
theorem dX12_holds_25 : decode cX12_holds 25 = .ok (.if_icmp .le 13, 3) := by decide +kernel
theorem dX12_holds_28 : decode cX12_holds 28 = .ok (.iload 4, 2) := by decide +kernel
theorem dX12_holds_30 : decode cX12_holds 30 = .ok (.ifCond .eq 5, 3) := by decide +kernel
theorem dX12_holds_33 : decode cX12_holds 33 = .ok (.iconst 1, 1) := by decide +kernel
theorem dX12_holds_34 : decode cX12_holds 34 = .ok (.ireturn, 1) := by decide +kernel
theorem dX12_holds_35 : decode cX12_holds 35 = .ok (.iconst 1, 1) := by decide +kernel
theorem dX12_holds_36 : decode cX12_holds 36 = .ok (.istore 4, 2) := by decide +kernel
theorem dX12_holds_38 : decode cX12_holds 38 = .ok (.iload 4, 2) := by decide +kernel
theorem dX12_holds_40 : decode cX12_holds 40 = .ok (.ifCond .eq 24, 3) := by decide +kernel
theorem dX12_holds_43 : decode cX12_holds 43 = .ok (.aload_n 0, 1) := by decide +kernel
theorem dX12_holds_44 : decode cX12_holds 44 = .ok (.iload 5, 2) := by decide +kernel
theorem dX12_holds_46 : decode cX12_holds 46 = .ok (.iload_n 3, 1) := by decide +kernel
theorem dX12_holds_47 : decode cX12_holds 47 = .ok (.invokevirtual 421, 3) := by decide +kernel
theorem dX12_holds_50 : decode cX12_holds 50 = .ok (.aload_n 0, 1) := by decide +kernel
theorem dX12_holds_51 : decode cX12_holds 51 = .ok (.getfield 120, 3) := by decide +kernel
theorem dX12_holds_54 : decode cX12_holds 54 = .ok (.iload 5, 2) := by decide +kernel
theorem dX12_holds_56 : decode cX12_holds 56 = .ok (.baload, 1) := by decide +kernel
theorem dX12_holds_57 : decode cX12_holds 57 = .ok (.if_icmp .eq 7, 3) := by decide +kernel
theorem dX12_holds_60 : decode cX12_holds 60 = .ok (.iconst 1, 1) := by decide +kernel
theorem dX12_holds_61 : decode cX12_holds 61 = .ok (.goto 4, 3) := by decide +kernel
theorem dX12_holds_64 : decode cX12_holds 64 = .ok (.iconst 0, 1) := by decide +kernel
theorem dX12_holds_65 : decode cX12_holds 65 = .ok (.istore 4, 2) := by decide +kernel
theorem dX12_holds_67 : decode cX12_holds 67 = .ok (.iinc 5 1, 3) := by decide +kernel
theorem dX12_holds_70 : decode cX12_holds 70 = .ok (.goto (-64), 3) := by decide +kernel
theorem dX12_holds_73 : decode cX12_holds 73 = .ok (.iload 4, 2) := by decide +kernel
theorem dX12_holds_75 : decode cX12_holds 75 = .ok (.ireturn, 1) := by decide +kernel
noncomputable def B_X12_holds_0 : pb_C := (i_const (.int 1) (i_istore 4 (i_iload 1 (i_istore 5 (i_jmp 6 [true, true, true, true, true, true])))))
noncomputable def B_X12_holds_6 : pb_C := (i_iload 5 (i_iload 2 (i_ic_ge (i_iload 4 i_zret) (i_aload 0 (i_getR 64 97 (i_iload 5 (i_ald 97 1500 (i_if_eq (i_jmp 38 [true, true, true, true, true, true]) (i_iload 5 (i_iload 1 (i_ic_le (i_jmp 38 [true, true, true, true, true, true]) (i_iload 4 (i_if_eq (i_const (.int 1) (i_istore 4 (i_jmp 38 [true, true, true, true, true, true]))) (i_const (.int 1) i_zret))))))))))))))
noncomputable def B_X12_holds_38 : pb_C := (i_iload 4 (i_if_eq (i_const (.int 0) (i_istore 4 (i_iinc 5 1 (i_jmp 6 [true, true, true, true, true, true])))) (i_aload 0 (i_iload 5 (i_iload 3 (i_callV 64 2 1 M_X12_isOne (i_aload 0 (i_getR 64 96 (i_iload 5 (i_ald 96 1500 (i_ic_eq (i_const (.int 0) (i_istore 4 (i_iinc 5 1 (i_jmp 6 [true, true, true, true, true, true])))) (i_const (.int 1) (i_istore 4 (i_iinc 5 1 (i_jmp 6 [true, true, true, true, true, true])))))))))))))))
noncomputable def T_X12_holds : Nat → pb_C := pb_tt [(0, B_X12_holds_0), (6, B_X12_holds_6), (38, B_X12_holds_38)]
noncomputable def M_X12_holds : pb_F := pb_M T_X12_holds 6
set_option maxRecDepth 100000 in
set_option maxHeartbeats 4000000 in
theorem S_X12_holds (l : Launch) : pb_Sound l yX12_holds cX12_holds 6 (some .boolean) 3 M_X12_holds := by
  refine pb_sound_of (by decide) m_8_202 ?_
  intro Γ hl0 hRm0 hm X E hr J
  have hnL : ∀ j, j < 6 → j < Γ.2.2.2.2.2.2.2.2.2.2.2.1 := fun j h => by rw [hm]; exact h
  have hR : ∀ (d' mL : Nat), d' + 1 ≤ 3 ∧ 8 + (mL + 11) + d' * 64 ≤ 3 * 64 → (pb_rm d').frames + 1 ≤ Γ.2.2.2.1.frames ∧ 8 + (mL + 11) + (pb_rm d').locals ≤ Γ.2.2.2.1.locals := by rw [hRm0]; exact fun _ _ h => h
  have hRm : 1 ≤ 3 ∧ 64 ≤ 3 * 64 → 1 ≤ Γ.2.2.2.1.frames ∧ 64 ≤ Γ.2.2.2.1.locals := by rw [hRm0]; exact fun h => h
  exact pb_tt_snd _ (List.forall_mem_cons.mpr ⟨(s_iconst (pc := 0) X dX12_holds_0 rfl (s_istore (pc := 1) X dX12_holds_1 (hnL _ (by decide)) (s_iload_n (pc := 3) X dX12_holds_3 rfl (s_istore (pc := 4) X dX12_holds_4 (hnL _ (by decide)) (s_jmp (pc := 6) J [true, true, true, true, true, true]))))), List.forall_mem_cons.mpr ⟨(s_iload (pc := 6) X dX12_holds_6 (s_iload_n (pc := 8) X dX12_holds_8 rfl (s_ic_ge (pc := 9) X dX12_holds_9 (by decide) (s_iload (pc := 73) X dX12_holds_73 (s_zret (pc := 75) X E hr dX12_holds_75)) (s_aload_n (pc := 12) X dX12_holds_12 rfl (s_getR (pc := 13) X dX12_holds_13 g_X12_123 (s_iload (pc := 16) X dX12_holds_16 (s_zald (pc := 18) X dX12_holds_18 h_97 (s_if_eq (pc := 19) X dX12_holds_19 (by decide) (s_jmp (pc := 38) J [true, true, true, true, true, true]) (s_iload (pc := 22) X dX12_holds_22 (s_iload_n (pc := 24) X dX12_holds_24 rfl (s_ic_le (pc := 25) X dX12_holds_25 (by decide) (s_jmp (pc := 38) J [true, true, true, true, true, true]) (s_iload (pc := 28) X dX12_holds_28 (s_if_eq (pc := 30) X dX12_holds_30 (by decide) (s_iconst (pc := 35) X dX12_holds_35 rfl (s_istore (pc := 36) X dX12_holds_36 (hnL _ (by decide)) (s_jmp (pc := 38) J [true, true, true, true, true, true]))) (s_iconst (pc := 33) X dX12_holds_33 rfl (s_zret (pc := 34) X E hr dX12_holds_34))))))))))))))), List.forall_mem_cons.mpr ⟨(s_iload (pc := 38) X dX12_holds_38 (s_if_eq (pc := 40) X dX12_holds_40 (by decide) (s_iconst (pc := 64) X dX12_holds_64 rfl (s_istore (pc := 65) X dX12_holds_65 (hnL _ (by decide)) (s_iinc (pc := 67) X dX12_holds_67 rfl (s_goto (pc := 70) X dX12_holds_70 (by decide) (s_jmp (pc := 6) J [true, true, true, true, true, true]))))) (s_aload_n (pc := 43) X dX12_holds_43 rfl (s_iload (pc := 44) X dX12_holds_44 (s_iload_n (pc := 46) X dX12_holds_46 rfl (s_callV (pc := 47) X dX12_holds_47 (S_X12_isOne _) q_X12_421 h_64 rfl (hR _ _ (by decide)) (s_aload_n (pc := 50) X dX12_holds_50 rfl (s_getR (pc := 51) X dX12_holds_51 g_X12_120 (s_iload (pc := 54) X dX12_holds_54 (s_zald (pc := 56) X dX12_holds_56 h_96 (s_ic_eq (pc := 57) X dX12_holds_57 (by decide) (s_iconst (pc := 64) X dX12_holds_64 rfl (s_istore (pc := 65) X dX12_holds_65 (hnL _ (by decide)) (s_iinc (pc := 67) X dX12_holds_67 rfl (s_goto (pc := 70) X dX12_holds_70 (by decide) (s_jmp (pc := 6) J [true, true, true, true, true, true]))))) (s_iconst (pc := 60) X dX12_holds_60 rfl (s_goto (pc := 61) X dX12_holds_61 (by decide) (s_istore (pc := 65) X dX12_holds_65 (hnL _ (by decide)) (s_iinc (pc := 67) X dX12_holds_67 rfl (s_goto (pc := 70) X dX12_holds_70 (by decide) (s_jmp (pc := 6) J [true, true, true, true, true, true]))))))))))))))))), fun _ h => absurd h List.not_mem_nil⟩⟩⟩)
theorem dX12_sortOut_0 : decode cX12_sortOut 0 = .ok (.aload_n 0, 1) := by decide +kernel
theorem dX12_sortOut_1 : decode cX12_sortOut 1 = .ok (.getfield 141, 3) := by decide +kernel
theorem dX12_sortOut_4 : decode cX12_sortOut 4 = .ok (.iconst 0, 1) := by decide +kernel
theorem dX12_sortOut_5 : decode cX12_sortOut 5 = .ok (.aload_n 0, 1) := by decide +kernel
theorem dX12_sortOut_6 : decode cX12_sortOut 6 = .ok (.iload_n 1, 1) := by decide +kernel
theorem dX12_sortOut_7 : decode cX12_sortOut 7 = .ok (.invokevirtual 308, 3) := by decide +kernel
theorem dX12_sortOut_10 : decode cX12_sortOut 10 = .ok (.i2l, 1) := by decide +kernel
theorem dX12_sortOut_11 : decode cX12_sortOut 11 = .ok (.lastore, 1) := by decide +kernel
theorem dX12_sortOut_12 : decode cX12_sortOut 12 = .ok (.aload_n 0, 1) := by decide +kernel
theorem dX12_sortOut_13 : decode cX12_sortOut 13 = .ok (.getfield 141, 3) := by decide +kernel
theorem dX12_sortOut_16 : decode cX12_sortOut 16 = .ok (.iconst 1, 1) := by decide +kernel
theorem dX12_sortOut_17 : decode cX12_sortOut 17 = .ok (.aload_n 0, 1) := by decide +kernel
theorem dX12_sortOut_18 : decode cX12_sortOut 18 = .ok (.getfield 37, 3) := by decide +kernel
theorem dX12_sortOut_21 : decode cX12_sortOut 21 = .ok (.iload_n 1, 1) := by decide +kernel
theorem dX12_sortOut_22 : decode cX12_sortOut 22 = .ok (.iaload, 1) := by decide +kernel
theorem dX12_sortOut_23 : decode cX12_sortOut 23 = .ok (.i2l, 1) := by decide +kernel
theorem dX12_sortOut_24 : decode cX12_sortOut 24 = .ok (.lastore, 1) := by decide +kernel
theorem dX12_sortOut_25 : decode cX12_sortOut 25 = .ok (.aload_n 0, 1) := by decide +kernel
theorem dX12_sortOut_26 : decode cX12_sortOut 26 = .ok (.getfield 141, 3) := by decide +kernel
theorem dX12_sortOut_29 : decode cX12_sortOut 29 = .ok (.iconst 2, 1) := by decide +kernel
theorem dX12_sortOut_30 : decode cX12_sortOut 30 = .ok (.aload_n 0, 1) := by decide +kernel
theorem dX12_sortOut_31 : decode cX12_sortOut 31 = .ok (.getfield 37, 3) := by decide +kernel
theorem dX12_sortOut_34 : decode cX12_sortOut 34 = .ok (.iload_n 1, 1) := by decide +kernel
theorem dX12_sortOut_35 : decode cX12_sortOut 35 = .ok (.iaload, 1) := by decide +kernel
theorem dX12_sortOut_36 : decode cX12_sortOut 36 = .ok (.bipush 52, 2) := by decide +kernel
theorem dX12_sortOut_38 : decode cX12_sortOut 38 = .ok (.idiv, 1) := by decide +kernel
theorem dX12_sortOut_39 : decode cX12_sortOut 39 = .ok (.i2l, 1) := by decide +kernel
theorem dX12_sortOut_40 : decode cX12_sortOut 40 = .ok (.lastore, 1) := by decide +kernel
theorem dX12_sortOut_41 : decode cX12_sortOut 41 = .ok (.aload_n 0, 1) := by decide +kernel
theorem dX12_sortOut_42 : decode cX12_sortOut 42 = .ok (.getfield 141, 3) := by decide +kernel
theorem dX12_sortOut_45 : decode cX12_sortOut 45 = .ok (.iconst 3, 1) := by decide +kernel
theorem dX12_sortOut_46 : decode cX12_sortOut 46 = .ok (.aload_n 0, 1) := by decide +kernel
theorem dX12_sortOut_47 : decode cX12_sortOut 47 = .ok (.getfield 40, 3) := by decide +kernel
theorem dX12_sortOut_50 : decode cX12_sortOut 50 = .ok (.iload_n 1, 1) := by decide +kernel
theorem dX12_sortOut_51 : decode cX12_sortOut 51 = .ok (.iaload, 1) := by decide +kernel
theorem dX12_sortOut_52 : decode cX12_sortOut 52 = .ok (.i2l, 1) := by decide +kernel
theorem dX12_sortOut_53 : decode cX12_sortOut 53 = .ok (.lastore, 1) := by decide +kernel
theorem dX12_sortOut_54 : decode cX12_sortOut 54 = .ok (.aload_n 0, 1) := by decide +kernel
theorem dX12_sortOut_55 : decode cX12_sortOut 55 = .ok (.iconst (-1), 1) := by decide +kernel
theorem dX12_sortOut_56 : decode cX12_sortOut 56 = .ok (.putfield 425, 3) := by decide +kernel
theorem dX12_sortOut_59 : decode cX12_sortOut 59 = .ok (.aload_n 0, 1) := by decide +kernel
theorem dX12_sortOut_60 : decode cX12_sortOut 60 = .ok (.iconst 0, 1) := by decide +kernel
theorem dX12_sortOut_61 : decode cX12_sortOut 61 = .ok (.putfield 428, 3) := by decide +kernel
theorem dX12_sortOut_64 : decode cX12_sortOut 64 = .ok (.aload_n 0, 1) := by decide +kernel
theorem dX12_sortOut_65 : decode cX12_sortOut 65 = .ok (.iconst 1, 1) := by decide +kernel
theorem dX12_sortOut_66 : decode cX12_sortOut 66 = .ok (.putfield 431, 3) := by decide +kernel
theorem dX12_sortOut_69 : decode cX12_sortOut 69 = .ok (.iconst 0, 1) := by decide +kernel
theorem dX12_sortOut_70 : decode cX12_sortOut 70 = .ok (.istore_n 3, 1) := by decide +kernel
theorem dX12_sortOut_71 : decode cX12_sortOut 71 = .ok (.iload_n 3, 1) := by decide +kernel
theorem dX12_sortOut_72 : decode cX12_sortOut 72 = .ok (.aload_n 0, 1) := by decide +kernel
theorem dX12_sortOut_73 : decode cX12_sortOut 73 = .ok (.getfield 84, 3) := by decide +kernel
theorem dX12_sortOut_76 : decode cX12_sortOut 76 = .ok (.iload_n 2, 1) := by decide +kernel
theorem dX12_sortOut_77 : decode cX12_sortOut 77 = .ok (.iaload, 1) := by decide +kernel
theorem dX12_sortOut_78 : decode cX12_sortOut 78 = .ok (.if_icmp .ge 138, 3) := by decide +kernel
theorem dX12_sortOut_81 : decode cX12_sortOut 81 = .ok (.aload_n 0, 1) := by decide +kernel
theorem dX12_sortOut_82 : decode cX12_sortOut 82 = .ok (.getfield 425, 3) := by decide +kernel
theorem dX12_sortOut_85 : decode cX12_sortOut 85 = .ok (.iconst (-1), 1) := by decide +kernel
theorem dX12_sortOut_86 : decode cX12_sortOut 86 = .ok (.if_icmp .ne 130, 3) := by decide +kernel
theorem dX12_sortOut_89 : decode cX12_sortOut 89 = .ok (.bipush 30, 2) := by decide +kernel
theorem dX12_sortOut_91 : decode cX12_sortOut 91 = .ok (.iload_n 2, 1) := by decide +kernel
theorem dX12_sortOut_92 : decode cX12_sortOut 92 = .ok (.imul, 1) := by decide +kernel
theorem dX12_sortOut_93 : decode cX12_sortOut 93 = .ok (.iload_n 3, 1) := by decide +kernel
theorem dX12_sortOut_94 : decode cX12_sortOut 94 = .ok (.iadd, 1) := by decide +kernel
theorem dX12_sortOut_95 : decode cX12_sortOut 95 = .ok (.istore 4, 2) := by decide +kernel
theorem dX12_sortOut_97 : decode cX12_sortOut 97 = .ok (.aload_n 0, 1) := by decide +kernel
theorem dX12_sortOut_98 : decode cX12_sortOut 98 = .ok (.aload_n 0, 1) := by decide +kernel
theorem dX12_sortOut_99 : decode cX12_sortOut 99 = .ok (.getfield 87, 3) := by decide +kernel
theorem dX12_sortOut_102 : decode cX12_sortOut 102 = .ok (.iload 4, 2) := by decide +kernel
theorem dX12_sortOut_104 : decode cX12_sortOut 104 = .ok (.iaload, 1) := by decide +kernel
theorem dX12_sortOut_105 : decode cX12_sortOut 105 = .ok (.aload_n 0, 1) := by decide +kernel
theorem dX12_sortOut_106 : decode cX12_sortOut 106 = .ok (.getfield 90, 3) := by decide +kernel
theorem dX12_sortOut_109 : decode cX12_sortOut 109 = .ok (.iload 4, 2) := by decide +kernel
theorem dX12_sortOut_111 : decode cX12_sortOut 111 = .ok (.iaload, 1) := by decide +kernel
theorem dX12_sortOut_112 : decode cX12_sortOut 112 = .ok (.iload_n 1, 1) := by decide +kernel
theorem dX12_sortOut_113 : decode cX12_sortOut 113 = .ok (.invokevirtual 434, 3) := by decide +kernel
theorem dX12_sortOut_116 : decode cX12_sortOut 116 = .ok (.ifCond .ne 6, 3) := by decide +kernel
theorem dX12_sortOut_119 : decode cX12_sortOut 119 = .ok (.goto 91, 3) := by decide +kernel
theorem dX12_sortOut_122 : decode cX12_sortOut 122 = .ok (.aload_n 0, 1) := by decide +kernel
theorem dX12_sortOut_123 : decode cX12_sortOut 123 = .ok (.iload_n 3, 1) := by decide +kernel
theorem dX12_sortOut_124 : decode cX12_sortOut 124 = .ok (.putfield 425, 3) := by decide +kernel
theorem dX12_sortOut_127 : decode cX12_sortOut 127 = .ok (.aload_n 0, 1) := by decide +kernel
theorem dX12_sortOut_128 : decode cX12_sortOut 128 = .ok (.lconst 0, 1) := by decide +kernel
theorem dX12_sortOut_129 : decode cX12_sortOut 129 = .ok (.ldc2_w 438, 3) := by decide +kernel
theorem dX12_sortOut_132 : decode cX12_sortOut 132 = .ok (.aload_n 0, 1) := by decide +kernel
theorem dX12_sortOut_133 : decode cX12_sortOut 133 = .ok (.aload_n 0, 1) := by decide +kernel
theorem dX12_sortOut_134 : decode cX12_sortOut 134 = .ok (.getfield 93, 3) := by decide +kernel
theorem dX12_sortOut_137 : decode cX12_sortOut 137 = .ok (.iload 4, 2) := by decide +kernel
theorem dX12_sortOut_139 : decode cX12_sortOut 139 = .ok (.iaload, 1) := by decide +kernel
theorem dX12_sortOut_140 : decode cX12_sortOut 140 = .ok (.aload_n 0, 1) := by decide +kernel
theorem dX12_sortOut_141 : decode cX12_sortOut 141 = .ok (.getfield 96, 3) := by decide +kernel
theorem dX12_sortOut_144 : decode cX12_sortOut 144 = .ok (.iload 4, 2) := by decide +kernel
theorem dX12_sortOut_146 : decode cX12_sortOut 146 = .ok (.iaload, 1) := by decide +kernel
theorem dX12_sortOut_147 : decode cX12_sortOut 147 = .ok (.invokevirtual 417, 3) := by decide +kernel
theorem dX12_sortOut_150 : decode cX12_sortOut 150 = .ok (.invokestatic 440, 3) := by decide +kernel
theorem dX12_sortOut_153 : decode cX12_sortOut 153 = .ok (.invokestatic 443, 3) := by decide +kernel
theorem dX12_sortOut_156 : decode cX12_sortOut 156 = .ok (.l2i, 1) := by decide +kernel
theorem dX12_sortOut_157 : decode cX12_sortOut 157 = .ok (.putfield 428, 3) := by decide +kernel
theorem dX12_sortOut_160 : decode cX12_sortOut 160 = .ok (.aload_n 0, 1) := by decide +kernel
theorem dX12_sortOut_161 : decode cX12_sortOut 161 = .ok (.getfield 99, 3) := by decide +kernel
theorem dX12_sortOut_164 : decode cX12_sortOut 164 = .ok (.iload 4, 2) := by decide +kernel
theorem dX12_sortOut_166 : decode cX12_sortOut 166 = .ok (.iaload, 1) := by decide +kernel
theorem dX12_sortOut_167 : decode cX12_sortOut 167 = .ok (.aload_n 0, 1) := by decide +kernel
theorem dX12_sortOut_168 : decode cX12_sortOut 168 = .ok (.getfield 96, 3) := by decide +kernel
theorem dX12_sortOut_171 : decode cX12_sortOut 171 = .ok (.iload 4, 2) := by decide +kernel
theorem dX12_sortOut_173 : decode cX12_sortOut 173 = .ok (.iaload, 1) := by decide +kernel
theorem dX12_sortOut_174 : decode cX12_sortOut 174 = .ok (.if_icmp .le 36, 3) := by decide +kernel
theorem dX12_sortOut_177 : decode cX12_sortOut 177 = .ok (.aload_n 0, 1) := by decide +kernel
theorem dX12_sortOut_178 : decode cX12_sortOut 178 = .ok (.lconst 1, 1) := by decide +kernel
theorem dX12_sortOut_179 : decode cX12_sortOut 179 = .ok (.ldc2_w 446, 3) := by decide +kernel
theorem dX12_sortOut_182 : decode cX12_sortOut 182 = .ok (.aload_n 0, 1) := by decide +kernel
theorem dX12_sortOut_183 : decode cX12_sortOut 183 = .ok (.aload_n 0, 1) := by decide +kernel
theorem dX12_sortOut_184 : decode cX12_sortOut 184 = .ok (.getfield 96, 3) := by decide +kernel
theorem dX12_sortOut_187 : decode cX12_sortOut 187 = .ok (.iload 4, 2) := by decide +kernel
theorem dX12_sortOut_189 : decode cX12_sortOut 189 = .ok (.iaload, 1) := by decide +kernel
theorem dX12_sortOut_190 : decode cX12_sortOut 190 = .ok (.aload_n 0, 1) := by decide +kernel
theorem dX12_sortOut_191 : decode cX12_sortOut 191 = .ok (.getfield 99, 3) := by decide +kernel
theorem dX12_sortOut_194 : decode cX12_sortOut 194 = .ok (.iload 4, 2) := by decide +kernel
theorem dX12_sortOut_196 : decode cX12_sortOut 196 = .ok (.iaload, 1) := by decide +kernel
theorem dX12_sortOut_197 : decode cX12_sortOut 197 = .ok (.invokevirtual 417, 3) := by decide +kernel
theorem dX12_sortOut_200 : decode cX12_sortOut 200 = .ok (.invokestatic 440, 3) := by decide +kernel
theorem dX12_sortOut_203 : decode cX12_sortOut 203 = .ok (.invokestatic 443, 3) := by decide +kernel
theorem dX12_sortOut_206 : decode cX12_sortOut 206 = .ok (.l2i, 1) := by decide +kernel
theorem dX12_sortOut_207 : decode cX12_sortOut 207 = .ok (.putfield 431, 3) := by decide +kernel
theorem dX12_sortOut_210 : decode cX12_sortOut 210 = .ok (.iinc 3 1, 3) := by decide +kernel
theorem dX12_sortOut_213 : decode cX12_sortOut 213 = .ok (.goto (-142), 3) := by decide +kernel
theorem dX12_sortOut_216 : decode cX12_sortOut 216 = .ok (.return_, 1) := by decide +kernel
noncomputable def B_X12_sortOut_0 : pb_C := (i_aload 0 (i_getR 64 102 (i_const (.int 0) (i_aload 0 (i_iload 1 (i_callV 64 1 1 M_X12_penceOf (i_i2l (i_last 102 4 (i_aload 0 (i_getR 64 102 (i_const (.int 1) (i_aload 0 (i_getR 64 71 (i_iload 1 (i_ald 71 200 (i_i2l (i_last 102 4 (i_aload 0 (i_getR 64 102 (i_const (.int 2) (i_aload 0 (i_getR 64 71 (i_iload 1 (i_ald 71 200 (i_const (.int 52) (i_idivr (· / ·) (i_i2l (i_last 102 4 (i_aload 0 (i_getR 64 102 (i_const (.int 3) (i_aload 0 (i_getR 64 72 (i_iload 1 (i_ald 72 200 (i_i2l (i_last 102 4 (i_aload 0 (i_const (.int (-1)) (i_putI 64 61 (i_aload 0 (i_const (.int 0) (i_putI 64 62 (i_aload 0 (i_const (.int 1) (i_putI 64 63 (i_const (.int 0) (i_istore 3 (i_jmp 71 [true, true, true, true, false])))))))))))))))))))))))))))))))))))))))))))))))))
noncomputable def B_X12_sortOut_71 : pb_C := (i_iload 3 (i_aload 0 (i_getR 64 84 (i_iload 2 (i_ald 84 6 (i_ic_ge i_vret (i_aload 0 (i_getI 64 61 (i_const (.int (-1)) (i_ic_ne i_vret (i_const (.int 30) (i_iload 2 (i_ibin (· * ·) (i_iload 3 (i_ibin (· + ·) (i_istore 4 (i_aload 0 (i_aload 0 (i_getR 64 85 (i_iload 4 (i_ald 85 186 (i_aload 0 (i_getR 64 86 (i_iload 4 (i_ald 86 186 (i_iload 1 (i_callV 64 3 1 M_X12_holds (i_if_ne (i_aload 0 (i_iload 3 (i_putI 64 61 (i_aload 0 (i_const (.long 0) (i_const (.long (15)) (i_aload 0 (i_aload 0 (i_getR 64 87 (i_iload 4 (i_ald 87 186 (i_aload 0 (i_getR 64 88 (i_iload 4 (i_ald 88 186 (i_callV 64 2 2 M_X12_work (i_mL2 pb_minL (i_mL2 pb_maxL (i_l2i (i_putI 64 62 (i_aload 0 (i_getR 64 89 (i_iload 4 (i_ald 89 186 (i_aload 0 (i_getR 64 88 (i_iload 4 (i_ald 88 186 (i_ic_le (i_iinc 3 1 (i_jmp 71 [true, true, true, true, false])) (i_aload 0 (i_const (.long 1) (i_const (.long (1000)) (i_aload 0 (i_aload 0 (i_getR 64 88 (i_iload 4 (i_ald 88 186 (i_aload 0 (i_getR 64 89 (i_iload 4 (i_ald 89 186 (i_callV 64 2 2 M_X12_work (i_mL2 pb_minL (i_mL2 pb_maxL (i_l2i (i_putI 64 63 (i_iinc 3 1 (i_jmp 71 [true, true, true, true, false])))))))))))))))))))))))))))))))))))))))))))))))) (i_iinc 3 1 (i_jmp 71 [true, true, true, true, false]))))))))))))))))))))))))))))))
noncomputable def T_X12_sortOut : Nat → pb_C := pb_tt [(0, B_X12_sortOut_0), (71, B_X12_sortOut_71)]
noncomputable def M_X12_sortOut : pb_F := pb_M T_X12_sortOut 5
set_option maxRecDepth 100000 in
set_option maxHeartbeats 4000000 in
theorem S_X12_sortOut (l : Launch) : pb_Sound l yX12_sortOut cX12_sortOut 5 none 4 M_X12_sortOut := by
  refine pb_sound_of (by decide) m_8_198 ?_
  intro Γ hl0 hRm0 hm X E hr J
  have hnL : ∀ j, j < 5 → j < Γ.2.2.2.2.2.2.2.2.2.2.2.1 := fun j h => by rw [hm]; exact h
  have hR : ∀ (d' mL : Nat), d' + 1 ≤ 4 ∧ 8 + (mL + 11) + d' * 64 ≤ 4 * 64 → (pb_rm d').frames + 1 ≤ Γ.2.2.2.1.frames ∧ 8 + (mL + 11) + (pb_rm d').locals ≤ Γ.2.2.2.1.locals := by rw [hRm0]; exact fun _ _ h => h
  have hRm : 1 ≤ 4 ∧ 64 ≤ 4 * 64 → 1 ≤ Γ.2.2.2.1.frames ∧ 64 ≤ Γ.2.2.2.1.locals := by rw [hRm0]; exact fun h => h
  exact pb_tt_snd _ (List.forall_mem_cons.mpr ⟨(s_aload_n (pc := 0) X dX12_sortOut_0 rfl (s_getR (pc := 1) X dX12_sortOut_1 g_X12_141 (s_iconst (pc := 4) X dX12_sortOut_4 rfl (s_aload_n (pc := 5) X dX12_sortOut_5 rfl (s_iload_n (pc := 6) X dX12_sortOut_6 rfl (s_callV (pc := 7) X dX12_sortOut_7 (S_X12_penceOf _) q_X12_308 h_64 rfl (hR _ _ (by decide)) (s_i2l (pc := 10) X dX12_sortOut_10 (s_last (pc := 11) X dX12_sortOut_11 h_102 (s_aload_n (pc := 12) X dX12_sortOut_12 rfl (s_getR (pc := 13) X dX12_sortOut_13 g_X12_141 (s_iconst (pc := 16) X dX12_sortOut_16 rfl (s_aload_n (pc := 17) X dX12_sortOut_17 rfl (s_getR (pc := 18) X dX12_sortOut_18 g_X12_37 (s_iload_n (pc := 21) X dX12_sortOut_21 rfl (s_iald (pc := 22) X dX12_sortOut_22 h_71 (s_i2l (pc := 23) X dX12_sortOut_23 (s_last (pc := 24) X dX12_sortOut_24 h_102 (s_aload_n (pc := 25) X dX12_sortOut_25 rfl (s_getR (pc := 26) X dX12_sortOut_26 g_X12_141 (s_iconst (pc := 29) X dX12_sortOut_29 rfl (s_aload_n (pc := 30) X dX12_sortOut_30 rfl (s_getR (pc := 31) X dX12_sortOut_31 g_X12_37 (s_iload_n (pc := 34) X dX12_sortOut_34 rfl (s_iald (pc := 35) X dX12_sortOut_35 h_71 (s_bipush (pc := 36) X dX12_sortOut_36 rfl (s_idiv (pc := 38) X dX12_sortOut_38 (s_i2l (pc := 39) X dX12_sortOut_39 (s_last (pc := 40) X dX12_sortOut_40 h_102 (s_aload_n (pc := 41) X dX12_sortOut_41 rfl (s_getR (pc := 42) X dX12_sortOut_42 g_X12_141 (s_iconst (pc := 45) X dX12_sortOut_45 rfl (s_aload_n (pc := 46) X dX12_sortOut_46 rfl (s_getR (pc := 47) X dX12_sortOut_47 g_X12_40 (s_iload_n (pc := 50) X dX12_sortOut_50 rfl (s_iald (pc := 51) X dX12_sortOut_51 h_72 (s_i2l (pc := 52) X dX12_sortOut_52 (s_last (pc := 53) X dX12_sortOut_53 h_102 (s_aload_n (pc := 54) X dX12_sortOut_54 rfl (s_iconst (pc := 55) X dX12_sortOut_55 rfl (s_putI (pc := 56) X dX12_sortOut_56 p_X12_425 (s_aload_n (pc := 59) X dX12_sortOut_59 rfl (s_iconst (pc := 60) X dX12_sortOut_60 rfl (s_putI (pc := 61) X dX12_sortOut_61 p_X12_428 (s_aload_n (pc := 64) X dX12_sortOut_64 rfl (s_iconst (pc := 65) X dX12_sortOut_65 rfl (s_putI (pc := 66) X dX12_sortOut_66 p_X12_431 (s_iconst (pc := 69) X dX12_sortOut_69 rfl (s_istore_n (pc := 70) X dX12_sortOut_70 rfl (hnL _ (by decide)) (s_jmp (pc := 71) J [true, true, true, true, false]))))))))))))))))))))))))))))))))))))))))))))))))), List.forall_mem_cons.mpr ⟨(s_iload_n (pc := 71) X dX12_sortOut_71 rfl (s_aload_n (pc := 72) X dX12_sortOut_72 rfl (s_getR (pc := 73) X dX12_sortOut_73 g_X12_84 (s_iload_n (pc := 76) X dX12_sortOut_76 rfl (s_iald (pc := 77) X dX12_sortOut_77 h_84 (s_ic_ge (pc := 78) X dX12_sortOut_78 (by decide) (s_vret (pc := 216) X E hr dX12_sortOut_216) (s_aload_n (pc := 81) X dX12_sortOut_81 rfl (s_getI (pc := 82) X dX12_sortOut_82 g_X12_425 (s_iconst (pc := 85) X dX12_sortOut_85 rfl (s_ic_ne (pc := 86) X dX12_sortOut_86 (by decide) (s_vret (pc := 216) X E hr dX12_sortOut_216) (s_bipush (pc := 89) X dX12_sortOut_89 rfl (s_iload_n (pc := 91) X dX12_sortOut_91 rfl (s_imul (pc := 92) X dX12_sortOut_92 (s_iload_n (pc := 93) X dX12_sortOut_93 rfl (s_iadd (pc := 94) X dX12_sortOut_94 (s_istore (pc := 95) X dX12_sortOut_95 (hnL _ (by decide)) (s_aload_n (pc := 97) X dX12_sortOut_97 rfl (s_aload_n (pc := 98) X dX12_sortOut_98 rfl (s_getR (pc := 99) X dX12_sortOut_99 g_X12_87 (s_iload (pc := 102) X dX12_sortOut_102 (s_iald (pc := 104) X dX12_sortOut_104 h_85 (s_aload_n (pc := 105) X dX12_sortOut_105 rfl (s_getR (pc := 106) X dX12_sortOut_106 g_X12_90 (s_iload (pc := 109) X dX12_sortOut_109 (s_iald (pc := 111) X dX12_sortOut_111 h_86 (s_iload_n (pc := 112) X dX12_sortOut_112 rfl (s_callV (pc := 113) X dX12_sortOut_113 (S_X12_holds _) q_X12_434 h_64 rfl (hR _ _ (by decide)) (s_if_ne (pc := 116) X dX12_sortOut_116 (by decide) (s_aload_n (pc := 122) X dX12_sortOut_122 rfl (s_iload_n (pc := 123) X dX12_sortOut_123 rfl (s_putI (pc := 124) X dX12_sortOut_124 p_X12_425 (s_aload_n (pc := 127) X dX12_sortOut_127 rfl (s_lconst (pc := 128) X dX12_sortOut_128 rfl (s_ldc2 (pc := 129) X dX12_sortOut_129 m_8_211 (s_aload_n (pc := 132) X dX12_sortOut_132 rfl (s_aload_n (pc := 133) X dX12_sortOut_133 rfl (s_getR (pc := 134) X dX12_sortOut_134 g_X12_93 (s_iload (pc := 137) X dX12_sortOut_137 (s_iald (pc := 139) X dX12_sortOut_139 h_87 (s_aload_n (pc := 140) X dX12_sortOut_140 rfl (s_getR (pc := 141) X dX12_sortOut_141 g_X12_96 (s_iload (pc := 144) X dX12_sortOut_144 (s_iald (pc := 146) X dX12_sortOut_146 h_88 (s_callV (pc := 147) X dX12_sortOut_147 (S_X12_work _) q_X12_417 h_64 rfl (hR _ _ (by decide)) (s_mminL (pc := 150) X dX12_sortOut_150 m_8_212 mm_mminL (hRm (by decide)) (s_mmaxL (pc := 153) X dX12_sortOut_153 m_8_213 mm_mmaxL (hRm (by decide)) (s_l2i (pc := 156) X dX12_sortOut_156 (s_putI (pc := 157) X dX12_sortOut_157 p_X12_428 (s_aload_n (pc := 160) X dX12_sortOut_160 rfl (s_getR (pc := 161) X dX12_sortOut_161 g_X12_99 (s_iload (pc := 164) X dX12_sortOut_164 (s_iald (pc := 166) X dX12_sortOut_166 h_89 (s_aload_n (pc := 167) X dX12_sortOut_167 rfl (s_getR (pc := 168) X dX12_sortOut_168 g_X12_96 (s_iload (pc := 171) X dX12_sortOut_171 (s_iald (pc := 173) X dX12_sortOut_173 h_88 (s_ic_le (pc := 174) X dX12_sortOut_174 (by decide) (s_iinc (pc := 210) X dX12_sortOut_210 rfl (s_goto (pc := 213) X dX12_sortOut_213 (by decide) (s_jmp (pc := 71) J [true, true, true, true, false]))) (s_aload_n (pc := 177) X dX12_sortOut_177 rfl (s_lconst (pc := 178) X dX12_sortOut_178 rfl (s_ldc2 (pc := 179) X dX12_sortOut_179 m_8_214 (s_aload_n (pc := 182) X dX12_sortOut_182 rfl (s_aload_n (pc := 183) X dX12_sortOut_183 rfl (s_getR (pc := 184) X dX12_sortOut_184 g_X12_96 (s_iload (pc := 187) X dX12_sortOut_187 (s_iald (pc := 189) X dX12_sortOut_189 h_88 (s_aload_n (pc := 190) X dX12_sortOut_190 rfl (s_getR (pc := 191) X dX12_sortOut_191 g_X12_99 (s_iload (pc := 194) X dX12_sortOut_194 (s_iald (pc := 196) X dX12_sortOut_196 h_89 (s_callV (pc := 197) X dX12_sortOut_197 (S_X12_work _) q_X12_417 h_64 rfl (hR _ _ (by decide)) (s_mminL (pc := 200) X dX12_sortOut_200 m_8_212 mm_mminL (hRm (by decide)) (s_mmaxL (pc := 203) X dX12_sortOut_203 m_8_213 mm_mmaxL (hRm (by decide)) (s_l2i (pc := 206) X dX12_sortOut_206 (s_putI (pc := 207) X dX12_sortOut_207 p_X12_431 (s_iinc (pc := 210) X dX12_sortOut_210 rfl (s_goto (pc := 213) X dX12_sortOut_213 (by decide) (s_jmp (pc := 71) J [true, true, true, true, false]))))))))))))))))))))))))))))))))))))))))))))))))) (s_goto (pc := 119) X dX12_sortOut_119 (by decide) (s_iinc (pc := 210) X dX12_sortOut_210 rfl (s_goto (pc := 213) X dX12_sortOut_213 (by decide) (s_jmp (pc := 71) J [true, true, true, true, false])))))))))))))))))))))))))))))))), fun _ h => absurd h List.not_mem_nil⟩⟩)
theorem dX12_kind_0 : decode cX12_kind 0 = .ok (.aload_n 0, 1) := by decide +kernel
theorem dX12_kind_1 : decode cX12_kind 1 = .ok (.iload_n 1, 1) := by decide +kernel
theorem dX12_kind_2 : decode cX12_kind 2 = .ok (.invokevirtual 299, 3) := by decide +kernel
theorem dX12_kind_5 : decode cX12_kind 5 = .ok (.ifCond .eq 20, 3) := by decide +kernel
theorem dX12_kind_8 : decode cX12_kind 8 = .ok (.aload_n 0, 1) := by decide +kernel
theorem dX12_kind_9 : decode cX12_kind 9 = .ok (.iload_n 2, 1) := by decide +kernel
theorem dX12_kind_10 : decode cX12_kind 10 = .ok (.invokevirtual 451, 3) := by decide +kernel
theorem dX12_kind_13 : decode cX12_kind 13 = .ok (.ifCond .eq 12, 3) := by decide +kernel
theorem dX12_kind_16 : decode cX12_kind 16 = .ok (.iload_n 3, 1) := by decide +kernel
theorem dX12_kind_17 : decode cX12_kind 17 = .ok (.ifCond .lt 8, 3) := by decide +kernel
theorem dX12_kind_20 : decode cX12_kind 20 = .ok (.iload_n 3, 1) := by decide +kernel
theorem dX12_kind_21 : decode cX12_kind 21 = .ok (.iconst 2, 1) := by decide +kernel
theorem dX12_kind_22 : decode cX12_kind 22 = .ok (.if_icmp .le 9, 3) := by decide +kernel
theorem dX12_kind_25 : decode cX12_kind 25 = .ok (.aload_n 0, 1) := by decide +kernel
theorem dX12_kind_26 : decode cX12_kind 26 = .ok (.iconst 1, 1) := by decide +kernel
theorem dX12_kind_27 : decode cX12_kind 27 = .ok (.invokevirtual 267, 3) := by decide +kernel
theorem dX12_kind_30 : decode cX12_kind 30 = .ok (.ireturn, 1) := by decide +kernel
theorem dX12_kind_31 : decode cX12_kind 31 = .ok (.aload_n 0, 1) := by decide +kernel
theorem dX12_kind_32 : decode cX12_kind 32 = .ok (.iload_n 1, 1) := by decide +kernel
theorem dX12_kind_33 : decode cX12_kind 33 = .ok (.invokevirtual 305, 3) := by decide +kernel
theorem dX12_kind_36 : decode cX12_kind 36 = .ok (.ifCond .ne 10, 3) := by decide +kernel
theorem dX12_kind_39 : decode cX12_kind 39 = .ok (.aload_n 0, 1) := by decide +kernel
theorem dX12_kind_40 : decode cX12_kind 40 = .ok (.bipush 6, 2) := by decide +kernel
theorem dX12_kind_42 : decode cX12_kind 42 = .ok (.invokevirtual 267, 3) := by decide +kernel
theorem dX12_kind_45 : decode cX12_kind 45 = .ok (.ireturn, 1) := by decide +kernel
theorem dX12_kind_46 : decode cX12_kind 46 = .ok (.aload_n 0, 1) := by decide +kernel
theorem dX12_kind_47 : decode cX12_kind 47 = .ok (.iload_n 1, 1) := by decide +kernel
theorem dX12_kind_48 : decode cX12_kind 48 = .ok (.iload_n 2, 1) := by decide +kernel
theorem dX12_kind_49 : decode cX12_kind 49 = .ok (.invokevirtual 448, 3) := by decide +kernel
theorem dX12_kind_52 : decode cX12_kind 52 = .ok (.iload_n 3, 1) := by decide +kernel
theorem dX12_kind_53 : decode cX12_kind 53 = .ok (.iconst 2, 1) := by decide +kernel
theorem dX12_kind_54 : decode cX12_kind 54 = .ok (.if_icmp .ne 18, 3) := by decide +kernel
theorem dX12_kind_57 : decode cX12_kind 57 = .ok (.aload_n 0, 1) := by decide +kernel
theorem dX12_kind_58 : decode cX12_kind 58 = .ok (.getfield 425, 3) := by decide +kernel
theorem dX12_kind_61 : decode cX12_kind 61 = .ok (.iconst (-1), 1) := by decide +kernel
theorem dX12_kind_62 : decode cX12_kind 62 = .ok (.if_icmp .ne 10, 3) := by decide +kernel
theorem dX12_kind_65 : decode cX12_kind 65 = .ok (.aload_n 0, 1) := by decide +kernel
theorem dX12_kind_66 : decode cX12_kind 66 = .ok (.bipush 6, 2) := by decide +kernel
theorem dX12_kind_68 : decode cX12_kind 68 = .ok (.invokevirtual 267, 3) := by decide +kernel
theorem dX12_kind_71 : decode cX12_kind 71 = .ok (.ireturn, 1) := by decide +kernel
theorem dX12_kind_72 : decode cX12_kind 72 = .ok (.aload_n 0, 1) := by decide +kernel
theorem dX12_kind_73 : decode cX12_kind 73 = .ok (.iload_n 3, 1) := by decide +kernel
theorem dX12_kind_74 : decode cX12_kind 74 = .ok (.ifCond .ne 10, 3) := by decide +kernel
theorem dX12_kind_77 : decode cX12_kind 77 = .ok (.aload_n 0, 1) := by decide +kernel
theorem dX12_kind_78 : decode cX12_kind 78 = .ok (.getfield 428, 3) := by decide +kernel
theorem dX12_kind_81 : decode cX12_kind 81 = .ok (.goto 19, 3) := by decide +kernel
theorem dX12_kind_84 : decode cX12_kind 84 = .ok (.iload_n 3, 1) := by decide +kernel
theorem dX12_kind_85 : decode cX12_kind 85 = .ok (.iconst 1, 1) := by decide +kernel
theorem dX12_kind_86 : decode cX12_kind 86 = .ok (.if_icmp .ne 10, 3) := by decide +kernel
theorem dX12_kind_89 : decode cX12_kind 89 = .ok (.aload_n 0, 1) := by decide +kernel
theorem dX12_kind_90 : decode cX12_kind 90 = .ok (.getfield 431, 3) := by decide +kernel
theorem dX12_kind_93 : decode cX12_kind 93 = .ok (.goto 7, 3) := by decide +kernel
theorem dX12_kind_96 : decode cX12_kind 96 = .ok (.aload_n 0, 1) := by decide +kernel
theorem dX12_kind_97 : decode cX12_kind 97 = .ok (.getfield 425, 3) := by decide +kernel
theorem dX12_kind_100 : decode cX12_kind 100 = .ok (.invokevirtual 237, 3) := by decide +kernel
theorem dX12_kind_103 : decode cX12_kind 103 = .ok (.ireturn, 1) := by decide +kernel
noncomputable def B_X12_kind_0 : pb_C := (i_aload 0 (i_iload 1 (i_callV 64 1 1 M_X12_isLine (i_if_eq (i_aload 0 (i_const (.int 1) (i_callV 64 1 1 M_X12_refuse i_iret))) (i_aload 0 (i_iload 2 (i_callV 64 1 1 M_X12_isEdition (i_if_eq (i_aload 0 (i_const (.int 1) (i_callV 64 1 1 M_X12_refuse i_iret))) (i_iload 3 (i_if_lt (i_aload 0 (i_const (.int 1) (i_callV 64 1 1 M_X12_refuse i_iret))) (i_iload 3 (i_const (.int 2) (i_ic_le (i_aload 0 (i_iload 1 (i_callV 64 1 1 M_X12_isKnown (i_if_ne (i_aload 0 (i_iload 1 (i_iload 2 (i_callV 64 2 0 M_X12_sortOut (i_iload 3 (i_const (.int 2) (i_ic_ne (i_jmp 72 [true, false, false, true]) (i_aload 0 (i_getI 64 61 (i_const (.int (-1)) (i_ic_ne (i_jmp 72 [true, false, false, true]) (i_aload 0 (i_const (.int 6) (i_callV 64 1 1 M_X12_refuse i_iret)))))))))))))) (i_aload 0 (i_const (.int 6) (i_callV 64 1 1 M_X12_refuse i_iret))))))) (i_aload 0 (i_const (.int 1) (i_callV 64 1 1 M_X12_refuse i_iret))))))))))))))))
noncomputable def B_X12_kind_72 : pb_C := (i_aload 0 (i_iload 3 (i_if_ne (i_iload 3 (i_const (.int 1) (i_ic_ne (i_aload 0 (i_getI 64 61 (i_callV 64 1 1 M_X12_gives i_iret))) (i_aload 0 (i_getI 64 63 (i_callV 64 1 1 M_X12_gives i_iret)))))) (i_aload 0 (i_getI 64 62 (i_callV 64 1 1 M_X12_gives i_iret))))))
noncomputable def T_X12_kind : Nat → pb_C := pb_tt [(0, B_X12_kind_0), (72, B_X12_kind_72)]
noncomputable def M_X12_kind : pb_F := pb_M T_X12_kind 4
set_option maxRecDepth 100000 in
set_option maxHeartbeats 4000000 in
theorem S_X12_kind (l : Launch) : pb_Sound l yX12_kind cX12_kind 4 (some .int) 5 M_X12_kind := by
  refine pb_sound_of (by decide) m_8_190 ?_
  intro Γ hl0 hRm0 hm X E hr J
  have hnL : ∀ j, j < 4 → j < Γ.2.2.2.2.2.2.2.2.2.2.2.1 := fun j h => by rw [hm]; exact h
  have hR : ∀ (d' mL : Nat), d' + 1 ≤ 5 ∧ 8 + (mL + 11) + d' * 64 ≤ 5 * 64 → (pb_rm d').frames + 1 ≤ Γ.2.2.2.1.frames ∧ 8 + (mL + 11) + (pb_rm d').locals ≤ Γ.2.2.2.1.locals := by rw [hRm0]; exact fun _ _ h => h
  have hRm : 1 ≤ 5 ∧ 64 ≤ 5 * 64 → 1 ≤ Γ.2.2.2.1.frames ∧ 64 ≤ Γ.2.2.2.1.locals := by rw [hRm0]; exact fun h => h
  exact pb_tt_snd _ (List.forall_mem_cons.mpr ⟨(s_aload_n (pc := 0) X dX12_kind_0 rfl (s_iload_n (pc := 1) X dX12_kind_1 rfl (s_callV (pc := 2) X dX12_kind_2 (S_X12_isLine _) q_X12_299 h_64 rfl (hR _ _ (by decide)) (s_if_eq (pc := 5) X dX12_kind_5 (by decide) (s_aload_n (pc := 25) X dX12_kind_25 rfl (s_iconst (pc := 26) X dX12_kind_26 rfl (s_callV (pc := 27) X dX12_kind_27 (S_X12_refuse _) q_X12_267 h_64 rfl (hR _ _ (by decide)) (s_iret (pc := 30) X E hr dX12_kind_30)))) (s_aload_n (pc := 8) X dX12_kind_8 rfl (s_iload_n (pc := 9) X dX12_kind_9 rfl (s_callV (pc := 10) X dX12_kind_10 (S_X12_isEdition _) q_X12_451 h_64 rfl (hR _ _ (by decide)) (s_if_eq (pc := 13) X dX12_kind_13 (by decide) (s_aload_n (pc := 25) X dX12_kind_25 rfl (s_iconst (pc := 26) X dX12_kind_26 rfl (s_callV (pc := 27) X dX12_kind_27 (S_X12_refuse _) q_X12_267 h_64 rfl (hR _ _ (by decide)) (s_iret (pc := 30) X E hr dX12_kind_30)))) (s_iload_n (pc := 16) X dX12_kind_16 rfl (s_if_lt (pc := 17) X dX12_kind_17 (by decide) (s_aload_n (pc := 25) X dX12_kind_25 rfl (s_iconst (pc := 26) X dX12_kind_26 rfl (s_callV (pc := 27) X dX12_kind_27 (S_X12_refuse _) q_X12_267 h_64 rfl (hR _ _ (by decide)) (s_iret (pc := 30) X E hr dX12_kind_30)))) (s_iload_n (pc := 20) X dX12_kind_20 rfl (s_iconst (pc := 21) X dX12_kind_21 rfl (s_ic_le (pc := 22) X dX12_kind_22 (by decide) (s_aload_n (pc := 31) X dX12_kind_31 rfl (s_iload_n (pc := 32) X dX12_kind_32 rfl (s_callV (pc := 33) X dX12_kind_33 (S_X12_isKnown _) q_X12_305 h_64 rfl (hR _ _ (by decide)) (s_if_ne (pc := 36) X dX12_kind_36 (by decide) (s_aload_n (pc := 46) X dX12_kind_46 rfl (s_iload_n (pc := 47) X dX12_kind_47 rfl (s_iload_n (pc := 48) X dX12_kind_48 rfl (s_callV (pc := 49) X dX12_kind_49 (S_X12_sortOut _) q_X12_448 h_64 rfl (hR _ _ (by decide)) (s_iload_n (pc := 52) X dX12_kind_52 rfl (s_iconst (pc := 53) X dX12_kind_53 rfl (s_ic_ne (pc := 54) X dX12_kind_54 (by decide) (s_jmp (pc := 72) J [true, false, false, true]) (s_aload_n (pc := 57) X dX12_kind_57 rfl (s_getI (pc := 58) X dX12_kind_58 g_X12_425 (s_iconst (pc := 61) X dX12_kind_61 rfl (s_ic_ne (pc := 62) X dX12_kind_62 (by decide) (s_jmp (pc := 72) J [true, false, false, true]) (s_aload_n (pc := 65) X dX12_kind_65 rfl (s_bipush (pc := 66) X dX12_kind_66 rfl (s_callV (pc := 68) X dX12_kind_68 (S_X12_refuse _) q_X12_267 h_64 rfl (hR _ _ (by decide)) (s_iret (pc := 71) X E hr dX12_kind_71))))))))))))))) (s_aload_n (pc := 39) X dX12_kind_39 rfl (s_bipush (pc := 40) X dX12_kind_40 rfl (s_callV (pc := 42) X dX12_kind_42 (S_X12_refuse _) q_X12_267 h_64 rfl (hR _ _ (by decide)) (s_iret (pc := 45) X E hr dX12_kind_45)))))))) (s_aload_n (pc := 25) X dX12_kind_25 rfl (s_iconst (pc := 26) X dX12_kind_26 rfl (s_callV (pc := 27) X dX12_kind_27 (S_X12_refuse _) q_X12_267 h_64 rfl (hR _ _ (by decide)) (s_iret (pc := 30) X E hr dX12_kind_30))))))))))))))))), List.forall_mem_cons.mpr ⟨(s_aload_n (pc := 72) X dX12_kind_72 rfl (s_iload_n (pc := 73) X dX12_kind_73 rfl (s_if_ne (pc := 74) X dX12_kind_74 (by decide) (s_iload_n (pc := 84) X dX12_kind_84 rfl (s_iconst (pc := 85) X dX12_kind_85 rfl (s_ic_ne (pc := 86) X dX12_kind_86 (by decide) (s_aload_n (pc := 96) X dX12_kind_96 rfl (s_getI (pc := 97) X dX12_kind_97 g_X12_425 (s_callV (pc := 100) X dX12_kind_100 (S_X12_gives _) q_X12_237 h_64 rfl (hR _ _ (by decide)) (s_iret (pc := 103) X E hr dX12_kind_103)))) (s_aload_n (pc := 89) X dX12_kind_89 rfl (s_getI (pc := 90) X dX12_kind_90 g_X12_431 (s_goto (pc := 93) X dX12_kind_93 (by decide) (s_callV (pc := 100) X dX12_kind_100 (S_X12_gives _) q_X12_237 h_64 rfl (hR _ _ (by decide)) (s_iret (pc := 103) X E hr dX12_kind_103)))))))) (s_aload_n (pc := 77) X dX12_kind_77 rfl (s_getI (pc := 78) X dX12_kind_78 g_X12_428 (s_goto (pc := 81) X dX12_kind_81 (by decide) (s_callV (pc := 100) X dX12_kind_100 (S_X12_gives _) q_X12_237 h_64 rfl (hR _ _ (by decide)) (s_iret (pc := 103) X E hr dX12_kind_103)))))))), fun _ h => absurd h List.not_mem_nil⟩⟩)
theorem dX12_kindOf_0 : decode cX12_kindOf 0 = .ok (.aload_n 0, 1) := by decide +kernel
theorem dX12_kindOf_1 : decode cX12_kindOf 1 = .ok (.iload_n 1, 1) := by decide +kernel
theorem dX12_kindOf_2 : decode cX12_kindOf 2 = .ok (.iload_n 2, 1) := by decide +kernel
theorem dX12_kindOf_3 : decode cX12_kindOf 3 = .ok (.invokevirtual 448, 3) := by decide +kernel
theorem dX12_kindOf_6 : decode cX12_kindOf 6 = .ok (.aload_n 0, 1) := by decide +kernel
theorem dX12_kindOf_7 : decode cX12_kindOf 7 = .ok (.getfield 428, 3) := by decide +kernel
theorem dX12_kindOf_10 : decode cX12_kindOf 10 = .ok (.ireturn, 1) := by decide +kernel
noncomputable def B_X12_kindOf_0 : pb_C := (i_aload 0 (i_iload 1 (i_iload 2 (i_callV 64 2 0 M_X12_sortOut (i_aload 0 (i_getI 64 62 i_iret))))))
noncomputable def T_X12_kindOf : Nat → pb_C := pb_tt [(0, B_X12_kindOf_0)]
noncomputable def M_X12_kindOf : pb_F := pb_M T_X12_kindOf 3
set_option maxRecDepth 100000 in
set_option maxHeartbeats 4000000 in
theorem S_X12_kindOf (l : Launch) : pb_Sound l yX12_kindOf cX12_kindOf 3 (some .int) 5 M_X12_kindOf := by
  refine pb_sound_of (by decide) m_8_222 ?_
  intro Γ hl0 hRm0 hm X E hr J
  have hnL : ∀ j, j < 3 → j < Γ.2.2.2.2.2.2.2.2.2.2.2.1 := fun j h => by rw [hm]; exact h
  have hR : ∀ (d' mL : Nat), d' + 1 ≤ 5 ∧ 8 + (mL + 11) + d' * 64 ≤ 5 * 64 → (pb_rm d').frames + 1 ≤ Γ.2.2.2.1.frames ∧ 8 + (mL + 11) + (pb_rm d').locals ≤ Γ.2.2.2.1.locals := by rw [hRm0]; exact fun _ _ h => h
  have hRm : 1 ≤ 5 ∧ 64 ≤ 5 * 64 → 1 ≤ Γ.2.2.2.1.frames ∧ 64 ≤ Γ.2.2.2.1.locals := by rw [hRm0]; exact fun h => h
  exact pb_tt_snd _ (List.forall_mem_cons.mpr ⟨(s_aload_n (pc := 0) X dX12_kindOf_0 rfl (s_iload_n (pc := 1) X dX12_kindOf_1 rfl (s_iload_n (pc := 2) X dX12_kindOf_2 rfl (s_callV (pc := 3) X dX12_kindOf_3 (S_X12_sortOut _) q_X12_448 h_64 rfl (hR _ _ (by decide)) (s_aload_n (pc := 6) X dX12_kindOf_6 rfl (s_getI (pc := 7) X dX12_kindOf_7 g_X12_428 (s_iret (pc := 10) X E hr dX12_kindOf_10))))))), fun _ h => absurd h List.not_mem_nil⟩)
theorem dX12_moved_0 : decode cX12_moved 0 = .ok (.aload_n 0, 1) := by decide +kernel
theorem dX12_moved_1 : decode cX12_moved 1 = .ok (.iload_n 1, 1) := by decide +kernel
theorem dX12_moved_2 : decode cX12_moved 2 = .ok (.invokevirtual 451, 3) := by decide +kernel
theorem dX12_moved_5 : decode cX12_moved 5 = .ok (.ifCond .eq 11, 3) := by decide +kernel
theorem dX12_moved_8 : decode cX12_moved 8 = .ok (.aload_n 0, 1) := by decide +kernel
theorem dX12_moved_9 : decode cX12_moved 9 = .ok (.iload_n 2, 1) := by decide +kernel
theorem dX12_moved_10 : decode cX12_moved 10 = .ok (.invokevirtual 451, 3) := by decide +kernel
theorem dX12_moved_13 : decode cX12_moved 13 = .ok (.ifCond .ne 9, 3) := by decide +kernel
theorem dX12_moved_16 : decode cX12_moved 16 = .ok (.aload_n 0, 1) := by decide +kernel
theorem dX12_moved_17 : decode cX12_moved 17 = .ok (.iconst 1, 1) := by decide +kernel
theorem dX12_moved_18 : decode cX12_moved 18 = .ok (.invokevirtual 267, 3) := by decide +kernel
theorem dX12_moved_21 : decode cX12_moved 21 = .ok (.ireturn, 1) := by decide +kernel
theorem dX12_moved_22 : decode cX12_moved 22 = .ok (.iconst 0, 1) := by decide +kernel
theorem dX12_moved_23 : decode cX12_moved 23 = .ok (.istore_n 3, 1) := by decide +kernel
theorem dX12_moved_24 : decode cX12_moved 24 = .ok (.iconst 0, 1) := by decide +kernel
theorem dX12_moved_25 : decode cX12_moved 25 = .ok (.istore 4, 2) := by decide +kernel
theorem dX12_moved_27 : decode cX12_moved 27 = .ok (.iload 4, 2) := by decide +kernel
theorem dX12_moved_29 : decode cX12_moved 29 = .ok (.aload_n 0, 1) := by decide +kernel
theorem dX12_moved_30 : decode cX12_moved 30 = .ok (.getfield 261, 3) := by decide +kernel
theorem dX12_moved_33 : decode cX12_moved 33 = .ok (.if_icmp .ge 43, 3) := by decide +kernel
theorem dX12_moved_36 : decode cX12_moved 36 = .ok (.iload_n 3, 1) := by decide +kernel
theorem dX12_moved_37 : decode cX12_moved 37 = .ok (.aload_n 0, 1) := by decide +kernel
theorem dX12_moved_38 : decode cX12_moved 38 = .ok (.iload 4, 2) := by decide +kernel
theorem dX12_moved_40 : decode cX12_moved 40 = .ok (.invokevirtual 305, 3) := by decide +kernel
theorem dX12_moved_43 : decode cX12_moved 43 = .ok (.ifCond .eq 24, 3) := by decide +kernel
theorem dX12_moved_46 : decode cX12_moved 46 = .ok (.aload_n 0, 1) := by decide +kernel
theorem dX12_moved_47 : decode cX12_moved 47 = .ok (.iload 4, 2) := by decide +kernel
theorem dX12_moved_49 : decode cX12_moved 49 = .ok (.iload_n 1, 1) := by decide +kernel
theorem dX12_moved_50 : decode cX12_moved 50 = .ok (.invokevirtual 454, 3) := by decide +kernel
theorem dX12_moved_53 : decode cX12_moved 53 = .ok (.aload_n 0, 1) := by decide +kernel
theorem dX12_moved_54 : decode cX12_moved 54 = .ok (.iload 4, 2) := by decide +kernel
theorem dX12_moved_56 : decode cX12_moved 56 = .ok (.iload_n 2, 1) := by decide +kernel
theorem dX12_moved_57 : decode cX12_moved 57 = .ok (.invokevirtual 454, 3) := by decide +kernel
theorem dX12_moved_60 : decode cX12_moved 60 = .ok (.if_icmp .eq 7, 3) := by decide +kernel
theorem dX12_moved_63 : decode cX12_moved 63 = .ok (.iconst 1, 1) := by decide +kernel
theorem dX12_moved_64 : decode cX12_moved 64 = .ok (.goto 4, 3) := by decide +kernel
theorem dX12_moved_67 : decode cX12_moved 67 = .ok (.iconst 0, 1) := by decide +kernel
theorem dX12_moved_68 : decode cX12_moved 68 = .ok (.iadd, 1) := by decide +kernel
theorem dX12_moved_69 : decode cX12_moved 69 = .ok (.istore_n 3, 1) := by decide +kernel
theorem dX12_moved_70 : decode cX12_moved 70 = .ok (.iinc 4 1, 3) := by decide +kernel
theorem dX12_moved_73 : decode cX12_moved 73 = .ok (.goto (-46), 3) := by decide +kernel
theorem dX12_moved_76 : decode cX12_moved 76 = .ok (.aload_n 0, 1) := by decide +kernel
theorem dX12_moved_77 : decode cX12_moved 77 = .ok (.iload_n 3, 1) := by decide +kernel
theorem dX12_moved_78 : decode cX12_moved 78 = .ok (.invokevirtual 237, 3) := by decide +kernel
theorem dX12_moved_81 : decode cX12_moved 81 = .ok (.ireturn, 1) := by decide +kernel
noncomputable def B_X12_moved_0 : pb_C := (i_aload 0 (i_iload 1 (i_callV 64 1 1 M_X12_isEdition (i_if_eq (i_aload 0 (i_const (.int 1) (i_callV 64 1 1 M_X12_refuse i_iret))) (i_aload 0 (i_iload 2 (i_callV 64 1 1 M_X12_isEdition (i_if_ne (i_const (.int 0) (i_istore 3 (i_const (.int 0) (i_istore 4 (i_jmp 27 [true, true, true, true, true]))))) (i_aload 0 (i_const (.int 1) (i_callV 64 1 1 M_X12_refuse i_iret)))))))))))
noncomputable def B_X12_moved_27 : pb_C := (i_iload 4 (i_aload 0 (i_getI 64 7 (i_ic_ge (i_aload 0 (i_iload 3 (i_callV 64 1 1 M_X12_gives i_iret))) (i_iload 3 (i_aload 0 (i_iload 4 (i_callV 64 1 1 M_X12_isKnown (i_if_eq (i_const (.int 0) (i_ibin (· + ·) (i_istore 3 (i_iinc 4 1 (i_jmp 27 [true, true, true, true, true]))))) (i_aload 0 (i_iload 4 (i_iload 1 (i_callV 64 2 1 M_X12_kindOf (i_aload 0 (i_iload 4 (i_iload 2 (i_callV 64 2 1 M_X12_kindOf (i_ic_eq (i_const (.int 0) (i_ibin (· + ·) (i_istore 3 (i_iinc 4 1 (i_jmp 27 [true, true, true, true, true]))))) (i_const (.int 1) (i_ibin (· + ·) (i_istore 3 (i_iinc 4 1 (i_jmp 27 [true, true, true, true, true])))))))))))))))))))))))
noncomputable def T_X12_moved : Nat → pb_C := pb_tt [(0, B_X12_moved_0), (27, B_X12_moved_27)]
noncomputable def M_X12_moved : pb_F := pb_M T_X12_moved 5
set_option maxRecDepth 100000 in
set_option maxHeartbeats 4000000 in
theorem S_X12_moved (l : Launch) : pb_Sound l yX12_moved cX12_moved 5 (some .int) 6 M_X12_moved := by
  refine pb_sound_of (by decide) m_8_218 ?_
  intro Γ hl0 hRm0 hm X E hr J
  have hnL : ∀ j, j < 5 → j < Γ.2.2.2.2.2.2.2.2.2.2.2.1 := fun j h => by rw [hm]; exact h
  have hR : ∀ (d' mL : Nat), d' + 1 ≤ 6 ∧ 8 + (mL + 11) + d' * 64 ≤ 6 * 64 → (pb_rm d').frames + 1 ≤ Γ.2.2.2.1.frames ∧ 8 + (mL + 11) + (pb_rm d').locals ≤ Γ.2.2.2.1.locals := by rw [hRm0]; exact fun _ _ h => h
  have hRm : 1 ≤ 6 ∧ 64 ≤ 6 * 64 → 1 ≤ Γ.2.2.2.1.frames ∧ 64 ≤ Γ.2.2.2.1.locals := by rw [hRm0]; exact fun h => h
  exact pb_tt_snd _ (List.forall_mem_cons.mpr ⟨(s_aload_n (pc := 0) X dX12_moved_0 rfl (s_iload_n (pc := 1) X dX12_moved_1 rfl (s_callV (pc := 2) X dX12_moved_2 (S_X12_isEdition _) q_X12_451 h_64 rfl (hR _ _ (by decide)) (s_if_eq (pc := 5) X dX12_moved_5 (by decide) (s_aload_n (pc := 16) X dX12_moved_16 rfl (s_iconst (pc := 17) X dX12_moved_17 rfl (s_callV (pc := 18) X dX12_moved_18 (S_X12_refuse _) q_X12_267 h_64 rfl (hR _ _ (by decide)) (s_iret (pc := 21) X E hr dX12_moved_21)))) (s_aload_n (pc := 8) X dX12_moved_8 rfl (s_iload_n (pc := 9) X dX12_moved_9 rfl (s_callV (pc := 10) X dX12_moved_10 (S_X12_isEdition _) q_X12_451 h_64 rfl (hR _ _ (by decide)) (s_if_ne (pc := 13) X dX12_moved_13 (by decide) (s_iconst (pc := 22) X dX12_moved_22 rfl (s_istore_n (pc := 23) X dX12_moved_23 rfl (hnL _ (by decide)) (s_iconst (pc := 24) X dX12_moved_24 rfl (s_istore (pc := 25) X dX12_moved_25 (hnL _ (by decide)) (s_jmp (pc := 27) J [true, true, true, true, true]))))) (s_aload_n (pc := 16) X dX12_moved_16 rfl (s_iconst (pc := 17) X dX12_moved_17 rfl (s_callV (pc := 18) X dX12_moved_18 (S_X12_refuse _) q_X12_267 h_64 rfl (hR _ _ (by decide)) (s_iret (pc := 21) X E hr dX12_moved_21)))))))))))), List.forall_mem_cons.mpr ⟨(s_iload (pc := 27) X dX12_moved_27 (s_aload_n (pc := 29) X dX12_moved_29 rfl (s_getI (pc := 30) X dX12_moved_30 g_X12_261 (s_ic_ge (pc := 33) X dX12_moved_33 (by decide) (s_aload_n (pc := 76) X dX12_moved_76 rfl (s_iload_n (pc := 77) X dX12_moved_77 rfl (s_callV (pc := 78) X dX12_moved_78 (S_X12_gives _) q_X12_237 h_64 rfl (hR _ _ (by decide)) (s_iret (pc := 81) X E hr dX12_moved_81)))) (s_iload_n (pc := 36) X dX12_moved_36 rfl (s_aload_n (pc := 37) X dX12_moved_37 rfl (s_iload (pc := 38) X dX12_moved_38 (s_callV (pc := 40) X dX12_moved_40 (S_X12_isKnown _) q_X12_305 h_64 rfl (hR _ _ (by decide)) (s_if_eq (pc := 43) X dX12_moved_43 (by decide) (s_iconst (pc := 67) X dX12_moved_67 rfl (s_iadd (pc := 68) X dX12_moved_68 (s_istore_n (pc := 69) X dX12_moved_69 rfl (hnL _ (by decide)) (s_iinc (pc := 70) X dX12_moved_70 rfl (s_goto (pc := 73) X dX12_moved_73 (by decide) (s_jmp (pc := 27) J [true, true, true, true, true])))))) (s_aload_n (pc := 46) X dX12_moved_46 rfl (s_iload (pc := 47) X dX12_moved_47 (s_iload_n (pc := 49) X dX12_moved_49 rfl (s_callV (pc := 50) X dX12_moved_50 (S_X12_kindOf _) q_X12_454 h_64 rfl (hR _ _ (by decide)) (s_aload_n (pc := 53) X dX12_moved_53 rfl (s_iload (pc := 54) X dX12_moved_54 (s_iload_n (pc := 56) X dX12_moved_56 rfl (s_callV (pc := 57) X dX12_moved_57 (S_X12_kindOf _) q_X12_454 h_64 rfl (hR _ _ (by decide)) (s_ic_eq (pc := 60) X dX12_moved_60 (by decide) (s_iconst (pc := 67) X dX12_moved_67 rfl (s_iadd (pc := 68) X dX12_moved_68 (s_istore_n (pc := 69) X dX12_moved_69 rfl (hnL _ (by decide)) (s_iinc (pc := 70) X dX12_moved_70 rfl (s_goto (pc := 73) X dX12_moved_73 (by decide) (s_jmp (pc := 27) J [true, true, true, true, true])))))) (s_iconst (pc := 63) X dX12_moved_63 rfl (s_goto (pc := 64) X dX12_moved_64 (by decide) (s_iadd (pc := 68) X dX12_moved_68 (s_istore_n (pc := 69) X dX12_moved_69 rfl (hnL _ (by decide)) (s_iinc (pc := 70) X dX12_moved_70 rfl (s_goto (pc := 73) X dX12_moved_73 (by decide) (s_jmp (pc := 27) J [true, true, true, true, true]))))))))))))))))))))))))), fun _ h => absurd h List.not_mem_nil⟩⟩)
theorem dX12_isKind_0 : decode cX12_isKind 0 = .ok (.iload_n 0, 1) := by decide +kernel
theorem dX12_isKind_1 : decode cX12_isKind 1 = .ok (.iconst (-1), 1) := by decide +kernel
theorem dX12_isKind_2 : decode cX12_isKind 2 = .ok (.if_icmp .lt 13, 3) := by decide +kernel
theorem dX12_isKind_5 : decode cX12_isKind 5 = .ok (.iload_n 0, 1) := by decide +kernel
theorem dX12_isKind_6 : decode cX12_isKind 6 = .ok (.bipush 16, 2) := by decide +kernel
theorem dX12_isKind_8 : decode cX12_isKind 8 = .ok (.if_icmp .ge 7, 3) := by decide +kernel
theorem dX12_isKind_11 : decode cX12_isKind 11 = .ok (.iconst 1, 1) := by decide +kernel
theorem dX12_isKind_12 : decode cX12_isKind 12 = .ok (.goto 4, 3) := by decide +kernel
theorem dX12_isKind_15 : decode cX12_isKind 15 = .ok (.iconst 0, 1) := by decide +kernel
theorem dX12_isKind_16 : decode cX12_isKind 16 = .ok (.ireturn, 1) := by decide +kernel
noncomputable def B_X12_isKind_0 : pb_C := (i_iload 0 (i_const (.int (-1)) (i_ic_lt (i_const (.int 0) i_zret) (i_iload 0 (i_const (.int 16) (i_ic_ge (i_const (.int 0) i_zret) (i_const (.int 1) i_zret)))))))
noncomputable def T_X12_isKind : Nat → pb_C := pb_tt [(0, B_X12_isKind_0)]
noncomputable def M_X12_isKind : pb_F := pb_M T_X12_isKind 1
set_option maxRecDepth 100000 in
set_option maxHeartbeats 4000000 in
theorem S_X12_isKind (l : Launch) : pb_Sound l yX12_isKind cX12_isKind 1 (some .boolean) 1 M_X12_isKind := by
  refine pb_sound_of (by decide) m_8_229 ?_
  intro Γ hl0 hRm0 hm X E hr J
  have hnL : ∀ j, j < 1 → j < Γ.2.2.2.2.2.2.2.2.2.2.2.1 := fun j h => by rw [hm]; exact h
  have hR : ∀ (d' mL : Nat), d' + 1 ≤ 1 ∧ 8 + (mL + 11) + d' * 64 ≤ 1 * 64 → (pb_rm d').frames + 1 ≤ Γ.2.2.2.1.frames ∧ 8 + (mL + 11) + (pb_rm d').locals ≤ Γ.2.2.2.1.locals := by rw [hRm0]; exact fun _ _ h => h
  have hRm : 1 ≤ 1 ∧ 64 ≤ 1 * 64 → 1 ≤ Γ.2.2.2.1.frames ∧ 64 ≤ Γ.2.2.2.1.locals := by rw [hRm0]; exact fun h => h
  exact pb_tt_snd _ (List.forall_mem_cons.mpr ⟨(s_iload_n (pc := 0) X dX12_isKind_0 rfl (s_iconst (pc := 1) X dX12_isKind_1 rfl (s_ic_lt (pc := 2) X dX12_isKind_2 (by decide) (s_iconst (pc := 15) X dX12_isKind_15 rfl (s_zret (pc := 16) X E hr dX12_isKind_16)) (s_iload_n (pc := 5) X dX12_isKind_5 rfl (s_bipush (pc := 6) X dX12_isKind_6 rfl (s_ic_ge (pc := 8) X dX12_isKind_8 (by decide) (s_iconst (pc := 15) X dX12_isKind_15 rfl (s_zret (pc := 16) X E hr dX12_isKind_16)) (s_iconst (pc := 11) X dX12_isKind_11 rfl (s_goto (pc := 12) X dX12_isKind_12 (by decide) (s_zret (pc := 16) X E hr dX12_isKind_16))))))))), fun _ h => absurd h List.not_mem_nil⟩)
theorem dX12_went_0 : decode cX12_went 0 = .ok (.aload_n 0, 1) := by decide +kernel
theorem dX12_went_1 : decode cX12_went 1 = .ok (.getfield 34, 3) := by decide +kernel
theorem dX12_went_4 : decode cX12_went 4 = .ok (.iload_n 1, 1) := by decide +kernel
theorem dX12_went_5 : decode cX12_went 5 = .ok (.iaload, 1) := by decide +kernel
theorem dX12_went_6 : decode cX12_went 6 = .ok (.iload_n 2, 1) := by decide +kernel
theorem dX12_went_7 : decode cX12_went 7 = .ok (.if_icmp .ne 24, 3) := by decide +kernel
theorem dX12_went_10 : decode cX12_went 10 = .ok (.aload_n 0, 1) := by decide +kernel
theorem dX12_went_11 : decode cX12_went 11 = .ok (.getfield 67, 3) := by decide +kernel
theorem dX12_went_14 : decode cX12_went 14 = .ok (.iload_n 1, 1) := by decide +kernel
theorem dX12_went_15 : decode cX12_went 15 = .ok (.baload, 1) := by decide +kernel
theorem dX12_went_16 : decode cX12_went 16 = .ok (.ifCond .ne 15, 3) := by decide +kernel
theorem dX12_went_19 : decode cX12_went 19 = .ok (.aload_n 0, 1) := by decide +kernel
theorem dX12_went_20 : decode cX12_went 20 = .ok (.iload_n 1, 1) := by decide +kernel
theorem dX12_went_21 : decode cX12_went 21 = .ok (.invokevirtual 305, 3) := by decide +kernel
theorem dX12_went_24 : decode cX12_went 24 = .ok (.ifCond .eq 7, 3) := by decide +kernel
theorem dX12_went_27 : decode cX12_went 27 = .ok (.iconst 1, 1) := by decide +kernel
theorem dX12_went_28 : decode cX12_went 28 = .ok (.goto 4, 3) := by decide +kernel
theorem dX12_went_31 : decode cX12_went 31 = .ok (.iconst 0, 1) := by decide +kernel
theorem dX12_went_32 : decode cX12_went 32 = .ok (.ireturn, 1) := by decide +kernel
noncomputable def B_X12_went_0 : pb_C := (i_aload 0 (i_getR 64 70 (i_iload 1 (i_ald 70 200 (i_iload 2 (i_ic_ne (i_const (.int 0) i_zret) (i_aload 0 (i_getR 64 81 (i_iload 1 (i_ald 81 200 (i_if_ne (i_const (.int 0) i_zret) (i_aload 0 (i_iload 1 (i_callV 64 1 1 M_X12_isKnown (i_if_eq (i_const (.int 0) i_zret) (i_const (.int 1) i_zret))))))))))))))))
noncomputable def T_X12_went : Nat → pb_C := pb_tt [(0, B_X12_went_0)]
noncomputable def M_X12_went : pb_F := pb_M T_X12_went 3
set_option maxRecDepth 100000 in
set_option maxHeartbeats 4000000 in
theorem S_X12_went (l : Launch) : pb_Sound l yX12_went cX12_went 3 (some .boolean) 2 M_X12_went := by
  refine pb_sound_of (by decide) m_8_237 ?_
  intro Γ hl0 hRm0 hm X E hr J
  have hnL : ∀ j, j < 3 → j < Γ.2.2.2.2.2.2.2.2.2.2.2.1 := fun j h => by rw [hm]; exact h
  have hR : ∀ (d' mL : Nat), d' + 1 ≤ 2 ∧ 8 + (mL + 11) + d' * 64 ≤ 2 * 64 → (pb_rm d').frames + 1 ≤ Γ.2.2.2.1.frames ∧ 8 + (mL + 11) + (pb_rm d').locals ≤ Γ.2.2.2.1.locals := by rw [hRm0]; exact fun _ _ h => h
  have hRm : 1 ≤ 2 ∧ 64 ≤ 2 * 64 → 1 ≤ Γ.2.2.2.1.frames ∧ 64 ≤ Γ.2.2.2.1.locals := by rw [hRm0]; exact fun h => h
  exact pb_tt_snd _ (List.forall_mem_cons.mpr ⟨(s_aload_n (pc := 0) X dX12_went_0 rfl (s_getR (pc := 1) X dX12_went_1 g_X12_34 (s_iload_n (pc := 4) X dX12_went_4 rfl (s_iald (pc := 5) X dX12_went_5 h_70 (s_iload_n (pc := 6) X dX12_went_6 rfl (s_ic_ne (pc := 7) X dX12_went_7 (by decide) (s_iconst (pc := 31) X dX12_went_31 rfl (s_zret (pc := 32) X E hr dX12_went_32)) (s_aload_n (pc := 10) X dX12_went_10 rfl (s_getR (pc := 11) X dX12_went_11 g_X12_67 (s_iload_n (pc := 14) X dX12_went_14 rfl (s_zald (pc := 15) X dX12_went_15 h_81 (s_if_ne (pc := 16) X dX12_went_16 (by decide) (s_iconst (pc := 31) X dX12_went_31 rfl (s_zret (pc := 32) X E hr dX12_went_32)) (s_aload_n (pc := 19) X dX12_went_19 rfl (s_iload_n (pc := 20) X dX12_went_20 rfl (s_callV (pc := 21) X dX12_went_21 (S_X12_isKnown _) q_X12_305 h_64 rfl (hR _ _ (by decide)) (s_if_eq (pc := 24) X dX12_went_24 (by decide) (s_iconst (pc := 31) X dX12_went_31 rfl (s_zret (pc := 32) X E hr dX12_went_32)) (s_iconst (pc := 27) X dX12_went_27 rfl (s_goto (pc := 28) X dX12_went_28 (by decide) (s_zret (pc := 32) X E hr dX12_went_32)))))))))))))))))), fun _ h => absurd h List.not_mem_nil⟩)
theorem dX12_spentOf_0 : decode cX12_spentOf 0 = .ok (.iconst 0, 1) := by decide +kernel
theorem dX12_spentOf_1 : decode cX12_spentOf 1 = .ok (.istore 5, 2) := by decide +kernel
theorem dX12_spentOf_3 : decode cX12_spentOf 3 = .ok (.iconst 0, 1) := by decide +kernel
theorem dX12_spentOf_4 : decode cX12_spentOf 4 = .ok (.istore 6, 2) := by decide +kernel
theorem dX12_spentOf_6 : decode cX12_spentOf 6 = .ok (.iload 6, 2) := by decide +kernel
theorem dX12_spentOf_8 : decode cX12_spentOf 8 = .ok (.aload_n 0, 1) := by decide +kernel
theorem dX12_spentOf_9 : decode cX12_spentOf 9 = .ok (.getfield 261, 3) := by decide +kernel
theorem dX12_spentOf_12 : decode cX12_spentOf 12 = .ok (.if_icmp .ge 58, 3) := by decide +kernel
theorem dX12_spentOf_15 : decode cX12_spentOf 15 = .ok (.aload_n 0, 1) := by decide +kernel
theorem dX12_spentOf_16 : decode cX12_spentOf 16 = .ok (.getfield 37, 3) := by decide +kernel
theorem dX12_spentOf_19 : decode cX12_spentOf 19 = .ok (.iload 6, 2) := by decide +kernel
theorem dX12_spentOf_21 : decode cX12_spentOf 21 = .ok (.iaload, 1) := by decide +kernel
theorem dX12_spentOf_22 : decode cX12_spentOf 22 = .ok (.iload_n 2, 1) := by decide +kernel
theorem dX12_spentOf_23 : decode cX12_spentOf 23 = .ok (.if_icmp .ne 41, 3) := by decide +kernel
theorem dX12_spentOf_26 : decode cX12_spentOf 26 = .ok (.aload_n 0, 1) := by decide +kernel
theorem dX12_spentOf_27 : decode cX12_spentOf 27 = .ok (.iload 6, 2) := by decide +kernel
theorem dX12_spentOf_29 : decode cX12_spentOf 29 = .ok (.iload_n 1, 1) := by decide +kernel
theorem dX12_spentOf_30 : decode cX12_spentOf 30 = .ok (.invokevirtual 457, 3) := by decide +kernel
theorem dX12_spentOf_33 : decode cX12_spentOf 33 = .ok (.ifCond .eq 31, 3) := by decide +kernel
theorem dX12_spentOf_36 : decode cX12_spentOf 36 = .ok (.iload_n 3, 1) := by decide +kernel
theorem dX12_spentOf_37 : decode cX12_spentOf 37 = .ok (.iconst (-1), 1) := by decide +kernel
theorem dX12_spentOf_38 : decode cX12_spentOf 38 = .ok (.if_icmp .eq 15, 3) := by decide +kernel
theorem dX12_spentOf_41 : decode cX12_spentOf 41 = .ok (.aload_n 0, 1) := by decide +kernel
theorem dX12_spentOf_42 : decode cX12_spentOf 42 = .ok (.iload 6, 2) := by decide +kernel
theorem dX12_spentOf_44 : decode cX12_spentOf 44 = .ok (.iload 4, 2) := by decide +kernel
theorem dX12_spentOf_46 : decode cX12_spentOf 46 = .ok (.invokevirtual 454, 3) := by decide +kernel
theorem dX12_spentOf_49 : decode cX12_spentOf 49 = .ok (.iload_n 3, 1) := by decide +kernel
theorem dX12_spentOf_50 : decode cX12_spentOf 50 = .ok (.if_icmp .ne 14, 3) := by decide +kernel
theorem dX12_spentOf_53 : decode cX12_spentOf 53 = .ok (.iload 5, 2) := by decide +kernel
theorem dX12_spentOf_55 : decode cX12_spentOf 55 = .ok (.aload_n 0, 1) := by decide +kernel
theorem dX12_spentOf_56 : decode cX12_spentOf 56 = .ok (.iload 6, 2) := by decide +kernel
theorem dX12_spentOf_58 : decode cX12_spentOf 58 = .ok (.invokevirtual 308, 3) := by decide +kernel
theorem dX12_spentOf_61 : decode cX12_spentOf 61 = .ok (.iadd, 1) := by decide +kernel
theorem dX12_spentOf_62 : decode cX12_spentOf 62 = .ok (.istore 5, 2) := by decide +kernel
theorem dX12_spentOf_64 : decode cX12_spentOf 64 = .ok (.iinc 6 1, 3) := by decide +kernel
theorem dX12_spentOf_67 : decode cX12_spentOf 67 = .ok (.goto (-61), 3) := by decide +kernel
theorem dX12_spentOf_70 : decode cX12_spentOf 70 = .ok (.iload 5, 2) := by decide +kernel
theorem dX12_spentOf_72 : decode cX12_spentOf 72 = .ok (.ireturn, 1) := by decide +kernel
noncomputable def B_X12_spentOf_0 : pb_C := (i_const (.int 0) (i_istore 5 (i_const (.int 0) (i_istore 6 (i_jmp 6 [true, true, true, true, true, true, true])))))
noncomputable def B_X12_spentOf_6 : pb_C := (i_iload 6 (i_aload 0 (i_getI 64 7 (i_ic_ge (i_iload 5 i_iret) (i_aload 0 (i_getR 64 71 (i_iload 6 (i_ald 71 200 (i_iload 2 (i_ic_ne (i_iinc 6 1 (i_jmp 6 [true, true, true, true, true, true, true])) (i_aload 0 (i_iload 6 (i_iload 1 (i_callV 64 2 1 M_X12_went (i_if_eq (i_iinc 6 1 (i_jmp 6 [true, true, true, true, true, true, true])) (i_iload 3 (i_const (.int (-1)) (i_ic_eq (i_iload 5 (i_aload 0 (i_iload 6 (i_callV 64 1 1 M_X12_penceOf (i_ibin (· + ·) (i_istore 5 (i_iinc 6 1 (i_jmp 6 [true, true, true, true, true, true, true])))))))) (i_aload 0 (i_iload 6 (i_iload 4 (i_callV 64 2 1 M_X12_kindOf (i_iload 3 (i_ic_ne (i_iinc 6 1 (i_jmp 6 [true, true, true, true, true, true, true])) (i_iload 5 (i_aload 0 (i_iload 6 (i_callV 64 1 1 M_X12_penceOf (i_ibin (· + ·) (i_istore 5 (i_iinc 6 1 (i_jmp 6 [true, true, true, true, true, true, true]))))))))))))))))))))))))))))))))
noncomputable def T_X12_spentOf : Nat → pb_C := pb_tt [(0, B_X12_spentOf_0), (6, B_X12_spentOf_6)]
noncomputable def M_X12_spentOf : pb_F := pb_M T_X12_spentOf 7
set_option maxRecDepth 100000 in
set_option maxHeartbeats 4000000 in
theorem S_X12_spentOf (l : Launch) : pb_Sound l yX12_spentOf cX12_spentOf 7 (some .int) 6 M_X12_spentOf := by
  refine pb_sound_of (by decide) m_8_233 ?_
  intro Γ hl0 hRm0 hm X E hr J
  have hnL : ∀ j, j < 7 → j < Γ.2.2.2.2.2.2.2.2.2.2.2.1 := fun j h => by rw [hm]; exact h
  have hR : ∀ (d' mL : Nat), d' + 1 ≤ 6 ∧ 8 + (mL + 11) + d' * 64 ≤ 6 * 64 → (pb_rm d').frames + 1 ≤ Γ.2.2.2.1.frames ∧ 8 + (mL + 11) + (pb_rm d').locals ≤ Γ.2.2.2.1.locals := by rw [hRm0]; exact fun _ _ h => h
  have hRm : 1 ≤ 6 ∧ 64 ≤ 6 * 64 → 1 ≤ Γ.2.2.2.1.frames ∧ 64 ≤ Γ.2.2.2.1.locals := by rw [hRm0]; exact fun h => h
  exact pb_tt_snd _ (List.forall_mem_cons.mpr ⟨(s_iconst (pc := 0) X dX12_spentOf_0 rfl (s_istore (pc := 1) X dX12_spentOf_1 (hnL _ (by decide)) (s_iconst (pc := 3) X dX12_spentOf_3 rfl (s_istore (pc := 4) X dX12_spentOf_4 (hnL _ (by decide)) (s_jmp (pc := 6) J [true, true, true, true, true, true, true]))))), List.forall_mem_cons.mpr ⟨(s_iload (pc := 6) X dX12_spentOf_6 (s_aload_n (pc := 8) X dX12_spentOf_8 rfl (s_getI (pc := 9) X dX12_spentOf_9 g_X12_261 (s_ic_ge (pc := 12) X dX12_spentOf_12 (by decide) (s_iload (pc := 70) X dX12_spentOf_70 (s_iret (pc := 72) X E hr dX12_spentOf_72)) (s_aload_n (pc := 15) X dX12_spentOf_15 rfl (s_getR (pc := 16) X dX12_spentOf_16 g_X12_37 (s_iload (pc := 19) X dX12_spentOf_19 (s_iald (pc := 21) X dX12_spentOf_21 h_71 (s_iload_n (pc := 22) X dX12_spentOf_22 rfl (s_ic_ne (pc := 23) X dX12_spentOf_23 (by decide) (s_iinc (pc := 64) X dX12_spentOf_64 rfl (s_goto (pc := 67) X dX12_spentOf_67 (by decide) (s_jmp (pc := 6) J [true, true, true, true, true, true, true]))) (s_aload_n (pc := 26) X dX12_spentOf_26 rfl (s_iload (pc := 27) X dX12_spentOf_27 (s_iload_n (pc := 29) X dX12_spentOf_29 rfl (s_callV (pc := 30) X dX12_spentOf_30 (S_X12_went _) q_X12_457 h_64 rfl (hR _ _ (by decide)) (s_if_eq (pc := 33) X dX12_spentOf_33 (by decide) (s_iinc (pc := 64) X dX12_spentOf_64 rfl (s_goto (pc := 67) X dX12_spentOf_67 (by decide) (s_jmp (pc := 6) J [true, true, true, true, true, true, true]))) (s_iload_n (pc := 36) X dX12_spentOf_36 rfl (s_iconst (pc := 37) X dX12_spentOf_37 rfl (s_ic_eq (pc := 38) X dX12_spentOf_38 (by decide) (s_iload (pc := 53) X dX12_spentOf_53 (s_aload_n (pc := 55) X dX12_spentOf_55 rfl (s_iload (pc := 56) X dX12_spentOf_56 (s_callV (pc := 58) X dX12_spentOf_58 (S_X12_penceOf _) q_X12_308 h_64 rfl (hR _ _ (by decide)) (s_iadd (pc := 61) X dX12_spentOf_61 (s_istore (pc := 62) X dX12_spentOf_62 (hnL _ (by decide)) (s_iinc (pc := 64) X dX12_spentOf_64 rfl (s_goto (pc := 67) X dX12_spentOf_67 (by decide) (s_jmp (pc := 6) J [true, true, true, true, true, true, true]))))))))) (s_aload_n (pc := 41) X dX12_spentOf_41 rfl (s_iload (pc := 42) X dX12_spentOf_42 (s_iload (pc := 44) X dX12_spentOf_44 (s_callV (pc := 46) X dX12_spentOf_46 (S_X12_kindOf _) q_X12_454 h_64 rfl (hR _ _ (by decide)) (s_iload_n (pc := 49) X dX12_spentOf_49 rfl (s_ic_ne (pc := 50) X dX12_spentOf_50 (by decide) (s_iinc (pc := 64) X dX12_spentOf_64 rfl (s_goto (pc := 67) X dX12_spentOf_67 (by decide) (s_jmp (pc := 6) J [true, true, true, true, true, true, true]))) (s_iload (pc := 53) X dX12_spentOf_53 (s_aload_n (pc := 55) X dX12_spentOf_55 rfl (s_iload (pc := 56) X dX12_spentOf_56 (s_callV (pc := 58) X dX12_spentOf_58 (S_X12_penceOf _) q_X12_308 h_64 rfl (hR _ _ (by decide)) (s_iadd (pc := 61) X dX12_spentOf_61 (s_istore (pc := 62) X dX12_spentOf_62 (hnL _ (by decide)) (s_iinc (pc := 64) X dX12_spentOf_64 rfl (s_goto (pc := 67) X dX12_spentOf_67 (by decide) (s_jmp (pc := 6) J [true, true, true, true, true, true, true]))))))))))))))))))))))))))))))))), fun _ h => absurd h List.not_mem_nil⟩⟩)
theorem dX12_spent_0 : decode cX12_spent 0 = .ok (.aload_n 0, 1) := by decide +kernel
theorem dX12_spent_1 : decode cX12_spent 1 = .ok (.iload_n 1, 1) := by decide +kernel
theorem dX12_spent_2 : decode cX12_spent 2 = .ok (.invokevirtual 284, 3) := by decide +kernel
theorem dX12_spent_5 : decode cX12_spent 5 = .ok (.ifCond .eq 26, 3) := by decide +kernel
theorem dX12_spent_8 : decode cX12_spent 8 = .ok (.iload_n 2, 1) := by decide +kernel
theorem dX12_spent_9 : decode cX12_spent 9 = .ok (.invokestatic 287, 3) := by decide +kernel
theorem dX12_spent_12 : decode cX12_spent 12 = .ok (.ifCond .eq 19, 3) := by decide +kernel
theorem dX12_spent_15 : decode cX12_spent 15 = .ok (.iload_n 3, 1) := by decide +kernel
theorem dX12_spent_16 : decode cX12_spent 16 = .ok (.invokestatic 460, 3) := by decide +kernel
theorem dX12_spent_19 : decode cX12_spent 19 = .ok (.ifCond .eq 12, 3) := by decide +kernel
theorem dX12_spent_22 : decode cX12_spent 22 = .ok (.aload_n 0, 1) := by decide +kernel
theorem dX12_spent_23 : decode cX12_spent 23 = .ok (.iload 4, 2) := by decide +kernel
theorem dX12_spent_25 : decode cX12_spent 25 = .ok (.invokevirtual 451, 3) := by decide +kernel
theorem dX12_spent_28 : decode cX12_spent 28 = .ok (.ifCond .ne 9, 3) := by decide +kernel
theorem dX12_spent_31 : decode cX12_spent 31 = .ok (.aload_n 0, 1) := by decide +kernel
theorem dX12_spent_32 : decode cX12_spent 32 = .ok (.iconst 1, 1) := by decide +kernel
theorem dX12_spent_33 : decode cX12_spent 33 = .ok (.invokevirtual 267, 3) := by decide +kernel
theorem dX12_spent_36 : decode cX12_spent 36 = .ok (.ireturn, 1) := by decide +kernel
theorem dX12_spent_37 : decode cX12_spent 37 = .ok (.aload_n 0, 1) := by decide +kernel
theorem dX12_spent_38 : decode cX12_spent 38 = .ok (.aload_n 0, 1) := by decide +kernel
theorem dX12_spent_39 : decode cX12_spent 39 = .ok (.iload_n 1, 1) := by decide +kernel
theorem dX12_spent_40 : decode cX12_spent 40 = .ok (.iload_n 2, 1) := by decide +kernel
theorem dX12_spent_41 : decode cX12_spent 41 = .ok (.iload_n 3, 1) := by decide +kernel
theorem dX12_spent_42 : decode cX12_spent 42 = .ok (.iload 4, 2) := by decide +kernel
theorem dX12_spent_44 : decode cX12_spent 44 = .ok (.invokevirtual 463, 3) := by decide +kernel
theorem dX12_spent_47 : decode cX12_spent 47 = .ok (.invokevirtual 237, 3) := by decide +kernel
theorem dX12_spent_50 : decode cX12_spent 50 = .ok (.ireturn, 1) := by decide +kernel
noncomputable def B_X12_spent_0 : pb_C := (i_aload 0 (i_iload 1 (i_callV 64 1 1 M_X12_isFamily (i_if_eq (i_aload 0 (i_const (.int 1) (i_callV 64 1 1 M_X12_refuse i_iret))) (i_iload 2 (i_callS 1 1 M_X12_isWeek (i_if_eq (i_aload 0 (i_const (.int 1) (i_callV 64 1 1 M_X12_refuse i_iret))) (i_iload 3 (i_callS 1 1 M_X12_isKind (i_if_eq (i_aload 0 (i_const (.int 1) (i_callV 64 1 1 M_X12_refuse i_iret))) (i_aload 0 (i_iload 4 (i_callV 64 1 1 M_X12_isEdition (i_if_ne (i_aload 0 (i_aload 0 (i_iload 1 (i_iload 2 (i_iload 3 (i_iload 4 (i_callV 64 4 1 M_X12_spentOf (i_callV 64 1 1 M_X12_gives i_iret)))))))) (i_aload 0 (i_const (.int 1) (i_callV 64 1 1 M_X12_refuse i_iret)))))))))))))))))
noncomputable def T_X12_spent : Nat → pb_C := pb_tt [(0, B_X12_spent_0)]
noncomputable def M_X12_spent : pb_F := pb_M T_X12_spent 5
set_option maxRecDepth 100000 in
set_option maxHeartbeats 4000000 in
theorem S_X12_spent (l : Launch) : pb_Sound l yX12_spent cX12_spent 5 (some .int) 7 M_X12_spent := by
  refine pb_sound_of (by decide) m_8_226 ?_
  intro Γ hl0 hRm0 hm X E hr J
  have hnL : ∀ j, j < 5 → j < Γ.2.2.2.2.2.2.2.2.2.2.2.1 := fun j h => by rw [hm]; exact h
  have hR : ∀ (d' mL : Nat), d' + 1 ≤ 7 ∧ 8 + (mL + 11) + d' * 64 ≤ 7 * 64 → (pb_rm d').frames + 1 ≤ Γ.2.2.2.1.frames ∧ 8 + (mL + 11) + (pb_rm d').locals ≤ Γ.2.2.2.1.locals := by rw [hRm0]; exact fun _ _ h => h
  have hRm : 1 ≤ 7 ∧ 64 ≤ 7 * 64 → 1 ≤ Γ.2.2.2.1.frames ∧ 64 ≤ Γ.2.2.2.1.locals := by rw [hRm0]; exact fun h => h
  exact pb_tt_snd _ (List.forall_mem_cons.mpr ⟨(s_aload_n (pc := 0) X dX12_spent_0 rfl (s_iload_n (pc := 1) X dX12_spent_1 rfl (s_callV (pc := 2) X dX12_spent_2 (S_X12_isFamily _) q_X12_284 h_64 rfl (hR _ _ (by decide)) (s_if_eq (pc := 5) X dX12_spent_5 (by decide) (s_aload_n (pc := 31) X dX12_spent_31 rfl (s_iconst (pc := 32) X dX12_spent_32 rfl (s_callV (pc := 33) X dX12_spent_33 (S_X12_refuse _) q_X12_267 h_64 rfl (hR _ _ (by decide)) (s_iret (pc := 36) X E hr dX12_spent_36)))) (s_iload_n (pc := 8) X dX12_spent_8 rfl (s_callS (pc := 9) X dX12_spent_9 (S_X12_isWeek _) q_X12_287 (hR _ _ (by decide)) (s_if_eq (pc := 12) X dX12_spent_12 (by decide) (s_aload_n (pc := 31) X dX12_spent_31 rfl (s_iconst (pc := 32) X dX12_spent_32 rfl (s_callV (pc := 33) X dX12_spent_33 (S_X12_refuse _) q_X12_267 h_64 rfl (hR _ _ (by decide)) (s_iret (pc := 36) X E hr dX12_spent_36)))) (s_iload_n (pc := 15) X dX12_spent_15 rfl (s_callS (pc := 16) X dX12_spent_16 (S_X12_isKind _) q_X12_460 (hR _ _ (by decide)) (s_if_eq (pc := 19) X dX12_spent_19 (by decide) (s_aload_n (pc := 31) X dX12_spent_31 rfl (s_iconst (pc := 32) X dX12_spent_32 rfl (s_callV (pc := 33) X dX12_spent_33 (S_X12_refuse _) q_X12_267 h_64 rfl (hR _ _ (by decide)) (s_iret (pc := 36) X E hr dX12_spent_36)))) (s_aload_n (pc := 22) X dX12_spent_22 rfl (s_iload (pc := 23) X dX12_spent_23 (s_callV (pc := 25) X dX12_spent_25 (S_X12_isEdition _) q_X12_451 h_64 rfl (hR _ _ (by decide)) (s_if_ne (pc := 28) X dX12_spent_28 (by decide) (s_aload_n (pc := 37) X dX12_spent_37 rfl (s_aload_n (pc := 38) X dX12_spent_38 rfl (s_iload_n (pc := 39) X dX12_spent_39 rfl (s_iload_n (pc := 40) X dX12_spent_40 rfl (s_iload_n (pc := 41) X dX12_spent_41 rfl (s_iload (pc := 42) X dX12_spent_42 (s_callV (pc := 44) X dX12_spent_44 (S_X12_spentOf _) q_X12_463 h_64 rfl (hR _ _ (by decide)) (s_callV (pc := 47) X dX12_spent_47 (S_X12_gives _) q_X12_237 h_64 rfl (hR _ _ (by decide)) (s_iret (pc := 50) X E hr dX12_spent_50))))))))) (s_aload_n (pc := 31) X dX12_spent_31 rfl (s_iconst (pc := 32) X dX12_spent_32 rfl (s_callV (pc := 33) X dX12_spent_33 (S_X12_refuse _) q_X12_267 h_64 rfl (hR _ _ (by decide)) (s_iret (pc := 36) X E hr dX12_spent_36)))))))))))))))))), fun _ h => absurd h List.not_mem_nil⟩)
theorem dX12_toldOf_0 : decode cX12_toldOf 0 = .ok (.iconst 0, 1) := by decide +kernel
theorem dX12_toldOf_1 : decode cX12_toldOf 1 = .ok (.istore_n 3, 1) := by decide +kernel
theorem dX12_toldOf_2 : decode cX12_toldOf 2 = .ok (.iload_n 3, 1) := by decide +kernel
theorem dX12_toldOf_3 : decode cX12_toldOf 3 = .ok (.aload_n 0, 1) := by decide +kernel
theorem dX12_toldOf_4 : decode cX12_toldOf 4 = .ok (.getfield 467, 3) := by decide +kernel
theorem dX12_toldOf_7 : decode cX12_toldOf 7 = .ok (.if_icmp .ge 31, 3) := by decide +kernel
theorem dX12_toldOf_10 : decode cX12_toldOf 10 = .ok (.aload_n 0, 1) := by decide +kernel
theorem dX12_toldOf_11 : decode cX12_toldOf 11 = .ok (.getfield 147, 3) := by decide +kernel
theorem dX12_toldOf_14 : decode cX12_toldOf 14 = .ok (.iload_n 3, 1) := by decide +kernel
theorem dX12_toldOf_15 : decode cX12_toldOf 15 = .ok (.iaload, 1) := by decide +kernel
theorem dX12_toldOf_16 : decode cX12_toldOf 16 = .ok (.iload_n 1, 1) := by decide +kernel
theorem dX12_toldOf_17 : decode cX12_toldOf 17 = .ok (.if_icmp .ne 15, 3) := by decide +kernel
theorem dX12_toldOf_20 : decode cX12_toldOf 20 = .ok (.aload_n 0, 1) := by decide +kernel
theorem dX12_toldOf_21 : decode cX12_toldOf 21 = .ok (.getfield 150, 3) := by decide +kernel
theorem dX12_toldOf_24 : decode cX12_toldOf 24 = .ok (.iload_n 3, 1) := by decide +kernel
theorem dX12_toldOf_25 : decode cX12_toldOf 25 = .ok (.iaload, 1) := by decide +kernel
theorem dX12_toldOf_26 : decode cX12_toldOf 26 = .ok (.iload_n 2, 1) := by decide +kernel
theorem dX12_toldOf_27 : decode cX12_toldOf 27 = .ok (.if_icmp .ne 5, 3) := by decide +kernel
theorem dX12_toldOf_30 : decode cX12_toldOf 30 = .ok (.iload_n 3, 1) := by decide +kernel
theorem dX12_toldOf_31 : decode cX12_toldOf 31 = .ok (.ireturn, 1) := by decide +kernel
theorem dX12_toldOf_32 : decode cX12_toldOf 32 = .ok (.iinc 3 1, 3) := by decide +kernel
theorem dX12_toldOf_35 : decode cX12_toldOf 35 = .ok (.goto (-33), 3) := by decide +kernel
theorem dX12_toldOf_38 : decode cX12_toldOf 38 = .ok (.iconst (-1), 1) := by decide +kernel
theorem dX12_toldOf_39 : decode cX12_toldOf 39 = .ok (.ireturn, 1) := by decide +kernel
noncomputable def B_X12_toldOf_0 : pb_C := (i_const (.int 0) (i_istore 3 (i_jmp 2 [true, true, true, true])))
noncomputable def B_X12_toldOf_2 : pb_C := (i_iload 3 (i_aload 0 (i_getI 64 67 (i_ic_ge (i_const (.int (-1)) i_iret) (i_aload 0 (i_getR 64 104 (i_iload 3 (i_ald 104 40 (i_iload 1 (i_ic_ne (i_iinc 3 1 (i_jmp 2 [true, true, true, true])) (i_aload 0 (i_getR 64 105 (i_iload 3 (i_ald 105 40 (i_iload 2 (i_ic_ne (i_iinc 3 1 (i_jmp 2 [true, true, true, true])) (i_iload 3 i_iret)))))))))))))))))
noncomputable def T_X12_toldOf : Nat → pb_C := pb_tt [(0, B_X12_toldOf_0), (2, B_X12_toldOf_2)]
noncomputable def M_X12_toldOf : pb_F := pb_M T_X12_toldOf 4
set_option maxRecDepth 100000 in
set_option maxHeartbeats 4000000 in
theorem S_X12_toldOf (l : Launch) : pb_Sound l yX12_toldOf cX12_toldOf 4 (some .int) 1 M_X12_toldOf := by
  refine pb_sound_of (by decide) m_9_5 ?_
  intro Γ hl0 hRm0 hm X E hr J
  have hnL : ∀ j, j < 4 → j < Γ.2.2.2.2.2.2.2.2.2.2.2.1 := fun j h => by rw [hm]; exact h
  have hR : ∀ (d' mL : Nat), d' + 1 ≤ 1 ∧ 8 + (mL + 11) + d' * 64 ≤ 1 * 64 → (pb_rm d').frames + 1 ≤ Γ.2.2.2.1.frames ∧ 8 + (mL + 11) + (pb_rm d').locals ≤ Γ.2.2.2.1.locals := by rw [hRm0]; exact fun _ _ h => h
  have hRm : 1 ≤ 1 ∧ 64 ≤ 1 * 64 → 1 ≤ Γ.2.2.2.1.frames ∧ 64 ≤ Γ.2.2.2.1.locals := by rw [hRm0]; exact fun h => h
  exact pb_tt_snd _ (List.forall_mem_cons.mpr ⟨(s_iconst (pc := 0) X dX12_toldOf_0 rfl (s_istore_n (pc := 1) X dX12_toldOf_1 rfl (hnL _ (by decide)) (s_jmp (pc := 2) J [true, true, true, true]))), List.forall_mem_cons.mpr ⟨(s_iload_n (pc := 2) X dX12_toldOf_2 rfl (s_aload_n (pc := 3) X dX12_toldOf_3 rfl (s_getI (pc := 4) X dX12_toldOf_4 g_X12_467 (s_ic_ge (pc := 7) X dX12_toldOf_7 (by decide) (s_iconst (pc := 38) X dX12_toldOf_38 rfl (s_iret (pc := 39) X E hr dX12_toldOf_39)) (s_aload_n (pc := 10) X dX12_toldOf_10 rfl (s_getR (pc := 11) X dX12_toldOf_11 g_X12_147 (s_iload_n (pc := 14) X dX12_toldOf_14 rfl (s_iald (pc := 15) X dX12_toldOf_15 h_104 (s_iload_n (pc := 16) X dX12_toldOf_16 rfl (s_ic_ne (pc := 17) X dX12_toldOf_17 (by decide) (s_iinc (pc := 32) X dX12_toldOf_32 rfl (s_goto (pc := 35) X dX12_toldOf_35 (by decide) (s_jmp (pc := 2) J [true, true, true, true]))) (s_aload_n (pc := 20) X dX12_toldOf_20 rfl (s_getR (pc := 21) X dX12_toldOf_21 g_X12_150 (s_iload_n (pc := 24) X dX12_toldOf_24 rfl (s_iald (pc := 25) X dX12_toldOf_25 h_105 (s_iload_n (pc := 26) X dX12_toldOf_26 rfl (s_ic_ne (pc := 27) X dX12_toldOf_27 (by decide) (s_iinc (pc := 32) X dX12_toldOf_32 rfl (s_goto (pc := 35) X dX12_toldOf_35 (by decide) (s_jmp (pc := 2) J [true, true, true, true]))) (s_iload_n (pc := 30) X dX12_toldOf_30 rfl (s_iret (pc := 31) X E hr dX12_toldOf_31)))))))))))))))))), fun _ h => absurd h List.not_mem_nil⟩⟩)
theorem dX12_told_0 : decode cX12_told 0 = .ok (.aload_n 0, 1) := by decide +kernel
theorem dX12_told_1 : decode cX12_told 1 = .ok (.iload_n 1, 1) := by decide +kernel
theorem dX12_told_2 : decode cX12_told 2 = .ok (.invokevirtual 284, 3) := by decide +kernel
theorem dX12_told_5 : decode cX12_told 5 = .ok (.ifCond .eq 21, 3) := by decide +kernel
theorem dX12_told_8 : decode cX12_told 8 = .ok (.iload_n 2, 1) := by decide +kernel
theorem dX12_told_9 : decode cX12_told 9 = .ok (.invokestatic 287, 3) := by decide +kernel
theorem dX12_told_12 : decode cX12_told 12 = .ok (.ifCond .eq 14, 3) := by decide +kernel
theorem dX12_told_15 : decode cX12_told 15 = .ok (.iload_n 3, 1) := by decide +kernel
theorem dX12_told_16 : decode cX12_told 16 = .ok (.ifCond .lt 10, 3) := by decide +kernel
theorem dX12_told_19 : decode cX12_told 19 = .ok (.iload_n 3, 1) := by decide +kernel
theorem dX12_told_20 : decode cX12_told 20 = .ok (.ldc_w 342, 3) := by decide +kernel
theorem dX12_told_23 : decode cX12_told 23 = .ok (.if_icmp .le 9, 3) := by decide +kernel
theorem dX12_told_26 : decode cX12_told 26 = .ok (.aload_n 0, 1) := by decide +kernel
theorem dX12_told_27 : decode cX12_told 27 = .ok (.iconst 1, 1) := by decide +kernel
theorem dX12_told_28 : decode cX12_told 28 = .ok (.invokevirtual 245, 3) := by decide +kernel
theorem dX12_told_31 : decode cX12_told 31 = .ok (.ireturn, 1) := by decide +kernel
theorem dX12_told_32 : decode cX12_told 32 = .ok (.aload_n 0, 1) := by decide +kernel
theorem dX12_told_33 : decode cX12_told 33 = .ok (.iload_n 1, 1) := by decide +kernel
theorem dX12_told_34 : decode cX12_told 34 = .ok (.iload_n 2, 1) := by decide +kernel
theorem dX12_told_35 : decode cX12_told 35 = .ok (.invokevirtual 470, 3) := by decide +kernel
theorem dX12_told_38 : decode cX12_told 38 = .ok (.istore 4, 2) := by decide +kernel
theorem dX12_told_40 : decode cX12_told 40 = .ok (.iload 4, 2) := by decide +kernel
theorem dX12_told_42 : decode cX12_told 42 = .ok (.iconst (-1), 1) := by decide +kernel
theorem dX12_told_43 : decode cX12_told 43 = .ok (.if_icmp .ne 18, 3) := by decide +kernel
theorem dX12_told_46 : decode cX12_told 46 = .ok (.aload_n 0, 1) := by decide +kernel
theorem dX12_told_47 : decode cX12_told 47 = .ok (.getfield 467, 3) := by decide +kernel
theorem dX12_told_50 : decode cX12_told 50 = .ok (.bipush 40, 2) := by decide +kernel
theorem dX12_told_52 : decode cX12_told 52 = .ok (.if_icmp .ne 9, 3) := by decide +kernel
theorem dX12_told_55 : decode cX12_told 55 = .ok (.aload_n 0, 1) := by decide +kernel
theorem dX12_told_56 : decode cX12_told 56 = .ok (.iconst 4, 1) := by decide +kernel
theorem dX12_told_57 : decode cX12_told 57 = .ok (.invokevirtual 245, 3) := by decide +kernel
theorem dX12_told_60 : decode cX12_told 60 = .ok (.ireturn, 1) := by decide +kernel
theorem dX12_told_61 : decode cX12_told 61 = .ok (.iload 4, 2) := by decide +kernel
theorem dX12_told_63 : decode cX12_told 63 = .ok (.iconst (-1), 1) := by decide +kernel
theorem dX12_told_64 : decode cX12_told 64 = .ok (.if_icmp .ne 19, 3) := by decide +kernel
theorem dX12_told_67 : decode cX12_told 67 = .ok (.aload_n 0, 1) := by decide +kernel
theorem dX12_told_68 : decode cX12_told 68 = .ok (.getfield 467, 3) := by decide +kernel
theorem dX12_told_71 : decode cX12_told 71 = .ok (.istore 4, 2) := by decide +kernel
theorem dX12_told_73 : decode cX12_told 73 = .ok (.aload_n 0, 1) := by decide +kernel
theorem dX12_told_74 : decode cX12_told 74 = .ok (.dup, 1) := by decide +kernel
theorem dX12_told_75 : decode cX12_told 75 = .ok (.getfield 467, 3) := by decide +kernel
theorem dX12_told_78 : decode cX12_told 78 = .ok (.iconst 1, 1) := by decide +kernel
theorem dX12_told_79 : decode cX12_told 79 = .ok (.iadd, 1) := by decide +kernel
theorem dX12_told_80 : decode cX12_told 80 = .ok (.putfield 467, 3) := by decide +kernel
theorem dX12_told_83 : decode cX12_told 83 = .ok (.aload_n 0, 1) := by decide +kernel
theorem dX12_told_84 : decode cX12_told 84 = .ok (.getfield 147, 3) := by decide +kernel
theorem dX12_told_87 : decode cX12_told 87 = .ok (.iload 4, 2) := by decide +kernel
theorem dX12_told_89 : decode cX12_told 89 = .ok (.iload_n 1, 1) := by decide +kernel
theorem dX12_told_90 : decode cX12_told 90 = .ok (.iastore, 1) := by decide +kernel
theorem dX12_told_91 : decode cX12_told 91 = .ok (.aload_n 0, 1) := by decide +kernel
theorem dX12_told_92 : decode cX12_told 92 = .ok (.getfield 150, 3) := by decide +kernel
theorem dX12_told_95 : decode cX12_told 95 = .ok (.iload 4, 2) := by decide +kernel
theorem dX12_told_97 : decode cX12_told 97 = .ok (.iload_n 2, 1) := by decide +kernel
theorem dX12_told_98 : decode cX12_told 98 = .ok (.iastore, 1) := by decide +kernel
theorem dX12_told_99 : decode cX12_told 99 = .ok (.aload_n 0, 1) := by decide +kernel
theorem dX12_told_100 : decode cX12_told 100 = .ok (.getfield 153, 3) := by decide +kernel
theorem dX12_told_103 : decode cX12_told 103 = .ok (.iload 4, 2) := by decide +kernel
theorem dX12_told_105 : decode cX12_told 105 = .ok (.iload_n 3, 1) := by decide +kernel
theorem dX12_told_106 : decode cX12_told 106 = .ok (.iastore, 1) := by decide +kernel
theorem dX12_told_107 : decode cX12_told 107 = .ok (.aload_n 0, 1) := by decide +kernel
theorem dX12_told_108 : decode cX12_told 108 = .ok (.iconst 0, 1) := by decide +kernel
theorem dX12_told_109 : decode cX12_told 109 = .ok (.invokevirtual 245, 3) := by decide +kernel
theorem dX12_told_112 : decode cX12_told 112 = .ok (.ireturn, 1) := by decide +kernel
noncomputable def B_X12_told_0 : pb_C := (i_aload 0 (i_iload 1 (i_callV 64 1 1 M_X12_isFamily (i_if_eq (i_aload 0 (i_const (.int 1) (i_callV 64 1 1 M_X12_is i_zret))) (i_iload 2 (i_callS 1 1 M_X12_isWeek (i_if_eq (i_aload 0 (i_const (.int 1) (i_callV 64 1 1 M_X12_is i_zret))) (i_iload 3 (i_if_lt (i_aload 0 (i_const (.int 1) (i_callV 64 1 1 M_X12_is i_zret))) (i_iload 3 (i_const (.int (1000000)) (i_ic_le (i_aload 0 (i_iload 1 (i_iload 2 (i_callV 64 2 1 M_X12_toldOf (i_istore 4 (i_iload 4 (i_const (.int (-1)) (i_ic_ne (i_jmp 61 [true, true, true, true, true]) (i_aload 0 (i_getI 64 67 (i_const (.int 40) (i_ic_ne (i_jmp 61 [true, true, true, true, true]) (i_aload 0 (i_const (.int 4) (i_callV 64 1 1 M_X12_is i_zret))))))))))))))) (i_aload 0 (i_const (.int 1) (i_callV 64 1 1 M_X12_is i_zret)))))))))))))))
noncomputable def B_X12_told_61 : pb_C := (i_iload 4 (i_const (.int (-1)) (i_ic_ne (i_jmp 83 [true, true, true, true, true]) (i_aload 0 (i_getI 64 67 (i_istore 4 (i_aload 0 (i_dupR (i_getI 64 67 (i_const (.int 1) (i_ibin (· + ·) (i_putI 64 67 (i_jmp 83 [true, true, true, true, true])))))))))))))
noncomputable def B_X12_told_83 : pb_C := (i_aload 0 (i_getR 64 104 (i_iload 4 (i_iload 1 (i_ast 104 40 (fun x => x) (i_aload 0 (i_getR 64 105 (i_iload 4 (i_iload 2 (i_ast 105 40 (fun x => x) (i_aload 0 (i_getR 64 106 (i_iload 4 (i_iload 3 (i_ast 106 40 (fun x => x) (i_aload 0 (i_const (.int 0) (i_callV 64 1 1 M_X12_is i_zret))))))))))))))))))
noncomputable def T_X12_told : Nat → pb_C := pb_tt [(0, B_X12_told_0), (61, B_X12_told_61), (83, B_X12_told_83)]
noncomputable def M_X12_told : pb_F := pb_M T_X12_told 5
set_option maxRecDepth 100000 in
set_option maxHeartbeats 4000000 in
theorem S_X12_told (l : Launch) : pb_Sound l yX12_told cX12_told 5 (some .boolean) 2 M_X12_told := by
  refine pb_sound_of (by decide) m_9_1 ?_
  intro Γ hl0 hRm0 hm X E hr J
  have hnL : ∀ j, j < 5 → j < Γ.2.2.2.2.2.2.2.2.2.2.2.1 := fun j h => by rw [hm]; exact h
  have hR : ∀ (d' mL : Nat), d' + 1 ≤ 2 ∧ 8 + (mL + 11) + d' * 64 ≤ 2 * 64 → (pb_rm d').frames + 1 ≤ Γ.2.2.2.1.frames ∧ 8 + (mL + 11) + (pb_rm d').locals ≤ Γ.2.2.2.1.locals := by rw [hRm0]; exact fun _ _ h => h
  have hRm : 1 ≤ 2 ∧ 64 ≤ 2 * 64 → 1 ≤ Γ.2.2.2.1.frames ∧ 64 ≤ Γ.2.2.2.1.locals := by rw [hRm0]; exact fun h => h
  exact pb_tt_snd _ (List.forall_mem_cons.mpr ⟨(s_aload_n (pc := 0) X dX12_told_0 rfl (s_iload_n (pc := 1) X dX12_told_1 rfl (s_callV (pc := 2) X dX12_told_2 (S_X12_isFamily _) q_X12_284 h_64 rfl (hR _ _ (by decide)) (s_if_eq (pc := 5) X dX12_told_5 (by decide) (s_aload_n (pc := 26) X dX12_told_26 rfl (s_iconst (pc := 27) X dX12_told_27 rfl (s_callV (pc := 28) X dX12_told_28 (S_X12_is _) q_X12_245 h_64 rfl (hR _ _ (by decide)) (s_zret (pc := 31) X E hr dX12_told_31)))) (s_iload_n (pc := 8) X dX12_told_8 rfl (s_callS (pc := 9) X dX12_told_9 (S_X12_isWeek _) q_X12_287 (hR _ _ (by decide)) (s_if_eq (pc := 12) X dX12_told_12 (by decide) (s_aload_n (pc := 26) X dX12_told_26 rfl (s_iconst (pc := 27) X dX12_told_27 rfl (s_callV (pc := 28) X dX12_told_28 (S_X12_is _) q_X12_245 h_64 rfl (hR _ _ (by decide)) (s_zret (pc := 31) X E hr dX12_told_31)))) (s_iload_n (pc := 15) X dX12_told_15 rfl (s_if_lt (pc := 16) X dX12_told_16 (by decide) (s_aload_n (pc := 26) X dX12_told_26 rfl (s_iconst (pc := 27) X dX12_told_27 rfl (s_callV (pc := 28) X dX12_told_28 (S_X12_is _) q_X12_245 h_64 rfl (hR _ _ (by decide)) (s_zret (pc := 31) X E hr dX12_told_31)))) (s_iload_n (pc := 19) X dX12_told_19 rfl (s_ldc_w (pc := 20) X dX12_told_20 m_8_110 (s_ic_le (pc := 23) X dX12_told_23 (by decide) (s_aload_n (pc := 32) X dX12_told_32 rfl (s_iload_n (pc := 33) X dX12_told_33 rfl (s_iload_n (pc := 34) X dX12_told_34 rfl (s_callV (pc := 35) X dX12_told_35 (S_X12_toldOf _) q_X12_470 h_64 rfl (hR _ _ (by decide)) (s_istore (pc := 38) X dX12_told_38 (hnL _ (by decide)) (s_iload (pc := 40) X dX12_told_40 (s_iconst (pc := 42) X dX12_told_42 rfl (s_ic_ne (pc := 43) X dX12_told_43 (by decide) (s_jmp (pc := 61) J [true, true, true, true, true]) (s_aload_n (pc := 46) X dX12_told_46 rfl (s_getI (pc := 47) X dX12_told_47 g_X12_467 (s_bipush (pc := 50) X dX12_told_50 rfl (s_ic_ne (pc := 52) X dX12_told_52 (by decide) (s_jmp (pc := 61) J [true, true, true, true, true]) (s_aload_n (pc := 55) X dX12_told_55 rfl (s_iconst (pc := 56) X dX12_told_56 rfl (s_callV (pc := 57) X dX12_told_57 (S_X12_is _) q_X12_245 h_64 rfl (hR _ _ (by decide)) (s_zret (pc := 60) X E hr dX12_told_60)))))))))))))))) (s_aload_n (pc := 26) X dX12_told_26 rfl (s_iconst (pc := 27) X dX12_told_27 rfl (s_callV (pc := 28) X dX12_told_28 (S_X12_is _) q_X12_245 h_64 rfl (hR _ _ (by decide)) (s_zret (pc := 31) X E hr dX12_told_31)))))))))))))))), List.forall_mem_cons.mpr ⟨(s_iload (pc := 61) X dX12_told_61 (s_iconst (pc := 63) X dX12_told_63 rfl (s_ic_ne (pc := 64) X dX12_told_64 (by decide) (s_jmp (pc := 83) J [true, true, true, true, true]) (s_aload_n (pc := 67) X dX12_told_67 rfl (s_getI (pc := 68) X dX12_told_68 g_X12_467 (s_istore (pc := 71) X dX12_told_71 (hnL _ (by decide)) (s_aload_n (pc := 73) X dX12_told_73 rfl (s_dupR (pc := 74) X dX12_told_74 (s_getI (pc := 75) X dX12_told_75 g_X12_467 (s_iconst (pc := 78) X dX12_told_78 rfl (s_iadd (pc := 79) X dX12_told_79 (s_putI (pc := 80) X dX12_told_80 p_X12_467 (s_jmp (pc := 83) J [true, true, true, true, true]))))))))))))), List.forall_mem_cons.mpr ⟨(s_aload_n (pc := 83) X dX12_told_83 rfl (s_getR (pc := 84) X dX12_told_84 g_X12_147 (s_iload (pc := 87) X dX12_told_87 (s_iload_n (pc := 89) X dX12_told_89 rfl (s_iast (pc := 90) X dX12_told_90 h_104 (s_aload_n (pc := 91) X dX12_told_91 rfl (s_getR (pc := 92) X dX12_told_92 g_X12_150 (s_iload (pc := 95) X dX12_told_95 (s_iload_n (pc := 97) X dX12_told_97 rfl (s_iast (pc := 98) X dX12_told_98 h_105 (s_aload_n (pc := 99) X dX12_told_99 rfl (s_getR (pc := 100) X dX12_told_100 g_X12_153 (s_iload (pc := 103) X dX12_told_103 (s_iload_n (pc := 105) X dX12_told_105 rfl (s_iast (pc := 106) X dX12_told_106 h_106 (s_aload_n (pc := 107) X dX12_told_107 rfl (s_iconst (pc := 108) X dX12_told_108 rfl (s_callV (pc := 109) X dX12_told_109 (S_X12_is _) q_X12_245 h_64 rfl (hR _ _ (by decide)) (s_zret (pc := 112) X E hr dX12_told_112))))))))))))))))))), fun _ h => absurd h List.not_mem_nil⟩⟩⟩)
theorem dX12_out_0 : decode cX12_out 0 = .ok (.aload_n 0, 1) := by decide +kernel
theorem dX12_out_1 : decode cX12_out 1 = .ok (.iload_n 1, 1) := by decide +kernel
theorem dX12_out_2 : decode cX12_out 2 = .ok (.invokevirtual 284, 3) := by decide +kernel
theorem dX12_out_5 : decode cX12_out 5 = .ok (.ifCond .eq 10, 3) := by decide +kernel
theorem dX12_out_8 : decode cX12_out 8 = .ok (.iload_n 2, 1) := by decide +kernel
theorem dX12_out_9 : decode cX12_out 9 = .ok (.invokestatic 287, 3) := by decide +kernel
theorem dX12_out_12 : decode cX12_out 12 = .ok (.ifCond .ne 9, 3) := by decide +kernel
theorem dX12_out_15 : decode cX12_out 15 = .ok (.aload_n 0, 1) := by decide +kernel
theorem dX12_out_16 : decode cX12_out 16 = .ok (.iconst 1, 1) := by decide +kernel
theorem dX12_out_17 : decode cX12_out 17 = .ok (.invokevirtual 267, 3) := by decide +kernel
theorem dX12_out_20 : decode cX12_out 20 = .ok (.ireturn, 1) := by decide +kernel
theorem dX12_out_21 : decode cX12_out 21 = .ok (.aload_n 0, 1) := by decide +kernel
theorem dX12_out_22 : decode cX12_out 22 = .ok (.iload_n 1, 1) := by decide +kernel
theorem dX12_out_23 : decode cX12_out 23 = .ok (.iload_n 2, 1) := by decide +kernel
theorem dX12_out_24 : decode cX12_out 24 = .ok (.invokevirtual 470, 3) := by decide +kernel
theorem dX12_out_27 : decode cX12_out 27 = .ok (.istore_n 3, 1) := by decide +kernel
theorem dX12_out_28 : decode cX12_out 28 = .ok (.iload_n 3, 1) := by decide +kernel
theorem dX12_out_29 : decode cX12_out 29 = .ok (.iconst (-1), 1) := by decide +kernel
theorem dX12_out_30 : decode cX12_out 30 = .ok (.if_icmp .ne 12, 3) := by decide +kernel
theorem dX12_out_33 : decode cX12_out 33 = .ok (.aload_n 0, 1) := by decide +kernel
theorem dX12_out_34 : decode cX12_out 34 = .ok (.bipush 6, 2) := by decide +kernel
theorem dX12_out_36 : decode cX12_out 36 = .ok (.invokevirtual 267, 3) := by decide +kernel
theorem dX12_out_39 : decode cX12_out 39 = .ok (.goto 22, 3) := by decide +kernel
theorem dX12_out_42 : decode cX12_out 42 = .ok (.aload_n 0, 1) := by decide +kernel
theorem dX12_out_43 : decode cX12_out 43 = .ok (.aload_n 0, 1) := by decide +kernel
theorem dX12_out_44 : decode cX12_out 44 = .ok (.getfield 153, 3) := by decide +kernel
theorem dX12_out_47 : decode cX12_out 47 = .ok (.iload_n 3, 1) := by decide +kernel
theorem dX12_out_48 : decode cX12_out 48 = .ok (.iaload, 1) := by decide +kernel
theorem dX12_out_49 : decode cX12_out 49 = .ok (.aload_n 0, 1) := by decide +kernel
theorem dX12_out_50 : decode cX12_out 50 = .ok (.iload_n 1, 1) := by decide +kernel
theorem dX12_out_51 : decode cX12_out 51 = .ok (.iload_n 2, 1) := by decide +kernel
theorem dX12_out_52 : decode cX12_out 52 = .ok (.iconst (-1), 1) := by decide +kernel
theorem dX12_out_53 : decode cX12_out 53 = .ok (.iconst 0, 1) := by decide +kernel
theorem dX12_out_54 : decode cX12_out 54 = .ok (.invokevirtual 463, 3) := by decide +kernel
theorem dX12_out_57 : decode cX12_out 57 = .ok (.isub, 1) := by decide +kernel
theorem dX12_out_58 : decode cX12_out 58 = .ok (.invokevirtual 237, 3) := by decide +kernel
theorem dX12_out_61 : decode cX12_out 61 = .ok (.ireturn, 1) := by decide +kernel
noncomputable def B_X12_out_0 : pb_C := (i_aload 0 (i_iload 1 (i_callV 64 1 1 M_X12_isFamily (i_if_eq (i_aload 0 (i_const (.int 1) (i_callV 64 1 1 M_X12_refuse i_iret))) (i_iload 2 (i_callS 1 1 M_X12_isWeek (i_if_ne (i_aload 0 (i_iload 1 (i_iload 2 (i_callV 64 2 1 M_X12_toldOf (i_istore 3 (i_iload 3 (i_const (.int (-1)) (i_ic_ne (i_aload 0 (i_aload 0 (i_getR 64 106 (i_iload 3 (i_ald 106 40 (i_aload 0 (i_iload 1 (i_iload 2 (i_const (.int (-1)) (i_const (.int 0) (i_callV 64 4 1 M_X12_spentOf (i_ibin (· - ·) (i_callV 64 1 1 M_X12_gives i_iret))))))))))))) (i_aload 0 (i_const (.int 6) (i_callV 64 1 1 M_X12_refuse i_iret))))))))))) (i_aload 0 (i_const (.int 1) (i_callV 64 1 1 M_X12_refuse i_iret))))))))))
noncomputable def T_X12_out : Nat → pb_C := pb_tt [(0, B_X12_out_0)]
noncomputable def M_X12_out : pb_F := pb_M T_X12_out 4
set_option maxRecDepth 100000 in
set_option maxHeartbeats 4000000 in
theorem S_X12_out (l : Launch) : pb_Sound l yX12_out cX12_out 4 (some .int) 7 M_X12_out := by
  refine pb_sound_of (by decide) m_9_9 ?_
  intro Γ hl0 hRm0 hm X E hr J
  have hnL : ∀ j, j < 4 → j < Γ.2.2.2.2.2.2.2.2.2.2.2.1 := fun j h => by rw [hm]; exact h
  have hR : ∀ (d' mL : Nat), d' + 1 ≤ 7 ∧ 8 + (mL + 11) + d' * 64 ≤ 7 * 64 → (pb_rm d').frames + 1 ≤ Γ.2.2.2.1.frames ∧ 8 + (mL + 11) + (pb_rm d').locals ≤ Γ.2.2.2.1.locals := by rw [hRm0]; exact fun _ _ h => h
  have hRm : 1 ≤ 7 ∧ 64 ≤ 7 * 64 → 1 ≤ Γ.2.2.2.1.frames ∧ 64 ≤ Γ.2.2.2.1.locals := by rw [hRm0]; exact fun h => h
  exact pb_tt_snd _ (List.forall_mem_cons.mpr ⟨(s_aload_n (pc := 0) X dX12_out_0 rfl (s_iload_n (pc := 1) X dX12_out_1 rfl (s_callV (pc := 2) X dX12_out_2 (S_X12_isFamily _) q_X12_284 h_64 rfl (hR _ _ (by decide)) (s_if_eq (pc := 5) X dX12_out_5 (by decide) (s_aload_n (pc := 15) X dX12_out_15 rfl (s_iconst (pc := 16) X dX12_out_16 rfl (s_callV (pc := 17) X dX12_out_17 (S_X12_refuse _) q_X12_267 h_64 rfl (hR _ _ (by decide)) (s_iret (pc := 20) X E hr dX12_out_20)))) (s_iload_n (pc := 8) X dX12_out_8 rfl (s_callS (pc := 9) X dX12_out_9 (S_X12_isWeek _) q_X12_287 (hR _ _ (by decide)) (s_if_ne (pc := 12) X dX12_out_12 (by decide) (s_aload_n (pc := 21) X dX12_out_21 rfl (s_iload_n (pc := 22) X dX12_out_22 rfl (s_iload_n (pc := 23) X dX12_out_23 rfl (s_callV (pc := 24) X dX12_out_24 (S_X12_toldOf _) q_X12_470 h_64 rfl (hR _ _ (by decide)) (s_istore_n (pc := 27) X dX12_out_27 rfl (hnL _ (by decide)) (s_iload_n (pc := 28) X dX12_out_28 rfl (s_iconst (pc := 29) X dX12_out_29 rfl (s_ic_ne (pc := 30) X dX12_out_30 (by decide) (s_aload_n (pc := 42) X dX12_out_42 rfl (s_aload_n (pc := 43) X dX12_out_43 rfl (s_getR (pc := 44) X dX12_out_44 g_X12_153 (s_iload_n (pc := 47) X dX12_out_47 rfl (s_iald (pc := 48) X dX12_out_48 h_106 (s_aload_n (pc := 49) X dX12_out_49 rfl (s_iload_n (pc := 50) X dX12_out_50 rfl (s_iload_n (pc := 51) X dX12_out_51 rfl (s_iconst (pc := 52) X dX12_out_52 rfl (s_iconst (pc := 53) X dX12_out_53 rfl (s_callV (pc := 54) X dX12_out_54 (S_X12_spentOf _) q_X12_463 h_64 rfl (hR _ _ (by decide)) (s_isub (pc := 57) X dX12_out_57 (s_callV (pc := 58) X dX12_out_58 (S_X12_gives _) q_X12_237 h_64 rfl (hR _ _ (by decide)) (s_iret (pc := 61) X E hr dX12_out_61)))))))))))))) (s_aload_n (pc := 33) X dX12_out_33 rfl (s_bipush (pc := 34) X dX12_out_34 rfl (s_callV (pc := 36) X dX12_out_36 (S_X12_refuse _) q_X12_267 h_64 rfl (hR _ _ (by decide)) (s_goto (pc := 39) X dX12_out_39 (by decide) (s_iret (pc := 61) X E hr dX12_out_61))))))))))))) (s_aload_n (pc := 15) X dX12_out_15 rfl (s_iconst (pc := 16) X dX12_out_16 rfl (s_callV (pc := 17) X dX12_out_17 (S_X12_refuse _) q_X12_267 h_64 rfl (hR _ _ (by decide)) (s_iret (pc := 20) X E hr dX12_out_20))))))))))), fun _ h => absurd h List.not_mem_nil⟩)
theorem dX12_isEarlier_0 : decode cX12_isEarlier 0 = .ok (.iconst 0, 1) := by decide +kernel
theorem dX12_isEarlier_1 : decode cX12_isEarlier 1 = .ok (.istore_n 2, 1) := by decide +kernel
theorem dX12_isEarlier_2 : decode cX12_isEarlier 2 = .ok (.iload_n 2, 1) := by decide +kernel
theorem dX12_isEarlier_3 : decode cX12_isEarlier 3 = .ok (.aload_n 0, 1) := by decide +kernel
theorem dX12_isEarlier_4 : decode cX12_isEarlier 4 = .ok (.getfield 491, 3) := by decide +kernel
theorem dX12_isEarlier_7 : decode cX12_isEarlier 7 = .ok (.if_icmp .ge 45, 3) := by decide +kernel
theorem dX12_isEarlier_10 : decode cX12_isEarlier 10 = .ok (.aload_n 0, 1) := by decide +kernel
theorem dX12_isEarlier_11 : decode cX12_isEarlier 11 = .ok (.getfield 159, 3) := by decide +kernel
theorem dX12_isEarlier_14 : decode cX12_isEarlier 14 = .ok (.iload_n 2, 1) := by decide +kernel
theorem dX12_isEarlier_15 : decode cX12_isEarlier 15 = .ok (.iaload, 1) := by decide +kernel
theorem dX12_isEarlier_16 : decode cX12_isEarlier 16 = .ok (.aload_n 0, 1) := by decide +kernel
theorem dX12_isEarlier_17 : decode cX12_isEarlier 17 = .ok (.getfield 162, 3) := by decide +kernel
theorem dX12_isEarlier_20 : decode cX12_isEarlier 20 = .ok (.iload_n 2, 1) := by decide +kernel
theorem dX12_isEarlier_21 : decode cX12_isEarlier 21 = .ok (.iaload, 1) := by decide +kernel
theorem dX12_isEarlier_22 : decode cX12_isEarlier 22 = .ok (.if_icmp .eq 24, 3) := by decide +kernel
theorem dX12_isEarlier_25 : decode cX12_isEarlier 25 = .ok (.aload_n 0, 1) := by decide +kernel
theorem dX12_isEarlier_26 : decode cX12_isEarlier 26 = .ok (.getfield 159, 3) := by decide +kernel
theorem dX12_isEarlier_29 : decode cX12_isEarlier 29 = .ok (.iload_n 2, 1) := by decide +kernel
theorem dX12_isEarlier_30 : decode cX12_isEarlier 30 = .ok (.iaload, 1) := by decide +kernel
theorem dX12_isEarlier_31 : decode cX12_isEarlier 31 = .ok (.aload_n 0, 1) := by decide +kernel
theorem dX12_isEarlier_32 : decode cX12_isEarlier 32 = .ok (.getfield 162, 3) := by decide +kernel
theorem dX12_isEarlier_35 : decode cX12_isEarlier 35 = .ok (.iload_n 2, 1) := by decide +kernel
theorem dX12_isEarlier_36 : decode cX12_isEarlier 36 = .ok (.iaload, 1) := by decide +kernel
theorem dX12_isEarlier_37 : decode cX12_isEarlier 37 = .ok (.if_icmp .ge 7, 3) := by decide +kernel
theorem dX12_isEarlier_40 : decode cX12_isEarlier 40 = .ok (.iconst 1, 1) := by decide +kernel
theorem dX12_isEarlier_41 : decode cX12_isEarlier 41 = .ok (.goto 4, 3) := by decide +kernel
theorem dX12_isEarlier_44 : decode cX12_isEarlier 44 = .ok (.iconst 0, 1) := by decide +kernel
theorem dX12_isEarlier_45 : decode cX12_isEarlier 45 = .ok (.ireturn, 1) := by decide +kernel
theorem dX12_isEarlier_46 : decode cX12_isEarlier 46 = .ok (.iinc 2 1, 3) := by decide +kernel
theorem dX12_isEarlier_49 : decode cX12_isEarlier 49 = .ok (.goto (-47), 3) := by decide +kernel
theorem dX12_isEarlier_52 : decode cX12_isEarlier 52 = .ok (.iload_n 1, 1) := by decide +kernel
theorem dX12_isEarlier_53 : decode cX12_isEarlier 53 = .ok (.aload_n 0, 1) := by decide +kernel
theorem dX12_isEarlier_54 : decode cX12_isEarlier 54 = .ok (.getfield 485, 3) := by decide +kernel
theorem dX12_isEarlier_57 : decode cX12_isEarlier 57 = .ok (.if_icmp .ge 7, 3) := by decide +kernel
theorem dX12_isEarlier_60 : decode cX12_isEarlier 60 = .ok (.iconst 1, 1) := by decide +kernel
theorem dX12_isEarlier_61 : decode cX12_isEarlier 61 = .ok (.goto 4, 3) := by decide +kernel
theorem dX12_isEarlier_64 : decode cX12_isEarlier 64 = .ok (.iconst 0, 1) := by decide +kernel
theorem dX12_isEarlier_65 : decode cX12_isEarlier 65 = .ok (.ireturn, 1) := by decide +kernel
noncomputable def B_X12_isEarlier_0 : pb_C := (i_const (.int 0) (i_istore 2 (i_jmp 2 [true, true, true])))
noncomputable def B_X12_isEarlier_2 : pb_C := (i_iload 2 (i_aload 0 (i_getI 64 71 (i_ic_ge (i_iload 1 (i_aload 0 (i_getI 64 75 (i_ic_ge (i_const (.int 0) i_zret) (i_const (.int 1) i_zret))))) (i_aload 0 (i_getR 64 108 (i_iload 2 (i_ald 108 9 (i_aload 0 (i_getR 64 109 (i_iload 2 (i_ald 109 9 (i_ic_eq (i_iinc 2 1 (i_jmp 2 [true, true, true])) (i_aload 0 (i_getR 64 108 (i_iload 2 (i_ald 108 9 (i_aload 0 (i_getR 64 109 (i_iload 2 (i_ald 109 9 (i_ic_ge (i_const (.int 0) i_zret) (i_const (.int 1) i_zret)))))))))))))))))))))))
noncomputable def T_X12_isEarlier : Nat → pb_C := pb_tt [(0, B_X12_isEarlier_0), (2, B_X12_isEarlier_2)]
noncomputable def M_X12_isEarlier : pb_F := pb_M T_X12_isEarlier 3
set_option maxRecDepth 100000 in
set_option maxHeartbeats 4000000 in
theorem S_X12_isEarlier (l : Launch) : pb_Sound l yX12_isEarlier cX12_isEarlier 3 (some .boolean) 1 M_X12_isEarlier := by
  refine pb_sound_of (by decide) m_9_30 ?_
  intro Γ hl0 hRm0 hm X E hr J
  have hnL : ∀ j, j < 3 → j < Γ.2.2.2.2.2.2.2.2.2.2.2.1 := fun j h => by rw [hm]; exact h
  have hR : ∀ (d' mL : Nat), d' + 1 ≤ 1 ∧ 8 + (mL + 11) + d' * 64 ≤ 1 * 64 → (pb_rm d').frames + 1 ≤ Γ.2.2.2.1.frames ∧ 8 + (mL + 11) + (pb_rm d').locals ≤ Γ.2.2.2.1.locals := by rw [hRm0]; exact fun _ _ h => h
  have hRm : 1 ≤ 1 ∧ 64 ≤ 1 * 64 → 1 ≤ Γ.2.2.2.1.frames ∧ 64 ≤ Γ.2.2.2.1.locals := by rw [hRm0]; exact fun h => h
  exact pb_tt_snd _ (List.forall_mem_cons.mpr ⟨(s_iconst (pc := 0) X dX12_isEarlier_0 rfl (s_istore_n (pc := 1) X dX12_isEarlier_1 rfl (hnL _ (by decide)) (s_jmp (pc := 2) J [true, true, true]))), List.forall_mem_cons.mpr ⟨(s_iload_n (pc := 2) X dX12_isEarlier_2 rfl (s_aload_n (pc := 3) X dX12_isEarlier_3 rfl (s_getI (pc := 4) X dX12_isEarlier_4 g_X12_491 (s_ic_ge (pc := 7) X dX12_isEarlier_7 (by decide) (s_iload_n (pc := 52) X dX12_isEarlier_52 rfl (s_aload_n (pc := 53) X dX12_isEarlier_53 rfl (s_getI (pc := 54) X dX12_isEarlier_54 g_X12_485 (s_ic_ge (pc := 57) X dX12_isEarlier_57 (by decide) (s_iconst (pc := 64) X dX12_isEarlier_64 rfl (s_zret (pc := 65) X E hr dX12_isEarlier_65)) (s_iconst (pc := 60) X dX12_isEarlier_60 rfl (s_goto (pc := 61) X dX12_isEarlier_61 (by decide) (s_zret (pc := 65) X E hr dX12_isEarlier_65))))))) (s_aload_n (pc := 10) X dX12_isEarlier_10 rfl (s_getR (pc := 11) X dX12_isEarlier_11 g_X12_159 (s_iload_n (pc := 14) X dX12_isEarlier_14 rfl (s_iald (pc := 15) X dX12_isEarlier_15 h_108 (s_aload_n (pc := 16) X dX12_isEarlier_16 rfl (s_getR (pc := 17) X dX12_isEarlier_17 g_X12_162 (s_iload_n (pc := 20) X dX12_isEarlier_20 rfl (s_iald (pc := 21) X dX12_isEarlier_21 h_109 (s_ic_eq (pc := 22) X dX12_isEarlier_22 (by decide) (s_iinc (pc := 46) X dX12_isEarlier_46 rfl (s_goto (pc := 49) X dX12_isEarlier_49 (by decide) (s_jmp (pc := 2) J [true, true, true]))) (s_aload_n (pc := 25) X dX12_isEarlier_25 rfl (s_getR (pc := 26) X dX12_isEarlier_26 g_X12_159 (s_iload_n (pc := 29) X dX12_isEarlier_29 rfl (s_iald (pc := 30) X dX12_isEarlier_30 h_108 (s_aload_n (pc := 31) X dX12_isEarlier_31 rfl (s_getR (pc := 32) X dX12_isEarlier_32 g_X12_162 (s_iload_n (pc := 35) X dX12_isEarlier_35 rfl (s_iald (pc := 36) X dX12_isEarlier_36 h_109 (s_ic_ge (pc := 37) X dX12_isEarlier_37 (by decide) (s_iconst (pc := 44) X dX12_isEarlier_44 rfl (s_zret (pc := 45) X E hr dX12_isEarlier_45)) (s_iconst (pc := 40) X dX12_isEarlier_40 rfl (s_goto (pc := 41) X dX12_isEarlier_41 (by decide) (s_zret (pc := 45) X E hr dX12_isEarlier_45))))))))))))))))))))))))), fun _ h => absurd h List.not_mem_nil⟩⟩)
theorem dX12_look_0 : decode cX12_look 0 = .ok (.aload_n 0, 1) := by decide +kernel
theorem dX12_look_1 : decode cX12_look 1 = .ok (.getfield 473, 3) := by decide +kernel
theorem dX12_look_4 : decode cX12_look 4 = .ok (.iload_n 1, 1) := by decide +kernel
theorem dX12_look_5 : decode cX12_look 5 = .ok (.isub, 1) := by decide +kernel
theorem dX12_look_6 : decode cX12_look 6 = .ok (.istore_n 3, 1) := by decide +kernel
theorem dX12_look_7 : decode cX12_look 7 = .ok (.iload_n 3, 1) := by decide +kernel
theorem dX12_look_8 : decode cX12_look 8 = .ok (.bipush 12, 2) := by decide +kernel
theorem dX12_look_10 : decode cX12_look 10 = .ok (.irem, 1) := by decide +kernel
theorem dX12_look_11 : decode cX12_look 11 = .ok (.ifCond .ne 15, 3) := by decide +kernel
theorem dX12_look_14 : decode cX12_look 14 = .ok (.iload_n 3, 1) := by decide +kernel
theorem dX12_look_15 : decode cX12_look 15 = .ok (.bipush (-36), 2) := by decide +kernel
theorem dX12_look_17 : decode cX12_look 17 = .ok (.if_icmp .lt 9, 3) := by decide +kernel
theorem dX12_look_20 : decode cX12_look 20 = .ok (.iload_n 3, 1) := by decide +kernel
theorem dX12_look_21 : decode cX12_look 21 = .ok (.bipush 36, 2) := by decide +kernel
theorem dX12_look_23 : decode cX12_look 23 = .ok (.if_icmp .le 4, 3) := by decide +kernel
theorem dX12_look_26 : decode cX12_look 26 = .ok (.return_, 1) := by decide +kernel
theorem dX12_look_27 : decode cX12_look 27 = .ok (.iload_n 3, 1) := by decide +kernel
theorem dX12_look_28 : decode cX12_look 28 = .ok (.bipush 12, 2) := by decide +kernel
theorem dX12_look_30 : decode cX12_look 30 = .ok (.idiv, 1) := by decide +kernel
theorem dX12_look_31 : decode cX12_look 31 = .ok (.istore 4, 2) := by decide +kernel
theorem dX12_look_33 : decode cX12_look 33 = .ok (.iload_n 2, 1) := by decide +kernel
theorem dX12_look_34 : decode cX12_look 34 = .ok (.iload 4, 2) := by decide +kernel
theorem dX12_look_36 : decode cX12_look 36 = .ok (.invokestatic 476, 3) := by decide +kernel
theorem dX12_look_39 : decode cX12_look 39 = .ok (.iadd, 1) := by decide +kernel
theorem dX12_look_40 : decode cX12_look 40 = .ok (.istore 5, 2) := by decide +kernel
theorem dX12_look_42 : decode cX12_look 42 = .ok (.iload 5, 2) := by decide +kernel
theorem dX12_look_44 : decode cX12_look 44 = .ok (.iconst 3, 1) := by decide +kernel
theorem dX12_look_45 : decode cX12_look 45 = .ok (.if_icmp .gt 12, 3) := by decide +kernel
theorem dX12_look_48 : decode cX12_look 48 = .ok (.iload 5, 2) := by decide +kernel
theorem dX12_look_50 : decode cX12_look 50 = .ok (.aload_n 0, 1) := by decide +kernel
theorem dX12_look_51 : decode cX12_look 51 = .ok (.getfield 479, 3) := by decide +kernel
theorem dX12_look_54 : decode cX12_look 54 = .ok (.if_icmp .le 4, 3) := by decide +kernel
theorem dX12_look_57 : decode cX12_look 57 = .ok (.return_, 1) := by decide +kernel
theorem dX12_look_58 : decode cX12_look 58 = .ok (.iload 5, 2) := by decide +kernel
theorem dX12_look_60 : decode cX12_look 60 = .ok (.aload_n 0, 1) := by decide +kernel
theorem dX12_look_61 : decode cX12_look 61 = .ok (.getfield 479, 3) := by decide +kernel
theorem dX12_look_64 : decode cX12_look 64 = .ok (.if_icmp .lt 12, 3) := by decide +kernel
theorem dX12_look_67 : decode cX12_look 67 = .ok (.aload_n 0, 1) := by decide +kernel
theorem dX12_look_68 : decode cX12_look 68 = .ok (.iload 4, 2) := by decide +kernel
theorem dX12_look_70 : decode cX12_look 70 = .ok (.invokevirtual 482, 3) := by decide +kernel
theorem dX12_look_73 : decode cX12_look 73 = .ok (.ifCond .eq 39, 3) := by decide +kernel
theorem dX12_look_76 : decode cX12_look 76 = .ok (.iconst 0, 1) := by decide +kernel
theorem dX12_look_77 : decode cX12_look 77 = .ok (.istore 6, 2) := by decide +kernel
theorem dX12_look_79 : decode cX12_look 79 = .ok (.iload 6, 2) := by decide +kernel
theorem dX12_look_81 : decode cX12_look 81 = .ok (.bipush 9, 2) := by decide +kernel
theorem dX12_look_83 : decode cX12_look 83 = .ok (.if_icmp .ge 23, 3) := by decide +kernel
theorem dX12_look_86 : decode cX12_look 86 = .ok (.aload_n 0, 1) := by decide +kernel
theorem dX12_look_87 : decode cX12_look 87 = .ok (.getfield 162, 3) := by decide +kernel
theorem dX12_look_90 : decode cX12_look 90 = .ok (.iload 6, 2) := by decide +kernel
theorem dX12_look_92 : decode cX12_look 92 = .ok (.aload_n 0, 1) := by decide +kernel
theorem dX12_look_93 : decode cX12_look 93 = .ok (.getfield 159, 3) := by decide +kernel
theorem dX12_look_96 : decode cX12_look 96 = .ok (.iload 6, 2) := by decide +kernel
theorem dX12_look_98 : decode cX12_look 98 = .ok (.iaload, 1) := by decide +kernel
theorem dX12_look_99 : decode cX12_look 99 = .ok (.iastore, 1) := by decide +kernel
theorem dX12_look_100 : decode cX12_look 100 = .ok (.iinc 6 1, 3) := by decide +kernel
theorem dX12_look_103 : decode cX12_look 103 = .ok (.goto (-24), 3) := by decide +kernel
theorem dX12_look_106 : decode cX12_look 106 = .ok (.aload_n 0, 1) := by decide +kernel
theorem dX12_look_107 : decode cX12_look 107 = .ok (.iload 4, 2) := by decide +kernel
theorem dX12_look_109 : decode cX12_look 109 = .ok (.putfield 485, 3) := by decide +kernel
theorem dX12_look_112 : decode cX12_look 112 = .ok (.aload_n 0, 1) := by decide +kernel
theorem dX12_look_113 : decode cX12_look 113 = .ok (.iload 5, 2) := by decide +kernel
theorem dX12_look_115 : decode cX12_look 115 = .ok (.aload_n 0, 1) := by decide +kernel
theorem dX12_look_116 : decode cX12_look 116 = .ok (.getfield 479, 3) := by decide +kernel
theorem dX12_look_119 : decode cX12_look 119 = .ok (.if_icmp .ge 7, 3) := by decide +kernel
theorem dX12_look_122 : decode cX12_look 122 = .ok (.iconst 1, 1) := by decide +kernel
theorem dX12_look_123 : decode cX12_look 123 = .ok (.goto 9, 3) := by decide +kernel
theorem dX12_look_126 : decode cX12_look 126 = .ok (.aload_n 0, 1) := by decide +kernel
theorem dX12_look_127 : decode cX12_look 127 = .ok (.getfield 488, 3) := by decide +kernel
theorem dX12_look_130 : decode cX12_look 130 = .ok (.iconst 1, 1) := by decide +kernel
theorem dX12_look_131 : decode cX12_look 131 = .ok (.iadd, 1) := by decide +kernel
theorem dX12_look_132 : decode cX12_look 132 = .ok (.putfield 488, 3) := by decide +kernel
theorem dX12_look_135 : decode cX12_look 135 = .ok (.aload_n 0, 1) := by decide +kernel
theorem dX12_look_136 : decode cX12_look 136 = .ok (.iload 5, 2) := by decide +kernel
theorem dX12_look_138 : decode cX12_look 138 = .ok (.putfield 479, 3) := by decide +kernel
theorem dX12_look_141 : decode cX12_look 141 = .ok (.return_, 1) := by decide +kernel
noncomputable def B_X12_look_0 : pb_C := (i_aload 0 (i_getI 64 72 (i_iload 1 (i_ibin (· - ·) (i_istore 3 (i_iload 3 (i_const (.int 12) (i_idivr (fun x y => x - x / y * y) (i_if_ne i_vret (i_iload 3 (i_const (.int (-36)) (i_ic_lt i_vret (i_iload 3 (i_const (.int 36) (i_ic_le (i_iload 3 (i_const (.int 12) (i_idivr (· / ·) (i_istore 4 (i_iload 2 (i_iload 4 (i_mI1 pb_abs (i_ibin (· + ·) (i_istore 5 (i_iload 5 (i_const (.int 3) (i_ic_gt i_vret (i_iload 5 (i_aload 0 (i_getI 64 73 (i_ic_le (i_iload 5 (i_aload 0 (i_getI 64 73 (i_ic_lt (i_const (.int 0) (i_istore 6 (i_jmp 79 [true, false, false, false, true, true, true]))) (i_aload 0 (i_iload 4 (i_callV 64 1 1 M_X12_isEarlier (i_if_eq (i_jmp 112 [true, false, false, false, false, true, false]) (i_const (.int 0) (i_istore 6 (i_jmp 79 [true, false, false, false, true, true, true]))))))))))) i_vret)))))))))))))))) i_vret)))))))))))))))
noncomputable def B_X12_look_79 : pb_C := (i_iload 6 (i_const (.int 9) (i_ic_ge (i_aload 0 (i_iload 4 (i_putI 64 75 (i_jmp 112 [true, false, false, false, false, true, false])))) (i_aload 0 (i_getR 64 109 (i_iload 6 (i_aload 0 (i_getR 64 108 (i_iload 6 (i_ald 108 9 (i_ast 109 9 (fun x => x) (i_iinc 6 1 (i_jmp 79 [true, false, false, false, true, true, true])))))))))))))
noncomputable def B_X12_look_112 : pb_C := (i_aload 0 (i_iload 5 (i_aload 0 (i_getI 64 73 (i_ic_ge (i_aload 0 (i_getI 64 74 (i_const (.int 1) (i_ibin (· + ·) (i_putI 64 74 (i_aload 0 (i_iload 5 (i_putI 64 73 i_vret)))))))) (i_const (.int 1) (i_putI 64 74 (i_aload 0 (i_iload 5 (i_putI 64 73 i_vret))))))))))
noncomputable def T_X12_look : Nat → pb_C := pb_tt [(0, B_X12_look_0), (79, B_X12_look_79), (112, B_X12_look_112)]
noncomputable def M_X12_look : pb_F := pb_M T_X12_look 7
set_option maxRecDepth 100000 in
set_option maxHeartbeats 4000000 in
theorem S_X12_look (l : Launch) : pb_Sound l yX12_look cX12_look 7 none 2 M_X12_look := by
  refine pb_sound_of (by decide) m_9_25 ?_
  intro Γ hl0 hRm0 hm X E hr J
  have hnL : ∀ j, j < 7 → j < Γ.2.2.2.2.2.2.2.2.2.2.2.1 := fun j h => by rw [hm]; exact h
  have hR : ∀ (d' mL : Nat), d' + 1 ≤ 2 ∧ 8 + (mL + 11) + d' * 64 ≤ 2 * 64 → (pb_rm d').frames + 1 ≤ Γ.2.2.2.1.frames ∧ 8 + (mL + 11) + (pb_rm d').locals ≤ Γ.2.2.2.1.locals := by rw [hRm0]; exact fun _ _ h => h
  have hRm : 1 ≤ 2 ∧ 64 ≤ 2 * 64 → 1 ≤ Γ.2.2.2.1.frames ∧ 64 ≤ Γ.2.2.2.1.locals := by rw [hRm0]; exact fun h => h
  exact pb_tt_snd _ (List.forall_mem_cons.mpr ⟨(s_aload_n (pc := 0) X dX12_look_0 rfl (s_getI (pc := 1) X dX12_look_1 g_X12_473 (s_iload_n (pc := 4) X dX12_look_4 rfl (s_isub (pc := 5) X dX12_look_5 (s_istore_n (pc := 6) X dX12_look_6 rfl (hnL _ (by decide)) (s_iload_n (pc := 7) X dX12_look_7 rfl (s_bipush (pc := 8) X dX12_look_8 rfl (s_irem (pc := 10) X dX12_look_10 (s_if_ne (pc := 11) X dX12_look_11 (by decide) (s_vret (pc := 26) X E hr dX12_look_26) (s_iload_n (pc := 14) X dX12_look_14 rfl (s_bipush (pc := 15) X dX12_look_15 rfl (s_ic_lt (pc := 17) X dX12_look_17 (by decide) (s_vret (pc := 26) X E hr dX12_look_26) (s_iload_n (pc := 20) X dX12_look_20 rfl (s_bipush (pc := 21) X dX12_look_21 rfl (s_ic_le (pc := 23) X dX12_look_23 (by decide) (s_iload_n (pc := 27) X dX12_look_27 rfl (s_bipush (pc := 28) X dX12_look_28 rfl (s_idiv (pc := 30) X dX12_look_30 (s_istore (pc := 31) X dX12_look_31 (hnL _ (by decide)) (s_iload_n (pc := 33) X dX12_look_33 rfl (s_iload (pc := 34) X dX12_look_34 (s_mabs (pc := 36) X dX12_look_36 m_9_26 mm_mabs (hRm (by decide)) (s_iadd (pc := 39) X dX12_look_39 (s_istore (pc := 40) X dX12_look_40 (hnL _ (by decide)) (s_iload (pc := 42) X dX12_look_42 (s_iconst (pc := 44) X dX12_look_44 rfl (s_ic_gt (pc := 45) X dX12_look_45 (by decide) (s_vret (pc := 57) X E hr dX12_look_57) (s_iload (pc := 48) X dX12_look_48 (s_aload_n (pc := 50) X dX12_look_50 rfl (s_getI (pc := 51) X dX12_look_51 g_X12_479 (s_ic_le (pc := 54) X dX12_look_54 (by decide) (s_iload (pc := 58) X dX12_look_58 (s_aload_n (pc := 60) X dX12_look_60 rfl (s_getI (pc := 61) X dX12_look_61 g_X12_479 (s_ic_lt (pc := 64) X dX12_look_64 (by decide) (s_iconst (pc := 76) X dX12_look_76 rfl (s_istore (pc := 77) X dX12_look_77 (hnL _ (by decide)) (s_jmp (pc := 79) J [true, false, false, false, true, true, true]))) (s_aload_n (pc := 67) X dX12_look_67 rfl (s_iload (pc := 68) X dX12_look_68 (s_callV (pc := 70) X dX12_look_70 (S_X12_isEarlier _) q_X12_482 h_64 rfl (hR _ _ (by decide)) (s_if_eq (pc := 73) X dX12_look_73 (by decide) (s_jmp (pc := 112) J [true, false, false, false, false, true, false]) (s_iconst (pc := 76) X dX12_look_76 rfl (s_istore (pc := 77) X dX12_look_77 (hnL _ (by decide)) (s_jmp (pc := 79) J [true, false, false, false, true, true, true]))))))))))) (s_vret (pc := 57) X E hr dX12_look_57))))))))))))))))) (s_vret (pc := 26) X E hr dX12_look_26)))))))))))))))), List.forall_mem_cons.mpr ⟨(s_iload (pc := 79) X dX12_look_79 (s_bipush (pc := 81) X dX12_look_81 rfl (s_ic_ge (pc := 83) X dX12_look_83 (by decide) (s_aload_n (pc := 106) X dX12_look_106 rfl (s_iload (pc := 107) X dX12_look_107 (s_putI (pc := 109) X dX12_look_109 p_X12_485 (s_jmp (pc := 112) J [true, false, false, false, false, true, false])))) (s_aload_n (pc := 86) X dX12_look_86 rfl (s_getR (pc := 87) X dX12_look_87 g_X12_162 (s_iload (pc := 90) X dX12_look_90 (s_aload_n (pc := 92) X dX12_look_92 rfl (s_getR (pc := 93) X dX12_look_93 g_X12_159 (s_iload (pc := 96) X dX12_look_96 (s_iald (pc := 98) X dX12_look_98 h_108 (s_iast (pc := 99) X dX12_look_99 h_109 (s_iinc (pc := 100) X dX12_look_100 rfl (s_goto (pc := 103) X dX12_look_103 (by decide) (s_jmp (pc := 79) J [true, false, false, false, true, true, true])))))))))))))), List.forall_mem_cons.mpr ⟨(s_aload_n (pc := 112) X dX12_look_112 rfl (s_iload (pc := 113) X dX12_look_113 (s_aload_n (pc := 115) X dX12_look_115 rfl (s_getI (pc := 116) X dX12_look_116 g_X12_479 (s_ic_ge (pc := 119) X dX12_look_119 (by decide) (s_aload_n (pc := 126) X dX12_look_126 rfl (s_getI (pc := 127) X dX12_look_127 g_X12_488 (s_iconst (pc := 130) X dX12_look_130 rfl (s_iadd (pc := 131) X dX12_look_131 (s_putI (pc := 132) X dX12_look_132 p_X12_488 (s_aload_n (pc := 135) X dX12_look_135 rfl (s_iload (pc := 136) X dX12_look_136 (s_putI (pc := 138) X dX12_look_138 p_X12_479 (s_vret (pc := 141) X E hr dX12_look_141))))))))) (s_iconst (pc := 122) X dX12_look_122 rfl (s_goto (pc := 123) X dX12_look_123 (by decide) (s_putI (pc := 132) X dX12_look_132 p_X12_488 (s_aload_n (pc := 135) X dX12_look_135 rfl (s_iload (pc := 136) X dX12_look_136 (s_putI (pc := 138) X dX12_look_138 p_X12_479 (s_vret (pc := 141) X E hr dX12_look_141)))))))))))), fun _ h => absurd h List.not_mem_nil⟩⟩⟩)
theorem dX12_brings_0 : decode cX12_brings 0 = .ok (.aload_n 0, 1) := by decide +kernel
theorem dX12_brings_1 : decode cX12_brings 1 = .ok (.aload_n 0, 1) := by decide +kernel
theorem dX12_brings_2 : decode cX12_brings 2 = .ok (.getfield 156, 3) := by decide +kernel
theorem dX12_brings_5 : decode cX12_brings 5 = .ok (.iload_n 1, 1) := by decide +kernel
theorem dX12_brings_6 : decode cX12_brings 6 = .ok (.iaload, 1) := by decide +kernel
theorem dX12_brings_7 : decode cX12_brings 7 = .ok (.invokevirtual 308, 3) := by decide +kernel
theorem dX12_brings_10 : decode cX12_brings 10 = .ok (.istore_n 3, 1) := by decide +kernel
theorem dX12_brings_11 : decode cX12_brings 11 = .ok (.iload_n 2, 1) := by decide +kernel
theorem dX12_brings_12 : decode cX12_brings 12 = .ok (.iconst 1, 1) := by decide +kernel
theorem dX12_brings_13 : decode cX12_brings 13 = .ok (.if_icmp .ne 6, 3) := by decide +kernel
theorem dX12_brings_16 : decode cX12_brings 16 = .ok (.iload_n 3, 1) := by decide +kernel
theorem dX12_brings_17 : decode cX12_brings 17 = .ok (.ineg, 1) := by decide +kernel
theorem dX12_brings_18 : decode cX12_brings 18 = .ok (.ireturn, 1) := by decide +kernel
theorem dX12_brings_19 : decode cX12_brings 19 = .ok (.iload_n 2, 1) := by decide +kernel
theorem dX12_brings_20 : decode cX12_brings 20 = .ok (.iconst 2, 1) := by decide +kernel
theorem dX12_brings_21 : decode cX12_brings 21 = .ok (.if_icmp .ne 5, 3) := by decide +kernel
theorem dX12_brings_24 : decode cX12_brings 24 = .ok (.iload_n 3, 1) := by decide +kernel
theorem dX12_brings_25 : decode cX12_brings 25 = .ok (.ireturn, 1) := by decide +kernel
theorem dX12_brings_26 : decode cX12_brings 26 = .ok (.iconst 1, 1) := by decide +kernel
theorem dX12_brings_27 : decode cX12_brings 27 = .ok (.istore 4, 2) := by decide +kernel
theorem dX12_brings_29 : decode cX12_brings 29 = .ok (.iconst 3, 1) := by decide +kernel
theorem dX12_brings_30 : decode cX12_brings 30 = .ok (.istore 5, 2) := by decide +kernel
theorem dX12_brings_32 : decode cX12_brings 32 = .ok (.iload 5, 2) := by decide +kernel
theorem dX12_brings_34 : decode cX12_brings 34 = .ok (.iload_n 2, 1) := by decide +kernel
theorem dX12_brings_35 : decode cX12_brings 35 = .ok (.if_icmp .ge 16, 3) := by decide +kernel
theorem dX12_brings_38 : decode cX12_brings 38 = .ok (.iload 4, 2) := by decide +kernel
theorem dX12_brings_40 : decode cX12_brings 40 = .ok (.bipush 10, 2) := by decide +kernel
theorem dX12_brings_42 : decode cX12_brings 42 = .ok (.imul, 1) := by decide +kernel
theorem dX12_brings_43 : decode cX12_brings 43 = .ok (.istore 4, 2) := by decide +kernel
theorem dX12_brings_45 : decode cX12_brings 45 = .ok (.iinc 5 1, 3) := by decide +kernel
theorem dX12_brings_48 : decode cX12_brings 48 = .ok (.goto (-16), 3) := by decide +kernel
theorem dX12_brings_51 : decode cX12_brings 51 = .ok (.iload_n 3, 1) := by decide +kernel
theorem dX12_brings_52 : decode cX12_brings 52 = .ok (.iload 4, 2) := by decide +kernel
theorem dX12_brings_54 : decode cX12_brings 54 = .ok (.idiv, 1) := by decide +kernel
theorem dX12_brings_55 : decode cX12_brings 55 = .ok (.bipush 10, 2) := by decide +kernel
theorem dX12_brings_57 : decode cX12_brings 57 = .ok (.if_icmp .ge 5, 3) := by decide +kernel
theorem dX12_brings_60 : decode cX12_brings 60 = .ok (.iconst 0, 1) := by decide +kernel
theorem dX12_brings_61 : decode cX12_brings 61 = .ok (.ireturn, 1) := by decide +kernel
theorem dX12_brings_62 : decode cX12_brings 62 = .ok (.iload_n 3, 1) := by decide +kernel
theorem dX12_brings_63 : decode cX12_brings 63 = .ok (.iload 4, 2) := by decide +kernel
theorem dX12_brings_65 : decode cX12_brings 65 = .ok (.idiv, 1) := by decide +kernel
theorem dX12_brings_66 : decode cX12_brings 66 = .ok (.bipush 10, 2) := by decide +kernel
theorem dX12_brings_68 : decode cX12_brings 68 = .ok (.irem, 1) := by decide +kernel
theorem dX12_brings_69 : decode cX12_brings 69 = .ok (.istore 5, 2) := by decide +kernel
theorem dX12_brings_71 : decode cX12_brings 71 = .ok (.iload_n 3, 1) := by decide +kernel
theorem dX12_brings_72 : decode cX12_brings 72 = .ok (.iload 4, 2) := by decide +kernel
theorem dX12_brings_74 : decode cX12_brings 74 = .ok (.idiv, 1) := by decide +kernel
theorem dX12_brings_75 : decode cX12_brings 75 = .ok (.bipush 10, 2) := by decide +kernel
theorem dX12_brings_77 : decode cX12_brings 77 = .ok (.idiv, 1) := by decide +kernel
theorem dX12_brings_78 : decode cX12_brings 78 = .ok (.bipush 10, 2) := by decide +kernel
theorem dX12_brings_80 : decode cX12_brings 80 = .ok (.irem, 1) := by decide +kernel
theorem dX12_brings_81 : decode cX12_brings 81 = .ok (.istore 6, 2) := by decide +kernel
theorem dX12_brings_83 : decode cX12_brings 83 = .ok (.iload 5, 2) := by decide +kernel
theorem dX12_brings_85 : decode cX12_brings 85 = .ok (.iload 6, 2) := by decide +kernel
theorem dX12_brings_87 : decode cX12_brings 87 = .ok (.isub, 1) := by decide +kernel
theorem dX12_brings_88 : decode cX12_brings 88 = .ok (.bipush 9, 2) := by decide +kernel
theorem dX12_brings_90 : decode cX12_brings 90 = .ok (.imul, 1) := by decide +kernel
theorem dX12_brings_91 : decode cX12_brings 91 = .ok (.iload 4, 2) := by decide +kernel
theorem dX12_brings_93 : decode cX12_brings 93 = .ok (.imul, 1) := by decide +kernel
theorem dX12_brings_94 : decode cX12_brings 94 = .ok (.ireturn, 1) := by decide +kernel
noncomputable def B_X12_brings_0 : pb_C := (i_aload 0 (i_aload 0 (i_getR 64 107 (i_iload 1 (i_ald 107 200 (i_callV 64 1 1 M_X12_penceOf (i_istore 3 (i_iload 2 (i_const (.int 1) (i_ic_ne (i_iload 2 (i_const (.int 2) (i_ic_ne (i_const (.int 1) (i_istore 4 (i_const (.int 3) (i_istore 5 (i_jmp 32 [false, false, true, true, true, true, false]))))) (i_iload 3 i_iret)))) (i_iload 3 (i_iun (fun x => -x) i_iret))))))))))))
noncomputable def B_X12_brings_32 : pb_C := (i_iload 5 (i_iload 2 (i_ic_ge (i_iload 3 (i_iload 4 (i_idivr (· / ·) (i_const (.int 10) (i_ic_ge (i_iload 3 (i_iload 4 (i_idivr (· / ·) (i_const (.int 10) (i_idivr (fun x y => x - x / y * y) (i_istore 5 (i_iload 3 (i_iload 4 (i_idivr (· / ·) (i_const (.int 10) (i_idivr (· / ·) (i_const (.int 10) (i_idivr (fun x y => x - x / y * y) (i_istore 6 (i_iload 5 (i_iload 6 (i_ibin (· - ·) (i_const (.int 9) (i_ibin (· * ·) (i_iload 4 (i_ibin (· * ·) i_iret))))))))))))))))))))) (i_const (.int 0) i_iret)))))) (i_iload 4 (i_const (.int 10) (i_ibin (· * ·) (i_istore 4 (i_iinc 5 1 (i_jmp 32 [false, false, true, true, true, true, false])))))))))
noncomputable def T_X12_brings : Nat → pb_C := pb_tt [(0, B_X12_brings_0), (32, B_X12_brings_32)]
noncomputable def M_X12_brings : pb_F := pb_M T_X12_brings 7
set_option maxRecDepth 100000 in
set_option maxHeartbeats 4000000 in
theorem S_X12_brings (l : Launch) : pb_Sound l yX12_brings cX12_brings 7 (some .int) 2 M_X12_brings := by
  refine pb_sound_of (by decide) m_9_34 ?_
  intro Γ hl0 hRm0 hm X E hr J
  have hnL : ∀ j, j < 7 → j < Γ.2.2.2.2.2.2.2.2.2.2.2.1 := fun j h => by rw [hm]; exact h
  have hR : ∀ (d' mL : Nat), d' + 1 ≤ 2 ∧ 8 + (mL + 11) + d' * 64 ≤ 2 * 64 → (pb_rm d').frames + 1 ≤ Γ.2.2.2.1.frames ∧ 8 + (mL + 11) + (pb_rm d').locals ≤ Γ.2.2.2.1.locals := by rw [hRm0]; exact fun _ _ h => h
  have hRm : 1 ≤ 2 ∧ 64 ≤ 2 * 64 → 1 ≤ Γ.2.2.2.1.frames ∧ 64 ≤ Γ.2.2.2.1.locals := by rw [hRm0]; exact fun h => h
  exact pb_tt_snd _ (List.forall_mem_cons.mpr ⟨(s_aload_n (pc := 0) X dX12_brings_0 rfl (s_aload_n (pc := 1) X dX12_brings_1 rfl (s_getR (pc := 2) X dX12_brings_2 g_X12_156 (s_iload_n (pc := 5) X dX12_brings_5 rfl (s_iald (pc := 6) X dX12_brings_6 h_107 (s_callV (pc := 7) X dX12_brings_7 (S_X12_penceOf _) q_X12_308 h_64 rfl (hR _ _ (by decide)) (s_istore_n (pc := 10) X dX12_brings_10 rfl (hnL _ (by decide)) (s_iload_n (pc := 11) X dX12_brings_11 rfl (s_iconst (pc := 12) X dX12_brings_12 rfl (s_ic_ne (pc := 13) X dX12_brings_13 (by decide) (s_iload_n (pc := 19) X dX12_brings_19 rfl (s_iconst (pc := 20) X dX12_brings_20 rfl (s_ic_ne (pc := 21) X dX12_brings_21 (by decide) (s_iconst (pc := 26) X dX12_brings_26 rfl (s_istore (pc := 27) X dX12_brings_27 (hnL _ (by decide)) (s_iconst (pc := 29) X dX12_brings_29 rfl (s_istore (pc := 30) X dX12_brings_30 (hnL _ (by decide)) (s_jmp (pc := 32) J [false, false, true, true, true, true, false]))))) (s_iload_n (pc := 24) X dX12_brings_24 rfl (s_iret (pc := 25) X E hr dX12_brings_25))))) (s_iload_n (pc := 16) X dX12_brings_16 rfl (s_ineg (pc := 17) X dX12_brings_17 (s_iret (pc := 18) X E hr dX12_brings_18))))))))))))), List.forall_mem_cons.mpr ⟨(s_iload (pc := 32) X dX12_brings_32 (s_iload_n (pc := 34) X dX12_brings_34 rfl (s_ic_ge (pc := 35) X dX12_brings_35 (by decide) (s_iload_n (pc := 51) X dX12_brings_51 rfl (s_iload (pc := 52) X dX12_brings_52 (s_idiv (pc := 54) X dX12_brings_54 (s_bipush (pc := 55) X dX12_brings_55 rfl (s_ic_ge (pc := 57) X dX12_brings_57 (by decide) (s_iload_n (pc := 62) X dX12_brings_62 rfl (s_iload (pc := 63) X dX12_brings_63 (s_idiv (pc := 65) X dX12_brings_65 (s_bipush (pc := 66) X dX12_brings_66 rfl (s_irem (pc := 68) X dX12_brings_68 (s_istore (pc := 69) X dX12_brings_69 (hnL _ (by decide)) (s_iload_n (pc := 71) X dX12_brings_71 rfl (s_iload (pc := 72) X dX12_brings_72 (s_idiv (pc := 74) X dX12_brings_74 (s_bipush (pc := 75) X dX12_brings_75 rfl (s_idiv (pc := 77) X dX12_brings_77 (s_bipush (pc := 78) X dX12_brings_78 rfl (s_irem (pc := 80) X dX12_brings_80 (s_istore (pc := 81) X dX12_brings_81 (hnL _ (by decide)) (s_iload (pc := 83) X dX12_brings_83 (s_iload (pc := 85) X dX12_brings_85 (s_isub (pc := 87) X dX12_brings_87 (s_bipush (pc := 88) X dX12_brings_88 rfl (s_imul (pc := 90) X dX12_brings_90 (s_iload (pc := 91) X dX12_brings_91 (s_imul (pc := 93) X dX12_brings_93 (s_iret (pc := 94) X E hr dX12_brings_94)))))))))))))))))))))) (s_iconst (pc := 60) X dX12_brings_60 rfl (s_iret (pc := 61) X E hr dX12_brings_61))))))) (s_iload (pc := 38) X dX12_brings_38 (s_bipush (pc := 40) X dX12_brings_40 rfl (s_imul (pc := 42) X dX12_brings_42 (s_istore (pc := 43) X dX12_brings_43 (hnL _ (by decide)) (s_iinc (pc := 45) X dX12_brings_45 rfl (s_goto (pc := 48) X dX12_brings_48 (by decide) (s_jmp (pc := 32) J [false, false, true, true, true, true, false])))))))))), fun _ h => absurd h List.not_mem_nil⟩⟩)
theorem dX12_third_0 : decode cX12_third 0 = .ok (.iload_n 1, 1) := by decide +kernel
theorem dX12_third_1 : decode cX12_third 1 = .ok (.iconst 1, 1) := by decide +kernel
theorem dX12_third_2 : decode cX12_third 2 = .ok (.iadd, 1) := by decide +kernel
theorem dX12_third_3 : decode cX12_third 3 = .ok (.istore_n 3, 1) := by decide +kernel
theorem dX12_third_4 : decode cX12_third 4 = .ok (.iload_n 3, 1) := by decide +kernel
theorem dX12_third_5 : decode cX12_third 5 = .ok (.aload_n 0, 1) := by decide +kernel
theorem dX12_third_6 : decode cX12_third 6 = .ok (.getfield 491, 3) := by decide +kernel
theorem dX12_third_9 : decode cX12_third 9 = .ok (.if_icmp .ge 66, 3) := by decide +kernel
theorem dX12_third_12 : decode cX12_third 12 = .ok (.iconst 1, 1) := by decide +kernel
theorem dX12_third_13 : decode cX12_third 13 = .ok (.istore 4, 2) := by decide +kernel
theorem dX12_third_15 : decode cX12_third 15 = .ok (.iload 4, 2) := by decide +kernel
theorem dX12_third_17 : decode cX12_third 17 = .ok (.bipush 6, 2) := by decide +kernel
theorem dX12_third_19 : decode cX12_third 19 = .ok (.if_icmp .gt 43, 3) := by decide +kernel
theorem dX12_third_22 : decode cX12_third 22 = .ok (.aload_n 0, 1) := by decide +kernel
theorem dX12_third_23 : decode cX12_third 23 = .ok (.iload_n 3, 1) := by decide +kernel
theorem dX12_third_24 : decode cX12_third 24 = .ok (.iload 4, 2) := by decide +kernel
theorem dX12_third_26 : decode cX12_third 26 = .ok (.invokevirtual 497, 3) := by decide +kernel
theorem dX12_third_29 : decode cX12_third 29 = .ok (.istore 5, 2) := by decide +kernel
theorem dX12_third_31 : decode cX12_third 31 = .ok (.iload 5, 2) := by decide +kernel
theorem dX12_third_33 : decode cX12_third 33 = .ok (.ifCond .ne 6, 3) := by decide +kernel
theorem dX12_third_36 : decode cX12_third 36 = .ok (.goto 20, 3) := by decide +kernel
theorem dX12_third_39 : decode cX12_third 39 = .ok (.aload_n 0, 1) := by decide +kernel
theorem dX12_third_40 : decode cX12_third 40 = .ok (.getfield 159, 3) := by decide +kernel
theorem dX12_third_43 : decode cX12_third 43 = .ok (.iload_n 3, 1) := by decide +kernel
theorem dX12_third_44 : decode cX12_third 44 = .ok (.iload 4, 2) := by decide +kernel
theorem dX12_third_46 : decode cX12_third 46 = .ok (.iastore, 1) := by decide +kernel
theorem dX12_third_47 : decode cX12_third 47 = .ok (.aload_n 0, 1) := by decide +kernel
theorem dX12_third_48 : decode cX12_third 48 = .ok (.iload_n 2, 1) := by decide +kernel
theorem dX12_third_49 : decode cX12_third 49 = .ok (.iload 5, 2) := by decide +kernel
theorem dX12_third_51 : decode cX12_third 51 = .ok (.iadd, 1) := by decide +kernel
theorem dX12_third_52 : decode cX12_third 52 = .ok (.iconst 3, 1) := by decide +kernel
theorem dX12_third_53 : decode cX12_third 53 = .ok (.invokevirtual 494, 3) := by decide +kernel
theorem dX12_third_56 : decode cX12_third 56 = .ok (.iinc 4 1, 3) := by decide +kernel
theorem dX12_third_59 : decode cX12_third 59 = .ok (.goto (-44), 3) := by decide +kernel
theorem dX12_third_62 : decode cX12_third 62 = .ok (.aload_n 0, 1) := by decide +kernel
theorem dX12_third_63 : decode cX12_third 63 = .ok (.getfield 159, 3) := by decide +kernel
theorem dX12_third_66 : decode cX12_third 66 = .ok (.iload_n 3, 1) := by decide +kernel
theorem dX12_third_67 : decode cX12_third 67 = .ok (.iconst 0, 1) := by decide +kernel
theorem dX12_third_68 : decode cX12_third 68 = .ok (.iastore, 1) := by decide +kernel
theorem dX12_third_69 : decode cX12_third 69 = .ok (.iinc 3 1, 3) := by decide +kernel
theorem dX12_third_72 : decode cX12_third 72 = .ok (.goto (-68), 3) := by decide +kernel
theorem dX12_third_75 : decode cX12_third 75 = .ok (.return_, 1) := by decide +kernel
noncomputable def B_X12_third_0 : pb_C := (i_iload 1 (i_const (.int 1) (i_ibin (· + ·) (i_istore 3 (i_jmp 4 [true, false, true, true, false, false])))))
noncomputable def B_X12_third_4 : pb_C := (i_iload 3 (i_aload 0 (i_getI 64 71 (i_ic_ge i_vret (i_const (.int 1) (i_istore 4 (i_jmp 15 [true, false, true, true, true, false])))))))
noncomputable def B_X12_third_15 : pb_C := (i_iload 4 (i_const (.int 6) (i_ic_gt (i_aload 0 (i_getR 64 108 (i_iload 3 (i_const (.int 0) (i_ast 108 9 (fun x => x) (i_iinc 3 1 (i_jmp 4 [true, false, true, true, false, false]))))))) (i_aload 0 (i_iload 3 (i_iload 4 (i_callV 64 2 1 M_X12_brings (i_istore 5 (i_iload 5 (i_if_ne (i_aload 0 (i_getR 64 108 (i_iload 3 (i_iload 4 (i_ast 108 9 (fun x => x) (i_aload 0 (i_iload 2 (i_iload 5 (i_ibin (· + ·) (i_const (.int 3) (i_callV 64 2 0 M_X12_look (i_iinc 4 1 (i_jmp 15 [true, false, true, true, true, false]))))))))))))) (i_iinc 4 1 (i_jmp 15 [true, false, true, true, true, false]))))))))))))
noncomputable def T_X12_third : Nat → pb_C := pb_tt [(0, B_X12_third_0), (4, B_X12_third_4), (15, B_X12_third_15)]
noncomputable def M_X12_third : pb_F := pb_M T_X12_third 6
set_option maxRecDepth 100000 in
set_option maxHeartbeats 4000000 in
theorem S_X12_third (l : Launch) : pb_Sound l yX12_third cX12_third 6 none 3 M_X12_third := by
  refine pb_sound_of (by decide) m_9_38 ?_
  intro Γ hl0 hRm0 hm X E hr J
  have hnL : ∀ j, j < 6 → j < Γ.2.2.2.2.2.2.2.2.2.2.2.1 := fun j h => by rw [hm]; exact h
  have hR : ∀ (d' mL : Nat), d' + 1 ≤ 3 ∧ 8 + (mL + 11) + d' * 64 ≤ 3 * 64 → (pb_rm d').frames + 1 ≤ Γ.2.2.2.1.frames ∧ 8 + (mL + 11) + (pb_rm d').locals ≤ Γ.2.2.2.1.locals := by rw [hRm0]; exact fun _ _ h => h
  have hRm : 1 ≤ 3 ∧ 64 ≤ 3 * 64 → 1 ≤ Γ.2.2.2.1.frames ∧ 64 ≤ Γ.2.2.2.1.locals := by rw [hRm0]; exact fun h => h
  exact pb_tt_snd _ (List.forall_mem_cons.mpr ⟨(s_iload_n (pc := 0) X dX12_third_0 rfl (s_iconst (pc := 1) X dX12_third_1 rfl (s_iadd (pc := 2) X dX12_third_2 (s_istore_n (pc := 3) X dX12_third_3 rfl (hnL _ (by decide)) (s_jmp (pc := 4) J [true, false, true, true, false, false]))))), List.forall_mem_cons.mpr ⟨(s_iload_n (pc := 4) X dX12_third_4 rfl (s_aload_n (pc := 5) X dX12_third_5 rfl (s_getI (pc := 6) X dX12_third_6 g_X12_491 (s_ic_ge (pc := 9) X dX12_third_9 (by decide) (s_vret (pc := 75) X E hr dX12_third_75) (s_iconst (pc := 12) X dX12_third_12 rfl (s_istore (pc := 13) X dX12_third_13 (hnL _ (by decide)) (s_jmp (pc := 15) J [true, false, true, true, true, false]))))))), List.forall_mem_cons.mpr ⟨(s_iload (pc := 15) X dX12_third_15 (s_bipush (pc := 17) X dX12_third_17 rfl (s_ic_gt (pc := 19) X dX12_third_19 (by decide) (s_aload_n (pc := 62) X dX12_third_62 rfl (s_getR (pc := 63) X dX12_third_63 g_X12_159 (s_iload_n (pc := 66) X dX12_third_66 rfl (s_iconst (pc := 67) X dX12_third_67 rfl (s_iast (pc := 68) X dX12_third_68 h_108 (s_iinc (pc := 69) X dX12_third_69 rfl (s_goto (pc := 72) X dX12_third_72 (by decide) (s_jmp (pc := 4) J [true, false, true, true, false, false])))))))) (s_aload_n (pc := 22) X dX12_third_22 rfl (s_iload_n (pc := 23) X dX12_third_23 rfl (s_iload (pc := 24) X dX12_third_24 (s_callV (pc := 26) X dX12_third_26 (S_X12_brings _) q_X12_497 h_64 rfl (hR _ _ (by decide)) (s_istore (pc := 29) X dX12_third_29 (hnL _ (by decide)) (s_iload (pc := 31) X dX12_third_31 (s_if_ne (pc := 33) X dX12_third_33 (by decide) (s_aload_n (pc := 39) X dX12_third_39 rfl (s_getR (pc := 40) X dX12_third_40 g_X12_159 (s_iload_n (pc := 43) X dX12_third_43 rfl (s_iload (pc := 44) X dX12_third_44 (s_iast (pc := 46) X dX12_third_46 h_108 (s_aload_n (pc := 47) X dX12_third_47 rfl (s_iload_n (pc := 48) X dX12_third_48 rfl (s_iload (pc := 49) X dX12_third_49 (s_iadd (pc := 51) X dX12_third_51 (s_iconst (pc := 52) X dX12_third_52 rfl (s_callV (pc := 53) X dX12_third_53 (S_X12_look _) q_X12_494 h_64 rfl (hR _ _ (by decide)) (s_iinc (pc := 56) X dX12_third_56 rfl (s_goto (pc := 59) X dX12_third_59 (by decide) (s_jmp (pc := 15) J [true, false, true, true, true, false])))))))))))))) (s_goto (pc := 36) X dX12_third_36 (by decide) (s_iinc (pc := 56) X dX12_third_56 rfl (s_goto (pc := 59) X dX12_third_59 (by decide) (s_jmp (pc := 15) J [true, false, true, true, true, false])))))))))))))), fun _ h => absurd h List.not_mem_nil⟩⟩⟩)
theorem dX12_slipsOf_0 : decode cX12_slipsOf 0 = .ok (.aload_n 0, 1) := by decide +kernel
theorem dX12_slipsOf_1 : decode cX12_slipsOf 1 = .ok (.iconst 4, 1) := by decide +kernel
theorem dX12_slipsOf_2 : decode cX12_slipsOf 2 = .ok (.putfield 479, 3) := by decide +kernel
theorem dX12_slipsOf_5 : decode cX12_slipsOf 5 = .ok (.aload_n 0, 1) := by decide +kernel
theorem dX12_slipsOf_6 : decode cX12_slipsOf 6 = .ok (.iconst 0, 1) := by decide +kernel
theorem dX12_slipsOf_7 : decode cX12_slipsOf 7 = .ok (.putfield 488, 3) := by decide +kernel
theorem dX12_slipsOf_10 : decode cX12_slipsOf 10 = .ok (.iconst 0, 1) := by decide +kernel
theorem dX12_slipsOf_11 : decode cX12_slipsOf 11 = .ok (.istore_n 3, 1) := by decide +kernel
theorem dX12_slipsOf_12 : decode cX12_slipsOf 12 = .ok (.iload_n 3, 1) := by decide +kernel
theorem dX12_slipsOf_13 : decode cX12_slipsOf 13 = .ok (.bipush 9, 2) := by decide +kernel
theorem dX12_slipsOf_15 : decode cX12_slipsOf 15 = .ok (.if_icmp .ge 16, 3) := by decide +kernel
theorem dX12_slipsOf_18 : decode cX12_slipsOf 18 = .ok (.aload_n 0, 1) := by decide +kernel
theorem dX12_slipsOf_19 : decode cX12_slipsOf 19 = .ok (.getfield 159, 3) := by decide +kernel
theorem dX12_slipsOf_22 : decode cX12_slipsOf 22 = .ok (.iload_n 3, 1) := by decide +kernel
theorem dX12_slipsOf_23 : decode cX12_slipsOf 23 = .ok (.iconst 0, 1) := by decide +kernel
theorem dX12_slipsOf_24 : decode cX12_slipsOf 24 = .ok (.iastore, 1) := by decide +kernel
theorem dX12_slipsOf_25 : decode cX12_slipsOf 25 = .ok (.iinc 3 1, 3) := by decide +kernel
theorem dX12_slipsOf_28 : decode cX12_slipsOf 28 = .ok (.goto (-16), 3) := by decide +kernel
theorem dX12_slipsOf_31 : decode cX12_slipsOf 31 = .ok (.aload_n 0, 1) := by decide +kernel
theorem dX12_slipsOf_32 : decode cX12_slipsOf 32 = .ok (.iconst 0, 1) := by decide +kernel
theorem dX12_slipsOf_33 : decode cX12_slipsOf 33 = .ok (.iconst 0, 1) := by decide +kernel
theorem dX12_slipsOf_34 : decode cX12_slipsOf 34 = .ok (.invokevirtual 494, 3) := by decide +kernel
theorem dX12_slipsOf_37 : decode cX12_slipsOf 37 = .ok (.iconst 0, 1) := by decide +kernel
theorem dX12_slipsOf_38 : decode cX12_slipsOf 38 = .ok (.istore_n 3, 1) := by decide +kernel
theorem dX12_slipsOf_39 : decode cX12_slipsOf 39 = .ok (.iload_n 3, 1) := by decide +kernel
theorem dX12_slipsOf_40 : decode cX12_slipsOf 40 = .ok (.aload_n 0, 1) := by decide +kernel
theorem dX12_slipsOf_41 : decode cX12_slipsOf 41 = .ok (.getfield 491, 3) := by decide +kernel
theorem dX12_slipsOf_44 : decode cX12_slipsOf 44 = .ok (.if_icmp .ge 156, 3) := by decide +kernel
theorem dX12_slipsOf_47 : decode cX12_slipsOf 47 = .ok (.iconst 1, 1) := by decide +kernel
theorem dX12_slipsOf_48 : decode cX12_slipsOf 48 = .ok (.istore 4, 2) := by decide +kernel
theorem dX12_slipsOf_50 : decode cX12_slipsOf 50 = .ok (.iload 4, 2) := by decide +kernel
theorem dX12_slipsOf_52 : decode cX12_slipsOf 52 = .ok (.bipush 6, 2) := by decide +kernel
theorem dX12_slipsOf_54 : decode cX12_slipsOf 54 = .ok (.if_icmp .gt 133, 3) := by decide +kernel
theorem dX12_slipsOf_57 : decode cX12_slipsOf 57 = .ok (.aload_n 0, 1) := by decide +kernel
theorem dX12_slipsOf_58 : decode cX12_slipsOf 58 = .ok (.iload_n 3, 1) := by decide +kernel
theorem dX12_slipsOf_59 : decode cX12_slipsOf 59 = .ok (.iload 4, 2) := by decide +kernel
theorem dX12_slipsOf_61 : decode cX12_slipsOf 61 = .ok (.invokevirtual 497, 3) := by decide +kernel
theorem dX12_slipsOf_64 : decode cX12_slipsOf 64 = .ok (.istore 5, 2) := by decide +kernel
theorem dX12_slipsOf_66 : decode cX12_slipsOf 66 = .ok (.iload 5, 2) := by decide +kernel
theorem dX12_slipsOf_68 : decode cX12_slipsOf 68 = .ok (.ifCond .ne 6, 3) := by decide +kernel
theorem dX12_slipsOf_71 : decode cX12_slipsOf 71 = .ok (.goto 110, 3) := by decide +kernel
theorem dX12_slipsOf_74 : decode cX12_slipsOf 74 = .ok (.aload_n 0, 1) := by decide +kernel
theorem dX12_slipsOf_75 : decode cX12_slipsOf 75 = .ok (.getfield 159, 3) := by decide +kernel
theorem dX12_slipsOf_78 : decode cX12_slipsOf 78 = .ok (.iload_n 3, 1) := by decide +kernel
theorem dX12_slipsOf_79 : decode cX12_slipsOf 79 = .ok (.iload 4, 2) := by decide +kernel
theorem dX12_slipsOf_81 : decode cX12_slipsOf 81 = .ok (.iastore, 1) := by decide +kernel
theorem dX12_slipsOf_82 : decode cX12_slipsOf 82 = .ok (.aload_n 0, 1) := by decide +kernel
theorem dX12_slipsOf_83 : decode cX12_slipsOf 83 = .ok (.iload 5, 2) := by decide +kernel
theorem dX12_slipsOf_85 : decode cX12_slipsOf 85 = .ok (.iconst 1, 1) := by decide +kernel
theorem dX12_slipsOf_86 : decode cX12_slipsOf 86 = .ok (.invokevirtual 494, 3) := by decide +kernel
theorem dX12_slipsOf_89 : decode cX12_slipsOf 89 = .ok (.iload_n 3, 1) := by decide +kernel
theorem dX12_slipsOf_90 : decode cX12_slipsOf 90 = .ok (.iconst 1, 1) := by decide +kernel
theorem dX12_slipsOf_91 : decode cX12_slipsOf 91 = .ok (.iadd, 1) := by decide +kernel
theorem dX12_slipsOf_92 : decode cX12_slipsOf 92 = .ok (.istore 6, 2) := by decide +kernel
theorem dX12_slipsOf_94 : decode cX12_slipsOf 94 = .ok (.iload 6, 2) := by decide +kernel
theorem dX12_slipsOf_96 : decode cX12_slipsOf 96 = .ok (.aload_n 0, 1) := by decide +kernel
theorem dX12_slipsOf_97 : decode cX12_slipsOf 97 = .ok (.getfield 491, 3) := by decide +kernel
theorem dX12_slipsOf_100 : decode cX12_slipsOf 100 = .ok (.if_icmp .ge 81, 3) := by decide +kernel
theorem dX12_slipsOf_103 : decode cX12_slipsOf 103 = .ok (.iconst 1, 1) := by decide +kernel
theorem dX12_slipsOf_104 : decode cX12_slipsOf 104 = .ok (.istore 7, 2) := by decide +kernel
theorem dX12_slipsOf_106 : decode cX12_slipsOf 106 = .ok (.iload 7, 2) := by decide +kernel
theorem dX12_slipsOf_108 : decode cX12_slipsOf 108 = .ok (.bipush 6, 2) := by decide +kernel
theorem dX12_slipsOf_110 : decode cX12_slipsOf 110 = .ok (.if_icmp .gt 57, 3) := by decide +kernel
theorem dX12_slipsOf_113 : decode cX12_slipsOf 113 = .ok (.aload_n 0, 1) := by decide +kernel
theorem dX12_slipsOf_114 : decode cX12_slipsOf 114 = .ok (.iload 6, 2) := by decide +kernel
theorem dX12_slipsOf_116 : decode cX12_slipsOf 116 = .ok (.iload 7, 2) := by decide +kernel
theorem dX12_slipsOf_118 : decode cX12_slipsOf 118 = .ok (.invokevirtual 497, 3) := by decide +kernel
theorem dX12_slipsOf_121 : decode cX12_slipsOf 121 = .ok (.istore 8, 2) := by decide +kernel
theorem dX12_slipsOf_123 : decode cX12_slipsOf 123 = .ok (.iload 8, 2) := by decide +kernel
theorem dX12_slipsOf_125 : decode cX12_slipsOf 125 = .ok (.ifCond .ne 6, 3) := by decide +kernel
theorem dX12_slipsOf_128 : decode cX12_slipsOf 128 = .ok (.goto 33, 3) := by decide +kernel
theorem dX12_slipsOf_131 : decode cX12_slipsOf 131 = .ok (.aload_n 0, 1) := by decide +kernel
theorem dX12_slipsOf_132 : decode cX12_slipsOf 132 = .ok (.getfield 159, 3) := by decide +kernel
theorem dX12_slipsOf_135 : decode cX12_slipsOf 135 = .ok (.iload 6, 2) := by decide +kernel
theorem dX12_slipsOf_137 : decode cX12_slipsOf 137 = .ok (.iload 7, 2) := by decide +kernel
theorem dX12_slipsOf_139 : decode cX12_slipsOf 139 = .ok (.iastore, 1) := by decide +kernel
theorem dX12_slipsOf_140 : decode cX12_slipsOf 140 = .ok (.aload_n 0, 1) := by decide +kernel
theorem dX12_slipsOf_141 : decode cX12_slipsOf 141 = .ok (.iload 5, 2) := by decide +kernel
theorem dX12_slipsOf_143 : decode cX12_slipsOf 143 = .ok (.iload 8, 2) := by decide +kernel
theorem dX12_slipsOf_145 : decode cX12_slipsOf 145 = .ok (.iadd, 1) := by decide +kernel
theorem dX12_slipsOf_146 : decode cX12_slipsOf 146 = .ok (.iconst 2, 1) := by decide +kernel
theorem dX12_slipsOf_147 : decode cX12_slipsOf 147 = .ok (.invokevirtual 494, 3) := by decide +kernel
theorem dX12_slipsOf_150 : decode cX12_slipsOf 150 = .ok (.aload_n 0, 1) := by decide +kernel
theorem dX12_slipsOf_151 : decode cX12_slipsOf 151 = .ok (.iload 6, 2) := by decide +kernel
theorem dX12_slipsOf_153 : decode cX12_slipsOf 153 = .ok (.iload 5, 2) := by decide +kernel
theorem dX12_slipsOf_155 : decode cX12_slipsOf 155 = .ok (.iload 8, 2) := by decide +kernel
theorem dX12_slipsOf_157 : decode cX12_slipsOf 157 = .ok (.iadd, 1) := by decide +kernel
theorem dX12_slipsOf_158 : decode cX12_slipsOf 158 = .ok (.invokevirtual 500, 3) := by decide +kernel
theorem dX12_slipsOf_161 : decode cX12_slipsOf 161 = .ok (.iinc 7 1, 3) := by decide +kernel
theorem dX12_slipsOf_164 : decode cX12_slipsOf 164 = .ok (.goto (-58), 3) := by decide +kernel
theorem dX12_slipsOf_167 : decode cX12_slipsOf 167 = .ok (.aload_n 0, 1) := by decide +kernel
theorem dX12_slipsOf_168 : decode cX12_slipsOf 168 = .ok (.getfield 159, 3) := by decide +kernel
theorem dX12_slipsOf_171 : decode cX12_slipsOf 171 = .ok (.iload 6, 2) := by decide +kernel
theorem dX12_slipsOf_173 : decode cX12_slipsOf 173 = .ok (.iconst 0, 1) := by decide +kernel
theorem dX12_slipsOf_174 : decode cX12_slipsOf 174 = .ok (.iastore, 1) := by decide +kernel
theorem dX12_slipsOf_175 : decode cX12_slipsOf 175 = .ok (.iinc 6 1, 3) := by decide +kernel
theorem dX12_slipsOf_178 : decode cX12_slipsOf 178 = .ok (.goto (-84), 3) := by decide +kernel
theorem dX12_slipsOf_181 : decode cX12_slipsOf 181 = .ok (.iinc 4 1, 3) := by decide +kernel
theorem dX12_slipsOf_184 : decode cX12_slipsOf 184 = .ok (.goto (-134), 3) := by decide +kernel
theorem dX12_slipsOf_187 : decode cX12_slipsOf 187 = .ok (.aload_n 0, 1) := by decide +kernel
theorem dX12_slipsOf_188 : decode cX12_slipsOf 188 = .ok (.getfield 159, 3) := by decide +kernel
theorem dX12_slipsOf_191 : decode cX12_slipsOf 191 = .ok (.iload_n 3, 1) := by decide +kernel
theorem dX12_slipsOf_192 : decode cX12_slipsOf 192 = .ok (.iconst 0, 1) := by decide +kernel
theorem dX12_slipsOf_193 : decode cX12_slipsOf 193 = .ok (.iastore, 1) := by decide +kernel
theorem dX12_slipsOf_194 : decode cX12_slipsOf 194 = .ok (.iinc 3 1, 3) := by decide +kernel
theorem dX12_slipsOf_197 : decode cX12_slipsOf 197 = .ok (.goto (-158), 3) := by decide +kernel
theorem dX12_slipsOf_200 : decode cX12_slipsOf 200 = .ok (.return_, 1) := by decide +kernel
noncomputable def B_X12_slipsOf_0 : pb_C := (i_aload 0 (i_const (.int 4) (i_putI 64 73 (i_aload 0 (i_const (.int 0) (i_putI 64 74 (i_const (.int 0) (i_istore 3 (i_jmp 12 [true, false, false, true, false, false, false, false, false])))))))))
noncomputable def B_X12_slipsOf_12 : pb_C := (i_iload 3 (i_const (.int 9) (i_ic_ge (i_aload 0 (i_const (.int 0) (i_const (.int 0) (i_callV 64 2 0 M_X12_look (i_const (.int 0) (i_istore 3 (i_jmp 39 [true, false, false, true, false, false, false, false, false]))))))) (i_aload 0 (i_getR 64 108 (i_iload 3 (i_const (.int 0) (i_ast 108 9 (fun x => x) (i_iinc 3 1 (i_jmp 12 [true, false, false, true, false, false, false, false, false]))))))))))
noncomputable def B_X12_slipsOf_39 : pb_C := (i_iload 3 (i_aload 0 (i_getI 64 71 (i_ic_ge i_vret (i_const (.int 1) (i_istore 4 (i_jmp 50 [true, false, false, true, true, false, false, false, false])))))))
noncomputable def B_X12_slipsOf_50 : pb_C := (i_iload 4 (i_const (.int 6) (i_ic_gt (i_aload 0 (i_getR 64 108 (i_iload 3 (i_const (.int 0) (i_ast 108 9 (fun x => x) (i_iinc 3 1 (i_jmp 39 [true, false, false, true, false, false, false, false, false]))))))) (i_aload 0 (i_iload 3 (i_iload 4 (i_callV 64 2 1 M_X12_brings (i_istore 5 (i_iload 5 (i_if_ne (i_aload 0 (i_getR 64 108 (i_iload 3 (i_iload 4 (i_ast 108 9 (fun x => x) (i_aload 0 (i_iload 5 (i_const (.int 1) (i_callV 64 2 0 M_X12_look (i_iload 3 (i_const (.int 1) (i_ibin (· + ·) (i_istore 6 (i_jmp 94 [true, false, false, true, true, true, true, false, false])))))))))))))) (i_iinc 4 1 (i_jmp 50 [true, false, false, true, true, false, false, false, false]))))))))))))
noncomputable def B_X12_slipsOf_94 : pb_C := (i_iload 6 (i_aload 0 (i_getI 64 71 (i_ic_ge (i_iinc 4 1 (i_jmp 50 [true, false, false, true, true, false, false, false, false])) (i_const (.int 1) (i_istore 7 (i_jmp 106 [true, false, false, true, true, true, true, true, false])))))))
noncomputable def B_X12_slipsOf_106 : pb_C := (i_iload 7 (i_const (.int 6) (i_ic_gt (i_aload 0 (i_getR 64 108 (i_iload 6 (i_const (.int 0) (i_ast 108 9 (fun x => x) (i_iinc 6 1 (i_jmp 94 [true, false, false, true, true, true, true, false, false]))))))) (i_aload 0 (i_iload 6 (i_iload 7 (i_callV 64 2 1 M_X12_brings (i_istore 8 (i_iload 8 (i_if_ne (i_aload 0 (i_getR 64 108 (i_iload 6 (i_iload 7 (i_ast 108 9 (fun x => x) (i_aload 0 (i_iload 5 (i_iload 8 (i_ibin (· + ·) (i_const (.int 2) (i_callV 64 2 0 M_X12_look (i_aload 0 (i_iload 6 (i_iload 5 (i_iload 8 (i_ibin (· + ·) (i_callV 64 2 0 M_X12_third (i_iinc 7 1 (i_jmp 106 [true, false, false, true, true, true, true, true, false]))))))))))))))))))) (i_iinc 7 1 (i_jmp 106 [true, false, false, true, true, true, true, true, false]))))))))))))
noncomputable def T_X12_slipsOf : Nat → pb_C := pb_tt [(0, B_X12_slipsOf_0), (12, B_X12_slipsOf_12), (39, B_X12_slipsOf_39), (50, B_X12_slipsOf_50), (94, B_X12_slipsOf_94), (106, B_X12_slipsOf_106)]
noncomputable def M_X12_slipsOf : pb_F := pb_M T_X12_slipsOf 9
set_option maxRecDepth 100000 in
set_option maxHeartbeats 4000000 in
theorem S_X12_slipsOf (l : Launch) : pb_Sound l yX12_slipsOf cX12_slipsOf 9 none 4 M_X12_slipsOf := by
  refine pb_sound_of (by decide) m_9_21 ?_
  intro Γ hl0 hRm0 hm X E hr J
  have hnL : ∀ j, j < 9 → j < Γ.2.2.2.2.2.2.2.2.2.2.2.1 := fun j h => by rw [hm]; exact h
  have hR : ∀ (d' mL : Nat), d' + 1 ≤ 4 ∧ 8 + (mL + 11) + d' * 64 ≤ 4 * 64 → (pb_rm d').frames + 1 ≤ Γ.2.2.2.1.frames ∧ 8 + (mL + 11) + (pb_rm d').locals ≤ Γ.2.2.2.1.locals := by rw [hRm0]; exact fun _ _ h => h
  have hRm : 1 ≤ 4 ∧ 64 ≤ 4 * 64 → 1 ≤ Γ.2.2.2.1.frames ∧ 64 ≤ Γ.2.2.2.1.locals := by rw [hRm0]; exact fun h => h
  exact pb_tt_snd _ (List.forall_mem_cons.mpr ⟨(s_aload_n (pc := 0) X dX12_slipsOf_0 rfl (s_iconst (pc := 1) X dX12_slipsOf_1 rfl (s_putI (pc := 2) X dX12_slipsOf_2 p_X12_479 (s_aload_n (pc := 5) X dX12_slipsOf_5 rfl (s_iconst (pc := 6) X dX12_slipsOf_6 rfl (s_putI (pc := 7) X dX12_slipsOf_7 p_X12_488 (s_iconst (pc := 10) X dX12_slipsOf_10 rfl (s_istore_n (pc := 11) X dX12_slipsOf_11 rfl (hnL _ (by decide)) (s_jmp (pc := 12) J [true, false, false, true, false, false, false, false, false]))))))))), List.forall_mem_cons.mpr ⟨(s_iload_n (pc := 12) X dX12_slipsOf_12 rfl (s_bipush (pc := 13) X dX12_slipsOf_13 rfl (s_ic_ge (pc := 15) X dX12_slipsOf_15 (by decide) (s_aload_n (pc := 31) X dX12_slipsOf_31 rfl (s_iconst (pc := 32) X dX12_slipsOf_32 rfl (s_iconst (pc := 33) X dX12_slipsOf_33 rfl (s_callV (pc := 34) X dX12_slipsOf_34 (S_X12_look _) q_X12_494 h_64 rfl (hR _ _ (by decide)) (s_iconst (pc := 37) X dX12_slipsOf_37 rfl (s_istore_n (pc := 38) X dX12_slipsOf_38 rfl (hnL _ (by decide)) (s_jmp (pc := 39) J [true, false, false, true, false, false, false, false, false]))))))) (s_aload_n (pc := 18) X dX12_slipsOf_18 rfl (s_getR (pc := 19) X dX12_slipsOf_19 g_X12_159 (s_iload_n (pc := 22) X dX12_slipsOf_22 rfl (s_iconst (pc := 23) X dX12_slipsOf_23 rfl (s_iast (pc := 24) X dX12_slipsOf_24 h_108 (s_iinc (pc := 25) X dX12_slipsOf_25 rfl (s_goto (pc := 28) X dX12_slipsOf_28 (by decide) (s_jmp (pc := 12) J [true, false, false, true, false, false, false, false, false]))))))))))), List.forall_mem_cons.mpr ⟨(s_iload_n (pc := 39) X dX12_slipsOf_39 rfl (s_aload_n (pc := 40) X dX12_slipsOf_40 rfl (s_getI (pc := 41) X dX12_slipsOf_41 g_X12_491 (s_ic_ge (pc := 44) X dX12_slipsOf_44 (by decide) (s_vret (pc := 200) X E hr dX12_slipsOf_200) (s_iconst (pc := 47) X dX12_slipsOf_47 rfl (s_istore (pc := 48) X dX12_slipsOf_48 (hnL _ (by decide)) (s_jmp (pc := 50) J [true, false, false, true, true, false, false, false, false]))))))), List.forall_mem_cons.mpr ⟨(s_iload (pc := 50) X dX12_slipsOf_50 (s_bipush (pc := 52) X dX12_slipsOf_52 rfl (s_ic_gt (pc := 54) X dX12_slipsOf_54 (by decide) (s_aload_n (pc := 187) X dX12_slipsOf_187 rfl (s_getR (pc := 188) X dX12_slipsOf_188 g_X12_159 (s_iload_n (pc := 191) X dX12_slipsOf_191 rfl (s_iconst (pc := 192) X dX12_slipsOf_192 rfl (s_iast (pc := 193) X dX12_slipsOf_193 h_108 (s_iinc (pc := 194) X dX12_slipsOf_194 rfl (s_goto (pc := 197) X dX12_slipsOf_197 (by decide) (s_jmp (pc := 39) J [true, false, false, true, false, false, false, false, false])))))))) (s_aload_n (pc := 57) X dX12_slipsOf_57 rfl (s_iload_n (pc := 58) X dX12_slipsOf_58 rfl (s_iload (pc := 59) X dX12_slipsOf_59 (s_callV (pc := 61) X dX12_slipsOf_61 (S_X12_brings _) q_X12_497 h_64 rfl (hR _ _ (by decide)) (s_istore (pc := 64) X dX12_slipsOf_64 (hnL _ (by decide)) (s_iload (pc := 66) X dX12_slipsOf_66 (s_if_ne (pc := 68) X dX12_slipsOf_68 (by decide) (s_aload_n (pc := 74) X dX12_slipsOf_74 rfl (s_getR (pc := 75) X dX12_slipsOf_75 g_X12_159 (s_iload_n (pc := 78) X dX12_slipsOf_78 rfl (s_iload (pc := 79) X dX12_slipsOf_79 (s_iast (pc := 81) X dX12_slipsOf_81 h_108 (s_aload_n (pc := 82) X dX12_slipsOf_82 rfl (s_iload (pc := 83) X dX12_slipsOf_83 (s_iconst (pc := 85) X dX12_slipsOf_85 rfl (s_callV (pc := 86) X dX12_slipsOf_86 (S_X12_look _) q_X12_494 h_64 rfl (hR _ _ (by decide)) (s_iload_n (pc := 89) X dX12_slipsOf_89 rfl (s_iconst (pc := 90) X dX12_slipsOf_90 rfl (s_iadd (pc := 91) X dX12_slipsOf_91 (s_istore (pc := 92) X dX12_slipsOf_92 (hnL _ (by decide)) (s_jmp (pc := 94) J [true, false, false, true, true, true, true, false, false])))))))))))))) (s_goto (pc := 71) X dX12_slipsOf_71 (by decide) (s_iinc (pc := 181) X dX12_slipsOf_181 rfl (s_goto (pc := 184) X dX12_slipsOf_184 (by decide) (s_jmp (pc := 50) J [true, false, false, true, true, false, false, false, false])))))))))))))), List.forall_mem_cons.mpr ⟨(s_iload (pc := 94) X dX12_slipsOf_94 (s_aload_n (pc := 96) X dX12_slipsOf_96 rfl (s_getI (pc := 97) X dX12_slipsOf_97 g_X12_491 (s_ic_ge (pc := 100) X dX12_slipsOf_100 (by decide) (s_iinc (pc := 181) X dX12_slipsOf_181 rfl (s_goto (pc := 184) X dX12_slipsOf_184 (by decide) (s_jmp (pc := 50) J [true, false, false, true, true, false, false, false, false]))) (s_iconst (pc := 103) X dX12_slipsOf_103 rfl (s_istore (pc := 104) X dX12_slipsOf_104 (hnL _ (by decide)) (s_jmp (pc := 106) J [true, false, false, true, true, true, true, true, false]))))))), List.forall_mem_cons.mpr ⟨(s_iload (pc := 106) X dX12_slipsOf_106 (s_bipush (pc := 108) X dX12_slipsOf_108 rfl (s_ic_gt (pc := 110) X dX12_slipsOf_110 (by decide) (s_aload_n (pc := 167) X dX12_slipsOf_167 rfl (s_getR (pc := 168) X dX12_slipsOf_168 g_X12_159 (s_iload (pc := 171) X dX12_slipsOf_171 (s_iconst (pc := 173) X dX12_slipsOf_173 rfl (s_iast (pc := 174) X dX12_slipsOf_174 h_108 (s_iinc (pc := 175) X dX12_slipsOf_175 rfl (s_goto (pc := 178) X dX12_slipsOf_178 (by decide) (s_jmp (pc := 94) J [true, false, false, true, true, true, true, false, false])))))))) (s_aload_n (pc := 113) X dX12_slipsOf_113 rfl (s_iload (pc := 114) X dX12_slipsOf_114 (s_iload (pc := 116) X dX12_slipsOf_116 (s_callV (pc := 118) X dX12_slipsOf_118 (S_X12_brings _) q_X12_497 h_64 rfl (hR _ _ (by decide)) (s_istore (pc := 121) X dX12_slipsOf_121 (hnL _ (by decide)) (s_iload (pc := 123) X dX12_slipsOf_123 (s_if_ne (pc := 125) X dX12_slipsOf_125 (by decide) (s_aload_n (pc := 131) X dX12_slipsOf_131 rfl (s_getR (pc := 132) X dX12_slipsOf_132 g_X12_159 (s_iload (pc := 135) X dX12_slipsOf_135 (s_iload (pc := 137) X dX12_slipsOf_137 (s_iast (pc := 139) X dX12_slipsOf_139 h_108 (s_aload_n (pc := 140) X dX12_slipsOf_140 rfl (s_iload (pc := 141) X dX12_slipsOf_141 (s_iload (pc := 143) X dX12_slipsOf_143 (s_iadd (pc := 145) X dX12_slipsOf_145 (s_iconst (pc := 146) X dX12_slipsOf_146 rfl (s_callV (pc := 147) X dX12_slipsOf_147 (S_X12_look _) q_X12_494 h_64 rfl (hR _ _ (by decide)) (s_aload_n (pc := 150) X dX12_slipsOf_150 rfl (s_iload (pc := 151) X dX12_slipsOf_151 (s_iload (pc := 153) X dX12_slipsOf_153 (s_iload (pc := 155) X dX12_slipsOf_155 (s_iadd (pc := 157) X dX12_slipsOf_157 (s_callV (pc := 158) X dX12_slipsOf_158 (S_X12_third _) q_X12_500 h_64 rfl (hR _ _ (by decide)) (s_iinc (pc := 161) X dX12_slipsOf_161 rfl (s_goto (pc := 164) X dX12_slipsOf_164 (by decide) (s_jmp (pc := 106) J [true, false, false, true, true, true, true, true, false])))))))))))))))))))) (s_goto (pc := 128) X dX12_slipsOf_128 (by decide) (s_iinc (pc := 161) X dX12_slipsOf_161 rfl (s_goto (pc := 164) X dX12_slipsOf_164 (by decide) (s_jmp (pc := 106) J [true, false, false, true, true, true, true, true, false])))))))))))))), fun _ h => absurd h List.not_mem_nil⟩⟩⟩⟩⟩⟩)
theorem dX12_explains_0 : decode cX12_explains 0 = .ok (.aload_n 0, 1) := by decide +kernel
theorem dX12_explains_1 : decode cX12_explains 1 = .ok (.iload_n 1, 1) := by decide +kernel
theorem dX12_explains_2 : decode cX12_explains 2 = .ok (.iload_n 2, 1) := by decide +kernel
theorem dX12_explains_3 : decode cX12_explains 3 = .ok (.invokevirtual 470, 3) := by decide +kernel
theorem dX12_explains_6 : decode cX12_explains 6 = .ok (.istore_n 3, 1) := by decide +kernel
theorem dX12_explains_7 : decode cX12_explains 7 = .ok (.iload_n 3, 1) := by decide +kernel
theorem dX12_explains_8 : decode cX12_explains 8 = .ok (.iconst (-1), 1) := by decide +kernel
theorem dX12_explains_9 : decode cX12_explains 9 = .ok (.if_icmp .ne 5, 3) := by decide +kernel
theorem dX12_explains_12 : decode cX12_explains 12 = .ok (.iconst 0, 1) := by decide +kernel
theorem dX12_explains_13 : decode cX12_explains 13 = .ok (.ireturn, 1) := by decide +kernel
theorem dX12_explains_14 : decode cX12_explains 14 = .ok (.aload_n 0, 1) := by decide +kernel
theorem dX12_explains_15 : decode cX12_explains 15 = .ok (.iconst 0, 1) := by decide +kernel
theorem dX12_explains_16 : decode cX12_explains 16 = .ok (.putfield 491, 3) := by decide +kernel
theorem dX12_explains_19 : decode cX12_explains 19 = .ok (.iconst 0, 1) := by decide +kernel
theorem dX12_explains_20 : decode cX12_explains 20 = .ok (.istore 4, 2) := by decide +kernel
theorem dX12_explains_22 : decode cX12_explains 22 = .ok (.iload 4, 2) := by decide +kernel
theorem dX12_explains_24 : decode cX12_explains 24 = .ok (.aload_n 0, 1) := by decide +kernel
theorem dX12_explains_25 : decode cX12_explains 25 = .ok (.getfield 261, 3) := by decide +kernel
theorem dX12_explains_28 : decode cX12_explains 28 = .ok (.if_icmp .ge 54, 3) := by decide +kernel
theorem dX12_explains_31 : decode cX12_explains 31 = .ok (.aload_n 0, 1) := by decide +kernel
theorem dX12_explains_32 : decode cX12_explains 32 = .ok (.getfield 37, 3) := by decide +kernel
theorem dX12_explains_35 : decode cX12_explains 35 = .ok (.iload 4, 2) := by decide +kernel
theorem dX12_explains_37 : decode cX12_explains 37 = .ok (.iaload, 1) := by decide +kernel
theorem dX12_explains_38 : decode cX12_explains 38 = .ok (.iload_n 2, 1) := by decide +kernel
theorem dX12_explains_39 : decode cX12_explains 39 = .ok (.if_icmp .ne 37, 3) := by decide +kernel
theorem dX12_explains_42 : decode cX12_explains 42 = .ok (.aload_n 0, 1) := by decide +kernel
theorem dX12_explains_43 : decode cX12_explains 43 = .ok (.iload 4, 2) := by decide +kernel
theorem dX12_explains_45 : decode cX12_explains 45 = .ok (.iload_n 1, 1) := by decide +kernel
theorem dX12_explains_46 : decode cX12_explains 46 = .ok (.invokevirtual 457, 3) := by decide +kernel
theorem dX12_explains_49 : decode cX12_explains 49 = .ok (.ifCond .ne 6, 3) := by decide +kernel
theorem dX12_explains_52 : decode cX12_explains 52 = .ok (.goto 24, 3) := by decide +kernel
theorem dX12_explains_55 : decode cX12_explains 55 = .ok (.aload_n 0, 1) := by decide +kernel
theorem dX12_explains_56 : decode cX12_explains 56 = .ok (.getfield 156, 3) := by decide +kernel
theorem dX12_explains_59 : decode cX12_explains 59 = .ok (.aload_n 0, 1) := by decide +kernel
theorem dX12_explains_60 : decode cX12_explains 60 = .ok (.getfield 491, 3) := by decide +kernel
theorem dX12_explains_63 : decode cX12_explains 63 = .ok (.iload 4, 2) := by decide +kernel
theorem dX12_explains_65 : decode cX12_explains 65 = .ok (.iastore, 1) := by decide +kernel
theorem dX12_explains_66 : decode cX12_explains 66 = .ok (.aload_n 0, 1) := by decide +kernel
theorem dX12_explains_67 : decode cX12_explains 67 = .ok (.dup, 1) := by decide +kernel
theorem dX12_explains_68 : decode cX12_explains 68 = .ok (.getfield 491, 3) := by decide +kernel
theorem dX12_explains_71 : decode cX12_explains 71 = .ok (.iconst 1, 1) := by decide +kernel
theorem dX12_explains_72 : decode cX12_explains 72 = .ok (.iadd, 1) := by decide +kernel
theorem dX12_explains_73 : decode cX12_explains 73 = .ok (.putfield 491, 3) := by decide +kernel
theorem dX12_explains_76 : decode cX12_explains 76 = .ok (.iinc 4 1, 3) := by decide +kernel
theorem dX12_explains_79 : decode cX12_explains 79 = .ok (.goto (-57), 3) := by decide +kernel
theorem dX12_explains_82 : decode cX12_explains 82 = .ok (.aload_n 0, 1) := by decide +kernel
theorem dX12_explains_83 : decode cX12_explains 83 = .ok (.getfield 491, 3) := by decide +kernel
theorem dX12_explains_86 : decode cX12_explains 86 = .ok (.bipush 9, 2) := by decide +kernel
theorem dX12_explains_88 : decode cX12_explains 88 = .ok (.if_icmp .le 5, 3) := by decide +kernel
theorem dX12_explains_91 : decode cX12_explains 91 = .ok (.iconst 0, 1) := by decide +kernel
theorem dX12_explains_92 : decode cX12_explains 92 = .ok (.ireturn, 1) := by decide +kernel
theorem dX12_explains_93 : decode cX12_explains 93 = .ok (.aload_n 0, 1) := by decide +kernel
theorem dX12_explains_94 : decode cX12_explains 94 = .ok (.aload_n 0, 1) := by decide +kernel
theorem dX12_explains_95 : decode cX12_explains 95 = .ok (.getfield 153, 3) := by decide +kernel
theorem dX12_explains_98 : decode cX12_explains 98 = .ok (.iload_n 3, 1) := by decide +kernel
theorem dX12_explains_99 : decode cX12_explains 99 = .ok (.iaload, 1) := by decide +kernel
theorem dX12_explains_100 : decode cX12_explains 100 = .ok (.aload_n 0, 1) := by decide +kernel
theorem dX12_explains_101 : decode cX12_explains 101 = .ok (.iload_n 1, 1) := by decide +kernel
theorem dX12_explains_102 : decode cX12_explains 102 = .ok (.iload_n 2, 1) := by decide +kernel
theorem dX12_explains_103 : decode cX12_explains 103 = .ok (.iconst (-1), 1) := by decide +kernel
theorem dX12_explains_104 : decode cX12_explains 104 = .ok (.iconst 0, 1) := by decide +kernel
theorem dX12_explains_105 : decode cX12_explains 105 = .ok (.invokevirtual 463, 3) := by decide +kernel
theorem dX12_explains_108 : decode cX12_explains 108 = .ok (.isub, 1) := by decide +kernel
theorem dX12_explains_109 : decode cX12_explains 109 = .ok (.putfield 473, 3) := by decide +kernel
theorem dX12_explains_112 : decode cX12_explains 112 = .ok (.aload_n 0, 1) := by decide +kernel
theorem dX12_explains_113 : decode cX12_explains 113 = .ok (.iload_n 1, 1) := by decide +kernel
theorem dX12_explains_114 : decode cX12_explains 114 = .ok (.iload_n 2, 1) := by decide +kernel
theorem dX12_explains_115 : decode cX12_explains 115 = .ok (.invokevirtual 503, 3) := by decide +kernel
theorem dX12_explains_118 : decode cX12_explains 118 = .ok (.aload_n 0, 1) := by decide +kernel
theorem dX12_explains_119 : decode cX12_explains 119 = .ok (.getfield 479, 3) := by decide +kernel
theorem dX12_explains_122 : decode cX12_explains 122 = .ok (.iconst 3, 1) := by decide +kernel
theorem dX12_explains_123 : decode cX12_explains 123 = .ok (.if_icmp .gt 7, 3) := by decide +kernel
theorem dX12_explains_126 : decode cX12_explains 126 = .ok (.iconst 1, 1) := by decide +kernel
theorem dX12_explains_127 : decode cX12_explains 127 = .ok (.goto 4, 3) := by decide +kernel
theorem dX12_explains_130 : decode cX12_explains 130 = .ok (.iconst 0, 1) := by decide +kernel
theorem dX12_explains_131 : decode cX12_explains 131 = .ok (.ireturn, 1) := by decide +kernel
noncomputable def B_X12_explains_0 : pb_C := (i_aload 0 (i_iload 1 (i_iload 2 (i_callV 64 2 1 M_X12_toldOf (i_istore 3 (i_iload 3 (i_const (.int (-1)) (i_ic_ne (i_aload 0 (i_const (.int 0) (i_putI 64 71 (i_const (.int 0) (i_istore 4 (i_jmp 22 [true, true, true, true, true])))))) (i_const (.int 0) i_zret)))))))))
noncomputable def B_X12_explains_22 : pb_C := (i_iload 4 (i_aload 0 (i_getI 64 7 (i_ic_ge (i_aload 0 (i_getI 64 71 (i_const (.int 9) (i_ic_le (i_aload 0 (i_aload 0 (i_getR 64 106 (i_iload 3 (i_ald 106 40 (i_aload 0 (i_iload 1 (i_iload 2 (i_const (.int (-1)) (i_const (.int 0) (i_callV 64 4 1 M_X12_spentOf (i_ibin (· - ·) (i_putI 64 72 (i_aload 0 (i_iload 1 (i_iload 2 (i_callV 64 2 0 M_X12_slipsOf (i_aload 0 (i_getI 64 73 (i_const (.int 3) (i_ic_gt (i_const (.int 0) i_zret) (i_const (.int 1) i_zret)))))))))))))))))))))) (i_const (.int 0) i_zret))))) (i_aload 0 (i_getR 64 71 (i_iload 4 (i_ald 71 200 (i_iload 2 (i_ic_ne (i_iinc 4 1 (i_jmp 22 [true, true, true, true, true])) (i_aload 0 (i_iload 4 (i_iload 1 (i_callV 64 2 1 M_X12_went (i_if_ne (i_aload 0 (i_getR 64 107 (i_aload 0 (i_getI 64 71 (i_iload 4 (i_ast 107 200 (fun x => x) (i_aload 0 (i_dupR (i_getI 64 71 (i_const (.int 1) (i_ibin (· + ·) (i_putI 64 71 (i_iinc 4 1 (i_jmp 22 [true, true, true, true, true])))))))))))))) (i_iinc 4 1 (i_jmp 22 [true, true, true, true, true])))))))))))))))))
noncomputable def T_X12_explains : Nat → pb_C := pb_tt [(0, B_X12_explains_0), (22, B_X12_explains_22)]
noncomputable def M_X12_explains : pb_F := pb_M T_X12_explains 5
set_option maxRecDepth 100000 in
set_option maxHeartbeats 4000000 in
theorem S_X12_explains (l : Launch) : pb_Sound l yX12_explains cX12_explains 5 (some .boolean) 7 M_X12_explains := by
  refine pb_sound_of (by decide) m_9_17 ?_
  intro Γ hl0 hRm0 hm X E hr J
  have hnL : ∀ j, j < 5 → j < Γ.2.2.2.2.2.2.2.2.2.2.2.1 := fun j h => by rw [hm]; exact h
  have hR : ∀ (d' mL : Nat), d' + 1 ≤ 7 ∧ 8 + (mL + 11) + d' * 64 ≤ 7 * 64 → (pb_rm d').frames + 1 ≤ Γ.2.2.2.1.frames ∧ 8 + (mL + 11) + (pb_rm d').locals ≤ Γ.2.2.2.1.locals := by rw [hRm0]; exact fun _ _ h => h
  have hRm : 1 ≤ 7 ∧ 64 ≤ 7 * 64 → 1 ≤ Γ.2.2.2.1.frames ∧ 64 ≤ Γ.2.2.2.1.locals := by rw [hRm0]; exact fun h => h
  exact pb_tt_snd _ (List.forall_mem_cons.mpr ⟨(s_aload_n (pc := 0) X dX12_explains_0 rfl (s_iload_n (pc := 1) X dX12_explains_1 rfl (s_iload_n (pc := 2) X dX12_explains_2 rfl (s_callV (pc := 3) X dX12_explains_3 (S_X12_toldOf _) q_X12_470 h_64 rfl (hR _ _ (by decide)) (s_istore_n (pc := 6) X dX12_explains_6 rfl (hnL _ (by decide)) (s_iload_n (pc := 7) X dX12_explains_7 rfl (s_iconst (pc := 8) X dX12_explains_8 rfl (s_ic_ne (pc := 9) X dX12_explains_9 (by decide) (s_aload_n (pc := 14) X dX12_explains_14 rfl (s_iconst (pc := 15) X dX12_explains_15 rfl (s_putI (pc := 16) X dX12_explains_16 p_X12_491 (s_iconst (pc := 19) X dX12_explains_19 rfl (s_istore (pc := 20) X dX12_explains_20 (hnL _ (by decide)) (s_jmp (pc := 22) J [true, true, true, true, true])))))) (s_iconst (pc := 12) X dX12_explains_12 rfl (s_zret (pc := 13) X E hr dX12_explains_13)))))))))), List.forall_mem_cons.mpr ⟨(s_iload (pc := 22) X dX12_explains_22 (s_aload_n (pc := 24) X dX12_explains_24 rfl (s_getI (pc := 25) X dX12_explains_25 g_X12_261 (s_ic_ge (pc := 28) X dX12_explains_28 (by decide) (s_aload_n (pc := 82) X dX12_explains_82 rfl (s_getI (pc := 83) X dX12_explains_83 g_X12_491 (s_bipush (pc := 86) X dX12_explains_86 rfl (s_ic_le (pc := 88) X dX12_explains_88 (by decide) (s_aload_n (pc := 93) X dX12_explains_93 rfl (s_aload_n (pc := 94) X dX12_explains_94 rfl (s_getR (pc := 95) X dX12_explains_95 g_X12_153 (s_iload_n (pc := 98) X dX12_explains_98 rfl (s_iald (pc := 99) X dX12_explains_99 h_106 (s_aload_n (pc := 100) X dX12_explains_100 rfl (s_iload_n (pc := 101) X dX12_explains_101 rfl (s_iload_n (pc := 102) X dX12_explains_102 rfl (s_iconst (pc := 103) X dX12_explains_103 rfl (s_iconst (pc := 104) X dX12_explains_104 rfl (s_callV (pc := 105) X dX12_explains_105 (S_X12_spentOf _) q_X12_463 h_64 rfl (hR _ _ (by decide)) (s_isub (pc := 108) X dX12_explains_108 (s_putI (pc := 109) X dX12_explains_109 p_X12_473 (s_aload_n (pc := 112) X dX12_explains_112 rfl (s_iload_n (pc := 113) X dX12_explains_113 rfl (s_iload_n (pc := 114) X dX12_explains_114 rfl (s_callV (pc := 115) X dX12_explains_115 (S_X12_slipsOf _) q_X12_503 h_64 rfl (hR _ _ (by decide)) (s_aload_n (pc := 118) X dX12_explains_118 rfl (s_getI (pc := 119) X dX12_explains_119 g_X12_479 (s_iconst (pc := 122) X dX12_explains_122 rfl (s_ic_gt (pc := 123) X dX12_explains_123 (by decide) (s_iconst (pc := 130) X dX12_explains_130 rfl (s_zret (pc := 131) X E hr dX12_explains_131)) (s_iconst (pc := 126) X dX12_explains_126 rfl (s_goto (pc := 127) X dX12_explains_127 (by decide) (s_zret (pc := 131) X E hr dX12_explains_131)))))))))))))))))))))))) (s_iconst (pc := 91) X dX12_explains_91 rfl (s_zret (pc := 92) X E hr dX12_explains_92)))))) (s_aload_n (pc := 31) X dX12_explains_31 rfl (s_getR (pc := 32) X dX12_explains_32 g_X12_37 (s_iload (pc := 35) X dX12_explains_35 (s_iald (pc := 37) X dX12_explains_37 h_71 (s_iload_n (pc := 38) X dX12_explains_38 rfl (s_ic_ne (pc := 39) X dX12_explains_39 (by decide) (s_iinc (pc := 76) X dX12_explains_76 rfl (s_goto (pc := 79) X dX12_explains_79 (by decide) (s_jmp (pc := 22) J [true, true, true, true, true]))) (s_aload_n (pc := 42) X dX12_explains_42 rfl (s_iload (pc := 43) X dX12_explains_43 (s_iload_n (pc := 45) X dX12_explains_45 rfl (s_callV (pc := 46) X dX12_explains_46 (S_X12_went _) q_X12_457 h_64 rfl (hR _ _ (by decide)) (s_if_ne (pc := 49) X dX12_explains_49 (by decide) (s_aload_n (pc := 55) X dX12_explains_55 rfl (s_getR (pc := 56) X dX12_explains_56 g_X12_156 (s_aload_n (pc := 59) X dX12_explains_59 rfl (s_getI (pc := 60) X dX12_explains_60 g_X12_491 (s_iload (pc := 63) X dX12_explains_63 (s_iast (pc := 65) X dX12_explains_65 h_107 (s_aload_n (pc := 66) X dX12_explains_66 rfl (s_dupR (pc := 67) X dX12_explains_67 (s_getI (pc := 68) X dX12_explains_68 g_X12_491 (s_iconst (pc := 71) X dX12_explains_71 rfl (s_iadd (pc := 72) X dX12_explains_72 (s_putI (pc := 73) X dX12_explains_73 p_X12_491 (s_iinc (pc := 76) X dX12_explains_76 rfl (s_goto (pc := 79) X dX12_explains_79 (by decide) (s_jmp (pc := 22) J [true, true, true, true, true]))))))))))))))) (s_goto (pc := 52) X dX12_explains_52 (by decide) (s_iinc (pc := 76) X dX12_explains_76 rfl (s_goto (pc := 79) X dX12_explains_79 (by decide) (s_jmp (pc := 22) J [true, true, true, true, true]))))))))))))))))))), fun _ h => absurd h List.not_mem_nil⟩⟩)
theorem dX12_slips_0 : decode cX12_slips 0 = .ok (.aload_n 0, 1) := by decide +kernel
theorem dX12_slips_1 : decode cX12_slips 1 = .ok (.iload_n 1, 1) := by decide +kernel
theorem dX12_slips_2 : decode cX12_slips 2 = .ok (.invokevirtual 284, 3) := by decide +kernel
theorem dX12_slips_5 : decode cX12_slips 5 = .ok (.ifCond .eq 19, 3) := by decide +kernel
theorem dX12_slips_8 : decode cX12_slips 8 = .ok (.iload_n 2, 1) := by decide +kernel
theorem dX12_slips_9 : decode cX12_slips 9 = .ok (.invokestatic 287, 3) := by decide +kernel
theorem dX12_slips_12 : decode cX12_slips 12 = .ok (.ifCond .eq 12, 3) := by decide +kernel
theorem dX12_slips_15 : decode cX12_slips 15 = .ok (.iload_n 3, 1) := by decide +kernel
theorem dX12_slips_16 : decode cX12_slips 16 = .ok (.ifCond .lt 8, 3) := by decide +kernel
theorem dX12_slips_19 : decode cX12_slips 19 = .ok (.iload_n 3, 1) := by decide +kernel
theorem dX12_slips_20 : decode cX12_slips 20 = .ok (.iconst 2, 1) := by decide +kernel
theorem dX12_slips_21 : decode cX12_slips 21 = .ok (.if_icmp .le 9, 3) := by decide +kernel
theorem dX12_slips_24 : decode cX12_slips 24 = .ok (.aload_n 0, 1) := by decide +kernel
theorem dX12_slips_25 : decode cX12_slips 25 = .ok (.iconst 1, 1) := by decide +kernel
theorem dX12_slips_26 : decode cX12_slips 26 = .ok (.invokevirtual 267, 3) := by decide +kernel
theorem dX12_slips_29 : decode cX12_slips 29 = .ok (.ireturn, 1) := by decide +kernel
theorem dX12_slips_30 : decode cX12_slips 30 = .ok (.aload_n 0, 1) := by decide +kernel
theorem dX12_slips_31 : decode cX12_slips 31 = .ok (.iload_n 1, 1) := by decide +kernel
theorem dX12_slips_32 : decode cX12_slips 32 = .ok (.iload_n 2, 1) := by decide +kernel
theorem dX12_slips_33 : decode cX12_slips 33 = .ok (.invokevirtual 506, 3) := by decide +kernel
theorem dX12_slips_36 : decode cX12_slips 36 = .ok (.ifCond .ne 10, 3) := by decide +kernel
theorem dX12_slips_39 : decode cX12_slips 39 = .ok (.aload_n 0, 1) := by decide +kernel
theorem dX12_slips_40 : decode cX12_slips 40 = .ok (.bipush 6, 2) := by decide +kernel
theorem dX12_slips_42 : decode cX12_slips 42 = .ok (.invokevirtual 267, 3) := by decide +kernel
theorem dX12_slips_45 : decode cX12_slips 45 = .ok (.ireturn, 1) := by decide +kernel
theorem dX12_slips_46 : decode cX12_slips 46 = .ok (.aload_n 0, 1) := by decide +kernel
theorem dX12_slips_47 : decode cX12_slips 47 = .ok (.iload_n 3, 1) := by decide +kernel
theorem dX12_slips_48 : decode cX12_slips 48 = .ok (.ifCond .ne 10, 3) := by decide +kernel
theorem dX12_slips_51 : decode cX12_slips 51 = .ok (.aload_n 0, 1) := by decide +kernel
theorem dX12_slips_52 : decode cX12_slips 52 = .ok (.getfield 479, 3) := by decide +kernel
theorem dX12_slips_55 : decode cX12_slips 55 = .ok (.goto 19, 3) := by decide +kernel
theorem dX12_slips_58 : decode cX12_slips 58 = .ok (.iload_n 3, 1) := by decide +kernel
theorem dX12_slips_59 : decode cX12_slips 59 = .ok (.iconst 1, 1) := by decide +kernel
theorem dX12_slips_60 : decode cX12_slips 60 = .ok (.if_icmp .ne 10, 3) := by decide +kernel
theorem dX12_slips_63 : decode cX12_slips 63 = .ok (.aload_n 0, 1) := by decide +kernel
theorem dX12_slips_64 : decode cX12_slips 64 = .ok (.getfield 488, 3) := by decide +kernel
theorem dX12_slips_67 : decode cX12_slips 67 = .ok (.goto 7, 3) := by decide +kernel
theorem dX12_slips_70 : decode cX12_slips 70 = .ok (.aload_n 0, 1) := by decide +kernel
theorem dX12_slips_71 : decode cX12_slips 71 = .ok (.getfield 485, 3) := by decide +kernel
theorem dX12_slips_74 : decode cX12_slips 74 = .ok (.invokevirtual 237, 3) := by decide +kernel
theorem dX12_slips_77 : decode cX12_slips 77 = .ok (.ireturn, 1) := by decide +kernel
noncomputable def B_X12_slips_0 : pb_C := (i_aload 0 (i_iload 1 (i_callV 64 1 1 M_X12_isFamily (i_if_eq (i_aload 0 (i_const (.int 1) (i_callV 64 1 1 M_X12_refuse i_iret))) (i_iload 2 (i_callS 1 1 M_X12_isWeek (i_if_eq (i_aload 0 (i_const (.int 1) (i_callV 64 1 1 M_X12_refuse i_iret))) (i_iload 3 (i_if_lt (i_aload 0 (i_const (.int 1) (i_callV 64 1 1 M_X12_refuse i_iret))) (i_iload 3 (i_const (.int 2) (i_ic_le (i_aload 0 (i_iload 1 (i_iload 2 (i_callV 64 2 1 M_X12_explains (i_if_ne (i_aload 0 (i_iload 3 (i_if_ne (i_iload 3 (i_const (.int 1) (i_ic_ne (i_aload 0 (i_getI 64 75 (i_callV 64 1 1 M_X12_gives i_iret))) (i_aload 0 (i_getI 64 74 (i_callV 64 1 1 M_X12_gives i_iret)))))) (i_aload 0 (i_getI 64 73 (i_callV 64 1 1 M_X12_gives i_iret)))))) (i_aload 0 (i_const (.int 6) (i_callV 64 1 1 M_X12_refuse i_iret)))))))) (i_aload 0 (i_const (.int 1) (i_callV 64 1 1 M_X12_refuse i_iret)))))))))))))))
noncomputable def T_X12_slips : Nat → pb_C := pb_tt [(0, B_X12_slips_0)]
noncomputable def M_X12_slips : pb_F := pb_M T_X12_slips 4
set_option maxRecDepth 100000 in
set_option maxHeartbeats 4000000 in
theorem S_X12_slips (l : Launch) : pb_Sound l yX12_slips cX12_slips 4 (some .int) 8 M_X12_slips := by
  refine pb_sound_of (by decide) m_9_13 ?_
  intro Γ hl0 hRm0 hm X E hr J
  have hnL : ∀ j, j < 4 → j < Γ.2.2.2.2.2.2.2.2.2.2.2.1 := fun j h => by rw [hm]; exact h
  have hR : ∀ (d' mL : Nat), d' + 1 ≤ 8 ∧ 8 + (mL + 11) + d' * 64 ≤ 8 * 64 → (pb_rm d').frames + 1 ≤ Γ.2.2.2.1.frames ∧ 8 + (mL + 11) + (pb_rm d').locals ≤ Γ.2.2.2.1.locals := by rw [hRm0]; exact fun _ _ h => h
  have hRm : 1 ≤ 8 ∧ 64 ≤ 8 * 64 → 1 ≤ Γ.2.2.2.1.frames ∧ 64 ≤ Γ.2.2.2.1.locals := by rw [hRm0]; exact fun h => h
  exact pb_tt_snd _ (List.forall_mem_cons.mpr ⟨(s_aload_n (pc := 0) X dX12_slips_0 rfl (s_iload_n (pc := 1) X dX12_slips_1 rfl (s_callV (pc := 2) X dX12_slips_2 (S_X12_isFamily _) q_X12_284 h_64 rfl (hR _ _ (by decide)) (s_if_eq (pc := 5) X dX12_slips_5 (by decide) (s_aload_n (pc := 24) X dX12_slips_24 rfl (s_iconst (pc := 25) X dX12_slips_25 rfl (s_callV (pc := 26) X dX12_slips_26 (S_X12_refuse _) q_X12_267 h_64 rfl (hR _ _ (by decide)) (s_iret (pc := 29) X E hr dX12_slips_29)))) (s_iload_n (pc := 8) X dX12_slips_8 rfl (s_callS (pc := 9) X dX12_slips_9 (S_X12_isWeek _) q_X12_287 (hR _ _ (by decide)) (s_if_eq (pc := 12) X dX12_slips_12 (by decide) (s_aload_n (pc := 24) X dX12_slips_24 rfl (s_iconst (pc := 25) X dX12_slips_25 rfl (s_callV (pc := 26) X dX12_slips_26 (S_X12_refuse _) q_X12_267 h_64 rfl (hR _ _ (by decide)) (s_iret (pc := 29) X E hr dX12_slips_29)))) (s_iload_n (pc := 15) X dX12_slips_15 rfl (s_if_lt (pc := 16) X dX12_slips_16 (by decide) (s_aload_n (pc := 24) X dX12_slips_24 rfl (s_iconst (pc := 25) X dX12_slips_25 rfl (s_callV (pc := 26) X dX12_slips_26 (S_X12_refuse _) q_X12_267 h_64 rfl (hR _ _ (by decide)) (s_iret (pc := 29) X E hr dX12_slips_29)))) (s_iload_n (pc := 19) X dX12_slips_19 rfl (s_iconst (pc := 20) X dX12_slips_20 rfl (s_ic_le (pc := 21) X dX12_slips_21 (by decide) (s_aload_n (pc := 30) X dX12_slips_30 rfl (s_iload_n (pc := 31) X dX12_slips_31 rfl (s_iload_n (pc := 32) X dX12_slips_32 rfl (s_callV (pc := 33) X dX12_slips_33 (S_X12_explains _) q_X12_506 h_64 rfl (hR _ _ (by decide)) (s_if_ne (pc := 36) X dX12_slips_36 (by decide) (s_aload_n (pc := 46) X dX12_slips_46 rfl (s_iload_n (pc := 47) X dX12_slips_47 rfl (s_if_ne (pc := 48) X dX12_slips_48 (by decide) (s_iload_n (pc := 58) X dX12_slips_58 rfl (s_iconst (pc := 59) X dX12_slips_59 rfl (s_ic_ne (pc := 60) X dX12_slips_60 (by decide) (s_aload_n (pc := 70) X dX12_slips_70 rfl (s_getI (pc := 71) X dX12_slips_71 g_X12_485 (s_callV (pc := 74) X dX12_slips_74 (S_X12_gives _) q_X12_237 h_64 rfl (hR _ _ (by decide)) (s_iret (pc := 77) X E hr dX12_slips_77)))) (s_aload_n (pc := 63) X dX12_slips_63 rfl (s_getI (pc := 64) X dX12_slips_64 g_X12_488 (s_goto (pc := 67) X dX12_slips_67 (by decide) (s_callV (pc := 74) X dX12_slips_74 (S_X12_gives _) q_X12_237 h_64 rfl (hR _ _ (by decide)) (s_iret (pc := 77) X E hr dX12_slips_77)))))))) (s_aload_n (pc := 51) X dX12_slips_51 rfl (s_getI (pc := 52) X dX12_slips_52 g_X12_479 (s_goto (pc := 55) X dX12_slips_55 (by decide) (s_callV (pc := 74) X dX12_slips_74 (S_X12_gives _) q_X12_237 h_64 rfl (hR _ _ (by decide)) (s_iret (pc := 77) X E hr dX12_slips_77)))))))) (s_aload_n (pc := 39) X dX12_slips_39 rfl (s_bipush (pc := 40) X dX12_slips_40 rfl (s_callV (pc := 42) X dX12_slips_42 (S_X12_refuse _) q_X12_267 h_64 rfl (hR _ _ (by decide)) (s_iret (pc := 45) X E hr dX12_slips_45))))))))) (s_aload_n (pc := 24) X dX12_slips_24 rfl (s_iconst (pc := 25) X dX12_slips_25 rfl (s_callV (pc := 26) X dX12_slips_26 (S_X12_refuse _) q_X12_267 h_64 rfl (hR _ _ (by decide)) (s_iret (pc := 29) X E hr dX12_slips_29)))))))))))))))), fun _ h => absurd h List.not_mem_nil⟩)
theorem dX12_slip_0 : decode cX12_slip 0 = .ok (.aload_n 0, 1) := by decide +kernel
theorem dX12_slip_1 : decode cX12_slip 1 = .ok (.iload_n 1, 1) := by decide +kernel
theorem dX12_slip_2 : decode cX12_slip 2 = .ok (.invokevirtual 299, 3) := by decide +kernel
theorem dX12_slip_5 : decode cX12_slip 5 = .ok (.ifCond .ne 9, 3) := by decide +kernel
theorem dX12_slip_8 : decode cX12_slip 8 = .ok (.aload_n 0, 1) := by decide +kernel
theorem dX12_slip_9 : decode cX12_slip 9 = .ok (.iconst 1, 1) := by decide +kernel
theorem dX12_slip_10 : decode cX12_slip 10 = .ok (.invokevirtual 267, 3) := by decide +kernel
theorem dX12_slip_13 : decode cX12_slip 13 = .ok (.ireturn, 1) := by decide +kernel
theorem dX12_slip_14 : decode cX12_slip 14 = .ok (.aload_n 0, 1) := by decide +kernel
theorem dX12_slip_15 : decode cX12_slip 15 = .ok (.iload_n 1, 1) := by decide +kernel
theorem dX12_slip_16 : decode cX12_slip 16 = .ok (.invokevirtual 305, 3) := by decide +kernel
theorem dX12_slip_19 : decode cX12_slip 19 = .ok (.ifCond .eq 31, 3) := by decide +kernel
theorem dX12_slip_22 : decode cX12_slip 22 = .ok (.aload_n 0, 1) := by decide +kernel
theorem dX12_slip_23 : decode cX12_slip 23 = .ok (.getfield 67, 3) := by decide +kernel
theorem dX12_slip_26 : decode cX12_slip 26 = .ok (.iload_n 1, 1) := by decide +kernel
theorem dX12_slip_27 : decode cX12_slip 27 = .ok (.baload, 1) := by decide +kernel
theorem dX12_slip_28 : decode cX12_slip 28 = .ok (.ifCond .ne 22, 3) := by decide +kernel
theorem dX12_slip_31 : decode cX12_slip 31 = .ok (.aload_n 0, 1) := by decide +kernel
theorem dX12_slip_32 : decode cX12_slip 32 = .ok (.aload_n 0, 1) := by decide +kernel
theorem dX12_slip_33 : decode cX12_slip 33 = .ok (.getfield 34, 3) := by decide +kernel
theorem dX12_slip_36 : decode cX12_slip 36 = .ok (.iload_n 1, 1) := by decide +kernel
theorem dX12_slip_37 : decode cX12_slip 37 = .ok (.iaload, 1) := by decide +kernel
theorem dX12_slip_38 : decode cX12_slip 38 = .ok (.aload_n 0, 1) := by decide +kernel
theorem dX12_slip_39 : decode cX12_slip 39 = .ok (.getfield 37, 3) := by decide +kernel
theorem dX12_slip_42 : decode cX12_slip 42 = .ok (.iload_n 1, 1) := by decide +kernel
theorem dX12_slip_43 : decode cX12_slip 43 = .ok (.iaload, 1) := by decide +kernel
theorem dX12_slip_44 : decode cX12_slip 44 = .ok (.invokevirtual 506, 3) := by decide +kernel
theorem dX12_slip_47 : decode cX12_slip 47 = .ok (.ifCond .ne 10, 3) := by decide +kernel
theorem dX12_slip_50 : decode cX12_slip 50 = .ok (.aload_n 0, 1) := by decide +kernel
theorem dX12_slip_51 : decode cX12_slip 51 = .ok (.bipush 6, 2) := by decide +kernel
theorem dX12_slip_53 : decode cX12_slip 53 = .ok (.invokevirtual 267, 3) := by decide +kernel
theorem dX12_slip_56 : decode cX12_slip 56 = .ok (.ireturn, 1) := by decide +kernel
theorem dX12_slip_57 : decode cX12_slip 57 = .ok (.iconst 0, 1) := by decide +kernel
theorem dX12_slip_58 : decode cX12_slip 58 = .ok (.istore_n 2, 1) := by decide +kernel
theorem dX12_slip_59 : decode cX12_slip 59 = .ok (.iconst 0, 1) := by decide +kernel
theorem dX12_slip_60 : decode cX12_slip 60 = .ok (.istore_n 3, 1) := by decide +kernel
theorem dX12_slip_61 : decode cX12_slip 61 = .ok (.iload_n 3, 1) := by decide +kernel
theorem dX12_slip_62 : decode cX12_slip 62 = .ok (.aload_n 0, 1) := by decide +kernel
theorem dX12_slip_63 : decode cX12_slip 63 = .ok (.getfield 491, 3) := by decide +kernel
theorem dX12_slip_66 : decode cX12_slip 66 = .ok (.if_icmp .ge 26, 3) := by decide +kernel
theorem dX12_slip_69 : decode cX12_slip 69 = .ok (.aload_n 0, 1) := by decide +kernel
theorem dX12_slip_70 : decode cX12_slip 70 = .ok (.getfield 156, 3) := by decide +kernel
theorem dX12_slip_73 : decode cX12_slip 73 = .ok (.iload_n 3, 1) := by decide +kernel
theorem dX12_slip_74 : decode cX12_slip 74 = .ok (.iaload, 1) := by decide +kernel
theorem dX12_slip_75 : decode cX12_slip 75 = .ok (.iload_n 1, 1) := by decide +kernel
theorem dX12_slip_76 : decode cX12_slip 76 = .ok (.if_icmp .ne 10, 3) := by decide +kernel
theorem dX12_slip_79 : decode cX12_slip 79 = .ok (.aload_n 0, 1) := by decide +kernel
theorem dX12_slip_80 : decode cX12_slip 80 = .ok (.getfield 162, 3) := by decide +kernel
theorem dX12_slip_83 : decode cX12_slip 83 = .ok (.iload_n 3, 1) := by decide +kernel
theorem dX12_slip_84 : decode cX12_slip 84 = .ok (.iaload, 1) := by decide +kernel
theorem dX12_slip_85 : decode cX12_slip 85 = .ok (.istore_n 2, 1) := by decide +kernel
theorem dX12_slip_86 : decode cX12_slip 86 = .ok (.iinc 3 1, 3) := by decide +kernel
theorem dX12_slip_89 : decode cX12_slip 89 = .ok (.goto (-28), 3) := by decide +kernel
theorem dX12_slip_92 : decode cX12_slip 92 = .ok (.aload_n 0, 1) := by decide +kernel
theorem dX12_slip_93 : decode cX12_slip 93 = .ok (.iload_n 2, 1) := by decide +kernel
theorem dX12_slip_94 : decode cX12_slip 94 = .ok (.invokevirtual 237, 3) := by decide +kernel
theorem dX12_slip_97 : decode cX12_slip 97 = .ok (.ireturn, 1) := by decide +kernel
noncomputable def B_X12_slip_0 : pb_C := (i_aload 0 (i_iload 1 (i_callV 64 1 1 M_X12_isLine (i_if_ne (i_aload 0 (i_iload 1 (i_callV 64 1 1 M_X12_isKnown (i_if_eq (i_aload 0 (i_const (.int 6) (i_callV 64 1 1 M_X12_refuse i_iret))) (i_aload 0 (i_getR 64 81 (i_iload 1 (i_ald 81 200 (i_if_ne (i_aload 0 (i_const (.int 6) (i_callV 64 1 1 M_X12_refuse i_iret))) (i_aload 0 (i_aload 0 (i_getR 64 70 (i_iload 1 (i_ald 70 200 (i_aload 0 (i_getR 64 71 (i_iload 1 (i_ald 71 200 (i_callV 64 2 1 M_X12_explains (i_if_ne (i_const (.int 0) (i_istore 2 (i_const (.int 0) (i_istore 3 (i_jmp 61 [true, true, true, true]))))) (i_aload 0 (i_const (.int 6) (i_callV 64 1 1 M_X12_refuse i_iret))))))))))))))))))))))) (i_aload 0 (i_const (.int 1) (i_callV 64 1 1 M_X12_refuse i_iret)))))))
noncomputable def B_X12_slip_61 : pb_C := (i_iload 3 (i_aload 0 (i_getI 64 71 (i_ic_ge (i_aload 0 (i_iload 2 (i_callV 64 1 1 M_X12_gives i_iret))) (i_aload 0 (i_getR 64 107 (i_iload 3 (i_ald 107 200 (i_iload 1 (i_ic_ne (i_iinc 3 1 (i_jmp 61 [true, true, true, true])) (i_aload 0 (i_getR 64 109 (i_iload 3 (i_ald 109 9 (i_istore 2 (i_iinc 3 1 (i_jmp 61 [true, true, true, true])))))))))))))))))
noncomputable def T_X12_slip : Nat → pb_C := pb_tt [(0, B_X12_slip_0), (61, B_X12_slip_61)]
noncomputable def M_X12_slip : pb_F := pb_M T_X12_slip 4
set_option maxRecDepth 100000 in
set_option maxHeartbeats 4000000 in
theorem S_X12_slip (l : Launch) : pb_Sound l yX12_slip cX12_slip 4 (some .int) 8 M_X12_slip := by
  refine pb_sound_of (by decide) m_9_42 ?_
  intro Γ hl0 hRm0 hm X E hr J
  have hnL : ∀ j, j < 4 → j < Γ.2.2.2.2.2.2.2.2.2.2.2.1 := fun j h => by rw [hm]; exact h
  have hR : ∀ (d' mL : Nat), d' + 1 ≤ 8 ∧ 8 + (mL + 11) + d' * 64 ≤ 8 * 64 → (pb_rm d').frames + 1 ≤ Γ.2.2.2.1.frames ∧ 8 + (mL + 11) + (pb_rm d').locals ≤ Γ.2.2.2.1.locals := by rw [hRm0]; exact fun _ _ h => h
  have hRm : 1 ≤ 8 ∧ 64 ≤ 8 * 64 → 1 ≤ Γ.2.2.2.1.frames ∧ 64 ≤ Γ.2.2.2.1.locals := by rw [hRm0]; exact fun h => h
  exact pb_tt_snd _ (List.forall_mem_cons.mpr ⟨(s_aload_n (pc := 0) X dX12_slip_0 rfl (s_iload_n (pc := 1) X dX12_slip_1 rfl (s_callV (pc := 2) X dX12_slip_2 (S_X12_isLine _) q_X12_299 h_64 rfl (hR _ _ (by decide)) (s_if_ne (pc := 5) X dX12_slip_5 (by decide) (s_aload_n (pc := 14) X dX12_slip_14 rfl (s_iload_n (pc := 15) X dX12_slip_15 rfl (s_callV (pc := 16) X dX12_slip_16 (S_X12_isKnown _) q_X12_305 h_64 rfl (hR _ _ (by decide)) (s_if_eq (pc := 19) X dX12_slip_19 (by decide) (s_aload_n (pc := 50) X dX12_slip_50 rfl (s_bipush (pc := 51) X dX12_slip_51 rfl (s_callV (pc := 53) X dX12_slip_53 (S_X12_refuse _) q_X12_267 h_64 rfl (hR _ _ (by decide)) (s_iret (pc := 56) X E hr dX12_slip_56)))) (s_aload_n (pc := 22) X dX12_slip_22 rfl (s_getR (pc := 23) X dX12_slip_23 g_X12_67 (s_iload_n (pc := 26) X dX12_slip_26 rfl (s_zald (pc := 27) X dX12_slip_27 h_81 (s_if_ne (pc := 28) X dX12_slip_28 (by decide) (s_aload_n (pc := 50) X dX12_slip_50 rfl (s_bipush (pc := 51) X dX12_slip_51 rfl (s_callV (pc := 53) X dX12_slip_53 (S_X12_refuse _) q_X12_267 h_64 rfl (hR _ _ (by decide)) (s_iret (pc := 56) X E hr dX12_slip_56)))) (s_aload_n (pc := 31) X dX12_slip_31 rfl (s_aload_n (pc := 32) X dX12_slip_32 rfl (s_getR (pc := 33) X dX12_slip_33 g_X12_34 (s_iload_n (pc := 36) X dX12_slip_36 rfl (s_iald (pc := 37) X dX12_slip_37 h_70 (s_aload_n (pc := 38) X dX12_slip_38 rfl (s_getR (pc := 39) X dX12_slip_39 g_X12_37 (s_iload_n (pc := 42) X dX12_slip_42 rfl (s_iald (pc := 43) X dX12_slip_43 h_71 (s_callV (pc := 44) X dX12_slip_44 (S_X12_explains _) q_X12_506 h_64 rfl (hR _ _ (by decide)) (s_if_ne (pc := 47) X dX12_slip_47 (by decide) (s_iconst (pc := 57) X dX12_slip_57 rfl (s_istore_n (pc := 58) X dX12_slip_58 rfl (hnL _ (by decide)) (s_iconst (pc := 59) X dX12_slip_59 rfl (s_istore_n (pc := 60) X dX12_slip_60 rfl (hnL _ (by decide)) (s_jmp (pc := 61) J [true, true, true, true]))))) (s_aload_n (pc := 50) X dX12_slip_50 rfl (s_bipush (pc := 51) X dX12_slip_51 rfl (s_callV (pc := 53) X dX12_slip_53 (S_X12_refuse _) q_X12_267 h_64 rfl (hR _ _ (by decide)) (s_iret (pc := 56) X E hr dX12_slip_56)))))))))))))))))))))))) (s_aload_n (pc := 8) X dX12_slip_8 rfl (s_iconst (pc := 9) X dX12_slip_9 rfl (s_callV (pc := 10) X dX12_slip_10 (S_X12_refuse _) q_X12_267 h_64 rfl (hR _ _ (by decide)) (s_iret (pc := 13) X E hr dX12_slip_13)))))))), List.forall_mem_cons.mpr ⟨(s_iload_n (pc := 61) X dX12_slip_61 rfl (s_aload_n (pc := 62) X dX12_slip_62 rfl (s_getI (pc := 63) X dX12_slip_63 g_X12_491 (s_ic_ge (pc := 66) X dX12_slip_66 (by decide) (s_aload_n (pc := 92) X dX12_slip_92 rfl (s_iload_n (pc := 93) X dX12_slip_93 rfl (s_callV (pc := 94) X dX12_slip_94 (S_X12_gives _) q_X12_237 h_64 rfl (hR _ _ (by decide)) (s_iret (pc := 97) X E hr dX12_slip_97)))) (s_aload_n (pc := 69) X dX12_slip_69 rfl (s_getR (pc := 70) X dX12_slip_70 g_X12_156 (s_iload_n (pc := 73) X dX12_slip_73 rfl (s_iald (pc := 74) X dX12_slip_74 h_107 (s_iload_n (pc := 75) X dX12_slip_75 rfl (s_ic_ne (pc := 76) X dX12_slip_76 (by decide) (s_iinc (pc := 86) X dX12_slip_86 rfl (s_goto (pc := 89) X dX12_slip_89 (by decide) (s_jmp (pc := 61) J [true, true, true, true]))) (s_aload_n (pc := 79) X dX12_slip_79 rfl (s_getR (pc := 80) X dX12_slip_80 g_X12_162 (s_iload_n (pc := 83) X dX12_slip_83 rfl (s_iald (pc := 84) X dX12_slip_84 h_109 (s_istore_n (pc := 85) X dX12_slip_85 rfl (hnL _ (by decide)) (s_iinc (pc := 86) X dX12_slip_86 rfl (s_goto (pc := 89) X dX12_slip_89 (by decide) (s_jmp (pc := 61) J [true, true, true, true])))))))))))))))))), fun _ h => absurd h List.not_mem_nil⟩⟩)
theorem dX12_rules_0 : decode cX12_rules 0 = .ok (.iload_n 1, 1) := by decide +kernel
theorem dX12_rules_1 : decode cX12_rules 1 = .ok (.iconst 1, 1) := by decide +kernel
theorem dX12_rules_2 : decode cX12_rules 2 = .ok (.if_icmp .lt 20, 3) := by decide +kernel
theorem dX12_rules_5 : decode cX12_rules 5 = .ok (.iload_n 1, 1) := by decide +kernel
theorem dX12_rules_6 : decode cX12_rules 6 = .ok (.bipush 60, 2) := by decide +kernel
theorem dX12_rules_8 : decode cX12_rules 8 = .ok (.if_icmp .gt 14, 3) := by decide +kernel
theorem dX12_rules_11 : decode cX12_rules 11 = .ok (.iload_n 2, 1) := by decide +kernel
theorem dX12_rules_12 : decode cX12_rules 12 = .ok (.iconst 1, 1) := by decide +kernel
theorem dX12_rules_13 : decode cX12_rules 13 = .ok (.if_icmp .lt 9, 3) := by decide +kernel
theorem dX12_rules_16 : decode cX12_rules 16 = .ok (.iload_n 2, 1) := by decide +kernel
theorem dX12_rules_17 : decode cX12_rules 17 = .ok (.bipush 12, 2) := by decide +kernel
theorem dX12_rules_19 : decode cX12_rules 19 = .ok (.if_icmp .le 9, 3) := by decide +kernel
theorem dX12_rules_22 : decode cX12_rules 22 = .ok (.aload_n 0, 1) := by decide +kernel
theorem dX12_rules_23 : decode cX12_rules 23 = .ok (.iconst 1, 1) := by decide +kernel
theorem dX12_rules_24 : decode cX12_rules 24 = .ok (.invokevirtual 245, 3) := by decide +kernel
theorem dX12_rules_27 : decode cX12_rules 27 = .ok (.ireturn, 1) := by decide +kernel
theorem dX12_rules_28 : decode cX12_rules 28 = .ok (.aload_n 0, 1) := by decide +kernel
theorem dX12_rules_29 : decode cX12_rules 29 = .ok (.iload_n 1, 1) := by decide +kernel
theorem dX12_rules_30 : decode cX12_rules 30 = .ok (.putfield 165, 3) := by decide +kernel
theorem dX12_rules_33 : decode cX12_rules 33 = .ok (.aload_n 0, 1) := by decide +kernel
theorem dX12_rules_34 : decode cX12_rules 34 = .ok (.iload_n 2, 1) := by decide +kernel
theorem dX12_rules_35 : decode cX12_rules 35 = .ok (.putfield 168, 3) := by decide +kernel
theorem dX12_rules_38 : decode cX12_rules 38 = .ok (.aload_n 0, 1) := by decide +kernel
theorem dX12_rules_39 : decode cX12_rules 39 = .ok (.iconst 0, 1) := by decide +kernel
theorem dX12_rules_40 : decode cX12_rules 40 = .ok (.invokevirtual 245, 3) := by decide +kernel
theorem dX12_rules_43 : decode cX12_rules 43 = .ok (.ireturn, 1) := by decide +kernel
noncomputable def B_X12_rules_0 : pb_C := (i_iload 1 (i_const (.int 1) (i_ic_lt (i_aload 0 (i_const (.int 1) (i_callV 64 1 1 M_X12_is i_zret))) (i_iload 1 (i_const (.int 60) (i_ic_gt (i_aload 0 (i_const (.int 1) (i_callV 64 1 1 M_X12_is i_zret))) (i_iload 2 (i_const (.int 1) (i_ic_lt (i_aload 0 (i_const (.int 1) (i_callV 64 1 1 M_X12_is i_zret))) (i_iload 2 (i_const (.int 12) (i_ic_le (i_aload 0 (i_iload 1 (i_putI 64 76 (i_aload 0 (i_iload 2 (i_putI 64 77 (i_aload 0 (i_const (.int 0) (i_callV 64 1 1 M_X12_is i_zret))))))))) (i_aload 0 (i_const (.int 1) (i_callV 64 1 1 M_X12_is i_zret)))))))))))))))
noncomputable def T_X12_rules : Nat → pb_C := pb_tt [(0, B_X12_rules_0)]
noncomputable def M_X12_rules : pb_F := pb_M T_X12_rules 3
set_option maxRecDepth 100000 in
set_option maxHeartbeats 4000000 in
theorem S_X12_rules (l : Launch) : pb_Sound l yX12_rules cX12_rules 3 (some .boolean) 2 M_X12_rules := by
  refine pb_sound_of (by decide) m_9_46 ?_
  intro Γ hl0 hRm0 hm X E hr J
  have hnL : ∀ j, j < 3 → j < Γ.2.2.2.2.2.2.2.2.2.2.2.1 := fun j h => by rw [hm]; exact h
  have hR : ∀ (d' mL : Nat), d' + 1 ≤ 2 ∧ 8 + (mL + 11) + d' * 64 ≤ 2 * 64 → (pb_rm d').frames + 1 ≤ Γ.2.2.2.1.frames ∧ 8 + (mL + 11) + (pb_rm d').locals ≤ Γ.2.2.2.1.locals := by rw [hRm0]; exact fun _ _ h => h
  have hRm : 1 ≤ 2 ∧ 64 ≤ 2 * 64 → 1 ≤ Γ.2.2.2.1.frames ∧ 64 ≤ Γ.2.2.2.1.locals := by rw [hRm0]; exact fun h => h
  exact pb_tt_snd _ (List.forall_mem_cons.mpr ⟨(s_iload_n (pc := 0) X dX12_rules_0 rfl (s_iconst (pc := 1) X dX12_rules_1 rfl (s_ic_lt (pc := 2) X dX12_rules_2 (by decide) (s_aload_n (pc := 22) X dX12_rules_22 rfl (s_iconst (pc := 23) X dX12_rules_23 rfl (s_callV (pc := 24) X dX12_rules_24 (S_X12_is _) q_X12_245 h_64 rfl (hR _ _ (by decide)) (s_zret (pc := 27) X E hr dX12_rules_27)))) (s_iload_n (pc := 5) X dX12_rules_5 rfl (s_bipush (pc := 6) X dX12_rules_6 rfl (s_ic_gt (pc := 8) X dX12_rules_8 (by decide) (s_aload_n (pc := 22) X dX12_rules_22 rfl (s_iconst (pc := 23) X dX12_rules_23 rfl (s_callV (pc := 24) X dX12_rules_24 (S_X12_is _) q_X12_245 h_64 rfl (hR _ _ (by decide)) (s_zret (pc := 27) X E hr dX12_rules_27)))) (s_iload_n (pc := 11) X dX12_rules_11 rfl (s_iconst (pc := 12) X dX12_rules_12 rfl (s_ic_lt (pc := 13) X dX12_rules_13 (by decide) (s_aload_n (pc := 22) X dX12_rules_22 rfl (s_iconst (pc := 23) X dX12_rules_23 rfl (s_callV (pc := 24) X dX12_rules_24 (S_X12_is _) q_X12_245 h_64 rfl (hR _ _ (by decide)) (s_zret (pc := 27) X E hr dX12_rules_27)))) (s_iload_n (pc := 16) X dX12_rules_16 rfl (s_bipush (pc := 17) X dX12_rules_17 rfl (s_ic_le (pc := 19) X dX12_rules_19 (by decide) (s_aload_n (pc := 28) X dX12_rules_28 rfl (s_iload_n (pc := 29) X dX12_rules_29 rfl (s_putI (pc := 30) X dX12_rules_30 p_X12_165 (s_aload_n (pc := 33) X dX12_rules_33 rfl (s_iload_n (pc := 34) X dX12_rules_34 rfl (s_putI (pc := 35) X dX12_rules_35 p_X12_168 (s_aload_n (pc := 38) X dX12_rules_38 rfl (s_iconst (pc := 39) X dX12_rules_39 rfl (s_callV (pc := 40) X dX12_rules_40 (S_X12_is _) q_X12_245 h_64 rfl (hR _ _ (by decide)) (s_zret (pc := 43) X E hr dX12_rules_43)))))))))) (s_aload_n (pc := 22) X dX12_rules_22 rfl (s_iconst (pc := 23) X dX12_rules_23 rfl (s_callV (pc := 24) X dX12_rules_24 (S_X12_is _) q_X12_245 h_64 rfl (hR _ _ (by decide)) (s_zret (pc := 27) X E hr dX12_rules_27)))))))))))))))), fun _ h => absurd h List.not_mem_nil⟩)
