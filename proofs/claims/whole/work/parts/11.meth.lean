theorem dJ0_indexOf_7cf53_0 : decode cJ0_indexOf_7cf53 0 = .ok (.aload_n 0, 1) := by decide +kernel
theorem dJ0_indexOf_7cf53_1 : decode cJ0_indexOf_7cf53 1 = .ok (.invokevirtual 492, 3) := by decide +kernel
theorem dJ0_indexOf_7cf53_4 : decode cJ0_indexOf_7cf53 4 = .ok (.ifCond .eq 19, 3) := by decide +kernel
theorem dJ0_indexOf_7cf53_7 : decode cJ0_indexOf_7cf53 7 = .ok (.aload_n 0, 1) := by decide +kernel
theorem dJ0_indexOf_7cf53_8 : decode cJ0_indexOf_7cf53 8 = .ok (.getfield 9, 3) := by decide +kernel
theorem dJ0_indexOf_7cf53_11 : decode cJ0_indexOf_7cf53 11 = .ok (.iload_n 1, 1) := by decide +kernel
theorem dJ0_indexOf_7cf53_12 : decode cJ0_indexOf_7cf53 12 = .ok (.iload_n 2, 1) := by decide +kernel
theorem dJ0_indexOf_7cf53_13 : decode cJ0_indexOf_7cf53 13 = .ok (.aload_n 0, 1) := by decide +kernel
theorem dJ0_indexOf_7cf53_14 : decode cJ0_indexOf_7cf53 14 = .ok (.invokevirtual 505, 3) := by decide +kernel
theorem dJ0_indexOf_7cf53_17 : decode cJ0_indexOf_7cf53 17 = .ok (.invokestatic 637, 3) := by decide +kernel
theorem dJ0_indexOf_7cf53_20 : decode cJ0_indexOf_7cf53 20 = .ok (.goto 16, 3) := by decide +kernel
theorem dJ0_indexOf_7cf53_23 : decode cJ0_indexOf_7cf53 23 = .ok (.aload_n 0, 1) := by decide +kernel
theorem dJ0_indexOf_7cf53_24 : decode cJ0_indexOf_7cf53 24 = .ok (.getfield 9, 3) := by decide +kernel
theorem dJ0_indexOf_7cf53_27 : decode cJ0_indexOf_7cf53 27 = .ok (.iload_n 1, 1) := by decide +kernel
theorem dJ0_indexOf_7cf53_28 : decode cJ0_indexOf_7cf53 28 = .ok (.iload_n 2, 1) := by decide +kernel
theorem dJ0_indexOf_7cf53_29 : decode cJ0_indexOf_7cf53 29 = .ok (.aload_n 0, 1) := by decide +kernel
theorem dJ0_indexOf_7cf53_30 : decode cJ0_indexOf_7cf53 30 = .ok (.invokevirtual 505, 3) := by decide +kernel
theorem dJ0_indexOf_7cf53_33 : decode cJ0_indexOf_7cf53 33 = .ok (.invokestatic 640, 3) := by decide +kernel
theorem dJ0_indexOf_7cf53_36 : decode cJ0_indexOf_7cf53 36 = .ok (.ireturn, 1) := by decide +kernel
noncomputable def B_J0_indexOf_7cf53_300_0 : pb_C := (i_aload 0 (i_callV (300 + 0) 0 1 M_J0_isLatin1_aae02_300 (i_if_eq (i_aload 0 (i_getC 300 (.ref 310) (i_iload 1 (i_iload 2 (i_aload 0 (i_callV (300 + 0) 0 1 M_J0_length_8abf5_300 i_fail)))))) (i_aload 0 (i_getC 300 (.ref 310) (i_iload 1 (i_iload 2 (i_aload 0 (i_callV (300 + 0) 0 1 M_J0_length_8abf5_300 (i_callS 4 1 M_J1_indexOf_4cfef_310 i_iret))))))))))
noncomputable def T_J0_indexOf_7cf53_300 : Nat → pb_C := pb_tt [(0, B_J0_indexOf_7cf53_300_0)]
noncomputable def M_J0_indexOf_7cf53_300 : pb_F := pb_M T_J0_indexOf_7cf53_300 3
set_option maxRecDepth 100000 in
set_option maxHeartbeats 4000000 in
theorem S_J0_indexOf_7cf53_300 (l : Launch) : pb_Sound l yJ0_indexOf_7cf53 cJ0_indexOf_7cf53 3 (some .int) 3 M_J0_indexOf_7cf53_300 := by
  refine pb_sound_of (by decide) m_4_9 ?_
  intro Γ hl0 hRm0 hm X E hr J
  have hnL : ∀ j, j < 3 → j < Γ.2.2.2.2.2.2.2.2.2.2.2.1 := fun j h => by rw [hm]; exact h
  have hR : ∀ (d' mL : Nat), d' + 1 ≤ 3 ∧ 8 + (mL + 11) + d' * 64 ≤ 3 * 64 → (pb_rm d').frames + 1 ≤ Γ.2.2.2.1.frames ∧ 8 + (mL + 11) + (pb_rm d').locals ≤ Γ.2.2.2.1.locals := by rw [hRm0]; exact fun _ _ h => h
  have hRm : 1 ≤ 3 ∧ 64 ≤ 3 * 64 → 1 ≤ Γ.2.2.2.1.frames ∧ 64 ≤ Γ.2.2.2.1.locals := by rw [hRm0]; exact fun h => h
  exact pb_tt_snd _ (List.forall_mem_cons.mpr ⟨(s_aload_n (pc := 0) X dJ0_indexOf_7cf53_0 rfl (s_callT (pc := 1) X dJ0_indexOf_7cf53_1 (i := 0) (S_J0_isLatin1_aae02_300 _) q_J0_492 (by decide) rfl (hR _ _ (by decide)) (s_if_eq (pc := 4) X dJ0_indexOf_7cf53_4 (by decide) (s_aload_n (pc := 23) X dJ0_indexOf_7cf53_23 rfl (s_getC (pc := 24) X dJ0_indexOf_7cf53_24 (o := 300) (v := .ref 310) m_9_167 (fun ad A U H h => (h.1.1 0 (by decide)).2.2.1) (s_iload_n (pc := 27) X dJ0_indexOf_7cf53_27 rfl (s_iload_n (pc := 28) X dJ0_indexOf_7cf53_28 rfl (s_aload_n (pc := 29) X dJ0_indexOf_7cf53_29 rfl (s_callT (pc := 30) X dJ0_indexOf_7cf53_30 (i := 0) (S_J0_length_8abf5_300 _) q_J0_505 (by decide) rfl (hR _ _ (by decide)) s_fail)))))) (s_aload_n (pc := 7) X dJ0_indexOf_7cf53_7 rfl (s_getC (pc := 8) X dJ0_indexOf_7cf53_8 (o := 300) (v := .ref 310) m_9_167 (fun ad A U H h => (h.1.1 0 (by decide)).2.2.1) (s_iload_n (pc := 11) X dJ0_indexOf_7cf53_11 rfl (s_iload_n (pc := 12) X dJ0_indexOf_7cf53_12 rfl (s_aload_n (pc := 13) X dJ0_indexOf_7cf53_13 rfl (s_callT (pc := 14) X dJ0_indexOf_7cf53_14 (i := 0) (S_J0_length_8abf5_300 _) q_J0_505 (by decide) rfl (hR _ _ (by decide)) (s_callS (pc := 17) X dJ0_indexOf_7cf53_17 (S_J1_indexOf_4cfef_310 _) q_J0_637 (hR _ _ (by decide)) (s_goto (pc := 20) X dJ0_indexOf_7cf53_20 (by decide) (s_iret (pc := 36) X E hr dJ0_indexOf_7cf53_36)))))))))))), fun _ h => absurd h List.not_mem_nil⟩)
theorem dJ0_indexOf_0f7a4_0 : decode cJ0_indexOf_0f7a4 0 = .ok (.aload_n 0, 1) := by decide +kernel
theorem dJ0_indexOf_0f7a4_1 : decode cJ0_indexOf_0f7a4 1 = .ok (.iload_n 1, 1) := by decide +kernel
theorem dJ0_indexOf_0f7a4_2 : decode cJ0_indexOf_0f7a4 2 = .ok (.iconst 0, 1) := by decide +kernel
theorem dJ0_indexOf_0f7a4_3 : decode cJ0_indexOf_0f7a4 3 = .ok (.invokevirtual 633, 3) := by decide +kernel
theorem dJ0_indexOf_0f7a4_6 : decode cJ0_indexOf_0f7a4 6 = .ok (.ireturn, 1) := by decide +kernel
noncomputable def B_J0_indexOf_0f7a4_300_0 : pb_C := (i_aload 0 (i_iload 1 (i_const (.int 0) (i_callV (300 + 0) 2 1 M_J0_indexOf_7cf53_300 i_iret))))
noncomputable def T_J0_indexOf_0f7a4_300 : Nat → pb_C := pb_tt [(0, B_J0_indexOf_0f7a4_300_0)]
noncomputable def M_J0_indexOf_0f7a4_300 : pb_F := pb_M T_J0_indexOf_0f7a4_300 2
set_option maxRecDepth 100000 in
set_option maxHeartbeats 4000000 in
theorem S_J0_indexOf_0f7a4_300 (l : Launch) : pb_Sound l yJ0_indexOf_0f7a4 cJ0_indexOf_0f7a4 2 (some .int) 4 M_J0_indexOf_0f7a4_300 := by
  refine pb_sound_of (by decide) m_4_5 ?_
  intro Γ hl0 hRm0 hm X E hr J
  have hnL : ∀ j, j < 2 → j < Γ.2.2.2.2.2.2.2.2.2.2.2.1 := fun j h => by rw [hm]; exact h
  have hR : ∀ (d' mL : Nat), d' + 1 ≤ 4 ∧ 8 + (mL + 11) + d' * 64 ≤ 4 * 64 → (pb_rm d').frames + 1 ≤ Γ.2.2.2.1.frames ∧ 8 + (mL + 11) + (pb_rm d').locals ≤ Γ.2.2.2.1.locals := by rw [hRm0]; exact fun _ _ h => h
  have hRm : 1 ≤ 4 ∧ 64 ≤ 4 * 64 → 1 ≤ Γ.2.2.2.1.frames ∧ 64 ≤ Γ.2.2.2.1.locals := by rw [hRm0]; exact fun h => h
  exact pb_tt_snd _ (List.forall_mem_cons.mpr ⟨(s_aload_n (pc := 0) X dJ0_indexOf_0f7a4_0 rfl (s_iload_n (pc := 1) X dJ0_indexOf_0f7a4_1 rfl (s_iconst (pc := 2) X dJ0_indexOf_0f7a4_2 rfl (s_callT (pc := 3) X dJ0_indexOf_0f7a4_3 (i := 0) (S_J0_indexOf_7cf53_300 _) q_J0_633 (by decide) rfl (hR _ _ (by decide)) (s_iret (pc := 6) X E hr dJ0_indexOf_0f7a4_6))))), fun _ h => absurd h List.not_mem_nil⟩)
theorem dX5_nextToken_0 : decode cX5_nextToken 0 = .ok (.aload_n 0, 1) := by decide +kernel
theorem dX5_nextToken_1 : decode cX5_nextToken 1 = .ok (.aload_n 0, 1) := by decide +kernel
theorem dX5_nextToken_2 : decode cX5_nextToken 2 = .ok (.getfield 57, 3) := by decide +kernel
theorem dX5_nextToken_5 : decode cX5_nextToken 5 = .ok (.putfield 78, 3) := by decide +kernel
theorem dX5_nextToken_8 : decode cX5_nextToken 8 = .ok (.aload_n 0, 1) := by decide +kernel
theorem dX5_nextToken_9 : decode cX5_nextToken 9 = .ok (.getfield 78, 3) := by decide +kernel
theorem dX5_nextToken_12 : decode cX5_nextToken 12 = .ok (.aload_n 0, 1) := by decide +kernel
theorem dX5_nextToken_13 : decode cX5_nextToken 13 = .ok (.getfield 54, 3) := by decide +kernel
theorem dX5_nextToken_16 : decode cX5_nextToken 16 = .ok (.if_icmp .ge 44, 3) := by decide +kernel
theorem dX5_nextToken_19 : decode cX5_nextToken 19 = .ok (.aload_n 0, 1) := by decide +kernel
theorem dX5_nextToken_20 : decode cX5_nextToken 20 = .ok (.getfield 9, 3) := by decide +kernel
theorem dX5_nextToken_23 : decode cX5_nextToken 23 = .ok (.aload_n 0, 1) := by decide +kernel
theorem dX5_nextToken_24 : decode cX5_nextToken 24 = .ok (.getfield 78, 3) := by decide +kernel
theorem dX5_nextToken_27 : decode cX5_nextToken 27 = .ok (.baload, 1) := by decide +kernel
theorem dX5_nextToken_28 : decode cX5_nextToken 28 = .ok (.bipush 10, 2) := by decide +kernel
theorem dX5_nextToken_30 : decode cX5_nextToken 30 = .ok (.if_icmp .eq 17, 3) := by decide +kernel
theorem dX5_nextToken_33 : decode cX5_nextToken 33 = .ok (.aload_n 0, 1) := by decide +kernel
theorem dX5_nextToken_34 : decode cX5_nextToken 34 = .ok (.getfield 9, 3) := by decide +kernel
theorem dX5_nextToken_37 : decode cX5_nextToken 37 = .ok (.aload_n 0, 1) := by decide +kernel
theorem dX5_nextToken_38 : decode cX5_nextToken 38 = .ok (.getfield 78, 3) := by decide +kernel
theorem dX5_nextToken_41 : decode cX5_nextToken 41 = .ok (.baload, 1) := by decide +kernel
theorem dX5_nextToken_42 : decode cX5_nextToken 42 = .ok (.bipush 32, 2) := by decide +kernel
theorem dX5_nextToken_44 : decode cX5_nextToken 44 = .ok (.if_icmp .ne 16, 3) := by decide +kernel
theorem dX5_nextToken_47 : decode cX5_nextToken 47 = .ok (.aload_n 0, 1) := by decide +kernel
theorem dX5_nextToken_48 : decode cX5_nextToken 48 = .ok (.dup, 1) := by decide +kernel
theorem dX5_nextToken_49 : decode cX5_nextToken 49 = .ok (.getfield 78, 3) := by decide +kernel
theorem dX5_nextToken_52 : decode cX5_nextToken 52 = .ok (.iconst 1, 1) := by decide +kernel
theorem dX5_nextToken_53 : decode cX5_nextToken 53 = .ok (.iadd, 1) := by decide +kernel
theorem dX5_nextToken_54 : decode cX5_nextToken 54 = .ok (.putfield 78, 3) := by decide +kernel
theorem dX5_nextToken_57 : decode cX5_nextToken 57 = .ok (.goto (-49), 3) := by decide +kernel
theorem dX5_nextToken_60 : decode cX5_nextToken 60 = .ok (.aload_n 0, 1) := by decide +kernel
theorem dX5_nextToken_61 : decode cX5_nextToken 61 = .ok (.aload_n 0, 1) := by decide +kernel
theorem dX5_nextToken_62 : decode cX5_nextToken 62 = .ok (.getfield 78, 3) := by decide +kernel
theorem dX5_nextToken_65 : decode cX5_nextToken 65 = .ok (.putfield 57, 3) := by decide +kernel
theorem dX5_nextToken_68 : decode cX5_nextToken 68 = .ok (.aload_n 0, 1) := by decide +kernel
theorem dX5_nextToken_69 : decode cX5_nextToken 69 = .ok (.getfield 78, 3) := by decide +kernel
theorem dX5_nextToken_72 : decode cX5_nextToken 72 = .ok (.aload_n 0, 1) := by decide +kernel
theorem dX5_nextToken_73 : decode cX5_nextToken 73 = .ok (.getfield 54, 3) := by decide +kernel
theorem dX5_nextToken_76 : decode cX5_nextToken 76 = .ok (.if_icmp .lt 12, 3) := by decide +kernel
theorem dX5_nextToken_79 : decode cX5_nextToken 79 = .ok (.aload_n 0, 1) := by decide +kernel
theorem dX5_nextToken_80 : decode cX5_nextToken 80 = .ok (.bipush 15, 2) := by decide +kernel
theorem dX5_nextToken_82 : decode cX5_nextToken 82 = .ok (.putfield 75, 3) := by decide +kernel
theorem dX5_nextToken_85 : decode cX5_nextToken 85 = .ok (.goto 97, 3) := by decide +kernel
theorem dX5_nextToken_88 : decode cX5_nextToken 88 = .ok (.aload_n 0, 1) := by decide +kernel
theorem dX5_nextToken_89 : decode cX5_nextToken 89 = .ok (.getfield 9, 3) := by decide +kernel
theorem dX5_nextToken_92 : decode cX5_nextToken 92 = .ok (.aload_n 0, 1) := by decide +kernel
theorem dX5_nextToken_93 : decode cX5_nextToken 93 = .ok (.getfield 78, 3) := by decide +kernel
theorem dX5_nextToken_96 : decode cX5_nextToken 96 = .ok (.baload, 1) := by decide +kernel
theorem dX5_nextToken_97 : decode cX5_nextToken 97 = .ok (.invokestatic 81, 3) := by decide +kernel
theorem dX5_nextToken_100 : decode cX5_nextToken 100 = .ok (.ifCond .eq 10, 3) := by decide +kernel
theorem dX5_nextToken_103 : decode cX5_nextToken 103 = .ok (.aload_n 0, 1) := by decide +kernel
theorem dX5_nextToken_104 : decode cX5_nextToken 104 = .ok (.invokevirtual 85, 3) := by decide +kernel
theorem dX5_nextToken_107 : decode cX5_nextToken 107 = .ok (.goto 75, 3) := by decide +kernel
theorem dX5_nextToken_110 : decode cX5_nextToken 110 = .ok (.aload_n 0, 1) := by decide +kernel
theorem dX5_nextToken_111 : decode cX5_nextToken 111 = .ok (.getfield 9, 3) := by decide +kernel
theorem dX5_nextToken_114 : decode cX5_nextToken 114 = .ok (.aload_n 0, 1) := by decide +kernel
theorem dX5_nextToken_115 : decode cX5_nextToken 115 = .ok (.getfield 78, 3) := by decide +kernel
theorem dX5_nextToken_118 : decode cX5_nextToken 118 = .ok (.baload, 1) := by decide +kernel
theorem dX5_nextToken_119 : decode cX5_nextToken 119 = .ok (.invokestatic 88, 3) := by decide +kernel
theorem dX5_nextToken_122 : decode cX5_nextToken 122 = .ok (.ifCond .eq 10, 3) := by decide +kernel
theorem dX5_nextToken_125 : decode cX5_nextToken 125 = .ok (.aload_n 0, 1) := by decide +kernel
theorem dX5_nextToken_126 : decode cX5_nextToken 126 = .ok (.invokevirtual 91, 3) := by decide +kernel
theorem dX5_nextToken_129 : decode cX5_nextToken 129 = .ok (.goto 53, 3) := by decide +kernel
theorem dX5_nextToken_132 : decode cX5_nextToken 132 = .ok (.aload_n 0, 1) := by decide +kernel
theorem dX5_nextToken_133 : decode cX5_nextToken 133 = .ok (.ldc 94, 2) := by decide +kernel
theorem dX5_nextToken_135 : decode cX5_nextToken 135 = .ok (.aload_n 0, 1) := by decide +kernel
theorem dX5_nextToken_136 : decode cX5_nextToken 136 = .ok (.getfield 9, 3) := by decide +kernel
theorem dX5_nextToken_139 : decode cX5_nextToken 139 = .ok (.aload_n 0, 1) := by decide +kernel
theorem dX5_nextToken_140 : decode cX5_nextToken 140 = .ok (.getfield 78, 3) := by decide +kernel
theorem dX5_nextToken_143 : decode cX5_nextToken 143 = .ok (.baload, 1) := by decide +kernel
theorem dX5_nextToken_144 : decode cX5_nextToken 144 = .ok (.sipush 255, 3) := by decide +kernel
theorem dX5_nextToken_147 : decode cX5_nextToken 147 = .ok (.iand, 1) := by decide +kernel
theorem dX5_nextToken_148 : decode cX5_nextToken 148 = .ok (.i2c, 1) := by decide +kernel
theorem dX5_nextToken_149 : decode cX5_nextToken 149 = .ok (.invokevirtual 96, 3) := by decide +kernel
theorem dX5_nextToken_152 : decode cX5_nextToken 152 = .ok (.ifCond .lt 15, 3) := by decide +kernel
theorem dX5_nextToken_155 : decode cX5_nextToken 155 = .ok (.aload_n 0, 1) := by decide +kernel
theorem dX5_nextToken_156 : decode cX5_nextToken 156 = .ok (.getfield 9, 3) := by decide +kernel
theorem dX5_nextToken_159 : decode cX5_nextToken 159 = .ok (.aload_n 0, 1) := by decide +kernel
theorem dX5_nextToken_160 : decode cX5_nextToken 160 = .ok (.getfield 78, 3) := by decide +kernel
theorem dX5_nextToken_163 : decode cX5_nextToken 163 = .ok (.baload, 1) := by decide +kernel
theorem dX5_nextToken_164 : decode cX5_nextToken 164 = .ok (.goto 5, 3) := by decide +kernel
theorem dX5_nextToken_167 : decode cX5_nextToken 167 = .ok (.bipush 16, 2) := by decide +kernel
theorem dX5_nextToken_169 : decode cX5_nextToken 169 = .ok (.putfield 75, 3) := by decide +kernel
theorem dX5_nextToken_172 : decode cX5_nextToken 172 = .ok (.aload_n 0, 1) := by decide +kernel
theorem dX5_nextToken_173 : decode cX5_nextToken 173 = .ok (.dup, 1) := by decide +kernel
theorem dX5_nextToken_174 : decode cX5_nextToken 174 = .ok (.getfield 57, 3) := by decide +kernel
theorem dX5_nextToken_177 : decode cX5_nextToken 177 = .ok (.iconst 1, 1) := by decide +kernel
theorem dX5_nextToken_178 : decode cX5_nextToken 178 = .ok (.iadd, 1) := by decide +kernel
theorem dX5_nextToken_179 : decode cX5_nextToken 179 = .ok (.putfield 57, 3) := by decide +kernel
theorem dX5_nextToken_182 : decode cX5_nextToken 182 = .ok (.return_, 1) := by decide +kernel
noncomputable def B_X5_nextToken_0 : pb_C := (i_aload 0 (i_aload 0 (i_getI 21 5 (i_putI 21 4 (i_jmp 8 [true])))))
noncomputable def B_X5_nextToken_8 : pb_C := (i_aload 0 (i_getI 21 4 (i_aload 0 (i_getI 21 2 (i_ic_ge (i_jmp 60 [true]) (i_aload 0 (i_getR 21 22 (i_aload 0 (i_getI 21 4 (i_ald 22 600 (i_const (.int 10) (i_ic_eq (i_aload 0 (i_dupR (i_getI 21 4 (i_const (.int 1) (i_ibin (· + ·) (i_putI 21 4 (i_jmp 8 [true]))))))) (i_aload 0 (i_getR 21 22 (i_aload 0 (i_getI 21 4 (i_ald 22 600 (i_const (.int 32) (i_ic_ne (i_jmp 60 [true]) (i_aload 0 (i_dupR (i_getI 21 4 (i_const (.int 1) (i_ibin (· + ·) (i_putI 21 4 (i_jmp 8 [true]))))))))))))))))))))))))))
noncomputable def B_X5_nextToken_60 : pb_C := (i_aload 0 (i_aload 0 (i_getI 21 4 (i_putI 21 5 (i_aload 0 (i_getI 21 4 (i_aload 0 (i_getI 21 2 (i_ic_lt (i_aload 0 (i_getR 21 22 (i_aload 0 (i_getI 21 4 (i_ald 22 600 (i_callS 1 1 M_X5_isLetter (i_if_eq (i_aload 0 (i_getR 21 22 (i_aload 0 (i_getI 21 4 (i_ald 22 600 (i_callS 1 1 M_X5_isDigit (i_if_eq (i_aload 0 (i_const (.ref (300 + 0)) (i_aload 0 (i_getR 21 22 (i_aload 0 (i_getI 21 4 (i_ald 22 600 (i_const (.int 255) (i_ibin (· &&& ·) (i_iun (fun x => (x.toUInt32 % 65536).toInt32) (i_callV (300 + 0) 1 1 M_J0_indexOf_0f7a4_300 (i_if_lt (i_const (.int 16) (i_putI 21 3 (i_aload 0 (i_dupR (i_getI 21 5 (i_const (.int 1) (i_ibin (· + ·) (i_putI 21 5 i_vret)))))))) (i_aload 0 (i_getR 21 22 (i_aload 0 (i_getI 21 4 (i_ald 22 600 (i_putI 21 3 (i_aload 0 (i_dupR (i_getI 21 5 (i_const (.int 1) (i_ibin (· + ·) (i_putI 21 5 i_vret)))))))))))))))))))))))) (i_aload 0 (i_callV 21 0 0 M_X5_nextNumber i_vret))))))))) (i_aload 0 (i_callV 21 0 0 M_X5_nextWord i_vret))))))))) (i_aload 0 (i_const (.int 15) (i_putI 21 3 i_vret))))))))))))
noncomputable def T_X5_nextToken : Nat → pb_C := pb_tt [(0, B_X5_nextToken_0), (8, B_X5_nextToken_8), (60, B_X5_nextToken_60)]
noncomputable def M_X5_nextToken : pb_F := pb_M T_X5_nextToken 1
set_option maxRecDepth 100000 in
set_option maxHeartbeats 4000000 in
theorem S_X5_nextToken (l : Launch) : pb_Sound l yX5_nextToken cX5_nextToken 1 none 5 M_X5_nextToken := by
  refine pb_sound_of (by decide) m_3_218 ?_
  intro Γ hl0 hRm0 hm X E hr J
  have hnL : ∀ j, j < 1 → j < Γ.2.2.2.2.2.2.2.2.2.2.2.1 := fun j h => by rw [hm]; exact h
  have hR : ∀ (d' mL : Nat), d' + 1 ≤ 5 ∧ 8 + (mL + 11) + d' * 64 ≤ 5 * 64 → (pb_rm d').frames + 1 ≤ Γ.2.2.2.1.frames ∧ 8 + (mL + 11) + (pb_rm d').locals ≤ Γ.2.2.2.1.locals := by rw [hRm0]; exact fun _ _ h => h
  have hRm : 1 ≤ 5 ∧ 64 ≤ 5 * 64 → 1 ≤ Γ.2.2.2.1.frames ∧ 64 ≤ Γ.2.2.2.1.locals := by rw [hRm0]; exact fun h => h
  exact pb_tt_snd _ (List.forall_mem_cons.mpr ⟨(s_aload_n (pc := 0) X dX5_nextToken_0 rfl (s_aload_n (pc := 1) X dX5_nextToken_1 rfl (s_getI (pc := 2) X dX5_nextToken_2 g_X5_57 (s_putI (pc := 5) X dX5_nextToken_5 p_X5_78 (s_jmp (pc := 8) J [true]))))), List.forall_mem_cons.mpr ⟨(s_aload_n (pc := 8) X dX5_nextToken_8 rfl (s_getI (pc := 9) X dX5_nextToken_9 g_X5_78 (s_aload_n (pc := 12) X dX5_nextToken_12 rfl (s_getI (pc := 13) X dX5_nextToken_13 g_X5_54 (s_ic_ge (pc := 16) X dX5_nextToken_16 (by decide) (s_jmp (pc := 60) J [true]) (s_aload_n (pc := 19) X dX5_nextToken_19 rfl (s_getR (pc := 20) X dX5_nextToken_20 g_X5_9 (s_aload_n (pc := 23) X dX5_nextToken_23 rfl (s_getI (pc := 24) X dX5_nextToken_24 g_X5_78 (s_bald (pc := 27) X dX5_nextToken_27 h_22 (s_bipush (pc := 28) X dX5_nextToken_28 rfl (s_ic_eq (pc := 30) X dX5_nextToken_30 (by decide) (s_aload_n (pc := 47) X dX5_nextToken_47 rfl (s_dupR (pc := 48) X dX5_nextToken_48 (s_getI (pc := 49) X dX5_nextToken_49 g_X5_78 (s_iconst (pc := 52) X dX5_nextToken_52 rfl (s_iadd (pc := 53) X dX5_nextToken_53 (s_putI (pc := 54) X dX5_nextToken_54 p_X5_78 (s_goto (pc := 57) X dX5_nextToken_57 (by decide) (s_jmp (pc := 8) J [true])))))))) (s_aload_n (pc := 33) X dX5_nextToken_33 rfl (s_getR (pc := 34) X dX5_nextToken_34 g_X5_9 (s_aload_n (pc := 37) X dX5_nextToken_37 rfl (s_getI (pc := 38) X dX5_nextToken_38 g_X5_78 (s_bald (pc := 41) X dX5_nextToken_41 h_22 (s_bipush (pc := 42) X dX5_nextToken_42 rfl (s_ic_ne (pc := 44) X dX5_nextToken_44 (by decide) (s_jmp (pc := 60) J [true]) (s_aload_n (pc := 47) X dX5_nextToken_47 rfl (s_dupR (pc := 48) X dX5_nextToken_48 (s_getI (pc := 49) X dX5_nextToken_49 g_X5_78 (s_iconst (pc := 52) X dX5_nextToken_52 rfl (s_iadd (pc := 53) X dX5_nextToken_53 (s_putI (pc := 54) X dX5_nextToken_54 p_X5_78 (s_goto (pc := 57) X dX5_nextToken_57 (by decide) (s_jmp (pc := 8) J [true]))))))))))))))))))))))))))), List.forall_mem_cons.mpr ⟨(s_aload_n (pc := 60) X dX5_nextToken_60 rfl (s_aload_n (pc := 61) X dX5_nextToken_61 rfl (s_getI (pc := 62) X dX5_nextToken_62 g_X5_78 (s_putI (pc := 65) X dX5_nextToken_65 p_X5_57 (s_aload_n (pc := 68) X dX5_nextToken_68 rfl (s_getI (pc := 69) X dX5_nextToken_69 g_X5_78 (s_aload_n (pc := 72) X dX5_nextToken_72 rfl (s_getI (pc := 73) X dX5_nextToken_73 g_X5_54 (s_ic_lt (pc := 76) X dX5_nextToken_76 (by decide) (s_aload_n (pc := 88) X dX5_nextToken_88 rfl (s_getR (pc := 89) X dX5_nextToken_89 g_X5_9 (s_aload_n (pc := 92) X dX5_nextToken_92 rfl (s_getI (pc := 93) X dX5_nextToken_93 g_X5_78 (s_bald (pc := 96) X dX5_nextToken_96 h_22 (s_callS (pc := 97) X dX5_nextToken_97 (S_X5_isLetter _) q_X5_81 (hR _ _ (by decide)) (s_if_eq (pc := 100) X dX5_nextToken_100 (by decide) (s_aload_n (pc := 110) X dX5_nextToken_110 rfl (s_getR (pc := 111) X dX5_nextToken_111 g_X5_9 (s_aload_n (pc := 114) X dX5_nextToken_114 rfl (s_getI (pc := 115) X dX5_nextToken_115 g_X5_78 (s_bald (pc := 118) X dX5_nextToken_118 h_22 (s_callS (pc := 119) X dX5_nextToken_119 (S_X5_isDigit _) q_X5_88 (hR _ _ (by decide)) (s_if_eq (pc := 122) X dX5_nextToken_122 (by decide) (s_aload_n (pc := 132) X dX5_nextToken_132 rfl (s_ldcS (pc := 133) X dX5_nextToken_133 (tx := ";<>=+-*/()") (i := 0) (List.mem_of_getElem? (i := 0) rfl) (s_aload_n (pc := 135) X dX5_nextToken_135 rfl (s_getR (pc := 136) X dX5_nextToken_136 g_X5_9 (s_aload_n (pc := 139) X dX5_nextToken_139 rfl (s_getI (pc := 140) X dX5_nextToken_140 g_X5_78 (s_bald (pc := 143) X dX5_nextToken_143 h_22 (s_sipush (pc := 144) X dX5_nextToken_144 rfl (s_iand (pc := 147) X dX5_nextToken_147 (s_i2c (pc := 148) X dX5_nextToken_148 (s_callT (pc := 149) X dX5_nextToken_149 (i := 0) (S_J0_indexOf_0f7a4_300 _) q_X5_96 (by decide) rfl (hR _ _ (by decide)) (s_if_lt (pc := 152) X dX5_nextToken_152 (by decide) (s_bipush (pc := 167) X dX5_nextToken_167 rfl (s_putI (pc := 169) X dX5_nextToken_169 p_X5_75 (s_aload_n (pc := 172) X dX5_nextToken_172 rfl (s_dupR (pc := 173) X dX5_nextToken_173 (s_getI (pc := 174) X dX5_nextToken_174 g_X5_57 (s_iconst (pc := 177) X dX5_nextToken_177 rfl (s_iadd (pc := 178) X dX5_nextToken_178 (s_putI (pc := 179) X dX5_nextToken_179 p_X5_57 (s_vret (pc := 182) X E hr dX5_nextToken_182))))))))) (s_aload_n (pc := 155) X dX5_nextToken_155 rfl (s_getR (pc := 156) X dX5_nextToken_156 g_X5_9 (s_aload_n (pc := 159) X dX5_nextToken_159 rfl (s_getI (pc := 160) X dX5_nextToken_160 g_X5_78 (s_bald (pc := 163) X dX5_nextToken_163 h_22 (s_goto (pc := 164) X dX5_nextToken_164 (by decide) (s_putI (pc := 169) X dX5_nextToken_169 p_X5_75 (s_aload_n (pc := 172) X dX5_nextToken_172 rfl (s_dupR (pc := 173) X dX5_nextToken_173 (s_getI (pc := 174) X dX5_nextToken_174 g_X5_57 (s_iconst (pc := 177) X dX5_nextToken_177 rfl (s_iadd (pc := 178) X dX5_nextToken_178 (s_putI (pc := 179) X dX5_nextToken_179 p_X5_57 (s_vret (pc := 182) X E hr dX5_nextToken_182)))))))))))))))))))))))))) (s_aload_n (pc := 125) X dX5_nextToken_125 rfl (s_callV (pc := 126) X dX5_nextToken_126 (S_X5_nextNumber _) q_X5_91 h_21 rfl (hR _ _ (by decide)) (s_goto (pc := 129) X dX5_nextToken_129 (by decide) (s_vret (pc := 182) X E hr dX5_nextToken_182))))))))))) (s_aload_n (pc := 103) X dX5_nextToken_103 rfl (s_callV (pc := 104) X dX5_nextToken_104 (S_X5_nextWord _) q_X5_85 h_21 rfl (hR _ _ (by decide)) (s_goto (pc := 107) X dX5_nextToken_107 (by decide) (s_vret (pc := 182) X E hr dX5_nextToken_182))))))))))) (s_aload_n (pc := 79) X dX5_nextToken_79 rfl (s_bipush (pc := 80) X dX5_nextToken_80 rfl (s_putI (pc := 82) X dX5_nextToken_82 p_X5_75 (s_goto (pc := 85) X dX5_nextToken_85 (by decide) (s_vret (pc := 182) X E hr dX5_nextToken_182)))))))))))))), fun _ h => absurd h List.not_mem_nil⟩⟩⟩)
theorem dX5_refuse_0 : decode cX5_refuse 0 = .ok (.aload_n 0, 1) := by decide +kernel
theorem dX5_refuse_1 : decode cX5_refuse 1 = .ok (.iload_n 1, 1) := by decide +kernel
theorem dX5_refuse_2 : decode cX5_refuse 2 = .ok (.putfield 42, 3) := by decide +kernel
theorem dX5_refuse_5 : decode cX5_refuse 5 = .ok (.aload_n 0, 1) := by decide +kernel
theorem dX5_refuse_6 : decode cX5_refuse 6 = .ok (.aload_n 0, 1) := by decide +kernel
theorem dX5_refuse_7 : decode cX5_refuse 7 = .ok (.getfield 78, 3) := by decide +kernel
theorem dX5_refuse_10 : decode cX5_refuse 10 = .ok (.putfield 45, 3) := by decide +kernel
theorem dX5_refuse_13 : decode cX5_refuse 13 = .ok (.return_, 1) := by decide +kernel
noncomputable def B_X5_refuse_0 : pb_C := (i_aload 0 (i_iload 1 (i_putI 21 16 (i_aload 0 (i_aload 0 (i_getI 21 4 (i_putI 21 17 i_vret)))))))
noncomputable def T_X5_refuse : Nat → pb_C := pb_tt [(0, B_X5_refuse_0)]
noncomputable def M_X5_refuse : pb_F := pb_M T_X5_refuse 2
set_option maxRecDepth 100000 in
set_option maxHeartbeats 4000000 in
theorem S_X5_refuse (l : Launch) : pb_Sound l yX5_refuse cX5_refuse 2 none 1 M_X5_refuse := by
  refine pb_sound_of (by decide) m_4_93 ?_
  intro Γ hl0 hRm0 hm X E hr J
  have hnL : ∀ j, j < 2 → j < Γ.2.2.2.2.2.2.2.2.2.2.2.1 := fun j h => by rw [hm]; exact h
  have hR : ∀ (d' mL : Nat), d' + 1 ≤ 1 ∧ 8 + (mL + 11) + d' * 64 ≤ 1 * 64 → (pb_rm d').frames + 1 ≤ Γ.2.2.2.1.frames ∧ 8 + (mL + 11) + (pb_rm d').locals ≤ Γ.2.2.2.1.locals := by rw [hRm0]; exact fun _ _ h => h
  have hRm : 1 ≤ 1 ∧ 64 ≤ 1 * 64 → 1 ≤ Γ.2.2.2.1.frames ∧ 64 ≤ Γ.2.2.2.1.locals := by rw [hRm0]; exact fun h => h
  exact pb_tt_snd _ (List.forall_mem_cons.mpr ⟨(s_aload_n (pc := 0) X dX5_refuse_0 rfl (s_iload_n (pc := 1) X dX5_refuse_1 rfl (s_putI (pc := 2) X dX5_refuse_2 p_X5_42 (s_aload_n (pc := 5) X dX5_refuse_5 rfl (s_aload_n (pc := 6) X dX5_refuse_6 rfl (s_getI (pc := 7) X dX5_refuse_7 g_X5_78 (s_putI (pc := 10) X dX5_refuse_10 p_X5_45 (s_vret (pc := 13) X E hr dX5_refuse_13)))))))), fun _ h => absurd h List.not_mem_nil⟩)
theorem dX5_hold_0 : decode cX5_hold 0 = .ok (.aload_n 0, 1) := by decide +kernel
theorem dX5_hold_1 : decode cX5_hold 1 = .ok (.getfield 63, 3) := by decide +kernel
theorem dX5_hold_4 : decode cX5_hold 4 = .ok (.bipush 32, 2) := by decide +kernel
theorem dX5_hold_6 : decode cX5_hold 6 = .ok (.if_icmp .ge 23, 3) := by decide +kernel
theorem dX5_hold_9 : decode cX5_hold 9 = .ok (.aload_n 0, 1) := by decide +kernel
theorem dX5_hold_10 : decode cX5_hold 10 = .ok (.getfield 15, 3) := by decide +kernel
theorem dX5_hold_13 : decode cX5_hold 13 = .ok (.aload_n 0, 1) := by decide +kernel
theorem dX5_hold_14 : decode cX5_hold 14 = .ok (.getfield 63, 3) := by decide +kernel
theorem dX5_hold_17 : decode cX5_hold 17 = .ok (.iload_n 1, 1) := by decide +kernel
theorem dX5_hold_18 : decode cX5_hold 18 = .ok (.iastore, 1) := by decide +kernel
theorem dX5_hold_19 : decode cX5_hold 19 = .ok (.aload_n 0, 1) := by decide +kernel
theorem dX5_hold_20 : decode cX5_hold 20 = .ok (.dup, 1) := by decide +kernel
theorem dX5_hold_21 : decode cX5_hold 21 = .ok (.getfield 63, 3) := by decide +kernel
theorem dX5_hold_24 : decode cX5_hold 24 = .ok (.iconst 1, 1) := by decide +kernel
theorem dX5_hold_25 : decode cX5_hold 25 = .ok (.iadd, 1) := by decide +kernel
theorem dX5_hold_26 : decode cX5_hold 26 = .ok (.putfield 63, 3) := by decide +kernel
theorem dX5_hold_29 : decode cX5_hold 29 = .ok (.return_, 1) := by decide +kernel
noncomputable def B_X5_hold_0 : pb_C := (i_aload 0 (i_getI 21 11 (i_const (.int 32) (i_ic_ge i_vret (i_aload 0 (i_getR 21 23 (i_aload 0 (i_getI 21 11 (i_iload 1 (i_ast 23 32 (fun x => x) (i_aload 0 (i_dupR (i_getI 21 11 (i_const (.int 1) (i_ibin (· + ·) (i_putI 21 11 i_vret))))))))))))))))
noncomputable def T_X5_hold : Nat → pb_C := pb_tt [(0, B_X5_hold_0)]
noncomputable def M_X5_hold : pb_F := pb_M T_X5_hold 2
set_option maxRecDepth 100000 in
set_option maxHeartbeats 4000000 in
theorem S_X5_hold (l : Launch) : pb_Sound l yX5_hold cX5_hold 2 none 1 M_X5_hold := by
  refine pb_sound_of (by decide) m_4_105 ?_
  intro Γ hl0 hRm0 hm X E hr J
  have hnL : ∀ j, j < 2 → j < Γ.2.2.2.2.2.2.2.2.2.2.2.1 := fun j h => by rw [hm]; exact h
  have hR : ∀ (d' mL : Nat), d' + 1 ≤ 1 ∧ 8 + (mL + 11) + d' * 64 ≤ 1 * 64 → (pb_rm d').frames + 1 ≤ Γ.2.2.2.1.frames ∧ 8 + (mL + 11) + (pb_rm d').locals ≤ Γ.2.2.2.1.locals := by rw [hRm0]; exact fun _ _ h => h
  have hRm : 1 ≤ 1 ∧ 64 ≤ 1 * 64 → 1 ≤ Γ.2.2.2.1.frames ∧ 64 ≤ Γ.2.2.2.1.locals := by rw [hRm0]; exact fun h => h
  exact pb_tt_snd _ (List.forall_mem_cons.mpr ⟨(s_aload_n (pc := 0) X dX5_hold_0 rfl (s_getI (pc := 1) X dX5_hold_1 g_X5_63 (s_bipush (pc := 4) X dX5_hold_4 rfl (s_ic_ge (pc := 6) X dX5_hold_6 (by decide) (s_vret (pc := 29) X E hr dX5_hold_29) (s_aload_n (pc := 9) X dX5_hold_9 rfl (s_getR (pc := 10) X dX5_hold_10 g_X5_15 (s_aload_n (pc := 13) X dX5_hold_13 rfl (s_getI (pc := 14) X dX5_hold_14 g_X5_63 (s_iload_n (pc := 17) X dX5_hold_17 rfl (s_iast (pc := 18) X dX5_hold_18 h_23 (s_aload_n (pc := 19) X dX5_hold_19 rfl (s_dupR (pc := 20) X dX5_hold_20 (s_getI (pc := 21) X dX5_hold_21 g_X5_63 (s_iconst (pc := 24) X dX5_hold_24 rfl (s_iadd (pc := 25) X dX5_hold_25 (s_putI (pc := 26) X dX5_hold_26 p_X5_63 (s_vret (pc := 29) X E hr dX5_hold_29))))))))))))))))), fun _ h => absurd h List.not_mem_nil⟩)
theorem dX5_atomStep_0 : decode cX5_atomStep 0 = .ok (.aload_n 0, 1) := by decide +kernel
theorem dX5_atomStep_1 : decode cX5_atomStep 1 = .ok (.getfield 75, 3) := by decide +kernel
theorem dX5_atomStep_4 : decode cX5_atomStep 4 = .ok (.tableswitch 50 9 14 #[42, 44, 46, 48, 50, 40], 40) := by decide +kernel
theorem dX5_atomStep_44 : decode cX5_atomStep 44 = .ok (.iconst 1, 1) := by decide +kernel
theorem dX5_atomStep_45 : decode cX5_atomStep 45 = .ok (.ireturn, 1) := by decide +kernel
theorem dX5_atomStep_46 : decode cX5_atomStep 46 = .ok (.iconst 2, 1) := by decide +kernel
theorem dX5_atomStep_47 : decode cX5_atomStep 47 = .ok (.ireturn, 1) := by decide +kernel
theorem dX5_atomStep_48 : decode cX5_atomStep 48 = .ok (.iconst 3, 1) := by decide +kernel
theorem dX5_atomStep_49 : decode cX5_atomStep 49 = .ok (.ireturn, 1) := by decide +kernel
theorem dX5_atomStep_50 : decode cX5_atomStep 50 = .ok (.iconst 4, 1) := by decide +kernel
theorem dX5_atomStep_51 : decode cX5_atomStep 51 = .ok (.ireturn, 1) := by decide +kernel
theorem dX5_atomStep_52 : decode cX5_atomStep 52 = .ok (.iconst 5, 1) := by decide +kernel
theorem dX5_atomStep_53 : decode cX5_atomStep 53 = .ok (.ireturn, 1) := by decide +kernel
theorem dX5_atomStep_54 : decode cX5_atomStep 54 = .ok (.iconst (-1), 1) := by decide +kernel
theorem dX5_atomStep_55 : decode cX5_atomStep 55 = .ok (.ireturn, 1) := by decide +kernel
noncomputable def B_X5_atomStep_0 : pb_C := (i_aload 0 (i_getI 21 3 (i_tb 9 [(i_const (.int 2) i_iret), (i_const (.int 3) i_iret), (i_const (.int 4) i_iret), (i_const (.int 5) i_iret), (i_const (.int (-1)) i_iret), (i_const (.int 1) i_iret)] (i_const (.int (-1)) i_iret))))
noncomputable def T_X5_atomStep : Nat → pb_C := pb_tt [(0, B_X5_atomStep_0)]
noncomputable def M_X5_atomStep : pb_F := pb_M T_X5_atomStep 1
set_option maxRecDepth 100000 in
set_option maxHeartbeats 4000000 in
theorem S_X5_atomStep (l : Launch) : pb_Sound l yX5_atomStep cX5_atomStep 1 (some .int) 1 M_X5_atomStep := by
  refine pb_sound_of (by decide) m_4_121 ?_
  intro Γ hl0 hRm0 hm X E hr J
  have hnL : ∀ j, j < 1 → j < Γ.2.2.2.2.2.2.2.2.2.2.2.1 := fun j h => by rw [hm]; exact h
  have hR : ∀ (d' mL : Nat), d' + 1 ≤ 1 ∧ 8 + (mL + 11) + d' * 64 ≤ 1 * 64 → (pb_rm d').frames + 1 ≤ Γ.2.2.2.1.frames ∧ 8 + (mL + 11) + (pb_rm d').locals ≤ Γ.2.2.2.1.locals := by rw [hRm0]; exact fun _ _ h => h
  have hRm : 1 ≤ 1 ∧ 64 ≤ 1 * 64 → 1 ≤ Γ.2.2.2.1.frames ∧ 64 ≤ Γ.2.2.2.1.locals := by rw [hRm0]; exact fun h => h
  exact pb_tt_snd _ (List.forall_mem_cons.mpr ⟨(s_aload_n (pc := 0) X dX5_atomStep_0 rfl (s_getI (pc := 1) X dX5_atomStep_1 g_X5_75 (s_table (pc := 4) X dX5_atomStep_4 6 9 (by decide) rfl (by decide) (by decide) 54 (by decide) (s_iconst (pc := 54) X dX5_atomStep_54 rfl (s_iret (pc := 55) X E hr dX5_atomStep_55)) [46, 48, 50, 52, 54, 44] (by decide) (pb_tc_of _ _ (⟨(s_iconst (pc := 46) X dX5_atomStep_46 rfl (s_iret (pc := 47) X E hr dX5_atomStep_47)), ⟨(s_iconst (pc := 48) X dX5_atomStep_48 rfl (s_iret (pc := 49) X E hr dX5_atomStep_49)), ⟨(s_iconst (pc := 50) X dX5_atomStep_50 rfl (s_iret (pc := 51) X E hr dX5_atomStep_51)), ⟨(s_iconst (pc := 52) X dX5_atomStep_52 rfl (s_iret (pc := 53) X E hr dX5_atomStep_53)), ⟨(s_iconst (pc := 54) X dX5_atomStep_54 rfl (s_iret (pc := 55) X E hr dX5_atomStep_55)), ⟨(s_iconst (pc := 44) X dX5_atomStep_44 rfl (s_iret (pc := 45) X E hr dX5_atomStep_45)), trivial⟩⟩⟩⟩⟩⟩))))), fun _ h => absurd h List.not_mem_nil⟩)
theorem dX5_emit_0 : decode cX5_emit 0 = .ok (.aload_n 0, 1) := by decide +kernel
theorem dX5_emit_1 : decode cX5_emit 1 = .ok (.getfield 66, 3) := by decide +kernel
theorem dX5_emit_4 : decode cX5_emit 4 = .ok (.sipush 600, 3) := by decide +kernel
theorem dX5_emit_7 : decode cX5_emit 7 = .ok (.if_icmp .ge 29, 3) := by decide +kernel
theorem dX5_emit_10 : decode cX5_emit 10 = .ok (.aload_n 0, 1) := by decide +kernel
theorem dX5_emit_11 : decode cX5_emit 11 = .ok (.getfield 19, 3) := by decide +kernel
theorem dX5_emit_14 : decode cX5_emit 14 = .ok (.aload_n 0, 1) := by decide +kernel
theorem dX5_emit_15 : decode cX5_emit 15 = .ok (.getfield 66, 3) := by decide +kernel
theorem dX5_emit_18 : decode cX5_emit 18 = .ok (.lload_n 2, 1) := by decide +kernel
theorem dX5_emit_19 : decode cX5_emit 19 = .ok (.bipush 8, 2) := by decide +kernel
theorem dX5_emit_21 : decode cX5_emit 21 = .ok (.lshl, 1) := by decide +kernel
theorem dX5_emit_22 : decode cX5_emit 22 = .ok (.iload_n 1, 1) := by decide +kernel
theorem dX5_emit_23 : decode cX5_emit 23 = .ok (.i2l, 1) := by decide +kernel
theorem dX5_emit_24 : decode cX5_emit 24 = .ok (.lor, 1) := by decide +kernel
theorem dX5_emit_25 : decode cX5_emit 25 = .ok (.lastore, 1) := by decide +kernel
theorem dX5_emit_26 : decode cX5_emit 26 = .ok (.aload_n 0, 1) := by decide +kernel
theorem dX5_emit_27 : decode cX5_emit 27 = .ok (.dup, 1) := by decide +kernel
theorem dX5_emit_28 : decode cX5_emit 28 = .ok (.getfield 66, 3) := by decide +kernel
theorem dX5_emit_31 : decode cX5_emit 31 = .ok (.iconst 1, 1) := by decide +kernel
theorem dX5_emit_32 : decode cX5_emit 32 = .ok (.iadd, 1) := by decide +kernel
theorem dX5_emit_33 : decode cX5_emit 33 = .ok (.putfield 66, 3) := by decide +kernel
theorem dX5_emit_36 : decode cX5_emit 36 = .ok (.return_, 1) := by decide +kernel
noncomputable def B_X5_emit_0 : pb_C := (i_aload 0 (i_getI 21 13 (i_const (.int 600) (i_ic_ge i_vret (i_aload 0 (i_getR 21 24 (i_aload 0 (i_getI 21 13 (i_lload 2 (i_const (.int 8) (i_lsh (fun x y => x <<< (y.toInt64 &&& 63)) (i_iload 1 (i_i2l (i_lbin (· ||| ·) (i_last 24 600 (i_aload 0 (i_dupR (i_getI 21 13 (i_const (.int 1) (i_ibin (· + ·) (i_putI 21 13 i_vret)))))))))))))))))))))
noncomputable def T_X5_emit : Nat → pb_C := pb_tt [(0, B_X5_emit_0)]
noncomputable def M_X5_emit : pb_F := pb_M T_X5_emit 4
set_option maxRecDepth 100000 in
set_option maxHeartbeats 4000000 in
theorem S_X5_emit (l : Launch) : pb_Sound l yX5_emit cX5_emit 4 none 1 M_X5_emit := by
  refine pb_sound_of (by decide) m_4_109 ?_
  intro Γ hl0 hRm0 hm X E hr J
  have hnL : ∀ j, j < 4 → j < Γ.2.2.2.2.2.2.2.2.2.2.2.1 := fun j h => by rw [hm]; exact h
  have hR : ∀ (d' mL : Nat), d' + 1 ≤ 1 ∧ 8 + (mL + 11) + d' * 64 ≤ 1 * 64 → (pb_rm d').frames + 1 ≤ Γ.2.2.2.1.frames ∧ 8 + (mL + 11) + (pb_rm d').locals ≤ Γ.2.2.2.1.locals := by rw [hRm0]; exact fun _ _ h => h
  have hRm : 1 ≤ 1 ∧ 64 ≤ 1 * 64 → 1 ≤ Γ.2.2.2.1.frames ∧ 64 ≤ Γ.2.2.2.1.locals := by rw [hRm0]; exact fun h => h
  exact pb_tt_snd _ (List.forall_mem_cons.mpr ⟨(s_aload_n (pc := 0) X dX5_emit_0 rfl (s_getI (pc := 1) X dX5_emit_1 g_X5_66 (s_sipush (pc := 4) X dX5_emit_4 rfl (s_ic_ge (pc := 7) X dX5_emit_7 (by decide) (s_vret (pc := 36) X E hr dX5_emit_36) (s_aload_n (pc := 10) X dX5_emit_10 rfl (s_getR (pc := 11) X dX5_emit_11 g_X5_19 (s_aload_n (pc := 14) X dX5_emit_14 rfl (s_getI (pc := 15) X dX5_emit_15 g_X5_66 (s_lload_n (pc := 18) X dX5_emit_18 rfl (s_bipush (pc := 19) X dX5_emit_19 rfl (s_lshl (pc := 21) X dX5_emit_21 (s_iload_n (pc := 22) X dX5_emit_22 rfl (s_i2l (pc := 23) X dX5_emit_23 (s_lor (pc := 24) X dX5_emit_24 (s_last (pc := 25) X dX5_emit_25 h_24 (s_aload_n (pc := 26) X dX5_emit_26 rfl (s_dupR (pc := 27) X dX5_emit_27 (s_getI (pc := 28) X dX5_emit_28 g_X5_66 (s_iconst (pc := 31) X dX5_emit_31 rfl (s_iadd (pc := 32) X dX5_emit_32 (s_putI (pc := 33) X dX5_emit_33 p_X5_66 (s_vret (pc := 36) X E hr dX5_emit_36)))))))))))))))))))))), fun _ h => absurd h List.not_mem_nil⟩)
theorem dX5_takeAtom_0 : decode cX5_takeAtom 0 = .ok (.aload_n 0, 1) := by decide +kernel
theorem dX5_takeAtom_1 : decode cX5_takeAtom 1 = .ok (.getfield 75, 3) := by decide +kernel
theorem dX5_takeAtom_4 : decode cX5_takeAtom 4 = .ok (.bipush 40, 2) := by decide +kernel
theorem dX5_takeAtom_6 : decode cX5_takeAtom 6 = .ok (.if_icmp .ne 20, 3) := by decide +kernel
theorem dX5_takeAtom_9 : decode cX5_takeAtom 9 = .ok (.aload_n 0, 1) := by decide +kernel
theorem dX5_takeAtom_10 : decode cX5_takeAtom 10 = .ok (.getfield 167, 3) := by decide +kernel
theorem dX5_takeAtom_13 : decode cX5_takeAtom 13 = .ok (.bipush 6, 2) := by decide +kernel
theorem dX5_takeAtom_15 : decode cX5_takeAtom 15 = .ok (.if_icmp .lt 11, 3) := by decide +kernel
theorem dX5_takeAtom_18 : decode cX5_takeAtom 18 = .ok (.aload_n 0, 1) := by decide +kernel
theorem dX5_takeAtom_19 : decode cX5_takeAtom 19 = .ok (.iconst 5, 1) := by decide +kernel
theorem dX5_takeAtom_20 : decode cX5_takeAtom 20 = .ok (.invokevirtual 119, 3) := by decide +kernel
theorem dX5_takeAtom_23 : decode cX5_takeAtom 23 = .ok (.goto 77, 3) := by decide +kernel
theorem dX5_takeAtom_26 : decode cX5_takeAtom 26 = .ok (.aload_n 0, 1) := by decide +kernel
theorem dX5_takeAtom_27 : decode cX5_takeAtom 27 = .ok (.getfield 75, 3) := by decide +kernel
theorem dX5_takeAtom_30 : decode cX5_takeAtom 30 = .ok (.bipush 40, 2) := by decide +kernel
theorem dX5_takeAtom_32 : decode cX5_takeAtom 32 = .ok (.if_icmp .ne 21, 3) := by decide +kernel
theorem dX5_takeAtom_35 : decode cX5_takeAtom 35 = .ok (.aload_n 0, 1) := by decide +kernel
theorem dX5_takeAtom_36 : decode cX5_takeAtom 36 = .ok (.dup, 1) := by decide +kernel
theorem dX5_takeAtom_37 : decode cX5_takeAtom 37 = .ok (.getfield 167, 3) := by decide +kernel
theorem dX5_takeAtom_40 : decode cX5_takeAtom 40 = .ok (.iconst 1, 1) := by decide +kernel
theorem dX5_takeAtom_41 : decode cX5_takeAtom 41 = .ok (.iadd, 1) := by decide +kernel
theorem dX5_takeAtom_42 : decode cX5_takeAtom 42 = .ok (.putfield 167, 3) := by decide +kernel
theorem dX5_takeAtom_45 : decode cX5_takeAtom 45 = .ok (.aload_n 0, 1) := by decide +kernel
theorem dX5_takeAtom_46 : decode cX5_takeAtom 46 = .ok (.iconst 0, 1) := by decide +kernel
theorem dX5_takeAtom_47 : decode cX5_takeAtom 47 = .ok (.invokevirtual 145, 3) := by decide +kernel
theorem dX5_takeAtom_50 : decode cX5_takeAtom 50 = .ok (.goto 50, 3) := by decide +kernel
theorem dX5_takeAtom_53 : decode cX5_takeAtom 53 = .ok (.aload_n 0, 1) := by decide +kernel
theorem dX5_takeAtom_54 : decode cX5_takeAtom 54 = .ok (.invokevirtual 170, 3) := by decide +kernel
theorem dX5_takeAtom_57 : decode cX5_takeAtom 57 = .ok (.iconst (-1), 1) := by decide +kernel
theorem dX5_takeAtom_58 : decode cX5_takeAtom 58 = .ok (.if_icmp .ne 11, 3) := by decide +kernel
theorem dX5_takeAtom_61 : decode cX5_takeAtom 61 = .ok (.aload_n 0, 1) := by decide +kernel
theorem dX5_takeAtom_62 : decode cX5_takeAtom 62 = .ok (.iconst 2, 1) := by decide +kernel
theorem dX5_takeAtom_63 : decode cX5_takeAtom 63 = .ok (.invokevirtual 119, 3) := by decide +kernel
theorem dX5_takeAtom_66 : decode cX5_takeAtom 66 = .ok (.goto 34, 3) := by decide +kernel
theorem dX5_takeAtom_69 : decode cX5_takeAtom 69 = .ok (.aload_n 0, 1) := by decide +kernel
theorem dX5_takeAtom_70 : decode cX5_takeAtom 70 = .ok (.aload_n 0, 1) := by decide +kernel
theorem dX5_takeAtom_71 : decode cX5_takeAtom 71 = .ok (.invokevirtual 170, 3) := by decide +kernel
theorem dX5_takeAtom_74 : decode cX5_takeAtom 74 = .ok (.aload_n 0, 1) := by decide +kernel
theorem dX5_takeAtom_75 : decode cX5_takeAtom 75 = .ok (.getfield 75, 3) := by decide +kernel
theorem dX5_takeAtom_78 : decode cX5_takeAtom 78 = .ok (.bipush 14, 2) := by decide +kernel
theorem dX5_takeAtom_80 : decode cX5_takeAtom 80 = .ok (.if_icmp .ne 10, 3) := by decide +kernel
theorem dX5_takeAtom_83 : decode cX5_takeAtom 83 = .ok (.aload_n 0, 1) := by decide +kernel
theorem dX5_takeAtom_84 : decode cX5_takeAtom 84 = .ok (.getfield 102, 3) := by decide +kernel
theorem dX5_takeAtom_87 : decode cX5_takeAtom 87 = .ok (.goto 4, 3) := by decide +kernel
theorem dX5_takeAtom_90 : decode cX5_takeAtom 90 = .ok (.lconst 0, 1) := by decide +kernel
theorem dX5_takeAtom_91 : decode cX5_takeAtom 91 = .ok (.invokevirtual 148, 3) := by decide +kernel
theorem dX5_takeAtom_94 : decode cX5_takeAtom 94 = .ok (.aload_n 0, 1) := by decide +kernel
theorem dX5_takeAtom_95 : decode cX5_takeAtom 95 = .ok (.bipush 7, 2) := by decide +kernel
theorem dX5_takeAtom_97 : decode cX5_takeAtom 97 = .ok (.putfield 60, 3) := by decide +kernel
theorem dX5_takeAtom_100 : decode cX5_takeAtom 100 = .ok (.return_, 1) := by decide +kernel
noncomputable def B_X5_takeAtom_0 : pb_C := (i_aload 0 (i_getI 21 3 (i_const (.int 40) (i_ic_ne (i_jmp 26 [true]) (i_aload 0 (i_getI 21 9 (i_const (.int 6) (i_ic_lt (i_jmp 26 [true]) (i_aload 0 (i_const (.int 5) (i_callV 21 1 0 M_X5_refuse i_vret)))))))))))
noncomputable def B_X5_takeAtom_26 : pb_C := (i_aload 0 (i_getI 21 3 (i_const (.int 40) (i_ic_ne (i_aload 0 (i_callV 21 0 1 M_X5_atomStep (i_const (.int (-1)) (i_ic_ne (i_aload 0 (i_aload 0 (i_callV 21 0 1 M_X5_atomStep (i_aload 0 (i_getI 21 3 (i_const (.int 14) (i_ic_ne (i_const (.long 0) (i_callV 21 2 0 M_X5_emit (i_aload 0 (i_const (.int 7) (i_putI 21 7 i_vret))))) (i_aload 0 (i_getL 21 6 (i_callV 21 2 0 M_X5_emit (i_aload 0 (i_const (.int 7) (i_putI 21 7 i_vret))))))))))))) (i_aload 0 (i_const (.int 2) (i_callV 21 1 0 M_X5_refuse i_vret))))))) (i_aload 0 (i_dupR (i_getI 21 9 (i_const (.int 1) (i_ibin (· + ·) (i_putI 21 9 (i_aload 0 (i_const (.int 0) (i_callV 21 1 0 M_X5_hold i_vret)))))))))))))
noncomputable def T_X5_takeAtom : Nat → pb_C := pb_tt [(0, B_X5_takeAtom_0), (26, B_X5_takeAtom_26)]
noncomputable def M_X5_takeAtom : pb_F := pb_M T_X5_takeAtom 1
set_option maxRecDepth 100000 in
set_option maxHeartbeats 4000000 in
theorem S_X5_takeAtom (l : Launch) : pb_Sound l yX5_takeAtom cX5_takeAtom 1 none 2 M_X5_takeAtom := by
  refine pb_sound_of (by decide) m_4_117 ?_
  intro Γ hl0 hRm0 hm X E hr J
  have hnL : ∀ j, j < 1 → j < Γ.2.2.2.2.2.2.2.2.2.2.2.1 := fun j h => by rw [hm]; exact h
  have hR : ∀ (d' mL : Nat), d' + 1 ≤ 2 ∧ 8 + (mL + 11) + d' * 64 ≤ 2 * 64 → (pb_rm d').frames + 1 ≤ Γ.2.2.2.1.frames ∧ 8 + (mL + 11) + (pb_rm d').locals ≤ Γ.2.2.2.1.locals := by rw [hRm0]; exact fun _ _ h => h
  have hRm : 1 ≤ 2 ∧ 64 ≤ 2 * 64 → 1 ≤ Γ.2.2.2.1.frames ∧ 64 ≤ Γ.2.2.2.1.locals := by rw [hRm0]; exact fun h => h
  exact pb_tt_snd _ (List.forall_mem_cons.mpr ⟨(s_aload_n (pc := 0) X dX5_takeAtom_0 rfl (s_getI (pc := 1) X dX5_takeAtom_1 g_X5_75 (s_bipush (pc := 4) X dX5_takeAtom_4 rfl (s_ic_ne (pc := 6) X dX5_takeAtom_6 (by decide) (s_jmp (pc := 26) J [true]) (s_aload_n (pc := 9) X dX5_takeAtom_9 rfl (s_getI (pc := 10) X dX5_takeAtom_10 g_X5_167 (s_bipush (pc := 13) X dX5_takeAtom_13 rfl (s_ic_lt (pc := 15) X dX5_takeAtom_15 (by decide) (s_jmp (pc := 26) J [true]) (s_aload_n (pc := 18) X dX5_takeAtom_18 rfl (s_iconst (pc := 19) X dX5_takeAtom_19 rfl (s_callV (pc := 20) X dX5_takeAtom_20 (S_X5_refuse _) q_X5_119 h_21 rfl (hR _ _ (by decide)) (s_goto (pc := 23) X dX5_takeAtom_23 (by decide) (s_vret (pc := 100) X E hr dX5_takeAtom_100))))))))))))), List.forall_mem_cons.mpr ⟨(s_aload_n (pc := 26) X dX5_takeAtom_26 rfl (s_getI (pc := 27) X dX5_takeAtom_27 g_X5_75 (s_bipush (pc := 30) X dX5_takeAtom_30 rfl (s_ic_ne (pc := 32) X dX5_takeAtom_32 (by decide) (s_aload_n (pc := 53) X dX5_takeAtom_53 rfl (s_callV (pc := 54) X dX5_takeAtom_54 (S_X5_atomStep _) q_X5_170 h_21 rfl (hR _ _ (by decide)) (s_iconst (pc := 57) X dX5_takeAtom_57 rfl (s_ic_ne (pc := 58) X dX5_takeAtom_58 (by decide) (s_aload_n (pc := 69) X dX5_takeAtom_69 rfl (s_aload_n (pc := 70) X dX5_takeAtom_70 rfl (s_callV (pc := 71) X dX5_takeAtom_71 (S_X5_atomStep _) q_X5_170 h_21 rfl (hR _ _ (by decide)) (s_aload_n (pc := 74) X dX5_takeAtom_74 rfl (s_getI (pc := 75) X dX5_takeAtom_75 g_X5_75 (s_bipush (pc := 78) X dX5_takeAtom_78 rfl (s_ic_ne (pc := 80) X dX5_takeAtom_80 (by decide) (s_lconst (pc := 90) X dX5_takeAtom_90 rfl (s_callV (pc := 91) X dX5_takeAtom_91 (S_X5_emit _) q_X5_148 h_21 rfl (hR _ _ (by decide)) (s_aload_n (pc := 94) X dX5_takeAtom_94 rfl (s_bipush (pc := 95) X dX5_takeAtom_95 rfl (s_putI (pc := 97) X dX5_takeAtom_97 p_X5_60 (s_vret (pc := 100) X E hr dX5_takeAtom_100)))))) (s_aload_n (pc := 83) X dX5_takeAtom_83 rfl (s_getL (pc := 84) X dX5_takeAtom_84 g_X5_102 (s_goto (pc := 87) X dX5_takeAtom_87 (by decide) (s_callV (pc := 91) X dX5_takeAtom_91 (S_X5_emit _) q_X5_148 h_21 rfl (hR _ _ (by decide)) (s_aload_n (pc := 94) X dX5_takeAtom_94 rfl (s_bipush (pc := 95) X dX5_takeAtom_95 rfl (s_putI (pc := 97) X dX5_takeAtom_97 p_X5_60 (s_vret (pc := 100) X E hr dX5_takeAtom_100))))))))))))))) (s_aload_n (pc := 61) X dX5_takeAtom_61 rfl (s_iconst (pc := 62) X dX5_takeAtom_62 rfl (s_callV (pc := 63) X dX5_takeAtom_63 (S_X5_refuse _) q_X5_119 h_21 rfl (hR _ _ (by decide)) (s_goto (pc := 66) X dX5_takeAtom_66 (by decide) (s_vret (pc := 100) X E hr dX5_takeAtom_100))))))))) (s_aload_n (pc := 35) X dX5_takeAtom_35 rfl (s_dupR (pc := 36) X dX5_takeAtom_36 (s_getI (pc := 37) X dX5_takeAtom_37 g_X5_167 (s_iconst (pc := 40) X dX5_takeAtom_40 rfl (s_iadd (pc := 41) X dX5_takeAtom_41 (s_putI (pc := 42) X dX5_takeAtom_42 p_X5_167 (s_aload_n (pc := 45) X dX5_takeAtom_45 rfl (s_iconst (pc := 46) X dX5_takeAtom_46 rfl (s_callV (pc := 47) X dX5_takeAtom_47 (S_X5_hold _) q_X5_145 h_21 rfl (hR _ _ (by decide)) (s_goto (pc := 50) X dX5_takeAtom_50 (by decide) (s_vret (pc := 100) X E hr dX5_takeAtom_100))))))))))))))), fun _ h => absurd h List.not_mem_nil⟩⟩)
theorem dX5_openSum_0 : decode cX5_openSum 0 = .ok (.aload_n 0, 1) := by decide +kernel
theorem dX5_openSum_1 : decode cX5_openSum 1 = .ok (.iload_n 1, 1) := by decide +kernel
theorem dX5_openSum_2 : decode cX5_openSum 2 = .ok (.putfield 164, 3) := by decide +kernel
theorem dX5_openSum_5 : decode cX5_openSum 5 = .ok (.aload_n 0, 1) := by decide +kernel
theorem dX5_openSum_6 : decode cX5_openSum 6 = .ok (.iconst 0, 1) := by decide +kernel
theorem dX5_openSum_7 : decode cX5_openSum 7 = .ok (.putfield 167, 3) := by decide +kernel
theorem dX5_openSum_10 : decode cX5_openSum 10 = .ok (.aload_n 0, 1) := by decide +kernel
theorem dX5_openSum_11 : decode cX5_openSum 11 = .ok (.bipush 6, 2) := by decide +kernel
theorem dX5_openSum_13 : decode cX5_openSum 13 = .ok (.putfield 60, 3) := by decide +kernel
theorem dX5_openSum_16 : decode cX5_openSum 16 = .ok (.return_, 1) := by decide +kernel
noncomputable def B_X5_openSum_0 : pb_C := (i_aload 0 (i_iload 1 (i_putI 21 8 (i_aload 0 (i_const (.int 0) (i_putI 21 9 (i_aload 0 (i_const (.int 6) (i_putI 21 7 i_vret)))))))))
noncomputable def T_X5_openSum : Nat → pb_C := pb_tt [(0, B_X5_openSum_0)]
noncomputable def M_X5_openSum : pb_F := pb_M T_X5_openSum 2
set_option maxRecDepth 100000 in
set_option maxHeartbeats 4000000 in
theorem S_X5_openSum (l : Launch) : pb_Sound l yX5_openSum cX5_openSum 2 none 1 M_X5_openSum := by
  refine pb_sound_of (by decide) m_4_113 ?_
  intro Γ hl0 hRm0 hm X E hr J
  have hnL : ∀ j, j < 2 → j < Γ.2.2.2.2.2.2.2.2.2.2.2.1 := fun j h => by rw [hm]; exact h
  have hR : ∀ (d' mL : Nat), d' + 1 ≤ 1 ∧ 8 + (mL + 11) + d' * 64 ≤ 1 * 64 → (pb_rm d').frames + 1 ≤ Γ.2.2.2.1.frames ∧ 8 + (mL + 11) + (pb_rm d').locals ≤ Γ.2.2.2.1.locals := by rw [hRm0]; exact fun _ _ h => h
  have hRm : 1 ≤ 1 ∧ 64 ≤ 1 * 64 → 1 ≤ Γ.2.2.2.1.frames ∧ 64 ≤ Γ.2.2.2.1.locals := by rw [hRm0]; exact fun h => h
  exact pb_tt_snd _ (List.forall_mem_cons.mpr ⟨(s_aload_n (pc := 0) X dX5_openSum_0 rfl (s_iload_n (pc := 1) X dX5_openSum_1 rfl (s_putI (pc := 2) X dX5_openSum_2 p_X5_164 (s_aload_n (pc := 5) X dX5_openSum_5 rfl (s_iconst (pc := 6) X dX5_openSum_6 rfl (s_putI (pc := 7) X dX5_openSum_7 p_X5_167 (s_aload_n (pc := 10) X dX5_openSum_10 rfl (s_bipush (pc := 11) X dX5_openSum_11 rfl (s_putI (pc := 13) X dX5_openSum_13 p_X5_60 (s_vret (pc := 16) X E hr dX5_openSum_16)))))))))), fun _ h => absurd h List.not_mem_nil⟩)
theorem dX5_takeBehindThen_0 : decode cX5_takeBehindThen 0 = .ok (.aload_n 0, 1) := by decide +kernel
theorem dX5_takeBehindThen_1 : decode cX5_takeBehindThen 1 = .ok (.getfield 75, 3) := by decide +kernel
theorem dX5_takeBehindThen_4 : decode cX5_takeBehindThen 4 = .ok (.iconst 2, 1) := by decide +kernel
theorem dX5_takeBehindThen_5 : decode cX5_takeBehindThen 5 = .ok (.if_icmp .ne 11, 3) := by decide +kernel
theorem dX5_takeBehindThen_8 : decode cX5_takeBehindThen 8 = .ok (.aload_n 0, 1) := by decide +kernel
theorem dX5_takeBehindThen_9 : decode cX5_takeBehindThen 9 = .ok (.iconst 2, 1) := by decide +kernel
theorem dX5_takeBehindThen_10 : decode cX5_takeBehindThen 10 = .ok (.invokevirtual 152, 3) := by decide +kernel
theorem dX5_takeBehindThen_13 : decode cX5_takeBehindThen 13 = .ok (.goto 8, 3) := by decide +kernel
theorem dX5_takeBehindThen_16 : decode cX5_takeBehindThen 16 = .ok (.aload_n 0, 1) := by decide +kernel
theorem dX5_takeBehindThen_17 : decode cX5_takeBehindThen 17 = .ok (.iconst 2, 1) := by decide +kernel
theorem dX5_takeBehindThen_18 : decode cX5_takeBehindThen 18 = .ok (.invokevirtual 119, 3) := by decide +kernel
theorem dX5_takeBehindThen_21 : decode cX5_takeBehindThen 21 = .ok (.return_, 1) := by decide +kernel
noncomputable def B_X5_takeBehindThen_0 : pb_C := (i_aload 0 (i_getI 21 3 (i_const (.int 2) (i_ic_ne (i_aload 0 (i_const (.int 2) (i_callV 21 1 0 M_X5_refuse i_vret))) (i_aload 0 (i_const (.int 2) (i_callV 21 1 0 M_X5_openSum i_vret)))))))
noncomputable def T_X5_takeBehindThen : Nat → pb_C := pb_tt [(0, B_X5_takeBehindThen_0)]
noncomputable def M_X5_takeBehindThen : pb_F := pb_M T_X5_takeBehindThen 1
set_option maxRecDepth 100000 in
set_option maxHeartbeats 4000000 in
theorem S_X5_takeBehindThen (l : Launch) : pb_Sound l yX5_takeBehindThen cX5_takeBehindThen 1 none 2 M_X5_takeBehindThen := by
  refine pb_sound_of (by decide) m_4_140 ?_
  intro Γ hl0 hRm0 hm X E hr J
  have hnL : ∀ j, j < 1 → j < Γ.2.2.2.2.2.2.2.2.2.2.2.1 := fun j h => by rw [hm]; exact h
  have hR : ∀ (d' mL : Nat), d' + 1 ≤ 2 ∧ 8 + (mL + 11) + d' * 64 ≤ 2 * 64 → (pb_rm d').frames + 1 ≤ Γ.2.2.2.1.frames ∧ 8 + (mL + 11) + (pb_rm d').locals ≤ Γ.2.2.2.1.locals := by rw [hRm0]; exact fun _ _ h => h
  have hRm : 1 ≤ 2 ∧ 64 ≤ 2 * 64 → 1 ≤ Γ.2.2.2.1.frames ∧ 64 ≤ Γ.2.2.2.1.locals := by rw [hRm0]; exact fun h => h
  exact pb_tt_snd _ (List.forall_mem_cons.mpr ⟨(s_aload_n (pc := 0) X dX5_takeBehindThen_0 rfl (s_getI (pc := 1) X dX5_takeBehindThen_1 g_X5_75 (s_iconst (pc := 4) X dX5_takeBehindThen_4 rfl (s_ic_ne (pc := 5) X dX5_takeBehindThen_5 (by decide) (s_aload_n (pc := 16) X dX5_takeBehindThen_16 rfl (s_iconst (pc := 17) X dX5_takeBehindThen_17 rfl (s_callV (pc := 18) X dX5_takeBehindThen_18 (S_X5_refuse _) q_X5_119 h_21 rfl (hR _ _ (by decide)) (s_vret (pc := 21) X E hr dX5_takeBehindThen_21)))) (s_aload_n (pc := 8) X dX5_takeBehindThen_8 rfl (s_iconst (pc := 9) X dX5_takeBehindThen_9 rfl (s_callV (pc := 10) X dX5_takeBehindThen_10 (S_X5_openSum _) q_X5_152 h_21 rfl (hR _ _ (by decide)) (s_goto (pc := 13) X dX5_takeBehindThen_13 (by decide) (s_vret (pc := 21) X E hr dX5_takeBehindThen_21))))))))), fun _ h => absurd h List.not_mem_nil⟩)
theorem dX0_bindingOf_0 : decode cX0_bindingOf 0 = .ok (.iload_n 0, 1) := by decide +kernel
theorem dX0_bindingOf_1 : decode cX0_bindingOf 1 = .ok (.bipush 10, 2) := by decide +kernel
theorem dX0_bindingOf_3 : decode cX0_bindingOf 3 = .ok (.idiv, 1) := by decide +kernel
theorem dX0_bindingOf_4 : decode cX0_bindingOf 4 = .ok (.ireturn, 1) := by decide +kernel
noncomputable def B_X0_bindingOf_0 : pb_C := (i_iload 0 (i_const (.int 10) (i_idivr (· / ·) i_iret)))
noncomputable def T_X0_bindingOf : Nat → pb_C := pb_tt [(0, B_X0_bindingOf_0)]
noncomputable def M_X0_bindingOf : pb_F := pb_M T_X0_bindingOf 1
set_option maxRecDepth 100000 in
set_option maxHeartbeats 4000000 in
theorem S_X0_bindingOf (l : Launch) : pb_Sound l yX0_bindingOf cX0_bindingOf 1 (some .int) 1 M_X0_bindingOf := by
  refine pb_sound_of (by decide) m_4_132 ?_
  intro Γ hl0 hRm0 hm X E hr J
  have hnL : ∀ j, j < 1 → j < Γ.2.2.2.2.2.2.2.2.2.2.2.1 := fun j h => by rw [hm]; exact h
  have hR : ∀ (d' mL : Nat), d' + 1 ≤ 1 ∧ 8 + (mL + 11) + d' * 64 ≤ 1 * 64 → (pb_rm d').frames + 1 ≤ Γ.2.2.2.1.frames ∧ 8 + (mL + 11) + (pb_rm d').locals ≤ Γ.2.2.2.1.locals := by rw [hRm0]; exact fun _ _ h => h
  have hRm : 1 ≤ 1 ∧ 64 ≤ 1 * 64 → 1 ≤ Γ.2.2.2.1.frames ∧ 64 ≤ Γ.2.2.2.1.locals := by rw [hRm0]; exact fun h => h
  exact pb_tt_snd _ (List.forall_mem_cons.mpr ⟨(s_iload_n (pc := 0) X dX0_bindingOf_0 rfl (s_bipush (pc := 1) X dX0_bindingOf_1 rfl (s_idiv (pc := 3) X dX0_bindingOf_3 (s_iret (pc := 4) X E hr dX0_bindingOf_4)))), fun _ h => absurd h List.not_mem_nil⟩)
theorem dX5_release_0 : decode cX5_release 0 = .ok (.aload_n 0, 1) := by decide +kernel
theorem dX5_release_1 : decode cX5_release 1 = .ok (.getfield 63, 3) := by decide +kernel
theorem dX5_release_4 : decode cX5_release 4 = .ok (.ifCond .le 48, 3) := by decide +kernel
theorem dX5_release_7 : decode cX5_release 7 = .ok (.aload_n 0, 1) := by decide +kernel
theorem dX5_release_8 : decode cX5_release 8 = .ok (.getfield 15, 3) := by decide +kernel
theorem dX5_release_11 : decode cX5_release 11 = .ok (.aload_n 0, 1) := by decide +kernel
theorem dX5_release_12 : decode cX5_release 12 = .ok (.getfield 63, 3) := by decide +kernel
theorem dX5_release_15 : decode cX5_release 15 = .ok (.iconst 1, 1) := by decide +kernel
theorem dX5_release_16 : decode cX5_release 16 = .ok (.isub, 1) := by decide +kernel
theorem dX5_release_17 : decode cX5_release 17 = .ok (.iaload, 1) := by decide +kernel
theorem dX5_release_18 : decode cX5_release 18 = .ok (.invokestatic 155, 3) := by decide +kernel
theorem dX5_release_21 : decode cX5_release 21 = .ok (.iload_n 1, 1) := by decide +kernel
theorem dX5_release_22 : decode cX5_release 22 = .ok (.if_icmp .lt 30, 3) := by decide +kernel
theorem dX5_release_25 : decode cX5_release 25 = .ok (.aload_n 0, 1) := by decide +kernel
theorem dX5_release_26 : decode cX5_release 26 = .ok (.dup, 1) := by decide +kernel
theorem dX5_release_27 : decode cX5_release 27 = .ok (.getfield 63, 3) := by decide +kernel
theorem dX5_release_30 : decode cX5_release 30 = .ok (.iconst 1, 1) := by decide +kernel
theorem dX5_release_31 : decode cX5_release 31 = .ok (.isub, 1) := by decide +kernel
theorem dX5_release_32 : decode cX5_release 32 = .ok (.putfield 63, 3) := by decide +kernel
theorem dX5_release_35 : decode cX5_release 35 = .ok (.aload_n 0, 1) := by decide +kernel
theorem dX5_release_36 : decode cX5_release 36 = .ok (.aload_n 0, 1) := by decide +kernel
theorem dX5_release_37 : decode cX5_release 37 = .ok (.getfield 15, 3) := by decide +kernel
theorem dX5_release_40 : decode cX5_release 40 = .ok (.aload_n 0, 1) := by decide +kernel
theorem dX5_release_41 : decode cX5_release 41 = .ok (.getfield 63, 3) := by decide +kernel
theorem dX5_release_44 : decode cX5_release 44 = .ok (.iaload, 1) := by decide +kernel
theorem dX5_release_45 : decode cX5_release 45 = .ok (.lconst 0, 1) := by decide +kernel
theorem dX5_release_46 : decode cX5_release 46 = .ok (.invokevirtual 148, 3) := by decide +kernel
theorem dX5_release_49 : decode cX5_release 49 = .ok (.goto (-49), 3) := by decide +kernel
theorem dX5_release_52 : decode cX5_release 52 = .ok (.return_, 1) := by decide +kernel
noncomputable def B_X5_release_0 : pb_C := (i_aload 0 (i_getI 21 11 (i_if_le i_vret (i_aload 0 (i_getR 21 23 (i_aload 0 (i_getI 21 11 (i_const (.int 1) (i_ibin (· - ·) (i_ald 23 32 (i_callS 1 1 M_X0_bindingOf (i_iload 1 (i_ic_lt i_vret (i_aload 0 (i_dupR (i_getI 21 11 (i_const (.int 1) (i_ibin (· - ·) (i_putI 21 11 (i_aload 0 (i_aload 0 (i_getR 21 23 (i_aload 0 (i_getI 21 11 (i_ald 23 32 (i_const (.long 0) (i_callV 21 2 0 M_X5_emit (i_jmp 0 [true, true]))))))))))))))))))))))))))))
noncomputable def T_X5_release : Nat → pb_C := pb_tt [(0, B_X5_release_0)]
noncomputable def M_X5_release : pb_F := pb_M T_X5_release 2
set_option maxRecDepth 100000 in
set_option maxHeartbeats 4000000 in
theorem S_X5_release (l : Launch) : pb_Sound l yX5_release cX5_release 2 none 2 M_X5_release := by
  refine pb_sound_of (by decide) m_4_136 ?_
  intro Γ hl0 hRm0 hm X E hr J
  have hnL : ∀ j, j < 2 → j < Γ.2.2.2.2.2.2.2.2.2.2.2.1 := fun j h => by rw [hm]; exact h
  have hR : ∀ (d' mL : Nat), d' + 1 ≤ 2 ∧ 8 + (mL + 11) + d' * 64 ≤ 2 * 64 → (pb_rm d').frames + 1 ≤ Γ.2.2.2.1.frames ∧ 8 + (mL + 11) + (pb_rm d').locals ≤ Γ.2.2.2.1.locals := by rw [hRm0]; exact fun _ _ h => h
  have hRm : 1 ≤ 2 ∧ 64 ≤ 2 * 64 → 1 ≤ Γ.2.2.2.1.frames ∧ 64 ≤ Γ.2.2.2.1.locals := by rw [hRm0]; exact fun h => h
  exact pb_tt_snd _ (List.forall_mem_cons.mpr ⟨(s_aload_n (pc := 0) X dX5_release_0 rfl (s_getI (pc := 1) X dX5_release_1 g_X5_63 (s_if_le (pc := 4) X dX5_release_4 (by decide) (s_vret (pc := 52) X E hr dX5_release_52) (s_aload_n (pc := 7) X dX5_release_7 rfl (s_getR (pc := 8) X dX5_release_8 g_X5_15 (s_aload_n (pc := 11) X dX5_release_11 rfl (s_getI (pc := 12) X dX5_release_12 g_X5_63 (s_iconst (pc := 15) X dX5_release_15 rfl (s_isub (pc := 16) X dX5_release_16 (s_iald (pc := 17) X dX5_release_17 h_23 (s_callS (pc := 18) X dX5_release_18 (S_X0_bindingOf _) q_X5_155 (hR _ _ (by decide)) (s_iload_n (pc := 21) X dX5_release_21 rfl (s_ic_lt (pc := 22) X dX5_release_22 (by decide) (s_vret (pc := 52) X E hr dX5_release_52) (s_aload_n (pc := 25) X dX5_release_25 rfl (s_dupR (pc := 26) X dX5_release_26 (s_getI (pc := 27) X dX5_release_27 g_X5_63 (s_iconst (pc := 30) X dX5_release_30 rfl (s_isub (pc := 31) X dX5_release_31 (s_putI (pc := 32) X dX5_release_32 p_X5_63 (s_aload_n (pc := 35) X dX5_release_35 rfl (s_aload_n (pc := 36) X dX5_release_36 rfl (s_getR (pc := 37) X dX5_release_37 g_X5_15 (s_aload_n (pc := 40) X dX5_release_40 rfl (s_getI (pc := 41) X dX5_release_41 g_X5_63 (s_iald (pc := 44) X dX5_release_44 h_23 (s_lconst (pc := 45) X dX5_release_45 rfl (s_callV (pc := 46) X dX5_release_46 (S_X5_emit _) q_X5_148 h_21 rfl (hR _ _ (by decide)) (s_goto (pc := 49) X dX5_release_49 (by decide) (s_jmp (pc := 0) J [true, true]))))))))))))))))))))))))))))), fun _ h => absurd h List.not_mem_nil⟩)
theorem dX5_takeBehindOne_0 : decode cX5_takeBehindOne 0 = .ok (.aload_n 0, 1) := by decide +kernel
theorem dX5_takeBehindOne_1 : decode cX5_takeBehindOne 1 = .ok (.getfield 75, 3) := by decide +kernel
theorem dX5_takeBehindOne_4 : decode cX5_takeBehindOne 4 = .ok (.iconst 5, 1) := by decide +kernel
theorem dX5_takeBehindOne_5 : decode cX5_takeBehindOne 5 = .ok (.if_icmp .eq 11, 3) := by decide +kernel
theorem dX5_takeBehindOne_8 : decode cX5_takeBehindOne 8 = .ok (.aload_n 0, 1) := by decide +kernel
theorem dX5_takeBehindOne_9 : decode cX5_takeBehindOne 9 = .ok (.getfield 75, 3) := by decide +kernel
theorem dX5_takeBehindOne_12 : decode cX5_takeBehindOne 12 = .ok (.iconst 4, 1) := by decide +kernel
theorem dX5_takeBehindOne_13 : decode cX5_takeBehindOne 13 = .ok (.if_icmp .ne 40, 3) := by decide +kernel
theorem dX5_takeBehindOne_16 : decode cX5_takeBehindOne 16 = .ok (.aload_n 0, 1) := by decide +kernel
theorem dX5_takeBehindOne_17 : decode cX5_takeBehindOne 17 = .ok (.getfield 75, 3) := by decide +kernel
theorem dX5_takeBehindOne_20 : decode cX5_takeBehindOne 20 = .ok (.iconst 5, 1) := by decide +kernel
theorem dX5_takeBehindOne_21 : decode cX5_takeBehindOne 21 = .ok (.if_icmp .ne 8, 3) := by decide +kernel
theorem dX5_takeBehindOne_24 : decode cX5_takeBehindOne 24 = .ok (.bipush 20, 2) := by decide +kernel
theorem dX5_takeBehindOne_26 : decode cX5_takeBehindOne 26 = .ok (.goto 5, 3) := by decide +kernel
theorem dX5_takeBehindOne_29 : decode cX5_takeBehindOne 29 = .ok (.bipush 10, 2) := by decide +kernel
theorem dX5_takeBehindOne_31 : decode cX5_takeBehindOne 31 = .ok (.istore_n 1, 1) := by decide +kernel
theorem dX5_takeBehindOne_32 : decode cX5_takeBehindOne 32 = .ok (.aload_n 0, 1) := by decide +kernel
theorem dX5_takeBehindOne_33 : decode cX5_takeBehindOne 33 = .ok (.iload_n 1, 1) := by decide +kernel
theorem dX5_takeBehindOne_34 : decode cX5_takeBehindOne 34 = .ok (.invokestatic 155, 3) := by decide +kernel
theorem dX5_takeBehindOne_37 : decode cX5_takeBehindOne 37 = .ok (.invokevirtual 158, 3) := by decide +kernel
theorem dX5_takeBehindOne_40 : decode cX5_takeBehindOne 40 = .ok (.aload_n 0, 1) := by decide +kernel
theorem dX5_takeBehindOne_41 : decode cX5_takeBehindOne 41 = .ok (.iload_n 1, 1) := by decide +kernel
theorem dX5_takeBehindOne_42 : decode cX5_takeBehindOne 42 = .ok (.invokevirtual 145, 3) := by decide +kernel
theorem dX5_takeBehindOne_45 : decode cX5_takeBehindOne 45 = .ok (.aload_n 0, 1) := by decide +kernel
theorem dX5_takeBehindOne_46 : decode cX5_takeBehindOne 46 = .ok (.iconst 1, 1) := by decide +kernel
theorem dX5_takeBehindOne_47 : decode cX5_takeBehindOne 47 = .ok (.putfield 60, 3) := by decide +kernel
theorem dX5_takeBehindOne_50 : decode cX5_takeBehindOne 50 = .ok (.goto 44, 3) := by decide +kernel
theorem dX5_takeBehindOne_53 : decode cX5_takeBehindOne 53 = .ok (.aload_n 0, 1) := by decide +kernel
theorem dX5_takeBehindOne_54 : decode cX5_takeBehindOne 54 = .ok (.getfield 75, 3) := by decide +kernel
theorem dX5_takeBehindOne_57 : decode cX5_takeBehindOne 57 = .ok (.iconst 1, 1) := by decide +kernel
theorem dX5_takeBehindOne_58 : decode cX5_takeBehindOne 58 = .ok (.if_icmp .ne 31, 3) := by decide +kernel
theorem dX5_takeBehindOne_61 : decode cX5_takeBehindOne 61 = .ok (.aload_n 0, 1) := by decide +kernel
theorem dX5_takeBehindOne_62 : decode cX5_takeBehindOne 62 = .ok (.iconst 0, 1) := by decide +kernel
theorem dX5_takeBehindOne_63 : decode cX5_takeBehindOne 63 = .ok (.invokevirtual 158, 3) := by decide +kernel
theorem dX5_takeBehindOne_66 : decode cX5_takeBehindOne 66 = .ok (.aload_n 0, 1) := by decide +kernel
theorem dX5_takeBehindOne_67 : decode cX5_takeBehindOne 67 = .ok (.aload_n 0, 1) := by decide +kernel
theorem dX5_takeBehindOne_68 : decode cX5_takeBehindOne 68 = .ok (.getfield 66, 3) := by decide +kernel
theorem dX5_takeBehindOne_71 : decode cX5_takeBehindOne 71 = .ok (.putfield 161, 3) := by decide +kernel
theorem dX5_takeBehindOne_74 : decode cX5_takeBehindOne 74 = .ok (.aload_n 0, 1) := by decide +kernel
theorem dX5_takeBehindOne_75 : decode cX5_takeBehindOne 75 = .ok (.bipush 70, 2) := by decide +kernel
theorem dX5_takeBehindOne_77 : decode cX5_takeBehindOne 77 = .ok (.lconst 0, 1) := by decide +kernel
theorem dX5_takeBehindOne_78 : decode cX5_takeBehindOne 78 = .ok (.invokevirtual 148, 3) := by decide +kernel
theorem dX5_takeBehindOne_81 : decode cX5_takeBehindOne 81 = .ok (.aload_n 0, 1) := by decide +kernel
theorem dX5_takeBehindOne_82 : decode cX5_takeBehindOne 82 = .ok (.iconst 5, 1) := by decide +kernel
theorem dX5_takeBehindOne_83 : decode cX5_takeBehindOne 83 = .ok (.putfield 60, 3) := by decide +kernel
theorem dX5_takeBehindOne_86 : decode cX5_takeBehindOne 86 = .ok (.goto 8, 3) := by decide +kernel
theorem dX5_takeBehindOne_89 : decode cX5_takeBehindOne 89 = .ok (.aload_n 0, 1) := by decide +kernel
theorem dX5_takeBehindOne_90 : decode cX5_takeBehindOne 90 = .ok (.iconst 2, 1) := by decide +kernel
theorem dX5_takeBehindOne_91 : decode cX5_takeBehindOne 91 = .ok (.invokevirtual 119, 3) := by decide +kernel
theorem dX5_takeBehindOne_94 : decode cX5_takeBehindOne 94 = .ok (.return_, 1) := by decide +kernel
noncomputable def B_X5_takeBehindOne_0 : pb_C := (i_aload 0 (i_getI 21 3 (i_const (.int 5) (i_ic_eq (i_aload 0 (i_getI 21 3 (i_const (.int 5) (i_ic_ne (i_const (.int 10) (i_jmp 31 [true, false])) (i_const (.int 20) (i_jmp 31 [true, false])))))) (i_aload 0 (i_getI 21 3 (i_const (.int 4) (i_ic_ne (i_aload 0 (i_getI 21 3 (i_const (.int 1) (i_ic_ne (i_aload 0 (i_const (.int 2) (i_callV 21 1 0 M_X5_refuse i_vret))) (i_aload 0 (i_const (.int 0) (i_callV 21 1 0 M_X5_release (i_aload 0 (i_aload 0 (i_getI 21 13 (i_putI 21 14 (i_aload 0 (i_const (.int 70) (i_const (.long 0) (i_callV 21 2 0 M_X5_emit (i_aload 0 (i_const (.int 5) (i_putI 21 7 i_vret)))))))))))))))))) (i_aload 0 (i_getI 21 3 (i_const (.int 5) (i_ic_ne (i_const (.int 10) (i_jmp 31 [true, false])) (i_const (.int 20) (i_jmp 31 [true, false]))))))))))))))
noncomputable def B_X5_takeBehindOne_31 : pb_C := (i_istore 1 (i_aload 0 (i_iload 1 (i_callS 1 1 M_X0_bindingOf (i_callV 21 1 0 M_X5_release (i_aload 0 (i_iload 1 (i_callV 21 1 0 M_X5_hold (i_aload 0 (i_const (.int 1) (i_putI 21 7 i_vret)))))))))))
noncomputable def T_X5_takeBehindOne : Nat → pb_C := pb_tt [(0, B_X5_takeBehindOne_0), (31, B_X5_takeBehindOne_31)]
noncomputable def M_X5_takeBehindOne : pb_F := pb_M T_X5_takeBehindOne 2
set_option maxRecDepth 100000 in
set_option maxHeartbeats 4000000 in
theorem S_X5_takeBehindOne (l : Launch) : pb_Sound l yX5_takeBehindOne cX5_takeBehindOne 2 none 3 M_X5_takeBehindOne := by
  refine pb_sound_of (by decide) m_4_129 ?_
  intro Γ hl0 hRm0 hm X E hr J
  have hnL : ∀ j, j < 2 → j < Γ.2.2.2.2.2.2.2.2.2.2.2.1 := fun j h => by rw [hm]; exact h
  have hR : ∀ (d' mL : Nat), d' + 1 ≤ 3 ∧ 8 + (mL + 11) + d' * 64 ≤ 3 * 64 → (pb_rm d').frames + 1 ≤ Γ.2.2.2.1.frames ∧ 8 + (mL + 11) + (pb_rm d').locals ≤ Γ.2.2.2.1.locals := by rw [hRm0]; exact fun _ _ h => h
  have hRm : 1 ≤ 3 ∧ 64 ≤ 3 * 64 → 1 ≤ Γ.2.2.2.1.frames ∧ 64 ≤ Γ.2.2.2.1.locals := by rw [hRm0]; exact fun h => h
  exact pb_tt_snd _ (List.forall_mem_cons.mpr ⟨(s_aload_n (pc := 0) X dX5_takeBehindOne_0 rfl (s_getI (pc := 1) X dX5_takeBehindOne_1 g_X5_75 (s_iconst (pc := 4) X dX5_takeBehindOne_4 rfl (s_ic_eq (pc := 5) X dX5_takeBehindOne_5 (by decide) (s_aload_n (pc := 16) X dX5_takeBehindOne_16 rfl (s_getI (pc := 17) X dX5_takeBehindOne_17 g_X5_75 (s_iconst (pc := 20) X dX5_takeBehindOne_20 rfl (s_ic_ne (pc := 21) X dX5_takeBehindOne_21 (by decide) (s_bipush (pc := 29) X dX5_takeBehindOne_29 rfl (s_jmp (pc := 31) J [true, false])) (s_bipush (pc := 24) X dX5_takeBehindOne_24 rfl (s_goto (pc := 26) X dX5_takeBehindOne_26 (by decide) (s_jmp (pc := 31) J [true, false]))))))) (s_aload_n (pc := 8) X dX5_takeBehindOne_8 rfl (s_getI (pc := 9) X dX5_takeBehindOne_9 g_X5_75 (s_iconst (pc := 12) X dX5_takeBehindOne_12 rfl (s_ic_ne (pc := 13) X dX5_takeBehindOne_13 (by decide) (s_aload_n (pc := 53) X dX5_takeBehindOne_53 rfl (s_getI (pc := 54) X dX5_takeBehindOne_54 g_X5_75 (s_iconst (pc := 57) X dX5_takeBehindOne_57 rfl (s_ic_ne (pc := 58) X dX5_takeBehindOne_58 (by decide) (s_aload_n (pc := 89) X dX5_takeBehindOne_89 rfl (s_iconst (pc := 90) X dX5_takeBehindOne_90 rfl (s_callV (pc := 91) X dX5_takeBehindOne_91 (S_X5_refuse _) q_X5_119 h_21 rfl (hR _ _ (by decide)) (s_vret (pc := 94) X E hr dX5_takeBehindOne_94)))) (s_aload_n (pc := 61) X dX5_takeBehindOne_61 rfl (s_iconst (pc := 62) X dX5_takeBehindOne_62 rfl (s_callV (pc := 63) X dX5_takeBehindOne_63 (S_X5_release _) q_X5_158 h_21 rfl (hR _ _ (by decide)) (s_aload_n (pc := 66) X dX5_takeBehindOne_66 rfl (s_aload_n (pc := 67) X dX5_takeBehindOne_67 rfl (s_getI (pc := 68) X dX5_takeBehindOne_68 g_X5_66 (s_putI (pc := 71) X dX5_takeBehindOne_71 p_X5_161 (s_aload_n (pc := 74) X dX5_takeBehindOne_74 rfl (s_bipush (pc := 75) X dX5_takeBehindOne_75 rfl (s_lconst (pc := 77) X dX5_takeBehindOne_77 rfl (s_callV (pc := 78) X dX5_takeBehindOne_78 (S_X5_emit _) q_X5_148 h_21 rfl (hR _ _ (by decide)) (s_aload_n (pc := 81) X dX5_takeBehindOne_81 rfl (s_iconst (pc := 82) X dX5_takeBehindOne_82 rfl (s_putI (pc := 83) X dX5_takeBehindOne_83 p_X5_60 (s_goto (pc := 86) X dX5_takeBehindOne_86 (by decide) (s_vret (pc := 94) X E hr dX5_takeBehindOne_94)))))))))))))))))))) (s_aload_n (pc := 16) X dX5_takeBehindOne_16 rfl (s_getI (pc := 17) X dX5_takeBehindOne_17 g_X5_75 (s_iconst (pc := 20) X dX5_takeBehindOne_20 rfl (s_ic_ne (pc := 21) X dX5_takeBehindOne_21 (by decide) (s_bipush (pc := 29) X dX5_takeBehindOne_29 rfl (s_jmp (pc := 31) J [true, false])) (s_bipush (pc := 24) X dX5_takeBehindOne_24 rfl (s_goto (pc := 26) X dX5_takeBehindOne_26 (by decide) (s_jmp (pc := 31) J [true, false]))))))))))))))), List.forall_mem_cons.mpr ⟨(s_istore_n (pc := 31) X dX5_takeBehindOne_31 rfl (hnL _ (by decide)) (s_aload_n (pc := 32) X dX5_takeBehindOne_32 rfl (s_iload_n (pc := 33) X dX5_takeBehindOne_33 rfl (s_callS (pc := 34) X dX5_takeBehindOne_34 (S_X0_bindingOf _) q_X5_155 (hR _ _ (by decide)) (s_callV (pc := 37) X dX5_takeBehindOne_37 (S_X5_release _) q_X5_158 h_21 rfl (hR _ _ (by decide)) (s_aload_n (pc := 40) X dX5_takeBehindOne_40 rfl (s_iload_n (pc := 41) X dX5_takeBehindOne_41 rfl (s_callV (pc := 42) X dX5_takeBehindOne_42 (S_X5_hold _) q_X5_145 h_21 rfl (hR _ _ (by decide)) (s_aload_n (pc := 45) X dX5_takeBehindOne_45 rfl (s_iconst (pc := 46) X dX5_takeBehindOne_46 rfl (s_putI (pc := 47) X dX5_takeBehindOne_47 p_X5_60 (s_goto (pc := 50) X dX5_takeBehindOne_50 (by decide) (s_vret (pc := 94) X E hr dX5_takeBehindOne_94))))))))))))), fun _ h => absurd h List.not_mem_nil⟩⟩)
theorem dX5_takeName_0 : decode cX5_takeName 0 = .ok (.aload_n 0, 1) := by decide +kernel
theorem dX5_takeName_1 : decode cX5_takeName 1 = .ok (.getfield 75, 3) := by decide +kernel
theorem dX5_takeName_4 : decode cX5_takeName 4 = .ok (.bipush 13, 2) := by decide +kernel
theorem dX5_takeName_6 : decode cX5_takeName 6 = .ok (.if_icmp .le 11, 3) := by decide +kernel
theorem dX5_takeName_9 : decode cX5_takeName 9 = .ok (.aload_n 0, 1) := by decide +kernel
theorem dX5_takeName_10 : decode cX5_takeName 10 = .ok (.iconst 2, 1) := by decide +kernel
theorem dX5_takeName_11 : decode cX5_takeName 11 = .ok (.invokevirtual 119, 3) := by decide +kernel
theorem dX5_takeName_14 : decode cX5_takeName 14 = .ok (.goto 33, 3) := by decide +kernel
theorem dX5_takeName_17 : decode cX5_takeName 17 = .ok (.aload_n 0, 1) := by decide +kernel
theorem dX5_takeName_18 : decode cX5_takeName 18 = .ok (.invokevirtual 109, 3) := by decide +kernel
theorem dX5_takeName_21 : decode cX5_takeName 21 = .ok (.ifCond .eq 11, 3) := by decide +kernel
theorem dX5_takeName_24 : decode cX5_takeName 24 = .ok (.aload_n 0, 1) := by decide +kernel
theorem dX5_takeName_25 : decode cX5_takeName 25 = .ok (.iconst 3, 1) := by decide +kernel
theorem dX5_takeName_26 : decode cX5_takeName 26 = .ok (.invokevirtual 119, 3) := by decide +kernel
theorem dX5_takeName_29 : decode cX5_takeName 29 = .ok (.goto 18, 3) := by decide +kernel
theorem dX5_takeName_32 : decode cX5_takeName 32 = .ok (.aload_n 0, 1) := by decide +kernel
theorem dX5_takeName_33 : decode cX5_takeName 33 = .ok (.bipush 6, 2) := by decide +kernel
theorem dX5_takeName_35 : decode cX5_takeName 35 = .ok (.aload_n 0, 1) := by decide +kernel
theorem dX5_takeName_36 : decode cX5_takeName 36 = .ok (.getfield 102, 3) := by decide +kernel
theorem dX5_takeName_39 : decode cX5_takeName 39 = .ok (.invokevirtual 148, 3) := by decide +kernel
theorem dX5_takeName_42 : decode cX5_takeName 42 = .ok (.aload_n 0, 1) := by decide +kernel
theorem dX5_takeName_43 : decode cX5_takeName 43 = .ok (.iconst 4, 1) := by decide +kernel
theorem dX5_takeName_44 : decode cX5_takeName 44 = .ok (.putfield 60, 3) := by decide +kernel
theorem dX5_takeName_47 : decode cX5_takeName 47 = .ok (.return_, 1) := by decide +kernel
noncomputable def B_X5_takeName_0 : pb_C := (i_aload 0 (i_getI 21 3 (i_const (.int 13) (i_ic_le (i_aload 0 (i_callV 21 0 1 M_X5_isLongWord (i_if_eq (i_aload 0 (i_const (.int 6) (i_aload 0 (i_getL 21 6 (i_callV 21 2 0 M_X5_emit (i_aload 0 (i_const (.int 4) (i_putI 21 7 i_vret)))))))) (i_aload 0 (i_const (.int 3) (i_callV 21 1 0 M_X5_refuse i_vret)))))) (i_aload 0 (i_const (.int 2) (i_callV 21 1 0 M_X5_refuse i_vret)))))))
noncomputable def T_X5_takeName : Nat → pb_C := pb_tt [(0, B_X5_takeName_0)]
noncomputable def M_X5_takeName : pb_F := pb_M T_X5_takeName 1
set_option maxRecDepth 100000 in
set_option maxHeartbeats 4000000 in
theorem S_X5_takeName (l : Launch) : pb_Sound l yX5_takeName cX5_takeName 1 none 2 M_X5_takeName := by
  refine pb_sound_of (by decide) m_4_125 ?_
  intro Γ hl0 hRm0 hm X E hr J
  have hnL : ∀ j, j < 1 → j < Γ.2.2.2.2.2.2.2.2.2.2.2.1 := fun j h => by rw [hm]; exact h
  have hR : ∀ (d' mL : Nat), d' + 1 ≤ 2 ∧ 8 + (mL + 11) + d' * 64 ≤ 2 * 64 → (pb_rm d').frames + 1 ≤ Γ.2.2.2.1.frames ∧ 8 + (mL + 11) + (pb_rm d').locals ≤ Γ.2.2.2.1.locals := by rw [hRm0]; exact fun _ _ h => h
  have hRm : 1 ≤ 2 ∧ 64 ≤ 2 * 64 → 1 ≤ Γ.2.2.2.1.frames ∧ 64 ≤ Γ.2.2.2.1.locals := by rw [hRm0]; exact fun h => h
  exact pb_tt_snd _ (List.forall_mem_cons.mpr ⟨(s_aload_n (pc := 0) X dX5_takeName_0 rfl (s_getI (pc := 1) X dX5_takeName_1 g_X5_75 (s_bipush (pc := 4) X dX5_takeName_4 rfl (s_ic_le (pc := 6) X dX5_takeName_6 (by decide) (s_aload_n (pc := 17) X dX5_takeName_17 rfl (s_callV (pc := 18) X dX5_takeName_18 (S_X5_isLongWord _) q_X5_109 h_21 rfl (hR _ _ (by decide)) (s_if_eq (pc := 21) X dX5_takeName_21 (by decide) (s_aload_n (pc := 32) X dX5_takeName_32 rfl (s_bipush (pc := 33) X dX5_takeName_33 rfl (s_aload_n (pc := 35) X dX5_takeName_35 rfl (s_getL (pc := 36) X dX5_takeName_36 g_X5_102 (s_callV (pc := 39) X dX5_takeName_39 (S_X5_emit _) q_X5_148 h_21 rfl (hR _ _ (by decide)) (s_aload_n (pc := 42) X dX5_takeName_42 rfl (s_iconst (pc := 43) X dX5_takeName_43 rfl (s_putI (pc := 44) X dX5_takeName_44 p_X5_60 (s_vret (pc := 47) X E hr dX5_takeName_47))))))))) (s_aload_n (pc := 24) X dX5_takeName_24 rfl (s_iconst (pc := 25) X dX5_takeName_25 rfl (s_callV (pc := 26) X dX5_takeName_26 (S_X5_refuse _) q_X5_119 h_21 rfl (hR _ _ (by decide)) (s_goto (pc := 29) X dX5_takeName_29 (by decide) (s_vret (pc := 47) X E hr dX5_takeName_47)))))))) (s_aload_n (pc := 9) X dX5_takeName_9 rfl (s_iconst (pc := 10) X dX5_takeName_10 rfl (s_callV (pc := 11) X dX5_takeName_11 (S_X5_refuse _) q_X5_119 h_21 rfl (hR _ _ (by decide)) (s_goto (pc := 14) X dX5_takeName_14 (by decide) (s_vret (pc := 47) X E hr dX5_takeName_47))))))))), fun _ h => absurd h List.not_mem_nil⟩)
theorem dX5_takeAtOne_0 : decode cX5_takeAtOne 0 = .ok (.aload_n 0, 1) := by decide +kernel
theorem dX5_takeAtOne_1 : decode cX5_takeAtOne 1 = .ok (.getfield 75, 3) := by decide +kernel
theorem dX5_takeAtOne_4 : decode cX5_takeAtOne 4 = .ok (.bipush 6, 2) := by decide +kernel
theorem dX5_takeAtOne_6 : decode cX5_takeAtOne 6 = .ok (.if_icmp .ne 25, 3) := by decide +kernel
theorem dX5_takeAtOne_9 : decode cX5_takeAtOne 9 = .ok (.aload_n 0, 1) := by decide +kernel
theorem dX5_takeAtOne_10 : decode cX5_takeAtOne 10 = .ok (.getfield 60, 3) := by decide +kernel
theorem dX5_takeAtOne_13 : decode cX5_takeAtOne 13 = .ok (.iconst 1, 1) := by decide +kernel
theorem dX5_takeAtOne_14 : decode cX5_takeAtOne 14 = .ok (.if_icmp .ne 17, 3) := by decide +kernel
theorem dX5_takeAtOne_17 : decode cX5_takeAtOne 17 = .ok (.aload_n 0, 1) := by decide +kernel
theorem dX5_takeAtOne_18 : decode cX5_takeAtOne 18 = .ok (.bipush 30, 2) := by decide +kernel
theorem dX5_takeAtOne_20 : decode cX5_takeAtOne 20 = .ok (.invokevirtual 145, 3) := by decide +kernel
theorem dX5_takeAtOne_23 : decode cX5_takeAtOne 23 = .ok (.aload_n 0, 1) := by decide +kernel
theorem dX5_takeAtOne_24 : decode cX5_takeAtOne 24 = .ok (.iconst 2, 1) := by decide +kernel
theorem dX5_takeAtOne_25 : decode cX5_takeAtOne 25 = .ok (.putfield 60, 3) := by decide +kernel
theorem dX5_takeAtOne_28 : decode cX5_takeAtOne 28 = .ok (.goto 53, 3) := by decide +kernel
theorem dX5_takeAtOne_31 : decode cX5_takeAtOne 31 = .ok (.aload_n 0, 1) := by decide +kernel
theorem dX5_takeAtOne_32 : decode cX5_takeAtOne 32 = .ok (.getfield 75, 3) := by decide +kernel
theorem dX5_takeAtOne_35 : decode cX5_takeAtOne 35 = .ok (.bipush 7, 2) := by decide +kernel
theorem dX5_takeAtOne_37 : decode cX5_takeAtOne 37 = .ok (.if_icmp .ne 11, 3) := by decide +kernel
theorem dX5_takeAtOne_40 : decode cX5_takeAtOne 40 = .ok (.aload_n 0, 1) := by decide +kernel
theorem dX5_takeAtOne_41 : decode cX5_takeAtOne 41 = .ok (.iconst 3, 1) := by decide +kernel
theorem dX5_takeAtOne_42 : decode cX5_takeAtOne 42 = .ok (.putfield 60, 3) := by decide +kernel
theorem dX5_takeAtOne_45 : decode cX5_takeAtOne 45 = .ok (.goto 36, 3) := by decide +kernel
theorem dX5_takeAtOne_48 : decode cX5_takeAtOne 48 = .ok (.aload_n 0, 1) := by decide +kernel
theorem dX5_takeAtOne_49 : decode cX5_takeAtOne 49 = .ok (.getfield 75, 3) := by decide +kernel
theorem dX5_takeAtOne_52 : decode cX5_takeAtOne 52 = .ok (.bipush 8, 2) := by decide +kernel
theorem dX5_takeAtOne_54 : decode cX5_takeAtOne 54 = .ok (.if_icmp .ne 18, 3) := by decide +kernel
theorem dX5_takeAtOne_57 : decode cX5_takeAtOne 57 = .ok (.aload_n 0, 1) := by decide +kernel
theorem dX5_takeAtOne_58 : decode cX5_takeAtOne 58 = .ok (.bipush 7, 2) := by decide +kernel
theorem dX5_takeAtOne_60 : decode cX5_takeAtOne 60 = .ok (.lconst 0, 1) := by decide +kernel
theorem dX5_takeAtOne_61 : decode cX5_takeAtOne 61 = .ok (.invokevirtual 148, 3) := by decide +kernel
theorem dX5_takeAtOne_64 : decode cX5_takeAtOne 64 = .ok (.aload_n 0, 1) := by decide +kernel
theorem dX5_takeAtOne_65 : decode cX5_takeAtOne 65 = .ok (.iconst 4, 1) := by decide +kernel
theorem dX5_takeAtOne_66 : decode cX5_takeAtOne 66 = .ok (.putfield 60, 3) := by decide +kernel
theorem dX5_takeAtOne_69 : decode cX5_takeAtOne 69 = .ok (.goto 12, 3) := by decide +kernel
theorem dX5_takeAtOne_72 : decode cX5_takeAtOne 72 = .ok (.aload_n 0, 1) := by decide +kernel
theorem dX5_takeAtOne_73 : decode cX5_takeAtOne 73 = .ok (.iconst 0, 1) := by decide +kernel
theorem dX5_takeAtOne_74 : decode cX5_takeAtOne 74 = .ok (.invokevirtual 152, 3) := by decide +kernel
theorem dX5_takeAtOne_77 : decode cX5_takeAtOne 77 = .ok (.aload_n 0, 1) := by decide +kernel
theorem dX5_takeAtOne_78 : decode cX5_takeAtOne 78 = .ok (.invokevirtual 137, 3) := by decide +kernel
theorem dX5_takeAtOne_81 : decode cX5_takeAtOne 81 = .ok (.return_, 1) := by decide +kernel
noncomputable def B_X5_takeAtOne_0 : pb_C := (i_aload 0 (i_getI 21 3 (i_const (.int 6) (i_ic_ne (i_jmp 31 [true]) (i_aload 0 (i_getI 21 7 (i_const (.int 1) (i_ic_ne (i_jmp 31 [true]) (i_aload 0 (i_const (.int 30) (i_callV 21 1 0 M_X5_hold (i_aload 0 (i_const (.int 2) (i_putI 21 7 i_vret))))))))))))))
noncomputable def B_X5_takeAtOne_31 : pb_C := (i_aload 0 (i_getI 21 3 (i_const (.int 7) (i_ic_ne (i_aload 0 (i_getI 21 3 (i_const (.int 8) (i_ic_ne (i_aload 0 (i_const (.int 0) (i_callV 21 1 0 M_X5_openSum (i_aload 0 (i_callV 21 0 0 M_X5_takeAtom i_vret))))) (i_aload 0 (i_const (.int 7) (i_const (.long 0) (i_callV 21 2 0 M_X5_emit (i_aload 0 (i_const (.int 4) (i_putI 21 7 i_vret))))))))))) (i_aload 0 (i_const (.int 3) (i_putI 21 7 i_vret)))))))
noncomputable def T_X5_takeAtOne : Nat → pb_C := pb_tt [(0, B_X5_takeAtOne_0), (31, B_X5_takeAtOne_31)]
noncomputable def M_X5_takeAtOne : pb_F := pb_M T_X5_takeAtOne 1
set_option maxRecDepth 100000 in
set_option maxHeartbeats 4000000 in
theorem S_X5_takeAtOne (l : Launch) : pb_Sound l yX5_takeAtOne cX5_takeAtOne 1 none 3 M_X5_takeAtOne := by
  refine pb_sound_of (by decide) m_4_101 ?_
  intro Γ hl0 hRm0 hm X E hr J
  have hnL : ∀ j, j < 1 → j < Γ.2.2.2.2.2.2.2.2.2.2.2.1 := fun j h => by rw [hm]; exact h
  have hR : ∀ (d' mL : Nat), d' + 1 ≤ 3 ∧ 8 + (mL + 11) + d' * 64 ≤ 3 * 64 → (pb_rm d').frames + 1 ≤ Γ.2.2.2.1.frames ∧ 8 + (mL + 11) + (pb_rm d').locals ≤ Γ.2.2.2.1.locals := by rw [hRm0]; exact fun _ _ h => h
  have hRm : 1 ≤ 3 ∧ 64 ≤ 3 * 64 → 1 ≤ Γ.2.2.2.1.frames ∧ 64 ≤ Γ.2.2.2.1.locals := by rw [hRm0]; exact fun h => h
  exact pb_tt_snd _ (List.forall_mem_cons.mpr ⟨(s_aload_n (pc := 0) X dX5_takeAtOne_0 rfl (s_getI (pc := 1) X dX5_takeAtOne_1 g_X5_75 (s_bipush (pc := 4) X dX5_takeAtOne_4 rfl (s_ic_ne (pc := 6) X dX5_takeAtOne_6 (by decide) (s_jmp (pc := 31) J [true]) (s_aload_n (pc := 9) X dX5_takeAtOne_9 rfl (s_getI (pc := 10) X dX5_takeAtOne_10 g_X5_60 (s_iconst (pc := 13) X dX5_takeAtOne_13 rfl (s_ic_ne (pc := 14) X dX5_takeAtOne_14 (by decide) (s_jmp (pc := 31) J [true]) (s_aload_n (pc := 17) X dX5_takeAtOne_17 rfl (s_bipush (pc := 18) X dX5_takeAtOne_18 rfl (s_callV (pc := 20) X dX5_takeAtOne_20 (S_X5_hold _) q_X5_145 h_21 rfl (hR _ _ (by decide)) (s_aload_n (pc := 23) X dX5_takeAtOne_23 rfl (s_iconst (pc := 24) X dX5_takeAtOne_24 rfl (s_putI (pc := 25) X dX5_takeAtOne_25 p_X5_60 (s_goto (pc := 28) X dX5_takeAtOne_28 (by decide) (s_vret (pc := 81) X E hr dX5_takeAtOne_81)))))))))))))))), List.forall_mem_cons.mpr ⟨(s_aload_n (pc := 31) X dX5_takeAtOne_31 rfl (s_getI (pc := 32) X dX5_takeAtOne_32 g_X5_75 (s_bipush (pc := 35) X dX5_takeAtOne_35 rfl (s_ic_ne (pc := 37) X dX5_takeAtOne_37 (by decide) (s_aload_n (pc := 48) X dX5_takeAtOne_48 rfl (s_getI (pc := 49) X dX5_takeAtOne_49 g_X5_75 (s_bipush (pc := 52) X dX5_takeAtOne_52 rfl (s_ic_ne (pc := 54) X dX5_takeAtOne_54 (by decide) (s_aload_n (pc := 72) X dX5_takeAtOne_72 rfl (s_iconst (pc := 73) X dX5_takeAtOne_73 rfl (s_callV (pc := 74) X dX5_takeAtOne_74 (S_X5_openSum _) q_X5_152 h_21 rfl (hR _ _ (by decide)) (s_aload_n (pc := 77) X dX5_takeAtOne_77 rfl (s_callV (pc := 78) X dX5_takeAtOne_78 (S_X5_takeAtom _) q_X5_137 h_21 rfl (hR _ _ (by decide)) (s_vret (pc := 81) X E hr dX5_takeAtOne_81)))))) (s_aload_n (pc := 57) X dX5_takeAtOne_57 rfl (s_bipush (pc := 58) X dX5_takeAtOne_58 rfl (s_lconst (pc := 60) X dX5_takeAtOne_60 rfl (s_callV (pc := 61) X dX5_takeAtOne_61 (S_X5_emit _) q_X5_148 h_21 rfl (hR _ _ (by decide)) (s_aload_n (pc := 64) X dX5_takeAtOne_64 rfl (s_iconst (pc := 65) X dX5_takeAtOne_65 rfl (s_putI (pc := 66) X dX5_takeAtOne_66 p_X5_60 (s_goto (pc := 69) X dX5_takeAtOne_69 (by decide) (s_vret (pc := 81) X E hr dX5_takeAtOne_81))))))))))))) (s_aload_n (pc := 40) X dX5_takeAtOne_40 rfl (s_iconst (pc := 41) X dX5_takeAtOne_41 rfl (s_putI (pc := 42) X dX5_takeAtOne_42 p_X5_60 (s_goto (pc := 45) X dX5_takeAtOne_45 (by decide) (s_vret (pc := 81) X E hr dX5_takeAtOne_81))))))))), fun _ h => absurd h List.not_mem_nil⟩⟩)
theorem dX5_takeAtRule_0 : decode cX5_takeAtRule 0 = .ok (.aload_n 0, 1) := by decide +kernel
theorem dX5_takeAtRule_1 : decode cX5_takeAtRule 1 = .ok (.getfield 75, 3) := by decide +kernel
theorem dX5_takeAtRule_4 : decode cX5_takeAtRule 4 = .ok (.ifCond .ne 20, 3) := by decide +kernel
theorem dX5_takeAtRule_7 : decode cX5_takeAtRule 7 = .ok (.aload_n 0, 1) := by decide +kernel
theorem dX5_takeAtRule_8 : decode cX5_takeAtRule 8 = .ok (.getfield 39, 3) := by decide +kernel
theorem dX5_takeAtRule_11 : decode cX5_takeAtRule 11 = .ok (.bipush 30, 2) := by decide +kernel
theorem dX5_takeAtRule_13 : decode cX5_takeAtRule 13 = .ok (.if_icmp .lt 11, 3) := by decide +kernel
theorem dX5_takeAtRule_16 : decode cX5_takeAtRule 16 = .ok (.aload_n 0, 1) := by decide +kernel
theorem dX5_takeAtRule_17 : decode cX5_takeAtRule 17 = .ok (.iconst 4, 1) := by decide +kernel
theorem dX5_takeAtRule_18 : decode cX5_takeAtRule 18 = .ok (.invokevirtual 119, 3) := by decide +kernel
theorem dX5_takeAtRule_21 : decode cX5_takeAtRule 21 = .ok (.goto 32, 3) := by decide +kernel
theorem dX5_takeAtRule_24 : decode cX5_takeAtRule 24 = .ok (.aload_n 0, 1) := by decide +kernel
theorem dX5_takeAtRule_25 : decode cX5_takeAtRule 25 = .ok (.getfield 75, 3) := by decide +kernel
theorem dX5_takeAtRule_28 : decode cX5_takeAtRule 28 = .ok (.ifCond .ne 11, 3) := by decide +kernel
theorem dX5_takeAtRule_31 : decode cX5_takeAtRule 31 = .ok (.aload_n 0, 1) := by decide +kernel
theorem dX5_takeAtRule_32 : decode cX5_takeAtRule 32 = .ok (.iconst 1, 1) := by decide +kernel
theorem dX5_takeAtRule_33 : decode cX5_takeAtRule 33 = .ok (.putfield 60, 3) := by decide +kernel
theorem dX5_takeAtRule_36 : decode cX5_takeAtRule 36 = .ok (.goto 17, 3) := by decide +kernel
theorem dX5_takeAtRule_39 : decode cX5_takeAtRule 39 = .ok (.aload_n 0, 1) := by decide +kernel
theorem dX5_takeAtRule_40 : decode cX5_takeAtRule 40 = .ok (.getfield 75, 3) := by decide +kernel
theorem dX5_takeAtRule_43 : decode cX5_takeAtRule 43 = .ok (.bipush 15, 2) := by decide +kernel
theorem dX5_takeAtRule_45 : decode cX5_takeAtRule 45 = .ok (.if_icmp .eq 8, 3) := by decide +kernel
theorem dX5_takeAtRule_48 : decode cX5_takeAtRule 48 = .ok (.aload_n 0, 1) := by decide +kernel
theorem dX5_takeAtRule_49 : decode cX5_takeAtRule 49 = .ok (.iconst 2, 1) := by decide +kernel
theorem dX5_takeAtRule_50 : decode cX5_takeAtRule 50 = .ok (.invokevirtual 119, 3) := by decide +kernel
theorem dX5_takeAtRule_53 : decode cX5_takeAtRule 53 = .ok (.return_, 1) := by decide +kernel
noncomputable def B_X5_takeAtRule_0 : pb_C := (i_aload 0 (i_getI 21 3 (i_if_ne (i_jmp 24 [true]) (i_aload 0 (i_getI 21 18 (i_const (.int 30) (i_ic_lt (i_jmp 24 [true]) (i_aload 0 (i_const (.int 4) (i_callV 21 1 0 M_X5_refuse i_vret))))))))))
noncomputable def B_X5_takeAtRule_24 : pb_C := (i_aload 0 (i_getI 21 3 (i_if_ne (i_aload 0 (i_getI 21 3 (i_const (.int 15) (i_ic_eq i_vret (i_aload 0 (i_const (.int 2) (i_callV 21 1 0 M_X5_refuse i_vret))))))) (i_aload 0 (i_const (.int 1) (i_putI 21 7 i_vret))))))
noncomputable def T_X5_takeAtRule : Nat → pb_C := pb_tt [(0, B_X5_takeAtRule_0), (24, B_X5_takeAtRule_24)]
noncomputable def M_X5_takeAtRule : pb_F := pb_M T_X5_takeAtRule 1
set_option maxRecDepth 100000 in
set_option maxHeartbeats 4000000 in
theorem S_X5_takeAtRule (l : Launch) : pb_Sound l yX5_takeAtRule cX5_takeAtRule 1 none 2 M_X5_takeAtRule := by
  refine pb_sound_of (by decide) m_4_97 ?_
  intro Γ hl0 hRm0 hm X E hr J
  have hnL : ∀ j, j < 1 → j < Γ.2.2.2.2.2.2.2.2.2.2.2.1 := fun j h => by rw [hm]; exact h
  have hR : ∀ (d' mL : Nat), d' + 1 ≤ 2 ∧ 8 + (mL + 11) + d' * 64 ≤ 2 * 64 → (pb_rm d').frames + 1 ≤ Γ.2.2.2.1.frames ∧ 8 + (mL + 11) + (pb_rm d').locals ≤ Γ.2.2.2.1.locals := by rw [hRm0]; exact fun _ _ h => h
  have hRm : 1 ≤ 2 ∧ 64 ≤ 2 * 64 → 1 ≤ Γ.2.2.2.1.frames ∧ 64 ≤ Γ.2.2.2.1.locals := by rw [hRm0]; exact fun h => h
  exact pb_tt_snd _ (List.forall_mem_cons.mpr ⟨(s_aload_n (pc := 0) X dX5_takeAtRule_0 rfl (s_getI (pc := 1) X dX5_takeAtRule_1 g_X5_75 (s_if_ne (pc := 4) X dX5_takeAtRule_4 (by decide) (s_jmp (pc := 24) J [true]) (s_aload_n (pc := 7) X dX5_takeAtRule_7 rfl (s_getI (pc := 8) X dX5_takeAtRule_8 g_X5_39 (s_bipush (pc := 11) X dX5_takeAtRule_11 rfl (s_ic_lt (pc := 13) X dX5_takeAtRule_13 (by decide) (s_jmp (pc := 24) J [true]) (s_aload_n (pc := 16) X dX5_takeAtRule_16 rfl (s_iconst (pc := 17) X dX5_takeAtRule_17 rfl (s_callV (pc := 18) X dX5_takeAtRule_18 (S_X5_refuse _) q_X5_119 h_21 rfl (hR _ _ (by decide)) (s_goto (pc := 21) X dX5_takeAtRule_21 (by decide) (s_vret (pc := 53) X E hr dX5_takeAtRule_53)))))))))))), List.forall_mem_cons.mpr ⟨(s_aload_n (pc := 24) X dX5_takeAtRule_24 rfl (s_getI (pc := 25) X dX5_takeAtRule_25 g_X5_75 (s_if_ne (pc := 28) X dX5_takeAtRule_28 (by decide) (s_aload_n (pc := 39) X dX5_takeAtRule_39 rfl (s_getI (pc := 40) X dX5_takeAtRule_40 g_X5_75 (s_bipush (pc := 43) X dX5_takeAtRule_43 rfl (s_ic_eq (pc := 45) X dX5_takeAtRule_45 (by decide) (s_vret (pc := 53) X E hr dX5_takeAtRule_53) (s_aload_n (pc := 48) X dX5_takeAtRule_48 rfl (s_iconst (pc := 49) X dX5_takeAtRule_49 rfl (s_callV (pc := 50) X dX5_takeAtRule_50 (S_X5_refuse _) q_X5_119 h_21 rfl (hR _ _ (by decide)) (s_vret (pc := 53) X E hr dX5_takeAtRule_53)))))))) (s_aload_n (pc := 31) X dX5_takeAtRule_31 rfl (s_iconst (pc := 32) X dX5_takeAtRule_32 rfl (s_putI (pc := 33) X dX5_takeAtRule_33 p_X5_60 (s_goto (pc := 36) X dX5_takeAtRule_36 (by decide) (s_vret (pc := 53) X E hr dX5_takeAtRule_53)))))))), fun _ h => absurd h List.not_mem_nil⟩⟩)
theorem dX5_operatorStep_0 : decode cX5_operatorStep 0 = .ok (.aload_n 0, 1) := by decide +kernel
theorem dX5_operatorStep_1 : decode cX5_operatorStep 1 = .ok (.getfield 75, 3) := by decide +kernel
theorem dX5_operatorStep_4 : decode cX5_operatorStep 4 = .ok (.tableswitch 52 42 47 #[46, 40, 52, 43, 52, 49], 40) := by decide +kernel
theorem dX5_operatorStep_44 : decode cX5_operatorStep 44 = .ok (.bipush 50, 2) := by decide +kernel
theorem dX5_operatorStep_46 : decode cX5_operatorStep 46 = .ok (.ireturn, 1) := by decide +kernel
theorem dX5_operatorStep_47 : decode cX5_operatorStep 47 = .ok (.bipush 51, 2) := by decide +kernel
theorem dX5_operatorStep_49 : decode cX5_operatorStep 49 = .ok (.ireturn, 1) := by decide +kernel
theorem dX5_operatorStep_50 : decode cX5_operatorStep 50 = .ok (.bipush 60, 2) := by decide +kernel
theorem dX5_operatorStep_52 : decode cX5_operatorStep 52 = .ok (.ireturn, 1) := by decide +kernel
theorem dX5_operatorStep_53 : decode cX5_operatorStep 53 = .ok (.bipush 61, 2) := by decide +kernel
theorem dX5_operatorStep_55 : decode cX5_operatorStep 55 = .ok (.ireturn, 1) := by decide +kernel
theorem dX5_operatorStep_56 : decode cX5_operatorStep 56 = .ok (.iconst (-1), 1) := by decide +kernel
theorem dX5_operatorStep_57 : decode cX5_operatorStep 57 = .ok (.ireturn, 1) := by decide +kernel
noncomputable def B_X5_operatorStep_0 : pb_C := (i_aload 0 (i_getI 21 3 (i_tb 42 [(i_const (.int 60) i_iret), (i_const (.int 50) i_iret), (i_const (.int (-1)) i_iret), (i_const (.int 51) i_iret), (i_const (.int (-1)) i_iret), (i_const (.int 61) i_iret)] (i_const (.int (-1)) i_iret))))
noncomputable def T_X5_operatorStep : Nat → pb_C := pb_tt [(0, B_X5_operatorStep_0)]
noncomputable def M_X5_operatorStep : pb_F := pb_M T_X5_operatorStep 1
set_option maxRecDepth 100000 in
set_option maxHeartbeats 4000000 in
theorem S_X5_operatorStep (l : Launch) : pb_Sound l yX5_operatorStep cX5_operatorStep 1 (some .int) 1 M_X5_operatorStep := by
  refine pb_sound_of (by decide) m_4_148 ?_
  intro Γ hl0 hRm0 hm X E hr J
  have hnL : ∀ j, j < 1 → j < Γ.2.2.2.2.2.2.2.2.2.2.2.1 := fun j h => by rw [hm]; exact h
  have hR : ∀ (d' mL : Nat), d' + 1 ≤ 1 ∧ 8 + (mL + 11) + d' * 64 ≤ 1 * 64 → (pb_rm d').frames + 1 ≤ Γ.2.2.2.1.frames ∧ 8 + (mL + 11) + (pb_rm d').locals ≤ Γ.2.2.2.1.locals := by rw [hRm0]; exact fun _ _ h => h
  have hRm : 1 ≤ 1 ∧ 64 ≤ 1 * 64 → 1 ≤ Γ.2.2.2.1.frames ∧ 64 ≤ Γ.2.2.2.1.locals := by rw [hRm0]; exact fun h => h
  exact pb_tt_snd _ (List.forall_mem_cons.mpr ⟨(s_aload_n (pc := 0) X dX5_operatorStep_0 rfl (s_getI (pc := 1) X dX5_operatorStep_1 g_X5_75 (s_table (pc := 4) X dX5_operatorStep_4 6 42 (by decide) rfl (by decide) (by decide) 56 (by decide) (s_iconst (pc := 56) X dX5_operatorStep_56 rfl (s_iret (pc := 57) X E hr dX5_operatorStep_57)) [50, 44, 56, 47, 56, 53] (by decide) (pb_tc_of _ _ (⟨(s_bipush (pc := 50) X dX5_operatorStep_50 rfl (s_iret (pc := 52) X E hr dX5_operatorStep_52)), ⟨(s_bipush (pc := 44) X dX5_operatorStep_44 rfl (s_iret (pc := 46) X E hr dX5_operatorStep_46)), ⟨(s_iconst (pc := 56) X dX5_operatorStep_56 rfl (s_iret (pc := 57) X E hr dX5_operatorStep_57)), ⟨(s_bipush (pc := 47) X dX5_operatorStep_47 rfl (s_iret (pc := 49) X E hr dX5_operatorStep_49)), ⟨(s_iconst (pc := 56) X dX5_operatorStep_56 rfl (s_iret (pc := 57) X E hr dX5_operatorStep_57)), ⟨(s_bipush (pc := 53) X dX5_operatorStep_53 rfl (s_iret (pc := 55) X E hr dX5_operatorStep_55)), trivial⟩⟩⟩⟩⟩⟩))))), fun _ h => absurd h List.not_mem_nil⟩)
theorem dX5_closeBracket_0 : decode cX5_closeBracket 0 = .ok (.aload_n 0, 1) := by decide +kernel
theorem dX5_closeBracket_1 : decode cX5_closeBracket 1 = .ok (.getfield 75, 3) := by decide +kernel
theorem dX5_closeBracket_4 : decode cX5_closeBracket 4 = .ok (.bipush 41, 2) := by decide +kernel
theorem dX5_closeBracket_6 : decode cX5_closeBracket 6 = .ok (.if_icmp .eq 9, 3) := by decide +kernel
theorem dX5_closeBracket_9 : decode cX5_closeBracket 9 = .ok (.aload_n 0, 1) := by decide +kernel
theorem dX5_closeBracket_10 : decode cX5_closeBracket 10 = .ok (.iconst 2, 1) := by decide +kernel
theorem dX5_closeBracket_11 : decode cX5_closeBracket 11 = .ok (.invokevirtual 119, 3) := by decide +kernel
theorem dX5_closeBracket_14 : decode cX5_closeBracket 14 = .ok (.return_, 1) := by decide +kernel
theorem dX5_closeBracket_15 : decode cX5_closeBracket 15 = .ok (.aload_n 0, 1) := by decide +kernel
theorem dX5_closeBracket_16 : decode cX5_closeBracket 16 = .ok (.iconst 1, 1) := by decide +kernel
theorem dX5_closeBracket_17 : decode cX5_closeBracket 17 = .ok (.invokevirtual 158, 3) := by decide +kernel
theorem dX5_closeBracket_20 : decode cX5_closeBracket 20 = .ok (.aload_n 0, 1) := by decide +kernel
theorem dX5_closeBracket_21 : decode cX5_closeBracket 21 = .ok (.iconst 0, 1) := by decide +kernel
theorem dX5_closeBracket_22 : decode cX5_closeBracket 22 = .ok (.aload_n 0, 1) := by decide +kernel
theorem dX5_closeBracket_23 : decode cX5_closeBracket 23 = .ok (.getfield 63, 3) := by decide +kernel
theorem dX5_closeBracket_26 : decode cX5_closeBracket 26 = .ok (.iconst 1, 1) := by decide +kernel
theorem dX5_closeBracket_27 : decode cX5_closeBracket 27 = .ok (.isub, 1) := by decide +kernel
theorem dX5_closeBracket_28 : decode cX5_closeBracket 28 = .ok (.invokestatic 186, 3) := by decide +kernel
theorem dX5_closeBracket_31 : decode cX5_closeBracket 31 = .ok (.putfield 63, 3) := by decide +kernel
theorem dX5_closeBracket_34 : decode cX5_closeBracket 34 = .ok (.aload_n 0, 1) := by decide +kernel
theorem dX5_closeBracket_35 : decode cX5_closeBracket 35 = .ok (.dup, 1) := by decide +kernel
theorem dX5_closeBracket_36 : decode cX5_closeBracket 36 = .ok (.getfield 167, 3) := by decide +kernel
theorem dX5_closeBracket_39 : decode cX5_closeBracket 39 = .ok (.iconst 1, 1) := by decide +kernel
theorem dX5_closeBracket_40 : decode cX5_closeBracket 40 = .ok (.isub, 1) := by decide +kernel
theorem dX5_closeBracket_41 : decode cX5_closeBracket 41 = .ok (.putfield 167, 3) := by decide +kernel
theorem dX5_closeBracket_44 : decode cX5_closeBracket 44 = .ok (.return_, 1) := by decide +kernel
noncomputable def B_X5_closeBracket_0 : pb_C := (i_aload 0 (i_getI 21 3 (i_const (.int 41) (i_ic_eq (i_aload 0 (i_const (.int 1) (i_callV 21 1 0 M_X5_release (i_aload 0 (i_const (.int 0) (i_aload 0 (i_getI 21 11 (i_const (.int 1) (i_ibin (· - ·) (i_mI2 pb_max (i_putI 21 11 (i_aload 0 (i_dupR (i_getI 21 9 (i_const (.int 1) (i_ibin (· - ·) (i_putI 21 9 i_vret))))))))))))))))) (i_aload 0 (i_const (.int 2) (i_callV 21 1 0 M_X5_refuse i_vret)))))))
noncomputable def T_X5_closeBracket : Nat → pb_C := pb_tt [(0, B_X5_closeBracket_0)]
noncomputable def M_X5_closeBracket : pb_F := pb_M T_X5_closeBracket 1
set_option maxRecDepth 100000 in
set_option maxHeartbeats 4000000 in
theorem S_X5_closeBracket (l : Launch) : pb_Sound l yX5_closeBracket cX5_closeBracket 1 none 3 M_X5_closeBracket := by
  refine pb_sound_of (by decide) m_4_152 ?_
  intro Γ hl0 hRm0 hm X E hr J
  have hnL : ∀ j, j < 1 → j < Γ.2.2.2.2.2.2.2.2.2.2.2.1 := fun j h => by rw [hm]; exact h
  have hR : ∀ (d' mL : Nat), d' + 1 ≤ 3 ∧ 8 + (mL + 11) + d' * 64 ≤ 3 * 64 → (pb_rm d').frames + 1 ≤ Γ.2.2.2.1.frames ∧ 8 + (mL + 11) + (pb_rm d').locals ≤ Γ.2.2.2.1.locals := by rw [hRm0]; exact fun _ _ h => h
  have hRm : 1 ≤ 3 ∧ 64 ≤ 3 * 64 → 1 ≤ Γ.2.2.2.1.frames ∧ 64 ≤ Γ.2.2.2.1.locals := by rw [hRm0]; exact fun h => h
  exact pb_tt_snd _ (List.forall_mem_cons.mpr ⟨(s_aload_n (pc := 0) X dX5_closeBracket_0 rfl (s_getI (pc := 1) X dX5_closeBracket_1 g_X5_75 (s_bipush (pc := 4) X dX5_closeBracket_4 rfl (s_ic_eq (pc := 6) X dX5_closeBracket_6 (by decide) (s_aload_n (pc := 15) X dX5_closeBracket_15 rfl (s_iconst (pc := 16) X dX5_closeBracket_16 rfl (s_callV (pc := 17) X dX5_closeBracket_17 (S_X5_release _) q_X5_158 h_21 rfl (hR _ _ (by decide)) (s_aload_n (pc := 20) X dX5_closeBracket_20 rfl (s_iconst (pc := 21) X dX5_closeBracket_21 rfl (s_aload_n (pc := 22) X dX5_closeBracket_22 rfl (s_getI (pc := 23) X dX5_closeBracket_23 g_X5_63 (s_iconst (pc := 26) X dX5_closeBracket_26 rfl (s_isub (pc := 27) X dX5_closeBracket_27 (s_mmax (pc := 28) X dX5_closeBracket_28 m_4_153 mm_mmax (hRm (by decide)) (s_putI (pc := 31) X dX5_closeBracket_31 p_X5_63 (s_aload_n (pc := 34) X dX5_closeBracket_34 rfl (s_dupR (pc := 35) X dX5_closeBracket_35 (s_getI (pc := 36) X dX5_closeBracket_36 g_X5_167 (s_iconst (pc := 39) X dX5_closeBracket_39 rfl (s_isub (pc := 40) X dX5_closeBracket_40 (s_putI (pc := 41) X dX5_closeBracket_41 p_X5_167 (s_vret (pc := 44) X E hr dX5_closeBracket_44)))))))))))))))))) (s_aload_n (pc := 9) X dX5_closeBracket_9 rfl (s_iconst (pc := 10) X dX5_closeBracket_10 rfl (s_callV (pc := 11) X dX5_closeBracket_11 (S_X5_refuse _) q_X5_119 h_21 rfl (hR _ _ (by decide)) (s_vret (pc := 14) X E hr dX5_closeBracket_14)))))))), fun _ h => absurd h List.not_mem_nil⟩)
theorem dX5_comparisonStep_0 : decode cX5_comparisonStep 0 = .ok (.aload_n 0, 1) := by decide +kernel
theorem dX5_comparisonStep_1 : decode cX5_comparisonStep 1 = .ok (.getfield 75, 3) := by decide +kernel
theorem dX5_comparisonStep_4 : decode cX5_comparisonStep 4 = .ok (.tableswitch 37 60 62 #[28, 34, 31], 28) := by decide +kernel
theorem dX5_comparisonStep_32 : decode cX5_comparisonStep 32 = .ok (.bipush 40, 2) := by decide +kernel
theorem dX5_comparisonStep_34 : decode cX5_comparisonStep 34 = .ok (.ireturn, 1) := by decide +kernel
theorem dX5_comparisonStep_35 : decode cX5_comparisonStep 35 = .ok (.bipush 41, 2) := by decide +kernel
theorem dX5_comparisonStep_37 : decode cX5_comparisonStep 37 = .ok (.ireturn, 1) := by decide +kernel
theorem dX5_comparisonStep_38 : decode cX5_comparisonStep 38 = .ok (.bipush 42, 2) := by decide +kernel
theorem dX5_comparisonStep_40 : decode cX5_comparisonStep 40 = .ok (.ireturn, 1) := by decide +kernel
theorem dX5_comparisonStep_41 : decode cX5_comparisonStep 41 = .ok (.iconst (-1), 1) := by decide +kernel
theorem dX5_comparisonStep_42 : decode cX5_comparisonStep 42 = .ok (.ireturn, 1) := by decide +kernel
noncomputable def B_X5_comparisonStep_0 : pb_C := (i_aload 0 (i_getI 21 3 (i_tb 60 [(i_const (.int 40) i_iret), (i_const (.int 42) i_iret), (i_const (.int 41) i_iret)] (i_const (.int (-1)) i_iret))))
noncomputable def T_X5_comparisonStep : Nat → pb_C := pb_tt [(0, B_X5_comparisonStep_0)]
noncomputable def M_X5_comparisonStep : pb_F := pb_M T_X5_comparisonStep 1
set_option maxRecDepth 100000 in
set_option maxHeartbeats 4000000 in
theorem S_X5_comparisonStep (l : Launch) : pb_Sound l yX5_comparisonStep cX5_comparisonStep 1 (some .int) 1 M_X5_comparisonStep := by
  refine pb_sound_of (by decide) m_4_161 ?_
  intro Γ hl0 hRm0 hm X E hr J
  have hnL : ∀ j, j < 1 → j < Γ.2.2.2.2.2.2.2.2.2.2.2.1 := fun j h => by rw [hm]; exact h
  have hR : ∀ (d' mL : Nat), d' + 1 ≤ 1 ∧ 8 + (mL + 11) + d' * 64 ≤ 1 * 64 → (pb_rm d').frames + 1 ≤ Γ.2.2.2.1.frames ∧ 8 + (mL + 11) + (pb_rm d').locals ≤ Γ.2.2.2.1.locals := by rw [hRm0]; exact fun _ _ h => h
  have hRm : 1 ≤ 1 ∧ 64 ≤ 1 * 64 → 1 ≤ Γ.2.2.2.1.frames ∧ 64 ≤ Γ.2.2.2.1.locals := by rw [hRm0]; exact fun h => h
  exact pb_tt_snd _ (List.forall_mem_cons.mpr ⟨(s_aload_n (pc := 0) X dX5_comparisonStep_0 rfl (s_getI (pc := 1) X dX5_comparisonStep_1 g_X5_75 (s_table (pc := 4) X dX5_comparisonStep_4 3 60 (by decide) rfl (by decide) (by decide) 41 (by decide) (s_iconst (pc := 41) X dX5_comparisonStep_41 rfl (s_iret (pc := 42) X E hr dX5_comparisonStep_42)) [32, 38, 35] (by decide) (pb_tc_of _ _ (⟨(s_bipush (pc := 32) X dX5_comparisonStep_32 rfl (s_iret (pc := 34) X E hr dX5_comparisonStep_34)), ⟨(s_bipush (pc := 38) X dX5_comparisonStep_38 rfl (s_iret (pc := 40) X E hr dX5_comparisonStep_40)), ⟨(s_bipush (pc := 35) X dX5_comparisonStep_35 rfl (s_iret (pc := 37) X E hr dX5_comparisonStep_37)), trivial⟩⟩⟩))))), fun _ h => absurd h List.not_mem_nil⟩)
theorem dX5_takeComparison_0 : decode cX5_takeComparison 0 = .ok (.aload_n 0, 1) := by decide +kernel
theorem dX5_takeComparison_1 : decode cX5_takeComparison 1 = .ok (.invokevirtual 189, 3) := by decide +kernel
theorem dX5_takeComparison_4 : decode cX5_takeComparison 4 = .ok (.istore_n 1, 1) := by decide +kernel
theorem dX5_takeComparison_5 : decode cX5_takeComparison 5 = .ok (.iload_n 1, 1) := by decide +kernel
theorem dX5_takeComparison_6 : decode cX5_takeComparison 6 = .ok (.iconst (-1), 1) := by decide +kernel
theorem dX5_takeComparison_7 : decode cX5_takeComparison 7 = .ok (.if_icmp .ne 9, 3) := by decide +kernel
theorem dX5_takeComparison_10 : decode cX5_takeComparison 10 = .ok (.aload_n 0, 1) := by decide +kernel
theorem dX5_takeComparison_11 : decode cX5_takeComparison 11 = .ok (.iconst 2, 1) := by decide +kernel
theorem dX5_takeComparison_12 : decode cX5_takeComparison 12 = .ok (.invokevirtual 119, 3) := by decide +kernel
theorem dX5_takeComparison_15 : decode cX5_takeComparison 15 = .ok (.return_, 1) := by decide +kernel
theorem dX5_takeComparison_16 : decode cX5_takeComparison 16 = .ok (.aload_n 0, 1) := by decide +kernel
theorem dX5_takeComparison_17 : decode cX5_takeComparison 17 = .ok (.iload_n 1, 1) := by decide +kernel
theorem dX5_takeComparison_18 : decode cX5_takeComparison 18 = .ok (.invokestatic 155, 3) := by decide +kernel
theorem dX5_takeComparison_21 : decode cX5_takeComparison 21 = .ok (.invokevirtual 158, 3) := by decide +kernel
theorem dX5_takeComparison_24 : decode cX5_takeComparison 24 = .ok (.aload_n 0, 1) := by decide +kernel
theorem dX5_takeComparison_25 : decode cX5_takeComparison 25 = .ok (.iload_n 1, 1) := by decide +kernel
theorem dX5_takeComparison_26 : decode cX5_takeComparison 26 = .ok (.invokevirtual 145, 3) := by decide +kernel
theorem dX5_takeComparison_29 : decode cX5_takeComparison 29 = .ok (.aload_n 0, 1) := by decide +kernel
theorem dX5_takeComparison_30 : decode cX5_takeComparison 30 = .ok (.iconst 1, 1) := by decide +kernel
theorem dX5_takeComparison_31 : decode cX5_takeComparison 31 = .ok (.invokevirtual 152, 3) := by decide +kernel
theorem dX5_takeComparison_34 : decode cX5_takeComparison 34 = .ok (.return_, 1) := by decide +kernel
noncomputable def B_X5_takeComparison_0 : pb_C := (i_aload 0 (i_callV 21 0 1 M_X5_comparisonStep (i_istore 1 (i_iload 1 (i_const (.int (-1)) (i_ic_ne (i_aload 0 (i_iload 1 (i_callS 1 1 M_X0_bindingOf (i_callV 21 1 0 M_X5_release (i_aload 0 (i_iload 1 (i_callV 21 1 0 M_X5_hold (i_aload 0 (i_const (.int 1) (i_callV 21 1 0 M_X5_openSum i_vret)))))))))) (i_aload 0 (i_const (.int 2) (i_callV 21 1 0 M_X5_refuse i_vret)))))))))
noncomputable def T_X5_takeComparison : Nat → pb_C := pb_tt [(0, B_X5_takeComparison_0)]
noncomputable def M_X5_takeComparison : pb_F := pb_M T_X5_takeComparison 2
set_option maxRecDepth 100000 in
set_option maxHeartbeats 4000000 in
theorem S_X5_takeComparison (l : Launch) : pb_Sound l yX5_takeComparison cX5_takeComparison 2 none 3 M_X5_takeComparison := by
  refine pb_sound_of (by decide) m_4_157 ?_
  intro Γ hl0 hRm0 hm X E hr J
  have hnL : ∀ j, j < 2 → j < Γ.2.2.2.2.2.2.2.2.2.2.2.1 := fun j h => by rw [hm]; exact h
  have hR : ∀ (d' mL : Nat), d' + 1 ≤ 3 ∧ 8 + (mL + 11) + d' * 64 ≤ 3 * 64 → (pb_rm d').frames + 1 ≤ Γ.2.2.2.1.frames ∧ 8 + (mL + 11) + (pb_rm d').locals ≤ Γ.2.2.2.1.locals := by rw [hRm0]; exact fun _ _ h => h
  have hRm : 1 ≤ 3 ∧ 64 ≤ 3 * 64 → 1 ≤ Γ.2.2.2.1.frames ∧ 64 ≤ Γ.2.2.2.1.locals := by rw [hRm0]; exact fun h => h
  exact pb_tt_snd _ (List.forall_mem_cons.mpr ⟨(s_aload_n (pc := 0) X dX5_takeComparison_0 rfl (s_callV (pc := 1) X dX5_takeComparison_1 (S_X5_comparisonStep _) q_X5_189 h_21 rfl (hR _ _ (by decide)) (s_istore_n (pc := 4) X dX5_takeComparison_4 rfl (hnL _ (by decide)) (s_iload_n (pc := 5) X dX5_takeComparison_5 rfl (s_iconst (pc := 6) X dX5_takeComparison_6 rfl (s_ic_ne (pc := 7) X dX5_takeComparison_7 (by decide) (s_aload_n (pc := 16) X dX5_takeComparison_16 rfl (s_iload_n (pc := 17) X dX5_takeComparison_17 rfl (s_callS (pc := 18) X dX5_takeComparison_18 (S_X0_bindingOf _) q_X5_155 (hR _ _ (by decide)) (s_callV (pc := 21) X dX5_takeComparison_21 (S_X5_release _) q_X5_158 h_21 rfl (hR _ _ (by decide)) (s_aload_n (pc := 24) X dX5_takeComparison_24 rfl (s_iload_n (pc := 25) X dX5_takeComparison_25 rfl (s_callV (pc := 26) X dX5_takeComparison_26 (S_X5_hold _) q_X5_145 h_21 rfl (hR _ _ (by decide)) (s_aload_n (pc := 29) X dX5_takeComparison_29 rfl (s_iconst (pc := 30) X dX5_takeComparison_30 rfl (s_callV (pc := 31) X dX5_takeComparison_31 (S_X5_openSum _) q_X5_152 h_21 rfl (hR _ _ (by decide)) (s_vret (pc := 34) X E hr dX5_takeComparison_34))))))))))) (s_aload_n (pc := 10) X dX5_takeComparison_10 rfl (s_iconst (pc := 11) X dX5_takeComparison_11 rfl (s_callV (pc := 12) X dX5_takeComparison_12 (S_X5_refuse _) q_X5_119 h_21 rfl (hR _ _ (by decide)) (s_vret (pc := 15) X E hr dX5_takeComparison_15)))))))))), fun _ h => absurd h List.not_mem_nil⟩)
theorem dX5_endRule_0 : decode cX5_endRule 0 = .ok (.aload_n 0, 1) := by decide +kernel
theorem dX5_endRule_1 : decode cX5_endRule 1 = .ok (.getfield 161, 3) := by decide +kernel
theorem dX5_endRule_4 : decode cX5_endRule 4 = .ok (.sipush 600, 3) := by decide +kernel
theorem dX5_endRule_7 : decode cX5_endRule 7 = .ok (.if_icmp .ge 24, 3) := by decide +kernel
theorem dX5_endRule_10 : decode cX5_endRule 10 = .ok (.aload_n 0, 1) := by decide +kernel
theorem dX5_endRule_11 : decode cX5_endRule 11 = .ok (.getfield 19, 3) := by decide +kernel
theorem dX5_endRule_14 : decode cX5_endRule 14 = .ok (.aload_n 0, 1) := by decide +kernel
theorem dX5_endRule_15 : decode cX5_endRule 15 = .ok (.getfield 161, 3) := by decide +kernel
theorem dX5_endRule_18 : decode cX5_endRule 18 = .ok (.aload_n 0, 1) := by decide +kernel
theorem dX5_endRule_19 : decode cX5_endRule 19 = .ok (.getfield 66, 3) := by decide +kernel
theorem dX5_endRule_22 : decode cX5_endRule 22 = .ok (.i2l, 1) := by decide +kernel
theorem dX5_endRule_23 : decode cX5_endRule 23 = .ok (.bipush 8, 2) := by decide +kernel
theorem dX5_endRule_25 : decode cX5_endRule 25 = .ok (.lshl, 1) := by decide +kernel
theorem dX5_endRule_26 : decode cX5_endRule 26 = .ok (.ldc2_w 195, 3) := by decide +kernel
theorem dX5_endRule_29 : decode cX5_endRule 29 = .ok (.lor, 1) := by decide +kernel
theorem dX5_endRule_30 : decode cX5_endRule 30 = .ok (.lastore, 1) := by decide +kernel
theorem dX5_endRule_31 : decode cX5_endRule 31 = .ok (.aload_n 0, 1) := by decide +kernel
theorem dX5_endRule_32 : decode cX5_endRule 32 = .ok (.bipush 73, 2) := by decide +kernel
theorem dX5_endRule_34 : decode cX5_endRule 34 = .ok (.lconst 0, 1) := by decide +kernel
theorem dX5_endRule_35 : decode cX5_endRule 35 = .ok (.invokevirtual 148, 3) := by decide +kernel
theorem dX5_endRule_38 : decode cX5_endRule 38 = .ok (.aload_n 0, 1) := by decide +kernel
theorem dX5_endRule_39 : decode cX5_endRule 39 = .ok (.dup, 1) := by decide +kernel
theorem dX5_endRule_40 : decode cX5_endRule 40 = .ok (.getfield 39, 3) := by decide +kernel
theorem dX5_endRule_43 : decode cX5_endRule 43 = .ok (.iconst 1, 1) := by decide +kernel
theorem dX5_endRule_44 : decode cX5_endRule 44 = .ok (.iadd, 1) := by decide +kernel
theorem dX5_endRule_45 : decode cX5_endRule 45 = .ok (.putfield 39, 3) := by decide +kernel
theorem dX5_endRule_48 : decode cX5_endRule 48 = .ok (.aload_n 0, 1) := by decide +kernel
theorem dX5_endRule_49 : decode cX5_endRule 49 = .ok (.iconst 0, 1) := by decide +kernel
theorem dX5_endRule_50 : decode cX5_endRule 50 = .ok (.putfield 60, 3) := by decide +kernel
theorem dX5_endRule_53 : decode cX5_endRule 53 = .ok (.return_, 1) := by decide +kernel
noncomputable def B_X5_endRule_0 : pb_C := (i_aload 0 (i_getI 21 14 (i_const (.int 600) (i_ic_ge (i_jmp 31 [true]) (i_aload 0 (i_getR 21 24 (i_aload 0 (i_getI 21 14 (i_aload 0 (i_getI 21 13 (i_i2l (i_const (.int 8) (i_lsh (fun x y => x <<< (y.toInt64 &&& 63)) (i_const (.long (70)) (i_lbin (· ||| ·) (i_last 24 600 (i_jmp 31 [true])))))))))))))))))
noncomputable def B_X5_endRule_31 : pb_C := (i_aload 0 (i_const (.int 73) (i_const (.long 0) (i_callV 21 2 0 M_X5_emit (i_aload 0 (i_dupR (i_getI 21 18 (i_const (.int 1) (i_ibin (· + ·) (i_putI 21 18 (i_aload 0 (i_const (.int 0) (i_putI 21 7 i_vret)))))))))))))
noncomputable def T_X5_endRule : Nat → pb_C := pb_tt [(0, B_X5_endRule_0), (31, B_X5_endRule_31)]
noncomputable def M_X5_endRule : pb_F := pb_M T_X5_endRule 1
set_option maxRecDepth 100000 in
set_option maxHeartbeats 4000000 in
theorem S_X5_endRule (l : Launch) : pb_Sound l yX5_endRule cX5_endRule 1 none 2 M_X5_endRule := by
  refine pb_sound_of (by decide) m_4_169 ?_
  intro Γ hl0 hRm0 hm X E hr J
  have hnL : ∀ j, j < 1 → j < Γ.2.2.2.2.2.2.2.2.2.2.2.1 := fun j h => by rw [hm]; exact h
  have hR : ∀ (d' mL : Nat), d' + 1 ≤ 2 ∧ 8 + (mL + 11) + d' * 64 ≤ 2 * 64 → (pb_rm d').frames + 1 ≤ Γ.2.2.2.1.frames ∧ 8 + (mL + 11) + (pb_rm d').locals ≤ Γ.2.2.2.1.locals := by rw [hRm0]; exact fun _ _ h => h
  have hRm : 1 ≤ 2 ∧ 64 ≤ 2 * 64 → 1 ≤ Γ.2.2.2.1.frames ∧ 64 ≤ Γ.2.2.2.1.locals := by rw [hRm0]; exact fun h => h
  exact pb_tt_snd _ (List.forall_mem_cons.mpr ⟨(s_aload_n (pc := 0) X dX5_endRule_0 rfl (s_getI (pc := 1) X dX5_endRule_1 g_X5_161 (s_sipush (pc := 4) X dX5_endRule_4 rfl (s_ic_ge (pc := 7) X dX5_endRule_7 (by decide) (s_jmp (pc := 31) J [true]) (s_aload_n (pc := 10) X dX5_endRule_10 rfl (s_getR (pc := 11) X dX5_endRule_11 g_X5_19 (s_aload_n (pc := 14) X dX5_endRule_14 rfl (s_getI (pc := 15) X dX5_endRule_15 g_X5_161 (s_aload_n (pc := 18) X dX5_endRule_18 rfl (s_getI (pc := 19) X dX5_endRule_19 g_X5_66 (s_i2l (pc := 22) X dX5_endRule_22 (s_bipush (pc := 23) X dX5_endRule_23 rfl (s_lshl (pc := 25) X dX5_endRule_25 (s_ldc2 (pc := 26) X dX5_endRule_26 m_4_170 (s_lor (pc := 29) X dX5_endRule_29 (s_last (pc := 30) X dX5_endRule_30 h_24 (s_jmp (pc := 31) J [true]))))))))))))))))), List.forall_mem_cons.mpr ⟨(s_aload_n (pc := 31) X dX5_endRule_31 rfl (s_bipush (pc := 32) X dX5_endRule_32 rfl (s_lconst (pc := 34) X dX5_endRule_34 rfl (s_callV (pc := 35) X dX5_endRule_35 (S_X5_emit _) q_X5_148 h_21 rfl (hR _ _ (by decide)) (s_aload_n (pc := 38) X dX5_endRule_38 rfl (s_dupR (pc := 39) X dX5_endRule_39 (s_getI (pc := 40) X dX5_endRule_40 g_X5_39 (s_iconst (pc := 43) X dX5_endRule_43 rfl (s_iadd (pc := 44) X dX5_endRule_44 (s_putI (pc := 45) X dX5_endRule_45 p_X5_39 (s_aload_n (pc := 48) X dX5_endRule_48 rfl (s_iconst (pc := 49) X dX5_endRule_49 rfl (s_putI (pc := 50) X dX5_endRule_50 p_X5_60 (s_vret (pc := 53) X E hr dX5_endRule_53)))))))))))))), fun _ h => absurd h List.not_mem_nil⟩⟩)
theorem dX5_takeBehindResult_0 : decode cX5_takeBehindResult 0 = .ok (.aload_n 0, 1) := by decide +kernel
theorem dX5_takeBehindResult_1 : decode cX5_takeBehindResult 1 = .ok (.getfield 75, 3) := by decide +kernel
theorem dX5_takeBehindResult_4 : decode cX5_takeBehindResult 4 = .ok (.iconst 3, 1) := by decide +kernel
theorem dX5_takeBehindResult_5 : decode cX5_takeBehindResult 5 = .ok (.if_icmp .ne 15, 3) := by decide +kernel
theorem dX5_takeBehindResult_8 : decode cX5_takeBehindResult 8 = .ok (.aload_n 0, 1) := by decide +kernel
theorem dX5_takeBehindResult_9 : decode cX5_takeBehindResult 9 = .ok (.getfield 164, 3) := by decide +kernel
theorem dX5_takeBehindResult_12 : decode cX5_takeBehindResult 12 = .ok (.iconst 2, 1) := by decide +kernel
theorem dX5_takeBehindResult_13 : decode cX5_takeBehindResult 13 = .ok (.if_icmp .ne 7, 3) := by decide +kernel
theorem dX5_takeBehindResult_16 : decode cX5_takeBehindResult 16 = .ok (.iconst 1, 1) := by decide +kernel
theorem dX5_takeBehindResult_17 : decode cX5_takeBehindResult 17 = .ok (.goto 4, 3) := by decide +kernel
theorem dX5_takeBehindResult_20 : decode cX5_takeBehindResult 20 = .ok (.iconst 0, 1) := by decide +kernel
theorem dX5_takeBehindResult_21 : decode cX5_takeBehindResult 21 = .ok (.istore_n 1, 1) := by decide +kernel
theorem dX5_takeBehindResult_22 : decode cX5_takeBehindResult 22 = .ok (.iload_n 1, 1) := by decide +kernel
theorem dX5_takeBehindResult_23 : decode cX5_takeBehindResult 23 = .ok (.ifCond .ne 18, 3) := by decide +kernel
theorem dX5_takeBehindResult_26 : decode cX5_takeBehindResult 26 = .ok (.aload_n 0, 1) := by decide +kernel
theorem dX5_takeBehindResult_27 : decode cX5_takeBehindResult 27 = .ok (.getfield 75, 3) := by decide +kernel
theorem dX5_takeBehindResult_30 : decode cX5_takeBehindResult 30 = .ok (.bipush 59, 2) := by decide +kernel
theorem dX5_takeBehindResult_32 : decode cX5_takeBehindResult 32 = .ok (.if_icmp .eq 9, 3) := by decide +kernel
theorem dX5_takeBehindResult_35 : decode cX5_takeBehindResult 35 = .ok (.aload_n 0, 1) := by decide +kernel
theorem dX5_takeBehindResult_36 : decode cX5_takeBehindResult 36 = .ok (.iconst 2, 1) := by decide +kernel
theorem dX5_takeBehindResult_37 : decode cX5_takeBehindResult 37 = .ok (.invokevirtual 119, 3) := by decide +kernel
theorem dX5_takeBehindResult_40 : decode cX5_takeBehindResult 40 = .ok (.return_, 1) := by decide +kernel
theorem dX5_takeBehindResult_41 : decode cX5_takeBehindResult 41 = .ok (.aload_n 0, 1) := by decide +kernel
theorem dX5_takeBehindResult_42 : decode cX5_takeBehindResult 42 = .ok (.iconst 0, 1) := by decide +kernel
theorem dX5_takeBehindResult_43 : decode cX5_takeBehindResult 43 = .ok (.invokevirtual 158, 3) := by decide +kernel
theorem dX5_takeBehindResult_46 : decode cX5_takeBehindResult 46 = .ok (.aload_n 0, 1) := by decide +kernel
theorem dX5_takeBehindResult_47 : decode cX5_takeBehindResult 47 = .ok (.aload_n 0, 1) := by decide +kernel
theorem dX5_takeBehindResult_48 : decode cX5_takeBehindResult 48 = .ok (.getfield 164, 3) := by decide +kernel
theorem dX5_takeBehindResult_51 : decode cX5_takeBehindResult 51 = .ok (.iconst 2, 1) := by decide +kernel
theorem dX5_takeBehindResult_52 : decode cX5_takeBehindResult 52 = .ok (.if_icmp .ne 8, 3) := by decide +kernel
theorem dX5_takeBehindResult_55 : decode cX5_takeBehindResult 55 = .ok (.bipush 71, 2) := by decide +kernel
theorem dX5_takeBehindResult_57 : decode cX5_takeBehindResult 57 = .ok (.goto 5, 3) := by decide +kernel
theorem dX5_takeBehindResult_60 : decode cX5_takeBehindResult 60 = .ok (.bipush 72, 2) := by decide +kernel
theorem dX5_takeBehindResult_62 : decode cX5_takeBehindResult 62 = .ok (.lconst 0, 1) := by decide +kernel
theorem dX5_takeBehindResult_63 : decode cX5_takeBehindResult 63 = .ok (.invokevirtual 148, 3) := by decide +kernel
theorem dX5_takeBehindResult_66 : decode cX5_takeBehindResult 66 = .ok (.iload_n 1, 1) := by decide +kernel
theorem dX5_takeBehindResult_67 : decode cX5_takeBehindResult 67 = .ok (.ifCond .eq 11, 3) := by decide +kernel
theorem dX5_takeBehindResult_70 : decode cX5_takeBehindResult 70 = .ok (.aload_n 0, 1) := by decide +kernel
theorem dX5_takeBehindResult_71 : decode cX5_takeBehindResult 71 = .ok (.iconst 3, 1) := by decide +kernel
theorem dX5_takeBehindResult_72 : decode cX5_takeBehindResult 72 = .ok (.invokevirtual 152, 3) := by decide +kernel
theorem dX5_takeBehindResult_75 : decode cX5_takeBehindResult 75 = .ok (.goto 7, 3) := by decide +kernel
theorem dX5_takeBehindResult_78 : decode cX5_takeBehindResult 78 = .ok (.aload_n 0, 1) := by decide +kernel
theorem dX5_takeBehindResult_79 : decode cX5_takeBehindResult 79 = .ok (.invokevirtual 192, 3) := by decide +kernel
theorem dX5_takeBehindResult_82 : decode cX5_takeBehindResult 82 = .ok (.return_, 1) := by decide +kernel
noncomputable def B_X5_takeBehindResult_0 : pb_C := (i_aload 0 (i_getI 21 3 (i_const (.int 3) (i_ic_ne (i_const (.int 0) (i_jmp 21 [true, false])) (i_aload 0 (i_getI 21 8 (i_const (.int 2) (i_ic_ne (i_const (.int 0) (i_jmp 21 [true, false])) (i_const (.int 1) (i_jmp 21 [true, false]))))))))))
noncomputable def B_X5_takeBehindResult_21 : pb_C := (i_istore 1 (i_iload 1 (i_if_ne (i_jmp 41 [true, true]) (i_aload 0 (i_getI 21 3 (i_const (.int 59) (i_ic_eq (i_jmp 41 [true, true]) (i_aload 0 (i_const (.int 2) (i_callV 21 1 0 M_X5_refuse i_vret))))))))))
noncomputable def B_X5_takeBehindResult_41 : pb_C := (i_aload 0 (i_const (.int 0) (i_callV 21 1 0 M_X5_release (i_aload 0 (i_aload 0 (i_getI 21 8 (i_const (.int 2) (i_ic_ne (i_const (.int 72) (i_const (.long 0) (i_callV 21 2 0 M_X5_emit (i_iload 1 (i_if_eq (i_aload 0 (i_callV 21 0 0 M_X5_endRule i_vret)) (i_aload 0 (i_const (.int 3) (i_callV 21 1 0 M_X5_openSum i_vret)))))))) (i_const (.int 71) (i_const (.long 0) (i_callV 21 2 0 M_X5_emit (i_iload 1 (i_if_eq (i_aload 0 (i_callV 21 0 0 M_X5_endRule i_vret)) (i_aload 0 (i_const (.int 3) (i_callV 21 1 0 M_X5_openSum i_vret))))))))))))))))
noncomputable def T_X5_takeBehindResult : Nat → pb_C := pb_tt [(0, B_X5_takeBehindResult_0), (21, B_X5_takeBehindResult_21), (41, B_X5_takeBehindResult_41)]
noncomputable def M_X5_takeBehindResult : pb_F := pb_M T_X5_takeBehindResult 2
set_option maxRecDepth 100000 in
set_option maxHeartbeats 4000000 in
theorem S_X5_takeBehindResult (l : Launch) : pb_Sound l yX5_takeBehindResult cX5_takeBehindResult 2 none 3 M_X5_takeBehindResult := by
  refine pb_sound_of (by decide) m_4_165 ?_
  intro Γ hl0 hRm0 hm X E hr J
  have hnL : ∀ j, j < 2 → j < Γ.2.2.2.2.2.2.2.2.2.2.2.1 := fun j h => by rw [hm]; exact h
  have hR : ∀ (d' mL : Nat), d' + 1 ≤ 3 ∧ 8 + (mL + 11) + d' * 64 ≤ 3 * 64 → (pb_rm d').frames + 1 ≤ Γ.2.2.2.1.frames ∧ 8 + (mL + 11) + (pb_rm d').locals ≤ Γ.2.2.2.1.locals := by rw [hRm0]; exact fun _ _ h => h
  have hRm : 1 ≤ 3 ∧ 64 ≤ 3 * 64 → 1 ≤ Γ.2.2.2.1.frames ∧ 64 ≤ Γ.2.2.2.1.locals := by rw [hRm0]; exact fun h => h
  exact pb_tt_snd _ (List.forall_mem_cons.mpr ⟨(s_aload_n (pc := 0) X dX5_takeBehindResult_0 rfl (s_getI (pc := 1) X dX5_takeBehindResult_1 g_X5_75 (s_iconst (pc := 4) X dX5_takeBehindResult_4 rfl (s_ic_ne (pc := 5) X dX5_takeBehindResult_5 (by decide) (s_iconst (pc := 20) X dX5_takeBehindResult_20 rfl (s_jmp (pc := 21) J [true, false])) (s_aload_n (pc := 8) X dX5_takeBehindResult_8 rfl (s_getI (pc := 9) X dX5_takeBehindResult_9 g_X5_164 (s_iconst (pc := 12) X dX5_takeBehindResult_12 rfl (s_ic_ne (pc := 13) X dX5_takeBehindResult_13 (by decide) (s_iconst (pc := 20) X dX5_takeBehindResult_20 rfl (s_jmp (pc := 21) J [true, false])) (s_iconst (pc := 16) X dX5_takeBehindResult_16 rfl (s_goto (pc := 17) X dX5_takeBehindResult_17 (by decide) (s_jmp (pc := 21) J [true, false]))))))))))), List.forall_mem_cons.mpr ⟨(s_istore_n (pc := 21) X dX5_takeBehindResult_21 rfl (hnL _ (by decide)) (s_iload_n (pc := 22) X dX5_takeBehindResult_22 rfl (s_if_ne (pc := 23) X dX5_takeBehindResult_23 (by decide) (s_jmp (pc := 41) J [true, true]) (s_aload_n (pc := 26) X dX5_takeBehindResult_26 rfl (s_getI (pc := 27) X dX5_takeBehindResult_27 g_X5_75 (s_bipush (pc := 30) X dX5_takeBehindResult_30 rfl (s_ic_eq (pc := 32) X dX5_takeBehindResult_32 (by decide) (s_jmp (pc := 41) J [true, true]) (s_aload_n (pc := 35) X dX5_takeBehindResult_35 rfl (s_iconst (pc := 36) X dX5_takeBehindResult_36 rfl (s_callV (pc := 37) X dX5_takeBehindResult_37 (S_X5_refuse _) q_X5_119 h_21 rfl (hR _ _ (by decide)) (s_vret (pc := 40) X E hr dX5_takeBehindResult_40))))))))))), List.forall_mem_cons.mpr ⟨(s_aload_n (pc := 41) X dX5_takeBehindResult_41 rfl (s_iconst (pc := 42) X dX5_takeBehindResult_42 rfl (s_callV (pc := 43) X dX5_takeBehindResult_43 (S_X5_release _) q_X5_158 h_21 rfl (hR _ _ (by decide)) (s_aload_n (pc := 46) X dX5_takeBehindResult_46 rfl (s_aload_n (pc := 47) X dX5_takeBehindResult_47 rfl (s_getI (pc := 48) X dX5_takeBehindResult_48 g_X5_164 (s_iconst (pc := 51) X dX5_takeBehindResult_51 rfl (s_ic_ne (pc := 52) X dX5_takeBehindResult_52 (by decide) (s_bipush (pc := 60) X dX5_takeBehindResult_60 rfl (s_lconst (pc := 62) X dX5_takeBehindResult_62 rfl (s_callV (pc := 63) X dX5_takeBehindResult_63 (S_X5_emit _) q_X5_148 h_21 rfl (hR _ _ (by decide)) (s_iload_n (pc := 66) X dX5_takeBehindResult_66 rfl (s_if_eq (pc := 67) X dX5_takeBehindResult_67 (by decide) (s_aload_n (pc := 78) X dX5_takeBehindResult_78 rfl (s_callV (pc := 79) X dX5_takeBehindResult_79 (S_X5_endRule _) q_X5_192 h_21 rfl (hR _ _ (by decide)) (s_vret (pc := 82) X E hr dX5_takeBehindResult_82))) (s_aload_n (pc := 70) X dX5_takeBehindResult_70 rfl (s_iconst (pc := 71) X dX5_takeBehindResult_71 rfl (s_callV (pc := 72) X dX5_takeBehindResult_72 (S_X5_openSum _) q_X5_152 h_21 rfl (hR _ _ (by decide)) (s_goto (pc := 75) X dX5_takeBehindResult_75 (by decide) (s_vret (pc := 82) X E hr dX5_takeBehindResult_82)))))))))) (s_bipush (pc := 55) X dX5_takeBehindResult_55 rfl (s_goto (pc := 57) X dX5_takeBehindResult_57 (by decide) (s_lconst (pc := 62) X dX5_takeBehindResult_62 rfl (s_callV (pc := 63) X dX5_takeBehindResult_63 (S_X5_emit _) q_X5_148 h_21 rfl (hR _ _ (by decide)) (s_iload_n (pc := 66) X dX5_takeBehindResult_66 rfl (s_if_eq (pc := 67) X dX5_takeBehindResult_67 (by decide) (s_aload_n (pc := 78) X dX5_takeBehindResult_78 rfl (s_callV (pc := 79) X dX5_takeBehindResult_79 (S_X5_endRule _) q_X5_192 h_21 rfl (hR _ _ (by decide)) (s_vret (pc := 82) X E hr dX5_takeBehindResult_82))) (s_aload_n (pc := 70) X dX5_takeBehindResult_70 rfl (s_iconst (pc := 71) X dX5_takeBehindResult_71 rfl (s_callV (pc := 72) X dX5_takeBehindResult_72 (S_X5_openSum _) q_X5_152 h_21 rfl (hR _ _ (by decide)) (s_goto (pc := 75) X dX5_takeBehindResult_75 (by decide) (s_vret (pc := 82) X E hr dX5_takeBehindResult_82))))))))))))))))))), fun _ h => absurd h List.not_mem_nil⟩⟩⟩)
theorem dX5_takeBehindAtom_0 : decode cX5_takeBehindAtom 0 = .ok (.aload_n 0, 1) := by decide +kernel
theorem dX5_takeBehindAtom_1 : decode cX5_takeBehindAtom 1 = .ok (.invokevirtual 174, 3) := by decide +kernel
theorem dX5_takeBehindAtom_4 : decode cX5_takeBehindAtom 4 = .ok (.istore_n 1, 1) := by decide +kernel
theorem dX5_takeBehindAtom_5 : decode cX5_takeBehindAtom 5 = .ok (.iload_n 1, 1) := by decide +kernel
theorem dX5_takeBehindAtom_6 : decode cX5_takeBehindAtom 6 = .ok (.iconst (-1), 1) := by decide +kernel
theorem dX5_takeBehindAtom_7 : decode cX5_takeBehindAtom 7 = .ok (.if_icmp .eq 25, 3) := by decide +kernel
theorem dX5_takeBehindAtom_10 : decode cX5_takeBehindAtom 10 = .ok (.aload_n 0, 1) := by decide +kernel
theorem dX5_takeBehindAtom_11 : decode cX5_takeBehindAtom 11 = .ok (.iload_n 1, 1) := by decide +kernel
theorem dX5_takeBehindAtom_12 : decode cX5_takeBehindAtom 12 = .ok (.invokestatic 155, 3) := by decide +kernel
theorem dX5_takeBehindAtom_15 : decode cX5_takeBehindAtom 15 = .ok (.invokevirtual 158, 3) := by decide +kernel
theorem dX5_takeBehindAtom_18 : decode cX5_takeBehindAtom 18 = .ok (.aload_n 0, 1) := by decide +kernel
theorem dX5_takeBehindAtom_19 : decode cX5_takeBehindAtom 19 = .ok (.iload_n 1, 1) := by decide +kernel
theorem dX5_takeBehindAtom_20 : decode cX5_takeBehindAtom 20 = .ok (.invokevirtual 145, 3) := by decide +kernel
theorem dX5_takeBehindAtom_23 : decode cX5_takeBehindAtom 23 = .ok (.aload_n 0, 1) := by decide +kernel
theorem dX5_takeBehindAtom_24 : decode cX5_takeBehindAtom 24 = .ok (.bipush 6, 2) := by decide +kernel
theorem dX5_takeBehindAtom_26 : decode cX5_takeBehindAtom 26 = .ok (.putfield 60, 3) := by decide +kernel
theorem dX5_takeBehindAtom_29 : decode cX5_takeBehindAtom 29 = .ok (.goto 50, 3) := by decide +kernel
theorem dX5_takeBehindAtom_32 : decode cX5_takeBehindAtom 32 = .ok (.aload_n 0, 1) := by decide +kernel
theorem dX5_takeBehindAtom_33 : decode cX5_takeBehindAtom 33 = .ok (.getfield 167, 3) := by decide +kernel
theorem dX5_takeBehindAtom_36 : decode cX5_takeBehindAtom 36 = .ok (.ifCond .le 10, 3) := by decide +kernel
theorem dX5_takeBehindAtom_39 : decode cX5_takeBehindAtom 39 = .ok (.aload_n 0, 1) := by decide +kernel
theorem dX5_takeBehindAtom_40 : decode cX5_takeBehindAtom 40 = .ok (.invokevirtual 177, 3) := by decide +kernel
theorem dX5_takeBehindAtom_43 : decode cX5_takeBehindAtom 43 = .ok (.goto 36, 3) := by decide +kernel
theorem dX5_takeBehindAtom_46 : decode cX5_takeBehindAtom 46 = .ok (.aload_n 0, 1) := by decide +kernel
theorem dX5_takeBehindAtom_47 : decode cX5_takeBehindAtom 47 = .ok (.getfield 164, 3) := by decide +kernel
theorem dX5_takeBehindAtom_50 : decode cX5_takeBehindAtom 50 = .ok (.ifCond .ne 10, 3) := by decide +kernel
theorem dX5_takeBehindAtom_53 : decode cX5_takeBehindAtom 53 = .ok (.aload_n 0, 1) := by decide +kernel
theorem dX5_takeBehindAtom_54 : decode cX5_takeBehindAtom 54 = .ok (.invokevirtual 180, 3) := by decide +kernel
theorem dX5_takeBehindAtom_57 : decode cX5_takeBehindAtom 57 = .ok (.goto 22, 3) := by decide +kernel
theorem dX5_takeBehindAtom_60 : decode cX5_takeBehindAtom 60 = .ok (.aload_n 0, 1) := by decide +kernel
theorem dX5_takeBehindAtom_61 : decode cX5_takeBehindAtom 61 = .ok (.getfield 164, 3) := by decide +kernel
theorem dX5_takeBehindAtom_64 : decode cX5_takeBehindAtom 64 = .ok (.iconst 1, 1) := by decide +kernel
theorem dX5_takeBehindAtom_65 : decode cX5_takeBehindAtom 65 = .ok (.if_icmp .ne 10, 3) := by decide +kernel
theorem dX5_takeBehindAtom_68 : decode cX5_takeBehindAtom 68 = .ok (.aload_n 0, 1) := by decide +kernel
theorem dX5_takeBehindAtom_69 : decode cX5_takeBehindAtom 69 = .ok (.invokevirtual 131, 3) := by decide +kernel
theorem dX5_takeBehindAtom_72 : decode cX5_takeBehindAtom 72 = .ok (.goto 7, 3) := by decide +kernel
theorem dX5_takeBehindAtom_75 : decode cX5_takeBehindAtom 75 = .ok (.aload_n 0, 1) := by decide +kernel
theorem dX5_takeBehindAtom_76 : decode cX5_takeBehindAtom 76 = .ok (.invokevirtual 183, 3) := by decide +kernel
theorem dX5_takeBehindAtom_79 : decode cX5_takeBehindAtom 79 = .ok (.return_, 1) := by decide +kernel
noncomputable def B_X5_takeBehindAtom_0 : pb_C := (i_aload 0 (i_callV 21 0 1 M_X5_operatorStep (i_istore 1 (i_iload 1 (i_const (.int (-1)) (i_ic_eq (i_aload 0 (i_getI 21 9 (i_if_le (i_aload 0 (i_getI 21 8 (i_if_ne (i_aload 0 (i_getI 21 8 (i_const (.int 1) (i_ic_ne (i_aload 0 (i_callV 21 0 0 M_X5_takeBehindResult i_vret)) (i_aload 0 (i_callV 21 0 0 M_X5_takeBehindOne i_vret)))))) (i_aload 0 (i_callV 21 0 0 M_X5_takeComparison i_vret))))) (i_aload 0 (i_callV 21 0 0 M_X5_closeBracket i_vret))))) (i_aload 0 (i_iload 1 (i_callS 1 1 M_X0_bindingOf (i_callV 21 1 0 M_X5_release (i_aload 0 (i_iload 1 (i_callV 21 1 0 M_X5_hold (i_aload 0 (i_const (.int 6) (i_putI 21 7 i_vret))))))))))))))))
noncomputable def T_X5_takeBehindAtom : Nat → pb_C := pb_tt [(0, B_X5_takeBehindAtom_0)]
noncomputable def M_X5_takeBehindAtom : pb_F := pb_M T_X5_takeBehindAtom 2
set_option maxRecDepth 100000 in
set_option maxHeartbeats 4000000 in
theorem S_X5_takeBehindAtom (l : Launch) : pb_Sound l yX5_takeBehindAtom cX5_takeBehindAtom 2 none 4 M_X5_takeBehindAtom := by
  refine pb_sound_of (by decide) m_4_144 ?_
  intro Γ hl0 hRm0 hm X E hr J
  have hnL : ∀ j, j < 2 → j < Γ.2.2.2.2.2.2.2.2.2.2.2.1 := fun j h => by rw [hm]; exact h
  have hR : ∀ (d' mL : Nat), d' + 1 ≤ 4 ∧ 8 + (mL + 11) + d' * 64 ≤ 4 * 64 → (pb_rm d').frames + 1 ≤ Γ.2.2.2.1.frames ∧ 8 + (mL + 11) + (pb_rm d').locals ≤ Γ.2.2.2.1.locals := by rw [hRm0]; exact fun _ _ h => h
  have hRm : 1 ≤ 4 ∧ 64 ≤ 4 * 64 → 1 ≤ Γ.2.2.2.1.frames ∧ 64 ≤ Γ.2.2.2.1.locals := by rw [hRm0]; exact fun h => h
  exact pb_tt_snd _ (List.forall_mem_cons.mpr ⟨(s_aload_n (pc := 0) X dX5_takeBehindAtom_0 rfl (s_callV (pc := 1) X dX5_takeBehindAtom_1 (S_X5_operatorStep _) q_X5_174 h_21 rfl (hR _ _ (by decide)) (s_istore_n (pc := 4) X dX5_takeBehindAtom_4 rfl (hnL _ (by decide)) (s_iload_n (pc := 5) X dX5_takeBehindAtom_5 rfl (s_iconst (pc := 6) X dX5_takeBehindAtom_6 rfl (s_ic_eq (pc := 7) X dX5_takeBehindAtom_7 (by decide) (s_aload_n (pc := 32) X dX5_takeBehindAtom_32 rfl (s_getI (pc := 33) X dX5_takeBehindAtom_33 g_X5_167 (s_if_le (pc := 36) X dX5_takeBehindAtom_36 (by decide) (s_aload_n (pc := 46) X dX5_takeBehindAtom_46 rfl (s_getI (pc := 47) X dX5_takeBehindAtom_47 g_X5_164 (s_if_ne (pc := 50) X dX5_takeBehindAtom_50 (by decide) (s_aload_n (pc := 60) X dX5_takeBehindAtom_60 rfl (s_getI (pc := 61) X dX5_takeBehindAtom_61 g_X5_164 (s_iconst (pc := 64) X dX5_takeBehindAtom_64 rfl (s_ic_ne (pc := 65) X dX5_takeBehindAtom_65 (by decide) (s_aload_n (pc := 75) X dX5_takeBehindAtom_75 rfl (s_callV (pc := 76) X dX5_takeBehindAtom_76 (S_X5_takeBehindResult _) q_X5_183 h_21 rfl (hR _ _ (by decide)) (s_vret (pc := 79) X E hr dX5_takeBehindAtom_79))) (s_aload_n (pc := 68) X dX5_takeBehindAtom_68 rfl (s_callV (pc := 69) X dX5_takeBehindAtom_69 (S_X5_takeBehindOne _) q_X5_131 h_21 rfl (hR _ _ (by decide)) (s_goto (pc := 72) X dX5_takeBehindAtom_72 (by decide) (s_vret (pc := 79) X E hr dX5_takeBehindAtom_79)))))))) (s_aload_n (pc := 53) X dX5_takeBehindAtom_53 rfl (s_callV (pc := 54) X dX5_takeBehindAtom_54 (S_X5_takeComparison _) q_X5_180 h_21 rfl (hR _ _ (by decide)) (s_goto (pc := 57) X dX5_takeBehindAtom_57 (by decide) (s_vret (pc := 79) X E hr dX5_takeBehindAtom_79))))))) (s_aload_n (pc := 39) X dX5_takeBehindAtom_39 rfl (s_callV (pc := 40) X dX5_takeBehindAtom_40 (S_X5_closeBracket _) q_X5_177 h_21 rfl (hR _ _ (by decide)) (s_goto (pc := 43) X dX5_takeBehindAtom_43 (by decide) (s_vret (pc := 79) X E hr dX5_takeBehindAtom_79))))))) (s_aload_n (pc := 10) X dX5_takeBehindAtom_10 rfl (s_iload_n (pc := 11) X dX5_takeBehindAtom_11 rfl (s_callS (pc := 12) X dX5_takeBehindAtom_12 (S_X0_bindingOf _) q_X5_155 (hR _ _ (by decide)) (s_callV (pc := 15) X dX5_takeBehindAtom_15 (S_X5_release _) q_X5_158 h_21 rfl (hR _ _ (by decide)) (s_aload_n (pc := 18) X dX5_takeBehindAtom_18 rfl (s_iload_n (pc := 19) X dX5_takeBehindAtom_19 rfl (s_callV (pc := 20) X dX5_takeBehindAtom_20 (S_X5_hold _) q_X5_145 h_21 rfl (hR _ _ (by decide)) (s_aload_n (pc := 23) X dX5_takeBehindAtom_23 rfl (s_bipush (pc := 24) X dX5_takeBehindAtom_24 rfl (s_putI (pc := 26) X dX5_takeBehindAtom_26 p_X5_60 (s_goto (pc := 29) X dX5_takeBehindAtom_29 (by decide) (s_vret (pc := 79) X E hr dX5_takeBehindAtom_79)))))))))))))))))), fun _ h => absurd h List.not_mem_nil⟩)
theorem dX5_takeToken_0 : decode cX5_takeToken 0 = .ok (.aload_n 0, 1) := by decide +kernel
theorem dX5_takeToken_1 : decode cX5_takeToken 1 = .ok (.getfield 75, 3) := by decide +kernel
theorem dX5_takeToken_4 : decode cX5_takeToken 4 = .ok (.bipush 16, 2) := by decide +kernel
theorem dX5_takeToken_6 : decode cX5_takeToken 6 = .ok (.if_icmp .ne 9, 3) := by decide +kernel
theorem dX5_takeToken_9 : decode cX5_takeToken 9 = .ok (.aload_n 0, 1) := by decide +kernel
theorem dX5_takeToken_10 : decode cX5_takeToken 10 = .ok (.iconst 1, 1) := by decide +kernel
theorem dX5_takeToken_11 : decode cX5_takeToken 11 = .ok (.invokevirtual 119, 3) := by decide +kernel
theorem dX5_takeToken_14 : decode cX5_takeToken 14 = .ok (.return_, 1) := by decide +kernel
theorem dX5_takeToken_15 : decode cX5_takeToken 15 = .ok (.aload_n 0, 1) := by decide +kernel
theorem dX5_takeToken_16 : decode cX5_takeToken 16 = .ok (.getfield 60, 3) := by decide +kernel
theorem dX5_takeToken_19 : decode cX5_takeToken 19 = .ok (.tableswitch 83 0 6 #[41, 48, 48, 55, 62, 69, 76], 41) := by decide +kernel
theorem dX5_takeToken_60 : decode cX5_takeToken 60 = .ok (.aload_n 0, 1) := by decide +kernel
theorem dX5_takeToken_61 : decode cX5_takeToken 61 = .ok (.invokevirtual 122, 3) := by decide +kernel
theorem dX5_takeToken_64 : decode cX5_takeToken 64 = .ok (.goto 42, 3) := by decide +kernel
theorem dX5_takeToken_67 : decode cX5_takeToken 67 = .ok (.aload_n 0, 1) := by decide +kernel
theorem dX5_takeToken_68 : decode cX5_takeToken 68 = .ok (.invokevirtual 125, 3) := by decide +kernel
theorem dX5_takeToken_71 : decode cX5_takeToken 71 = .ok (.goto 35, 3) := by decide +kernel
theorem dX5_takeToken_74 : decode cX5_takeToken 74 = .ok (.aload_n 0, 1) := by decide +kernel
theorem dX5_takeToken_75 : decode cX5_takeToken 75 = .ok (.invokevirtual 128, 3) := by decide +kernel
theorem dX5_takeToken_78 : decode cX5_takeToken 78 = .ok (.goto 28, 3) := by decide +kernel
theorem dX5_takeToken_81 : decode cX5_takeToken 81 = .ok (.aload_n 0, 1) := by decide +kernel
theorem dX5_takeToken_82 : decode cX5_takeToken 82 = .ok (.invokevirtual 131, 3) := by decide +kernel
theorem dX5_takeToken_85 : decode cX5_takeToken 85 = .ok (.goto 21, 3) := by decide +kernel
theorem dX5_takeToken_88 : decode cX5_takeToken 88 = .ok (.aload_n 0, 1) := by decide +kernel
theorem dX5_takeToken_89 : decode cX5_takeToken 89 = .ok (.invokevirtual 134, 3) := by decide +kernel
theorem dX5_takeToken_92 : decode cX5_takeToken 92 = .ok (.goto 14, 3) := by decide +kernel
theorem dX5_takeToken_95 : decode cX5_takeToken 95 = .ok (.aload_n 0, 1) := by decide +kernel
theorem dX5_takeToken_96 : decode cX5_takeToken 96 = .ok (.invokevirtual 137, 3) := by decide +kernel
theorem dX5_takeToken_99 : decode cX5_takeToken 99 = .ok (.goto 7, 3) := by decide +kernel
theorem dX5_takeToken_102 : decode cX5_takeToken 102 = .ok (.aload_n 0, 1) := by decide +kernel
theorem dX5_takeToken_103 : decode cX5_takeToken 103 = .ok (.invokevirtual 140, 3) := by decide +kernel
theorem dX5_takeToken_106 : decode cX5_takeToken 106 = .ok (.return_, 1) := by decide +kernel
noncomputable def B_X5_takeToken_0 : pb_C := (i_aload 0 (i_getI 21 3 (i_const (.int 16) (i_ic_ne (i_aload 0 (i_getI 21 7 (i_tb 0 [(i_aload 0 (i_callV 21 0 0 M_X5_takeAtRule i_vret)), (i_aload 0 (i_callV 21 0 0 M_X5_takeAtOne i_vret)), (i_aload 0 (i_callV 21 0 0 M_X5_takeAtOne i_vret)), (i_aload 0 (i_callV 21 0 0 M_X5_takeName i_vret)), (i_aload 0 (i_callV 21 0 0 M_X5_takeBehindOne i_vret)), (i_aload 0 (i_callV 21 0 0 M_X5_takeBehindThen i_vret)), (i_aload 0 (i_callV 21 0 0 M_X5_takeAtom i_vret))] (i_aload 0 (i_callV 21 0 0 M_X5_takeBehindAtom i_vret))))) (i_aload 0 (i_const (.int 1) (i_callV 21 1 0 M_X5_refuse i_vret)))))))
noncomputable def T_X5_takeToken : Nat → pb_C := pb_tt [(0, B_X5_takeToken_0)]
noncomputable def M_X5_takeToken : pb_F := pb_M T_X5_takeToken 1
set_option maxRecDepth 100000 in
set_option maxHeartbeats 4000000 in
theorem S_X5_takeToken (l : Launch) : pb_Sound l yX5_takeToken cX5_takeToken 1 none 5 M_X5_takeToken := by
  refine pb_sound_of (by decide) m_4_89 ?_
  intro Γ hl0 hRm0 hm X E hr J
  have hnL : ∀ j, j < 1 → j < Γ.2.2.2.2.2.2.2.2.2.2.2.1 := fun j h => by rw [hm]; exact h
  have hR : ∀ (d' mL : Nat), d' + 1 ≤ 5 ∧ 8 + (mL + 11) + d' * 64 ≤ 5 * 64 → (pb_rm d').frames + 1 ≤ Γ.2.2.2.1.frames ∧ 8 + (mL + 11) + (pb_rm d').locals ≤ Γ.2.2.2.1.locals := by rw [hRm0]; exact fun _ _ h => h
  have hRm : 1 ≤ 5 ∧ 64 ≤ 5 * 64 → 1 ≤ Γ.2.2.2.1.frames ∧ 64 ≤ Γ.2.2.2.1.locals := by rw [hRm0]; exact fun h => h
  exact pb_tt_snd _ (List.forall_mem_cons.mpr ⟨(s_aload_n (pc := 0) X dX5_takeToken_0 rfl (s_getI (pc := 1) X dX5_takeToken_1 g_X5_75 (s_bipush (pc := 4) X dX5_takeToken_4 rfl (s_ic_ne (pc := 6) X dX5_takeToken_6 (by decide) (s_aload_n (pc := 15) X dX5_takeToken_15 rfl (s_getI (pc := 16) X dX5_takeToken_16 g_X5_60 (s_table (pc := 19) X dX5_takeToken_19 7 0 (by decide) rfl (by decide) (by decide) 102 (by decide) (s_aload_n (pc := 102) X dX5_takeToken_102 rfl (s_callV (pc := 103) X dX5_takeToken_103 (S_X5_takeBehindAtom _) q_X5_140 h_21 rfl (hR _ _ (by decide)) (s_vret (pc := 106) X E hr dX5_takeToken_106))) [60, 67, 67, 74, 81, 88, 95] (by decide) (pb_tc_of _ _ (⟨(s_aload_n (pc := 60) X dX5_takeToken_60 rfl (s_callV (pc := 61) X dX5_takeToken_61 (S_X5_takeAtRule _) q_X5_122 h_21 rfl (hR _ _ (by decide)) (s_goto (pc := 64) X dX5_takeToken_64 (by decide) (s_vret (pc := 106) X E hr dX5_takeToken_106)))), ⟨(s_aload_n (pc := 67) X dX5_takeToken_67 rfl (s_callV (pc := 68) X dX5_takeToken_68 (S_X5_takeAtOne _) q_X5_125 h_21 rfl (hR _ _ (by decide)) (s_goto (pc := 71) X dX5_takeToken_71 (by decide) (s_vret (pc := 106) X E hr dX5_takeToken_106)))), ⟨(s_aload_n (pc := 67) X dX5_takeToken_67 rfl (s_callV (pc := 68) X dX5_takeToken_68 (S_X5_takeAtOne _) q_X5_125 h_21 rfl (hR _ _ (by decide)) (s_goto (pc := 71) X dX5_takeToken_71 (by decide) (s_vret (pc := 106) X E hr dX5_takeToken_106)))), ⟨(s_aload_n (pc := 74) X dX5_takeToken_74 rfl (s_callV (pc := 75) X dX5_takeToken_75 (S_X5_takeName _) q_X5_128 h_21 rfl (hR _ _ (by decide)) (s_goto (pc := 78) X dX5_takeToken_78 (by decide) (s_vret (pc := 106) X E hr dX5_takeToken_106)))), ⟨(s_aload_n (pc := 81) X dX5_takeToken_81 rfl (s_callV (pc := 82) X dX5_takeToken_82 (S_X5_takeBehindOne _) q_X5_131 h_21 rfl (hR _ _ (by decide)) (s_goto (pc := 85) X dX5_takeToken_85 (by decide) (s_vret (pc := 106) X E hr dX5_takeToken_106)))), ⟨(s_aload_n (pc := 88) X dX5_takeToken_88 rfl (s_callV (pc := 89) X dX5_takeToken_89 (S_X5_takeBehindThen _) q_X5_134 h_21 rfl (hR _ _ (by decide)) (s_goto (pc := 92) X dX5_takeToken_92 (by decide) (s_vret (pc := 106) X E hr dX5_takeToken_106)))), ⟨(s_aload_n (pc := 95) X dX5_takeToken_95 rfl (s_callV (pc := 96) X dX5_takeToken_96 (S_X5_takeAtom _) q_X5_137 h_21 rfl (hR _ _ (by decide)) (s_goto (pc := 99) X dX5_takeToken_99 (by decide) (s_vret (pc := 106) X E hr dX5_takeToken_106)))), trivial⟩⟩⟩⟩⟩⟩⟩))))) (s_aload_n (pc := 9) X dX5_takeToken_9 rfl (s_iconst (pc := 10) X dX5_takeToken_10 rfl (s_callV (pc := 11) X dX5_takeToken_11 (S_X5_refuse _) q_X5_119 h_21 rfl (hR _ _ (by decide)) (s_vret (pc := 14) X E hr dX5_takeToken_14)))))))), fun _ h => absurd h List.not_mem_nil⟩)
theorem dX5_readText_0 : decode cX5_readText 0 = .ok (.aload_n 0, 1) := by decide +kernel
theorem dX5_readText_1 : decode cX5_readText 1 = .ok (.iload_n 1, 1) := by decide +kernel
theorem dX5_readText_2 : decode cX5_readText 2 = .ok (.sipush 600, 3) := by decide +kernel
theorem dX5_readText_5 : decode cX5_readText 5 = .ok (.invokestatic 48, 3) := by decide +kernel
theorem dX5_readText_8 : decode cX5_readText 8 = .ok (.putfield 54, 3) := by decide +kernel
theorem dX5_readText_11 : decode cX5_readText 11 = .ok (.aload_n 0, 1) := by decide +kernel
theorem dX5_readText_12 : decode cX5_readText 12 = .ok (.iconst 0, 1) := by decide +kernel
theorem dX5_readText_13 : decode cX5_readText 13 = .ok (.putfield 57, 3) := by decide +kernel
theorem dX5_readText_16 : decode cX5_readText 16 = .ok (.aload_n 0, 1) := by decide +kernel
theorem dX5_readText_17 : decode cX5_readText 17 = .ok (.iconst 0, 1) := by decide +kernel
theorem dX5_readText_18 : decode cX5_readText 18 = .ok (.putfield 60, 3) := by decide +kernel
theorem dX5_readText_21 : decode cX5_readText 21 = .ok (.aload_n 0, 1) := by decide +kernel
theorem dX5_readText_22 : decode cX5_readText 22 = .ok (.iconst 0, 1) := by decide +kernel
theorem dX5_readText_23 : decode cX5_readText 23 = .ok (.putfield 63, 3) := by decide +kernel
theorem dX5_readText_26 : decode cX5_readText 26 = .ok (.aload_n 0, 1) := by decide +kernel
theorem dX5_readText_27 : decode cX5_readText 27 = .ok (.iconst 0, 1) := by decide +kernel
theorem dX5_readText_28 : decode cX5_readText 28 = .ok (.putfield 66, 3) := by decide +kernel
theorem dX5_readText_31 : decode cX5_readText 31 = .ok (.aload_n 0, 1) := by decide +kernel
theorem dX5_readText_32 : decode cX5_readText 32 = .ok (.iconst 0, 1) := by decide +kernel
theorem dX5_readText_33 : decode cX5_readText 33 = .ok (.putfield 42, 3) := by decide +kernel
theorem dX5_readText_36 : decode cX5_readText 36 = .ok (.aload_n 0, 1) := by decide +kernel
theorem dX5_readText_37 : decode cX5_readText 37 = .ok (.iconst (-1), 1) := by decide +kernel
theorem dX5_readText_38 : decode cX5_readText 38 = .ok (.putfield 45, 3) := by decide +kernel
theorem dX5_readText_41 : decode cX5_readText 41 = .ok (.aload_n 0, 1) := by decide +kernel
theorem dX5_readText_42 : decode cX5_readText 42 = .ok (.iconst 0, 1) := by decide +kernel
theorem dX5_readText_43 : decode cX5_readText 43 = .ok (.putfield 39, 3) := by decide +kernel
theorem dX5_readText_46 : decode cX5_readText 46 = .ok (.iconst 1, 1) := by decide +kernel
theorem dX5_readText_47 : decode cX5_readText 47 = .ok (.istore_n 2, 1) := by decide +kernel
theorem dX5_readText_48 : decode cX5_readText 48 = .ok (.iconst 0, 1) := by decide +kernel
theorem dX5_readText_49 : decode cX5_readText 49 = .ok (.istore_n 3, 1) := by decide +kernel
theorem dX5_readText_50 : decode cX5_readText 50 = .ok (.iload_n 3, 1) := by decide +kernel
theorem dX5_readText_51 : decode cX5_readText 51 = .ok (.sipush 600, 3) := by decide +kernel
theorem dX5_readText_54 : decode cX5_readText 54 = .ok (.if_icmp .gt 43, 3) := by decide +kernel
theorem dX5_readText_57 : decode cX5_readText 57 = .ok (.iload_n 2, 1) := by decide +kernel
theorem dX5_readText_58 : decode cX5_readText 58 = .ok (.ifCond .eq 39, 3) := by decide +kernel
theorem dX5_readText_61 : decode cX5_readText 61 = .ok (.aload_n 0, 1) := by decide +kernel
theorem dX5_readText_62 : decode cX5_readText 62 = .ok (.invokevirtual 69, 3) := by decide +kernel
theorem dX5_readText_65 : decode cX5_readText 65 = .ok (.aload_n 0, 1) := by decide +kernel
theorem dX5_readText_66 : decode cX5_readText 66 = .ok (.invokevirtual 72, 3) := by decide +kernel
theorem dX5_readText_69 : decode cX5_readText 69 = .ok (.aload_n 0, 1) := by decide +kernel
theorem dX5_readText_70 : decode cX5_readText 70 = .ok (.getfield 42, 3) := by decide +kernel
theorem dX5_readText_73 : decode cX5_readText 73 = .ok (.ifCond .ne 16, 3) := by decide +kernel
theorem dX5_readText_76 : decode cX5_readText 76 = .ok (.aload_n 0, 1) := by decide +kernel
theorem dX5_readText_77 : decode cX5_readText 77 = .ok (.getfield 75, 3) := by decide +kernel
theorem dX5_readText_80 : decode cX5_readText 80 = .ok (.bipush 15, 2) := by decide +kernel
theorem dX5_readText_82 : decode cX5_readText 82 = .ok (.if_icmp .eq 7, 3) := by decide +kernel
theorem dX5_readText_85 : decode cX5_readText 85 = .ok (.iconst 1, 1) := by decide +kernel
theorem dX5_readText_86 : decode cX5_readText 86 = .ok (.goto 4, 3) := by decide +kernel
theorem dX5_readText_89 : decode cX5_readText 89 = .ok (.iconst 0, 1) := by decide +kernel
theorem dX5_readText_90 : decode cX5_readText 90 = .ok (.istore_n 2, 1) := by decide +kernel
theorem dX5_readText_91 : decode cX5_readText 91 = .ok (.iinc 3 1, 3) := by decide +kernel
theorem dX5_readText_94 : decode cX5_readText 94 = .ok (.goto (-44), 3) := by decide +kernel
theorem dX5_readText_97 : decode cX5_readText 97 = .ok (.aload_n 0, 1) := by decide +kernel
theorem dX5_readText_98 : decode cX5_readText 98 = .ok (.getfield 42, 3) := by decide +kernel
theorem dX5_readText_101 : decode cX5_readText 101 = .ok (.ifCond .eq 8, 3) := by decide +kernel
theorem dX5_readText_104 : decode cX5_readText 104 = .ok (.aload_n 0, 1) := by decide +kernel
theorem dX5_readText_105 : decode cX5_readText 105 = .ok (.iconst 0, 1) := by decide +kernel
theorem dX5_readText_106 : decode cX5_readText 106 = .ok (.putfield 39, 3) := by decide +kernel
theorem dX5_readText_109 : decode cX5_readText 109 = .ok (.aload_n 0, 1) := by decide +kernel
theorem dX5_readText_110 : decode cX5_readText 110 = .ok (.iconst 1, 1) := by decide +kernel
theorem dX5_readText_111 : decode cX5_readText 111 = .ok (.putfield 31, 3) := by decide +kernel
theorem dX5_readText_114 : decode cX5_readText 114 = .ok (.aload_n 0, 1) := by decide +kernel
theorem dX5_readText_115 : decode cX5_readText 115 = .ok (.iconst 0, 1) := by decide +kernel
theorem dX5_readText_116 : decode cX5_readText 116 = .ok (.putfield 23, 3) := by decide +kernel
theorem dX5_readText_119 : decode cX5_readText 119 = .ok (.aload_n 0, 1) := by decide +kernel
theorem dX5_readText_120 : decode cX5_readText 120 = .ok (.getfield 42, 3) := by decide +kernel
theorem dX5_readText_123 : decode cX5_readText 123 = .ok (.ifCond .ne 7, 3) := by decide +kernel
theorem dX5_readText_126 : decode cX5_readText 126 = .ok (.iconst 1, 1) := by decide +kernel
theorem dX5_readText_127 : decode cX5_readText 127 = .ok (.goto 4, 3) := by decide +kernel
theorem dX5_readText_130 : decode cX5_readText 130 = .ok (.iconst 0, 1) := by decide +kernel
theorem dX5_readText_131 : decode cX5_readText 131 = .ok (.ireturn, 1) := by decide +kernel
noncomputable def B_X5_readText_0 : pb_C := (i_aload 0 (i_iload 1 (i_const (.int 600) (i_mI2 pb_min (i_putI 21 2 (i_aload 0 (i_const (.int 0) (i_putI 21 5 (i_aload 0 (i_const (.int 0) (i_putI 21 7 (i_aload 0 (i_const (.int 0) (i_putI 21 11 (i_aload 0 (i_const (.int 0) (i_putI 21 13 (i_aload 0 (i_const (.int 0) (i_putI 21 16 (i_aload 0 (i_const (.int (-1)) (i_putI 21 17 (i_aload 0 (i_const (.int 0) (i_putI 21 18 (i_const (.int 1) (i_istore 2 (i_const (.int 0) (i_istore 3 (i_jmp 50 [true, false, true, true])))))))))))))))))))))))))))))))
noncomputable def B_X5_readText_50 : pb_C := (i_iload 3 (i_const (.int 600) (i_ic_gt (i_aload 0 (i_getI 21 16 (i_if_eq (i_jmp 109 [true, false, false, false]) (i_aload 0 (i_const (.int 0) (i_putI 21 18 (i_jmp 109 [true, false, false, false]))))))) (i_iload 2 (i_if_eq (i_aload 0 (i_getI 21 16 (i_if_eq (i_jmp 109 [true, false, false, false]) (i_aload 0 (i_const (.int 0) (i_putI 21 18 (i_jmp 109 [true, false, false, false]))))))) (i_aload 0 (i_callV 21 0 0 M_X5_nextToken (i_aload 0 (i_callV 21 0 0 M_X5_takeToken (i_aload 0 (i_getI 21 16 (i_if_ne (i_const (.int 0) (i_istore 2 (i_iinc 3 1 (i_jmp 50 [true, false, true, true])))) (i_aload 0 (i_getI 21 3 (i_const (.int 15) (i_ic_eq (i_const (.int 0) (i_istore 2 (i_iinc 3 1 (i_jmp 50 [true, false, true, true])))) (i_const (.int 1) (i_istore 2 (i_iinc 3 1 (i_jmp 50 [true, false, true, true]))))))))))))))))))))
noncomputable def B_X5_readText_109 : pb_C := (i_aload 0 (i_const (.int 1) (i_putZ 21 15 (i_aload 0 (i_const (.int 0) (i_putI 21 1 (i_aload 0 (i_getI 21 16 (i_if_ne (i_const (.int 0) i_zret) (i_const (.int 1) i_zret))))))))))
noncomputable def T_X5_readText : Nat → pb_C := pb_tt [(0, B_X5_readText_0), (50, B_X5_readText_50), (109, B_X5_readText_109)]
noncomputable def M_X5_readText : pb_F := pb_M T_X5_readText 4
set_option maxRecDepth 100000 in
set_option maxHeartbeats 4000000 in
theorem S_X5_readText (l : Launch) : pb_Sound l yX5_readText cX5_readText 4 (some .boolean) 6 M_X5_readText := by
  refine pb_sound_of (by decide) m_3_211 ?_
  intro Γ hl0 hRm0 hm X E hr J
  have hnL : ∀ j, j < 4 → j < Γ.2.2.2.2.2.2.2.2.2.2.2.1 := fun j h => by rw [hm]; exact h
  have hR : ∀ (d' mL : Nat), d' + 1 ≤ 6 ∧ 8 + (mL + 11) + d' * 64 ≤ 6 * 64 → (pb_rm d').frames + 1 ≤ Γ.2.2.2.1.frames ∧ 8 + (mL + 11) + (pb_rm d').locals ≤ Γ.2.2.2.1.locals := by rw [hRm0]; exact fun _ _ h => h
  have hRm : 1 ≤ 6 ∧ 64 ≤ 6 * 64 → 1 ≤ Γ.2.2.2.1.frames ∧ 64 ≤ Γ.2.2.2.1.locals := by rw [hRm0]; exact fun h => h
  exact pb_tt_snd _ (List.forall_mem_cons.mpr ⟨(s_aload_n (pc := 0) X dX5_readText_0 rfl (s_iload_n (pc := 1) X dX5_readText_1 rfl (s_sipush (pc := 2) X dX5_readText_2 rfl (s_mmin (pc := 5) X dX5_readText_5 m_3_212 mm_mmin (hRm (by decide)) (s_putI (pc := 8) X dX5_readText_8 p_X5_54 (s_aload_n (pc := 11) X dX5_readText_11 rfl (s_iconst (pc := 12) X dX5_readText_12 rfl (s_putI (pc := 13) X dX5_readText_13 p_X5_57 (s_aload_n (pc := 16) X dX5_readText_16 rfl (s_iconst (pc := 17) X dX5_readText_17 rfl (s_putI (pc := 18) X dX5_readText_18 p_X5_60 (s_aload_n (pc := 21) X dX5_readText_21 rfl (s_iconst (pc := 22) X dX5_readText_22 rfl (s_putI (pc := 23) X dX5_readText_23 p_X5_63 (s_aload_n (pc := 26) X dX5_readText_26 rfl (s_iconst (pc := 27) X dX5_readText_27 rfl (s_putI (pc := 28) X dX5_readText_28 p_X5_66 (s_aload_n (pc := 31) X dX5_readText_31 rfl (s_iconst (pc := 32) X dX5_readText_32 rfl (s_putI (pc := 33) X dX5_readText_33 p_X5_42 (s_aload_n (pc := 36) X dX5_readText_36 rfl (s_iconst (pc := 37) X dX5_readText_37 rfl (s_putI (pc := 38) X dX5_readText_38 p_X5_45 (s_aload_n (pc := 41) X dX5_readText_41 rfl (s_iconst (pc := 42) X dX5_readText_42 rfl (s_putI (pc := 43) X dX5_readText_43 p_X5_39 (s_iconst (pc := 46) X dX5_readText_46 rfl (s_istore_n (pc := 47) X dX5_readText_47 rfl (hnL _ (by decide)) (s_iconst (pc := 48) X dX5_readText_48 rfl (s_istore_n (pc := 49) X dX5_readText_49 rfl (hnL _ (by decide)) (s_jmp (pc := 50) J [true, false, true, true]))))))))))))))))))))))))))))))), List.forall_mem_cons.mpr ⟨(s_iload_n (pc := 50) X dX5_readText_50 rfl (s_sipush (pc := 51) X dX5_readText_51 rfl (s_ic_gt (pc := 54) X dX5_readText_54 (by decide) (s_aload_n (pc := 97) X dX5_readText_97 rfl (s_getI (pc := 98) X dX5_readText_98 g_X5_42 (s_if_eq (pc := 101) X dX5_readText_101 (by decide) (s_jmp (pc := 109) J [true, false, false, false]) (s_aload_n (pc := 104) X dX5_readText_104 rfl (s_iconst (pc := 105) X dX5_readText_105 rfl (s_putI (pc := 106) X dX5_readText_106 p_X5_39 (s_jmp (pc := 109) J [true, false, false, false]))))))) (s_iload_n (pc := 57) X dX5_readText_57 rfl (s_if_eq (pc := 58) X dX5_readText_58 (by decide) (s_aload_n (pc := 97) X dX5_readText_97 rfl (s_getI (pc := 98) X dX5_readText_98 g_X5_42 (s_if_eq (pc := 101) X dX5_readText_101 (by decide) (s_jmp (pc := 109) J [true, false, false, false]) (s_aload_n (pc := 104) X dX5_readText_104 rfl (s_iconst (pc := 105) X dX5_readText_105 rfl (s_putI (pc := 106) X dX5_readText_106 p_X5_39 (s_jmp (pc := 109) J [true, false, false, false]))))))) (s_aload_n (pc := 61) X dX5_readText_61 rfl (s_callV (pc := 62) X dX5_readText_62 (S_X5_nextToken _) q_X5_69 h_21 rfl (hR _ _ (by decide)) (s_aload_n (pc := 65) X dX5_readText_65 rfl (s_callV (pc := 66) X dX5_readText_66 (S_X5_takeToken _) q_X5_72 h_21 rfl (hR _ _ (by decide)) (s_aload_n (pc := 69) X dX5_readText_69 rfl (s_getI (pc := 70) X dX5_readText_70 g_X5_42 (s_if_ne (pc := 73) X dX5_readText_73 (by decide) (s_iconst (pc := 89) X dX5_readText_89 rfl (s_istore_n (pc := 90) X dX5_readText_90 rfl (hnL _ (by decide)) (s_iinc (pc := 91) X dX5_readText_91 rfl (s_goto (pc := 94) X dX5_readText_94 (by decide) (s_jmp (pc := 50) J [true, false, true, true]))))) (s_aload_n (pc := 76) X dX5_readText_76 rfl (s_getI (pc := 77) X dX5_readText_77 g_X5_75 (s_bipush (pc := 80) X dX5_readText_80 rfl (s_ic_eq (pc := 82) X dX5_readText_82 (by decide) (s_iconst (pc := 89) X dX5_readText_89 rfl (s_istore_n (pc := 90) X dX5_readText_90 rfl (hnL _ (by decide)) (s_iinc (pc := 91) X dX5_readText_91 rfl (s_goto (pc := 94) X dX5_readText_94 (by decide) (s_jmp (pc := 50) J [true, false, true, true]))))) (s_iconst (pc := 85) X dX5_readText_85 rfl (s_goto (pc := 86) X dX5_readText_86 (by decide) (s_istore_n (pc := 90) X dX5_readText_90 rfl (hnL _ (by decide)) (s_iinc (pc := 91) X dX5_readText_91 rfl (s_goto (pc := 94) X dX5_readText_94 (by decide) (s_jmp (pc := 50) J [true, false, true, true])))))))))))))))))))))), List.forall_mem_cons.mpr ⟨(s_aload_n (pc := 109) X dX5_readText_109 rfl (s_iconst (pc := 110) X dX5_readText_110 rfl (s_putZ (pc := 111) X dX5_readText_111 p_X5_31 (s_aload_n (pc := 114) X dX5_readText_114 rfl (s_iconst (pc := 115) X dX5_readText_115 rfl (s_putI (pc := 116) X dX5_readText_116 p_X5_23 (s_aload_n (pc := 119) X dX5_readText_119 rfl (s_getI (pc := 120) X dX5_readText_120 g_X5_42 (s_if_ne (pc := 123) X dX5_readText_123 (by decide) (s_iconst (pc := 130) X dX5_readText_130 rfl (s_zret (pc := 131) X E hr dX5_readText_131)) (s_iconst (pc := 126) X dX5_readText_126 rfl (s_goto (pc := 127) X dX5_readText_127 (by decide) (s_zret (pc := 131) X E hr dX5_readText_131)))))))))))), fun _ h => absurd h List.not_mem_nil⟩⟩⟩)
theorem dX11_edition_0 : decode cX11_edition 0 = .ok (.iload_n 1, 1) := by decide +kernel
theorem dX11_edition_1 : decode cX11_edition 1 = .ok (.iconst 0, 1) := by decide +kernel
theorem dX11_edition_2 : decode cX11_edition 2 = .ok (.aload_n 0, 1) := by decide +kernel
theorem dX11_edition_3 : decode cX11_edition 3 = .ok (.getfield 37, 3) := by decide +kernel
theorem dX11_edition_6 : decode cX11_edition 6 = .ok (.getfield 191, 3) := by decide +kernel
theorem dX11_edition_9 : decode cX11_edition 9 = .ok (.invokestatic 101, 3) := by decide +kernel
theorem dX11_edition_12 : decode cX11_edition 12 = .ok (.ifCond .eq 11, 3) := by decide +kernel
theorem dX11_edition_15 : decode cX11_edition 15 = .ok (.aload_n 0, 1) := by decide +kernel
theorem dX11_edition_16 : decode cX11_edition 16 = .ok (.iconst 1, 1) := by decide +kernel
theorem dX11_edition_17 : decode cX11_edition 17 = .ok (.putfield 9, 3) := by decide +kernel
theorem dX11_edition_20 : decode cX11_edition 20 = .ok (.goto 43, 3) := by decide +kernel
theorem dX11_edition_23 : decode cX11_edition 23 = .ok (.aload_n 0, 1) := by decide +kernel
theorem dX11_edition_24 : decode cX11_edition 24 = .ok (.getfield 46, 3) := by decide +kernel
theorem dX11_edition_27 : decode cX11_edition 27 = .ok (.getfield 194, 3) := by decide +kernel
theorem dX11_edition_30 : decode cX11_edition 30 = .ok (.iconst 5, 1) := by decide +kernel
theorem dX11_edition_31 : decode cX11_edition 31 = .ok (.if_icmp .lt 11, 3) := by decide +kernel
theorem dX11_edition_34 : decode cX11_edition 34 = .ok (.aload_n 0, 1) := by decide +kernel
theorem dX11_edition_35 : decode cX11_edition 35 = .ok (.iconst 4, 1) := by decide +kernel
theorem dX11_edition_36 : decode cX11_edition 36 = .ok (.putfield 9, 3) := by decide +kernel
theorem dX11_edition_39 : decode cX11_edition 39 = .ok (.goto 24, 3) := by decide +kernel
theorem dX11_edition_42 : decode cX11_edition 42 = .ok (.aload_n 0, 1) := by decide +kernel
theorem dX11_edition_43 : decode cX11_edition 43 = .ok (.aload_n 0, 1) := by decide +kernel
theorem dX11_edition_44 : decode cX11_edition 44 = .ok (.getfield 37, 3) := by decide +kernel
theorem dX11_edition_47 : decode cX11_edition 47 = .ok (.iload_n 1, 1) := by decide +kernel
theorem dX11_edition_48 : decode cX11_edition 48 = .ok (.invokevirtual 197, 3) := by decide +kernel
theorem dX11_edition_51 : decode cX11_edition 51 = .ok (.ifCond .eq 7, 3) := by decide +kernel
theorem dX11_edition_54 : decode cX11_edition 54 = .ok (.iconst 0, 1) := by decide +kernel
theorem dX11_edition_55 : decode cX11_edition 55 = .ok (.goto 5, 3) := by decide +kernel
theorem dX11_edition_58 : decode cX11_edition 58 = .ok (.bipush 9, 2) := by decide +kernel
theorem dX11_edition_60 : decode cX11_edition 60 = .ok (.putfield 9, 3) := by decide +kernel
theorem dX11_edition_63 : decode cX11_edition 63 = .ok (.aload_n 0, 1) := by decide +kernel
theorem dX11_edition_64 : decode cX11_edition 64 = .ok (.getfield 9, 3) := by decide +kernel
theorem dX11_edition_67 : decode cX11_edition 67 = .ok (.ifCond .ne 27, 3) := by decide +kernel
theorem dX11_edition_70 : decode cX11_edition 70 = .ok (.aload_n 0, 1) := by decide +kernel
theorem dX11_edition_71 : decode cX11_edition 71 = .ok (.getfield 46, 3) := by decide +kernel
theorem dX11_edition_74 : decode cX11_edition 74 = .ok (.aload_n 0, 1) := by decide +kernel
theorem dX11_edition_75 : decode cX11_edition 75 = .ok (.getfield 37, 3) := by decide +kernel
theorem dX11_edition_78 : decode cX11_edition 78 = .ok (.getfield 200, 3) := by decide +kernel
theorem dX11_edition_81 : decode cX11_edition 81 = .ok (.aload_n 0, 1) := by decide +kernel
theorem dX11_edition_82 : decode cX11_edition 82 = .ok (.getfield 37, 3) := by decide +kernel
theorem dX11_edition_85 : decode cX11_edition 85 = .ok (.getfield 204, 3) := by decide +kernel
theorem dX11_edition_88 : decode cX11_edition 88 = .ok (.invokevirtual 207, 3) := by decide +kernel
theorem dX11_edition_91 : decode cX11_edition 91 = .ok (.goto 4, 3) := by decide +kernel
theorem dX11_edition_94 : decode cX11_edition 94 = .ok (.iconst (-1), 1) := by decide +kernel
theorem dX11_edition_95 : decode cX11_edition 95 = .ok (.ireturn, 1) := by decide +kernel
noncomputable def B_X11_edition_0 : pb_C := (i_iload 1 (i_const (.int 0) (i_aload 0 (i_getR 0 21 (i_getI 21 1 (i_callS 3 1 M_X11_outside (i_if_eq (i_aload 0 (i_getR 0 25 (i_getI 25 1 (i_const (.int 5) (i_ic_lt (i_aload 0 (i_aload 0 (i_getR 0 21 (i_iload 1 (i_callV 21 1 1 M_X5_readText (i_if_eq (i_const (.int 9) (i_putI 0 0 (i_jmp 63 [true, false]))) (i_const (.int 0) (i_putI 0 0 (i_jmp 63 [true, false]))))))))) (i_aload 0 (i_const (.int 4) (i_putI 0 0 (i_jmp 63 [true, false]))))))))) (i_aload 0 (i_const (.int 1) (i_putI 0 0 (i_jmp 63 [true, false])))))))))))
noncomputable def B_X11_edition_63 : pb_C := (i_aload 0 (i_getI 0 0 (i_if_ne (i_const (.int (-1)) i_iret) (i_aload 0 (i_getR 0 25 (i_aload 0 (i_getR 0 21 (i_getR 21 24 (i_aload 0 (i_getR 0 21 (i_getI 21 13 (i_callV 25 2 1 M_X0_addEdition_24 i_iret))))))))))))
noncomputable def T_X11_edition : Nat → pb_C := pb_tt [(0, B_X11_edition_0), (63, B_X11_edition_63)]
noncomputable def M_X11_edition : pb_F := pb_M T_X11_edition 2
set_option maxRecDepth 100000 in
set_option maxHeartbeats 4000000 in
theorem S_X11_edition (l : Launch) : pb_Sound l yX11_edition cX11_edition 2 (some .int) 7 M_X11_edition := by
  refine pb_sound_of (by decide) m_3_207 ?_
  intro Γ hl0 hRm0 hm X E hr J
  have hnL : ∀ j, j < 2 → j < Γ.2.2.2.2.2.2.2.2.2.2.2.1 := fun j h => by rw [hm]; exact h
  have hR : ∀ (d' mL : Nat), d' + 1 ≤ 7 ∧ 8 + (mL + 11) + d' * 64 ≤ 7 * 64 → (pb_rm d').frames + 1 ≤ Γ.2.2.2.1.frames ∧ 8 + (mL + 11) + (pb_rm d').locals ≤ Γ.2.2.2.1.locals := by rw [hRm0]; exact fun _ _ h => h
  have hRm : 1 ≤ 7 ∧ 64 ≤ 7 * 64 → 1 ≤ Γ.2.2.2.1.frames ∧ 64 ≤ Γ.2.2.2.1.locals := by rw [hRm0]; exact fun h => h
  exact pb_tt_snd _ (List.forall_mem_cons.mpr ⟨(s_iload_n (pc := 0) X dX11_edition_0 rfl (s_iconst (pc := 1) X dX11_edition_1 rfl (s_aload_n (pc := 2) X dX11_edition_2 rfl (s_getR (pc := 3) X dX11_edition_3 g_X11_37 (s_getI (pc := 6) X dX11_edition_6 g_X11_191 (s_callS (pc := 9) X dX11_edition_9 (S_X11_outside _) q_X11_101 (hR _ _ (by decide)) (s_if_eq (pc := 12) X dX11_edition_12 (by decide) (s_aload_n (pc := 23) X dX11_edition_23 rfl (s_getR (pc := 24) X dX11_edition_24 g_X11_46 (s_getI (pc := 27) X dX11_edition_27 g_X11_194 (s_iconst (pc := 30) X dX11_edition_30 rfl (s_ic_lt (pc := 31) X dX11_edition_31 (by decide) (s_aload_n (pc := 42) X dX11_edition_42 rfl (s_aload_n (pc := 43) X dX11_edition_43 rfl (s_getR (pc := 44) X dX11_edition_44 g_X11_37 (s_iload_n (pc := 47) X dX11_edition_47 rfl (s_callV (pc := 48) X dX11_edition_48 (S_X5_readText _) q_X11_197 h_21 rfl (hR _ _ (by decide)) (s_if_eq (pc := 51) X dX11_edition_51 (by decide) (s_bipush (pc := 58) X dX11_edition_58 rfl (s_putI (pc := 60) X dX11_edition_60 p_X11_9 (s_jmp (pc := 63) J [true, false]))) (s_iconst (pc := 54) X dX11_edition_54 rfl (s_goto (pc := 55) X dX11_edition_55 (by decide) (s_putI (pc := 60) X dX11_edition_60 p_X11_9 (s_jmp (pc := 63) J [true, false])))))))))) (s_aload_n (pc := 34) X dX11_edition_34 rfl (s_iconst (pc := 35) X dX11_edition_35 rfl (s_putI (pc := 36) X dX11_edition_36 p_X11_9 (s_goto (pc := 39) X dX11_edition_39 (by decide) (s_jmp (pc := 63) J [true, false])))))))))) (s_aload_n (pc := 15) X dX11_edition_15 rfl (s_iconst (pc := 16) X dX11_edition_16 rfl (s_putI (pc := 17) X dX11_edition_17 p_X11_9 (s_goto (pc := 20) X dX11_edition_20 (by decide) (s_jmp (pc := 63) J [true, false])))))))))))), List.forall_mem_cons.mpr ⟨(s_aload_n (pc := 63) X dX11_edition_63 rfl (s_getI (pc := 64) X dX11_edition_64 g_X11_9 (s_if_ne (pc := 67) X dX11_edition_67 (by decide) (s_iconst (pc := 94) X dX11_edition_94 rfl (s_iret (pc := 95) X E hr dX11_edition_95)) (s_aload_n (pc := 70) X dX11_edition_70 rfl (s_getR (pc := 71) X dX11_edition_71 g_X11_46 (s_aload_n (pc := 74) X dX11_edition_74 rfl (s_getR (pc := 75) X dX11_edition_75 g_X11_37 (s_getR (pc := 78) X dX11_edition_78 g_X11_200 (s_aload_n (pc := 81) X dX11_edition_81 rfl (s_getR (pc := 82) X dX11_edition_82 g_X11_37 (s_getI (pc := 85) X dX11_edition_85 g_X11_204 (s_callV (pc := 88) X dX11_edition_88 (S_X0_addEdition_24 _) q_X11_207 h_25 rfl (hR _ _ (by decide)) (s_goto (pc := 91) X dX11_edition_91 (by decide) (s_iret (pc := 95) X E hr dX11_edition_95)))))))))))))), fun _ h => absurd h List.not_mem_nil⟩⟩)
theorem dX5_report_0 : decode cX5_report 0 = .ok (.aload_n 0, 1) := by decide +kernel
theorem dX5_report_1 : decode cX5_report 1 = .ok (.getfield 31, 3) := by decide +kernel
theorem dX5_report_4 : decode cX5_report 4 = .ok (.ifCond .eq 12, 3) := by decide +kernel
theorem dX5_report_7 : decode cX5_report 7 = .ok (.iload_n 1, 1) := by decide +kernel
theorem dX5_report_8 : decode cX5_report 8 = .ok (.iconst 0, 1) := by decide +kernel
theorem dX5_report_9 : decode cX5_report 9 = .ok (.iconst 2, 1) := by decide +kernel
theorem dX5_report_10 : decode cX5_report 10 = .ok (.invokestatic 35, 3) := by decide +kernel
theorem dX5_report_13 : decode cX5_report 13 = .ok (.ifCond .eq 5, 3) := by decide +kernel
theorem dX5_report_16 : decode cX5_report 16 = .ok (.iconst (-1), 1) := by decide +kernel
theorem dX5_report_17 : decode cX5_report 17 = .ok (.ireturn, 1) := by decide +kernel
theorem dX5_report_18 : decode cX5_report 18 = .ok (.iload_n 1, 1) := by decide +kernel
theorem dX5_report_19 : decode cX5_report 19 = .ok (.iconst 2, 1) := by decide +kernel
theorem dX5_report_20 : decode cX5_report 20 = .ok (.if_icmp .ne 8, 3) := by decide +kernel
theorem dX5_report_23 : decode cX5_report 23 = .ok (.aload_n 0, 1) := by decide +kernel
theorem dX5_report_24 : decode cX5_report 24 = .ok (.getfield 39, 3) := by decide +kernel
theorem dX5_report_27 : decode cX5_report 27 = .ok (.ireturn, 1) := by decide +kernel
theorem dX5_report_28 : decode cX5_report 28 = .ok (.iload_n 1, 1) := by decide +kernel
theorem dX5_report_29 : decode cX5_report 29 = .ok (.ifCond .ne 10, 3) := by decide +kernel
theorem dX5_report_32 : decode cX5_report 32 = .ok (.aload_n 0, 1) := by decide +kernel
theorem dX5_report_33 : decode cX5_report 33 = .ok (.getfield 42, 3) := by decide +kernel
theorem dX5_report_36 : decode cX5_report 36 = .ok (.goto 7, 3) := by decide +kernel
theorem dX5_report_39 : decode cX5_report 39 = .ok (.aload_n 0, 1) := by decide +kernel
theorem dX5_report_40 : decode cX5_report 40 = .ok (.getfield 45, 3) := by decide +kernel
theorem dX5_report_43 : decode cX5_report 43 = .ok (.ireturn, 1) := by decide +kernel
noncomputable def B_X5_report_0 : pb_C := (i_aload 0 (i_getI 21 15 (i_if_eq (i_const (.int (-1)) i_iret) (i_iload 1 (i_const (.int 0) (i_const (.int 2) (i_callS 3 1 M_X11_outside (i_if_eq (i_iload 1 (i_const (.int 2) (i_ic_ne (i_iload 1 (i_if_ne (i_aload 0 (i_getI 21 17 i_iret)) (i_aload 0 (i_getI 21 16 i_iret)))) (i_aload 0 (i_getI 21 18 i_iret))))) (i_const (.int (-1)) i_iret)))))))))
noncomputable def T_X5_report : Nat → pb_C := pb_tt [(0, B_X5_report_0)]
noncomputable def M_X5_report : pb_F := pb_M T_X5_report 2
set_option maxRecDepth 100000 in
set_option maxHeartbeats 4000000 in
theorem S_X5_report (l : Launch) : pb_Sound l yX5_report cX5_report 2 (some .int) 2 M_X5_report := by
  refine pb_sound_of (by decide) m_4_183 ?_
  intro Γ hl0 hRm0 hm X E hr J
  have hnL : ∀ j, j < 2 → j < Γ.2.2.2.2.2.2.2.2.2.2.2.1 := fun j h => by rw [hm]; exact h
  have hR : ∀ (d' mL : Nat), d' + 1 ≤ 2 ∧ 8 + (mL + 11) + d' * 64 ≤ 2 * 64 → (pb_rm d').frames + 1 ≤ Γ.2.2.2.1.frames ∧ 8 + (mL + 11) + (pb_rm d').locals ≤ Γ.2.2.2.1.locals := by rw [hRm0]; exact fun _ _ h => h
  have hRm : 1 ≤ 2 ∧ 64 ≤ 2 * 64 → 1 ≤ Γ.2.2.2.1.frames ∧ 64 ≤ Γ.2.2.2.1.locals := by rw [hRm0]; exact fun h => h
  exact pb_tt_snd _ (List.forall_mem_cons.mpr ⟨(s_aload_n (pc := 0) X dX5_report_0 rfl (s_getI (pc := 1) X dX5_report_1 g_X5_31 (s_if_eq (pc := 4) X dX5_report_4 (by decide) (s_iconst (pc := 16) X dX5_report_16 rfl (s_iret (pc := 17) X E hr dX5_report_17)) (s_iload_n (pc := 7) X dX5_report_7 rfl (s_iconst (pc := 8) X dX5_report_8 rfl (s_iconst (pc := 9) X dX5_report_9 rfl (s_callS (pc := 10) X dX5_report_10 (S_X11_outside _) q_X5_35 (hR _ _ (by decide)) (s_if_eq (pc := 13) X dX5_report_13 (by decide) (s_iload_n (pc := 18) X dX5_report_18 rfl (s_iconst (pc := 19) X dX5_report_19 rfl (s_ic_ne (pc := 20) X dX5_report_20 (by decide) (s_iload_n (pc := 28) X dX5_report_28 rfl (s_if_ne (pc := 29) X dX5_report_29 (by decide) (s_aload_n (pc := 39) X dX5_report_39 rfl (s_getI (pc := 40) X dX5_report_40 g_X5_45 (s_iret (pc := 43) X E hr dX5_report_43))) (s_aload_n (pc := 32) X dX5_report_32 rfl (s_getI (pc := 33) X dX5_report_33 g_X5_42 (s_goto (pc := 36) X dX5_report_36 (by decide) (s_iret (pc := 43) X E hr dX5_report_43)))))) (s_aload_n (pc := 23) X dX5_report_23 rfl (s_getI (pc := 24) X dX5_report_24 g_X5_39 (s_iret (pc := 27) X E hr dX5_report_27)))))) (s_iconst (pc := 16) X dX5_report_16 rfl (s_iret (pc := 17) X E hr dX5_report_17)))))))))), fun _ h => absurd h List.not_mem_nil⟩)
theorem dX11_fault_0 : decode cX11_fault 0 = .ok (.aload_n 0, 1) := by decide +kernel
theorem dX11_fault_1 : decode cX11_fault 1 = .ok (.getfield 37, 3) := by decide +kernel
theorem dX11_fault_4 : decode cX11_fault 4 = .ok (.iload_n 1, 1) := by decide +kernel
theorem dX11_fault_5 : decode cX11_fault 5 = .ok (.invokevirtual 211, 3) := by decide +kernel
theorem dX11_fault_8 : decode cX11_fault 8 = .ok (.ireturn, 1) := by decide +kernel
noncomputable def B_X11_fault_0 : pb_C := (i_aload 0 (i_getR 0 21 (i_iload 1 (i_callV 21 1 1 M_X5_report i_iret))))
noncomputable def T_X11_fault : Nat → pb_C := pb_tt [(0, B_X11_fault_0)]
noncomputable def M_X11_fault : pb_F := pb_M T_X11_fault 2
set_option maxRecDepth 100000 in
set_option maxHeartbeats 4000000 in
theorem S_X11_fault (l : Launch) : pb_Sound l yX11_fault cX11_fault 2 (some .int) 3 M_X11_fault := by
  refine pb_sound_of (by decide) m_4_179 ?_
  intro Γ hl0 hRm0 hm X E hr J
  have hnL : ∀ j, j < 2 → j < Γ.2.2.2.2.2.2.2.2.2.2.2.1 := fun j h => by rw [hm]; exact h
  have hR : ∀ (d' mL : Nat), d' + 1 ≤ 3 ∧ 8 + (mL + 11) + d' * 64 ≤ 3 * 64 → (pb_rm d').frames + 1 ≤ Γ.2.2.2.1.frames ∧ 8 + (mL + 11) + (pb_rm d').locals ≤ Γ.2.2.2.1.locals := by rw [hRm0]; exact fun _ _ h => h
  have hRm : 1 ≤ 3 ∧ 64 ≤ 3 * 64 → 1 ≤ Γ.2.2.2.1.frames ∧ 64 ≤ Γ.2.2.2.1.locals := by rw [hRm0]; exact fun h => h
  exact pb_tt_snd _ (List.forall_mem_cons.mpr ⟨(s_aload_n (pc := 0) X dX11_fault_0 rfl (s_getR (pc := 1) X dX11_fault_1 g_X11_37 (s_iload_n (pc := 4) X dX11_fault_4 rfl (s_callV (pc := 5) X dX11_fault_5 (S_X5_report _) q_X11_211 h_21 rfl (hR _ _ (by decide)) (s_iret (pc := 8) X E hr dX11_fault_8))))), fun _ h => absurd h List.not_mem_nil⟩)
theorem dX0_pop_0 : decode cX0_pop 0 = .ok (.aload_n 0, 1) := by decide +kernel
theorem dX0_pop_1 : decode cX0_pop 1 = .ok (.getfield 76, 3) := by decide +kernel
theorem dX0_pop_4 : decode cX0_pop 4 = .ok (.ifCond .gt 5, 3) := by decide +kernel
theorem dX0_pop_7 : decode cX0_pop 7 = .ok (.lconst 0, 1) := by decide +kernel
theorem dX0_pop_8 : decode cX0_pop 8 = .ok (.lreturn, 1) := by decide +kernel
theorem dX0_pop_9 : decode cX0_pop 9 = .ok (.aload_n 0, 1) := by decide +kernel
theorem dX0_pop_10 : decode cX0_pop 10 = .ok (.dup, 1) := by decide +kernel
theorem dX0_pop_11 : decode cX0_pop 11 = .ok (.getfield 76, 3) := by decide +kernel
theorem dX0_pop_14 : decode cX0_pop 14 = .ok (.iconst 1, 1) := by decide +kernel
theorem dX0_pop_15 : decode cX0_pop 15 = .ok (.isub, 1) := by decide +kernel
theorem dX0_pop_16 : decode cX0_pop 16 = .ok (.putfield 76, 3) := by decide +kernel
theorem dX0_pop_19 : decode cX0_pop 19 = .ok (.aload_n 0, 1) := by decide +kernel
theorem dX0_pop_20 : decode cX0_pop 20 = .ok (.getfield 25, 3) := by decide +kernel
theorem dX0_pop_23 : decode cX0_pop 23 = .ok (.aload_n 0, 1) := by decide +kernel
theorem dX0_pop_24 : decode cX0_pop 24 = .ok (.getfield 76, 3) := by decide +kernel
theorem dX0_pop_27 : decode cX0_pop 27 = .ok (.laload, 1) := by decide +kernel
theorem dX0_pop_28 : decode cX0_pop 28 = .ok (.lreturn, 1) := by decide +kernel
noncomputable def B_X0_pop_0 : pb_C := (i_aload 0 (i_getI 25 7 (i_if_gt (i_aload 0 (i_dupR (i_getI 25 7 (i_const (.int 1) (i_ibin (· - ·) (i_putI 25 7 (i_aload 0 (i_getR 25 30 (i_aload 0 (i_getI 25 7 (i_lald 30 64 i_lret))))))))))) (i_const (.long 0) i_lret))))
noncomputable def T_X0_pop : Nat → pb_C := pb_tt [(0, B_X0_pop_0)]
noncomputable def M_X0_pop : pb_F := pb_M T_X0_pop 1
set_option maxRecDepth 100000 in
set_option maxHeartbeats 4000000 in
theorem S_X0_pop (l : Launch) : pb_Sound l yX0_pop cX0_pop 1 (some .long) 1 M_X0_pop := by
  refine pb_sound_of (by decide) m_4_202 ?_
  intro Γ hl0 hRm0 hm X E hr J
  have hnL : ∀ j, j < 1 → j < Γ.2.2.2.2.2.2.2.2.2.2.2.1 := fun j h => by rw [hm]; exact h
  have hR : ∀ (d' mL : Nat), d' + 1 ≤ 1 ∧ 8 + (mL + 11) + d' * 64 ≤ 1 * 64 → (pb_rm d').frames + 1 ≤ Γ.2.2.2.1.frames ∧ 8 + (mL + 11) + (pb_rm d').locals ≤ Γ.2.2.2.1.locals := by rw [hRm0]; exact fun _ _ h => h
  have hRm : 1 ≤ 1 ∧ 64 ≤ 1 * 64 → 1 ≤ Γ.2.2.2.1.frames ∧ 64 ≤ Γ.2.2.2.1.locals := by rw [hRm0]; exact fun h => h
  exact pb_tt_snd _ (List.forall_mem_cons.mpr ⟨(s_aload_n (pc := 0) X dX0_pop_0 rfl (s_getI (pc := 1) X dX0_pop_1 g_X0_76 (s_if_gt (pc := 4) X dX0_pop_4 (by decide) (s_aload_n (pc := 9) X dX0_pop_9 rfl (s_dupR (pc := 10) X dX0_pop_10 (s_getI (pc := 11) X dX0_pop_11 g_X0_76 (s_iconst (pc := 14) X dX0_pop_14 rfl (s_isub (pc := 15) X dX0_pop_15 (s_putI (pc := 16) X dX0_pop_16 p_X0_76 (s_aload_n (pc := 19) X dX0_pop_19 rfl (s_getR (pc := 20) X dX0_pop_20 g_X0_25 (s_aload_n (pc := 23) X dX0_pop_23 rfl (s_getI (pc := 24) X dX0_pop_24 g_X0_76 (s_lald (pc := 27) X dX0_pop_27 h_30 (s_lret (pc := 28) X E hr dX0_pop_28)))))))))))) (s_lconst (pc := 7) X dX0_pop_7 rfl (s_lret (pc := 8) X E hr dX0_pop_8))))), fun _ h => absurd h List.not_mem_nil⟩)
theorem dX0_packed_0 : decode cX0_packed 0 = .ok (.ldc2_w 93, 3) := by decide +kernel
theorem dX0_packed_3 : decode cX0_packed 3 = .ok (.lconst 0, 1) := by decide +kernel
theorem dX0_packed_4 : decode cX0_packed 4 = .ok (.lload_n 1, 1) := by decide +kernel
theorem dX0_packed_5 : decode cX0_packed 5 = .ok (.invokestatic 95, 3) := by decide +kernel
theorem dX0_packed_8 : decode cX0_packed 8 = .ok (.invokestatic 98, 3) := by decide +kernel
theorem dX0_packed_11 : decode cX0_packed 11 = .ok (.l2i, 1) := by decide +kernel
theorem dX0_packed_12 : decode cX0_packed 12 = .ok (.istore 5, 2) := by decide +kernel
theorem dX0_packed_14 : decode cX0_packed 14 = .ok (.ldc2_w 101, 3) := by decide +kernel
theorem dX0_packed_17 : decode cX0_packed 17 = .ok (.lconst 1, 1) := by decide +kernel
theorem dX0_packed_18 : decode cX0_packed 18 = .ok (.lload_n 3, 1) := by decide +kernel
theorem dX0_packed_19 : decode cX0_packed 19 = .ok (.invokestatic 95, 3) := by decide +kernel
theorem dX0_packed_22 : decode cX0_packed 22 = .ok (.invokestatic 98, 3) := by decide +kernel
theorem dX0_packed_25 : decode cX0_packed 25 = .ok (.l2i, 1) := by decide +kernel
theorem dX0_packed_26 : decode cX0_packed 26 = .ok (.istore 6, 2) := by decide +kernel
theorem dX0_packed_28 : decode cX0_packed 28 = .ok (.iload_n 0, 1) := by decide +kernel
theorem dX0_packed_29 : decode cX0_packed 29 = .ok (.iconst 1, 1) := by decide +kernel
theorem dX0_packed_30 : decode cX0_packed 30 = .ok (.iadd, 1) := by decide +kernel
theorem dX0_packed_31 : decode cX0_packed 31 = .ok (.bipush 14, 2) := by decide +kernel
theorem dX0_packed_33 : decode cX0_packed 33 = .ok (.ishl, 1) := by decide +kernel
theorem dX0_packed_34 : decode cX0_packed 34 = .ok (.iload 6, 2) := by decide +kernel
theorem dX0_packed_36 : decode cX0_packed 36 = .ok (.iconst 4, 1) := by decide +kernel
theorem dX0_packed_37 : decode cX0_packed 37 = .ok (.ishl, 1) := by decide +kernel
theorem dX0_packed_38 : decode cX0_packed 38 = .ok (.ior, 1) := by decide +kernel
theorem dX0_packed_39 : decode cX0_packed 39 = .ok (.iload 5, 2) := by decide +kernel
theorem dX0_packed_41 : decode cX0_packed 41 = .ok (.ior, 1) := by decide +kernel
theorem dX0_packed_42 : decode cX0_packed 42 = .ok (.ireturn, 1) := by decide +kernel
noncomputable def B_X0_packed_0 : pb_C := (i_const (.long (15)) (i_const (.long 0) (i_lload 1 (i_mL2 pb_maxL (i_mL2 pb_minL (i_l2i (i_istore 5 (i_const (.long (1000)) (i_const (.long 1) (i_lload 3 (i_mL2 pb_maxL (i_mL2 pb_minL (i_l2i (i_istore 6 (i_iload 0 (i_const (.int 1) (i_ibin (· + ·) (i_const (.int 14) (i_ibin (fun x y => x <<< (y &&& 31)) (i_iload 6 (i_const (.int 4) (i_ibin (fun x y => x <<< (y &&& 31)) (i_ibin (· ||| ·) (i_iload 5 (i_ibin (· ||| ·) i_iret)))))))))))))))))))))))))
noncomputable def T_X0_packed : Nat → pb_C := pb_tt [(0, B_X0_packed_0)]
noncomputable def M_X0_packed : pb_F := pb_M T_X0_packed 7
set_option maxRecDepth 100000 in
set_option maxHeartbeats 4000000 in
theorem S_X0_packed (l : Launch) : pb_Sound l yX0_packed cX0_packed 7 (some .int) 1 M_X0_packed := by
  refine pb_sound_of (by decide) m_4_206 ?_
  intro Γ hl0 hRm0 hm X E hr J
  have hnL : ∀ j, j < 7 → j < Γ.2.2.2.2.2.2.2.2.2.2.2.1 := fun j h => by rw [hm]; exact h
  have hR : ∀ (d' mL : Nat), d' + 1 ≤ 1 ∧ 8 + (mL + 11) + d' * 64 ≤ 1 * 64 → (pb_rm d').frames + 1 ≤ Γ.2.2.2.1.frames ∧ 8 + (mL + 11) + (pb_rm d').locals ≤ Γ.2.2.2.1.locals := by rw [hRm0]; exact fun _ _ h => h
  have hRm : 1 ≤ 1 ∧ 64 ≤ 1 * 64 → 1 ≤ Γ.2.2.2.1.frames ∧ 64 ≤ Γ.2.2.2.1.locals := by rw [hRm0]; exact fun h => h
  exact pb_tt_snd _ (List.forall_mem_cons.mpr ⟨(s_ldc2 (pc := 0) X dX0_packed_0 m_4_207 (s_lconst (pc := 3) X dX0_packed_3 rfl (s_lload_n (pc := 4) X dX0_packed_4 rfl (s_mmaxL (pc := 5) X dX0_packed_5 m_4_208 mm_mmaxL (hRm (by decide)) (s_mminL (pc := 8) X dX0_packed_8 m_4_211 mm_mminL (hRm (by decide)) (s_l2i (pc := 11) X dX0_packed_11 (s_istore (pc := 12) X dX0_packed_12 (hnL _ (by decide)) (s_ldc2 (pc := 14) X dX0_packed_14 m_4_214 (s_lconst (pc := 17) X dX0_packed_17 rfl (s_lload_n (pc := 18) X dX0_packed_18 rfl (s_mmaxL (pc := 19) X dX0_packed_19 m_4_208 mm_mmaxL (hRm (by decide)) (s_mminL (pc := 22) X dX0_packed_22 m_4_211 mm_mminL (hRm (by decide)) (s_l2i (pc := 25) X dX0_packed_25 (s_istore (pc := 26) X dX0_packed_26 (hnL _ (by decide)) (s_iload_n (pc := 28) X dX0_packed_28 rfl (s_iconst (pc := 29) X dX0_packed_29 rfl (s_iadd (pc := 30) X dX0_packed_30 (s_bipush (pc := 31) X dX0_packed_31 rfl (s_ishl (pc := 33) X dX0_packed_33 (s_iload (pc := 34) X dX0_packed_34 (s_iconst (pc := 36) X dX0_packed_36 rfl (s_ishl (pc := 37) X dX0_packed_37 (s_ior (pc := 38) X dX0_packed_38 (s_iload (pc := 39) X dX0_packed_39 (s_ior (pc := 41) X dX0_packed_41 (s_iret (pc := 42) X E hr dX0_packed_42)))))))))))))))))))))))))), fun _ h => absurd h List.not_mem_nil⟩)
theorem dX0_push_0 : decode cX0_push 0 = .ok (.aload_n 0, 1) := by decide +kernel
theorem dX0_push_1 : decode cX0_push 1 = .ok (.getfield 76, 3) := by decide +kernel
theorem dX0_push_4 : decode cX0_push 4 = .ok (.bipush 64, 2) := by decide +kernel
theorem dX0_push_6 : decode cX0_push 6 = .ok (.if_icmp .ge 23, 3) := by decide +kernel
theorem dX0_push_9 : decode cX0_push 9 = .ok (.aload_n 0, 1) := by decide +kernel
theorem dX0_push_10 : decode cX0_push 10 = .ok (.getfield 25, 3) := by decide +kernel
theorem dX0_push_13 : decode cX0_push 13 = .ok (.aload_n 0, 1) := by decide +kernel
theorem dX0_push_14 : decode cX0_push 14 = .ok (.getfield 76, 3) := by decide +kernel
theorem dX0_push_17 : decode cX0_push 17 = .ok (.lload_n 1, 1) := by decide +kernel
theorem dX0_push_18 : decode cX0_push 18 = .ok (.lastore, 1) := by decide +kernel
theorem dX0_push_19 : decode cX0_push 19 = .ok (.aload_n 0, 1) := by decide +kernel
theorem dX0_push_20 : decode cX0_push 20 = .ok (.dup, 1) := by decide +kernel
theorem dX0_push_21 : decode cX0_push 21 = .ok (.getfield 76, 3) := by decide +kernel
theorem dX0_push_24 : decode cX0_push 24 = .ok (.iconst 1, 1) := by decide +kernel
theorem dX0_push_25 : decode cX0_push 25 = .ok (.iadd, 1) := by decide +kernel
theorem dX0_push_26 : decode cX0_push 26 = .ok (.putfield 76, 3) := by decide +kernel
theorem dX0_push_29 : decode cX0_push 29 = .ok (.return_, 1) := by decide +kernel
noncomputable def B_X0_push_0 : pb_C := (i_aload 0 (i_getI 25 7 (i_const (.int 64) (i_ic_ge i_vret (i_aload 0 (i_getR 25 30 (i_aload 0 (i_getI 25 7 (i_lload 1 (i_last 30 64 (i_aload 0 (i_dupR (i_getI 25 7 (i_const (.int 1) (i_ibin (· + ·) (i_putI 25 7 i_vret))))))))))))))))
noncomputable def T_X0_push : Nat → pb_C := pb_tt [(0, B_X0_push_0)]
noncomputable def M_X0_push : pb_F := pb_M T_X0_push 3
set_option maxRecDepth 100000 in
set_option maxHeartbeats 4000000 in
theorem S_X0_push (l : Launch) : pb_Sound l yX0_push cX0_push 3 none 1 M_X0_push := by
  refine pb_sound_of (by decide) m_4_222 ?_
  intro Γ hl0 hRm0 hm X E hr J
  have hnL : ∀ j, j < 3 → j < Γ.2.2.2.2.2.2.2.2.2.2.2.1 := fun j h => by rw [hm]; exact h
  have hR : ∀ (d' mL : Nat), d' + 1 ≤ 1 ∧ 8 + (mL + 11) + d' * 64 ≤ 1 * 64 → (pb_rm d').frames + 1 ≤ Γ.2.2.2.1.frames ∧ 8 + (mL + 11) + (pb_rm d').locals ≤ Γ.2.2.2.1.locals := by rw [hRm0]; exact fun _ _ h => h
  have hRm : 1 ≤ 1 ∧ 64 ≤ 1 * 64 → 1 ≤ Γ.2.2.2.1.frames ∧ 64 ≤ Γ.2.2.2.1.locals := by rw [hRm0]; exact fun h => h
  exact pb_tt_snd _ (List.forall_mem_cons.mpr ⟨(s_aload_n (pc := 0) X dX0_push_0 rfl (s_getI (pc := 1) X dX0_push_1 g_X0_76 (s_bipush (pc := 4) X dX0_push_4 rfl (s_ic_ge (pc := 6) X dX0_push_6 (by decide) (s_vret (pc := 29) X E hr dX0_push_29) (s_aload_n (pc := 9) X dX0_push_9 rfl (s_getR (pc := 10) X dX0_push_10 g_X0_25 (s_aload_n (pc := 13) X dX0_push_13 rfl (s_getI (pc := 14) X dX0_push_14 g_X0_76 (s_lload_n (pc := 17) X dX0_push_17 rfl (s_last (pc := 18) X dX0_push_18 h_30 (s_aload_n (pc := 19) X dX0_push_19 rfl (s_dupR (pc := 20) X dX0_push_20 (s_getI (pc := 21) X dX0_push_21 g_X0_76 (s_iconst (pc := 24) X dX0_push_24 rfl (s_iadd (pc := 25) X dX0_push_25 (s_putI (pc := 26) X dX0_push_26 p_X0_76 (s_vret (pc := 29) X E hr dX0_push_29))))))))))))))))), fun _ h => absurd h List.not_mem_nil⟩)
theorem dX1_hasWord_0 : decode cX1_hasWord 0 = .ok (.iload_n 1, 1) := by decide +kernel
theorem dX1_hasWord_1 : decode cX1_hasWord 1 = .ok (.iconst 3, 1) := by decide +kernel
theorem dX1_hasWord_2 : decode cX1_hasWord 2 = .ok (.imul, 1) := by decide +kernel
theorem dX1_hasWord_3 : decode cX1_hasWord 3 = .ok (.istore 4, 2) := by decide +kernel
theorem dX1_hasWord_5 : decode cX1_hasWord 5 = .ok (.aload_n 0, 1) := by decide +kernel
theorem dX1_hasWord_6 : decode cX1_hasWord 6 = .ok (.getfield 37, 3) := by decide +kernel
theorem dX1_hasWord_9 : decode cX1_hasWord 9 = .ok (.iload 4, 2) := by decide +kernel
theorem dX1_hasWord_11 : decode cX1_hasWord 11 = .ok (.laload, 1) := by decide +kernel
theorem dX1_hasWord_12 : decode cX1_hasWord 12 = .ok (.lload_n 2, 1) := by decide +kernel
theorem dX1_hasWord_13 : decode cX1_hasWord 13 = .ok (.lcmp, 1) := by decide +kernel
theorem dX1_hasWord_14 : decode cX1_hasWord 14 = .ok (.ifCond .eq 31, 3) := by decide +kernel
theorem dX1_hasWord_17 : decode cX1_hasWord 17 = .ok (.aload_n 0, 1) := by decide +kernel
theorem dX1_hasWord_18 : decode cX1_hasWord 18 = .ok (.getfield 37, 3) := by decide +kernel
theorem dX1_hasWord_21 : decode cX1_hasWord 21 = .ok (.iload 4, 2) := by decide +kernel
theorem dX1_hasWord_23 : decode cX1_hasWord 23 = .ok (.iconst 1, 1) := by decide +kernel
theorem dX1_hasWord_24 : decode cX1_hasWord 24 = .ok (.iadd, 1) := by decide +kernel
theorem dX1_hasWord_25 : decode cX1_hasWord 25 = .ok (.laload, 1) := by decide +kernel
theorem dX1_hasWord_26 : decode cX1_hasWord 26 = .ok (.lload_n 2, 1) := by decide +kernel
theorem dX1_hasWord_27 : decode cX1_hasWord 27 = .ok (.lcmp, 1) := by decide +kernel
theorem dX1_hasWord_28 : decode cX1_hasWord 28 = .ok (.ifCond .eq 17, 3) := by decide +kernel
theorem dX1_hasWord_31 : decode cX1_hasWord 31 = .ok (.aload_n 0, 1) := by decide +kernel
theorem dX1_hasWord_32 : decode cX1_hasWord 32 = .ok (.getfield 37, 3) := by decide +kernel
theorem dX1_hasWord_35 : decode cX1_hasWord 35 = .ok (.iload 4, 2) := by decide +kernel
theorem dX1_hasWord_37 : decode cX1_hasWord 37 = .ok (.iconst 2, 1) := by decide +kernel
theorem dX1_hasWord_38 : decode cX1_hasWord 38 = .ok (.iadd, 1) := by decide +kernel
theorem dX1_hasWord_39 : decode cX1_hasWord 39 = .ok (.laload, 1) := by decide +kernel
theorem dX1_hasWord_40 : decode cX1_hasWord 40 = .ok (.lload_n 2, 1) := by decide +kernel
theorem dX1_hasWord_41 : decode cX1_hasWord 41 = .ok (.lcmp, 1) := by decide +kernel
theorem dX1_hasWord_42 : decode cX1_hasWord 42 = .ok (.ifCond .ne 7, 3) := by decide +kernel
theorem dX1_hasWord_45 : decode cX1_hasWord 45 = .ok (.iconst 1, 1) := by decide +kernel
theorem dX1_hasWord_46 : decode cX1_hasWord 46 = .ok (.goto 4, 3) := by decide +kernel
theorem dX1_hasWord_49 : decode cX1_hasWord 49 = .ok (.iconst 0, 1) := by decide +kernel
theorem dX1_hasWord_50 : decode cX1_hasWord 50 = .ok (.ireturn, 1) := by decide +kernel
noncomputable def B_X1_hasWord_0 : pb_C := (i_iload 1 (i_const (.int 3) (i_ibin (· * ·) (i_istore 4 (i_aload 0 (i_getR 5 14 (i_iload 4 (i_lald 14 600 (i_lload 2 (i_lcmp (i_if_eq (i_const (.int 1) i_zret) (i_aload 0 (i_getR 5 14 (i_iload 4 (i_const (.int 1) (i_ibin (· + ·) (i_lald 14 600 (i_lload 2 (i_lcmp (i_if_eq (i_const (.int 1) i_zret) (i_aload 0 (i_getR 5 14 (i_iload 4 (i_const (.int 2) (i_ibin (· + ·) (i_lald 14 600 (i_lload 2 (i_lcmp (i_if_ne (i_const (.int 0) i_zret) (i_const (.int 1) i_zret))))))))))))))))))))))))))))))
noncomputable def T_X1_hasWord : Nat → pb_C := pb_tt [(0, B_X1_hasWord_0)]
noncomputable def M_X1_hasWord : pb_F := pb_M T_X1_hasWord 5
set_option maxRecDepth 100000 in
set_option maxHeartbeats 4000000 in
theorem S_X1_hasWord (l : Launch) : pb_Sound l yX1_hasWord cX1_hasWord 5 (some .boolean) 1 M_X1_hasWord := by
  refine pb_sound_of (by decide) m_4_226 ?_
  intro Γ hl0 hRm0 hm X E hr J
  have hnL : ∀ j, j < 5 → j < Γ.2.2.2.2.2.2.2.2.2.2.2.1 := fun j h => by rw [hm]; exact h
  have hR : ∀ (d' mL : Nat), d' + 1 ≤ 1 ∧ 8 + (mL + 11) + d' * 64 ≤ 1 * 64 → (pb_rm d').frames + 1 ≤ Γ.2.2.2.1.frames ∧ 8 + (mL + 11) + (pb_rm d').locals ≤ Γ.2.2.2.1.locals := by rw [hRm0]; exact fun _ _ h => h
  have hRm : 1 ≤ 1 ∧ 64 ≤ 1 * 64 → 1 ≤ Γ.2.2.2.1.frames ∧ 64 ≤ Γ.2.2.2.1.locals := by rw [hRm0]; exact fun h => h
  exact pb_tt_snd _ (List.forall_mem_cons.mpr ⟨(s_iload_n (pc := 0) X dX1_hasWord_0 rfl (s_iconst (pc := 1) X dX1_hasWord_1 rfl (s_imul (pc := 2) X dX1_hasWord_2 (s_istore (pc := 3) X dX1_hasWord_3 (hnL _ (by decide)) (s_aload_n (pc := 5) X dX1_hasWord_5 rfl (s_getR (pc := 6) X dX1_hasWord_6 g_X1_37 (s_iload (pc := 9) X dX1_hasWord_9 (s_lald (pc := 11) X dX1_hasWord_11 h_14 (s_lload_n (pc := 12) X dX1_hasWord_12 rfl (s_lcmp (pc := 13) X dX1_hasWord_13 (s_if_eq (pc := 14) X dX1_hasWord_14 (by decide) (s_iconst (pc := 45) X dX1_hasWord_45 rfl (s_goto (pc := 46) X dX1_hasWord_46 (by decide) (s_zret (pc := 50) X E hr dX1_hasWord_50))) (s_aload_n (pc := 17) X dX1_hasWord_17 rfl (s_getR (pc := 18) X dX1_hasWord_18 g_X1_37 (s_iload (pc := 21) X dX1_hasWord_21 (s_iconst (pc := 23) X dX1_hasWord_23 rfl (s_iadd (pc := 24) X dX1_hasWord_24 (s_lald (pc := 25) X dX1_hasWord_25 h_14 (s_lload_n (pc := 26) X dX1_hasWord_26 rfl (s_lcmp (pc := 27) X dX1_hasWord_27 (s_if_eq (pc := 28) X dX1_hasWord_28 (by decide) (s_iconst (pc := 45) X dX1_hasWord_45 rfl (s_goto (pc := 46) X dX1_hasWord_46 (by decide) (s_zret (pc := 50) X E hr dX1_hasWord_50))) (s_aload_n (pc := 31) X dX1_hasWord_31 rfl (s_getR (pc := 32) X dX1_hasWord_32 g_X1_37 (s_iload (pc := 35) X dX1_hasWord_35 (s_iconst (pc := 37) X dX1_hasWord_37 rfl (s_iadd (pc := 38) X dX1_hasWord_38 (s_lald (pc := 39) X dX1_hasWord_39 h_14 (s_lload_n (pc := 40) X dX1_hasWord_40 rfl (s_lcmp (pc := 41) X dX1_hasWord_41 (s_if_ne (pc := 42) X dX1_hasWord_42 (by decide) (s_iconst (pc := 49) X dX1_hasWord_49 rfl (s_zret (pc := 50) X E hr dX1_hasWord_50)) (s_iconst (pc := 45) X dX1_hasWord_45 rfl (s_goto (pc := 46) X dX1_hasWord_46 (by decide) (s_zret (pc := 50) X E hr dX1_hasWord_50)))))))))))))))))))))))))))))))), fun _ h => absurd h List.not_mem_nil⟩)
theorem dX0_joined_0 : decode cX0_joined 0 = .ok (.iload_n 0, 1) := by decide +kernel
theorem dX0_joined_1 : decode cX0_joined 1 = .ok (.lookupswitch 141 #[(20, 137), (40, 101), (41, 113), (42, 125), (50, 75), (51, 79), (60, 83), (61, 87)], 75) := by decide +kernel
theorem dX0_joined_76 : decode cX0_joined 76 = .ok (.lload_n 1, 1) := by decide +kernel
theorem dX0_joined_77 : decode cX0_joined 77 = .ok (.lload_n 3, 1) := by decide +kernel
theorem dX0_joined_78 : decode cX0_joined 78 = .ok (.ladd, 1) := by decide +kernel
theorem dX0_joined_79 : decode cX0_joined 79 = .ok (.lreturn, 1) := by decide +kernel
theorem dX0_joined_80 : decode cX0_joined 80 = .ok (.lload_n 1, 1) := by decide +kernel
theorem dX0_joined_81 : decode cX0_joined 81 = .ok (.lload_n 3, 1) := by decide +kernel
theorem dX0_joined_82 : decode cX0_joined 82 = .ok (.lsub, 1) := by decide +kernel
theorem dX0_joined_83 : decode cX0_joined 83 = .ok (.lreturn, 1) := by decide +kernel
theorem dX0_joined_84 : decode cX0_joined 84 = .ok (.lload_n 1, 1) := by decide +kernel
theorem dX0_joined_85 : decode cX0_joined 85 = .ok (.lload_n 3, 1) := by decide +kernel
theorem dX0_joined_86 : decode cX0_joined 86 = .ok (.lmul, 1) := by decide +kernel
theorem dX0_joined_87 : decode cX0_joined 87 = .ok (.lreturn, 1) := by decide +kernel
theorem dX0_joined_88 : decode cX0_joined 88 = .ok (.lload_n 3, 1) := by decide +kernel
theorem dX0_joined_89 : decode cX0_joined 89 = .ok (.lconst 0, 1) := by decide +kernel
theorem dX0_joined_90 : decode cX0_joined 90 = .ok (.lcmp, 1) := by decide +kernel
theorem dX0_joined_91 : decode cX0_joined 91 = .ok (.ifCond .ne 7, 3) := by decide +kernel
theorem dX0_joined_94 : decode cX0_joined 94 = .ok (.lconst 0, 1) := by decide +kernel
theorem dX0_joined_95 : decode cX0_joined 95 = .ok (.goto 6, 3) := by decide +kernel
theorem dX0_joined_98 : decode cX0_joined 98 = .ok (.lload_n 1, 1) := by decide +kernel
theorem dX0_joined_99 : decode cX0_joined 99 = .ok (.lload_n 3, 1) := by decide +kernel
theorem dX0_joined_100 : decode cX0_joined 100 = .ok (.ldiv, 1) := by decide +kernel
theorem dX0_joined_101 : decode cX0_joined 101 = .ok (.lreturn, 1) := by decide +kernel
theorem dX0_joined_102 : decode cX0_joined 102 = .ok (.lload_n 1, 1) := by decide +kernel
theorem dX0_joined_103 : decode cX0_joined 103 = .ok (.lload_n 3, 1) := by decide +kernel
theorem dX0_joined_104 : decode cX0_joined 104 = .ok (.lcmp, 1) := by decide +kernel
theorem dX0_joined_105 : decode cX0_joined 105 = .ok (.ifCond .ge 7, 3) := by decide +kernel
theorem dX0_joined_108 : decode cX0_joined 108 = .ok (.lconst 1, 1) := by decide +kernel
theorem dX0_joined_109 : decode cX0_joined 109 = .ok (.goto 4, 3) := by decide +kernel
theorem dX0_joined_112 : decode cX0_joined 112 = .ok (.lconst 0, 1) := by decide +kernel
theorem dX0_joined_113 : decode cX0_joined 113 = .ok (.lreturn, 1) := by decide +kernel
theorem dX0_joined_114 : decode cX0_joined 114 = .ok (.lload_n 1, 1) := by decide +kernel
theorem dX0_joined_115 : decode cX0_joined 115 = .ok (.lload_n 3, 1) := by decide +kernel
theorem dX0_joined_116 : decode cX0_joined 116 = .ok (.lcmp, 1) := by decide +kernel
theorem dX0_joined_117 : decode cX0_joined 117 = .ok (.ifCond .le 7, 3) := by decide +kernel
theorem dX0_joined_120 : decode cX0_joined 120 = .ok (.lconst 1, 1) := by decide +kernel
theorem dX0_joined_121 : decode cX0_joined 121 = .ok (.goto 4, 3) := by decide +kernel
theorem dX0_joined_124 : decode cX0_joined 124 = .ok (.lconst 0, 1) := by decide +kernel
theorem dX0_joined_125 : decode cX0_joined 125 = .ok (.lreturn, 1) := by decide +kernel
theorem dX0_joined_126 : decode cX0_joined 126 = .ok (.lload_n 1, 1) := by decide +kernel
theorem dX0_joined_127 : decode cX0_joined 127 = .ok (.lload_n 3, 1) := by decide +kernel
theorem dX0_joined_128 : decode cX0_joined 128 = .ok (.lcmp, 1) := by decide +kernel
theorem dX0_joined_129 : decode cX0_joined 129 = .ok (.ifCond .ne 7, 3) := by decide +kernel
theorem dX0_joined_132 : decode cX0_joined 132 = .ok (.lconst 1, 1) := by decide +kernel
theorem dX0_joined_133 : decode cX0_joined 133 = .ok (.goto 4, 3) := by decide +kernel
theorem dX0_joined_136 : decode cX0_joined 136 = .ok (.lconst 0, 1) := by decide +kernel
theorem dX0_joined_137 : decode cX0_joined 137 = .ok (.lreturn, 1) := by decide +kernel
theorem dX0_joined_138 : decode cX0_joined 138 = .ok (.lload_n 1, 1) := by decide +kernel
theorem dX0_joined_139 : decode cX0_joined 139 = .ok (.lload_n 3, 1) := by decide +kernel
theorem dX0_joined_140 : decode cX0_joined 140 = .ok (.land, 1) := by decide +kernel
theorem dX0_joined_141 : decode cX0_joined 141 = .ok (.lreturn, 1) := by decide +kernel
theorem dX0_joined_142 : decode cX0_joined 142 = .ok (.lload_n 1, 1) := by decide +kernel
theorem dX0_joined_143 : decode cX0_joined 143 = .ok (.lload_n 3, 1) := by decide +kernel
theorem dX0_joined_144 : decode cX0_joined 144 = .ok (.lor, 1) := by decide +kernel
theorem dX0_joined_145 : decode cX0_joined 145 = .ok (.lreturn, 1) := by decide +kernel
noncomputable def B_X0_joined_0 : pb_C := (i_iload 0 (i_sw [(20, (i_lload 1 (i_lload 3 (i_lbin (· &&& ·) i_lret)))), (40, (i_lload 1 (i_lload 3 (i_lcmp (i_if_ge (i_const (.long 0) i_lret) (i_const (.long 1) i_lret)))))), (41, (i_lload 1 (i_lload 3 (i_lcmp (i_if_le (i_const (.long 0) i_lret) (i_const (.long 1) i_lret)))))), (42, (i_lload 1 (i_lload 3 (i_lcmp (i_if_ne (i_const (.long 0) i_lret) (i_const (.long 1) i_lret)))))), (50, (i_lload 1 (i_lload 3 (i_lbin (· + ·) i_lret)))), (51, (i_lload 1 (i_lload 3 (i_lbin (· - ·) i_lret)))), (60, (i_lload 1 (i_lload 3 (i_lbin (· * ·) i_lret)))), (61, (i_lload 3 (i_const (.long 0) (i_lcmp (i_if_ne (i_lload 1 (i_lload 3 (i_ldivr (· / ·) i_lret))) (i_const (.long 0) i_lret))))))] (i_lload 1 (i_lload 3 (i_lbin (· ||| ·) i_lret)))))
noncomputable def T_X0_joined : Nat → pb_C := pb_tt [(0, B_X0_joined_0)]
noncomputable def M_X0_joined : pb_F := pb_M T_X0_joined 5
set_option maxRecDepth 100000 in
set_option maxHeartbeats 4000000 in
theorem S_X0_joined (l : Launch) : pb_Sound l yX0_joined cX0_joined 5 (some .long) 1 M_X0_joined := by
  refine pb_sound_of (by decide) m_4_229 ?_
  intro Γ hl0 hRm0 hm X E hr J
  have hnL : ∀ j, j < 5 → j < Γ.2.2.2.2.2.2.2.2.2.2.2.1 := fun j h => by rw [hm]; exact h
  have hR : ∀ (d' mL : Nat), d' + 1 ≤ 1 ∧ 8 + (mL + 11) + d' * 64 ≤ 1 * 64 → (pb_rm d').frames + 1 ≤ Γ.2.2.2.1.frames ∧ 8 + (mL + 11) + (pb_rm d').locals ≤ Γ.2.2.2.1.locals := by rw [hRm0]; exact fun _ _ h => h
  have hRm : 1 ≤ 1 ∧ 64 ≤ 1 * 64 → 1 ≤ Γ.2.2.2.1.frames ∧ 64 ≤ Γ.2.2.2.1.locals := by rw [hRm0]; exact fun h => h
  exact pb_tt_snd _ (List.forall_mem_cons.mpr ⟨(s_iload_n (pc := 0) X dX0_joined_0 rfl (s_lookup2 (pc := 1) X dX0_joined_1 (by decide) 142 (by decide) (s_lload_n (pc := 142) X dX0_joined_142 rfl (s_lload_n (pc := 143) X dX0_joined_143 rfl (s_lor (pc := 144) X dX0_joined_144 (s_lret (pc := 145) X E hr dX0_joined_145)))) [138, 102, 114, 126, 76, 80, 84, 88] (⟨by decide, by decide, ⟨by decide, by decide, ⟨by decide, by decide, ⟨by decide, by decide, ⟨by decide, by decide, ⟨by decide, by decide, ⟨by decide, by decide, ⟨by decide, by decide, trivial⟩⟩⟩⟩⟩⟩⟩⟩) (⟨(s_lload_n (pc := 138) X dX0_joined_138 rfl (s_lload_n (pc := 139) X dX0_joined_139 rfl (s_land (pc := 140) X dX0_joined_140 (s_lret (pc := 141) X E hr dX0_joined_141)))), ⟨(s_lload_n (pc := 102) X dX0_joined_102 rfl (s_lload_n (pc := 103) X dX0_joined_103 rfl (s_lcmp (pc := 104) X dX0_joined_104 (s_if_ge (pc := 105) X dX0_joined_105 (by decide) (s_lconst (pc := 112) X dX0_joined_112 rfl (s_lret (pc := 113) X E hr dX0_joined_113)) (s_lconst (pc := 108) X dX0_joined_108 rfl (s_goto (pc := 109) X dX0_joined_109 (by decide) (s_lret (pc := 113) X E hr dX0_joined_113))))))), ⟨(s_lload_n (pc := 114) X dX0_joined_114 rfl (s_lload_n (pc := 115) X dX0_joined_115 rfl (s_lcmp (pc := 116) X dX0_joined_116 (s_if_le (pc := 117) X dX0_joined_117 (by decide) (s_lconst (pc := 124) X dX0_joined_124 rfl (s_lret (pc := 125) X E hr dX0_joined_125)) (s_lconst (pc := 120) X dX0_joined_120 rfl (s_goto (pc := 121) X dX0_joined_121 (by decide) (s_lret (pc := 125) X E hr dX0_joined_125))))))), ⟨(s_lload_n (pc := 126) X dX0_joined_126 rfl (s_lload_n (pc := 127) X dX0_joined_127 rfl (s_lcmp (pc := 128) X dX0_joined_128 (s_if_ne (pc := 129) X dX0_joined_129 (by decide) (s_lconst (pc := 136) X dX0_joined_136 rfl (s_lret (pc := 137) X E hr dX0_joined_137)) (s_lconst (pc := 132) X dX0_joined_132 rfl (s_goto (pc := 133) X dX0_joined_133 (by decide) (s_lret (pc := 137) X E hr dX0_joined_137))))))), ⟨(s_lload_n (pc := 76) X dX0_joined_76 rfl (s_lload_n (pc := 77) X dX0_joined_77 rfl (s_ladd (pc := 78) X dX0_joined_78 (s_lret (pc := 79) X E hr dX0_joined_79)))), ⟨(s_lload_n (pc := 80) X dX0_joined_80 rfl (s_lload_n (pc := 81) X dX0_joined_81 rfl (s_lsub (pc := 82) X dX0_joined_82 (s_lret (pc := 83) X E hr dX0_joined_83)))), ⟨(s_lload_n (pc := 84) X dX0_joined_84 rfl (s_lload_n (pc := 85) X dX0_joined_85 rfl (s_lmul (pc := 86) X dX0_joined_86 (s_lret (pc := 87) X E hr dX0_joined_87)))), ⟨(s_lload_n (pc := 88) X dX0_joined_88 rfl (s_lconst (pc := 89) X dX0_joined_89 rfl (s_lcmp (pc := 90) X dX0_joined_90 (s_if_ne (pc := 91) X dX0_joined_91 (by decide) (s_lload_n (pc := 98) X dX0_joined_98 rfl (s_lload_n (pc := 99) X dX0_joined_99 rfl (s_ldiv (pc := 100) X dX0_joined_100 (s_lret (pc := 101) X E hr dX0_joined_101)))) (s_lconst (pc := 94) X dX0_joined_94 rfl (s_goto (pc := 95) X dX0_joined_95 (by decide) (s_lret (pc := 101) X E hr dX0_joined_101))))))), trivial⟩⟩⟩⟩⟩⟩⟩⟩))), fun _ h => absurd h List.not_mem_nil⟩)
theorem dX0_take_0 : decode cX0_take 0 = .ok (.iload_n 1, 1) := by decide +kernel
theorem dX0_take_1 : decode cX0_take 1 = .ok (.tableswitch 281 1 30 #[135, 143, 161, 179, 200, 218, 243, 281, 281, 281, 281, 281, 281, 281, 281, 281, 281, 281, 281, 281, 281, 281, 281, 281, 281, 281, 281, 281, 281, 268], 135) := by decide +kernel
theorem dX0_take_136 : decode cX0_take 136 = .ok (.aload_n 0, 1) := by decide +kernel
theorem dX0_take_137 : decode cX0_take 137 = .ok (.lload_n 2, 1) := by decide +kernel
theorem dX0_take_138 : decode cX0_take 138 = .ok (.invokevirtual 103, 3) := by decide +kernel
theorem dX0_take_141 : decode cX0_take 141 = .ok (.goto 161, 3) := by decide +kernel
theorem dX0_take_144 : decode cX0_take 144 = .ok (.aload_n 0, 1) := by decide +kernel
theorem dX0_take_145 : decode cX0_take 145 = .ok (.aload_n 0, 1) := by decide +kernel
theorem dX0_take_146 : decode cX0_take 146 = .ok (.getfield 28, 3) := by decide +kernel
theorem dX0_take_149 : decode cX0_take 149 = .ok (.getfield 51, 3) := by decide +kernel
theorem dX0_take_152 : decode cX0_take 152 = .ok (.iload 4, 2) := by decide +kernel
theorem dX0_take_154 : decode cX0_take 154 = .ok (.iaload, 1) := by decide +kernel
theorem dX0_take_155 : decode cX0_take 155 = .ok (.i2l, 1) := by decide +kernel
theorem dX0_take_156 : decode cX0_take 156 = .ok (.invokevirtual 103, 3) := by decide +kernel
theorem dX0_take_159 : decode cX0_take 159 = .ok (.goto 143, 3) := by decide +kernel
theorem dX0_take_162 : decode cX0_take 162 = .ok (.aload_n 0, 1) := by decide +kernel
theorem dX0_take_163 : decode cX0_take 163 = .ok (.aload_n 0, 1) := by decide +kernel
theorem dX0_take_164 : decode cX0_take 164 = .ok (.getfield 28, 3) := by decide +kernel
theorem dX0_take_167 : decode cX0_take 167 = .ok (.getfield 107, 3) := by decide +kernel
theorem dX0_take_170 : decode cX0_take 170 = .ok (.iload 4, 2) := by decide +kernel
theorem dX0_take_172 : decode cX0_take 172 = .ok (.iaload, 1) := by decide +kernel
theorem dX0_take_173 : decode cX0_take 173 = .ok (.i2l, 1) := by decide +kernel
theorem dX0_take_174 : decode cX0_take 174 = .ok (.invokevirtual 103, 3) := by decide +kernel
theorem dX0_take_177 : decode cX0_take 177 = .ok (.goto 125, 3) := by decide +kernel
theorem dX0_take_180 : decode cX0_take 180 = .ok (.aload_n 0, 1) := by decide +kernel
theorem dX0_take_181 : decode cX0_take 181 = .ok (.aload_n 0, 1) := by decide +kernel
theorem dX0_take_182 : decode cX0_take 182 = .ok (.getfield 28, 3) := by decide +kernel
theorem dX0_take_185 : decode cX0_take 185 = .ok (.getfield 107, 3) := by decide +kernel
theorem dX0_take_188 : decode cX0_take 188 = .ok (.iload 4, 2) := by decide +kernel
theorem dX0_take_190 : decode cX0_take 190 = .ok (.iaload, 1) := by decide +kernel
theorem dX0_take_191 : decode cX0_take 191 = .ok (.bipush 52, 2) := by decide +kernel
theorem dX0_take_193 : decode cX0_take 193 = .ok (.idiv, 1) := by decide +kernel
theorem dX0_take_194 : decode cX0_take 194 = .ok (.i2l, 1) := by decide +kernel
theorem dX0_take_195 : decode cX0_take 195 = .ok (.invokevirtual 103, 3) := by decide +kernel
theorem dX0_take_198 : decode cX0_take 198 = .ok (.goto 104, 3) := by decide +kernel
theorem dX0_take_201 : decode cX0_take 201 = .ok (.aload_n 0, 1) := by decide +kernel
theorem dX0_take_202 : decode cX0_take 202 = .ok (.aload_n 0, 1) := by decide +kernel
theorem dX0_take_203 : decode cX0_take 203 = .ok (.getfield 28, 3) := by decide +kernel
theorem dX0_take_206 : decode cX0_take 206 = .ok (.getfield 110, 3) := by decide +kernel
theorem dX0_take_209 : decode cX0_take 209 = .ok (.iload 4, 2) := by decide +kernel
theorem dX0_take_211 : decode cX0_take 211 = .ok (.iaload, 1) := by decide +kernel
theorem dX0_take_212 : decode cX0_take 212 = .ok (.i2l, 1) := by decide +kernel
theorem dX0_take_213 : decode cX0_take 213 = .ok (.invokevirtual 103, 3) := by decide +kernel
theorem dX0_take_216 : decode cX0_take 216 = .ok (.goto 86, 3) := by decide +kernel
theorem dX0_take_219 : decode cX0_take 219 = .ok (.aload_n 0, 1) := by decide +kernel
theorem dX0_take_220 : decode cX0_take 220 = .ok (.aload_n 0, 1) := by decide +kernel
theorem dX0_take_221 : decode cX0_take 221 = .ok (.getfield 28, 3) := by decide +kernel
theorem dX0_take_224 : decode cX0_take 224 = .ok (.iload 4, 2) := by decide +kernel
theorem dX0_take_226 : decode cX0_take 226 = .ok (.lload_n 2, 1) := by decide +kernel
theorem dX0_take_227 : decode cX0_take 227 = .ok (.invokevirtual 113, 3) := by decide +kernel
theorem dX0_take_230 : decode cX0_take 230 = .ok (.ifCond .eq 7, 3) := by decide +kernel
theorem dX0_take_233 : decode cX0_take 233 = .ok (.lconst 1, 1) := by decide +kernel
theorem dX0_take_234 : decode cX0_take 234 = .ok (.goto 4, 3) := by decide +kernel
theorem dX0_take_237 : decode cX0_take 237 = .ok (.lconst 0, 1) := by decide +kernel
theorem dX0_take_238 : decode cX0_take 238 = .ok (.invokevirtual 103, 3) := by decide +kernel
theorem dX0_take_241 : decode cX0_take 241 = .ok (.goto 61, 3) := by decide +kernel
theorem dX0_take_244 : decode cX0_take 244 = .ok (.aload_n 0, 1) := by decide +kernel
theorem dX0_take_245 : decode cX0_take 245 = .ok (.aload_n 0, 1) := by decide +kernel
theorem dX0_take_246 : decode cX0_take 246 = .ok (.getfield 28, 3) := by decide +kernel
theorem dX0_take_249 : decode cX0_take 249 = .ok (.getfield 117, 3) := by decide +kernel
theorem dX0_take_252 : decode cX0_take 252 = .ok (.iload 4, 2) := by decide +kernel
theorem dX0_take_254 : decode cX0_take 254 = .ok (.baload, 1) := by decide +kernel
theorem dX0_take_255 : decode cX0_take 255 = .ok (.ifCond .eq 7, 3) := by decide +kernel
theorem dX0_take_258 : decode cX0_take 258 = .ok (.lconst 1, 1) := by decide +kernel
theorem dX0_take_259 : decode cX0_take 259 = .ok (.goto 4, 3) := by decide +kernel
theorem dX0_take_262 : decode cX0_take 262 = .ok (.lconst 0, 1) := by decide +kernel
theorem dX0_take_263 : decode cX0_take 263 = .ok (.invokevirtual 103, 3) := by decide +kernel
theorem dX0_take_266 : decode cX0_take 266 = .ok (.goto 36, 3) := by decide +kernel
theorem dX0_take_269 : decode cX0_take 269 = .ok (.aload_n 0, 1) := by decide +kernel
theorem dX0_take_270 : decode cX0_take 270 = .ok (.lconst 1, 1) := by decide +kernel
theorem dX0_take_271 : decode cX0_take 271 = .ok (.aload_n 0, 1) := by decide +kernel
theorem dX0_take_272 : decode cX0_take 272 = .ok (.invokevirtual 81, 3) := by decide +kernel
theorem dX0_take_275 : decode cX0_take 275 = .ok (.lsub, 1) := by decide +kernel
theorem dX0_take_276 : decode cX0_take 276 = .ok (.invokevirtual 103, 3) := by decide +kernel
theorem dX0_take_279 : decode cX0_take 279 = .ok (.goto 23, 3) := by decide +kernel
theorem dX0_take_282 : decode cX0_take 282 = .ok (.aload_n 0, 1) := by decide +kernel
theorem dX0_take_283 : decode cX0_take 283 = .ok (.invokevirtual 81, 3) := by decide +kernel
theorem dX0_take_286 : decode cX0_take 286 = .ok (.lstore 5, 2) := by decide +kernel
theorem dX0_take_288 : decode cX0_take 288 = .ok (.aload_n 0, 1) := by decide +kernel
theorem dX0_take_289 : decode cX0_take 289 = .ok (.iload_n 1, 1) := by decide +kernel
theorem dX0_take_290 : decode cX0_take 290 = .ok (.aload_n 0, 1) := by decide +kernel
theorem dX0_take_291 : decode cX0_take 291 = .ok (.invokevirtual 81, 3) := by decide +kernel
theorem dX0_take_294 : decode cX0_take 294 = .ok (.lload 5, 2) := by decide +kernel
theorem dX0_take_296 : decode cX0_take 296 = .ok (.invokestatic 121, 3) := by decide +kernel
theorem dX0_take_299 : decode cX0_take 299 = .ok (.invokevirtual 103, 3) := by decide +kernel
theorem dX0_take_302 : decode cX0_take 302 = .ok (.return_, 1) := by decide +kernel
noncomputable def B_X0_take_0 : pb_C := (i_iload 1 (i_tb 1 [(i_aload 0 (i_lload 2 (i_callV 25 1 0 M_X0_push i_vret))), (i_aload 0 (i_aload 0 (i_getR 25 5 (i_getR 5 16 (i_iload 4 (i_ald 16 200 (i_i2l (i_callV 25 1 0 M_X0_push i_vret)))))))), (i_aload 0 (i_aload 0 (i_getR 25 5 (i_getR 5 9 (i_iload 4 (i_ald 9 200 (i_i2l (i_callV 25 1 0 M_X0_push i_vret)))))))), (i_aload 0 (i_aload 0 (i_getR 25 5 (i_getR 5 9 (i_iload 4 (i_ald 9 200 (i_const (.int 52) (i_idivr (· / ·) (i_i2l (i_callV 25 1 0 M_X0_push i_vret)))))))))), (i_aload 0 (i_aload 0 (i_getR 25 5 (i_getR 5 10 (i_iload 4 (i_ald 10 200 (i_i2l (i_callV 25 1 0 M_X0_push i_vret)))))))), (i_aload 0 (i_aload 0 (i_getR 25 5 (i_iload 4 (i_lload 2 (i_callV 5 2 1 M_X1_hasWord (i_if_eq (i_const (.long 0) (i_callV 25 1 0 M_X0_push i_vret)) (i_const (.long 1) (i_callV 25 1 0 M_X0_push i_vret))))))))), (i_aload 0 (i_aload 0 (i_getR 25 5 (i_getR 5 12 (i_iload 4 (i_ald 12 200 (i_if_eq (i_const (.long 0) (i_callV 25 1 0 M_X0_push i_vret)) (i_const (.long 1) (i_callV 25 1 0 M_X0_push i_vret))))))))), (i_aload 0 (i_callV 25 0 2 M_X0_pop (i_lstore 5 (i_aload 0 (i_iload 1 (i_aload 0 (i_callV 25 0 2 M_X0_pop (i_lload 5 (i_callS 3 2 M_X0_joined (i_callV 25 1 0 M_X0_push i_vret)))))))))), (i_aload 0 (i_callV 25 0 2 M_X0_pop (i_lstore 5 (i_aload 0 (i_iload 1 (i_aload 0 (i_callV 25 0 2 M_X0_pop (i_lload 5 (i_callS 3 2 M_X0_joined (i_callV 25 1 0 M_X0_push i_vret)))))))))), (i_aload 0 (i_callV 25 0 2 M_X0_pop (i_lstore 5 (i_aload 0 (i_iload 1 (i_aload 0 (i_callV 25 0 2 M_X0_pop (i_lload 5 (i_callS 3 2 M_X0_joined (i_callV 25 1 0 M_X0_push i_vret)))))))))), (i_aload 0 (i_callV 25 0 2 M_X0_pop (i_lstore 5 (i_aload 0 (i_iload 1 (i_aload 0 (i_callV 25 0 2 M_X0_pop (i_lload 5 (i_callS 3 2 M_X0_joined (i_callV 25 1 0 M_X0_push i_vret)))))))))), (i_aload 0 (i_callV 25 0 2 M_X0_pop (i_lstore 5 (i_aload 0 (i_iload 1 (i_aload 0 (i_callV 25 0 2 M_X0_pop (i_lload 5 (i_callS 3 2 M_X0_joined (i_callV 25 1 0 M_X0_push i_vret)))))))))), (i_aload 0 (i_callV 25 0 2 M_X0_pop (i_lstore 5 (i_aload 0 (i_iload 1 (i_aload 0 (i_callV 25 0 2 M_X0_pop (i_lload 5 (i_callS 3 2 M_X0_joined (i_callV 25 1 0 M_X0_push i_vret)))))))))), (i_aload 0 (i_callV 25 0 2 M_X0_pop (i_lstore 5 (i_aload 0 (i_iload 1 (i_aload 0 (i_callV 25 0 2 M_X0_pop (i_lload 5 (i_callS 3 2 M_X0_joined (i_callV 25 1 0 M_X0_push i_vret)))))))))), (i_aload 0 (i_callV 25 0 2 M_X0_pop (i_lstore 5 (i_aload 0 (i_iload 1 (i_aload 0 (i_callV 25 0 2 M_X0_pop (i_lload 5 (i_callS 3 2 M_X0_joined (i_callV 25 1 0 M_X0_push i_vret)))))))))), (i_aload 0 (i_callV 25 0 2 M_X0_pop (i_lstore 5 (i_aload 0 (i_iload 1 (i_aload 0 (i_callV 25 0 2 M_X0_pop (i_lload 5 (i_callS 3 2 M_X0_joined (i_callV 25 1 0 M_X0_push i_vret)))))))))), (i_aload 0 (i_callV 25 0 2 M_X0_pop (i_lstore 5 (i_aload 0 (i_iload 1 (i_aload 0 (i_callV 25 0 2 M_X0_pop (i_lload 5 (i_callS 3 2 M_X0_joined (i_callV 25 1 0 M_X0_push i_vret)))))))))), (i_aload 0 (i_callV 25 0 2 M_X0_pop (i_lstore 5 (i_aload 0 (i_iload 1 (i_aload 0 (i_callV 25 0 2 M_X0_pop (i_lload 5 (i_callS 3 2 M_X0_joined (i_callV 25 1 0 M_X0_push i_vret)))))))))), (i_aload 0 (i_callV 25 0 2 M_X0_pop (i_lstore 5 (i_aload 0 (i_iload 1 (i_aload 0 (i_callV 25 0 2 M_X0_pop (i_lload 5 (i_callS 3 2 M_X0_joined (i_callV 25 1 0 M_X0_push i_vret)))))))))), (i_aload 0 (i_callV 25 0 2 M_X0_pop (i_lstore 5 (i_aload 0 (i_iload 1 (i_aload 0 (i_callV 25 0 2 M_X0_pop (i_lload 5 (i_callS 3 2 M_X0_joined (i_callV 25 1 0 M_X0_push i_vret)))))))))), (i_aload 0 (i_callV 25 0 2 M_X0_pop (i_lstore 5 (i_aload 0 (i_iload 1 (i_aload 0 (i_callV 25 0 2 M_X0_pop (i_lload 5 (i_callS 3 2 M_X0_joined (i_callV 25 1 0 M_X0_push i_vret)))))))))), (i_aload 0 (i_callV 25 0 2 M_X0_pop (i_lstore 5 (i_aload 0 (i_iload 1 (i_aload 0 (i_callV 25 0 2 M_X0_pop (i_lload 5 (i_callS 3 2 M_X0_joined (i_callV 25 1 0 M_X0_push i_vret)))))))))), (i_aload 0 (i_callV 25 0 2 M_X0_pop (i_lstore 5 (i_aload 0 (i_iload 1 (i_aload 0 (i_callV 25 0 2 M_X0_pop (i_lload 5 (i_callS 3 2 M_X0_joined (i_callV 25 1 0 M_X0_push i_vret)))))))))), (i_aload 0 (i_callV 25 0 2 M_X0_pop (i_lstore 5 (i_aload 0 (i_iload 1 (i_aload 0 (i_callV 25 0 2 M_X0_pop (i_lload 5 (i_callS 3 2 M_X0_joined (i_callV 25 1 0 M_X0_push i_vret)))))))))), (i_aload 0 (i_callV 25 0 2 M_X0_pop (i_lstore 5 (i_aload 0 (i_iload 1 (i_aload 0 (i_callV 25 0 2 M_X0_pop (i_lload 5 (i_callS 3 2 M_X0_joined (i_callV 25 1 0 M_X0_push i_vret)))))))))), (i_aload 0 (i_callV 25 0 2 M_X0_pop (i_lstore 5 (i_aload 0 (i_iload 1 (i_aload 0 (i_callV 25 0 2 M_X0_pop (i_lload 5 (i_callS 3 2 M_X0_joined (i_callV 25 1 0 M_X0_push i_vret)))))))))), (i_aload 0 (i_callV 25 0 2 M_X0_pop (i_lstore 5 (i_aload 0 (i_iload 1 (i_aload 0 (i_callV 25 0 2 M_X0_pop (i_lload 5 (i_callS 3 2 M_X0_joined (i_callV 25 1 0 M_X0_push i_vret)))))))))), (i_aload 0 (i_callV 25 0 2 M_X0_pop (i_lstore 5 (i_aload 0 (i_iload 1 (i_aload 0 (i_callV 25 0 2 M_X0_pop (i_lload 5 (i_callS 3 2 M_X0_joined (i_callV 25 1 0 M_X0_push i_vret)))))))))), (i_aload 0 (i_callV 25 0 2 M_X0_pop (i_lstore 5 (i_aload 0 (i_iload 1 (i_aload 0 (i_callV 25 0 2 M_X0_pop (i_lload 5 (i_callS 3 2 M_X0_joined (i_callV 25 1 0 M_X0_push i_vret)))))))))), (i_aload 0 (i_const (.long 1) (i_aload 0 (i_callV 25 0 2 M_X0_pop (i_lbin (· - ·) (i_callV 25 1 0 M_X0_push i_vret))))))] (i_aload 0 (i_callV 25 0 2 M_X0_pop (i_lstore 5 (i_aload 0 (i_iload 1 (i_aload 0 (i_callV 25 0 2 M_X0_pop (i_lload 5 (i_callS 3 2 M_X0_joined (i_callV 25 1 0 M_X0_push i_vret))))))))))))
noncomputable def T_X0_take : Nat → pb_C := pb_tt [(0, B_X0_take_0)]
noncomputable def M_X0_take : pb_F := pb_M T_X0_take 7
set_option maxRecDepth 100000 in
set_option maxHeartbeats 4000000 in
theorem S_X0_take (l : Launch) : pb_Sound l yX0_take cX0_take 7 none 2 M_X0_take := by
  refine pb_sound_of (by decide) m_4_218 ?_
  intro Γ hl0 hRm0 hm X E hr J
  have hnL : ∀ j, j < 7 → j < Γ.2.2.2.2.2.2.2.2.2.2.2.1 := fun j h => by rw [hm]; exact h
  have hR : ∀ (d' mL : Nat), d' + 1 ≤ 2 ∧ 8 + (mL + 11) + d' * 64 ≤ 2 * 64 → (pb_rm d').frames + 1 ≤ Γ.2.2.2.1.frames ∧ 8 + (mL + 11) + (pb_rm d').locals ≤ Γ.2.2.2.1.locals := by rw [hRm0]; exact fun _ _ h => h
  have hRm : 1 ≤ 2 ∧ 64 ≤ 2 * 64 → 1 ≤ Γ.2.2.2.1.frames ∧ 64 ≤ Γ.2.2.2.1.locals := by rw [hRm0]; exact fun h => h
  exact pb_tt_snd _ (List.forall_mem_cons.mpr ⟨(s_iload_n (pc := 0) X dX0_take_0 rfl (s_table (pc := 1) X dX0_take_1 30 1 (by decide) rfl (by decide) (by decide) 282 (by decide) (s_aload_n (pc := 282) X dX0_take_282 rfl (s_callV (pc := 283) X dX0_take_283 (S_X0_pop _) q_X0_81 h_25 rfl (hR _ _ (by decide)) (s_lstore (pc := 286) X dX0_take_286 (hnL _ (by decide)) (s_aload_n (pc := 288) X dX0_take_288 rfl (s_iload_n (pc := 289) X dX0_take_289 rfl (s_aload_n (pc := 290) X dX0_take_290 rfl (s_callV (pc := 291) X dX0_take_291 (S_X0_pop _) q_X0_81 h_25 rfl (hR _ _ (by decide)) (s_lload (pc := 294) X dX0_take_294 (s_callS (pc := 296) X dX0_take_296 (S_X0_joined _) q_X0_121 (hR _ _ (by decide)) (s_callV (pc := 299) X dX0_take_299 (S_X0_push _) q_X0_103 h_25 rfl (hR _ _ (by decide)) (s_vret (pc := 302) X E hr dX0_take_302))))))))))) [136, 144, 162, 180, 201, 219, 244, 282, 282, 282, 282, 282, 282, 282, 282, 282, 282, 282, 282, 282, 282, 282, 282, 282, 282, 282, 282, 282, 282, 269] (by decide) (pb_tc_of _ _ (⟨(s_aload_n (pc := 136) X dX0_take_136 rfl (s_lload_n (pc := 137) X dX0_take_137 rfl (s_callV (pc := 138) X dX0_take_138 (S_X0_push _) q_X0_103 h_25 rfl (hR _ _ (by decide)) (s_goto (pc := 141) X dX0_take_141 (by decide) (s_vret (pc := 302) X E hr dX0_take_302))))), ⟨(s_aload_n (pc := 144) X dX0_take_144 rfl (s_aload_n (pc := 145) X dX0_take_145 rfl (s_getR (pc := 146) X dX0_take_146 g_X0_28 (s_getR (pc := 149) X dX0_take_149 g_X0_51 (s_iload (pc := 152) X dX0_take_152 (s_iald (pc := 154) X dX0_take_154 h_16 (s_i2l (pc := 155) X dX0_take_155 (s_callV (pc := 156) X dX0_take_156 (S_X0_push _) q_X0_103 h_25 rfl (hR _ _ (by decide)) (s_goto (pc := 159) X dX0_take_159 (by decide) (s_vret (pc := 302) X E hr dX0_take_302)))))))))), ⟨(s_aload_n (pc := 162) X dX0_take_162 rfl (s_aload_n (pc := 163) X dX0_take_163 rfl (s_getR (pc := 164) X dX0_take_164 g_X0_28 (s_getR (pc := 167) X dX0_take_167 g_X0_107 (s_iload (pc := 170) X dX0_take_170 (s_iald (pc := 172) X dX0_take_172 h_9 (s_i2l (pc := 173) X dX0_take_173 (s_callV (pc := 174) X dX0_take_174 (S_X0_push _) q_X0_103 h_25 rfl (hR _ _ (by decide)) (s_goto (pc := 177) X dX0_take_177 (by decide) (s_vret (pc := 302) X E hr dX0_take_302)))))))))), ⟨(s_aload_n (pc := 180) X dX0_take_180 rfl (s_aload_n (pc := 181) X dX0_take_181 rfl (s_getR (pc := 182) X dX0_take_182 g_X0_28 (s_getR (pc := 185) X dX0_take_185 g_X0_107 (s_iload (pc := 188) X dX0_take_188 (s_iald (pc := 190) X dX0_take_190 h_9 (s_bipush (pc := 191) X dX0_take_191 rfl (s_idiv (pc := 193) X dX0_take_193 (s_i2l (pc := 194) X dX0_take_194 (s_callV (pc := 195) X dX0_take_195 (S_X0_push _) q_X0_103 h_25 rfl (hR _ _ (by decide)) (s_goto (pc := 198) X dX0_take_198 (by decide) (s_vret (pc := 302) X E hr dX0_take_302)))))))))))), ⟨(s_aload_n (pc := 201) X dX0_take_201 rfl (s_aload_n (pc := 202) X dX0_take_202 rfl (s_getR (pc := 203) X dX0_take_203 g_X0_28 (s_getR (pc := 206) X dX0_take_206 g_X0_110 (s_iload (pc := 209) X dX0_take_209 (s_iald (pc := 211) X dX0_take_211 h_10 (s_i2l (pc := 212) X dX0_take_212 (s_callV (pc := 213) X dX0_take_213 (S_X0_push _) q_X0_103 h_25 rfl (hR _ _ (by decide)) (s_goto (pc := 216) X dX0_take_216 (by decide) (s_vret (pc := 302) X E hr dX0_take_302)))))))))), ⟨(s_aload_n (pc := 219) X dX0_take_219 rfl (s_aload_n (pc := 220) X dX0_take_220 rfl (s_getR (pc := 221) X dX0_take_221 g_X0_28 (s_iload (pc := 224) X dX0_take_224 (s_lload_n (pc := 226) X dX0_take_226 rfl (s_callV (pc := 227) X dX0_take_227 (S_X1_hasWord _) q_X0_113 h_5 rfl (hR _ _ (by decide)) (s_if_eq (pc := 230) X dX0_take_230 (by decide) (s_lconst (pc := 237) X dX0_take_237 rfl (s_callV (pc := 238) X dX0_take_238 (S_X0_push _) q_X0_103 h_25 rfl (hR _ _ (by decide)) (s_goto (pc := 241) X dX0_take_241 (by decide) (s_vret (pc := 302) X E hr dX0_take_302)))) (s_lconst (pc := 233) X dX0_take_233 rfl (s_goto (pc := 234) X dX0_take_234 (by decide) (s_callV (pc := 238) X dX0_take_238 (S_X0_push _) q_X0_103 h_25 rfl (hR _ _ (by decide)) (s_goto (pc := 241) X dX0_take_241 (by decide) (s_vret (pc := 302) X E hr dX0_take_302)))))))))))), ⟨(s_aload_n (pc := 244) X dX0_take_244 rfl (s_aload_n (pc := 245) X dX0_take_245 rfl (s_getR (pc := 246) X dX0_take_246 g_X0_28 (s_getR (pc := 249) X dX0_take_249 g_X0_117 (s_iload (pc := 252) X dX0_take_252 (s_zald (pc := 254) X dX0_take_254 h_12 (s_if_eq (pc := 255) X dX0_take_255 (by decide) (s_lconst (pc := 262) X dX0_take_262 rfl (s_callV (pc := 263) X dX0_take_263 (S_X0_push _) q_X0_103 h_25 rfl (hR _ _ (by decide)) (s_goto (pc := 266) X dX0_take_266 (by decide) (s_vret (pc := 302) X E hr dX0_take_302)))) (s_lconst (pc := 258) X dX0_take_258 rfl (s_goto (pc := 259) X dX0_take_259 (by decide) (s_callV (pc := 263) X dX0_take_263 (S_X0_push _) q_X0_103 h_25 rfl (hR _ _ (by decide)) (s_goto (pc := 266) X dX0_take_266 (by decide) (s_vret (pc := 302) X E hr dX0_take_302)))))))))))), ⟨(s_aload_n (pc := 282) X dX0_take_282 rfl (s_callV (pc := 283) X dX0_take_283 (S_X0_pop _) q_X0_81 h_25 rfl (hR _ _ (by decide)) (s_lstore (pc := 286) X dX0_take_286 (hnL _ (by decide)) (s_aload_n (pc := 288) X dX0_take_288 rfl (s_iload_n (pc := 289) X dX0_take_289 rfl (s_aload_n (pc := 290) X dX0_take_290 rfl (s_callV (pc := 291) X dX0_take_291 (S_X0_pop _) q_X0_81 h_25 rfl (hR _ _ (by decide)) (s_lload (pc := 294) X dX0_take_294 (s_callS (pc := 296) X dX0_take_296 (S_X0_joined _) q_X0_121 (hR _ _ (by decide)) (s_callV (pc := 299) X dX0_take_299 (S_X0_push _) q_X0_103 h_25 rfl (hR _ _ (by decide)) (s_vret (pc := 302) X E hr dX0_take_302))))))))))), ⟨(s_aload_n (pc := 282) X dX0_take_282 rfl (s_callV (pc := 283) X dX0_take_283 (S_X0_pop _) q_X0_81 h_25 rfl (hR _ _ (by decide)) (s_lstore (pc := 286) X dX0_take_286 (hnL _ (by decide)) (s_aload_n (pc := 288) X dX0_take_288 rfl (s_iload_n (pc := 289) X dX0_take_289 rfl (s_aload_n (pc := 290) X dX0_take_290 rfl (s_callV (pc := 291) X dX0_take_291 (S_X0_pop _) q_X0_81 h_25 rfl (hR _ _ (by decide)) (s_lload (pc := 294) X dX0_take_294 (s_callS (pc := 296) X dX0_take_296 (S_X0_joined _) q_X0_121 (hR _ _ (by decide)) (s_callV (pc := 299) X dX0_take_299 (S_X0_push _) q_X0_103 h_25 rfl (hR _ _ (by decide)) (s_vret (pc := 302) X E hr dX0_take_302))))))))))), ⟨(s_aload_n (pc := 282) X dX0_take_282 rfl (s_callV (pc := 283) X dX0_take_283 (S_X0_pop _) q_X0_81 h_25 rfl (hR _ _ (by decide)) (s_lstore (pc := 286) X dX0_take_286 (hnL _ (by decide)) (s_aload_n (pc := 288) X dX0_take_288 rfl (s_iload_n (pc := 289) X dX0_take_289 rfl (s_aload_n (pc := 290) X dX0_take_290 rfl (s_callV (pc := 291) X dX0_take_291 (S_X0_pop _) q_X0_81 h_25 rfl (hR _ _ (by decide)) (s_lload (pc := 294) X dX0_take_294 (s_callS (pc := 296) X dX0_take_296 (S_X0_joined _) q_X0_121 (hR _ _ (by decide)) (s_callV (pc := 299) X dX0_take_299 (S_X0_push _) q_X0_103 h_25 rfl (hR _ _ (by decide)) (s_vret (pc := 302) X E hr dX0_take_302))))))))))), ⟨(s_aload_n (pc := 282) X dX0_take_282 rfl (s_callV (pc := 283) X dX0_take_283 (S_X0_pop _) q_X0_81 h_25 rfl (hR _ _ (by decide)) (s_lstore (pc := 286) X dX0_take_286 (hnL _ (by decide)) (s_aload_n (pc := 288) X dX0_take_288 rfl (s_iload_n (pc := 289) X dX0_take_289 rfl (s_aload_n (pc := 290) X dX0_take_290 rfl (s_callV (pc := 291) X dX0_take_291 (S_X0_pop _) q_X0_81 h_25 rfl (hR _ _ (by decide)) (s_lload (pc := 294) X dX0_take_294 (s_callS (pc := 296) X dX0_take_296 (S_X0_joined _) q_X0_121 (hR _ _ (by decide)) (s_callV (pc := 299) X dX0_take_299 (S_X0_push _) q_X0_103 h_25 rfl (hR _ _ (by decide)) (s_vret (pc := 302) X E hr dX0_take_302))))))))))), ⟨(s_aload_n (pc := 282) X dX0_take_282 rfl (s_callV (pc := 283) X dX0_take_283 (S_X0_pop _) q_X0_81 h_25 rfl (hR _ _ (by decide)) (s_lstore (pc := 286) X dX0_take_286 (hnL _ (by decide)) (s_aload_n (pc := 288) X dX0_take_288 rfl (s_iload_n (pc := 289) X dX0_take_289 rfl (s_aload_n (pc := 290) X dX0_take_290 rfl (s_callV (pc := 291) X dX0_take_291 (S_X0_pop _) q_X0_81 h_25 rfl (hR _ _ (by decide)) (s_lload (pc := 294) X dX0_take_294 (s_callS (pc := 296) X dX0_take_296 (S_X0_joined _) q_X0_121 (hR _ _ (by decide)) (s_callV (pc := 299) X dX0_take_299 (S_X0_push _) q_X0_103 h_25 rfl (hR _ _ (by decide)) (s_vret (pc := 302) X E hr dX0_take_302))))))))))), ⟨(s_aload_n (pc := 282) X dX0_take_282 rfl (s_callV (pc := 283) X dX0_take_283 (S_X0_pop _) q_X0_81 h_25 rfl (hR _ _ (by decide)) (s_lstore (pc := 286) X dX0_take_286 (hnL _ (by decide)) (s_aload_n (pc := 288) X dX0_take_288 rfl (s_iload_n (pc := 289) X dX0_take_289 rfl (s_aload_n (pc := 290) X dX0_take_290 rfl (s_callV (pc := 291) X dX0_take_291 (S_X0_pop _) q_X0_81 h_25 rfl (hR _ _ (by decide)) (s_lload (pc := 294) X dX0_take_294 (s_callS (pc := 296) X dX0_take_296 (S_X0_joined _) q_X0_121 (hR _ _ (by decide)) (s_callV (pc := 299) X dX0_take_299 (S_X0_push _) q_X0_103 h_25 rfl (hR _ _ (by decide)) (s_vret (pc := 302) X E hr dX0_take_302))))))))))), ⟨(s_aload_n (pc := 282) X dX0_take_282 rfl (s_callV (pc := 283) X dX0_take_283 (S_X0_pop _) q_X0_81 h_25 rfl (hR _ _ (by decide)) (s_lstore (pc := 286) X dX0_take_286 (hnL _ (by decide)) (s_aload_n (pc := 288) X dX0_take_288 rfl (s_iload_n (pc := 289) X dX0_take_289 rfl (s_aload_n (pc := 290) X dX0_take_290 rfl (s_callV (pc := 291) X dX0_take_291 (S_X0_pop _) q_X0_81 h_25 rfl (hR _ _ (by decide)) (s_lload (pc := 294) X dX0_take_294 (s_callS (pc := 296) X dX0_take_296 (S_X0_joined _) q_X0_121 (hR _ _ (by decide)) (s_callV (pc := 299) X dX0_take_299 (S_X0_push _) q_X0_103 h_25 rfl (hR _ _ (by decide)) (s_vret (pc := 302) X E hr dX0_take_302))))))))))), ⟨(s_aload_n (pc := 282) X dX0_take_282 rfl (s_callV (pc := 283) X dX0_take_283 (S_X0_pop _) q_X0_81 h_25 rfl (hR _ _ (by decide)) (s_lstore (pc := 286) X dX0_take_286 (hnL _ (by decide)) (s_aload_n (pc := 288) X dX0_take_288 rfl (s_iload_n (pc := 289) X dX0_take_289 rfl (s_aload_n (pc := 290) X dX0_take_290 rfl (s_callV (pc := 291) X dX0_take_291 (S_X0_pop _) q_X0_81 h_25 rfl (hR _ _ (by decide)) (s_lload (pc := 294) X dX0_take_294 (s_callS (pc := 296) X dX0_take_296 (S_X0_joined _) q_X0_121 (hR _ _ (by decide)) (s_callV (pc := 299) X dX0_take_299 (S_X0_push _) q_X0_103 h_25 rfl (hR _ _ (by decide)) (s_vret (pc := 302) X E hr dX0_take_302))))))))))), ⟨(s_aload_n (pc := 282) X dX0_take_282 rfl (s_callV (pc := 283) X dX0_take_283 (S_X0_pop _) q_X0_81 h_25 rfl (hR _ _ (by decide)) (s_lstore (pc := 286) X dX0_take_286 (hnL _ (by decide)) (s_aload_n (pc := 288) X dX0_take_288 rfl (s_iload_n (pc := 289) X dX0_take_289 rfl (s_aload_n (pc := 290) X dX0_take_290 rfl (s_callV (pc := 291) X dX0_take_291 (S_X0_pop _) q_X0_81 h_25 rfl (hR _ _ (by decide)) (s_lload (pc := 294) X dX0_take_294 (s_callS (pc := 296) X dX0_take_296 (S_X0_joined _) q_X0_121 (hR _ _ (by decide)) (s_callV (pc := 299) X dX0_take_299 (S_X0_push _) q_X0_103 h_25 rfl (hR _ _ (by decide)) (s_vret (pc := 302) X E hr dX0_take_302))))))))))), ⟨(s_aload_n (pc := 282) X dX0_take_282 rfl (s_callV (pc := 283) X dX0_take_283 (S_X0_pop _) q_X0_81 h_25 rfl (hR _ _ (by decide)) (s_lstore (pc := 286) X dX0_take_286 (hnL _ (by decide)) (s_aload_n (pc := 288) X dX0_take_288 rfl (s_iload_n (pc := 289) X dX0_take_289 rfl (s_aload_n (pc := 290) X dX0_take_290 rfl (s_callV (pc := 291) X dX0_take_291 (S_X0_pop _) q_X0_81 h_25 rfl (hR _ _ (by decide)) (s_lload (pc := 294) X dX0_take_294 (s_callS (pc := 296) X dX0_take_296 (S_X0_joined _) q_X0_121 (hR _ _ (by decide)) (s_callV (pc := 299) X dX0_take_299 (S_X0_push _) q_X0_103 h_25 rfl (hR _ _ (by decide)) (s_vret (pc := 302) X E hr dX0_take_302))))))))))), ⟨(s_aload_n (pc := 282) X dX0_take_282 rfl (s_callV (pc := 283) X dX0_take_283 (S_X0_pop _) q_X0_81 h_25 rfl (hR _ _ (by decide)) (s_lstore (pc := 286) X dX0_take_286 (hnL _ (by decide)) (s_aload_n (pc := 288) X dX0_take_288 rfl (s_iload_n (pc := 289) X dX0_take_289 rfl (s_aload_n (pc := 290) X dX0_take_290 rfl (s_callV (pc := 291) X dX0_take_291 (S_X0_pop _) q_X0_81 h_25 rfl (hR _ _ (by decide)) (s_lload (pc := 294) X dX0_take_294 (s_callS (pc := 296) X dX0_take_296 (S_X0_joined _) q_X0_121 (hR _ _ (by decide)) (s_callV (pc := 299) X dX0_take_299 (S_X0_push _) q_X0_103 h_25 rfl (hR _ _ (by decide)) (s_vret (pc := 302) X E hr dX0_take_302))))))))))), ⟨(s_aload_n (pc := 282) X dX0_take_282 rfl (s_callV (pc := 283) X dX0_take_283 (S_X0_pop _) q_X0_81 h_25 rfl (hR _ _ (by decide)) (s_lstore (pc := 286) X dX0_take_286 (hnL _ (by decide)) (s_aload_n (pc := 288) X dX0_take_288 rfl (s_iload_n (pc := 289) X dX0_take_289 rfl (s_aload_n (pc := 290) X dX0_take_290 rfl (s_callV (pc := 291) X dX0_take_291 (S_X0_pop _) q_X0_81 h_25 rfl (hR _ _ (by decide)) (s_lload (pc := 294) X dX0_take_294 (s_callS (pc := 296) X dX0_take_296 (S_X0_joined _) q_X0_121 (hR _ _ (by decide)) (s_callV (pc := 299) X dX0_take_299 (S_X0_push _) q_X0_103 h_25 rfl (hR _ _ (by decide)) (s_vret (pc := 302) X E hr dX0_take_302))))))))))), ⟨(s_aload_n (pc := 282) X dX0_take_282 rfl (s_callV (pc := 283) X dX0_take_283 (S_X0_pop _) q_X0_81 h_25 rfl (hR _ _ (by decide)) (s_lstore (pc := 286) X dX0_take_286 (hnL _ (by decide)) (s_aload_n (pc := 288) X dX0_take_288 rfl (s_iload_n (pc := 289) X dX0_take_289 rfl (s_aload_n (pc := 290) X dX0_take_290 rfl (s_callV (pc := 291) X dX0_take_291 (S_X0_pop _) q_X0_81 h_25 rfl (hR _ _ (by decide)) (s_lload (pc := 294) X dX0_take_294 (s_callS (pc := 296) X dX0_take_296 (S_X0_joined _) q_X0_121 (hR _ _ (by decide)) (s_callV (pc := 299) X dX0_take_299 (S_X0_push _) q_X0_103 h_25 rfl (hR _ _ (by decide)) (s_vret (pc := 302) X E hr dX0_take_302))))))))))), ⟨(s_aload_n (pc := 282) X dX0_take_282 rfl (s_callV (pc := 283) X dX0_take_283 (S_X0_pop _) q_X0_81 h_25 rfl (hR _ _ (by decide)) (s_lstore (pc := 286) X dX0_take_286 (hnL _ (by decide)) (s_aload_n (pc := 288) X dX0_take_288 rfl (s_iload_n (pc := 289) X dX0_take_289 rfl (s_aload_n (pc := 290) X dX0_take_290 rfl (s_callV (pc := 291) X dX0_take_291 (S_X0_pop _) q_X0_81 h_25 rfl (hR _ _ (by decide)) (s_lload (pc := 294) X dX0_take_294 (s_callS (pc := 296) X dX0_take_296 (S_X0_joined _) q_X0_121 (hR _ _ (by decide)) (s_callV (pc := 299) X dX0_take_299 (S_X0_push _) q_X0_103 h_25 rfl (hR _ _ (by decide)) (s_vret (pc := 302) X E hr dX0_take_302))))))))))), ⟨(s_aload_n (pc := 282) X dX0_take_282 rfl (s_callV (pc := 283) X dX0_take_283 (S_X0_pop _) q_X0_81 h_25 rfl (hR _ _ (by decide)) (s_lstore (pc := 286) X dX0_take_286 (hnL _ (by decide)) (s_aload_n (pc := 288) X dX0_take_288 rfl (s_iload_n (pc := 289) X dX0_take_289 rfl (s_aload_n (pc := 290) X dX0_take_290 rfl (s_callV (pc := 291) X dX0_take_291 (S_X0_pop _) q_X0_81 h_25 rfl (hR _ _ (by decide)) (s_lload (pc := 294) X dX0_take_294 (s_callS (pc := 296) X dX0_take_296 (S_X0_joined _) q_X0_121 (hR _ _ (by decide)) (s_callV (pc := 299) X dX0_take_299 (S_X0_push _) q_X0_103 h_25 rfl (hR _ _ (by decide)) (s_vret (pc := 302) X E hr dX0_take_302))))))))))), ⟨(s_aload_n (pc := 282) X dX0_take_282 rfl (s_callV (pc := 283) X dX0_take_283 (S_X0_pop _) q_X0_81 h_25 rfl (hR _ _ (by decide)) (s_lstore (pc := 286) X dX0_take_286 (hnL _ (by decide)) (s_aload_n (pc := 288) X dX0_take_288 rfl (s_iload_n (pc := 289) X dX0_take_289 rfl (s_aload_n (pc := 290) X dX0_take_290 rfl (s_callV (pc := 291) X dX0_take_291 (S_X0_pop _) q_X0_81 h_25 rfl (hR _ _ (by decide)) (s_lload (pc := 294) X dX0_take_294 (s_callS (pc := 296) X dX0_take_296 (S_X0_joined _) q_X0_121 (hR _ _ (by decide)) (s_callV (pc := 299) X dX0_take_299 (S_X0_push _) q_X0_103 h_25 rfl (hR _ _ (by decide)) (s_vret (pc := 302) X E hr dX0_take_302))))))))))), ⟨(s_aload_n (pc := 282) X dX0_take_282 rfl (s_callV (pc := 283) X dX0_take_283 (S_X0_pop _) q_X0_81 h_25 rfl (hR _ _ (by decide)) (s_lstore (pc := 286) X dX0_take_286 (hnL _ (by decide)) (s_aload_n (pc := 288) X dX0_take_288 rfl (s_iload_n (pc := 289) X dX0_take_289 rfl (s_aload_n (pc := 290) X dX0_take_290 rfl (s_callV (pc := 291) X dX0_take_291 (S_X0_pop _) q_X0_81 h_25 rfl (hR _ _ (by decide)) (s_lload (pc := 294) X dX0_take_294 (s_callS (pc := 296) X dX0_take_296 (S_X0_joined _) q_X0_121 (hR _ _ (by decide)) (s_callV (pc := 299) X dX0_take_299 (S_X0_push _) q_X0_103 h_25 rfl (hR _ _ (by decide)) (s_vret (pc := 302) X E hr dX0_take_302))))))))))), ⟨(s_aload_n (pc := 282) X dX0_take_282 rfl (s_callV (pc := 283) X dX0_take_283 (S_X0_pop _) q_X0_81 h_25 rfl (hR _ _ (by decide)) (s_lstore (pc := 286) X dX0_take_286 (hnL _ (by decide)) (s_aload_n (pc := 288) X dX0_take_288 rfl (s_iload_n (pc := 289) X dX0_take_289 rfl (s_aload_n (pc := 290) X dX0_take_290 rfl (s_callV (pc := 291) X dX0_take_291 (S_X0_pop _) q_X0_81 h_25 rfl (hR _ _ (by decide)) (s_lload (pc := 294) X dX0_take_294 (s_callS (pc := 296) X dX0_take_296 (S_X0_joined _) q_X0_121 (hR _ _ (by decide)) (s_callV (pc := 299) X dX0_take_299 (S_X0_push _) q_X0_103 h_25 rfl (hR _ _ (by decide)) (s_vret (pc := 302) X E hr dX0_take_302))))))))))), ⟨(s_aload_n (pc := 282) X dX0_take_282 rfl (s_callV (pc := 283) X dX0_take_283 (S_X0_pop _) q_X0_81 h_25 rfl (hR _ _ (by decide)) (s_lstore (pc := 286) X dX0_take_286 (hnL _ (by decide)) (s_aload_n (pc := 288) X dX0_take_288 rfl (s_iload_n (pc := 289) X dX0_take_289 rfl (s_aload_n (pc := 290) X dX0_take_290 rfl (s_callV (pc := 291) X dX0_take_291 (S_X0_pop _) q_X0_81 h_25 rfl (hR _ _ (by decide)) (s_lload (pc := 294) X dX0_take_294 (s_callS (pc := 296) X dX0_take_296 (S_X0_joined _) q_X0_121 (hR _ _ (by decide)) (s_callV (pc := 299) X dX0_take_299 (S_X0_push _) q_X0_103 h_25 rfl (hR _ _ (by decide)) (s_vret (pc := 302) X E hr dX0_take_302))))))))))), ⟨(s_aload_n (pc := 282) X dX0_take_282 rfl (s_callV (pc := 283) X dX0_take_283 (S_X0_pop _) q_X0_81 h_25 rfl (hR _ _ (by decide)) (s_lstore (pc := 286) X dX0_take_286 (hnL _ (by decide)) (s_aload_n (pc := 288) X dX0_take_288 rfl (s_iload_n (pc := 289) X dX0_take_289 rfl (s_aload_n (pc := 290) X dX0_take_290 rfl (s_callV (pc := 291) X dX0_take_291 (S_X0_pop _) q_X0_81 h_25 rfl (hR _ _ (by decide)) (s_lload (pc := 294) X dX0_take_294 (s_callS (pc := 296) X dX0_take_296 (S_X0_joined _) q_X0_121 (hR _ _ (by decide)) (s_callV (pc := 299) X dX0_take_299 (S_X0_push _) q_X0_103 h_25 rfl (hR _ _ (by decide)) (s_vret (pc := 302) X E hr dX0_take_302))))))))))), ⟨(s_aload_n (pc := 282) X dX0_take_282 rfl (s_callV (pc := 283) X dX0_take_283 (S_X0_pop _) q_X0_81 h_25 rfl (hR _ _ (by decide)) (s_lstore (pc := 286) X dX0_take_286 (hnL _ (by decide)) (s_aload_n (pc := 288) X dX0_take_288 rfl (s_iload_n (pc := 289) X dX0_take_289 rfl (s_aload_n (pc := 290) X dX0_take_290 rfl (s_callV (pc := 291) X dX0_take_291 (S_X0_pop _) q_X0_81 h_25 rfl (hR _ _ (by decide)) (s_lload (pc := 294) X dX0_take_294 (s_callS (pc := 296) X dX0_take_296 (S_X0_joined _) q_X0_121 (hR _ _ (by decide)) (s_callV (pc := 299) X dX0_take_299 (S_X0_push _) q_X0_103 h_25 rfl (hR _ _ (by decide)) (s_vret (pc := 302) X E hr dX0_take_302))))))))))), ⟨(s_aload_n (pc := 282) X dX0_take_282 rfl (s_callV (pc := 283) X dX0_take_283 (S_X0_pop _) q_X0_81 h_25 rfl (hR _ _ (by decide)) (s_lstore (pc := 286) X dX0_take_286 (hnL _ (by decide)) (s_aload_n (pc := 288) X dX0_take_288 rfl (s_iload_n (pc := 289) X dX0_take_289 rfl (s_aload_n (pc := 290) X dX0_take_290 rfl (s_callV (pc := 291) X dX0_take_291 (S_X0_pop _) q_X0_81 h_25 rfl (hR _ _ (by decide)) (s_lload (pc := 294) X dX0_take_294 (s_callS (pc := 296) X dX0_take_296 (S_X0_joined _) q_X0_121 (hR _ _ (by decide)) (s_callV (pc := 299) X dX0_take_299 (S_X0_push _) q_X0_103 h_25 rfl (hR _ _ (by decide)) (s_vret (pc := 302) X E hr dX0_take_302))))))))))), ⟨(s_aload_n (pc := 269) X dX0_take_269 rfl (s_lconst (pc := 270) X dX0_take_270 rfl (s_aload_n (pc := 271) X dX0_take_271 rfl (s_callV (pc := 272) X dX0_take_272 (S_X0_pop _) q_X0_81 h_25 rfl (hR _ _ (by decide)) (s_lsub (pc := 275) X dX0_take_275 (s_callV (pc := 276) X dX0_take_276 (S_X0_push _) q_X0_103 h_25 rfl (hR _ _ (by decide)) (s_goto (pc := 279) X dX0_take_279 (by decide) (s_vret (pc := 302) X E hr dX0_take_302)))))))), trivial⟩⟩⟩⟩⟩⟩⟩⟩⟩⟩⟩⟩⟩⟩⟩⟩⟩⟩⟩⟩⟩⟩⟩⟩⟩⟩⟩⟩⟩⟩)))), fun _ h => absurd h List.not_mem_nil⟩)
theorem dX0_judgeAnew_0 : decode cX0_judgeAnew 0 = .ok (.iload_n 2, 1) := by decide +kernel
theorem dX0_judgeAnew_1 : decode cX0_judgeAnew 1 = .ok (.sipush 600, 3) := by decide +kernel
theorem dX0_judgeAnew_4 : decode cX0_judgeAnew 4 = .ok (.imul, 1) := by decide +kernel
theorem dX0_judgeAnew_5 : decode cX0_judgeAnew 5 = .ok (.istore_n 3, 1) := by decide +kernel
theorem dX0_judgeAnew_6 : decode cX0_judgeAnew 6 = .ok (.iload_n 3, 1) := by decide +kernel
theorem dX0_judgeAnew_7 : decode cX0_judgeAnew 7 = .ok (.aload_n 0, 1) := by decide +kernel
theorem dX0_judgeAnew_8 : decode cX0_judgeAnew 8 = .ok (.getfield 15, 3) := by decide +kernel
theorem dX0_judgeAnew_11 : decode cX0_judgeAnew 11 = .ok (.iload_n 2, 1) := by decide +kernel
theorem dX0_judgeAnew_12 : decode cX0_judgeAnew 12 = .ok (.iaload, 1) := by decide +kernel
theorem dX0_judgeAnew_13 : decode cX0_judgeAnew 13 = .ok (.iadd, 1) := by decide +kernel
theorem dX0_judgeAnew_14 : decode cX0_judgeAnew 14 = .ok (.istore 4, 2) := by decide +kernel
theorem dX0_judgeAnew_16 : decode cX0_judgeAnew 16 = .ok (.iconst 0, 1) := by decide +kernel
theorem dX0_judgeAnew_17 : decode cX0_judgeAnew 17 = .ok (.istore 5, 2) := by decide +kernel
theorem dX0_judgeAnew_19 : decode cX0_judgeAnew 19 = .ok (.lconst 0, 1) := by decide +kernel
theorem dX0_judgeAnew_20 : decode cX0_judgeAnew 20 = .ok (.lstore 6, 2) := by decide +kernel
theorem dX0_judgeAnew_22 : decode cX0_judgeAnew 22 = .ok (.lconst 1, 1) := by decide +kernel
theorem dX0_judgeAnew_23 : decode cX0_judgeAnew 23 = .ok (.lstore 8, 2) := by decide +kernel
theorem dX0_judgeAnew_25 : decode cX0_judgeAnew 25 = .ok (.aload_n 0, 1) := by decide +kernel
theorem dX0_judgeAnew_26 : decode cX0_judgeAnew 26 = .ok (.iconst 0, 1) := by decide +kernel
theorem dX0_judgeAnew_27 : decode cX0_judgeAnew 27 = .ok (.putfield 76, 3) := by decide +kernel
theorem dX0_judgeAnew_30 : decode cX0_judgeAnew 30 = .ok (.iload_n 3, 1) := by decide +kernel
theorem dX0_judgeAnew_31 : decode cX0_judgeAnew 31 = .ok (.istore 10, 2) := by decide +kernel
theorem dX0_judgeAnew_33 : decode cX0_judgeAnew 33 = .ok (.iload 10, 2) := by decide +kernel
theorem dX0_judgeAnew_35 : decode cX0_judgeAnew 35 = .ok (.iload 4, 2) := by decide +kernel
theorem dX0_judgeAnew_37 : decode cX0_judgeAnew 37 = .ok (.if_icmp .ge 127, 3) := by decide +kernel
theorem dX0_judgeAnew_40 : decode cX0_judgeAnew 40 = .ok (.aload_n 0, 1) := by decide +kernel
theorem dX0_judgeAnew_41 : decode cX0_judgeAnew 41 = .ok (.getfield 9, 3) := by decide +kernel
theorem dX0_judgeAnew_44 : decode cX0_judgeAnew 44 = .ok (.iload 10, 2) := by decide +kernel
theorem dX0_judgeAnew_46 : decode cX0_judgeAnew 46 = .ok (.laload, 1) := by decide +kernel
theorem dX0_judgeAnew_47 : decode cX0_judgeAnew 47 = .ok (.ldc2_w 79, 3) := by decide +kernel
theorem dX0_judgeAnew_50 : decode cX0_judgeAnew 50 = .ok (.land, 1) := by decide +kernel
theorem dX0_judgeAnew_51 : decode cX0_judgeAnew 51 = .ok (.l2i, 1) := by decide +kernel
theorem dX0_judgeAnew_52 : decode cX0_judgeAnew 52 = .ok (.istore 11, 2) := by decide +kernel
theorem dX0_judgeAnew_54 : decode cX0_judgeAnew 54 = .ok (.aload_n 0, 1) := by decide +kernel
theorem dX0_judgeAnew_55 : decode cX0_judgeAnew 55 = .ok (.getfield 9, 3) := by decide +kernel
theorem dX0_judgeAnew_58 : decode cX0_judgeAnew 58 = .ok (.iload 10, 2) := by decide +kernel
theorem dX0_judgeAnew_60 : decode cX0_judgeAnew 60 = .ok (.laload, 1) := by decide +kernel
theorem dX0_judgeAnew_61 : decode cX0_judgeAnew 61 = .ok (.bipush 8, 2) := by decide +kernel
theorem dX0_judgeAnew_63 : decode cX0_judgeAnew 63 = .ok (.lshr, 1) := by decide +kernel
theorem dX0_judgeAnew_64 : decode cX0_judgeAnew 64 = .ok (.lstore 12, 2) := by decide +kernel
theorem dX0_judgeAnew_66 : decode cX0_judgeAnew 66 = .ok (.iload 11, 2) := by decide +kernel
theorem dX0_judgeAnew_68 : decode cX0_judgeAnew 68 = .ok (.bipush 70, 2) := by decide +kernel
theorem dX0_judgeAnew_70 : decode cX0_judgeAnew 70 = .ok (.if_icmp .ne 30, 3) := by decide +kernel
theorem dX0_judgeAnew_73 : decode cX0_judgeAnew 73 = .ok (.aload_n 0, 1) := by decide +kernel
theorem dX0_judgeAnew_74 : decode cX0_judgeAnew 74 = .ok (.invokevirtual 81, 3) := by decide +kernel
theorem dX0_judgeAnew_77 : decode cX0_judgeAnew 77 = .ok (.lconst 0, 1) := by decide +kernel
theorem dX0_judgeAnew_78 : decode cX0_judgeAnew 78 = .ok (.lcmp, 1) := by decide +kernel
theorem dX0_judgeAnew_79 : decode cX0_judgeAnew 79 = .ok (.ifCond .ne 79, 3) := by decide +kernel
theorem dX0_judgeAnew_82 : decode cX0_judgeAnew 82 = .ok (.iload 10, 2) := by decide +kernel
theorem dX0_judgeAnew_84 : decode cX0_judgeAnew 84 = .ok (.iload_n 3, 1) := by decide +kernel
theorem dX0_judgeAnew_85 : decode cX0_judgeAnew 85 = .ok (.lload 12, 2) := by decide +kernel
theorem dX0_judgeAnew_87 : decode cX0_judgeAnew 87 = .ok (.l2i, 1) := by decide +kernel
theorem dX0_judgeAnew_88 : decode cX0_judgeAnew 88 = .ok (.iadd, 1) := by decide +kernel
theorem dX0_judgeAnew_89 : decode cX0_judgeAnew 89 = .ok (.invokestatic 58, 3) := by decide +kernel
theorem dX0_judgeAnew_92 : decode cX0_judgeAnew 92 = .ok (.istore 10, 2) := by decide +kernel
theorem dX0_judgeAnew_94 : decode cX0_judgeAnew 94 = .ok (.iinc 5 1, 3) := by decide +kernel
theorem dX0_judgeAnew_97 : decode cX0_judgeAnew 97 = .ok (.goto 61, 3) := by decide +kernel
theorem dX0_judgeAnew_100 : decode cX0_judgeAnew 100 = .ok (.iload 11, 2) := by decide +kernel
theorem dX0_judgeAnew_102 : decode cX0_judgeAnew 102 = .ok (.bipush 71, 2) := by decide +kernel
theorem dX0_judgeAnew_104 : decode cX0_judgeAnew 104 = .ok (.if_icmp .ne 12, 3) := by decide +kernel
theorem dX0_judgeAnew_107 : decode cX0_judgeAnew 107 = .ok (.aload_n 0, 1) := by decide +kernel
theorem dX0_judgeAnew_108 : decode cX0_judgeAnew 108 = .ok (.invokevirtual 81, 3) := by decide +kernel
theorem dX0_judgeAnew_111 : decode cX0_judgeAnew 111 = .ok (.lstore 6, 2) := by decide +kernel
theorem dX0_judgeAnew_113 : decode cX0_judgeAnew 113 = .ok (.goto 45, 3) := by decide +kernel
theorem dX0_judgeAnew_116 : decode cX0_judgeAnew 116 = .ok (.iload 11, 2) := by decide +kernel
theorem dX0_judgeAnew_118 : decode cX0_judgeAnew 118 = .ok (.bipush 72, 2) := by decide +kernel
theorem dX0_judgeAnew_120 : decode cX0_judgeAnew 120 = .ok (.if_icmp .ne 12, 3) := by decide +kernel
theorem dX0_judgeAnew_123 : decode cX0_judgeAnew 123 = .ok (.aload_n 0, 1) := by decide +kernel
theorem dX0_judgeAnew_124 : decode cX0_judgeAnew 124 = .ok (.invokevirtual 81, 3) := by decide +kernel
theorem dX0_judgeAnew_127 : decode cX0_judgeAnew 127 = .ok (.lstore 8, 2) := by decide +kernel
theorem dX0_judgeAnew_129 : decode cX0_judgeAnew 129 = .ok (.goto 29, 3) := by decide +kernel
theorem dX0_judgeAnew_132 : decode cX0_judgeAnew 132 = .ok (.iload 11, 2) := by decide +kernel
theorem dX0_judgeAnew_134 : decode cX0_judgeAnew 134 = .ok (.bipush 73, 2) := by decide +kernel
theorem dX0_judgeAnew_136 : decode cX0_judgeAnew 136 = .ok (.if_icmp .ne 13, 3) := by decide +kernel
theorem dX0_judgeAnew_139 : decode cX0_judgeAnew 139 = .ok (.iload 5, 2) := by decide +kernel
theorem dX0_judgeAnew_141 : decode cX0_judgeAnew 141 = .ok (.lload 6, 2) := by decide +kernel
theorem dX0_judgeAnew_143 : decode cX0_judgeAnew 143 = .ok (.lload 8, 2) := by decide +kernel
theorem dX0_judgeAnew_145 : decode cX0_judgeAnew 145 = .ok (.invokestatic 85, 3) := by decide +kernel
theorem dX0_judgeAnew_148 : decode cX0_judgeAnew 148 = .ok (.ireturn, 1) := by decide +kernel
theorem dX0_judgeAnew_149 : decode cX0_judgeAnew 149 = .ok (.aload_n 0, 1) := by decide +kernel
theorem dX0_judgeAnew_150 : decode cX0_judgeAnew 150 = .ok (.iload 11, 2) := by decide +kernel
theorem dX0_judgeAnew_152 : decode cX0_judgeAnew 152 = .ok (.lload 12, 2) := by decide +kernel
theorem dX0_judgeAnew_154 : decode cX0_judgeAnew 154 = .ok (.iload_n 1, 1) := by decide +kernel
theorem dX0_judgeAnew_155 : decode cX0_judgeAnew 155 = .ok (.invokevirtual 89, 3) := by decide +kernel
theorem dX0_judgeAnew_158 : decode cX0_judgeAnew 158 = .ok (.iinc 10 1, 3) := by decide +kernel
theorem dX0_judgeAnew_161 : decode cX0_judgeAnew 161 = .ok (.goto (-128), 3) := by decide +kernel
theorem dX0_judgeAnew_164 : decode cX0_judgeAnew 164 = .ok (.iconst (-1), 1) := by decide +kernel
theorem dX0_judgeAnew_165 : decode cX0_judgeAnew 165 = .ok (.lconst 0, 1) := by decide +kernel
theorem dX0_judgeAnew_166 : decode cX0_judgeAnew 166 = .ok (.lconst 1, 1) := by decide +kernel
theorem dX0_judgeAnew_167 : decode cX0_judgeAnew 167 = .ok (.invokestatic 85, 3) := by decide +kernel
theorem dX0_judgeAnew_170 : decode cX0_judgeAnew 170 = .ok (.ireturn, 1) := by decide +kernel
noncomputable def B_X0_judgeAnew_0 : pb_C := (i_iload 2 (i_const (.int 600) (i_ibin (· * ·) (i_istore 3 (i_iload 3 (i_aload 0 (i_getR 25 27 (i_iload 2 (i_ald 27 5 (i_ibin (· + ·) (i_istore 4 (i_const (.int 0) (i_istore 5 (i_const (.long 0) (i_lstore 6 (i_const (.long 1) (i_lstore 8 (i_aload 0 (i_const (.int 0) (i_putI 25 7 (i_iload 3 (i_istore 10 (i_jmp 33 [true, true, false, true, true, true, true, false, true, false, true, false, false, false])))))))))))))))))))))))
noncomputable def B_X0_judgeAnew_33 : pb_C := (i_iload 10 (i_iload 4 (i_ic_ge (i_const (.int (-1)) (i_const (.long 0) (i_const (.long 1) (i_callS 3 1 M_X0_packed i_iret)))) (i_aload 0 (i_getR 25 26 (i_iload 10 (i_lald 26 3000 (i_const (.long (255)) (i_lbin (· &&& ·) (i_l2i (i_istore 11 (i_aload 0 (i_getR 25 26 (i_iload 10 (i_lald 26 3000 (i_const (.int 8) (i_lsh (fun x y => x >>> (y.toInt64 &&& 63)) (i_lstore 12 (i_iload 11 (i_const (.int 70) (i_ic_ne (i_iload 11 (i_const (.int 71) (i_ic_ne (i_iload 11 (i_const (.int 72) (i_ic_ne (i_iload 11 (i_const (.int 73) (i_ic_ne (i_aload 0 (i_iload 11 (i_lload 12 (i_iload 1 (i_callV 25 3 0 M_X0_take (i_iinc 10 1 (i_jmp 33 [true, true, false, true, true, true, true, false, true, false, true, false, false, false]))))))) (i_iload 5 (i_lload 6 (i_lload 8 (i_callS 3 1 M_X0_packed i_iret))))))) (i_aload 0 (i_callV 25 0 2 M_X0_pop (i_lstore 8 (i_iinc 10 1 (i_jmp 33 [true, true, false, true, true, true, true, false, true, false, true, false, false, false])))))))) (i_aload 0 (i_callV 25 0 2 M_X0_pop (i_lstore 6 (i_iinc 10 1 (i_jmp 33 [true, true, false, true, true, true, true, false, true, false, true, false, false, false])))))))) (i_aload 0 (i_callV 25 0 2 M_X0_pop (i_const (.long 0) (i_lcmp (i_if_ne (i_iinc 10 1 (i_jmp 33 [true, true, false, true, true, true, true, false, true, false, true, false, false, false])) (i_iload 10 (i_iload 3 (i_lload 12 (i_l2i (i_ibin (· + ·) (i_mI2 pb_max (i_istore 10 (i_iinc 5 1 (i_iinc 10 1 (i_jmp 33 [true, true, false, true, true, true, true, false, true, false, true, false, false, false]))))))))))))))))))))))))))))))))))))
noncomputable def T_X0_judgeAnew : Nat → pb_C := pb_tt [(0, B_X0_judgeAnew_0), (33, B_X0_judgeAnew_33)]
noncomputable def M_X0_judgeAnew : pb_F := pb_M T_X0_judgeAnew 14
set_option maxRecDepth 100000 in
set_option maxHeartbeats 4000000 in
theorem S_X0_judgeAnew (l : Launch) : pb_Sound l yX0_judgeAnew cX0_judgeAnew 14 (some .int) 3 M_X0_judgeAnew := by
  refine pb_sound_of (by decide) m_4_197 ?_
  intro Γ hl0 hRm0 hm X E hr J
  have hnL : ∀ j, j < 14 → j < Γ.2.2.2.2.2.2.2.2.2.2.2.1 := fun j h => by rw [hm]; exact h
  have hR : ∀ (d' mL : Nat), d' + 1 ≤ 3 ∧ 8 + (mL + 11) + d' * 64 ≤ 3 * 64 → (pb_rm d').frames + 1 ≤ Γ.2.2.2.1.frames ∧ 8 + (mL + 11) + (pb_rm d').locals ≤ Γ.2.2.2.1.locals := by rw [hRm0]; exact fun _ _ h => h
  have hRm : 1 ≤ 3 ∧ 64 ≤ 3 * 64 → 1 ≤ Γ.2.2.2.1.frames ∧ 64 ≤ Γ.2.2.2.1.locals := by rw [hRm0]; exact fun h => h
  exact pb_tt_snd _ (List.forall_mem_cons.mpr ⟨(s_iload_n (pc := 0) X dX0_judgeAnew_0 rfl (s_sipush (pc := 1) X dX0_judgeAnew_1 rfl (s_imul (pc := 4) X dX0_judgeAnew_4 (s_istore_n (pc := 5) X dX0_judgeAnew_5 rfl (hnL _ (by decide)) (s_iload_n (pc := 6) X dX0_judgeAnew_6 rfl (s_aload_n (pc := 7) X dX0_judgeAnew_7 rfl (s_getR (pc := 8) X dX0_judgeAnew_8 g_X0_15 (s_iload_n (pc := 11) X dX0_judgeAnew_11 rfl (s_iald (pc := 12) X dX0_judgeAnew_12 h_27 (s_iadd (pc := 13) X dX0_judgeAnew_13 (s_istore (pc := 14) X dX0_judgeAnew_14 (hnL _ (by decide)) (s_iconst (pc := 16) X dX0_judgeAnew_16 rfl (s_istore (pc := 17) X dX0_judgeAnew_17 (hnL _ (by decide)) (s_lconst (pc := 19) X dX0_judgeAnew_19 rfl (s_lstore (pc := 20) X dX0_judgeAnew_20 (hnL _ (by decide)) (s_lconst (pc := 22) X dX0_judgeAnew_22 rfl (s_lstore (pc := 23) X dX0_judgeAnew_23 (hnL _ (by decide)) (s_aload_n (pc := 25) X dX0_judgeAnew_25 rfl (s_iconst (pc := 26) X dX0_judgeAnew_26 rfl (s_putI (pc := 27) X dX0_judgeAnew_27 p_X0_76 (s_iload_n (pc := 30) X dX0_judgeAnew_30 rfl (s_istore (pc := 31) X dX0_judgeAnew_31 (hnL _ (by decide)) (s_jmp (pc := 33) J [true, true, false, true, true, true, true, false, true, false, true, false, false, false]))))))))))))))))))))))), List.forall_mem_cons.mpr ⟨(s_iload (pc := 33) X dX0_judgeAnew_33 (s_iload (pc := 35) X dX0_judgeAnew_35 (s_ic_ge (pc := 37) X dX0_judgeAnew_37 (by decide) (s_iconst (pc := 164) X dX0_judgeAnew_164 rfl (s_lconst (pc := 165) X dX0_judgeAnew_165 rfl (s_lconst (pc := 166) X dX0_judgeAnew_166 rfl (s_callS (pc := 167) X dX0_judgeAnew_167 (S_X0_packed _) q_X0_85 (hR _ _ (by decide)) (s_iret (pc := 170) X E hr dX0_judgeAnew_170))))) (s_aload_n (pc := 40) X dX0_judgeAnew_40 rfl (s_getR (pc := 41) X dX0_judgeAnew_41 g_X0_9 (s_iload (pc := 44) X dX0_judgeAnew_44 (s_lald (pc := 46) X dX0_judgeAnew_46 h_26 (s_ldc2 (pc := 47) X dX0_judgeAnew_47 m_4_198 (s_land (pc := 50) X dX0_judgeAnew_50 (s_l2i (pc := 51) X dX0_judgeAnew_51 (s_istore (pc := 52) X dX0_judgeAnew_52 (hnL _ (by decide)) (s_aload_n (pc := 54) X dX0_judgeAnew_54 rfl (s_getR (pc := 55) X dX0_judgeAnew_55 g_X0_9 (s_iload (pc := 58) X dX0_judgeAnew_58 (s_lald (pc := 60) X dX0_judgeAnew_60 h_26 (s_bipush (pc := 61) X dX0_judgeAnew_61 rfl (s_lshr (pc := 63) X dX0_judgeAnew_63 (s_lstore (pc := 64) X dX0_judgeAnew_64 (hnL _ (by decide)) (s_iload (pc := 66) X dX0_judgeAnew_66 (s_bipush (pc := 68) X dX0_judgeAnew_68 rfl (s_ic_ne (pc := 70) X dX0_judgeAnew_70 (by decide) (s_iload (pc := 100) X dX0_judgeAnew_100 (s_bipush (pc := 102) X dX0_judgeAnew_102 rfl (s_ic_ne (pc := 104) X dX0_judgeAnew_104 (by decide) (s_iload (pc := 116) X dX0_judgeAnew_116 (s_bipush (pc := 118) X dX0_judgeAnew_118 rfl (s_ic_ne (pc := 120) X dX0_judgeAnew_120 (by decide) (s_iload (pc := 132) X dX0_judgeAnew_132 (s_bipush (pc := 134) X dX0_judgeAnew_134 rfl (s_ic_ne (pc := 136) X dX0_judgeAnew_136 (by decide) (s_aload_n (pc := 149) X dX0_judgeAnew_149 rfl (s_iload (pc := 150) X dX0_judgeAnew_150 (s_lload (pc := 152) X dX0_judgeAnew_152 (s_iload_n (pc := 154) X dX0_judgeAnew_154 rfl (s_callV (pc := 155) X dX0_judgeAnew_155 (S_X0_take _) q_X0_89 h_25 rfl (hR _ _ (by decide)) (s_iinc (pc := 158) X dX0_judgeAnew_158 rfl (s_goto (pc := 161) X dX0_judgeAnew_161 (by decide) (s_jmp (pc := 33) J [true, true, false, true, true, true, true, false, true, false, true, false, false, false])))))))) (s_iload (pc := 139) X dX0_judgeAnew_139 (s_lload (pc := 141) X dX0_judgeAnew_141 (s_lload (pc := 143) X dX0_judgeAnew_143 (s_callS (pc := 145) X dX0_judgeAnew_145 (S_X0_packed _) q_X0_85 (hR _ _ (by decide)) (s_iret (pc := 148) X E hr dX0_judgeAnew_148)))))))) (s_aload_n (pc := 123) X dX0_judgeAnew_123 rfl (s_callV (pc := 124) X dX0_judgeAnew_124 (S_X0_pop _) q_X0_81 h_25 rfl (hR _ _ (by decide)) (s_lstore (pc := 127) X dX0_judgeAnew_127 (hnL _ (by decide)) (s_goto (pc := 129) X dX0_judgeAnew_129 (by decide) (s_iinc (pc := 158) X dX0_judgeAnew_158 rfl (s_goto (pc := 161) X dX0_judgeAnew_161 (by decide) (s_jmp (pc := 33) J [true, true, false, true, true, true, true, false, true, false, true, false, false, false])))))))))) (s_aload_n (pc := 107) X dX0_judgeAnew_107 rfl (s_callV (pc := 108) X dX0_judgeAnew_108 (S_X0_pop _) q_X0_81 h_25 rfl (hR _ _ (by decide)) (s_lstore (pc := 111) X dX0_judgeAnew_111 (hnL _ (by decide)) (s_goto (pc := 113) X dX0_judgeAnew_113 (by decide) (s_iinc (pc := 158) X dX0_judgeAnew_158 rfl (s_goto (pc := 161) X dX0_judgeAnew_161 (by decide) (s_jmp (pc := 33) J [true, true, false, true, true, true, true, false, true, false, true, false, false, false])))))))))) (s_aload_n (pc := 73) X dX0_judgeAnew_73 rfl (s_callV (pc := 74) X dX0_judgeAnew_74 (S_X0_pop _) q_X0_81 h_25 rfl (hR _ _ (by decide)) (s_lconst (pc := 77) X dX0_judgeAnew_77 rfl (s_lcmp (pc := 78) X dX0_judgeAnew_78 (s_if_ne (pc := 79) X dX0_judgeAnew_79 (by decide) (s_iinc (pc := 158) X dX0_judgeAnew_158 rfl (s_goto (pc := 161) X dX0_judgeAnew_161 (by decide) (s_jmp (pc := 33) J [true, true, false, true, true, true, true, false, true, false, true, false, false, false]))) (s_iload (pc := 82) X dX0_judgeAnew_82 (s_iload_n (pc := 84) X dX0_judgeAnew_84 rfl (s_lload (pc := 85) X dX0_judgeAnew_85 (s_l2i (pc := 87) X dX0_judgeAnew_87 (s_iadd (pc := 88) X dX0_judgeAnew_88 (s_mmax (pc := 89) X dX0_judgeAnew_89 m_4_203 mm_mmax (hRm (by decide)) (s_istore (pc := 92) X dX0_judgeAnew_92 (hnL _ (by decide)) (s_iinc (pc := 94) X dX0_judgeAnew_94 rfl (s_goto (pc := 97) X dX0_judgeAnew_97 (by decide) (s_iinc (pc := 158) X dX0_judgeAnew_158 rfl (s_goto (pc := 161) X dX0_judgeAnew_161 (by decide) (s_jmp (pc := 33) J [true, true, false, true, true, true, true, false, true, false, true, false, false, false])))))))))))))))))))))))))))))))))))))), fun _ h => absurd h List.not_mem_nil⟩⟩)
theorem dX0_judgeBy_0 : decode cX0_judgeBy 0 = .ok (.iload_n 1, 1) := by decide +kernel
theorem dX0_judgeBy_1 : decode cX0_judgeBy 1 = .ok (.iconst 0, 1) := by decide +kernel
theorem dX0_judgeBy_2 : decode cX0_judgeBy 2 = .ok (.aload_n 0, 1) := by decide +kernel
theorem dX0_judgeBy_3 : decode cX0_judgeBy 3 = .ok (.getfield 32, 3) := by decide +kernel
theorem dX0_judgeBy_6 : decode cX0_judgeBy 6 = .ok (.iconst 1, 1) := by decide +kernel
theorem dX0_judgeBy_7 : decode cX0_judgeBy 7 = .ok (.isub, 1) := by decide +kernel
theorem dX0_judgeBy_8 : decode cX0_judgeBy 8 = .ok (.invokestatic 42, 3) := by decide +kernel
theorem dX0_judgeBy_11 : decode cX0_judgeBy 11 = .ok (.ifCond .eq 5, 3) := by decide +kernel
theorem dX0_judgeBy_14 : decode cX0_judgeBy 14 = .ok (.iconst 0, 1) := by decide +kernel
theorem dX0_judgeBy_15 : decode cX0_judgeBy 15 = .ok (.ireturn, 1) := by decide +kernel
theorem dX0_judgeBy_16 : decode cX0_judgeBy 16 = .ok (.iconst 0, 1) := by decide +kernel
theorem dX0_judgeBy_17 : decode cX0_judgeBy 17 = .ok (.istore_n 2, 1) := by decide +kernel
theorem dX0_judgeBy_18 : decode cX0_judgeBy 18 = .ok (.iload_n 2, 1) := by decide +kernel
theorem dX0_judgeBy_19 : decode cX0_judgeBy 19 = .ok (.aload_n 0, 1) := by decide +kernel
theorem dX0_judgeBy_20 : decode cX0_judgeBy 20 = .ok (.getfield 28, 3) := by decide +kernel
theorem dX0_judgeBy_23 : decode cX0_judgeBy 23 = .ok (.getfield 46, 3) := by decide +kernel
theorem dX0_judgeBy_26 : decode cX0_judgeBy 26 = .ok (.if_icmp .ge 62, 3) := by decide +kernel
theorem dX0_judgeBy_29 : decode cX0_judgeBy 29 = .ok (.iload_n 1, 1) := by decide +kernel
theorem dX0_judgeBy_30 : decode cX0_judgeBy 30 = .ok (.sipush 200, 3) := by decide +kernel
theorem dX0_judgeBy_33 : decode cX0_judgeBy 33 = .ok (.imul, 1) := by decide +kernel
theorem dX0_judgeBy_34 : decode cX0_judgeBy 34 = .ok (.iload_n 2, 1) := by decide +kernel
theorem dX0_judgeBy_35 : decode cX0_judgeBy 35 = .ok (.iadd, 1) := by decide +kernel
theorem dX0_judgeBy_36 : decode cX0_judgeBy 36 = .ok (.istore_n 3, 1) := by decide +kernel
theorem dX0_judgeBy_37 : decode cX0_judgeBy 37 = .ok (.aload_n 0, 1) := by decide +kernel
theorem dX0_judgeBy_38 : decode cX0_judgeBy 38 = .ok (.getfield 19, 3) := by decide +kernel
theorem dX0_judgeBy_41 : decode cX0_judgeBy 41 = .ok (.iload_n 3, 1) := by decide +kernel
theorem dX0_judgeBy_42 : decode cX0_judgeBy 42 = .ok (.iaload, 1) := by decide +kernel
theorem dX0_judgeBy_43 : decode cX0_judgeBy 43 = .ok (.aload_n 0, 1) := by decide +kernel
theorem dX0_judgeBy_44 : decode cX0_judgeBy 44 = .ok (.getfield 28, 3) := by decide +kernel
theorem dX0_judgeBy_47 : decode cX0_judgeBy 47 = .ok (.getfield 51, 3) := by decide +kernel
theorem dX0_judgeBy_50 : decode cX0_judgeBy 50 = .ok (.iload_n 2, 1) := by decide +kernel
theorem dX0_judgeBy_51 : decode cX0_judgeBy 51 = .ok (.iaload, 1) := by decide +kernel
theorem dX0_judgeBy_52 : decode cX0_judgeBy 52 = .ok (.if_icmp .eq 30, 3) := by decide +kernel
theorem dX0_judgeBy_55 : decode cX0_judgeBy 55 = .ok (.aload_n 0, 1) := by decide +kernel
theorem dX0_judgeBy_56 : decode cX0_judgeBy 56 = .ok (.getfield 19, 3) := by decide +kernel
theorem dX0_judgeBy_59 : decode cX0_judgeBy 59 = .ok (.iload_n 3, 1) := by decide +kernel
theorem dX0_judgeBy_60 : decode cX0_judgeBy 60 = .ok (.aload_n 0, 1) := by decide +kernel
theorem dX0_judgeBy_61 : decode cX0_judgeBy 61 = .ok (.getfield 28, 3) := by decide +kernel
theorem dX0_judgeBy_64 : decode cX0_judgeBy 64 = .ok (.getfield 51, 3) := by decide +kernel
theorem dX0_judgeBy_67 : decode cX0_judgeBy 67 = .ok (.iload_n 2, 1) := by decide +kernel
theorem dX0_judgeBy_68 : decode cX0_judgeBy 68 = .ok (.iaload, 1) := by decide +kernel
theorem dX0_judgeBy_69 : decode cX0_judgeBy 69 = .ok (.iastore, 1) := by decide +kernel
theorem dX0_judgeBy_70 : decode cX0_judgeBy 70 = .ok (.aload_n 0, 1) := by decide +kernel
theorem dX0_judgeBy_71 : decode cX0_judgeBy 71 = .ok (.getfield 22, 3) := by decide +kernel
theorem dX0_judgeBy_74 : decode cX0_judgeBy 74 = .ok (.iload_n 3, 1) := by decide +kernel
theorem dX0_judgeBy_75 : decode cX0_judgeBy 75 = .ok (.aload_n 0, 1) := by decide +kernel
theorem dX0_judgeBy_76 : decode cX0_judgeBy 76 = .ok (.iload_n 2, 1) := by decide +kernel
theorem dX0_judgeBy_77 : decode cX0_judgeBy 77 = .ok (.iload_n 1, 1) := by decide +kernel
theorem dX0_judgeBy_78 : decode cX0_judgeBy 78 = .ok (.invokevirtual 54, 3) := by decide +kernel
theorem dX0_judgeBy_81 : decode cX0_judgeBy 81 = .ok (.iastore, 1) := by decide +kernel
theorem dX0_judgeBy_82 : decode cX0_judgeBy 82 = .ok (.iinc 2 1, 3) := by decide +kernel
theorem dX0_judgeBy_85 : decode cX0_judgeBy 85 = .ok (.goto (-67), 3) := by decide +kernel
theorem dX0_judgeBy_88 : decode cX0_judgeBy 88 = .ok (.iconst 1, 1) := by decide +kernel
theorem dX0_judgeBy_89 : decode cX0_judgeBy 89 = .ok (.ireturn, 1) := by decide +kernel
noncomputable def B_X0_judgeBy_0 : pb_C := (i_iload 1 (i_const (.int 0) (i_aload 0 (i_getI 25 1 (i_const (.int 1) (i_ibin (· - ·) (i_callS 3 1 M_X11_outside (i_if_eq (i_const (.int 0) (i_istore 2 (i_jmp 18 [true, true, true, false]))) (i_const (.int 0) i_zret)))))))))
noncomputable def B_X0_judgeBy_18 : pb_C := (i_iload 2 (i_aload 0 (i_getR 25 5 (i_getI 5 3 (i_ic_ge (i_const (.int 1) i_zret) (i_iload 1 (i_const (.int 200) (i_ibin (· * ·) (i_iload 2 (i_ibin (· + ·) (i_istore 3 (i_aload 0 (i_getR 25 28 (i_iload 3 (i_ald 28 1000 (i_aload 0 (i_getR 25 5 (i_getR 5 16 (i_iload 2 (i_ald 16 200 (i_ic_eq (i_iinc 2 1 (i_jmp 18 [true, true, true, false])) (i_aload 0 (i_getR 25 28 (i_iload 3 (i_aload 0 (i_getR 25 5 (i_getR 5 16 (i_iload 2 (i_ald 16 200 (i_ast 28 1000 (fun x => x) (i_aload 0 (i_getR 25 29 (i_iload 3 (i_aload 0 (i_iload 2 (i_iload 1 (i_callV 25 2 1 M_X0_judgeAnew (i_ast 29 1000 (fun x => x) (i_iinc 2 1 (i_jmp 18 [true, true, true, false]))))))))))))))))))))))))))))))))))))))))
noncomputable def T_X0_judgeBy : Nat → pb_C := pb_tt [(0, B_X0_judgeBy_0), (18, B_X0_judgeBy_18)]
noncomputable def M_X0_judgeBy : pb_F := pb_M T_X0_judgeBy 4
set_option maxRecDepth 100000 in
set_option maxHeartbeats 4000000 in
theorem S_X0_judgeBy (l : Launch) : pb_Sound l yX0_judgeBy cX0_judgeBy 4 (some .boolean) 4 M_X0_judgeBy := by
  refine pb_sound_of (by decide) m_4_192 ?_
  intro Γ hl0 hRm0 hm X E hr J
  have hnL : ∀ j, j < 4 → j < Γ.2.2.2.2.2.2.2.2.2.2.2.1 := fun j h => by rw [hm]; exact h
  have hR : ∀ (d' mL : Nat), d' + 1 ≤ 4 ∧ 8 + (mL + 11) + d' * 64 ≤ 4 * 64 → (pb_rm d').frames + 1 ≤ Γ.2.2.2.1.frames ∧ 8 + (mL + 11) + (pb_rm d').locals ≤ Γ.2.2.2.1.locals := by rw [hRm0]; exact fun _ _ h => h
  have hRm : 1 ≤ 4 ∧ 64 ≤ 4 * 64 → 1 ≤ Γ.2.2.2.1.frames ∧ 64 ≤ Γ.2.2.2.1.locals := by rw [hRm0]; exact fun h => h
  exact pb_tt_snd _ (List.forall_mem_cons.mpr ⟨(s_iload_n (pc := 0) X dX0_judgeBy_0 rfl (s_iconst (pc := 1) X dX0_judgeBy_1 rfl (s_aload_n (pc := 2) X dX0_judgeBy_2 rfl (s_getI (pc := 3) X dX0_judgeBy_3 g_X0_32 (s_iconst (pc := 6) X dX0_judgeBy_6 rfl (s_isub (pc := 7) X dX0_judgeBy_7 (s_callS (pc := 8) X dX0_judgeBy_8 (S_X11_outside _) q_X0_42 (hR _ _ (by decide)) (s_if_eq (pc := 11) X dX0_judgeBy_11 (by decide) (s_iconst (pc := 16) X dX0_judgeBy_16 rfl (s_istore_n (pc := 17) X dX0_judgeBy_17 rfl (hnL _ (by decide)) (s_jmp (pc := 18) J [true, true, true, false]))) (s_iconst (pc := 14) X dX0_judgeBy_14 rfl (s_zret (pc := 15) X E hr dX0_judgeBy_15)))))))))), List.forall_mem_cons.mpr ⟨(s_iload_n (pc := 18) X dX0_judgeBy_18 rfl (s_aload_n (pc := 19) X dX0_judgeBy_19 rfl (s_getR (pc := 20) X dX0_judgeBy_20 g_X0_28 (s_getI (pc := 23) X dX0_judgeBy_23 g_X0_46 (s_ic_ge (pc := 26) X dX0_judgeBy_26 (by decide) (s_iconst (pc := 88) X dX0_judgeBy_88 rfl (s_zret (pc := 89) X E hr dX0_judgeBy_89)) (s_iload_n (pc := 29) X dX0_judgeBy_29 rfl (s_sipush (pc := 30) X dX0_judgeBy_30 rfl (s_imul (pc := 33) X dX0_judgeBy_33 (s_iload_n (pc := 34) X dX0_judgeBy_34 rfl (s_iadd (pc := 35) X dX0_judgeBy_35 (s_istore_n (pc := 36) X dX0_judgeBy_36 rfl (hnL _ (by decide)) (s_aload_n (pc := 37) X dX0_judgeBy_37 rfl (s_getR (pc := 38) X dX0_judgeBy_38 g_X0_19 (s_iload_n (pc := 41) X dX0_judgeBy_41 rfl (s_iald (pc := 42) X dX0_judgeBy_42 h_28 (s_aload_n (pc := 43) X dX0_judgeBy_43 rfl (s_getR (pc := 44) X dX0_judgeBy_44 g_X0_28 (s_getR (pc := 47) X dX0_judgeBy_47 g_X0_51 (s_iload_n (pc := 50) X dX0_judgeBy_50 rfl (s_iald (pc := 51) X dX0_judgeBy_51 h_16 (s_ic_eq (pc := 52) X dX0_judgeBy_52 (by decide) (s_iinc (pc := 82) X dX0_judgeBy_82 rfl (s_goto (pc := 85) X dX0_judgeBy_85 (by decide) (s_jmp (pc := 18) J [true, true, true, false]))) (s_aload_n (pc := 55) X dX0_judgeBy_55 rfl (s_getR (pc := 56) X dX0_judgeBy_56 g_X0_19 (s_iload_n (pc := 59) X dX0_judgeBy_59 rfl (s_aload_n (pc := 60) X dX0_judgeBy_60 rfl (s_getR (pc := 61) X dX0_judgeBy_61 g_X0_28 (s_getR (pc := 64) X dX0_judgeBy_64 g_X0_51 (s_iload_n (pc := 67) X dX0_judgeBy_67 rfl (s_iald (pc := 68) X dX0_judgeBy_68 h_16 (s_iast (pc := 69) X dX0_judgeBy_69 h_28 (s_aload_n (pc := 70) X dX0_judgeBy_70 rfl (s_getR (pc := 71) X dX0_judgeBy_71 g_X0_22 (s_iload_n (pc := 74) X dX0_judgeBy_74 rfl (s_aload_n (pc := 75) X dX0_judgeBy_75 rfl (s_iload_n (pc := 76) X dX0_judgeBy_76 rfl (s_iload_n (pc := 77) X dX0_judgeBy_77 rfl (s_callV (pc := 78) X dX0_judgeBy_78 (S_X0_judgeAnew _) q_X0_54 h_25 rfl (hR _ _ (by decide)) (s_iast (pc := 81) X dX0_judgeBy_81 h_29 (s_iinc (pc := 82) X dX0_judgeBy_82 rfl (s_goto (pc := 85) X dX0_judgeBy_85 (by decide) (s_jmp (pc := 18) J [true, true, true, false]))))))))))))))))))))))))))))))))))))))))), fun _ h => absurd h List.not_mem_nil⟩⟩)
theorem dX0_ruleOf_0 : decode cX0_ruleOf 0 = .ok (.aload_n 0, 1) := by decide +kernel
theorem dX0_ruleOf_1 : decode cX0_ruleOf 1 = .ok (.getfield 22, 3) := by decide +kernel
theorem dX0_ruleOf_4 : decode cX0_ruleOf 4 = .ok (.iload_n 2, 1) := by decide +kernel
theorem dX0_ruleOf_5 : decode cX0_ruleOf 5 = .ok (.sipush 200, 3) := by decide +kernel
theorem dX0_ruleOf_8 : decode cX0_ruleOf 8 = .ok (.imul, 1) := by decide +kernel
theorem dX0_ruleOf_9 : decode cX0_ruleOf 9 = .ok (.iload_n 1, 1) := by decide +kernel
theorem dX0_ruleOf_10 : decode cX0_ruleOf 10 = .ok (.iadd, 1) := by decide +kernel
theorem dX0_ruleOf_11 : decode cX0_ruleOf 11 = .ok (.iaload, 1) := by decide +kernel
theorem dX0_ruleOf_12 : decode cX0_ruleOf 12 = .ok (.bipush 14, 2) := by decide +kernel
theorem dX0_ruleOf_14 : decode cX0_ruleOf 14 = .ok (.ishr, 1) := by decide +kernel
theorem dX0_ruleOf_15 : decode cX0_ruleOf 15 = .ok (.iconst 1, 1) := by decide +kernel
theorem dX0_ruleOf_16 : decode cX0_ruleOf 16 = .ok (.isub, 1) := by decide +kernel
theorem dX0_ruleOf_17 : decode cX0_ruleOf 17 = .ok (.ireturn, 1) := by decide +kernel
noncomputable def B_X0_ruleOf_0 : pb_C := (i_aload 0 (i_getR 25 29 (i_iload 2 (i_const (.int 200) (i_ibin (· * ·) (i_iload 1 (i_ibin (· + ·) (i_ald 29 1000 (i_const (.int 14) (i_ibin (fun x y => x >>> (y &&& 31)) (i_const (.int 1) (i_ibin (· - ·) i_iret))))))))))))
noncomputable def T_X0_ruleOf : Nat → pb_C := pb_tt [(0, B_X0_ruleOf_0)]
noncomputable def M_X0_ruleOf : pb_F := pb_M T_X0_ruleOf 3
set_option maxRecDepth 100000 in
set_option maxHeartbeats 4000000 in
theorem S_X0_ruleOf (l : Launch) : pb_Sound l yX0_ruleOf cX0_ruleOf 3 (some .int) 1 M_X0_ruleOf := by
  refine pb_sound_of (by decide) m_4_234 ?_
  intro Γ hl0 hRm0 hm X E hr J
  have hnL : ∀ j, j < 3 → j < Γ.2.2.2.2.2.2.2.2.2.2.2.1 := fun j h => by rw [hm]; exact h
  have hR : ∀ (d' mL : Nat), d' + 1 ≤ 1 ∧ 8 + (mL + 11) + d' * 64 ≤ 1 * 64 → (pb_rm d').frames + 1 ≤ Γ.2.2.2.1.frames ∧ 8 + (mL + 11) + (pb_rm d').locals ≤ Γ.2.2.2.1.locals := by rw [hRm0]; exact fun _ _ h => h
  have hRm : 1 ≤ 1 ∧ 64 ≤ 1 * 64 → 1 ≤ Γ.2.2.2.1.frames ∧ 64 ≤ Γ.2.2.2.1.locals := by rw [hRm0]; exact fun h => h
  exact pb_tt_snd _ (List.forall_mem_cons.mpr ⟨(s_aload_n (pc := 0) X dX0_ruleOf_0 rfl (s_getR (pc := 1) X dX0_ruleOf_1 g_X0_22 (s_iload_n (pc := 4) X dX0_ruleOf_4 rfl (s_sipush (pc := 5) X dX0_ruleOf_5 rfl (s_imul (pc := 8) X dX0_ruleOf_8 (s_iload_n (pc := 9) X dX0_ruleOf_9 rfl (s_iadd (pc := 10) X dX0_ruleOf_10 (s_iald (pc := 11) X dX0_ruleOf_11 h_29 (s_bipush (pc := 12) X dX0_ruleOf_12 rfl (s_ishr (pc := 14) X dX0_ruleOf_14 (s_iconst (pc := 15) X dX0_ruleOf_15 rfl (s_isub (pc := 16) X dX0_ruleOf_16 (s_iret (pc := 17) X E hr dX0_ruleOf_17))))))))))))), fun _ h => absurd h List.not_mem_nil⟩)
theorem dX0_kindOf_0 : decode cX0_kindOf 0 = .ok (.aload_n 0, 1) := by decide +kernel
theorem dX0_kindOf_1 : decode cX0_kindOf 1 = .ok (.getfield 22, 3) := by decide +kernel
theorem dX0_kindOf_4 : decode cX0_kindOf 4 = .ok (.iload_n 2, 1) := by decide +kernel
theorem dX0_kindOf_5 : decode cX0_kindOf 5 = .ok (.sipush 200, 3) := by decide +kernel
theorem dX0_kindOf_8 : decode cX0_kindOf 8 = .ok (.imul, 1) := by decide +kernel
theorem dX0_kindOf_9 : decode cX0_kindOf 9 = .ok (.iload_n 1, 1) := by decide +kernel
theorem dX0_kindOf_10 : decode cX0_kindOf 10 = .ok (.iadd, 1) := by decide +kernel
theorem dX0_kindOf_11 : decode cX0_kindOf 11 = .ok (.iaload, 1) := by decide +kernel
theorem dX0_kindOf_12 : decode cX0_kindOf 12 = .ok (.bipush 15, 2) := by decide +kernel
theorem dX0_kindOf_14 : decode cX0_kindOf 14 = .ok (.iand, 1) := by decide +kernel
theorem dX0_kindOf_15 : decode cX0_kindOf 15 = .ok (.ireturn, 1) := by decide +kernel
noncomputable def B_X0_kindOf_0 : pb_C := (i_aload 0 (i_getR 25 29 (i_iload 2 (i_const (.int 200) (i_ibin (· * ·) (i_iload 1 (i_ibin (· + ·) (i_ald 29 1000 (i_const (.int 15) (i_ibin (· &&& ·) i_iret))))))))))
noncomputable def T_X0_kindOf : Nat → pb_C := pb_tt [(0, B_X0_kindOf_0)]
noncomputable def M_X0_kindOf : pb_F := pb_M T_X0_kindOf 3
set_option maxRecDepth 100000 in
set_option maxHeartbeats 4000000 in
theorem S_X0_kindOf (l : Launch) : pb_Sound l yX0_kindOf cX0_kindOf 3 (some .int) 1 M_X0_kindOf := by
  refine pb_sound_of (by decide) m_4_238 ?_
  intro Γ hl0 hRm0 hm X E hr J
  have hnL : ∀ j, j < 3 → j < Γ.2.2.2.2.2.2.2.2.2.2.2.1 := fun j h => by rw [hm]; exact h
  have hR : ∀ (d' mL : Nat), d' + 1 ≤ 1 ∧ 8 + (mL + 11) + d' * 64 ≤ 1 * 64 → (pb_rm d').frames + 1 ≤ Γ.2.2.2.1.frames ∧ 8 + (mL + 11) + (pb_rm d').locals ≤ Γ.2.2.2.1.locals := by rw [hRm0]; exact fun _ _ h => h
  have hRm : 1 ≤ 1 ∧ 64 ≤ 1 * 64 → 1 ≤ Γ.2.2.2.1.frames ∧ 64 ≤ Γ.2.2.2.1.locals := by rw [hRm0]; exact fun h => h
  exact pb_tt_snd _ (List.forall_mem_cons.mpr ⟨(s_aload_n (pc := 0) X dX0_kindOf_0 rfl (s_getR (pc := 1) X dX0_kindOf_1 g_X0_22 (s_iload_n (pc := 4) X dX0_kindOf_4 rfl (s_sipush (pc := 5) X dX0_kindOf_5 rfl (s_imul (pc := 8) X dX0_kindOf_8 (s_iload_n (pc := 9) X dX0_kindOf_9 rfl (s_iadd (pc := 10) X dX0_kindOf_10 (s_iald (pc := 11) X dX0_kindOf_11 h_29 (s_bipush (pc := 12) X dX0_kindOf_12 rfl (s_iand (pc := 14) X dX0_kindOf_14 (s_iret (pc := 15) X E hr dX0_kindOf_15))))))))))), fun _ h => absurd h List.not_mem_nil⟩)
